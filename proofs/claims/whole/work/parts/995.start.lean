/-! THE START, II: what the Statement gives of the start is what the interpreter's soundness asks. -/
section QST
theorem st_known {s : State} {b : Nat} (hts : ∀ w ∈ lw_tbl, w.before #[Value.ref b] s = true) : ∀ q ∈ vwCl, ∃ (cC : ClassId) (iS : Nat → Nat), u_Kn s q.1 q.2.1 q.2.2 cC iS := by
  have hw : ∀ w ∈ lw_tbl, w.before #[Value.ref b] s = true := hts
  exact List.forall_mem_cons.mpr ⟨u_known (C := RJx4a65c) (T := TJx4a65c) (N := 3) (n := 3) hts inJx4a65c (hw _ st_n0), List.forall_mem_cons.mpr ⟨u_known (C := RX0) (T := TX0) (N := 11) (n := 11) hts inX0 (hw _ st_n1), List.forall_mem_cons.mpr ⟨u_known (C := RX1) (T := TX1) (N := 11) (n := 11) hts inX1 (hw _ st_n2), List.forall_mem_cons.mpr ⟨u_known (C := RX2) (T := TX2) (N := 5) (n := 5) hts inX2 (hw _ st_n3), List.forall_mem_cons.mpr ⟨u_known (C := RX3) (T := TX3) (N := 5) (n := 5) hts inX3 (hw _ st_n4), List.forall_mem_cons.mpr ⟨u_known (C := RX4) (T := TX4) (N := 12) (n := 12) hts inX4 (hw _ st_n5), List.forall_mem_cons.mpr ⟨u_known (C := RX5) (T := TX5) (N := 3) (n := 3) hts inX5 (hw _ st_n6), List.forall_mem_cons.mpr ⟨u_known (C := RX6) (T := TX6) (N := 20) (n := 20) hts inX6 (hw _ st_n7), List.forall_mem_cons.mpr ⟨u_known (C := RX7) (T := TX7) (N := 9) (n := 9) hts inX7 (hw _ st_n8), List.forall_mem_cons.mpr ⟨u_known (C := RX8) (T := TX8) (N := 14) (n := 14) hts inX8 (hw _ st_n9), List.forall_mem_cons.mpr ⟨u_known (C := RX9) (T := TX9) (N := 6) (n := 6) hts inX9 (hw _ st_n10), List.forall_mem_cons.mpr ⟨u_known (C := RX10) (T := TX10) (N := 3) (n := 3) hts inX10 (hw _ st_n11), List.forall_mem_cons.mpr ⟨u_known (C := RX11) (T := TX11) (N := 18) (n := 18) hts inX11 (hw _ st_n12), List.forall_mem_cons.mpr ⟨u_known (C := RX12) (T := TX12) (N := 130) (n := 130) hts inX12 (hw _ st_n13), fun q hq => (List.not_mem_nil hq).elim⟩⟩⟩⟩⟩⟩⟩⟩⟩⟩⟩⟩⟩⟩
theorem st_D {s : State} {b : Nat} (hts : ∀ w ∈ lw_tbl, w.before #[Value.ref b] s = true) : ∃ D : va_G, ∀ (n : Nat) (q : vw_C), vwCl[n]? = some q → u_Kn s q.1 q.2.1 q.2.2 (D.1 n) (D.2 n) := by
  have h : ∀ n : Nat, ∃ y : ClassId × (Nat → Nat), ∀ q : vw_C, vwCl[n]? = some q → u_Kn s q.1 q.2.1 q.2.2 y.1 y.2 := by
    intro n
    cases hn : vwCl[n]? with
    | none => exact ⟨(0, fun _ => 0), fun q hq => by cases hq⟩
    | some q =>
      obtain ⟨cC, iS, hk⟩ := st_known hts q (List.mem_of_getElem? hn)
      exact ⟨(cC, iS), fun q' hq => by cases hq; exact hk⟩
  obtain ⟨f, hf⟩ := Classical.axiomOfChoice h
  exact ⟨(fun n => (f n).1, fun n => (f n).2), fun n q hq => hf n q hq⟩
set_option maxHeartbeats 1000000 in
theorem st_V {s : State} {b L : Nat} {xs : Nat → Int32} (hts : ∀ w ∈ lw_tbl, w.before #[Value.ref b] s = true) (hX : va_X b L xs s s.heap) (hb : b < s.heap.size) (hgv : (Jvm.Cond.and given_1 narrow_1).before #[Value.ref b] s = true) :
    ∃ P : (Nat → Nat) × Nat, P.2 = s.heap.size ∧ P.1 0 = b ∧ q_V P ((List.range L).map xs) qTX s s.heap := by
  have hs := flat_of_before _ hgv
  have hA : ∀ a : Nat, a < s.heap.size → ¬ (fun q => s.heap.size ≤ q) a := fun a ha => Nat.not_le.mpr ha
  obtain ⟨t1, e1, hT1⟩ := va_Tof (ty := q_zt 1) (N := 0) (f := q_zf 1) (A := fun q => s.heap.size ≤ q) (by decide) (hs _ st_a2) (va_eqt (hs _ st_a5)) (fun j hj => absurd hj (Nat.not_lt_zero j)) hA
  obtain ⟨t2, e2, hT2⟩ := va_Tof (ty := q_zt 2) (N := 24) (f := q_zf 2) (A := fun q => s.heap.size ≤ q) (by decide) (hs _ st_a3) (va_eqt (hs _ st_a6)) (fun j hj => va_eqt (hs _ (st_m4 j hj))) hA
  obtain ⟨t3, e3, hT3⟩ := va_Tof (ty := q_zt 3) (N := 24) (f := q_zf 3) (A := fun q => s.heap.size ≤ q) (by decide) (hs _ st_a4) (va_eqt (hs _ st_a7)) (fun j hj => va_eqt (hs _ (st_m5 j hj))) hA
  have z1 : t1 < s.heap.size := by
    obtain ⟨cell, h1, -⟩ := hT1
    exact (Array.getElem?_eq_some_iff.mp h1).1
  obtain ⟨tm, hTm⟩ := va_Mi.of (hs _ st_mi)
  have three : ∀ a, 1 ≤ a → a < 4 → a = 1 ∨ a = 2 ∨ a = 3 := fun a h1 h2 => by omega
  refine ⟨(fun r => match r with
    | 0 => b
    | 1 => t1
    | 2 => t2
    | 3 => t3
    | _ => tm, s.heap.size), rfl, rfl, ⟨hb, z1, Nat.le_refl _⟩, ?_, ⟨?_, ?_⟩, ?_, ?_, ?_, ⟨?_, ?_⟩, ?_, ?_, ?_, hTm, va_Dc.of (hts _ st_dc), va_Nw.of rfl (hts _ st_cl), ?_⟩
  · obtain ⟨scr, h1, h2, h3, h4, h5⟩ := hX
    refine ⟨scr, h1, h2, h3, by rw [h4]; simp, fun j hj => ?_⟩
    have hj2 : j < L := by simpa using hj
    rw [h5 j hj2]
    simp [hj2]
  · exact vx_Zqof (hts _ st_z4) (hts _ st_i4) (hs _ st_a0) hA
  · exact vx_Zqof (hts _ st_z5) (hts _ st_i4) (hs _ st_a1) hA
  · intro a h1 h2
    rcases three a h1 h2 with rfl | rfl | rfl
    · exact va_Zref (hts _ st_z1) (hts _ st_i1) e1 hA
    · exact va_Zref (hts _ st_z2) (hts _ st_i2) e2 hA
    · exact va_Zref (hts _ st_z3) (hts _ st_i3) e3 hA
  · intro a h1 h2
    rcases three a h1 h2 with rfl | rfl | rfl
    · exact hT1
    · exact hT2
    · exact hT3
  · intro q hq
    obtain ⟨sa, -, -, -, g1, -⟩ := Cond.exactly_spec (hs _ (st_m1 q hq))
    exact ⟨sa, vk_R.of (hts _ (st_s q hq)) g1⟩
  · intro e he
    have : e = 0 ∨ e = 1 ∨ e = 2 := by omega
    rcases this with rfl | rfl | rfl
    · exact va_Nw.of rfl (hts _ st_k0)
    · exact va_Nw.of rfl (hts _ st_k1)
    · exact va_Nw.of rfl (hts _ st_k2)
  · intro Y hY
    unfold q_dcs at hY
    rcases List.mem_cons.mp hY with rfl | hY
    · exact va_Nw.of rfl (hts _ st_d0)
    rcases List.mem_cons.mp hY with rfl | hY
    · exact va_Nw.of rfl (hts _ st_d1)
    rcases List.mem_cons.mp hY with rfl | hY
    · exact va_Nw.of rfl (hts _ st_d2)
    cases hY
  · intro e f he hf hne
    have h1 : e = 0 ∨ e = 1 ∨ e = 2 := by omega
    have h2 : f = 0 ∨ f = 1 ∨ f = 2 := by omega
    rcases h1 with rfl | rfl | rfl <;> rcases h2 with rfl | rfl | rfl
    · exact absurd rfl hne
    · exact va_Nc.of (hs _ st_c01)
    · exact va_Nc.of (hs _ st_c02)
    · exact va_Nc.of (hs _ st_c10)
    · exact absurd rfl hne
    · exact va_Nc.of (hs _ st_c12)
    · exact va_Nc.of (hs _ st_c20)
    · exact va_Nc.of (hs _ st_c21)
    · exact absurd rfl hne
  · intro kd h1 h2
    have h3 : kd = 103 ∨ kd = 104 ∨ kd = 105 ∨ kd = 106 ∨ kd = 107 ∨ kd = 108 := by omega
    rcases h3 with rfl | rfl | rfl | rfl | rfl | rfl
    · exact hts _ st_o103
    · exact hts _ st_o104
    · exact hts _ st_o105
    · exact hts _ st_o106
    · exact hts _ st_o107
    · exact hts _ st_o108
  · intro q hq
    exact va_Nw.of rfl (hts _ (st_l q hq))
  · intro k row hk hr
    have h3 : k = 1 ∨ k = 6 ∨ k = 7 ∨ k = 8 ∨ k = 10 := by
      simp only [q_obk, Bool.or_eq_true, beq_iff_eq] at hk
      omega
    rcases h3 with rfl | rfl | rfl | rfl | rfl <;> cases hr
    · exact va_Nw.of rfl (hts _ st_ob1)
    · exact va_Nw.of rfl (hts _ st_ob6)
    · exact va_Nw.of rfl (hts _ st_ob7)
    · exact va_Nw.of rfl (hts _ st_ob8)
    · exact va_Nw.of rfl (hts _ st_ob10)
end QST
