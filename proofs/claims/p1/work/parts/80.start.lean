/-! THE START, II: what the Statement gives of the start is what the interpreter's soundness asks. -/
section QST
theorem st_known {s : State} {b : Nat} (hts : ∀ w ∈ lw_tbl, w.before #[Value.ref b] s = true) : ∀ q ∈ vwCl, ∃ (cC : ClassId) (iS : Nat → Nat), u_Kn s q.1 q.2.1 q.2.2 cC iS := by
  have hw : ∀ w ∈ lw_tbl, w.before #[Value.ref b] s = true := hts
  exact List.forall_mem_cons.mpr ⟨u_known (C := RJx4a65c) (T := TJx4a65c) (N := 3) (n := 3) hts inJx4a65c (hw _ (st_t5 _ (List.mem_of_getElem? (i := 0) rfl))), List.forall_mem_cons.mpr ⟨u_known (C := RX0) (T := TX0) (N := 11) (n := 11) hts inX0 (hw _ (st_t5 _ (List.mem_of_getElem? (i := 1) rfl))), List.forall_mem_cons.mpr ⟨u_known (C := RX1) (T := TX1) (N := 11) (n := 11) hts inX1 (hw _ (st_t5 _ (List.mem_of_getElem? (i := 2) rfl))), List.forall_mem_cons.mpr ⟨u_known (C := RX2) (T := TX2) (N := 5) (n := 5) hts inX2 (hw _ (st_t5 _ (List.mem_of_getElem? (i := 3) rfl))), List.forall_mem_cons.mpr ⟨u_known (C := RX3) (T := TX3) (N := 5) (n := 5) hts inX3 (hw _ (st_t5 _ (List.mem_of_getElem? (i := 4) rfl))), List.forall_mem_cons.mpr ⟨u_known (C := RX4) (T := TX4) (N := 12) (n := 12) hts inX4 (hw _ (st_t5 _ (List.mem_of_getElem? (i := 5) rfl))), List.forall_mem_cons.mpr ⟨u_known (C := RX5) (T := TX5) (N := 3) (n := 3) hts inX5 (hw _ (st_t5 _ (List.mem_of_getElem? (i := 6) rfl))), List.forall_mem_cons.mpr ⟨u_known (C := RX6) (T := TX6) (N := 20) (n := 20) hts inX6 (hw _ (st_t5 _ (List.mem_of_getElem? (i := 7) rfl))), List.forall_mem_cons.mpr ⟨u_known (C := RX7) (T := TX7) (N := 9) (n := 9) hts inX7 (hw _ (st_t5 _ (List.mem_of_getElem? (i := 8) rfl))), List.forall_mem_cons.mpr ⟨u_known (C := RX8) (T := TX8) (N := 14) (n := 14) hts inX8 (hw _ (st_t5 _ (List.mem_of_getElem? (i := 9) rfl))), List.forall_mem_cons.mpr ⟨u_known (C := RX9) (T := TX9) (N := 6) (n := 6) hts inX9 (hw _ (st_t5 _ (List.mem_of_getElem? (i := 10) rfl))), List.forall_mem_cons.mpr ⟨u_known (C := RX10) (T := TX10) (N := 3) (n := 3) hts inX10 (hw _ (st_t5 _ (List.mem_of_getElem? (i := 11) rfl))), List.forall_mem_cons.mpr ⟨u_known (C := RX11) (T := TX11) (N := 18) (n := 18) hts inX11 (hw _ (st_t5 _ (List.mem_of_getElem? (i := 12) rfl))), List.forall_mem_cons.mpr ⟨u_known (C := RX12) (T := TX12) (N := 130) (n := 130) hts inX12 (hw _ (st_t5 _ (List.mem_of_getElem? (i := 13) rfl))), fun q hq => (List.not_mem_nil hq).elim⟩⟩⟩⟩⟩⟩⟩⟩⟩⟩⟩⟩⟩⟩
theorem st_D {s : State} {b : Nat} (hts : ∀ w ∈ lw_tbl, w.before #[Value.ref b] s = true) : ∃ D : va_G, ∀ (n : Nat) (q : vw_C), vwCl[n]? = some q → u_Kn s q.1 q.2.1 q.2.2 (D.1 n) (D.2 n) := by
  have h : ∀ n : Nat, ∃ y : ClassId × (Nat → Nat), ∀ q : vw_C, vwCl[n]? = some q → u_Kn s q.1 q.2.1 q.2.2 y.1 y.2 := by
    intro n
    cases hn : vwCl[n]? with
    | none => exact ⟨(0, fun _ => 0), fun q hq => by cases hq⟩
    | some q =>
      obtain ⟨cC, iS, hk⟩ := st_known hts q (List.mem_of_getElem? hn)
      exact ⟨(cC, iS), fun q' hq => by cases hq; exact hk⟩
  obtain ⟨f, hf⟩ := Classical.axiomOfChoice h
  exact ⟨(fun n => (f n).1, fun n => (f n).2), fun n q hq => hf n q hq⟩
set_option maxHeartbeats 1000000 in
theorem st_V {s : State} {b L : Nat} {xs : Nat → Int32} (hts : ∀ w ∈ lw_tbl, w.before #[Value.ref b] s = true) (hX : va_X b L xs s s.heap) (hb : b < s.heap.size) (hgv : (Jvm.Cond.and given_1 narrow_1).before #[Value.ref b] s = true) :
    ∃ P : (Nat → Nat) × Nat, P.2 = s.heap.size ∧ P.1 0 = b ∧ q_V P ((List.range L).map xs) qTX s s.heap := by
  have hs := flat_of_before _ hgv
  have hf1 : ∀ w ∈ st_f1, w.before #[Value.ref b] s = true := fun w h => hs w (st_n1 w h)
  have hf2 : ∀ w ∈ st_f2, w.before #[Value.ref b] s = true := fun w h => hs w (st_n2 w h)
  have hf3 : ∀ w ∈ st_f3, w.before #[Value.ref b] s = true := fun w h => hs w (st_n3 w h)
  have hf4 : ∀ w ∈ st_f4, w.before #[Value.ref b] s = true := fun w h => hs w (st_n4 w h)
  have hf5 : ∀ w ∈ st_f5, w.before #[Value.ref b] s = true := fun w h => hs w (st_n5 w h)
  have hw1 : ∀ w ∈ st_w1, w.before #[Value.ref b] s = true := fun w h => hts w (st_t1 w h)
  have hw2 : ∀ w ∈ st_w2, w.before #[Value.ref b] s = true := fun w h => hts w (st_t2 w h)
  have hw3 : ∀ w ∈ st_w3, w.before #[Value.ref b] s = true := fun w h => hts w (st_t3 w h)
  have hw4 : ∀ w ∈ st_w4, w.before #[Value.ref b] s = true := fun w h => hts w (st_t4 w h)
  have hA : ∀ a : Nat, a < s.heap.size → ¬ (fun q => s.heap.size ≤ q) a := fun a ha => Nat.not_le.mpr ha
  obtain ⟨t1, e1, hT1⟩ := va_Tof (ty := q_zt 1) (N := 0) (f := q_zf 1) (A := fun q => s.heap.size ≤ q) (by decide) (hf3 _ (List.mem_of_getElem? (i := 2) rfl)) (va_eqt (hf3 _ (List.mem_of_getElem? (i := 5) rfl))) (fun j hj => absurd hj (Nat.not_lt_zero j)) hA
  obtain ⟨t2, e2, hT2⟩ := va_Tof (ty := q_zt 2) (N := 24) (f := q_zf 2) (A := fun q => s.heap.size ≤ q) (by decide) (hf3 _ (List.mem_of_getElem? (i := 3) rfl)) (va_eqt (hf3 _ (List.mem_of_getElem? (i := 6) rfl))) (fun j hj => va_eqt (hf4 _ (List.mem_map.mpr ⟨j, List.mem_range.mpr hj, rfl⟩))) hA
  obtain ⟨t3, e3, hT3⟩ := va_Tof (ty := q_zt 3) (N := 24) (f := q_zf 3) (A := fun q => s.heap.size ≤ q) (by decide) (hf3 _ (List.mem_of_getElem? (i := 4) rfl)) (va_eqt (hf3 _ (List.mem_of_getElem? (i := 7) rfl))) (fun j hj => va_eqt (hf5 _ (List.mem_map.mpr ⟨j, List.mem_range.mpr hj, rfl⟩))) hA
  have z1 : t1 < s.heap.size := by
    obtain ⟨cell, h1, -⟩ := hT1
    exact (Array.getElem?_eq_some_iff.mp h1).1
  have three : ∀ a, 1 ≤ a → a < 4 → a = 1 ∨ a = 2 ∨ a = 3 := fun a h1 h2 => by omega
  refine ⟨(fun r => match r with
    | 0 => b
    | 1 => t1
    | 2 => t2
    | _ => t3, s.heap.size), rfl, rfl, ⟨hb, z1, Nat.le_refl _⟩, ?_, ⟨?_, ?_⟩, ?_, ?_, ?_, ⟨?_, ?_⟩, ?_, ?_, ?_⟩
  · obtain ⟨scr, h1, h2, h3, h4, h5⟩ := hX
    refine ⟨scr, h1, h2, h3, by rw [h4]; simp, fun j hj => ?_⟩
    have hj2 : j < L := by simpa using hj
    rw [h5 j hj2]
    simp [hj2]
  · exact vx_Zqof (hw4 _ (List.mem_of_getElem? (i := 3) rfl)) (hw4 _ (List.mem_of_getElem? (i := 7) rfl)) (hf3 _ (List.mem_of_getElem? (i := 0) rfl)) hA
  · exact vx_Zqof (hw4 _ (List.mem_of_getElem? (i := 4) rfl)) (hw4 _ (List.mem_of_getElem? (i := 7) rfl)) (hf3 _ (List.mem_of_getElem? (i := 1) rfl)) hA
  · intro a h1 h2
    rcases three a h1 h2 with rfl | rfl | rfl
    · exact va_Zref (hw4 _ (List.mem_of_getElem? (i := 0) rfl)) (hw4 _ (List.mem_of_getElem? (i := 5) rfl)) e1 hA
    · exact va_Zref (hw4 _ (List.mem_of_getElem? (i := 1) rfl)) (hw4 _ (List.mem_of_getElem? (i := 6) rfl)) e2 hA
    · exact va_Zref (hw4 _ (List.mem_of_getElem? (i := 2) rfl)) (hw4 _ (List.mem_of_getElem? (i := 6) rfl)) e3 hA
  · intro a h1 h2
    rcases three a h1 h2 with rfl | rfl | rfl
    · exact hT1
    · exact hT2
    · exact hT3
  · intro q hq
    obtain ⟨sa, -, -, -, g1, -⟩ := Cond.exactly_spec (hf1 _ (List.mem_map.mpr ⟨q, hq, rfl⟩))
    exact ⟨sa, vk_R.of (hw1 _ (List.mem_map.mpr ⟨q, hq, rfl⟩)) g1⟩
  · intro e he
    have : e = 0 ∨ e = 1 ∨ e = 2 := by omega
    rcases this with rfl | rfl | rfl
    · exact va_Nw.of rfl (hw2 _ (List.mem_of_getElem? (i := 0) rfl))
    · exact va_Nw.of rfl (hw2 _ (List.mem_of_getElem? (i := 1) rfl))
    · exact va_Nw.of rfl (hw2 _ (List.mem_of_getElem? (i := 2) rfl))
  · intro Y hY
    unfold q_dcs at hY
    rcases List.mem_cons.mp hY with rfl | hY
    · exact va_Nw.of rfl (hw2 _ (List.mem_of_getElem? (i := 3) rfl))
    rcases List.mem_cons.mp hY with rfl | hY
    · exact va_Nw.of rfl (hw2 _ (List.mem_of_getElem? (i := 4) rfl))
    rcases List.mem_cons.mp hY with rfl | hY
    · exact va_Nw.of rfl (hw2 _ (List.mem_of_getElem? (i := 5) rfl))
    cases hY
  · intro e f he hf hne
    refine va_Nc.of (hf2 _ (List.mem_map.mpr ⟨(e, f), ?_, rfl⟩))
    have h1 : e = 0 ∨ e = 1 ∨ e = 2 := by omega
    have h2 : f = 0 ∨ f = 1 ∨ f = 2 := by omega
    rcases h1 with rfl | rfl | rfl <;> rcases h2 with rfl | rfl | rfl <;> first | exact absurd rfl hne | decide
  · intro kd h1 h2
    have h3 : kd = 103 ∨ kd = 104 ∨ kd = 105 ∨ kd = 106 ∨ kd = 107 ∨ kd = 108 := by omega
    rcases h3 with rfl | rfl | rfl | rfl | rfl | rfl
    · exact va_Nw.of rfl (hw2 _ (List.mem_of_getElem? (i := 6) rfl))
    · exact va_Nw.of rfl (hw2 _ (List.mem_of_getElem? (i := 7) rfl))
    · exact va_Nw.of rfl (hw2 _ (List.mem_of_getElem? (i := 8) rfl))
    · exact va_Nw.of rfl (hw2 _ (List.mem_of_getElem? (i := 9) rfl))
    · exact va_Nw.of rfl (hw2 _ (List.mem_of_getElem? (i := 10) rfl))
    · exact va_Nw.of rfl (hw2 _ (List.mem_of_getElem? (i := 11) rfl))
  · intro q hq
    exact va_Nw.of rfl (hw3 _ (List.mem_map.mpr ⟨q, hq, rfl⟩))
end QST
