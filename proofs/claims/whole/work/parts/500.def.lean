/-! Methods as functions (written by wip/whole/dec.py), 0: J9_min_7cf53, X0_init, X0_beTaken, X1_start, X1_waitFor, X1_goOnAt, J9_max_7cf53, X1_isBare, X1_waitsForEvent, X2_init, X5_wide, X2_kind, X2_x, X2_y, X2_timeOfCommand, X2_clockOfArrival. -/
section DF0
noncomputable def fm_J9_min_7cf53 (p0 p1 : Int) (m0 : MM) : Option Int := if p1 < p0 then
some p1
else
some p0
set_option maxHeartbeats 4000000 in
theorem om_J9_min_7cf53 {xs : List Int32} {d : Nat} {S : QS} {m0 : MM} {p0 p1 : Int} {v0 : Value} {v1 : Value} {rz : Int}
  (hd : 1 ≤ d) (R : Rp S m0) (f0 : q_is 0 v0 p0) (f1 : q_is 0 v1 p1)
  (h : fm_J9_min_7cf53 p0 p1 m0 = some rz) : Mt xs d 320 [v0, v1] S (Cr 0 m0 m0 rz) := by
  obtain ⟨d, rfl⟩ : ∃ e, d = e + 1 := ⟨d - 1, by omega⟩
  have hd : 0 ≤ d := Nat.le_of_succ_le_succ hd
  refine Mt.of (M := qM_J9_min_7cf53) rfl (by rw [sl_1 (q_is_cat f0 (Or.inl rfl)), sl_1 (q_is_cat f1 (Or.inl rfl)), sl_0]; decide) ?_
  rw [la_1 (q_is_cat f0 (Or.inl rfl)), la_1 (q_is_cat f1 (Or.inl rfl)), la_0]
  obtain ⟨L, hL⟩ : ∃ L : QL, L = [(0, v0), (0 + 1, v1)] := ⟨_, rfl⟩
  rw [← hL]
  have l0 : q_lo L 0 = some v0 := by rw [hL]; rfl
  have l1 : q_lo L 1 = some v1 := by rw [hL]; rfl
  have hQ : ∀ o S1, Rp S1 m0 → q_out 0 o rz → (Cr 0 m0 m0 rz) o S1 := fun o S1 a b => ⟨a, Ext.rf _, b⟩
  unfold fm_J9_min_7cf53 at h
  refine go_iload_n (n := 0) (by decide +kernel) l0 f0 ?_
  refine go_iload_n (n := 1) (by decide +kernel) l1 f1 ?_
  refine go_icmp (c := .gt) (o := 7) (t := 9) (P := p1 < p0) (by decide +kernel) (by decide +kernel) f0 f1 (Iff.rfl) (fun hp_1 => ?_) (fun hp_1 => ?_)
  · have h := it_t hp_1 h
    refine go_iload_n (n := 1) (by decide +kernel) l1 f1 ?_
    cases h
    exact go_iret (by decide +kernel) rfl (Or.inl rfl) f1 (hQ _ _ R (q_out_v (by decide) f1))
  · have h := it_f hp_1 h
    refine go_iload_n (n := 0) (by decide +kernel) l0 f0 ?_
    refine go_goto (o := 4) (t := 10) (by decide +kernel) (by decide +kernel) ?_
    cases h
    exact go_iret (by decide +kernel) rfl (Or.inl rfl) f0 (hQ _ _ R (q_out_v (by decide) f0))
/-- a copy of an Object[], n long -/
def mcp (m : MM) (a n : Int) : MM := fun b j => if b = m 0 0 then (if j = -1 then 107 else if j = -2 then n else if 0 ≤ j ∧ j < n ∧ j < m a (-2) then m a j else 0) else if b = 0 then (if j = 0 then m 0 0 + 1 else if j = 1 then m 0 1 + n else m b j) else m b j
def cpk (m : MM) (a n : Int) : Prop := okc m a 107 ∧ 0 ≤ n ∧ n < 60000000 ∧ m a (-2) < 2147483648 ∧ ∀ j : Int, 0 ≤ j → j < n → j < m a (-2) → (m a j = 0 ∨ okob m (m a j))
noncomputable def fm_J7_copyOf_1904c (p0 p1 : Int) (m0 : MM) : Option (Int × MM) := @gd _ (cpk m0 p0 p1) (Classical.propDecidable _) (some (m0 0 0, mcp m0 p0 p1))
section CPY
variable {xs : List Int32} {d : Nat} {M : QM} {pc : Nat} {L : QL} {st rest : List Value} {S : QS} {Q : QO → QS → Prop} {m : MM}
theorem go_getC {x a b e : Nat} {vr : Value} {r : Int} (hc : q_code M pc = some (.invokevirtual x)) (hlk : q_lk (qm_k M) x = some (19, a, b, e)) (hR : Rp S m) (hr : q_is 2 vr r) (hok : okc m r 107) (hl : (st.map fun v => v.category).sum ≤ 8) (k : Go xs d M (pc + 3) L (.retAddr 0 :: st) S Q) : Go xs d M pc L (vr :: st) S Q := by
  obtain ⟨r, rfl, hra⟩ := q_is_ref hr (by omega)
  obtain ⟨k9, c, e1, e2, e6, e3, e5, e4⟩ := Rp_at hR hok.1 hok.2.1
  have hkk : r = k9 + 4 := by omega
  subst hkk
  have hck : c.1 = 107 := by have := hok.2.2; omega
  refine go_more hc ⟨fun _ => rfl, rfl, rfl, fun _ => rfl, fun _ => rfl⟩ rfl (q_read_no rfl) rfl rfl (st' := .retAddr 0 :: st) (S' := S) ?_ rfl k
  unfold q_more
  simp only [hlk, e2]
  rw [if_pos ⟨hck, hl⟩]
theorem go_ldcM {x a b e : Nat} (hc : q_code M pc = some (.ldc x)) (hlk : q_lk (qm_k M) x = some (18, a, b, e)) (k : Go xs d M (pc + 2) L (.retAddr 0 :: st) S Q) : Go xs d M pc L st S Q := by
  refine go_more hc ⟨fun _ => rfl, rfl, rfl, fun _ => rfl, fun _ => rfl⟩ rfl ?_ rfl rfl (st' := .retAddr 0 :: st) (S' := S) ?_ rfl k
  · unfold q_read
    simp only [hlk]
  · unfold q_more
    simp only [hlk]
theorem go_aloadM {n : Fin 4} (hc : q_code M pc = some (.aload_n n)) (hl : q_lo L (n : Nat) = some (.retAddr 0)) (k : Go xs d M (pc + 1) L (.retAddr 0 :: st) S Q) : Go xs d M pc L st S Q := by
  refine Go.step (pc' := pc + 1) (L' := L) (st' := .retAddr 0 :: st) (S' := S) hc ?_ k
  unfold q_step
  rw [show q_simple (.aload_n n) st = none from rfl, show q_ldi (.aload_n n) = some (2, (n : Nat)) from rfl]
  simp only
  rw [hl]
  rfl
theorem go_acmpM {o : Int} (hc : q_code M pc = some (.if_acmp .ne o)) {t : Nat} (hj : q_jump pc o = some t) (k : Go xs d M (pc + 3) L st S Q) : Go xs d M pc L (.retAddr 0 :: .retAddr 0 :: st) S Q := by
  refine go_br (b := false) (c := False) hc (fun _ => rfl) rfl rfl rfl rfl (by simp) hj (fun h => h.elim) (fun _ => k)
/-- the copying itself -/
def mcq (m : MM) (s e n : Int) : MM := fun b j => if b = e ∧ 0 ≤ j ∧ j < n then m s j else m b j
theorem go_acpy {x a b e0 : Nat} {vs ve vn vz vy : Value} {s e n : Int} (hc : q_code M pc = some (.invokestatic x)) (hlk : q_lk (qm_k M) x = some (21, a, b, e0)) (hR : Rp S m) (hs : q_is 2 vs s) (he : q_is 2 ve e) (hn : q_is 0 vn n) (hz : q_is 0 vz 0) (hy : q_is 0 vy 0) (hos : okc m s 107) (hoe : okc m e 107) (he0 : 163 ≤ e) (hn0 : 0 ≤ n) (hn1 : n ≤ m s (-2)) (hn2 : n ≤ m e (-2)) (hel : ∀ j : Int, 0 ≤ j → j < n → (m s j = 0 ∨ okob m (m s j)))
    (hl : (rest.map fun v => v.category).sum ≤ 8) (k : ∀ S', Rp S' (mcq m s e n) → Ext m (mcq m s e n) → Go xs d M (pc + 3) L rest S' Q) : Go xs d M pc L (vn :: vz :: ve :: vy :: vs :: rest) S Q := by
  obtain ⟨r1, rfl, hr1⟩ := q_is_ref hs (by omega)
  obtain ⟨r2, rfl, hr2⟩ := q_is_ref he (by omega)
  obtain ⟨x1, rfl, rfl⟩ := hn
  obtain ⟨x2, rfl, hx2⟩ := hz
  obtain ⟨x3, rfl, hx3⟩ := hy
  have hx2 : x2 = 0 := Int32.toInt_inj.mp hx2
  have hx3 : x3 = 0 := Int32.toInt_inj.mp hx3
  subst hx2 hx3
  obtain ⟨ks, cs, e1, e2, e6, e3, e5, e4⟩ := Rp_at hR hos.1 hos.2.1
  obtain ⟨kd, cd, f1, f2, f6, f3, f5, f4⟩ := Rp_at hR hoe.1 hoe.2.1
  have hks : r1 = ks + 4 := by omega
  have hkd : r2 = kd + 4 := by omega
  subst hks hkd
  have hcs : cs.1 = 107 := by have := hos.2.2; omega
  have hcd : cd.1 = 107 := by have := hoe.2.2; omega
  have hx : x1.toNatClampNeg = x1.toInt.toNat := rfl
  have hsty : ∀ j : Nat, q_sty 107 j = 2 := fun j => rfl
  have hR2 : Rp0 (q_put S (kd + 4) (q_cpy cs cd x1.toNatClampNeg)) (mcq m s e x1.toInt) := by
    obtain ⟨h1, h2, h3, h4, h5⟩ := hR.1
    have e9 : kd + 4 - 4 = kd := by omega
    unfold q_put
    rw [e9]
    refine ⟨?_, ?_, ?_, ?_, fun i y hy => ?_⟩
    · unfold mcq; rw [if_neg (by omega), h1]; simp
    · unfold mcq; rw [if_neg (by omega)]; exact h2
    · simp [h3]
    · unfold mcq; rw [if_neg (by omega)]; exact h4
    · have hy : (S.1.set kd (q_cpy cs cd x1.toNatClampNeg))[i]? = some y := hy
      by_cases hi : i = kd
      · subst hi
        have hl : i < S.1.length := (List.getElem?_eq_some_iff.mp f6).1
        rw [List.getElem?_set_self hl] at hy
        cases hy
        obtain ⟨g1, g2, g3⟩ := h5 i cd f6
        rw [(q_cpy_k _ _ _).1, (q_cpy_k _ _ _).2]
        refine ⟨?_, ?_, fun q => ?_⟩
        · unfold mcq; rw [if_neg (by omega)]; exact g1
        · unfold mcq; rw [if_neg (by omega)]; exact g2
        · rw [q_rd_cpy]
          unfold mcq
          by_cases hq : q < x1.toNatClampNeg
          · rw [if_pos hq, if_pos ⟨f1.symm, by omega, by omega⟩, hcd, hsty]
            have := e4 q
            rw [hcs, hsty] at this
            exact this
          · rw [if_neg hq, if_neg (by omega)]
            exact g3 q
      · rw [List.getElem?_set_ne (fun q => hi q.symm)] at hy
        obtain ⟨g1, g2, g3⟩ := h5 i y hy
        refine ⟨?_, ?_, fun q => ?_⟩
        · unfold mcq; rw [if_neg (by omega)]; exact g1
        · unfold mcq; rw [if_neg (by omega)]; exact g2
        · unfold mcq; rw [if_neg (by omega)]; exact g3 q
  have hF2 : Fix (mcq m s e x1.toInt) := by
    have h0 := hR.2.1
    refine ⟨?_, fun q hq => ?_⟩
    · unfold mcq; rw [if_neg (by omega)]; exact h0
    · obtain ⟨h1, h2, h3⟩ := hR.2.2 q hq
      have := fixk_lt q hq
      unfold mcq
      refine ⟨?_, ?_, fun p hp => ?_⟩
      · rw [if_neg (by omega)]; exact h1
      · rw [if_neg (by omega)]; exact h2
      · rw [if_neg (by omega)]; exact h3 p hp
  have hE : Ext m (mcq m s e x1.toInt) := by
    refine ⟨?_, fun b h1 h2 => ⟨?_, ?_⟩⟩
    · unfold mcq; rw [if_neg (by omega)]; exact Int.le_refl _
    · unfold mcq; rw [if_neg (by omega)]
    · unfold mcq; rw [if_neg (by omega)]
  refine go_more hc ⟨fun _ => rfl, rfl, rfl, fun _ => rfl, fun _ => rfl⟩ rfl (q_read_no rfl) rfl rfl (st' := rest) (S' := q_put S (kd + 4) (q_cpy cs cd x1.toNatClampNeg)) ?_ rfl (k _ ⟨hR2, hF2⟩ hE)
  unfold q_more
  simp only [hlk, e2, f2]
  rw [if_pos]
  refine ⟨hcd, hcs, trivial, trivial, ⟨?_, by omega, by omega⟩, hl, List.all_eq_true.mpr fun j hj => ?_⟩
  · intro hlt
    rw [Int32.lt_iff_toInt_lt] at hlt
    have : (0 : Int32).toInt = 0 := rfl
    omega
  · have hj := List.mem_range.mp hj
    have h4 := e4 j
    rw [hcs, hsty] at h4
    have hz := hel (j : Int) (by omega) (by omega)
    rcases h4 with ⟨h4, -⟩ | ⟨w, h4, hw, hw0⟩
    · rw [h4]; rfl
    · rcases hz with hz | hz
      · omega
      · obtain ⟨j9, cv, q1, q2, q6, q3, q5, q4⟩ := Rp_at hR hz.1 hz.2.1
        have hwj : w = j9 + 4 := by omega
        subst hwj
        rw [h4]
        unfold q_oel
        simp only [q2]
        have := hz.2.2
        unfold q_obk
        simp only [Bool.or_eq_true, beq_iff_eq]
        omega
end CPY
theorem om_J7_copyOf_6403c {xs : List Int32} {d : Nat} {S : QS} {m0 : MM} {p0 p1 : Int} {v0 : Value} {v1 : Value} (hd : 2 ≤ d) (R : Rp S m0) (f0 : q_is 2 v0 p0) (f1 : q_is 0 v1 p1) (hk : cpk m0 p0 p1) : Mt xs d 334 [v0, v1, .retAddr 0] S (Cr 2 m0 (mcp m0 p0 p1) (m0 0 0)) := by
  obtain ⟨d, rfl⟩ : ∃ e, d = e + 1 := ⟨d - 1, by omega⟩
  have hd : 1 ≤ d := Nat.le_of_succ_le_succ hd
  obtain ⟨k1, k2, k3, k4, k5⟩ := hk
  refine Mt.of (M := qM_J7_copyOf_6403c) rfl (by rw [sl_1 (q_is_cat f0 (Or.inr rfl)), sl_1 (q_is_cat f1 (Or.inl rfl)), sl_1 rfl, sl_0]; decide) ?_
  rw [la_1 (q_is_cat f0 (Or.inr rfl)), la_1 (q_is_cat f1 (Or.inl rfl)), la_1 rfl, la_0]
  obtain ⟨L, hL⟩ : ∃ L : QL, L = [(0, v0), (0 + 1, v1), (0 + 1 + 1, .retAddr 0)] := ⟨_, rfl⟩
  rw [← hL]
  have l0 : q_lo L 0 = some v0 := by rw [hL]; rfl
  have l1 : q_lo L 1 = some v1 := by rw [hL]; rfl
  have l2 : q_lo L 2 = some (.retAddr 0) := by rw [hL]; rfl
  refine go_aloadM (n := 2) (by decide +kernel) l2 ?_
  refine go_ldcM (x := 110) (a := 0) (b := 0) (e := 0) (by decide +kernel) (by decide +kernel) ?_
  refine go_acmpM (o := 10) (t := 13) (by decide +kernel) (by decide +kernel) ?_
  refine go_iload_n (n := 1) (by decide +kernel) l1 f1 ?_
  obtain ⟨z, ez⟩ : ∃ z, z = m0 0 0 := ⟨_, rfl⟩
  obtain ⟨m1, em⟩ : ∃ m1, m1 = mnew m0 107 p1 := ⟨_, rfl⟩
  have g1 := okc_nw (c := 107) R ez em
  refine go_anewa (x := 2) (kd := 107) (a := 0) (b := 0) (by decide +kernel) (by decide +kernel) f1 ⟨k2, k3⟩ R ez em fun v S1 f R1 E1 => ?_
  refine go_goto (o := 14) (t := 24) (by decide +kernel) (by decide +kernel) ?_
  refine go_astore_n (n := 3) (by decide +kernel) (by decide +kernel) f fun L2 l3 kp => ?_
  have l20 := kp 0 _ l0 (by decide) (Or.inl (by decide))
  have l21 := kp 1 _ l1 (by decide) (Or.inl (by decide))
  refine go_aload_n (n := 0) (by decide +kernel) l20 f0 ?_
  refine go_iconst (n := 0) (z := 0) (by decide +kernel) (by decide) fun v4 f4 => ?_
  refine go_aload_n (n := 3) (by decide +kernel) l3 f ?_
  refine go_iconst (n := 0) (z := 0) (by decide +kernel) (by decide) fun v5 f5 => ?_
  refine go_aload_n (n := 0) (by decide +kernel) l20 f0 ?_
  have g0 := Ext.ok E1 k1
  refine go_alen (by decide +kernel) R1 f0 (okl_of g0 (by decide)) fun v6 f6 => ?_
  refine go_iload_n (n := 1) (by decide +kernel) l21 f1 ?_
  have elen : m1 p0 (-2) = m0 p0 (-2) := (E1.2 p0 k1.1 k1.2.1).2
  have hp0 : p0 < m0 0 0 := k1.2.1
  have hlen0 : 0 ≤ m0 p0 (-2) := by
    obtain ⟨k9, c9, -, -, -, -, e5, -⟩ := Rp_at R k1.1 k1.2.1
    rw [e5]
    exact Int.natCast_nonneg _
  have ew : w32 (m1 p0 (-2)) = m0 p0 (-2) := by
    rw [elen]
    unfold w32
    rw [Int.bmod_def]
    split <;> omega
  rw [ew] at f6
  obtain ⟨n9, hn9⟩ : ∃ n9 : Int, n9 = if p1 < m0 p0 (-2) then p1 else m0 p0 (-2) := ⟨_, rfl⟩
  have hmin : fm_J9_min_7cf53 (m0 p0 (-2)) p1 m1 = some n9 := by
    unfold fm_J9_min_7cf53
    rw [hn9]
    split <;> rfl
  refine go_callS (x := 304) (mi := 320) (n := 2) (b := 0) (as := [v6, v1]) (rest := [v5, v, v4, v0]) (by decide +kernel) (by decide +kernel) rfl rfl (q_sum8 _ (Nat.le_of_ble_eq_true rfl)) (om_J9_min_7cf53 hd R1 f6 f1 hmin) (fun _ S2 q => ?_) (fun _ _ qq => kr_x qq)
  refine kr_z (by decide) q fun v7 f7 R2 E2 => ?_
  have hz0 := R.2.1
  have hmo : ∀ j : Int, m1 p0 j = m0 p0 j := by
    intro j
    subst em
    unfold mnew
    rw [if_neg (by omega), if_neg (by have := k1.1; omega)]
  refine go_acpy (x := 150) (a := 0) (b := 0) (e0 := 0) (s := p0) (e := z) (n := n9) (by decide +kernel) (by decide +kernel) R2 f0 f f7 f5 f4 g0 g1 (by omega) (by rw [hn9]; split <;> omega) (by rw [elen, hn9]; split <;> omega) (by rw [len_nw ez em, hn9]; split <;> omega) (fun j h1 h2 => ?_) (q_sum8 _ (Nat.le_of_ble_eq_true rfl)) fun S3 R3 E3 => ?_
  · rw [hmo]
    rcases k5 j h1 (by rw [hn9] at h2; split at h2 <;> omega) (by rw [hn9] at h2; split at h2 <;> omega) with h | h
    · exact Or.inl h
    · exact Or.inr ⟨h.1, Int.lt_of_lt_of_le h.2.1 E1.1, by rw [(E1.2 _ h.1 h.2.1).1]; exact h.2.2⟩
  have hmm : mcq m1 p0 z n9 = mcp m0 p0 p1 := by
    funext b j
    unfold mcq mcp
    by_cases hb : b = m0 0 0
    · rw [if_pos hb]
      have hb2 : b = z := by rw [hb, ez]
      by_cases hj : 0 ≤ j ∧ j < n9
      · rw [if_pos ⟨hb2, hj⟩, if_neg (by omega), if_neg (by omega), if_pos (by rw [hn9] at hj; split at hj <;> omega), hmo]
      · rw [if_neg (fun h => hj h.2)]
        have : m1 b j = if j = -1 then 107 else if j = -2 then p1 else 0 := by
          subst em
          unfold mnew
          rw [if_pos hb]
        rw [this]
        by_cases h1 : j = -1
        · rw [if_pos h1, if_pos h1]
        · rw [if_neg h1, if_neg h1]
          by_cases h2 : j = -2
          · rw [if_pos h2, if_pos h2]
          · rw [if_neg h2, if_neg h2, if_neg (by rw [hn9] at hj; split at hj <;> omega)]
    · rw [if_neg hb, if_neg (fun h => hb (by rw [h.1, ez]))]
      subst em
      unfold mnew
      rw [if_neg hb]
  rw [hmm] at R3 E3
  refine go_aload_n (n := 3) (by decide +kernel) l3 f ?_
  exact go_aret (by decide +kernel) rfl rfl f ⟨R3, Ext.tr E1 E3, q_out_v (by decide) (by rw [← ez]; exact f)⟩
theorem om_J7_copyOf_1904c {xs : List Int32} {d : Nat} {S : QS} {m0 : MM} {p0 p1 : Int} {v0 : Value} {v1 : Value} {rz : Int} {rm : MM} (hd : 4 ≤ d) (R : Rp S m0) (f0 : q_is 2 v0 p0) (f1 : q_is 0 v1 p1) (h : fm_J7_copyOf_1904c p0 p1 m0 = some (rz, rm)) : Mt xs d 333 [v0, v1] S (Cr 2 m0 rm rz) := by
  obtain ⟨hk, h⟩ := @gd_s _ _ (Classical.propDecidable _) _ _ h
  cases h
  obtain ⟨d, rfl⟩ : ∃ e, d = e + 1 := ⟨d - 1, by omega⟩
  refine Mt.of (M := qM_J7_copyOf_1904c) rfl (by rw [sl_1 (q_is_cat f0 (Or.inr rfl)), sl_1 (q_is_cat f1 (Or.inl rfl)), sl_0]; decide) ?_
  rw [la_1 (q_is_cat f0 (Or.inr rfl)), la_1 (q_is_cat f1 (Or.inl rfl)), la_0]
  obtain ⟨L, hL⟩ : ∃ L : QL, L = [(0, v0), (0 + 1, v1)] := ⟨_, rfl⟩
  rw [← hL]
  have l0 : q_lo L 0 = some v0 := by rw [hL]; rfl
  have l1 : q_lo L 1 = some v1 := by rw [hL]; rfl
  refine go_aload_n (n := 0) (by decide +kernel) l0 f0 ?_
  refine go_iload_n (n := 1) (by decide +kernel) l1 f1 ?_
  refine go_aload_n (n := 0) (by decide +kernel) l0 f0 ?_
  refine go_getC (x := 86) (a := 0) (b := 0) (e := 0) (by decide +kernel) (by decide +kernel) R f0 hk.1 (q_sum8 _ (Nat.le_of_ble_eq_true rfl)) ?_
  refine go_callS (x := 300) (mi := 334) (n := 3) (b := 0) (as := [v0, v1, .retAddr 0]) (rest := []) (by decide +kernel) (by decide +kernel) rfl rfl (q_sum8 _ (Nat.le_of_ble_eq_true rfl)) (om_J7_copyOf_6403c (by omega) R f0 f1 hk) (fun _ S2 q => ?_) (fun _ _ qq => kr_x qq)
  refine kr_z (by decide) q fun v7 f7 R2 E2 => ?_
  exact go_aret (by decide +kernel) rfl rfl f7 ⟨R2, E2, q_out_v (by decide) f7⟩
noncomputable def fm_X0_init (p0 p1 p2 p3 p4 p5 : Int) (m0 : MM) : Option (Int × MM) := up m0 p0 5 0 fun m_3 =>
up m_3 p0 6 0 fun m_13 =>
up m_13 p0 7 0 fun m_23 =>
up m_23 p0 8 0 fun m_33 =>
up m_33 p0 9 0 fun m_43 =>
up m_43 p0 10 0 fun m_53 =>
up m_53 p0 0 p1 fun m_61 =>
up m_61 p0 1 p2 fun m_69 =>
up m_69 p0 2 p3 fun m_77 =>
up m_77 p0 3 p4 fun m_85 =>
up m_85 p0 4 p5 fun m_93 =>
some (0, m_93)
set_option maxHeartbeats 4000000 in
theorem om_X0_init {xs : List Int32} {d : Nat} {S : QS} {m0 : MM} {p0 p1 p2 p3 p4 p5 : Int} {v0 : Value} {v1 : Value} {v2 : Value} {v3 : Value} {v4 : Value} {v5 : Value} {rz : Int} {rm : MM}
  (hd : 1 ≤ d) (R : Rp S m0) (g0 : okc m0 p0 1) (f0 : q_is 2 v0 p0) (f1 : q_is 2 v1 p1) (f2 : q_is 0 v2 p2) (f3 : q_is 0 v3 p3) (f4 : q_is 0 v4 p4) (f5 : q_is 0 v5 p5)
  (h : fm_X0_init p0 p1 p2 p3 p4 p5 m0 = some (rz, rm)) : Mt xs d 0 [v0, v1, v2, v3, v4, v5] S (Cr 9 m0 rm rz) := by
  obtain ⟨d, rfl⟩ : ∃ e, d = e + 1 := ⟨d - 1, by omega⟩
  have hd : 0 ≤ d := Nat.le_of_succ_le_succ hd
  refine Mt.of (M := qM_X0_init) rfl (by rw [sl_1 (q_is_cat f0 (Or.inr rfl)), sl_1 (q_is_cat f1 (Or.inr rfl)), sl_1 (q_is_cat f2 (Or.inl rfl)), sl_1 (q_is_cat f3 (Or.inl rfl)), sl_1 (q_is_cat f4 (Or.inl rfl)), sl_1 (q_is_cat f5 (Or.inl rfl)), sl_0]; decide) ?_
  rw [la_1 (q_is_cat f0 (Or.inr rfl)), la_1 (q_is_cat f1 (Or.inr rfl)), la_1 (q_is_cat f2 (Or.inl rfl)), la_1 (q_is_cat f3 (Or.inl rfl)), la_1 (q_is_cat f4 (Or.inl rfl)), la_1 (q_is_cat f5 (Or.inl rfl)), la_0]
  obtain ⟨L, hL⟩ : ∃ L : QL, L = [(0, v0), (0 + 1, v1), (0 + 1 + 1, v2), (0 + 1 + 1 + 1, v3), (0 + 1 + 1 + 1 + 1, v4), (0 + 1 + 1 + 1 + 1 + 1, v5)] := ⟨_, rfl⟩
  rw [← hL]
  have l0 : q_lo L 0 = some v0 := by rw [hL]; rfl
  have l1 : q_lo L 1 = some v1 := by rw [hL]; rfl
  have l2 : q_lo L 2 = some v2 := by rw [hL]; rfl
  have l3 : q_lo L 3 = some v3 := by rw [hL]; rfl
  have l4 : q_lo L 4 = some v4 := by rw [hL]; rfl
  have l5 : q_lo L 5 = some v5 := by rw [hL]; rfl
  have hQ : Ext m0 rm → ∀ o S1, Rp S1 rm → q_out 9 o rz → (Cr 9 m0 rm rz) o S1 := fun a o S1 b e => ⟨b, a, e⟩
  unfold fm_X0_init at h
  refine go_aload_n (n := 0) (by decide +kernel) l0 f0 ?_
  refine go_oinit (x := 1) (a := 0) (b := 0) (e := 0) (by decide +kernel) (by decide +kernel) f0 (okc_ne g0) (q_sum8 _ (Nat.le_of_ble_eq_true rfl)) ?_
  refine go_aload_n (n := 0) (by decide +kernel) l0 f0 ?_
  refine go_iconst (n := 0) (z := 0) (by decide +kernel) (by decide) fun v_1 f_2 => ?_
  obtain ⟨m_3, e_4, h⟩ := up_s h
  refine go_putf (x := 9) (ci := 1) (kf := 5) (fin := 0) (zt := 0) (by decide +kernel) (by decide +kernel) (by decide) (by decide +kernel) (by decide) (Or.inl rfl) R f0 f_2 (fun hq => absurd hq (by decide)) g0 e_4 (fx_f (j := 5) R.2 g0 (by decide +kernel)) fun S_5 R_6 E_7 => ?_
  have E_9 := E_7
  refine go_aload_n (n := 0) (by decide +kernel) l0 f0 ?_
  refine go_iconst (n := 0) (z := 0) (by decide +kernel) (by decide) fun v_10 f_11 => ?_
  have g_12 := Ext.ok E_7 g0
  obtain ⟨m_13, e_14, h⟩ := up_s h
  refine go_putf (x := 13) (ci := 1) (kf := 6) (fin := 0) (zt := 0) (by decide +kernel) (by decide +kernel) (by decide) (by decide +kernel) (by decide) (Or.inl rfl) R_6 f0 f_11 (fun hq => absurd hq (by decide)) g_12 e_14 (fx_f (j := 6) R_6.2 g_12 (by decide +kernel)) fun S_15 R_16 E_17 => ?_
  have E_19 := Ext.tr E_9 E_17
  refine go_aload_n (n := 0) (by decide +kernel) l0 f0 ?_
  refine go_iconst (n := 0) (z := 0) (by decide +kernel) (by decide) fun v_20 f_21 => ?_
  have g_22 := Ext.ok E_17 g_12
  obtain ⟨m_23, e_24, h⟩ := up_s h
  refine go_putf (x := 16) (ci := 1) (kf := 7) (fin := 0) (zt := 0) (by decide +kernel) (by decide +kernel) (by decide) (by decide +kernel) (by decide) (Or.inl rfl) R_16 f0 f_21 (fun hq => absurd hq (by decide)) g_22 e_24 (fx_f (j := 7) R_16.2 g_22 (by decide +kernel)) fun S_25 R_26 E_27 => ?_
  have E_29 := Ext.tr E_19 E_27
  refine go_aload_n (n := 0) (by decide +kernel) l0 f0 ?_
  refine go_iconst (n := 0) (z := 0) (by decide +kernel) (by decide) fun v_30 f_31 => ?_
  have g_32 := Ext.ok E_27 g_22
  obtain ⟨m_33, e_34, h⟩ := up_s h
  refine go_putf (x := 19) (ci := 1) (kf := 8) (fin := 0) (zt := 0) (by decide +kernel) (by decide +kernel) (by decide) (by decide +kernel) (by decide) (Or.inl rfl) R_26 f0 f_31 (fun hq => absurd hq (by decide)) g_32 e_34 (fx_f (j := 8) R_26.2 g_32 (by decide +kernel)) fun S_35 R_36 E_37 => ?_
  have E_39 := Ext.tr E_29 E_37
  refine go_aload_n (n := 0) (by decide +kernel) l0 f0 ?_
  refine go_iconst (n := 0) (z := 0) (by decide +kernel) (by decide) fun v_40 f_41 => ?_
  have g_42 := Ext.ok E_37 g_32
  obtain ⟨m_43, e_44, h⟩ := up_s h
  refine go_putf (x := 22) (ci := 1) (kf := 9) (fin := 0) (zt := 0) (by decide +kernel) (by decide +kernel) (by decide) (by decide +kernel) (by decide) (Or.inl rfl) R_36 f0 f_41 (fun hq => absurd hq (by decide)) g_42 e_44 (fx_f (j := 9) R_36.2 g_42 (by decide +kernel)) fun S_45 R_46 E_47 => ?_
  have E_49 := Ext.tr E_39 E_47
  refine go_aload_n (n := 0) (by decide +kernel) l0 f0 ?_
  refine go_iconst (n := 0) (z := 0) (by decide +kernel) (by decide) fun v_50 f_51 => ?_
  have g_52 := Ext.ok E_47 g_42
  obtain ⟨m_53, e_54, h⟩ := up_s h
  refine go_putf (x := 25) (ci := 1) (kf := 10) (fin := 0) (zt := 0) (by decide +kernel) (by decide +kernel) (by decide) (by decide +kernel) (by decide) (Or.inl rfl) R_46 f0 f_51 (fun hq => absurd hq (by decide)) g_52 e_54 (fx_f (j := 10) R_46.2 g_52 (by decide +kernel)) fun S_55 R_56 E_57 => ?_
  have E_59 := Ext.tr E_49 E_57
  refine go_aload_n (n := 0) (by decide +kernel) l0 f0 ?_
  refine go_aload_n (n := 1) (by decide +kernel) l1 f1 ?_
  have g_60 := Ext.ok E_57 g_52
  obtain ⟨m_61, e_62, h⟩ := up_s h
  refine go_putf (x := 28) (ci := 1) (kf := 0) (fin := 1) (zt := 2) (by decide +kernel) (by decide +kernel) (by decide) (by decide +kernel) (by decide) (Or.inr ⟨rfl, rfl⟩) R_56 f0 f1 (fun hq => absurd hq (by decide)) g_60 e_62 (fx_f (j := 0) R_56.2 g_60 (by decide +kernel)) fun S_63 R_64 E_65 => ?_
  have E_67 := Ext.tr E_59 E_65
  refine go_aload_n (n := 0) (by decide +kernel) l0 f0 ?_
  refine go_iload_n (n := 2) (by decide +kernel) l2 f2 ?_
  have g_68 := Ext.ok E_65 g_60
  obtain ⟨m_69, e_70, h⟩ := up_s h
  refine go_putf (x := 32) (ci := 1) (kf := 1) (fin := 1) (zt := 0) (by decide +kernel) (by decide +kernel) (by decide) (by decide +kernel) (by decide) (Or.inr ⟨rfl, rfl⟩) R_64 f0 f2 (fun hq => absurd hq (by decide)) g_68 e_70 (fx_f (j := 1) R_64.2 g_68 (by decide +kernel)) fun S_71 R_72 E_73 => ?_
  have E_75 := Ext.tr E_67 E_73
  refine go_aload_n (n := 0) (by decide +kernel) l0 f0 ?_
  refine go_iload_n (n := 3) (by decide +kernel) l3 f3 ?_
  have g_76 := Ext.ok E_73 g_68
  obtain ⟨m_77, e_78, h⟩ := up_s h
  refine go_putf (x := 35) (ci := 1) (kf := 2) (fin := 1) (zt := 0) (by decide +kernel) (by decide +kernel) (by decide) (by decide +kernel) (by decide) (Or.inr ⟨rfl, rfl⟩) R_72 f0 f3 (fun hq => absurd hq (by decide)) g_76 e_78 (fx_f (j := 2) R_72.2 g_76 (by decide +kernel)) fun S_79 R_80 E_81 => ?_
  have E_83 := Ext.tr E_75 E_81
  refine go_aload_n (n := 0) (by decide +kernel) l0 f0 ?_
  refine go_iload (n := 4) (by decide +kernel) l4 f4 ?_
  have g_84 := Ext.ok E_81 g_76
  obtain ⟨m_85, e_86, h⟩ := up_s h
  refine go_putf (x := 38) (ci := 1) (kf := 3) (fin := 1) (zt := 0) (by decide +kernel) (by decide +kernel) (by decide) (by decide +kernel) (by decide) (Or.inr ⟨rfl, rfl⟩) R_80 f0 f4 (fun hq => absurd hq (by decide)) g_84 e_86 (fx_f (j := 3) R_80.2 g_84 (by decide +kernel)) fun S_87 R_88 E_89 => ?_
  have E_91 := Ext.tr E_83 E_89
  refine go_aload_n (n := 0) (by decide +kernel) l0 f0 ?_
  refine go_iload (n := 5) (by decide +kernel) l5 f5 ?_
  have g_92 := Ext.ok E_89 g_84
  obtain ⟨m_93, e_94, h⟩ := up_s h
  refine go_putf (x := 41) (ci := 1) (kf := 4) (fin := 1) (zt := 0) (by decide +kernel) (by decide +kernel) (by decide) (by decide +kernel) (by decide) (Or.inr ⟨rfl, rfl⟩) R_88 f0 f5 (fun hq => absurd hq (by decide)) g_92 e_94 (fx_f (j := 4) R_88.2 g_92 (by decide +kernel)) fun S_95 R_96 E_97 => ?_
  have E_99 := Ext.tr E_91 E_97
  cases h
  exact go_vret (by decide +kernel) rfl (hQ E_99 _ _ R_96 q_out_n)
noncomputable def fm_X0_beTaken (p0 p1 : Int) (m0 : MM) : Option (Int × MM) := up m0 p0 5 1 fun m_3 =>
lx (m_3 p0 6) fun x_14 =>
up m_3 p0 6 (w32 (x_14 + 1)) fun m_20 =>
up m_20 p0 8 p1 fun m_28 =>
up m_28 p0 9 p1 fun m_36 =>
some (0, m_36)
set_option maxHeartbeats 4000000 in
theorem om_X0_beTaken {xs : List Int32} {d : Nat} {S : QS} {m0 : MM} {p0 p1 : Int} {v0 : Value} {v1 : Value} {rz : Int} {rm : MM}
  (hd : 1 ≤ d) (R : Rp S m0) (g0 : okc m0 p0 1) (f0 : q_is 2 v0 p0) (f1 : q_is 0 v1 p1)
  (h : fm_X0_beTaken p0 p1 m0 = some (rz, rm)) : Mt xs d 1 [v0, v1] S (Cr 9 m0 rm rz) := by
  obtain ⟨d, rfl⟩ : ∃ e, d = e + 1 := ⟨d - 1, by omega⟩
  have hd : 0 ≤ d := Nat.le_of_succ_le_succ hd
  refine Mt.of (M := qM_X0_beTaken) rfl (by rw [sl_1 (q_is_cat f0 (Or.inr rfl)), sl_1 (q_is_cat f1 (Or.inl rfl)), sl_0]; decide) ?_
  rw [la_1 (q_is_cat f0 (Or.inr rfl)), la_1 (q_is_cat f1 (Or.inl rfl)), la_0]
  obtain ⟨L, hL⟩ : ∃ L : QL, L = [(0, v0), (0 + 1, v1)] := ⟨_, rfl⟩
  rw [← hL]
  have l0 : q_lo L 0 = some v0 := by rw [hL]; rfl
  have l1 : q_lo L 1 = some v1 := by rw [hL]; rfl
  have hQ : Ext m0 rm → ∀ o S1, Rp S1 rm → q_out 9 o rz → (Cr 9 m0 rm rz) o S1 := fun a o S1 b e => ⟨b, a, e⟩
  unfold fm_X0_beTaken at h
  refine go_aload_n (n := 0) (by decide +kernel) l0 f0 ?_
  refine go_iconst (n := 1) (z := 1) (by decide +kernel) (by decide) fun v_1 f_2 => ?_
  obtain ⟨m_3, e_4, h⟩ := up_s h
  refine go_putf (x := 9) (ci := 1) (kf := 5) (fin := 0) (zt := 0) (by decide +kernel) (by decide +kernel) (by decide) (by decide +kernel) (by decide) (Or.inl rfl) R f0 f_2 (fun hq => absurd hq (by decide)) g0 e_4 (fx_f (j := 5) R.2 g0 (by decide +kernel)) fun S_5 R_6 E_7 => ?_
  have E_9 := E_7
  refine go_aload_n (n := 0) (by decide +kernel) l0 f0 ?_
  refine go_dup (by decide +kernel) f0 (Or.inr rfl) ?_
  have g_12 := Ext.ok E_7 g0
  obtain ⟨x_14, e_15, h⟩ := lx_s h
  refine go_getf (x := 13) (ci := 1) (kf := 6) (fin := 0) (t := 0) (by decide +kernel) (by decide +kernel) (by decide +kernel) R_6 f0 g_12 fun v_10 f_11 => ?_
  have f_13 := q_is_eq f_11 e_15
  refine go_iconst (n := 1) (z := 1) (by decide +kernel) (by decide) fun v_16 f_17 => ?_
  refine go_iadd (by decide +kernel) f_13 f_17 fun v_18 f_19 => ?_
  obtain ⟨m_20, e_21, h⟩ := up_s h
  refine go_putf (x := 13) (ci := 1) (kf := 6) (fin := 0) (zt := 0) (by decide +kernel) (by decide +kernel) (by decide) (by decide +kernel) (by decide) (Or.inl rfl) R_6 f0 f_19 (fun hq => absurd hq (by decide)) g_12 e_21 (fx_f (j := 6) R_6.2 g_12 (by decide +kernel)) fun S_22 R_23 E_24 => ?_
  have E_26 := Ext.tr E_9 E_24
  refine go_aload_n (n := 0) (by decide +kernel) l0 f0 ?_
  refine go_iload_n (n := 1) (by decide +kernel) l1 f1 ?_
  have g_27 := Ext.ok E_24 g_12
  obtain ⟨m_28, e_29, h⟩ := up_s h
  refine go_putf (x := 19) (ci := 1) (kf := 8) (fin := 0) (zt := 0) (by decide +kernel) (by decide +kernel) (by decide) (by decide +kernel) (by decide) (Or.inl rfl) R_23 f0 f1 (fun hq => absurd hq (by decide)) g_27 e_29 (fx_f (j := 8) R_23.2 g_27 (by decide +kernel)) fun S_30 R_31 E_32 => ?_
  have E_34 := Ext.tr E_26 E_32
  refine go_aload_n (n := 0) (by decide +kernel) l0 f0 ?_
  refine go_iload_n (n := 1) (by decide +kernel) l1 f1 ?_
  have g_35 := Ext.ok E_32 g_27
  obtain ⟨m_36, e_37, h⟩ := up_s h
  refine go_putf (x := 22) (ci := 1) (kf := 9) (fin := 0) (zt := 0) (by decide +kernel) (by decide +kernel) (by decide) (by decide +kernel) (by decide) (Or.inl rfl) R_31 f0 f1 (fun hq => absurd hq (by decide)) g_35 e_37 (fx_f (j := 9) R_31.2 g_35 (by decide +kernel)) fun S_38 R_39 E_40 => ?_
  have E_42 := Ext.tr E_34 E_40
  cases h
  exact go_vret (by decide +kernel) rfl (hQ E_42 _ _ R_39 q_out_n)
noncomputable def fm_X1_start (p0 p1 p2 p3 : Int) (m0 : MM) : Option (Int × MM) := up m0 p0 0 p1 fun m_1 =>
up m_1 p0 1 p2 fun m_9 =>
up m_9 p0 2 p2 fun m_17 =>
up m_17 p0 3 (-1) fun m_27 =>
up m_27 p0 4 p3 fun m_35 =>
up m_35 p0 5 0 fun m_45 =>
up m_45 p0 6 0 fun m_55 =>
up m_55 p0 7 0 fun m_65 =>
up m_65 p0 8 0 fun m_75 =>
up m_75 p0 9 0 fun m_85 =>
up m_85 p0 10 0 fun m_95 =>
some (0, m_95)
set_option maxHeartbeats 4000000 in
theorem om_X1_start {xs : List Int32} {d : Nat} {S : QS} {m0 : MM} {p0 p1 p2 p3 : Int} {v0 : Value} {v1 : Value} {v2 : Value} {v3 : Value} {rz : Int} {rm : MM}
  (hd : 1 ≤ d) (R : Rp S m0) (g0 : okc m0 p0 2) (f0 : q_is 2 v0 p0) (f1 : q_is 0 v1 p1) (f2 : q_is 0 v2 p2) (f3 : q_is 0 v3 p3)
  (h : fm_X1_start p0 p1 p2 p3 m0 = some (rz, rm)) : Mt xs d 3 [v0, v1, v2, v3] S (Cr 9 m0 rm rz) := by
  obtain ⟨d, rfl⟩ : ∃ e, d = e + 1 := ⟨d - 1, by omega⟩
  have hd : 0 ≤ d := Nat.le_of_succ_le_succ hd
  refine Mt.of (M := qM_X1_start) rfl (by rw [sl_1 (q_is_cat f0 (Or.inr rfl)), sl_1 (q_is_cat f1 (Or.inl rfl)), sl_1 (q_is_cat f2 (Or.inl rfl)), sl_1 (q_is_cat f3 (Or.inl rfl)), sl_0]; decide) ?_
  rw [la_1 (q_is_cat f0 (Or.inr rfl)), la_1 (q_is_cat f1 (Or.inl rfl)), la_1 (q_is_cat f2 (Or.inl rfl)), la_1 (q_is_cat f3 (Or.inl rfl)), la_0]
  obtain ⟨L, hL⟩ : ∃ L : QL, L = [(0, v0), (0 + 1, v1), (0 + 1 + 1, v2), (0 + 1 + 1 + 1, v3)] := ⟨_, rfl⟩
  rw [← hL]
  have l0 : q_lo L 0 = some v0 := by rw [hL]; rfl
  have l1 : q_lo L 1 = some v1 := by rw [hL]; rfl
  have l2 : q_lo L 2 = some v2 := by rw [hL]; rfl
  have l3 : q_lo L 3 = some v3 := by rw [hL]; rfl
  have hQ : Ext m0 rm → ∀ o S1, Rp S1 rm → q_out 9 o rz → (Cr 9 m0 rm rz) o S1 := fun a o S1 b e => ⟨b, a, e⟩
  unfold fm_X1_start at h
  refine go_aload_n (n := 0) (by decide +kernel) l0 f0 ?_
  refine go_iload_n (n := 1) (by decide +kernel) l1 f1 ?_
  obtain ⟨m_1, e_2, h⟩ := up_s h
  refine go_putf (x := 7) (ci := 2) (kf := 0) (fin := 0) (zt := 0) (by decide +kernel) (by decide +kernel) (by decide) (by decide +kernel) (by decide) (Or.inl rfl) R f0 f1 (fun hq => absurd hq (by decide)) g0 e_2 (fx_f (j := 0) R.2 g0 (by decide +kernel)) fun S_3 R_4 E_5 => ?_
  have E_7 := E_5
  refine go_aload_n (n := 0) (by decide +kernel) l0 f0 ?_
  refine go_iload_n (n := 2) (by decide +kernel) l2 f2 ?_
  have g_8 := Ext.ok E_5 g0
  obtain ⟨m_9, e_10, h⟩ := up_s h
  refine go_putf (x := 13) (ci := 2) (kf := 1) (fin := 0) (zt := 0) (by decide +kernel) (by decide +kernel) (by decide) (by decide +kernel) (by decide) (Or.inl rfl) R_4 f0 f2 (fun hq => absurd hq (by decide)) g_8 e_10 (fx_f (j := 1) R_4.2 g_8 (by decide +kernel)) fun S_11 R_12 E_13 => ?_
  have E_15 := Ext.tr E_7 E_13
  refine go_aload_n (n := 0) (by decide +kernel) l0 f0 ?_
  refine go_iload_n (n := 2) (by decide +kernel) l2 f2 ?_
  have g_16 := Ext.ok E_13 g_8
  obtain ⟨m_17, e_18, h⟩ := up_s h
  refine go_putf (x := 16) (ci := 2) (kf := 2) (fin := 0) (zt := 0) (by decide +kernel) (by decide +kernel) (by decide) (by decide +kernel) (by decide) (Or.inl rfl) R_12 f0 f2 (fun hq => absurd hq (by decide)) g_16 e_18 (fx_f (j := 2) R_12.2 g_16 (by decide +kernel)) fun S_19 R_20 E_21 => ?_
  have E_23 := Ext.tr E_15 E_21
  refine go_aload_n (n := 0) (by decide +kernel) l0 f0 ?_
  refine go_iconst (n := (-1)) (z := (-1)) (by decide +kernel) (by decide) fun v_24 f_25 => ?_
  have g_26 := Ext.ok E_21 g_16
  obtain ⟨m_27, e_28, h⟩ := up_s h
  refine go_putf (x := 19) (ci := 2) (kf := 3) (fin := 0) (zt := 0) (by decide +kernel) (by decide +kernel) (by decide) (by decide +kernel) (by decide) (Or.inl rfl) R_20 f0 f_25 (fun hq => absurd hq (by decide)) g_26 e_28 (fx_f (j := 3) R_20.2 g_26 (by decide +kernel)) fun S_29 R_30 E_31 => ?_
  have E_33 := Ext.tr E_23 E_31
  refine go_aload_n (n := 0) (by decide +kernel) l0 f0 ?_
  refine go_iload_n (n := 3) (by decide +kernel) l3 f3 ?_
  have g_34 := Ext.ok E_31 g_26
  obtain ⟨m_35, e_36, h⟩ := up_s h
  refine go_putf (x := 22) (ci := 2) (kf := 4) (fin := 0) (zt := 0) (by decide +kernel) (by decide +kernel) (by decide) (by decide +kernel) (by decide) (Or.inl rfl) R_30 f0 f3 (fun hq => absurd hq (by decide)) g_34 e_36 (fx_f (j := 4) R_30.2 g_34 (by decide +kernel)) fun S_37 R_38 E_39 => ?_
  have E_41 := Ext.tr E_33 E_39
  refine go_aload_n (n := 0) (by decide +kernel) l0 f0 ?_
  refine go_iconst (n := 0) (z := 0) (by decide +kernel) (by decide) fun v_42 f_43 => ?_
  have g_44 := Ext.ok E_39 g_34
  obtain ⟨m_45, e_46, h⟩ := up_s h
  refine go_putf (x := 25) (ci := 2) (kf := 5) (fin := 0) (zt := 0) (by decide +kernel) (by decide +kernel) (by decide) (by decide +kernel) (by decide) (Or.inl rfl) R_38 f0 f_43 (fun hq => absurd hq (by decide)) g_44 e_46 (fx_f (j := 5) R_38.2 g_44 (by decide +kernel)) fun S_47 R_48 E_49 => ?_
  have E_51 := Ext.tr E_41 E_49
  refine go_aload_n (n := 0) (by decide +kernel) l0 f0 ?_
  refine go_iconst (n := 0) (z := 0) (by decide +kernel) (by decide) fun v_52 f_53 => ?_
  have g_54 := Ext.ok E_49 g_44
  obtain ⟨m_55, e_56, h⟩ := up_s h
  refine go_putf (x := 28) (ci := 2) (kf := 6) (fin := 0) (zt := 1) (by decide +kernel) (by decide +kernel) (by decide) (by decide +kernel) (by decide) (Or.inl rfl) R_48 f0 f_53 (fun _ => by decide) g_54 e_56 (fx_f (j := 6) R_48.2 g_54 (by decide +kernel)) fun S_57 R_58 E_59 => ?_
  have E_61 := Ext.tr E_51 E_59
  refine go_aload_n (n := 0) (by decide +kernel) l0 f0 ?_
  refine go_iconst (n := 0) (z := 0) (by decide +kernel) (by decide) fun v_62 f_63 => ?_
  have g_64 := Ext.ok E_59 g_54
  obtain ⟨m_65, e_66, h⟩ := up_s h
  refine go_putf (x := 32) (ci := 2) (kf := 7) (fin := 0) (zt := 0) (by decide +kernel) (by decide +kernel) (by decide) (by decide +kernel) (by decide) (Or.inl rfl) R_58 f0 f_63 (fun hq => absurd hq (by decide)) g_64 e_66 (fx_f (j := 7) R_58.2 g_64 (by decide +kernel)) fun S_67 R_68 E_69 => ?_
  have E_71 := Ext.tr E_61 E_69
  refine go_aload_n (n := 0) (by decide +kernel) l0 f0 ?_
  refine go_iconst (n := 0) (z := 0) (by decide +kernel) (by decide) fun v_72 f_73 => ?_
  have g_74 := Ext.ok E_69 g_64
  obtain ⟨m_75, e_76, h⟩ := up_s h
  refine go_putf (x := 35) (ci := 2) (kf := 8) (fin := 0) (zt := 0) (by decide +kernel) (by decide +kernel) (by decide) (by decide +kernel) (by decide) (Or.inl rfl) R_68 f0 f_73 (fun hq => absurd hq (by decide)) g_74 e_76 (fx_f (j := 8) R_68.2 g_74 (by decide +kernel)) fun S_77 R_78 E_79 => ?_
  have E_81 := Ext.tr E_71 E_79
  refine go_aload_n (n := 0) (by decide +kernel) l0 f0 ?_
  refine go_iconst (n := 0) (z := 0) (by decide +kernel) (by decide) fun v_82 f_83 => ?_
  have g_84 := Ext.ok E_79 g_74
  obtain ⟨m_85, e_86, h⟩ := up_s h
  refine go_putf (x := 38) (ci := 2) (kf := 9) (fin := 0) (zt := 1) (by decide +kernel) (by decide +kernel) (by decide) (by decide +kernel) (by decide) (Or.inl rfl) R_78 f0 f_83 (fun _ => by decide) g_84 e_86 (fx_f (j := 9) R_78.2 g_84 (by decide +kernel)) fun S_87 R_88 E_89 => ?_
  have E_91 := Ext.tr E_81 E_89
  refine go_aload_n (n := 0) (by decide +kernel) l0 f0 ?_
  refine go_iconst (n := 0) (z := 0) (by decide +kernel) (by decide) fun v_92 f_93 => ?_
  have g_94 := Ext.ok E_89 g_84
  obtain ⟨m_95, e_96, h⟩ := up_s h
  refine go_putf (x := 41) (ci := 2) (kf := 10) (fin := 0) (zt := 0) (by decide +kernel) (by decide +kernel) (by decide) (by decide +kernel) (by decide) (Or.inl rfl) R_88 f0 f_93 (fun hq => absurd hq (by decide)) g_94 e_96 (fx_f (j := 10) R_88.2 g_94 (by decide +kernel)) fun S_97 R_98 E_99 => ?_
  have E_101 := Ext.tr E_91 E_99
  cases h
  exact go_vret (by decide +kernel) rfl (hQ E_101 _ _ R_98 q_out_n)
noncomputable def fm_X1_waitFor (p0 p1 p2 : Int) (m0 : MM) : Option (Int × MM) := up m0 p0 7 p1 fun m_1 =>
up m_1 p0 8 p2 fun m_9 =>
some (0, m_9)
set_option maxHeartbeats 4000000 in
theorem om_X1_waitFor {xs : List Int32} {d : Nat} {S : QS} {m0 : MM} {p0 p1 p2 : Int} {v0 : Value} {v1 : Value} {v2 : Value} {rz : Int} {rm : MM}
  (hd : 1 ≤ d) (R : Rp S m0) (g0 : okc m0 p0 2) (f0 : q_is 2 v0 p0) (f1 : q_is 0 v1 p1) (f2 : q_is 0 v2 p2)
  (h : fm_X1_waitFor p0 p1 p2 m0 = some (rz, rm)) : Mt xs d 4 [v0, v1, v2] S (Cr 9 m0 rm rz) := by
  obtain ⟨d, rfl⟩ : ∃ e, d = e + 1 := ⟨d - 1, by omega⟩
  have hd : 0 ≤ d := Nat.le_of_succ_le_succ hd
  refine Mt.of (M := qM_X1_waitFor) rfl (by rw [sl_1 (q_is_cat f0 (Or.inr rfl)), sl_1 (q_is_cat f1 (Or.inl rfl)), sl_1 (q_is_cat f2 (Or.inl rfl)), sl_0]; decide) ?_
  rw [la_1 (q_is_cat f0 (Or.inr rfl)), la_1 (q_is_cat f1 (Or.inl rfl)), la_1 (q_is_cat f2 (Or.inl rfl)), la_0]
  obtain ⟨L, hL⟩ : ∃ L : QL, L = [(0, v0), (0 + 1, v1), (0 + 1 + 1, v2)] := ⟨_, rfl⟩
  rw [← hL]
  have l0 : q_lo L 0 = some v0 := by rw [hL]; rfl
  have l1 : q_lo L 1 = some v1 := by rw [hL]; rfl
  have l2 : q_lo L 2 = some v2 := by rw [hL]; rfl
  have hQ : Ext m0 rm → ∀ o S1, Rp S1 rm → q_out 9 o rz → (Cr 9 m0 rm rz) o S1 := fun a o S1 b e => ⟨b, a, e⟩
  unfold fm_X1_waitFor at h
  refine go_aload_n (n := 0) (by decide +kernel) l0 f0 ?_
  refine go_iload_n (n := 1) (by decide +kernel) l1 f1 ?_
  obtain ⟨m_1, e_2, h⟩ := up_s h
  refine go_putf (x := 32) (ci := 2) (kf := 7) (fin := 0) (zt := 0) (by decide +kernel) (by decide +kernel) (by decide) (by decide +kernel) (by decide) (Or.inl rfl) R f0 f1 (fun hq => absurd hq (by decide)) g0 e_2 (fx_f (j := 7) R.2 g0 (by decide +kernel)) fun S_3 R_4 E_5 => ?_
  have E_7 := E_5
  refine go_aload_n (n := 0) (by decide +kernel) l0 f0 ?_
  refine go_iload_n (n := 2) (by decide +kernel) l2 f2 ?_
  have g_8 := Ext.ok E_5 g0
  obtain ⟨m_9, e_10, h⟩ := up_s h
  refine go_putf (x := 35) (ci := 2) (kf := 8) (fin := 0) (zt := 0) (by decide +kernel) (by decide +kernel) (by decide) (by decide +kernel) (by decide) (Or.inl rfl) R_4 f0 f2 (fun hq => absurd hq (by decide)) g_8 e_10 (fx_f (j := 8) R_4.2 g_8 (by decide +kernel)) fun S_11 R_12 E_13 => ?_
  have E_15 := Ext.tr E_7 E_13
  cases h
  exact go_vret (by decide +kernel) rfl (hQ E_15 _ _ R_12 q_out_n)
noncomputable def fm_X1_goOnAt (p0 p1 : Int) (m0 : MM) : Option (Int × MM) := up m0 p0 7 0 fun m_3 =>
up m_3 p0 4 p1 fun m_11 =>
some (0, m_11)
set_option maxHeartbeats 4000000 in
theorem om_X1_goOnAt {xs : List Int32} {d : Nat} {S : QS} {m0 : MM} {p0 p1 : Int} {v0 : Value} {v1 : Value} {rz : Int} {rm : MM}
  (hd : 1 ≤ d) (R : Rp S m0) (g0 : okc m0 p0 2) (f0 : q_is 2 v0 p0) (f1 : q_is 0 v1 p1)
  (h : fm_X1_goOnAt p0 p1 m0 = some (rz, rm)) : Mt xs d 5 [v0, v1] S (Cr 9 m0 rm rz) := by
  obtain ⟨d, rfl⟩ : ∃ e, d = e + 1 := ⟨d - 1, by omega⟩
  have hd : 0 ≤ d := Nat.le_of_succ_le_succ hd
  refine Mt.of (M := qM_X1_goOnAt) rfl (by rw [sl_1 (q_is_cat f0 (Or.inr rfl)), sl_1 (q_is_cat f1 (Or.inl rfl)), sl_0]; decide) ?_
  rw [la_1 (q_is_cat f0 (Or.inr rfl)), la_1 (q_is_cat f1 (Or.inl rfl)), la_0]
  obtain ⟨L, hL⟩ : ∃ L : QL, L = [(0, v0), (0 + 1, v1)] := ⟨_, rfl⟩
  rw [← hL]
  have l0 : q_lo L 0 = some v0 := by rw [hL]; rfl
  have l1 : q_lo L 1 = some v1 := by rw [hL]; rfl
  have hQ : Ext m0 rm → ∀ o S1, Rp S1 rm → q_out 9 o rz → (Cr 9 m0 rm rz) o S1 := fun a o S1 b e => ⟨b, a, e⟩
  unfold fm_X1_goOnAt at h
  refine go_aload_n (n := 0) (by decide +kernel) l0 f0 ?_
  refine go_iconst (n := 0) (z := 0) (by decide +kernel) (by decide) fun v_1 f_2 => ?_
  obtain ⟨m_3, e_4, h⟩ := up_s h
  refine go_putf (x := 32) (ci := 2) (kf := 7) (fin := 0) (zt := 0) (by decide +kernel) (by decide +kernel) (by decide) (by decide +kernel) (by decide) (Or.inl rfl) R f0 f_2 (fun hq => absurd hq (by decide)) g0 e_4 (fx_f (j := 7) R.2 g0 (by decide +kernel)) fun S_5 R_6 E_7 => ?_
  have E_9 := E_7
  refine go_aload_n (n := 0) (by decide +kernel) l0 f0 ?_
  refine go_iload_n (n := 1) (by decide +kernel) l1 f1 ?_
  have g_10 := Ext.ok E_7 g0
  obtain ⟨m_11, e_12, h⟩ := up_s h
  refine go_putf (x := 22) (ci := 2) (kf := 4) (fin := 0) (zt := 0) (by decide +kernel) (by decide +kernel) (by decide) (by decide +kernel) (by decide) (Or.inl rfl) R_6 f0 f1 (fun hq => absurd hq (by decide)) g_10 e_12 (fx_f (j := 4) R_6.2 g_10 (by decide +kernel)) fun S_13 R_14 E_15 => ?_
  have E_17 := Ext.tr E_9 E_15
  cases h
  exact go_vret (by decide +kernel) rfl (hQ E_17 _ _ R_14 q_out_n)
noncomputable def fm_J9_max_7cf53 (p0 p1 : Int) (m0 : MM) : Option Int := if p0 < p1 then
some p1
else
some p0
set_option maxHeartbeats 4000000 in
theorem om_J9_max_7cf53 {xs : List Int32} {d : Nat} {S : QS} {m0 : MM} {p0 p1 : Int} {v0 : Value} {v1 : Value} {rz : Int}
  (hd : 1 ≤ d) (R : Rp S m0) (f0 : q_is 0 v0 p0) (f1 : q_is 0 v1 p1)
  (h : fm_J9_max_7cf53 p0 p1 m0 = some rz) : Mt xs d 319 [v0, v1] S (Cr 0 m0 m0 rz) := by
  obtain ⟨d, rfl⟩ : ∃ e, d = e + 1 := ⟨d - 1, by omega⟩
  have hd : 0 ≤ d := Nat.le_of_succ_le_succ hd
  refine Mt.of (M := qM_J9_max_7cf53) rfl (by rw [sl_1 (q_is_cat f0 (Or.inl rfl)), sl_1 (q_is_cat f1 (Or.inl rfl)), sl_0]; decide) ?_
  rw [la_1 (q_is_cat f0 (Or.inl rfl)), la_1 (q_is_cat f1 (Or.inl rfl)), la_0]
  obtain ⟨L, hL⟩ : ∃ L : QL, L = [(0, v0), (0 + 1, v1)] := ⟨_, rfl⟩
  rw [← hL]
  have l0 : q_lo L 0 = some v0 := by rw [hL]; rfl
  have l1 : q_lo L 1 = some v1 := by rw [hL]; rfl
  have hQ : ∀ o S1, Rp S1 m0 → q_out 0 o rz → (Cr 0 m0 m0 rz) o S1 := fun o S1 a b => ⟨a, Ext.rf _, b⟩
  unfold fm_J9_max_7cf53 at h
  refine go_iload_n (n := 0) (by decide +kernel) l0 f0 ?_
  refine go_iload_n (n := 1) (by decide +kernel) l1 f1 ?_
  refine go_icmp (c := .lt) (o := 7) (t := 9) (P := p0 < p1) (by decide +kernel) (by decide +kernel) f0 f1 (Iff.rfl) (fun hp_1 => ?_) (fun hp_1 => ?_)
  · have h := it_t hp_1 h
    refine go_iload_n (n := 1) (by decide +kernel) l1 f1 ?_
    cases h
    exact go_iret (by decide +kernel) rfl (Or.inl rfl) f1 (hQ _ _ R (q_out_v (by decide) f1))
  · have h := it_f hp_1 h
    refine go_iload_n (n := 0) (by decide +kernel) l0 f0 ?_
    refine go_goto (o := 4) (t := 10) (by decide +kernel) (by decide +kernel) ?_
    cases h
    exact go_iret (by decide +kernel) rfl (Or.inl rfl) f0 (hQ _ _ R (q_out_v (by decide) f0))
noncomputable def fj_X1_isBare_33 (p0 s0 : Int) (m : MM) : Option (Int × MM) := lx (m p0 6) fun x_44 =>
if x_44 = 0 then
up m p0 6 0 fun m_49 =>
gd (s0 = 0 ∨ s0 = 1) <| some (s0, m_49)
else
if s0 = 0 then
up m p0 6 1 fun m_70 =>
gd (s0 = 0 ∨ s0 = 1) <| some (s0, m_70)
else
up m p0 6 0 fun m_60 =>
gd (s0 = 0 ∨ s0 = 1) <| some (s0, m_60)
set_option maxHeartbeats 4000000 in
theorem oj_X1_isBare_33 {xs : List Int32} {d : Nat} {S : QS} {L : QL} {Q : QO → QS → Prop} {m : MM} {p0 s0 : Int} {v0 : Value} {w0 : Value}  {rz : Int} {rm : MM}
  (hd : 1 ≤ d) (R : Rp S m) (g0 : okc m p0 2) (l0 : q_lo L 0 = some v0) (f0 : q_is 2 v0 p0) (fs0 : q_is 0 w0 s0)
  (hQ : Ext m rm → ∀ o S1, Rp S1 rm → q_out 0 o rz → Q o S1)
  (h : fj_X1_isBare_33 p0 s0 m = some (rz, rm)) : Go xs d qM_X1_isBare 33 L [w0] S Q := by
  unfold fj_X1_isBare_33 at h
  refine go_istore_n (n := 1) (by decide +kernel) (by decide +kernel) fs0 fun L_37 l_38 kp_39 => ?_
  have l_40 := kp_39 0 _ l0 (by decide) (Or.inr (q_is_cat f0 (Or.inr rfl)))
  refine go_aload_n (n := 0) (by decide +kernel) l_40 f0 ?_
  refine go_aload_n (n := 0) (by decide +kernel) l_40 f0 ?_
  obtain ⟨x_44, e_45, h⟩ := lx_s h
  refine go_getf (x := 28) (ci := 2) (kf := 6) (fin := 0) (t := 0) (by decide +kernel) (by decide +kernel) (by decide +kernel) R f0 g0 fun v_41 f_42 => ?_
  have f_43 := q_is_eq f_42 e_45
  refine go_if (c := .eq) (o := 11) (t := 50) (P := x_44 = 0) (by decide +kernel) (by decide +kernel) f_43 (Iff.rfl) (fun hp_46 => ?_) (fun hp_46 => ?_)
  · have h := it_t hp_46 h
    refine go_iconst (n := 0) (z := 0) (by decide +kernel) (by decide) fun v_47 f_48 => ?_
    obtain ⟨m_49, e_50, h⟩ := up_s h
    refine go_putf (x := 28) (ci := 2) (kf := 6) (fin := 0) (zt := 1) (by decide +kernel) (by decide +kernel) (by decide) (by decide +kernel) (by decide) (Or.inl rfl) R f0 f_48 (fun _ => by decide) g0 e_50 (fx_f (j := 6) R.2 g0 (by decide +kernel)) fun S_51 R_52 E_53 => ?_
    have E_55 := E_53
    refine go_iload_n (n := 1) (by decide +kernel) l_38 fs0 ?_
    obtain ⟨g_56, h⟩ := gd_s h
    cases h
    exact go_iret (by decide +kernel) rfl (Or.inr ⟨rfl, g_56⟩) fs0 (hQ E_55 _ _ R_52 (q_out_v (by decide) fs0))
  · have h := it_f hp_46 h
    refine go_iload_n (n := 1) (by decide +kernel) l_38 fs0 ?_
    refine go_if (c := .ne) (o := 7) (t := 50) (P := ¬ (s0 = 0)) (by decide +kernel) (by decide +kernel) fs0 (Iff.rfl) (fun hp_57 => ?_) (fun hp_57 => ?_)
    · have h := it_f hp_57 h
      refine go_iconst (n := 0) (z := 0) (by decide +kernel) (by decide) fun v_58 f_59 => ?_
      obtain ⟨m_60, e_61, h⟩ := up_s h
      refine go_putf (x := 28) (ci := 2) (kf := 6) (fin := 0) (zt := 1) (by decide +kernel) (by decide +kernel) (by decide) (by decide +kernel) (by decide) (Or.inl rfl) R f0 f_59 (fun _ => by decide) g0 e_61 (fx_f (j := 6) R.2 g0 (by decide +kernel)) fun S_62 R_63 E_64 => ?_
      have E_66 := E_64
      refine go_iload_n (n := 1) (by decide +kernel) l_38 fs0 ?_
      obtain ⟨g_67, h⟩ := gd_s h
      cases h
      exact go_iret (by decide +kernel) rfl (Or.inr ⟨rfl, g_67⟩) fs0 (hQ E_66 _ _ R_63 (q_out_v (by decide) fs0))
    · have h := it_n hp_57 h
      refine go_iconst (n := 1) (z := 1) (by decide +kernel) (by decide) fun v_68 f_69 => ?_
      refine go_goto (o := 4) (t := 51) (by decide +kernel) (by decide +kernel) ?_
      obtain ⟨m_70, e_71, h⟩ := up_s h
      refine go_putf (x := 28) (ci := 2) (kf := 6) (fin := 0) (zt := 1) (by decide +kernel) (by decide +kernel) (by decide) (by decide +kernel) (by decide) (Or.inl rfl) R f0 f_69 (fun _ => by decide) g0 e_71 (fx_f (j := 6) R.2 g0 (by decide +kernel)) fun S_72 R_73 E_74 => ?_
      have E_76 := E_74
      refine go_iload_n (n := 1) (by decide +kernel) l_38 fs0 ?_
      obtain ⟨g_77, h⟩ := gd_s h
      cases h
      exact go_iret (by decide +kernel) rfl (Or.inr ⟨rfl, g_77⟩) fs0 (hQ E_76 _ _ R_73 (q_out_v (by decide) fs0))
noncomputable def fm_X1_isBare (p0 : Int) (m0 : MM) : Option (Int × MM) := lx (m0 p0 5) fun x_6 =>
bp (fm_J9_max_7cf53 0 (w32 (x_6 - 1)) m0) fun x_13 =>
up m0 p0 5 x_13 fun m_21 =>
lx (m_21 p0 6) fun x_32 =>
if x_32 = 0 then
fj_X1_isBare_33 p0 0 m_21
else
lx (m_21 p0 5) fun x_81 =>
if x_81 = 0 then
fj_X1_isBare_33 p0 1 m_21
else
fj_X1_isBare_33 p0 0 m_21
set_option maxHeartbeats 4000000 in
theorem om_X1_isBare {xs : List Int32} {d : Nat} {S : QS} {m0 : MM} {p0 : Int} {v0 : Value} {rz : Int} {rm : MM}
  (hd : 2 ≤ d) (R : Rp S m0) (g0 : okc m0 p0 2) (f0 : q_is 2 v0 p0)
  (h : fm_X1_isBare p0 m0 = some (rz, rm)) : Mt xs d 6 [v0] S (Cr 0 m0 rm rz) := by
  obtain ⟨d, rfl⟩ : ∃ e, d = e + 1 := ⟨d - 1, by omega⟩
  have hd : 1 ≤ d := Nat.le_of_succ_le_succ hd
  refine Mt.of (M := qM_X1_isBare) rfl (by rw [sl_1 (q_is_cat f0 (Or.inr rfl)), sl_0]; decide) ?_
  rw [la_1 (q_is_cat f0 (Or.inr rfl)), la_0]
  obtain ⟨L, hL⟩ : ∃ L : QL, L = [(0, v0)] := ⟨_, rfl⟩
  rw [← hL]
  have l0 : q_lo L 0 = some v0 := by rw [hL]; rfl
  have hQ : Ext m0 rm → ∀ o S1, Rp S1 rm → q_out 0 o rz → (Cr 0 m0 rm rz) o S1 := fun a o S1 b e => ⟨b, a, e⟩
  unfold fm_X1_isBare at h
  refine go_aload_n (n := 0) (by decide +kernel) l0 f0 ?_
  refine go_iconst (n := 0) (z := 0) (by decide +kernel) (by decide) fun v_1 f_2 => ?_
  refine go_aload_n (n := 0) (by decide +kernel) l0 f0 ?_
  obtain ⟨x_6, e_7, h⟩ := lx_s h
  refine go_getf (x := 25) (ci := 2) (kf := 5) (fin := 0) (t := 0) (by decide +kernel) (by decide +kernel) (by decide +kernel) R f0 g0 fun v_3 f_4 => ?_
  have f_5 := q_is_eq f_4 e_7
  refine go_iconst (n := 1) (z := 1) (by decide +kernel) (by decide) fun v_8 f_9 => ?_
  refine go_isub (by decide +kernel) f_5 f_9 fun v_10 f_11 => ?_
  obtain ⟨x_13, hc_12, h⟩ := bp_s h
  refine go_callS (x := 44) (mi := 319) (n := 2) (b := 0) (as := [v_1, v_10]) (rest := [v0]) (by decide +kernel) (by decide +kernel) rfl rfl (q_sum8 _ (Nat.le_of_ble_eq_true rfl)) (om_J9_max_7cf53 (Nat.le_trans (by decide) hd) R f_2 f_11 hc_12) (fun _ S_17 q_20 => ?_) (fun _ _ qq => kr_x qq)
  refine kr_z (by decide) q_20 fun v_15 f_16 R_18 E_19 => ?_
  obtain ⟨m_21, e_22, h⟩ := up_s h
  refine go_putf (x := 25) (ci := 2) (kf := 5) (fin := 0) (zt := 0) (by decide +kernel) (by decide +kernel) (by decide) (by decide +kernel) (by decide) (Or.inl rfl) R_18 f0 f_16 (fun hq => absurd hq (by decide)) g0 e_22 (fx_f (j := 5) R_18.2 g0 (by decide +kernel)) fun S_23 R_24 E_25 => ?_
  have E_27 := E_25
  refine go_aload_n (n := 0) (by decide +kernel) l0 f0 ?_
  have g_30 := Ext.ok E_25 g0
  obtain ⟨x_32, e_33, h⟩ := lx_s h
  refine go_getf (x := 28) (ci := 2) (kf := 6) (fin := 0) (t := 0) (by decide +kernel) (by decide +kernel) (by decide +kernel) R_24 f0 g_30 fun v_28 f_29 => ?_
  have f_31 := q_is_eq f_29 e_33
  refine go_if (c := .eq) (o := 14) (t := 32) (P := x_32 = 0) (by decide +kernel) (by decide +kernel) f_31 (Iff.rfl) (fun hp_34 => ?_) (fun hp_34 => ?_)
  · have h := it_t hp_34 h
    refine go_iconst (n := 0) (z := 0) (by decide +kernel) (by decide) fun v_35 f_36 => ?_
    exact oj_X1_isBare_33 hd R_24 g_30 l0 f0 f_36 (fun b => hQ (Ext.tr E_27 b)) h
  · have h := it_f hp_34 h
    refine go_aload_n (n := 0) (by decide +kernel) l0 f0 ?_
    obtain ⟨x_81, e_82, h⟩ := lx_s h
    refine go_getf (x := 25) (ci := 2) (kf := 5) (fin := 0) (t := 0) (by decide +kernel) (by decide +kernel) (by decide +kernel) R_24 f0 g_30 fun v_78 f_79 => ?_
    have f_80 := q_is_eq f_79 e_82
    refine go_if (c := .ne) (o := 7) (t := 32) (P := ¬ (x_81 = 0)) (by decide +kernel) (by decide +kernel) f_80 (Iff.rfl) (fun hp_83 => ?_) (fun hp_83 => ?_)
    · have h := it_f hp_83 h
      refine go_iconst (n := 0) (z := 0) (by decide +kernel) (by decide) fun v_84 f_85 => ?_
      exact oj_X1_isBare_33 hd R_24 g_30 l0 f0 f_85 (fun b => hQ (Ext.tr E_27 b)) h
    · have h := it_n hp_83 h
      refine go_iconst (n := 1) (z := 1) (by decide +kernel) (by decide) fun v_86 f_87 => ?_
      refine go_goto (o := 4) (t := 33) (by decide +kernel) (by decide +kernel) ?_
      exact oj_X1_isBare_33 hd R_24 g_30 l0 f0 f_87 (fun b => hQ (Ext.tr E_27 b)) h
noncomputable def fm_X1_waitsForEvent (p0 : Int) (m0 : MM) : Option Int := lx (m0 p0 7) fun x_4 =>
if x_4 = 1 then
some 1
else
if x_4 = 2 then
some 1
else
some 0
set_option maxHeartbeats 4000000 in
theorem om_X1_waitsForEvent {xs : List Int32} {d : Nat} {S : QS} {m0 : MM} {p0 : Int} {v0 : Value} {rz : Int}
  (hd : 1 ≤ d) (R : Rp S m0) (g0 : okc m0 p0 2) (f0 : q_is 2 v0 p0)
  (h : fm_X1_waitsForEvent p0 m0 = some rz) : Mt xs d 7 [v0] S (Cr 0 m0 m0 rz) := by
  obtain ⟨d, rfl⟩ : ∃ e, d = e + 1 := ⟨d - 1, by omega⟩
  have hd : 0 ≤ d := Nat.le_of_succ_le_succ hd
  refine Mt.of (M := qM_X1_waitsForEvent) rfl (by rw [sl_1 (q_is_cat f0 (Or.inr rfl)), sl_0]; decide) ?_
  rw [la_1 (q_is_cat f0 (Or.inr rfl)), la_0]
  obtain ⟨L, hL⟩ : ∃ L : QL, L = [(0, v0)] := ⟨_, rfl⟩
  rw [← hL]
  have l0 : q_lo L 0 = some v0 := by rw [hL]; rfl
  have hQ : ∀ o S1, Rp S1 m0 → q_out 0 o rz → (Cr 0 m0 m0 rz) o S1 := fun o S1 a b => ⟨a, Ext.rf _, b⟩
  unfold fm_X1_waitsForEvent at h
  refine go_aload_n (n := 0) (by decide +kernel) l0 f0 ?_
  obtain ⟨x_4, e_5, h⟩ := lx_s h
  refine go_getf (x := 32) (ci := 2) (kf := 7) (fin := 0) (t := 0) (by decide +kernel) (by decide +kernel) (by decide +kernel) R f0 g0 fun v_1 f_2 => ?_
  have f_3 := q_is_eq f_2 e_5
  refine go_iconst (n := 1) (z := 1) (by decide +kernel) (by decide) fun v_6 f_7 => ?_
  refine go_icmp (c := .eq) (o := 11) (t := 16) (P := x_4 = 1) (by decide +kernel) (by decide +kernel) f_3 f_7 (Iff.rfl) (fun hp_8 => ?_) (fun hp_8 => ?_)
  · have h := it_t hp_8 h
    refine go_iconst (n := 1) (z := 1) (by decide +kernel) (by decide) fun v_9 f_10 => ?_
    refine go_goto (o := 4) (t := 21) (by decide +kernel) (by decide +kernel) ?_
    cases h
    exact go_iret (by decide +kernel) rfl (Or.inr ⟨rfl, by decide⟩) f_10 (hQ _ _ R (q_out_v (by decide) f_10))
  · have h := it_f hp_8 h
    refine go_aload_n (n := 0) (by decide +kernel) l0 f0 ?_
    refine go_getf (x := 32) (ci := 2) (kf := 7) (fin := 0) (t := 0) (by decide +kernel) (by decide +kernel) (by decide +kernel) R f0 g0 fun v_11 f_12 => ?_
    have f_13 := q_is_eq f_12 e_5
    refine go_iconst (n := 2) (z := 2) (by decide +kernel) (by decide) fun v_14 f_15 => ?_
    refine go_icmp (c := .ne) (o := 7) (t := 20) (P := ¬ (x_4 = 2)) (by decide +kernel) (by decide +kernel) f_13 f_15 (Iff.rfl) (fun hp_16 => ?_) (fun hp_16 => ?_)
    · have h := it_f hp_16 h
      refine go_iconst (n := 0) (z := 0) (by decide +kernel) (by decide) fun v_17 f_18 => ?_
      cases h
      exact go_iret (by decide +kernel) rfl (Or.inr ⟨rfl, by decide⟩) f_18 (hQ _ _ R (q_out_v (by decide) f_18))
    · have h := it_n hp_16 h
      refine go_iconst (n := 1) (z := 1) (by decide +kernel) (by decide) fun v_19 f_20 => ?_
      refine go_goto (o := 4) (t := 21) (by decide +kernel) (by decide +kernel) ?_
      cases h
      exact go_iret (by decide +kernel) rfl (Or.inr ⟨rfl, by decide⟩) f_20 (hQ _ _ R (q_out_v (by decide) f_20))
noncomputable def fm_X2_init (p0 p1 : Int) (m0 : MM) : Option (Int × MM) := up m0 p0 1 0 fun m_3 =>
up m_3 p0 2 0 fun m_13 =>
up m_13 p0 3 0 fun m_23 =>
up m_23 p0 4 0 fun m_33 =>
gd (163 ≤ p0) <| up m_33 p0 0 p1 fun m_42 =>
some (0, m_42)
set_option maxHeartbeats 4000000 in
theorem om_X2_init {xs : List Int32} {d : Nat} {S : QS} {m0 : MM} {p0 p1 : Int} {v0 : Value} {v1 : Value} {rz : Int} {rm : MM}
  (hd : 1 ≤ d) (R : Rp S m0) (g0 : okc m0 p0 3) (f0 : q_is 2 v0 p0) (f1 : q_is 2 v1 p1)
  (h : fm_X2_init p0 p1 m0 = some (rz, rm)) : Mt xs d 8 [v0, v1] S (Cr 9 m0 rm rz) := by
  obtain ⟨d, rfl⟩ : ∃ e, d = e + 1 := ⟨d - 1, by omega⟩
  have hd : 0 ≤ d := Nat.le_of_succ_le_succ hd
  refine Mt.of (M := qM_X2_init) rfl (by rw [sl_1 (q_is_cat f0 (Or.inr rfl)), sl_1 (q_is_cat f1 (Or.inr rfl)), sl_0]; decide) ?_
  rw [la_1 (q_is_cat f0 (Or.inr rfl)), la_1 (q_is_cat f1 (Or.inr rfl)), la_0]
  obtain ⟨L, hL⟩ : ∃ L : QL, L = [(0, v0), (0 + 1, v1)] := ⟨_, rfl⟩
  rw [← hL]
  have l0 : q_lo L 0 = some v0 := by rw [hL]; rfl
  have l1 : q_lo L 1 = some v1 := by rw [hL]; rfl
  have hQ : Ext m0 rm → ∀ o S1, Rp S1 rm → q_out 9 o rz → (Cr 9 m0 rm rz) o S1 := fun a o S1 b e => ⟨b, a, e⟩
  unfold fm_X2_init at h
  refine go_aload_n (n := 0) (by decide +kernel) l0 f0 ?_
  refine go_oinit (x := 3) (a := 0) (b := 0) (e := 0) (by decide +kernel) (by decide +kernel) f0 (okc_ne g0) (q_sum8 _ (Nat.le_of_ble_eq_true rfl)) ?_
  refine go_aload_n (n := 0) (by decide +kernel) l0 f0 ?_
  refine go_iconst (n := 0) (z := 0) (by decide +kernel) (by decide) fun v_1 f_2 => ?_
  obtain ⟨m_3, e_4, h⟩ := up_s h
  refine go_putf (x := 9) (ci := 3) (kf := 1) (fin := 0) (zt := 0) (by decide +kernel) (by decide +kernel) (by decide) (by decide +kernel) (by decide) (Or.inl rfl) R f0 f_2 (fun hq => absurd hq (by decide)) g0 e_4 (fx_f (j := 1) R.2 g0 (by decide +kernel)) fun S_5 R_6 E_7 => ?_
  have E_9 := E_7
  refine go_aload_n (n := 0) (by decide +kernel) l0 f0 ?_
  refine go_iconst (n := 0) (z := 0) (by decide +kernel) (by decide) fun v_10 f_11 => ?_
  have g_12 := Ext.ok E_7 g0
  obtain ⟨m_13, e_14, h⟩ := up_s h
  refine go_putf (x := 13) (ci := 3) (kf := 2) (fin := 0) (zt := 0) (by decide +kernel) (by decide +kernel) (by decide) (by decide +kernel) (by decide) (Or.inl rfl) R_6 f0 f_11 (fun hq => absurd hq (by decide)) g_12 e_14 (fx_f (j := 2) R_6.2 g_12 (by decide +kernel)) fun S_15 R_16 E_17 => ?_
  have E_19 := Ext.tr E_9 E_17
  refine go_aload_n (n := 0) (by decide +kernel) l0 f0 ?_
  refine go_iconst (n := 0) (z := 0) (by decide +kernel) (by decide) fun v_20 f_21 => ?_
  have g_22 := Ext.ok E_17 g_12
  obtain ⟨m_23, e_24, h⟩ := up_s h
  refine go_putf (x := 16) (ci := 3) (kf := 3) (fin := 0) (zt := 0) (by decide +kernel) (by decide +kernel) (by decide) (by decide +kernel) (by decide) (Or.inl rfl) R_16 f0 f_21 (fun hq => absurd hq (by decide)) g_22 e_24 (fx_f (j := 3) R_16.2 g_22 (by decide +kernel)) fun S_25 R_26 E_27 => ?_
  have E_29 := Ext.tr E_19 E_27
  refine go_aload_n (n := 0) (by decide +kernel) l0 f0 ?_
  refine go_iconst (n := 0) (z := 0) (by decide +kernel) (by decide) fun v_30 f_31 => ?_
  have g_32 := Ext.ok E_27 g_22
  obtain ⟨m_33, e_34, h⟩ := up_s h
  refine go_putf (x := 19) (ci := 3) (kf := 4) (fin := 0) (zt := 0) (by decide +kernel) (by decide +kernel) (by decide) (by decide +kernel) (by decide) (Or.inl rfl) R_26 f0 f_31 (fun hq => absurd hq (by decide)) g_32 e_34 (fx_f (j := 4) R_26.2 g_32 (by decide +kernel)) fun S_35 R_36 E_37 => ?_
  have E_39 := Ext.tr E_29 E_37
  refine go_aload_n (n := 0) (by decide +kernel) l0 f0 ?_
  refine go_aload_n (n := 1) (by decide +kernel) l1 f1 ?_
  have g_40 := Ext.ok E_37 g_32
  obtain ⟨g_41, h⟩ := gd_s h
  obtain ⟨m_42, e_43, h⟩ := up_s h
  refine go_putf (x := 22) (ci := 3) (kf := 0) (fin := 1) (zt := 2) (by decide +kernel) (by decide +kernel) (by decide) (by decide +kernel) (by decide) (Or.inr ⟨rfl, rfl⟩) R_36 f0 f1 (fun hq => absurd hq (by decide)) g_40 e_43 (fx_new R_36.2 g_41 (by decide)) fun S_44 R_45 E_46 => ?_
  have E_48 := Ext.tr E_39 E_46
  cases h
  exact go_vret (by decide +kernel) rfl (hQ E_48 _ _ R_45 q_out_n)
noncomputable def fm_X5_wide (p0 p1 : Int) (m0 : MM) : Option Int := lx (iShr p1 6) fun x_5 =>
lx (iAnd p1 63) fun x_17 =>
if p1 < 0 then
some 0
else
lx (m0 p0 2) fun x_32 =>
if p1 < x_32 then
lx (m0 p0 0) fun x_40 =>
gd (okc m0 x_40 108) <| if x_5 < w32 (m0 x_40 (-2)) then
gd (okx m0 x_40 x_5) <| lx (m0 x_40 x_5) fun x_55 =>
if x_55 = 0 then
some 0
else
gd (okc m0 x_55 101) <| if x_17 < w32 (m0 x_55 (-2)) then
gd (okx m0 x_55 x_17) <| lx (m0 x_55 x_17) fun x_80 =>
some x_80
else
some 0
else
some 0
else
some 0
set_option maxHeartbeats 4000000 in
theorem om_X5_wide {xs : List Int32} {d : Nat} {S : QS} {m0 : MM} {p0 p1 : Int} {v0 : Value} {v1 : Value} {rz : Int}
  (hd : 1 ≤ d) (R : Rp S m0) (g0 : okc m0 p0 6) (f0 : q_is 2 v0 p0) (f1 : q_is 0 v1 p1)
  (h : fm_X5_wide p0 p1 m0 = some rz) : Mt xs d 58 [v0, v1] S (Cr 1 m0 m0 rz) := by
  obtain ⟨d, rfl⟩ : ∃ e, d = e + 1 := ⟨d - 1, by omega⟩
  have hd : 0 ≤ d := Nat.le_of_succ_le_succ hd
  refine Mt.of (M := qM_X5_wide) rfl (by rw [sl_1 (q_is_cat f0 (Or.inr rfl)), sl_1 (q_is_cat f1 (Or.inl rfl)), sl_0]; decide) ?_
  rw [la_1 (q_is_cat f0 (Or.inr rfl)), la_1 (q_is_cat f1 (Or.inl rfl)), la_0]
  obtain ⟨L, hL⟩ : ∃ L : QL, L = [(0, v0), (0 + 1, v1)] := ⟨_, rfl⟩
  rw [← hL]
  have l0 : q_lo L 0 = some v0 := by rw [hL]; rfl
  have l1 : q_lo L 1 = some v1 := by rw [hL]; rfl
  have hQ : ∀ o S1, Rp S1 m0 → q_out 1 o rz → (Cr 1 m0 m0 rz) o S1 := fun o S1 a b => ⟨a, Ext.rf _, b⟩
  unfold fm_X5_wide at h
  refine go_iload_n (n := 1) (by decide +kernel) l1 f1 ?_
  refine go_bipush (n := 6) (z := 6) (by decide +kernel) (by decide) fun v_1 f_2 => ?_
  refine go_ishr (by decide +kernel) f1 f_2 fun v_3 f_4 => ?_
  obtain ⟨x_5, e_6, h⟩ := lx_s h
  have f_7 := q_is_eq f_4 e_6
  refine go_istore_n (n := 2) (by decide +kernel) (by decide +kernel) f_7 fun L_8 l_9 kp_10 => ?_
  have l_11 := kp_10 0 _ l0 (by decide) (Or.inl (by decide))
  have l_12 := kp_10 1 _ l1 (by decide) (Or.inr (q_is_cat f1 (Or.inl rfl)))
  refine go_iload_n (n := 1) (by decide +kernel) l_12 f1 ?_
  refine go_bipush (n := 63) (z := 63) (by decide +kernel) (by decide) fun v_13 f_14 => ?_
  refine go_iand (by decide +kernel) f1 f_14 fun v_15 f_16 => ?_
  obtain ⟨x_17, e_18, h⟩ := lx_s h
  have f_19 := q_is_eq f_16 e_18
  refine go_istore_n (n := 3) (by decide +kernel) (by decide +kernel) f_19 fun L_20 l_21 kp_22 => ?_
  have l_23 := kp_22 0 _ l_11 (by decide) (Or.inl (by decide))
  have l_24 := kp_22 1 _ l_12 (by decide) (Or.inl (by decide))
  have l_25 := kp_22 2 _ l_9 (by decide) (Or.inr (q_is_cat f_7 (Or.inl rfl)))
  refine go_iload_n (n := 1) (by decide +kernel) l_24 f1 ?_
  refine go_if (c := .lt) (o := 40) (t := 51) (P := p1 < 0) (by decide +kernel) (by decide +kernel) f1 (Iff.rfl) (fun hp_26 => ?_) (fun hp_26 => ?_)
  · have h := it_t hp_26 h
    refine go_lconst (n := 0) (z := 0) (by decide +kernel) (by decide) fun v_27 f_28 => ?_
    cases h
    exact go_lret (by decide +kernel) rfl f_28 (hQ _ _ R (q_out_v (by decide) f_28))
  · have h := it_f hp_26 h
    refine go_iload_n (n := 1) (by decide +kernel) l_24 f1 ?_
    refine go_aload_n (n := 0) (by decide +kernel) l_23 f0 ?_
    obtain ⟨x_32, e_33, h⟩ := lx_s h
    refine go_getf (x := 19) (ci := 6) (kf := 2) (fin := 0) (t := 0) (by decide +kernel) (by decide +kernel) (by decide +kernel) R f0 g0 fun v_29 f_30 => ?_
    have f_31 := q_is_eq f_30 e_33
    refine go_icmp (c := .ge) (o := 32) (t := 51) (P := ¬ (p1 < x_32)) (by decide +kernel) (by decide +kernel) f1 f_31 (Int.not_lt.symm) (fun hp_34 => ?_) (fun hp_34 => ?_)
    · have h := it_f hp_34 h
      refine go_lconst (n := 0) (z := 0) (by decide +kernel) (by decide) fun v_35 f_36 => ?_
      cases h
      exact go_lret (by decide +kernel) rfl f_36 (hQ _ _ R (q_out_v (by decide) f_36))
    · have h := it_n hp_34 h
      refine go_iload_n (n := 2) (by decide +kernel) l_25 f_7 ?_
      refine go_aload_n (n := 0) (by decide +kernel) l_23 f0 ?_
      obtain ⟨x_40, e_41, h⟩ := lx_s h
      refine go_getf (x := 11) (ci := 6) (kf := 0) (fin := 0) (t := 2) (by decide +kernel) (by decide +kernel) (by decide +kernel) R f0 g0 fun v_37 f_38 => ?_
      have f_39 := q_is_eq f_38 e_41
      obtain ⟨g_44, h⟩ := gd_s h
      refine go_alen (by decide +kernel) R f_39 (okl_of g_44 (by decide)) fun v_42 f_43 => ?_
      refine go_icmp (c := .ge) (o := 23) (t := 51) (P := ¬ (x_5 < w32 (m0 x_40 (-2)))) (by decide +kernel) (by decide +kernel) f_7 f_43 (Int.not_lt.symm) (fun hp_45 => ?_) (fun hp_45 => ?_)
      · have h := it_f hp_45 h
        refine go_lconst (n := 0) (z := 0) (by decide +kernel) (by decide) fun v_46 f_47 => ?_
        cases h
        exact go_lret (by decide +kernel) rfl f_47 (hQ _ _ R (q_out_v (by decide) f_47))
      · have h := it_n hp_45 h
        refine go_aload_n (n := 0) (by decide +kernel) l_23 f0 ?_
        refine go_getf (x := 11) (ci := 6) (kf := 0) (fin := 0) (t := 2) (by decide +kernel) (by decide +kernel) (by decide +kernel) R f0 g0 fun v_48 f_49 => ?_
        have f_50 := q_is_eq f_49 e_41
        refine go_iload_n (n := 2) (by decide +kernel) l_25 f_7 ?_
        obtain ⟨g_53, h⟩ := gd_s h
        obtain ⟨x_55, e_56, h⟩ := lx_s h
        refine go_aald (kd := 108) (by decide +kernel) (by decide) R f_50 f_7 g_44 g_53 fun v_51 f_52 => ?_
        have f_54 := q_is_eq f_52 e_56
        refine go_ifnull (o := 14) (t := 51) (by decide +kernel) (by decide +kernel) f_54 (fun hp_57 => ?_) (fun hp_57 => ?_)
        · have h := it_t hp_57 h
          refine go_lconst (n := 0) (z := 0) (by decide +kernel) (by decide) fun v_58 f_59 => ?_
          cases h
          exact go_lret (by decide +kernel) rfl f_59 (hQ _ _ R (q_out_v (by decide) f_59))
        · have h := it_f hp_57 h
          refine go_iload_n (n := 3) (by decide +kernel) l_21 f_19 ?_
          refine go_aload_n (n := 0) (by decide +kernel) l_23 f0 ?_
          refine go_getf (x := 11) (ci := 6) (kf := 0) (fin := 0) (t := 2) (by decide +kernel) (by decide +kernel) (by decide +kernel) R f0 g0 fun v_60 f_61 => ?_
          have f_62 := q_is_eq f_61 e_41
          refine go_iload_n (n := 2) (by decide +kernel) l_25 f_7 ?_
          refine go_aald (kd := 108) (by decide +kernel) (by decide) R f_62 f_7 g_44 g_53 fun v_63 f_64 => ?_
          have f_65 := q_is_eq f_64 e_56
          obtain ⟨g_68, h⟩ := gd_s h
          refine go_alen (by decide +kernel) R f_65 (okl_of g_68 (by decide)) fun v_66 f_67 => ?_
          refine go_icmp (c := .lt) (o := 5) (t := 53) (P := x_17 < w32 (m0 x_55 (-2))) (by decide +kernel) (by decide +kernel) f_19 f_67 (Iff.rfl) (fun hp_69 => ?_) (fun hp_69 => ?_)
          · have h := it_t hp_69 h
            refine go_aload_n (n := 0) (by decide +kernel) l_23 f0 ?_
            refine go_getf (x := 11) (ci := 6) (kf := 0) (fin := 0) (t := 2) (by decide +kernel) (by decide +kernel) (by decide +kernel) R f0 g0 fun v_70 f_71 => ?_
            have f_72 := q_is_eq f_71 e_41
            refine go_iload_n (n := 2) (by decide +kernel) l_25 f_7 ?_
            refine go_aald (kd := 108) (by decide +kernel) (by decide) R f_72 f_7 g_44 g_53 fun v_73 f_74 => ?_
            have f_75 := q_is_eq f_74 e_56
            refine go_iload_n (n := 3) (by decide +kernel) l_21 f_19 ?_
            obtain ⟨g_78, h⟩ := gd_s h
            obtain ⟨x_80, e_81, h⟩ := lx_s h
            refine go_lald (kd := 101) (by decide +kernel) rfl R f_75 f_19 g_68 g_78 fun v_76 f_77 => ?_
            have f_79 := q_is_eq f_77 e_81
            cases h
            exact go_lret (by decide +kernel) rfl f_79 (hQ _ _ R (q_out_v (by decide) f_79))
          · have h := it_f hp_69 h
            refine go_lconst (n := 0) (z := 0) (by decide +kernel) (by decide) fun v_82 f_83 => ?_
            cases h
            exact go_lret (by decide +kernel) rfl f_83 (hQ _ _ R (q_out_v (by decide) f_83))
noncomputable def fm_X2_kind (p0 p1 : Int) (m0 : MM) : Option Int := lx (m0 p0 0) fun x_4 =>
gd (okc m0 x_4 6) <| bp (fm_X5_wide x_4 p1 m0) fun x_8 =>
some (w32 (lUshr x_8 59))
set_option maxHeartbeats 4000000 in
theorem om_X2_kind {xs : List Int32} {d : Nat} {S : QS} {m0 : MM} {p0 p1 : Int} {v0 : Value} {v1 : Value} {rz : Int}
  (hd : 2 ≤ d) (R : Rp S m0) (g0 : okc m0 p0 3) (f0 : q_is 2 v0 p0) (f1 : q_is 0 v1 p1)
  (h : fm_X2_kind p0 p1 m0 = some rz) : Mt xs d 9 [v0, v1] S (Cr 0 m0 m0 rz) := by
  obtain ⟨d, rfl⟩ : ∃ e, d = e + 1 := ⟨d - 1, by omega⟩
  have hd : 1 ≤ d := Nat.le_of_succ_le_succ hd
  refine Mt.of (M := qM_X2_kind) rfl (by rw [sl_1 (q_is_cat f0 (Or.inr rfl)), sl_1 (q_is_cat f1 (Or.inl rfl)), sl_0]; decide) ?_
  rw [la_1 (q_is_cat f0 (Or.inr rfl)), la_1 (q_is_cat f1 (Or.inl rfl)), la_0]
  obtain ⟨L, hL⟩ : ∃ L : QL, L = [(0, v0), (0 + 1, v1)] := ⟨_, rfl⟩
  rw [← hL]
  have l0 : q_lo L 0 = some v0 := by rw [hL]; rfl
  have l1 : q_lo L 1 = some v1 := by rw [hL]; rfl
  have hQ : ∀ o S1, Rp S1 m0 → q_out 0 o rz → (Cr 0 m0 m0 rz) o S1 := fun o S1 a b => ⟨a, Ext.rf _, b⟩
  unfold fm_X2_kind at h
  refine go_aload_n (n := 0) (by decide +kernel) l0 f0 ?_
  obtain ⟨x_4, e_5, h⟩ := lx_s h
  refine go_getf (x := 22) (ci := 3) (kf := 0) (fin := 1) (t := 2) (by decide +kernel) (by decide +kernel) (by decide +kernel) R f0 g0 fun v_1 f_2 => ?_
  have f_3 := q_is_eq f_2 e_5
  refine go_iload_n (n := 1) (by decide +kernel) l1 f1 ?_
  obtain ⟨g_6, h⟩ := gd_s h
  obtain ⟨x_8, hc_7, h⟩ := bp_s h
  refine go_callV (x := 26) (mi := 58) (n := 1) (ci := 6) (as := [v1]) (rest := []) (by decide +kernel) (by decide +kernel) rfl rfl (q_sum8 _ (Nat.le_of_ble_eq_true rfl)) R f_3 g_6 (om_X5_wide (Nat.le_trans (by decide) hd) R g_6 f_3 f1 hc_7) (fun _ S_12 q_15 => ?_) (fun _ _ qq => kr_x qq)
  refine kr_z (by decide) q_15 fun v_10 f_11 R_13 E_14 => ?_
  refine go_bipush (n := 59) (z := 59) (by decide +kernel) (by decide) fun v_16 f_17 => ?_
  refine go_lushr (by decide +kernel) f_11 f_17 fun v_18 f_19 => ?_
  refine go_l2i (by decide +kernel) f_19 fun v_20 f_21 => ?_
  cases h
  exact go_iret (by decide +kernel) rfl (Or.inl rfl) f_21 (hQ _ _ R_13 (q_out_v (by decide) f_21))
noncomputable def fm_X2_x (p0 p1 : Int) (m0 : MM) : Option Int := lx (m0 p0 0) fun x_4 =>
gd (okc m0 x_4 6) <| bp (fm_X5_wide x_4 p1 m0) fun x_8 =>
some (iAnd (w32 (lUshr x_8 40)) 524287)
set_option maxHeartbeats 4000000 in
theorem om_X2_x {xs : List Int32} {d : Nat} {S : QS} {m0 : MM} {p0 p1 : Int} {v0 : Value} {v1 : Value} {rz : Int}
  (hd : 2 ≤ d) (R : Rp S m0) (g0 : okc m0 p0 3) (f0 : q_is 2 v0 p0) (f1 : q_is 0 v1 p1)
  (h : fm_X2_x p0 p1 m0 = some rz) : Mt xs d 10 [v0, v1] S (Cr 0 m0 m0 rz) := by
  obtain ⟨d, rfl⟩ : ∃ e, d = e + 1 := ⟨d - 1, by omega⟩
  have hd : 1 ≤ d := Nat.le_of_succ_le_succ hd
  refine Mt.of (M := qM_X2_x) rfl (by rw [sl_1 (q_is_cat f0 (Or.inr rfl)), sl_1 (q_is_cat f1 (Or.inl rfl)), sl_0]; decide) ?_
  rw [la_1 (q_is_cat f0 (Or.inr rfl)), la_1 (q_is_cat f1 (Or.inl rfl)), la_0]
  obtain ⟨L, hL⟩ : ∃ L : QL, L = [(0, v0), (0 + 1, v1)] := ⟨_, rfl⟩
  rw [← hL]
  have l0 : q_lo L 0 = some v0 := by rw [hL]; rfl
  have l1 : q_lo L 1 = some v1 := by rw [hL]; rfl
  have hQ : ∀ o S1, Rp S1 m0 → q_out 0 o rz → (Cr 0 m0 m0 rz) o S1 := fun o S1 a b => ⟨a, Ext.rf _, b⟩
  unfold fm_X2_x at h
  refine go_aload_n (n := 0) (by decide +kernel) l0 f0 ?_
  obtain ⟨x_4, e_5, h⟩ := lx_s h
  refine go_getf (x := 22) (ci := 3) (kf := 0) (fin := 1) (t := 2) (by decide +kernel) (by decide +kernel) (by decide +kernel) R f0 g0 fun v_1 f_2 => ?_
  have f_3 := q_is_eq f_2 e_5
  refine go_iload_n (n := 1) (by decide +kernel) l1 f1 ?_
  obtain ⟨g_6, h⟩ := gd_s h
  obtain ⟨x_8, hc_7, h⟩ := bp_s h
  refine go_callV (x := 26) (mi := 58) (n := 1) (ci := 6) (as := [v1]) (rest := []) (by decide +kernel) (by decide +kernel) rfl rfl (q_sum8 _ (Nat.le_of_ble_eq_true rfl)) R f_3 g_6 (om_X5_wide (Nat.le_trans (by decide) hd) R g_6 f_3 f1 hc_7) (fun _ S_12 q_15 => ?_) (fun _ _ qq => kr_x qq)
  refine kr_z (by decide) q_15 fun v_10 f_11 R_13 E_14 => ?_
  refine go_bipush (n := 40) (z := 40) (by decide +kernel) (by decide) fun v_16 f_17 => ?_
  refine go_lushr (by decide +kernel) f_11 f_17 fun v_18 f_19 => ?_
  refine go_l2i (by decide +kernel) f_19 fun v_20 f_21 => ?_
  refine go_ldc (x := 32) (n := 524287) (a := 0) (b := 0) (z := 524287) (by decide +kernel) (by decide +kernel) (by decide +kernel) fun v_22 f_23 => ?_
  refine go_iand (by decide +kernel) f_21 f_23 fun v_24 f_25 => ?_
  cases h
  exact go_iret (by decide +kernel) rfl (Or.inl rfl) f_25 (hQ _ _ R_13 (q_out_v (by decide) f_25))
noncomputable def fm_X2_y (p0 p1 : Int) (m0 : MM) : Option Int := lx (m0 p0 0) fun x_4 =>
gd (okc m0 x_4 6) <| bp (fm_X5_wide x_4 p1 m0) fun x_8 =>
some (iAnd (w32 (lUshr x_8 30)) 1023)
set_option maxHeartbeats 4000000 in
theorem om_X2_y {xs : List Int32} {d : Nat} {S : QS} {m0 : MM} {p0 p1 : Int} {v0 : Value} {v1 : Value} {rz : Int}
  (hd : 2 ≤ d) (R : Rp S m0) (g0 : okc m0 p0 3) (f0 : q_is 2 v0 p0) (f1 : q_is 0 v1 p1)
  (h : fm_X2_y p0 p1 m0 = some rz) : Mt xs d 11 [v0, v1] S (Cr 0 m0 m0 rz) := by
  obtain ⟨d, rfl⟩ : ∃ e, d = e + 1 := ⟨d - 1, by omega⟩
  have hd : 1 ≤ d := Nat.le_of_succ_le_succ hd
  refine Mt.of (M := qM_X2_y) rfl (by rw [sl_1 (q_is_cat f0 (Or.inr rfl)), sl_1 (q_is_cat f1 (Or.inl rfl)), sl_0]; decide) ?_
  rw [la_1 (q_is_cat f0 (Or.inr rfl)), la_1 (q_is_cat f1 (Or.inl rfl)), la_0]
  obtain ⟨L, hL⟩ : ∃ L : QL, L = [(0, v0), (0 + 1, v1)] := ⟨_, rfl⟩
  rw [← hL]
  have l0 : q_lo L 0 = some v0 := by rw [hL]; rfl
  have l1 : q_lo L 1 = some v1 := by rw [hL]; rfl
  have hQ : ∀ o S1, Rp S1 m0 → q_out 0 o rz → (Cr 0 m0 m0 rz) o S1 := fun o S1 a b => ⟨a, Ext.rf _, b⟩
  unfold fm_X2_y at h
  refine go_aload_n (n := 0) (by decide +kernel) l0 f0 ?_
  obtain ⟨x_4, e_5, h⟩ := lx_s h
  refine go_getf (x := 22) (ci := 3) (kf := 0) (fin := 1) (t := 2) (by decide +kernel) (by decide +kernel) (by decide +kernel) R f0 g0 fun v_1 f_2 => ?_
  have f_3 := q_is_eq f_2 e_5
  refine go_iload_n (n := 1) (by decide +kernel) l1 f1 ?_
  obtain ⟨g_6, h⟩ := gd_s h
  obtain ⟨x_8, hc_7, h⟩ := bp_s h
  refine go_callV (x := 26) (mi := 58) (n := 1) (ci := 6) (as := [v1]) (rest := []) (by decide +kernel) (by decide +kernel) rfl rfl (q_sum8 _ (Nat.le_of_ble_eq_true rfl)) R f_3 g_6 (om_X5_wide (Nat.le_trans (by decide) hd) R g_6 f_3 f1 hc_7) (fun _ S_12 q_15 => ?_) (fun _ _ qq => kr_x qq)
  refine kr_z (by decide) q_15 fun v_10 f_11 R_13 E_14 => ?_
  refine go_bipush (n := 30) (z := 30) (by decide +kernel) (by decide) fun v_16 f_17 => ?_
  refine go_lushr (by decide +kernel) f_11 f_17 fun v_18 f_19 => ?_
  refine go_l2i (by decide +kernel) f_19 fun v_20 f_21 => ?_
  refine go_sipush (n := 1023) (z := 1023) (by decide +kernel) (by decide) fun v_22 f_23 => ?_
  refine go_iand (by decide +kernel) f_21 f_23 fun v_24 f_25 => ?_
  cases h
  exact go_iret (by decide +kernel) rfl (Or.inl rfl) f_25 (hQ _ _ R_13 (q_out_v (by decide) f_25))
noncomputable def fm_X2_timeOfCommand (p0 p1 : Int) (m0 : MM) : Option Int := lx (m0 p0 0) fun x_4 =>
gd (okc m0 x_4 6) <| bp (fm_X5_wide x_4 p1 m0) fun x_8 =>
some (iAnd (w32 x_8) 1073741823)
set_option maxHeartbeats 4000000 in
theorem om_X2_timeOfCommand {xs : List Int32} {d : Nat} {S : QS} {m0 : MM} {p0 p1 : Int} {v0 : Value} {v1 : Value} {rz : Int}
  (hd : 2 ≤ d) (R : Rp S m0) (g0 : okc m0 p0 3) (f0 : q_is 2 v0 p0) (f1 : q_is 0 v1 p1)
  (h : fm_X2_timeOfCommand p0 p1 m0 = some rz) : Mt xs d 12 [v0, v1] S (Cr 0 m0 m0 rz) := by
  obtain ⟨d, rfl⟩ : ∃ e, d = e + 1 := ⟨d - 1, by omega⟩
  have hd : 1 ≤ d := Nat.le_of_succ_le_succ hd
  refine Mt.of (M := qM_X2_timeOfCommand) rfl (by rw [sl_1 (q_is_cat f0 (Or.inr rfl)), sl_1 (q_is_cat f1 (Or.inl rfl)), sl_0]; decide) ?_
  rw [la_1 (q_is_cat f0 (Or.inr rfl)), la_1 (q_is_cat f1 (Or.inl rfl)), la_0]
  obtain ⟨L, hL⟩ : ∃ L : QL, L = [(0, v0), (0 + 1, v1)] := ⟨_, rfl⟩
  rw [← hL]
  have l0 : q_lo L 0 = some v0 := by rw [hL]; rfl
  have l1 : q_lo L 1 = some v1 := by rw [hL]; rfl
  have hQ : ∀ o S1, Rp S1 m0 → q_out 0 o rz → (Cr 0 m0 m0 rz) o S1 := fun o S1 a b => ⟨a, Ext.rf _, b⟩
  unfold fm_X2_timeOfCommand at h
  refine go_aload_n (n := 0) (by decide +kernel) l0 f0 ?_
  obtain ⟨x_4, e_5, h⟩ := lx_s h
  refine go_getf (x := 22) (ci := 3) (kf := 0) (fin := 1) (t := 2) (by decide +kernel) (by decide +kernel) (by decide +kernel) R f0 g0 fun v_1 f_2 => ?_
  have f_3 := q_is_eq f_2 e_5
  refine go_iload_n (n := 1) (by decide +kernel) l1 f1 ?_
  obtain ⟨g_6, h⟩ := gd_s h
  obtain ⟨x_8, hc_7, h⟩ := bp_s h
  refine go_callV (x := 26) (mi := 58) (n := 1) (ci := 6) (as := [v1]) (rest := []) (by decide +kernel) (by decide +kernel) rfl rfl (q_sum8 _ (Nat.le_of_ble_eq_true rfl)) R f_3 g_6 (om_X5_wide (Nat.le_trans (by decide) hd) R g_6 f_3 f1 hc_7) (fun _ S_12 q_15 => ?_) (fun _ _ qq => kr_x qq)
  refine kr_z (by decide) q_15 fun v_10 f_11 R_13 E_14 => ?_
  refine go_l2i (by decide +kernel) f_11 fun v_16 f_17 => ?_
  refine go_ldc (x := 33) (n := 1073741823) (a := 0) (b := 0) (z := 1073741823) (by decide +kernel) (by decide +kernel) (by decide +kernel) fun v_18 f_19 => ?_
  refine go_iand (by decide +kernel) f_17 f_19 fun v_20 f_21 => ?_
  cases h
  exact go_iret (by decide +kernel) rfl (Or.inl rfl) f_21 (hQ _ _ R_13 (q_out_v (by decide) f_21))
noncomputable def fm_X2_clockOfArrival (p0 p1 : Int) (m0 : MM) : Option Int := lx (m0 p0 0) fun x_4 =>
gd (okc m0 x_4 6) <| bp (fm_X5_wide x_4 p1 m0) fun x_8 =>
some (iAnd (w32 x_8) 1023)
set_option maxHeartbeats 4000000 in
theorem om_X2_clockOfArrival {xs : List Int32} {d : Nat} {S : QS} {m0 : MM} {p0 p1 : Int} {v0 : Value} {v1 : Value} {rz : Int}
  (hd : 2 ≤ d) (R : Rp S m0) (g0 : okc m0 p0 3) (f0 : q_is 2 v0 p0) (f1 : q_is 0 v1 p1)
  (h : fm_X2_clockOfArrival p0 p1 m0 = some rz) : Mt xs d 13 [v0, v1] S (Cr 0 m0 m0 rz) := by
  obtain ⟨d, rfl⟩ : ∃ e, d = e + 1 := ⟨d - 1, by omega⟩
  have hd : 1 ≤ d := Nat.le_of_succ_le_succ hd
  refine Mt.of (M := qM_X2_clockOfArrival) rfl (by rw [sl_1 (q_is_cat f0 (Or.inr rfl)), sl_1 (q_is_cat f1 (Or.inl rfl)), sl_0]; decide) ?_
  rw [la_1 (q_is_cat f0 (Or.inr rfl)), la_1 (q_is_cat f1 (Or.inl rfl)), la_0]
  obtain ⟨L, hL⟩ : ∃ L : QL, L = [(0, v0), (0 + 1, v1)] := ⟨_, rfl⟩
  rw [← hL]
  have l0 : q_lo L 0 = some v0 := by rw [hL]; rfl
  have l1 : q_lo L 1 = some v1 := by rw [hL]; rfl
  have hQ : ∀ o S1, Rp S1 m0 → q_out 0 o rz → (Cr 0 m0 m0 rz) o S1 := fun o S1 a b => ⟨a, Ext.rf _, b⟩
  unfold fm_X2_clockOfArrival at h
  refine go_aload_n (n := 0) (by decide +kernel) l0 f0 ?_
  obtain ⟨x_4, e_5, h⟩ := lx_s h
  refine go_getf (x := 22) (ci := 3) (kf := 0) (fin := 1) (t := 2) (by decide +kernel) (by decide +kernel) (by decide +kernel) R f0 g0 fun v_1 f_2 => ?_
  have f_3 := q_is_eq f_2 e_5
  refine go_iload_n (n := 1) (by decide +kernel) l1 f1 ?_
  obtain ⟨g_6, h⟩ := gd_s h
  obtain ⟨x_8, hc_7, h⟩ := bp_s h
  refine go_callV (x := 26) (mi := 58) (n := 1) (ci := 6) (as := [v1]) (rest := []) (by decide +kernel) (by decide +kernel) rfl rfl (q_sum8 _ (Nat.le_of_ble_eq_true rfl)) R f_3 g_6 (om_X5_wide (Nat.le_trans (by decide) hd) R g_6 f_3 f1 hc_7) (fun _ S_12 q_15 => ?_) (fun _ _ qq => kr_x qq)
  refine kr_z (by decide) q_15 fun v_10 f_11 R_13 E_14 => ?_
  refine go_l2i (by decide +kernel) f_11 fun v_16 f_17 => ?_
  refine go_sipush (n := 1023) (z := 1023) (by decide +kernel) (by decide) fun v_18 f_19 => ?_
  refine go_iand (by decide +kernel) f_17 f_19 fun v_20 f_21 => ?_
  cases h
  exact go_iret (by decide +kernel) rfl (Or.inl rfl) f_21 (hQ _ _ R_13 (q_out_v (by decide) f_21))
end DF0
