/-! Methods as functions (written by wip/whole/dec.py), 0: J9_min_7cf53, X0_init, X0_beTaken, X1_start, X1_waitFor, X1_goOnAt, J9_max_7cf53, X1_isBare, X1_waitsForEvent, X2_init, X5_wide, X2_kind, X2_x, X2_y, X2_timeOfCommand, X2_clockOfArrival. -/
section DF0
noncomputable def fm_J9_min_7cf53 (p0 p1 : Int) (m0 : MM) : Option Int := if p1 < p0 then
some p1
else
some p0
set_option maxHeartbeats 4000000 in
theorem om_J9_min_7cf53 {xs : List Int32} {d : Nat} {S : QS} {m0 : MM} {p0 p1 : Int} {v0 : Value} {v1 : Value} {rz : Int}
  (hd : 1 ≤ d) (R : Rp S m0) (f0 : q_is 0 v0 p0) (f1 : q_is 0 v1 p1)
  (h : fm_J9_min_7cf53 p0 p1 m0 = some rz) : Mt xs d 320 [v0, v1] S (Cr 0 m0 m0 rz) := by
  obtain ⟨d, rfl⟩ : ∃ e, d = e + 1 := ⟨d - 1, by omega⟩
  have hd : 0 ≤ d := Nat.le_of_succ_le_succ hd
  refine Mt.of (M := qM_J9_min_7cf53) rfl (by rw [sl_1 (q_is_cat f0 (Or.inl rfl)), sl_1 (q_is_cat f1 (Or.inl rfl)), sl_0]; decide) ?_
  rw [la_1 (q_is_cat f0 (Or.inl rfl)), la_1 (q_is_cat f1 (Or.inl rfl)), la_0]
  obtain ⟨L, hL⟩ : ∃ L : QL, L = [(0, v0), (0 + 1, v1)] := ⟨_, rfl⟩
  rw [← hL]
  have l0 : q_lo L 0 = some v0 := by rw [hL]; rfl
  have l1 : q_lo L 1 = some v1 := by rw [hL]; rfl
  have hQ : ∀ o S1, Rp S1 m0 → q_out 0 o rz → (Cr 0 m0 m0 rz) o S1 := fun o S1 a b => ⟨a, Ext.rf _, b⟩
  unfold fm_J9_min_7cf53 at h
  refine go_iload_n (n := 0) (by decide +kernel) l0 f0 ?_
  refine go_iload_n (n := 1) (by decide +kernel) l1 f1 ?_
  refine go_icmp (c := .gt) (o := 7) (t := 9) (P := p1 < p0) (by decide +kernel) (by decide +kernel) f0 f1 (Iff.rfl) (fun hp_1 => ?_) (fun hp_1 => ?_)
  · have h := it_t hp_1 h
    refine go_iload_n (n := 1) (by decide +kernel) l1 f1 ?_
    cases h
    exact go_iret (by decide +kernel) rfl (Or.inl rfl) f1 (hQ _ _ R (q_out_v (by decide) f1))
  · have h := it_f hp_1 h
    refine go_iload_n (n := 0) (by decide +kernel) l0 f0 ?_
    refine go_goto (o := 4) (t := 10) (by decide +kernel) (by decide +kernel) ?_
    cases h
    exact go_iret (by decide +kernel) rfl (Or.inl rfl) f0 (hQ _ _ R (q_out_v (by decide) f0))
/-- a copy of an Object[], n long -/
def mcp (m : MM) (a n : Int) : MM := fun b j => if b = m 0 0 then (if j = -1 then 107 else if j = -2 then n else if 0 ≤ j ∧ j < n ∧ j < m a (-2) then m a j else 0) else if b = 0 then (if j = 0 then m 0 0 + 1 else if j = 1 then m 0 1 + n else m b j) else m b j
def cpk (m : MM) (a n : Int) : Prop := okc m a 107 ∧ 0 ≤ n ∧ n < 60000000 ∧ m a (-2) < 2147483648 ∧ ∀ j : Int, 0 ≤ j → j < n → j < m a (-2) → (m a j = 0 ∨ okob m (m a j))
noncomputable def fm_J7_copyOf_1904c (p0 p1 : Int) (m0 : MM) : Option (Int × MM) := @gd _ (cpk m0 p0 p1) (Classical.propDecidable _) (some (m0 0 0, mcp m0 p0 p1))
section CPY
variable {xs : List Int32} {d : Nat} {M : QM} {pc : Nat} {L : QL} {st rest : List Value} {S : QS} {Q : QO → QS → Prop} {m : MM}
theorem go_getC {x a b e : Nat} {vr : Value} {r : Int} (hc : q_code M pc = some (.invokevirtual x)) (hlk : q_lk (qm_k M) x = some (19, a, b, e)) (hR : Rp S m) (hr : q_is 2 vr r) (hok : okc m r 107) (hl : (st.map fun v => v.category).sum ≤ 8) (k : Go xs d M (pc + 3) L (.retAddr 0 :: st) S Q) : Go xs d M pc L (vr :: st) S Q := by
  obtain ⟨r, rfl, hra⟩ := q_is_ref hr (by omega)
  obtain ⟨k9, c, e1, e2, e6, e3, e5, e4⟩ := Rp_at hR hok.1 hok.2.1
  have hkk : r = k9 + 4 := by omega
  subst hkk
  have hck : c.1 = 107 := by have := hok.2.2; omega
  refine go_more hc ⟨fun _ => rfl, rfl, rfl, fun _ => rfl, fun _ => rfl⟩ rfl (q_read_no rfl) rfl rfl (st' := .retAddr 0 :: st) (S' := S) ?_ rfl k
  unfold q_more
  simp only [hlk, e2]
  rw [if_pos ⟨hck, hl⟩]
theorem go_ldcM {x a b e : Nat} (hc : q_code M pc = some (.ldc x)) (hlk : q_lk (qm_k M) x = some (18, a, b, e)) (k : Go xs d M (pc + 2) L (.retAddr 0 :: st) S Q) : Go xs d M pc L st S Q := by
  refine go_more hc ⟨fun _ => rfl, rfl, rfl, fun _ => rfl, fun _ => rfl⟩ rfl ?_ rfl rfl (st' := .retAddr 0 :: st) (S' := S) ?_ rfl k
  · unfold q_read
    simp only [hlk]
  · unfold q_more
    simp only [hlk]
theorem go_aloadM {n : Fin 4} (hc : q_code M pc = some (.aload_n n)) (hl : q_lo L (n : Nat) = some (.retAddr 0)) (k : Go xs d M (pc + 1) L (.retAddr 0 :: st) S Q) : Go xs d M pc L st S Q := by
  refine Go.step (pc' := pc + 1) (L' := L) (st' := .retAddr 0 :: st) (S' := S) hc ?_ k
  unfold q_step
  rw [show q_simple (.aload_n n) st = none from rfl, show q_ldi (.aload_n n) = some (2, (n : Nat)) from rfl]
  simp only
  rw [hl]
  rfl
theorem go_acmpM {o : Int} (hc : q_code M pc = some (.if_acmp .ne o)) {t : Nat} (hj : q_jump pc o = some t) (k : Go xs d M (pc + 3) L st S Q) : Go xs d M pc L (.retAddr 0 :: .retAddr 0 :: st) S Q := by
  refine go_br (b := false) (c := False) hc (fun _ => rfl) rfl rfl rfl rfl (by simp) hj (fun h => h.elim) (fun _ => k)
/-- the copying itself -/
def mcq (m : MM) (s e n : Int) : MM := fun b j => if b = e ∧ 0 ≤ j ∧ j < n then m s j else m b j
theorem go_acpy {x a b e0 : Nat} {vs ve vn vz vy : Value} {s e n : Int} (hc : q_code M pc = some (.invokestatic x)) (hlk : q_lk (qm_k M) x = some (21, a, b, e0)) (hR : Rp S m) (hs : q_is 2 vs s) (he : q_is 2 ve e) (hn : q_is 0 vn n) (hz : q_is 0 vz 0) (hy : q_is 0 vy 0) (hos : okc m s 107) (hoe : okc m e 107) (he0 : 163 ≤ e) (hn0 : 0 ≤ n) (hn1 : n ≤ m s (-2)) (hn2 : n ≤ m e (-2)) (hel : ∀ j : Int, 0 ≤ j → j < n → (m s j = 0 ∨ okob m (m s j)))
    (hl : (rest.map fun v => v.category).sum ≤ 8) (k : ∀ S', Rp S' (mcq m s e n) → Ext m (mcq m s e n) → Go xs d M (pc + 3) L rest S' Q) : Go xs d M pc L (vn :: vz :: ve :: vy :: vs :: rest) S Q := by
  obtain ⟨r1, rfl, hr1⟩ := q_is_ref hs (by omega)
  obtain ⟨r2, rfl, hr2⟩ := q_is_ref he (by omega)
  obtain ⟨x1, rfl, rfl⟩ := hn
  obtain ⟨x2, rfl, hx2⟩ := hz
  obtain ⟨x3, rfl, hx3⟩ := hy
  have hx2 : x2 = 0 := Int32.toInt_inj.mp hx2
  have hx3 : x3 = 0 := Int32.toInt_inj.mp hx3
  subst hx2 hx3
  obtain ⟨ks, cs, e1, e2, e6, e3, e5, e4⟩ := Rp_at hR hos.1 hos.2.1
  obtain ⟨kd, cd, f1, f2, f6, f3, f5, f4⟩ := Rp_at hR hoe.1 hoe.2.1
  have hks : r1 = ks + 4 := by omega
  have hkd : r2 = kd + 4 := by omega
  subst hks hkd
  have hcs : cs.1 = 107 := by have := hos.2.2; omega
  have hcd : cd.1 = 107 := by have := hoe.2.2; omega
  have hx : x1.toNatClampNeg = x1.toInt.toNat := rfl
  have hsty : ∀ j : Nat, q_sty 107 j = 2 := fun j => rfl
  have hR2 : Rp0 (q_put S (kd + 4) (q_cpy cs cd x1.toNatClampNeg)) (mcq m s e x1.toInt) := by
    obtain ⟨h1, h2, h3, h4, h5⟩ := hR.1
    have e9 : kd + 4 - 4 = kd := by omega
    unfold q_put
    rw [e9]
    refine ⟨?_, ?_, ?_, ?_, fun i y hy => ?_⟩
    · unfold mcq; rw [if_neg (by omega), h1]; simp
    · unfold mcq; rw [if_neg (by omega)]; exact h2
    · simp [h3]
    · unfold mcq; rw [if_neg (by omega)]; exact h4
    · have hy : (S.1.set kd (q_cpy cs cd x1.toNatClampNeg))[i]? = some y := hy
      by_cases hi : i = kd
      · subst hi
        have hl : i < S.1.length := (List.getElem?_eq_some_iff.mp f6).1
        rw [List.getElem?_set_self hl] at hy
        cases hy
        obtain ⟨g1, g2, g3⟩ := h5 i cd f6
        rw [(q_cpy_k _ _ _).1, (q_cpy_k _ _ _).2]
        refine ⟨?_, ?_, fun q => ?_⟩
        · unfold mcq; rw [if_neg (by omega)]; exact g1
        · unfold mcq; rw [if_neg (by omega)]; exact g2
        · rw [q_rd_cpy]
          unfold mcq
          by_cases hq : q < x1.toNatClampNeg
          · rw [if_pos hq, if_pos ⟨f1.symm, by omega, by omega⟩, hcd, hsty]
            have := e4 q
            rw [hcs, hsty] at this
            exact this
          · rw [if_neg hq, if_neg (by omega)]
            exact g3 q
      · rw [List.getElem?_set_ne (fun q => hi q.symm)] at hy
        obtain ⟨g1, g2, g3⟩ := h5 i y hy
        refine ⟨?_, ?_, fun q => ?_⟩
        · unfold mcq; rw [if_neg (by omega)]; exact g1
        · unfold mcq; rw [if_neg (by omega)]; exact g2
        · unfold mcq; rw [if_neg (by omega)]; exact g3 q
  have hF2 : Fix (mcq m s e x1.toInt) := by
    have h0 := hR.2.1
    refine ⟨?_, fun q hq => ?_⟩
    · unfold mcq; rw [if_neg (by omega)]; exact h0
    · obtain ⟨h1, h2, h3⟩ := hR.2.2 q hq
      have := fixk_lt q hq
      unfold mcq
      refine ⟨?_, ?_, fun p hp => ?_⟩
      · rw [if_neg (by omega)]; exact h1
      · rw [if_neg (by omega)]; exact h2
      · rw [if_neg (by omega)]; exact h3 p hp
  have hE : Ext m (mcq m s e x1.toInt) := by
    refine ⟨?_, fun b h1 h2 => ⟨?_, ?_⟩⟩
    · unfold mcq; rw [if_neg (by omega)]; exact Int.le_refl _
    · unfold mcq; rw [if_neg (by omega)]
    · unfold mcq; rw [if_neg (by omega)]
  refine go_more hc ⟨fun _ => rfl, rfl, rfl, fun _ => rfl, fun _ => rfl⟩ rfl (q_read_no rfl) rfl rfl (st' := rest) (S' := q_put S (kd + 4) (q_cpy cs cd x1.toNatClampNeg)) ?_ rfl (k _ ⟨hR2, hF2⟩ hE)
  unfold q_more
  simp only [hlk, e2, f2]
  rw [if_pos]
  refine ⟨hcd, hcs, trivial, trivial, ⟨?_, by omega, by omega⟩, hl, List.all_eq_true.mpr fun j hj => ?_⟩
  · intro hlt
    rw [Int32.lt_iff_toInt_lt] at hlt
    have : (0 : Int32).toInt = 0 := rfl
    omega
  · have hj := List.mem_range.mp hj
    have h4 := e4 j
    rw [hcs, hsty] at h4
    have hz := hel (j : Int) (by omega) (by omega)
    rcases h4 with ⟨h4, -⟩ | ⟨w, h4, hw, hw0⟩
    · rw [h4]; rfl
    · rcases hz with hz | hz
      · omega
      · obtain ⟨j9, cv, q1, q2, q6, q3, q5, q4⟩ := Rp_at hR hz.1 hz.2.1
        have hwj : w = j9 + 4 := by omega
        subst hwj
        rw [h4]
        unfold q_oel
        simp only [q2]
        have := hz.2.2
        unfold q_obk
        simp only [Bool.or_eq_true, beq_iff_eq]
        omega
end CPY
theorem om_J7_copyOf_6403c {xs : List Int32} {d : Nat} {S : QS} {m0 : MM} {p0 p1 : Int} {v0 : Value} {v1 : Value} (hd : 2 ≤ d) (R : Rp S m0) (f0 : q_is 2 v0 p0) (f1 : q_is 0 v1 p1) (hk : cpk m0 p0 p1) : Mt xs d 334 [v0, v1, .retAddr 0] S (Cr 2 m0 (mcp m0 p0 p1) (m0 0 0)) := by
  obtain ⟨d, rfl⟩ : ∃ e, d = e + 1 := ⟨d - 1, by omega⟩
  have hd : 1 ≤ d := Nat.le_of_succ_le_succ hd
  obtain ⟨k1, k2, k3, k4, k5⟩ := hk
  refine Mt.of (M := qM_J7_copyOf_6403c) rfl (by rw [sl_1 (q_is_cat f0 (Or.inr rfl)), sl_1 (q_is_cat f1 (Or.inl rfl)), sl_1 rfl, sl_0]; decide) ?_
  rw [la_1 (q_is_cat f0 (Or.inr rfl)), la_1 (q_is_cat f1 (Or.inl rfl)), la_1 rfl, la_0]
  obtain ⟨L, hL⟩ : ∃ L : QL, L = [(0, v0), (0 + 1, v1), (0 + 1 + 1, .retAddr 0)] := ⟨_, rfl⟩
  rw [← hL]
  have l0 : q_lo L 0 = some v0 := by rw [hL]; rfl
  have l1 : q_lo L 1 = some v1 := by rw [hL]; rfl
  have l2 : q_lo L 2 = some (.retAddr 0) := by rw [hL]; rfl
  refine go_aloadM (n := 2) (by decide +kernel) l2 ?_
  refine go_ldcM (x := 110) (a := 0) (b := 0) (e := 0) (by decide +kernel) (by decide +kernel) ?_
  refine go_acmpM (o := 10) (t := 13) (by decide +kernel) (by decide +kernel) ?_
  refine go_iload_n (n := 1) (by decide +kernel) l1 f1 ?_
  obtain ⟨z, ez⟩ : ∃ z, z = m0 0 0 := ⟨_, rfl⟩
  obtain ⟨m1, em⟩ : ∃ m1, m1 = mnew m0 107 p1 := ⟨_, rfl⟩
  have g1 := okc_nw (c := 107) R ez em
  refine go_anewa (x := 2) (kd := 107) (a := 0) (b := 0) (by decide +kernel) (by decide +kernel) f1 ⟨k2, k3⟩ R ez em fun v S1 f R1 E1 => ?_
  refine go_goto (o := 14) (t := 24) (by decide +kernel) (by decide +kernel) ?_
  refine go_astore_n (n := 3) (by decide +kernel) (by decide +kernel) f fun L2 l3 kp => ?_
  have l20 := kp 0 _ l0 (by decide) (Or.inl (by decide))
  have l21 := kp 1 _ l1 (by decide) (Or.inl (by decide))
  refine go_aload_n (n := 0) (by decide +kernel) l20 f0 ?_
  refine go_iconst (n := 0) (z := 0) (by decide +kernel) (by decide) fun v4 f4 => ?_
  refine go_aload_n (n := 3) (by decide +kernel) l3 f ?_
  refine go_iconst (n := 0) (z := 0) (by decide +kernel) (by decide) fun v5 f5 => ?_
  refine go_aload_n (n := 0) (by decide +kernel) l20 f0 ?_
  have g0 := Ext.ok E1 k1
  refine go_alen (by decide +kernel) R1 f0 (okl_of g0 (by decide)) fun v6 f6 => ?_
  refine go_iload_n (n := 1) (by decide +kernel) l21 f1 ?_
  have elen : m1 p0 (-2) = m0 p0 (-2) := (E1.2 p0 k1.1 k1.2.1).2
  have hp0 : p0 < m0 0 0 := k1.2.1
  have hlen0 : 0 ≤ m0 p0 (-2) := by
    obtain ⟨k9, c9, -, -, -, -, e5, -⟩ := Rp_at R k1.1 k1.2.1
    rw [e5]
    exact Int.natCast_nonneg _
  have ew : w32 (m1 p0 (-2)) = m0 p0 (-2) := by
    rw [elen]
    unfold w32
    rw [Int.bmod_def]
    split <;> omega
  rw [ew] at f6
  obtain ⟨n9, hn9⟩ : ∃ n9 : Int, n9 = if p1 < m0 p0 (-2) then p1 else m0 p0 (-2) := ⟨_, rfl⟩
  have hmin : fm_J9_min_7cf53 (m0 p0 (-2)) p1 m1 = some n9 := by
    unfold fm_J9_min_7cf53
    rw [hn9]
    split <;> rfl
  refine go_callS (x := 304) (mi := 320) (n := 2) (b := 0) (as := [v6, v1]) (rest := [v5, v, v4, v0]) (by decide +kernel) (by decide +kernel) rfl rfl (q_sum8 _ (Nat.le_of_ble_eq_true rfl)) (om_J9_min_7cf53 hd R1 f6 f1 hmin) (fun _ S2 q => ?_) (fun _ _ qq => kr_x qq)
  refine kr_z (by decide) q fun v7 f7 R2 E2 => ?_
  have hz0 := R.2.1
  have hmo : ∀ j : Int, m1 p0 j = m0 p0 j := by
    intro j
    subst em
    unfold mnew
    rw [if_neg (by omega), if_neg (by have := k1.1; omega)]
  refine go_acpy (x := 150) (a := 0) (b := 0) (e0 := 0) (s := p0) (e := z) (n := n9) (by decide +kernel) (by decide +kernel) R2 f0 f f7 f5 f4 g0 g1 (by omega) (by rw [hn9]; split <;> omega) (by rw [elen, hn9]; split <;> omega) (by rw [len_nw ez em, hn9]; split <;> omega) (fun j h1 h2 => ?_) (q_sum8 _ (Nat.le_of_ble_eq_true rfl)) fun S3 R3 E3 => ?_
  · rw [hmo]
    rcases k5 j h1 (by rw [hn9] at h2; split at h2 <;> omega) (by rw [hn9] at h2; split at h2 <;> omega) with h | h
    · exact Or.inl h
    · exact Or.inr ⟨h.1, Int.lt_of_lt_of_le h.2.1 E1.1, by rw [(E1.2 _ h.1 h.2.1).1]; exact h.2.2⟩
  have hmm : mcq m1 p0 z n9 = mcp m0 p0 p1 := by
    funext b j
    unfold mcq mcp
    by_cases hb : b = m0 0 0
    · rw [if_pos hb]
      have hb2 : b = z := by rw [hb, ez]
      by_cases hj : 0 ≤ j ∧ j < n9
      · rw [if_pos ⟨hb2, hj⟩, if_neg (by omega), if_neg (by omega), if_pos (by rw [hn9] at hj; split at hj <;> omega), hmo]
      · rw [if_neg (fun h => hj h.2)]
        have : m1 b j = if j = -1 then 107 else if j = -2 then p1 else 0 := by
          subst em
          unfold mnew
          rw [if_pos hb]
        rw [this]
        by_cases h1 : j = -1
        · rw [if_pos h1, if_pos h1]
        · rw [if_neg h1, if_neg h1]
          by_cases h2 : j = -2
          · rw [if_pos h2, if_pos h2]
          · rw [if_neg h2, if_neg h2, if_neg (by rw [hn9] at hj; split at hj <;> omega)]
    · rw [if_neg hb, if_neg (fun h => hb (by rw [h.1, ez]))]
      subst em
      unfold mnew
      rw [if_neg hb]
  rw [hmm] at R3 E3
  refine go_aload_n (n := 3) (by decide +kernel) l3 f ?_
  exact go_aret (by decide +kernel) rfl rfl f ⟨R3, Ext.tr E1 E3, q_out_v (by decide) (by rw [← ez]; exact f)⟩
theorem om_J7_copyOf_1904c {xs : List Int32} {d : Nat} {S : QS} {m0 : MM} {p0 p1 : Int} {v0 : Value} {v1 : Value} {rz : Int} {rm : MM} (hd : 4 ≤ d) (R : Rp S m0) (f0 : q_is 2 v0 p0) (f1 : q_is 0 v1 p1) (h : fm_J7_copyOf_1904c p0 p1 m0 = some (rz, rm)) : Mt xs d 333 [v0, v1] S (Cr 2 m0 rm rz) := by
  obtain ⟨hk, h⟩ := @gd_s _ _ (Classical.propDecidable _) _ _ h
  cases h
  obtain ⟨d, rfl⟩ : ∃ e, d = e + 1 := ⟨d - 1, by omega⟩
  refine Mt.of (M := qM_J7_copyOf_1904c) rfl (by rw [sl_1 (q_is_cat f0 (Or.inr rfl)), sl_1 (q_is_cat f1 (Or.inl rfl)), sl_0]; decide) ?_
  rw [la_1 (q_is_cat f0 (Or.inr rfl)), la_1 (q_is_cat f1 (Or.inl rfl)), la_0]
  obtain ⟨L, hL⟩ : ∃ L : QL, L = [(0, v0), (0 + 1, v1)] := ⟨_, rfl⟩
  rw [← hL]
  have l0 : q_lo L 0 = some v0 := by rw [hL]; rfl
  have l1 : q_lo L 1 = some v1 := by rw [hL]; rfl
  refine go_aload_n (n := 0) (by decide +kernel) l0 f0 ?_
  refine go_iload_n (n := 1) (by decide +kernel) l1 f1 ?_
  refine go_aload_n (n := 0) (by decide +kernel) l0 f0 ?_
  refine go_getC (x := 86) (a := 0) (b := 0) (e := 0) (by decide +kernel) (by decide +kernel) R f0 hk.1 (q_sum8 _ (Nat.le_of_ble_eq_true rfl)) ?_
  refine go_callS (x := 300) (mi := 334) (n := 3) (b := 0) (as := [v0, v1, .retAddr 0]) (rest := []) (by decide +kernel) (by decide +kernel) rfl rfl (q_sum8 _ (Nat.le_of_ble_eq_true rfl)) (om_J7_copyOf_6403c (by omega) R f0 f1 hk) (fun _ S2 q => ?_) (fun _ _ qq => kr_x qq)
  refine kr_z (by decide) q fun v7 f7 R2 E2 => ?_
  exact go_aret (by decide +kernel) rfl rfl f7 ⟨R2, E2, q_out_v (by decide) f7⟩
noncomputable def fm_X0_init (p0 p1 p2 p3 p4 p5 : Int) (m0 : MM) : Option (Int × MM) := up m0 p0 5 0 fun m_3 =>
up m_3 p0 6 0 fun m_12 =>
up m_12 p0 7 0 fun m_21 =>
up m_21 p0 8 0 fun m_30 =>
up m_30 p0 9 0 fun m_39 =>
up m_39 p0 10 0 fun m_48 =>
up m_48 p0 0 p1 fun m_55 =>
up m_55 p0 1 p2 fun m_62 =>
up m_62 p0 2 p3 fun m_69 =>
up m_69 p0 3 p4 fun m_76 =>
up m_76 p0 4 p5 fun m_83 =>
some (0, m_83)
set_option maxHeartbeats 4000000 in
theorem om_X0_init {xs : List Int32} {d : Nat} {S : QS} {m0 : MM} {p0 p1 p2 p3 p4 p5 : Int} {v0 : Value} {v1 : Value} {v2 : Value} {v3 : Value} {v4 : Value} {v5 : Value} {rz : Int} {rm : MM}
  (hd : 1 ≤ d) (R : Rp S m0) (g0 : okc m0 p0 1) (f0 : q_is 2 v0 p0) (f1 : q_is 2 v1 p1) (f2 : q_is 0 v2 p2) (f3 : q_is 0 v3 p3) (f4 : q_is 0 v4 p4) (f5 : q_is 0 v5 p5)
  (h : fm_X0_init p0 p1 p2 p3 p4 p5 m0 = some (rz, rm)) : Mt xs d 0 [v0, v1, v2, v3, v4, v5] S (Cr 9 m0 rm rz) := by
  obtain ⟨d, rfl⟩ : ∃ e, d = e + 1 := ⟨d - 1, by omega⟩
  have hd : 0 ≤ d := Nat.le_of_succ_le_succ hd
  refine Mt.of (M := qM_X0_init) rfl (by rw [sl_1 (q_is_cat f0 (Or.inr rfl)), sl_1 (q_is_cat f1 (Or.inr rfl)), sl_1 (q_is_cat f2 (Or.inl rfl)), sl_1 (q_is_cat f3 (Or.inl rfl)), sl_1 (q_is_cat f4 (Or.inl rfl)), sl_1 (q_is_cat f5 (Or.inl rfl)), sl_0]; decide) ?_
  rw [la_1 (q_is_cat f0 (Or.inr rfl)), la_1 (q_is_cat f1 (Or.inr rfl)), la_1 (q_is_cat f2 (Or.inl rfl)), la_1 (q_is_cat f3 (Or.inl rfl)), la_1 (q_is_cat f4 (Or.inl rfl)), la_1 (q_is_cat f5 (Or.inl rfl)), la_0]
  obtain ⟨L, hL⟩ : ∃ L : QL, L = [(0, v0), (0 + 1, v1), (0 + 1 + 1, v2), (0 + 1 + 1 + 1, v3), (0 + 1 + 1 + 1 + 1, v4), (0 + 1 + 1 + 1 + 1 + 1, v5)] := ⟨_, rfl⟩
  rw [← hL]
  have l0 : q_lo L 0 = some v0 := by rw [hL]; rfl
  have l1 : q_lo L 1 = some v1 := by rw [hL]; rfl
  have l2 : q_lo L 2 = some v2 := by rw [hL]; rfl
  have l3 : q_lo L 3 = some v3 := by rw [hL]; rfl
  have l4 : q_lo L 4 = some v4 := by rw [hL]; rfl
  have l5 : q_lo L 5 = some v5 := by rw [hL]; rfl
  have hQ : Ext m0 rm → ∀ o S1, Rp S1 rm → q_out 9 o rz → (Cr 9 m0 rm rz) o S1 := fun a o S1 b e => ⟨b, a, e⟩
  unfold fm_X0_init at h
  refine go_aload_n (n := 0) (by decide +kernel) l0 f0 ?_
  refine go_oinit (x := 1) (a := 0) (b := 0) (e := 0) (by decide +kernel) (by decide +kernel) f0 (okc_ne g0) (q_sum8 _ (Nat.le_of_ble_eq_true rfl)) ?_
  refine go_aload_n (n := 0) (by decide +kernel) l0 f0 ?_
  refine go_iconst (n := 0) (z := 0) (by decide +kernel) (by decide) fun v_1 f_2 => ?_
  obtain ⟨m_3, e_4, h⟩ := up_s h
  refine go_putf (x := 9) (ci := 1) (kf := 5) (fin := 0) (zt := 0) (by decide +kernel) (by decide +kernel) (by decide) (by decide +kernel) (by decide) (Or.inl rfl) R f0 f_2 (fun hq => absurd hq (by decide)) g0 e_4 (fx_f (j := 5) R.2 g0 (by decide +kernel)) fun S_5 R_6 E_7 => ?_
  have E_8 := E_7
  refine go_aload_n (n := 0) (by decide +kernel) l0 f0 ?_
  refine go_iconst (n := 0) (z := 0) (by decide +kernel) (by decide) fun v_9 f_10 => ?_
  have g_11 := Ext.ok E_7 g0
  obtain ⟨m_12, e_13, h⟩ := up_s h
  refine go_putf (x := 13) (ci := 1) (kf := 6) (fin := 0) (zt := 0) (by decide +kernel) (by decide +kernel) (by decide) (by decide +kernel) (by decide) (Or.inl rfl) R_6 f0 f_10 (fun hq => absurd hq (by decide)) g_11 e_13 (fx_f (j := 6) R_6.2 g_11 (by decide +kernel)) fun S_14 R_15 E_16 => ?_
  have E_17 := Ext.tr E_8 E_16
  refine go_aload_n (n := 0) (by decide +kernel) l0 f0 ?_
  refine go_iconst (n := 0) (z := 0) (by decide +kernel) (by decide) fun v_18 f_19 => ?_
  have g_20 := Ext.ok E_16 g_11
  obtain ⟨m_21, e_22, h⟩ := up_s h
  refine go_putf (x := 16) (ci := 1) (kf := 7) (fin := 0) (zt := 0) (by decide +kernel) (by decide +kernel) (by decide) (by decide +kernel) (by decide) (Or.inl rfl) R_15 f0 f_19 (fun hq => absurd hq (by decide)) g_20 e_22 (fx_f (j := 7) R_15.2 g_20 (by decide +kernel)) fun S_23 R_24 E_25 => ?_
  have E_26 := Ext.tr E_17 E_25
  refine go_aload_n (n := 0) (by decide +kernel) l0 f0 ?_
  refine go_iconst (n := 0) (z := 0) (by decide +kernel) (by decide) fun v_27 f_28 => ?_
  have g_29 := Ext.ok E_25 g_20
  obtain ⟨m_30, e_31, h⟩ := up_s h
  refine go_putf (x := 19) (ci := 1) (kf := 8) (fin := 0) (zt := 0) (by decide +kernel) (by decide +kernel) (by decide) (by decide +kernel) (by decide) (Or.inl rfl) R_24 f0 f_28 (fun hq => absurd hq (by decide)) g_29 e_31 (fx_f (j := 8) R_24.2 g_29 (by decide +kernel)) fun S_32 R_33 E_34 => ?_
  have E_35 := Ext.tr E_26 E_34
  refine go_aload_n (n := 0) (by decide +kernel) l0 f0 ?_
  refine go_iconst (n := 0) (z := 0) (by decide +kernel) (by decide) fun v_36 f_37 => ?_
  have g_38 := Ext.ok E_34 g_29
  obtain ⟨m_39, e_40, h⟩ := up_s h
  refine go_putf (x := 22) (ci := 1) (kf := 9) (fin := 0) (zt := 0) (by decide +kernel) (by decide +kernel) (by decide) (by decide +kernel) (by decide) (Or.inl rfl) R_33 f0 f_37 (fun hq => absurd hq (by decide)) g_38 e_40 (fx_f (j := 9) R_33.2 g_38 (by decide +kernel)) fun S_41 R_42 E_43 => ?_
  have E_44 := Ext.tr E_35 E_43
  refine go_aload_n (n := 0) (by decide +kernel) l0 f0 ?_
  refine go_iconst (n := 0) (z := 0) (by decide +kernel) (by decide) fun v_45 f_46 => ?_
  have g_47 := Ext.ok E_43 g_38
  obtain ⟨m_48, e_49, h⟩ := up_s h
  refine go_putf (x := 25) (ci := 1) (kf := 10) (fin := 0) (zt := 0) (by decide +kernel) (by decide +kernel) (by decide) (by decide +kernel) (by decide) (Or.inl rfl) R_42 f0 f_46 (fun hq => absurd hq (by decide)) g_47 e_49 (fx_f (j := 10) R_42.2 g_47 (by decide +kernel)) fun S_50 R_51 E_52 => ?_
  have E_53 := Ext.tr E_44 E_52
  refine go_aload_n (n := 0) (by decide +kernel) l0 f0 ?_
  refine go_aload_n (n := 1) (by decide +kernel) l1 f1 ?_
  have g_54 := Ext.ok E_52 g_47
  obtain ⟨m_55, e_56, h⟩ := up_s h
  refine go_putf (x := 28) (ci := 1) (kf := 0) (fin := 1) (zt := 2) (by decide +kernel) (by decide +kernel) (by decide) (by decide +kernel) (by decide) (Or.inr ⟨rfl, rfl⟩) R_51 f0 f1 (fun hq => absurd hq (by decide)) g_54 e_56 (fx_f (j := 0) R_51.2 g_54 (by decide +kernel)) fun S_57 R_58 E_59 => ?_
  have E_60 := Ext.tr E_53 E_59
  refine go_aload_n (n := 0) (by decide +kernel) l0 f0 ?_
  refine go_iload_n (n := 2) (by decide +kernel) l2 f2 ?_
  have g_61 := Ext.ok E_59 g_54
  obtain ⟨m_62, e_63, h⟩ := up_s h
  refine go_putf (x := 32) (ci := 1) (kf := 1) (fin := 1) (zt := 0) (by decide +kernel) (by decide +kernel) (by decide) (by decide +kernel) (by decide) (Or.inr ⟨rfl, rfl⟩) R_58 f0 f2 (fun hq => absurd hq (by decide)) g_61 e_63 (fx_f (j := 1) R_58.2 g_61 (by decide +kernel)) fun S_64 R_65 E_66 => ?_
  have E_67 := Ext.tr E_60 E_66
  refine go_aload_n (n := 0) (by decide +kernel) l0 f0 ?_
  refine go_iload_n (n := 3) (by decide +kernel) l3 f3 ?_
  have g_68 := Ext.ok E_66 g_61
  obtain ⟨m_69, e_70, h⟩ := up_s h
  refine go_putf (x := 35) (ci := 1) (kf := 2) (fin := 1) (zt := 0) (by decide +kernel) (by decide +kernel) (by decide) (by decide +kernel) (by decide) (Or.inr ⟨rfl, rfl⟩) R_65 f0 f3 (fun hq => absurd hq (by decide)) g_68 e_70 (fx_f (j := 2) R_65.2 g_68 (by decide +kernel)) fun S_71 R_72 E_73 => ?_
  have E_74 := Ext.tr E_67 E_73
  refine go_aload_n (n := 0) (by decide +kernel) l0 f0 ?_
  refine go_iload (n := 4) (by decide +kernel) l4 f4 ?_
  have g_75 := Ext.ok E_73 g_68
  obtain ⟨m_76, e_77, h⟩ := up_s h
  refine go_putf (x := 38) (ci := 1) (kf := 3) (fin := 1) (zt := 0) (by decide +kernel) (by decide +kernel) (by decide) (by decide +kernel) (by decide) (Or.inr ⟨rfl, rfl⟩) R_72 f0 f4 (fun hq => absurd hq (by decide)) g_75 e_77 (fx_f (j := 3) R_72.2 g_75 (by decide +kernel)) fun S_78 R_79 E_80 => ?_
  have E_81 := Ext.tr E_74 E_80
  refine go_aload_n (n := 0) (by decide +kernel) l0 f0 ?_
  refine go_iload (n := 5) (by decide +kernel) l5 f5 ?_
  have g_82 := Ext.ok E_80 g_75
  obtain ⟨m_83, e_84, h⟩ := up_s h
  refine go_putf (x := 41) (ci := 1) (kf := 4) (fin := 1) (zt := 0) (by decide +kernel) (by decide +kernel) (by decide) (by decide +kernel) (by decide) (Or.inr ⟨rfl, rfl⟩) R_79 f0 f5 (fun hq => absurd hq (by decide)) g_82 e_84 (fx_f (j := 4) R_79.2 g_82 (by decide +kernel)) fun S_85 R_86 E_87 => ?_
  have E_88 := Ext.tr E_81 E_87
  cases h
  exact go_vret (by decide +kernel) rfl (hQ E_88 _ _ R_86 q_out_n)
noncomputable def fm_X0_beTaken (p0 p1 : Int) (m0 : MM) : Option (Int × MM) := up m0 p0 5 1 fun m_3 =>
lx (m_3 p0 6) fun x_13 =>
up m_3 p0 6 (w32 (x_13 + 1)) fun m_19 =>
up m_19 p0 8 p1 fun m_26 =>
up m_26 p0 9 p1 fun m_33 =>
some (0, m_33)
set_option maxHeartbeats 4000000 in
theorem om_X0_beTaken {xs : List Int32} {d : Nat} {S : QS} {m0 : MM} {p0 p1 : Int} {v0 : Value} {v1 : Value} {rz : Int} {rm : MM}
  (hd : 1 ≤ d) (R : Rp S m0) (g0 : okc m0 p0 1) (f0 : q_is 2 v0 p0) (f1 : q_is 0 v1 p1)
  (h : fm_X0_beTaken p0 p1 m0 = some (rz, rm)) : Mt xs d 1 [v0, v1] S (Cr 9 m0 rm rz) := by
  obtain ⟨d, rfl⟩ : ∃ e, d = e + 1 := ⟨d - 1, by omega⟩
  have hd : 0 ≤ d := Nat.le_of_succ_le_succ hd
  refine Mt.of (M := qM_X0_beTaken) rfl (by rw [sl_1 (q_is_cat f0 (Or.inr rfl)), sl_1 (q_is_cat f1 (Or.inl rfl)), sl_0]; decide) ?_
  rw [la_1 (q_is_cat f0 (Or.inr rfl)), la_1 (q_is_cat f1 (Or.inl rfl)), la_0]
  obtain ⟨L, hL⟩ : ∃ L : QL, L = [(0, v0), (0 + 1, v1)] := ⟨_, rfl⟩
  rw [← hL]
  have l0 : q_lo L 0 = some v0 := by rw [hL]; rfl
  have l1 : q_lo L 1 = some v1 := by rw [hL]; rfl
  have hQ : Ext m0 rm → ∀ o S1, Rp S1 rm → q_out 9 o rz → (Cr 9 m0 rm rz) o S1 := fun a o S1 b e => ⟨b, a, e⟩
  unfold fm_X0_beTaken at h
  refine go_aload_n (n := 0) (by decide +kernel) l0 f0 ?_
  refine go_iconst (n := 1) (z := 1) (by decide +kernel) (by decide) fun v_1 f_2 => ?_
  obtain ⟨m_3, e_4, h⟩ := up_s h
  refine go_putf (x := 9) (ci := 1) (kf := 5) (fin := 0) (zt := 0) (by decide +kernel) (by decide +kernel) (by decide) (by decide +kernel) (by decide) (Or.inl rfl) R f0 f_2 (fun hq => absurd hq (by decide)) g0 e_4 (fx_f (j := 5) R.2 g0 (by decide +kernel)) fun S_5 R_6 E_7 => ?_
  have E_8 := E_7
  refine go_aload_n (n := 0) (by decide +kernel) l0 f0 ?_
  refine go_dup (by decide +kernel) f0 (Or.inr rfl) ?_
  have g_11 := Ext.ok E_7 g0
  obtain ⟨x_13, e_14, h⟩ := lx_s h
  refine go_getf (x := 13) (ci := 1) (kf := 6) (fin := 0) (t := 0) (by decide +kernel) (by decide +kernel) (by decide +kernel) R_6 f0 g_11 fun v_9 f_10 => ?_
  have f_12 := q_is_eq f_10 e_14
  refine go_iconst (n := 1) (z := 1) (by decide +kernel) (by decide) fun v_15 f_16 => ?_
  refine go_iadd (by decide +kernel) f_12 f_16 fun v_17 f_18 => ?_
  obtain ⟨m_19, e_20, h⟩ := up_s h
  refine go_putf (x := 13) (ci := 1) (kf := 6) (fin := 0) (zt := 0) (by decide +kernel) (by decide +kernel) (by decide) (by decide +kernel) (by decide) (Or.inl rfl) R_6 f0 f_18 (fun hq => absurd hq (by decide)) g_11 e_20 (fx_f (j := 6) R_6.2 g_11 (by decide +kernel)) fun S_21 R_22 E_23 => ?_
  have E_24 := Ext.tr E_8 E_23
  refine go_aload_n (n := 0) (by decide +kernel) l0 f0 ?_
  refine go_iload_n (n := 1) (by decide +kernel) l1 f1 ?_
  have g_25 := Ext.ok E_23 g_11
  obtain ⟨m_26, e_27, h⟩ := up_s h
  refine go_putf (x := 19) (ci := 1) (kf := 8) (fin := 0) (zt := 0) (by decide +kernel) (by decide +kernel) (by decide) (by decide +kernel) (by decide) (Or.inl rfl) R_22 f0 f1 (fun hq => absurd hq (by decide)) g_25 e_27 (fx_f (j := 8) R_22.2 g_25 (by decide +kernel)) fun S_28 R_29 E_30 => ?_
  have E_31 := Ext.tr E_24 E_30
  refine go_aload_n (n := 0) (by decide +kernel) l0 f0 ?_
  refine go_iload_n (n := 1) (by decide +kernel) l1 f1 ?_
  have g_32 := Ext.ok E_30 g_25
  obtain ⟨m_33, e_34, h⟩ := up_s h
  refine go_putf (x := 22) (ci := 1) (kf := 9) (fin := 0) (zt := 0) (by decide +kernel) (by decide +kernel) (by decide) (by decide +kernel) (by decide) (Or.inl rfl) R_29 f0 f1 (fun hq => absurd hq (by decide)) g_32 e_34 (fx_f (j := 9) R_29.2 g_32 (by decide +kernel)) fun S_35 R_36 E_37 => ?_
  have E_38 := Ext.tr E_31 E_37
  cases h
  exact go_vret (by decide +kernel) rfl (hQ E_38 _ _ R_36 q_out_n)
noncomputable def fm_X1_start (p0 p1 p2 p3 : Int) (m0 : MM) : Option (Int × MM) := up m0 p0 0 p1 fun m_1 =>
up m_1 p0 1 p2 fun m_8 =>
up m_8 p0 2 p2 fun m_15 =>
up m_15 p0 3 (-1) fun m_24 =>
up m_24 p0 4 p3 fun m_31 =>
up m_31 p0 5 0 fun m_40 =>
up m_40 p0 6 0 fun m_49 =>
up m_49 p0 7 0 fun m_58 =>
up m_58 p0 8 0 fun m_67 =>
up m_67 p0 9 0 fun m_76 =>
up m_76 p0 10 0 fun m_85 =>
some (0, m_85)
set_option maxHeartbeats 4000000 in
theorem om_X1_start {xs : List Int32} {d : Nat} {S : QS} {m0 : MM} {p0 p1 p2 p3 : Int} {v0 : Value} {v1 : Value} {v2 : Value} {v3 : Value} {rz : Int} {rm : MM}
  (hd : 1 ≤ d) (R : Rp S m0) (g0 : okc m0 p0 2) (f0 : q_is 2 v0 p0) (f1 : q_is 0 v1 p1) (f2 : q_is 0 v2 p2) (f3 : q_is 0 v3 p3)
  (h : fm_X1_start p0 p1 p2 p3 m0 = some (rz, rm)) : Mt xs d 3 [v0, v1, v2, v3] S (Cr 9 m0 rm rz) := by
  obtain ⟨d, rfl⟩ : ∃ e, d = e + 1 := ⟨d - 1, by omega⟩
  have hd : 0 ≤ d := Nat.le_of_succ_le_succ hd
  refine Mt.of (M := qM_X1_start) rfl (by rw [sl_1 (q_is_cat f0 (Or.inr rfl)), sl_1 (q_is_cat f1 (Or.inl rfl)), sl_1 (q_is_cat f2 (Or.inl rfl)), sl_1 (q_is_cat f3 (Or.inl rfl)), sl_0]; decide) ?_
  rw [la_1 (q_is_cat f0 (Or.inr rfl)), la_1 (q_is_cat f1 (Or.inl rfl)), la_1 (q_is_cat f2 (Or.inl rfl)), la_1 (q_is_cat f3 (Or.inl rfl)), la_0]
  obtain ⟨L, hL⟩ : ∃ L : QL, L = [(0, v0), (0 + 1, v1), (0 + 1 + 1, v2), (0 + 1 + 1 + 1, v3)] := ⟨_, rfl⟩
  rw [← hL]
  have l0 : q_lo L 0 = some v0 := by rw [hL]; rfl
  have l1 : q_lo L 1 = some v1 := by rw [hL]; rfl
  have l2 : q_lo L 2 = some v2 := by rw [hL]; rfl
  have l3 : q_lo L 3 = some v3 := by rw [hL]; rfl
  have hQ : Ext m0 rm → ∀ o S1, Rp S1 rm → q_out 9 o rz → (Cr 9 m0 rm rz) o S1 := fun a o S1 b e => ⟨b, a, e⟩
  unfold fm_X1_start at h
  refine go_aload_n (n := 0) (by decide +kernel) l0 f0 ?_
  refine go_iload_n (n := 1) (by decide +kernel) l1 f1 ?_
  obtain ⟨m_1, e_2, h⟩ := up_s h
  refine go_putf (x := 7) (ci := 2) (kf := 0) (fin := 0) (zt := 0) (by decide +kernel) (by decide +kernel) (by decide) (by decide +kernel) (by decide) (Or.inl rfl) R f0 f1 (fun hq => absurd hq (by decide)) g0 e_2 (fx_f (j := 0) R.2 g0 (by decide +kernel)) fun S_3 R_4 E_5 => ?_
  have E_6 := E_5
  refine go_aload_n (n := 0) (by decide +kernel) l0 f0 ?_
  refine go_iload_n (n := 2) (by decide +kernel) l2 f2 ?_
  have g_7 := Ext.ok E_5 g0
  obtain ⟨m_8, e_9, h⟩ := up_s h
  refine go_putf (x := 13) (ci := 2) (kf := 1) (fin := 0) (zt := 0) (by decide +kernel) (by decide +kernel) (by decide) (by decide +kernel) (by decide) (Or.inl rfl) R_4 f0 f2 (fun hq => absurd hq (by decide)) g_7 e_9 (fx_f (j := 1) R_4.2 g_7 (by decide +kernel)) fun S_10 R_11 E_12 => ?_
  have E_13 := Ext.tr E_6 E_12
  refine go_aload_n (n := 0) (by decide +kernel) l0 f0 ?_
  refine go_iload_n (n := 2) (by decide +kernel) l2 f2 ?_
  have g_14 := Ext.ok E_12 g_7
  obtain ⟨m_15, e_16, h⟩ := up_s h
  refine go_putf (x := 16) (ci := 2) (kf := 2) (fin := 0) (zt := 0) (by decide +kernel) (by decide +kernel) (by decide) (by decide +kernel) (by decide) (Or.inl rfl) R_11 f0 f2 (fun hq => absurd hq (by decide)) g_14 e_16 (fx_f (j := 2) R_11.2 g_14 (by decide +kernel)) fun S_17 R_18 E_19 => ?_
  have E_20 := Ext.tr E_13 E_19
  refine go_aload_n (n := 0) (by decide +kernel) l0 f0 ?_
  refine go_iconst (n := (-1)) (z := (-1)) (by decide +kernel) (by decide) fun v_21 f_22 => ?_
  have g_23 := Ext.ok E_19 g_14
  obtain ⟨m_24, e_25, h⟩ := up_s h
  refine go_putf (x := 19) (ci := 2) (kf := 3) (fin := 0) (zt := 0) (by decide +kernel) (by decide +kernel) (by decide) (by decide +kernel) (by decide) (Or.inl rfl) R_18 f0 f_22 (fun hq => absurd hq (by decide)) g_23 e_25 (fx_f (j := 3) R_18.2 g_23 (by decide +kernel)) fun S_26 R_27 E_28 => ?_
  have E_29 := Ext.tr E_20 E_28
  refine go_aload_n (n := 0) (by decide +kernel) l0 f0 ?_
  refine go_iload_n (n := 3) (by decide +kernel) l3 f3 ?_
  have g_30 := Ext.ok E_28 g_23
  obtain ⟨m_31, e_32, h⟩ := up_s h
  refine go_putf (x := 22) (ci := 2) (kf := 4) (fin := 0) (zt := 0) (by decide +kernel) (by decide +kernel) (by decide) (by decide +kernel) (by decide) (Or.inl rfl) R_27 f0 f3 (fun hq => absurd hq (by decide)) g_30 e_32 (fx_f (j := 4) R_27.2 g_30 (by decide +kernel)) fun S_33 R_34 E_35 => ?_
  have E_36 := Ext.tr E_29 E_35
  refine go_aload_n (n := 0) (by decide +kernel) l0 f0 ?_
  refine go_iconst (n := 0) (z := 0) (by decide +kernel) (by decide) fun v_37 f_38 => ?_
  have g_39 := Ext.ok E_35 g_30
  obtain ⟨m_40, e_41, h⟩ := up_s h
  refine go_putf (x := 25) (ci := 2) (kf := 5) (fin := 0) (zt := 0) (by decide +kernel) (by decide +kernel) (by decide) (by decide +kernel) (by decide) (Or.inl rfl) R_34 f0 f_38 (fun hq => absurd hq (by decide)) g_39 e_41 (fx_f (j := 5) R_34.2 g_39 (by decide +kernel)) fun S_42 R_43 E_44 => ?_
  have E_45 := Ext.tr E_36 E_44
  refine go_aload_n (n := 0) (by decide +kernel) l0 f0 ?_
  refine go_iconst (n := 0) (z := 0) (by decide +kernel) (by decide) fun v_46 f_47 => ?_
  have g_48 := Ext.ok E_44 g_39
  obtain ⟨m_49, e_50, h⟩ := up_s h
  refine go_putf (x := 28) (ci := 2) (kf := 6) (fin := 0) (zt := 1) (by decide +kernel) (by decide +kernel) (by decide) (by decide +kernel) (by decide) (Or.inl rfl) R_43 f0 f_47 (fun _ => by decide) g_48 e_50 (fx_f (j := 6) R_43.2 g_48 (by decide +kernel)) fun S_51 R_52 E_53 => ?_
  have E_54 := Ext.tr E_45 E_53
  refine go_aload_n (n := 0) (by decide +kernel) l0 f0 ?_
  refine go_iconst (n := 0) (z := 0) (by decide +kernel) (by decide) fun v_55 f_56 => ?_
  have g_57 := Ext.ok E_53 g_48
  obtain ⟨m_58, e_59, h⟩ := up_s h
  refine go_putf (x := 32) (ci := 2) (kf := 7) (fin := 0) (zt := 0) (by decide +kernel) (by decide +kernel) (by decide) (by decide +kernel) (by decide) (Or.inl rfl) R_52 f0 f_56 (fun hq => absurd hq (by decide)) g_57 e_59 (fx_f (j := 7) R_52.2 g_57 (by decide +kernel)) fun S_60 R_61 E_62 => ?_
  have E_63 := Ext.tr E_54 E_62
  refine go_aload_n (n := 0) (by decide +kernel) l0 f0 ?_
  refine go_iconst (n := 0) (z := 0) (by decide +kernel) (by decide) fun v_64 f_65 => ?_
  have g_66 := Ext.ok E_62 g_57
  obtain ⟨m_67, e_68, h⟩ := up_s h
  refine go_putf (x := 35) (ci := 2) (kf := 8) (fin := 0) (zt := 0) (by decide +kernel) (by decide +kernel) (by decide) (by decide +kernel) (by decide) (Or.inl rfl) R_61 f0 f_65 (fun hq => absurd hq (by decide)) g_66 e_68 (fx_f (j := 8) R_61.2 g_66 (by decide +kernel)) fun S_69 R_70 E_71 => ?_
  have E_72 := Ext.tr E_63 E_71
  refine go_aload_n (n := 0) (by decide +kernel) l0 f0 ?_
  refine go_iconst (n := 0) (z := 0) (by decide +kernel) (by decide) fun v_73 f_74 => ?_
  have g_75 := Ext.ok E_71 g_66
  obtain ⟨m_76, e_77, h⟩ := up_s h
  refine go_putf (x := 38) (ci := 2) (kf := 9) (fin := 0) (zt := 1) (by decide +kernel) (by decide +kernel) (by decide) (by decide +kernel) (by decide) (Or.inl rfl) R_70 f0 f_74 (fun _ => by decide) g_75 e_77 (fx_f (j := 9) R_70.2 g_75 (by decide +kernel)) fun S_78 R_79 E_80 => ?_
  have E_81 := Ext.tr E_72 E_80
  refine go_aload_n (n := 0) (by decide +kernel) l0 f0 ?_
  refine go_iconst (n := 0) (z := 0) (by decide +kernel) (by decide) fun v_82 f_83 => ?_
  have g_84 := Ext.ok E_80 g_75
  obtain ⟨m_85, e_86, h⟩ := up_s h
  refine go_putf (x := 41) (ci := 2) (kf := 10) (fin := 0) (zt := 0) (by decide +kernel) (by decide +kernel) (by decide) (by decide +kernel) (by decide) (Or.inl rfl) R_79 f0 f_83 (fun hq => absurd hq (by decide)) g_84 e_86 (fx_f (j := 10) R_79.2 g_84 (by decide +kernel)) fun S_87 R_88 E_89 => ?_
  have E_90 := Ext.tr E_81 E_89
  cases h
  exact go_vret (by decide +kernel) rfl (hQ E_90 _ _ R_88 q_out_n)
noncomputable def fm_X1_waitFor (p0 p1 p2 : Int) (m0 : MM) : Option (Int × MM) := up m0 p0 7 p1 fun m_1 =>
up m_1 p0 8 p2 fun m_8 =>
some (0, m_8)
set_option maxHeartbeats 4000000 in
theorem om_X1_waitFor {xs : List Int32} {d : Nat} {S : QS} {m0 : MM} {p0 p1 p2 : Int} {v0 : Value} {v1 : Value} {v2 : Value} {rz : Int} {rm : MM}
  (hd : 1 ≤ d) (R : Rp S m0) (g0 : okc m0 p0 2) (f0 : q_is 2 v0 p0) (f1 : q_is 0 v1 p1) (f2 : q_is 0 v2 p2)
  (h : fm_X1_waitFor p0 p1 p2 m0 = some (rz, rm)) : Mt xs d 4 [v0, v1, v2] S (Cr 9 m0 rm rz) := by
  obtain ⟨d, rfl⟩ : ∃ e, d = e + 1 := ⟨d - 1, by omega⟩
  have hd : 0 ≤ d := Nat.le_of_succ_le_succ hd
  refine Mt.of (M := qM_X1_waitFor) rfl (by rw [sl_1 (q_is_cat f0 (Or.inr rfl)), sl_1 (q_is_cat f1 (Or.inl rfl)), sl_1 (q_is_cat f2 (Or.inl rfl)), sl_0]; decide) ?_
  rw [la_1 (q_is_cat f0 (Or.inr rfl)), la_1 (q_is_cat f1 (Or.inl rfl)), la_1 (q_is_cat f2 (Or.inl rfl)), la_0]
  obtain ⟨L, hL⟩ : ∃ L : QL, L = [(0, v0), (0 + 1, v1), (0 + 1 + 1, v2)] := ⟨_, rfl⟩
  rw [← hL]
  have l0 : q_lo L 0 = some v0 := by rw [hL]; rfl
  have l1 : q_lo L 1 = some v1 := by rw [hL]; rfl
  have l2 : q_lo L 2 = some v2 := by rw [hL]; rfl
  have hQ : Ext m0 rm → ∀ o S1, Rp S1 rm → q_out 9 o rz → (Cr 9 m0 rm rz) o S1 := fun a o S1 b e => ⟨b, a, e⟩
  unfold fm_X1_waitFor at h
  refine go_aload_n (n := 0) (by decide +kernel) l0 f0 ?_
  refine go_iload_n (n := 1) (by decide +kernel) l1 f1 ?_
  obtain ⟨m_1, e_2, h⟩ := up_s h
  refine go_putf (x := 32) (ci := 2) (kf := 7) (fin := 0) (zt := 0) (by decide +kernel) (by decide +kernel) (by decide) (by decide +kernel) (by decide) (Or.inl rfl) R f0 f1 (fun hq => absurd hq (by decide)) g0 e_2 (fx_f (j := 7) R.2 g0 (by decide +kernel)) fun S_3 R_4 E_5 => ?_
  have E_6 := E_5
  refine go_aload_n (n := 0) (by decide +kernel) l0 f0 ?_
  refine go_iload_n (n := 2) (by decide +kernel) l2 f2 ?_
  have g_7 := Ext.ok E_5 g0
  obtain ⟨m_8, e_9, h⟩ := up_s h
  refine go_putf (x := 35) (ci := 2) (kf := 8) (fin := 0) (zt := 0) (by decide +kernel) (by decide +kernel) (by decide) (by decide +kernel) (by decide) (Or.inl rfl) R_4 f0 f2 (fun hq => absurd hq (by decide)) g_7 e_9 (fx_f (j := 8) R_4.2 g_7 (by decide +kernel)) fun S_10 R_11 E_12 => ?_
  have E_13 := Ext.tr E_6 E_12
  cases h
  exact go_vret (by decide +kernel) rfl (hQ E_13 _ _ R_11 q_out_n)
noncomputable def fm_X1_goOnAt (p0 p1 : Int) (m0 : MM) : Option (Int × MM) := up m0 p0 7 0 fun m_3 =>
up m_3 p0 4 p1 fun m_10 =>
some (0, m_10)
set_option maxHeartbeats 4000000 in
theorem om_X1_goOnAt {xs : List Int32} {d : Nat} {S : QS} {m0 : MM} {p0 p1 : Int} {v0 : Value} {v1 : Value} {rz : Int} {rm : MM}
  (hd : 1 ≤ d) (R : Rp S m0) (g0 : okc m0 p0 2) (f0 : q_is 2 v0 p0) (f1 : q_is 0 v1 p1)
  (h : fm_X1_goOnAt p0 p1 m0 = some (rz, rm)) : Mt xs d 5 [v0, v1] S (Cr 9 m0 rm rz) := by
  obtain ⟨d, rfl⟩ : ∃ e, d = e + 1 := ⟨d - 1, by omega⟩
  have hd : 0 ≤ d := Nat.le_of_succ_le_succ hd
  refine Mt.of (M := qM_X1_goOnAt) rfl (by rw [sl_1 (q_is_cat f0 (Or.inr rfl)), sl_1 (q_is_cat f1 (Or.inl rfl)), sl_0]; decide) ?_
  rw [la_1 (q_is_cat f0 (Or.inr rfl)), la_1 (q_is_cat f1 (Or.inl rfl)), la_0]
  obtain ⟨L, hL⟩ : ∃ L : QL, L = [(0, v0), (0 + 1, v1)] := ⟨_, rfl⟩
  rw [← hL]
  have l0 : q_lo L 0 = some v0 := by rw [hL]; rfl
  have l1 : q_lo L 1 = some v1 := by rw [hL]; rfl
  have hQ : Ext m0 rm → ∀ o S1, Rp S1 rm → q_out 9 o rz → (Cr 9 m0 rm rz) o S1 := fun a o S1 b e => ⟨b, a, e⟩
  unfold fm_X1_goOnAt at h
  refine go_aload_n (n := 0) (by decide +kernel) l0 f0 ?_
  refine go_iconst (n := 0) (z := 0) (by decide +kernel) (by decide) fun v_1 f_2 => ?_
  obtain ⟨m_3, e_4, h⟩ := up_s h
  refine go_putf (x := 32) (ci := 2) (kf := 7) (fin := 0) (zt := 0) (by decide +kernel) (by decide +kernel) (by decide) (by decide +kernel) (by decide) (Or.inl rfl) R f0 f_2 (fun hq => absurd hq (by decide)) g0 e_4 (fx_f (j := 7) R.2 g0 (by decide +kernel)) fun S_5 R_6 E_7 => ?_
  have E_8 := E_7
  refine go_aload_n (n := 0) (by decide +kernel) l0 f0 ?_
  refine go_iload_n (n := 1) (by decide +kernel) l1 f1 ?_
  have g_9 := Ext.ok E_7 g0
  obtain ⟨m_10, e_11, h⟩ := up_s h
  refine go_putf (x := 22) (ci := 2) (kf := 4) (fin := 0) (zt := 0) (by decide +kernel) (by decide +kernel) (by decide) (by decide +kernel) (by decide) (Or.inl rfl) R_6 f0 f1 (fun hq => absurd hq (by decide)) g_9 e_11 (fx_f (j := 4) R_6.2 g_9 (by decide +kernel)) fun S_12 R_13 E_14 => ?_
  have E_15 := Ext.tr E_8 E_14
  cases h
  exact go_vret (by decide +kernel) rfl (hQ E_15 _ _ R_13 q_out_n)
noncomputable def fm_J9_max_7cf53 (p0 p1 : Int) (m0 : MM) : Option Int := if p0 < p1 then
some p1
else
some p0
set_option maxHeartbeats 4000000 in
theorem om_J9_max_7cf53 {xs : List Int32} {d : Nat} {S : QS} {m0 : MM} {p0 p1 : Int} {v0 : Value} {v1 : Value} {rz : Int}
  (hd : 1 ≤ d) (R : Rp S m0) (f0 : q_is 0 v0 p0) (f1 : q_is 0 v1 p1)
  (h : fm_J9_max_7cf53 p0 p1 m0 = some rz) : Mt xs d 319 [v0, v1] S (Cr 0 m0 m0 rz) := by
  obtain ⟨d, rfl⟩ : ∃ e, d = e + 1 := ⟨d - 1, by omega⟩
  have hd : 0 ≤ d := Nat.le_of_succ_le_succ hd
  refine Mt.of (M := qM_J9_max_7cf53) rfl (by rw [sl_1 (q_is_cat f0 (Or.inl rfl)), sl_1 (q_is_cat f1 (Or.inl rfl)), sl_0]; decide) ?_
  rw [la_1 (q_is_cat f0 (Or.inl rfl)), la_1 (q_is_cat f1 (Or.inl rfl)), la_0]
  obtain ⟨L, hL⟩ : ∃ L : QL, L = [(0, v0), (0 + 1, v1)] := ⟨_, rfl⟩
  rw [← hL]
  have l0 : q_lo L 0 = some v0 := by rw [hL]; rfl
  have l1 : q_lo L 1 = some v1 := by rw [hL]; rfl
  have hQ : ∀ o S1, Rp S1 m0 → q_out 0 o rz → (Cr 0 m0 m0 rz) o S1 := fun o S1 a b => ⟨a, Ext.rf _, b⟩
  unfold fm_J9_max_7cf53 at h
  refine go_iload_n (n := 0) (by decide +kernel) l0 f0 ?_
  refine go_iload_n (n := 1) (by decide +kernel) l1 f1 ?_
  refine go_icmp (c := .lt) (o := 7) (t := 9) (P := p0 < p1) (by decide +kernel) (by decide +kernel) f0 f1 (Iff.rfl) (fun hp_1 => ?_) (fun hp_1 => ?_)
  · have h := it_t hp_1 h
    refine go_iload_n (n := 1) (by decide +kernel) l1 f1 ?_
    cases h
    exact go_iret (by decide +kernel) rfl (Or.inl rfl) f1 (hQ _ _ R (q_out_v (by decide) f1))
  · have h := it_f hp_1 h
    refine go_iload_n (n := 0) (by decide +kernel) l0 f0 ?_
    refine go_goto (o := 4) (t := 10) (by decide +kernel) (by decide +kernel) ?_
    cases h
    exact go_iret (by decide +kernel) rfl (Or.inl rfl) f0 (hQ _ _ R (q_out_v (by decide) f0))
noncomputable def fj_X1_isBare_33 (p0 s0 : Int) (m : MM) : Option (Int × MM) := lx (m p0 6) fun x_43 =>
if x_43 = 0 then
up m p0 6 0 fun m_48 =>
gd (s0 = 0 ∨ s0 = 1) <| some (s0, m_48)
else
if s0 = 0 then
up m p0 6 1 fun m_67 =>
gd (s0 = 0 ∨ s0 = 1) <| some (s0, m_67)
else
up m p0 6 0 fun m_58 =>
gd (s0 = 0 ∨ s0 = 1) <| some (s0, m_58)
set_option maxHeartbeats 4000000 in
theorem oj_X1_isBare_33 {xs : List Int32} {d : Nat} {S : QS} {L : QL} {Q : QO → QS → Prop} {m : MM} {p0 s0 : Int} {v0 : Value} {w0 : Value}  {rz : Int} {rm : MM}
  (hd : 1 ≤ d) (R : Rp S m) (g0 : okc m p0 2) (l0 : q_lo L 0 = some v0) (f0 : q_is 2 v0 p0) (fs0 : q_is 0 w0 s0)
  (hQ : Ext m rm → ∀ o S1, Rp S1 rm → q_out 0 o rz → Q o S1)
  (h : fj_X1_isBare_33 p0 s0 m = some (rz, rm)) : Go xs d qM_X1_isBare 33 L [w0] S Q := by
  unfold fj_X1_isBare_33 at h
  refine go_istore_n (n := 1) (by decide +kernel) (by decide +kernel) fs0 fun L_36 l_37 kp_38 => ?_
  have l_39 := kp_38 0 _ l0 (by decide) (Or.inr (q_is_cat f0 (Or.inr rfl)))
  refine go_aload_n (n := 0) (by decide +kernel) l_39 f0 ?_
  refine go_aload_n (n := 0) (by decide +kernel) l_39 f0 ?_
  obtain ⟨x_43, e_44, h⟩ := lx_s h
  refine go_getf (x := 28) (ci := 2) (kf := 6) (fin := 0) (t := 0) (by decide +kernel) (by decide +kernel) (by decide +kernel) R f0 g0 fun v_40 f_41 => ?_
  have f_42 := q_is_eq f_41 e_44
  refine go_if (c := .eq) (o := 11) (t := 50) (P := x_43 = 0) (by decide +kernel) (by decide +kernel) f_42 (Iff.rfl) (fun hp_45 => ?_) (fun hp_45 => ?_)
  · have h := it_t hp_45 h
    refine go_iconst (n := 0) (z := 0) (by decide +kernel) (by decide) fun v_46 f_47 => ?_
    obtain ⟨m_48, e_49, h⟩ := up_s h
    refine go_putf (x := 28) (ci := 2) (kf := 6) (fin := 0) (zt := 1) (by decide +kernel) (by decide +kernel) (by decide) (by decide +kernel) (by decide) (Or.inl rfl) R f0 f_47 (fun _ => by decide) g0 e_49 (fx_f (j := 6) R.2 g0 (by decide +kernel)) fun S_50 R_51 E_52 => ?_
    have E_53 := E_52
    refine go_iload_n (n := 1) (by decide +kernel) l_37 fs0 ?_
    obtain ⟨g_54, h⟩ := gd_s h
    cases h
    exact go_iret (by decide +kernel) rfl (Or.inr ⟨rfl, g_54⟩) fs0 (hQ E_53 _ _ R_51 (q_out_v (by decide) fs0))
  · have h := it_f hp_45 h
    refine go_iload_n (n := 1) (by decide +kernel) l_37 fs0 ?_
    refine go_if (c := .ne) (o := 7) (t := 50) (P := ¬ (s0 = 0)) (by decide +kernel) (by decide +kernel) fs0 (Iff.rfl) (fun hp_55 => ?_) (fun hp_55 => ?_)
    · have h := it_f hp_55 h
      refine go_iconst (n := 0) (z := 0) (by decide +kernel) (by decide) fun v_56 f_57 => ?_
      obtain ⟨m_58, e_59, h⟩ := up_s h
      refine go_putf (x := 28) (ci := 2) (kf := 6) (fin := 0) (zt := 1) (by decide +kernel) (by decide +kernel) (by decide) (by decide +kernel) (by decide) (Or.inl rfl) R f0 f_57 (fun _ => by decide) g0 e_59 (fx_f (j := 6) R.2 g0 (by decide +kernel)) fun S_60 R_61 E_62 => ?_
      have E_63 := E_62
      refine go_iload_n (n := 1) (by decide +kernel) l_37 fs0 ?_
      obtain ⟨g_64, h⟩ := gd_s h
      cases h
      exact go_iret (by decide +kernel) rfl (Or.inr ⟨rfl, g_64⟩) fs0 (hQ E_63 _ _ R_61 (q_out_v (by decide) fs0))
    · have h := it_n hp_55 h
      refine go_iconst (n := 1) (z := 1) (by decide +kernel) (by decide) fun v_65 f_66 => ?_
      refine go_goto (o := 4) (t := 51) (by decide +kernel) (by decide +kernel) ?_
      obtain ⟨m_67, e_68, h⟩ := up_s h
      refine go_putf (x := 28) (ci := 2) (kf := 6) (fin := 0) (zt := 1) (by decide +kernel) (by decide +kernel) (by decide) (by decide +kernel) (by decide) (Or.inl rfl) R f0 f_66 (fun _ => by decide) g0 e_68 (fx_f (j := 6) R.2 g0 (by decide +kernel)) fun S_69 R_70 E_71 => ?_
      have E_72 := E_71
      refine go_iload_n (n := 1) (by decide +kernel) l_37 fs0 ?_
      obtain ⟨g_73, h⟩ := gd_s h
      cases h
      exact go_iret (by decide +kernel) rfl (Or.inr ⟨rfl, g_73⟩) fs0 (hQ E_72 _ _ R_70 (q_out_v (by decide) fs0))
noncomputable def fm_X1_isBare (p0 : Int) (m0 : MM) : Option (Int × MM) := lx (m0 p0 5) fun x_6 =>
bp (fm_J9_max_7cf53 0 (w32 (x_6 - 1)) m0) fun x_13 =>
up m0 p0 5 x_13 fun m_21 =>
lx (m_21 p0 6) fun x_31 =>
if x_31 = 0 then
fj_X1_isBare_33 p0 0 m_21
else
lx (m_21 p0 5) fun x_77 =>
if x_77 = 0 then
fj_X1_isBare_33 p0 1 m_21
else
fj_X1_isBare_33 p0 0 m_21
set_option maxHeartbeats 4000000 in
theorem om_X1_isBare {xs : List Int32} {d : Nat} {S : QS} {m0 : MM} {p0 : Int} {v0 : Value} {rz : Int} {rm : MM}
  (hd : 2 ≤ d) (R : Rp S m0) (g0 : okc m0 p0 2) (f0 : q_is 2 v0 p0)
  (h : fm_X1_isBare p0 m0 = some (rz, rm)) : Mt xs d 6 [v0] S (Cr 0 m0 rm rz) := by
  obtain ⟨d, rfl⟩ : ∃ e, d = e + 1 := ⟨d - 1, by omega⟩
  have hd : 1 ≤ d := Nat.le_of_succ_le_succ hd
  refine Mt.of (M := qM_X1_isBare) rfl (by rw [sl_1 (q_is_cat f0 (Or.inr rfl)), sl_0]; decide) ?_
  rw [la_1 (q_is_cat f0 (Or.inr rfl)), la_0]
  obtain ⟨L, hL⟩ : ∃ L : QL, L = [(0, v0)] := ⟨_, rfl⟩
  rw [← hL]
  have l0 : q_lo L 0 = some v0 := by rw [hL]; rfl
  have hQ : Ext m0 rm → ∀ o S1, Rp S1 rm → q_out 0 o rz → (Cr 0 m0 rm rz) o S1 := fun a o S1 b e => ⟨b, a, e⟩
  unfold fm_X1_isBare at h
  refine go_aload_n (n := 0) (by decide +kernel) l0 f0 ?_
  refine go_iconst (n := 0) (z := 0) (by decide +kernel) (by decide) fun v_1 f_2 => ?_
  refine go_aload_n (n := 0) (by decide +kernel) l0 f0 ?_
  obtain ⟨x_6, e_7, h⟩ := lx_s h
  refine go_getf (x := 25) (ci := 2) (kf := 5) (fin := 0) (t := 0) (by decide +kernel) (by decide +kernel) (by decide +kernel) R f0 g0 fun v_3 f_4 => ?_
  have f_5 := q_is_eq f_4 e_7
  refine go_iconst (n := 1) (z := 1) (by decide +kernel) (by decide) fun v_8 f_9 => ?_
  refine go_isub (by decide +kernel) f_5 f_9 fun v_10 f_11 => ?_
  obtain ⟨x_13, hc_12, h⟩ := bp_s h
  refine go_callS (x := 44) (mi := 319) (n := 2) (b := 0) (as := [v_1, v_10]) (rest := [v0]) (by decide +kernel) (by decide +kernel) rfl rfl (q_sum8 _ (Nat.le_of_ble_eq_true rfl)) (om_J9_max_7cf53 (Nat.le_trans (by decide) hd) R f_2 f_11 hc_12) (fun _ S_17 q_20 => ?_) (fun _ _ qq => kr_x qq)
  refine kr_z (by decide) q_20 fun v_15 f_16 R_18 E_19 => ?_
  obtain ⟨m_21, e_22, h⟩ := up_s h
  refine go_putf (x := 25) (ci := 2) (kf := 5) (fin := 0) (zt := 0) (by decide +kernel) (by decide +kernel) (by decide) (by decide +kernel) (by decide) (Or.inl rfl) R_18 f0 f_16 (fun hq => absurd hq (by decide)) g0 e_22 (fx_f (j := 5) R_18.2 g0 (by decide +kernel)) fun S_23 R_24 E_25 => ?_
  have E_26 := E_25
  refine go_aload_n (n := 0) (by decide +kernel) l0 f0 ?_
  have g_29 := Ext.ok E_25 g0
  obtain ⟨x_31, e_32, h⟩ := lx_s h
  refine go_getf (x := 28) (ci := 2) (kf := 6) (fin := 0) (t := 0) (by decide +kernel) (by decide +kernel) (by decide +kernel) R_24 f0 g_29 fun v_27 f_28 => ?_
  have f_30 := q_is_eq f_28 e_32
  refine go_if (c := .eq) (o := 14) (t := 32) (P := x_31 = 0) (by decide +kernel) (by decide +kernel) f_30 (Iff.rfl) (fun hp_33 => ?_) (fun hp_33 => ?_)
  · have h := it_t hp_33 h
    refine go_iconst (n := 0) (z := 0) (by decide +kernel) (by decide) fun v_34 f_35 => ?_
    exact oj_X1_isBare_33 hd R_24 g_29 l0 f0 f_35 (fun b => hQ (Ext.tr E_26 b)) h
  · have h := it_f hp_33 h
    refine go_aload_n (n := 0) (by decide +kernel) l0 f0 ?_
    obtain ⟨x_77, e_78, h⟩ := lx_s h
    refine go_getf (x := 25) (ci := 2) (kf := 5) (fin := 0) (t := 0) (by decide +kernel) (by decide +kernel) (by decide +kernel) R_24 f0 g_29 fun v_74 f_75 => ?_
    have f_76 := q_is_eq f_75 e_78
    refine go_if (c := .ne) (o := 7) (t := 32) (P := ¬ (x_77 = 0)) (by decide +kernel) (by decide +kernel) f_76 (Iff.rfl) (fun hp_79 => ?_) (fun hp_79 => ?_)
    · have h := it_f hp_79 h
      refine go_iconst (n := 0) (z := 0) (by decide +kernel) (by decide) fun v_80 f_81 => ?_
      exact oj_X1_isBare_33 hd R_24 g_29 l0 f0 f_81 (fun b => hQ (Ext.tr E_26 b)) h
    · have h := it_n hp_79 h
      refine go_iconst (n := 1) (z := 1) (by decide +kernel) (by decide) fun v_82 f_83 => ?_
      refine go_goto (o := 4) (t := 33) (by decide +kernel) (by decide +kernel) ?_
      exact oj_X1_isBare_33 hd R_24 g_29 l0 f0 f_83 (fun b => hQ (Ext.tr E_26 b)) h
noncomputable def fm_X1_waitsForEvent (p0 : Int) (m0 : MM) : Option Int := lx (m0 p0 7) fun x_4 =>
if x_4 = 1 then
some 1
else
if x_4 = 2 then
some 1
else
some 0
set_option maxHeartbeats 4000000 in
theorem om_X1_waitsForEvent {xs : List Int32} {d : Nat} {S : QS} {m0 : MM} {p0 : Int} {v0 : Value} {rz : Int}
  (hd : 1 ≤ d) (R : Rp S m0) (g0 : okc m0 p0 2) (f0 : q_is 2 v0 p0)
  (h : fm_X1_waitsForEvent p0 m0 = some rz) : Mt xs d 7 [v0] S (Cr 0 m0 m0 rz) := by
  obtain ⟨d, rfl⟩ : ∃ e, d = e + 1 := ⟨d - 1, by omega⟩
  have hd : 0 ≤ d := Nat.le_of_succ_le_succ hd
  refine Mt.of (M := qM_X1_waitsForEvent) rfl (by rw [sl_1 (q_is_cat f0 (Or.inr rfl)), sl_0]; decide) ?_
  rw [la_1 (q_is_cat f0 (Or.inr rfl)), la_0]
  obtain ⟨L, hL⟩ : ∃ L : QL, L = [(0, v0)] := ⟨_, rfl⟩
  rw [← hL]
  have l0 : q_lo L 0 = some v0 := by rw [hL]; rfl
  have hQ : ∀ o S1, Rp S1 m0 → q_out 0 o rz → (Cr 0 m0 m0 rz) o S1 := fun o S1 a b => ⟨a, Ext.rf _, b⟩
  unfold fm_X1_waitsForEvent at h
  refine go_aload_n (n := 0) (by decide +kernel) l0 f0 ?_
  obtain ⟨x_4, e_5, h⟩ := lx_s h
  refine go_getf (x := 32) (ci := 2) (kf := 7) (fin := 0) (t := 0) (by decide +kernel) (by decide +kernel) (by decide +kernel) R f0 g0 fun v_1 f_2 => ?_
  have f_3 := q_is_eq f_2 e_5
  refine go_iconst (n := 1) (z := 1) (by decide +kernel) (by decide) fun v_6 f_7 => ?_
  refine go_icmp (c := .eq) (o := 11) (t := 16) (P := x_4 = 1) (by decide +kernel) (by decide +kernel) f_3 f_7 (Iff.rfl) (fun hp_8 => ?_) (fun hp_8 => ?_)
  · have h := it_t hp_8 h
    refine go_iconst (n := 1) (z := 1) (by decide +kernel) (by decide) fun v_9 f_10 => ?_
    refine go_goto (o := 4) (t := 21) (by decide +kernel) (by decide +kernel) ?_
    cases h
    exact go_iret (by decide +kernel) rfl (Or.inr ⟨rfl, by decide⟩) f_10 (hQ _ _ R (q_out_v (by decide) f_10))
  · have h := it_f hp_8 h
    refine go_aload_n (n := 0) (by decide +kernel) l0 f0 ?_
    refine go_getf (x := 32) (ci := 2) (kf := 7) (fin := 0) (t := 0) (by decide +kernel) (by decide +kernel) (by decide +kernel) R f0 g0 fun v_11 f_12 => ?_
    have f_13 := q_is_eq f_12 e_5
    refine go_iconst (n := 2) (z := 2) (by decide +kernel) (by decide) fun v_14 f_15 => ?_
    refine go_icmp (c := .ne) (o := 7) (t := 20) (P := ¬ (x_4 = 2)) (by decide +kernel) (by decide +kernel) f_13 f_15 (Iff.rfl) (fun hp_16 => ?_) (fun hp_16 => ?_)
    · have h := it_f hp_16 h
      refine go_iconst (n := 0) (z := 0) (by decide +kernel) (by decide) fun v_17 f_18 => ?_
      cases h
      exact go_iret (by decide +kernel) rfl (Or.inr ⟨rfl, by decide⟩) f_18 (hQ _ _ R (q_out_v (by decide) f_18))
    · have h := it_n hp_16 h
      refine go_iconst (n := 1) (z := 1) (by decide +kernel) (by decide) fun v_19 f_20 => ?_
      refine go_goto (o := 4) (t := 21) (by decide +kernel) (by decide +kernel) ?_
      cases h
      exact go_iret (by decide +kernel) rfl (Or.inr ⟨rfl, by decide⟩) f_20 (hQ _ _ R (q_out_v (by decide) f_20))
noncomputable def fm_X2_init (p0 p1 : Int) (m0 : MM) : Option (Int × MM) := up m0 p0 1 0 fun m_3 =>
up m_3 p0 2 0 fun m_12 =>
up m_12 p0 3 0 fun m_21 =>
up m_21 p0 4 0 fun m_30 =>
gd (163 ≤ p0) <| up m_30 p0 0 p1 fun m_38 =>
some (0, m_38)
set_option maxHeartbeats 4000000 in
theorem om_X2_init {xs : List Int32} {d : Nat} {S : QS} {m0 : MM} {p0 p1 : Int} {v0 : Value} {v1 : Value} {rz : Int} {rm : MM}
  (hd : 1 ≤ d) (R : Rp S m0) (g0 : okc m0 p0 3) (f0 : q_is 2 v0 p0) (f1 : q_is 2 v1 p1)
  (h : fm_X2_init p0 p1 m0 = some (rz, rm)) : Mt xs d 8 [v0, v1] S (Cr 9 m0 rm rz) := by
  obtain ⟨d, rfl⟩ : ∃ e, d = e + 1 := ⟨d - 1, by omega⟩
  have hd : 0 ≤ d := Nat.le_of_succ_le_succ hd
  refine Mt.of (M := qM_X2_init) rfl (by rw [sl_1 (q_is_cat f0 (Or.inr rfl)), sl_1 (q_is_cat f1 (Or.inr rfl)), sl_0]; decide) ?_
  rw [la_1 (q_is_cat f0 (Or.inr rfl)), la_1 (q_is_cat f1 (Or.inr rfl)), la_0]
  obtain ⟨L, hL⟩ : ∃ L : QL, L = [(0, v0), (0 + 1, v1)] := ⟨_, rfl⟩
  rw [← hL]
  have l0 : q_lo L 0 = some v0 := by rw [hL]; rfl
  have l1 : q_lo L 1 = some v1 := by rw [hL]; rfl
  have hQ : Ext m0 rm → ∀ o S1, Rp S1 rm → q_out 9 o rz → (Cr 9 m0 rm rz) o S1 := fun a o S1 b e => ⟨b, a, e⟩
  unfold fm_X2_init at h
  refine go_aload_n (n := 0) (by decide +kernel) l0 f0 ?_
  refine go_oinit (x := 3) (a := 0) (b := 0) (e := 0) (by decide +kernel) (by decide +kernel) f0 (okc_ne g0) (q_sum8 _ (Nat.le_of_ble_eq_true rfl)) ?_
  refine go_aload_n (n := 0) (by decide +kernel) l0 f0 ?_
  refine go_iconst (n := 0) (z := 0) (by decide +kernel) (by decide) fun v_1 f_2 => ?_
  obtain ⟨m_3, e_4, h⟩ := up_s h
  refine go_putf (x := 9) (ci := 3) (kf := 1) (fin := 0) (zt := 0) (by decide +kernel) (by decide +kernel) (by decide) (by decide +kernel) (by decide) (Or.inl rfl) R f0 f_2 (fun hq => absurd hq (by decide)) g0 e_4 (fx_f (j := 1) R.2 g0 (by decide +kernel)) fun S_5 R_6 E_7 => ?_
  have E_8 := E_7
  refine go_aload_n (n := 0) (by decide +kernel) l0 f0 ?_
  refine go_iconst (n := 0) (z := 0) (by decide +kernel) (by decide) fun v_9 f_10 => ?_
  have g_11 := Ext.ok E_7 g0
  obtain ⟨m_12, e_13, h⟩ := up_s h
  refine go_putf (x := 13) (ci := 3) (kf := 2) (fin := 0) (zt := 0) (by decide +kernel) (by decide +kernel) (by decide) (by decide +kernel) (by decide) (Or.inl rfl) R_6 f0 f_10 (fun hq => absurd hq (by decide)) g_11 e_13 (fx_f (j := 2) R_6.2 g_11 (by decide +kernel)) fun S_14 R_15 E_16 => ?_
  have E_17 := Ext.tr E_8 E_16
  refine go_aload_n (n := 0) (by decide +kernel) l0 f0 ?_
  refine go_iconst (n := 0) (z := 0) (by decide +kernel) (by decide) fun v_18 f_19 => ?_
  have g_20 := Ext.ok E_16 g_11
  obtain ⟨m_21, e_22, h⟩ := up_s h
  refine go_putf (x := 16) (ci := 3) (kf := 3) (fin := 0) (zt := 0) (by decide +kernel) (by decide +kernel) (by decide) (by decide +kernel) (by decide) (Or.inl rfl) R_15 f0 f_19 (fun hq => absurd hq (by decide)) g_20 e_22 (fx_f (j := 3) R_15.2 g_20 (by decide +kernel)) fun S_23 R_24 E_25 => ?_
  have E_26 := Ext.tr E_17 E_25
  refine go_aload_n (n := 0) (by decide +kernel) l0 f0 ?_
  refine go_iconst (n := 0) (z := 0) (by decide +kernel) (by decide) fun v_27 f_28 => ?_
  have g_29 := Ext.ok E_25 g_20
  obtain ⟨m_30, e_31, h⟩ := up_s h
  refine go_putf (x := 19) (ci := 3) (kf := 4) (fin := 0) (zt := 0) (by decide +kernel) (by decide +kernel) (by decide) (by decide +kernel) (by decide) (Or.inl rfl) R_24 f0 f_28 (fun hq => absurd hq (by decide)) g_29 e_31 (fx_f (j := 4) R_24.2 g_29 (by decide +kernel)) fun S_32 R_33 E_34 => ?_
  have E_35 := Ext.tr E_26 E_34
  refine go_aload_n (n := 0) (by decide +kernel) l0 f0 ?_
  refine go_aload_n (n := 1) (by decide +kernel) l1 f1 ?_
  have g_36 := Ext.ok E_34 g_29
  obtain ⟨g_37, h⟩ := gd_s h
  obtain ⟨m_38, e_39, h⟩ := up_s h
  refine go_putf (x := 22) (ci := 3) (kf := 0) (fin := 1) (zt := 2) (by decide +kernel) (by decide +kernel) (by decide) (by decide +kernel) (by decide) (Or.inr ⟨rfl, rfl⟩) R_33 f0 f1 (fun hq => absurd hq (by decide)) g_36 e_39 (fx_new R_33.2 g_37 (by decide)) fun S_40 R_41 E_42 => ?_
  have E_43 := Ext.tr E_35 E_42
  cases h
  exact go_vret (by decide +kernel) rfl (hQ E_43 _ _ R_41 q_out_n)
noncomputable def fm_X5_wide (p0 p1 : Int) (m0 : MM) : Option Int := lx (iShr p1 6) fun x_5 =>
lx (iAnd p1 63) fun x_17 =>
if p1 < 0 then
some 0
else
lx (m0 p0 2) fun x_32 =>
if p1 < x_32 then
lx (m0 p0 0) fun x_40 =>
gd (okc m0 x_40 108) <| if x_5 < w32 (m0 x_40 (-2)) then
gd (okx m0 x_40 x_5) <| lx (m0 x_40 x_5) fun x_55 =>
if x_55 = 0 then
some 0
else
gd (okc m0 x_55 101) <| if x_17 < w32 (m0 x_55 (-2)) then
gd (okx m0 x_55 x_17) <| lx (m0 x_55 x_17) fun x_80 =>
some x_80
else
some 0
else
some 0
else
some 0
set_option maxHeartbeats 4000000 in
theorem om_X5_wide {xs : List Int32} {d : Nat} {S : QS} {m0 : MM} {p0 p1 : Int} {v0 : Value} {v1 : Value} {rz : Int}
  (hd : 1 ≤ d) (R : Rp S m0) (g0 : okc m0 p0 6) (f0 : q_is 2 v0 p0) (f1 : q_is 0 v1 p1)
  (h : fm_X5_wide p0 p1 m0 = some rz) : Mt xs d 58 [v0, v1] S (Cr 1 m0 m0 rz) := by
  obtain ⟨d, rfl⟩ : ∃ e, d = e + 1 := ⟨d - 1, by omega⟩
  have hd : 0 ≤ d := Nat.le_of_succ_le_succ hd
  refine Mt.of (M := qM_X5_wide) rfl (by rw [sl_1 (q_is_cat f0 (Or.inr rfl)), sl_1 (q_is_cat f1 (Or.inl rfl)), sl_0]; decide) ?_
  rw [la_1 (q_is_cat f0 (Or.inr rfl)), la_1 (q_is_cat f1 (Or.inl rfl)), la_0]
  obtain ⟨L, hL⟩ : ∃ L : QL, L = [(0, v0), (0 + 1, v1)] := ⟨_, rfl⟩
  rw [← hL]
  have l0 : q_lo L 0 = some v0 := by rw [hL]; rfl
  have l1 : q_lo L 1 = some v1 := by rw [hL]; rfl
  have hQ : ∀ o S1, Rp S1 m0 → q_out 1 o rz → (Cr 1 m0 m0 rz) o S1 := fun o S1 a b => ⟨a, Ext.rf _, b⟩
  unfold fm_X5_wide at h
  refine go_iload_n (n := 1) (by decide +kernel) l1 f1 ?_
  refine go_bipush (n := 6) (z := 6) (by decide +kernel) (by decide) fun v_1 f_2 => ?_
  refine go_ishr (by decide +kernel) f1 f_2 fun v_3 f_4 => ?_
  obtain ⟨x_5, e_6, h⟩ := lx_s h
  have f_7 := q_is_eq f_4 e_6
  refine go_istore_n (n := 2) (by decide +kernel) (by decide +kernel) f_7 fun L_8 l_9 kp_10 => ?_
  have l_11 := kp_10 0 _ l0 (by decide) (Or.inl (by decide))
  have l_12 := kp_10 1 _ l1 (by decide) (Or.inr (q_is_cat f1 (Or.inl rfl)))
  refine go_iload_n (n := 1) (by decide +kernel) l_12 f1 ?_
  refine go_bipush (n := 63) (z := 63) (by decide +kernel) (by decide) fun v_13 f_14 => ?_
  refine go_iand (by decide +kernel) f1 f_14 fun v_15 f_16 => ?_
  obtain ⟨x_17, e_18, h⟩ := lx_s h
  have f_19 := q_is_eq f_16 e_18
  refine go_istore_n (n := 3) (by decide +kernel) (by decide +kernel) f_19 fun L_20 l_21 kp_22 => ?_
  have l_23 := kp_22 0 _ l_11 (by decide) (Or.inl (by decide))
  have l_24 := kp_22 1 _ l_12 (by decide) (Or.inl (by decide))
  have l_25 := kp_22 2 _ l_9 (by decide) (Or.inr (q_is_cat f_7 (Or.inl rfl)))
  refine go_iload_n (n := 1) (by decide +kernel) l_24 f1 ?_
  refine go_if (c := .lt) (o := 40) (t := 51) (P := p1 < 0) (by decide +kernel) (by decide +kernel) f1 (Iff.rfl) (fun hp_26 => ?_) (fun hp_26 => ?_)
  · have h := it_t hp_26 h
    refine go_lconst (n := 0) (z := 0) (by decide +kernel) (by decide) fun v_27 f_28 => ?_
    cases h
    exact go_lret (by decide +kernel) rfl f_28 (hQ _ _ R (q_out_v (by decide) f_28))
  · have h := it_f hp_26 h
    refine go_iload_n (n := 1) (by decide +kernel) l_24 f1 ?_
    refine go_aload_n (n := 0) (by decide +kernel) l_23 f0 ?_
    obtain ⟨x_32, e_33, h⟩ := lx_s h
    refine go_getf (x := 19) (ci := 6) (kf := 2) (fin := 0) (t := 0) (by decide +kernel) (by decide +kernel) (by decide +kernel) R f0 g0 fun v_29 f_30 => ?_
    have f_31 := q_is_eq f_30 e_33
    refine go_icmp (c := .ge) (o := 32) (t := 51) (P := ¬ (p1 < x_32)) (by decide +kernel) (by decide +kernel) f1 f_31 (Int.not_lt.symm) (fun hp_34 => ?_) (fun hp_34 => ?_)
    · have h := it_f hp_34 h
      refine go_lconst (n := 0) (z := 0) (by decide +kernel) (by decide) fun v_35 f_36 => ?_
      cases h
      exact go_lret (by decide +kernel) rfl f_36 (hQ _ _ R (q_out_v (by decide) f_36))
    · have h := it_n hp_34 h
      refine go_iload_n (n := 2) (by decide +kernel) l_25 f_7 ?_
      refine go_aload_n (n := 0) (by decide +kernel) l_23 f0 ?_
      obtain ⟨x_40, e_41, h⟩ := lx_s h
      refine go_getf (x := 11) (ci := 6) (kf := 0) (fin := 0) (t := 2) (by decide +kernel) (by decide +kernel) (by decide +kernel) R f0 g0 fun v_37 f_38 => ?_
      have f_39 := q_is_eq f_38 e_41
      obtain ⟨g_44, h⟩ := gd_s h
      refine go_alen (by decide +kernel) R f_39 (okl_of g_44 (by decide)) fun v_42 f_43 => ?_
      refine go_icmp (c := .ge) (o := 23) (t := 51) (P := ¬ (x_5 < w32 (m0 x_40 (-2)))) (by decide +kernel) (by decide +kernel) f_7 f_43 (Int.not_lt.symm) (fun hp_45 => ?_) (fun hp_45 => ?_)
      · have h := it_f hp_45 h
        refine go_lconst (n := 0) (z := 0) (by decide +kernel) (by decide) fun v_46 f_47 => ?_
        cases h
        exact go_lret (by decide +kernel) rfl f_47 (hQ _ _ R (q_out_v (by decide) f_47))
      · have h := it_n hp_45 h
        refine go_aload_n (n := 0) (by decide +kernel) l_23 f0 ?_
        refine go_getf (x := 11) (ci := 6) (kf := 0) (fin := 0) (t := 2) (by decide +kernel) (by decide +kernel) (by decide +kernel) R f0 g0 fun v_48 f_49 => ?_
        have f_50 := q_is_eq f_49 e_41
        refine go_iload_n (n := 2) (by decide +kernel) l_25 f_7 ?_
        obtain ⟨g_53, h⟩ := gd_s h
        obtain ⟨x_55, e_56, h⟩ := lx_s h
        refine go_aald (kd := 108) (by decide +kernel) (by decide) R f_50 f_7 g_44 g_53 fun v_51 f_52 => ?_
        have f_54 := q_is_eq f_52 e_56
        refine go_ifnull (o := 14) (t := 51) (by decide +kernel) (by decide +kernel) f_54 (fun hp_57 => ?_) (fun hp_57 => ?_)
        · have h := it_t hp_57 h
          refine go_lconst (n := 0) (z := 0) (by decide +kernel) (by decide) fun v_58 f_59 => ?_
          cases h
          exact go_lret (by decide +kernel) rfl f_59 (hQ _ _ R (q_out_v (by decide) f_59))
        · have h := it_f hp_57 h
          refine go_iload_n (n := 3) (by decide +kernel) l_21 f_19 ?_
          refine go_aload_n (n := 0) (by decide +kernel) l_23 f0 ?_
          refine go_getf (x := 11) (ci := 6) (kf := 0) (fin := 0) (t := 2) (by decide +kernel) (by decide +kernel) (by decide +kernel) R f0 g0 fun v_60 f_61 => ?_
          have f_62 := q_is_eq f_61 e_41
          refine go_iload_n (n := 2) (by decide +kernel) l_25 f_7 ?_
          refine go_aald (kd := 108) (by decide +kernel) (by decide) R f_62 f_7 g_44 g_53 fun v_63 f_64 => ?_
          have f_65 := q_is_eq f_64 e_56
          obtain ⟨g_68, h⟩ := gd_s h
          refine go_alen (by decide +kernel) R f_65 (okl_of g_68 (by decide)) fun v_66 f_67 => ?_
          refine go_icmp (c := .lt) (o := 5) (t := 53) (P := x_17 < w32 (m0 x_55 (-2))) (by decide +kernel) (by decide +kernel) f_19 f_67 (Iff.rfl) (fun hp_69 => ?_) (fun hp_69 => ?_)
          · have h := it_t hp_69 h
            refine go_aload_n (n := 0) (by decide +kernel) l_23 f0 ?_
            refine go_getf (x := 11) (ci := 6) (kf := 0) (fin := 0) (t := 2) (by decide +kernel) (by decide +kernel) (by decide +kernel) R f0 g0 fun v_70 f_71 => ?_
            have f_72 := q_is_eq f_71 e_41
            refine go_iload_n (n := 2) (by decide +kernel) l_25 f_7 ?_
            refine go_aald (kd := 108) (by decide +kernel) (by decide) R f_72 f_7 g_44 g_53 fun v_73 f_74 => ?_
            have f_75 := q_is_eq f_74 e_56
            refine go_iload_n (n := 3) (by decide +kernel) l_21 f_19 ?_
            obtain ⟨g_78, h⟩ := gd_s h
            obtain ⟨x_80, e_81, h⟩ := lx_s h
            refine go_lald (kd := 101) (by decide +kernel) rfl R f_75 f_19 g_68 g_78 fun v_76 f_77 => ?_
            have f_79 := q_is_eq f_77 e_81
            cases h
            exact go_lret (by decide +kernel) rfl f_79 (hQ _ _ R (q_out_v (by decide) f_79))
          · have h := it_f hp_69 h
            refine go_lconst (n := 0) (z := 0) (by decide +kernel) (by decide) fun v_82 f_83 => ?_
            cases h
            exact go_lret (by decide +kernel) rfl f_83 (hQ _ _ R (q_out_v (by decide) f_83))
noncomputable def fm_X2_kind (p0 p1 : Int) (m0 : MM) : Option Int := lx (m0 p0 0) fun x_4 =>
gd (okc m0 x_4 6) <| bp (fm_X5_wide x_4 p1 m0) fun x_8 =>
some (w32 (lUshr x_8 59))
set_option maxHeartbeats 4000000 in
theorem om_X2_kind {xs : List Int32} {d : Nat} {S : QS} {m0 : MM} {p0 p1 : Int} {v0 : Value} {v1 : Value} {rz : Int}
  (hd : 2 ≤ d) (R : Rp S m0) (g0 : okc m0 p0 3) (f0 : q_is 2 v0 p0) (f1 : q_is 0 v1 p1)
  (h : fm_X2_kind p0 p1 m0 = some rz) : Mt xs d 9 [v0, v1] S (Cr 0 m0 m0 rz) := by
  obtain ⟨d, rfl⟩ : ∃ e, d = e + 1 := ⟨d - 1, by omega⟩
  have hd : 1 ≤ d := Nat.le_of_succ_le_succ hd
  refine Mt.of (M := qM_X2_kind) rfl (by rw [sl_1 (q_is_cat f0 (Or.inr rfl)), sl_1 (q_is_cat f1 (Or.inl rfl)), sl_0]; decide) ?_
  rw [la_1 (q_is_cat f0 (Or.inr rfl)), la_1 (q_is_cat f1 (Or.inl rfl)), la_0]
  obtain ⟨L, hL⟩ : ∃ L : QL, L = [(0, v0), (0 + 1, v1)] := ⟨_, rfl⟩
  rw [← hL]
  have l0 : q_lo L 0 = some v0 := by rw [hL]; rfl
  have l1 : q_lo L 1 = some v1 := by rw [hL]; rfl
  have hQ : ∀ o S1, Rp S1 m0 → q_out 0 o rz → (Cr 0 m0 m0 rz) o S1 := fun o S1 a b => ⟨a, Ext.rf _, b⟩
  unfold fm_X2_kind at h
  refine go_aload_n (n := 0) (by decide +kernel) l0 f0 ?_
  obtain ⟨x_4, e_5, h⟩ := lx_s h
  refine go_getf (x := 22) (ci := 3) (kf := 0) (fin := 1) (t := 2) (by decide +kernel) (by decide +kernel) (by decide +kernel) R f0 g0 fun v_1 f_2 => ?_
  have f_3 := q_is_eq f_2 e_5
  refine go_iload_n (n := 1) (by decide +kernel) l1 f1 ?_
  obtain ⟨g_6, h⟩ := gd_s h
  obtain ⟨x_8, hc_7, h⟩ := bp_s h
  refine go_callV (x := 26) (mi := 58) (n := 1) (ci := 6) (as := [v1]) (rest := []) (by decide +kernel) (by decide +kernel) rfl rfl (q_sum8 _ (Nat.le_of_ble_eq_true rfl)) R f_3 g_6 (om_X5_wide (Nat.le_trans (by decide) hd) R g_6 f_3 f1 hc_7) (fun _ S_12 q_15 => ?_) (fun _ _ qq => kr_x qq)
  refine kr_z (by decide) q_15 fun v_10 f_11 R_13 E_14 => ?_
  refine go_bipush (n := 59) (z := 59) (by decide +kernel) (by decide) fun v_16 f_17 => ?_
  refine go_lushr (by decide +kernel) f_11 f_17 fun v_18 f_19 => ?_
  refine go_l2i (by decide +kernel) f_19 fun v_20 f_21 => ?_
  cases h
  exact go_iret (by decide +kernel) rfl (Or.inl rfl) f_21 (hQ _ _ R_13 (q_out_v (by decide) f_21))
noncomputable def fm_X2_x (p0 p1 : Int) (m0 : MM) : Option Int := lx (m0 p0 0) fun x_4 =>
gd (okc m0 x_4 6) <| bp (fm_X5_wide x_4 p1 m0) fun x_8 =>
some (iAnd (w32 (lUshr x_8 40)) 524287)
set_option maxHeartbeats 4000000 in
theorem om_X2_x {xs : List Int32} {d : Nat} {S : QS} {m0 : MM} {p0 p1 : Int} {v0 : Value} {v1 : Value} {rz : Int}
  (hd : 2 ≤ d) (R : Rp S m0) (g0 : okc m0 p0 3) (f0 : q_is 2 v0 p0) (f1 : q_is 0 v1 p1)
  (h : fm_X2_x p0 p1 m0 = some rz) : Mt xs d 10 [v0, v1] S (Cr 0 m0 m0 rz) := by
  obtain ⟨d, rfl⟩ : ∃ e, d = e + 1 := ⟨d - 1, by omega⟩
  have hd : 1 ≤ d := Nat.le_of_succ_le_succ hd
  refine Mt.of (M := qM_X2_x) rfl (by rw [sl_1 (q_is_cat f0 (Or.inr rfl)), sl_1 (q_is_cat f1 (Or.inl rfl)), sl_0]; decide) ?_
  rw [la_1 (q_is_cat f0 (Or.inr rfl)), la_1 (q_is_cat f1 (Or.inl rfl)), la_0]
  obtain ⟨L, hL⟩ : ∃ L : QL, L = [(0, v0), (0 + 1, v1)] := ⟨_, rfl⟩
  rw [← hL]
  have l0 : q_lo L 0 = some v0 := by rw [hL]; rfl
  have l1 : q_lo L 1 = some v1 := by rw [hL]; rfl
  have hQ : ∀ o S1, Rp S1 m0 → q_out 0 o rz → (Cr 0 m0 m0 rz) o S1 := fun o S1 a b => ⟨a, Ext.rf _, b⟩
  unfold fm_X2_x at h
  refine go_aload_n (n := 0) (by decide +kernel) l0 f0 ?_
  obtain ⟨x_4, e_5, h⟩ := lx_s h
  refine go_getf (x := 22) (ci := 3) (kf := 0) (fin := 1) (t := 2) (by decide +kernel) (by decide +kernel) (by decide +kernel) R f0 g0 fun v_1 f_2 => ?_
  have f_3 := q_is_eq f_2 e_5
  refine go_iload_n (n := 1) (by decide +kernel) l1 f1 ?_
  obtain ⟨g_6, h⟩ := gd_s h
  obtain ⟨x_8, hc_7, h⟩ := bp_s h
  refine go_callV (x := 26) (mi := 58) (n := 1) (ci := 6) (as := [v1]) (rest := []) (by decide +kernel) (by decide +kernel) rfl rfl (q_sum8 _ (Nat.le_of_ble_eq_true rfl)) R f_3 g_6 (om_X5_wide (Nat.le_trans (by decide) hd) R g_6 f_3 f1 hc_7) (fun _ S_12 q_15 => ?_) (fun _ _ qq => kr_x qq)
  refine kr_z (by decide) q_15 fun v_10 f_11 R_13 E_14 => ?_
  refine go_bipush (n := 40) (z := 40) (by decide +kernel) (by decide) fun v_16 f_17 => ?_
  refine go_lushr (by decide +kernel) f_11 f_17 fun v_18 f_19 => ?_
  refine go_l2i (by decide +kernel) f_19 fun v_20 f_21 => ?_
  refine go_ldc (x := 32) (n := 524287) (a := 0) (b := 0) (z := 524287) (by decide +kernel) (by decide +kernel) (by decide +kernel) fun v_22 f_23 => ?_
  refine go_iand (by decide +kernel) f_21 f_23 fun v_24 f_25 => ?_
  cases h
  exact go_iret (by decide +kernel) rfl (Or.inl rfl) f_25 (hQ _ _ R_13 (q_out_v (by decide) f_25))
noncomputable def fm_X2_y (p0 p1 : Int) (m0 : MM) : Option Int := lx (m0 p0 0) fun x_4 =>
gd (okc m0 x_4 6) <| bp (fm_X5_wide x_4 p1 m0) fun x_8 =>
some (iAnd (w32 (lUshr x_8 30)) 1023)
set_option maxHeartbeats 4000000 in
theorem om_X2_y {xs : List Int32} {d : Nat} {S : QS} {m0 : MM} {p0 p1 : Int} {v0 : Value} {v1 : Value} {rz : Int}
  (hd : 2 ≤ d) (R : Rp S m0) (g0 : okc m0 p0 3) (f0 : q_is 2 v0 p0) (f1 : q_is 0 v1 p1)
  (h : fm_X2_y p0 p1 m0 = some rz) : Mt xs d 11 [v0, v1] S (Cr 0 m0 m0 rz) := by
  obtain ⟨d, rfl⟩ : ∃ e, d = e + 1 := ⟨d - 1, by omega⟩
  have hd : 1 ≤ d := Nat.le_of_succ_le_succ hd
  refine Mt.of (M := qM_X2_y) rfl (by rw [sl_1 (q_is_cat f0 (Or.inr rfl)), sl_1 (q_is_cat f1 (Or.inl rfl)), sl_0]; decide) ?_
  rw [la_1 (q_is_cat f0 (Or.inr rfl)), la_1 (q_is_cat f1 (Or.inl rfl)), la_0]
  obtain ⟨L, hL⟩ : ∃ L : QL, L = [(0, v0), (0 + 1, v1)] := ⟨_, rfl⟩
  rw [← hL]
  have l0 : q_lo L 0 = some v0 := by rw [hL]; rfl
  have l1 : q_lo L 1 = some v1 := by rw [hL]; rfl
  have hQ : ∀ o S1, Rp S1 m0 → q_out 0 o rz → (Cr 0 m0 m0 rz) o S1 := fun o S1 a b => ⟨a, Ext.rf _, b⟩
  unfold fm_X2_y at h
  refine go_aload_n (n := 0) (by decide +kernel) l0 f0 ?_
  obtain ⟨x_4, e_5, h⟩ := lx_s h
  refine go_getf (x := 22) (ci := 3) (kf := 0) (fin := 1) (t := 2) (by decide +kernel) (by decide +kernel) (by decide +kernel) R f0 g0 fun v_1 f_2 => ?_
  have f_3 := q_is_eq f_2 e_5
  refine go_iload_n (n := 1) (by decide +kernel) l1 f1 ?_
  obtain ⟨g_6, h⟩ := gd_s h
  obtain ⟨x_8, hc_7, h⟩ := bp_s h
  refine go_callV (x := 26) (mi := 58) (n := 1) (ci := 6) (as := [v1]) (rest := []) (by decide +kernel) (by decide +kernel) rfl rfl (q_sum8 _ (Nat.le_of_ble_eq_true rfl)) R f_3 g_6 (om_X5_wide (Nat.le_trans (by decide) hd) R g_6 f_3 f1 hc_7) (fun _ S_12 q_15 => ?_) (fun _ _ qq => kr_x qq)
  refine kr_z (by decide) q_15 fun v_10 f_11 R_13 E_14 => ?_
  refine go_bipush (n := 30) (z := 30) (by decide +kernel) (by decide) fun v_16 f_17 => ?_
  refine go_lushr (by decide +kernel) f_11 f_17 fun v_18 f_19 => ?_
  refine go_l2i (by decide +kernel) f_19 fun v_20 f_21 => ?_
  refine go_sipush (n := 1023) (z := 1023) (by decide +kernel) (by decide) fun v_22 f_23 => ?_
  refine go_iand (by decide +kernel) f_21 f_23 fun v_24 f_25 => ?_
  cases h
  exact go_iret (by decide +kernel) rfl (Or.inl rfl) f_25 (hQ _ _ R_13 (q_out_v (by decide) f_25))
noncomputable def fm_X2_timeOfCommand (p0 p1 : Int) (m0 : MM) : Option Int := lx (m0 p0 0) fun x_4 =>
gd (okc m0 x_4 6) <| bp (fm_X5_wide x_4 p1 m0) fun x_8 =>
some (iAnd (w32 x_8) 1073741823)
set_option maxHeartbeats 4000000 in
theorem om_X2_timeOfCommand {xs : List Int32} {d : Nat} {S : QS} {m0 : MM} {p0 p1 : Int} {v0 : Value} {v1 : Value} {rz : Int}
  (hd : 2 ≤ d) (R : Rp S m0) (g0 : okc m0 p0 3) (f0 : q_is 2 v0 p0) (f1 : q_is 0 v1 p1)
  (h : fm_X2_timeOfCommand p0 p1 m0 = some rz) : Mt xs d 12 [v0, v1] S (Cr 0 m0 m0 rz) := by
  obtain ⟨d, rfl⟩ : ∃ e, d = e + 1 := ⟨d - 1, by omega⟩
  have hd : 1 ≤ d := Nat.le_of_succ_le_succ hd
  refine Mt.of (M := qM_X2_timeOfCommand) rfl (by rw [sl_1 (q_is_cat f0 (Or.inr rfl)), sl_1 (q_is_cat f1 (Or.inl rfl)), sl_0]; decide) ?_
  rw [la_1 (q_is_cat f0 (Or.inr rfl)), la_1 (q_is_cat f1 (Or.inl rfl)), la_0]
  obtain ⟨L, hL⟩ : ∃ L : QL, L = [(0, v0), (0 + 1, v1)] := ⟨_, rfl⟩
  rw [← hL]
  have l0 : q_lo L 0 = some v0 := by rw [hL]; rfl
  have l1 : q_lo L 1 = some v1 := by rw [hL]; rfl
  have hQ : ∀ o S1, Rp S1 m0 → q_out 0 o rz → (Cr 0 m0 m0 rz) o S1 := fun o S1 a b => ⟨a, Ext.rf _, b⟩
  unfold fm_X2_timeOfCommand at h
  refine go_aload_n (n := 0) (by decide +kernel) l0 f0 ?_
  obtain ⟨x_4, e_5, h⟩ := lx_s h
  refine go_getf (x := 22) (ci := 3) (kf := 0) (fin := 1) (t := 2) (by decide +kernel) (by decide +kernel) (by decide +kernel) R f0 g0 fun v_1 f_2 => ?_
  have f_3 := q_is_eq f_2 e_5
  refine go_iload_n (n := 1) (by decide +kernel) l1 f1 ?_
  obtain ⟨g_6, h⟩ := gd_s h
  obtain ⟨x_8, hc_7, h⟩ := bp_s h
  refine go_callV (x := 26) (mi := 58) (n := 1) (ci := 6) (as := [v1]) (rest := []) (by decide +kernel) (by decide +kernel) rfl rfl (q_sum8 _ (Nat.le_of_ble_eq_true rfl)) R f_3 g_6 (om_X5_wide (Nat.le_trans (by decide) hd) R g_6 f_3 f1 hc_7) (fun _ S_12 q_15 => ?_) (fun _ _ qq => kr_x qq)
  refine kr_z (by decide) q_15 fun v_10 f_11 R_13 E_14 => ?_
  refine go_l2i (by decide +kernel) f_11 fun v_16 f_17 => ?_
  refine go_ldc (x := 33) (n := 1073741823) (a := 0) (b := 0) (z := 1073741823) (by decide +kernel) (by decide +kernel) (by decide +kernel) fun v_18 f_19 => ?_
  refine go_iand (by decide +kernel) f_17 f_19 fun v_20 f_21 => ?_
  cases h
  exact go_iret (by decide +kernel) rfl (Or.inl rfl) f_21 (hQ _ _ R_13 (q_out_v (by decide) f_21))
noncomputable def fm_X2_clockOfArrival (p0 p1 : Int) (m0 : MM) : Option Int := lx (m0 p0 0) fun x_4 =>
gd (okc m0 x_4 6) <| bp (fm_X5_wide x_4 p1 m0) fun x_8 =>
some (iAnd (w32 x_8) 1023)
set_option maxHeartbeats 4000000 in
theorem om_X2_clockOfArrival {xs : List Int32} {d : Nat} {S : QS} {m0 : MM} {p0 p1 : Int} {v0 : Value} {v1 : Value} {rz : Int}
  (hd : 2 ≤ d) (R : Rp S m0) (g0 : okc m0 p0 3) (f0 : q_is 2 v0 p0) (f1 : q_is 0 v1 p1)
  (h : fm_X2_clockOfArrival p0 p1 m0 = some rz) : Mt xs d 13 [v0, v1] S (Cr 0 m0 m0 rz) := by
  obtain ⟨d, rfl⟩ : ∃ e, d = e + 1 := ⟨d - 1, by omega⟩
  have hd : 1 ≤ d := Nat.le_of_succ_le_succ hd
  refine Mt.of (M := qM_X2_clockOfArrival) rfl (by rw [sl_1 (q_is_cat f0 (Or.inr rfl)), sl_1 (q_is_cat f1 (Or.inl rfl)), sl_0]; decide) ?_
  rw [la_1 (q_is_cat f0 (Or.inr rfl)), la_1 (q_is_cat f1 (Or.inl rfl)), la_0]
  obtain ⟨L, hL⟩ : ∃ L : QL, L = [(0, v0), (0 + 1, v1)] := ⟨_, rfl⟩
  rw [← hL]
  have l0 : q_lo L 0 = some v0 := by rw [hL]; rfl
  have l1 : q_lo L 1 = some v1 := by rw [hL]; rfl
  have hQ : ∀ o S1, Rp S1 m0 → q_out 0 o rz → (Cr 0 m0 m0 rz) o S1 := fun o S1 a b => ⟨a, Ext.rf _, b⟩
  unfold fm_X2_clockOfArrival at h
  refine go_aload_n (n := 0) (by decide +kernel) l0 f0 ?_
  obtain ⟨x_4, e_5, h⟩ := lx_s h
  refine go_getf (x := 22) (ci := 3) (kf := 0) (fin := 1) (t := 2) (by decide +kernel) (by decide +kernel) (by decide +kernel) R f0 g0 fun v_1 f_2 => ?_
  have f_3 := q_is_eq f_2 e_5
  refine go_iload_n (n := 1) (by decide +kernel) l1 f1 ?_
  obtain ⟨g_6, h⟩ := gd_s h
  obtain ⟨x_8, hc_7, h⟩ := bp_s h
  refine go_callV (x := 26) (mi := 58) (n := 1) (ci := 6) (as := [v1]) (rest := []) (by decide +kernel) (by decide +kernel) rfl rfl (q_sum8 _ (Nat.le_of_ble_eq_true rfl)) R f_3 g_6 (om_X5_wide (Nat.le_trans (by decide) hd) R g_6 f_3 f1 hc_7) (fun _ S_12 q_15 => ?_) (fun _ _ qq => kr_x qq)
  refine kr_z (by decide) q_15 fun v_10 f_11 R_13 E_14 => ?_
  refine go_l2i (by decide +kernel) f_11 fun v_16 f_17 => ?_
  refine go_sipush (n := 1023) (z := 1023) (by decide +kernel) (by decide) fun v_18 f_19 => ?_
  refine go_iand (by decide +kernel) f_17 f_19 fun v_20 f_21 => ?_
  cases h
  exact go_iret (by decide +kernel) rfl (Or.inl rfl) f_21 (hQ _ _ R_13 (q_out_v (by decide) f_21))
end DF0
