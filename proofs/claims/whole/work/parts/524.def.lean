/-! Methods as functions (written by wip/whole/dec.py), 24: X12_thrown, X12_fails, X12_tells, X12_isIn, X12_least, X12_most, X12_isType, X12_isTenant, X12_isRun, X12_isValue, X12_ofThousand, X12_code, X12_mostA, X12_mostB, X12_line. -/
section DF24
noncomputable def fm_X12_thrown (m0 : MM) : Option Int := lx (m0 68 129) fun x_4 =>
some x_4
set_option maxHeartbeats 4000000 in
theorem om_X12_thrown {xs : List Int32} {d : Nat} {S : QS} {m0 : MM} {v0 : Value} {rz : Int}
  (hd : 1 ≤ d) (R : Rp S m0) (f0 : q_is 2 v0 68)
  (h : fm_X12_thrown m0 = some rz) : Mt xs d 185 [v0] S (Cr 0 m0 m0 rz) := by
  obtain ⟨d, rfl⟩ : ∃ e, d = e + 1 := ⟨d - 1, by omega⟩
  have hd : 0 ≤ d := Nat.le_of_succ_le_succ hd
  refine Mt.of (M := qM_X12_thrown) rfl (by rw [sl_1 (q_is_cat f0 (Or.inr rfl)), sl_0]; decide) ?_
  rw [la_1 (q_is_cat f0 (Or.inr rfl)), la_0]
  obtain ⟨L, hL⟩ : ∃ L : QL, L = [(0, v0)] := ⟨_, rfl⟩
  rw [← hL]
  have l0 : q_lo L 0 = some v0 := by rw [hL]; rfl
  have hQ : ∀ o S1, Rp S1 m0 → q_out 0 o rz → (Cr 0 m0 m0 rz) o S1 := fun o S1 a b => ⟨a, Ext.rf _, b⟩
  unfold fm_X12_thrown at h
  refine go_aload_n (n := 0) (by decide +kernel) l0 f0 ?_
  obtain ⟨x_4, e_5, h⟩ := lx_s h
  refine go_getf (x := 303) (ci := 13) (kf := 129) (fin := 0) (t := 0) (by decide +kernel) (by decide +kernel) (by decide +kernel) R f0 (fx_k (c := 13) R (by decide +kernel)) fun v_1 f_2 => ?_
  have f_3 := q_is_eq f_2 e_5
  cases h
  exact go_iret (by decide +kernel) rfl (Or.inl rfl) f_3 (hQ _ _ R (q_out_v (by decide) f_3))
noncomputable def fm_X12_fails (p1 : Int) (m0 : MM) : Option (Int × MM) := up m0 68 129 p1 fun m_1 =>
if 0 < p1 then
some (1, m_1)
else
some (0, m_1)
set_option maxHeartbeats 4000000 in
theorem om_X12_fails {xs : List Int32} {d : Nat} {S : QS} {m0 : MM} {p1 : Int} {v0 : Value} {v1 : Value} {rz : Int} {rm : MM}
  (hd : 1 ≤ d) (R : Rp S m0) (f0 : q_is 2 v0 68) (f1 : q_is 0 v1 p1)
  (h : fm_X12_fails p1 m0 = some (rz, rm)) : Mt xs d 186 [v0, v1] S (Cr 0 m0 rm rz) := by
  obtain ⟨d, rfl⟩ : ∃ e, d = e + 1 := ⟨d - 1, by omega⟩
  have hd : 0 ≤ d := Nat.le_of_succ_le_succ hd
  refine Mt.of (M := qM_X12_fails) rfl (by rw [sl_1 (q_is_cat f0 (Or.inr rfl)), sl_1 (q_is_cat f1 (Or.inl rfl)), sl_0]; decide) ?_
  rw [la_1 (q_is_cat f0 (Or.inr rfl)), la_1 (q_is_cat f1 (Or.inl rfl)), la_0]
  obtain ⟨L, hL⟩ : ∃ L : QL, L = [(0, v0), (0 + 1, v1)] := ⟨_, rfl⟩
  rw [← hL]
  have l0 : q_lo L 0 = some v0 := by rw [hL]; rfl
  have l1 : q_lo L 1 = some v1 := by rw [hL]; rfl
  have hQ : Ext m0 rm → ∀ o S1, Rp S1 rm → q_out 0 o rz → (Cr 0 m0 rm rz) o S1 := fun a o S1 b e => ⟨b, a, e⟩
  unfold fm_X12_fails at h
  refine go_aload_n (n := 0) (by decide +kernel) l0 f0 ?_
  refine go_iload_n (n := 1) (by decide +kernel) l1 f1 ?_
  obtain ⟨m_1, e_2, h⟩ := up_s h
  refine go_putf (x := 303) (ci := 13) (kf := 129) (fin := 0) (zt := 0) (by decide +kernel) (by decide +kernel) (by decide) (by decide +kernel) (by decide) (Or.inl rfl) R f0 f1 (fun hq => absurd hq (by decide)) (fx_k (c := 13) R (by decide +kernel)) e_2 (fx_f (j := 129) R.2 (fx_k (c := 13) R (by decide +kernel)) (by decide +kernel)) fun S_3 R_4 E_5 => ?_
  have E_7 := E_5
  refine go_iload_n (n := 1) (by decide +kernel) l1 f1 ?_
  refine go_if (c := .le) (o := 7) (t := 13) (P := ¬ (0 < p1)) (by decide +kernel) (by decide +kernel) f1 (Int.not_lt.symm) (fun hp_8 => ?_) (fun hp_8 => ?_)
  · have h := it_f hp_8 h
    refine go_iconst (n := 0) (z := 0) (by decide +kernel) (by decide) fun v_9 f_10 => ?_
    cases h
    exact go_iret (by decide +kernel) rfl (Or.inr ⟨rfl, by decide⟩) f_10 (hQ E_7 _ _ R_4 (q_out_v (by decide) f_10))
  · have h := it_n hp_8 h
    refine go_iconst (n := 1) (z := 1) (by decide +kernel) (by decide) fun v_11 f_12 => ?_
    refine go_goto (o := 4) (t := 14) (by decide +kernel) (by decide +kernel) ?_
    cases h
    exact go_iret (by decide +kernel) rfl (Or.inr ⟨rfl, by decide⟩) f_12 (hQ E_7 _ _ R_4 (q_out_v (by decide) f_12))
noncomputable def fm_X12_tells (p1 : Int) (m0 : MM) : Option (Int × MM) := up m0 68 129 0 fun m_3 =>
some (p1, m_3)
set_option maxHeartbeats 4000000 in
theorem om_X12_tells {xs : List Int32} {d : Nat} {S : QS} {m0 : MM} {p1 : Int} {v0 : Value} {v1 : Value} {rz : Int} {rm : MM}
  (hd : 1 ≤ d) (R : Rp S m0) (f0 : q_is 2 v0 68) (f1 : q_is 0 v1 p1)
  (h : fm_X12_tells p1 m0 = some (rz, rm)) : Mt xs d 187 [v0, v1] S (Cr 0 m0 rm rz) := by
  obtain ⟨d, rfl⟩ : ∃ e, d = e + 1 := ⟨d - 1, by omega⟩
  have hd : 0 ≤ d := Nat.le_of_succ_le_succ hd
  refine Mt.of (M := qM_X12_tells) rfl (by rw [sl_1 (q_is_cat f0 (Or.inr rfl)), sl_1 (q_is_cat f1 (Or.inl rfl)), sl_0]; decide) ?_
  rw [la_1 (q_is_cat f0 (Or.inr rfl)), la_1 (q_is_cat f1 (Or.inl rfl)), la_0]
  obtain ⟨L, hL⟩ : ∃ L : QL, L = [(0, v0), (0 + 1, v1)] := ⟨_, rfl⟩
  rw [← hL]
  have l0 : q_lo L 0 = some v0 := by rw [hL]; rfl
  have l1 : q_lo L 1 = some v1 := by rw [hL]; rfl
  have hQ : Ext m0 rm → ∀ o S1, Rp S1 rm → q_out 0 o rz → (Cr 0 m0 rm rz) o S1 := fun a o S1 b e => ⟨b, a, e⟩
  unfold fm_X12_tells at h
  refine go_aload_n (n := 0) (by decide +kernel) l0 f0 ?_
  refine go_iconst (n := 0) (z := 0) (by decide +kernel) (by decide) fun v_1 f_2 => ?_
  obtain ⟨m_3, e_4, h⟩ := up_s h
  refine go_putf (x := 303) (ci := 13) (kf := 129) (fin := 0) (zt := 0) (by decide +kernel) (by decide +kernel) (by decide) (by decide +kernel) (by decide) (Or.inl rfl) R f0 f_2 (fun hq => absurd hq (by decide)) (fx_k (c := 13) R (by decide +kernel)) e_4 (fx_f (j := 129) R.2 (fx_k (c := 13) R (by decide +kernel)) (by decide +kernel)) fun S_5 R_6 E_7 => ?_
  have E_9 := E_7
  refine go_iload_n (n := 1) (by decide +kernel) l1 f1 ?_
  cases h
  exact go_iret (by decide +kernel) rfl (Or.inl rfl) f1 (hQ E_9 _ _ R_6 (q_out_v (by decide) f1))
noncomputable def fm_X12_isIn (p0 p1 p2 : Int) (m0 : MM) : Option Int := if p0 < p1 then
some 0
else
if p2 < p0 then
some 0
else
some 1
set_option maxHeartbeats 4000000 in
theorem om_X12_isIn {xs : List Int32} {d : Nat} {S : QS} {m0 : MM} {p0 p1 p2 : Int} {v0 : Value} {v1 : Value} {v2 : Value} {rz : Int}
  (hd : 1 ≤ d) (R : Rp S m0) (f0 : q_is 0 v0 p0) (f1 : q_is 0 v1 p1) (f2 : q_is 0 v2 p2)
  (h : fm_X12_isIn p0 p1 p2 m0 = some rz) : Mt xs d 188 [v0, v1, v2] S (Cr 0 m0 m0 rz) := by
  obtain ⟨d, rfl⟩ : ∃ e, d = e + 1 := ⟨d - 1, by omega⟩
  have hd : 0 ≤ d := Nat.le_of_succ_le_succ hd
  refine Mt.of (M := qM_X12_isIn) rfl (by rw [sl_1 (q_is_cat f0 (Or.inl rfl)), sl_1 (q_is_cat f1 (Or.inl rfl)), sl_1 (q_is_cat f2 (Or.inl rfl)), sl_0]; decide) ?_
  rw [la_1 (q_is_cat f0 (Or.inl rfl)), la_1 (q_is_cat f1 (Or.inl rfl)), la_1 (q_is_cat f2 (Or.inl rfl)), la_0]
  obtain ⟨L, hL⟩ : ∃ L : QL, L = [(0, v0), (0 + 1, v1), (0 + 1 + 1, v2)] := ⟨_, rfl⟩
  rw [← hL]
  have l0 : q_lo L 0 = some v0 := by rw [hL]; rfl
  have l1 : q_lo L 1 = some v1 := by rw [hL]; rfl
  have l2 : q_lo L 2 = some v2 := by rw [hL]; rfl
  have hQ : ∀ o S1, Rp S1 m0 → q_out 0 o rz → (Cr 0 m0 m0 rz) o S1 := fun o S1 a b => ⟨a, Ext.rf _, b⟩
  unfold fm_X12_isIn at h
  refine go_iload_n (n := 0) (by decide +kernel) l0 f0 ?_
  refine go_iload_n (n := 1) (by decide +kernel) l1 f1 ?_
  refine go_icmp (c := .lt) (o := 12) (t := 14) (P := p0 < p1) (by decide +kernel) (by decide +kernel) f0 f1 (Iff.rfl) (fun hp_1 => ?_) (fun hp_1 => ?_)
  · have h := it_t hp_1 h
    refine go_iconst (n := 0) (z := 0) (by decide +kernel) (by decide) fun v_2 f_3 => ?_
    cases h
    exact go_iret (by decide +kernel) rfl (Or.inr ⟨rfl, by decide⟩) f_3 (hQ _ _ R (q_out_v (by decide) f_3))
  · have h := it_f hp_1 h
    refine go_iload_n (n := 0) (by decide +kernel) l0 f0 ?_
    refine go_iload_n (n := 2) (by decide +kernel) l2 f2 ?_
    refine go_icmp (c := .gt) (o := 7) (t := 14) (P := p2 < p0) (by decide +kernel) (by decide +kernel) f0 f2 (Iff.rfl) (fun hp_4 => ?_) (fun hp_4 => ?_)
    · have h := it_t hp_4 h
      refine go_iconst (n := 0) (z := 0) (by decide +kernel) (by decide) fun v_5 f_6 => ?_
      cases h
      exact go_iret (by decide +kernel) rfl (Or.inr ⟨rfl, by decide⟩) f_6 (hQ _ _ R (q_out_v (by decide) f_6))
    · have h := it_f hp_4 h
      refine go_iconst (n := 1) (z := 1) (by decide +kernel) (by decide) fun v_7 f_8 => ?_
      refine go_goto (o := 4) (t := 15) (by decide +kernel) (by decide +kernel) ?_
      cases h
      exact go_iret (by decide +kernel) rfl (Or.inr ⟨rfl, by decide⟩) f_8 (hQ _ _ R (q_out_v (by decide) f_8))
noncomputable def fm_X12_least (p0 p1 : Int) (m0 : MM) : Option Int := if p0 < p1 then
some p0
else
some p1
set_option maxHeartbeats 4000000 in
theorem om_X12_least {xs : List Int32} {d : Nat} {S : QS} {m0 : MM} {p0 p1 : Int} {v0 : Value} {v1 : Value} {rz : Int}
  (hd : 1 ≤ d) (R : Rp S m0) (f0 : q_is 0 v0 p0) (f1 : q_is 0 v1 p1)
  (h : fm_X12_least p0 p1 m0 = some rz) : Mt xs d 189 [v0, v1] S (Cr 0 m0 m0 rz) := by
  obtain ⟨d, rfl⟩ : ∃ e, d = e + 1 := ⟨d - 1, by omega⟩
  have hd : 0 ≤ d := Nat.le_of_succ_le_succ hd
  refine Mt.of (M := qM_X12_least) rfl (by rw [sl_1 (q_is_cat f0 (Or.inl rfl)), sl_1 (q_is_cat f1 (Or.inl rfl)), sl_0]; decide) ?_
  rw [la_1 (q_is_cat f0 (Or.inl rfl)), la_1 (q_is_cat f1 (Or.inl rfl)), la_0]
  obtain ⟨L, hL⟩ : ∃ L : QL, L = [(0, v0), (0 + 1, v1)] := ⟨_, rfl⟩
  rw [← hL]
  have l0 : q_lo L 0 = some v0 := by rw [hL]; rfl
  have l1 : q_lo L 1 = some v1 := by rw [hL]; rfl
  have hQ : ∀ o S1, Rp S1 m0 → q_out 0 o rz → (Cr 0 m0 m0 rz) o S1 := fun o S1 a b => ⟨a, Ext.rf _, b⟩
  unfold fm_X12_least at h
  refine go_iload_n (n := 0) (by decide +kernel) l0 f0 ?_
  refine go_iload_n (n := 1) (by decide +kernel) l1 f1 ?_
  refine go_icmp (c := .ge) (o := 7) (t := 9) (P := ¬ (p0 < p1)) (by decide +kernel) (by decide +kernel) f0 f1 (Int.not_lt.symm) (fun hp_1 => ?_) (fun hp_1 => ?_)
  · have h := it_f hp_1 h
    refine go_iload_n (n := 1) (by decide +kernel) l1 f1 ?_
    cases h
    exact go_iret (by decide +kernel) rfl (Or.inl rfl) f1 (hQ _ _ R (q_out_v (by decide) f1))
  · have h := it_n hp_1 h
    refine go_iload_n (n := 0) (by decide +kernel) l0 f0 ?_
    refine go_goto (o := 4) (t := 10) (by decide +kernel) (by decide +kernel) ?_
    cases h
    exact go_iret (by decide +kernel) rfl (Or.inl rfl) f0 (hQ _ _ R (q_out_v (by decide) f0))
noncomputable def fm_X12_most (p0 p1 : Int) (m0 : MM) : Option Int := if p1 < p0 then
some p0
else
some p1
set_option maxHeartbeats 4000000 in
theorem om_X12_most {xs : List Int32} {d : Nat} {S : QS} {m0 : MM} {p0 p1 : Int} {v0 : Value} {v1 : Value} {rz : Int}
  (hd : 1 ≤ d) (R : Rp S m0) (f0 : q_is 0 v0 p0) (f1 : q_is 0 v1 p1)
  (h : fm_X12_most p0 p1 m0 = some rz) : Mt xs d 190 [v0, v1] S (Cr 0 m0 m0 rz) := by
  obtain ⟨d, rfl⟩ : ∃ e, d = e + 1 := ⟨d - 1, by omega⟩
  have hd : 0 ≤ d := Nat.le_of_succ_le_succ hd
  refine Mt.of (M := qM_X12_most) rfl (by rw [sl_1 (q_is_cat f0 (Or.inl rfl)), sl_1 (q_is_cat f1 (Or.inl rfl)), sl_0]; decide) ?_
  rw [la_1 (q_is_cat f0 (Or.inl rfl)), la_1 (q_is_cat f1 (Or.inl rfl)), la_0]
  obtain ⟨L, hL⟩ : ∃ L : QL, L = [(0, v0), (0 + 1, v1)] := ⟨_, rfl⟩
  rw [← hL]
  have l0 : q_lo L 0 = some v0 := by rw [hL]; rfl
  have l1 : q_lo L 1 = some v1 := by rw [hL]; rfl
  have hQ : ∀ o S1, Rp S1 m0 → q_out 0 o rz → (Cr 0 m0 m0 rz) o S1 := fun o S1 a b => ⟨a, Ext.rf _, b⟩
  unfold fm_X12_most at h
  refine go_iload_n (n := 0) (by decide +kernel) l0 f0 ?_
  refine go_iload_n (n := 1) (by decide +kernel) l1 f1 ?_
  refine go_icmp (c := .le) (o := 7) (t := 9) (P := ¬ (p1 < p0)) (by decide +kernel) (by decide +kernel) f0 f1 (Int.not_lt.symm) (fun hp_1 => ?_) (fun hp_1 => ?_)
  · have h := it_f hp_1 h
    refine go_iload_n (n := 1) (by decide +kernel) l1 f1 ?_
    cases h
    exact go_iret (by decide +kernel) rfl (Or.inl rfl) f1 (hQ _ _ R (q_out_v (by decide) f1))
  · have h := it_n hp_1 h
    refine go_iload_n (n := 0) (by decide +kernel) l0 f0 ?_
    refine go_goto (o := 4) (t := 10) (by decide +kernel) (by decide +kernel) ?_
    cases h
    exact go_iret (by decide +kernel) rfl (Or.inl rfl) f0 (hQ _ _ R (q_out_v (by decide) f0))
noncomputable def fm_X12_isType (p0 : Int) (m0 : MM) : Option Int := bp (fm_X12_isIn p0 0 3 m0) fun x_6 =>
gd (x_6 = 0 ∨ x_6 = 1) <| some x_6
set_option maxHeartbeats 4000000 in
theorem om_X12_isType {xs : List Int32} {d : Nat} {S : QS} {m0 : MM} {p0 : Int} {v0 : Value} {rz : Int}
  (hd : 2 ≤ d) (R : Rp S m0) (f0 : q_is 0 v0 p0)
  (h : fm_X12_isType p0 m0 = some rz) : Mt xs d 191 [v0] S (Cr 0 m0 m0 rz) := by
  obtain ⟨d, rfl⟩ : ∃ e, d = e + 1 := ⟨d - 1, by omega⟩
  have hd : 1 ≤ d := Nat.le_of_succ_le_succ hd
  refine Mt.of (M := qM_X12_isType) rfl (by rw [sl_1 (q_is_cat f0 (Or.inl rfl)), sl_0]; decide) ?_
  rw [la_1 (q_is_cat f0 (Or.inl rfl)), la_0]
  obtain ⟨L, hL⟩ : ∃ L : QL, L = [(0, v0)] := ⟨_, rfl⟩
  rw [← hL]
  have l0 : q_lo L 0 = some v0 := by rw [hL]; rfl
  have hQ : ∀ o S1, Rp S1 m0 → q_out 0 o rz → (Cr 0 m0 m0 rz) o S1 := fun o S1 a b => ⟨a, Ext.rf _, b⟩
  unfold fm_X12_isType at h
  refine go_iload_n (n := 0) (by decide +kernel) l0 f0 ?_
  refine go_iconst (n := 0) (z := 0) (by decide +kernel) (by decide) fun v_1 f_2 => ?_
  refine go_iconst (n := 3) (z := 3) (by decide +kernel) (by decide) fun v_3 f_4 => ?_
  obtain ⟨x_6, hc_5, h⟩ := bp_s h
  refine go_callS (x := 306) (mi := 188) (n := 3) (b := 0) (as := [v0, v_1, v_3]) (rest := []) (by decide +kernel) (by decide +kernel) rfl rfl (q_sum8 _ (Nat.le_of_ble_eq_true rfl)) (om_X12_isIn (Nat.le_trans (by decide) hd) R f0 f_2 f_4 hc_5) (fun _ S_10 q_13 => ?_) (fun _ _ qq => kr_x qq)
  refine kr_z (by decide) q_13 fun v_8 f_9 R_11 E_12 => ?_
  obtain ⟨g_14, h⟩ := gd_s h
  cases h
  exact go_iret (by decide +kernel) rfl (Or.inr ⟨rfl, g_14⟩) f_9 (hQ _ _ R_11 (q_out_v (by decide) f_9))
noncomputable def fm_X12_isTenant (p0 : Int) (m0 : MM) : Option Int := bp (fm_X12_isIn p0 0 2 m0) fun x_6 =>
gd (x_6 = 0 ∨ x_6 = 1) <| some x_6
set_option maxHeartbeats 4000000 in
theorem om_X12_isTenant {xs : List Int32} {d : Nat} {S : QS} {m0 : MM} {p0 : Int} {v0 : Value} {rz : Int}
  (hd : 2 ≤ d) (R : Rp S m0) (f0 : q_is 0 v0 p0)
  (h : fm_X12_isTenant p0 m0 = some rz) : Mt xs d 192 [v0] S (Cr 0 m0 m0 rz) := by
  obtain ⟨d, rfl⟩ : ∃ e, d = e + 1 := ⟨d - 1, by omega⟩
  have hd : 1 ≤ d := Nat.le_of_succ_le_succ hd
  refine Mt.of (M := qM_X12_isTenant) rfl (by rw [sl_1 (q_is_cat f0 (Or.inl rfl)), sl_0]; decide) ?_
  rw [la_1 (q_is_cat f0 (Or.inl rfl)), la_0]
  obtain ⟨L, hL⟩ : ∃ L : QL, L = [(0, v0)] := ⟨_, rfl⟩
  rw [← hL]
  have l0 : q_lo L 0 = some v0 := by rw [hL]; rfl
  have hQ : ∀ o S1, Rp S1 m0 → q_out 0 o rz → (Cr 0 m0 m0 rz) o S1 := fun o S1 a b => ⟨a, Ext.rf _, b⟩
  unfold fm_X12_isTenant at h
  refine go_iload_n (n := 0) (by decide +kernel) l0 f0 ?_
  refine go_iconst (n := 0) (z := 0) (by decide +kernel) (by decide) fun v_1 f_2 => ?_
  refine go_iconst (n := 2) (z := 2) (by decide +kernel) (by decide) fun v_3 f_4 => ?_
  obtain ⟨x_6, hc_5, h⟩ := bp_s h
  refine go_callS (x := 306) (mi := 188) (n := 3) (b := 0) (as := [v0, v_1, v_3]) (rest := []) (by decide +kernel) (by decide +kernel) rfl rfl (q_sum8 _ (Nat.le_of_ble_eq_true rfl)) (om_X12_isIn (Nat.le_trans (by decide) hd) R f0 f_2 f_4 hc_5) (fun _ S_10 q_13 => ?_) (fun _ _ qq => kr_x qq)
  refine kr_z (by decide) q_13 fun v_8 f_9 R_11 E_12 => ?_
  obtain ⟨g_14, h⟩ := gd_s h
  cases h
  exact go_iret (by decide +kernel) rfl (Or.inr ⟨rfl, g_14⟩) f_9 (hQ _ _ R_11 (q_out_v (by decide) f_9))
noncomputable def fm_X12_isRun (p1 : Int) (m0 : MM) : Option Int := lx (m0 68 12) fun x_6 =>
bp (fm_X12_isIn p1 0 (w32 (x_6 - 1)) m0) fun x_13 =>
gd (x_13 = 0 ∨ x_13 = 1) <| some x_13
set_option maxHeartbeats 4000000 in
theorem om_X12_isRun {xs : List Int32} {d : Nat} {S : QS} {m0 : MM} {p1 : Int} {v0 : Value} {v1 : Value} {rz : Int}
  (hd : 2 ≤ d) (R : Rp S m0) (f0 : q_is 2 v0 68) (f1 : q_is 0 v1 p1)
  (h : fm_X12_isRun p1 m0 = some rz) : Mt xs d 193 [v0, v1] S (Cr 0 m0 m0 rz) := by
  obtain ⟨d, rfl⟩ : ∃ e, d = e + 1 := ⟨d - 1, by omega⟩
  have hd : 1 ≤ d := Nat.le_of_succ_le_succ hd
  refine Mt.of (M := qM_X12_isRun) rfl (by rw [sl_1 (q_is_cat f0 (Or.inr rfl)), sl_1 (q_is_cat f1 (Or.inl rfl)), sl_0]; decide) ?_
  rw [la_1 (q_is_cat f0 (Or.inr rfl)), la_1 (q_is_cat f1 (Or.inl rfl)), la_0]
  obtain ⟨L, hL⟩ : ∃ L : QL, L = [(0, v0), (0 + 1, v1)] := ⟨_, rfl⟩
  rw [← hL]
  have l0 : q_lo L 0 = some v0 := by rw [hL]; rfl
  have l1 : q_lo L 1 = some v1 := by rw [hL]; rfl
  have hQ : ∀ o S1, Rp S1 m0 → q_out 0 o rz → (Cr 0 m0 m0 rz) o S1 := fun o S1 a b => ⟨a, Ext.rf _, b⟩
  unfold fm_X12_isRun at h
  refine go_iload_n (n := 1) (by decide +kernel) l1 f1 ?_
  refine go_iconst (n := 0) (z := 0) (by decide +kernel) (by decide) fun v_1 f_2 => ?_
  refine go_aload_n (n := 0) (by decide +kernel) l0 f0 ?_
  obtain ⟨x_6, e_7, h⟩ := lx_s h
  refine go_getf (x := 310) (ci := 13) (kf := 12) (fin := 0) (t := 0) (by decide +kernel) (by decide +kernel) (by decide +kernel) R f0 (fx_k (c := 13) R (by decide +kernel)) fun v_3 f_4 => ?_
  have f_5 := q_is_eq f_4 e_7
  refine go_iconst (n := 1) (z := 1) (by decide +kernel) (by decide) fun v_8 f_9 => ?_
  refine go_isub (by decide +kernel) f_5 f_9 fun v_10 f_11 => ?_
  obtain ⟨x_13, hc_12, h⟩ := bp_s h
  refine go_callS (x := 306) (mi := 188) (n := 3) (b := 0) (as := [v1, v_1, v_10]) (rest := []) (by decide +kernel) (by decide +kernel) rfl rfl (q_sum8 _ (Nat.le_of_ble_eq_true rfl)) (om_X12_isIn (Nat.le_trans (by decide) hd) R f1 f_2 f_11 hc_12) (fun _ S_17 q_20 => ?_) (fun _ _ qq => kr_x qq)
  refine kr_z (by decide) q_20 fun v_15 f_16 R_18 E_19 => ?_
  obtain ⟨g_21, h⟩ := gd_s h
  cases h
  exact go_iret (by decide +kernel) rfl (Or.inr ⟨rfl, g_21⟩) f_16 (hQ _ _ R_18 (q_out_v (by decide) f_16))
noncomputable def fm_X12_isValue (p0 : Int) (m0 : MM) : Option Int := bp (fm_X12_isIn p0 0 999 m0) fun x_6 =>
gd (x_6 = 0 ∨ x_6 = 1) <| some x_6
set_option maxHeartbeats 4000000 in
theorem om_X12_isValue {xs : List Int32} {d : Nat} {S : QS} {m0 : MM} {p0 : Int} {v0 : Value} {rz : Int}
  (hd : 2 ≤ d) (R : Rp S m0) (f0 : q_is 0 v0 p0)
  (h : fm_X12_isValue p0 m0 = some rz) : Mt xs d 194 [v0] S (Cr 0 m0 m0 rz) := by
  obtain ⟨d, rfl⟩ : ∃ e, d = e + 1 := ⟨d - 1, by omega⟩
  have hd : 1 ≤ d := Nat.le_of_succ_le_succ hd
  refine Mt.of (M := qM_X12_isValue) rfl (by rw [sl_1 (q_is_cat f0 (Or.inl rfl)), sl_0]; decide) ?_
  rw [la_1 (q_is_cat f0 (Or.inl rfl)), la_0]
  obtain ⟨L, hL⟩ : ∃ L : QL, L = [(0, v0)] := ⟨_, rfl⟩
  rw [← hL]
  have l0 : q_lo L 0 = some v0 := by rw [hL]; rfl
  have hQ : ∀ o S1, Rp S1 m0 → q_out 0 o rz → (Cr 0 m0 m0 rz) o S1 := fun o S1 a b => ⟨a, Ext.rf _, b⟩
  unfold fm_X12_isValue at h
  refine go_iload_n (n := 0) (by decide +kernel) l0 f0 ?_
  refine go_iconst (n := 0) (z := 0) (by decide +kernel) (by decide) fun v_1 f_2 => ?_
  refine go_sipush (n := 999) (z := 999) (by decide +kernel) (by decide) fun v_3 f_4 => ?_
  obtain ⟨x_6, hc_5, h⟩ := bp_s h
  refine go_callS (x := 306) (mi := 188) (n := 3) (b := 0) (as := [v0, v_1, v_3]) (rest := []) (by decide +kernel) (by decide +kernel) rfl rfl (q_sum8 _ (Nat.le_of_ble_eq_true rfl)) (om_X12_isIn (Nat.le_trans (by decide) hd) R f0 f_2 f_4 hc_5) (fun _ S_10 q_13 => ?_) (fun _ _ qq => kr_x qq)
  refine kr_z (by decide) q_13 fun v_8 f_9 R_11 E_12 => ?_
  obtain ⟨g_14, h⟩ := gd_s h
  cases h
  exact go_iret (by decide +kernel) rfl (Or.inr ⟨rfl, g_14⟩) f_9 (hQ _ _ R_11 (q_out_v (by decide) f_9))
noncomputable def fm_X12_ofThousand (p0 : Int) (m0 : MM) : Option Int := lx (Int.tmod p0 1000) fun x_5 =>
if x_5 < 0 then
some (w32 (x_5 + 1000))
else
some x_5
set_option maxHeartbeats 4000000 in
theorem om_X12_ofThousand {xs : List Int32} {d : Nat} {S : QS} {m0 : MM} {p0 : Int} {v0 : Value} {rz : Int}
  (hd : 1 ≤ d) (R : Rp S m0) (f0 : q_is 0 v0 p0)
  (h : fm_X12_ofThousand p0 m0 = some rz) : Mt xs d 195 [v0] S (Cr 0 m0 m0 rz) := by
  obtain ⟨d, rfl⟩ : ∃ e, d = e + 1 := ⟨d - 1, by omega⟩
  have hd : 0 ≤ d := Nat.le_of_succ_le_succ hd
  refine Mt.of (M := qM_X12_ofThousand) rfl (by rw [sl_1 (q_is_cat f0 (Or.inl rfl)), sl_0]; decide) ?_
  rw [la_1 (q_is_cat f0 (Or.inl rfl)), la_0]
  obtain ⟨L, hL⟩ : ∃ L : QL, L = [(0, v0)] := ⟨_, rfl⟩
  rw [← hL]
  have l0 : q_lo L 0 = some v0 := by rw [hL]; rfl
  have hQ : ∀ o S1, Rp S1 m0 → q_out 0 o rz → (Cr 0 m0 m0 rz) o S1 := fun o S1 a b => ⟨a, Ext.rf _, b⟩
  unfold fm_X12_ofThousand at h
  refine go_iload_n (n := 0) (by decide +kernel) l0 f0 ?_
  refine go_sipush (n := 1000) (z := 1000) (by decide +kernel) (by decide) fun v_1 f_2 => ?_
  refine go_irem (by decide +kernel) f0 f_2 (by decide) fun v_3 f_4 => ?_
  obtain ⟨x_5, e_6, h⟩ := lx_s h
  have f_7 := q_is_eq f_4 e_6
  refine go_istore_n (n := 1) (by decide +kernel) (by decide +kernel) f_7 fun L_8 l_9 kp_10 => ?_
  refine go_iload_n (n := 1) (by decide +kernel) l_9 f_7 ?_
  refine go_if (c := .ge) (o := 11) (t := 18) (P := ¬ (x_5 < 0)) (by decide +kernel) (by decide +kernel) f_7 (Int.not_lt.symm) (fun hp_11 => ?_) (fun hp_11 => ?_)
  · have h := it_f hp_11 h
    refine go_iload_n (n := 1) (by decide +kernel) l_9 f_7 ?_
    cases h
    exact go_iret (by decide +kernel) rfl (Or.inl rfl) f_7 (hQ _ _ R (q_out_v (by decide) f_7))
  · have h := it_n hp_11 h
    refine go_iload_n (n := 1) (by decide +kernel) l_9 f_7 ?_
    refine go_sipush (n := 1000) (z := 1000) (by decide +kernel) (by decide) fun v_12 f_13 => ?_
    refine go_iadd (by decide +kernel) f_7 f_13 fun v_14 f_15 => ?_
    refine go_goto (o := 4) (t := 19) (by decide +kernel) (by decide +kernel) ?_
    cases h
    exact go_iret (by decide +kernel) rfl (Or.inl rfl) f_15 (hQ _ _ R (q_out_v (by decide) f_15))
noncomputable def fm_X12_code (p0 p1 : Int) (m0 : MM) : Option Int := some (w32 (24 * (w32 ((w32 (5 * p0)) + p1))))
set_option maxHeartbeats 4000000 in
theorem om_X12_code {xs : List Int32} {d : Nat} {S : QS} {m0 : MM} {p0 p1 : Int} {v0 : Value} {v1 : Value} {rz : Int}
  (hd : 1 ≤ d) (R : Rp S m0) (f0 : q_is 0 v0 p0) (f1 : q_is 0 v1 p1)
  (h : fm_X12_code p0 p1 m0 = some rz) : Mt xs d 196 [v0, v1] S (Cr 0 m0 m0 rz) := by
  obtain ⟨d, rfl⟩ : ∃ e, d = e + 1 := ⟨d - 1, by omega⟩
  have hd : 0 ≤ d := Nat.le_of_succ_le_succ hd
  refine Mt.of (M := qM_X12_code) rfl (by rw [sl_1 (q_is_cat f0 (Or.inl rfl)), sl_1 (q_is_cat f1 (Or.inl rfl)), sl_0]; decide) ?_
  rw [la_1 (q_is_cat f0 (Or.inl rfl)), la_1 (q_is_cat f1 (Or.inl rfl)), la_0]
  obtain ⟨L, hL⟩ : ∃ L : QL, L = [(0, v0), (0 + 1, v1)] := ⟨_, rfl⟩
  rw [← hL]
  have l0 : q_lo L 0 = some v0 := by rw [hL]; rfl
  have l1 : q_lo L 1 = some v1 := by rw [hL]; rfl
  have hQ : ∀ o S1, Rp S1 m0 → q_out 0 o rz → (Cr 0 m0 m0 rz) o S1 := fun o S1 a b => ⟨a, Ext.rf _, b⟩
  unfold fm_X12_code at h
  refine go_bipush (n := 24) (z := 24) (by decide +kernel) (by decide) fun v_1 f_2 => ?_
  refine go_iconst (n := 5) (z := 5) (by decide +kernel) (by decide) fun v_3 f_4 => ?_
  refine go_iload_n (n := 0) (by decide +kernel) l0 f0 ?_
  refine go_imul (by decide +kernel) f_4 f0 fun v_5 f_6 => ?_
  refine go_iload_n (n := 1) (by decide +kernel) l1 f1 ?_
  refine go_iadd (by decide +kernel) f_6 f1 fun v_7 f_8 => ?_
  refine go_imul (by decide +kernel) f_2 f_8 fun v_9 f_10 => ?_
  cases h
  exact go_iret (by decide +kernel) rfl (Or.inl rfl) f_10 (hQ _ _ R (q_out_v (by decide) f_10))
noncomputable def fm_X12_mostA (p0 : Int) (m0 : MM) : Option Int := if p0 = 0 then
some 5
else if p0 = 1 then
some 5
else if p0 = 6 then
some 5
else if p0 = 18 then
some 5
else if p0 = 20 then
some 5
else if p0 = 23 then
some 5
else if p0 = 2 then
some 3
else if p0 = 4 then
some 3
else if p0 = 5 then
some 3
else if p0 = 14 then
some 3
else if p0 = 3 then
some 100
else if p0 = 7 then
some 23
else if p0 = 8 then
some 23
else if p0 = 10 then
some 23
else if p0 = 12 then
some 23
else if p0 = 19 then
some 9
else 
some 0
set_option maxHeartbeats 4000000 in
theorem om_X12_mostA {xs : List Int32} {d : Nat} {S : QS} {m0 : MM} {p0 : Int} {v0 : Value} {rz : Int}
  (hd : 1 ≤ d) (R : Rp S m0) (f0 : q_is 0 v0 p0)
  (h : fm_X12_mostA p0 m0 = some rz) : Mt xs d 197 [v0] S (Cr 0 m0 m0 rz) := by
  obtain ⟨d, rfl⟩ : ∃ e, d = e + 1 := ⟨d - 1, by omega⟩
  have hd : 0 ≤ d := Nat.le_of_succ_le_succ hd
  refine Mt.of (M := qM_X12_mostA) rfl (by rw [sl_1 (q_is_cat f0 (Or.inl rfl)), sl_0]; decide) ?_
  rw [la_1 (q_is_cat f0 (Or.inl rfl)), la_0]
  obtain ⟨L, hL⟩ : ∃ L : QL, L = [(0, v0)] := ⟨_, rfl⟩
  rw [← hL]
  have l0 : q_lo L 0 = some v0 := by rw [hL]; rfl
  have hQ : ∀ o S1, Rp S1 m0 → q_out 0 o rz → (Cr 0 m0 m0 rz) o S1 := fun o S1 a b => ⟨a, Ext.rf _, b⟩
  unfold fm_X12_mostA at h
  refine go_iload_n (n := 0) (by decide +kernel) l0 f0 ?_
  by_cases hp_2 : p0 = 0
  · have h := it_t hp_2 h
    refine go_tsin (dflt := 124) (lo := 0) (hi := 23) (offs := #[111, 111, 113, 115, 113, 113, 111, 118, 118, 124, 118, 124, 118, 124, 113, 124, 124, 124, 111, 121, 111, 124, 124, 111]) (o := 111) (t := 112) (by decide +kernel) f0 (by omega) (by omega) (by rw [hp_2]; decide) (by decide +kernel) ?_
    refine go_iconst (n := 5) (z := 5) (by decide +kernel) (by decide) fun v_3 f_4 => ?_
    cases h
    exact go_iret (by decide +kernel) rfl (Or.inl rfl) f_4 (hQ _ _ R (q_out_v (by decide) f_4))
  have h := it_f hp_2 h
  by_cases hp_5 : p0 = 1
  · have h := it_t hp_5 h
    refine go_tsin (dflt := 124) (lo := 0) (hi := 23) (offs := #[111, 111, 113, 115, 113, 113, 111, 118, 118, 124, 118, 124, 118, 124, 113, 124, 124, 124, 111, 121, 111, 124, 124, 111]) (o := 111) (t := 112) (by decide +kernel) f0 (by omega) (by omega) (by rw [hp_5]; decide) (by decide +kernel) ?_
    refine go_iconst (n := 5) (z := 5) (by decide +kernel) (by decide) fun v_6 f_7 => ?_
    cases h
    exact go_iret (by decide +kernel) rfl (Or.inl rfl) f_7 (hQ _ _ R (q_out_v (by decide) f_7))
  have h := it_f hp_5 h
  by_cases hp_8 : p0 = 6
  · have h := it_t hp_8 h
    refine go_tsin (dflt := 124) (lo := 0) (hi := 23) (offs := #[111, 111, 113, 115, 113, 113, 111, 118, 118, 124, 118, 124, 118, 124, 113, 124, 124, 124, 111, 121, 111, 124, 124, 111]) (o := 111) (t := 112) (by decide +kernel) f0 (by omega) (by omega) (by rw [hp_8]; decide) (by decide +kernel) ?_
    refine go_iconst (n := 5) (z := 5) (by decide +kernel) (by decide) fun v_9 f_10 => ?_
    cases h
    exact go_iret (by decide +kernel) rfl (Or.inl rfl) f_10 (hQ _ _ R (q_out_v (by decide) f_10))
  have h := it_f hp_8 h
  by_cases hp_11 : p0 = 18
  · have h := it_t hp_11 h
    refine go_tsin (dflt := 124) (lo := 0) (hi := 23) (offs := #[111, 111, 113, 115, 113, 113, 111, 118, 118, 124, 118, 124, 118, 124, 113, 124, 124, 124, 111, 121, 111, 124, 124, 111]) (o := 111) (t := 112) (by decide +kernel) f0 (by omega) (by omega) (by rw [hp_11]; decide) (by decide +kernel) ?_
    refine go_iconst (n := 5) (z := 5) (by decide +kernel) (by decide) fun v_12 f_13 => ?_
    cases h
    exact go_iret (by decide +kernel) rfl (Or.inl rfl) f_13 (hQ _ _ R (q_out_v (by decide) f_13))
  have h := it_f hp_11 h
  by_cases hp_14 : p0 = 20
  · have h := it_t hp_14 h
    refine go_tsin (dflt := 124) (lo := 0) (hi := 23) (offs := #[111, 111, 113, 115, 113, 113, 111, 118, 118, 124, 118, 124, 118, 124, 113, 124, 124, 124, 111, 121, 111, 124, 124, 111]) (o := 111) (t := 112) (by decide +kernel) f0 (by omega) (by omega) (by rw [hp_14]; decide) (by decide +kernel) ?_
    refine go_iconst (n := 5) (z := 5) (by decide +kernel) (by decide) fun v_15 f_16 => ?_
    cases h
    exact go_iret (by decide +kernel) rfl (Or.inl rfl) f_16 (hQ _ _ R (q_out_v (by decide) f_16))
  have h := it_f hp_14 h
  by_cases hp_17 : p0 = 23
  · have h := it_t hp_17 h
    refine go_tsin (dflt := 124) (lo := 0) (hi := 23) (offs := #[111, 111, 113, 115, 113, 113, 111, 118, 118, 124, 118, 124, 118, 124, 113, 124, 124, 124, 111, 121, 111, 124, 124, 111]) (o := 111) (t := 112) (by decide +kernel) f0 (by omega) (by omega) (by rw [hp_17]; decide) (by decide +kernel) ?_
    refine go_iconst (n := 5) (z := 5) (by decide +kernel) (by decide) fun v_18 f_19 => ?_
    cases h
    exact go_iret (by decide +kernel) rfl (Or.inl rfl) f_19 (hQ _ _ R (q_out_v (by decide) f_19))
  have h := it_f hp_17 h
  by_cases hp_21 : p0 = 2
  · have h := it_t hp_21 h
    refine go_tsin (dflt := 124) (lo := 0) (hi := 23) (offs := #[111, 111, 113, 115, 113, 113, 111, 118, 118, 124, 118, 124, 118, 124, 113, 124, 124, 124, 111, 121, 111, 124, 124, 111]) (o := 113) (t := 114) (by decide +kernel) f0 (by omega) (by omega) (by rw [hp_21]; decide) (by decide +kernel) ?_
    refine go_iconst (n := 3) (z := 3) (by decide +kernel) (by decide) fun v_22 f_23 => ?_
    cases h
    exact go_iret (by decide +kernel) rfl (Or.inl rfl) f_23 (hQ _ _ R (q_out_v (by decide) f_23))
  have h := it_f hp_21 h
  by_cases hp_24 : p0 = 4
  · have h := it_t hp_24 h
    refine go_tsin (dflt := 124) (lo := 0) (hi := 23) (offs := #[111, 111, 113, 115, 113, 113, 111, 118, 118, 124, 118, 124, 118, 124, 113, 124, 124, 124, 111, 121, 111, 124, 124, 111]) (o := 113) (t := 114) (by decide +kernel) f0 (by omega) (by omega) (by rw [hp_24]; decide) (by decide +kernel) ?_
    refine go_iconst (n := 3) (z := 3) (by decide +kernel) (by decide) fun v_25 f_26 => ?_
    cases h
    exact go_iret (by decide +kernel) rfl (Or.inl rfl) f_26 (hQ _ _ R (q_out_v (by decide) f_26))
  have h := it_f hp_24 h
  by_cases hp_27 : p0 = 5
  · have h := it_t hp_27 h
    refine go_tsin (dflt := 124) (lo := 0) (hi := 23) (offs := #[111, 111, 113, 115, 113, 113, 111, 118, 118, 124, 118, 124, 118, 124, 113, 124, 124, 124, 111, 121, 111, 124, 124, 111]) (o := 113) (t := 114) (by decide +kernel) f0 (by omega) (by omega) (by rw [hp_27]; decide) (by decide +kernel) ?_
    refine go_iconst (n := 3) (z := 3) (by decide +kernel) (by decide) fun v_28 f_29 => ?_
    cases h
    exact go_iret (by decide +kernel) rfl (Or.inl rfl) f_29 (hQ _ _ R (q_out_v (by decide) f_29))
  have h := it_f hp_27 h
  by_cases hp_30 : p0 = 14
  · have h := it_t hp_30 h
    refine go_tsin (dflt := 124) (lo := 0) (hi := 23) (offs := #[111, 111, 113, 115, 113, 113, 111, 118, 118, 124, 118, 124, 118, 124, 113, 124, 124, 124, 111, 121, 111, 124, 124, 111]) (o := 113) (t := 114) (by decide +kernel) f0 (by omega) (by omega) (by rw [hp_30]; decide) (by decide +kernel) ?_
    refine go_iconst (n := 3) (z := 3) (by decide +kernel) (by decide) fun v_31 f_32 => ?_
    cases h
    exact go_iret (by decide +kernel) rfl (Or.inl rfl) f_32 (hQ _ _ R (q_out_v (by decide) f_32))
  have h := it_f hp_30 h
  by_cases hp_34 : p0 = 3
  · have h := it_t hp_34 h
    refine go_tsin (dflt := 124) (lo := 0) (hi := 23) (offs := #[111, 111, 113, 115, 113, 113, 111, 118, 118, 124, 118, 124, 118, 124, 113, 124, 124, 124, 111, 121, 111, 124, 124, 111]) (o := 115) (t := 116) (by decide +kernel) f0 (by omega) (by omega) (by rw [hp_34]; decide) (by decide +kernel) ?_
    refine go_bipush (n := 100) (z := 100) (by decide +kernel) (by decide) fun v_35 f_36 => ?_
    cases h
    exact go_iret (by decide +kernel) rfl (Or.inl rfl) f_36 (hQ _ _ R (q_out_v (by decide) f_36))
  have h := it_f hp_34 h
  by_cases hp_38 : p0 = 7
  · have h := it_t hp_38 h
    refine go_tsin (dflt := 124) (lo := 0) (hi := 23) (offs := #[111, 111, 113, 115, 113, 113, 111, 118, 118, 124, 118, 124, 118, 124, 113, 124, 124, 124, 111, 121, 111, 124, 124, 111]) (o := 118) (t := 119) (by decide +kernel) f0 (by omega) (by omega) (by rw [hp_38]; decide) (by decide +kernel) ?_
    refine go_bipush (n := 23) (z := 23) (by decide +kernel) (by decide) fun v_39 f_40 => ?_
    cases h
    exact go_iret (by decide +kernel) rfl (Or.inl rfl) f_40 (hQ _ _ R (q_out_v (by decide) f_40))
  have h := it_f hp_38 h
  by_cases hp_41 : p0 = 8
  · have h := it_t hp_41 h
    refine go_tsin (dflt := 124) (lo := 0) (hi := 23) (offs := #[111, 111, 113, 115, 113, 113, 111, 118, 118, 124, 118, 124, 118, 124, 113, 124, 124, 124, 111, 121, 111, 124, 124, 111]) (o := 118) (t := 119) (by decide +kernel) f0 (by omega) (by omega) (by rw [hp_41]; decide) (by decide +kernel) ?_
    refine go_bipush (n := 23) (z := 23) (by decide +kernel) (by decide) fun v_42 f_43 => ?_
    cases h
    exact go_iret (by decide +kernel) rfl (Or.inl rfl) f_43 (hQ _ _ R (q_out_v (by decide) f_43))
  have h := it_f hp_41 h
  by_cases hp_44 : p0 = 10
  · have h := it_t hp_44 h
    refine go_tsin (dflt := 124) (lo := 0) (hi := 23) (offs := #[111, 111, 113, 115, 113, 113, 111, 118, 118, 124, 118, 124, 118, 124, 113, 124, 124, 124, 111, 121, 111, 124, 124, 111]) (o := 118) (t := 119) (by decide +kernel) f0 (by omega) (by omega) (by rw [hp_44]; decide) (by decide +kernel) ?_
    refine go_bipush (n := 23) (z := 23) (by decide +kernel) (by decide) fun v_45 f_46 => ?_
    cases h
    exact go_iret (by decide +kernel) rfl (Or.inl rfl) f_46 (hQ _ _ R (q_out_v (by decide) f_46))
  have h := it_f hp_44 h
  by_cases hp_47 : p0 = 12
  · have h := it_t hp_47 h
    refine go_tsin (dflt := 124) (lo := 0) (hi := 23) (offs := #[111, 111, 113, 115, 113, 113, 111, 118, 118, 124, 118, 124, 118, 124, 113, 124, 124, 124, 111, 121, 111, 124, 124, 111]) (o := 118) (t := 119) (by decide +kernel) f0 (by omega) (by omega) (by rw [hp_47]; decide) (by decide +kernel) ?_
    refine go_bipush (n := 23) (z := 23) (by decide +kernel) (by decide) fun v_48 f_49 => ?_
    cases h
    exact go_iret (by decide +kernel) rfl (Or.inl rfl) f_49 (hQ _ _ R (q_out_v (by decide) f_49))
  have h := it_f hp_47 h
  by_cases hp_51 : p0 = 19
  · have h := it_t hp_51 h
    refine go_tsin (dflt := 124) (lo := 0) (hi := 23) (offs := #[111, 111, 113, 115, 113, 113, 111, 118, 118, 124, 118, 124, 118, 124, 113, 124, 124, 124, 111, 121, 111, 124, 124, 111]) (o := 121) (t := 122) (by decide +kernel) f0 (by omega) (by omega) (by rw [hp_51]; decide) (by decide +kernel) ?_
    refine go_bipush (n := 9) (z := 9) (by decide +kernel) (by decide) fun v_52 f_53 => ?_
    cases h
    exact go_iret (by decide +kernel) rfl (Or.inl rfl) f_53 (hQ _ _ R (q_out_v (by decide) f_53))
  have h := it_f hp_51 h
  by_cases hp_56 : p0 = 9
  · refine go_tsin (dflt := 124) (lo := 0) (hi := 23) (offs := #[111, 111, 113, 115, 113, 113, 111, 118, 118, 124, 118, 124, 118, 124, 113, 124, 124, 124, 111, 121, 111, 124, 124, 111]) (o := 124) (t := 125) (by decide +kernel) f0 (by omega) (by omega) (by rw [hp_56]; decide) (by decide +kernel) ?_
    refine go_iconst (n := 0) (z := 0) (by decide +kernel) (by decide) fun v_54 f_55 => ?_
    cases h
    exact go_iret (by decide +kernel) rfl (Or.inl rfl) f_55 (hQ _ _ R (q_out_v (by decide) f_55))
  by_cases hp_57 : p0 = 11
  · refine go_tsin (dflt := 124) (lo := 0) (hi := 23) (offs := #[111, 111, 113, 115, 113, 113, 111, 118, 118, 124, 118, 124, 118, 124, 113, 124, 124, 124, 111, 121, 111, 124, 124, 111]) (o := 124) (t := 125) (by decide +kernel) f0 (by omega) (by omega) (by rw [hp_57]; decide) (by decide +kernel) ?_
    refine go_iconst (n := 0) (z := 0) (by decide +kernel) (by decide) fun v_54 f_55 => ?_
    cases h
    exact go_iret (by decide +kernel) rfl (Or.inl rfl) f_55 (hQ _ _ R (q_out_v (by decide) f_55))
  by_cases hp_58 : p0 = 13
  · refine go_tsin (dflt := 124) (lo := 0) (hi := 23) (offs := #[111, 111, 113, 115, 113, 113, 111, 118, 118, 124, 118, 124, 118, 124, 113, 124, 124, 124, 111, 121, 111, 124, 124, 111]) (o := 124) (t := 125) (by decide +kernel) f0 (by omega) (by omega) (by rw [hp_58]; decide) (by decide +kernel) ?_
    refine go_iconst (n := 0) (z := 0) (by decide +kernel) (by decide) fun v_54 f_55 => ?_
    cases h
    exact go_iret (by decide +kernel) rfl (Or.inl rfl) f_55 (hQ _ _ R (q_out_v (by decide) f_55))
  by_cases hp_59 : p0 = 15
  · refine go_tsin (dflt := 124) (lo := 0) (hi := 23) (offs := #[111, 111, 113, 115, 113, 113, 111, 118, 118, 124, 118, 124, 118, 124, 113, 124, 124, 124, 111, 121, 111, 124, 124, 111]) (o := 124) (t := 125) (by decide +kernel) f0 (by omega) (by omega) (by rw [hp_59]; decide) (by decide +kernel) ?_
    refine go_iconst (n := 0) (z := 0) (by decide +kernel) (by decide) fun v_54 f_55 => ?_
    cases h
    exact go_iret (by decide +kernel) rfl (Or.inl rfl) f_55 (hQ _ _ R (q_out_v (by decide) f_55))
  by_cases hp_60 : p0 = 16
  · refine go_tsin (dflt := 124) (lo := 0) (hi := 23) (offs := #[111, 111, 113, 115, 113, 113, 111, 118, 118, 124, 118, 124, 118, 124, 113, 124, 124, 124, 111, 121, 111, 124, 124, 111]) (o := 124) (t := 125) (by decide +kernel) f0 (by omega) (by omega) (by rw [hp_60]; decide) (by decide +kernel) ?_
    refine go_iconst (n := 0) (z := 0) (by decide +kernel) (by decide) fun v_54 f_55 => ?_
    cases h
    exact go_iret (by decide +kernel) rfl (Or.inl rfl) f_55 (hQ _ _ R (q_out_v (by decide) f_55))
  by_cases hp_61 : p0 = 17
  · refine go_tsin (dflt := 124) (lo := 0) (hi := 23) (offs := #[111, 111, 113, 115, 113, 113, 111, 118, 118, 124, 118, 124, 118, 124, 113, 124, 124, 124, 111, 121, 111, 124, 124, 111]) (o := 124) (t := 125) (by decide +kernel) f0 (by omega) (by omega) (by rw [hp_61]; decide) (by decide +kernel) ?_
    refine go_iconst (n := 0) (z := 0) (by decide +kernel) (by decide) fun v_54 f_55 => ?_
    cases h
    exact go_iret (by decide +kernel) rfl (Or.inl rfl) f_55 (hQ _ _ R (q_out_v (by decide) f_55))
  by_cases hp_62 : p0 = 21
  · refine go_tsin (dflt := 124) (lo := 0) (hi := 23) (offs := #[111, 111, 113, 115, 113, 113, 111, 118, 118, 124, 118, 124, 118, 124, 113, 124, 124, 124, 111, 121, 111, 124, 124, 111]) (o := 124) (t := 125) (by decide +kernel) f0 (by omega) (by omega) (by rw [hp_62]; decide) (by decide +kernel) ?_
    refine go_iconst (n := 0) (z := 0) (by decide +kernel) (by decide) fun v_54 f_55 => ?_
    cases h
    exact go_iret (by decide +kernel) rfl (Or.inl rfl) f_55 (hQ _ _ R (q_out_v (by decide) f_55))
  by_cases hp_63 : p0 = 22
  · refine go_tsin (dflt := 124) (lo := 0) (hi := 23) (offs := #[111, 111, 113, 115, 113, 113, 111, 118, 118, 124, 118, 124, 118, 124, 113, 124, 124, 124, 111, 121, 111, 124, 124, 111]) (o := 124) (t := 125) (by decide +kernel) f0 (by omega) (by omega) (by rw [hp_63]; decide) (by decide +kernel) ?_
    refine go_iconst (n := 0) (z := 0) (by decide +kernel) (by decide) fun v_54 f_55 => ?_
    cases h
    exact go_iret (by decide +kernel) rfl (Or.inl rfl) f_55 (hQ _ _ R (q_out_v (by decide) f_55))
  refine go_tsout (dflt := 124) (lo := 0) (hi := 23) (offs := #[111, 111, 113, 115, 113, 113, 111, 118, 118, 124, 118, 124, 118, 124, 113, 124, 124, 124, 111, 121, 111, 124, 124, 111]) (t := 125) (by decide +kernel) f0 (by omega) (by decide +kernel) ?_
  refine go_iconst (n := 0) (z := 0) (by decide +kernel) (by decide) fun v_54 f_55 => ?_
  cases h
  exact go_iret (by decide +kernel) rfl (Or.inl rfl) f_55 (hQ _ _ R (q_out_v (by decide) f_55))
noncomputable def fm_X12_mostB (p0 : Int) (m0 : MM) : Option Int := if p0 = 0 then
some 999
else if p0 = 1 then
some 5
else if p0 = 2 then
some 5
else if p0 = 4 then
some 5
else if p0 = 5 then
some 5
else if p0 = 14 then
some 5
else if p0 = 6 then
some 23
else if p0 = 19 then
some 23
else 
some 0
set_option maxHeartbeats 4000000 in
theorem om_X12_mostB {xs : List Int32} {d : Nat} {S : QS} {m0 : MM} {p0 : Int} {v0 : Value} {rz : Int}
  (hd : 1 ≤ d) (R : Rp S m0) (f0 : q_is 0 v0 p0)
  (h : fm_X12_mostB p0 m0 = some rz) : Mt xs d 198 [v0] S (Cr 0 m0 m0 rz) := by
  obtain ⟨d, rfl⟩ : ∃ e, d = e + 1 := ⟨d - 1, by omega⟩
  have hd : 0 ≤ d := Nat.le_of_succ_le_succ hd
  refine Mt.of (M := qM_X12_mostB) rfl (by rw [sl_1 (q_is_cat f0 (Or.inl rfl)), sl_0]; decide) ?_
  rw [la_1 (q_is_cat f0 (Or.inl rfl)), la_0]
  obtain ⟨L, hL⟩ : ∃ L : QL, L = [(0, v0)] := ⟨_, rfl⟩
  rw [← hL]
  have l0 : q_lo L 0 = some v0 := by rw [hL]; rfl
  have hQ : ∀ o S1, Rp S1 m0 → q_out 0 o rz → (Cr 0 m0 m0 rz) o S1 := fun o S1 a b => ⟨a, Ext.rf _, b⟩
  unfold fm_X12_mostB at h
  refine go_iload_n (n := 0) (by decide +kernel) l0 f0 ?_
  by_cases hp_2 : p0 = 0
  · have h := it_t hp_2 h
    refine go_tsin (dflt := 104) (lo := 0) (hi := 19) (offs := #[95, 99, 99, 104, 99, 99, 101, 104, 104, 104, 104, 104, 104, 104, 99, 104, 104, 104, 104, 101]) (o := 95) (t := 96) (by decide +kernel) f0 (by omega) (by omega) (by rw [hp_2]; decide) (by decide +kernel) ?_
    refine go_sipush (n := 999) (z := 999) (by decide +kernel) (by decide) fun v_3 f_4 => ?_
    cases h
    exact go_iret (by decide +kernel) rfl (Or.inl rfl) f_4 (hQ _ _ R (q_out_v (by decide) f_4))
  have h := it_f hp_2 h
  by_cases hp_6 : p0 = 1
  · have h := it_t hp_6 h
    refine go_tsin (dflt := 104) (lo := 0) (hi := 19) (offs := #[95, 99, 99, 104, 99, 99, 101, 104, 104, 104, 104, 104, 104, 104, 99, 104, 104, 104, 104, 101]) (o := 99) (t := 100) (by decide +kernel) f0 (by omega) (by omega) (by rw [hp_6]; decide) (by decide +kernel) ?_
    refine go_iconst (n := 5) (z := 5) (by decide +kernel) (by decide) fun v_7 f_8 => ?_
    cases h
    exact go_iret (by decide +kernel) rfl (Or.inl rfl) f_8 (hQ _ _ R (q_out_v (by decide) f_8))
  have h := it_f hp_6 h
  by_cases hp_9 : p0 = 2
  · have h := it_t hp_9 h
    refine go_tsin (dflt := 104) (lo := 0) (hi := 19) (offs := #[95, 99, 99, 104, 99, 99, 101, 104, 104, 104, 104, 104, 104, 104, 99, 104, 104, 104, 104, 101]) (o := 99) (t := 100) (by decide +kernel) f0 (by omega) (by omega) (by rw [hp_9]; decide) (by decide +kernel) ?_
    refine go_iconst (n := 5) (z := 5) (by decide +kernel) (by decide) fun v_10 f_11 => ?_
    cases h
    exact go_iret (by decide +kernel) rfl (Or.inl rfl) f_11 (hQ _ _ R (q_out_v (by decide) f_11))
  have h := it_f hp_9 h
  by_cases hp_12 : p0 = 4
  · have h := it_t hp_12 h
    refine go_tsin (dflt := 104) (lo := 0) (hi := 19) (offs := #[95, 99, 99, 104, 99, 99, 101, 104, 104, 104, 104, 104, 104, 104, 99, 104, 104, 104, 104, 101]) (o := 99) (t := 100) (by decide +kernel) f0 (by omega) (by omega) (by rw [hp_12]; decide) (by decide +kernel) ?_
    refine go_iconst (n := 5) (z := 5) (by decide +kernel) (by decide) fun v_13 f_14 => ?_
    cases h
    exact go_iret (by decide +kernel) rfl (Or.inl rfl) f_14 (hQ _ _ R (q_out_v (by decide) f_14))
  have h := it_f hp_12 h
  by_cases hp_15 : p0 = 5
  · have h := it_t hp_15 h
    refine go_tsin (dflt := 104) (lo := 0) (hi := 19) (offs := #[95, 99, 99, 104, 99, 99, 101, 104, 104, 104, 104, 104, 104, 104, 99, 104, 104, 104, 104, 101]) (o := 99) (t := 100) (by decide +kernel) f0 (by omega) (by omega) (by rw [hp_15]; decide) (by decide +kernel) ?_
    refine go_iconst (n := 5) (z := 5) (by decide +kernel) (by decide) fun v_16 f_17 => ?_
    cases h
    exact go_iret (by decide +kernel) rfl (Or.inl rfl) f_17 (hQ _ _ R (q_out_v (by decide) f_17))
  have h := it_f hp_15 h
  by_cases hp_18 : p0 = 14
  · have h := it_t hp_18 h
    refine go_tsin (dflt := 104) (lo := 0) (hi := 19) (offs := #[95, 99, 99, 104, 99, 99, 101, 104, 104, 104, 104, 104, 104, 104, 99, 104, 104, 104, 104, 101]) (o := 99) (t := 100) (by decide +kernel) f0 (by omega) (by omega) (by rw [hp_18]; decide) (by decide +kernel) ?_
    refine go_iconst (n := 5) (z := 5) (by decide +kernel) (by decide) fun v_19 f_20 => ?_
    cases h
    exact go_iret (by decide +kernel) rfl (Or.inl rfl) f_20 (hQ _ _ R (q_out_v (by decide) f_20))
  have h := it_f hp_18 h
  by_cases hp_22 : p0 = 6
  · have h := it_t hp_22 h
    refine go_tsin (dflt := 104) (lo := 0) (hi := 19) (offs := #[95, 99, 99, 104, 99, 99, 101, 104, 104, 104, 104, 104, 104, 104, 99, 104, 104, 104, 104, 101]) (o := 101) (t := 102) (by decide +kernel) f0 (by omega) (by omega) (by rw [hp_22]; decide) (by decide +kernel) ?_
    refine go_bipush (n := 23) (z := 23) (by decide +kernel) (by decide) fun v_23 f_24 => ?_
    cases h
    exact go_iret (by decide +kernel) rfl (Or.inl rfl) f_24 (hQ _ _ R (q_out_v (by decide) f_24))
  have h := it_f hp_22 h
  by_cases hp_25 : p0 = 19
  · have h := it_t hp_25 h
    refine go_tsin (dflt := 104) (lo := 0) (hi := 19) (offs := #[95, 99, 99, 104, 99, 99, 101, 104, 104, 104, 104, 104, 104, 104, 99, 104, 104, 104, 104, 101]) (o := 101) (t := 102) (by decide +kernel) f0 (by omega) (by omega) (by rw [hp_25]; decide) (by decide +kernel) ?_
    refine go_bipush (n := 23) (z := 23) (by decide +kernel) (by decide) fun v_26 f_27 => ?_
    cases h
    exact go_iret (by decide +kernel) rfl (Or.inl rfl) f_27 (hQ _ _ R (q_out_v (by decide) f_27))
  have h := it_f hp_25 h
  by_cases hp_30 : p0 = 3
  · refine go_tsin (dflt := 104) (lo := 0) (hi := 19) (offs := #[95, 99, 99, 104, 99, 99, 101, 104, 104, 104, 104, 104, 104, 104, 99, 104, 104, 104, 104, 101]) (o := 104) (t := 105) (by decide +kernel) f0 (by omega) (by omega) (by rw [hp_30]; decide) (by decide +kernel) ?_
    refine go_iconst (n := 0) (z := 0) (by decide +kernel) (by decide) fun v_28 f_29 => ?_
    cases h
    exact go_iret (by decide +kernel) rfl (Or.inl rfl) f_29 (hQ _ _ R (q_out_v (by decide) f_29))
  by_cases hp_31 : p0 = 7
  · refine go_tsin (dflt := 104) (lo := 0) (hi := 19) (offs := #[95, 99, 99, 104, 99, 99, 101, 104, 104, 104, 104, 104, 104, 104, 99, 104, 104, 104, 104, 101]) (o := 104) (t := 105) (by decide +kernel) f0 (by omega) (by omega) (by rw [hp_31]; decide) (by decide +kernel) ?_
    refine go_iconst (n := 0) (z := 0) (by decide +kernel) (by decide) fun v_28 f_29 => ?_
    cases h
    exact go_iret (by decide +kernel) rfl (Or.inl rfl) f_29 (hQ _ _ R (q_out_v (by decide) f_29))
  by_cases hp_32 : p0 = 8
  · refine go_tsin (dflt := 104) (lo := 0) (hi := 19) (offs := #[95, 99, 99, 104, 99, 99, 101, 104, 104, 104, 104, 104, 104, 104, 99, 104, 104, 104, 104, 101]) (o := 104) (t := 105) (by decide +kernel) f0 (by omega) (by omega) (by rw [hp_32]; decide) (by decide +kernel) ?_
    refine go_iconst (n := 0) (z := 0) (by decide +kernel) (by decide) fun v_28 f_29 => ?_
    cases h
    exact go_iret (by decide +kernel) rfl (Or.inl rfl) f_29 (hQ _ _ R (q_out_v (by decide) f_29))
  by_cases hp_33 : p0 = 9
  · refine go_tsin (dflt := 104) (lo := 0) (hi := 19) (offs := #[95, 99, 99, 104, 99, 99, 101, 104, 104, 104, 104, 104, 104, 104, 99, 104, 104, 104, 104, 101]) (o := 104) (t := 105) (by decide +kernel) f0 (by omega) (by omega) (by rw [hp_33]; decide) (by decide +kernel) ?_
    refine go_iconst (n := 0) (z := 0) (by decide +kernel) (by decide) fun v_28 f_29 => ?_
    cases h
    exact go_iret (by decide +kernel) rfl (Or.inl rfl) f_29 (hQ _ _ R (q_out_v (by decide) f_29))
  by_cases hp_34 : p0 = 10
  · refine go_tsin (dflt := 104) (lo := 0) (hi := 19) (offs := #[95, 99, 99, 104, 99, 99, 101, 104, 104, 104, 104, 104, 104, 104, 99, 104, 104, 104, 104, 101]) (o := 104) (t := 105) (by decide +kernel) f0 (by omega) (by omega) (by rw [hp_34]; decide) (by decide +kernel) ?_
    refine go_iconst (n := 0) (z := 0) (by decide +kernel) (by decide) fun v_28 f_29 => ?_
    cases h
    exact go_iret (by decide +kernel) rfl (Or.inl rfl) f_29 (hQ _ _ R (q_out_v (by decide) f_29))
  by_cases hp_35 : p0 = 11
  · refine go_tsin (dflt := 104) (lo := 0) (hi := 19) (offs := #[95, 99, 99, 104, 99, 99, 101, 104, 104, 104, 104, 104, 104, 104, 99, 104, 104, 104, 104, 101]) (o := 104) (t := 105) (by decide +kernel) f0 (by omega) (by omega) (by rw [hp_35]; decide) (by decide +kernel) ?_
    refine go_iconst (n := 0) (z := 0) (by decide +kernel) (by decide) fun v_28 f_29 => ?_
    cases h
    exact go_iret (by decide +kernel) rfl (Or.inl rfl) f_29 (hQ _ _ R (q_out_v (by decide) f_29))
  by_cases hp_36 : p0 = 12
  · refine go_tsin (dflt := 104) (lo := 0) (hi := 19) (offs := #[95, 99, 99, 104, 99, 99, 101, 104, 104, 104, 104, 104, 104, 104, 99, 104, 104, 104, 104, 101]) (o := 104) (t := 105) (by decide +kernel) f0 (by omega) (by omega) (by rw [hp_36]; decide) (by decide +kernel) ?_
    refine go_iconst (n := 0) (z := 0) (by decide +kernel) (by decide) fun v_28 f_29 => ?_
    cases h
    exact go_iret (by decide +kernel) rfl (Or.inl rfl) f_29 (hQ _ _ R (q_out_v (by decide) f_29))
  by_cases hp_37 : p0 = 13
  · refine go_tsin (dflt := 104) (lo := 0) (hi := 19) (offs := #[95, 99, 99, 104, 99, 99, 101, 104, 104, 104, 104, 104, 104, 104, 99, 104, 104, 104, 104, 101]) (o := 104) (t := 105) (by decide +kernel) f0 (by omega) (by omega) (by rw [hp_37]; decide) (by decide +kernel) ?_
    refine go_iconst (n := 0) (z := 0) (by decide +kernel) (by decide) fun v_28 f_29 => ?_
    cases h
    exact go_iret (by decide +kernel) rfl (Or.inl rfl) f_29 (hQ _ _ R (q_out_v (by decide) f_29))
  by_cases hp_38 : p0 = 15
  · refine go_tsin (dflt := 104) (lo := 0) (hi := 19) (offs := #[95, 99, 99, 104, 99, 99, 101, 104, 104, 104, 104, 104, 104, 104, 99, 104, 104, 104, 104, 101]) (o := 104) (t := 105) (by decide +kernel) f0 (by omega) (by omega) (by rw [hp_38]; decide) (by decide +kernel) ?_
    refine go_iconst (n := 0) (z := 0) (by decide +kernel) (by decide) fun v_28 f_29 => ?_
    cases h
    exact go_iret (by decide +kernel) rfl (Or.inl rfl) f_29 (hQ _ _ R (q_out_v (by decide) f_29))
  by_cases hp_39 : p0 = 16
  · refine go_tsin (dflt := 104) (lo := 0) (hi := 19) (offs := #[95, 99, 99, 104, 99, 99, 101, 104, 104, 104, 104, 104, 104, 104, 99, 104, 104, 104, 104, 101]) (o := 104) (t := 105) (by decide +kernel) f0 (by omega) (by omega) (by rw [hp_39]; decide) (by decide +kernel) ?_
    refine go_iconst (n := 0) (z := 0) (by decide +kernel) (by decide) fun v_28 f_29 => ?_
    cases h
    exact go_iret (by decide +kernel) rfl (Or.inl rfl) f_29 (hQ _ _ R (q_out_v (by decide) f_29))
  by_cases hp_40 : p0 = 17
  · refine go_tsin (dflt := 104) (lo := 0) (hi := 19) (offs := #[95, 99, 99, 104, 99, 99, 101, 104, 104, 104, 104, 104, 104, 104, 99, 104, 104, 104, 104, 101]) (o := 104) (t := 105) (by decide +kernel) f0 (by omega) (by omega) (by rw [hp_40]; decide) (by decide +kernel) ?_
    refine go_iconst (n := 0) (z := 0) (by decide +kernel) (by decide) fun v_28 f_29 => ?_
    cases h
    exact go_iret (by decide +kernel) rfl (Or.inl rfl) f_29 (hQ _ _ R (q_out_v (by decide) f_29))
  by_cases hp_41 : p0 = 18
  · refine go_tsin (dflt := 104) (lo := 0) (hi := 19) (offs := #[95, 99, 99, 104, 99, 99, 101, 104, 104, 104, 104, 104, 104, 104, 99, 104, 104, 104, 104, 101]) (o := 104) (t := 105) (by decide +kernel) f0 (by omega) (by omega) (by rw [hp_41]; decide) (by decide +kernel) ?_
    refine go_iconst (n := 0) (z := 0) (by decide +kernel) (by decide) fun v_28 f_29 => ?_
    cases h
    exact go_iret (by decide +kernel) rfl (Or.inl rfl) f_29 (hQ _ _ R (q_out_v (by decide) f_29))
  refine go_tsout (dflt := 104) (lo := 0) (hi := 19) (offs := #[95, 99, 99, 104, 99, 99, 101, 104, 104, 104, 104, 104, 104, 104, 99, 104, 104, 104, 104, 101]) (t := 105) (by decide +kernel) f0 (by omega) (by decide +kernel) ?_
  refine go_iconst (n := 0) (z := 0) (by decide +kernel) (by decide) fun v_28 f_29 => ?_
  cases h
  exact go_iret (by decide +kernel) rfl (Or.inl rfl) f_29 (hQ _ _ R (q_out_v (by decide) f_29))
noncomputable def fj_X12_line_96 (y1 y2 y3 y4 s0 : Int) (m : MM) : Option (Int × MM) := bd (fm_X12_fails s0 m) fun x_68 m_69 =>
if x_68 = 0 then
lx (w32 ((w32 (5 * y1)) + 4)) fun x_88 =>
bp (fm_X12_code y1 4 m_69) fun x_102 =>
gd (0 ≤ x_88 ∧ x_88 < 20) <| lx (m_69 70 x_88) fun x_117 =>
lx (w32 (x_102 + x_117)) fun x_121 =>
gd (0 ≤ x_121 ∧ x_121 < 480) <| up m_69 71 x_121 y2 fun m_136 =>
up m_136 72 x_121 y3 fun m_146 =>
up m_146 73 x_121 y4 fun m_156 =>
lx (m_156 70 x_88) fun x_169 =>
up m_156 70 x_88 (w32 (x_169 + 1)) fun m_175 =>
lx (m_175 70 x_88) fun x_188 =>
some (x_188, m_175)
else
some (0, m_69)
set_option maxHeartbeats 4000000 in
theorem oj_X12_line_96 {xs : List Int32} {d : Nat} {S : QS} {L : QL} {Q : QO → QS → Prop} {m : MM} {y1 y2 y3 y4 s0 : Int} {v0 : Value} {v1 : Value} {v2 : Value} {v3 : Value} {v4 : Value} {w0 : Value} {w1 : Value}  {rz : Int} {rm : MM}
  (hd : 2 ≤ d) (R : Rp S m) (l0 : q_lo L 0 = some v0) (f0 : q_is 2 v0 68) (l1 : q_lo L 1 = some v1) (f1 : q_is 0 v1 y1) (l2 : q_lo L 2 = some v2) (f2 : q_is 0 v2 y2) (l3 : q_lo L 3 = some v3) (f3 : q_is 0 v3 y3) (l4 : q_lo L 4 = some v4) (f4 : q_is 0 v4 y4) (fs0 : q_is 0 w0 s0) (fs1 : q_is 2 w1 68)
  (hQ : Ext m rm → ∀ o S1, Rp S1 rm → q_out 0 o rz → Q o S1)
  (h : fj_X12_line_96 y1 y2 y3 y4 s0 m = some (rz, rm)) : Go xs d qM_X12_line 96 L [w0, w1] S Q := by
  unfold fj_X12_line_96 at h
  obtain ⟨x_68, m_69, hc_67, h⟩ := bd_s h
  refine go_callV (x := 324) (mi := 186) (n := 1) (ci := 13) (as := [w0]) (rest := []) (by decide +kernel) (by decide +kernel) rfl rfl (q_sum8 _ (Nat.le_of_ble_eq_true rfl)) R fs1 (fx_k (c := 13) R (by decide +kernel)) (om_X12_fails (Nat.le_trans (by decide) hd) R fs1 fs0 hc_67) (fun _ S_72 q_75 => ?_) (fun _ _ qq => kr_x qq)
  refine kr_z (by decide) q_75 fun v_70 f_71 R_73 E_74 => ?_
  have E_78 := E_74
  refine go_if (c := .eq) (o := 5) (t := 104) (P := x_68 = 0) (by decide +kernel) (by decide +kernel) f_71 (Iff.rfl) (fun hp_79 => ?_) (fun hp_79 => ?_)
  · have h := it_t hp_79 h
    refine go_iconst (n := 5) (z := 5) (by decide +kernel) (by decide) fun v_80 f_81 => ?_
    refine go_iload_n (n := 1) (by decide +kernel) l1 f1 ?_
    refine go_imul (by decide +kernel) f_81 f1 fun v_82 f_83 => ?_
    refine go_iconst (n := 4) (z := 4) (by decide +kernel) (by decide) fun v_84 f_85 => ?_
    refine go_iadd (by decide +kernel) f_83 f_85 fun v_86 f_87 => ?_
    obtain ⟨x_88, e_89, h⟩ := lx_s h
    have f_90 := q_is_eq f_87 e_89
    refine go_istore (n := 7) (by decide +kernel) (by decide +kernel) f_90 fun L_91 l_92 kp_93 => ?_
    have l_94 := kp_93 0 _ l0 (by decide) (Or.inl (by decide))
    have l_95 := kp_93 1 _ l1 (by decide) (Or.inl (by decide))
    have l_96 := kp_93 2 _ l2 (by decide) (Or.inl (by decide))
    have l_97 := kp_93 3 _ l3 (by decide) (Or.inl (by decide))
    have l_98 := kp_93 4 _ l4 (by decide) (Or.inl (by decide))
    refine go_iload_n (n := 1) (by decide +kernel) l_95 f1 ?_
    refine go_iconst (n := 4) (z := 4) (by decide +kernel) (by decide) fun v_99 f_100 => ?_
    obtain ⟨x_102, hc_101, h⟩ := bp_s h
    refine go_callS (x := 327) (mi := 196) (n := 2) (b := 0) (as := [v1, v_99]) (rest := []) (by decide +kernel) (by decide +kernel) rfl rfl (q_sum8 _ (Nat.le_of_ble_eq_true rfl)) (om_X12_code (Nat.le_trans (by decide) hd) R_73 f1 f_100 hc_101) (fun _ S_106 q_109 => ?_) (fun _ _ qq => kr_x qq)
    refine kr_z (by decide) q_109 fun v_104 f_105 R_107 E_108 => ?_
    refine go_aload_n (n := 0) (by decide +kernel) l_94 f0 ?_
    refine go_getf (x := 13) (ci := 13) (kf := 2) (fin := 1) (t := 2) (by decide +kernel) (by decide +kernel) (by decide +kernel) R_107 f0 (fx_k (c := 13) R_107 (by decide +kernel)) fun v_110 f_111 => ?_
    have f_112 := q_is_eq (b := 70) f_111 (fx_v R_107 (by decide +kernel)).symm
    refine go_iload (n := 7) (by decide +kernel) l_92 f_90 ?_
    obtain ⟨g_115, h⟩ := gd_s h
    obtain ⟨x_117, e_118, h⟩ := lx_s h
    refine go_iald (kd := 100) (by decide +kernel) rfl R_107 f_112 f_90 (fx_k (c := 100) R_107 (by decide +kernel)) (fx_x (a := 70) (ln := 20) R_107 (by decide +kernel) g_115) fun v_113 f_114 => ?_
    have f_116 := q_is_eq f_114 e_118
    refine go_iadd (by decide +kernel) f_105 f_116 fun v_119 f_120 => ?_
    obtain ⟨x_121, e_122, h⟩ := lx_s h
    have f_123 := q_is_eq f_120 e_122
    refine go_istore (n := 8) (by decide +kernel) (by decide +kernel) f_123 fun L_124 l_125 kp_126 => ?_
    have l_127 := kp_126 0 _ l_94 (by decide) (Or.inl (by decide))
    have l_128 := kp_126 2 _ l_96 (by decide) (Or.inl (by decide))
    have l_129 := kp_126 3 _ l_97 (by decide) (Or.inl (by decide))
    have l_130 := kp_126 4 _ l_98 (by decide) (Or.inl (by decide))
    have l_131 := kp_126 7 _ l_92 (by decide) (Or.inr (q_is_cat f_90 (Or.inl rfl)))
    refine go_aload_n (n := 0) (by decide +kernel) l_127 f0 ?_
    refine go_getf (x := 16) (ci := 13) (kf := 3) (fin := 1) (t := 2) (by decide +kernel) (by decide +kernel) (by decide +kernel) R_107 f0 (fx_k (c := 13) R_107 (by decide +kernel)) fun v_132 f_133 => ?_
    have f_134 := q_is_eq (b := 71) f_133 (fx_v R_107 (by decide +kernel)).symm
    refine go_iload (n := 8) (by decide +kernel) l_125 f_123 ?_
    refine go_iload_n (n := 2) (by decide +kernel) l_128 f2 ?_
    obtain ⟨g_135, h⟩ := gd_s h
    obtain ⟨m_136, e_137, h⟩ := up_s h
    refine go_iast (kd := 100) (by decide +kernel) rfl R_107 f_134 f_123 f2 (fx_k (c := 100) R_107 (by decide +kernel)) (fx_x (a := 71) (ln := 480) R_107 (by decide +kernel) g_135) e_137 (fx_a R_107.2 (fx_k (c := 100) R_107 (by decide +kernel)) (And.left (fx_x (a := 71) (ln := 480) R_107 (by decide +kernel) g_135)) (by decide +kernel)) fun S_138 R_139 E_140 => ?_
    have E_142 := Ext.tr E_78 E_140
    refine go_aload_n (n := 0) (by decide +kernel) l_127 f0 ?_
    refine go_getf (x := 19) (ci := 13) (kf := 4) (fin := 1) (t := 2) (by decide +kernel) (by decide +kernel) (by decide +kernel) R_139 f0 (fx_k (c := 13) R_139 (by decide +kernel)) fun v_143 f_144 => ?_
    have f_145 := q_is_eq (b := 72) f_144 (fx_v R_139 (by decide +kernel)).symm
    refine go_iload (n := 8) (by decide +kernel) l_125 f_123 ?_
    refine go_iload_n (n := 3) (by decide +kernel) l_129 f3 ?_
    obtain ⟨m_146, e_147, h⟩ := up_s h
    refine go_iast (kd := 100) (by decide +kernel) rfl R_139 f_145 f_123 f3 (fx_k (c := 100) R_139 (by decide +kernel)) (fx_x (a := 72) (ln := 480) R_139 (by decide +kernel) g_135) e_147 (fx_a R_139.2 (fx_k (c := 100) R_139 (by decide +kernel)) (And.left (fx_x (a := 72) (ln := 480) R_139 (by decide +kernel) g_135)) (by decide +kernel)) fun S_148 R_149 E_150 => ?_
    have E_152 := Ext.tr E_142 E_150
    refine go_aload_n (n := 0) (by decide +kernel) l_127 f0 ?_
    refine go_getf (x := 22) (ci := 13) (kf := 5) (fin := 1) (t := 2) (by decide +kernel) (by decide +kernel) (by decide +kernel) R_149 f0 (fx_k (c := 13) R_149 (by decide +kernel)) fun v_153 f_154 => ?_
    have f_155 := q_is_eq (b := 73) f_154 (fx_v R_149 (by decide +kernel)).symm
    refine go_iload (n := 8) (by decide +kernel) l_125 f_123 ?_
    refine go_iload (n := 4) (by decide +kernel) l_130 f4 ?_
    obtain ⟨m_156, e_157, h⟩ := up_s h
    refine go_iast (kd := 100) (by decide +kernel) rfl R_149 f_155 f_123 f4 (fx_k (c := 100) R_149 (by decide +kernel)) (fx_x (a := 73) (ln := 480) R_149 (by decide +kernel) g_135) e_157 (fx_a R_149.2 (fx_k (c := 100) R_149 (by decide +kernel)) (And.left (fx_x (a := 73) (ln := 480) R_149 (by decide +kernel) g_135)) (by decide +kernel)) fun S_158 R_159 E_160 => ?_
    have E_162 := Ext.tr E_152 E_160
    refine go_aload_n (n := 0) (by decide +kernel) l_127 f0 ?_
    refine go_getf (x := 13) (ci := 13) (kf := 2) (fin := 1) (t := 2) (by decide +kernel) (by decide +kernel) (by decide +kernel) R_159 f0 (fx_k (c := 13) R_159 (by decide +kernel)) fun v_163 f_164 => ?_
    have f_165 := q_is_eq (b := 70) f_164 (fx_v R_159 (by decide +kernel)).symm
    refine go_iload (n := 7) (by decide +kernel) l_131 f_90 ?_
    refine go_dup2 (by decide +kernel) f_90 (Or.inl rfl) f_165 (Or.inr rfl) ?_
    obtain ⟨x_169, e_170, h⟩ := lx_s h
    refine go_iald (kd := 100) (by decide +kernel) rfl R_159 f_165 f_90 (fx_k (c := 100) R_159 (by decide +kernel)) (fx_x (a := 70) (ln := 20) R_159 (by decide +kernel) g_115) fun v_166 f_167 => ?_
    have f_168 := q_is_eq f_167 e_170
    refine go_iconst (n := 1) (z := 1) (by decide +kernel) (by decide) fun v_171 f_172 => ?_
    refine go_iadd (by decide +kernel) f_168 f_172 fun v_173 f_174 => ?_
    obtain ⟨m_175, e_176, h⟩ := up_s h
    refine go_iast (kd := 100) (by decide +kernel) rfl R_159 f_165 f_90 f_174 (fx_k (c := 100) R_159 (by decide +kernel)) (fx_x (a := 70) (ln := 20) R_159 (by decide +kernel) g_115) e_176 (fx_a R_159.2 (fx_k (c := 100) R_159 (by decide +kernel)) (And.left (fx_x (a := 70) (ln := 20) R_159 (by decide +kernel) g_115)) (by decide +kernel)) fun S_177 R_178 E_179 => ?_
    have E_181 := Ext.tr E_162 E_179
    refine go_aload_n (n := 0) (by decide +kernel) l_127 f0 ?_
    refine go_getf (x := 13) (ci := 13) (kf := 2) (fin := 1) (t := 2) (by decide +kernel) (by decide +kernel) (by decide +kernel) R_178 f0 (fx_k (c := 13) R_178 (by decide +kernel)) fun v_182 f_183 => ?_
    have f_184 := q_is_eq (b := 70) f_183 (fx_v R_178 (by decide +kernel)).symm
    refine go_iload (n := 7) (by decide +kernel) l_131 f_90 ?_
    obtain ⟨x_188, e_189, h⟩ := lx_s h
    refine go_iald (kd := 100) (by decide +kernel) rfl R_178 f_184 f_90 (fx_k (c := 100) R_178 (by decide +kernel)) (fx_x (a := 70) (ln := 20) R_178 (by decide +kernel) g_115) fun v_185 f_186 => ?_
    have f_187 := q_is_eq f_186 e_189
    cases h
    exact go_iret (by decide +kernel) rfl (Or.inl rfl) f_187 (hQ E_181 _ _ R_178 (q_out_v (by decide) f_187))
  · have h := it_f hp_79 h
    refine go_iconst (n := 0) (z := 0) (by decide +kernel) (by decide) fun v_190 f_191 => ?_
    cases h
    exact go_iret (by decide +kernel) rfl (Or.inl rfl) f_191 (hQ E_78 _ _ R_73 (q_out_v (by decide) f_191))
noncomputable def fj_X12_line_55 (y1 y2 y3 y4 y5 s0 : Int) (m : MM) : Option (Int × MM) := if y5 = 0 then
fj_X12_line_96 y1 y2 y3 y4 1 m
else
if s0 = 0 then
fj_X12_line_96 y1 y2 y3 y4 2 m
else
gd (0 ≤ w32 ((w32 (5 * y1)) + 4) ∧ w32 ((w32 (5 * y1)) + 4) < 20) <| lx (m 70 (w32 ((w32 (5 * y1)) + 4))) fun x_60 =>
if x_60 = 24 then
fj_X12_line_96 y1 y2 y3 y4 3 m
else
fj_X12_line_96 y1 y2 y3 y4 0 m
set_option maxHeartbeats 4000000 in
theorem oj_X12_line_55 {xs : List Int32} {d : Nat} {S : QS} {L : QL} {Q : QO → QS → Prop} {m : MM} {y1 y2 y3 y4 y5 s0 : Int} {v0 : Value} {v1 : Value} {v2 : Value} {v3 : Value} {v4 : Value} {v5 : Value} {w0 : Value}  {rz : Int} {rm : MM}
  (hd : 2 ≤ d) (R : Rp S m) (l0 : q_lo L 0 = some v0) (f0 : q_is 2 v0 68) (l1 : q_lo L 1 = some v1) (f1 : q_is 0 v1 y1) (l2 : q_lo L 2 = some v2) (f2 : q_is 0 v2 y2) (l3 : q_lo L 3 = some v3) (f3 : q_is 0 v3 y3) (l4 : q_lo L 4 = some v4) (f4 : q_is 0 v4 y4) (l5 : q_lo L 5 = some v5) (f5 : q_is 0 v5 y5) (fs0 : q_is 0 w0 s0)
  (hQ : Ext m rm → ∀ o S1, Rp S1 rm → q_out 0 o rz → Q o S1)
  (h : fj_X12_line_55 y1 y2 y3 y4 y5 s0 m = some (rz, rm)) : Go xs d qM_X12_line 55 L [w0] S Q := by
  unfold fj_X12_line_55 at h
  refine go_istore (n := 6) (by decide +kernel) (by decide +kernel) fs0 fun L_34 l_35 kp_36 => ?_
  have l_37 := kp_36 0 _ l0 (by decide) (Or.inl (by decide))
  have l_38 := kp_36 1 _ l1 (by decide) (Or.inl (by decide))
  have l_39 := kp_36 2 _ l2 (by decide) (Or.inl (by decide))
  have l_40 := kp_36 3 _ l3 (by decide) (Or.inl (by decide))
  have l_41 := kp_36 4 _ l4 (by decide) (Or.inl (by decide))
  have l_42 := kp_36 5 _ l5 (by decide) (Or.inr (q_is_cat f5 (Or.inl rfl)))
  refine go_aload_n (n := 0) (by decide +kernel) l_37 f0 ?_
  refine go_iload (n := 5) (by decide +kernel) l_42 f5 ?_
  refine go_if (c := .ne) (o := 7) (t := 67) (P := ¬ (y5 = 0)) (by decide +kernel) (by decide +kernel) f5 (Iff.rfl) (fun hp_43 => ?_) (fun hp_43 => ?_)
  · have h := it_f hp_43 h
    refine go_iload (n := 6) (by decide +kernel) l_35 fs0 ?_
    refine go_if (c := .ne) (o := 7) (t := 76) (P := ¬ (s0 = 0)) (by decide +kernel) (by decide +kernel) fs0 (Iff.rfl) (fun hp_44 => ?_) (fun hp_44 => ?_)
    · have h := it_f hp_44 h
      refine go_aload_n (n := 0) (by decide +kernel) l_37 f0 ?_
      refine go_getf (x := 13) (ci := 13) (kf := 2) (fin := 1) (t := 2) (by decide +kernel) (by decide +kernel) (by decide +kernel) R f0 (fx_k (c := 13) R (by decide +kernel)) fun v_45 f_46 => ?_
      have f_47 := q_is_eq (b := 70) f_46 (fx_v R (by decide +kernel)).symm
      refine go_iconst (n := 5) (z := 5) (by decide +kernel) (by decide) fun v_48 f_49 => ?_
      refine go_iload_n (n := 1) (by decide +kernel) l_38 f1 ?_
      refine go_imul (by decide +kernel) f_49 f1 fun v_50 f_51 => ?_
      refine go_iconst (n := 4) (z := 4) (by decide +kernel) (by decide) fun v_52 f_53 => ?_
      refine go_iadd (by decide +kernel) f_51 f_53 fun v_54 f_55 => ?_
      obtain ⟨g_58, h⟩ := gd_s h
      obtain ⟨x_60, e_61, h⟩ := lx_s h
      refine go_iald (kd := 100) (by decide +kernel) rfl R f_47 f_55 (fx_k (c := 100) R (by decide +kernel)) (fx_x (a := 70) (ln := 20) R (by decide +kernel) g_58) fun v_56 f_57 => ?_
      have f_59 := q_is_eq f_57 e_61
      refine go_bipush (n := 24) (z := 24) (by decide +kernel) (by decide) fun v_62 f_63 => ?_
      refine go_icmp (c := .ne) (o := 7) (t := 95) (P := ¬ (x_60 = 24)) (by decide +kernel) (by decide +kernel) f_59 f_63 (Iff.rfl) (fun hp_64 => ?_) (fun hp_64 => ?_)
      · have h := it_f hp_64 h
        refine go_iconst (n := 0) (z := 0) (by decide +kernel) (by decide) fun v_65 f_66 => ?_
        exact oj_X12_line_96 hd R l_37 f0 l_38 f1 l_39 f2 l_40 f3 l_41 f4 f_66 f0 hQ h
      · have h := it_n hp_64 h
        refine go_iconst (n := 3) (z := 3) (by decide +kernel) (by decide) fun v_192 f_193 => ?_
        refine go_goto (o := 4) (t := 96) (by decide +kernel) (by decide +kernel) ?_
        exact oj_X12_line_96 hd R l_37 f0 l_38 f1 l_39 f2 l_40 f3 l_41 f4 f_193 f0 hQ h
    · have h := it_n hp_44 h
      refine go_iconst (n := 2) (z := 2) (by decide +kernel) (by decide) fun v_194 f_195 => ?_
      refine go_goto (o := 23) (t := 96) (by decide +kernel) (by decide +kernel) ?_
      exact oj_X12_line_96 hd R l_37 f0 l_38 f1 l_39 f2 l_40 f3 l_41 f4 f_195 f0 hQ h
  · have h := it_n hp_43 h
    refine go_iconst (n := 1) (z := 1) (by decide +kernel) (by decide) fun v_196 f_197 => ?_
    refine go_goto (o := 32) (t := 96) (by decide +kernel) (by decide +kernel) ?_
    exact oj_X12_line_96 hd R l_37 f0 l_38 f1 l_39 f2 l_40 f3 l_41 f4 f_197 f0 hQ h
noncomputable def fj_X12_line_27 (y1 y2 y3 y4 y5 s0 s1 : Int) (m : MM) : Option (Int × MM) := bp (fm_X12_mostA y2 m) fun x_204 =>
bp (fm_X12_isIn s1 s0 x_204 m) fun x_213 =>
if x_213 = 0 then
fj_X12_line_55 y1 y2 y3 y4 y5 0 m
else
bp (fm_X12_mostB y2 m) fun x_227 =>
bp (fm_X12_isIn y4 0 x_227 m) fun x_236 =>
if x_236 = 0 then
fj_X12_line_55 y1 y2 y3 y4 y5 0 m
else
fj_X12_line_55 y1 y2 y3 y4 y5 1 m
set_option maxHeartbeats 4000000 in
theorem oj_X12_line_27 {xs : List Int32} {d : Nat} {S : QS} {L : QL} {Q : QO → QS → Prop} {m : MM} {y1 y2 y3 y4 y5 s0 s1 : Int} {v0 : Value} {v1 : Value} {v2 : Value} {v3 : Value} {v4 : Value} {v5 : Value} {w0 : Value} {w1 : Value}  {rz : Int} {rm : MM}
  (hd : 2 ≤ d) (R : Rp S m) (l0 : q_lo L 0 = some v0) (f0 : q_is 2 v0 68) (l1 : q_lo L 1 = some v1) (f1 : q_is 0 v1 y1) (l2 : q_lo L 2 = some v2) (f2 : q_is 0 v2 y2) (l3 : q_lo L 3 = some v3) (f3 : q_is 0 v3 y3) (l4 : q_lo L 4 = some v4) (f4 : q_is 0 v4 y4) (l5 : q_lo L 5 = some v5) (f5 : q_is 0 v5 y5) (fs0 : q_is 0 w0 s0) (fs1 : q_is 0 w1 s1)
  (hQ : Ext m rm → ∀ o S1, Rp S1 rm → q_out 0 o rz → Q o S1)
  (h : fj_X12_line_27 y1 y2 y3 y4 y5 s0 s1 m = some (rz, rm)) : Go xs d qM_X12_line 27 L [w0, w1] S Q := by
  unfold fj_X12_line_27 at h
  refine go_iload_n (n := 2) (by decide +kernel) l2 f2 ?_
  obtain ⟨x_204, hc_203, h⟩ := bp_s h
  refine go_callS (x := 317) (mi := 197) (n := 1) (b := 0) (as := [v2]) (rest := [w0, w1]) (by decide +kernel) (by decide +kernel) rfl rfl (q_sum8 _ (Nat.le_of_ble_eq_true rfl)) (om_X12_mostA (Nat.le_trans (by decide) hd) R f2 hc_203) (fun _ S_208 q_211 => ?_) (fun _ _ qq => kr_x qq)
  refine kr_z (by decide) q_211 fun v_206 f_207 R_209 E_210 => ?_
  obtain ⟨x_213, hc_212, h⟩ := bp_s h
  refine go_callS (x := 306) (mi := 188) (n := 3) (b := 0) (as := [w1, w0, v_206]) (rest := []) (by decide +kernel) (by decide +kernel) rfl rfl (q_sum8 _ (Nat.le_of_ble_eq_true rfl)) (om_X12_isIn (Nat.le_trans (by decide) hd) R_209 fs1 fs0 f_207 hc_212) (fun _ S_217 q_220 => ?_) (fun _ _ qq => kr_x qq)
  refine kr_z (by decide) q_220 fun v_215 f_216 R_218 E_219 => ?_
  refine go_if (c := .eq) (o := 20) (t := 54) (P := x_213 = 0) (by decide +kernel) (by decide +kernel) f_216 (Iff.rfl) (fun hp_221 => ?_) (fun hp_221 => ?_)
  · have h := it_t hp_221 h
    refine go_iconst (n := 0) (z := 0) (by decide +kernel) (by decide) fun v_222 f_223 => ?_
    exact oj_X12_line_55 hd R_218 l0 f0 l1 f1 l2 f2 l3 f3 l4 f4 l5 f5 f_223 hQ h
  · have h := it_f hp_221 h
    refine go_iload (n := 4) (by decide +kernel) l4 f4 ?_
    refine go_iconst (n := 0) (z := 0) (by decide +kernel) (by decide) fun v_224 f_225 => ?_
    refine go_iload_n (n := 2) (by decide +kernel) l2 f2 ?_
    obtain ⟨x_227, hc_226, h⟩ := bp_s h
    refine go_callS (x := 321) (mi := 198) (n := 1) (b := 0) (as := [v2]) (rest := [v_224, v4]) (by decide +kernel) (by decide +kernel) rfl rfl (q_sum8 _ (Nat.le_of_ble_eq_true rfl)) (om_X12_mostB (Nat.le_trans (by decide) hd) R_218 f2 hc_226) (fun _ S_231 q_234 => ?_) (fun _ _ qq => kr_x qq)
    refine kr_z (by decide) q_234 fun v_229 f_230 R_232 E_233 => ?_
    obtain ⟨x_236, hc_235, h⟩ := bp_s h
    refine go_callS (x := 306) (mi := 188) (n := 3) (b := 0) (as := [v4, v_224, v_229]) (rest := []) (by decide +kernel) (by decide +kernel) rfl rfl (q_sum8 _ (Nat.le_of_ble_eq_true rfl)) (om_X12_isIn (Nat.le_trans (by decide) hd) R_232 f4 f_225 f_230 hc_235) (fun _ S_240 q_243 => ?_) (fun _ _ qq => kr_x qq)
    refine kr_z (by decide) q_243 fun v_238 f_239 R_241 E_242 => ?_
    refine go_if (c := .eq) (o := 7) (t := 54) (P := x_236 = 0) (by decide +kernel) (by decide +kernel) f_239 (Iff.rfl) (fun hp_244 => ?_) (fun hp_244 => ?_)
    · have h := it_t hp_244 h
      refine go_iconst (n := 0) (z := 0) (by decide +kernel) (by decide) fun v_245 f_246 => ?_
      exact oj_X12_line_55 hd R_241 l0 f0 l1 f1 l2 f2 l3 f3 l4 f4 l5 f5 f_246 hQ h
    · have h := it_f hp_244 h
      refine go_iconst (n := 1) (z := 1) (by decide +kernel) (by decide) fun v_247 f_248 => ?_
      refine go_goto (o := 4) (t := 55) (by decide +kernel) (by decide +kernel) ?_
      exact oj_X12_line_55 hd R_241 l0 f0 l1 f1 l2 f2 l3 f3 l4 f4 l5 f5 f_248 hQ h
noncomputable def fm_X12_line (p1 p2 p3 p4 : Int) (m0 : MM) : Option (Int × MM) := bp (fm_X12_isType p1 m0) fun x_2 =>
bp (fm_X12_isIn p2 0 23 m0) fun x_23 =>
if x_23 = 0 then
fj_X12_line_55 p1 p2 p3 p4 x_2 0 m0
else
if p2 = 3 then
fj_X12_line_27 p1 p2 p3 p4 x_2 1 p3 m0
else
fj_X12_line_27 p1 p2 p3 p4 x_2 0 p3 m0
set_option maxHeartbeats 4000000 in
theorem om_X12_line {xs : List Int32} {d : Nat} {S : QS} {m0 : MM} {p1 p2 p3 p4 : Int} {v0 : Value} {v1 : Value} {v2 : Value} {v3 : Value} {v4 : Value} {rz : Int} {rm : MM}
  (hd : 3 ≤ d) (R : Rp S m0) (f0 : q_is 2 v0 68) (f1 : q_is 0 v1 p1) (f2 : q_is 0 v2 p2) (f3 : q_is 0 v3 p3) (f4 : q_is 0 v4 p4)
  (h : fm_X12_line p1 p2 p3 p4 m0 = some (rz, rm)) : Mt xs d 199 [v0, v1, v2, v3, v4] S (Cr 0 m0 rm rz) := by
  obtain ⟨d, rfl⟩ : ∃ e, d = e + 1 := ⟨d - 1, by omega⟩
  have hd : 2 ≤ d := Nat.le_of_succ_le_succ hd
  refine Mt.of (M := qM_X12_line) rfl (by rw [sl_1 (q_is_cat f0 (Or.inr rfl)), sl_1 (q_is_cat f1 (Or.inl rfl)), sl_1 (q_is_cat f2 (Or.inl rfl)), sl_1 (q_is_cat f3 (Or.inl rfl)), sl_1 (q_is_cat f4 (Or.inl rfl)), sl_0]; decide) ?_
  rw [la_1 (q_is_cat f0 (Or.inr rfl)), la_1 (q_is_cat f1 (Or.inl rfl)), la_1 (q_is_cat f2 (Or.inl rfl)), la_1 (q_is_cat f3 (Or.inl rfl)), la_1 (q_is_cat f4 (Or.inl rfl)), la_0]
  obtain ⟨L, hL⟩ : ∃ L : QL, L = [(0, v0), (0 + 1, v1), (0 + 1 + 1, v2), (0 + 1 + 1 + 1, v3), (0 + 1 + 1 + 1 + 1, v4)] := ⟨_, rfl⟩
  rw [← hL]
  have l0 : q_lo L 0 = some v0 := by rw [hL]; rfl
  have l1 : q_lo L 1 = some v1 := by rw [hL]; rfl
  have l2 : q_lo L 2 = some v2 := by rw [hL]; rfl
  have l3 : q_lo L 3 = some v3 := by rw [hL]; rfl
  have l4 : q_lo L 4 = some v4 := by rw [hL]; rfl
  have hQ : Ext m0 rm → ∀ o S1, Rp S1 rm → q_out 0 o rz → (Cr 0 m0 rm rz) o S1 := fun a o S1 b e => ⟨b, a, e⟩
  unfold fm_X12_line at h
  refine go_iload_n (n := 1) (by decide +kernel) l1 f1 ?_
  obtain ⟨x_2, hc_1, h⟩ := bp_s h
  refine go_callS (x := 313) (mi := 191) (n := 1) (b := 0) (as := [v1]) (rest := []) (by decide +kernel) (by decide +kernel) rfl rfl (q_sum8 _ (Nat.le_of_ble_eq_true rfl)) (om_X12_isType (Nat.le_trans (by decide) hd) R f1 hc_1) (fun _ S_6 q_9 => ?_) (fun _ _ qq => kr_x qq)
  refine kr_z (by decide) q_9 fun v_4 f_5 R_7 E_8 => ?_
  refine go_istore (n := 5) (by decide +kernel) (by decide +kernel) f_5 fun L_10 l_11 kp_12 => ?_
  have l_13 := kp_12 0 _ l0 (by decide) (Or.inl (by decide))
  have l_14 := kp_12 1 _ l1 (by decide) (Or.inl (by decide))
  have l_15 := kp_12 2 _ l2 (by decide) (Or.inl (by decide))
  have l_16 := kp_12 3 _ l3 (by decide) (Or.inl (by decide))
  have l_17 := kp_12 4 _ l4 (by decide) (Or.inr (q_is_cat f4 (Or.inl rfl)))
  refine go_iload_n (n := 2) (by decide +kernel) l_15 f2 ?_
  refine go_iconst (n := 0) (z := 0) (by decide +kernel) (by decide) fun v_18 f_19 => ?_
  refine go_bipush (n := 23) (z := 23) (by decide +kernel) (by decide) fun v_20 f_21 => ?_
  obtain ⟨x_23, hc_22, h⟩ := bp_s h
  refine go_callS (x := 306) (mi := 188) (n := 3) (b := 0) (as := [v2, v_18, v_20]) (rest := []) (by decide +kernel) (by decide +kernel) rfl rfl (q_sum8 _ (Nat.le_of_ble_eq_true rfl)) (om_X12_isIn (Nat.le_trans (by decide) hd) R_7 f2 f_19 f_21 hc_22) (fun _ S_27 q_30 => ?_) (fun _ _ qq => kr_x qq)
  refine kr_z (by decide) q_30 fun v_25 f_26 R_28 E_29 => ?_
  refine go_if (c := .eq) (o := 41) (t := 54) (P := x_23 = 0) (by decide +kernel) (by decide +kernel) f_26 (Iff.rfl) (fun hp_31 => ?_) (fun hp_31 => ?_)
  · have h := it_t hp_31 h
    refine go_iconst (n := 0) (z := 0) (by decide +kernel) (by decide) fun v_32 f_33 => ?_
    exact oj_X12_line_55 hd R_28 l_13 f0 l_14 f1 l_15 f2 l_16 f3 l_17 f4 l_11 f_5 f_33 hQ h
  · have h := it_f hp_31 h
    refine go_iload_n (n := 3) (by decide +kernel) l_16 f3 ?_
    refine go_iload_n (n := 2) (by decide +kernel) l_15 f2 ?_
    refine go_iconst (n := 3) (z := 3) (by decide +kernel) (by decide) fun v_198 f_199 => ?_
    refine go_icmp (c := .ne) (o := 7) (t := 26) (P := ¬ (p2 = 3)) (by decide +kernel) (by decide +kernel) f2 f_199 (Iff.rfl) (fun hp_200 => ?_) (fun hp_200 => ?_)
    · have h := it_f hp_200 h
      refine go_iconst (n := 0) (z := 0) (by decide +kernel) (by decide) fun v_201 f_202 => ?_
      exact oj_X12_line_27 hd R_28 l_13 f0 l_14 f1 l_15 f2 l_16 f3 l_17 f4 l_11 f_5 f_202 f3 hQ h
    · have h := it_n hp_200 h
      refine go_iconst (n := 1) (z := 1) (by decide +kernel) (by decide) fun v_249 f_250 => ?_
      refine go_goto (o := 4) (t := 27) (by decide +kernel) (by decide +kernel) ?_
      exact oj_X12_line_27 hd R_28 l_13 f0 l_14 f1 l_15 f2 l_16 f3 l_17 f4 l_11 f_5 f_250 f3 hQ h
end DF24
