/-! Methods as functions (written by wip/whole/dec.py), 48: L_deploy, L_setKind, L_setPolicy, L_begin, L_signal, L_update, L_cancel, L_query, L_plain, L_standing, L_event, L_difference, L_setRate. -/
section DF48
noncomputable def fm_L_deploy (p1 : Int) (m0 : MM) : Option (Int × MM) := bx (fm_X11_deploy p1 m0) (fun q_12 m_5 =>
if q_12 = 0 then
some (1, m_5)
else if q_12 = 2 then
some (2, m_5)
else none) fun x_4 m_5 =>
up m_5 162 0 x_4 fun m_33 =>
some (0, m_33)
set_option maxHeartbeats 4000000 in
theorem om_L_deploy {xs : List Int32} {d : Nat} {S : QS} {m0 : MM} {p1 : Int} {v0 : Value} {v1 : Value} {v2 : Value} {rz : Int} {rm : MM}
  (hd : 11 ≤ d) (R : Rp S m0) (f0 : q_is 2 v0 4) (f1 : q_is 0 v1 p1) (f2 : q_is 2 v2 162)
  (h : fm_L_deploy p1 m0 = some (rz, rm)) : Mt xs d 341 [v0, v1, v2] S (Cr 0 m0 rm rz) := by
  obtain ⟨d, rfl⟩ : ∃ e, d = e + 1 := ⟨d - 1, by omega⟩
  have hd : 10 ≤ d := Nat.le_of_succ_le_succ hd
  refine Mt.of (M := qM_L_deploy) rfl (by rw [sl_1 (q_is_cat f0 (Or.inr rfl)), sl_1 (q_is_cat f1 (Or.inl rfl)), sl_1 (q_is_cat f2 (Or.inr rfl)), sl_0]; decide) ?_
  rw [la_1 (q_is_cat f0 (Or.inr rfl)), la_1 (q_is_cat f1 (Or.inl rfl)), la_1 (q_is_cat f2 (Or.inr rfl)), la_0]
  obtain ⟨L, hL⟩ : ∃ L : QL, L = [(0, v0), (0 + 1, v1), (0 + 1 + 1, v2)] := ⟨_, rfl⟩
  rw [← hL]
  have l0 : q_lo L 0 = some v0 := by rw [hL]; rfl
  have l1 : q_lo L 1 = some v1 := by rw [hL]; rfl
  have l2 : q_lo L 2 = some v2 := by rw [hL]; rfl
  have hQ : Ext m0 rm → ∀ o S1, Rp S1 rm → q_out 0 o rz → (Cr 0 m0 rm rz) o S1 := fun a o S1 b e => ⟨b, a, e⟩
  unfold fm_L_deploy at h
  refine go_aload_n (n := 2) (by decide +kernel) l2 f2 ?_
  refine go_iconst (n := 0) (z := 0) (by decide +kernel) (by decide) fun v_1 f_2 => ?_
  refine go_aload_n (n := 0) (by decide +kernel) l0 f0 ?_
  refine go_iload_n (n := 1) (by decide +kernel) l1 f1 ?_
  obtain ⟨rr5, m_5, hc_3, h⟩ := bx_s h
  rcases h with ⟨q_12, rfl, h⟩ | ⟨x_4, rfl, h⟩
  · refine go_callV (x := 19) (mi := 101) (n := 1) (ci := 12) (as := [v1]) (rest := [v_1, v2]) (by decide +kernel) (by decide +kernel) rfl rfl (q_sum8 _ (Nat.le_of_ble_eq_true rfl)) R f0 (fx_k (c := 12) R (by decide +kernel)) (om_X11_deploy (Nat.le_trans (by decide) hd) R f0 f1 hc_3) (fun _ _ qq => kx_lx qq) (fun _ _ qq => ?_)
    obtain ⟨rfl, Rq, Eq⟩ := kx_e qq
    by_cases hp_14 : q_12 = 0
    · have h := it_t hp_14 h
      subst hp_14
      refine Or.inr ⟨by decide, _, _, q_hand_k (n := 3) (h := (0, 9, 12, 13)) (by decide +kernel) (by decide +kernel) (by decide), ?_⟩
      refine go_iconst (n := 1) (z := 1) (by decide +kernel) (by decide) fun v_19 f_20 => ?_
      cases h
      exact go_iret (by decide +kernel) rfl (Or.inl rfl) f_20 (hQ Eq _ _ Rq (q_out_v (by decide) f_20))
    have h := it_f hp_14 h
    by_cases hp_21 : q_12 = 2
    · have h := it_t hp_21 h
      subst hp_21
      refine Or.inr ⟨by decide, _, _, q_hand_k (n := 3) (h := (0, 9, 15, 17)) (by decide +kernel) (by decide +kernel) (by decide), ?_⟩
      refine go_iconst (n := 2) (z := 2) (by decide +kernel) (by decide) fun v_26 f_27 => ?_
      cases h
      exact go_iret (by decide +kernel) rfl (Or.inl rfl) f_27 (hQ Eq _ _ Rq (q_out_v (by decide) f_27))
    have h := it_f hp_21 h
    cases h
  refine go_callV (x := 19) (mi := 101) (n := 1) (ci := 12) (as := [v1]) (rest := [v_1, v2]) (by decide +kernel) (by decide +kernel) rfl rfl (q_sum8 _ (Nat.le_of_ble_eq_true rfl)) R f0 (fx_k (c := 12) R (by decide +kernel)) (om_X11_deploy (Nat.le_trans (by decide) hd) R f0 f1 hc_3) (fun _ S_8 q_11 => ?_) (fun _ _ qq => kr_x (kx_l qq))
  have q_11 := kx_l q_11
  refine kr_z (by decide) q_11 fun v_6 f_7 R_9 E_10 => ?_
  have E_30 := E_10
  refine go_i2l (by decide +kernel) f_7 fun v_31 f_32 => ?_
  obtain ⟨m_33, e_34, h⟩ := up_s h
  refine go_last (kd := 101) (by decide +kernel) rfl R_9 f2 f_2 f_32 (fx_k (c := 101) R_9 (by decide +kernel)) (fx_x (a := 162) (ln := 1) R_9 (by decide +kernel) (by decide)) e_34 (fx_a R_9.2 (fx_k (c := 101) R_9 (by decide +kernel)) (And.left (fx_x (a := 162) (ln := 1) R_9 (by decide +kernel) (by decide))) (by decide +kernel)) fun S_35 R_36 E_37 => ?_
  have E_39 := Ext.tr E_30 E_37
  refine go_goto (o := 9) (t := 18) (by decide +kernel) (by decide +kernel) ?_
  refine go_iconst (n := 0) (z := 0) (by decide +kernel) (by decide) fun v_40 f_41 => ?_
  cases h
  exact go_iret (by decide +kernel) rfl (Or.inl rfl) f_41 (hQ E_39 _ _ R_36 (q_out_v (by decide) f_41))
noncomputable def fm_L_setKind (p1 p2 p3 p4 p5 p6 : Int) (m0 : MM) : Option (Int × MM) := bx (fm_X11_setKind p1 p2 p3 p4 p5 p6 m0) (fun q_10 m_3 =>
if q_10 = 0 then
some (1, m_3)
else if q_10 = 1 then
some (2, m_3)
else none) fun x_2 m_3 =>
some (0, m_3)
set_option maxHeartbeats 4000000 in
theorem om_L_setKind {xs : List Int32} {d : Nat} {S : QS} {m0 : MM} {p1 p2 p3 p4 p5 p6 : Int} {v0 : Value} {v1 : Value} {v2 : Value} {v3 : Value} {v4 : Value} {v5 : Value} {v6 : Value} {rz : Int} {rm : MM}
  (hd : 3 ≤ d) (R : Rp S m0) (f0 : q_is 2 v0 4) (f1 : q_is 0 v1 p1) (f2 : q_is 0 v2 p2) (f3 : q_is 0 v3 p3) (f4 : q_is 0 v4 p4) (f5 : q_is 0 v5 p5) (f6 : q_is 0 v6 p6)
  (h : fm_L_setKind p1 p2 p3 p4 p5 p6 m0 = some (rz, rm)) : Mt xs d 342 [v0, v1, v2, v3, v4, v5, v6] S (Cr 0 m0 rm rz) := by
  obtain ⟨d, rfl⟩ : ∃ e, d = e + 1 := ⟨d - 1, by omega⟩
  have hd : 2 ≤ d := Nat.le_of_succ_le_succ hd
  refine Mt.of (M := qM_L_setKind) rfl (by rw [sl_1 (q_is_cat f0 (Or.inr rfl)), sl_1 (q_is_cat f1 (Or.inl rfl)), sl_1 (q_is_cat f2 (Or.inl rfl)), sl_1 (q_is_cat f3 (Or.inl rfl)), sl_1 (q_is_cat f4 (Or.inl rfl)), sl_1 (q_is_cat f5 (Or.inl rfl)), sl_1 (q_is_cat f6 (Or.inl rfl)), sl_0]; decide) ?_
  rw [la_1 (q_is_cat f0 (Or.inr rfl)), la_1 (q_is_cat f1 (Or.inl rfl)), la_1 (q_is_cat f2 (Or.inl rfl)), la_1 (q_is_cat f3 (Or.inl rfl)), la_1 (q_is_cat f4 (Or.inl rfl)), la_1 (q_is_cat f5 (Or.inl rfl)), la_1 (q_is_cat f6 (Or.inl rfl)), la_0]
  obtain ⟨L, hL⟩ : ∃ L : QL, L = [(0, v0), (0 + 1, v1), (0 + 1 + 1, v2), (0 + 1 + 1 + 1, v3), (0 + 1 + 1 + 1 + 1, v4), (0 + 1 + 1 + 1 + 1 + 1, v5), (0 + 1 + 1 + 1 + 1 + 1 + 1, v6)] := ⟨_, rfl⟩
  rw [← hL]
  have l0 : q_lo L 0 = some v0 := by rw [hL]; rfl
  have l1 : q_lo L 1 = some v1 := by rw [hL]; rfl
  have l2 : q_lo L 2 = some v2 := by rw [hL]; rfl
  have l3 : q_lo L 3 = some v3 := by rw [hL]; rfl
  have l4 : q_lo L 4 = some v4 := by rw [hL]; rfl
  have l5 : q_lo L 5 = some v5 := by rw [hL]; rfl
  have l6 : q_lo L 6 = some v6 := by rw [hL]; rfl
  have hQ : Ext m0 rm → ∀ o S1, Rp S1 rm → q_out 0 o rz → (Cr 0 m0 rm rz) o S1 := fun a o S1 b e => ⟨b, a, e⟩
  unfold fm_L_setKind at h
  refine go_aload_n (n := 0) (by decide +kernel) l0 f0 ?_
  refine go_iload_n (n := 1) (by decide +kernel) l1 f1 ?_
  refine go_iload_n (n := 2) (by decide +kernel) l2 f2 ?_
  refine go_iload_n (n := 3) (by decide +kernel) l3 f3 ?_
  refine go_iload (n := 4) (by decide +kernel) l4 f4 ?_
  refine go_iload (n := 5) (by decide +kernel) l5 f5 ?_
  refine go_iload (n := 6) (by decide +kernel) l6 f6 ?_
  obtain ⟨rr5, m_3, hc_1, h⟩ := bx_s h
  rcases h with ⟨q_10, rfl, h⟩ | ⟨x_2, rfl, h⟩
  · refine go_callV (x := 23) (mi := 102) (n := 6) (ci := 12) (as := [v1, v2, v3, v4, v5, v6]) (rest := []) (by decide +kernel) (by decide +kernel) rfl rfl (q_sum8 _ (Nat.le_of_ble_eq_true rfl)) R f0 (fx_k (c := 12) R (by decide +kernel)) (om_X11_setKind (Nat.le_trans (by decide) hd) R f0 f1 f2 f3 f4 f5 f6 hc_1) (fun _ _ qq => kx_lx qq) (fun _ _ qq => ?_)
    obtain ⟨rfl, Rq, Eq⟩ := kx_e qq
    by_cases hp_12 : q_10 = 0
    · have h := it_t hp_12 h
      subst hp_12
      refine Or.inr ⟨by decide, _, _, q_hand_n (n := 7) (h := (0, 13, 16, 13)) (by decide +kernel) (by decide +kernel) (by decide), ?_⟩
      refine go_iconst (n := 1) (z := 1) (by decide +kernel) (by decide) fun v_17 f_18 => ?_
      cases h
      exact go_iret (by decide +kernel) rfl (Or.inl rfl) f_18 (hQ Eq _ _ Rq (q_out_v (by decide) f_18))
    have h := it_f hp_12 h
    by_cases hp_19 : q_10 = 1
    · have h := it_t hp_19 h
      subst hp_19
      refine Or.inr ⟨by decide, _, _, q_hand_n (n := 7) (h := (0, 13, 20, 15)) (by decide +kernel) (by decide +kernel) (by decide), ?_⟩
      refine go_iconst (n := 2) (z := 2) (by decide +kernel) (by decide) fun v_24 f_25 => ?_
      cases h
      exact go_iret (by decide +kernel) rfl (Or.inl rfl) f_25 (hQ Eq _ _ Rq (q_out_v (by decide) f_25))
    have h := it_f hp_19 h
    cases h
  refine go_callV (x := 23) (mi := 102) (n := 6) (ci := 12) (as := [v1, v2, v3, v4, v5, v6]) (rest := []) (by decide +kernel) (by decide +kernel) rfl rfl (q_sum8 _ (Nat.le_of_ble_eq_true rfl)) R f0 (fx_k (c := 12) R (by decide +kernel)) (om_X11_setKind (Nat.le_trans (by decide) hd) R f0 f1 f2 f3 f4 f5 f6 hc_1) (fun _ S_6 q_9 => ?_) (fun _ _ qq => kr_x (kx_l qq))
  have q_9 := kx_l q_9
  refine kr_v q_9 fun R_7 E_8 => ?_
  have E_28 := E_8
  refine go_goto (o := 11) (t := 24) (by decide +kernel) (by decide +kernel) ?_
  refine go_iconst (n := 0) (z := 0) (by decide +kernel) (by decide) fun v_29 f_30 => ?_
  cases h
  exact go_iret (by decide +kernel) rfl (Or.inl rfl) f_30 (hQ E_28 _ _ R_7 (q_out_v (by decide) f_30))
noncomputable def fm_L_setPolicy (p1 p2 : Int) (m0 : MM) : Option (Int × MM) := bx (fm_X11_setPolicy p1 p2 m0) (fun q_12 m_5 =>
if q_12 = 0 then
some (1, m_5)
else if q_12 = 1 then
some (2, m_5)
else none) fun x_4 m_5 =>
up m_5 162 0 x_4 fun m_33 =>
some (0, m_33)
set_option maxHeartbeats 4000000 in
theorem om_L_setPolicy {xs : List Int32} {d : Nat} {S : QS} {m0 : MM} {p1 p2 : Int} {v0 : Value} {v1 : Value} {v2 : Value} {v3 : Value} {rz : Int} {rm : MM}
  (hd : 3 ≤ d) (R : Rp S m0) (f0 : q_is 2 v0 4) (f1 : q_is 0 v1 p1) (f2 : q_is 0 v2 p2) (f3 : q_is 2 v3 162)
  (h : fm_L_setPolicy p1 p2 m0 = some (rz, rm)) : Mt xs d 343 [v0, v1, v2, v3] S (Cr 0 m0 rm rz) := by
  obtain ⟨d, rfl⟩ : ∃ e, d = e + 1 := ⟨d - 1, by omega⟩
  have hd : 2 ≤ d := Nat.le_of_succ_le_succ hd
  refine Mt.of (M := qM_L_setPolicy) rfl (by rw [sl_1 (q_is_cat f0 (Or.inr rfl)), sl_1 (q_is_cat f1 (Or.inl rfl)), sl_1 (q_is_cat f2 (Or.inl rfl)), sl_1 (q_is_cat f3 (Or.inr rfl)), sl_0]; decide) ?_
  rw [la_1 (q_is_cat f0 (Or.inr rfl)), la_1 (q_is_cat f1 (Or.inl rfl)), la_1 (q_is_cat f2 (Or.inl rfl)), la_1 (q_is_cat f3 (Or.inr rfl)), la_0]
  obtain ⟨L, hL⟩ : ∃ L : QL, L = [(0, v0), (0 + 1, v1), (0 + 1 + 1, v2), (0 + 1 + 1 + 1, v3)] := ⟨_, rfl⟩
  rw [← hL]
  have l0 : q_lo L 0 = some v0 := by rw [hL]; rfl
  have l1 : q_lo L 1 = some v1 := by rw [hL]; rfl
  have l2 : q_lo L 2 = some v2 := by rw [hL]; rfl
  have l3 : q_lo L 3 = some v3 := by rw [hL]; rfl
  have hQ : Ext m0 rm → ∀ o S1, Rp S1 rm → q_out 0 o rz → (Cr 0 m0 rm rz) o S1 := fun a o S1 b e => ⟨b, a, e⟩
  unfold fm_L_setPolicy at h
  refine go_aload_n (n := 3) (by decide +kernel) l3 f3 ?_
  refine go_iconst (n := 0) (z := 0) (by decide +kernel) (by decide) fun v_1 f_2 => ?_
  refine go_aload_n (n := 0) (by decide +kernel) l0 f0 ?_
  refine go_iload_n (n := 1) (by decide +kernel) l1 f1 ?_
  refine go_iload_n (n := 2) (by decide +kernel) l2 f2 ?_
  obtain ⟨rr5, m_5, hc_3, h⟩ := bx_s h
  rcases h with ⟨q_12, rfl, h⟩ | ⟨x_4, rfl, h⟩
  · refine go_callV (x := 27) (mi := 103) (n := 2) (ci := 12) (as := [v1, v2]) (rest := [v_1, v3]) (by decide +kernel) (by decide +kernel) rfl rfl (q_sum8 _ (Nat.le_of_ble_eq_true rfl)) R f0 (fx_k (c := 12) R (by decide +kernel)) (om_X11_setPolicy (Nat.le_trans (by decide) hd) R f0 f1 f2 hc_3) (fun _ _ qq => kx_lx qq) (fun _ _ qq => ?_)
    obtain ⟨rfl, Rq, Eq⟩ := kx_e qq
    by_cases hp_14 : q_12 = 0
    · have h := it_t hp_14 h
      subst hp_14
      refine Or.inr ⟨by decide, _, _, q_hand_n (n := 4) (h := (0, 10, 13, 13)) (by decide +kernel) (by decide +kernel) (by decide), ?_⟩
      refine go_iconst (n := 1) (z := 1) (by decide +kernel) (by decide) fun v_19 f_20 => ?_
      cases h
      exact go_iret (by decide +kernel) rfl (Or.inl rfl) f_20 (hQ Eq _ _ Rq (q_out_v (by decide) f_20))
    have h := it_f hp_14 h
    by_cases hp_21 : q_12 = 1
    · have h := it_t hp_21 h
      subst hp_21
      refine Or.inr ⟨by decide, _, _, q_hand_n (n := 4) (h := (0, 10, 17, 15)) (by decide +kernel) (by decide +kernel) (by decide), ?_⟩
      refine go_iconst (n := 2) (z := 2) (by decide +kernel) (by decide) fun v_26 f_27 => ?_
      cases h
      exact go_iret (by decide +kernel) rfl (Or.inl rfl) f_27 (hQ Eq _ _ Rq (q_out_v (by decide) f_27))
    have h := it_f hp_21 h
    cases h
  refine go_callV (x := 27) (mi := 103) (n := 2) (ci := 12) (as := [v1, v2]) (rest := [v_1, v3]) (by decide +kernel) (by decide +kernel) rfl rfl (q_sum8 _ (Nat.le_of_ble_eq_true rfl)) R f0 (fx_k (c := 12) R (by decide +kernel)) (om_X11_setPolicy (Nat.le_trans (by decide) hd) R f0 f1 f2 hc_3) (fun _ S_8 q_11 => ?_) (fun _ _ qq => kr_x (kx_l qq))
  have q_11 := kx_l q_11
  refine kr_z (by decide) q_11 fun v_6 f_7 R_9 E_10 => ?_
  have E_30 := E_10
  refine go_i2l (by decide +kernel) f_7 fun v_31 f_32 => ?_
  obtain ⟨m_33, e_34, h⟩ := up_s h
  refine go_last (kd := 101) (by decide +kernel) rfl R_9 f3 f_2 f_32 (fx_k (c := 101) R_9 (by decide +kernel)) (fx_x (a := 162) (ln := 1) R_9 (by decide +kernel) (by decide)) e_34 (fx_a R_9.2 (fx_k (c := 101) R_9 (by decide +kernel)) (And.left (fx_x (a := 162) (ln := 1) R_9 (by decide +kernel) (by decide))) (by decide +kernel)) fun S_35 R_36 E_37 => ?_
  have E_39 := Ext.tr E_30 E_37
  refine go_goto (o := 11) (t := 21) (by decide +kernel) (by decide +kernel) ?_
  refine go_iconst (n := 0) (z := 0) (by decide +kernel) (by decide) fun v_40 f_41 => ?_
  cases h
  exact go_iret (by decide +kernel) rfl (Or.inl rfl) f_41 (hQ E_39 _ _ R_36 (q_out_v (by decide) f_41))
noncomputable def fm_L_begin (p1 p2 p3 : Int) (m0 : MM) : Option (Int × MM) := bx (fm_X11_begin p1 p2 p3 m0) (fun q_12 m_5 =>
if q_12 = 0 then
some (1, m_5)
else if q_12 = 1 then
some (2, m_5)
else if q_12 = 2 then
some (3, m_5)
else none) fun x_4 m_5 =>
up m_5 162 0 x_4 fun m_40 =>
some (0, m_40)
set_option maxHeartbeats 4000000 in
theorem om_L_begin {xs : List Int32} {d : Nat} {S : QS} {m0 : MM} {p1 p2 p3 : Int} {v0 : Value} {v1 : Value} {v2 : Value} {v3 : Value} {v4 : Value} {rz : Int} {rm : MM}
  (hd : 12 ≤ d) (R : Rp S m0) (f0 : q_is 2 v0 4) (f1 : q_is 0 v1 p1) (f2 : q_is 0 v2 p2) (f3 : q_is 0 v3 p3) (f4 : q_is 2 v4 162)
  (h : fm_L_begin p1 p2 p3 m0 = some (rz, rm)) : Mt xs d 344 [v0, v1, v2, v3, v4] S (Cr 0 m0 rm rz) := by
  obtain ⟨d, rfl⟩ : ∃ e, d = e + 1 := ⟨d - 1, by omega⟩
  have hd : 11 ≤ d := Nat.le_of_succ_le_succ hd
  refine Mt.of (M := qM_L_begin) rfl (by rw [sl_1 (q_is_cat f0 (Or.inr rfl)), sl_1 (q_is_cat f1 (Or.inl rfl)), sl_1 (q_is_cat f2 (Or.inl rfl)), sl_1 (q_is_cat f3 (Or.inl rfl)), sl_1 (q_is_cat f4 (Or.inr rfl)), sl_0]; decide) ?_
  rw [la_1 (q_is_cat f0 (Or.inr rfl)), la_1 (q_is_cat f1 (Or.inl rfl)), la_1 (q_is_cat f2 (Or.inl rfl)), la_1 (q_is_cat f3 (Or.inl rfl)), la_1 (q_is_cat f4 (Or.inr rfl)), la_0]
  obtain ⟨L, hL⟩ : ∃ L : QL, L = [(0, v0), (0 + 1, v1), (0 + 1 + 1, v2), (0 + 1 + 1 + 1, v3), (0 + 1 + 1 + 1 + 1, v4)] := ⟨_, rfl⟩
  rw [← hL]
  have l0 : q_lo L 0 = some v0 := by rw [hL]; rfl
  have l1 : q_lo L 1 = some v1 := by rw [hL]; rfl
  have l2 : q_lo L 2 = some v2 := by rw [hL]; rfl
  have l3 : q_lo L 3 = some v3 := by rw [hL]; rfl
  have l4 : q_lo L 4 = some v4 := by rw [hL]; rfl
  have hQ : Ext m0 rm → ∀ o S1, Rp S1 rm → q_out 0 o rz → (Cr 0 m0 rm rz) o S1 := fun a o S1 b e => ⟨b, a, e⟩
  unfold fm_L_begin at h
  refine go_aload (n := 4) (by decide +kernel) l4 f4 ?_
  refine go_iconst (n := 0) (z := 0) (by decide +kernel) (by decide) fun v_1 f_2 => ?_
  refine go_aload_n (n := 0) (by decide +kernel) l0 f0 ?_
  refine go_iload_n (n := 1) (by decide +kernel) l1 f1 ?_
  refine go_iload_n (n := 2) (by decide +kernel) l2 f2 ?_
  refine go_iload_n (n := 3) (by decide +kernel) l3 f3 ?_
  obtain ⟨rr5, m_5, hc_3, h⟩ := bx_s h
  rcases h with ⟨q_12, rfl, h⟩ | ⟨x_4, rfl, h⟩
  · refine go_callV (x := 31) (mi := 104) (n := 3) (ci := 12) (as := [v1, v2, v3]) (rest := [v_1, v4]) (by decide +kernel) (by decide +kernel) rfl rfl (q_sum8 _ (Nat.le_of_ble_eq_true rfl)) R f0 (fx_k (c := 12) R (by decide +kernel)) (om_X11_begin (Nat.le_trans (by decide) hd) R f0 f1 f2 f3 hc_3) (fun _ _ qq => kx_lx qq) (fun _ _ qq => ?_)
    obtain ⟨rfl, Rq, Eq⟩ := kx_e qq
    by_cases hp_14 : q_12 = 0
    · have h := it_t hp_14 h
      subst hp_14
      refine Or.inr ⟨by decide, _, _, q_hand_n (n := 5) (h := (0, 12, 15, 13)) (by decide +kernel) (by decide +kernel) (by decide), ?_⟩
      refine go_iconst (n := 1) (z := 1) (by decide +kernel) (by decide) fun v_19 f_20 => ?_
      cases h
      exact go_iret (by decide +kernel) rfl (Or.inl rfl) f_20 (hQ Eq _ _ Rq (q_out_v (by decide) f_20))
    have h := it_f hp_14 h
    by_cases hp_21 : q_12 = 1
    · have h := it_t hp_21 h
      subst hp_21
      refine Or.inr ⟨by decide, _, _, q_hand_n (n := 5) (h := (0, 12, 19, 15)) (by decide +kernel) (by decide +kernel) (by decide), ?_⟩
      refine go_iconst (n := 2) (z := 2) (by decide +kernel) (by decide) fun v_26 f_27 => ?_
      cases h
      exact go_iret (by decide +kernel) rfl (Or.inl rfl) f_27 (hQ Eq _ _ Rq (q_out_v (by decide) f_27))
    have h := it_f hp_21 h
    by_cases hp_28 : q_12 = 2
    · have h := it_t hp_28 h
      subst hp_28
      refine Or.inr ⟨by decide, _, _, q_hand_n (n := 5) (h := (0, 12, 23, 17)) (by decide +kernel) (by decide +kernel) (by decide), ?_⟩
      refine go_iconst (n := 3) (z := 3) (by decide +kernel) (by decide) fun v_33 f_34 => ?_
      cases h
      exact go_iret (by decide +kernel) rfl (Or.inl rfl) f_34 (hQ Eq _ _ Rq (q_out_v (by decide) f_34))
    have h := it_f hp_28 h
    cases h
  refine go_callV (x := 31) (mi := 104) (n := 3) (ci := 12) (as := [v1, v2, v3]) (rest := [v_1, v4]) (by decide +kernel) (by decide +kernel) rfl rfl (q_sum8 _ (Nat.le_of_ble_eq_true rfl)) R f0 (fx_k (c := 12) R (by decide +kernel)) (om_X11_begin (Nat.le_trans (by decide) hd) R f0 f1 f2 f3 hc_3) (fun _ S_8 q_11 => ?_) (fun _ _ qq => kr_x (kx_l qq))
  have q_11 := kx_l q_11
  refine kr_z (by decide) q_11 fun v_6 f_7 R_9 E_10 => ?_
  have E_37 := E_10
  refine go_i2l (by decide +kernel) f_7 fun v_38 f_39 => ?_
  obtain ⟨m_40, e_41, h⟩ := up_s h
  refine go_last (kd := 101) (by decide +kernel) rfl R_9 f4 f_2 f_39 (fx_k (c := 101) R_9 (by decide +kernel)) (fx_x (a := 162) (ln := 1) R_9 (by decide +kernel) (by decide)) e_41 (fx_a R_9.2 (fx_k (c := 101) R_9 (by decide +kernel)) (And.left (fx_x (a := 162) (ln := 1) R_9 (by decide +kernel) (by decide))) (by decide +kernel)) fun S_42 R_43 E_44 => ?_
  have E_46 := Ext.tr E_37 E_44
  refine go_goto (o := 15) (t := 27) (by decide +kernel) (by decide +kernel) ?_
  refine go_iconst (n := 0) (z := 0) (by decide +kernel) (by decide) fun v_47 f_48 => ?_
  cases h
  exact go_iret (by decide +kernel) rfl (Or.inl rfl) f_48 (hQ E_46 _ _ R_43 (q_out_v (by decide) f_48))
noncomputable def fm_L_signal (p1 p2 p3 : Int) (m0 : MM) : Option (Int × MM) := bx (fm_X11_signal p1 p2 p3 m0) (fun q_12 m_5 =>
if q_12 = 0 then
some (1, m_5)
else if q_12 = 1 then
some (2, m_5)
else if q_12 = 2 then
some (3, m_5)
else none) fun x_4 m_5 =>
up m_5 162 0 x_4 fun m_40 =>
some (0, m_40)
set_option maxHeartbeats 4000000 in
theorem om_L_signal {xs : List Int32} {d : Nat} {S : QS} {m0 : MM} {p1 p2 p3 : Int} {v0 : Value} {v1 : Value} {v2 : Value} {v3 : Value} {v4 : Value} {rz : Int} {rm : MM}
  (hd : 6 ≤ d) (R : Rp S m0) (f0 : q_is 2 v0 4) (f1 : q_is 0 v1 p1) (f2 : q_is 0 v2 p2) (f3 : q_is 0 v3 p3) (f4 : q_is 2 v4 162)
  (h : fm_L_signal p1 p2 p3 m0 = some (rz, rm)) : Mt xs d 345 [v0, v1, v2, v3, v4] S (Cr 0 m0 rm rz) := by
  obtain ⟨d, rfl⟩ : ∃ e, d = e + 1 := ⟨d - 1, by omega⟩
  have hd : 5 ≤ d := Nat.le_of_succ_le_succ hd
  refine Mt.of (M := qM_L_signal) rfl (by rw [sl_1 (q_is_cat f0 (Or.inr rfl)), sl_1 (q_is_cat f1 (Or.inl rfl)), sl_1 (q_is_cat f2 (Or.inl rfl)), sl_1 (q_is_cat f3 (Or.inl rfl)), sl_1 (q_is_cat f4 (Or.inr rfl)), sl_0]; decide) ?_
  rw [la_1 (q_is_cat f0 (Or.inr rfl)), la_1 (q_is_cat f1 (Or.inl rfl)), la_1 (q_is_cat f2 (Or.inl rfl)), la_1 (q_is_cat f3 (Or.inl rfl)), la_1 (q_is_cat f4 (Or.inr rfl)), la_0]
  obtain ⟨L, hL⟩ : ∃ L : QL, L = [(0, v0), (0 + 1, v1), (0 + 1 + 1, v2), (0 + 1 + 1 + 1, v3), (0 + 1 + 1 + 1 + 1, v4)] := ⟨_, rfl⟩
  rw [← hL]
  have l0 : q_lo L 0 = some v0 := by rw [hL]; rfl
  have l1 : q_lo L 1 = some v1 := by rw [hL]; rfl
  have l2 : q_lo L 2 = some v2 := by rw [hL]; rfl
  have l3 : q_lo L 3 = some v3 := by rw [hL]; rfl
  have l4 : q_lo L 4 = some v4 := by rw [hL]; rfl
  have hQ : Ext m0 rm → ∀ o S1, Rp S1 rm → q_out 0 o rz → (Cr 0 m0 rm rz) o S1 := fun a o S1 b e => ⟨b, a, e⟩
  unfold fm_L_signal at h
  refine go_aload (n := 4) (by decide +kernel) l4 f4 ?_
  refine go_iconst (n := 0) (z := 0) (by decide +kernel) (by decide) fun v_1 f_2 => ?_
  refine go_aload_n (n := 0) (by decide +kernel) l0 f0 ?_
  refine go_iload_n (n := 1) (by decide +kernel) l1 f1 ?_
  refine go_iload_n (n := 2) (by decide +kernel) l2 f2 ?_
  refine go_iload_n (n := 3) (by decide +kernel) l3 f3 ?_
  obtain ⟨rr5, m_5, hc_3, h⟩ := bx_s h
  rcases h with ⟨q_12, rfl, h⟩ | ⟨x_4, rfl, h⟩
  · refine go_callV (x := 35) (mi := 105) (n := 3) (ci := 12) (as := [v1, v2, v3]) (rest := [v_1, v4]) (by decide +kernel) (by decide +kernel) rfl rfl (q_sum8 _ (Nat.le_of_ble_eq_true rfl)) R f0 (fx_k (c := 12) R (by decide +kernel)) (om_X11_signal (Nat.le_trans (by decide) hd) R f0 f1 f2 f3 hc_3) (fun _ _ qq => kx_lx qq) (fun _ _ qq => ?_)
    obtain ⟨rfl, Rq, Eq⟩ := kx_e qq
    by_cases hp_14 : q_12 = 0
    · have h := it_t hp_14 h
      subst hp_14
      refine Or.inr ⟨by decide, _, _, q_hand_n (n := 5) (h := (0, 12, 15, 13)) (by decide +kernel) (by decide +kernel) (by decide), ?_⟩
      refine go_iconst (n := 1) (z := 1) (by decide +kernel) (by decide) fun v_19 f_20 => ?_
      cases h
      exact go_iret (by decide +kernel) rfl (Or.inl rfl) f_20 (hQ Eq _ _ Rq (q_out_v (by decide) f_20))
    have h := it_f hp_14 h
    by_cases hp_21 : q_12 = 1
    · have h := it_t hp_21 h
      subst hp_21
      refine Or.inr ⟨by decide, _, _, q_hand_n (n := 5) (h := (0, 12, 19, 15)) (by decide +kernel) (by decide +kernel) (by decide), ?_⟩
      refine go_iconst (n := 2) (z := 2) (by decide +kernel) (by decide) fun v_26 f_27 => ?_
      cases h
      exact go_iret (by decide +kernel) rfl (Or.inl rfl) f_27 (hQ Eq _ _ Rq (q_out_v (by decide) f_27))
    have h := it_f hp_21 h
    by_cases hp_28 : q_12 = 2
    · have h := it_t hp_28 h
      subst hp_28
      refine Or.inr ⟨by decide, _, _, q_hand_n (n := 5) (h := (0, 12, 23, 17)) (by decide +kernel) (by decide +kernel) (by decide), ?_⟩
      refine go_iconst (n := 3) (z := 3) (by decide +kernel) (by decide) fun v_33 f_34 => ?_
      cases h
      exact go_iret (by decide +kernel) rfl (Or.inl rfl) f_34 (hQ Eq _ _ Rq (q_out_v (by decide) f_34))
    have h := it_f hp_28 h
    cases h
  refine go_callV (x := 35) (mi := 105) (n := 3) (ci := 12) (as := [v1, v2, v3]) (rest := [v_1, v4]) (by decide +kernel) (by decide +kernel) rfl rfl (q_sum8 _ (Nat.le_of_ble_eq_true rfl)) R f0 (fx_k (c := 12) R (by decide +kernel)) (om_X11_signal (Nat.le_trans (by decide) hd) R f0 f1 f2 f3 hc_3) (fun _ S_8 q_11 => ?_) (fun _ _ qq => kr_x (kx_l qq))
  have q_11 := kx_l q_11
  refine kr_z (by decide) q_11 fun v_6 f_7 R_9 E_10 => ?_
  have E_37 := E_10
  refine go_i2l (by decide +kernel) f_7 fun v_38 f_39 => ?_
  obtain ⟨m_40, e_41, h⟩ := up_s h
  refine go_last (kd := 101) (by decide +kernel) rfl R_9 f4 f_2 f_39 (fx_k (c := 101) R_9 (by decide +kernel)) (fx_x (a := 162) (ln := 1) R_9 (by decide +kernel) (by decide)) e_41 (fx_a R_9.2 (fx_k (c := 101) R_9 (by decide +kernel)) (And.left (fx_x (a := 162) (ln := 1) R_9 (by decide +kernel) (by decide))) (by decide +kernel)) fun S_42 R_43 E_44 => ?_
  have E_46 := Ext.tr E_37 E_44
  refine go_goto (o := 15) (t := 27) (by decide +kernel) (by decide +kernel) ?_
  refine go_iconst (n := 0) (z := 0) (by decide +kernel) (by decide) fun v_47 f_48 => ?_
  cases h
  exact go_iret (by decide +kernel) rfl (Or.inl rfl) f_48 (hQ E_46 _ _ R_43 (q_out_v (by decide) f_48))
noncomputable def fm_L_update (p1 p2 p3 : Int) (m0 : MM) : Option (Int × MM) := bx (fm_X11_update p1 p2 p3 m0) (fun q_12 m_5 =>
if q_12 = 0 then
some (1, m_5)
else if q_12 = 1 then
some (2, m_5)
else if q_12 = 2 then
some (3, m_5)
else none) fun x_4 m_5 =>
if x_4 = 0 then
up m_5 162 0 0 fun m_41 =>
some (0, m_41)
else
up m_5 162 0 1 fun m_52 =>
some (0, m_52)
set_option maxHeartbeats 4000000 in
theorem om_L_update {xs : List Int32} {d : Nat} {S : QS} {m0 : MM} {p1 p2 p3 : Int} {v0 : Value} {v1 : Value} {v2 : Value} {v3 : Value} {v4 : Value} {rz : Int} {rm : MM}
  (hd : 9 ≤ d) (R : Rp S m0) (f0 : q_is 2 v0 4) (f1 : q_is 0 v1 p1) (f2 : q_is 0 v2 p2) (f3 : q_is 0 v3 p3) (f4 : q_is 2 v4 162)
  (h : fm_L_update p1 p2 p3 m0 = some (rz, rm)) : Mt xs d 346 [v0, v1, v2, v3, v4] S (Cr 0 m0 rm rz) := by
  obtain ⟨d, rfl⟩ : ∃ e, d = e + 1 := ⟨d - 1, by omega⟩
  have hd : 8 ≤ d := Nat.le_of_succ_le_succ hd
  refine Mt.of (M := qM_L_update) rfl (by rw [sl_1 (q_is_cat f0 (Or.inr rfl)), sl_1 (q_is_cat f1 (Or.inl rfl)), sl_1 (q_is_cat f2 (Or.inl rfl)), sl_1 (q_is_cat f3 (Or.inl rfl)), sl_1 (q_is_cat f4 (Or.inr rfl)), sl_0]; decide) ?_
  rw [la_1 (q_is_cat f0 (Or.inr rfl)), la_1 (q_is_cat f1 (Or.inl rfl)), la_1 (q_is_cat f2 (Or.inl rfl)), la_1 (q_is_cat f3 (Or.inl rfl)), la_1 (q_is_cat f4 (Or.inr rfl)), la_0]
  obtain ⟨L, hL⟩ : ∃ L : QL, L = [(0, v0), (0 + 1, v1), (0 + 1 + 1, v2), (0 + 1 + 1 + 1, v3), (0 + 1 + 1 + 1 + 1, v4)] := ⟨_, rfl⟩
  rw [← hL]
  have l0 : q_lo L 0 = some v0 := by rw [hL]; rfl
  have l1 : q_lo L 1 = some v1 := by rw [hL]; rfl
  have l2 : q_lo L 2 = some v2 := by rw [hL]; rfl
  have l3 : q_lo L 3 = some v3 := by rw [hL]; rfl
  have l4 : q_lo L 4 = some v4 := by rw [hL]; rfl
  have hQ : Ext m0 rm → ∀ o S1, Rp S1 rm → q_out 0 o rz → (Cr 0 m0 rm rz) o S1 := fun a o S1 b e => ⟨b, a, e⟩
  unfold fm_L_update at h
  refine go_aload (n := 4) (by decide +kernel) l4 f4 ?_
  refine go_iconst (n := 0) (z := 0) (by decide +kernel) (by decide) fun v_1 f_2 => ?_
  refine go_aload_n (n := 0) (by decide +kernel) l0 f0 ?_
  refine go_iload_n (n := 1) (by decide +kernel) l1 f1 ?_
  refine go_iload_n (n := 2) (by decide +kernel) l2 f2 ?_
  refine go_iload_n (n := 3) (by decide +kernel) l3 f3 ?_
  obtain ⟨rr5, m_5, hc_3, h⟩ := bx_s h
  rcases h with ⟨q_12, rfl, h⟩ | ⟨x_4, rfl, h⟩
  · refine go_callV (x := 38) (mi := 106) (n := 3) (ci := 12) (as := [v1, v2, v3]) (rest := [v_1, v4]) (by decide +kernel) (by decide +kernel) rfl rfl (q_sum8 _ (Nat.le_of_ble_eq_true rfl)) R f0 (fx_k (c := 12) R (by decide +kernel)) (om_X11_update (Nat.le_trans (by decide) hd) R f0 f1 f2 f3 hc_3) (fun _ _ qq => kx_lx qq) (fun _ _ qq => ?_)
    obtain ⟨rfl, Rq, Eq⟩ := kx_e qq
    by_cases hp_14 : q_12 = 0
    · have h := it_t hp_14 h
      subst hp_14
      refine Or.inr ⟨by decide, _, _, q_hand_n (n := 5) (h := (0, 19, 22, 13)) (by decide +kernel) (by decide +kernel) (by decide), ?_⟩
      refine go_iconst (n := 1) (z := 1) (by decide +kernel) (by decide) fun v_19 f_20 => ?_
      cases h
      exact go_iret (by decide +kernel) rfl (Or.inl rfl) f_20 (hQ Eq _ _ Rq (q_out_v (by decide) f_20))
    have h := it_f hp_14 h
    by_cases hp_21 : q_12 = 1
    · have h := it_t hp_21 h
      subst hp_21
      refine Or.inr ⟨by decide, _, _, q_hand_n (n := 5) (h := (0, 19, 26, 15)) (by decide +kernel) (by decide +kernel) (by decide), ?_⟩
      refine go_iconst (n := 2) (z := 2) (by decide +kernel) (by decide) fun v_26 f_27 => ?_
      cases h
      exact go_iret (by decide +kernel) rfl (Or.inl rfl) f_27 (hQ Eq _ _ Rq (q_out_v (by decide) f_27))
    have h := it_f hp_21 h
    by_cases hp_28 : q_12 = 2
    · have h := it_t hp_28 h
      subst hp_28
      refine Or.inr ⟨by decide, _, _, q_hand_n (n := 5) (h := (0, 19, 30, 17)) (by decide +kernel) (by decide +kernel) (by decide), ?_⟩
      refine go_iconst (n := 3) (z := 3) (by decide +kernel) (by decide) fun v_33 f_34 => ?_
      cases h
      exact go_iret (by decide +kernel) rfl (Or.inl rfl) f_34 (hQ Eq _ _ Rq (q_out_v (by decide) f_34))
    have h := it_f hp_28 h
    cases h
  refine go_callV (x := 38) (mi := 106) (n := 3) (ci := 12) (as := [v1, v2, v3]) (rest := [v_1, v4]) (by decide +kernel) (by decide +kernel) rfl rfl (q_sum8 _ (Nat.le_of_ble_eq_true rfl)) R f0 (fx_k (c := 12) R (by decide +kernel)) (om_X11_update (Nat.le_trans (by decide) hd) R f0 f1 f2 f3 hc_3) (fun _ S_8 q_11 => ?_) (fun _ _ qq => kr_x (kx_l qq))
  have q_11 := kx_l q_11
  refine kr_z (by decide) q_11 fun v_6 f_7 R_9 E_10 => ?_
  have E_37 := E_10
  refine go_if (c := .eq) (o := 7) (t := 17) (P := x_4 = 0) (by decide +kernel) (by decide +kernel) f_7 (Iff.rfl) (fun hp_38 => ?_) (fun hp_38 => ?_)
  · have h := it_t hp_38 h
    refine go_lconst (n := 0) (z := 0) (by decide +kernel) (by decide) fun v_39 f_40 => ?_
    obtain ⟨m_41, e_42, h⟩ := up_s h
    refine go_last (kd := 101) (by decide +kernel) rfl R_9 f4 f_2 f_40 (fx_k (c := 101) R_9 (by decide +kernel)) (fx_x (a := 162) (ln := 1) R_9 (by decide +kernel) (by decide)) e_42 (fx_a R_9.2 (fx_k (c := 101) R_9 (by decide +kernel)) (And.left (fx_x (a := 162) (ln := 1) R_9 (by decide +kernel) (by decide))) (by decide +kernel)) fun S_43 R_44 E_45 => ?_
    have E_47 := Ext.tr E_37 E_45
    refine go_goto (o := 15) (t := 34) (by decide +kernel) (by decide +kernel) ?_
    refine go_iconst (n := 0) (z := 0) (by decide +kernel) (by decide) fun v_48 f_49 => ?_
    cases h
    exact go_iret (by decide +kernel) rfl (Or.inl rfl) f_49 (hQ E_47 _ _ R_44 (q_out_v (by decide) f_49))
  · have h := it_f hp_38 h
    refine go_lconst (n := 1) (z := 1) (by decide +kernel) (by decide) fun v_50 f_51 => ?_
    refine go_goto (o := 4) (t := 18) (by decide +kernel) (by decide +kernel) ?_
    obtain ⟨m_52, e_53, h⟩ := up_s h
    refine go_last (kd := 101) (by decide +kernel) rfl R_9 f4 f_2 f_51 (fx_k (c := 101) R_9 (by decide +kernel)) (fx_x (a := 162) (ln := 1) R_9 (by decide +kernel) (by decide)) e_53 (fx_a R_9.2 (fx_k (c := 101) R_9 (by decide +kernel)) (And.left (fx_x (a := 162) (ln := 1) R_9 (by decide +kernel) (by decide))) (by decide +kernel)) fun S_54 R_55 E_56 => ?_
    have E_58 := Ext.tr E_37 E_56
    refine go_goto (o := 15) (t := 34) (by decide +kernel) (by decide +kernel) ?_
    refine go_iconst (n := 0) (z := 0) (by decide +kernel) (by decide) fun v_59 f_60 => ?_
    cases h
    exact go_iret (by decide +kernel) rfl (Or.inl rfl) f_60 (hQ E_58 _ _ R_55 (q_out_v (by decide) f_60))
noncomputable def fm_L_cancel (p1 : Int) (m0 : MM) : Option (Int × MM) := bx (fm_X11_cancel p1 m0) (fun q_12 m_5 =>
if q_12 = 0 then
some (1, m_5)
else if q_12 = 2 then
some (2, m_5)
else none) fun x_4 m_5 =>
if x_4 = 0 then
up m_5 162 0 0 fun m_34 =>
some (0, m_34)
else
up m_5 162 0 1 fun m_45 =>
some (0, m_45)
set_option maxHeartbeats 4000000 in
theorem om_L_cancel {xs : List Int32} {d : Nat} {S : QS} {m0 : MM} {p1 : Int} {v0 : Value} {v1 : Value} {v2 : Value} {rz : Int} {rm : MM}
  (hd : 6 ≤ d) (R : Rp S m0) (f0 : q_is 2 v0 4) (f1 : q_is 0 v1 p1) (f2 : q_is 2 v2 162)
  (h : fm_L_cancel p1 m0 = some (rz, rm)) : Mt xs d 347 [v0, v1, v2] S (Cr 0 m0 rm rz) := by
  obtain ⟨d, rfl⟩ : ∃ e, d = e + 1 := ⟨d - 1, by omega⟩
  have hd : 5 ≤ d := Nat.le_of_succ_le_succ hd
  refine Mt.of (M := qM_L_cancel) rfl (by rw [sl_1 (q_is_cat f0 (Or.inr rfl)), sl_1 (q_is_cat f1 (Or.inl rfl)), sl_1 (q_is_cat f2 (Or.inr rfl)), sl_0]; decide) ?_
  rw [la_1 (q_is_cat f0 (Or.inr rfl)), la_1 (q_is_cat f1 (Or.inl rfl)), la_1 (q_is_cat f2 (Or.inr rfl)), la_0]
  obtain ⟨L, hL⟩ : ∃ L : QL, L = [(0, v0), (0 + 1, v1), (0 + 1 + 1, v2)] := ⟨_, rfl⟩
  rw [← hL]
  have l0 : q_lo L 0 = some v0 := by rw [hL]; rfl
  have l1 : q_lo L 1 = some v1 := by rw [hL]; rfl
  have l2 : q_lo L 2 = some v2 := by rw [hL]; rfl
  have hQ : Ext m0 rm → ∀ o S1, Rp S1 rm → q_out 0 o rz → (Cr 0 m0 rm rz) o S1 := fun a o S1 b e => ⟨b, a, e⟩
  unfold fm_L_cancel at h
  refine go_aload_n (n := 2) (by decide +kernel) l2 f2 ?_
  refine go_iconst (n := 0) (z := 0) (by decide +kernel) (by decide) fun v_1 f_2 => ?_
  refine go_aload_n (n := 0) (by decide +kernel) l0 f0 ?_
  refine go_iload_n (n := 1) (by decide +kernel) l1 f1 ?_
  obtain ⟨rr5, m_5, hc_3, h⟩ := bx_s h
  rcases h with ⟨q_12, rfl, h⟩ | ⟨x_4, rfl, h⟩
  · refine go_callV (x := 42) (mi := 107) (n := 1) (ci := 12) (as := [v1]) (rest := [v_1, v2]) (by decide +kernel) (by decide +kernel) rfl rfl (q_sum8 _ (Nat.le_of_ble_eq_true rfl)) R f0 (fx_k (c := 12) R (by decide +kernel)) (om_X11_cancel (Nat.le_trans (by decide) hd) R f0 f1 hc_3) (fun _ _ qq => kx_lx qq) (fun _ _ qq => ?_)
    obtain ⟨rfl, Rq, Eq⟩ := kx_e qq
    by_cases hp_14 : q_12 = 0
    · have h := it_t hp_14 h
      subst hp_14
      refine Or.inr ⟨by decide, _, _, q_hand_k (n := 3) (h := (0, 16, 19, 13)) (by decide +kernel) (by decide +kernel) (by decide), ?_⟩
      refine go_iconst (n := 1) (z := 1) (by decide +kernel) (by decide) fun v_19 f_20 => ?_
      cases h
      exact go_iret (by decide +kernel) rfl (Or.inl rfl) f_20 (hQ Eq _ _ Rq (q_out_v (by decide) f_20))
    have h := it_f hp_14 h
    by_cases hp_21 : q_12 = 2
    · have h := it_t hp_21 h
      subst hp_21
      refine Or.inr ⟨by decide, _, _, q_hand_k (n := 3) (h := (0, 16, 22, 17)) (by decide +kernel) (by decide +kernel) (by decide), ?_⟩
      refine go_iconst (n := 2) (z := 2) (by decide +kernel) (by decide) fun v_26 f_27 => ?_
      cases h
      exact go_iret (by decide +kernel) rfl (Or.inl rfl) f_27 (hQ Eq _ _ Rq (q_out_v (by decide) f_27))
    have h := it_f hp_21 h
    cases h
  refine go_callV (x := 42) (mi := 107) (n := 1) (ci := 12) (as := [v1]) (rest := [v_1, v2]) (by decide +kernel) (by decide +kernel) rfl rfl (q_sum8 _ (Nat.le_of_ble_eq_true rfl)) R f0 (fx_k (c := 12) R (by decide +kernel)) (om_X11_cancel (Nat.le_trans (by decide) hd) R f0 f1 hc_3) (fun _ S_8 q_11 => ?_) (fun _ _ qq => kr_x (kx_l qq))
  have q_11 := kx_l q_11
  refine kr_z (by decide) q_11 fun v_6 f_7 R_9 E_10 => ?_
  have E_30 := E_10
  refine go_if (c := .eq) (o := 7) (t := 14) (P := x_4 = 0) (by decide +kernel) (by decide +kernel) f_7 (Iff.rfl) (fun hp_31 => ?_) (fun hp_31 => ?_)
  · have h := it_t hp_31 h
    refine go_lconst (n := 0) (z := 0) (by decide +kernel) (by decide) fun v_32 f_33 => ?_
    obtain ⟨m_34, e_35, h⟩ := up_s h
    refine go_last (kd := 101) (by decide +kernel) rfl R_9 f2 f_2 f_33 (fx_k (c := 101) R_9 (by decide +kernel)) (fx_x (a := 162) (ln := 1) R_9 (by decide +kernel) (by decide)) e_35 (fx_a R_9.2 (fx_k (c := 101) R_9 (by decide +kernel)) (And.left (fx_x (a := 162) (ln := 1) R_9 (by decide +kernel) (by decide))) (by decide +kernel)) fun S_36 R_37 E_38 => ?_
    have E_40 := Ext.tr E_30 E_38
    refine go_goto (o := 9) (t := 25) (by decide +kernel) (by decide +kernel) ?_
    refine go_iconst (n := 0) (z := 0) (by decide +kernel) (by decide) fun v_41 f_42 => ?_
    cases h
    exact go_iret (by decide +kernel) rfl (Or.inl rfl) f_42 (hQ E_40 _ _ R_37 (q_out_v (by decide) f_42))
  · have h := it_f hp_31 h
    refine go_lconst (n := 1) (z := 1) (by decide +kernel) (by decide) fun v_43 f_44 => ?_
    refine go_goto (o := 4) (t := 15) (by decide +kernel) (by decide +kernel) ?_
    obtain ⟨m_45, e_46, h⟩ := up_s h
    refine go_last (kd := 101) (by decide +kernel) rfl R_9 f2 f_2 f_44 (fx_k (c := 101) R_9 (by decide +kernel)) (fx_x (a := 162) (ln := 1) R_9 (by decide +kernel) (by decide)) e_46 (fx_a R_9.2 (fx_k (c := 101) R_9 (by decide +kernel)) (And.left (fx_x (a := 162) (ln := 1) R_9 (by decide +kernel) (by decide))) (by decide +kernel)) fun S_47 R_48 E_49 => ?_
    have E_51 := Ext.tr E_30 E_49
    refine go_goto (o := 9) (t := 25) (by decide +kernel) (by decide +kernel) ?_
    refine go_iconst (n := 0) (z := 0) (by decide +kernel) (by decide) fun v_52 f_53 => ?_
    cases h
    exact go_iret (by decide +kernel) rfl (Or.inl rfl) f_53 (hQ E_51 _ _ R_48 (q_out_v (by decide) f_53))
noncomputable def fm_L_query (p1 p2 : Int) (m0 : MM) : Option (Int × MM) := bx (fm_X11_query p1 p2 m0) (fun q_12 m_5 =>
if q_12 = 0 then
some (1, m_5)
else if q_12 = 2 then
some (2, m_5)
else none) fun x_4 m_5 =>
up m_5 162 0 x_4 fun m_33 =>
some (0, m_33)
set_option maxHeartbeats 4000000 in
theorem om_L_query {xs : List Int32} {d : Nat} {S : QS} {m0 : MM} {p1 p2 : Int} {v0 : Value} {v1 : Value} {v2 : Value} {v3 : Value} {rz : Int} {rm : MM}
  (hd : 9 ≤ d) (R : Rp S m0) (f0 : q_is 2 v0 4) (f1 : q_is 0 v1 p1) (f2 : q_is 0 v2 p2) (f3 : q_is 2 v3 162)
  (h : fm_L_query p1 p2 m0 = some (rz, rm)) : Mt xs d 348 [v0, v1, v2, v3] S (Cr 0 m0 rm rz) := by
  obtain ⟨d, rfl⟩ : ∃ e, d = e + 1 := ⟨d - 1, by omega⟩
  have hd : 8 ≤ d := Nat.le_of_succ_le_succ hd
  refine Mt.of (M := qM_L_query) rfl (by rw [sl_1 (q_is_cat f0 (Or.inr rfl)), sl_1 (q_is_cat f1 (Or.inl rfl)), sl_1 (q_is_cat f2 (Or.inl rfl)), sl_1 (q_is_cat f3 (Or.inr rfl)), sl_0]; decide) ?_
  rw [la_1 (q_is_cat f0 (Or.inr rfl)), la_1 (q_is_cat f1 (Or.inl rfl)), la_1 (q_is_cat f2 (Or.inl rfl)), la_1 (q_is_cat f3 (Or.inr rfl)), la_0]
  obtain ⟨L, hL⟩ : ∃ L : QL, L = [(0, v0), (0 + 1, v1), (0 + 1 + 1, v2), (0 + 1 + 1 + 1, v3)] := ⟨_, rfl⟩
  rw [← hL]
  have l0 : q_lo L 0 = some v0 := by rw [hL]; rfl
  have l1 : q_lo L 1 = some v1 := by rw [hL]; rfl
  have l2 : q_lo L 2 = some v2 := by rw [hL]; rfl
  have l3 : q_lo L 3 = some v3 := by rw [hL]; rfl
  have hQ : Ext m0 rm → ∀ o S1, Rp S1 rm → q_out 0 o rz → (Cr 0 m0 rm rz) o S1 := fun a o S1 b e => ⟨b, a, e⟩
  unfold fm_L_query at h
  refine go_aload_n (n := 3) (by decide +kernel) l3 f3 ?_
  refine go_iconst (n := 0) (z := 0) (by decide +kernel) (by decide) fun v_1 f_2 => ?_
  refine go_aload_n (n := 0) (by decide +kernel) l0 f0 ?_
  refine go_iload_n (n := 1) (by decide +kernel) l1 f1 ?_
  refine go_iload_n (n := 2) (by decide +kernel) l2 f2 ?_
  obtain ⟨rr5, m_5, hc_3, h⟩ := bx_s h
  rcases h with ⟨q_12, rfl, h⟩ | ⟨x_4, rfl, h⟩
  · refine go_callV (x := 46) (mi := 108) (n := 2) (ci := 12) (as := [v1, v2]) (rest := [v_1, v3]) (by decide +kernel) (by decide +kernel) rfl rfl (q_sum8 _ (Nat.le_of_ble_eq_true rfl)) R f0 (fx_k (c := 12) R (by decide +kernel)) (om_X11_query (Nat.le_trans (by decide) hd) R f0 f1 f2 hc_3) (fun _ _ qq => kx_lx qq) (fun _ _ qq => ?_)
    obtain ⟨rfl, Rq, Eq⟩ := kx_e qq
    by_cases hp_14 : q_12 = 0
    · have h := it_t hp_14 h
      subst hp_14
      refine Or.inr ⟨by decide, _, _, q_hand_n (n := 4) (h := (0, 10, 13, 13)) (by decide +kernel) (by decide +kernel) (by decide), ?_⟩
      refine go_iconst (n := 1) (z := 1) (by decide +kernel) (by decide) fun v_19 f_20 => ?_
      cases h
      exact go_iret (by decide +kernel) rfl (Or.inl rfl) f_20 (hQ Eq _ _ Rq (q_out_v (by decide) f_20))
    have h := it_f hp_14 h
    by_cases hp_21 : q_12 = 2
    · have h := it_t hp_21 h
      subst hp_21
      refine Or.inr ⟨by decide, _, _, q_hand_n (n := 4) (h := (0, 10, 17, 17)) (by decide +kernel) (by decide +kernel) (by decide), ?_⟩
      refine go_iconst (n := 2) (z := 2) (by decide +kernel) (by decide) fun v_26 f_27 => ?_
      cases h
      exact go_iret (by decide +kernel) rfl (Or.inl rfl) f_27 (hQ Eq _ _ Rq (q_out_v (by decide) f_27))
    have h := it_f hp_21 h
    cases h
  refine go_callV (x := 46) (mi := 108) (n := 2) (ci := 12) (as := [v1, v2]) (rest := [v_1, v3]) (by decide +kernel) (by decide +kernel) rfl rfl (q_sum8 _ (Nat.le_of_ble_eq_true rfl)) R f0 (fx_k (c := 12) R (by decide +kernel)) (om_X11_query (Nat.le_trans (by decide) hd) R f0 f1 f2 hc_3) (fun _ S_8 q_11 => ?_) (fun _ _ qq => kr_x (kx_l qq))
  have q_11 := kx_l q_11
  refine kr_z (by decide) q_11 fun v_6 f_7 R_9 E_10 => ?_
  have E_30 := E_10
  refine go_i2l (by decide +kernel) f_7 fun v_31 f_32 => ?_
  obtain ⟨m_33, e_34, h⟩ := up_s h
  refine go_last (kd := 101) (by decide +kernel) rfl R_9 f3 f_2 f_32 (fx_k (c := 101) R_9 (by decide +kernel)) (fx_x (a := 162) (ln := 1) R_9 (by decide +kernel) (by decide)) e_34 (fx_a R_9.2 (fx_k (c := 101) R_9 (by decide +kernel)) (And.left (fx_x (a := 162) (ln := 1) R_9 (by decide +kernel) (by decide))) (by decide +kernel)) fun S_35 R_36 E_37 => ?_
  have E_39 := Ext.tr E_30 E_37
  refine go_goto (o := 11) (t := 21) (by decide +kernel) (by decide +kernel) ?_
  refine go_iconst (n := 0) (z := 0) (by decide +kernel) (by decide) fun v_40 f_41 => ?_
  cases h
  exact go_iret (by decide +kernel) rfl (Or.inl rfl) f_41 (hQ E_39 _ _ R_36 (q_out_v (by decide) f_41))
noncomputable def fm_L_plain (p1 p2 : Int) (m0 : MM) : Option (Int × MM) := bx (fm_X11_plain p1 p2 m0) (fun q_12 m_5 =>
if q_12 = 0 then
some (1, m_5)
else if q_12 = 2 then
some (2, m_5)
else none) fun x_4 m_5 =>
up m_5 162 0 x_4 fun m_33 =>
some (0, m_33)
set_option maxHeartbeats 4000000 in
theorem om_L_plain {xs : List Int32} {d : Nat} {S : QS} {m0 : MM} {p1 p2 : Int} {v0 : Value} {v1 : Value} {v2 : Value} {v3 : Value} {rz : Int} {rm : MM}
  (hd : 9 ≤ d) (R : Rp S m0) (f0 : q_is 2 v0 4) (f1 : q_is 0 v1 p1) (f2 : q_is 0 v2 p2) (f3 : q_is 2 v3 162)
  (h : fm_L_plain p1 p2 m0 = some (rz, rm)) : Mt xs d 349 [v0, v1, v2, v3] S (Cr 0 m0 rm rz) := by
  obtain ⟨d, rfl⟩ : ∃ e, d = e + 1 := ⟨d - 1, by omega⟩
  have hd : 8 ≤ d := Nat.le_of_succ_le_succ hd
  refine Mt.of (M := qM_L_plain) rfl (by rw [sl_1 (q_is_cat f0 (Or.inr rfl)), sl_1 (q_is_cat f1 (Or.inl rfl)), sl_1 (q_is_cat f2 (Or.inl rfl)), sl_1 (q_is_cat f3 (Or.inr rfl)), sl_0]; decide) ?_
  rw [la_1 (q_is_cat f0 (Or.inr rfl)), la_1 (q_is_cat f1 (Or.inl rfl)), la_1 (q_is_cat f2 (Or.inl rfl)), la_1 (q_is_cat f3 (Or.inr rfl)), la_0]
  obtain ⟨L, hL⟩ : ∃ L : QL, L = [(0, v0), (0 + 1, v1), (0 + 1 + 1, v2), (0 + 1 + 1 + 1, v3)] := ⟨_, rfl⟩
  rw [← hL]
  have l0 : q_lo L 0 = some v0 := by rw [hL]; rfl
  have l1 : q_lo L 1 = some v1 := by rw [hL]; rfl
  have l2 : q_lo L 2 = some v2 := by rw [hL]; rfl
  have l3 : q_lo L 3 = some v3 := by rw [hL]; rfl
  have hQ : Ext m0 rm → ∀ o S1, Rp S1 rm → q_out 0 o rz → (Cr 0 m0 rm rz) o S1 := fun a o S1 b e => ⟨b, a, e⟩
  unfold fm_L_plain at h
  refine go_aload_n (n := 3) (by decide +kernel) l3 f3 ?_
  refine go_iconst (n := 0) (z := 0) (by decide +kernel) (by decide) fun v_1 f_2 => ?_
  refine go_aload_n (n := 0) (by decide +kernel) l0 f0 ?_
  refine go_iload_n (n := 1) (by decide +kernel) l1 f1 ?_
  refine go_iload_n (n := 2) (by decide +kernel) l2 f2 ?_
  obtain ⟨rr5, m_5, hc_3, h⟩ := bx_s h
  rcases h with ⟨q_12, rfl, h⟩ | ⟨x_4, rfl, h⟩
  · refine go_callV (x := 49) (mi := 109) (n := 2) (ci := 12) (as := [v1, v2]) (rest := [v_1, v3]) (by decide +kernel) (by decide +kernel) rfl rfl (q_sum8 _ (Nat.le_of_ble_eq_true rfl)) R f0 (fx_k (c := 12) R (by decide +kernel)) (om_X11_plain (Nat.le_trans (by decide) hd) R f0 f1 f2 hc_3) (fun _ _ qq => kx_lx qq) (fun _ _ qq => ?_)
    obtain ⟨rfl, Rq, Eq⟩ := kx_e qq
    by_cases hp_14 : q_12 = 0
    · have h := it_t hp_14 h
      subst hp_14
      refine Or.inr ⟨by decide, _, _, q_hand_n (n := 4) (h := (0, 10, 13, 13)) (by decide +kernel) (by decide +kernel) (by decide), ?_⟩
      refine go_iconst (n := 1) (z := 1) (by decide +kernel) (by decide) fun v_19 f_20 => ?_
      cases h
      exact go_iret (by decide +kernel) rfl (Or.inl rfl) f_20 (hQ Eq _ _ Rq (q_out_v (by decide) f_20))
    have h := it_f hp_14 h
    by_cases hp_21 : q_12 = 2
    · have h := it_t hp_21 h
      subst hp_21
      refine Or.inr ⟨by decide, _, _, q_hand_n (n := 4) (h := (0, 10, 17, 17)) (by decide +kernel) (by decide +kernel) (by decide), ?_⟩
      refine go_iconst (n := 2) (z := 2) (by decide +kernel) (by decide) fun v_26 f_27 => ?_
      cases h
      exact go_iret (by decide +kernel) rfl (Or.inl rfl) f_27 (hQ Eq _ _ Rq (q_out_v (by decide) f_27))
    have h := it_f hp_21 h
    cases h
  refine go_callV (x := 49) (mi := 109) (n := 2) (ci := 12) (as := [v1, v2]) (rest := [v_1, v3]) (by decide +kernel) (by decide +kernel) rfl rfl (q_sum8 _ (Nat.le_of_ble_eq_true rfl)) R f0 (fx_k (c := 12) R (by decide +kernel)) (om_X11_plain (Nat.le_trans (by decide) hd) R f0 f1 f2 hc_3) (fun _ S_8 q_11 => ?_) (fun _ _ qq => kr_x (kx_l qq))
  have q_11 := kx_l q_11
  refine kr_z (by decide) q_11 fun v_6 f_7 R_9 E_10 => ?_
  have E_30 := E_10
  refine go_i2l (by decide +kernel) f_7 fun v_31 f_32 => ?_
  obtain ⟨m_33, e_34, h⟩ := up_s h
  refine go_last (kd := 101) (by decide +kernel) rfl R_9 f3 f_2 f_32 (fx_k (c := 101) R_9 (by decide +kernel)) (fx_x (a := 162) (ln := 1) R_9 (by decide +kernel) (by decide)) e_34 (fx_a R_9.2 (fx_k (c := 101) R_9 (by decide +kernel)) (And.left (fx_x (a := 162) (ln := 1) R_9 (by decide +kernel) (by decide))) (by decide +kernel)) fun S_35 R_36 E_37 => ?_
  have E_39 := Ext.tr E_30 E_37
  refine go_goto (o := 11) (t := 21) (by decide +kernel) (by decide +kernel) ?_
  refine go_iconst (n := 0) (z := 0) (by decide +kernel) (by decide) fun v_40 f_41 => ?_
  cases h
  exact go_iret (by decide +kernel) rfl (Or.inl rfl) f_41 (hQ E_39 _ _ R_36 (q_out_v (by decide) f_41))
noncomputable def fm_L_standing (p1 : Int) (m0 : MM) : Option (Int × MM) := bx (fm_X11_standing p1 m0) (fun q_12 m_5 =>
if q_12 = 0 then
some (1, m_5)
else none) fun x_4 m_5 =>
up m_5 162 0 x_4 fun m_26 =>
some (0, m_26)
set_option maxHeartbeats 4000000 in
theorem om_L_standing {xs : List Int32} {d : Nat} {S : QS} {m0 : MM} {p1 : Int} {v0 : Value} {v1 : Value} {v2 : Value} {rz : Int} {rm : MM}
  (hd : 6 ≤ d) (R : Rp S m0) (f0 : q_is 2 v0 4) (f1 : q_is 0 v1 p1) (f2 : q_is 2 v2 162)
  (h : fm_L_standing p1 m0 = some (rz, rm)) : Mt xs d 350 [v0, v1, v2] S (Cr 0 m0 rm rz) := by
  obtain ⟨d, rfl⟩ : ∃ e, d = e + 1 := ⟨d - 1, by omega⟩
  have hd : 5 ≤ d := Nat.le_of_succ_le_succ hd
  refine Mt.of (M := qM_L_standing) rfl (by rw [sl_1 (q_is_cat f0 (Or.inr rfl)), sl_1 (q_is_cat f1 (Or.inl rfl)), sl_1 (q_is_cat f2 (Or.inr rfl)), sl_0]; decide) ?_
  rw [la_1 (q_is_cat f0 (Or.inr rfl)), la_1 (q_is_cat f1 (Or.inl rfl)), la_1 (q_is_cat f2 (Or.inr rfl)), la_0]
  obtain ⟨L, hL⟩ : ∃ L : QL, L = [(0, v0), (0 + 1, v1), (0 + 1 + 1, v2)] := ⟨_, rfl⟩
  rw [← hL]
  have l0 : q_lo L 0 = some v0 := by rw [hL]; rfl
  have l1 : q_lo L 1 = some v1 := by rw [hL]; rfl
  have l2 : q_lo L 2 = some v2 := by rw [hL]; rfl
  have hQ : Ext m0 rm → ∀ o S1, Rp S1 rm → q_out 0 o rz → (Cr 0 m0 rm rz) o S1 := fun a o S1 b e => ⟨b, a, e⟩
  unfold fm_L_standing at h
  refine go_aload_n (n := 2) (by decide +kernel) l2 f2 ?_
  refine go_iconst (n := 0) (z := 0) (by decide +kernel) (by decide) fun v_1 f_2 => ?_
  refine go_aload_n (n := 0) (by decide +kernel) l0 f0 ?_
  refine go_iload_n (n := 1) (by decide +kernel) l1 f1 ?_
  obtain ⟨rr5, m_5, hc_3, h⟩ := bx_s h
  rcases h with ⟨q_12, rfl, h⟩ | ⟨x_4, rfl, h⟩
  · refine go_callV (x := 52) (mi := 110) (n := 1) (ci := 12) (as := [v1]) (rest := [v_1, v2]) (by decide +kernel) (by decide +kernel) rfl rfl (q_sum8 _ (Nat.le_of_ble_eq_true rfl)) R f0 (fx_k (c := 12) R (by decide +kernel)) (om_X11_standing (Nat.le_trans (by decide) hd) R f0 f1 hc_3) (fun _ _ qq => kx_lx qq) (fun _ _ qq => ?_)
    obtain ⟨rfl, Rq, Eq⟩ := kx_e qq
    by_cases hp_14 : q_12 = 0
    · have h := it_t hp_14 h
      subst hp_14
      refine Or.inr ⟨by decide, _, _, q_hand_k (n := 3) (h := (0, 9, 12, 13)) (by decide +kernel) (by decide +kernel) (by decide), ?_⟩
      refine go_iconst (n := 1) (z := 1) (by decide +kernel) (by decide) fun v_19 f_20 => ?_
      cases h
      exact go_iret (by decide +kernel) rfl (Or.inl rfl) f_20 (hQ Eq _ _ Rq (q_out_v (by decide) f_20))
    have h := it_f hp_14 h
    cases h
  refine go_callV (x := 52) (mi := 110) (n := 1) (ci := 12) (as := [v1]) (rest := [v_1, v2]) (by decide +kernel) (by decide +kernel) rfl rfl (q_sum8 _ (Nat.le_of_ble_eq_true rfl)) R f0 (fx_k (c := 12) R (by decide +kernel)) (om_X11_standing (Nat.le_trans (by decide) hd) R f0 f1 hc_3) (fun _ S_8 q_11 => ?_) (fun _ _ qq => kr_x (kx_l qq))
  have q_11 := kx_l q_11
  refine kr_z (by decide) q_11 fun v_6 f_7 R_9 E_10 => ?_
  have E_23 := E_10
  refine go_i2l (by decide +kernel) f_7 fun v_24 f_25 => ?_
  obtain ⟨m_26, e_27, h⟩ := up_s h
  refine go_last (kd := 101) (by decide +kernel) rfl R_9 f2 f_2 f_25 (fx_k (c := 101) R_9 (by decide +kernel)) (fx_x (a := 162) (ln := 1) R_9 (by decide +kernel) (by decide)) e_27 (fx_a R_9.2 (fx_k (c := 101) R_9 (by decide +kernel)) (And.left (fx_x (a := 162) (ln := 1) R_9 (by decide +kernel) (by decide))) (by decide +kernel)) fun S_28 R_29 E_30 => ?_
  have E_32 := Ext.tr E_23 E_30
  refine go_goto (o := 6) (t := 15) (by decide +kernel) (by decide +kernel) ?_
  refine go_iconst (n := 0) (z := 0) (by decide +kernel) (by decide) fun v_33 f_34 => ?_
  cases h
  exact go_iret (by decide +kernel) rfl (Or.inl rfl) f_34 (hQ E_32 _ _ R_29 (q_out_v (by decide) f_34))
noncomputable def fm_L_event (p1 p2 : Int) (m0 : MM) : Option (Int × MM) := bx (fm_X11_event p1 p2 m0) (fun q_12 m_5 =>
if q_12 = 0 then
some (1, m_5)
else none) fun x_4 m_5 =>
up m_5 162 0 x_4 fun m_26 =>
some (0, m_26)
set_option maxHeartbeats 4000000 in
theorem om_L_event {xs : List Int32} {d : Nat} {S : QS} {m0 : MM} {p1 p2 : Int} {v0 : Value} {v1 : Value} {v2 : Value} {v3 : Value} {rz : Int} {rm : MM}
  (hd : 6 ≤ d) (R : Rp S m0) (f0 : q_is 2 v0 4) (f1 : q_is 0 v1 p1) (f2 : q_is 0 v2 p2) (f3 : q_is 2 v3 162)
  (h : fm_L_event p1 p2 m0 = some (rz, rm)) : Mt xs d 351 [v0, v1, v2, v3] S (Cr 0 m0 rm rz) := by
  obtain ⟨d, rfl⟩ : ∃ e, d = e + 1 := ⟨d - 1, by omega⟩
  have hd : 5 ≤ d := Nat.le_of_succ_le_succ hd
  refine Mt.of (M := qM_L_event) rfl (by rw [sl_1 (q_is_cat f0 (Or.inr rfl)), sl_1 (q_is_cat f1 (Or.inl rfl)), sl_1 (q_is_cat f2 (Or.inl rfl)), sl_1 (q_is_cat f3 (Or.inr rfl)), sl_0]; decide) ?_
  rw [la_1 (q_is_cat f0 (Or.inr rfl)), la_1 (q_is_cat f1 (Or.inl rfl)), la_1 (q_is_cat f2 (Or.inl rfl)), la_1 (q_is_cat f3 (Or.inr rfl)), la_0]
  obtain ⟨L, hL⟩ : ∃ L : QL, L = [(0, v0), (0 + 1, v1), (0 + 1 + 1, v2), (0 + 1 + 1 + 1, v3)] := ⟨_, rfl⟩
  rw [← hL]
  have l0 : q_lo L 0 = some v0 := by rw [hL]; rfl
  have l1 : q_lo L 1 = some v1 := by rw [hL]; rfl
  have l2 : q_lo L 2 = some v2 := by rw [hL]; rfl
  have l3 : q_lo L 3 = some v3 := by rw [hL]; rfl
  have hQ : Ext m0 rm → ∀ o S1, Rp S1 rm → q_out 0 o rz → (Cr 0 m0 rm rz) o S1 := fun a o S1 b e => ⟨b, a, e⟩
  unfold fm_L_event at h
  refine go_aload_n (n := 3) (by decide +kernel) l3 f3 ?_
  refine go_iconst (n := 0) (z := 0) (by decide +kernel) (by decide) fun v_1 f_2 => ?_
  refine go_aload_n (n := 0) (by decide +kernel) l0 f0 ?_
  refine go_iload_n (n := 1) (by decide +kernel) l1 f1 ?_
  refine go_iload_n (n := 2) (by decide +kernel) l2 f2 ?_
  obtain ⟨rr5, m_5, hc_3, h⟩ := bx_s h
  rcases h with ⟨q_12, rfl, h⟩ | ⟨x_4, rfl, h⟩
  · refine go_callV (x := 55) (mi := 111) (n := 2) (ci := 12) (as := [v1, v2]) (rest := [v_1, v3]) (by decide +kernel) (by decide +kernel) rfl rfl (q_sum8 _ (Nat.le_of_ble_eq_true rfl)) R f0 (fx_k (c := 12) R (by decide +kernel)) (om_X11_event (Nat.le_trans (by decide) hd) R f0 f1 f2 hc_3) (fun _ _ qq => kx_lx qq) (fun _ _ qq => ?_)
    obtain ⟨rfl, Rq, Eq⟩ := kx_e qq
    by_cases hp_14 : q_12 = 0
    · have h := it_t hp_14 h
      subst hp_14
      refine Or.inr ⟨by decide, _, _, q_hand_n (n := 4) (h := (0, 10, 13, 13)) (by decide +kernel) (by decide +kernel) (by decide), ?_⟩
      refine go_iconst (n := 1) (z := 1) (by decide +kernel) (by decide) fun v_19 f_20 => ?_
      cases h
      exact go_iret (by decide +kernel) rfl (Or.inl rfl) f_20 (hQ Eq _ _ Rq (q_out_v (by decide) f_20))
    have h := it_f hp_14 h
    cases h
  refine go_callV (x := 55) (mi := 111) (n := 2) (ci := 12) (as := [v1, v2]) (rest := [v_1, v3]) (by decide +kernel) (by decide +kernel) rfl rfl (q_sum8 _ (Nat.le_of_ble_eq_true rfl)) R f0 (fx_k (c := 12) R (by decide +kernel)) (om_X11_event (Nat.le_trans (by decide) hd) R f0 f1 f2 hc_3) (fun _ S_8 q_11 => ?_) (fun _ _ qq => kr_x (kx_l qq))
  have q_11 := kx_l q_11
  refine kr_z (by decide) q_11 fun v_6 f_7 R_9 E_10 => ?_
  have E_23 := E_10
  refine go_i2l (by decide +kernel) f_7 fun v_24 f_25 => ?_
  obtain ⟨m_26, e_27, h⟩ := up_s h
  refine go_last (kd := 101) (by decide +kernel) rfl R_9 f3 f_2 f_25 (fx_k (c := 101) R_9 (by decide +kernel)) (fx_x (a := 162) (ln := 1) R_9 (by decide +kernel) (by decide)) e_27 (fx_a R_9.2 (fx_k (c := 101) R_9 (by decide +kernel)) (And.left (fx_x (a := 162) (ln := 1) R_9 (by decide +kernel) (by decide))) (by decide +kernel)) fun S_28 R_29 E_30 => ?_
  have E_32 := Ext.tr E_23 E_30
  refine go_goto (o := 7) (t := 17) (by decide +kernel) (by decide +kernel) ?_
  refine go_iconst (n := 0) (z := 0) (by decide +kernel) (by decide) fun v_33 f_34 => ?_
  cases h
  exact go_iret (by decide +kernel) rfl (Or.inl rfl) f_34 (hQ E_32 _ _ R_29 (q_out_v (by decide) f_34))
noncomputable def fm_L_difference (p1 : Int) (m0 : MM) : Option (Int × MM) := bx (fm_X11_difference p1 m0) (fun q_12 m_5 =>
if q_12 = 0 then
some (1, m_5)
else if q_12 = 2 then
some (2, m_5)
else none) fun x_4 m_5 =>
up m_5 162 0 x_4 fun m_33 =>
some (0, m_33)
set_option maxHeartbeats 4000000 in
theorem om_L_difference {xs : List Int32} {d : Nat} {S : QS} {m0 : MM} {p1 : Int} {v0 : Value} {v1 : Value} {v2 : Value} {rz : Int} {rm : MM}
  (hd : 6 ≤ d) (R : Rp S m0) (f0 : q_is 2 v0 4) (f1 : q_is 0 v1 p1) (f2 : q_is 2 v2 162)
  (h : fm_L_difference p1 m0 = some (rz, rm)) : Mt xs d 352 [v0, v1, v2] S (Cr 0 m0 rm rz) := by
  obtain ⟨d, rfl⟩ : ∃ e, d = e + 1 := ⟨d - 1, by omega⟩
  have hd : 5 ≤ d := Nat.le_of_succ_le_succ hd
  refine Mt.of (M := qM_L_difference) rfl (by rw [sl_1 (q_is_cat f0 (Or.inr rfl)), sl_1 (q_is_cat f1 (Or.inl rfl)), sl_1 (q_is_cat f2 (Or.inr rfl)), sl_0]; decide) ?_
  rw [la_1 (q_is_cat f0 (Or.inr rfl)), la_1 (q_is_cat f1 (Or.inl rfl)), la_1 (q_is_cat f2 (Or.inr rfl)), la_0]
  obtain ⟨L, hL⟩ : ∃ L : QL, L = [(0, v0), (0 + 1, v1), (0 + 1 + 1, v2)] := ⟨_, rfl⟩
  rw [← hL]
  have l0 : q_lo L 0 = some v0 := by rw [hL]; rfl
  have l1 : q_lo L 1 = some v1 := by rw [hL]; rfl
  have l2 : q_lo L 2 = some v2 := by rw [hL]; rfl
  have hQ : Ext m0 rm → ∀ o S1, Rp S1 rm → q_out 0 o rz → (Cr 0 m0 rm rz) o S1 := fun a o S1 b e => ⟨b, a, e⟩
  unfold fm_L_difference at h
  refine go_aload_n (n := 2) (by decide +kernel) l2 f2 ?_
  refine go_iconst (n := 0) (z := 0) (by decide +kernel) (by decide) fun v_1 f_2 => ?_
  refine go_aload_n (n := 0) (by decide +kernel) l0 f0 ?_
  refine go_iload_n (n := 1) (by decide +kernel) l1 f1 ?_
  obtain ⟨rr5, m_5, hc_3, h⟩ := bx_s h
  rcases h with ⟨q_12, rfl, h⟩ | ⟨x_4, rfl, h⟩
  · refine go_callV (x := 58) (mi := 112) (n := 1) (ci := 12) (as := [v1]) (rest := [v_1, v2]) (by decide +kernel) (by decide +kernel) rfl rfl (q_sum8 _ (Nat.le_of_ble_eq_true rfl)) R f0 (fx_k (c := 12) R (by decide +kernel)) (om_X11_difference (Nat.le_trans (by decide) hd) R f0 f1 hc_3) (fun _ _ qq => kx_lx qq) (fun _ _ qq => ?_)
    obtain ⟨rfl, Rq, Eq⟩ := kx_e qq
    by_cases hp_14 : q_12 = 0
    · have h := it_t hp_14 h
      subst hp_14
      refine Or.inr ⟨by decide, _, _, q_hand_k (n := 3) (h := (0, 9, 12, 13)) (by decide +kernel) (by decide +kernel) (by decide), ?_⟩
      refine go_iconst (n := 1) (z := 1) (by decide +kernel) (by decide) fun v_19 f_20 => ?_
      cases h
      exact go_iret (by decide +kernel) rfl (Or.inl rfl) f_20 (hQ Eq _ _ Rq (q_out_v (by decide) f_20))
    have h := it_f hp_14 h
    by_cases hp_21 : q_12 = 2
    · have h := it_t hp_21 h
      subst hp_21
      refine Or.inr ⟨by decide, _, _, q_hand_k (n := 3) (h := (0, 9, 15, 17)) (by decide +kernel) (by decide +kernel) (by decide), ?_⟩
      refine go_iconst (n := 2) (z := 2) (by decide +kernel) (by decide) fun v_26 f_27 => ?_
      cases h
      exact go_iret (by decide +kernel) rfl (Or.inl rfl) f_27 (hQ Eq _ _ Rq (q_out_v (by decide) f_27))
    have h := it_f hp_21 h
    cases h
  refine go_callV (x := 58) (mi := 112) (n := 1) (ci := 12) (as := [v1]) (rest := [v_1, v2]) (by decide +kernel) (by decide +kernel) rfl rfl (q_sum8 _ (Nat.le_of_ble_eq_true rfl)) R f0 (fx_k (c := 12) R (by decide +kernel)) (om_X11_difference (Nat.le_trans (by decide) hd) R f0 f1 hc_3) (fun _ S_8 q_11 => ?_) (fun _ _ qq => kr_x (kx_l qq))
  have q_11 := kx_l q_11
  refine kr_z (by decide) q_11 fun v_6 f_7 R_9 E_10 => ?_
  have E_30 := E_10
  refine go_i2l (by decide +kernel) f_7 fun v_31 f_32 => ?_
  obtain ⟨m_33, e_34, h⟩ := up_s h
  refine go_last (kd := 101) (by decide +kernel) rfl R_9 f2 f_2 f_32 (fx_k (c := 101) R_9 (by decide +kernel)) (fx_x (a := 162) (ln := 1) R_9 (by decide +kernel) (by decide)) e_34 (fx_a R_9.2 (fx_k (c := 101) R_9 (by decide +kernel)) (And.left (fx_x (a := 162) (ln := 1) R_9 (by decide +kernel) (by decide))) (by decide +kernel)) fun S_35 R_36 E_37 => ?_
  have E_39 := Ext.tr E_30 E_37
  refine go_goto (o := 9) (t := 18) (by decide +kernel) (by decide +kernel) ?_
  refine go_iconst (n := 0) (z := 0) (by decide +kernel) (by decide) fun v_40 f_41 => ?_
  cases h
  exact go_iret (by decide +kernel) rfl (Or.inl rfl) f_41 (hQ E_39 _ _ R_36 (q_out_v (by decide) f_41))
noncomputable def fm_L_setRate (p1 : Int) (m0 : MM) : Option (Int × MM) := bx (fm_X11_setRate p1 m0) (fun q_12 m_5 =>
if q_12 = 1 then
some (1, m_5)
else none) fun x_4 m_5 =>
up m_5 162 0 x_4 fun m_26 =>
some (0, m_26)
set_option maxHeartbeats 4000000 in
theorem om_L_setRate {xs : List Int32} {d : Nat} {S : QS} {m0 : MM} {p1 : Int} {v0 : Value} {v1 : Value} {v2 : Value} {rz : Int} {rm : MM}
  (hd : 2 ≤ d) (R : Rp S m0) (f0 : q_is 2 v0 4) (f1 : q_is 0 v1 p1) (f2 : q_is 2 v2 162)
  (h : fm_L_setRate p1 m0 = some (rz, rm)) : Mt xs d 353 [v0, v1, v2] S (Cr 0 m0 rm rz) := by
  obtain ⟨d, rfl⟩ : ∃ e, d = e + 1 := ⟨d - 1, by omega⟩
  have hd : 1 ≤ d := Nat.le_of_succ_le_succ hd
  refine Mt.of (M := qM_L_setRate) rfl (by rw [sl_1 (q_is_cat f0 (Or.inr rfl)), sl_1 (q_is_cat f1 (Or.inl rfl)), sl_1 (q_is_cat f2 (Or.inr rfl)), sl_0]; decide) ?_
  rw [la_1 (q_is_cat f0 (Or.inr rfl)), la_1 (q_is_cat f1 (Or.inl rfl)), la_1 (q_is_cat f2 (Or.inr rfl)), la_0]
  obtain ⟨L, hL⟩ : ∃ L : QL, L = [(0, v0), (0 + 1, v1), (0 + 1 + 1, v2)] := ⟨_, rfl⟩
  rw [← hL]
  have l0 : q_lo L 0 = some v0 := by rw [hL]; rfl
  have l1 : q_lo L 1 = some v1 := by rw [hL]; rfl
  have l2 : q_lo L 2 = some v2 := by rw [hL]; rfl
  have hQ : Ext m0 rm → ∀ o S1, Rp S1 rm → q_out 0 o rz → (Cr 0 m0 rm rz) o S1 := fun a o S1 b e => ⟨b, a, e⟩
  unfold fm_L_setRate at h
  refine go_aload_n (n := 2) (by decide +kernel) l2 f2 ?_
  refine go_iconst (n := 0) (z := 0) (by decide +kernel) (by decide) fun v_1 f_2 => ?_
  refine go_aload_n (n := 0) (by decide +kernel) l0 f0 ?_
  refine go_iload_n (n := 1) (by decide +kernel) l1 f1 ?_
  obtain ⟨rr5, m_5, hc_3, h⟩ := bx_s h
  rcases h with ⟨q_12, rfl, h⟩ | ⟨x_4, rfl, h⟩
  · refine go_callV (x := 61) (mi := 114) (n := 1) (ci := 12) (as := [v1]) (rest := [v_1, v2]) (by decide +kernel) (by decide +kernel) rfl rfl (q_sum8 _ (Nat.le_of_ble_eq_true rfl)) R f0 (fx_k (c := 12) R (by decide +kernel)) (om_X11_setRate (Nat.le_trans (by decide) hd) R f0 f1 hc_3) (fun _ _ qq => kx_lx qq) (fun _ _ qq => ?_)
    obtain ⟨rfl, Rq, Eq⟩ := kx_e qq
    by_cases hp_14 : q_12 = 1
    · have h := it_t hp_14 h
      subst hp_14
      refine Or.inr ⟨by decide, _, _, q_hand_k (n := 3) (h := (0, 9, 12, 15)) (by decide +kernel) (by decide +kernel) (by decide), ?_⟩
      refine go_iconst (n := 1) (z := 1) (by decide +kernel) (by decide) fun v_19 f_20 => ?_
      cases h
      exact go_iret (by decide +kernel) rfl (Or.inl rfl) f_20 (hQ Eq _ _ Rq (q_out_v (by decide) f_20))
    have h := it_f hp_14 h
    cases h
  refine go_callV (x := 61) (mi := 114) (n := 1) (ci := 12) (as := [v1]) (rest := [v_1, v2]) (by decide +kernel) (by decide +kernel) rfl rfl (q_sum8 _ (Nat.le_of_ble_eq_true rfl)) R f0 (fx_k (c := 12) R (by decide +kernel)) (om_X11_setRate (Nat.le_trans (by decide) hd) R f0 f1 hc_3) (fun _ S_8 q_11 => ?_) (fun _ _ qq => kr_x (kx_l qq))
  have q_11 := kx_l q_11
  refine kr_z (by decide) q_11 fun v_6 f_7 R_9 E_10 => ?_
  have E_23 := E_10
  refine go_i2l (by decide +kernel) f_7 fun v_24 f_25 => ?_
  obtain ⟨m_26, e_27, h⟩ := up_s h
  refine go_last (kd := 101) (by decide +kernel) rfl R_9 f2 f_2 f_25 (fx_k (c := 101) R_9 (by decide +kernel)) (fx_x (a := 162) (ln := 1) R_9 (by decide +kernel) (by decide)) e_27 (fx_a R_9.2 (fx_k (c := 101) R_9 (by decide +kernel)) (And.left (fx_x (a := 162) (ln := 1) R_9 (by decide +kernel) (by decide))) (by decide +kernel)) fun S_28 R_29 E_30 => ?_
  have E_32 := Ext.tr E_23 E_30
  refine go_goto (o := 6) (t := 15) (by decide +kernel) (by decide +kernel) ?_
  refine go_iconst (n := 0) (z := 0) (by decide +kernel) (by decide) fun v_33 f_34 => ?_
  cases h
  exact go_iret (by decide +kernel) rfl (Or.inl rfl) f_34 (hQ E_32 _ _ R_29 (q_out_v (by decide) f_34))
end DF48
