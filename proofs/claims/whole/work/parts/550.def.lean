/-! Methods as functions (written by wip/whole/dec.py), 50: L_join, L_schedule, L_togglePause, L_backfill, L_shift, L_bringIn, L_search, L_law. -/
section DF50
noncomputable def fm_L_join (m0 : MM) : Option (Int × MM) := bx (fm_X11_join m0) (fun q_12 m_5 =>
if q_12 = 2 then
some (1, m_5)
else none) fun x_4 m_5 =>
up m_5 162 0 x_4 fun m_26 =>
some (0, m_26)
set_option maxHeartbeats 4000000 in
theorem om_L_join {xs : List Int32} {d : Nat} {S : QS} {m0 : MM} {v0 : Value} {v1 : Value} {rz : Int} {rm : MM}
  (hd : 5 ≤ d) (R : Rp S m0) (f0 : q_is 2 v0 4) (f1 : q_is 2 v1 162)
  (h : fm_L_join m0 = some (rz, rm)) : Mt xs d 369 [v0, v1] S (Cr 0 m0 rm rz) := by
  obtain ⟨d, rfl⟩ : ∃ e, d = e + 1 := ⟨d - 1, by omega⟩
  have hd : 4 ≤ d := Nat.le_of_succ_le_succ hd
  refine Mt.of (M := qM_L_join) rfl (by rw [sl_1 (q_is_cat f0 (Or.inr rfl)), sl_1 (q_is_cat f1 (Or.inr rfl)), sl_0]; decide) ?_
  rw [la_1 (q_is_cat f0 (Or.inr rfl)), la_1 (q_is_cat f1 (Or.inr rfl)), la_0]
  obtain ⟨L, hL⟩ : ∃ L : QL, L = [(0, v0), (0 + 1, v1)] := ⟨_, rfl⟩
  rw [← hL]
  have l0 : q_lo L 0 = some v0 := by rw [hL]; rfl
  have l1 : q_lo L 1 = some v1 := by rw [hL]; rfl
  have hQ : Ext m0 rm → ∀ o S1, Rp S1 rm → q_out 0 o rz → (Cr 0 m0 rm rz) o S1 := fun a o S1 b e => ⟨b, a, e⟩
  unfold fm_L_join at h
  refine go_aload_n (n := 1) (by decide +kernel) l1 f1 ?_
  refine go_iconst (n := 0) (z := 0) (by decide +kernel) (by decide) fun v_1 f_2 => ?_
  refine go_aload_n (n := 0) (by decide +kernel) l0 f0 ?_
  obtain ⟨rr5, m_5, hc_3, h⟩ := bx_s h
  rcases h with ⟨q_12, rfl, h⟩ | ⟨x_4, rfl, h⟩
  · refine go_callV (x := 112) (mi := 130) (n := 0) (ci := 12) (as := []) (rest := [v_1, v1]) (by decide +kernel) (by decide +kernel) rfl rfl (q_sum8 _ (Nat.le_of_ble_eq_true rfl)) R f0 (fx_k (c := 12) R (by decide +kernel)) (om_X11_join (Nat.le_trans (by decide) hd) R f0 hc_3) (fun _ _ qq => kx_lx qq) (fun _ _ qq => ?_)
    obtain ⟨rfl, Rq, Eq⟩ := kx_e qq
    by_cases hp_14 : q_12 = 2
    · have h := it_t hp_14 h
      subst hp_14
      refine Or.inr ⟨by decide, _, _, q_hand_k (n := 2) (h := (0, 8, 11, 17)) (by decide +kernel) (by decide +kernel) (by decide), ?_⟩
      refine go_iconst (n := 1) (z := 1) (by decide +kernel) (by decide) fun v_19 f_20 => ?_
      cases h
      exact go_iret (by decide +kernel) rfl (Or.inl rfl) f_20 (hQ Eq _ _ Rq (q_out_v (by decide) f_20))
    have h := it_f hp_14 h
    cases h
  refine go_callV (x := 112) (mi := 130) (n := 0) (ci := 12) (as := []) (rest := [v_1, v1]) (by decide +kernel) (by decide +kernel) rfl rfl (q_sum8 _ (Nat.le_of_ble_eq_true rfl)) R f0 (fx_k (c := 12) R (by decide +kernel)) (om_X11_join (Nat.le_trans (by decide) hd) R f0 hc_3) (fun _ S_8 q_11 => ?_) (fun _ _ qq => kr_x (kx_l qq))
  have q_11 := kx_l q_11
  refine kr_z (by decide) q_11 fun v_6 f_7 R_9 E_10 => ?_
  have E_23 := E_10
  refine go_i2l (by decide +kernel) f_7 fun v_24 f_25 => ?_
  obtain ⟨m_26, e_27, h⟩ := up_s h
  refine go_last (kd := 101) (by decide +kernel) rfl R_9 f1 f_2 f_25 (fx_k (c := 101) R_9 (by decide +kernel)) (fx_x (a := 162) (ln := 1) R_9 (by decide +kernel) (by decide)) e_27 (fx_a R_9.2 (fx_k (c := 101) R_9 (by decide +kernel)) (And.left (fx_x (a := 162) (ln := 1) R_9 (by decide +kernel) (by decide))) (by decide +kernel)) fun S_28 R_29 E_30 => ?_
  have E_32 := Ext.tr E_23 E_30
  refine go_goto (o := 6) (t := 14) (by decide +kernel) (by decide +kernel) ?_
  refine go_iconst (n := 0) (z := 0) (by decide +kernel) (by decide) fun v_33 f_34 => ?_
  cases h
  exact go_iret (by decide +kernel) rfl (Or.inl rfl) f_34 (hQ E_32 _ _ R_29 (q_out_v (by decide) f_34))
noncomputable def fm_L_schedule (p1 p2 p3 p4 : Int) (m0 : MM) : Option (Int × MM) := bx (fm_X11_schedule p1 p2 p3 p4 m0) (fun q_12 m_5 =>
if q_12 = 0 then
some (1, m_5)
else if q_12 = 1 then
some (2, m_5)
else if q_12 = 2 then
some (3, m_5)
else none) fun x_4 m_5 =>
up m_5 162 0 x_4 fun m_40 =>
some (0, m_40)
set_option maxHeartbeats 4000000 in
theorem om_L_schedule {xs : List Int32} {d : Nat} {S : QS} {m0 : MM} {p1 p2 p3 p4 : Int} {v0 : Value} {v1 : Value} {v2 : Value} {v3 : Value} {v4 : Value} {v5 : Value} {rz : Int} {rm : MM}
  (hd : 10 ≤ d) (R : Rp S m0) (f0 : q_is 2 v0 4) (f1 : q_is 0 v1 p1) (f2 : q_is 0 v2 p2) (f3 : q_is 0 v3 p3) (f4 : q_is 0 v4 p4) (f5 : q_is 2 v5 162)
  (h : fm_L_schedule p1 p2 p3 p4 m0 = some (rz, rm)) : Mt xs d 370 [v0, v1, v2, v3, v4, v5] S (Cr 0 m0 rm rz) := by
  obtain ⟨d, rfl⟩ : ∃ e, d = e + 1 := ⟨d - 1, by omega⟩
  have hd : 9 ≤ d := Nat.le_of_succ_le_succ hd
  refine Mt.of (M := qM_L_schedule) rfl (by rw [sl_1 (q_is_cat f0 (Or.inr rfl)), sl_1 (q_is_cat f1 (Or.inl rfl)), sl_1 (q_is_cat f2 (Or.inl rfl)), sl_1 (q_is_cat f3 (Or.inl rfl)), sl_1 (q_is_cat f4 (Or.inl rfl)), sl_1 (q_is_cat f5 (Or.inr rfl)), sl_0]; decide) ?_
  rw [la_1 (q_is_cat f0 (Or.inr rfl)), la_1 (q_is_cat f1 (Or.inl rfl)), la_1 (q_is_cat f2 (Or.inl rfl)), la_1 (q_is_cat f3 (Or.inl rfl)), la_1 (q_is_cat f4 (Or.inl rfl)), la_1 (q_is_cat f5 (Or.inr rfl)), la_0]
  obtain ⟨L, hL⟩ : ∃ L : QL, L = [(0, v0), (0 + 1, v1), (0 + 1 + 1, v2), (0 + 1 + 1 + 1, v3), (0 + 1 + 1 + 1 + 1, v4), (0 + 1 + 1 + 1 + 1 + 1, v5)] := ⟨_, rfl⟩
  rw [← hL]
  have l0 : q_lo L 0 = some v0 := by rw [hL]; rfl
  have l1 : q_lo L 1 = some v1 := by rw [hL]; rfl
  have l2 : q_lo L 2 = some v2 := by rw [hL]; rfl
  have l3 : q_lo L 3 = some v3 := by rw [hL]; rfl
  have l4 : q_lo L 4 = some v4 := by rw [hL]; rfl
  have l5 : q_lo L 5 = some v5 := by rw [hL]; rfl
  have hQ : Ext m0 rm → ∀ o S1, Rp S1 rm → q_out 0 o rz → (Cr 0 m0 rm rz) o S1 := fun a o S1 b e => ⟨b, a, e⟩
  unfold fm_L_schedule at h
  refine go_aload (n := 5) (by decide +kernel) l5 f5 ?_
  refine go_iconst (n := 0) (z := 0) (by decide +kernel) (by decide) fun v_1 f_2 => ?_
  refine go_aload_n (n := 0) (by decide +kernel) l0 f0 ?_
  refine go_iload_n (n := 1) (by decide +kernel) l1 f1 ?_
  refine go_iload_n (n := 2) (by decide +kernel) l2 f2 ?_
  refine go_iload_n (n := 3) (by decide +kernel) l3 f3 ?_
  refine go_iload (n := 4) (by decide +kernel) l4 f4 ?_
  obtain ⟨rr5, m_5, hc_3, h⟩ := bx_s h
  rcases h with ⟨q_12, rfl, h⟩ | ⟨x_4, rfl, h⟩
  · refine go_callV (x := 115) (mi := 131) (n := 4) (ci := 12) (as := [v1, v2, v3, v4]) (rest := [v_1, v5]) (by decide +kernel) (by decide +kernel) rfl rfl (q_sum8 _ (Nat.le_of_ble_eq_true rfl)) R f0 (fx_k (c := 12) R (by decide +kernel)) (om_X11_schedule (Nat.le_trans (by decide) hd) R f0 f1 f2 f3 f4 hc_3) (fun _ _ qq => kx_lx qq) (fun _ _ qq => ?_)
    obtain ⟨rfl, Rq, Eq⟩ := kx_e qq
    by_cases hp_14 : q_12 = 0
    · have h := it_t hp_14 h
      subst hp_14
      refine Or.inr ⟨by decide, _, _, q_hand_n (n := 6) (h := (0, 14, 17, 13)) (by decide +kernel) (by decide +kernel) (by decide), ?_⟩
      refine go_iconst (n := 1) (z := 1) (by decide +kernel) (by decide) fun v_19 f_20 => ?_
      cases h
      exact go_iret (by decide +kernel) rfl (Or.inl rfl) f_20 (hQ Eq _ _ Rq (q_out_v (by decide) f_20))
    have h := it_f hp_14 h
    by_cases hp_21 : q_12 = 1
    · have h := it_t hp_21 h
      subst hp_21
      refine Or.inr ⟨by decide, _, _, q_hand_n (n := 6) (h := (0, 14, 21, 15)) (by decide +kernel) (by decide +kernel) (by decide), ?_⟩
      refine go_iconst (n := 2) (z := 2) (by decide +kernel) (by decide) fun v_26 f_27 => ?_
      cases h
      exact go_iret (by decide +kernel) rfl (Or.inl rfl) f_27 (hQ Eq _ _ Rq (q_out_v (by decide) f_27))
    have h := it_f hp_21 h
    by_cases hp_28 : q_12 = 2
    · have h := it_t hp_28 h
      subst hp_28
      refine Or.inr ⟨by decide, _, _, q_hand_n (n := 6) (h := (0, 14, 25, 17)) (by decide +kernel) (by decide +kernel) (by decide), ?_⟩
      refine go_iconst (n := 3) (z := 3) (by decide +kernel) (by decide) fun v_33 f_34 => ?_
      cases h
      exact go_iret (by decide +kernel) rfl (Or.inl rfl) f_34 (hQ Eq _ _ Rq (q_out_v (by decide) f_34))
    have h := it_f hp_28 h
    cases h
  refine go_callV (x := 115) (mi := 131) (n := 4) (ci := 12) (as := [v1, v2, v3, v4]) (rest := [v_1, v5]) (by decide +kernel) (by decide +kernel) rfl rfl (q_sum8 _ (Nat.le_of_ble_eq_true rfl)) R f0 (fx_k (c := 12) R (by decide +kernel)) (om_X11_schedule (Nat.le_trans (by decide) hd) R f0 f1 f2 f3 f4 hc_3) (fun _ S_8 q_11 => ?_) (fun _ _ qq => kr_x (kx_l qq))
  have q_11 := kx_l q_11
  refine kr_z (by decide) q_11 fun v_6 f_7 R_9 E_10 => ?_
  have E_37 := E_10
  refine go_i2l (by decide +kernel) f_7 fun v_38 f_39 => ?_
  obtain ⟨m_40, e_41, h⟩ := up_s h
  refine go_last (kd := 101) (by decide +kernel) rfl R_9 f5 f_2 f_39 (fx_k (c := 101) R_9 (by decide +kernel)) (fx_x (a := 162) (ln := 1) R_9 (by decide +kernel) (by decide)) e_41 (fx_a R_9.2 (fx_k (c := 101) R_9 (by decide +kernel)) (And.left (fx_x (a := 162) (ln := 1) R_9 (by decide +kernel) (by decide))) (by decide +kernel)) fun S_42 R_43 E_44 => ?_
  have E_46 := Ext.tr E_37 E_44
  refine go_goto (o := 15) (t := 29) (by decide +kernel) (by decide +kernel) ?_
  refine go_iconst (n := 0) (z := 0) (by decide +kernel) (by decide) fun v_47 f_48 => ?_
  cases h
  exact go_iret (by decide +kernel) rfl (Or.inl rfl) f_48 (hQ E_46 _ _ R_43 (q_out_v (by decide) f_48))
noncomputable def fm_L_togglePause (p1 : Int) (m0 : MM) : Option (Int × MM) := bx (fm_X11_togglePause p1 m0) (fun q_12 m_5 =>
if q_12 = 0 then
some (1, m_5)
else none) fun x_4 m_5 =>
if x_4 = 0 then
up m_5 162 0 0 fun m_27 =>
some (0, m_27)
else
up m_5 162 0 1 fun m_38 =>
some (0, m_38)
set_option maxHeartbeats 4000000 in
theorem om_L_togglePause {xs : List Int32} {d : Nat} {S : QS} {m0 : MM} {p1 : Int} {v0 : Value} {v1 : Value} {v2 : Value} {rz : Int} {rm : MM}
  (hd : 6 ≤ d) (R : Rp S m0) (f0 : q_is 2 v0 4) (f1 : q_is 0 v1 p1) (f2 : q_is 2 v2 162)
  (h : fm_L_togglePause p1 m0 = some (rz, rm)) : Mt xs d 371 [v0, v1, v2] S (Cr 0 m0 rm rz) := by
  obtain ⟨d, rfl⟩ : ∃ e, d = e + 1 := ⟨d - 1, by omega⟩
  have hd : 5 ≤ d := Nat.le_of_succ_le_succ hd
  refine Mt.of (M := qM_L_togglePause) rfl (by rw [sl_1 (q_is_cat f0 (Or.inr rfl)), sl_1 (q_is_cat f1 (Or.inl rfl)), sl_1 (q_is_cat f2 (Or.inr rfl)), sl_0]; decide) ?_
  rw [la_1 (q_is_cat f0 (Or.inr rfl)), la_1 (q_is_cat f1 (Or.inl rfl)), la_1 (q_is_cat f2 (Or.inr rfl)), la_0]
  obtain ⟨L, hL⟩ : ∃ L : QL, L = [(0, v0), (0 + 1, v1), (0 + 1 + 1, v2)] := ⟨_, rfl⟩
  rw [← hL]
  have l0 : q_lo L 0 = some v0 := by rw [hL]; rfl
  have l1 : q_lo L 1 = some v1 := by rw [hL]; rfl
  have l2 : q_lo L 2 = some v2 := by rw [hL]; rfl
  have hQ : Ext m0 rm → ∀ o S1, Rp S1 rm → q_out 0 o rz → (Cr 0 m0 rm rz) o S1 := fun a o S1 b e => ⟨b, a, e⟩
  unfold fm_L_togglePause at h
  refine go_aload_n (n := 2) (by decide +kernel) l2 f2 ?_
  refine go_iconst (n := 0) (z := 0) (by decide +kernel) (by decide) fun v_1 f_2 => ?_
  refine go_aload_n (n := 0) (by decide +kernel) l0 f0 ?_
  refine go_iload_n (n := 1) (by decide +kernel) l1 f1 ?_
  obtain ⟨rr5, m_5, hc_3, h⟩ := bx_s h
  rcases h with ⟨q_12, rfl, h⟩ | ⟨x_4, rfl, h⟩
  · refine go_callV (x := 118) (mi := 132) (n := 1) (ci := 12) (as := [v1]) (rest := [v_1, v2]) (by decide +kernel) (by decide +kernel) rfl rfl (q_sum8 _ (Nat.le_of_ble_eq_true rfl)) R f0 (fx_k (c := 12) R (by decide +kernel)) (om_X11_togglePause (Nat.le_trans (by decide) hd) R f0 f1 hc_3) (fun _ _ qq => kx_lx qq) (fun _ _ qq => ?_)
    obtain ⟨rfl, Rq, Eq⟩ := kx_e qq
    by_cases hp_14 : q_12 = 0
    · have h := it_t hp_14 h
      subst hp_14
      refine Or.inr ⟨by decide, _, _, q_hand_k (n := 3) (h := (0, 16, 19, 13)) (by decide +kernel) (by decide +kernel) (by decide), ?_⟩
      refine go_iconst (n := 1) (z := 1) (by decide +kernel) (by decide) fun v_19 f_20 => ?_
      cases h
      exact go_iret (by decide +kernel) rfl (Or.inl rfl) f_20 (hQ Eq _ _ Rq (q_out_v (by decide) f_20))
    have h := it_f hp_14 h
    cases h
  refine go_callV (x := 118) (mi := 132) (n := 1) (ci := 12) (as := [v1]) (rest := [v_1, v2]) (by decide +kernel) (by decide +kernel) rfl rfl (q_sum8 _ (Nat.le_of_ble_eq_true rfl)) R f0 (fx_k (c := 12) R (by decide +kernel)) (om_X11_togglePause (Nat.le_trans (by decide) hd) R f0 f1 hc_3) (fun _ S_8 q_11 => ?_) (fun _ _ qq => kr_x (kx_l qq))
  have q_11 := kx_l q_11
  refine kr_z (by decide) q_11 fun v_6 f_7 R_9 E_10 => ?_
  have E_23 := E_10
  refine go_if (c := .eq) (o := 7) (t := 14) (P := x_4 = 0) (by decide +kernel) (by decide +kernel) f_7 (Iff.rfl) (fun hp_24 => ?_) (fun hp_24 => ?_)
  · have h := it_t hp_24 h
    refine go_lconst (n := 0) (z := 0) (by decide +kernel) (by decide) fun v_25 f_26 => ?_
    obtain ⟨m_27, e_28, h⟩ := up_s h
    refine go_last (kd := 101) (by decide +kernel) rfl R_9 f2 f_2 f_26 (fx_k (c := 101) R_9 (by decide +kernel)) (fx_x (a := 162) (ln := 1) R_9 (by decide +kernel) (by decide)) e_28 (fx_a R_9.2 (fx_k (c := 101) R_9 (by decide +kernel)) (And.left (fx_x (a := 162) (ln := 1) R_9 (by decide +kernel) (by decide))) (by decide +kernel)) fun S_29 R_30 E_31 => ?_
    have E_33 := Ext.tr E_23 E_31
    refine go_goto (o := 6) (t := 22) (by decide +kernel) (by decide +kernel) ?_
    refine go_iconst (n := 0) (z := 0) (by decide +kernel) (by decide) fun v_34 f_35 => ?_
    cases h
    exact go_iret (by decide +kernel) rfl (Or.inl rfl) f_35 (hQ E_33 _ _ R_30 (q_out_v (by decide) f_35))
  · have h := it_f hp_24 h
    refine go_lconst (n := 1) (z := 1) (by decide +kernel) (by decide) fun v_36 f_37 => ?_
    refine go_goto (o := 4) (t := 15) (by decide +kernel) (by decide +kernel) ?_
    obtain ⟨m_38, e_39, h⟩ := up_s h
    refine go_last (kd := 101) (by decide +kernel) rfl R_9 f2 f_2 f_37 (fx_k (c := 101) R_9 (by decide +kernel)) (fx_x (a := 162) (ln := 1) R_9 (by decide +kernel) (by decide)) e_39 (fx_a R_9.2 (fx_k (c := 101) R_9 (by decide +kernel)) (And.left (fx_x (a := 162) (ln := 1) R_9 (by decide +kernel) (by decide))) (by decide +kernel)) fun S_40 R_41 E_42 => ?_
    have E_44 := Ext.tr E_23 E_42
    refine go_goto (o := 6) (t := 22) (by decide +kernel) (by decide +kernel) ?_
    refine go_iconst (n := 0) (z := 0) (by decide +kernel) (by decide) fun v_45 f_46 => ?_
    cases h
    exact go_iret (by decide +kernel) rfl (Or.inl rfl) f_46 (hQ E_44 _ _ R_41 (q_out_v (by decide) f_46))
noncomputable def fm_L_backfill (p1 p2 : Int) (m0 : MM) : Option (Int × MM) := bx (fm_X11_backfill p1 p2 m0) (fun q_12 m_5 =>
if q_12 = 0 then
some (1, m_5)
else if q_12 = 1 then
some (2, m_5)
else none) fun x_4 m_5 =>
up m_5 162 0 x_4 fun m_33 =>
some (0, m_33)
set_option maxHeartbeats 4000000 in
theorem om_L_backfill {xs : List Int32} {d : Nat} {S : QS} {m0 : MM} {p1 p2 : Int} {v0 : Value} {v1 : Value} {v2 : Value} {v3 : Value} {rz : Int} {rm : MM}
  (hd : 12 ≤ d) (R : Rp S m0) (f0 : q_is 2 v0 4) (f1 : q_is 0 v1 p1) (f2 : q_is 0 v2 p2) (f3 : q_is 2 v3 162)
  (h : fm_L_backfill p1 p2 m0 = some (rz, rm)) : Mt xs d 372 [v0, v1, v2, v3] S (Cr 0 m0 rm rz) := by
  obtain ⟨d, rfl⟩ : ∃ e, d = e + 1 := ⟨d - 1, by omega⟩
  have hd : 11 ≤ d := Nat.le_of_succ_le_succ hd
  refine Mt.of (M := qM_L_backfill) rfl (by rw [sl_1 (q_is_cat f0 (Or.inr rfl)), sl_1 (q_is_cat f1 (Or.inl rfl)), sl_1 (q_is_cat f2 (Or.inl rfl)), sl_1 (q_is_cat f3 (Or.inr rfl)), sl_0]; decide) ?_
  rw [la_1 (q_is_cat f0 (Or.inr rfl)), la_1 (q_is_cat f1 (Or.inl rfl)), la_1 (q_is_cat f2 (Or.inl rfl)), la_1 (q_is_cat f3 (Or.inr rfl)), la_0]
  obtain ⟨L, hL⟩ : ∃ L : QL, L = [(0, v0), (0 + 1, v1), (0 + 1 + 1, v2), (0 + 1 + 1 + 1, v3)] := ⟨_, rfl⟩
  rw [← hL]
  have l0 : q_lo L 0 = some v0 := by rw [hL]; rfl
  have l1 : q_lo L 1 = some v1 := by rw [hL]; rfl
  have l2 : q_lo L 2 = some v2 := by rw [hL]; rfl
  have l3 : q_lo L 3 = some v3 := by rw [hL]; rfl
  have hQ : Ext m0 rm → ∀ o S1, Rp S1 rm → q_out 0 o rz → (Cr 0 m0 rm rz) o S1 := fun a o S1 b e => ⟨b, a, e⟩
  unfold fm_L_backfill at h
  refine go_aload_n (n := 3) (by decide +kernel) l3 f3 ?_
  refine go_iconst (n := 0) (z := 0) (by decide +kernel) (by decide) fun v_1 f_2 => ?_
  refine go_aload_n (n := 0) (by decide +kernel) l0 f0 ?_
  refine go_iload_n (n := 1) (by decide +kernel) l1 f1 ?_
  refine go_iload_n (n := 2) (by decide +kernel) l2 f2 ?_
  obtain ⟨rr5, m_5, hc_3, h⟩ := bx_s h
  rcases h with ⟨q_12, rfl, h⟩ | ⟨x_4, rfl, h⟩
  · refine go_callV (x := 121) (mi := 133) (n := 2) (ci := 12) (as := [v1, v2]) (rest := [v_1, v3]) (by decide +kernel) (by decide +kernel) rfl rfl (q_sum8 _ (Nat.le_of_ble_eq_true rfl)) R f0 (fx_k (c := 12) R (by decide +kernel)) (om_X11_backfill (Nat.le_trans (by decide) hd) R f0 f1 f2 hc_3) (fun _ _ qq => kx_lx qq) (fun _ _ qq => ?_)
    obtain ⟨rfl, Rq, Eq⟩ := kx_e qq
    by_cases hp_14 : q_12 = 0
    · have h := it_t hp_14 h
      subst hp_14
      refine Or.inr ⟨by decide, _, _, q_hand_n (n := 4) (h := (0, 10, 13, 13)) (by decide +kernel) (by decide +kernel) (by decide), ?_⟩
      refine go_iconst (n := 1) (z := 1) (by decide +kernel) (by decide) fun v_19 f_20 => ?_
      cases h
      exact go_iret (by decide +kernel) rfl (Or.inl rfl) f_20 (hQ Eq _ _ Rq (q_out_v (by decide) f_20))
    have h := it_f hp_14 h
    by_cases hp_21 : q_12 = 1
    · have h := it_t hp_21 h
      subst hp_21
      refine Or.inr ⟨by decide, _, _, q_hand_n (n := 4) (h := (0, 10, 17, 15)) (by decide +kernel) (by decide +kernel) (by decide), ?_⟩
      refine go_iconst (n := 2) (z := 2) (by decide +kernel) (by decide) fun v_26 f_27 => ?_
      cases h
      exact go_iret (by decide +kernel) rfl (Or.inl rfl) f_27 (hQ Eq _ _ Rq (q_out_v (by decide) f_27))
    have h := it_f hp_21 h
    cases h
  refine go_callV (x := 121) (mi := 133) (n := 2) (ci := 12) (as := [v1, v2]) (rest := [v_1, v3]) (by decide +kernel) (by decide +kernel) rfl rfl (q_sum8 _ (Nat.le_of_ble_eq_true rfl)) R f0 (fx_k (c := 12) R (by decide +kernel)) (om_X11_backfill (Nat.le_trans (by decide) hd) R f0 f1 f2 hc_3) (fun _ S_8 q_11 => ?_) (fun _ _ qq => kr_x (kx_l qq))
  have q_11 := kx_l q_11
  refine kr_z (by decide) q_11 fun v_6 f_7 R_9 E_10 => ?_
  have E_30 := E_10
  refine go_i2l (by decide +kernel) f_7 fun v_31 f_32 => ?_
  obtain ⟨m_33, e_34, h⟩ := up_s h
  refine go_last (kd := 101) (by decide +kernel) rfl R_9 f3 f_2 f_32 (fx_k (c := 101) R_9 (by decide +kernel)) (fx_x (a := 162) (ln := 1) R_9 (by decide +kernel) (by decide)) e_34 (fx_a R_9.2 (fx_k (c := 101) R_9 (by decide +kernel)) (And.left (fx_x (a := 162) (ln := 1) R_9 (by decide +kernel) (by decide))) (by decide +kernel)) fun S_35 R_36 E_37 => ?_
  have E_39 := Ext.tr E_30 E_37
  refine go_goto (o := 11) (t := 21) (by decide +kernel) (by decide +kernel) ?_
  refine go_iconst (n := 0) (z := 0) (by decide +kernel) (by decide) fun v_40 f_41 => ?_
  cases h
  exact go_iret (by decide +kernel) rfl (Or.inl rfl) f_41 (hQ E_39 _ _ R_36 (q_out_v (by decide) f_41))
noncomputable def fm_L_shift (p1 : Int) (m0 : MM) : Option (Int × MM) := bx (fm_X11_shift p1 m0) (fun q_12 m_5 =>
if q_12 = 1 then
some (1, m_5)
else none) fun x_4 m_5 =>
up m_5 162 0 x_4 fun m_26 =>
some (0, m_26)
set_option maxHeartbeats 4000000 in
theorem om_L_shift {xs : List Int32} {d : Nat} {S : QS} {m0 : MM} {p1 : Int} {v0 : Value} {v1 : Value} {v2 : Value} {rz : Int} {rm : MM}
  (hd : 2 ≤ d) (R : Rp S m0) (f0 : q_is 2 v0 4) (f1 : q_is 0 v1 p1) (f2 : q_is 2 v2 162)
  (h : fm_L_shift p1 m0 = some (rz, rm)) : Mt xs d 373 [v0, v1, v2] S (Cr 0 m0 rm rz) := by
  obtain ⟨d, rfl⟩ : ∃ e, d = e + 1 := ⟨d - 1, by omega⟩
  have hd : 1 ≤ d := Nat.le_of_succ_le_succ hd
  refine Mt.of (M := qM_L_shift) rfl (by rw [sl_1 (q_is_cat f0 (Or.inr rfl)), sl_1 (q_is_cat f1 (Or.inl rfl)), sl_1 (q_is_cat f2 (Or.inr rfl)), sl_0]; decide) ?_
  rw [la_1 (q_is_cat f0 (Or.inr rfl)), la_1 (q_is_cat f1 (Or.inl rfl)), la_1 (q_is_cat f2 (Or.inr rfl)), la_0]
  obtain ⟨L, hL⟩ : ∃ L : QL, L = [(0, v0), (0 + 1, v1), (0 + 1 + 1, v2)] := ⟨_, rfl⟩
  rw [← hL]
  have l0 : q_lo L 0 = some v0 := by rw [hL]; rfl
  have l1 : q_lo L 1 = some v1 := by rw [hL]; rfl
  have l2 : q_lo L 2 = some v2 := by rw [hL]; rfl
  have hQ : Ext m0 rm → ∀ o S1, Rp S1 rm → q_out 0 o rz → (Cr 0 m0 rm rz) o S1 := fun a o S1 b e => ⟨b, a, e⟩
  unfold fm_L_shift at h
  refine go_aload_n (n := 2) (by decide +kernel) l2 f2 ?_
  refine go_iconst (n := 0) (z := 0) (by decide +kernel) (by decide) fun v_1 f_2 => ?_
  refine go_aload_n (n := 0) (by decide +kernel) l0 f0 ?_
  refine go_iload_n (n := 1) (by decide +kernel) l1 f1 ?_
  obtain ⟨rr5, m_5, hc_3, h⟩ := bx_s h
  rcases h with ⟨q_12, rfl, h⟩ | ⟨x_4, rfl, h⟩
  · refine go_callV (x := 124) (mi := 134) (n := 1) (ci := 12) (as := [v1]) (rest := [v_1, v2]) (by decide +kernel) (by decide +kernel) rfl rfl (q_sum8 _ (Nat.le_of_ble_eq_true rfl)) R f0 (fx_k (c := 12) R (by decide +kernel)) (om_X11_shift (Nat.le_trans (by decide) hd) R f0 f1 hc_3) (fun _ _ qq => kx_lx qq) (fun _ _ qq => ?_)
    obtain ⟨rfl, Rq, Eq⟩ := kx_e qq
    by_cases hp_14 : q_12 = 1
    · have h := it_t hp_14 h
      subst hp_14
      refine Or.inr ⟨by decide, _, _, q_hand_k (n := 3) (h := (0, 9, 12, 15)) (by decide +kernel) (by decide +kernel) (by decide), ?_⟩
      refine go_iconst (n := 1) (z := 1) (by decide +kernel) (by decide) fun v_19 f_20 => ?_
      cases h
      exact go_iret (by decide +kernel) rfl (Or.inl rfl) f_20 (hQ Eq _ _ Rq (q_out_v (by decide) f_20))
    have h := it_f hp_14 h
    cases h
  refine go_callV (x := 124) (mi := 134) (n := 1) (ci := 12) (as := [v1]) (rest := [v_1, v2]) (by decide +kernel) (by decide +kernel) rfl rfl (q_sum8 _ (Nat.le_of_ble_eq_true rfl)) R f0 (fx_k (c := 12) R (by decide +kernel)) (om_X11_shift (Nat.le_trans (by decide) hd) R f0 f1 hc_3) (fun _ S_8 q_11 => ?_) (fun _ _ qq => kr_x (kx_l qq))
  have q_11 := kx_l q_11
  refine kr_z (by decide) q_11 fun v_6 f_7 R_9 E_10 => ?_
  have E_23 := E_10
  refine go_i2l (by decide +kernel) f_7 fun v_24 f_25 => ?_
  obtain ⟨m_26, e_27, h⟩ := up_s h
  refine go_last (kd := 101) (by decide +kernel) rfl R_9 f2 f_2 f_25 (fx_k (c := 101) R_9 (by decide +kernel)) (fx_x (a := 162) (ln := 1) R_9 (by decide +kernel) (by decide)) e_27 (fx_a R_9.2 (fx_k (c := 101) R_9 (by decide +kernel)) (And.left (fx_x (a := 162) (ln := 1) R_9 (by decide +kernel) (by decide))) (by decide +kernel)) fun S_28 R_29 E_30 => ?_
  have E_32 := Ext.tr E_23 E_30
  refine go_goto (o := 6) (t := 15) (by decide +kernel) (by decide +kernel) ?_
  refine go_iconst (n := 0) (z := 0) (by decide +kernel) (by decide) fun v_33 f_34 => ?_
  cases h
  exact go_iret (by decide +kernel) rfl (Or.inl rfl) f_34 (hQ E_32 _ _ R_29 (q_out_v (by decide) f_34))
noncomputable def fm_L_bringIn (p1 : Int) (m0 : MM) : Option (Int × MM) := bx (fm_X11_bringIn p1 m0) (fun q_12 m_5 =>
if q_12 = 1 then
some (1, m_5)
else none) fun x_4 m_5 =>
up m_5 162 0 x_4 fun m_26 =>
some (0, m_26)
set_option maxHeartbeats 4000000 in
theorem om_L_bringIn {xs : List Int32} {d : Nat} {S : QS} {m0 : MM} {p1 : Int} {v0 : Value} {v1 : Value} {v2 : Value} {rz : Int} {rm : MM}
  (hd : 5 ≤ d) (R : Rp S m0) (f0 : q_is 2 v0 4) (f1 : q_is 0 v1 p1) (f2 : q_is 2 v2 162)
  (h : fm_L_bringIn p1 m0 = some (rz, rm)) : Mt xs d 374 [v0, v1, v2] S (Cr 0 m0 rm rz) := by
  obtain ⟨d, rfl⟩ : ∃ e, d = e + 1 := ⟨d - 1, by omega⟩
  have hd : 4 ≤ d := Nat.le_of_succ_le_succ hd
  refine Mt.of (M := qM_L_bringIn) rfl (by rw [sl_1 (q_is_cat f0 (Or.inr rfl)), sl_1 (q_is_cat f1 (Or.inl rfl)), sl_1 (q_is_cat f2 (Or.inr rfl)), sl_0]; decide) ?_
  rw [la_1 (q_is_cat f0 (Or.inr rfl)), la_1 (q_is_cat f1 (Or.inl rfl)), la_1 (q_is_cat f2 (Or.inr rfl)), la_0]
  obtain ⟨L, hL⟩ : ∃ L : QL, L = [(0, v0), (0 + 1, v1), (0 + 1 + 1, v2)] := ⟨_, rfl⟩
  rw [← hL]
  have l0 : q_lo L 0 = some v0 := by rw [hL]; rfl
  have l1 : q_lo L 1 = some v1 := by rw [hL]; rfl
  have l2 : q_lo L 2 = some v2 := by rw [hL]; rfl
  have hQ : Ext m0 rm → ∀ o S1, Rp S1 rm → q_out 0 o rz → (Cr 0 m0 rm rz) o S1 := fun a o S1 b e => ⟨b, a, e⟩
  unfold fm_L_bringIn at h
  refine go_aload_n (n := 2) (by decide +kernel) l2 f2 ?_
  refine go_iconst (n := 0) (z := 0) (by decide +kernel) (by decide) fun v_1 f_2 => ?_
  refine go_aload_n (n := 0) (by decide +kernel) l0 f0 ?_
  refine go_iload_n (n := 1) (by decide +kernel) l1 f1 ?_
  obtain ⟨rr5, m_5, hc_3, h⟩ := bx_s h
  rcases h with ⟨q_12, rfl, h⟩ | ⟨x_4, rfl, h⟩
  · refine go_callV (x := 127) (mi := 135) (n := 1) (ci := 12) (as := [v1]) (rest := [v_1, v2]) (by decide +kernel) (by decide +kernel) rfl rfl (q_sum8 _ (Nat.le_of_ble_eq_true rfl)) R f0 (fx_k (c := 12) R (by decide +kernel)) (om_X11_bringIn (Nat.le_trans (by decide) hd) R f0 f1 hc_3) (fun _ _ qq => kx_lx qq) (fun _ _ qq => ?_)
    obtain ⟨rfl, Rq, Eq⟩ := kx_e qq
    by_cases hp_14 : q_12 = 1
    · have h := it_t hp_14 h
      subst hp_14
      refine Or.inr ⟨by decide, _, _, q_hand_k (n := 3) (h := (0, 9, 12, 15)) (by decide +kernel) (by decide +kernel) (by decide), ?_⟩
      refine go_iconst (n := 1) (z := 1) (by decide +kernel) (by decide) fun v_19 f_20 => ?_
      cases h
      exact go_iret (by decide +kernel) rfl (Or.inl rfl) f_20 (hQ Eq _ _ Rq (q_out_v (by decide) f_20))
    have h := it_f hp_14 h
    cases h
  refine go_callV (x := 127) (mi := 135) (n := 1) (ci := 12) (as := [v1]) (rest := [v_1, v2]) (by decide +kernel) (by decide +kernel) rfl rfl (q_sum8 _ (Nat.le_of_ble_eq_true rfl)) R f0 (fx_k (c := 12) R (by decide +kernel)) (om_X11_bringIn (Nat.le_trans (by decide) hd) R f0 f1 hc_3) (fun _ S_8 q_11 => ?_) (fun _ _ qq => kr_x (kx_l qq))
  have q_11 := kx_l q_11
  refine kr_z (by decide) q_11 fun v_6 f_7 R_9 E_10 => ?_
  have E_23 := E_10
  refine go_i2l (by decide +kernel) f_7 fun v_24 f_25 => ?_
  obtain ⟨m_26, e_27, h⟩ := up_s h
  refine go_last (kd := 101) (by decide +kernel) rfl R_9 f2 f_2 f_25 (fx_k (c := 101) R_9 (by decide +kernel)) (fx_x (a := 162) (ln := 1) R_9 (by decide +kernel) (by decide)) e_27 (fx_a R_9.2 (fx_k (c := 101) R_9 (by decide +kernel)) (And.left (fx_x (a := 162) (ln := 1) R_9 (by decide +kernel) (by decide))) (by decide +kernel)) fun S_28 R_29 E_30 => ?_
  have E_32 := Ext.tr E_23 E_30
  refine go_goto (o := 6) (t := 15) (by decide +kernel) (by decide +kernel) ?_
  refine go_iconst (n := 0) (z := 0) (by decide +kernel) (by decide) fun v_33 f_34 => ?_
  cases h
  exact go_iret (by decide +kernel) rfl (Or.inl rfl) f_34 (hQ E_32 _ _ R_29 (q_out_v (by decide) f_34))
noncomputable def fm_L_search (p1 : Int) (m0 : MM) : Option (Int × MM) := bx (fm_X11_search p1 m0) (fun q_12 m_5 =>
if q_12 = 1 then
some (1, m_5)
else none) fun x_4 m_5 =>
up m_5 162 0 x_4 fun m_26 =>
some (0, m_26)
set_option maxHeartbeats 4000000 in
theorem om_L_search {xs : List Int32} {d : Nat} {S : QS} {m0 : MM} {p1 : Int} {v0 : Value} {v1 : Value} {v2 : Value} {rz : Int} {rm : MM}
  (hd : 5 ≤ d) (R : Rp S m0) (f0 : q_is 2 v0 4) (f1 : q_is 0 v1 p1) (f2 : q_is 2 v2 162)
  (h : fm_L_search p1 m0 = some (rz, rm)) : Mt xs d 375 [v0, v1, v2] S (Cr 0 m0 rm rz) := by
  obtain ⟨d, rfl⟩ : ∃ e, d = e + 1 := ⟨d - 1, by omega⟩
  have hd : 4 ≤ d := Nat.le_of_succ_le_succ hd
  refine Mt.of (M := qM_L_search) rfl (by rw [sl_1 (q_is_cat f0 (Or.inr rfl)), sl_1 (q_is_cat f1 (Or.inl rfl)), sl_1 (q_is_cat f2 (Or.inr rfl)), sl_0]; decide) ?_
  rw [la_1 (q_is_cat f0 (Or.inr rfl)), la_1 (q_is_cat f1 (Or.inl rfl)), la_1 (q_is_cat f2 (Or.inr rfl)), la_0]
  obtain ⟨L, hL⟩ : ∃ L : QL, L = [(0, v0), (0 + 1, v1), (0 + 1 + 1, v2)] := ⟨_, rfl⟩
  rw [← hL]
  have l0 : q_lo L 0 = some v0 := by rw [hL]; rfl
  have l1 : q_lo L 1 = some v1 := by rw [hL]; rfl
  have l2 : q_lo L 2 = some v2 := by rw [hL]; rfl
  have hQ : Ext m0 rm → ∀ o S1, Rp S1 rm → q_out 0 o rz → (Cr 0 m0 rm rz) o S1 := fun a o S1 b e => ⟨b, a, e⟩
  unfold fm_L_search at h
  refine go_aload_n (n := 2) (by decide +kernel) l2 f2 ?_
  refine go_iconst (n := 0) (z := 0) (by decide +kernel) (by decide) fun v_1 f_2 => ?_
  refine go_aload_n (n := 0) (by decide +kernel) l0 f0 ?_
  refine go_iload_n (n := 1) (by decide +kernel) l1 f1 ?_
  obtain ⟨rr5, m_5, hc_3, h⟩ := bx_s h
  rcases h with ⟨q_12, rfl, h⟩ | ⟨x_4, rfl, h⟩
  · refine go_callV (x := 130) (mi := 136) (n := 1) (ci := 12) (as := [v1]) (rest := [v_1, v2]) (by decide +kernel) (by decide +kernel) rfl rfl (q_sum8 _ (Nat.le_of_ble_eq_true rfl)) R f0 (fx_k (c := 12) R (by decide +kernel)) (om_X11_search (Nat.le_trans (by decide) hd) R f0 f1 hc_3) (fun _ _ qq => kx_lx qq) (fun _ _ qq => ?_)
    obtain ⟨rfl, Rq, Eq⟩ := kx_e qq
    by_cases hp_14 : q_12 = 1
    · have h := it_t hp_14 h
      subst hp_14
      refine Or.inr ⟨by decide, _, _, q_hand_k (n := 3) (h := (0, 9, 12, 15)) (by decide +kernel) (by decide +kernel) (by decide), ?_⟩
      refine go_iconst (n := 1) (z := 1) (by decide +kernel) (by decide) fun v_19 f_20 => ?_
      cases h
      exact go_iret (by decide +kernel) rfl (Or.inl rfl) f_20 (hQ Eq _ _ Rq (q_out_v (by decide) f_20))
    have h := it_f hp_14 h
    cases h
  refine go_callV (x := 130) (mi := 136) (n := 1) (ci := 12) (as := [v1]) (rest := [v_1, v2]) (by decide +kernel) (by decide +kernel) rfl rfl (q_sum8 _ (Nat.le_of_ble_eq_true rfl)) R f0 (fx_k (c := 12) R (by decide +kernel)) (om_X11_search (Nat.le_trans (by decide) hd) R f0 f1 hc_3) (fun _ S_8 q_11 => ?_) (fun _ _ qq => kr_x (kx_l qq))
  have q_11 := kx_l q_11
  refine kr_z (by decide) q_11 fun v_6 f_7 R_9 E_10 => ?_
  have E_23 := E_10
  refine go_i2l (by decide +kernel) f_7 fun v_24 f_25 => ?_
  obtain ⟨m_26, e_27, h⟩ := up_s h
  refine go_last (kd := 101) (by decide +kernel) rfl R_9 f2 f_2 f_25 (fx_k (c := 101) R_9 (by decide +kernel)) (fx_x (a := 162) (ln := 1) R_9 (by decide +kernel) (by decide)) e_27 (fx_a R_9.2 (fx_k (c := 101) R_9 (by decide +kernel)) (And.left (fx_x (a := 162) (ln := 1) R_9 (by decide +kernel) (by decide))) (by decide +kernel)) fun S_28 R_29 E_30 => ?_
  have E_32 := Ext.tr E_23 E_30
  refine go_goto (o := 6) (t := 15) (by decide +kernel) (by decide +kernel) ?_
  refine go_iconst (n := 0) (z := 0) (by decide +kernel) (by decide) fun v_33 f_34 => ?_
  cases h
  exact go_iret (by decide +kernel) rfl (Or.inl rfl) f_34 (hQ E_32 _ _ R_29 (q_out_v (by decide) f_34))
noncomputable def fj_L_law_204 (xs : List Int32) (c : Int → MM → Option (Int × MM)) (y4 : Int) (m : MM) : Option (Int × MM) := gd (0 ≤ w32 (y4 + 1) ∧ w32 (y4 + 1) < (xs.length : Int)) <| gd (0 ≤ w32 (y4 + 2) ∧ w32 (y4 + 2) < (xs.length : Int)) <| gd (0 ≤ w32 (y4 + 3) ∧ w32 (y4 + 3) < (xs.length : Int)) <| gd (0 ≤ w32 (y4 + 4) ∧ w32 (y4 + 4) < (xs.length : Int)) <| bd (fm_L_line (scr xs (w32 (y4 + 1))) (scr xs (w32 (y4 + 2))) (scr xs (w32 (y4 + 3))) (scr xs (w32 (y4 + 4))) m) fun x_48 m_49 =>
bd (fm_X12_line (scr xs (w32 (y4 + 1))) (scr xs (w32 (y4 + 2))) (scr xs (w32 (y4 + 3))) (scr xs (w32 (y4 + 4))) m_49) fun x_92 m_93 =>
bp (fm_X12_thrown m_93) fun x_113 =>
if x_113 = x_48 then
if x_48 = 0 then
lx (m_93 162 0) fun x_140 =>
if x_140 = x_92 then
lx (w32 (y4 + 7)) fun x_152 =>
c x_152 m_93
else
some (0, m_93)
else
lx (w32 (y4 + 7)) fun x_128 =>
c x_128 m_93
else
some (0, m_93)
set_option maxHeartbeats 4000000 in
theorem oj_L_law_204 {xs : List Int32} {d : Nat} {S : QS} {L : QL} {Q : QO → QS → Prop} {m : MM} {y4 : Int} {v0 : Value} {v1 : Value} {v2 : Value} {v3 : Value} {v4 : Value}  {rz : Int} {rm : MM} {c : Int → MM → Option (Int × MM)} 
  (hd : 174 ≤ d) (R : Rp S m) (l0 : q_lo L 0 = some v0) (f0 : q_is 7 v0 0) (l1 : q_lo L 1 = some v1) (f1 : q_is 2 v1 4) (l2 : q_lo L 2 = some v2) (f2 : q_is 2 v2 68) (l3 : q_lo L 3 = some v3) (f3 : q_is 2 v3 162) (l4 : q_lo L 4 = some v4) (f4 : q_is 0 v4 y4)
  (hc : ∀ mq : MM, Ext m mq → ∀ {z4 : Int} {Sq : QS} {Lq : QL} {u0 : Value} {u1 : Value} {u2 : Value} {u3 : Value} {u4 : Value}, c z4 mq = some (rz, rm) → Rp Sq mq → q_lo Lq 0 = some u0 → q_is 7 u0 0 → q_lo Lq 1 = some u1 → q_is 2 u1 4 → q_lo Lq 2 = some u2 → q_is 2 u2 68 → q_lo Lq 3 = some u3 → q_is 2 u3 162 → q_lo Lq 4 = some u4 → q_is 0 u4 z4 → Go xs d qM_L_law 23 Lq [] Sq Q)
  (hQ : Ext m rm → ∀ o S1, Rp S1 rm → q_out 0 o rz → Q o S1)
  (h : fj_L_law_204 xs c y4 m = some (rz, rm)) : Go xs d qM_L_law 204 L [] S Q := by
  unfold fj_L_law_204 at h
  refine go_aload_n (n := 1) (by decide +kernel) l1 f1 ?_
  refine go_aloadS (n := 0) (by decide +kernel) l0 f0 ?_
  refine go_iload (n := 4) (by decide +kernel) l4 f4 ?_
  refine go_iconst (n := 1) (z := 1) (by decide +kernel) (by decide) fun v_19 f_20 => ?_
  refine go_iadd (by decide +kernel) f4 f_20 fun v_21 f_22 => ?_
  obtain ⟨g_25, h⟩ := gd_s h
  refine go_sld (by decide +kernel) f0 f_22 g_25 fun v_23 f_24 => ?_
  refine go_aloadS (n := 0) (by decide +kernel) l0 f0 ?_
  refine go_iload (n := 4) (by decide +kernel) l4 f4 ?_
  refine go_iconst (n := 2) (z := 2) (by decide +kernel) (by decide) fun v_26 f_27 => ?_
  refine go_iadd (by decide +kernel) f4 f_27 fun v_28 f_29 => ?_
  obtain ⟨g_32, h⟩ := gd_s h
  refine go_sld (by decide +kernel) f0 f_29 g_32 fun v_30 f_31 => ?_
  refine go_aloadS (n := 0) (by decide +kernel) l0 f0 ?_
  refine go_iload (n := 4) (by decide +kernel) l4 f4 ?_
  refine go_iconst (n := 3) (z := 3) (by decide +kernel) (by decide) fun v_33 f_34 => ?_
  refine go_iadd (by decide +kernel) f4 f_34 fun v_35 f_36 => ?_
  obtain ⟨g_39, h⟩ := gd_s h
  refine go_sld (by decide +kernel) f0 f_36 g_39 fun v_37 f_38 => ?_
  refine go_aloadS (n := 0) (by decide +kernel) l0 f0 ?_
  refine go_iload (n := 4) (by decide +kernel) l4 f4 ?_
  refine go_iconst (n := 4) (z := 4) (by decide +kernel) (by decide) fun v_40 f_41 => ?_
  refine go_iadd (by decide +kernel) f4 f_41 fun v_42 f_43 => ?_
  obtain ⟨g_46, h⟩ := gd_s h
  refine go_sld (by decide +kernel) f0 f_43 g_46 fun v_44 f_45 => ?_
  refine go_aload_n (n := 3) (by decide +kernel) l3 f3 ?_
  obtain ⟨x_48, m_49, hc_47, h⟩ := bd_s h
  refine go_callS (x := 137) (mi := 340) (n := 6) (b := 0) (as := [v1, v_23, v_30, v_37, v_44, v3]) (rest := []) (by decide +kernel) (by decide +kernel) rfl rfl (q_sum8 _ (Nat.le_of_ble_eq_true rfl)) (om_L_line (Nat.le_trans (by decide) hd) R f1 f_24 f_31 f_38 f_45 f3 hc_47) (fun _ S_52 q_55 => ?_) (fun _ _ qq => kr_x qq)
  refine kr_z (by decide) q_55 fun v_50 f_51 R_53 E_54 => ?_
  have E_58 := E_54
  refine go_istore (n := 5) (by decide +kernel) (by decide +kernel) f_51 fun L_59 l_60 kp_61 => ?_
  have l_62 := kp_61 0 _ l0 (by decide) (Or.inl (by decide))
  have l_63 := kp_61 1 _ l1 (by decide) (Or.inl (by decide))
  have l_64 := kp_61 2 _ l2 (by decide) (Or.inl (by decide))
  have l_65 := kp_61 3 _ l3 (by decide) (Or.inl (by decide))
  have l_66 := kp_61 4 _ l4 (by decide) (Or.inr (q_is_cat f4 (Or.inl rfl)))
  refine go_aload_n (n := 2) (by decide +kernel) l_64 f2 ?_
  refine go_aloadS (n := 0) (by decide +kernel) l_62 f0 ?_
  refine go_iload (n := 4) (by decide +kernel) l_66 f4 ?_
  refine go_iconst (n := 1) (z := 1) (by decide +kernel) (by decide) fun v_67 f_68 => ?_
  refine go_iadd (by decide +kernel) f4 f_68 fun v_69 f_70 => ?_
  refine go_sld (by decide +kernel) f0 f_70 g_25 fun v_71 f_72 => ?_
  refine go_aloadS (n := 0) (by decide +kernel) l_62 f0 ?_
  refine go_iload (n := 4) (by decide +kernel) l_66 f4 ?_
  refine go_iconst (n := 2) (z := 2) (by decide +kernel) (by decide) fun v_73 f_74 => ?_
  refine go_iadd (by decide +kernel) f4 f_74 fun v_75 f_76 => ?_
  refine go_sld (by decide +kernel) f0 f_76 g_32 fun v_77 f_78 => ?_
  refine go_aloadS (n := 0) (by decide +kernel) l_62 f0 ?_
  refine go_iload (n := 4) (by decide +kernel) l_66 f4 ?_
  refine go_iconst (n := 3) (z := 3) (by decide +kernel) (by decide) fun v_79 f_80 => ?_
  refine go_iadd (by decide +kernel) f4 f_80 fun v_81 f_82 => ?_
  refine go_sld (by decide +kernel) f0 f_82 g_39 fun v_83 f_84 => ?_
  refine go_aloadS (n := 0) (by decide +kernel) l_62 f0 ?_
  refine go_iload (n := 4) (by decide +kernel) l_66 f4 ?_
  refine go_iconst (n := 4) (z := 4) (by decide +kernel) (by decide) fun v_85 f_86 => ?_
  refine go_iadd (by decide +kernel) f4 f_86 fun v_87 f_88 => ?_
  refine go_sld (by decide +kernel) f0 f_88 g_46 fun v_89 f_90 => ?_
  obtain ⟨x_92, m_93, hc_91, h⟩ := bd_s h
  refine go_callV (x := 142) (mi := 199) (n := 4) (ci := 13) (as := [v_71, v_77, v_83, v_89]) (rest := []) (by decide +kernel) (by decide +kernel) rfl rfl (q_sum8 _ (Nat.le_of_ble_eq_true rfl)) R_53 f2 (fx_k (c := 13) R_53 (by decide +kernel)) (om_X12_line (Nat.le_trans (by decide) hd) R_53 f2 f_72 f_78 f_84 f_90 hc_91) (fun _ S_96 q_99 => ?_) (fun _ _ qq => kr_x qq)
  refine kr_z (by decide) q_99 fun v_94 f_95 R_97 E_98 => ?_
  have E_102 := Ext.tr E_58 E_98
  refine go_istore (n := 6) (by decide +kernel) (by decide +kernel) f_95 fun L_103 l_104 kp_105 => ?_
  have l_106 := kp_105 0 _ l_62 (by decide) (Or.inl (by decide))
  have l_107 := kp_105 1 _ l_63 (by decide) (Or.inl (by decide))
  have l_108 := kp_105 2 _ l_64 (by decide) (Or.inl (by decide))
  have l_109 := kp_105 3 _ l_65 (by decide) (Or.inl (by decide))
  have l_110 := kp_105 4 _ l_66 (by decide) (Or.inl (by decide))
  have l_111 := kp_105 5 _ l_60 (by decide) (Or.inr (q_is_cat f_51 (Or.inl rfl)))
  refine go_aload_n (n := 2) (by decide +kernel) l_108 f2 ?_
  obtain ⟨x_113, hc_112, h⟩ := bp_s h
  refine go_callV (x := 143) (mi := 185) (n := 0) (ci := 13) (as := []) (rest := []) (by decide +kernel) (by decide +kernel) rfl rfl (q_sum8 _ (Nat.le_of_ble_eq_true rfl)) R_97 f2 (fx_k (c := 13) R_97 (by decide +kernel)) (om_X12_thrown (Nat.le_trans (by decide) hd) R_97 f2 hc_112) (fun _ S_117 q_120 => ?_) (fun _ _ qq => kr_x qq)
  refine kr_z (by decide) q_120 fun v_115 f_116 R_118 E_119 => ?_
  refine go_iload (n := 5) (by decide +kernel) l_111 f_51 ?_
  refine go_icmp (c := .eq) (o := 5) (t := 276) (P := x_113 = x_48) (by decide +kernel) (by decide +kernel) f_116 f_51 (Iff.rfl) (fun hp_121 => ?_) (fun hp_121 => ?_)
  · have h := it_t hp_121 h
    refine go_iload (n := 5) (by decide +kernel) l_111 f_51 ?_
    refine go_if (c := .ne) (o := 15) (t := 293) (P := ¬ (x_48 = 0)) (by decide +kernel) (by decide +kernel) f_51 (Iff.rfl) (fun hp_122 => ?_) (fun hp_122 => ?_)
    · have h := it_f hp_122 h
      refine go_goto (o := 2304) (t := 2597) (by decide +kernel) (by decide +kernel) ?_
      refine go_iinc (n := 4) (c := 7) (c' := 7) (by decide +kernel) (by decide +kernel) l_110 f4 (by decide) fun L_123 v_124 f_125 l_126 kp_127 => ?_
      obtain ⟨x_128, e_129, h⟩ := lx_s h
      have f_130 := q_is_eq f_125 e_129
      have l_131 := kp_127 0 _ l_106 (by decide) (Or.inl (by decide))
      have l_132 := kp_127 1 _ l_107 (by decide) (Or.inl (by decide))
      have l_133 := kp_127 2 _ l_108 (by decide) (Or.inl (by decide))
      have l_134 := kp_127 3 _ l_109 (by decide) (Or.inr (q_is_cat f3 (Or.inr rfl)))
      refine go_goto (o := (-2577)) (t := 23) (by decide +kernel) (by decide +kernel) ?_
      exact hc m_93 E_102 h R_118 l_131 f0 l_132 f1 l_133 f2 l_134 f3 l_126 f_130
    · have h := it_n hp_122 h
      refine go_aload_n (n := 3) (by decide +kernel) l_109 f3 ?_
      refine go_iconst (n := 0) (z := 0) (by decide +kernel) (by decide) fun v_135 f_136 => ?_
      obtain ⟨x_140, e_141, h⟩ := lx_s h
      refine go_lald (kd := 101) (by decide +kernel) rfl R_118 f3 f_136 (fx_k (c := 101) R_118 (by decide +kernel)) (fx_x (a := 162) (ln := 1) R_118 (by decide +kernel) (by decide)) fun v_137 f_138 => ?_
      have f_139 := q_is_eq f_138 e_141
      refine go_iload (n := 6) (by decide +kernel) l_104 f_95 ?_
      refine go_i2l (by decide +kernel) f_95 fun v_142 f_143 => ?_
      refine go_lcmp (by decide +kernel) f_139 f_143 fun v_144 f_145 => ?_
      refine go_if (c := .eq) (o := 5) (t := 293) (P := x_140 = x_92) (by decide +kernel) (by decide +kernel) f_145 (lc_eq) (fun hp_146 => ?_) (fun hp_146 => ?_)
      · have h := it_t hp_146 h
        refine go_goto (o := 2304) (t := 2597) (by decide +kernel) (by decide +kernel) ?_
        refine go_iinc (n := 4) (c := 7) (c' := 7) (by decide +kernel) (by decide +kernel) l_110 f4 (by decide) fun L_147 v_148 f_149 l_150 kp_151 => ?_
        obtain ⟨x_152, e_153, h⟩ := lx_s h
        have f_154 := q_is_eq f_149 e_153
        have l_155 := kp_151 0 _ l_106 (by decide) (Or.inl (by decide))
        have l_156 := kp_151 1 _ l_107 (by decide) (Or.inl (by decide))
        have l_157 := kp_151 2 _ l_108 (by decide) (Or.inl (by decide))
        have l_158 := kp_151 3 _ l_109 (by decide) (Or.inr (q_is_cat f3 (Or.inr rfl)))
        refine go_goto (o := (-2577)) (t := 23) (by decide +kernel) (by decide +kernel) ?_
        exact hc m_93 E_102 h R_118 l_155 f0 l_156 f1 l_157 f2 l_158 f3 l_150 f_154
      · have h := it_f hp_146 h
        refine go_iconst (n := 0) (z := 0) (by decide +kernel) (by decide) fun v_159 f_160 => ?_
        cases h
        exact go_iret (by decide +kernel) rfl (Or.inr ⟨rfl, by decide⟩) f_160 (hQ E_102 _ _ R_118 (q_out_v (by decide) f_160))
  · have h := it_f hp_121 h
    refine go_iconst (n := 0) (z := 0) (by decide +kernel) (by decide) fun v_161 f_162 => ?_
    cases h
    exact go_iret (by decide +kernel) rfl (Or.inr ⟨rfl, by decide⟩) f_162 (hQ E_102 _ _ R_118 (q_out_v (by decide) f_162))
noncomputable def fj_L_law_296 (xs : List Int32) (c : Int → MM → Option (Int × MM)) (y4 : Int) (m : MM) : Option (Int × MM) := gd (0 ≤ w32 (y4 + 1) ∧ w32 (y4 + 1) < (xs.length : Int)) <| bd (fm_L_deploy (scr xs (w32 (y4 + 1))) m) fun x_173 m_174 =>
bd (fm_X12_deploy (scr xs (w32 (y4 + 1))) m_174) fun x_199 m_200 =>
bp (fm_X12_thrown m_200) fun x_220 =>
if x_220 = x_173 then
if x_173 = 0 then
lx (m_200 162 0) fun x_247 =>
if x_247 = x_199 then
lx (w32 (y4 + 7)) fun x_259 =>
c x_259 m_200
else
some (0, m_200)
else
lx (w32 (y4 + 7)) fun x_235 =>
c x_235 m_200
else
some (0, m_200)
set_option maxHeartbeats 4000000 in
theorem oj_L_law_296 {xs : List Int32} {d : Nat} {S : QS} {L : QL} {Q : QO → QS → Prop} {m : MM} {y4 : Int} {v0 : Value} {v1 : Value} {v2 : Value} {v3 : Value} {v4 : Value}  {rz : Int} {rm : MM} {c : Int → MM → Option (Int × MM)} 
  (hd : 174 ≤ d) (R : Rp S m) (l0 : q_lo L 0 = some v0) (f0 : q_is 7 v0 0) (l1 : q_lo L 1 = some v1) (f1 : q_is 2 v1 4) (l2 : q_lo L 2 = some v2) (f2 : q_is 2 v2 68) (l3 : q_lo L 3 = some v3) (f3 : q_is 2 v3 162) (l4 : q_lo L 4 = some v4) (f4 : q_is 0 v4 y4)
  (hc : ∀ mq : MM, Ext m mq → ∀ {z4 : Int} {Sq : QS} {Lq : QL} {u0 : Value} {u1 : Value} {u2 : Value} {u3 : Value} {u4 : Value}, c z4 mq = some (rz, rm) → Rp Sq mq → q_lo Lq 0 = some u0 → q_is 7 u0 0 → q_lo Lq 1 = some u1 → q_is 2 u1 4 → q_lo Lq 2 = some u2 → q_is 2 u2 68 → q_lo Lq 3 = some u3 → q_is 2 u3 162 → q_lo Lq 4 = some u4 → q_is 0 u4 z4 → Go xs d qM_L_law 23 Lq [] Sq Q)
  (hQ : Ext m rm → ∀ o S1, Rp S1 rm → q_out 0 o rz → Q o S1)
  (h : fj_L_law_296 xs c y4 m = some (rz, rm)) : Go xs d qM_L_law 296 L [] S Q := by
  unfold fj_L_law_296 at h
  refine go_aload_n (n := 1) (by decide +kernel) l1 f1 ?_
  refine go_aloadS (n := 0) (by decide +kernel) l0 f0 ?_
  refine go_iload (n := 4) (by decide +kernel) l4 f4 ?_
  refine go_iconst (n := 1) (z := 1) (by decide +kernel) (by decide) fun v_165 f_166 => ?_
  refine go_iadd (by decide +kernel) f4 f_166 fun v_167 f_168 => ?_
  obtain ⟨g_171, h⟩ := gd_s h
  refine go_sld (by decide +kernel) f0 f_168 g_171 fun v_169 f_170 => ?_
  refine go_aload_n (n := 3) (by decide +kernel) l3 f3 ?_
  obtain ⟨x_173, m_174, hc_172, h⟩ := bd_s h
  refine go_callS (x := 146) (mi := 341) (n := 3) (b := 0) (as := [v1, v_169, v3]) (rest := []) (by decide +kernel) (by decide +kernel) rfl rfl (q_sum8 _ (Nat.le_of_ble_eq_true rfl)) (om_L_deploy (Nat.le_trans (by decide) hd) R f1 f_170 f3 hc_172) (fun _ S_177 q_180 => ?_) (fun _ _ qq => kr_x qq)
  refine kr_z (by decide) q_180 fun v_175 f_176 R_178 E_179 => ?_
  have E_183 := E_179
  refine go_istore (n := 5) (by decide +kernel) (by decide +kernel) f_176 fun L_184 l_185 kp_186 => ?_
  have l_187 := kp_186 0 _ l0 (by decide) (Or.inl (by decide))
  have l_188 := kp_186 1 _ l1 (by decide) (Or.inl (by decide))
  have l_189 := kp_186 2 _ l2 (by decide) (Or.inl (by decide))
  have l_190 := kp_186 3 _ l3 (by decide) (Or.inl (by decide))
  have l_191 := kp_186 4 _ l4 (by decide) (Or.inr (q_is_cat f4 (Or.inl rfl)))
  refine go_aload_n (n := 2) (by decide +kernel) l_189 f2 ?_
  refine go_aloadS (n := 0) (by decide +kernel) l_187 f0 ?_
  refine go_iload (n := 4) (by decide +kernel) l_191 f4 ?_
  refine go_iconst (n := 1) (z := 1) (by decide +kernel) (by decide) fun v_192 f_193 => ?_
  refine go_iadd (by decide +kernel) f4 f_193 fun v_194 f_195 => ?_
  refine go_sld (by decide +kernel) f0 f_195 g_171 fun v_196 f_197 => ?_
  obtain ⟨x_199, m_200, hc_198, h⟩ := bd_s h
  refine go_callV (x := 149) (mi := 200) (n := 1) (ci := 13) (as := [v_196]) (rest := []) (by decide +kernel) (by decide +kernel) rfl rfl (q_sum8 _ (Nat.le_of_ble_eq_true rfl)) R_178 f2 (fx_k (c := 13) R_178 (by decide +kernel)) (om_X12_deploy (Nat.le_trans (by decide) hd) R_178 f2 f_197 hc_198) (fun _ S_203 q_206 => ?_) (fun _ _ qq => kr_x qq)
  refine kr_z (by decide) q_206 fun v_201 f_202 R_204 E_205 => ?_
  have E_209 := Ext.tr E_183 E_205
  refine go_istore (n := 6) (by decide +kernel) (by decide +kernel) f_202 fun L_210 l_211 kp_212 => ?_
  have l_213 := kp_212 0 _ l_187 (by decide) (Or.inl (by decide))
  have l_214 := kp_212 1 _ l_188 (by decide) (Or.inl (by decide))
  have l_215 := kp_212 2 _ l_189 (by decide) (Or.inl (by decide))
  have l_216 := kp_212 3 _ l_190 (by decide) (Or.inl (by decide))
  have l_217 := kp_212 4 _ l_191 (by decide) (Or.inl (by decide))
  have l_218 := kp_212 5 _ l_185 (by decide) (Or.inr (q_is_cat f_176 (Or.inl rfl)))
  refine go_aload_n (n := 2) (by decide +kernel) l_215 f2 ?_
  obtain ⟨x_220, hc_219, h⟩ := bp_s h
  refine go_callV (x := 143) (mi := 185) (n := 0) (ci := 13) (as := []) (rest := []) (by decide +kernel) (by decide +kernel) rfl rfl (q_sum8 _ (Nat.le_of_ble_eq_true rfl)) R_204 f2 (fx_k (c := 13) R_204 (by decide +kernel)) (om_X12_thrown (Nat.le_trans (by decide) hd) R_204 f2 hc_219) (fun _ S_224 q_227 => ?_) (fun _ _ qq => kr_x qq)
  refine kr_z (by decide) q_227 fun v_222 f_223 R_225 E_226 => ?_
  refine go_iload (n := 5) (by decide +kernel) l_218 f_176 ?_
  refine go_icmp (c := .eq) (o := 5) (t := 332) (P := x_220 = x_173) (by decide +kernel) (by decide +kernel) f_223 f_176 (Iff.rfl) (fun hp_228 => ?_) (fun hp_228 => ?_)
  · have h := it_t hp_228 h
    refine go_iload (n := 5) (by decide +kernel) l_218 f_176 ?_
    refine go_if (c := .ne) (o := 15) (t := 349) (P := ¬ (x_173 = 0)) (by decide +kernel) (by decide +kernel) f_176 (Iff.rfl) (fun hp_229 => ?_) (fun hp_229 => ?_)
    · have h := it_f hp_229 h
      refine go_goto (o := 2248) (t := 2597) (by decide +kernel) (by decide +kernel) ?_
      refine go_iinc (n := 4) (c := 7) (c' := 7) (by decide +kernel) (by decide +kernel) l_217 f4 (by decide) fun L_230 v_231 f_232 l_233 kp_234 => ?_
      obtain ⟨x_235, e_236, h⟩ := lx_s h
      have f_237 := q_is_eq f_232 e_236
      have l_238 := kp_234 0 _ l_213 (by decide) (Or.inl (by decide))
      have l_239 := kp_234 1 _ l_214 (by decide) (Or.inl (by decide))
      have l_240 := kp_234 2 _ l_215 (by decide) (Or.inl (by decide))
      have l_241 := kp_234 3 _ l_216 (by decide) (Or.inr (q_is_cat f3 (Or.inr rfl)))
      refine go_goto (o := (-2577)) (t := 23) (by decide +kernel) (by decide +kernel) ?_
      exact hc m_200 E_209 h R_225 l_238 f0 l_239 f1 l_240 f2 l_241 f3 l_233 f_237
    · have h := it_n hp_229 h
      refine go_aload_n (n := 3) (by decide +kernel) l_216 f3 ?_
      refine go_iconst (n := 0) (z := 0) (by decide +kernel) (by decide) fun v_242 f_243 => ?_
      obtain ⟨x_247, e_248, h⟩ := lx_s h
      refine go_lald (kd := 101) (by decide +kernel) rfl R_225 f3 f_243 (fx_k (c := 101) R_225 (by decide +kernel)) (fx_x (a := 162) (ln := 1) R_225 (by decide +kernel) (by decide)) fun v_244 f_245 => ?_
      have f_246 := q_is_eq f_245 e_248
      refine go_iload (n := 6) (by decide +kernel) l_211 f_202 ?_
      refine go_i2l (by decide +kernel) f_202 fun v_249 f_250 => ?_
      refine go_lcmp (by decide +kernel) f_246 f_250 fun v_251 f_252 => ?_
      refine go_if (c := .eq) (o := 5) (t := 349) (P := x_247 = x_199) (by decide +kernel) (by decide +kernel) f_252 (lc_eq) (fun hp_253 => ?_) (fun hp_253 => ?_)
      · have h := it_t hp_253 h
        refine go_goto (o := 2248) (t := 2597) (by decide +kernel) (by decide +kernel) ?_
        refine go_iinc (n := 4) (c := 7) (c' := 7) (by decide +kernel) (by decide +kernel) l_217 f4 (by decide) fun L_254 v_255 f_256 l_257 kp_258 => ?_
        obtain ⟨x_259, e_260, h⟩ := lx_s h
        have f_261 := q_is_eq f_256 e_260
        have l_262 := kp_258 0 _ l_213 (by decide) (Or.inl (by decide))
        have l_263 := kp_258 1 _ l_214 (by decide) (Or.inl (by decide))
        have l_264 := kp_258 2 _ l_215 (by decide) (Or.inl (by decide))
        have l_265 := kp_258 3 _ l_216 (by decide) (Or.inr (q_is_cat f3 (Or.inr rfl)))
        refine go_goto (o := (-2577)) (t := 23) (by decide +kernel) (by decide +kernel) ?_
        exact hc m_200 E_209 h R_225 l_262 f0 l_263 f1 l_264 f2 l_265 f3 l_257 f_261
      · have h := it_f hp_253 h
        refine go_iconst (n := 0) (z := 0) (by decide +kernel) (by decide) fun v_266 f_267 => ?_
        cases h
        exact go_iret (by decide +kernel) rfl (Or.inr ⟨rfl, by decide⟩) f_267 (hQ E_209 _ _ R_225 (q_out_v (by decide) f_267))
  · have h := it_f hp_228 h
    refine go_iconst (n := 0) (z := 0) (by decide +kernel) (by decide) fun v_268 f_269 => ?_
    cases h
    exact go_iret (by decide +kernel) rfl (Or.inr ⟨rfl, by decide⟩) f_269 (hQ E_209 _ _ R_225 (q_out_v (by decide) f_269))
noncomputable def fj_L_law_352 (xs : List Int32) (c : Int → MM → Option (Int × MM)) (y4 : Int) (m : MM) : Option (Int × MM) := gd (0 ≤ w32 (y4 + 1) ∧ w32 (y4 + 1) < (xs.length : Int)) <| gd (0 ≤ w32 (y4 + 2) ∧ w32 (y4 + 2) < (xs.length : Int)) <| gd (0 ≤ w32 (y4 + 3) ∧ w32 (y4 + 3) < (xs.length : Int)) <| gd (0 ≤ w32 (y4 + 4) ∧ w32 (y4 + 4) < (xs.length : Int)) <| gd (0 ≤ w32 (y4 + 5) ∧ w32 (y4 + 5) < (xs.length : Int)) <| gd (0 ≤ w32 (y4 + 6) ∧ w32 (y4 + 6) < (xs.length : Int)) <| bd (fm_L_setKind (scr xs (w32 (y4 + 1))) (scr xs (w32 (y4 + 2))) (scr xs (w32 (y4 + 3))) (scr xs (w32 (y4 + 4))) (scr xs (w32 (y4 + 5))) (scr xs (w32 (y4 + 6))) m) fun x_315 m_316 =>
bd (fm_X12_setKind (scr xs (w32 (y4 + 1))) (scr xs (w32 (y4 + 2))) (scr xs (w32 (y4 + 3))) (scr xs (w32 (y4 + 4))) (scr xs (w32 (y4 + 5))) (scr xs (w32 (y4 + 6))) m_316) fun x_371 m_372 =>
bp (fm_X12_thrown m_372) fun x_383 =>
if x_383 = x_315 then
lx (w32 (y4 + 7)) fun x_397 =>
c x_397 m_372
else
some (0, m_372)
set_option maxHeartbeats 4000000 in
theorem oj_L_law_352 {xs : List Int32} {d : Nat} {S : QS} {L : QL} {Q : QO → QS → Prop} {m : MM} {y4 : Int} {v0 : Value} {v1 : Value} {v2 : Value} {v3 : Value} {v4 : Value}  {rz : Int} {rm : MM} {c : Int → MM → Option (Int × MM)} 
  (hd : 174 ≤ d) (R : Rp S m) (l0 : q_lo L 0 = some v0) (f0 : q_is 7 v0 0) (l1 : q_lo L 1 = some v1) (f1 : q_is 2 v1 4) (l2 : q_lo L 2 = some v2) (f2 : q_is 2 v2 68) (l3 : q_lo L 3 = some v3) (f3 : q_is 2 v3 162) (l4 : q_lo L 4 = some v4) (f4 : q_is 0 v4 y4)
  (hc : ∀ mq : MM, Ext m mq → ∀ {z4 : Int} {Sq : QS} {Lq : QL} {u0 : Value} {u1 : Value} {u2 : Value} {u3 : Value} {u4 : Value}, c z4 mq = some (rz, rm) → Rp Sq mq → q_lo Lq 0 = some u0 → q_is 7 u0 0 → q_lo Lq 1 = some u1 → q_is 2 u1 4 → q_lo Lq 2 = some u2 → q_is 2 u2 68 → q_lo Lq 3 = some u3 → q_is 2 u3 162 → q_lo Lq 4 = some u4 → q_is 0 u4 z4 → Go xs d qM_L_law 23 Lq [] Sq Q)
  (hQ : Ext m rm → ∀ o S1, Rp S1 rm → q_out 0 o rz → Q o S1)
  (h : fj_L_law_352 xs c y4 m = some (rz, rm)) : Go xs d qM_L_law 352 L [] S Q := by
  unfold fj_L_law_352 at h
  refine go_aload_n (n := 1) (by decide +kernel) l1 f1 ?_
  refine go_aloadS (n := 0) (by decide +kernel) l0 f0 ?_
  refine go_iload (n := 4) (by decide +kernel) l4 f4 ?_
  refine go_iconst (n := 1) (z := 1) (by decide +kernel) (by decide) fun v_272 f_273 => ?_
  refine go_iadd (by decide +kernel) f4 f_273 fun v_274 f_275 => ?_
  obtain ⟨g_278, h⟩ := gd_s h
  refine go_sld (by decide +kernel) f0 f_275 g_278 fun v_276 f_277 => ?_
  refine go_aloadS (n := 0) (by decide +kernel) l0 f0 ?_
  refine go_iload (n := 4) (by decide +kernel) l4 f4 ?_
  refine go_iconst (n := 2) (z := 2) (by decide +kernel) (by decide) fun v_279 f_280 => ?_
  refine go_iadd (by decide +kernel) f4 f_280 fun v_281 f_282 => ?_
  obtain ⟨g_285, h⟩ := gd_s h
  refine go_sld (by decide +kernel) f0 f_282 g_285 fun v_283 f_284 => ?_
  refine go_aloadS (n := 0) (by decide +kernel) l0 f0 ?_
  refine go_iload (n := 4) (by decide +kernel) l4 f4 ?_
  refine go_iconst (n := 3) (z := 3) (by decide +kernel) (by decide) fun v_286 f_287 => ?_
  refine go_iadd (by decide +kernel) f4 f_287 fun v_288 f_289 => ?_
  obtain ⟨g_292, h⟩ := gd_s h
  refine go_sld (by decide +kernel) f0 f_289 g_292 fun v_290 f_291 => ?_
  refine go_aloadS (n := 0) (by decide +kernel) l0 f0 ?_
  refine go_iload (n := 4) (by decide +kernel) l4 f4 ?_
  refine go_iconst (n := 4) (z := 4) (by decide +kernel) (by decide) fun v_293 f_294 => ?_
  refine go_iadd (by decide +kernel) f4 f_294 fun v_295 f_296 => ?_
  obtain ⟨g_299, h⟩ := gd_s h
  refine go_sld (by decide +kernel) f0 f_296 g_299 fun v_297 f_298 => ?_
  refine go_aloadS (n := 0) (by decide +kernel) l0 f0 ?_
  refine go_iload (n := 4) (by decide +kernel) l4 f4 ?_
  refine go_iconst (n := 5) (z := 5) (by decide +kernel) (by decide) fun v_300 f_301 => ?_
  refine go_iadd (by decide +kernel) f4 f_301 fun v_302 f_303 => ?_
  obtain ⟨g_306, h⟩ := gd_s h
  refine go_sld (by decide +kernel) f0 f_303 g_306 fun v_304 f_305 => ?_
  refine go_aloadS (n := 0) (by decide +kernel) l0 f0 ?_
  refine go_iload (n := 4) (by decide +kernel) l4 f4 ?_
  refine go_bipush (n := 6) (z := 6) (by decide +kernel) (by decide) fun v_307 f_308 => ?_
  refine go_iadd (by decide +kernel) f4 f_308 fun v_309 f_310 => ?_
  obtain ⟨g_313, h⟩ := gd_s h
  refine go_sld (by decide +kernel) f0 f_310 g_313 fun v_311 f_312 => ?_
  obtain ⟨x_315, m_316, hc_314, h⟩ := bd_s h
  refine go_callS (x := 150) (mi := 342) (n := 7) (b := 0) (as := [v1, v_276, v_283, v_290, v_297, v_304, v_311]) (rest := []) (by decide +kernel) (by decide +kernel) rfl rfl (q_sum8 _ (Nat.le_of_ble_eq_true rfl)) (om_L_setKind (Nat.le_trans (by decide) hd) R f1 f_277 f_284 f_291 f_298 f_305 f_312 hc_314) (fun _ S_319 q_322 => ?_) (fun _ _ qq => kr_x qq)
  refine kr_z (by decide) q_322 fun v_317 f_318 R_320 E_321 => ?_
  have E_325 := E_321
  refine go_istore (n := 5) (by decide +kernel) (by decide +kernel) f_318 fun L_326 l_327 kp_328 => ?_
  have l_329 := kp_328 0 _ l0 (by decide) (Or.inl (by decide))
  have l_330 := kp_328 1 _ l1 (by decide) (Or.inl (by decide))
  have l_331 := kp_328 2 _ l2 (by decide) (Or.inl (by decide))
  have l_332 := kp_328 3 _ l3 (by decide) (Or.inl (by decide))
  have l_333 := kp_328 4 _ l4 (by decide) (Or.inr (q_is_cat f4 (Or.inl rfl)))
  refine go_aload_n (n := 2) (by decide +kernel) l_331 f2 ?_
  refine go_aloadS (n := 0) (by decide +kernel) l_329 f0 ?_
  refine go_iload (n := 4) (by decide +kernel) l_333 f4 ?_
  refine go_iconst (n := 1) (z := 1) (by decide +kernel) (by decide) fun v_334 f_335 => ?_
  refine go_iadd (by decide +kernel) f4 f_335 fun v_336 f_337 => ?_
  refine go_sld (by decide +kernel) f0 f_337 g_278 fun v_338 f_339 => ?_
  refine go_aloadS (n := 0) (by decide +kernel) l_329 f0 ?_
  refine go_iload (n := 4) (by decide +kernel) l_333 f4 ?_
  refine go_iconst (n := 2) (z := 2) (by decide +kernel) (by decide) fun v_340 f_341 => ?_
  refine go_iadd (by decide +kernel) f4 f_341 fun v_342 f_343 => ?_
  refine go_sld (by decide +kernel) f0 f_343 g_285 fun v_344 f_345 => ?_
  refine go_aloadS (n := 0) (by decide +kernel) l_329 f0 ?_
  refine go_iload (n := 4) (by decide +kernel) l_333 f4 ?_
  refine go_iconst (n := 3) (z := 3) (by decide +kernel) (by decide) fun v_346 f_347 => ?_
  refine go_iadd (by decide +kernel) f4 f_347 fun v_348 f_349 => ?_
  refine go_sld (by decide +kernel) f0 f_349 g_292 fun v_350 f_351 => ?_
  refine go_aloadS (n := 0) (by decide +kernel) l_329 f0 ?_
  refine go_iload (n := 4) (by decide +kernel) l_333 f4 ?_
  refine go_iconst (n := 4) (z := 4) (by decide +kernel) (by decide) fun v_352 f_353 => ?_
  refine go_iadd (by decide +kernel) f4 f_353 fun v_354 f_355 => ?_
  refine go_sld (by decide +kernel) f0 f_355 g_299 fun v_356 f_357 => ?_
  refine go_aloadS (n := 0) (by decide +kernel) l_329 f0 ?_
  refine go_iload (n := 4) (by decide +kernel) l_333 f4 ?_
  refine go_iconst (n := 5) (z := 5) (by decide +kernel) (by decide) fun v_358 f_359 => ?_
  refine go_iadd (by decide +kernel) f4 f_359 fun v_360 f_361 => ?_
  refine go_sld (by decide +kernel) f0 f_361 g_306 fun v_362 f_363 => ?_
  refine go_aloadS (n := 0) (by decide +kernel) l_329 f0 ?_
  refine go_iload (n := 4) (by decide +kernel) l_333 f4 ?_
  refine go_bipush (n := 6) (z := 6) (by decide +kernel) (by decide) fun v_364 f_365 => ?_
  refine go_iadd (by decide +kernel) f4 f_365 fun v_366 f_367 => ?_
  refine go_sld (by decide +kernel) f0 f_367 g_313 fun v_368 f_369 => ?_
  obtain ⟨x_371, m_372, hc_370, h⟩ := bd_s h
  refine go_callV (x := 153) (mi := 201) (n := 6) (ci := 13) (as := [v_338, v_344, v_350, v_356, v_362, v_368]) (rest := []) (by decide +kernel) (by decide +kernel) rfl rfl (q_sum8 _ (Nat.le_of_ble_eq_true rfl)) R_320 f2 (fx_k (c := 13) R_320 (by decide +kernel)) (om_X12_setKind (Nat.le_trans (by decide) hd) R_320 f2 f_339 f_345 f_351 f_357 f_363 f_369 hc_370) (fun _ S_375 q_378 => ?_) (fun _ _ qq => kr_x qq)
  refine kr_v q_378 fun R_376 E_377 => ?_
  have E_381 := Ext.tr E_325 E_377
  refine go_aload_n (n := 2) (by decide +kernel) l_331 f2 ?_
  obtain ⟨x_383, hc_382, h⟩ := bp_s h
  refine go_callV (x := 143) (mi := 185) (n := 0) (ci := 13) (as := []) (rest := []) (by decide +kernel) (by decide +kernel) rfl rfl (q_sum8 _ (Nat.le_of_ble_eq_true rfl)) R_376 f2 (fx_k (c := 13) R_376 (by decide +kernel)) (om_X12_thrown (Nat.le_trans (by decide) hd) R_376 f2 hc_382) (fun _ S_387 q_390 => ?_) (fun _ _ qq => kr_x qq)
  refine kr_z (by decide) q_390 fun v_385 f_386 R_388 E_389 => ?_
  refine go_iload (n := 5) (by decide +kernel) l_327 f_318 ?_
  refine go_icmp (c := .eq) (o := 5) (t := 447) (P := x_383 = x_315) (by decide +kernel) (by decide +kernel) f_386 f_318 (Iff.rfl) (fun hp_391 => ?_) (fun hp_391 => ?_)
  · have h := it_t hp_391 h
    refine go_goto (o := 2150) (t := 2597) (by decide +kernel) (by decide +kernel) ?_
    refine go_iinc (n := 4) (c := 7) (c' := 7) (by decide +kernel) (by decide +kernel) l_333 f4 (by decide) fun L_392 v_393 f_394 l_395 kp_396 => ?_
    obtain ⟨x_397, e_398, h⟩ := lx_s h
    have f_399 := q_is_eq f_394 e_398
    have l_400 := kp_396 0 _ l_329 (by decide) (Or.inl (by decide))
    have l_401 := kp_396 1 _ l_330 (by decide) (Or.inl (by decide))
    have l_402 := kp_396 2 _ l_331 (by decide) (Or.inl (by decide))
    have l_403 := kp_396 3 _ l_332 (by decide) (Or.inr (q_is_cat f3 (Or.inr rfl)))
    refine go_goto (o := (-2577)) (t := 23) (by decide +kernel) (by decide +kernel) ?_
    exact hc m_372 E_381 h R_388 l_400 f0 l_401 f1 l_402 f2 l_403 f3 l_395 f_399
  · have h := it_f hp_391 h
    refine go_iconst (n := 0) (z := 0) (by decide +kernel) (by decide) fun v_404 f_405 => ?_
    cases h
    exact go_iret (by decide +kernel) rfl (Or.inr ⟨rfl, by decide⟩) f_405 (hQ E_381 _ _ R_388 (q_out_v (by decide) f_405))
noncomputable def fj_L_law_450 (xs : List Int32) (c : Int → MM → Option (Int × MM)) (y4 : Int) (m : MM) : Option (Int × MM) := gd (0 ≤ w32 (y4 + 1) ∧ w32 (y4 + 1) < (xs.length : Int)) <| gd (0 ≤ w32 (y4 + 2) ∧ w32 (y4 + 2) < (xs.length : Int)) <| bd (fm_L_setPolicy (scr xs (w32 (y4 + 1))) (scr xs (w32 (y4 + 2))) m) fun x_423 m_424 =>
bd (fm_X12_setPolicy (scr xs (w32 (y4 + 1))) (scr xs (w32 (y4 + 2))) m_424) fun x_455 m_456 =>
bp (fm_X12_thrown m_456) fun x_476 =>
if x_476 = x_423 then
if x_423 = 0 then
lx (m_456 162 0) fun x_503 =>
if x_503 = x_455 then
lx (w32 (y4 + 7)) fun x_515 =>
c x_515 m_456
else
some (0, m_456)
else
lx (w32 (y4 + 7)) fun x_491 =>
c x_491 m_456
else
some (0, m_456)
set_option maxHeartbeats 4000000 in
theorem oj_L_law_450 {xs : List Int32} {d : Nat} {S : QS} {L : QL} {Q : QO → QS → Prop} {m : MM} {y4 : Int} {v0 : Value} {v1 : Value} {v2 : Value} {v3 : Value} {v4 : Value}  {rz : Int} {rm : MM} {c : Int → MM → Option (Int × MM)} 
  (hd : 174 ≤ d) (R : Rp S m) (l0 : q_lo L 0 = some v0) (f0 : q_is 7 v0 0) (l1 : q_lo L 1 = some v1) (f1 : q_is 2 v1 4) (l2 : q_lo L 2 = some v2) (f2 : q_is 2 v2 68) (l3 : q_lo L 3 = some v3) (f3 : q_is 2 v3 162) (l4 : q_lo L 4 = some v4) (f4 : q_is 0 v4 y4)
  (hc : ∀ mq : MM, Ext m mq → ∀ {z4 : Int} {Sq : QS} {Lq : QL} {u0 : Value} {u1 : Value} {u2 : Value} {u3 : Value} {u4 : Value}, c z4 mq = some (rz, rm) → Rp Sq mq → q_lo Lq 0 = some u0 → q_is 7 u0 0 → q_lo Lq 1 = some u1 → q_is 2 u1 4 → q_lo Lq 2 = some u2 → q_is 2 u2 68 → q_lo Lq 3 = some u3 → q_is 2 u3 162 → q_lo Lq 4 = some u4 → q_is 0 u4 z4 → Go xs d qM_L_law 23 Lq [] Sq Q)
  (hQ : Ext m rm → ∀ o S1, Rp S1 rm → q_out 0 o rz → Q o S1)
  (h : fj_L_law_450 xs c y4 m = some (rz, rm)) : Go xs d qM_L_law 450 L [] S Q := by
  unfold fj_L_law_450 at h
  refine go_aload_n (n := 1) (by decide +kernel) l1 f1 ?_
  refine go_aloadS (n := 0) (by decide +kernel) l0 f0 ?_
  refine go_iload (n := 4) (by decide +kernel) l4 f4 ?_
  refine go_iconst (n := 1) (z := 1) (by decide +kernel) (by decide) fun v_408 f_409 => ?_
  refine go_iadd (by decide +kernel) f4 f_409 fun v_410 f_411 => ?_
  obtain ⟨g_414, h⟩ := gd_s h
  refine go_sld (by decide +kernel) f0 f_411 g_414 fun v_412 f_413 => ?_
  refine go_aloadS (n := 0) (by decide +kernel) l0 f0 ?_
  refine go_iload (n := 4) (by decide +kernel) l4 f4 ?_
  refine go_iconst (n := 2) (z := 2) (by decide +kernel) (by decide) fun v_415 f_416 => ?_
  refine go_iadd (by decide +kernel) f4 f_416 fun v_417 f_418 => ?_
  obtain ⟨g_421, h⟩ := gd_s h
  refine go_sld (by decide +kernel) f0 f_418 g_421 fun v_419 f_420 => ?_
  refine go_aload_n (n := 3) (by decide +kernel) l3 f3 ?_
  obtain ⟨x_423, m_424, hc_422, h⟩ := bd_s h
  refine go_callS (x := 154) (mi := 343) (n := 4) (b := 0) (as := [v1, v_412, v_419, v3]) (rest := []) (by decide +kernel) (by decide +kernel) rfl rfl (q_sum8 _ (Nat.le_of_ble_eq_true rfl)) (om_L_setPolicy (Nat.le_trans (by decide) hd) R f1 f_413 f_420 f3 hc_422) (fun _ S_427 q_430 => ?_) (fun _ _ qq => kr_x qq)
  refine kr_z (by decide) q_430 fun v_425 f_426 R_428 E_429 => ?_
  have E_433 := E_429
  refine go_istore (n := 5) (by decide +kernel) (by decide +kernel) f_426 fun L_434 l_435 kp_436 => ?_
  have l_437 := kp_436 0 _ l0 (by decide) (Or.inl (by decide))
  have l_438 := kp_436 1 _ l1 (by decide) (Or.inl (by decide))
  have l_439 := kp_436 2 _ l2 (by decide) (Or.inl (by decide))
  have l_440 := kp_436 3 _ l3 (by decide) (Or.inl (by decide))
  have l_441 := kp_436 4 _ l4 (by decide) (Or.inr (q_is_cat f4 (Or.inl rfl)))
  refine go_aload_n (n := 2) (by decide +kernel) l_439 f2 ?_
  refine go_aloadS (n := 0) (by decide +kernel) l_437 f0 ?_
  refine go_iload (n := 4) (by decide +kernel) l_441 f4 ?_
  refine go_iconst (n := 1) (z := 1) (by decide +kernel) (by decide) fun v_442 f_443 => ?_
  refine go_iadd (by decide +kernel) f4 f_443 fun v_444 f_445 => ?_
  refine go_sld (by decide +kernel) f0 f_445 g_414 fun v_446 f_447 => ?_
  refine go_aloadS (n := 0) (by decide +kernel) l_437 f0 ?_
  refine go_iload (n := 4) (by decide +kernel) l_441 f4 ?_
  refine go_iconst (n := 2) (z := 2) (by decide +kernel) (by decide) fun v_448 f_449 => ?_
  refine go_iadd (by decide +kernel) f4 f_449 fun v_450 f_451 => ?_
  refine go_sld (by decide +kernel) f0 f_451 g_421 fun v_452 f_453 => ?_
  obtain ⟨x_455, m_456, hc_454, h⟩ := bd_s h
  refine go_callV (x := 157) (mi := 202) (n := 2) (ci := 13) (as := [v_446, v_452]) (rest := []) (by decide +kernel) (by decide +kernel) rfl rfl (q_sum8 _ (Nat.le_of_ble_eq_true rfl)) R_428 f2 (fx_k (c := 13) R_428 (by decide +kernel)) (om_X12_setPolicy (Nat.le_trans (by decide) hd) R_428 f2 f_447 f_453 hc_454) (fun _ S_459 q_462 => ?_) (fun _ _ qq => kr_x qq)
  refine kr_z (by decide) q_462 fun v_457 f_458 R_460 E_461 => ?_
  have E_465 := Ext.tr E_433 E_461
  refine go_istore (n := 6) (by decide +kernel) (by decide +kernel) f_458 fun L_466 l_467 kp_468 => ?_
  have l_469 := kp_468 0 _ l_437 (by decide) (Or.inl (by decide))
  have l_470 := kp_468 1 _ l_438 (by decide) (Or.inl (by decide))
  have l_471 := kp_468 2 _ l_439 (by decide) (Or.inl (by decide))
  have l_472 := kp_468 3 _ l_440 (by decide) (Or.inl (by decide))
  have l_473 := kp_468 4 _ l_441 (by decide) (Or.inl (by decide))
  have l_474 := kp_468 5 _ l_435 (by decide) (Or.inr (q_is_cat f_426 (Or.inl rfl)))
  refine go_aload_n (n := 2) (by decide +kernel) l_471 f2 ?_
  obtain ⟨x_476, hc_475, h⟩ := bp_s h
  refine go_callV (x := 143) (mi := 185) (n := 0) (ci := 13) (as := []) (rest := []) (by decide +kernel) (by decide +kernel) rfl rfl (q_sum8 _ (Nat.le_of_ble_eq_true rfl)) R_460 f2 (fx_k (c := 13) R_460 (by decide +kernel)) (om_X12_thrown (Nat.le_trans (by decide) hd) R_460 f2 hc_475) (fun _ S_480 q_483 => ?_) (fun _ _ qq => kr_x qq)
  refine kr_z (by decide) q_483 fun v_478 f_479 R_481 E_482 => ?_
  refine go_iload (n := 5) (by decide +kernel) l_474 f_426 ?_
  refine go_icmp (c := .eq) (o := 5) (t := 498) (P := x_476 = x_423) (by decide +kernel) (by decide +kernel) f_479 f_426 (Iff.rfl) (fun hp_484 => ?_) (fun hp_484 => ?_)
  · have h := it_t hp_484 h
    refine go_iload (n := 5) (by decide +kernel) l_474 f_426 ?_
    refine go_if (c := .ne) (o := 15) (t := 515) (P := ¬ (x_423 = 0)) (by decide +kernel) (by decide +kernel) f_426 (Iff.rfl) (fun hp_485 => ?_) (fun hp_485 => ?_)
    · have h := it_f hp_485 h
      refine go_goto (o := 2082) (t := 2597) (by decide +kernel) (by decide +kernel) ?_
      refine go_iinc (n := 4) (c := 7) (c' := 7) (by decide +kernel) (by decide +kernel) l_473 f4 (by decide) fun L_486 v_487 f_488 l_489 kp_490 => ?_
      obtain ⟨x_491, e_492, h⟩ := lx_s h
      have f_493 := q_is_eq f_488 e_492
      have l_494 := kp_490 0 _ l_469 (by decide) (Or.inl (by decide))
      have l_495 := kp_490 1 _ l_470 (by decide) (Or.inl (by decide))
      have l_496 := kp_490 2 _ l_471 (by decide) (Or.inl (by decide))
      have l_497 := kp_490 3 _ l_472 (by decide) (Or.inr (q_is_cat f3 (Or.inr rfl)))
      refine go_goto (o := (-2577)) (t := 23) (by decide +kernel) (by decide +kernel) ?_
      exact hc m_456 E_465 h R_481 l_494 f0 l_495 f1 l_496 f2 l_497 f3 l_489 f_493
    · have h := it_n hp_485 h
      refine go_aload_n (n := 3) (by decide +kernel) l_472 f3 ?_
      refine go_iconst (n := 0) (z := 0) (by decide +kernel) (by decide) fun v_498 f_499 => ?_
      obtain ⟨x_503, e_504, h⟩ := lx_s h
      refine go_lald (kd := 101) (by decide +kernel) rfl R_481 f3 f_499 (fx_k (c := 101) R_481 (by decide +kernel)) (fx_x (a := 162) (ln := 1) R_481 (by decide +kernel) (by decide)) fun v_500 f_501 => ?_
      have f_502 := q_is_eq f_501 e_504
      refine go_iload (n := 6) (by decide +kernel) l_467 f_458 ?_
      refine go_i2l (by decide +kernel) f_458 fun v_505 f_506 => ?_
      refine go_lcmp (by decide +kernel) f_502 f_506 fun v_507 f_508 => ?_
      refine go_if (c := .eq) (o := 5) (t := 515) (P := x_503 = x_455) (by decide +kernel) (by decide +kernel) f_508 (lc_eq) (fun hp_509 => ?_) (fun hp_509 => ?_)
      · have h := it_t hp_509 h
        refine go_goto (o := 2082) (t := 2597) (by decide +kernel) (by decide +kernel) ?_
        refine go_iinc (n := 4) (c := 7) (c' := 7) (by decide +kernel) (by decide +kernel) l_473 f4 (by decide) fun L_510 v_511 f_512 l_513 kp_514 => ?_
        obtain ⟨x_515, e_516, h⟩ := lx_s h
        have f_517 := q_is_eq f_512 e_516
        have l_518 := kp_514 0 _ l_469 (by decide) (Or.inl (by decide))
        have l_519 := kp_514 1 _ l_470 (by decide) (Or.inl (by decide))
        have l_520 := kp_514 2 _ l_471 (by decide) (Or.inl (by decide))
        have l_521 := kp_514 3 _ l_472 (by decide) (Or.inr (q_is_cat f3 (Or.inr rfl)))
        refine go_goto (o := (-2577)) (t := 23) (by decide +kernel) (by decide +kernel) ?_
        exact hc m_456 E_465 h R_481 l_518 f0 l_519 f1 l_520 f2 l_521 f3 l_513 f_517
      · have h := it_f hp_509 h
        refine go_iconst (n := 0) (z := 0) (by decide +kernel) (by decide) fun v_522 f_523 => ?_
        cases h
        exact go_iret (by decide +kernel) rfl (Or.inr ⟨rfl, by decide⟩) f_523 (hQ E_465 _ _ R_481 (q_out_v (by decide) f_523))
  · have h := it_f hp_484 h
    refine go_iconst (n := 0) (z := 0) (by decide +kernel) (by decide) fun v_524 f_525 => ?_
    cases h
    exact go_iret (by decide +kernel) rfl (Or.inr ⟨rfl, by decide⟩) f_525 (hQ E_465 _ _ R_481 (q_out_v (by decide) f_525))
noncomputable def fj_L_law_518 (xs : List Int32) (c : Int → MM → Option (Int × MM)) (y4 : Int) (m : MM) : Option (Int × MM) := gd (0 ≤ w32 (y4 + 1) ∧ w32 (y4 + 1) < (xs.length : Int)) <| gd (0 ≤ w32 (y4 + 2) ∧ w32 (y4 + 2) < (xs.length : Int)) <| gd (0 ≤ w32 (y4 + 3) ∧ w32 (y4 + 3) < (xs.length : Int)) <| bd (fm_L_begin (scr xs (w32 (y4 + 1))) (scr xs (w32 (y4 + 2))) (scr xs (w32 (y4 + 3))) m) fun x_550 m_551 =>
bd (fm_X12_begin (scr xs (w32 (y4 + 1))) (scr xs (w32 (y4 + 2))) (scr xs (w32 (y4 + 3))) m_551) fun x_588 m_589 =>
bp (fm_X12_thrown m_589) fun x_609 =>
if x_609 = x_550 then
if x_550 = 0 then
lx (m_589 162 0) fun x_636 =>
if x_636 = x_588 then
lx (w32 (y4 + 7)) fun x_648 =>
c x_648 m_589
else
some (0, m_589)
else
lx (w32 (y4 + 7)) fun x_624 =>
c x_624 m_589
else
some (0, m_589)
set_option maxHeartbeats 4000000 in
theorem oj_L_law_518 {xs : List Int32} {d : Nat} {S : QS} {L : QL} {Q : QO → QS → Prop} {m : MM} {y4 : Int} {v0 : Value} {v1 : Value} {v2 : Value} {v3 : Value} {v4 : Value}  {rz : Int} {rm : MM} {c : Int → MM → Option (Int × MM)} 
  (hd : 174 ≤ d) (R : Rp S m) (l0 : q_lo L 0 = some v0) (f0 : q_is 7 v0 0) (l1 : q_lo L 1 = some v1) (f1 : q_is 2 v1 4) (l2 : q_lo L 2 = some v2) (f2 : q_is 2 v2 68) (l3 : q_lo L 3 = some v3) (f3 : q_is 2 v3 162) (l4 : q_lo L 4 = some v4) (f4 : q_is 0 v4 y4)
  (hc : ∀ mq : MM, Ext m mq → ∀ {z4 : Int} {Sq : QS} {Lq : QL} {u0 : Value} {u1 : Value} {u2 : Value} {u3 : Value} {u4 : Value}, c z4 mq = some (rz, rm) → Rp Sq mq → q_lo Lq 0 = some u0 → q_is 7 u0 0 → q_lo Lq 1 = some u1 → q_is 2 u1 4 → q_lo Lq 2 = some u2 → q_is 2 u2 68 → q_lo Lq 3 = some u3 → q_is 2 u3 162 → q_lo Lq 4 = some u4 → q_is 0 u4 z4 → Go xs d qM_L_law 23 Lq [] Sq Q)
  (hQ : Ext m rm → ∀ o S1, Rp S1 rm → q_out 0 o rz → Q o S1)
  (h : fj_L_law_518 xs c y4 m = some (rz, rm)) : Go xs d qM_L_law 518 L [] S Q := by
  unfold fj_L_law_518 at h
  refine go_aload_n (n := 1) (by decide +kernel) l1 f1 ?_
  refine go_aloadS (n := 0) (by decide +kernel) l0 f0 ?_
  refine go_iload (n := 4) (by decide +kernel) l4 f4 ?_
  refine go_iconst (n := 1) (z := 1) (by decide +kernel) (by decide) fun v_528 f_529 => ?_
  refine go_iadd (by decide +kernel) f4 f_529 fun v_530 f_531 => ?_
  obtain ⟨g_534, h⟩ := gd_s h
  refine go_sld (by decide +kernel) f0 f_531 g_534 fun v_532 f_533 => ?_
  refine go_aloadS (n := 0) (by decide +kernel) l0 f0 ?_
  refine go_iload (n := 4) (by decide +kernel) l4 f4 ?_
  refine go_iconst (n := 2) (z := 2) (by decide +kernel) (by decide) fun v_535 f_536 => ?_
  refine go_iadd (by decide +kernel) f4 f_536 fun v_537 f_538 => ?_
  obtain ⟨g_541, h⟩ := gd_s h
  refine go_sld (by decide +kernel) f0 f_538 g_541 fun v_539 f_540 => ?_
  refine go_aloadS (n := 0) (by decide +kernel) l0 f0 ?_
  refine go_iload (n := 4) (by decide +kernel) l4 f4 ?_
  refine go_iconst (n := 3) (z := 3) (by decide +kernel) (by decide) fun v_542 f_543 => ?_
  refine go_iadd (by decide +kernel) f4 f_543 fun v_544 f_545 => ?_
  obtain ⟨g_548, h⟩ := gd_s h
  refine go_sld (by decide +kernel) f0 f_545 g_548 fun v_546 f_547 => ?_
  refine go_aload_n (n := 3) (by decide +kernel) l3 f3 ?_
  obtain ⟨x_550, m_551, hc_549, h⟩ := bd_s h
  refine go_callS (x := 158) (mi := 344) (n := 5) (b := 0) (as := [v1, v_532, v_539, v_546, v3]) (rest := []) (by decide +kernel) (by decide +kernel) rfl rfl (q_sum8 _ (Nat.le_of_ble_eq_true rfl)) (om_L_begin (Nat.le_trans (by decide) hd) R f1 f_533 f_540 f_547 f3 hc_549) (fun _ S_554 q_557 => ?_) (fun _ _ qq => kr_x qq)
  refine kr_z (by decide) q_557 fun v_552 f_553 R_555 E_556 => ?_
  have E_560 := E_556
  refine go_istore (n := 5) (by decide +kernel) (by decide +kernel) f_553 fun L_561 l_562 kp_563 => ?_
  have l_564 := kp_563 0 _ l0 (by decide) (Or.inl (by decide))
  have l_565 := kp_563 1 _ l1 (by decide) (Or.inl (by decide))
  have l_566 := kp_563 2 _ l2 (by decide) (Or.inl (by decide))
  have l_567 := kp_563 3 _ l3 (by decide) (Or.inl (by decide))
  have l_568 := kp_563 4 _ l4 (by decide) (Or.inr (q_is_cat f4 (Or.inl rfl)))
  refine go_aload_n (n := 2) (by decide +kernel) l_566 f2 ?_
  refine go_aloadS (n := 0) (by decide +kernel) l_564 f0 ?_
  refine go_iload (n := 4) (by decide +kernel) l_568 f4 ?_
  refine go_iconst (n := 1) (z := 1) (by decide +kernel) (by decide) fun v_569 f_570 => ?_
  refine go_iadd (by decide +kernel) f4 f_570 fun v_571 f_572 => ?_
  refine go_sld (by decide +kernel) f0 f_572 g_534 fun v_573 f_574 => ?_
  refine go_aloadS (n := 0) (by decide +kernel) l_564 f0 ?_
  refine go_iload (n := 4) (by decide +kernel) l_568 f4 ?_
  refine go_iconst (n := 2) (z := 2) (by decide +kernel) (by decide) fun v_575 f_576 => ?_
  refine go_iadd (by decide +kernel) f4 f_576 fun v_577 f_578 => ?_
  refine go_sld (by decide +kernel) f0 f_578 g_541 fun v_579 f_580 => ?_
  refine go_aloadS (n := 0) (by decide +kernel) l_564 f0 ?_
  refine go_iload (n := 4) (by decide +kernel) l_568 f4 ?_
  refine go_iconst (n := 3) (z := 3) (by decide +kernel) (by decide) fun v_581 f_582 => ?_
  refine go_iadd (by decide +kernel) f4 f_582 fun v_583 f_584 => ?_
  refine go_sld (by decide +kernel) f0 f_584 g_548 fun v_585 f_586 => ?_
  obtain ⟨x_588, m_589, hc_587, h⟩ := bd_s h
  refine go_callV (x := 161) (mi := 258) (n := 3) (ci := 13) (as := [v_573, v_579, v_585]) (rest := []) (by decide +kernel) (by decide +kernel) rfl rfl (q_sum8 _ (Nat.le_of_ble_eq_true rfl)) R_555 f2 (fx_k (c := 13) R_555 (by decide +kernel)) (om_X12_begin (Nat.le_trans (by decide) hd) R_555 f2 f_574 f_580 f_586 hc_587) (fun _ S_592 q_595 => ?_) (fun _ _ qq => kr_x qq)
  refine kr_z (by decide) q_595 fun v_590 f_591 R_593 E_594 => ?_
  have E_598 := Ext.tr E_560 E_594
  refine go_istore (n := 6) (by decide +kernel) (by decide +kernel) f_591 fun L_599 l_600 kp_601 => ?_
  have l_602 := kp_601 0 _ l_564 (by decide) (Or.inl (by decide))
  have l_603 := kp_601 1 _ l_565 (by decide) (Or.inl (by decide))
  have l_604 := kp_601 2 _ l_566 (by decide) (Or.inl (by decide))
  have l_605 := kp_601 3 _ l_567 (by decide) (Or.inl (by decide))
  have l_606 := kp_601 4 _ l_568 (by decide) (Or.inl (by decide))
  have l_607 := kp_601 5 _ l_562 (by decide) (Or.inr (q_is_cat f_553 (Or.inl rfl)))
  refine go_aload_n (n := 2) (by decide +kernel) l_604 f2 ?_
  obtain ⟨x_609, hc_608, h⟩ := bp_s h
  refine go_callV (x := 143) (mi := 185) (n := 0) (ci := 13) (as := []) (rest := []) (by decide +kernel) (by decide +kernel) rfl rfl (q_sum8 _ (Nat.le_of_ble_eq_true rfl)) R_593 f2 (fx_k (c := 13) R_593 (by decide +kernel)) (om_X12_thrown (Nat.le_trans (by decide) hd) R_593 f2 hc_608) (fun _ S_613 q_616 => ?_) (fun _ _ qq => kr_x qq)
  refine kr_z (by decide) q_616 fun v_611 f_612 R_614 E_615 => ?_
  refine go_iload (n := 5) (by decide +kernel) l_607 f_553 ?_
  refine go_icmp (c := .eq) (o := 5) (t := 578) (P := x_609 = x_550) (by decide +kernel) (by decide +kernel) f_612 f_553 (Iff.rfl) (fun hp_617 => ?_) (fun hp_617 => ?_)
  · have h := it_t hp_617 h
    refine go_iload (n := 5) (by decide +kernel) l_607 f_553 ?_
    refine go_if (c := .ne) (o := 15) (t := 595) (P := ¬ (x_550 = 0)) (by decide +kernel) (by decide +kernel) f_553 (Iff.rfl) (fun hp_618 => ?_) (fun hp_618 => ?_)
    · have h := it_f hp_618 h
      refine go_goto (o := 2002) (t := 2597) (by decide +kernel) (by decide +kernel) ?_
      refine go_iinc (n := 4) (c := 7) (c' := 7) (by decide +kernel) (by decide +kernel) l_606 f4 (by decide) fun L_619 v_620 f_621 l_622 kp_623 => ?_
      obtain ⟨x_624, e_625, h⟩ := lx_s h
      have f_626 := q_is_eq f_621 e_625
      have l_627 := kp_623 0 _ l_602 (by decide) (Or.inl (by decide))
      have l_628 := kp_623 1 _ l_603 (by decide) (Or.inl (by decide))
      have l_629 := kp_623 2 _ l_604 (by decide) (Or.inl (by decide))
      have l_630 := kp_623 3 _ l_605 (by decide) (Or.inr (q_is_cat f3 (Or.inr rfl)))
      refine go_goto (o := (-2577)) (t := 23) (by decide +kernel) (by decide +kernel) ?_
      exact hc m_589 E_598 h R_614 l_627 f0 l_628 f1 l_629 f2 l_630 f3 l_622 f_626
    · have h := it_n hp_618 h
      refine go_aload_n (n := 3) (by decide +kernel) l_605 f3 ?_
      refine go_iconst (n := 0) (z := 0) (by decide +kernel) (by decide) fun v_631 f_632 => ?_
      obtain ⟨x_636, e_637, h⟩ := lx_s h
      refine go_lald (kd := 101) (by decide +kernel) rfl R_614 f3 f_632 (fx_k (c := 101) R_614 (by decide +kernel)) (fx_x (a := 162) (ln := 1) R_614 (by decide +kernel) (by decide)) fun v_633 f_634 => ?_
      have f_635 := q_is_eq f_634 e_637
      refine go_iload (n := 6) (by decide +kernel) l_600 f_591 ?_
      refine go_i2l (by decide +kernel) f_591 fun v_638 f_639 => ?_
      refine go_lcmp (by decide +kernel) f_635 f_639 fun v_640 f_641 => ?_
      refine go_if (c := .eq) (o := 5) (t := 595) (P := x_636 = x_588) (by decide +kernel) (by decide +kernel) f_641 (lc_eq) (fun hp_642 => ?_) (fun hp_642 => ?_)
      · have h := it_t hp_642 h
        refine go_goto (o := 2002) (t := 2597) (by decide +kernel) (by decide +kernel) ?_
        refine go_iinc (n := 4) (c := 7) (c' := 7) (by decide +kernel) (by decide +kernel) l_606 f4 (by decide) fun L_643 v_644 f_645 l_646 kp_647 => ?_
        obtain ⟨x_648, e_649, h⟩ := lx_s h
        have f_650 := q_is_eq f_645 e_649
        have l_651 := kp_647 0 _ l_602 (by decide) (Or.inl (by decide))
        have l_652 := kp_647 1 _ l_603 (by decide) (Or.inl (by decide))
        have l_653 := kp_647 2 _ l_604 (by decide) (Or.inl (by decide))
        have l_654 := kp_647 3 _ l_605 (by decide) (Or.inr (q_is_cat f3 (Or.inr rfl)))
        refine go_goto (o := (-2577)) (t := 23) (by decide +kernel) (by decide +kernel) ?_
        exact hc m_589 E_598 h R_614 l_651 f0 l_652 f1 l_653 f2 l_654 f3 l_646 f_650
      · have h := it_f hp_642 h
        refine go_iconst (n := 0) (z := 0) (by decide +kernel) (by decide) fun v_655 f_656 => ?_
        cases h
        exact go_iret (by decide +kernel) rfl (Or.inr ⟨rfl, by decide⟩) f_656 (hQ E_598 _ _ R_614 (q_out_v (by decide) f_656))
  · have h := it_f hp_617 h
    refine go_iconst (n := 0) (z := 0) (by decide +kernel) (by decide) fun v_657 f_658 => ?_
    cases h
    exact go_iret (by decide +kernel) rfl (Or.inr ⟨rfl, by decide⟩) f_658 (hQ E_598 _ _ R_614 (q_out_v (by decide) f_658))
noncomputable def fj_L_law_598 (xs : List Int32) (c : Int → MM → Option (Int × MM)) (y4 : Int) (m : MM) : Option (Int × MM) := gd (0 ≤ w32 (y4 + 1) ∧ w32 (y4 + 1) < (xs.length : Int)) <| gd (0 ≤ w32 (y4 + 2) ∧ w32 (y4 + 2) < (xs.length : Int)) <| gd (0 ≤ w32 (y4 + 3) ∧ w32 (y4 + 3) < (xs.length : Int)) <| bd (fm_L_signal (scr xs (w32 (y4 + 1))) (scr xs (w32 (y4 + 2))) (scr xs (w32 (y4 + 3))) m) fun x_683 m_684 =>
bd (fm_X12_signal (scr xs (w32 (y4 + 1))) (scr xs (w32 (y4 + 2))) (scr xs (w32 (y4 + 3))) m_684) fun x_721 m_722 =>
bp (fm_X12_thrown m_722) fun x_742 =>
if x_742 = x_683 then
if x_683 = 0 then
lx (m_722 162 0) fun x_769 =>
if x_769 = x_721 then
lx (w32 (y4 + 7)) fun x_781 =>
c x_781 m_722
else
some (0, m_722)
else
lx (w32 (y4 + 7)) fun x_757 =>
c x_757 m_722
else
some (0, m_722)
set_option maxHeartbeats 4000000 in
theorem oj_L_law_598 {xs : List Int32} {d : Nat} {S : QS} {L : QL} {Q : QO → QS → Prop} {m : MM} {y4 : Int} {v0 : Value} {v1 : Value} {v2 : Value} {v3 : Value} {v4 : Value}  {rz : Int} {rm : MM} {c : Int → MM → Option (Int × MM)} 
  (hd : 174 ≤ d) (R : Rp S m) (l0 : q_lo L 0 = some v0) (f0 : q_is 7 v0 0) (l1 : q_lo L 1 = some v1) (f1 : q_is 2 v1 4) (l2 : q_lo L 2 = some v2) (f2 : q_is 2 v2 68) (l3 : q_lo L 3 = some v3) (f3 : q_is 2 v3 162) (l4 : q_lo L 4 = some v4) (f4 : q_is 0 v4 y4)
  (hc : ∀ mq : MM, Ext m mq → ∀ {z4 : Int} {Sq : QS} {Lq : QL} {u0 : Value} {u1 : Value} {u2 : Value} {u3 : Value} {u4 : Value}, c z4 mq = some (rz, rm) → Rp Sq mq → q_lo Lq 0 = some u0 → q_is 7 u0 0 → q_lo Lq 1 = some u1 → q_is 2 u1 4 → q_lo Lq 2 = some u2 → q_is 2 u2 68 → q_lo Lq 3 = some u3 → q_is 2 u3 162 → q_lo Lq 4 = some u4 → q_is 0 u4 z4 → Go xs d qM_L_law 23 Lq [] Sq Q)
  (hQ : Ext m rm → ∀ o S1, Rp S1 rm → q_out 0 o rz → Q o S1)
  (h : fj_L_law_598 xs c y4 m = some (rz, rm)) : Go xs d qM_L_law 598 L [] S Q := by
  unfold fj_L_law_598 at h
  refine go_aload_n (n := 1) (by decide +kernel) l1 f1 ?_
  refine go_aloadS (n := 0) (by decide +kernel) l0 f0 ?_
  refine go_iload (n := 4) (by decide +kernel) l4 f4 ?_
  refine go_iconst (n := 1) (z := 1) (by decide +kernel) (by decide) fun v_661 f_662 => ?_
  refine go_iadd (by decide +kernel) f4 f_662 fun v_663 f_664 => ?_
  obtain ⟨g_667, h⟩ := gd_s h
  refine go_sld (by decide +kernel) f0 f_664 g_667 fun v_665 f_666 => ?_
  refine go_aloadS (n := 0) (by decide +kernel) l0 f0 ?_
  refine go_iload (n := 4) (by decide +kernel) l4 f4 ?_
  refine go_iconst (n := 2) (z := 2) (by decide +kernel) (by decide) fun v_668 f_669 => ?_
  refine go_iadd (by decide +kernel) f4 f_669 fun v_670 f_671 => ?_
  obtain ⟨g_674, h⟩ := gd_s h
  refine go_sld (by decide +kernel) f0 f_671 g_674 fun v_672 f_673 => ?_
  refine go_aloadS (n := 0) (by decide +kernel) l0 f0 ?_
  refine go_iload (n := 4) (by decide +kernel) l4 f4 ?_
  refine go_iconst (n := 3) (z := 3) (by decide +kernel) (by decide) fun v_675 f_676 => ?_
  refine go_iadd (by decide +kernel) f4 f_676 fun v_677 f_678 => ?_
  obtain ⟨g_681, h⟩ := gd_s h
  refine go_sld (by decide +kernel) f0 f_678 g_681 fun v_679 f_680 => ?_
  refine go_aload_n (n := 3) (by decide +kernel) l3 f3 ?_
  obtain ⟨x_683, m_684, hc_682, h⟩ := bd_s h
  refine go_callS (x := 162) (mi := 345) (n := 5) (b := 0) (as := [v1, v_665, v_672, v_679, v3]) (rest := []) (by decide +kernel) (by decide +kernel) rfl rfl (q_sum8 _ (Nat.le_of_ble_eq_true rfl)) (om_L_signal (Nat.le_trans (by decide) hd) R f1 f_666 f_673 f_680 f3 hc_682) (fun _ S_687 q_690 => ?_) (fun _ _ qq => kr_x qq)
  refine kr_z (by decide) q_690 fun v_685 f_686 R_688 E_689 => ?_
  have E_693 := E_689
  refine go_istore (n := 5) (by decide +kernel) (by decide +kernel) f_686 fun L_694 l_695 kp_696 => ?_
  have l_697 := kp_696 0 _ l0 (by decide) (Or.inl (by decide))
  have l_698 := kp_696 1 _ l1 (by decide) (Or.inl (by decide))
  have l_699 := kp_696 2 _ l2 (by decide) (Or.inl (by decide))
  have l_700 := kp_696 3 _ l3 (by decide) (Or.inl (by decide))
  have l_701 := kp_696 4 _ l4 (by decide) (Or.inr (q_is_cat f4 (Or.inl rfl)))
  refine go_aload_n (n := 2) (by decide +kernel) l_699 f2 ?_
  refine go_aloadS (n := 0) (by decide +kernel) l_697 f0 ?_
  refine go_iload (n := 4) (by decide +kernel) l_701 f4 ?_
  refine go_iconst (n := 1) (z := 1) (by decide +kernel) (by decide) fun v_702 f_703 => ?_
  refine go_iadd (by decide +kernel) f4 f_703 fun v_704 f_705 => ?_
  refine go_sld (by decide +kernel) f0 f_705 g_667 fun v_706 f_707 => ?_
  refine go_aloadS (n := 0) (by decide +kernel) l_697 f0 ?_
  refine go_iload (n := 4) (by decide +kernel) l_701 f4 ?_
  refine go_iconst (n := 2) (z := 2) (by decide +kernel) (by decide) fun v_708 f_709 => ?_
  refine go_iadd (by decide +kernel) f4 f_709 fun v_710 f_711 => ?_
  refine go_sld (by decide +kernel) f0 f_711 g_674 fun v_712 f_713 => ?_
  refine go_aloadS (n := 0) (by decide +kernel) l_697 f0 ?_
  refine go_iload (n := 4) (by decide +kernel) l_701 f4 ?_
  refine go_iconst (n := 3) (z := 3) (by decide +kernel) (by decide) fun v_714 f_715 => ?_
  refine go_iadd (by decide +kernel) f4 f_715 fun v_716 f_717 => ?_
  refine go_sld (by decide +kernel) f0 f_717 g_681 fun v_718 f_719 => ?_
  obtain ⟨x_721, m_722, hc_720, h⟩ := bd_s h
  refine go_callV (x := 164) (mi := 260) (n := 3) (ci := 13) (as := [v_706, v_712, v_718]) (rest := []) (by decide +kernel) (by decide +kernel) rfl rfl (q_sum8 _ (Nat.le_of_ble_eq_true rfl)) R_688 f2 (fx_k (c := 13) R_688 (by decide +kernel)) (om_X12_signal (Nat.le_trans (by decide) hd) R_688 f2 f_707 f_713 f_719 hc_720) (fun _ S_725 q_728 => ?_) (fun _ _ qq => kr_x qq)
  refine kr_z (by decide) q_728 fun v_723 f_724 R_726 E_727 => ?_
  have E_731 := Ext.tr E_693 E_727
  refine go_istore (n := 6) (by decide +kernel) (by decide +kernel) f_724 fun L_732 l_733 kp_734 => ?_
  have l_735 := kp_734 0 _ l_697 (by decide) (Or.inl (by decide))
  have l_736 := kp_734 1 _ l_698 (by decide) (Or.inl (by decide))
  have l_737 := kp_734 2 _ l_699 (by decide) (Or.inl (by decide))
  have l_738 := kp_734 3 _ l_700 (by decide) (Or.inl (by decide))
  have l_739 := kp_734 4 _ l_701 (by decide) (Or.inl (by decide))
  have l_740 := kp_734 5 _ l_695 (by decide) (Or.inr (q_is_cat f_686 (Or.inl rfl)))
  refine go_aload_n (n := 2) (by decide +kernel) l_737 f2 ?_
  obtain ⟨x_742, hc_741, h⟩ := bp_s h
  refine go_callV (x := 143) (mi := 185) (n := 0) (ci := 13) (as := []) (rest := []) (by decide +kernel) (by decide +kernel) rfl rfl (q_sum8 _ (Nat.le_of_ble_eq_true rfl)) R_726 f2 (fx_k (c := 13) R_726 (by decide +kernel)) (om_X12_thrown (Nat.le_trans (by decide) hd) R_726 f2 hc_741) (fun _ S_746 q_749 => ?_) (fun _ _ qq => kr_x qq)
  refine kr_z (by decide) q_749 fun v_744 f_745 R_747 E_748 => ?_
  refine go_iload (n := 5) (by decide +kernel) l_740 f_686 ?_
  refine go_icmp (c := .eq) (o := 5) (t := 658) (P := x_742 = x_683) (by decide +kernel) (by decide +kernel) f_745 f_686 (Iff.rfl) (fun hp_750 => ?_) (fun hp_750 => ?_)
  · have h := it_t hp_750 h
    refine go_iload (n := 5) (by decide +kernel) l_740 f_686 ?_
    refine go_if (c := .ne) (o := 15) (t := 675) (P := ¬ (x_683 = 0)) (by decide +kernel) (by decide +kernel) f_686 (Iff.rfl) (fun hp_751 => ?_) (fun hp_751 => ?_)
    · have h := it_f hp_751 h
      refine go_goto (o := 1922) (t := 2597) (by decide +kernel) (by decide +kernel) ?_
      refine go_iinc (n := 4) (c := 7) (c' := 7) (by decide +kernel) (by decide +kernel) l_739 f4 (by decide) fun L_752 v_753 f_754 l_755 kp_756 => ?_
      obtain ⟨x_757, e_758, h⟩ := lx_s h
      have f_759 := q_is_eq f_754 e_758
      have l_760 := kp_756 0 _ l_735 (by decide) (Or.inl (by decide))
      have l_761 := kp_756 1 _ l_736 (by decide) (Or.inl (by decide))
      have l_762 := kp_756 2 _ l_737 (by decide) (Or.inl (by decide))
      have l_763 := kp_756 3 _ l_738 (by decide) (Or.inr (q_is_cat f3 (Or.inr rfl)))
      refine go_goto (o := (-2577)) (t := 23) (by decide +kernel) (by decide +kernel) ?_
      exact hc m_722 E_731 h R_747 l_760 f0 l_761 f1 l_762 f2 l_763 f3 l_755 f_759
    · have h := it_n hp_751 h
      refine go_aload_n (n := 3) (by decide +kernel) l_738 f3 ?_
      refine go_iconst (n := 0) (z := 0) (by decide +kernel) (by decide) fun v_764 f_765 => ?_
      obtain ⟨x_769, e_770, h⟩ := lx_s h
      refine go_lald (kd := 101) (by decide +kernel) rfl R_747 f3 f_765 (fx_k (c := 101) R_747 (by decide +kernel)) (fx_x (a := 162) (ln := 1) R_747 (by decide +kernel) (by decide)) fun v_766 f_767 => ?_
      have f_768 := q_is_eq f_767 e_770
      refine go_iload (n := 6) (by decide +kernel) l_733 f_724 ?_
      refine go_i2l (by decide +kernel) f_724 fun v_771 f_772 => ?_
      refine go_lcmp (by decide +kernel) f_768 f_772 fun v_773 f_774 => ?_
      refine go_if (c := .eq) (o := 5) (t := 675) (P := x_769 = x_721) (by decide +kernel) (by decide +kernel) f_774 (lc_eq) (fun hp_775 => ?_) (fun hp_775 => ?_)
      · have h := it_t hp_775 h
        refine go_goto (o := 1922) (t := 2597) (by decide +kernel) (by decide +kernel) ?_
        refine go_iinc (n := 4) (c := 7) (c' := 7) (by decide +kernel) (by decide +kernel) l_739 f4 (by decide) fun L_776 v_777 f_778 l_779 kp_780 => ?_
        obtain ⟨x_781, e_782, h⟩ := lx_s h
        have f_783 := q_is_eq f_778 e_782
        have l_784 := kp_780 0 _ l_735 (by decide) (Or.inl (by decide))
        have l_785 := kp_780 1 _ l_736 (by decide) (Or.inl (by decide))
        have l_786 := kp_780 2 _ l_737 (by decide) (Or.inl (by decide))
        have l_787 := kp_780 3 _ l_738 (by decide) (Or.inr (q_is_cat f3 (Or.inr rfl)))
        refine go_goto (o := (-2577)) (t := 23) (by decide +kernel) (by decide +kernel) ?_
        exact hc m_722 E_731 h R_747 l_784 f0 l_785 f1 l_786 f2 l_787 f3 l_779 f_783
      · have h := it_f hp_775 h
        refine go_iconst (n := 0) (z := 0) (by decide +kernel) (by decide) fun v_788 f_789 => ?_
        cases h
        exact go_iret (by decide +kernel) rfl (Or.inr ⟨rfl, by decide⟩) f_789 (hQ E_731 _ _ R_747 (q_out_v (by decide) f_789))
  · have h := it_f hp_750 h
    refine go_iconst (n := 0) (z := 0) (by decide +kernel) (by decide) fun v_790 f_791 => ?_
    cases h
    exact go_iret (by decide +kernel) rfl (Or.inr ⟨rfl, by decide⟩) f_791 (hQ E_731 _ _ R_747 (q_out_v (by decide) f_791))
noncomputable def fj_L_law_756 (xs : List Int32) (c : Int → MM → Option (Int × MM)) (y4 s0 s1 : Int) (m : MM) : Option (Int × MM) := if s1 = s0 then
lx (w32 (y4 + 7)) fun x_915 =>
c x_915 m
else
some (0, m)
set_option maxHeartbeats 4000000 in
theorem oj_L_law_756 {xs : List Int32} {d : Nat} {S : QS} {L : QL} {Q : QO → QS → Prop} {m : MM} {y4 s0 s1 : Int} {v0 : Value} {v1 : Value} {v2 : Value} {v3 : Value} {v4 : Value} {w0 : Value} {w1 : Value}  {rz : Int} {rm : MM} {c : Int → MM → Option (Int × MM)} 
  (hd : 174 ≤ d) (R : Rp S m) (l0 : q_lo L 0 = some v0) (f0 : q_is 7 v0 0) (l1 : q_lo L 1 = some v1) (f1 : q_is 2 v1 4) (l2 : q_lo L 2 = some v2) (f2 : q_is 2 v2 68) (l3 : q_lo L 3 = some v3) (f3 : q_is 2 v3 162) (l4 : q_lo L 4 = some v4) (f4 : q_is 0 v4 y4) (fs0 : q_is 1 w0 s0) (fs1 : q_is 1 w1 s1)
  (hc : ∀ mq : MM, Ext m mq → ∀ {z4 : Int} {Sq : QS} {Lq : QL} {u0 : Value} {u1 : Value} {u2 : Value} {u3 : Value} {u4 : Value}, c z4 mq = some (rz, rm) → Rp Sq mq → q_lo Lq 0 = some u0 → q_is 7 u0 0 → q_lo Lq 1 = some u1 → q_is 2 u1 4 → q_lo Lq 2 = some u2 → q_is 2 u2 68 → q_lo Lq 3 = some u3 → q_is 2 u3 162 → q_lo Lq 4 = some u4 → q_is 0 u4 z4 → Go xs d qM_L_law 23 Lq [] Sq Q)
  (hQ : Ext m rm → ∀ o S1, Rp S1 rm → q_out 0 o rz → Q o S1)
  (h : fj_L_law_756 xs c y4 s0 s1 m = some (rz, rm)) : Go xs d qM_L_law 756 L [w0, w1] S Q := by
  unfold fj_L_law_756 at h
  refine go_lcmp (by decide +kernel) fs1 fs0 fun v_907 f_908 => ?_
  refine go_if (c := .eq) (o := 5) (t := 762) (P := s1 = s0) (by decide +kernel) (by decide +kernel) f_908 (lc_eq) (fun hp_909 => ?_) (fun hp_909 => ?_)
  · have h := it_t hp_909 h
    refine go_goto (o := 1835) (t := 2597) (by decide +kernel) (by decide +kernel) ?_
    refine go_iinc (n := 4) (c := 7) (c' := 7) (by decide +kernel) (by decide +kernel) l4 f4 (by decide) fun L_910 v_911 f_912 l_913 kp_914 => ?_
    obtain ⟨x_915, e_916, h⟩ := lx_s h
    have f_917 := q_is_eq f_912 e_916
    have l_918 := kp_914 0 _ l0 (by decide) (Or.inl (by decide))
    have l_919 := kp_914 1 _ l1 (by decide) (Or.inl (by decide))
    have l_920 := kp_914 2 _ l2 (by decide) (Or.inl (by decide))
    have l_921 := kp_914 3 _ l3 (by decide) (Or.inr (q_is_cat f3 (Or.inr rfl)))
    refine go_goto (o := (-2577)) (t := 23) (by decide +kernel) (by decide +kernel) ?_
    exact hc m (Ext.rf _) h R l_918 f0 l_919 f1 l_920 f2 l_921 f3 l_913 f_917
  · have h := it_f hp_909 h
    refine go_iconst (n := 0) (z := 0) (by decide +kernel) (by decide) fun v_922 f_923 => ?_
    cases h
    exact go_iret (by decide +kernel) rfl (Or.inr ⟨rfl, by decide⟩) f_923 (hQ (Ext.rf _) _ _ R (q_out_v (by decide) f_923))
noncomputable def fj_L_law_678 (xs : List Int32) (c : Int → MM → Option (Int × MM)) (y4 : Int) (m : MM) : Option (Int × MM) := gd (0 ≤ w32 (y4 + 1) ∧ w32 (y4 + 1) < (xs.length : Int)) <| gd (0 ≤ w32 (y4 + 2) ∧ w32 (y4 + 2) < (xs.length : Int)) <| gd (0 ≤ w32 (y4 + 3) ∧ w32 (y4 + 3) < (xs.length : Int)) <| bd (fm_L_update (scr xs (w32 (y4 + 1))) (scr xs (w32 (y4 + 2))) (scr xs (w32 (y4 + 3))) m) fun x_816 m_817 =>
bd (fm_X12_update (scr xs (w32 (y4 + 1))) (scr xs (w32 (y4 + 2))) (scr xs (w32 (y4 + 3))) m_817) fun x_854 m_855 =>
bp (fm_X12_thrown m_855) fun x_875 =>
if x_875 = x_816 then
if x_816 = 0 then
lx (m_855 162 0) fun x_902 =>
if x_854 = 0 then
fj_L_law_756 xs c y4 0 x_902 m_855
else
fj_L_law_756 xs c y4 1 x_902 m_855
else
lx (w32 (y4 + 7)) fun x_890 =>
c x_890 m_855
else
some (0, m_855)
set_option maxHeartbeats 4000000 in
theorem oj_L_law_678 {xs : List Int32} {d : Nat} {S : QS} {L : QL} {Q : QO → QS → Prop} {m : MM} {y4 : Int} {v0 : Value} {v1 : Value} {v2 : Value} {v3 : Value} {v4 : Value}  {rz : Int} {rm : MM} {c : Int → MM → Option (Int × MM)} 
  (hd : 174 ≤ d) (R : Rp S m) (l0 : q_lo L 0 = some v0) (f0 : q_is 7 v0 0) (l1 : q_lo L 1 = some v1) (f1 : q_is 2 v1 4) (l2 : q_lo L 2 = some v2) (f2 : q_is 2 v2 68) (l3 : q_lo L 3 = some v3) (f3 : q_is 2 v3 162) (l4 : q_lo L 4 = some v4) (f4 : q_is 0 v4 y4)
  (hc : ∀ mq : MM, Ext m mq → ∀ {z4 : Int} {Sq : QS} {Lq : QL} {u0 : Value} {u1 : Value} {u2 : Value} {u3 : Value} {u4 : Value}, c z4 mq = some (rz, rm) → Rp Sq mq → q_lo Lq 0 = some u0 → q_is 7 u0 0 → q_lo Lq 1 = some u1 → q_is 2 u1 4 → q_lo Lq 2 = some u2 → q_is 2 u2 68 → q_lo Lq 3 = some u3 → q_is 2 u3 162 → q_lo Lq 4 = some u4 → q_is 0 u4 z4 → Go xs d qM_L_law 23 Lq [] Sq Q)
  (hQ : Ext m rm → ∀ o S1, Rp S1 rm → q_out 0 o rz → Q o S1)
  (h : fj_L_law_678 xs c y4 m = some (rz, rm)) : Go xs d qM_L_law 678 L [] S Q := by
  unfold fj_L_law_678 at h
  refine go_aload_n (n := 1) (by decide +kernel) l1 f1 ?_
  refine go_aloadS (n := 0) (by decide +kernel) l0 f0 ?_
  refine go_iload (n := 4) (by decide +kernel) l4 f4 ?_
  refine go_iconst (n := 1) (z := 1) (by decide +kernel) (by decide) fun v_794 f_795 => ?_
  refine go_iadd (by decide +kernel) f4 f_795 fun v_796 f_797 => ?_
  obtain ⟨g_800, h⟩ := gd_s h
  refine go_sld (by decide +kernel) f0 f_797 g_800 fun v_798 f_799 => ?_
  refine go_aloadS (n := 0) (by decide +kernel) l0 f0 ?_
  refine go_iload (n := 4) (by decide +kernel) l4 f4 ?_
  refine go_iconst (n := 2) (z := 2) (by decide +kernel) (by decide) fun v_801 f_802 => ?_
  refine go_iadd (by decide +kernel) f4 f_802 fun v_803 f_804 => ?_
  obtain ⟨g_807, h⟩ := gd_s h
  refine go_sld (by decide +kernel) f0 f_804 g_807 fun v_805 f_806 => ?_
  refine go_aloadS (n := 0) (by decide +kernel) l0 f0 ?_
  refine go_iload (n := 4) (by decide +kernel) l4 f4 ?_
  refine go_iconst (n := 3) (z := 3) (by decide +kernel) (by decide) fun v_808 f_809 => ?_
  refine go_iadd (by decide +kernel) f4 f_809 fun v_810 f_811 => ?_
  obtain ⟨g_814, h⟩ := gd_s h
  refine go_sld (by decide +kernel) f0 f_811 g_814 fun v_812 f_813 => ?_
  refine go_aload_n (n := 3) (by decide +kernel) l3 f3 ?_
  obtain ⟨x_816, m_817, hc_815, h⟩ := bd_s h
  refine go_callS (x := 165) (mi := 346) (n := 5) (b := 0) (as := [v1, v_798, v_805, v_812, v3]) (rest := []) (by decide +kernel) (by decide +kernel) rfl rfl (q_sum8 _ (Nat.le_of_ble_eq_true rfl)) (om_L_update (Nat.le_trans (by decide) hd) R f1 f_799 f_806 f_813 f3 hc_815) (fun _ S_820 q_823 => ?_) (fun _ _ qq => kr_x qq)
  refine kr_z (by decide) q_823 fun v_818 f_819 R_821 E_822 => ?_
  have E_826 := E_822
  refine go_istore (n := 5) (by decide +kernel) (by decide +kernel) f_819 fun L_827 l_828 kp_829 => ?_
  have l_830 := kp_829 0 _ l0 (by decide) (Or.inl (by decide))
  have l_831 := kp_829 1 _ l1 (by decide) (Or.inl (by decide))
  have l_832 := kp_829 2 _ l2 (by decide) (Or.inl (by decide))
  have l_833 := kp_829 3 _ l3 (by decide) (Or.inl (by decide))
  have l_834 := kp_829 4 _ l4 (by decide) (Or.inr (q_is_cat f4 (Or.inl rfl)))
  refine go_aload_n (n := 2) (by decide +kernel) l_832 f2 ?_
  refine go_aloadS (n := 0) (by decide +kernel) l_830 f0 ?_
  refine go_iload (n := 4) (by decide +kernel) l_834 f4 ?_
  refine go_iconst (n := 1) (z := 1) (by decide +kernel) (by decide) fun v_835 f_836 => ?_
  refine go_iadd (by decide +kernel) f4 f_836 fun v_837 f_838 => ?_
  refine go_sld (by decide +kernel) f0 f_838 g_800 fun v_839 f_840 => ?_
  refine go_aloadS (n := 0) (by decide +kernel) l_830 f0 ?_
  refine go_iload (n := 4) (by decide +kernel) l_834 f4 ?_
  refine go_iconst (n := 2) (z := 2) (by decide +kernel) (by decide) fun v_841 f_842 => ?_
  refine go_iadd (by decide +kernel) f4 f_842 fun v_843 f_844 => ?_
  refine go_sld (by decide +kernel) f0 f_844 g_807 fun v_845 f_846 => ?_
  refine go_aloadS (n := 0) (by decide +kernel) l_830 f0 ?_
  refine go_iload (n := 4) (by decide +kernel) l_834 f4 ?_
  refine go_iconst (n := 3) (z := 3) (by decide +kernel) (by decide) fun v_847 f_848 => ?_
  refine go_iadd (by decide +kernel) f4 f_848 fun v_849 f_850 => ?_
  refine go_sld (by decide +kernel) f0 f_850 g_814 fun v_851 f_852 => ?_
  obtain ⟨x_854, m_855, hc_853, h⟩ := bd_s h
  refine go_callV (x := 167) (mi := 262) (n := 3) (ci := 13) (as := [v_839, v_845, v_851]) (rest := []) (by decide +kernel) (by decide +kernel) rfl rfl (q_sum8 _ (Nat.le_of_ble_eq_true rfl)) R_821 f2 (fx_k (c := 13) R_821 (by decide +kernel)) (om_X12_update (Nat.le_trans (by decide) hd) R_821 f2 f_840 f_846 f_852 hc_853) (fun _ S_858 q_861 => ?_) (fun _ _ qq => kr_x qq)
  refine kr_z (by decide) q_861 fun v_856 f_857 R_859 E_860 => ?_
  have E_864 := Ext.tr E_826 E_860
  refine go_istore (n := 6) (by decide +kernel) (by decide +kernel) f_857 fun L_865 l_866 kp_867 => ?_
  have l_868 := kp_867 0 _ l_830 (by decide) (Or.inl (by decide))
  have l_869 := kp_867 1 _ l_831 (by decide) (Or.inl (by decide))
  have l_870 := kp_867 2 _ l_832 (by decide) (Or.inl (by decide))
  have l_871 := kp_867 3 _ l_833 (by decide) (Or.inl (by decide))
  have l_872 := kp_867 4 _ l_834 (by decide) (Or.inl (by decide))
  have l_873 := kp_867 5 _ l_828 (by decide) (Or.inr (q_is_cat f_819 (Or.inl rfl)))
  refine go_aload_n (n := 2) (by decide +kernel) l_870 f2 ?_
  obtain ⟨x_875, hc_874, h⟩ := bp_s h
  refine go_callV (x := 143) (mi := 185) (n := 0) (ci := 13) (as := []) (rest := []) (by decide +kernel) (by decide +kernel) rfl rfl (q_sum8 _ (Nat.le_of_ble_eq_true rfl)) R_859 f2 (fx_k (c := 13) R_859 (by decide +kernel)) (om_X12_thrown (Nat.le_trans (by decide) hd) R_859 f2 hc_874) (fun _ S_879 q_882 => ?_) (fun _ _ qq => kr_x qq)
  refine kr_z (by decide) q_882 fun v_877 f_878 R_880 E_881 => ?_
  refine go_iload (n := 5) (by decide +kernel) l_873 f_819 ?_
  refine go_icmp (c := .eq) (o := 5) (t := 738) (P := x_875 = x_816) (by decide +kernel) (by decide +kernel) f_878 f_819 (Iff.rfl) (fun hp_883 => ?_) (fun hp_883 => ?_)
  · have h := it_t hp_883 h
    refine go_iload (n := 5) (by decide +kernel) l_873 f_819 ?_
    refine go_if (c := .ne) (o := 22) (t := 762) (P := ¬ (x_816 = 0)) (by decide +kernel) (by decide +kernel) f_819 (Iff.rfl) (fun hp_884 => ?_) (fun hp_884 => ?_)
    · have h := it_f hp_884 h
      refine go_goto (o := 1835) (t := 2597) (by decide +kernel) (by decide +kernel) ?_
      refine go_iinc (n := 4) (c := 7) (c' := 7) (by decide +kernel) (by decide +kernel) l_872 f4 (by decide) fun L_885 v_886 f_887 l_888 kp_889 => ?_
      obtain ⟨x_890, e_891, h⟩ := lx_s h
      have f_892 := q_is_eq f_887 e_891
      have l_893 := kp_889 0 _ l_868 (by decide) (Or.inl (by decide))
      have l_894 := kp_889 1 _ l_869 (by decide) (Or.inl (by decide))
      have l_895 := kp_889 2 _ l_870 (by decide) (Or.inl (by decide))
      have l_896 := kp_889 3 _ l_871 (by decide) (Or.inr (q_is_cat f3 (Or.inr rfl)))
      refine go_goto (o := (-2577)) (t := 23) (by decide +kernel) (by decide +kernel) ?_
      exact hc m_855 E_864 h R_880 l_893 f0 l_894 f1 l_895 f2 l_896 f3 l_888 f_892
    · have h := it_n hp_884 h
      refine go_aload_n (n := 3) (by decide +kernel) l_871 f3 ?_
      refine go_iconst (n := 0) (z := 0) (by decide +kernel) (by decide) fun v_897 f_898 => ?_
      obtain ⟨x_902, e_903, h⟩ := lx_s h
      refine go_lald (kd := 101) (by decide +kernel) rfl R_880 f3 f_898 (fx_k (c := 101) R_880 (by decide +kernel)) (fx_x (a := 162) (ln := 1) R_880 (by decide +kernel) (by decide)) fun v_899 f_900 => ?_
      have f_901 := q_is_eq f_900 e_903
      refine go_iload (n := 6) (by decide +kernel) l_866 f_857 ?_
      refine go_if (c := .eq) (o := 7) (t := 755) (P := x_854 = 0) (by decide +kernel) (by decide +kernel) f_857 (Iff.rfl) (fun hp_904 => ?_) (fun hp_904 => ?_)
      · have h := it_t hp_904 h
        refine go_lconst (n := 0) (z := 0) (by decide +kernel) (by decide) fun v_905 f_906 => ?_
        exact oj_L_law_756 hd R_880 l_868 f0 l_869 f1 l_870 f2 l_871 f3 l_872 f4 f_906 f_901 (fun mq b => hc mq (Ext.tr E_864 b)) (fun b => hQ (Ext.tr E_864 b)) h
      · have h := it_f hp_904 h
        refine go_lconst (n := 1) (z := 1) (by decide +kernel) (by decide) fun v_924 f_925 => ?_
        refine go_goto (o := 4) (t := 756) (by decide +kernel) (by decide +kernel) ?_
        exact oj_L_law_756 hd R_880 l_868 f0 l_869 f1 l_870 f2 l_871 f3 l_872 f4 f_925 f_901 (fun mq b => hc mq (Ext.tr E_864 b)) (fun b => hQ (Ext.tr E_864 b)) h
  · have h := it_f hp_883 h
    refine go_iconst (n := 0) (z := 0) (by decide +kernel) (by decide) fun v_926 f_927 => ?_
    cases h
    exact go_iret (by decide +kernel) rfl (Or.inr ⟨rfl, by decide⟩) f_927 (hQ E_864 _ _ R_880 (q_out_v (by decide) f_927))
noncomputable def fj_L_law_819 (xs : List Int32) (c : Int → MM → Option (Int × MM)) (y4 s0 s1 : Int) (m : MM) : Option (Int × MM) := if s1 = s0 then
lx (w32 (y4 + 7)) fun x_1025 =>
c x_1025 m
else
some (0, m)
set_option maxHeartbeats 4000000 in
theorem oj_L_law_819 {xs : List Int32} {d : Nat} {S : QS} {L : QL} {Q : QO → QS → Prop} {m : MM} {y4 s0 s1 : Int} {v0 : Value} {v1 : Value} {v2 : Value} {v3 : Value} {v4 : Value} {w0 : Value} {w1 : Value}  {rz : Int} {rm : MM} {c : Int → MM → Option (Int × MM)} 
  (hd : 174 ≤ d) (R : Rp S m) (l0 : q_lo L 0 = some v0) (f0 : q_is 7 v0 0) (l1 : q_lo L 1 = some v1) (f1 : q_is 2 v1 4) (l2 : q_lo L 2 = some v2) (f2 : q_is 2 v2 68) (l3 : q_lo L 3 = some v3) (f3 : q_is 2 v3 162) (l4 : q_lo L 4 = some v4) (f4 : q_is 0 v4 y4) (fs0 : q_is 1 w0 s0) (fs1 : q_is 1 w1 s1)
  (hc : ∀ mq : MM, Ext m mq → ∀ {z4 : Int} {Sq : QS} {Lq : QL} {u0 : Value} {u1 : Value} {u2 : Value} {u3 : Value} {u4 : Value}, c z4 mq = some (rz, rm) → Rp Sq mq → q_lo Lq 0 = some u0 → q_is 7 u0 0 → q_lo Lq 1 = some u1 → q_is 2 u1 4 → q_lo Lq 2 = some u2 → q_is 2 u2 68 → q_lo Lq 3 = some u3 → q_is 2 u3 162 → q_lo Lq 4 = some u4 → q_is 0 u4 z4 → Go xs d qM_L_law 23 Lq [] Sq Q)
  (hQ : Ext m rm → ∀ o S1, Rp S1 rm → q_out 0 o rz → Q o S1)
  (h : fj_L_law_819 xs c y4 s0 s1 m = some (rz, rm)) : Go xs d qM_L_law 819 L [w0, w1] S Q := by
  unfold fj_L_law_819 at h
  refine go_lcmp (by decide +kernel) fs1 fs0 fun v_1017 f_1018 => ?_
  refine go_if (c := .eq) (o := 5) (t := 825) (P := s1 = s0) (by decide +kernel) (by decide +kernel) f_1018 (lc_eq) (fun hp_1019 => ?_) (fun hp_1019 => ?_)
  · have h := it_t hp_1019 h
    refine go_goto (o := 1772) (t := 2597) (by decide +kernel) (by decide +kernel) ?_
    refine go_iinc (n := 4) (c := 7) (c' := 7) (by decide +kernel) (by decide +kernel) l4 f4 (by decide) fun L_1020 v_1021 f_1022 l_1023 kp_1024 => ?_
    obtain ⟨x_1025, e_1026, h⟩ := lx_s h
    have f_1027 := q_is_eq f_1022 e_1026
    have l_1028 := kp_1024 0 _ l0 (by decide) (Or.inl (by decide))
    have l_1029 := kp_1024 1 _ l1 (by decide) (Or.inl (by decide))
    have l_1030 := kp_1024 2 _ l2 (by decide) (Or.inl (by decide))
    have l_1031 := kp_1024 3 _ l3 (by decide) (Or.inr (q_is_cat f3 (Or.inr rfl)))
    refine go_goto (o := (-2577)) (t := 23) (by decide +kernel) (by decide +kernel) ?_
    exact hc m (Ext.rf _) h R l_1028 f0 l_1029 f1 l_1030 f2 l_1031 f3 l_1023 f_1027
  · have h := it_f hp_1019 h
    refine go_iconst (n := 0) (z := 0) (by decide +kernel) (by decide) fun v_1032 f_1033 => ?_
    cases h
    exact go_iret (by decide +kernel) rfl (Or.inr ⟨rfl, by decide⟩) f_1033 (hQ (Ext.rf _) _ _ R (q_out_v (by decide) f_1033))
noncomputable def fj_L_law_765 (xs : List Int32) (c : Int → MM → Option (Int × MM)) (y4 : Int) (m : MM) : Option (Int × MM) := gd (0 ≤ w32 (y4 + 1) ∧ w32 (y4 + 1) < (xs.length : Int)) <| bd (fm_L_cancel (scr xs (w32 (y4 + 1))) m) fun x_938 m_939 =>
bd (fm_X12_cancel (scr xs (w32 (y4 + 1))) m_939) fun x_964 m_965 =>
bp (fm_X12_thrown m_965) fun x_985 =>
if x_985 = x_938 then
if x_938 = 0 then
lx (m_965 162 0) fun x_1012 =>
if x_964 = 0 then
fj_L_law_819 xs c y4 0 x_1012 m_965
else
fj_L_law_819 xs c y4 1 x_1012 m_965
else
lx (w32 (y4 + 7)) fun x_1000 =>
c x_1000 m_965
else
some (0, m_965)
set_option maxHeartbeats 4000000 in
theorem oj_L_law_765 {xs : List Int32} {d : Nat} {S : QS} {L : QL} {Q : QO → QS → Prop} {m : MM} {y4 : Int} {v0 : Value} {v1 : Value} {v2 : Value} {v3 : Value} {v4 : Value}  {rz : Int} {rm : MM} {c : Int → MM → Option (Int × MM)} 
  (hd : 174 ≤ d) (R : Rp S m) (l0 : q_lo L 0 = some v0) (f0 : q_is 7 v0 0) (l1 : q_lo L 1 = some v1) (f1 : q_is 2 v1 4) (l2 : q_lo L 2 = some v2) (f2 : q_is 2 v2 68) (l3 : q_lo L 3 = some v3) (f3 : q_is 2 v3 162) (l4 : q_lo L 4 = some v4) (f4 : q_is 0 v4 y4)
  (hc : ∀ mq : MM, Ext m mq → ∀ {z4 : Int} {Sq : QS} {Lq : QL} {u0 : Value} {u1 : Value} {u2 : Value} {u3 : Value} {u4 : Value}, c z4 mq = some (rz, rm) → Rp Sq mq → q_lo Lq 0 = some u0 → q_is 7 u0 0 → q_lo Lq 1 = some u1 → q_is 2 u1 4 → q_lo Lq 2 = some u2 → q_is 2 u2 68 → q_lo Lq 3 = some u3 → q_is 2 u3 162 → q_lo Lq 4 = some u4 → q_is 0 u4 z4 → Go xs d qM_L_law 23 Lq [] Sq Q)
  (hQ : Ext m rm → ∀ o S1, Rp S1 rm → q_out 0 o rz → Q o S1)
  (h : fj_L_law_765 xs c y4 m = some (rz, rm)) : Go xs d qM_L_law 765 L [] S Q := by
  unfold fj_L_law_765 at h
  refine go_aload_n (n := 1) (by decide +kernel) l1 f1 ?_
  refine go_aloadS (n := 0) (by decide +kernel) l0 f0 ?_
  refine go_iload (n := 4) (by decide +kernel) l4 f4 ?_
  refine go_iconst (n := 1) (z := 1) (by decide +kernel) (by decide) fun v_930 f_931 => ?_
  refine go_iadd (by decide +kernel) f4 f_931 fun v_932 f_933 => ?_
  obtain ⟨g_936, h⟩ := gd_s h
  refine go_sld (by decide +kernel) f0 f_933 g_936 fun v_934 f_935 => ?_
  refine go_aload_n (n := 3) (by decide +kernel) l3 f3 ?_
  obtain ⟨x_938, m_939, hc_937, h⟩ := bd_s h
  refine go_callS (x := 168) (mi := 347) (n := 3) (b := 0) (as := [v1, v_934, v3]) (rest := []) (by decide +kernel) (by decide +kernel) rfl rfl (q_sum8 _ (Nat.le_of_ble_eq_true rfl)) (om_L_cancel (Nat.le_trans (by decide) hd) R f1 f_935 f3 hc_937) (fun _ S_942 q_945 => ?_) (fun _ _ qq => kr_x qq)
  refine kr_z (by decide) q_945 fun v_940 f_941 R_943 E_944 => ?_
  have E_948 := E_944
  refine go_istore (n := 5) (by decide +kernel) (by decide +kernel) f_941 fun L_949 l_950 kp_951 => ?_
  have l_952 := kp_951 0 _ l0 (by decide) (Or.inl (by decide))
  have l_953 := kp_951 1 _ l1 (by decide) (Or.inl (by decide))
  have l_954 := kp_951 2 _ l2 (by decide) (Or.inl (by decide))
  have l_955 := kp_951 3 _ l3 (by decide) (Or.inl (by decide))
  have l_956 := kp_951 4 _ l4 (by decide) (Or.inr (q_is_cat f4 (Or.inl rfl)))
  refine go_aload_n (n := 2) (by decide +kernel) l_954 f2 ?_
  refine go_aloadS (n := 0) (by decide +kernel) l_952 f0 ?_
  refine go_iload (n := 4) (by decide +kernel) l_956 f4 ?_
  refine go_iconst (n := 1) (z := 1) (by decide +kernel) (by decide) fun v_957 f_958 => ?_
  refine go_iadd (by decide +kernel) f4 f_958 fun v_959 f_960 => ?_
  refine go_sld (by decide +kernel) f0 f_960 g_936 fun v_961 f_962 => ?_
  obtain ⟨x_964, m_965, hc_963, h⟩ := bd_s h
  refine go_callV (x := 170) (mi := 263) (n := 1) (ci := 13) (as := [v_961]) (rest := []) (by decide +kernel) (by decide +kernel) rfl rfl (q_sum8 _ (Nat.le_of_ble_eq_true rfl)) R_943 f2 (fx_k (c := 13) R_943 (by decide +kernel)) (om_X12_cancel (Nat.le_trans (by decide) hd) R_943 f2 f_962 hc_963) (fun _ S_968 q_971 => ?_) (fun _ _ qq => kr_x qq)
  refine kr_z (by decide) q_971 fun v_966 f_967 R_969 E_970 => ?_
  have E_974 := Ext.tr E_948 E_970
  refine go_istore (n := 6) (by decide +kernel) (by decide +kernel) f_967 fun L_975 l_976 kp_977 => ?_
  have l_978 := kp_977 0 _ l_952 (by decide) (Or.inl (by decide))
  have l_979 := kp_977 1 _ l_953 (by decide) (Or.inl (by decide))
  have l_980 := kp_977 2 _ l_954 (by decide) (Or.inl (by decide))
  have l_981 := kp_977 3 _ l_955 (by decide) (Or.inl (by decide))
  have l_982 := kp_977 4 _ l_956 (by decide) (Or.inl (by decide))
  have l_983 := kp_977 5 _ l_950 (by decide) (Or.inr (q_is_cat f_941 (Or.inl rfl)))
  refine go_aload_n (n := 2) (by decide +kernel) l_980 f2 ?_
  obtain ⟨x_985, hc_984, h⟩ := bp_s h
  refine go_callV (x := 143) (mi := 185) (n := 0) (ci := 13) (as := []) (rest := []) (by decide +kernel) (by decide +kernel) rfl rfl (q_sum8 _ (Nat.le_of_ble_eq_true rfl)) R_969 f2 (fx_k (c := 13) R_969 (by decide +kernel)) (om_X12_thrown (Nat.le_trans (by decide) hd) R_969 f2 hc_984) (fun _ S_989 q_992 => ?_) (fun _ _ qq => kr_x qq)
  refine kr_z (by decide) q_992 fun v_987 f_988 R_990 E_991 => ?_
  refine go_iload (n := 5) (by decide +kernel) l_983 f_941 ?_
  refine go_icmp (c := .eq) (o := 5) (t := 801) (P := x_985 = x_938) (by decide +kernel) (by decide +kernel) f_988 f_941 (Iff.rfl) (fun hp_993 => ?_) (fun hp_993 => ?_)
  · have h := it_t hp_993 h
    refine go_iload (n := 5) (by decide +kernel) l_983 f_941 ?_
    refine go_if (c := .ne) (o := 22) (t := 825) (P := ¬ (x_938 = 0)) (by decide +kernel) (by decide +kernel) f_941 (Iff.rfl) (fun hp_994 => ?_) (fun hp_994 => ?_)
    · have h := it_f hp_994 h
      refine go_goto (o := 1772) (t := 2597) (by decide +kernel) (by decide +kernel) ?_
      refine go_iinc (n := 4) (c := 7) (c' := 7) (by decide +kernel) (by decide +kernel) l_982 f4 (by decide) fun L_995 v_996 f_997 l_998 kp_999 => ?_
      obtain ⟨x_1000, e_1001, h⟩ := lx_s h
      have f_1002 := q_is_eq f_997 e_1001
      have l_1003 := kp_999 0 _ l_978 (by decide) (Or.inl (by decide))
      have l_1004 := kp_999 1 _ l_979 (by decide) (Or.inl (by decide))
      have l_1005 := kp_999 2 _ l_980 (by decide) (Or.inl (by decide))
      have l_1006 := kp_999 3 _ l_981 (by decide) (Or.inr (q_is_cat f3 (Or.inr rfl)))
      refine go_goto (o := (-2577)) (t := 23) (by decide +kernel) (by decide +kernel) ?_
      exact hc m_965 E_974 h R_990 l_1003 f0 l_1004 f1 l_1005 f2 l_1006 f3 l_998 f_1002
    · have h := it_n hp_994 h
      refine go_aload_n (n := 3) (by decide +kernel) l_981 f3 ?_
      refine go_iconst (n := 0) (z := 0) (by decide +kernel) (by decide) fun v_1007 f_1008 => ?_
      obtain ⟨x_1012, e_1013, h⟩ := lx_s h
      refine go_lald (kd := 101) (by decide +kernel) rfl R_990 f3 f_1008 (fx_k (c := 101) R_990 (by decide +kernel)) (fx_x (a := 162) (ln := 1) R_990 (by decide +kernel) (by decide)) fun v_1009 f_1010 => ?_
      have f_1011 := q_is_eq f_1010 e_1013
      refine go_iload (n := 6) (by decide +kernel) l_976 f_967 ?_
      refine go_if (c := .eq) (o := 7) (t := 818) (P := x_964 = 0) (by decide +kernel) (by decide +kernel) f_967 (Iff.rfl) (fun hp_1014 => ?_) (fun hp_1014 => ?_)
      · have h := it_t hp_1014 h
        refine go_lconst (n := 0) (z := 0) (by decide +kernel) (by decide) fun v_1015 f_1016 => ?_
        exact oj_L_law_819 hd R_990 l_978 f0 l_979 f1 l_980 f2 l_981 f3 l_982 f4 f_1016 f_1011 (fun mq b => hc mq (Ext.tr E_974 b)) (fun b => hQ (Ext.tr E_974 b)) h
      · have h := it_f hp_1014 h
        refine go_lconst (n := 1) (z := 1) (by decide +kernel) (by decide) fun v_1034 f_1035 => ?_
        refine go_goto (o := 4) (t := 819) (by decide +kernel) (by decide +kernel) ?_
        exact oj_L_law_819 hd R_990 l_978 f0 l_979 f1 l_980 f2 l_981 f3 l_982 f4 f_1035 f_1011 (fun mq b => hc mq (Ext.tr E_974 b)) (fun b => hQ (Ext.tr E_974 b)) h
  · have h := it_f hp_993 h
    refine go_iconst (n := 0) (z := 0) (by decide +kernel) (by decide) fun v_1036 f_1037 => ?_
    cases h
    exact go_iret (by decide +kernel) rfl (Or.inr ⟨rfl, by decide⟩) f_1037 (hQ E_974 _ _ R_990 (q_out_v (by decide) f_1037))
noncomputable def fj_L_law_828 (xs : List Int32) (c : Int → MM → Option (Int × MM)) (y4 : Int) (m : MM) : Option (Int × MM) := gd (0 ≤ w32 (y4 + 1) ∧ w32 (y4 + 1) < (xs.length : Int)) <| gd (0 ≤ w32 (y4 + 2) ∧ w32 (y4 + 2) < (xs.length : Int)) <| bd (fm_L_query (scr xs (w32 (y4 + 1))) (scr xs (w32 (y4 + 2))) m) fun x_1055 m_1056 =>
bd (fm_X12_query (scr xs (w32 (y4 + 1))) (scr xs (w32 (y4 + 2))) m_1056) fun x_1087 m_1088 =>
bp (fm_X12_thrown m_1088) fun x_1108 =>
if x_1108 = x_1055 then
if x_1055 = 0 then
lx (m_1088 162 0) fun x_1135 =>
if x_1135 = x_1087 then
lx (w32 (y4 + 7)) fun x_1147 =>
c x_1147 m_1088
else
some (0, m_1088)
else
lx (w32 (y4 + 7)) fun x_1123 =>
c x_1123 m_1088
else
some (0, m_1088)
set_option maxHeartbeats 4000000 in
theorem oj_L_law_828 {xs : List Int32} {d : Nat} {S : QS} {L : QL} {Q : QO → QS → Prop} {m : MM} {y4 : Int} {v0 : Value} {v1 : Value} {v2 : Value} {v3 : Value} {v4 : Value}  {rz : Int} {rm : MM} {c : Int → MM → Option (Int × MM)} 
  (hd : 174 ≤ d) (R : Rp S m) (l0 : q_lo L 0 = some v0) (f0 : q_is 7 v0 0) (l1 : q_lo L 1 = some v1) (f1 : q_is 2 v1 4) (l2 : q_lo L 2 = some v2) (f2 : q_is 2 v2 68) (l3 : q_lo L 3 = some v3) (f3 : q_is 2 v3 162) (l4 : q_lo L 4 = some v4) (f4 : q_is 0 v4 y4)
  (hc : ∀ mq : MM, Ext m mq → ∀ {z4 : Int} {Sq : QS} {Lq : QL} {u0 : Value} {u1 : Value} {u2 : Value} {u3 : Value} {u4 : Value}, c z4 mq = some (rz, rm) → Rp Sq mq → q_lo Lq 0 = some u0 → q_is 7 u0 0 → q_lo Lq 1 = some u1 → q_is 2 u1 4 → q_lo Lq 2 = some u2 → q_is 2 u2 68 → q_lo Lq 3 = some u3 → q_is 2 u3 162 → q_lo Lq 4 = some u4 → q_is 0 u4 z4 → Go xs d qM_L_law 23 Lq [] Sq Q)
  (hQ : Ext m rm → ∀ o S1, Rp S1 rm → q_out 0 o rz → Q o S1)
  (h : fj_L_law_828 xs c y4 m = some (rz, rm)) : Go xs d qM_L_law 828 L [] S Q := by
  unfold fj_L_law_828 at h
  refine go_aload_n (n := 1) (by decide +kernel) l1 f1 ?_
  refine go_aloadS (n := 0) (by decide +kernel) l0 f0 ?_
  refine go_iload (n := 4) (by decide +kernel) l4 f4 ?_
  refine go_iconst (n := 1) (z := 1) (by decide +kernel) (by decide) fun v_1040 f_1041 => ?_
  refine go_iadd (by decide +kernel) f4 f_1041 fun v_1042 f_1043 => ?_
  obtain ⟨g_1046, h⟩ := gd_s h
  refine go_sld (by decide +kernel) f0 f_1043 g_1046 fun v_1044 f_1045 => ?_
  refine go_aloadS (n := 0) (by decide +kernel) l0 f0 ?_
  refine go_iload (n := 4) (by decide +kernel) l4 f4 ?_
  refine go_iconst (n := 2) (z := 2) (by decide +kernel) (by decide) fun v_1047 f_1048 => ?_
  refine go_iadd (by decide +kernel) f4 f_1048 fun v_1049 f_1050 => ?_
  obtain ⟨g_1053, h⟩ := gd_s h
  refine go_sld (by decide +kernel) f0 f_1050 g_1053 fun v_1051 f_1052 => ?_
  refine go_aload_n (n := 3) (by decide +kernel) l3 f3 ?_
  obtain ⟨x_1055, m_1056, hc_1054, h⟩ := bd_s h
  refine go_callS (x := 171) (mi := 348) (n := 4) (b := 0) (as := [v1, v_1044, v_1051, v3]) (rest := []) (by decide +kernel) (by decide +kernel) rfl rfl (q_sum8 _ (Nat.le_of_ble_eq_true rfl)) (om_L_query (Nat.le_trans (by decide) hd) R f1 f_1045 f_1052 f3 hc_1054) (fun _ S_1059 q_1062 => ?_) (fun _ _ qq => kr_x qq)
  refine kr_z (by decide) q_1062 fun v_1057 f_1058 R_1060 E_1061 => ?_
  have E_1065 := E_1061
  refine go_istore (n := 5) (by decide +kernel) (by decide +kernel) f_1058 fun L_1066 l_1067 kp_1068 => ?_
  have l_1069 := kp_1068 0 _ l0 (by decide) (Or.inl (by decide))
  have l_1070 := kp_1068 1 _ l1 (by decide) (Or.inl (by decide))
  have l_1071 := kp_1068 2 _ l2 (by decide) (Or.inl (by decide))
  have l_1072 := kp_1068 3 _ l3 (by decide) (Or.inl (by decide))
  have l_1073 := kp_1068 4 _ l4 (by decide) (Or.inr (q_is_cat f4 (Or.inl rfl)))
  refine go_aload_n (n := 2) (by decide +kernel) l_1071 f2 ?_
  refine go_aloadS (n := 0) (by decide +kernel) l_1069 f0 ?_
  refine go_iload (n := 4) (by decide +kernel) l_1073 f4 ?_
  refine go_iconst (n := 1) (z := 1) (by decide +kernel) (by decide) fun v_1074 f_1075 => ?_
  refine go_iadd (by decide +kernel) f4 f_1075 fun v_1076 f_1077 => ?_
  refine go_sld (by decide +kernel) f0 f_1077 g_1046 fun v_1078 f_1079 => ?_
  refine go_aloadS (n := 0) (by decide +kernel) l_1069 f0 ?_
  refine go_iload (n := 4) (by decide +kernel) l_1073 f4 ?_
  refine go_iconst (n := 2) (z := 2) (by decide +kernel) (by decide) fun v_1080 f_1081 => ?_
  refine go_iadd (by decide +kernel) f4 f_1081 fun v_1082 f_1083 => ?_
  refine go_sld (by decide +kernel) f0 f_1083 g_1053 fun v_1084 f_1085 => ?_
  obtain ⟨x_1087, m_1088, hc_1086, h⟩ := bd_s h
  refine go_callV (x := 173) (mi := 265) (n := 2) (ci := 13) (as := [v_1078, v_1084]) (rest := []) (by decide +kernel) (by decide +kernel) rfl rfl (q_sum8 _ (Nat.le_of_ble_eq_true rfl)) R_1060 f2 (fx_k (c := 13) R_1060 (by decide +kernel)) (om_X12_query (Nat.le_trans (by decide) hd) R_1060 f2 f_1079 f_1085 hc_1086) (fun _ S_1091 q_1094 => ?_) (fun _ _ qq => kr_x qq)
  refine kr_z (by decide) q_1094 fun v_1089 f_1090 R_1092 E_1093 => ?_
  have E_1097 := Ext.tr E_1065 E_1093
  refine go_istore (n := 6) (by decide +kernel) (by decide +kernel) f_1090 fun L_1098 l_1099 kp_1100 => ?_
  have l_1101 := kp_1100 0 _ l_1069 (by decide) (Or.inl (by decide))
  have l_1102 := kp_1100 1 _ l_1070 (by decide) (Or.inl (by decide))
  have l_1103 := kp_1100 2 _ l_1071 (by decide) (Or.inl (by decide))
  have l_1104 := kp_1100 3 _ l_1072 (by decide) (Or.inl (by decide))
  have l_1105 := kp_1100 4 _ l_1073 (by decide) (Or.inl (by decide))
  have l_1106 := kp_1100 5 _ l_1067 (by decide) (Or.inr (q_is_cat f_1058 (Or.inl rfl)))
  refine go_aload_n (n := 2) (by decide +kernel) l_1103 f2 ?_
  obtain ⟨x_1108, hc_1107, h⟩ := bp_s h
  refine go_callV (x := 143) (mi := 185) (n := 0) (ci := 13) (as := []) (rest := []) (by decide +kernel) (by decide +kernel) rfl rfl (q_sum8 _ (Nat.le_of_ble_eq_true rfl)) R_1092 f2 (fx_k (c := 13) R_1092 (by decide +kernel)) (om_X12_thrown (Nat.le_trans (by decide) hd) R_1092 f2 hc_1107) (fun _ S_1112 q_1115 => ?_) (fun _ _ qq => kr_x qq)
  refine kr_z (by decide) q_1115 fun v_1110 f_1111 R_1113 E_1114 => ?_
  refine go_iload (n := 5) (by decide +kernel) l_1106 f_1058 ?_
  refine go_icmp (c := .eq) (o := 5) (t := 876) (P := x_1108 = x_1055) (by decide +kernel) (by decide +kernel) f_1111 f_1058 (Iff.rfl) (fun hp_1116 => ?_) (fun hp_1116 => ?_)
  · have h := it_t hp_1116 h
    refine go_iload (n := 5) (by decide +kernel) l_1106 f_1058 ?_
    refine go_if (c := .ne) (o := 15) (t := 893) (P := ¬ (x_1055 = 0)) (by decide +kernel) (by decide +kernel) f_1058 (Iff.rfl) (fun hp_1117 => ?_) (fun hp_1117 => ?_)
    · have h := it_f hp_1117 h
      refine go_goto (o := 1704) (t := 2597) (by decide +kernel) (by decide +kernel) ?_
      refine go_iinc (n := 4) (c := 7) (c' := 7) (by decide +kernel) (by decide +kernel) l_1105 f4 (by decide) fun L_1118 v_1119 f_1120 l_1121 kp_1122 => ?_
      obtain ⟨x_1123, e_1124, h⟩ := lx_s h
      have f_1125 := q_is_eq f_1120 e_1124
      have l_1126 := kp_1122 0 _ l_1101 (by decide) (Or.inl (by decide))
      have l_1127 := kp_1122 1 _ l_1102 (by decide) (Or.inl (by decide))
      have l_1128 := kp_1122 2 _ l_1103 (by decide) (Or.inl (by decide))
      have l_1129 := kp_1122 3 _ l_1104 (by decide) (Or.inr (q_is_cat f3 (Or.inr rfl)))
      refine go_goto (o := (-2577)) (t := 23) (by decide +kernel) (by decide +kernel) ?_
      exact hc m_1088 E_1097 h R_1113 l_1126 f0 l_1127 f1 l_1128 f2 l_1129 f3 l_1121 f_1125
    · have h := it_n hp_1117 h
      refine go_aload_n (n := 3) (by decide +kernel) l_1104 f3 ?_
      refine go_iconst (n := 0) (z := 0) (by decide +kernel) (by decide) fun v_1130 f_1131 => ?_
      obtain ⟨x_1135, e_1136, h⟩ := lx_s h
      refine go_lald (kd := 101) (by decide +kernel) rfl R_1113 f3 f_1131 (fx_k (c := 101) R_1113 (by decide +kernel)) (fx_x (a := 162) (ln := 1) R_1113 (by decide +kernel) (by decide)) fun v_1132 f_1133 => ?_
      have f_1134 := q_is_eq f_1133 e_1136
      refine go_iload (n := 6) (by decide +kernel) l_1099 f_1090 ?_
      refine go_i2l (by decide +kernel) f_1090 fun v_1137 f_1138 => ?_
      refine go_lcmp (by decide +kernel) f_1134 f_1138 fun v_1139 f_1140 => ?_
      refine go_if (c := .eq) (o := 5) (t := 893) (P := x_1135 = x_1087) (by decide +kernel) (by decide +kernel) f_1140 (lc_eq) (fun hp_1141 => ?_) (fun hp_1141 => ?_)
      · have h := it_t hp_1141 h
        refine go_goto (o := 1704) (t := 2597) (by decide +kernel) (by decide +kernel) ?_
        refine go_iinc (n := 4) (c := 7) (c' := 7) (by decide +kernel) (by decide +kernel) l_1105 f4 (by decide) fun L_1142 v_1143 f_1144 l_1145 kp_1146 => ?_
        obtain ⟨x_1147, e_1148, h⟩ := lx_s h
        have f_1149 := q_is_eq f_1144 e_1148
        have l_1150 := kp_1146 0 _ l_1101 (by decide) (Or.inl (by decide))
        have l_1151 := kp_1146 1 _ l_1102 (by decide) (Or.inl (by decide))
        have l_1152 := kp_1146 2 _ l_1103 (by decide) (Or.inl (by decide))
        have l_1153 := kp_1146 3 _ l_1104 (by decide) (Or.inr (q_is_cat f3 (Or.inr rfl)))
        refine go_goto (o := (-2577)) (t := 23) (by decide +kernel) (by decide +kernel) ?_
        exact hc m_1088 E_1097 h R_1113 l_1150 f0 l_1151 f1 l_1152 f2 l_1153 f3 l_1145 f_1149
      · have h := it_f hp_1141 h
        refine go_iconst (n := 0) (z := 0) (by decide +kernel) (by decide) fun v_1154 f_1155 => ?_
        cases h
        exact go_iret (by decide +kernel) rfl (Or.inr ⟨rfl, by decide⟩) f_1155 (hQ E_1097 _ _ R_1113 (q_out_v (by decide) f_1155))
  · have h := it_f hp_1116 h
    refine go_iconst (n := 0) (z := 0) (by decide +kernel) (by decide) fun v_1156 f_1157 => ?_
    cases h
    exact go_iret (by decide +kernel) rfl (Or.inr ⟨rfl, by decide⟩) f_1157 (hQ E_1097 _ _ R_1113 (q_out_v (by decide) f_1157))
noncomputable def fj_L_law_896 (xs : List Int32) (c : Int → MM → Option (Int × MM)) (y4 : Int) (m : MM) : Option (Int × MM) := gd (0 ≤ w32 (y4 + 1) ∧ w32 (y4 + 1) < (xs.length : Int)) <| gd (0 ≤ w32 (y4 + 2) ∧ w32 (y4 + 2) < (xs.length : Int)) <| bd (fm_L_plain (scr xs (w32 (y4 + 1))) (scr xs (w32 (y4 + 2))) m) fun x_1175 m_1176 =>
bd (fm_X12_plain (scr xs (w32 (y4 + 1))) (scr xs (w32 (y4 + 2))) m_1176) fun x_1207 m_1208 =>
bp (fm_X12_thrown m_1208) fun x_1228 =>
if x_1228 = x_1175 then
if x_1175 = 0 then
lx (m_1208 162 0) fun x_1255 =>
if x_1255 = x_1207 then
lx (w32 (y4 + 7)) fun x_1267 =>
c x_1267 m_1208
else
some (0, m_1208)
else
lx (w32 (y4 + 7)) fun x_1243 =>
c x_1243 m_1208
else
some (0, m_1208)
set_option maxHeartbeats 4000000 in
theorem oj_L_law_896 {xs : List Int32} {d : Nat} {S : QS} {L : QL} {Q : QO → QS → Prop} {m : MM} {y4 : Int} {v0 : Value} {v1 : Value} {v2 : Value} {v3 : Value} {v4 : Value}  {rz : Int} {rm : MM} {c : Int → MM → Option (Int × MM)} 
  (hd : 174 ≤ d) (R : Rp S m) (l0 : q_lo L 0 = some v0) (f0 : q_is 7 v0 0) (l1 : q_lo L 1 = some v1) (f1 : q_is 2 v1 4) (l2 : q_lo L 2 = some v2) (f2 : q_is 2 v2 68) (l3 : q_lo L 3 = some v3) (f3 : q_is 2 v3 162) (l4 : q_lo L 4 = some v4) (f4 : q_is 0 v4 y4)
  (hc : ∀ mq : MM, Ext m mq → ∀ {z4 : Int} {Sq : QS} {Lq : QL} {u0 : Value} {u1 : Value} {u2 : Value} {u3 : Value} {u4 : Value}, c z4 mq = some (rz, rm) → Rp Sq mq → q_lo Lq 0 = some u0 → q_is 7 u0 0 → q_lo Lq 1 = some u1 → q_is 2 u1 4 → q_lo Lq 2 = some u2 → q_is 2 u2 68 → q_lo Lq 3 = some u3 → q_is 2 u3 162 → q_lo Lq 4 = some u4 → q_is 0 u4 z4 → Go xs d qM_L_law 23 Lq [] Sq Q)
  (hQ : Ext m rm → ∀ o S1, Rp S1 rm → q_out 0 o rz → Q o S1)
  (h : fj_L_law_896 xs c y4 m = some (rz, rm)) : Go xs d qM_L_law 896 L [] S Q := by
  unfold fj_L_law_896 at h
  refine go_aload_n (n := 1) (by decide +kernel) l1 f1 ?_
  refine go_aloadS (n := 0) (by decide +kernel) l0 f0 ?_
  refine go_iload (n := 4) (by decide +kernel) l4 f4 ?_
  refine go_iconst (n := 1) (z := 1) (by decide +kernel) (by decide) fun v_1160 f_1161 => ?_
  refine go_iadd (by decide +kernel) f4 f_1161 fun v_1162 f_1163 => ?_
  obtain ⟨g_1166, h⟩ := gd_s h
  refine go_sld (by decide +kernel) f0 f_1163 g_1166 fun v_1164 f_1165 => ?_
  refine go_aloadS (n := 0) (by decide +kernel) l0 f0 ?_
  refine go_iload (n := 4) (by decide +kernel) l4 f4 ?_
  refine go_iconst (n := 2) (z := 2) (by decide +kernel) (by decide) fun v_1167 f_1168 => ?_
  refine go_iadd (by decide +kernel) f4 f_1168 fun v_1169 f_1170 => ?_
  obtain ⟨g_1173, h⟩ := gd_s h
  refine go_sld (by decide +kernel) f0 f_1170 g_1173 fun v_1171 f_1172 => ?_
  refine go_aload_n (n := 3) (by decide +kernel) l3 f3 ?_
  obtain ⟨x_1175, m_1176, hc_1174, h⟩ := bd_s h
  refine go_callS (x := 174) (mi := 349) (n := 4) (b := 0) (as := [v1, v_1164, v_1171, v3]) (rest := []) (by decide +kernel) (by decide +kernel) rfl rfl (q_sum8 _ (Nat.le_of_ble_eq_true rfl)) (om_L_plain (Nat.le_trans (by decide) hd) R f1 f_1165 f_1172 f3 hc_1174) (fun _ S_1179 q_1182 => ?_) (fun _ _ qq => kr_x qq)
  refine kr_z (by decide) q_1182 fun v_1177 f_1178 R_1180 E_1181 => ?_
  have E_1185 := E_1181
  refine go_istore (n := 5) (by decide +kernel) (by decide +kernel) f_1178 fun L_1186 l_1187 kp_1188 => ?_
  have l_1189 := kp_1188 0 _ l0 (by decide) (Or.inl (by decide))
  have l_1190 := kp_1188 1 _ l1 (by decide) (Or.inl (by decide))
  have l_1191 := kp_1188 2 _ l2 (by decide) (Or.inl (by decide))
  have l_1192 := kp_1188 3 _ l3 (by decide) (Or.inl (by decide))
  have l_1193 := kp_1188 4 _ l4 (by decide) (Or.inr (q_is_cat f4 (Or.inl rfl)))
  refine go_aload_n (n := 2) (by decide +kernel) l_1191 f2 ?_
  refine go_aloadS (n := 0) (by decide +kernel) l_1189 f0 ?_
  refine go_iload (n := 4) (by decide +kernel) l_1193 f4 ?_
  refine go_iconst (n := 1) (z := 1) (by decide +kernel) (by decide) fun v_1194 f_1195 => ?_
  refine go_iadd (by decide +kernel) f4 f_1195 fun v_1196 f_1197 => ?_
  refine go_sld (by decide +kernel) f0 f_1197 g_1166 fun v_1198 f_1199 => ?_
  refine go_aloadS (n := 0) (by decide +kernel) l_1189 f0 ?_
  refine go_iload (n := 4) (by decide +kernel) l_1193 f4 ?_
  refine go_iconst (n := 2) (z := 2) (by decide +kernel) (by decide) fun v_1200 f_1201 => ?_
  refine go_iadd (by decide +kernel) f4 f_1201 fun v_1202 f_1203 => ?_
  refine go_sld (by decide +kernel) f0 f_1203 g_1173 fun v_1204 f_1205 => ?_
  obtain ⟨x_1207, m_1208, hc_1206, h⟩ := bd_s h
  refine go_callV (x := 176) (mi := 266) (n := 2) (ci := 13) (as := [v_1198, v_1204]) (rest := []) (by decide +kernel) (by decide +kernel) rfl rfl (q_sum8 _ (Nat.le_of_ble_eq_true rfl)) R_1180 f2 (fx_k (c := 13) R_1180 (by decide +kernel)) (om_X12_plain (Nat.le_trans (by decide) hd) R_1180 f2 f_1199 f_1205 hc_1206) (fun _ S_1211 q_1214 => ?_) (fun _ _ qq => kr_x qq)
  refine kr_z (by decide) q_1214 fun v_1209 f_1210 R_1212 E_1213 => ?_
  have E_1217 := Ext.tr E_1185 E_1213
  refine go_istore (n := 6) (by decide +kernel) (by decide +kernel) f_1210 fun L_1218 l_1219 kp_1220 => ?_
  have l_1221 := kp_1220 0 _ l_1189 (by decide) (Or.inl (by decide))
  have l_1222 := kp_1220 1 _ l_1190 (by decide) (Or.inl (by decide))
  have l_1223 := kp_1220 2 _ l_1191 (by decide) (Or.inl (by decide))
  have l_1224 := kp_1220 3 _ l_1192 (by decide) (Or.inl (by decide))
  have l_1225 := kp_1220 4 _ l_1193 (by decide) (Or.inl (by decide))
  have l_1226 := kp_1220 5 _ l_1187 (by decide) (Or.inr (q_is_cat f_1178 (Or.inl rfl)))
  refine go_aload_n (n := 2) (by decide +kernel) l_1223 f2 ?_
  obtain ⟨x_1228, hc_1227, h⟩ := bp_s h
  refine go_callV (x := 143) (mi := 185) (n := 0) (ci := 13) (as := []) (rest := []) (by decide +kernel) (by decide +kernel) rfl rfl (q_sum8 _ (Nat.le_of_ble_eq_true rfl)) R_1212 f2 (fx_k (c := 13) R_1212 (by decide +kernel)) (om_X12_thrown (Nat.le_trans (by decide) hd) R_1212 f2 hc_1227) (fun _ S_1232 q_1235 => ?_) (fun _ _ qq => kr_x qq)
  refine kr_z (by decide) q_1235 fun v_1230 f_1231 R_1233 E_1234 => ?_
  refine go_iload (n := 5) (by decide +kernel) l_1226 f_1178 ?_
  refine go_icmp (c := .eq) (o := 5) (t := 944) (P := x_1228 = x_1175) (by decide +kernel) (by decide +kernel) f_1231 f_1178 (Iff.rfl) (fun hp_1236 => ?_) (fun hp_1236 => ?_)
  · have h := it_t hp_1236 h
    refine go_iload (n := 5) (by decide +kernel) l_1226 f_1178 ?_
    refine go_if (c := .ne) (o := 15) (t := 961) (P := ¬ (x_1175 = 0)) (by decide +kernel) (by decide +kernel) f_1178 (Iff.rfl) (fun hp_1237 => ?_) (fun hp_1237 => ?_)
    · have h := it_f hp_1237 h
      refine go_goto (o := 1636) (t := 2597) (by decide +kernel) (by decide +kernel) ?_
      refine go_iinc (n := 4) (c := 7) (c' := 7) (by decide +kernel) (by decide +kernel) l_1225 f4 (by decide) fun L_1238 v_1239 f_1240 l_1241 kp_1242 => ?_
      obtain ⟨x_1243, e_1244, h⟩ := lx_s h
      have f_1245 := q_is_eq f_1240 e_1244
      have l_1246 := kp_1242 0 _ l_1221 (by decide) (Or.inl (by decide))
      have l_1247 := kp_1242 1 _ l_1222 (by decide) (Or.inl (by decide))
      have l_1248 := kp_1242 2 _ l_1223 (by decide) (Or.inl (by decide))
      have l_1249 := kp_1242 3 _ l_1224 (by decide) (Or.inr (q_is_cat f3 (Or.inr rfl)))
      refine go_goto (o := (-2577)) (t := 23) (by decide +kernel) (by decide +kernel) ?_
      exact hc m_1208 E_1217 h R_1233 l_1246 f0 l_1247 f1 l_1248 f2 l_1249 f3 l_1241 f_1245
    · have h := it_n hp_1237 h
      refine go_aload_n (n := 3) (by decide +kernel) l_1224 f3 ?_
      refine go_iconst (n := 0) (z := 0) (by decide +kernel) (by decide) fun v_1250 f_1251 => ?_
      obtain ⟨x_1255, e_1256, h⟩ := lx_s h
      refine go_lald (kd := 101) (by decide +kernel) rfl R_1233 f3 f_1251 (fx_k (c := 101) R_1233 (by decide +kernel)) (fx_x (a := 162) (ln := 1) R_1233 (by decide +kernel) (by decide)) fun v_1252 f_1253 => ?_
      have f_1254 := q_is_eq f_1253 e_1256
      refine go_iload (n := 6) (by decide +kernel) l_1219 f_1210 ?_
      refine go_i2l (by decide +kernel) f_1210 fun v_1257 f_1258 => ?_
      refine go_lcmp (by decide +kernel) f_1254 f_1258 fun v_1259 f_1260 => ?_
      refine go_if (c := .eq) (o := 5) (t := 961) (P := x_1255 = x_1207) (by decide +kernel) (by decide +kernel) f_1260 (lc_eq) (fun hp_1261 => ?_) (fun hp_1261 => ?_)
      · have h := it_t hp_1261 h
        refine go_goto (o := 1636) (t := 2597) (by decide +kernel) (by decide +kernel) ?_
        refine go_iinc (n := 4) (c := 7) (c' := 7) (by decide +kernel) (by decide +kernel) l_1225 f4 (by decide) fun L_1262 v_1263 f_1264 l_1265 kp_1266 => ?_
        obtain ⟨x_1267, e_1268, h⟩ := lx_s h
        have f_1269 := q_is_eq f_1264 e_1268
        have l_1270 := kp_1266 0 _ l_1221 (by decide) (Or.inl (by decide))
        have l_1271 := kp_1266 1 _ l_1222 (by decide) (Or.inl (by decide))
        have l_1272 := kp_1266 2 _ l_1223 (by decide) (Or.inl (by decide))
        have l_1273 := kp_1266 3 _ l_1224 (by decide) (Or.inr (q_is_cat f3 (Or.inr rfl)))
        refine go_goto (o := (-2577)) (t := 23) (by decide +kernel) (by decide +kernel) ?_
        exact hc m_1208 E_1217 h R_1233 l_1270 f0 l_1271 f1 l_1272 f2 l_1273 f3 l_1265 f_1269
      · have h := it_f hp_1261 h
        refine go_iconst (n := 0) (z := 0) (by decide +kernel) (by decide) fun v_1274 f_1275 => ?_
        cases h
        exact go_iret (by decide +kernel) rfl (Or.inr ⟨rfl, by decide⟩) f_1275 (hQ E_1217 _ _ R_1233 (q_out_v (by decide) f_1275))
  · have h := it_f hp_1236 h
    refine go_iconst (n := 0) (z := 0) (by decide +kernel) (by decide) fun v_1276 f_1277 => ?_
    cases h
    exact go_iret (by decide +kernel) rfl (Or.inr ⟨rfl, by decide⟩) f_1277 (hQ E_1217 _ _ R_1233 (q_out_v (by decide) f_1277))
noncomputable def fj_L_law_964 (xs : List Int32) (c : Int → MM → Option (Int × MM)) (y4 : Int) (m : MM) : Option (Int × MM) := gd (0 ≤ w32 (y4 + 1) ∧ w32 (y4 + 1) < (xs.length : Int)) <| bd (fm_L_standing (scr xs (w32 (y4 + 1))) m) fun x_1288 m_1289 =>
bd (fm_X12_standing (scr xs (w32 (y4 + 1))) m_1289) fun x_1314 m_1315 =>
bp (fm_X12_thrown m_1315) fun x_1335 =>
if x_1335 = x_1288 then
if x_1288 = 0 then
lx (m_1315 162 0) fun x_1362 =>
if x_1362 = x_1314 then
lx (w32 (y4 + 7)) fun x_1374 =>
c x_1374 m_1315
else
some (0, m_1315)
else
lx (w32 (y4 + 7)) fun x_1350 =>
c x_1350 m_1315
else
some (0, m_1315)
set_option maxHeartbeats 4000000 in
theorem oj_L_law_964 {xs : List Int32} {d : Nat} {S : QS} {L : QL} {Q : QO → QS → Prop} {m : MM} {y4 : Int} {v0 : Value} {v1 : Value} {v2 : Value} {v3 : Value} {v4 : Value}  {rz : Int} {rm : MM} {c : Int → MM → Option (Int × MM)} 
  (hd : 174 ≤ d) (R : Rp S m) (l0 : q_lo L 0 = some v0) (f0 : q_is 7 v0 0) (l1 : q_lo L 1 = some v1) (f1 : q_is 2 v1 4) (l2 : q_lo L 2 = some v2) (f2 : q_is 2 v2 68) (l3 : q_lo L 3 = some v3) (f3 : q_is 2 v3 162) (l4 : q_lo L 4 = some v4) (f4 : q_is 0 v4 y4)
  (hc : ∀ mq : MM, Ext m mq → ∀ {z4 : Int} {Sq : QS} {Lq : QL} {u0 : Value} {u1 : Value} {u2 : Value} {u3 : Value} {u4 : Value}, c z4 mq = some (rz, rm) → Rp Sq mq → q_lo Lq 0 = some u0 → q_is 7 u0 0 → q_lo Lq 1 = some u1 → q_is 2 u1 4 → q_lo Lq 2 = some u2 → q_is 2 u2 68 → q_lo Lq 3 = some u3 → q_is 2 u3 162 → q_lo Lq 4 = some u4 → q_is 0 u4 z4 → Go xs d qM_L_law 23 Lq [] Sq Q)
  (hQ : Ext m rm → ∀ o S1, Rp S1 rm → q_out 0 o rz → Q o S1)
  (h : fj_L_law_964 xs c y4 m = some (rz, rm)) : Go xs d qM_L_law 964 L [] S Q := by
  unfold fj_L_law_964 at h
  refine go_aload_n (n := 1) (by decide +kernel) l1 f1 ?_
  refine go_aloadS (n := 0) (by decide +kernel) l0 f0 ?_
  refine go_iload (n := 4) (by decide +kernel) l4 f4 ?_
  refine go_iconst (n := 1) (z := 1) (by decide +kernel) (by decide) fun v_1280 f_1281 => ?_
  refine go_iadd (by decide +kernel) f4 f_1281 fun v_1282 f_1283 => ?_
  obtain ⟨g_1286, h⟩ := gd_s h
  refine go_sld (by decide +kernel) f0 f_1283 g_1286 fun v_1284 f_1285 => ?_
  refine go_aload_n (n := 3) (by decide +kernel) l3 f3 ?_
  obtain ⟨x_1288, m_1289, hc_1287, h⟩ := bd_s h
  refine go_callS (x := 177) (mi := 350) (n := 3) (b := 0) (as := [v1, v_1284, v3]) (rest := []) (by decide +kernel) (by decide +kernel) rfl rfl (q_sum8 _ (Nat.le_of_ble_eq_true rfl)) (om_L_standing (Nat.le_trans (by decide) hd) R f1 f_1285 f3 hc_1287) (fun _ S_1292 q_1295 => ?_) (fun _ _ qq => kr_x qq)
  refine kr_z (by decide) q_1295 fun v_1290 f_1291 R_1293 E_1294 => ?_
  have E_1298 := E_1294
  refine go_istore (n := 5) (by decide +kernel) (by decide +kernel) f_1291 fun L_1299 l_1300 kp_1301 => ?_
  have l_1302 := kp_1301 0 _ l0 (by decide) (Or.inl (by decide))
  have l_1303 := kp_1301 1 _ l1 (by decide) (Or.inl (by decide))
  have l_1304 := kp_1301 2 _ l2 (by decide) (Or.inl (by decide))
  have l_1305 := kp_1301 3 _ l3 (by decide) (Or.inl (by decide))
  have l_1306 := kp_1301 4 _ l4 (by decide) (Or.inr (q_is_cat f4 (Or.inl rfl)))
  refine go_aload_n (n := 2) (by decide +kernel) l_1304 f2 ?_
  refine go_aloadS (n := 0) (by decide +kernel) l_1302 f0 ?_
  refine go_iload (n := 4) (by decide +kernel) l_1306 f4 ?_
  refine go_iconst (n := 1) (z := 1) (by decide +kernel) (by decide) fun v_1307 f_1308 => ?_
  refine go_iadd (by decide +kernel) f4 f_1308 fun v_1309 f_1310 => ?_
  refine go_sld (by decide +kernel) f0 f_1310 g_1286 fun v_1311 f_1312 => ?_
  obtain ⟨x_1314, m_1315, hc_1313, h⟩ := bd_s h
  refine go_callV (x := 179) (mi := 267) (n := 1) (ci := 13) (as := [v_1311]) (rest := []) (by decide +kernel) (by decide +kernel) rfl rfl (q_sum8 _ (Nat.le_of_ble_eq_true rfl)) R_1293 f2 (fx_k (c := 13) R_1293 (by decide +kernel)) (om_X12_standing (Nat.le_trans (by decide) hd) R_1293 f2 f_1312 hc_1313) (fun _ S_1318 q_1321 => ?_) (fun _ _ qq => kr_x qq)
  refine kr_z (by decide) q_1321 fun v_1316 f_1317 R_1319 E_1320 => ?_
  have E_1324 := Ext.tr E_1298 E_1320
  refine go_istore (n := 6) (by decide +kernel) (by decide +kernel) f_1317 fun L_1325 l_1326 kp_1327 => ?_
  have l_1328 := kp_1327 0 _ l_1302 (by decide) (Or.inl (by decide))
  have l_1329 := kp_1327 1 _ l_1303 (by decide) (Or.inl (by decide))
  have l_1330 := kp_1327 2 _ l_1304 (by decide) (Or.inl (by decide))
  have l_1331 := kp_1327 3 _ l_1305 (by decide) (Or.inl (by decide))
  have l_1332 := kp_1327 4 _ l_1306 (by decide) (Or.inl (by decide))
  have l_1333 := kp_1327 5 _ l_1300 (by decide) (Or.inr (q_is_cat f_1291 (Or.inl rfl)))
  refine go_aload_n (n := 2) (by decide +kernel) l_1330 f2 ?_
  obtain ⟨x_1335, hc_1334, h⟩ := bp_s h
  refine go_callV (x := 143) (mi := 185) (n := 0) (ci := 13) (as := []) (rest := []) (by decide +kernel) (by decide +kernel) rfl rfl (q_sum8 _ (Nat.le_of_ble_eq_true rfl)) R_1319 f2 (fx_k (c := 13) R_1319 (by decide +kernel)) (om_X12_thrown (Nat.le_trans (by decide) hd) R_1319 f2 hc_1334) (fun _ S_1339 q_1342 => ?_) (fun _ _ qq => kr_x qq)
  refine kr_z (by decide) q_1342 fun v_1337 f_1338 R_1340 E_1341 => ?_
  refine go_iload (n := 5) (by decide +kernel) l_1333 f_1291 ?_
  refine go_icmp (c := .eq) (o := 5) (t := 1000) (P := x_1335 = x_1288) (by decide +kernel) (by decide +kernel) f_1338 f_1291 (Iff.rfl) (fun hp_1343 => ?_) (fun hp_1343 => ?_)
  · have h := it_t hp_1343 h
    refine go_iload (n := 5) (by decide +kernel) l_1333 f_1291 ?_
    refine go_if (c := .ne) (o := 15) (t := 1017) (P := ¬ (x_1288 = 0)) (by decide +kernel) (by decide +kernel) f_1291 (Iff.rfl) (fun hp_1344 => ?_) (fun hp_1344 => ?_)
    · have h := it_f hp_1344 h
      refine go_goto (o := 1580) (t := 2597) (by decide +kernel) (by decide +kernel) ?_
      refine go_iinc (n := 4) (c := 7) (c' := 7) (by decide +kernel) (by decide +kernel) l_1332 f4 (by decide) fun L_1345 v_1346 f_1347 l_1348 kp_1349 => ?_
      obtain ⟨x_1350, e_1351, h⟩ := lx_s h
      have f_1352 := q_is_eq f_1347 e_1351
      have l_1353 := kp_1349 0 _ l_1328 (by decide) (Or.inl (by decide))
      have l_1354 := kp_1349 1 _ l_1329 (by decide) (Or.inl (by decide))
      have l_1355 := kp_1349 2 _ l_1330 (by decide) (Or.inl (by decide))
      have l_1356 := kp_1349 3 _ l_1331 (by decide) (Or.inr (q_is_cat f3 (Or.inr rfl)))
      refine go_goto (o := (-2577)) (t := 23) (by decide +kernel) (by decide +kernel) ?_
      exact hc m_1315 E_1324 h R_1340 l_1353 f0 l_1354 f1 l_1355 f2 l_1356 f3 l_1348 f_1352
    · have h := it_n hp_1344 h
      refine go_aload_n (n := 3) (by decide +kernel) l_1331 f3 ?_
      refine go_iconst (n := 0) (z := 0) (by decide +kernel) (by decide) fun v_1357 f_1358 => ?_
      obtain ⟨x_1362, e_1363, h⟩ := lx_s h
      refine go_lald (kd := 101) (by decide +kernel) rfl R_1340 f3 f_1358 (fx_k (c := 101) R_1340 (by decide +kernel)) (fx_x (a := 162) (ln := 1) R_1340 (by decide +kernel) (by decide)) fun v_1359 f_1360 => ?_
      have f_1361 := q_is_eq f_1360 e_1363
      refine go_iload (n := 6) (by decide +kernel) l_1326 f_1317 ?_
      refine go_i2l (by decide +kernel) f_1317 fun v_1364 f_1365 => ?_
      refine go_lcmp (by decide +kernel) f_1361 f_1365 fun v_1366 f_1367 => ?_
      refine go_if (c := .eq) (o := 5) (t := 1017) (P := x_1362 = x_1314) (by decide +kernel) (by decide +kernel) f_1367 (lc_eq) (fun hp_1368 => ?_) (fun hp_1368 => ?_)
      · have h := it_t hp_1368 h
        refine go_goto (o := 1580) (t := 2597) (by decide +kernel) (by decide +kernel) ?_
        refine go_iinc (n := 4) (c := 7) (c' := 7) (by decide +kernel) (by decide +kernel) l_1332 f4 (by decide) fun L_1369 v_1370 f_1371 l_1372 kp_1373 => ?_
        obtain ⟨x_1374, e_1375, h⟩ := lx_s h
        have f_1376 := q_is_eq f_1371 e_1375
        have l_1377 := kp_1373 0 _ l_1328 (by decide) (Or.inl (by decide))
        have l_1378 := kp_1373 1 _ l_1329 (by decide) (Or.inl (by decide))
        have l_1379 := kp_1373 2 _ l_1330 (by decide) (Or.inl (by decide))
        have l_1380 := kp_1373 3 _ l_1331 (by decide) (Or.inr (q_is_cat f3 (Or.inr rfl)))
        refine go_goto (o := (-2577)) (t := 23) (by decide +kernel) (by decide +kernel) ?_
        exact hc m_1315 E_1324 h R_1340 l_1377 f0 l_1378 f1 l_1379 f2 l_1380 f3 l_1372 f_1376
      · have h := it_f hp_1368 h
        refine go_iconst (n := 0) (z := 0) (by decide +kernel) (by decide) fun v_1381 f_1382 => ?_
        cases h
        exact go_iret (by decide +kernel) rfl (Or.inr ⟨rfl, by decide⟩) f_1382 (hQ E_1324 _ _ R_1340 (q_out_v (by decide) f_1382))
  · have h := it_f hp_1343 h
    refine go_iconst (n := 0) (z := 0) (by decide +kernel) (by decide) fun v_1383 f_1384 => ?_
    cases h
    exact go_iret (by decide +kernel) rfl (Or.inr ⟨rfl, by decide⟩) f_1384 (hQ E_1324 _ _ R_1340 (q_out_v (by decide) f_1384))
noncomputable def fj_L_law_1020 (xs : List Int32) (c : Int → MM → Option (Int × MM)) (y4 : Int) (m : MM) : Option (Int × MM) := gd (0 ≤ w32 (y4 + 1) ∧ w32 (y4 + 1) < (xs.length : Int)) <| gd (0 ≤ w32 (y4 + 2) ∧ w32 (y4 + 2) < (xs.length : Int)) <| bd (fm_L_event (scr xs (w32 (y4 + 1))) (scr xs (w32 (y4 + 2))) m) fun x_1402 m_1403 =>
bd (fm_X12_event (scr xs (w32 (y4 + 1))) (scr xs (w32 (y4 + 2))) m_1403) fun x_1434 m_1435 =>
bp (fm_X12_thrown m_1435) fun x_1455 =>
if x_1455 = x_1402 then
if x_1402 = 0 then
lx (m_1435 162 0) fun x_1482 =>
if x_1482 = x_1434 then
lx (w32 (y4 + 7)) fun x_1494 =>
c x_1494 m_1435
else
some (0, m_1435)
else
lx (w32 (y4 + 7)) fun x_1470 =>
c x_1470 m_1435
else
some (0, m_1435)
set_option maxHeartbeats 4000000 in
theorem oj_L_law_1020 {xs : List Int32} {d : Nat} {S : QS} {L : QL} {Q : QO → QS → Prop} {m : MM} {y4 : Int} {v0 : Value} {v1 : Value} {v2 : Value} {v3 : Value} {v4 : Value}  {rz : Int} {rm : MM} {c : Int → MM → Option (Int × MM)} 
  (hd : 174 ≤ d) (R : Rp S m) (l0 : q_lo L 0 = some v0) (f0 : q_is 7 v0 0) (l1 : q_lo L 1 = some v1) (f1 : q_is 2 v1 4) (l2 : q_lo L 2 = some v2) (f2 : q_is 2 v2 68) (l3 : q_lo L 3 = some v3) (f3 : q_is 2 v3 162) (l4 : q_lo L 4 = some v4) (f4 : q_is 0 v4 y4)
  (hc : ∀ mq : MM, Ext m mq → ∀ {z4 : Int} {Sq : QS} {Lq : QL} {u0 : Value} {u1 : Value} {u2 : Value} {u3 : Value} {u4 : Value}, c z4 mq = some (rz, rm) → Rp Sq mq → q_lo Lq 0 = some u0 → q_is 7 u0 0 → q_lo Lq 1 = some u1 → q_is 2 u1 4 → q_lo Lq 2 = some u2 → q_is 2 u2 68 → q_lo Lq 3 = some u3 → q_is 2 u3 162 → q_lo Lq 4 = some u4 → q_is 0 u4 z4 → Go xs d qM_L_law 23 Lq [] Sq Q)
  (hQ : Ext m rm → ∀ o S1, Rp S1 rm → q_out 0 o rz → Q o S1)
  (h : fj_L_law_1020 xs c y4 m = some (rz, rm)) : Go xs d qM_L_law 1020 L [] S Q := by
  unfold fj_L_law_1020 at h
  refine go_aload_n (n := 1) (by decide +kernel) l1 f1 ?_
  refine go_aloadS (n := 0) (by decide +kernel) l0 f0 ?_
  refine go_iload (n := 4) (by decide +kernel) l4 f4 ?_
  refine go_iconst (n := 1) (z := 1) (by decide +kernel) (by decide) fun v_1387 f_1388 => ?_
  refine go_iadd (by decide +kernel) f4 f_1388 fun v_1389 f_1390 => ?_
  obtain ⟨g_1393, h⟩ := gd_s h
  refine go_sld (by decide +kernel) f0 f_1390 g_1393 fun v_1391 f_1392 => ?_
  refine go_aloadS (n := 0) (by decide +kernel) l0 f0 ?_
  refine go_iload (n := 4) (by decide +kernel) l4 f4 ?_
  refine go_iconst (n := 2) (z := 2) (by decide +kernel) (by decide) fun v_1394 f_1395 => ?_
  refine go_iadd (by decide +kernel) f4 f_1395 fun v_1396 f_1397 => ?_
  obtain ⟨g_1400, h⟩ := gd_s h
  refine go_sld (by decide +kernel) f0 f_1397 g_1400 fun v_1398 f_1399 => ?_
  refine go_aload_n (n := 3) (by decide +kernel) l3 f3 ?_
  obtain ⟨x_1402, m_1403, hc_1401, h⟩ := bd_s h
  refine go_callS (x := 180) (mi := 351) (n := 4) (b := 0) (as := [v1, v_1391, v_1398, v3]) (rest := []) (by decide +kernel) (by decide +kernel) rfl rfl (q_sum8 _ (Nat.le_of_ble_eq_true rfl)) (om_L_event (Nat.le_trans (by decide) hd) R f1 f_1392 f_1399 f3 hc_1401) (fun _ S_1406 q_1409 => ?_) (fun _ _ qq => kr_x qq)
  refine kr_z (by decide) q_1409 fun v_1404 f_1405 R_1407 E_1408 => ?_
  have E_1412 := E_1408
  refine go_istore (n := 5) (by decide +kernel) (by decide +kernel) f_1405 fun L_1413 l_1414 kp_1415 => ?_
  have l_1416 := kp_1415 0 _ l0 (by decide) (Or.inl (by decide))
  have l_1417 := kp_1415 1 _ l1 (by decide) (Or.inl (by decide))
  have l_1418 := kp_1415 2 _ l2 (by decide) (Or.inl (by decide))
  have l_1419 := kp_1415 3 _ l3 (by decide) (Or.inl (by decide))
  have l_1420 := kp_1415 4 _ l4 (by decide) (Or.inr (q_is_cat f4 (Or.inl rfl)))
  refine go_aload_n (n := 2) (by decide +kernel) l_1418 f2 ?_
  refine go_aloadS (n := 0) (by decide +kernel) l_1416 f0 ?_
  refine go_iload (n := 4) (by decide +kernel) l_1420 f4 ?_
  refine go_iconst (n := 1) (z := 1) (by decide +kernel) (by decide) fun v_1421 f_1422 => ?_
  refine go_iadd (by decide +kernel) f4 f_1422 fun v_1423 f_1424 => ?_
  refine go_sld (by decide +kernel) f0 f_1424 g_1393 fun v_1425 f_1426 => ?_
  refine go_aloadS (n := 0) (by decide +kernel) l_1416 f0 ?_
  refine go_iload (n := 4) (by decide +kernel) l_1420 f4 ?_
  refine go_iconst (n := 2) (z := 2) (by decide +kernel) (by decide) fun v_1427 f_1428 => ?_
  refine go_iadd (by decide +kernel) f4 f_1428 fun v_1429 f_1430 => ?_
  refine go_sld (by decide +kernel) f0 f_1430 g_1400 fun v_1431 f_1432 => ?_
  obtain ⟨x_1434, m_1435, hc_1433, h⟩ := bd_s h
  refine go_callV (x := 182) (mi := 268) (n := 2) (ci := 13) (as := [v_1425, v_1431]) (rest := []) (by decide +kernel) (by decide +kernel) rfl rfl (q_sum8 _ (Nat.le_of_ble_eq_true rfl)) R_1407 f2 (fx_k (c := 13) R_1407 (by decide +kernel)) (om_X12_event (Nat.le_trans (by decide) hd) R_1407 f2 f_1426 f_1432 hc_1433) (fun _ S_1438 q_1441 => ?_) (fun _ _ qq => kr_x qq)
  refine kr_z (by decide) q_1441 fun v_1436 f_1437 R_1439 E_1440 => ?_
  have E_1444 := Ext.tr E_1412 E_1440
  refine go_istore (n := 6) (by decide +kernel) (by decide +kernel) f_1437 fun L_1445 l_1446 kp_1447 => ?_
  have l_1448 := kp_1447 0 _ l_1416 (by decide) (Or.inl (by decide))
  have l_1449 := kp_1447 1 _ l_1417 (by decide) (Or.inl (by decide))
  have l_1450 := kp_1447 2 _ l_1418 (by decide) (Or.inl (by decide))
  have l_1451 := kp_1447 3 _ l_1419 (by decide) (Or.inl (by decide))
  have l_1452 := kp_1447 4 _ l_1420 (by decide) (Or.inl (by decide))
  have l_1453 := kp_1447 5 _ l_1414 (by decide) (Or.inr (q_is_cat f_1405 (Or.inl rfl)))
  refine go_aload_n (n := 2) (by decide +kernel) l_1450 f2 ?_
  obtain ⟨x_1455, hc_1454, h⟩ := bp_s h
  refine go_callV (x := 143) (mi := 185) (n := 0) (ci := 13) (as := []) (rest := []) (by decide +kernel) (by decide +kernel) rfl rfl (q_sum8 _ (Nat.le_of_ble_eq_true rfl)) R_1439 f2 (fx_k (c := 13) R_1439 (by decide +kernel)) (om_X12_thrown (Nat.le_trans (by decide) hd) R_1439 f2 hc_1454) (fun _ S_1459 q_1462 => ?_) (fun _ _ qq => kr_x qq)
  refine kr_z (by decide) q_1462 fun v_1457 f_1458 R_1460 E_1461 => ?_
  refine go_iload (n := 5) (by decide +kernel) l_1453 f_1405 ?_
  refine go_icmp (c := .eq) (o := 5) (t := 1068) (P := x_1455 = x_1402) (by decide +kernel) (by decide +kernel) f_1458 f_1405 (Iff.rfl) (fun hp_1463 => ?_) (fun hp_1463 => ?_)
  · have h := it_t hp_1463 h
    refine go_iload (n := 5) (by decide +kernel) l_1453 f_1405 ?_
    refine go_if (c := .ne) (o := 15) (t := 1085) (P := ¬ (x_1402 = 0)) (by decide +kernel) (by decide +kernel) f_1405 (Iff.rfl) (fun hp_1464 => ?_) (fun hp_1464 => ?_)
    · have h := it_f hp_1464 h
      refine go_goto (o := 1512) (t := 2597) (by decide +kernel) (by decide +kernel) ?_
      refine go_iinc (n := 4) (c := 7) (c' := 7) (by decide +kernel) (by decide +kernel) l_1452 f4 (by decide) fun L_1465 v_1466 f_1467 l_1468 kp_1469 => ?_
      obtain ⟨x_1470, e_1471, h⟩ := lx_s h
      have f_1472 := q_is_eq f_1467 e_1471
      have l_1473 := kp_1469 0 _ l_1448 (by decide) (Or.inl (by decide))
      have l_1474 := kp_1469 1 _ l_1449 (by decide) (Or.inl (by decide))
      have l_1475 := kp_1469 2 _ l_1450 (by decide) (Or.inl (by decide))
      have l_1476 := kp_1469 3 _ l_1451 (by decide) (Or.inr (q_is_cat f3 (Or.inr rfl)))
      refine go_goto (o := (-2577)) (t := 23) (by decide +kernel) (by decide +kernel) ?_
      exact hc m_1435 E_1444 h R_1460 l_1473 f0 l_1474 f1 l_1475 f2 l_1476 f3 l_1468 f_1472
    · have h := it_n hp_1464 h
      refine go_aload_n (n := 3) (by decide +kernel) l_1451 f3 ?_
      refine go_iconst (n := 0) (z := 0) (by decide +kernel) (by decide) fun v_1477 f_1478 => ?_
      obtain ⟨x_1482, e_1483, h⟩ := lx_s h
      refine go_lald (kd := 101) (by decide +kernel) rfl R_1460 f3 f_1478 (fx_k (c := 101) R_1460 (by decide +kernel)) (fx_x (a := 162) (ln := 1) R_1460 (by decide +kernel) (by decide)) fun v_1479 f_1480 => ?_
      have f_1481 := q_is_eq f_1480 e_1483
      refine go_iload (n := 6) (by decide +kernel) l_1446 f_1437 ?_
      refine go_i2l (by decide +kernel) f_1437 fun v_1484 f_1485 => ?_
      refine go_lcmp (by decide +kernel) f_1481 f_1485 fun v_1486 f_1487 => ?_
      refine go_if (c := .eq) (o := 5) (t := 1085) (P := x_1482 = x_1434) (by decide +kernel) (by decide +kernel) f_1487 (lc_eq) (fun hp_1488 => ?_) (fun hp_1488 => ?_)
      · have h := it_t hp_1488 h
        refine go_goto (o := 1512) (t := 2597) (by decide +kernel) (by decide +kernel) ?_
        refine go_iinc (n := 4) (c := 7) (c' := 7) (by decide +kernel) (by decide +kernel) l_1452 f4 (by decide) fun L_1489 v_1490 f_1491 l_1492 kp_1493 => ?_
        obtain ⟨x_1494, e_1495, h⟩ := lx_s h
        have f_1496 := q_is_eq f_1491 e_1495
        have l_1497 := kp_1493 0 _ l_1448 (by decide) (Or.inl (by decide))
        have l_1498 := kp_1493 1 _ l_1449 (by decide) (Or.inl (by decide))
        have l_1499 := kp_1493 2 _ l_1450 (by decide) (Or.inl (by decide))
        have l_1500 := kp_1493 3 _ l_1451 (by decide) (Or.inr (q_is_cat f3 (Or.inr rfl)))
        refine go_goto (o := (-2577)) (t := 23) (by decide +kernel) (by decide +kernel) ?_
        exact hc m_1435 E_1444 h R_1460 l_1497 f0 l_1498 f1 l_1499 f2 l_1500 f3 l_1492 f_1496
      · have h := it_f hp_1488 h
        refine go_iconst (n := 0) (z := 0) (by decide +kernel) (by decide) fun v_1501 f_1502 => ?_
        cases h
        exact go_iret (by decide +kernel) rfl (Or.inr ⟨rfl, by decide⟩) f_1502 (hQ E_1444 _ _ R_1460 (q_out_v (by decide) f_1502))
  · have h := it_f hp_1463 h
    refine go_iconst (n := 0) (z := 0) (by decide +kernel) (by decide) fun v_1503 f_1504 => ?_
    cases h
    exact go_iret (by decide +kernel) rfl (Or.inr ⟨rfl, by decide⟩) f_1504 (hQ E_1444 _ _ R_1460 (q_out_v (by decide) f_1504))
noncomputable def fj_L_law_1088 (xs : List Int32) (c : Int → MM → Option (Int × MM)) (y4 : Int) (m : MM) : Option (Int × MM) := gd (0 ≤ w32 (y4 + 1) ∧ w32 (y4 + 1) < (xs.length : Int)) <| bd (fm_L_difference (scr xs (w32 (y4 + 1))) m) fun x_1515 m_1516 =>
bd (fm_X12_difference (scr xs (w32 (y4 + 1))) m_1516) fun x_1541 m_1542 =>
bp (fm_X12_thrown m_1542) fun x_1562 =>
if x_1562 = x_1515 then
if x_1515 = 0 then
lx (m_1542 162 0) fun x_1589 =>
if x_1589 = x_1541 then
lx (w32 (y4 + 7)) fun x_1601 =>
c x_1601 m_1542
else
some (0, m_1542)
else
lx (w32 (y4 + 7)) fun x_1577 =>
c x_1577 m_1542
else
some (0, m_1542)
set_option maxHeartbeats 4000000 in
theorem oj_L_law_1088 {xs : List Int32} {d : Nat} {S : QS} {L : QL} {Q : QO → QS → Prop} {m : MM} {y4 : Int} {v0 : Value} {v1 : Value} {v2 : Value} {v3 : Value} {v4 : Value}  {rz : Int} {rm : MM} {c : Int → MM → Option (Int × MM)} 
  (hd : 174 ≤ d) (R : Rp S m) (l0 : q_lo L 0 = some v0) (f0 : q_is 7 v0 0) (l1 : q_lo L 1 = some v1) (f1 : q_is 2 v1 4) (l2 : q_lo L 2 = some v2) (f2 : q_is 2 v2 68) (l3 : q_lo L 3 = some v3) (f3 : q_is 2 v3 162) (l4 : q_lo L 4 = some v4) (f4 : q_is 0 v4 y4)
  (hc : ∀ mq : MM, Ext m mq → ∀ {z4 : Int} {Sq : QS} {Lq : QL} {u0 : Value} {u1 : Value} {u2 : Value} {u3 : Value} {u4 : Value}, c z4 mq = some (rz, rm) → Rp Sq mq → q_lo Lq 0 = some u0 → q_is 7 u0 0 → q_lo Lq 1 = some u1 → q_is 2 u1 4 → q_lo Lq 2 = some u2 → q_is 2 u2 68 → q_lo Lq 3 = some u3 → q_is 2 u3 162 → q_lo Lq 4 = some u4 → q_is 0 u4 z4 → Go xs d qM_L_law 23 Lq [] Sq Q)
  (hQ : Ext m rm → ∀ o S1, Rp S1 rm → q_out 0 o rz → Q o S1)
  (h : fj_L_law_1088 xs c y4 m = some (rz, rm)) : Go xs d qM_L_law 1088 L [] S Q := by
  unfold fj_L_law_1088 at h
  refine go_aload_n (n := 1) (by decide +kernel) l1 f1 ?_
  refine go_aloadS (n := 0) (by decide +kernel) l0 f0 ?_
  refine go_iload (n := 4) (by decide +kernel) l4 f4 ?_
  refine go_iconst (n := 1) (z := 1) (by decide +kernel) (by decide) fun v_1507 f_1508 => ?_
  refine go_iadd (by decide +kernel) f4 f_1508 fun v_1509 f_1510 => ?_
  obtain ⟨g_1513, h⟩ := gd_s h
  refine go_sld (by decide +kernel) f0 f_1510 g_1513 fun v_1511 f_1512 => ?_
  refine go_aload_n (n := 3) (by decide +kernel) l3 f3 ?_
  obtain ⟨x_1515, m_1516, hc_1514, h⟩ := bd_s h
  refine go_callS (x := 183) (mi := 352) (n := 3) (b := 0) (as := [v1, v_1511, v3]) (rest := []) (by decide +kernel) (by decide +kernel) rfl rfl (q_sum8 _ (Nat.le_of_ble_eq_true rfl)) (om_L_difference (Nat.le_trans (by decide) hd) R f1 f_1512 f3 hc_1514) (fun _ S_1519 q_1522 => ?_) (fun _ _ qq => kr_x qq)
  refine kr_z (by decide) q_1522 fun v_1517 f_1518 R_1520 E_1521 => ?_
  have E_1525 := E_1521
  refine go_istore (n := 5) (by decide +kernel) (by decide +kernel) f_1518 fun L_1526 l_1527 kp_1528 => ?_
  have l_1529 := kp_1528 0 _ l0 (by decide) (Or.inl (by decide))
  have l_1530 := kp_1528 1 _ l1 (by decide) (Or.inl (by decide))
  have l_1531 := kp_1528 2 _ l2 (by decide) (Or.inl (by decide))
  have l_1532 := kp_1528 3 _ l3 (by decide) (Or.inl (by decide))
  have l_1533 := kp_1528 4 _ l4 (by decide) (Or.inr (q_is_cat f4 (Or.inl rfl)))
  refine go_aload_n (n := 2) (by decide +kernel) l_1531 f2 ?_
  refine go_aloadS (n := 0) (by decide +kernel) l_1529 f0 ?_
  refine go_iload (n := 4) (by decide +kernel) l_1533 f4 ?_
  refine go_iconst (n := 1) (z := 1) (by decide +kernel) (by decide) fun v_1534 f_1535 => ?_
  refine go_iadd (by decide +kernel) f4 f_1535 fun v_1536 f_1537 => ?_
  refine go_sld (by decide +kernel) f0 f_1537 g_1513 fun v_1538 f_1539 => ?_
  obtain ⟨x_1541, m_1542, hc_1540, h⟩ := bd_s h
  refine go_callV (x := 185) (mi := 269) (n := 1) (ci := 13) (as := [v_1538]) (rest := []) (by decide +kernel) (by decide +kernel) rfl rfl (q_sum8 _ (Nat.le_of_ble_eq_true rfl)) R_1520 f2 (fx_k (c := 13) R_1520 (by decide +kernel)) (om_X12_difference (Nat.le_trans (by decide) hd) R_1520 f2 f_1539 hc_1540) (fun _ S_1545 q_1548 => ?_) (fun _ _ qq => kr_x qq)
  refine kr_z (by decide) q_1548 fun v_1543 f_1544 R_1546 E_1547 => ?_
  have E_1551 := Ext.tr E_1525 E_1547
  refine go_istore (n := 6) (by decide +kernel) (by decide +kernel) f_1544 fun L_1552 l_1553 kp_1554 => ?_
  have l_1555 := kp_1554 0 _ l_1529 (by decide) (Or.inl (by decide))
  have l_1556 := kp_1554 1 _ l_1530 (by decide) (Or.inl (by decide))
  have l_1557 := kp_1554 2 _ l_1531 (by decide) (Or.inl (by decide))
  have l_1558 := kp_1554 3 _ l_1532 (by decide) (Or.inl (by decide))
  have l_1559 := kp_1554 4 _ l_1533 (by decide) (Or.inl (by decide))
  have l_1560 := kp_1554 5 _ l_1527 (by decide) (Or.inr (q_is_cat f_1518 (Or.inl rfl)))
  refine go_aload_n (n := 2) (by decide +kernel) l_1557 f2 ?_
  obtain ⟨x_1562, hc_1561, h⟩ := bp_s h
  refine go_callV (x := 143) (mi := 185) (n := 0) (ci := 13) (as := []) (rest := []) (by decide +kernel) (by decide +kernel) rfl rfl (q_sum8 _ (Nat.le_of_ble_eq_true rfl)) R_1546 f2 (fx_k (c := 13) R_1546 (by decide +kernel)) (om_X12_thrown (Nat.le_trans (by decide) hd) R_1546 f2 hc_1561) (fun _ S_1566 q_1569 => ?_) (fun _ _ qq => kr_x qq)
  refine kr_z (by decide) q_1569 fun v_1564 f_1565 R_1567 E_1568 => ?_
  refine go_iload (n := 5) (by decide +kernel) l_1560 f_1518 ?_
  refine go_icmp (c := .eq) (o := 5) (t := 1124) (P := x_1562 = x_1515) (by decide +kernel) (by decide +kernel) f_1565 f_1518 (Iff.rfl) (fun hp_1570 => ?_) (fun hp_1570 => ?_)
  · have h := it_t hp_1570 h
    refine go_iload (n := 5) (by decide +kernel) l_1560 f_1518 ?_
    refine go_if (c := .ne) (o := 15) (t := 1141) (P := ¬ (x_1515 = 0)) (by decide +kernel) (by decide +kernel) f_1518 (Iff.rfl) (fun hp_1571 => ?_) (fun hp_1571 => ?_)
    · have h := it_f hp_1571 h
      refine go_goto (o := 1456) (t := 2597) (by decide +kernel) (by decide +kernel) ?_
      refine go_iinc (n := 4) (c := 7) (c' := 7) (by decide +kernel) (by decide +kernel) l_1559 f4 (by decide) fun L_1572 v_1573 f_1574 l_1575 kp_1576 => ?_
      obtain ⟨x_1577, e_1578, h⟩ := lx_s h
      have f_1579 := q_is_eq f_1574 e_1578
      have l_1580 := kp_1576 0 _ l_1555 (by decide) (Or.inl (by decide))
      have l_1581 := kp_1576 1 _ l_1556 (by decide) (Or.inl (by decide))
      have l_1582 := kp_1576 2 _ l_1557 (by decide) (Or.inl (by decide))
      have l_1583 := kp_1576 3 _ l_1558 (by decide) (Or.inr (q_is_cat f3 (Or.inr rfl)))
      refine go_goto (o := (-2577)) (t := 23) (by decide +kernel) (by decide +kernel) ?_
      exact hc m_1542 E_1551 h R_1567 l_1580 f0 l_1581 f1 l_1582 f2 l_1583 f3 l_1575 f_1579
    · have h := it_n hp_1571 h
      refine go_aload_n (n := 3) (by decide +kernel) l_1558 f3 ?_
      refine go_iconst (n := 0) (z := 0) (by decide +kernel) (by decide) fun v_1584 f_1585 => ?_
      obtain ⟨x_1589, e_1590, h⟩ := lx_s h
      refine go_lald (kd := 101) (by decide +kernel) rfl R_1567 f3 f_1585 (fx_k (c := 101) R_1567 (by decide +kernel)) (fx_x (a := 162) (ln := 1) R_1567 (by decide +kernel) (by decide)) fun v_1586 f_1587 => ?_
      have f_1588 := q_is_eq f_1587 e_1590
      refine go_iload (n := 6) (by decide +kernel) l_1553 f_1544 ?_
      refine go_i2l (by decide +kernel) f_1544 fun v_1591 f_1592 => ?_
      refine go_lcmp (by decide +kernel) f_1588 f_1592 fun v_1593 f_1594 => ?_
      refine go_if (c := .eq) (o := 5) (t := 1141) (P := x_1589 = x_1541) (by decide +kernel) (by decide +kernel) f_1594 (lc_eq) (fun hp_1595 => ?_) (fun hp_1595 => ?_)
      · have h := it_t hp_1595 h
        refine go_goto (o := 1456) (t := 2597) (by decide +kernel) (by decide +kernel) ?_
        refine go_iinc (n := 4) (c := 7) (c' := 7) (by decide +kernel) (by decide +kernel) l_1559 f4 (by decide) fun L_1596 v_1597 f_1598 l_1599 kp_1600 => ?_
        obtain ⟨x_1601, e_1602, h⟩ := lx_s h
        have f_1603 := q_is_eq f_1598 e_1602
        have l_1604 := kp_1600 0 _ l_1555 (by decide) (Or.inl (by decide))
        have l_1605 := kp_1600 1 _ l_1556 (by decide) (Or.inl (by decide))
        have l_1606 := kp_1600 2 _ l_1557 (by decide) (Or.inl (by decide))
        have l_1607 := kp_1600 3 _ l_1558 (by decide) (Or.inr (q_is_cat f3 (Or.inr rfl)))
        refine go_goto (o := (-2577)) (t := 23) (by decide +kernel) (by decide +kernel) ?_
        exact hc m_1542 E_1551 h R_1567 l_1604 f0 l_1605 f1 l_1606 f2 l_1607 f3 l_1599 f_1603
      · have h := it_f hp_1595 h
        refine go_iconst (n := 0) (z := 0) (by decide +kernel) (by decide) fun v_1608 f_1609 => ?_
        cases h
        exact go_iret (by decide +kernel) rfl (Or.inr ⟨rfl, by decide⟩) f_1609 (hQ E_1551 _ _ R_1567 (q_out_v (by decide) f_1609))
  · have h := it_f hp_1570 h
    refine go_iconst (n := 0) (z := 0) (by decide +kernel) (by decide) fun v_1610 f_1611 => ?_
    cases h
    exact go_iret (by decide +kernel) rfl (Or.inr ⟨rfl, by decide⟩) f_1611 (hQ E_1551 _ _ R_1567 (q_out_v (by decide) f_1611))
noncomputable def fj_L_law_1144 (xs : List Int32) (c : Int → MM → Option (Int × MM)) (y4 : Int) (m : MM) : Option (Int × MM) := bp (fm_X11_runs m) fun x_1615 =>
bd (fm_X12_runs m) fun x_1624 m_1625 =>
if x_1615 = x_1624 then
lx (w32 (y4 + 7)) fun x_1641 =>
c x_1641 m_1625
else
some (0, m_1625)
set_option maxHeartbeats 4000000 in
theorem oj_L_law_1144 {xs : List Int32} {d : Nat} {S : QS} {L : QL} {Q : QO → QS → Prop} {m : MM} {y4 : Int} {v0 : Value} {v1 : Value} {v2 : Value} {v3 : Value} {v4 : Value}  {rz : Int} {rm : MM} {c : Int → MM → Option (Int × MM)} 
  (hd : 174 ≤ d) (R : Rp S m) (l0 : q_lo L 0 = some v0) (f0 : q_is 7 v0 0) (l1 : q_lo L 1 = some v1) (f1 : q_is 2 v1 4) (l2 : q_lo L 2 = some v2) (f2 : q_is 2 v2 68) (l3 : q_lo L 3 = some v3) (f3 : q_is 2 v3 162) (l4 : q_lo L 4 = some v4) (f4 : q_is 0 v4 y4)
  (hc : ∀ mq : MM, Ext m mq → ∀ {z4 : Int} {Sq : QS} {Lq : QL} {u0 : Value} {u1 : Value} {u2 : Value} {u3 : Value} {u4 : Value}, c z4 mq = some (rz, rm) → Rp Sq mq → q_lo Lq 0 = some u0 → q_is 7 u0 0 → q_lo Lq 1 = some u1 → q_is 2 u1 4 → q_lo Lq 2 = some u2 → q_is 2 u2 68 → q_lo Lq 3 = some u3 → q_is 2 u3 162 → q_lo Lq 4 = some u4 → q_is 0 u4 z4 → Go xs d qM_L_law 23 Lq [] Sq Q)
  (hQ : Ext m rm → ∀ o S1, Rp S1 rm → q_out 0 o rz → Q o S1)
  (h : fj_L_law_1144 xs c y4 m = some (rz, rm)) : Go xs d qM_L_law 1144 L [] S Q := by
  unfold fj_L_law_1144 at h
  refine go_aload_n (n := 1) (by decide +kernel) l1 f1 ?_
  obtain ⟨x_1615, hc_1614, h⟩ := bp_s h
  refine go_callV (x := 186) (mi := 113) (n := 0) (ci := 12) (as := []) (rest := []) (by decide +kernel) (by decide +kernel) rfl rfl (q_sum8 _ (Nat.le_of_ble_eq_true rfl)) R f1 (fx_k (c := 12) R (by decide +kernel)) (om_X11_runs (Nat.le_trans (by decide) hd) R f1 hc_1614) (fun _ S_1619 q_1622 => ?_) (fun _ _ qq => kr_x qq)
  refine kr_z (by decide) q_1622 fun v_1617 f_1618 R_1620 E_1621 => ?_
  refine go_aload_n (n := 2) (by decide +kernel) l2 f2 ?_
  obtain ⟨x_1624, m_1625, hc_1623, h⟩ := bd_s h
  refine go_callV (x := 189) (mi := 270) (n := 0) (ci := 13) (as := []) (rest := [v_1617]) (by decide +kernel) (by decide +kernel) rfl rfl (q_sum8 _ (Nat.le_of_ble_eq_true rfl)) R_1620 f2 (fx_k (c := 13) R_1620 (by decide +kernel)) (om_X12_runs (Nat.le_trans (by decide) hd) R_1620 f2 hc_1623) (fun _ S_1628 q_1631 => ?_) (fun _ _ qq => kr_x qq)
  refine kr_z (by decide) q_1631 fun v_1626 f_1627 R_1629 E_1630 => ?_
  have E_1634 := E_1630
  refine go_icmp (c := .eq) (o := 1445) (t := 2597) (P := x_1615 = x_1624) (by decide +kernel) (by decide +kernel) f_1618 f_1627 (Iff.rfl) (fun hp_1635 => ?_) (fun hp_1635 => ?_)
  · have h := it_t hp_1635 h
    refine go_iinc (n := 4) (c := 7) (c' := 7) (by decide +kernel) (by decide +kernel) l4 f4 (by decide) fun L_1636 v_1637 f_1638 l_1639 kp_1640 => ?_
    obtain ⟨x_1641, e_1642, h⟩ := lx_s h
    have f_1643 := q_is_eq f_1638 e_1642
    have l_1644 := kp_1640 0 _ l0 (by decide) (Or.inl (by decide))
    have l_1645 := kp_1640 1 _ l1 (by decide) (Or.inl (by decide))
    have l_1646 := kp_1640 2 _ l2 (by decide) (Or.inl (by decide))
    have l_1647 := kp_1640 3 _ l3 (by decide) (Or.inr (q_is_cat f3 (Or.inr rfl)))
    refine go_goto (o := (-2577)) (t := 23) (by decide +kernel) (by decide +kernel) ?_
    exact hc m_1625 E_1634 h R_1629 l_1644 f0 l_1645 f1 l_1646 f2 l_1647 f3 l_1639 f_1643
  · have h := it_f hp_1635 h
    refine go_iconst (n := 0) (z := 0) (by decide +kernel) (by decide) fun v_1648 f_1649 => ?_
    cases h
    exact go_iret (by decide +kernel) rfl (Or.inr ⟨rfl, by decide⟩) f_1649 (hQ E_1634 _ _ R_1629 (q_out_v (by decide) f_1649))
noncomputable def fj_L_law_1157 (xs : List Int32) (c : Int → MM → Option (Int × MM)) (y4 : Int) (m : MM) : Option (Int × MM) := gd (0 ≤ w32 (y4 + 1) ∧ w32 (y4 + 1) < (xs.length : Int)) <| bd (fm_L_setRate (scr xs (w32 (y4 + 1))) m) fun x_1660 m_1661 =>
bd (fm_X12_setRate (scr xs (w32 (y4 + 1))) m_1661) fun x_1686 m_1687 =>
bp (fm_X12_thrown m_1687) fun x_1707 =>
if x_1707 = x_1660 then
if x_1660 = 0 then
lx (m_1687 162 0) fun x_1734 =>
if x_1734 = x_1686 then
lx (w32 (y4 + 7)) fun x_1746 =>
c x_1746 m_1687
else
some (0, m_1687)
else
lx (w32 (y4 + 7)) fun x_1722 =>
c x_1722 m_1687
else
some (0, m_1687)
set_option maxHeartbeats 4000000 in
theorem oj_L_law_1157 {xs : List Int32} {d : Nat} {S : QS} {L : QL} {Q : QO → QS → Prop} {m : MM} {y4 : Int} {v0 : Value} {v1 : Value} {v2 : Value} {v3 : Value} {v4 : Value}  {rz : Int} {rm : MM} {c : Int → MM → Option (Int × MM)} 
  (hd : 174 ≤ d) (R : Rp S m) (l0 : q_lo L 0 = some v0) (f0 : q_is 7 v0 0) (l1 : q_lo L 1 = some v1) (f1 : q_is 2 v1 4) (l2 : q_lo L 2 = some v2) (f2 : q_is 2 v2 68) (l3 : q_lo L 3 = some v3) (f3 : q_is 2 v3 162) (l4 : q_lo L 4 = some v4) (f4 : q_is 0 v4 y4)
  (hc : ∀ mq : MM, Ext m mq → ∀ {z4 : Int} {Sq : QS} {Lq : QL} {u0 : Value} {u1 : Value} {u2 : Value} {u3 : Value} {u4 : Value}, c z4 mq = some (rz, rm) → Rp Sq mq → q_lo Lq 0 = some u0 → q_is 7 u0 0 → q_lo Lq 1 = some u1 → q_is 2 u1 4 → q_lo Lq 2 = some u2 → q_is 2 u2 68 → q_lo Lq 3 = some u3 → q_is 2 u3 162 → q_lo Lq 4 = some u4 → q_is 0 u4 z4 → Go xs d qM_L_law 23 Lq [] Sq Q)
  (hQ : Ext m rm → ∀ o S1, Rp S1 rm → q_out 0 o rz → Q o S1)
  (h : fj_L_law_1157 xs c y4 m = some (rz, rm)) : Go xs d qM_L_law 1157 L [] S Q := by
  unfold fj_L_law_1157 at h
  refine go_aload_n (n := 1) (by decide +kernel) l1 f1 ?_
  refine go_aloadS (n := 0) (by decide +kernel) l0 f0 ?_
  refine go_iload (n := 4) (by decide +kernel) l4 f4 ?_
  refine go_iconst (n := 1) (z := 1) (by decide +kernel) (by decide) fun v_1652 f_1653 => ?_
  refine go_iadd (by decide +kernel) f4 f_1653 fun v_1654 f_1655 => ?_
  obtain ⟨g_1658, h⟩ := gd_s h
  refine go_sld (by decide +kernel) f0 f_1655 g_1658 fun v_1656 f_1657 => ?_
  refine go_aload_n (n := 3) (by decide +kernel) l3 f3 ?_
  obtain ⟨x_1660, m_1661, hc_1659, h⟩ := bd_s h
  refine go_callS (x := 190) (mi := 353) (n := 3) (b := 0) (as := [v1, v_1656, v3]) (rest := []) (by decide +kernel) (by decide +kernel) rfl rfl (q_sum8 _ (Nat.le_of_ble_eq_true rfl)) (om_L_setRate (Nat.le_trans (by decide) hd) R f1 f_1657 f3 hc_1659) (fun _ S_1664 q_1667 => ?_) (fun _ _ qq => kr_x qq)
  refine kr_z (by decide) q_1667 fun v_1662 f_1663 R_1665 E_1666 => ?_
  have E_1670 := E_1666
  refine go_istore (n := 5) (by decide +kernel) (by decide +kernel) f_1663 fun L_1671 l_1672 kp_1673 => ?_
  have l_1674 := kp_1673 0 _ l0 (by decide) (Or.inl (by decide))
  have l_1675 := kp_1673 1 _ l1 (by decide) (Or.inl (by decide))
  have l_1676 := kp_1673 2 _ l2 (by decide) (Or.inl (by decide))
  have l_1677 := kp_1673 3 _ l3 (by decide) (Or.inl (by decide))
  have l_1678 := kp_1673 4 _ l4 (by decide) (Or.inr (q_is_cat f4 (Or.inl rfl)))
  refine go_aload_n (n := 2) (by decide +kernel) l_1676 f2 ?_
  refine go_aloadS (n := 0) (by decide +kernel) l_1674 f0 ?_
  refine go_iload (n := 4) (by decide +kernel) l_1678 f4 ?_
  refine go_iconst (n := 1) (z := 1) (by decide +kernel) (by decide) fun v_1679 f_1680 => ?_
  refine go_iadd (by decide +kernel) f4 f_1680 fun v_1681 f_1682 => ?_
  refine go_sld (by decide +kernel) f0 f_1682 g_1658 fun v_1683 f_1684 => ?_
  obtain ⟨x_1686, m_1687, hc_1685, h⟩ := bd_s h
  refine go_callV (x := 192) (mi := 271) (n := 1) (ci := 13) (as := [v_1683]) (rest := []) (by decide +kernel) (by decide +kernel) rfl rfl (q_sum8 _ (Nat.le_of_ble_eq_true rfl)) R_1665 f2 (fx_k (c := 13) R_1665 (by decide +kernel)) (om_X12_setRate (Nat.le_trans (by decide) hd) R_1665 f2 f_1684 hc_1685) (fun _ S_1690 q_1693 => ?_) (fun _ _ qq => kr_x qq)
  refine kr_z (by decide) q_1693 fun v_1688 f_1689 R_1691 E_1692 => ?_
  have E_1696 := Ext.tr E_1670 E_1692
  refine go_istore (n := 6) (by decide +kernel) (by decide +kernel) f_1689 fun L_1697 l_1698 kp_1699 => ?_
  have l_1700 := kp_1699 0 _ l_1674 (by decide) (Or.inl (by decide))
  have l_1701 := kp_1699 1 _ l_1675 (by decide) (Or.inl (by decide))
  have l_1702 := kp_1699 2 _ l_1676 (by decide) (Or.inl (by decide))
  have l_1703 := kp_1699 3 _ l_1677 (by decide) (Or.inl (by decide))
  have l_1704 := kp_1699 4 _ l_1678 (by decide) (Or.inl (by decide))
  have l_1705 := kp_1699 5 _ l_1672 (by decide) (Or.inr (q_is_cat f_1663 (Or.inl rfl)))
  refine go_aload_n (n := 2) (by decide +kernel) l_1702 f2 ?_
  obtain ⟨x_1707, hc_1706, h⟩ := bp_s h
  refine go_callV (x := 143) (mi := 185) (n := 0) (ci := 13) (as := []) (rest := []) (by decide +kernel) (by decide +kernel) rfl rfl (q_sum8 _ (Nat.le_of_ble_eq_true rfl)) R_1691 f2 (fx_k (c := 13) R_1691 (by decide +kernel)) (om_X12_thrown (Nat.le_trans (by decide) hd) R_1691 f2 hc_1706) (fun _ S_1711 q_1714 => ?_) (fun _ _ qq => kr_x qq)
  refine kr_z (by decide) q_1714 fun v_1709 f_1710 R_1712 E_1713 => ?_
  refine go_iload (n := 5) (by decide +kernel) l_1705 f_1663 ?_
  refine go_icmp (c := .eq) (o := 5) (t := 1193) (P := x_1707 = x_1660) (by decide +kernel) (by decide +kernel) f_1710 f_1663 (Iff.rfl) (fun hp_1715 => ?_) (fun hp_1715 => ?_)
  · have h := it_t hp_1715 h
    refine go_iload (n := 5) (by decide +kernel) l_1705 f_1663 ?_
    refine go_if (c := .ne) (o := 15) (t := 1210) (P := ¬ (x_1660 = 0)) (by decide +kernel) (by decide +kernel) f_1663 (Iff.rfl) (fun hp_1716 => ?_) (fun hp_1716 => ?_)
    · have h := it_f hp_1716 h
      refine go_goto (o := 1387) (t := 2597) (by decide +kernel) (by decide +kernel) ?_
      refine go_iinc (n := 4) (c := 7) (c' := 7) (by decide +kernel) (by decide +kernel) l_1704 f4 (by decide) fun L_1717 v_1718 f_1719 l_1720 kp_1721 => ?_
      obtain ⟨x_1722, e_1723, h⟩ := lx_s h
      have f_1724 := q_is_eq f_1719 e_1723
      have l_1725 := kp_1721 0 _ l_1700 (by decide) (Or.inl (by decide))
      have l_1726 := kp_1721 1 _ l_1701 (by decide) (Or.inl (by decide))
      have l_1727 := kp_1721 2 _ l_1702 (by decide) (Or.inl (by decide))
      have l_1728 := kp_1721 3 _ l_1703 (by decide) (Or.inr (q_is_cat f3 (Or.inr rfl)))
      refine go_goto (o := (-2577)) (t := 23) (by decide +kernel) (by decide +kernel) ?_
      exact hc m_1687 E_1696 h R_1712 l_1725 f0 l_1726 f1 l_1727 f2 l_1728 f3 l_1720 f_1724
    · have h := it_n hp_1716 h
      refine go_aload_n (n := 3) (by decide +kernel) l_1703 f3 ?_
      refine go_iconst (n := 0) (z := 0) (by decide +kernel) (by decide) fun v_1729 f_1730 => ?_
      obtain ⟨x_1734, e_1735, h⟩ := lx_s h
      refine go_lald (kd := 101) (by decide +kernel) rfl R_1712 f3 f_1730 (fx_k (c := 101) R_1712 (by decide +kernel)) (fx_x (a := 162) (ln := 1) R_1712 (by decide +kernel) (by decide)) fun v_1731 f_1732 => ?_
      have f_1733 := q_is_eq f_1732 e_1735
      refine go_iload (n := 6) (by decide +kernel) l_1698 f_1689 ?_
      refine go_i2l (by decide +kernel) f_1689 fun v_1736 f_1737 => ?_
      refine go_lcmp (by decide +kernel) f_1733 f_1737 fun v_1738 f_1739 => ?_
      refine go_if (c := .eq) (o := 5) (t := 1210) (P := x_1734 = x_1686) (by decide +kernel) (by decide +kernel) f_1739 (lc_eq) (fun hp_1740 => ?_) (fun hp_1740 => ?_)
      · have h := it_t hp_1740 h
        refine go_goto (o := 1387) (t := 2597) (by decide +kernel) (by decide +kernel) ?_
        refine go_iinc (n := 4) (c := 7) (c' := 7) (by decide +kernel) (by decide +kernel) l_1704 f4 (by decide) fun L_1741 v_1742 f_1743 l_1744 kp_1745 => ?_
        obtain ⟨x_1746, e_1747, h⟩ := lx_s h
        have f_1748 := q_is_eq f_1743 e_1747
        have l_1749 := kp_1745 0 _ l_1700 (by decide) (Or.inl (by decide))
        have l_1750 := kp_1745 1 _ l_1701 (by decide) (Or.inl (by decide))
        have l_1751 := kp_1745 2 _ l_1702 (by decide) (Or.inl (by decide))
        have l_1752 := kp_1745 3 _ l_1703 (by decide) (Or.inr (q_is_cat f3 (Or.inr rfl)))
        refine go_goto (o := (-2577)) (t := 23) (by decide +kernel) (by decide +kernel) ?_
        exact hc m_1687 E_1696 h R_1712 l_1749 f0 l_1750 f1 l_1751 f2 l_1752 f3 l_1744 f_1748
      · have h := it_f hp_1740 h
        refine go_iconst (n := 0) (z := 0) (by decide +kernel) (by decide) fun v_1753 f_1754 => ?_
        cases h
        exact go_iret (by decide +kernel) rfl (Or.inr ⟨rfl, by decide⟩) f_1754 (hQ E_1696 _ _ R_1712 (q_out_v (by decide) f_1754))
  · have h := it_f hp_1715 h
    refine go_iconst (n := 0) (z := 0) (by decide +kernel) (by decide) fun v_1755 f_1756 => ?_
    cases h
    exact go_iret (by decide +kernel) rfl (Or.inr ⟨rfl, by decide⟩) f_1756 (hQ E_1696 _ _ R_1712 (q_out_v (by decide) f_1756))
noncomputable def fj_L_law_1213 (xs : List Int32) (c : Int → MM → Option (Int × MM)) (y4 : Int) (m : MM) : Option (Int × MM) := gd (0 ≤ w32 (y4 + 1) ∧ w32 (y4 + 1) < (xs.length : Int)) <| bd (fm_L_poll (scr xs (w32 (y4 + 1))) m) fun x_1767 m_1768 =>
bd (fm_X12_poll (scr xs (w32 (y4 + 1))) m_1768) fun x_1793 m_1794 =>
bp (fm_X12_thrown m_1794) fun x_1814 =>
if x_1814 = x_1767 then
if x_1767 = 0 then
lx (m_1794 162 0) fun x_1841 =>
if x_1841 = x_1793 then
lx (w32 (y4 + 7)) fun x_1853 =>
c x_1853 m_1794
else
some (0, m_1794)
else
lx (w32 (y4 + 7)) fun x_1829 =>
c x_1829 m_1794
else
some (0, m_1794)
set_option maxHeartbeats 4000000 in
theorem oj_L_law_1213 {xs : List Int32} {d : Nat} {S : QS} {L : QL} {Q : QO → QS → Prop} {m : MM} {y4 : Int} {v0 : Value} {v1 : Value} {v2 : Value} {v3 : Value} {v4 : Value}  {rz : Int} {rm : MM} {c : Int → MM → Option (Int × MM)} 
  (hd : 174 ≤ d) (R : Rp S m) (l0 : q_lo L 0 = some v0) (f0 : q_is 7 v0 0) (l1 : q_lo L 1 = some v1) (f1 : q_is 2 v1 4) (l2 : q_lo L 2 = some v2) (f2 : q_is 2 v2 68) (l3 : q_lo L 3 = some v3) (f3 : q_is 2 v3 162) (l4 : q_lo L 4 = some v4) (f4 : q_is 0 v4 y4)
  (hc : ∀ mq : MM, Ext m mq → ∀ {z4 : Int} {Sq : QS} {Lq : QL} {u0 : Value} {u1 : Value} {u2 : Value} {u3 : Value} {u4 : Value}, c z4 mq = some (rz, rm) → Rp Sq mq → q_lo Lq 0 = some u0 → q_is 7 u0 0 → q_lo Lq 1 = some u1 → q_is 2 u1 4 → q_lo Lq 2 = some u2 → q_is 2 u2 68 → q_lo Lq 3 = some u3 → q_is 2 u3 162 → q_lo Lq 4 = some u4 → q_is 0 u4 z4 → Go xs d qM_L_law 23 Lq [] Sq Q)
  (hQ : Ext m rm → ∀ o S1, Rp S1 rm → q_out 0 o rz → Q o S1)
  (h : fj_L_law_1213 xs c y4 m = some (rz, rm)) : Go xs d qM_L_law 1213 L [] S Q := by
  unfold fj_L_law_1213 at h
  refine go_aload_n (n := 1) (by decide +kernel) l1 f1 ?_
  refine go_aloadS (n := 0) (by decide +kernel) l0 f0 ?_
  refine go_iload (n := 4) (by decide +kernel) l4 f4 ?_
  refine go_iconst (n := 1) (z := 1) (by decide +kernel) (by decide) fun v_1759 f_1760 => ?_
  refine go_iadd (by decide +kernel) f4 f_1760 fun v_1761 f_1762 => ?_
  obtain ⟨g_1765, h⟩ := gd_s h
  refine go_sld (by decide +kernel) f0 f_1762 g_1765 fun v_1763 f_1764 => ?_
  refine go_aload_n (n := 3) (by decide +kernel) l3 f3 ?_
  obtain ⟨x_1767, m_1768, hc_1766, h⟩ := bd_s h
  refine go_callS (x := 193) (mi := 354) (n := 3) (b := 0) (as := [v1, v_1763, v3]) (rest := []) (by decide +kernel) (by decide +kernel) rfl rfl (q_sum8 _ (Nat.le_of_ble_eq_true rfl)) (om_L_poll (Nat.le_trans (by decide) hd) R f1 f_1764 f3 hc_1766) (fun _ S_1771 q_1774 => ?_) (fun _ _ qq => kr_x qq)
  refine kr_z (by decide) q_1774 fun v_1769 f_1770 R_1772 E_1773 => ?_
  have E_1777 := E_1773
  refine go_istore (n := 5) (by decide +kernel) (by decide +kernel) f_1770 fun L_1778 l_1779 kp_1780 => ?_
  have l_1781 := kp_1780 0 _ l0 (by decide) (Or.inl (by decide))
  have l_1782 := kp_1780 1 _ l1 (by decide) (Or.inl (by decide))
  have l_1783 := kp_1780 2 _ l2 (by decide) (Or.inl (by decide))
  have l_1784 := kp_1780 3 _ l3 (by decide) (Or.inl (by decide))
  have l_1785 := kp_1780 4 _ l4 (by decide) (Or.inr (q_is_cat f4 (Or.inl rfl)))
  refine go_aload_n (n := 2) (by decide +kernel) l_1783 f2 ?_
  refine go_aloadS (n := 0) (by decide +kernel) l_1781 f0 ?_
  refine go_iload (n := 4) (by decide +kernel) l_1785 f4 ?_
  refine go_iconst (n := 1) (z := 1) (by decide +kernel) (by decide) fun v_1786 f_1787 => ?_
  refine go_iadd (by decide +kernel) f4 f_1787 fun v_1788 f_1789 => ?_
  refine go_sld (by decide +kernel) f0 f_1789 g_1765 fun v_1790 f_1791 => ?_
  obtain ⟨x_1793, m_1794, hc_1792, h⟩ := bd_s h
  refine go_callV (x := 195) (mi := 276) (n := 1) (ci := 13) (as := [v_1790]) (rest := []) (by decide +kernel) (by decide +kernel) rfl rfl (q_sum8 _ (Nat.le_of_ble_eq_true rfl)) R_1772 f2 (fx_k (c := 13) R_1772 (by decide +kernel)) (om_X12_poll (Nat.le_trans (by decide) hd) R_1772 f2 f_1791 hc_1792) (fun _ S_1797 q_1800 => ?_) (fun _ _ qq => kr_x qq)
  refine kr_z (by decide) q_1800 fun v_1795 f_1796 R_1798 E_1799 => ?_
  have E_1803 := Ext.tr E_1777 E_1799
  refine go_istore (n := 6) (by decide +kernel) (by decide +kernel) f_1796 fun L_1804 l_1805 kp_1806 => ?_
  have l_1807 := kp_1806 0 _ l_1781 (by decide) (Or.inl (by decide))
  have l_1808 := kp_1806 1 _ l_1782 (by decide) (Or.inl (by decide))
  have l_1809 := kp_1806 2 _ l_1783 (by decide) (Or.inl (by decide))
  have l_1810 := kp_1806 3 _ l_1784 (by decide) (Or.inl (by decide))
  have l_1811 := kp_1806 4 _ l_1785 (by decide) (Or.inl (by decide))
  have l_1812 := kp_1806 5 _ l_1779 (by decide) (Or.inr (q_is_cat f_1770 (Or.inl rfl)))
  refine go_aload_n (n := 2) (by decide +kernel) l_1809 f2 ?_
  obtain ⟨x_1814, hc_1813, h⟩ := bp_s h
  refine go_callV (x := 143) (mi := 185) (n := 0) (ci := 13) (as := []) (rest := []) (by decide +kernel) (by decide +kernel) rfl rfl (q_sum8 _ (Nat.le_of_ble_eq_true rfl)) R_1798 f2 (fx_k (c := 13) R_1798 (by decide +kernel)) (om_X12_thrown (Nat.le_trans (by decide) hd) R_1798 f2 hc_1813) (fun _ S_1818 q_1821 => ?_) (fun _ _ qq => kr_x qq)
  refine kr_z (by decide) q_1821 fun v_1816 f_1817 R_1819 E_1820 => ?_
  refine go_iload (n := 5) (by decide +kernel) l_1812 f_1770 ?_
  refine go_icmp (c := .eq) (o := 5) (t := 1249) (P := x_1814 = x_1767) (by decide +kernel) (by decide +kernel) f_1817 f_1770 (Iff.rfl) (fun hp_1822 => ?_) (fun hp_1822 => ?_)
  · have h := it_t hp_1822 h
    refine go_iload (n := 5) (by decide +kernel) l_1812 f_1770 ?_
    refine go_if (c := .ne) (o := 15) (t := 1266) (P := ¬ (x_1767 = 0)) (by decide +kernel) (by decide +kernel) f_1770 (Iff.rfl) (fun hp_1823 => ?_) (fun hp_1823 => ?_)
    · have h := it_f hp_1823 h
      refine go_goto (o := 1331) (t := 2597) (by decide +kernel) (by decide +kernel) ?_
      refine go_iinc (n := 4) (c := 7) (c' := 7) (by decide +kernel) (by decide +kernel) l_1811 f4 (by decide) fun L_1824 v_1825 f_1826 l_1827 kp_1828 => ?_
      obtain ⟨x_1829, e_1830, h⟩ := lx_s h
      have f_1831 := q_is_eq f_1826 e_1830
      have l_1832 := kp_1828 0 _ l_1807 (by decide) (Or.inl (by decide))
      have l_1833 := kp_1828 1 _ l_1808 (by decide) (Or.inl (by decide))
      have l_1834 := kp_1828 2 _ l_1809 (by decide) (Or.inl (by decide))
      have l_1835 := kp_1828 3 _ l_1810 (by decide) (Or.inr (q_is_cat f3 (Or.inr rfl)))
      refine go_goto (o := (-2577)) (t := 23) (by decide +kernel) (by decide +kernel) ?_
      exact hc m_1794 E_1803 h R_1819 l_1832 f0 l_1833 f1 l_1834 f2 l_1835 f3 l_1827 f_1831
    · have h := it_n hp_1823 h
      refine go_aload_n (n := 3) (by decide +kernel) l_1810 f3 ?_
      refine go_iconst (n := 0) (z := 0) (by decide +kernel) (by decide) fun v_1836 f_1837 => ?_
      obtain ⟨x_1841, e_1842, h⟩ := lx_s h
      refine go_lald (kd := 101) (by decide +kernel) rfl R_1819 f3 f_1837 (fx_k (c := 101) R_1819 (by decide +kernel)) (fx_x (a := 162) (ln := 1) R_1819 (by decide +kernel) (by decide)) fun v_1838 f_1839 => ?_
      have f_1840 := q_is_eq f_1839 e_1842
      refine go_iload (n := 6) (by decide +kernel) l_1805 f_1796 ?_
      refine go_i2l (by decide +kernel) f_1796 fun v_1843 f_1844 => ?_
      refine go_lcmp (by decide +kernel) f_1840 f_1844 fun v_1845 f_1846 => ?_
      refine go_if (c := .eq) (o := 5) (t := 1266) (P := x_1841 = x_1793) (by decide +kernel) (by decide +kernel) f_1846 (lc_eq) (fun hp_1847 => ?_) (fun hp_1847 => ?_)
      · have h := it_t hp_1847 h
        refine go_goto (o := 1331) (t := 2597) (by decide +kernel) (by decide +kernel) ?_
        refine go_iinc (n := 4) (c := 7) (c' := 7) (by decide +kernel) (by decide +kernel) l_1811 f4 (by decide) fun L_1848 v_1849 f_1850 l_1851 kp_1852 => ?_
        obtain ⟨x_1853, e_1854, h⟩ := lx_s h
        have f_1855 := q_is_eq f_1850 e_1854
        have l_1856 := kp_1852 0 _ l_1807 (by decide) (Or.inl (by decide))
        have l_1857 := kp_1852 1 _ l_1808 (by decide) (Or.inl (by decide))
        have l_1858 := kp_1852 2 _ l_1809 (by decide) (Or.inl (by decide))
        have l_1859 := kp_1852 3 _ l_1810 (by decide) (Or.inr (q_is_cat f3 (Or.inr rfl)))
        refine go_goto (o := (-2577)) (t := 23) (by decide +kernel) (by decide +kernel) ?_
        exact hc m_1794 E_1803 h R_1819 l_1856 f0 l_1857 f1 l_1858 f2 l_1859 f3 l_1851 f_1855
      · have h := it_f hp_1847 h
        refine go_iconst (n := 0) (z := 0) (by decide +kernel) (by decide) fun v_1860 f_1861 => ?_
        cases h
        exact go_iret (by decide +kernel) rfl (Or.inr ⟨rfl, by decide⟩) f_1861 (hQ E_1803 _ _ R_1819 (q_out_v (by decide) f_1861))
  · have h := it_f hp_1822 h
    refine go_iconst (n := 0) (z := 0) (by decide +kernel) (by decide) fun v_1862 f_1863 => ?_
    cases h
    exact go_iret (by decide +kernel) rfl (Or.inr ⟨rfl, by decide⟩) f_1863 (hQ E_1803 _ _ R_1819 (q_out_v (by decide) f_1863))
noncomputable def fj_L_law_1269 (xs : List Int32) (c : Int → MM → Option (Int × MM)) (y4 : Int) (m : MM) : Option (Int × MM) := gd (0 ≤ w32 (y4 + 1) ∧ w32 (y4 + 1) < (xs.length : Int)) <| bd (fm_L_complete (scr xs (w32 (y4 + 1))) m) fun x_1874 m_1875 =>
bd (fm_X12_complete (scr xs (w32 (y4 + 1))) m_1875) fun x_1900 m_1901 =>
bp (fm_X12_thrown m_1901) fun x_1921 =>
if x_1921 = x_1874 then
if x_1874 = 0 then
lx (m_1901 162 0) fun x_1948 =>
if x_1948 = x_1900 then
lx (w32 (y4 + 7)) fun x_1960 =>
c x_1960 m_1901
else
some (0, m_1901)
else
lx (w32 (y4 + 7)) fun x_1936 =>
c x_1936 m_1901
else
some (0, m_1901)
set_option maxHeartbeats 4000000 in
theorem oj_L_law_1269 {xs : List Int32} {d : Nat} {S : QS} {L : QL} {Q : QO → QS → Prop} {m : MM} {y4 : Int} {v0 : Value} {v1 : Value} {v2 : Value} {v3 : Value} {v4 : Value}  {rz : Int} {rm : MM} {c : Int → MM → Option (Int × MM)} 
  (hd : 174 ≤ d) (R : Rp S m) (l0 : q_lo L 0 = some v0) (f0 : q_is 7 v0 0) (l1 : q_lo L 1 = some v1) (f1 : q_is 2 v1 4) (l2 : q_lo L 2 = some v2) (f2 : q_is 2 v2 68) (l3 : q_lo L 3 = some v3) (f3 : q_is 2 v3 162) (l4 : q_lo L 4 = some v4) (f4 : q_is 0 v4 y4)
  (hc : ∀ mq : MM, Ext m mq → ∀ {z4 : Int} {Sq : QS} {Lq : QL} {u0 : Value} {u1 : Value} {u2 : Value} {u3 : Value} {u4 : Value}, c z4 mq = some (rz, rm) → Rp Sq mq → q_lo Lq 0 = some u0 → q_is 7 u0 0 → q_lo Lq 1 = some u1 → q_is 2 u1 4 → q_lo Lq 2 = some u2 → q_is 2 u2 68 → q_lo Lq 3 = some u3 → q_is 2 u3 162 → q_lo Lq 4 = some u4 → q_is 0 u4 z4 → Go xs d qM_L_law 23 Lq [] Sq Q)
  (hQ : Ext m rm → ∀ o S1, Rp S1 rm → q_out 0 o rz → Q o S1)
  (h : fj_L_law_1269 xs c y4 m = some (rz, rm)) : Go xs d qM_L_law 1269 L [] S Q := by
  unfold fj_L_law_1269 at h
  refine go_aload_n (n := 1) (by decide +kernel) l1 f1 ?_
  refine go_aloadS (n := 0) (by decide +kernel) l0 f0 ?_
  refine go_iload (n := 4) (by decide +kernel) l4 f4 ?_
  refine go_iconst (n := 1) (z := 1) (by decide +kernel) (by decide) fun v_1866 f_1867 => ?_
  refine go_iadd (by decide +kernel) f4 f_1867 fun v_1868 f_1869 => ?_
  obtain ⟨g_1872, h⟩ := gd_s h
  refine go_sld (by decide +kernel) f0 f_1869 g_1872 fun v_1870 f_1871 => ?_
  refine go_aload_n (n := 3) (by decide +kernel) l3 f3 ?_
  obtain ⟨x_1874, m_1875, hc_1873, h⟩ := bd_s h
  refine go_callS (x := 196) (mi := 355) (n := 3) (b := 0) (as := [v1, v_1870, v3]) (rest := []) (by decide +kernel) (by decide +kernel) rfl rfl (q_sum8 _ (Nat.le_of_ble_eq_true rfl)) (om_L_complete (Nat.le_trans (by decide) hd) R f1 f_1871 f3 hc_1873) (fun _ S_1878 q_1881 => ?_) (fun _ _ qq => kr_x qq)
  refine kr_z (by decide) q_1881 fun v_1876 f_1877 R_1879 E_1880 => ?_
  have E_1884 := E_1880
  refine go_istore (n := 5) (by decide +kernel) (by decide +kernel) f_1877 fun L_1885 l_1886 kp_1887 => ?_
  have l_1888 := kp_1887 0 _ l0 (by decide) (Or.inl (by decide))
  have l_1889 := kp_1887 1 _ l1 (by decide) (Or.inl (by decide))
  have l_1890 := kp_1887 2 _ l2 (by decide) (Or.inl (by decide))
  have l_1891 := kp_1887 3 _ l3 (by decide) (Or.inl (by decide))
  have l_1892 := kp_1887 4 _ l4 (by decide) (Or.inr (q_is_cat f4 (Or.inl rfl)))
  refine go_aload_n (n := 2) (by decide +kernel) l_1890 f2 ?_
  refine go_aloadS (n := 0) (by decide +kernel) l_1888 f0 ?_
  refine go_iload (n := 4) (by decide +kernel) l_1892 f4 ?_
  refine go_iconst (n := 1) (z := 1) (by decide +kernel) (by decide) fun v_1893 f_1894 => ?_
  refine go_iadd (by decide +kernel) f4 f_1894 fun v_1895 f_1896 => ?_
  refine go_sld (by decide +kernel) f0 f_1896 g_1872 fun v_1897 f_1898 => ?_
  obtain ⟨x_1900, m_1901, hc_1899, h⟩ := bd_s h
  refine go_callV (x := 198) (mi := 279) (n := 1) (ci := 13) (as := [v_1897]) (rest := []) (by decide +kernel) (by decide +kernel) rfl rfl (q_sum8 _ (Nat.le_of_ble_eq_true rfl)) R_1879 f2 (fx_k (c := 13) R_1879 (by decide +kernel)) (om_X12_complete (Nat.le_trans (by decide) hd) R_1879 f2 f_1898 hc_1899) (fun _ S_1904 q_1907 => ?_) (fun _ _ qq => kr_x qq)
  refine kr_z (by decide) q_1907 fun v_1902 f_1903 R_1905 E_1906 => ?_
  have E_1910 := Ext.tr E_1884 E_1906
  refine go_istore (n := 6) (by decide +kernel) (by decide +kernel) f_1903 fun L_1911 l_1912 kp_1913 => ?_
  have l_1914 := kp_1913 0 _ l_1888 (by decide) (Or.inl (by decide))
  have l_1915 := kp_1913 1 _ l_1889 (by decide) (Or.inl (by decide))
  have l_1916 := kp_1913 2 _ l_1890 (by decide) (Or.inl (by decide))
  have l_1917 := kp_1913 3 _ l_1891 (by decide) (Or.inl (by decide))
  have l_1918 := kp_1913 4 _ l_1892 (by decide) (Or.inl (by decide))
  have l_1919 := kp_1913 5 _ l_1886 (by decide) (Or.inr (q_is_cat f_1877 (Or.inl rfl)))
  refine go_aload_n (n := 2) (by decide +kernel) l_1916 f2 ?_
  obtain ⟨x_1921, hc_1920, h⟩ := bp_s h
  refine go_callV (x := 143) (mi := 185) (n := 0) (ci := 13) (as := []) (rest := []) (by decide +kernel) (by decide +kernel) rfl rfl (q_sum8 _ (Nat.le_of_ble_eq_true rfl)) R_1905 f2 (fx_k (c := 13) R_1905 (by decide +kernel)) (om_X12_thrown (Nat.le_trans (by decide) hd) R_1905 f2 hc_1920) (fun _ S_1925 q_1928 => ?_) (fun _ _ qq => kr_x qq)
  refine kr_z (by decide) q_1928 fun v_1923 f_1924 R_1926 E_1927 => ?_
  refine go_iload (n := 5) (by decide +kernel) l_1919 f_1877 ?_
  refine go_icmp (c := .eq) (o := 5) (t := 1305) (P := x_1921 = x_1874) (by decide +kernel) (by decide +kernel) f_1924 f_1877 (Iff.rfl) (fun hp_1929 => ?_) (fun hp_1929 => ?_)
  · have h := it_t hp_1929 h
    refine go_iload (n := 5) (by decide +kernel) l_1919 f_1877 ?_
    refine go_if (c := .ne) (o := 15) (t := 1322) (P := ¬ (x_1874 = 0)) (by decide +kernel) (by decide +kernel) f_1877 (Iff.rfl) (fun hp_1930 => ?_) (fun hp_1930 => ?_)
    · have h := it_f hp_1930 h
      refine go_goto (o := 1275) (t := 2597) (by decide +kernel) (by decide +kernel) ?_
      refine go_iinc (n := 4) (c := 7) (c' := 7) (by decide +kernel) (by decide +kernel) l_1918 f4 (by decide) fun L_1931 v_1932 f_1933 l_1934 kp_1935 => ?_
      obtain ⟨x_1936, e_1937, h⟩ := lx_s h
      have f_1938 := q_is_eq f_1933 e_1937
      have l_1939 := kp_1935 0 _ l_1914 (by decide) (Or.inl (by decide))
      have l_1940 := kp_1935 1 _ l_1915 (by decide) (Or.inl (by decide))
      have l_1941 := kp_1935 2 _ l_1916 (by decide) (Or.inl (by decide))
      have l_1942 := kp_1935 3 _ l_1917 (by decide) (Or.inr (q_is_cat f3 (Or.inr rfl)))
      refine go_goto (o := (-2577)) (t := 23) (by decide +kernel) (by decide +kernel) ?_
      exact hc m_1901 E_1910 h R_1926 l_1939 f0 l_1940 f1 l_1941 f2 l_1942 f3 l_1934 f_1938
    · have h := it_n hp_1930 h
      refine go_aload_n (n := 3) (by decide +kernel) l_1917 f3 ?_
      refine go_iconst (n := 0) (z := 0) (by decide +kernel) (by decide) fun v_1943 f_1944 => ?_
      obtain ⟨x_1948, e_1949, h⟩ := lx_s h
      refine go_lald (kd := 101) (by decide +kernel) rfl R_1926 f3 f_1944 (fx_k (c := 101) R_1926 (by decide +kernel)) (fx_x (a := 162) (ln := 1) R_1926 (by decide +kernel) (by decide)) fun v_1945 f_1946 => ?_
      have f_1947 := q_is_eq f_1946 e_1949
      refine go_iload (n := 6) (by decide +kernel) l_1912 f_1903 ?_
      refine go_i2l (by decide +kernel) f_1903 fun v_1950 f_1951 => ?_
      refine go_lcmp (by decide +kernel) f_1947 f_1951 fun v_1952 f_1953 => ?_
      refine go_if (c := .eq) (o := 5) (t := 1322) (P := x_1948 = x_1900) (by decide +kernel) (by decide +kernel) f_1953 (lc_eq) (fun hp_1954 => ?_) (fun hp_1954 => ?_)
      · have h := it_t hp_1954 h
        refine go_goto (o := 1275) (t := 2597) (by decide +kernel) (by decide +kernel) ?_
        refine go_iinc (n := 4) (c := 7) (c' := 7) (by decide +kernel) (by decide +kernel) l_1918 f4 (by decide) fun L_1955 v_1956 f_1957 l_1958 kp_1959 => ?_
        obtain ⟨x_1960, e_1961, h⟩ := lx_s h
        have f_1962 := q_is_eq f_1957 e_1961
        have l_1963 := kp_1959 0 _ l_1914 (by decide) (Or.inl (by decide))
        have l_1964 := kp_1959 1 _ l_1915 (by decide) (Or.inl (by decide))
        have l_1965 := kp_1959 2 _ l_1916 (by decide) (Or.inl (by decide))
        have l_1966 := kp_1959 3 _ l_1917 (by decide) (Or.inr (q_is_cat f3 (Or.inr rfl)))
        refine go_goto (o := (-2577)) (t := 23) (by decide +kernel) (by decide +kernel) ?_
        exact hc m_1901 E_1910 h R_1926 l_1963 f0 l_1964 f1 l_1965 f2 l_1966 f3 l_1958 f_1962
      · have h := it_f hp_1954 h
        refine go_iconst (n := 0) (z := 0) (by decide +kernel) (by decide) fun v_1967 f_1968 => ?_
        cases h
        exact go_iret (by decide +kernel) rfl (Or.inr ⟨rfl, by decide⟩) f_1968 (hQ E_1910 _ _ R_1926 (q_out_v (by decide) f_1968))
  · have h := it_f hp_1929 h
    refine go_iconst (n := 0) (z := 0) (by decide +kernel) (by decide) fun v_1969 f_1970 => ?_
    cases h
    exact go_iret (by decide +kernel) rfl (Or.inr ⟨rfl, by decide⟩) f_1970 (hQ E_1910 _ _ R_1926 (q_out_v (by decide) f_1970))
noncomputable def fj_L_law_1325 (xs : List Int32) (c : Int → MM → Option (Int × MM)) (y4 : Int) (m : MM) : Option (Int × MM) := gd (0 ≤ w32 (y4 + 1) ∧ w32 (y4 + 1) < (xs.length : Int)) <| bd (fm_L_die (scr xs (w32 (y4 + 1))) m) fun x_1981 m_1982 =>
bd (fm_X12_die (scr xs (w32 (y4 + 1))) m_1982) fun x_2007 m_2008 =>
bp (fm_X12_thrown m_2008) fun x_2028 =>
if x_2028 = x_1981 then
if x_1981 = 0 then
lx (m_2008 162 0) fun x_2055 =>
if x_2055 = x_2007 then
lx (w32 (y4 + 7)) fun x_2067 =>
c x_2067 m_2008
else
some (0, m_2008)
else
lx (w32 (y4 + 7)) fun x_2043 =>
c x_2043 m_2008
else
some (0, m_2008)
set_option maxHeartbeats 4000000 in
theorem oj_L_law_1325 {xs : List Int32} {d : Nat} {S : QS} {L : QL} {Q : QO → QS → Prop} {m : MM} {y4 : Int} {v0 : Value} {v1 : Value} {v2 : Value} {v3 : Value} {v4 : Value}  {rz : Int} {rm : MM} {c : Int → MM → Option (Int × MM)} 
  (hd : 174 ≤ d) (R : Rp S m) (l0 : q_lo L 0 = some v0) (f0 : q_is 7 v0 0) (l1 : q_lo L 1 = some v1) (f1 : q_is 2 v1 4) (l2 : q_lo L 2 = some v2) (f2 : q_is 2 v2 68) (l3 : q_lo L 3 = some v3) (f3 : q_is 2 v3 162) (l4 : q_lo L 4 = some v4) (f4 : q_is 0 v4 y4)
  (hc : ∀ mq : MM, Ext m mq → ∀ {z4 : Int} {Sq : QS} {Lq : QL} {u0 : Value} {u1 : Value} {u2 : Value} {u3 : Value} {u4 : Value}, c z4 mq = some (rz, rm) → Rp Sq mq → q_lo Lq 0 = some u0 → q_is 7 u0 0 → q_lo Lq 1 = some u1 → q_is 2 u1 4 → q_lo Lq 2 = some u2 → q_is 2 u2 68 → q_lo Lq 3 = some u3 → q_is 2 u3 162 → q_lo Lq 4 = some u4 → q_is 0 u4 z4 → Go xs d qM_L_law 23 Lq [] Sq Q)
  (hQ : Ext m rm → ∀ o S1, Rp S1 rm → q_out 0 o rz → Q o S1)
  (h : fj_L_law_1325 xs c y4 m = some (rz, rm)) : Go xs d qM_L_law 1325 L [] S Q := by
  unfold fj_L_law_1325 at h
  refine go_aload_n (n := 1) (by decide +kernel) l1 f1 ?_
  refine go_aloadS (n := 0) (by decide +kernel) l0 f0 ?_
  refine go_iload (n := 4) (by decide +kernel) l4 f4 ?_
  refine go_iconst (n := 1) (z := 1) (by decide +kernel) (by decide) fun v_1973 f_1974 => ?_
  refine go_iadd (by decide +kernel) f4 f_1974 fun v_1975 f_1976 => ?_
  obtain ⟨g_1979, h⟩ := gd_s h
  refine go_sld (by decide +kernel) f0 f_1976 g_1979 fun v_1977 f_1978 => ?_
  refine go_aload_n (n := 3) (by decide +kernel) l3 f3 ?_
  obtain ⟨x_1981, m_1982, hc_1980, h⟩ := bd_s h
  refine go_callS (x := 199) (mi := 356) (n := 3) (b := 0) (as := [v1, v_1977, v3]) (rest := []) (by decide +kernel) (by decide +kernel) rfl rfl (q_sum8 _ (Nat.le_of_ble_eq_true rfl)) (om_L_die (Nat.le_trans (by decide) hd) R f1 f_1978 f3 hc_1980) (fun _ S_1985 q_1988 => ?_) (fun _ _ qq => kr_x qq)
  refine kr_z (by decide) q_1988 fun v_1983 f_1984 R_1986 E_1987 => ?_
  have E_1991 := E_1987
  refine go_istore (n := 5) (by decide +kernel) (by decide +kernel) f_1984 fun L_1992 l_1993 kp_1994 => ?_
  have l_1995 := kp_1994 0 _ l0 (by decide) (Or.inl (by decide))
  have l_1996 := kp_1994 1 _ l1 (by decide) (Or.inl (by decide))
  have l_1997 := kp_1994 2 _ l2 (by decide) (Or.inl (by decide))
  have l_1998 := kp_1994 3 _ l3 (by decide) (Or.inl (by decide))
  have l_1999 := kp_1994 4 _ l4 (by decide) (Or.inr (q_is_cat f4 (Or.inl rfl)))
  refine go_aload_n (n := 2) (by decide +kernel) l_1997 f2 ?_
  refine go_aloadS (n := 0) (by decide +kernel) l_1995 f0 ?_
  refine go_iload (n := 4) (by decide +kernel) l_1999 f4 ?_
  refine go_iconst (n := 1) (z := 1) (by decide +kernel) (by decide) fun v_2000 f_2001 => ?_
  refine go_iadd (by decide +kernel) f4 f_2001 fun v_2002 f_2003 => ?_
  refine go_sld (by decide +kernel) f0 f_2003 g_1979 fun v_2004 f_2005 => ?_
  obtain ⟨x_2007, m_2008, hc_2006, h⟩ := bd_s h
  refine go_callV (x := 201) (mi := 282) (n := 1) (ci := 13) (as := [v_2004]) (rest := []) (by decide +kernel) (by decide +kernel) rfl rfl (q_sum8 _ (Nat.le_of_ble_eq_true rfl)) R_1986 f2 (fx_k (c := 13) R_1986 (by decide +kernel)) (om_X12_die (Nat.le_trans (by decide) hd) R_1986 f2 f_2005 hc_2006) (fun _ S_2011 q_2014 => ?_) (fun _ _ qq => kr_x qq)
  refine kr_z (by decide) q_2014 fun v_2009 f_2010 R_2012 E_2013 => ?_
  have E_2017 := Ext.tr E_1991 E_2013
  refine go_istore (n := 6) (by decide +kernel) (by decide +kernel) f_2010 fun L_2018 l_2019 kp_2020 => ?_
  have l_2021 := kp_2020 0 _ l_1995 (by decide) (Or.inl (by decide))
  have l_2022 := kp_2020 1 _ l_1996 (by decide) (Or.inl (by decide))
  have l_2023 := kp_2020 2 _ l_1997 (by decide) (Or.inl (by decide))
  have l_2024 := kp_2020 3 _ l_1998 (by decide) (Or.inl (by decide))
  have l_2025 := kp_2020 4 _ l_1999 (by decide) (Or.inl (by decide))
  have l_2026 := kp_2020 5 _ l_1993 (by decide) (Or.inr (q_is_cat f_1984 (Or.inl rfl)))
  refine go_aload_n (n := 2) (by decide +kernel) l_2023 f2 ?_
  obtain ⟨x_2028, hc_2027, h⟩ := bp_s h
  refine go_callV (x := 143) (mi := 185) (n := 0) (ci := 13) (as := []) (rest := []) (by decide +kernel) (by decide +kernel) rfl rfl (q_sum8 _ (Nat.le_of_ble_eq_true rfl)) R_2012 f2 (fx_k (c := 13) R_2012 (by decide +kernel)) (om_X12_thrown (Nat.le_trans (by decide) hd) R_2012 f2 hc_2027) (fun _ S_2032 q_2035 => ?_) (fun _ _ qq => kr_x qq)
  refine kr_z (by decide) q_2035 fun v_2030 f_2031 R_2033 E_2034 => ?_
  refine go_iload (n := 5) (by decide +kernel) l_2026 f_1984 ?_
  refine go_icmp (c := .eq) (o := 5) (t := 1361) (P := x_2028 = x_1981) (by decide +kernel) (by decide +kernel) f_2031 f_1984 (Iff.rfl) (fun hp_2036 => ?_) (fun hp_2036 => ?_)
  · have h := it_t hp_2036 h
    refine go_iload (n := 5) (by decide +kernel) l_2026 f_1984 ?_
    refine go_if (c := .ne) (o := 15) (t := 1378) (P := ¬ (x_1981 = 0)) (by decide +kernel) (by decide +kernel) f_1984 (Iff.rfl) (fun hp_2037 => ?_) (fun hp_2037 => ?_)
    · have h := it_f hp_2037 h
      refine go_goto (o := 1219) (t := 2597) (by decide +kernel) (by decide +kernel) ?_
      refine go_iinc (n := 4) (c := 7) (c' := 7) (by decide +kernel) (by decide +kernel) l_2025 f4 (by decide) fun L_2038 v_2039 f_2040 l_2041 kp_2042 => ?_
      obtain ⟨x_2043, e_2044, h⟩ := lx_s h
      have f_2045 := q_is_eq f_2040 e_2044
      have l_2046 := kp_2042 0 _ l_2021 (by decide) (Or.inl (by decide))
      have l_2047 := kp_2042 1 _ l_2022 (by decide) (Or.inl (by decide))
      have l_2048 := kp_2042 2 _ l_2023 (by decide) (Or.inl (by decide))
      have l_2049 := kp_2042 3 _ l_2024 (by decide) (Or.inr (q_is_cat f3 (Or.inr rfl)))
      refine go_goto (o := (-2577)) (t := 23) (by decide +kernel) (by decide +kernel) ?_
      exact hc m_2008 E_2017 h R_2033 l_2046 f0 l_2047 f1 l_2048 f2 l_2049 f3 l_2041 f_2045
    · have h := it_n hp_2037 h
      refine go_aload_n (n := 3) (by decide +kernel) l_2024 f3 ?_
      refine go_iconst (n := 0) (z := 0) (by decide +kernel) (by decide) fun v_2050 f_2051 => ?_
      obtain ⟨x_2055, e_2056, h⟩ := lx_s h
      refine go_lald (kd := 101) (by decide +kernel) rfl R_2033 f3 f_2051 (fx_k (c := 101) R_2033 (by decide +kernel)) (fx_x (a := 162) (ln := 1) R_2033 (by decide +kernel) (by decide)) fun v_2052 f_2053 => ?_
      have f_2054 := q_is_eq f_2053 e_2056
      refine go_iload (n := 6) (by decide +kernel) l_2019 f_2010 ?_
      refine go_i2l (by decide +kernel) f_2010 fun v_2057 f_2058 => ?_
      refine go_lcmp (by decide +kernel) f_2054 f_2058 fun v_2059 f_2060 => ?_
      refine go_if (c := .eq) (o := 5) (t := 1378) (P := x_2055 = x_2007) (by decide +kernel) (by decide +kernel) f_2060 (lc_eq) (fun hp_2061 => ?_) (fun hp_2061 => ?_)
      · have h := it_t hp_2061 h
        refine go_goto (o := 1219) (t := 2597) (by decide +kernel) (by decide +kernel) ?_
        refine go_iinc (n := 4) (c := 7) (c' := 7) (by decide +kernel) (by decide +kernel) l_2025 f4 (by decide) fun L_2062 v_2063 f_2064 l_2065 kp_2066 => ?_
        obtain ⟨x_2067, e_2068, h⟩ := lx_s h
        have f_2069 := q_is_eq f_2064 e_2068
        have l_2070 := kp_2066 0 _ l_2021 (by decide) (Or.inl (by decide))
        have l_2071 := kp_2066 1 _ l_2022 (by decide) (Or.inl (by decide))
        have l_2072 := kp_2066 2 _ l_2023 (by decide) (Or.inl (by decide))
        have l_2073 := kp_2066 3 _ l_2024 (by decide) (Or.inr (q_is_cat f3 (Or.inr rfl)))
        refine go_goto (o := (-2577)) (t := 23) (by decide +kernel) (by decide +kernel) ?_
        exact hc m_2008 E_2017 h R_2033 l_2070 f0 l_2071 f1 l_2072 f2 l_2073 f3 l_2065 f_2069
      · have h := it_f hp_2061 h
        refine go_iconst (n := 0) (z := 0) (by decide +kernel) (by decide) fun v_2074 f_2075 => ?_
        cases h
        exact go_iret (by decide +kernel) rfl (Or.inr ⟨rfl, by decide⟩) f_2075 (hQ E_2017 _ _ R_2033 (q_out_v (by decide) f_2075))
  · have h := it_f hp_2036 h
    refine go_iconst (n := 0) (z := 0) (by decide +kernel) (by decide) fun v_2076 f_2077 => ?_
    cases h
    exact go_iret (by decide +kernel) rfl (Or.inr ⟨rfl, by decide⟩) f_2077 (hQ E_2017 _ _ R_2033 (q_out_v (by decide) f_2077))
noncomputable def fj_L_law_1381 (xs : List Int32) (c : Int → MM → Option (Int × MM)) (y4 : Int) (m : MM) : Option (Int × MM) := gd (0 ≤ w32 (y4 + 1) ∧ w32 (y4 + 1) < (xs.length : Int)) <| bd (fm_L_replays (scr xs (w32 (y4 + 1))) m) fun x_2088 m_2089 =>
bd (fm_X12_replays (scr xs (w32 (y4 + 1))) m_2089) fun x_2114 m_2115 =>
bp (fm_X12_thrown m_2115) fun x_2135 =>
if x_2135 = x_2088 then
if x_2088 = 0 then
lx (m_2115 162 0) fun x_2162 =>
if x_2162 = x_2114 then
lx (w32 (y4 + 7)) fun x_2174 =>
c x_2174 m_2115
else
some (0, m_2115)
else
lx (w32 (y4 + 7)) fun x_2150 =>
c x_2150 m_2115
else
some (0, m_2115)
set_option maxHeartbeats 4000000 in
theorem oj_L_law_1381 {xs : List Int32} {d : Nat} {S : QS} {L : QL} {Q : QO → QS → Prop} {m : MM} {y4 : Int} {v0 : Value} {v1 : Value} {v2 : Value} {v3 : Value} {v4 : Value}  {rz : Int} {rm : MM} {c : Int → MM → Option (Int × MM)} 
  (hd : 174 ≤ d) (R : Rp S m) (l0 : q_lo L 0 = some v0) (f0 : q_is 7 v0 0) (l1 : q_lo L 1 = some v1) (f1 : q_is 2 v1 4) (l2 : q_lo L 2 = some v2) (f2 : q_is 2 v2 68) (l3 : q_lo L 3 = some v3) (f3 : q_is 2 v3 162) (l4 : q_lo L 4 = some v4) (f4 : q_is 0 v4 y4)
  (hc : ∀ mq : MM, Ext m mq → ∀ {z4 : Int} {Sq : QS} {Lq : QL} {u0 : Value} {u1 : Value} {u2 : Value} {u3 : Value} {u4 : Value}, c z4 mq = some (rz, rm) → Rp Sq mq → q_lo Lq 0 = some u0 → q_is 7 u0 0 → q_lo Lq 1 = some u1 → q_is 2 u1 4 → q_lo Lq 2 = some u2 → q_is 2 u2 68 → q_lo Lq 3 = some u3 → q_is 2 u3 162 → q_lo Lq 4 = some u4 → q_is 0 u4 z4 → Go xs d qM_L_law 23 Lq [] Sq Q)
  (hQ : Ext m rm → ∀ o S1, Rp S1 rm → q_out 0 o rz → Q o S1)
  (h : fj_L_law_1381 xs c y4 m = some (rz, rm)) : Go xs d qM_L_law 1381 L [] S Q := by
  unfold fj_L_law_1381 at h
  refine go_aload_n (n := 1) (by decide +kernel) l1 f1 ?_
  refine go_aloadS (n := 0) (by decide +kernel) l0 f0 ?_
  refine go_iload (n := 4) (by decide +kernel) l4 f4 ?_
  refine go_iconst (n := 1) (z := 1) (by decide +kernel) (by decide) fun v_2080 f_2081 => ?_
  refine go_iadd (by decide +kernel) f4 f_2081 fun v_2082 f_2083 => ?_
  obtain ⟨g_2086, h⟩ := gd_s h
  refine go_sld (by decide +kernel) f0 f_2083 g_2086 fun v_2084 f_2085 => ?_
  refine go_aload_n (n := 3) (by decide +kernel) l3 f3 ?_
  obtain ⟨x_2088, m_2089, hc_2087, h⟩ := bd_s h
  refine go_callS (x := 202) (mi := 357) (n := 3) (b := 0) (as := [v1, v_2084, v3]) (rest := []) (by decide +kernel) (by decide +kernel) rfl rfl (q_sum8 _ (Nat.le_of_ble_eq_true rfl)) (om_L_replays (Nat.le_trans (by decide) hd) R f1 f_2085 f3 hc_2087) (fun _ S_2092 q_2095 => ?_) (fun _ _ qq => kr_x qq)
  refine kr_z (by decide) q_2095 fun v_2090 f_2091 R_2093 E_2094 => ?_
  have E_2098 := E_2094
  refine go_istore (n := 5) (by decide +kernel) (by decide +kernel) f_2091 fun L_2099 l_2100 kp_2101 => ?_
  have l_2102 := kp_2101 0 _ l0 (by decide) (Or.inl (by decide))
  have l_2103 := kp_2101 1 _ l1 (by decide) (Or.inl (by decide))
  have l_2104 := kp_2101 2 _ l2 (by decide) (Or.inl (by decide))
  have l_2105 := kp_2101 3 _ l3 (by decide) (Or.inl (by decide))
  have l_2106 := kp_2101 4 _ l4 (by decide) (Or.inr (q_is_cat f4 (Or.inl rfl)))
  refine go_aload_n (n := 2) (by decide +kernel) l_2104 f2 ?_
  refine go_aloadS (n := 0) (by decide +kernel) l_2102 f0 ?_
  refine go_iload (n := 4) (by decide +kernel) l_2106 f4 ?_
  refine go_iconst (n := 1) (z := 1) (by decide +kernel) (by decide) fun v_2107 f_2108 => ?_
  refine go_iadd (by decide +kernel) f4 f_2108 fun v_2109 f_2110 => ?_
  refine go_sld (by decide +kernel) f0 f_2110 g_2086 fun v_2111 f_2112 => ?_
  obtain ⟨x_2114, m_2115, hc_2113, h⟩ := bd_s h
  refine go_callV (x := 204) (mi := 283) (n := 1) (ci := 13) (as := [v_2111]) (rest := []) (by decide +kernel) (by decide +kernel) rfl rfl (q_sum8 _ (Nat.le_of_ble_eq_true rfl)) R_2093 f2 (fx_k (c := 13) R_2093 (by decide +kernel)) (om_X12_replays (Nat.le_trans (by decide) hd) R_2093 f2 f_2112 hc_2113) (fun _ S_2118 q_2121 => ?_) (fun _ _ qq => kr_x qq)
  refine kr_z (by decide) q_2121 fun v_2116 f_2117 R_2119 E_2120 => ?_
  have E_2124 := Ext.tr E_2098 E_2120
  refine go_istore (n := 6) (by decide +kernel) (by decide +kernel) f_2117 fun L_2125 l_2126 kp_2127 => ?_
  have l_2128 := kp_2127 0 _ l_2102 (by decide) (Or.inl (by decide))
  have l_2129 := kp_2127 1 _ l_2103 (by decide) (Or.inl (by decide))
  have l_2130 := kp_2127 2 _ l_2104 (by decide) (Or.inl (by decide))
  have l_2131 := kp_2127 3 _ l_2105 (by decide) (Or.inl (by decide))
  have l_2132 := kp_2127 4 _ l_2106 (by decide) (Or.inl (by decide))
  have l_2133 := kp_2127 5 _ l_2100 (by decide) (Or.inr (q_is_cat f_2091 (Or.inl rfl)))
  refine go_aload_n (n := 2) (by decide +kernel) l_2130 f2 ?_
  obtain ⟨x_2135, hc_2134, h⟩ := bp_s h
  refine go_callV (x := 143) (mi := 185) (n := 0) (ci := 13) (as := []) (rest := []) (by decide +kernel) (by decide +kernel) rfl rfl (q_sum8 _ (Nat.le_of_ble_eq_true rfl)) R_2119 f2 (fx_k (c := 13) R_2119 (by decide +kernel)) (om_X12_thrown (Nat.le_trans (by decide) hd) R_2119 f2 hc_2134) (fun _ S_2139 q_2142 => ?_) (fun _ _ qq => kr_x qq)
  refine kr_z (by decide) q_2142 fun v_2137 f_2138 R_2140 E_2141 => ?_
  refine go_iload (n := 5) (by decide +kernel) l_2133 f_2091 ?_
  refine go_icmp (c := .eq) (o := 5) (t := 1417) (P := x_2135 = x_2088) (by decide +kernel) (by decide +kernel) f_2138 f_2091 (Iff.rfl) (fun hp_2143 => ?_) (fun hp_2143 => ?_)
  · have h := it_t hp_2143 h
    refine go_iload (n := 5) (by decide +kernel) l_2133 f_2091 ?_
    refine go_if (c := .ne) (o := 15) (t := 1434) (P := ¬ (x_2088 = 0)) (by decide +kernel) (by decide +kernel) f_2091 (Iff.rfl) (fun hp_2144 => ?_) (fun hp_2144 => ?_)
    · have h := it_f hp_2144 h
      refine go_goto (o := 1163) (t := 2597) (by decide +kernel) (by decide +kernel) ?_
      refine go_iinc (n := 4) (c := 7) (c' := 7) (by decide +kernel) (by decide +kernel) l_2132 f4 (by decide) fun L_2145 v_2146 f_2147 l_2148 kp_2149 => ?_
      obtain ⟨x_2150, e_2151, h⟩ := lx_s h
      have f_2152 := q_is_eq f_2147 e_2151
      have l_2153 := kp_2149 0 _ l_2128 (by decide) (Or.inl (by decide))
      have l_2154 := kp_2149 1 _ l_2129 (by decide) (Or.inl (by decide))
      have l_2155 := kp_2149 2 _ l_2130 (by decide) (Or.inl (by decide))
      have l_2156 := kp_2149 3 _ l_2131 (by decide) (Or.inr (q_is_cat f3 (Or.inr rfl)))
      refine go_goto (o := (-2577)) (t := 23) (by decide +kernel) (by decide +kernel) ?_
      exact hc m_2115 E_2124 h R_2140 l_2153 f0 l_2154 f1 l_2155 f2 l_2156 f3 l_2148 f_2152
    · have h := it_n hp_2144 h
      refine go_aload_n (n := 3) (by decide +kernel) l_2131 f3 ?_
      refine go_iconst (n := 0) (z := 0) (by decide +kernel) (by decide) fun v_2157 f_2158 => ?_
      obtain ⟨x_2162, e_2163, h⟩ := lx_s h
      refine go_lald (kd := 101) (by decide +kernel) rfl R_2140 f3 f_2158 (fx_k (c := 101) R_2140 (by decide +kernel)) (fx_x (a := 162) (ln := 1) R_2140 (by decide +kernel) (by decide)) fun v_2159 f_2160 => ?_
      have f_2161 := q_is_eq f_2160 e_2163
      refine go_iload (n := 6) (by decide +kernel) l_2126 f_2117 ?_
      refine go_i2l (by decide +kernel) f_2117 fun v_2164 f_2165 => ?_
      refine go_lcmp (by decide +kernel) f_2161 f_2165 fun v_2166 f_2167 => ?_
      refine go_if (c := .eq) (o := 5) (t := 1434) (P := x_2162 = x_2114) (by decide +kernel) (by decide +kernel) f_2167 (lc_eq) (fun hp_2168 => ?_) (fun hp_2168 => ?_)
      · have h := it_t hp_2168 h
        refine go_goto (o := 1163) (t := 2597) (by decide +kernel) (by decide +kernel) ?_
        refine go_iinc (n := 4) (c := 7) (c' := 7) (by decide +kernel) (by decide +kernel) l_2132 f4 (by decide) fun L_2169 v_2170 f_2171 l_2172 kp_2173 => ?_
        obtain ⟨x_2174, e_2175, h⟩ := lx_s h
        have f_2176 := q_is_eq f_2171 e_2175
        have l_2177 := kp_2173 0 _ l_2128 (by decide) (Or.inl (by decide))
        have l_2178 := kp_2173 1 _ l_2129 (by decide) (Or.inl (by decide))
        have l_2179 := kp_2173 2 _ l_2130 (by decide) (Or.inl (by decide))
        have l_2180 := kp_2173 3 _ l_2131 (by decide) (Or.inr (q_is_cat f3 (Or.inr rfl)))
        refine go_goto (o := (-2577)) (t := 23) (by decide +kernel) (by decide +kernel) ?_
        exact hc m_2115 E_2124 h R_2140 l_2177 f0 l_2178 f1 l_2179 f2 l_2180 f3 l_2172 f_2176
      · have h := it_f hp_2168 h
        refine go_iconst (n := 0) (z := 0) (by decide +kernel) (by decide) fun v_2181 f_2182 => ?_
        cases h
        exact go_iret (by decide +kernel) rfl (Or.inr ⟨rfl, by decide⟩) f_2182 (hQ E_2124 _ _ R_2140 (q_out_v (by decide) f_2182))
  · have h := it_f hp_2143 h
    refine go_iconst (n := 0) (z := 0) (by decide +kernel) (by decide) fun v_2183 f_2184 => ?_
    cases h
    exact go_iret (by decide +kernel) rfl (Or.inr ⟨rfl, by decide⟩) f_2184 (hQ E_2124 _ _ R_2140 (q_out_v (by decide) f_2184))
noncomputable def fj_L_law_1437 (xs : List Int32) (c : Int → MM → Option (Int × MM)) (y4 : Int) (m : MM) : Option (Int × MM) := gd (0 ≤ w32 (y4 + 1) ∧ w32 (y4 + 1) < (xs.length : Int)) <| bd (fm_L_take (scr xs (w32 (y4 + 1))) m) fun x_2195 m_2196 =>
bd (fm_X12_take (scr xs (w32 (y4 + 1))) m_2196) fun x_2221 m_2222 =>
bp (fm_X12_thrown m_2222) fun x_2242 =>
if x_2242 = x_2195 then
if x_2195 = 0 then
lx (m_2222 162 0) fun x_2269 =>
if x_2269 = x_2221 then
lx (w32 (y4 + 7)) fun x_2281 =>
c x_2281 m_2222
else
some (0, m_2222)
else
lx (w32 (y4 + 7)) fun x_2257 =>
c x_2257 m_2222
else
some (0, m_2222)
set_option maxHeartbeats 4000000 in
theorem oj_L_law_1437 {xs : List Int32} {d : Nat} {S : QS} {L : QL} {Q : QO → QS → Prop} {m : MM} {y4 : Int} {v0 : Value} {v1 : Value} {v2 : Value} {v3 : Value} {v4 : Value}  {rz : Int} {rm : MM} {c : Int → MM → Option (Int × MM)} 
  (hd : 174 ≤ d) (R : Rp S m) (l0 : q_lo L 0 = some v0) (f0 : q_is 7 v0 0) (l1 : q_lo L 1 = some v1) (f1 : q_is 2 v1 4) (l2 : q_lo L 2 = some v2) (f2 : q_is 2 v2 68) (l3 : q_lo L 3 = some v3) (f3 : q_is 2 v3 162) (l4 : q_lo L 4 = some v4) (f4 : q_is 0 v4 y4)
  (hc : ∀ mq : MM, Ext m mq → ∀ {z4 : Int} {Sq : QS} {Lq : QL} {u0 : Value} {u1 : Value} {u2 : Value} {u3 : Value} {u4 : Value}, c z4 mq = some (rz, rm) → Rp Sq mq → q_lo Lq 0 = some u0 → q_is 7 u0 0 → q_lo Lq 1 = some u1 → q_is 2 u1 4 → q_lo Lq 2 = some u2 → q_is 2 u2 68 → q_lo Lq 3 = some u3 → q_is 2 u3 162 → q_lo Lq 4 = some u4 → q_is 0 u4 z4 → Go xs d qM_L_law 23 Lq [] Sq Q)
  (hQ : Ext m rm → ∀ o S1, Rp S1 rm → q_out 0 o rz → Q o S1)
  (h : fj_L_law_1437 xs c y4 m = some (rz, rm)) : Go xs d qM_L_law 1437 L [] S Q := by
  unfold fj_L_law_1437 at h
  refine go_aload_n (n := 1) (by decide +kernel) l1 f1 ?_
  refine go_aloadS (n := 0) (by decide +kernel) l0 f0 ?_
  refine go_iload (n := 4) (by decide +kernel) l4 f4 ?_
  refine go_iconst (n := 1) (z := 1) (by decide +kernel) (by decide) fun v_2187 f_2188 => ?_
  refine go_iadd (by decide +kernel) f4 f_2188 fun v_2189 f_2190 => ?_
  obtain ⟨g_2193, h⟩ := gd_s h
  refine go_sld (by decide +kernel) f0 f_2190 g_2193 fun v_2191 f_2192 => ?_
  refine go_aload_n (n := 3) (by decide +kernel) l3 f3 ?_
  obtain ⟨x_2195, m_2196, hc_2194, h⟩ := bd_s h
  refine go_callS (x := 205) (mi := 358) (n := 3) (b := 0) (as := [v1, v_2191, v3]) (rest := []) (by decide +kernel) (by decide +kernel) rfl rfl (q_sum8 _ (Nat.le_of_ble_eq_true rfl)) (om_L_take (Nat.le_trans (by decide) hd) R f1 f_2192 f3 hc_2194) (fun _ S_2199 q_2202 => ?_) (fun _ _ qq => kr_x qq)
  refine kr_z (by decide) q_2202 fun v_2197 f_2198 R_2200 E_2201 => ?_
  have E_2205 := E_2201
  refine go_istore (n := 5) (by decide +kernel) (by decide +kernel) f_2198 fun L_2206 l_2207 kp_2208 => ?_
  have l_2209 := kp_2208 0 _ l0 (by decide) (Or.inl (by decide))
  have l_2210 := kp_2208 1 _ l1 (by decide) (Or.inl (by decide))
  have l_2211 := kp_2208 2 _ l2 (by decide) (Or.inl (by decide))
  have l_2212 := kp_2208 3 _ l3 (by decide) (Or.inl (by decide))
  have l_2213 := kp_2208 4 _ l4 (by decide) (Or.inr (q_is_cat f4 (Or.inl rfl)))
  refine go_aload_n (n := 2) (by decide +kernel) l_2211 f2 ?_
  refine go_aloadS (n := 0) (by decide +kernel) l_2209 f0 ?_
  refine go_iload (n := 4) (by decide +kernel) l_2213 f4 ?_
  refine go_iconst (n := 1) (z := 1) (by decide +kernel) (by decide) fun v_2214 f_2215 => ?_
  refine go_iadd (by decide +kernel) f4 f_2215 fun v_2216 f_2217 => ?_
  refine go_sld (by decide +kernel) f0 f_2217 g_2193 fun v_2218 f_2219 => ?_
  obtain ⟨x_2221, m_2222, hc_2220, h⟩ := bd_s h
  refine go_callV (x := 207) (mi := 284) (n := 1) (ci := 13) (as := [v_2218]) (rest := []) (by decide +kernel) (by decide +kernel) rfl rfl (q_sum8 _ (Nat.le_of_ble_eq_true rfl)) R_2200 f2 (fx_k (c := 13) R_2200 (by decide +kernel)) (om_X12_take (Nat.le_trans (by decide) hd) R_2200 f2 f_2219 hc_2220) (fun _ S_2225 q_2228 => ?_) (fun _ _ qq => kr_x qq)
  refine kr_z (by decide) q_2228 fun v_2223 f_2224 R_2226 E_2227 => ?_
  have E_2231 := Ext.tr E_2205 E_2227
  refine go_istore (n := 6) (by decide +kernel) (by decide +kernel) f_2224 fun L_2232 l_2233 kp_2234 => ?_
  have l_2235 := kp_2234 0 _ l_2209 (by decide) (Or.inl (by decide))
  have l_2236 := kp_2234 1 _ l_2210 (by decide) (Or.inl (by decide))
  have l_2237 := kp_2234 2 _ l_2211 (by decide) (Or.inl (by decide))
  have l_2238 := kp_2234 3 _ l_2212 (by decide) (Or.inl (by decide))
  have l_2239 := kp_2234 4 _ l_2213 (by decide) (Or.inl (by decide))
  have l_2240 := kp_2234 5 _ l_2207 (by decide) (Or.inr (q_is_cat f_2198 (Or.inl rfl)))
  refine go_aload_n (n := 2) (by decide +kernel) l_2237 f2 ?_
  obtain ⟨x_2242, hc_2241, h⟩ := bp_s h
  refine go_callV (x := 143) (mi := 185) (n := 0) (ci := 13) (as := []) (rest := []) (by decide +kernel) (by decide +kernel) rfl rfl (q_sum8 _ (Nat.le_of_ble_eq_true rfl)) R_2226 f2 (fx_k (c := 13) R_2226 (by decide +kernel)) (om_X12_thrown (Nat.le_trans (by decide) hd) R_2226 f2 hc_2241) (fun _ S_2246 q_2249 => ?_) (fun _ _ qq => kr_x qq)
  refine kr_z (by decide) q_2249 fun v_2244 f_2245 R_2247 E_2248 => ?_
  refine go_iload (n := 5) (by decide +kernel) l_2240 f_2198 ?_
  refine go_icmp (c := .eq) (o := 5) (t := 1473) (P := x_2242 = x_2195) (by decide +kernel) (by decide +kernel) f_2245 f_2198 (Iff.rfl) (fun hp_2250 => ?_) (fun hp_2250 => ?_)
  · have h := it_t hp_2250 h
    refine go_iload (n := 5) (by decide +kernel) l_2240 f_2198 ?_
    refine go_if (c := .ne) (o := 15) (t := 1490) (P := ¬ (x_2195 = 0)) (by decide +kernel) (by decide +kernel) f_2198 (Iff.rfl) (fun hp_2251 => ?_) (fun hp_2251 => ?_)
    · have h := it_f hp_2251 h
      refine go_goto (o := 1107) (t := 2597) (by decide +kernel) (by decide +kernel) ?_
      refine go_iinc (n := 4) (c := 7) (c' := 7) (by decide +kernel) (by decide +kernel) l_2239 f4 (by decide) fun L_2252 v_2253 f_2254 l_2255 kp_2256 => ?_
      obtain ⟨x_2257, e_2258, h⟩ := lx_s h
      have f_2259 := q_is_eq f_2254 e_2258
      have l_2260 := kp_2256 0 _ l_2235 (by decide) (Or.inl (by decide))
      have l_2261 := kp_2256 1 _ l_2236 (by decide) (Or.inl (by decide))
      have l_2262 := kp_2256 2 _ l_2237 (by decide) (Or.inl (by decide))
      have l_2263 := kp_2256 3 _ l_2238 (by decide) (Or.inr (q_is_cat f3 (Or.inr rfl)))
      refine go_goto (o := (-2577)) (t := 23) (by decide +kernel) (by decide +kernel) ?_
      exact hc m_2222 E_2231 h R_2247 l_2260 f0 l_2261 f1 l_2262 f2 l_2263 f3 l_2255 f_2259
    · have h := it_n hp_2251 h
      refine go_aload_n (n := 3) (by decide +kernel) l_2238 f3 ?_
      refine go_iconst (n := 0) (z := 0) (by decide +kernel) (by decide) fun v_2264 f_2265 => ?_
      obtain ⟨x_2269, e_2270, h⟩ := lx_s h
      refine go_lald (kd := 101) (by decide +kernel) rfl R_2247 f3 f_2265 (fx_k (c := 101) R_2247 (by decide +kernel)) (fx_x (a := 162) (ln := 1) R_2247 (by decide +kernel) (by decide)) fun v_2266 f_2267 => ?_
      have f_2268 := q_is_eq f_2267 e_2270
      refine go_iload (n := 6) (by decide +kernel) l_2233 f_2224 ?_
      refine go_i2l (by decide +kernel) f_2224 fun v_2271 f_2272 => ?_
      refine go_lcmp (by decide +kernel) f_2268 f_2272 fun v_2273 f_2274 => ?_
      refine go_if (c := .eq) (o := 5) (t := 1490) (P := x_2269 = x_2221) (by decide +kernel) (by decide +kernel) f_2274 (lc_eq) (fun hp_2275 => ?_) (fun hp_2275 => ?_)
      · have h := it_t hp_2275 h
        refine go_goto (o := 1107) (t := 2597) (by decide +kernel) (by decide +kernel) ?_
        refine go_iinc (n := 4) (c := 7) (c' := 7) (by decide +kernel) (by decide +kernel) l_2239 f4 (by decide) fun L_2276 v_2277 f_2278 l_2279 kp_2280 => ?_
        obtain ⟨x_2281, e_2282, h⟩ := lx_s h
        have f_2283 := q_is_eq f_2278 e_2282
        have l_2284 := kp_2280 0 _ l_2235 (by decide) (Or.inl (by decide))
        have l_2285 := kp_2280 1 _ l_2236 (by decide) (Or.inl (by decide))
        have l_2286 := kp_2280 2 _ l_2237 (by decide) (Or.inl (by decide))
        have l_2287 := kp_2280 3 _ l_2238 (by decide) (Or.inr (q_is_cat f3 (Or.inr rfl)))
        refine go_goto (o := (-2577)) (t := 23) (by decide +kernel) (by decide +kernel) ?_
        exact hc m_2222 E_2231 h R_2247 l_2284 f0 l_2285 f1 l_2286 f2 l_2287 f3 l_2279 f_2283
      · have h := it_f hp_2275 h
        refine go_iconst (n := 0) (z := 0) (by decide +kernel) (by decide) fun v_2288 f_2289 => ?_
        cases h
        exact go_iret (by decide +kernel) rfl (Or.inr ⟨rfl, by decide⟩) f_2289 (hQ E_2231 _ _ R_2247 (q_out_v (by decide) f_2289))
  · have h := it_f hp_2250 h
    refine go_iconst (n := 0) (z := 0) (by decide +kernel) (by decide) fun v_2290 f_2291 => ?_
    cases h
    exact go_iret (by decide +kernel) rfl (Or.inr ⟨rfl, by decide⟩) f_2291 (hQ E_2231 _ _ R_2247 (q_out_v (by decide) f_2291))
noncomputable def fj_L_law_1559 (xs : List Int32) (c : Int → MM → Option (Int × MM)) (y4 s0 s1 : Int) (m : MM) : Option (Int × MM) := if s1 = s0 then
lx (w32 (y4 + 7)) fun x_2402 =>
c x_2402 m
else
some (0, m)
set_option maxHeartbeats 4000000 in
theorem oj_L_law_1559 {xs : List Int32} {d : Nat} {S : QS} {L : QL} {Q : QO → QS → Prop} {m : MM} {y4 s0 s1 : Int} {v0 : Value} {v1 : Value} {v2 : Value} {v3 : Value} {v4 : Value} {w0 : Value} {w1 : Value}  {rz : Int} {rm : MM} {c : Int → MM → Option (Int × MM)} 
  (hd : 174 ≤ d) (R : Rp S m) (l0 : q_lo L 0 = some v0) (f0 : q_is 7 v0 0) (l1 : q_lo L 1 = some v1) (f1 : q_is 2 v1 4) (l2 : q_lo L 2 = some v2) (f2 : q_is 2 v2 68) (l3 : q_lo L 3 = some v3) (f3 : q_is 2 v3 162) (l4 : q_lo L 4 = some v4) (f4 : q_is 0 v4 y4) (fs0 : q_is 1 w0 s0) (fs1 : q_is 1 w1 s1)
  (hc : ∀ mq : MM, Ext m mq → ∀ {z4 : Int} {Sq : QS} {Lq : QL} {u0 : Value} {u1 : Value} {u2 : Value} {u3 : Value} {u4 : Value}, c z4 mq = some (rz, rm) → Rp Sq mq → q_lo Lq 0 = some u0 → q_is 7 u0 0 → q_lo Lq 1 = some u1 → q_is 2 u1 4 → q_lo Lq 2 = some u2 → q_is 2 u2 68 → q_lo Lq 3 = some u3 → q_is 2 u3 162 → q_lo Lq 4 = some u4 → q_is 0 u4 z4 → Go xs d qM_L_law 23 Lq [] Sq Q)
  (hQ : Ext m rm → ∀ o S1, Rp S1 rm → q_out 0 o rz → Q o S1)
  (h : fj_L_law_1559 xs c y4 s0 s1 m = some (rz, rm)) : Go xs d qM_L_law 1559 L [w0, w1] S Q := by
  unfold fj_L_law_1559 at h
  refine go_lcmp (by decide +kernel) fs1 fs0 fun v_2394 f_2395 => ?_
  refine go_if (c := .eq) (o := 5) (t := 1565) (P := s1 = s0) (by decide +kernel) (by decide +kernel) f_2395 (lc_eq) (fun hp_2396 => ?_) (fun hp_2396 => ?_)
  · have h := it_t hp_2396 h
    refine go_goto (o := 1032) (t := 2597) (by decide +kernel) (by decide +kernel) ?_
    refine go_iinc (n := 4) (c := 7) (c' := 7) (by decide +kernel) (by decide +kernel) l4 f4 (by decide) fun L_2397 v_2398 f_2399 l_2400 kp_2401 => ?_
    obtain ⟨x_2402, e_2403, h⟩ := lx_s h
    have f_2404 := q_is_eq f_2399 e_2403
    have l_2405 := kp_2401 0 _ l0 (by decide) (Or.inl (by decide))
    have l_2406 := kp_2401 1 _ l1 (by decide) (Or.inl (by decide))
    have l_2407 := kp_2401 2 _ l2 (by decide) (Or.inl (by decide))
    have l_2408 := kp_2401 3 _ l3 (by decide) (Or.inr (q_is_cat f3 (Or.inr rfl)))
    refine go_goto (o := (-2577)) (t := 23) (by decide +kernel) (by decide +kernel) ?_
    exact hc m (Ext.rf _) h R l_2405 f0 l_2406 f1 l_2407 f2 l_2408 f3 l_2400 f_2404
  · have h := it_f hp_2396 h
    refine go_iconst (n := 0) (z := 0) (by decide +kernel) (by decide) fun v_2409 f_2410 => ?_
    cases h
    exact go_iret (by decide +kernel) rfl (Or.inr ⟨rfl, by decide⟩) f_2410 (hQ (Ext.rf _) _ _ R (q_out_v (by decide) f_2410))
noncomputable def fj_L_law_1493 (xs : List Int32) (c : Int → MM → Option (Int × MM)) (y4 : Int) (m : MM) : Option (Int × MM) := gd (0 ≤ w32 (y4 + 1) ∧ w32 (y4 + 1) < (xs.length : Int)) <| gd (0 ≤ w32 (y4 + 2) ∧ w32 (y4 + 2) < (xs.length : Int)) <| bd (fm_L_answer (scr xs (w32 (y4 + 1))) (scr xs (w32 (y4 + 2))) m) fun x_2309 m_2310 =>
bd (fm_X12_answer (scr xs (w32 (y4 + 1))) (scr xs (w32 (y4 + 2))) m_2310) fun x_2341 m_2342 =>
bp (fm_X12_thrown m_2342) fun x_2362 =>
if x_2362 = x_2309 then
if x_2309 = 0 then
lx (m_2342 162 0) fun x_2389 =>
if x_2341 = 0 then
fj_L_law_1559 xs c y4 0 x_2389 m_2342
else
fj_L_law_1559 xs c y4 1 x_2389 m_2342
else
lx (w32 (y4 + 7)) fun x_2377 =>
c x_2377 m_2342
else
some (0, m_2342)
set_option maxHeartbeats 4000000 in
theorem oj_L_law_1493 {xs : List Int32} {d : Nat} {S : QS} {L : QL} {Q : QO → QS → Prop} {m : MM} {y4 : Int} {v0 : Value} {v1 : Value} {v2 : Value} {v3 : Value} {v4 : Value}  {rz : Int} {rm : MM} {c : Int → MM → Option (Int × MM)} 
  (hd : 174 ≤ d) (R : Rp S m) (l0 : q_lo L 0 = some v0) (f0 : q_is 7 v0 0) (l1 : q_lo L 1 = some v1) (f1 : q_is 2 v1 4) (l2 : q_lo L 2 = some v2) (f2 : q_is 2 v2 68) (l3 : q_lo L 3 = some v3) (f3 : q_is 2 v3 162) (l4 : q_lo L 4 = some v4) (f4 : q_is 0 v4 y4)
  (hc : ∀ mq : MM, Ext m mq → ∀ {z4 : Int} {Sq : QS} {Lq : QL} {u0 : Value} {u1 : Value} {u2 : Value} {u3 : Value} {u4 : Value}, c z4 mq = some (rz, rm) → Rp Sq mq → q_lo Lq 0 = some u0 → q_is 7 u0 0 → q_lo Lq 1 = some u1 → q_is 2 u1 4 → q_lo Lq 2 = some u2 → q_is 2 u2 68 → q_lo Lq 3 = some u3 → q_is 2 u3 162 → q_lo Lq 4 = some u4 → q_is 0 u4 z4 → Go xs d qM_L_law 23 Lq [] Sq Q)
  (hQ : Ext m rm → ∀ o S1, Rp S1 rm → q_out 0 o rz → Q o S1)
  (h : fj_L_law_1493 xs c y4 m = some (rz, rm)) : Go xs d qM_L_law 1493 L [] S Q := by
  unfold fj_L_law_1493 at h
  refine go_aload_n (n := 1) (by decide +kernel) l1 f1 ?_
  refine go_aloadS (n := 0) (by decide +kernel) l0 f0 ?_
  refine go_iload (n := 4) (by decide +kernel) l4 f4 ?_
  refine go_iconst (n := 1) (z := 1) (by decide +kernel) (by decide) fun v_2294 f_2295 => ?_
  refine go_iadd (by decide +kernel) f4 f_2295 fun v_2296 f_2297 => ?_
  obtain ⟨g_2300, h⟩ := gd_s h
  refine go_sld (by decide +kernel) f0 f_2297 g_2300 fun v_2298 f_2299 => ?_
  refine go_aloadS (n := 0) (by decide +kernel) l0 f0 ?_
  refine go_iload (n := 4) (by decide +kernel) l4 f4 ?_
  refine go_iconst (n := 2) (z := 2) (by decide +kernel) (by decide) fun v_2301 f_2302 => ?_
  refine go_iadd (by decide +kernel) f4 f_2302 fun v_2303 f_2304 => ?_
  obtain ⟨g_2307, h⟩ := gd_s h
  refine go_sld (by decide +kernel) f0 f_2304 g_2307 fun v_2305 f_2306 => ?_
  refine go_aload_n (n := 3) (by decide +kernel) l3 f3 ?_
  obtain ⟨x_2309, m_2310, hc_2308, h⟩ := bd_s h
  refine go_callS (x := 208) (mi := 359) (n := 4) (b := 0) (as := [v1, v_2298, v_2305, v3]) (rest := []) (by decide +kernel) (by decide +kernel) rfl rfl (q_sum8 _ (Nat.le_of_ble_eq_true rfl)) (om_L_answer (Nat.le_trans (by decide) hd) R f1 f_2299 f_2306 f3 hc_2308) (fun _ S_2313 q_2316 => ?_) (fun _ _ qq => kr_x qq)
  refine kr_z (by decide) q_2316 fun v_2311 f_2312 R_2314 E_2315 => ?_
  have E_2319 := E_2315
  refine go_istore (n := 5) (by decide +kernel) (by decide +kernel) f_2312 fun L_2320 l_2321 kp_2322 => ?_
  have l_2323 := kp_2322 0 _ l0 (by decide) (Or.inl (by decide))
  have l_2324 := kp_2322 1 _ l1 (by decide) (Or.inl (by decide))
  have l_2325 := kp_2322 2 _ l2 (by decide) (Or.inl (by decide))
  have l_2326 := kp_2322 3 _ l3 (by decide) (Or.inl (by decide))
  have l_2327 := kp_2322 4 _ l4 (by decide) (Or.inr (q_is_cat f4 (Or.inl rfl)))
  refine go_aload_n (n := 2) (by decide +kernel) l_2325 f2 ?_
  refine go_aloadS (n := 0) (by decide +kernel) l_2323 f0 ?_
  refine go_iload (n := 4) (by decide +kernel) l_2327 f4 ?_
  refine go_iconst (n := 1) (z := 1) (by decide +kernel) (by decide) fun v_2328 f_2329 => ?_
  refine go_iadd (by decide +kernel) f4 f_2329 fun v_2330 f_2331 => ?_
  refine go_sld (by decide +kernel) f0 f_2331 g_2300 fun v_2332 f_2333 => ?_
  refine go_aloadS (n := 0) (by decide +kernel) l_2323 f0 ?_
  refine go_iload (n := 4) (by decide +kernel) l_2327 f4 ?_
  refine go_iconst (n := 2) (z := 2) (by decide +kernel) (by decide) fun v_2334 f_2335 => ?_
  refine go_iadd (by decide +kernel) f4 f_2335 fun v_2336 f_2337 => ?_
  refine go_sld (by decide +kernel) f0 f_2337 g_2307 fun v_2338 f_2339 => ?_
  obtain ⟨x_2341, m_2342, hc_2340, h⟩ := bd_s h
  refine go_callV (x := 210) (mi := 286) (n := 2) (ci := 13) (as := [v_2332, v_2338]) (rest := []) (by decide +kernel) (by decide +kernel) rfl rfl (q_sum8 _ (Nat.le_of_ble_eq_true rfl)) R_2314 f2 (fx_k (c := 13) R_2314 (by decide +kernel)) (om_X12_answer (Nat.le_trans (by decide) hd) R_2314 f2 f_2333 f_2339 hc_2340) (fun _ S_2345 q_2348 => ?_) (fun _ _ qq => kr_x qq)
  refine kr_z (by decide) q_2348 fun v_2343 f_2344 R_2346 E_2347 => ?_
  have E_2351 := Ext.tr E_2319 E_2347
  refine go_istore (n := 6) (by decide +kernel) (by decide +kernel) f_2344 fun L_2352 l_2353 kp_2354 => ?_
  have l_2355 := kp_2354 0 _ l_2323 (by decide) (Or.inl (by decide))
  have l_2356 := kp_2354 1 _ l_2324 (by decide) (Or.inl (by decide))
  have l_2357 := kp_2354 2 _ l_2325 (by decide) (Or.inl (by decide))
  have l_2358 := kp_2354 3 _ l_2326 (by decide) (Or.inl (by decide))
  have l_2359 := kp_2354 4 _ l_2327 (by decide) (Or.inl (by decide))
  have l_2360 := kp_2354 5 _ l_2321 (by decide) (Or.inr (q_is_cat f_2312 (Or.inl rfl)))
  refine go_aload_n (n := 2) (by decide +kernel) l_2357 f2 ?_
  obtain ⟨x_2362, hc_2361, h⟩ := bp_s h
  refine go_callV (x := 143) (mi := 185) (n := 0) (ci := 13) (as := []) (rest := []) (by decide +kernel) (by decide +kernel) rfl rfl (q_sum8 _ (Nat.le_of_ble_eq_true rfl)) R_2346 f2 (fx_k (c := 13) R_2346 (by decide +kernel)) (om_X12_thrown (Nat.le_trans (by decide) hd) R_2346 f2 hc_2361) (fun _ S_2366 q_2369 => ?_) (fun _ _ qq => kr_x qq)
  refine kr_z (by decide) q_2369 fun v_2364 f_2365 R_2367 E_2368 => ?_
  refine go_iload (n := 5) (by decide +kernel) l_2360 f_2312 ?_
  refine go_icmp (c := .eq) (o := 5) (t := 1541) (P := x_2362 = x_2309) (by decide +kernel) (by decide +kernel) f_2365 f_2312 (Iff.rfl) (fun hp_2370 => ?_) (fun hp_2370 => ?_)
  · have h := it_t hp_2370 h
    refine go_iload (n := 5) (by decide +kernel) l_2360 f_2312 ?_
    refine go_if (c := .ne) (o := 22) (t := 1565) (P := ¬ (x_2309 = 0)) (by decide +kernel) (by decide +kernel) f_2312 (Iff.rfl) (fun hp_2371 => ?_) (fun hp_2371 => ?_)
    · have h := it_f hp_2371 h
      refine go_goto (o := 1032) (t := 2597) (by decide +kernel) (by decide +kernel) ?_
      refine go_iinc (n := 4) (c := 7) (c' := 7) (by decide +kernel) (by decide +kernel) l_2359 f4 (by decide) fun L_2372 v_2373 f_2374 l_2375 kp_2376 => ?_
      obtain ⟨x_2377, e_2378, h⟩ := lx_s h
      have f_2379 := q_is_eq f_2374 e_2378
      have l_2380 := kp_2376 0 _ l_2355 (by decide) (Or.inl (by decide))
      have l_2381 := kp_2376 1 _ l_2356 (by decide) (Or.inl (by decide))
      have l_2382 := kp_2376 2 _ l_2357 (by decide) (Or.inl (by decide))
      have l_2383 := kp_2376 3 _ l_2358 (by decide) (Or.inr (q_is_cat f3 (Or.inr rfl)))
      refine go_goto (o := (-2577)) (t := 23) (by decide +kernel) (by decide +kernel) ?_
      exact hc m_2342 E_2351 h R_2367 l_2380 f0 l_2381 f1 l_2382 f2 l_2383 f3 l_2375 f_2379
    · have h := it_n hp_2371 h
      refine go_aload_n (n := 3) (by decide +kernel) l_2358 f3 ?_
      refine go_iconst (n := 0) (z := 0) (by decide +kernel) (by decide) fun v_2384 f_2385 => ?_
      obtain ⟨x_2389, e_2390, h⟩ := lx_s h
      refine go_lald (kd := 101) (by decide +kernel) rfl R_2367 f3 f_2385 (fx_k (c := 101) R_2367 (by decide +kernel)) (fx_x (a := 162) (ln := 1) R_2367 (by decide +kernel) (by decide)) fun v_2386 f_2387 => ?_
      have f_2388 := q_is_eq f_2387 e_2390
      refine go_iload (n := 6) (by decide +kernel) l_2353 f_2344 ?_
      refine go_if (c := .eq) (o := 7) (t := 1558) (P := x_2341 = 0) (by decide +kernel) (by decide +kernel) f_2344 (Iff.rfl) (fun hp_2391 => ?_) (fun hp_2391 => ?_)
      · have h := it_t hp_2391 h
        refine go_lconst (n := 0) (z := 0) (by decide +kernel) (by decide) fun v_2392 f_2393 => ?_
        exact oj_L_law_1559 hd R_2367 l_2355 f0 l_2356 f1 l_2357 f2 l_2358 f3 l_2359 f4 f_2393 f_2388 (fun mq b => hc mq (Ext.tr E_2351 b)) (fun b => hQ (Ext.tr E_2351 b)) h
      · have h := it_f hp_2391 h
        refine go_lconst (n := 1) (z := 1) (by decide +kernel) (by decide) fun v_2411 f_2412 => ?_
        refine go_goto (o := 4) (t := 1559) (by decide +kernel) (by decide +kernel) ?_
        exact oj_L_law_1559 hd R_2367 l_2355 f0 l_2356 f1 l_2357 f2 l_2358 f3 l_2359 f4 f_2412 f_2388 (fun mq b => hc mq (Ext.tr E_2351 b)) (fun b => hQ (Ext.tr E_2351 b)) h
  · have h := it_f hp_2370 h
    refine go_iconst (n := 0) (z := 0) (by decide +kernel) (by decide) fun v_2413 f_2414 => ?_
    cases h
    exact go_iret (by decide +kernel) rfl (Or.inr ⟨rfl, by decide⟩) f_2414 (hQ E_2351 _ _ R_2367 (q_out_v (by decide) f_2414))
noncomputable def fj_L_law_1650 (xs : List Int32) (c : Int → MM → Option (Int × MM)) (y4 s0 s1 : Int) (m : MM) : Option (Int × MM) := if s1 = s0 then
lx (w32 (y4 + 7)) fun x_2533 =>
c x_2533 m
else
some (0, m)
set_option maxHeartbeats 4000000 in
theorem oj_L_law_1650 {xs : List Int32} {d : Nat} {S : QS} {L : QL} {Q : QO → QS → Prop} {m : MM} {y4 s0 s1 : Int} {v0 : Value} {v1 : Value} {v2 : Value} {v3 : Value} {v4 : Value} {w0 : Value} {w1 : Value}  {rz : Int} {rm : MM} {c : Int → MM → Option (Int × MM)} 
  (hd : 174 ≤ d) (R : Rp S m) (l0 : q_lo L 0 = some v0) (f0 : q_is 7 v0 0) (l1 : q_lo L 1 = some v1) (f1 : q_is 2 v1 4) (l2 : q_lo L 2 = some v2) (f2 : q_is 2 v2 68) (l3 : q_lo L 3 = some v3) (f3 : q_is 2 v3 162) (l4 : q_lo L 4 = some v4) (f4 : q_is 0 v4 y4) (fs0 : q_is 1 w0 s0) (fs1 : q_is 1 w1 s1)
  (hc : ∀ mq : MM, Ext m mq → ∀ {z4 : Int} {Sq : QS} {Lq : QL} {u0 : Value} {u1 : Value} {u2 : Value} {u3 : Value} {u4 : Value}, c z4 mq = some (rz, rm) → Rp Sq mq → q_lo Lq 0 = some u0 → q_is 7 u0 0 → q_lo Lq 1 = some u1 → q_is 2 u1 4 → q_lo Lq 2 = some u2 → q_is 2 u2 68 → q_lo Lq 3 = some u3 → q_is 2 u3 162 → q_lo Lq 4 = some u4 → q_is 0 u4 z4 → Go xs d qM_L_law 23 Lq [] Sq Q)
  (hQ : Ext m rm → ∀ o S1, Rp S1 rm → q_out 0 o rz → Q o S1)
  (h : fj_L_law_1650 xs c y4 s0 s1 m = some (rz, rm)) : Go xs d qM_L_law 1650 L [w0, w1] S Q := by
  unfold fj_L_law_1650 at h
  refine go_lcmp (by decide +kernel) fs1 fs0 fun v_2525 f_2526 => ?_
  refine go_if (c := .eq) (o := 5) (t := 1656) (P := s1 = s0) (by decide +kernel) (by decide +kernel) f_2526 (lc_eq) (fun hp_2527 => ?_) (fun hp_2527 => ?_)
  · have h := it_t hp_2527 h
    refine go_goto (o := 941) (t := 2597) (by decide +kernel) (by decide +kernel) ?_
    refine go_iinc (n := 4) (c := 7) (c' := 7) (by decide +kernel) (by decide +kernel) l4 f4 (by decide) fun L_2528 v_2529 f_2530 l_2531 kp_2532 => ?_
    obtain ⟨x_2533, e_2534, h⟩ := lx_s h
    have f_2535 := q_is_eq f_2530 e_2534
    have l_2536 := kp_2532 0 _ l0 (by decide) (Or.inl (by decide))
    have l_2537 := kp_2532 1 _ l1 (by decide) (Or.inl (by decide))
    have l_2538 := kp_2532 2 _ l2 (by decide) (Or.inl (by decide))
    have l_2539 := kp_2532 3 _ l3 (by decide) (Or.inr (q_is_cat f3 (Or.inr rfl)))
    refine go_goto (o := (-2577)) (t := 23) (by decide +kernel) (by decide +kernel) ?_
    exact hc m (Ext.rf _) h R l_2536 f0 l_2537 f1 l_2538 f2 l_2539 f3 l_2531 f_2535
  · have h := it_f hp_2527 h
    refine go_iconst (n := 0) (z := 0) (by decide +kernel) (by decide) fun v_2540 f_2541 => ?_
    cases h
    exact go_iret (by decide +kernel) rfl (Or.inr ⟨rfl, by decide⟩) f_2541 (hQ (Ext.rf _) _ _ R (q_out_v (by decide) f_2541))
noncomputable def fj_L_law_1616 (xs : List Int32) (c : Int → MM → Option (Int × MM)) (y4 y5 s0 s1 : Int) (m : MM) : Option (Int × MM) := bd (fm_X12_fail s1 s0 m) fun x_2472 m_2473 =>
bp (fm_X12_thrown m_2473) fun x_2493 =>
if x_2493 = y5 then
if y5 = 0 then
lx (m_2473 162 0) fun x_2520 =>
if x_2472 = 0 then
fj_L_law_1650 xs c y4 0 x_2520 m_2473
else
fj_L_law_1650 xs c y4 1 x_2520 m_2473
else
lx (w32 (y4 + 7)) fun x_2508 =>
c x_2508 m_2473
else
some (0, m_2473)
set_option maxHeartbeats 4000000 in
theorem oj_L_law_1616 {xs : List Int32} {d : Nat} {S : QS} {L : QL} {Q : QO → QS → Prop} {m : MM} {y4 y5 s0 s1 : Int} {v0 : Value} {v1 : Value} {v2 : Value} {v3 : Value} {v4 : Value} {v5 : Value} {w0 : Value} {w1 : Value} {w2 : Value}  {rz : Int} {rm : MM} {c : Int → MM → Option (Int × MM)} 
  (hd : 174 ≤ d) (R : Rp S m) (l0 : q_lo L 0 = some v0) (f0 : q_is 7 v0 0) (l1 : q_lo L 1 = some v1) (f1 : q_is 2 v1 4) (l2 : q_lo L 2 = some v2) (f2 : q_is 2 v2 68) (l3 : q_lo L 3 = some v3) (f3 : q_is 2 v3 162) (l4 : q_lo L 4 = some v4) (f4 : q_is 0 v4 y4) (l5 : q_lo L 5 = some v5) (f5 : q_is 0 v5 y5) (fs0 : q_is 0 w0 s0) (fs1 : q_is 0 w1 s1) (fs2 : q_is 2 w2 68)
  (hc : ∀ mq : MM, Ext m mq → ∀ {z4 : Int} {Sq : QS} {Lq : QL} {u0 : Value} {u1 : Value} {u2 : Value} {u3 : Value} {u4 : Value}, c z4 mq = some (rz, rm) → Rp Sq mq → q_lo Lq 0 = some u0 → q_is 7 u0 0 → q_lo Lq 1 = some u1 → q_is 2 u1 4 → q_lo Lq 2 = some u2 → q_is 2 u2 68 → q_lo Lq 3 = some u3 → q_is 2 u3 162 → q_lo Lq 4 = some u4 → q_is 0 u4 z4 → Go xs d qM_L_law 23 Lq [] Sq Q)
  (hQ : Ext m rm → ∀ o S1, Rp S1 rm → q_out 0 o rz → Q o S1)
  (h : fj_L_law_1616 xs c y4 y5 s0 s1 m = some (rz, rm)) : Go xs d qM_L_law 1616 L [w0, w1, w2] S Q := by
  unfold fj_L_law_1616 at h
  obtain ⟨x_2472, m_2473, hc_2471, h⟩ := bd_s h
  refine go_callV (x := 214) (mi := 288) (n := 2) (ci := 13) (as := [w1, w0]) (rest := []) (by decide +kernel) (by decide +kernel) rfl rfl (q_sum8 _ (Nat.le_of_ble_eq_true rfl)) R fs2 (fx_k (c := 13) R (by decide +kernel)) (om_X12_fail (Nat.le_trans (by decide) hd) R fs2 fs1 fs0 hc_2471) (fun _ S_2476 q_2479 => ?_) (fun _ _ qq => kr_x qq)
  refine kr_z (by decide) q_2479 fun v_2474 f_2475 R_2477 E_2478 => ?_
  have E_2482 := E_2478
  refine go_istore (n := 6) (by decide +kernel) (by decide +kernel) f_2475 fun L_2483 l_2484 kp_2485 => ?_
  have l_2486 := kp_2485 0 _ l0 (by decide) (Or.inl (by decide))
  have l_2487 := kp_2485 1 _ l1 (by decide) (Or.inl (by decide))
  have l_2488 := kp_2485 2 _ l2 (by decide) (Or.inl (by decide))
  have l_2489 := kp_2485 3 _ l3 (by decide) (Or.inl (by decide))
  have l_2490 := kp_2485 4 _ l4 (by decide) (Or.inl (by decide))
  have l_2491 := kp_2485 5 _ l5 (by decide) (Or.inr (q_is_cat f5 (Or.inl rfl)))
  refine go_aload_n (n := 2) (by decide +kernel) l_2488 f2 ?_
  obtain ⟨x_2493, hc_2492, h⟩ := bp_s h
  refine go_callV (x := 143) (mi := 185) (n := 0) (ci := 13) (as := []) (rest := []) (by decide +kernel) (by decide +kernel) rfl rfl (q_sum8 _ (Nat.le_of_ble_eq_true rfl)) R_2477 f2 (fx_k (c := 13) R_2477 (by decide +kernel)) (om_X12_thrown (Nat.le_trans (by decide) hd) R_2477 f2 hc_2492) (fun _ S_2497 q_2500 => ?_) (fun _ _ qq => kr_x qq)
  refine kr_z (by decide) q_2500 fun v_2495 f_2496 R_2498 E_2499 => ?_
  refine go_iload (n := 5) (by decide +kernel) l_2491 f5 ?_
  refine go_icmp (c := .eq) (o := 5) (t := 1632) (P := x_2493 = y5) (by decide +kernel) (by decide +kernel) f_2496 f5 (Iff.rfl) (fun hp_2501 => ?_) (fun hp_2501 => ?_)
  · have h := it_t hp_2501 h
    refine go_iload (n := 5) (by decide +kernel) l_2491 f5 ?_
    refine go_if (c := .ne) (o := 22) (t := 1656) (P := ¬ (y5 = 0)) (by decide +kernel) (by decide +kernel) f5 (Iff.rfl) (fun hp_2502 => ?_) (fun hp_2502 => ?_)
    · have h := it_f hp_2502 h
      refine go_goto (o := 941) (t := 2597) (by decide +kernel) (by decide +kernel) ?_
      refine go_iinc (n := 4) (c := 7) (c' := 7) (by decide +kernel) (by decide +kernel) l_2490 f4 (by decide) fun L_2503 v_2504 f_2505 l_2506 kp_2507 => ?_
      obtain ⟨x_2508, e_2509, h⟩ := lx_s h
      have f_2510 := q_is_eq f_2505 e_2509
      have l_2511 := kp_2507 0 _ l_2486 (by decide) (Or.inl (by decide))
      have l_2512 := kp_2507 1 _ l_2487 (by decide) (Or.inl (by decide))
      have l_2513 := kp_2507 2 _ l_2488 (by decide) (Or.inl (by decide))
      have l_2514 := kp_2507 3 _ l_2489 (by decide) (Or.inr (q_is_cat f3 (Or.inr rfl)))
      refine go_goto (o := (-2577)) (t := 23) (by decide +kernel) (by decide +kernel) ?_
      exact hc m_2473 E_2482 h R_2498 l_2511 f0 l_2512 f1 l_2513 f2 l_2514 f3 l_2506 f_2510
    · have h := it_n hp_2502 h
      refine go_aload_n (n := 3) (by decide +kernel) l_2489 f3 ?_
      refine go_iconst (n := 0) (z := 0) (by decide +kernel) (by decide) fun v_2515 f_2516 => ?_
      obtain ⟨x_2520, e_2521, h⟩ := lx_s h
      refine go_lald (kd := 101) (by decide +kernel) rfl R_2498 f3 f_2516 (fx_k (c := 101) R_2498 (by decide +kernel)) (fx_x (a := 162) (ln := 1) R_2498 (by decide +kernel) (by decide)) fun v_2517 f_2518 => ?_
      have f_2519 := q_is_eq f_2518 e_2521
      refine go_iload (n := 6) (by decide +kernel) l_2484 f_2475 ?_
      refine go_if (c := .eq) (o := 7) (t := 1649) (P := x_2472 = 0) (by decide +kernel) (by decide +kernel) f_2475 (Iff.rfl) (fun hp_2522 => ?_) (fun hp_2522 => ?_)
      · have h := it_t hp_2522 h
        refine go_lconst (n := 0) (z := 0) (by decide +kernel) (by decide) fun v_2523 f_2524 => ?_
        exact oj_L_law_1650 hd R_2498 l_2486 f0 l_2487 f1 l_2488 f2 l_2489 f3 l_2490 f4 f_2524 f_2519 (fun mq b => hc mq (Ext.tr E_2482 b)) (fun b => hQ (Ext.tr E_2482 b)) h
      · have h := it_f hp_2522 h
        refine go_lconst (n := 1) (z := 1) (by decide +kernel) (by decide) fun v_2542 f_2543 => ?_
        refine go_goto (o := 4) (t := 1650) (by decide +kernel) (by decide +kernel) ?_
        exact oj_L_law_1650 hd R_2498 l_2486 f0 l_2487 f1 l_2488 f2 l_2489 f3 l_2490 f4 f_2543 f_2519 (fun mq b => hc mq (Ext.tr E_2482 b)) (fun b => hQ (Ext.tr E_2482 b)) h
  · have h := it_f hp_2501 h
    refine go_iconst (n := 0) (z := 0) (by decide +kernel) (by decide) fun v_2544 f_2545 => ?_
    cases h
    exact go_iret (by decide +kernel) rfl (Or.inr ⟨rfl, by decide⟩) f_2545 (hQ E_2482 _ _ R_2498 (q_out_v (by decide) f_2545))
noncomputable def fj_L_law_1589 (xs : List Int32) (c : Int → MM → Option (Int × MM)) (y4 s0 s1 : Int) (m : MM) : Option (Int × MM) := bd (fm_L_fail s1 s0 m) fun x_2435 m_2436 =>
gd (0 ≤ w32 (y4 + 1) ∧ w32 (y4 + 1) < (xs.length : Int)) <| gd (0 ≤ w32 (y4 + 2) ∧ w32 (y4 + 2) < (xs.length : Int)) <| if scr xs (w32 (y4 + 2)) = 0 then
fj_L_law_1616 xs c y4 x_2435 0 (scr xs (w32 (y4 + 1))) m_2436
else
fj_L_law_1616 xs c y4 x_2435 1 (scr xs (w32 (y4 + 1))) m_2436
set_option maxHeartbeats 4000000 in
theorem oj_L_law_1589 {xs : List Int32} {d : Nat} {S : QS} {L : QL} {Q : QO → QS → Prop} {m : MM} {y4 s0 s1 : Int} {v0 : Value} {v1 : Value} {v2 : Value} {v3 : Value} {v4 : Value} {w0 : Value} {w1 : Value} {w2 : Value}  {rz : Int} {rm : MM} {c : Int → MM → Option (Int × MM)} 
  (hd : 174 ≤ d) (R : Rp S m) (l0 : q_lo L 0 = some v0) (f0 : q_is 7 v0 0) (l1 : q_lo L 1 = some v1) (f1 : q_is 2 v1 4) (l2 : q_lo L 2 = some v2) (f2 : q_is 2 v2 68) (l3 : q_lo L 3 = some v3) (f3 : q_is 2 v3 162) (l4 : q_lo L 4 = some v4) (f4 : q_is 0 v4 y4) (fs0 : q_is 0 w0 s0) (fs1 : q_is 0 w1 s1) (fs2 : q_is 2 w2 4)
  (hc : ∀ mq : MM, Ext m mq → ∀ {z4 : Int} {Sq : QS} {Lq : QL} {u0 : Value} {u1 : Value} {u2 : Value} {u3 : Value} {u4 : Value}, c z4 mq = some (rz, rm) → Rp Sq mq → q_lo Lq 0 = some u0 → q_is 7 u0 0 → q_lo Lq 1 = some u1 → q_is 2 u1 4 → q_lo Lq 2 = some u2 → q_is 2 u2 68 → q_lo Lq 3 = some u3 → q_is 2 u3 162 → q_lo Lq 4 = some u4 → q_is 0 u4 z4 → Go xs d qM_L_law 23 Lq [] Sq Q)
  (hQ : Ext m rm → ∀ o S1, Rp S1 rm → q_out 0 o rz → Q o S1)
  (h : fj_L_law_1589 xs c y4 s0 s1 m = some (rz, rm)) : Go xs d qM_L_law 1589 L [w0, w1, w2] S Q := by
  unfold fj_L_law_1589 at h
  refine go_aload_n (n := 3) (by decide +kernel) l3 f3 ?_
  obtain ⟨x_2435, m_2436, hc_2434, h⟩ := bd_s h
  refine go_callS (x := 211) (mi := 360) (n := 4) (b := 0) (as := [w2, w1, w0, v3]) (rest := []) (by decide +kernel) (by decide +kernel) rfl rfl (q_sum8 _ (Nat.le_of_ble_eq_true rfl)) (om_L_fail (Nat.le_trans (by decide) hd) R fs2 fs1 fs0 f3 hc_2434) (fun _ S_2439 q_2442 => ?_) (fun _ _ qq => kr_x qq)
  refine kr_z (by decide) q_2442 fun v_2437 f_2438 R_2440 E_2441 => ?_
  have E_2445 := E_2441
  refine go_istore (n := 5) (by decide +kernel) (by decide +kernel) f_2438 fun L_2446 l_2447 kp_2448 => ?_
  have l_2449 := kp_2448 0 _ l0 (by decide) (Or.inl (by decide))
  have l_2450 := kp_2448 1 _ l1 (by decide) (Or.inl (by decide))
  have l_2451 := kp_2448 2 _ l2 (by decide) (Or.inl (by decide))
  have l_2452 := kp_2448 3 _ l3 (by decide) (Or.inl (by decide))
  have l_2453 := kp_2448 4 _ l4 (by decide) (Or.inr (q_is_cat f4 (Or.inl rfl)))
  refine go_aload_n (n := 2) (by decide +kernel) l_2451 f2 ?_
  refine go_aloadS (n := 0) (by decide +kernel) l_2449 f0 ?_
  refine go_iload (n := 4) (by decide +kernel) l_2453 f4 ?_
  refine go_iconst (n := 1) (z := 1) (by decide +kernel) (by decide) fun v_2454 f_2455 => ?_
  refine go_iadd (by decide +kernel) f4 f_2455 fun v_2456 f_2457 => ?_
  obtain ⟨g_2460, h⟩ := gd_s h
  refine go_sld (by decide +kernel) f0 f_2457 g_2460 fun v_2458 f_2459 => ?_
  refine go_aloadS (n := 0) (by decide +kernel) l_2449 f0 ?_
  refine go_iload (n := 4) (by decide +kernel) l_2453 f4 ?_
  refine go_iconst (n := 2) (z := 2) (by decide +kernel) (by decide) fun v_2461 f_2462 => ?_
  refine go_iadd (by decide +kernel) f4 f_2462 fun v_2463 f_2464 => ?_
  obtain ⟨g_2467, h⟩ := gd_s h
  refine go_sld (by decide +kernel) f0 f_2464 g_2467 fun v_2465 f_2466 => ?_
  refine go_if (c := .eq) (o := 7) (t := 1615) (P := scr xs (w32 (y4 + 2)) = 0) (by decide +kernel) (by decide +kernel) f_2466 (Iff.rfl) (fun hp_2468 => ?_) (fun hp_2468 => ?_)
  · have h := it_t hp_2468 h
    refine go_iconst (n := 0) (z := 0) (by decide +kernel) (by decide) fun v_2469 f_2470 => ?_
    exact oj_L_law_1616 hd R_2440 l_2449 f0 l_2450 f1 l_2451 f2 l_2452 f3 l_2453 f4 l_2447 f_2438 f_2470 f_2459 f2 (fun mq b => hc mq (Ext.tr E_2445 b)) (fun b => hQ (Ext.tr E_2445 b)) h
  · have h := it_f hp_2468 h
    refine go_iconst (n := 1) (z := 1) (by decide +kernel) (by decide) fun v_2546 f_2547 => ?_
    refine go_goto (o := 4) (t := 1616) (by decide +kernel) (by decide +kernel) ?_
    exact oj_L_law_1616 hd R_2440 l_2449 f0 l_2450 f1 l_2451 f2 l_2452 f3 l_2453 f4 l_2447 f_2438 f_2547 f_2459 f2 (fun mq b => hc mq (Ext.tr E_2445 b)) (fun b => hQ (Ext.tr E_2445 b)) h
noncomputable def fj_L_law_1568 (xs : List Int32) (c : Int → MM → Option (Int × MM)) (y4 : Int) (m : MM) : Option (Int × MM) := gd (0 ≤ w32 (y4 + 1) ∧ w32 (y4 + 1) < (xs.length : Int)) <| gd (0 ≤ w32 (y4 + 2) ∧ w32 (y4 + 2) < (xs.length : Int)) <| if scr xs (w32 (y4 + 2)) = 0 then
fj_L_law_1589 xs c y4 0 (scr xs (w32 (y4 + 1))) m
else
fj_L_law_1589 xs c y4 1 (scr xs (w32 (y4 + 1))) m
set_option maxHeartbeats 4000000 in
theorem oj_L_law_1568 {xs : List Int32} {d : Nat} {S : QS} {L : QL} {Q : QO → QS → Prop} {m : MM} {y4 : Int} {v0 : Value} {v1 : Value} {v2 : Value} {v3 : Value} {v4 : Value}  {rz : Int} {rm : MM} {c : Int → MM → Option (Int × MM)} 
  (hd : 174 ≤ d) (R : Rp S m) (l0 : q_lo L 0 = some v0) (f0 : q_is 7 v0 0) (l1 : q_lo L 1 = some v1) (f1 : q_is 2 v1 4) (l2 : q_lo L 2 = some v2) (f2 : q_is 2 v2 68) (l3 : q_lo L 3 = some v3) (f3 : q_is 2 v3 162) (l4 : q_lo L 4 = some v4) (f4 : q_is 0 v4 y4)
  (hc : ∀ mq : MM, Ext m mq → ∀ {z4 : Int} {Sq : QS} {Lq : QL} {u0 : Value} {u1 : Value} {u2 : Value} {u3 : Value} {u4 : Value}, c z4 mq = some (rz, rm) → Rp Sq mq → q_lo Lq 0 = some u0 → q_is 7 u0 0 → q_lo Lq 1 = some u1 → q_is 2 u1 4 → q_lo Lq 2 = some u2 → q_is 2 u2 68 → q_lo Lq 3 = some u3 → q_is 2 u3 162 → q_lo Lq 4 = some u4 → q_is 0 u4 z4 → Go xs d qM_L_law 23 Lq [] Sq Q)
  (hQ : Ext m rm → ∀ o S1, Rp S1 rm → q_out 0 o rz → Q o S1)
  (h : fj_L_law_1568 xs c y4 m = some (rz, rm)) : Go xs d qM_L_law 1568 L [] S Q := by
  unfold fj_L_law_1568 at h
  refine go_aload_n (n := 1) (by decide +kernel) l1 f1 ?_
  refine go_aloadS (n := 0) (by decide +kernel) l0 f0 ?_
  refine go_iload (n := 4) (by decide +kernel) l4 f4 ?_
  refine go_iconst (n := 1) (z := 1) (by decide +kernel) (by decide) fun v_2417 f_2418 => ?_
  refine go_iadd (by decide +kernel) f4 f_2418 fun v_2419 f_2420 => ?_
  obtain ⟨g_2423, h⟩ := gd_s h
  refine go_sld (by decide +kernel) f0 f_2420 g_2423 fun v_2421 f_2422 => ?_
  refine go_aloadS (n := 0) (by decide +kernel) l0 f0 ?_
  refine go_iload (n := 4) (by decide +kernel) l4 f4 ?_
  refine go_iconst (n := 2) (z := 2) (by decide +kernel) (by decide) fun v_2424 f_2425 => ?_
  refine go_iadd (by decide +kernel) f4 f_2425 fun v_2426 f_2427 => ?_
  obtain ⟨g_2430, h⟩ := gd_s h
  refine go_sld (by decide +kernel) f0 f_2427 g_2430 fun v_2428 f_2429 => ?_
  refine go_if (c := .eq) (o := 7) (t := 1588) (P := scr xs (w32 (y4 + 2)) = 0) (by decide +kernel) (by decide +kernel) f_2429 (Iff.rfl) (fun hp_2431 => ?_) (fun hp_2431 => ?_)
  · have h := it_t hp_2431 h
    refine go_iconst (n := 0) (z := 0) (by decide +kernel) (by decide) fun v_2432 f_2433 => ?_
    exact oj_L_law_1589 hd R l0 f0 l1 f1 l2 f2 l3 f3 l4 f4 f_2433 f_2422 f1 hc hQ h
  · have h := it_f hp_2431 h
    refine go_iconst (n := 1) (z := 1) (by decide +kernel) (by decide) fun v_2548 f_2549 => ?_
    refine go_goto (o := 4) (t := 1589) (by decide +kernel) (by decide +kernel) ?_
    exact oj_L_law_1589 hd R l0 f0 l1 f1 l2 f2 l3 f3 l4 f4 f_2549 f_2422 f1 hc hQ h
noncomputable def fj_L_law_1659 (xs : List Int32) (c : Int → MM → Option (Int × MM)) (y4 : Int) (m : MM) : Option (Int × MM) := gd (0 ≤ w32 (y4 + 1) ∧ w32 (y4 + 1) < (xs.length : Int)) <| gd (0 ≤ w32 (y4 + 2) ∧ w32 (y4 + 2) < (xs.length : Int)) <| bd (fm_L_beat (scr xs (w32 (y4 + 1))) (scr xs (w32 (y4 + 2))) m) fun x_2567 m_2568 =>
bd (fm_X12_beat (scr xs (w32 (y4 + 1))) (scr xs (w32 (y4 + 2))) m_2568) fun x_2599 m_2600 =>
bp (fm_X12_thrown m_2600) fun x_2620 =>
if x_2620 = x_2567 then
if x_2567 = 0 then
lx (m_2600 162 0) fun x_2647 =>
if x_2647 = x_2599 then
lx (w32 (y4 + 7)) fun x_2659 =>
c x_2659 m_2600
else
some (0, m_2600)
else
lx (w32 (y4 + 7)) fun x_2635 =>
c x_2635 m_2600
else
some (0, m_2600)
set_option maxHeartbeats 4000000 in
theorem oj_L_law_1659 {xs : List Int32} {d : Nat} {S : QS} {L : QL} {Q : QO → QS → Prop} {m : MM} {y4 : Int} {v0 : Value} {v1 : Value} {v2 : Value} {v3 : Value} {v4 : Value}  {rz : Int} {rm : MM} {c : Int → MM → Option (Int × MM)} 
  (hd : 174 ≤ d) (R : Rp S m) (l0 : q_lo L 0 = some v0) (f0 : q_is 7 v0 0) (l1 : q_lo L 1 = some v1) (f1 : q_is 2 v1 4) (l2 : q_lo L 2 = some v2) (f2 : q_is 2 v2 68) (l3 : q_lo L 3 = some v3) (f3 : q_is 2 v3 162) (l4 : q_lo L 4 = some v4) (f4 : q_is 0 v4 y4)
  (hc : ∀ mq : MM, Ext m mq → ∀ {z4 : Int} {Sq : QS} {Lq : QL} {u0 : Value} {u1 : Value} {u2 : Value} {u3 : Value} {u4 : Value}, c z4 mq = some (rz, rm) → Rp Sq mq → q_lo Lq 0 = some u0 → q_is 7 u0 0 → q_lo Lq 1 = some u1 → q_is 2 u1 4 → q_lo Lq 2 = some u2 → q_is 2 u2 68 → q_lo Lq 3 = some u3 → q_is 2 u3 162 → q_lo Lq 4 = some u4 → q_is 0 u4 z4 → Go xs d qM_L_law 23 Lq [] Sq Q)
  (hQ : Ext m rm → ∀ o S1, Rp S1 rm → q_out 0 o rz → Q o S1)
  (h : fj_L_law_1659 xs c y4 m = some (rz, rm)) : Go xs d qM_L_law 1659 L [] S Q := by
  unfold fj_L_law_1659 at h
  refine go_aload_n (n := 1) (by decide +kernel) l1 f1 ?_
  refine go_aloadS (n := 0) (by decide +kernel) l0 f0 ?_
  refine go_iload (n := 4) (by decide +kernel) l4 f4 ?_
  refine go_iconst (n := 1) (z := 1) (by decide +kernel) (by decide) fun v_2552 f_2553 => ?_
  refine go_iadd (by decide +kernel) f4 f_2553 fun v_2554 f_2555 => ?_
  obtain ⟨g_2558, h⟩ := gd_s h
  refine go_sld (by decide +kernel) f0 f_2555 g_2558 fun v_2556 f_2557 => ?_
  refine go_aloadS (n := 0) (by decide +kernel) l0 f0 ?_
  refine go_iload (n := 4) (by decide +kernel) l4 f4 ?_
  refine go_iconst (n := 2) (z := 2) (by decide +kernel) (by decide) fun v_2559 f_2560 => ?_
  refine go_iadd (by decide +kernel) f4 f_2560 fun v_2561 f_2562 => ?_
  obtain ⟨g_2565, h⟩ := gd_s h
  refine go_sld (by decide +kernel) f0 f_2562 g_2565 fun v_2563 f_2564 => ?_
  refine go_aload_n (n := 3) (by decide +kernel) l3 f3 ?_
  obtain ⟨x_2567, m_2568, hc_2566, h⟩ := bd_s h
  refine go_callS (x := 215) (mi := 361) (n := 4) (b := 0) (as := [v1, v_2556, v_2563, v3]) (rest := []) (by decide +kernel) (by decide +kernel) rfl rfl (q_sum8 _ (Nat.le_of_ble_eq_true rfl)) (om_L_beat (Nat.le_trans (by decide) hd) R f1 f_2557 f_2564 f3 hc_2566) (fun _ S_2571 q_2574 => ?_) (fun _ _ qq => kr_x qq)
  refine kr_z (by decide) q_2574 fun v_2569 f_2570 R_2572 E_2573 => ?_
  have E_2577 := E_2573
  refine go_istore (n := 5) (by decide +kernel) (by decide +kernel) f_2570 fun L_2578 l_2579 kp_2580 => ?_
  have l_2581 := kp_2580 0 _ l0 (by decide) (Or.inl (by decide))
  have l_2582 := kp_2580 1 _ l1 (by decide) (Or.inl (by decide))
  have l_2583 := kp_2580 2 _ l2 (by decide) (Or.inl (by decide))
  have l_2584 := kp_2580 3 _ l3 (by decide) (Or.inl (by decide))
  have l_2585 := kp_2580 4 _ l4 (by decide) (Or.inr (q_is_cat f4 (Or.inl rfl)))
  refine go_aload_n (n := 2) (by decide +kernel) l_2583 f2 ?_
  refine go_aloadS (n := 0) (by decide +kernel) l_2581 f0 ?_
  refine go_iload (n := 4) (by decide +kernel) l_2585 f4 ?_
  refine go_iconst (n := 1) (z := 1) (by decide +kernel) (by decide) fun v_2586 f_2587 => ?_
  refine go_iadd (by decide +kernel) f4 f_2587 fun v_2588 f_2589 => ?_
  refine go_sld (by decide +kernel) f0 f_2589 g_2558 fun v_2590 f_2591 => ?_
  refine go_aloadS (n := 0) (by decide +kernel) l_2581 f0 ?_
  refine go_iload (n := 4) (by decide +kernel) l_2585 f4 ?_
  refine go_iconst (n := 2) (z := 2) (by decide +kernel) (by decide) fun v_2592 f_2593 => ?_
  refine go_iadd (by decide +kernel) f4 f_2593 fun v_2594 f_2595 => ?_
  refine go_sld (by decide +kernel) f0 f_2595 g_2565 fun v_2596 f_2597 => ?_
  obtain ⟨x_2599, m_2600, hc_2598, h⟩ := bd_s h
  refine go_callV (x := 217) (mi := 289) (n := 2) (ci := 13) (as := [v_2590, v_2596]) (rest := []) (by decide +kernel) (by decide +kernel) rfl rfl (q_sum8 _ (Nat.le_of_ble_eq_true rfl)) R_2572 f2 (fx_k (c := 13) R_2572 (by decide +kernel)) (om_X12_beat (Nat.le_trans (by decide) hd) R_2572 f2 f_2591 f_2597 hc_2598) (fun _ S_2603 q_2606 => ?_) (fun _ _ qq => kr_x qq)
  refine kr_z (by decide) q_2606 fun v_2601 f_2602 R_2604 E_2605 => ?_
  have E_2609 := Ext.tr E_2577 E_2605
  refine go_istore (n := 6) (by decide +kernel) (by decide +kernel) f_2602 fun L_2610 l_2611 kp_2612 => ?_
  have l_2613 := kp_2612 0 _ l_2581 (by decide) (Or.inl (by decide))
  have l_2614 := kp_2612 1 _ l_2582 (by decide) (Or.inl (by decide))
  have l_2615 := kp_2612 2 _ l_2583 (by decide) (Or.inl (by decide))
  have l_2616 := kp_2612 3 _ l_2584 (by decide) (Or.inl (by decide))
  have l_2617 := kp_2612 4 _ l_2585 (by decide) (Or.inl (by decide))
  have l_2618 := kp_2612 5 _ l_2579 (by decide) (Or.inr (q_is_cat f_2570 (Or.inl rfl)))
  refine go_aload_n (n := 2) (by decide +kernel) l_2615 f2 ?_
  obtain ⟨x_2620, hc_2619, h⟩ := bp_s h
  refine go_callV (x := 143) (mi := 185) (n := 0) (ci := 13) (as := []) (rest := []) (by decide +kernel) (by decide +kernel) rfl rfl (q_sum8 _ (Nat.le_of_ble_eq_true rfl)) R_2604 f2 (fx_k (c := 13) R_2604 (by decide +kernel)) (om_X12_thrown (Nat.le_trans (by decide) hd) R_2604 f2 hc_2619) (fun _ S_2624 q_2627 => ?_) (fun _ _ qq => kr_x qq)
  refine kr_z (by decide) q_2627 fun v_2622 f_2623 R_2625 E_2626 => ?_
  refine go_iload (n := 5) (by decide +kernel) l_2618 f_2570 ?_
  refine go_icmp (c := .eq) (o := 5) (t := 1707) (P := x_2620 = x_2567) (by decide +kernel) (by decide +kernel) f_2623 f_2570 (Iff.rfl) (fun hp_2628 => ?_) (fun hp_2628 => ?_)
  · have h := it_t hp_2628 h
    refine go_iload (n := 5) (by decide +kernel) l_2618 f_2570 ?_
    refine go_if (c := .ne) (o := 15) (t := 1724) (P := ¬ (x_2567 = 0)) (by decide +kernel) (by decide +kernel) f_2570 (Iff.rfl) (fun hp_2629 => ?_) (fun hp_2629 => ?_)
    · have h := it_f hp_2629 h
      refine go_goto (o := 873) (t := 2597) (by decide +kernel) (by decide +kernel) ?_
      refine go_iinc (n := 4) (c := 7) (c' := 7) (by decide +kernel) (by decide +kernel) l_2617 f4 (by decide) fun L_2630 v_2631 f_2632 l_2633 kp_2634 => ?_
      obtain ⟨x_2635, e_2636, h⟩ := lx_s h
      have f_2637 := q_is_eq f_2632 e_2636
      have l_2638 := kp_2634 0 _ l_2613 (by decide) (Or.inl (by decide))
      have l_2639 := kp_2634 1 _ l_2614 (by decide) (Or.inl (by decide))
      have l_2640 := kp_2634 2 _ l_2615 (by decide) (Or.inl (by decide))
      have l_2641 := kp_2634 3 _ l_2616 (by decide) (Or.inr (q_is_cat f3 (Or.inr rfl)))
      refine go_goto (o := (-2577)) (t := 23) (by decide +kernel) (by decide +kernel) ?_
      exact hc m_2600 E_2609 h R_2625 l_2638 f0 l_2639 f1 l_2640 f2 l_2641 f3 l_2633 f_2637
    · have h := it_n hp_2629 h
      refine go_aload_n (n := 3) (by decide +kernel) l_2616 f3 ?_
      refine go_iconst (n := 0) (z := 0) (by decide +kernel) (by decide) fun v_2642 f_2643 => ?_
      obtain ⟨x_2647, e_2648, h⟩ := lx_s h
      refine go_lald (kd := 101) (by decide +kernel) rfl R_2625 f3 f_2643 (fx_k (c := 101) R_2625 (by decide +kernel)) (fx_x (a := 162) (ln := 1) R_2625 (by decide +kernel) (by decide)) fun v_2644 f_2645 => ?_
      have f_2646 := q_is_eq f_2645 e_2648
      refine go_iload (n := 6) (by decide +kernel) l_2611 f_2602 ?_
      refine go_i2l (by decide +kernel) f_2602 fun v_2649 f_2650 => ?_
      refine go_lcmp (by decide +kernel) f_2646 f_2650 fun v_2651 f_2652 => ?_
      refine go_if (c := .eq) (o := 5) (t := 1724) (P := x_2647 = x_2599) (by decide +kernel) (by decide +kernel) f_2652 (lc_eq) (fun hp_2653 => ?_) (fun hp_2653 => ?_)
      · have h := it_t hp_2653 h
        refine go_goto (o := 873) (t := 2597) (by decide +kernel) (by decide +kernel) ?_
        refine go_iinc (n := 4) (c := 7) (c' := 7) (by decide +kernel) (by decide +kernel) l_2617 f4 (by decide) fun L_2654 v_2655 f_2656 l_2657 kp_2658 => ?_
        obtain ⟨x_2659, e_2660, h⟩ := lx_s h
        have f_2661 := q_is_eq f_2656 e_2660
        have l_2662 := kp_2658 0 _ l_2613 (by decide) (Or.inl (by decide))
        have l_2663 := kp_2658 1 _ l_2614 (by decide) (Or.inl (by decide))
        have l_2664 := kp_2658 2 _ l_2615 (by decide) (Or.inl (by decide))
        have l_2665 := kp_2658 3 _ l_2616 (by decide) (Or.inr (q_is_cat f3 (Or.inr rfl)))
        refine go_goto (o := (-2577)) (t := 23) (by decide +kernel) (by decide +kernel) ?_
        exact hc m_2600 E_2609 h R_2625 l_2662 f0 l_2663 f1 l_2664 f2 l_2665 f3 l_2657 f_2661
      · have h := it_f hp_2653 h
        refine go_iconst (n := 0) (z := 0) (by decide +kernel) (by decide) fun v_2666 f_2667 => ?_
        cases h
        exact go_iret (by decide +kernel) rfl (Or.inr ⟨rfl, by decide⟩) f_2667 (hQ E_2609 _ _ R_2625 (q_out_v (by decide) f_2667))
  · have h := it_f hp_2628 h
    refine go_iconst (n := 0) (z := 0) (by decide +kernel) (by decide) fun v_2668 f_2669 => ?_
    cases h
    exact go_iret (by decide +kernel) rfl (Or.inr ⟨rfl, by decide⟩) f_2669 (hQ E_2609 _ _ R_2625 (q_out_v (by decide) f_2669))
noncomputable def fj_L_law_1727 (xs : List Int32) (c : Int → MM → Option (Int × MM)) (y4 : Int) (m : MM) : Option (Int × MM) := gd (0 ≤ w32 (y4 + 1) ∧ w32 (y4 + 1) < (xs.length : Int)) <| bd (fm_L_activity (scr xs (w32 (y4 + 1))) m) fun x_2680 m_2681 =>
bd (fm_X12_activity (scr xs (w32 (y4 + 1))) m_2681) fun x_2706 m_2707 =>
bp (fm_X12_thrown m_2707) fun x_2727 =>
if x_2727 = x_2680 then
if x_2680 = 0 then
lx (m_2707 162 0) fun x_2754 =>
if x_2754 = x_2706 then
lx (w32 (y4 + 7)) fun x_2766 =>
c x_2766 m_2707
else
some (0, m_2707)
else
lx (w32 (y4 + 7)) fun x_2742 =>
c x_2742 m_2707
else
some (0, m_2707)
set_option maxHeartbeats 4000000 in
theorem oj_L_law_1727 {xs : List Int32} {d : Nat} {S : QS} {L : QL} {Q : QO → QS → Prop} {m : MM} {y4 : Int} {v0 : Value} {v1 : Value} {v2 : Value} {v3 : Value} {v4 : Value}  {rz : Int} {rm : MM} {c : Int → MM → Option (Int × MM)} 
  (hd : 174 ≤ d) (R : Rp S m) (l0 : q_lo L 0 = some v0) (f0 : q_is 7 v0 0) (l1 : q_lo L 1 = some v1) (f1 : q_is 2 v1 4) (l2 : q_lo L 2 = some v2) (f2 : q_is 2 v2 68) (l3 : q_lo L 3 = some v3) (f3 : q_is 2 v3 162) (l4 : q_lo L 4 = some v4) (f4 : q_is 0 v4 y4)
  (hc : ∀ mq : MM, Ext m mq → ∀ {z4 : Int} {Sq : QS} {Lq : QL} {u0 : Value} {u1 : Value} {u2 : Value} {u3 : Value} {u4 : Value}, c z4 mq = some (rz, rm) → Rp Sq mq → q_lo Lq 0 = some u0 → q_is 7 u0 0 → q_lo Lq 1 = some u1 → q_is 2 u1 4 → q_lo Lq 2 = some u2 → q_is 2 u2 68 → q_lo Lq 3 = some u3 → q_is 2 u3 162 → q_lo Lq 4 = some u4 → q_is 0 u4 z4 → Go xs d qM_L_law 23 Lq [] Sq Q)
  (hQ : Ext m rm → ∀ o S1, Rp S1 rm → q_out 0 o rz → Q o S1)
  (h : fj_L_law_1727 xs c y4 m = some (rz, rm)) : Go xs d qM_L_law 1727 L [] S Q := by
  unfold fj_L_law_1727 at h
  refine go_aload_n (n := 1) (by decide +kernel) l1 f1 ?_
  refine go_aloadS (n := 0) (by decide +kernel) l0 f0 ?_
  refine go_iload (n := 4) (by decide +kernel) l4 f4 ?_
  refine go_iconst (n := 1) (z := 1) (by decide +kernel) (by decide) fun v_2672 f_2673 => ?_
  refine go_iadd (by decide +kernel) f4 f_2673 fun v_2674 f_2675 => ?_
  obtain ⟨g_2678, h⟩ := gd_s h
  refine go_sld (by decide +kernel) f0 f_2675 g_2678 fun v_2676 f_2677 => ?_
  refine go_aload_n (n := 3) (by decide +kernel) l3 f3 ?_
  obtain ⟨x_2680, m_2681, hc_2679, h⟩ := bd_s h
  refine go_callS (x := 218) (mi := 362) (n := 3) (b := 0) (as := [v1, v_2676, v3]) (rest := []) (by decide +kernel) (by decide +kernel) rfl rfl (q_sum8 _ (Nat.le_of_ble_eq_true rfl)) (om_L_activity (Nat.le_trans (by decide) hd) R f1 f_2677 f3 hc_2679) (fun _ S_2684 q_2687 => ?_) (fun _ _ qq => kr_x qq)
  refine kr_z (by decide) q_2687 fun v_2682 f_2683 R_2685 E_2686 => ?_
  have E_2690 := E_2686
  refine go_istore (n := 5) (by decide +kernel) (by decide +kernel) f_2683 fun L_2691 l_2692 kp_2693 => ?_
  have l_2694 := kp_2693 0 _ l0 (by decide) (Or.inl (by decide))
  have l_2695 := kp_2693 1 _ l1 (by decide) (Or.inl (by decide))
  have l_2696 := kp_2693 2 _ l2 (by decide) (Or.inl (by decide))
  have l_2697 := kp_2693 3 _ l3 (by decide) (Or.inl (by decide))
  have l_2698 := kp_2693 4 _ l4 (by decide) (Or.inr (q_is_cat f4 (Or.inl rfl)))
  refine go_aload_n (n := 2) (by decide +kernel) l_2696 f2 ?_
  refine go_aloadS (n := 0) (by decide +kernel) l_2694 f0 ?_
  refine go_iload (n := 4) (by decide +kernel) l_2698 f4 ?_
  refine go_iconst (n := 1) (z := 1) (by decide +kernel) (by decide) fun v_2699 f_2700 => ?_
  refine go_iadd (by decide +kernel) f4 f_2700 fun v_2701 f_2702 => ?_
  refine go_sld (by decide +kernel) f0 f_2702 g_2678 fun v_2703 f_2704 => ?_
  obtain ⟨x_2706, m_2707, hc_2705, h⟩ := bd_s h
  refine go_callV (x := 220) (mi := 290) (n := 1) (ci := 13) (as := [v_2703]) (rest := []) (by decide +kernel) (by decide +kernel) rfl rfl (q_sum8 _ (Nat.le_of_ble_eq_true rfl)) R_2685 f2 (fx_k (c := 13) R_2685 (by decide +kernel)) (om_X12_activity (Nat.le_trans (by decide) hd) R_2685 f2 f_2704 hc_2705) (fun _ S_2710 q_2713 => ?_) (fun _ _ qq => kr_x qq)
  refine kr_z (by decide) q_2713 fun v_2708 f_2709 R_2711 E_2712 => ?_
  have E_2716 := Ext.tr E_2690 E_2712
  refine go_istore (n := 6) (by decide +kernel) (by decide +kernel) f_2709 fun L_2717 l_2718 kp_2719 => ?_
  have l_2720 := kp_2719 0 _ l_2694 (by decide) (Or.inl (by decide))
  have l_2721 := kp_2719 1 _ l_2695 (by decide) (Or.inl (by decide))
  have l_2722 := kp_2719 2 _ l_2696 (by decide) (Or.inl (by decide))
  have l_2723 := kp_2719 3 _ l_2697 (by decide) (Or.inl (by decide))
  have l_2724 := kp_2719 4 _ l_2698 (by decide) (Or.inl (by decide))
  have l_2725 := kp_2719 5 _ l_2692 (by decide) (Or.inr (q_is_cat f_2683 (Or.inl rfl)))
  refine go_aload_n (n := 2) (by decide +kernel) l_2722 f2 ?_
  obtain ⟨x_2727, hc_2726, h⟩ := bp_s h
  refine go_callV (x := 143) (mi := 185) (n := 0) (ci := 13) (as := []) (rest := []) (by decide +kernel) (by decide +kernel) rfl rfl (q_sum8 _ (Nat.le_of_ble_eq_true rfl)) R_2711 f2 (fx_k (c := 13) R_2711 (by decide +kernel)) (om_X12_thrown (Nat.le_trans (by decide) hd) R_2711 f2 hc_2726) (fun _ S_2731 q_2734 => ?_) (fun _ _ qq => kr_x qq)
  refine kr_z (by decide) q_2734 fun v_2729 f_2730 R_2732 E_2733 => ?_
  refine go_iload (n := 5) (by decide +kernel) l_2725 f_2683 ?_
  refine go_icmp (c := .eq) (o := 5) (t := 1763) (P := x_2727 = x_2680) (by decide +kernel) (by decide +kernel) f_2730 f_2683 (Iff.rfl) (fun hp_2735 => ?_) (fun hp_2735 => ?_)
  · have h := it_t hp_2735 h
    refine go_iload (n := 5) (by decide +kernel) l_2725 f_2683 ?_
    refine go_if (c := .ne) (o := 15) (t := 1780) (P := ¬ (x_2680 = 0)) (by decide +kernel) (by decide +kernel) f_2683 (Iff.rfl) (fun hp_2736 => ?_) (fun hp_2736 => ?_)
    · have h := it_f hp_2736 h
      refine go_goto (o := 817) (t := 2597) (by decide +kernel) (by decide +kernel) ?_
      refine go_iinc (n := 4) (c := 7) (c' := 7) (by decide +kernel) (by decide +kernel) l_2724 f4 (by decide) fun L_2737 v_2738 f_2739 l_2740 kp_2741 => ?_
      obtain ⟨x_2742, e_2743, h⟩ := lx_s h
      have f_2744 := q_is_eq f_2739 e_2743
      have l_2745 := kp_2741 0 _ l_2720 (by decide) (Or.inl (by decide))
      have l_2746 := kp_2741 1 _ l_2721 (by decide) (Or.inl (by decide))
      have l_2747 := kp_2741 2 _ l_2722 (by decide) (Or.inl (by decide))
      have l_2748 := kp_2741 3 _ l_2723 (by decide) (Or.inr (q_is_cat f3 (Or.inr rfl)))
      refine go_goto (o := (-2577)) (t := 23) (by decide +kernel) (by decide +kernel) ?_
      exact hc m_2707 E_2716 h R_2732 l_2745 f0 l_2746 f1 l_2747 f2 l_2748 f3 l_2740 f_2744
    · have h := it_n hp_2736 h
      refine go_aload_n (n := 3) (by decide +kernel) l_2723 f3 ?_
      refine go_iconst (n := 0) (z := 0) (by decide +kernel) (by decide) fun v_2749 f_2750 => ?_
      obtain ⟨x_2754, e_2755, h⟩ := lx_s h
      refine go_lald (kd := 101) (by decide +kernel) rfl R_2732 f3 f_2750 (fx_k (c := 101) R_2732 (by decide +kernel)) (fx_x (a := 162) (ln := 1) R_2732 (by decide +kernel) (by decide)) fun v_2751 f_2752 => ?_
      have f_2753 := q_is_eq f_2752 e_2755
      refine go_iload (n := 6) (by decide +kernel) l_2718 f_2709 ?_
      refine go_i2l (by decide +kernel) f_2709 fun v_2756 f_2757 => ?_
      refine go_lcmp (by decide +kernel) f_2753 f_2757 fun v_2758 f_2759 => ?_
      refine go_if (c := .eq) (o := 5) (t := 1780) (P := x_2754 = x_2706) (by decide +kernel) (by decide +kernel) f_2759 (lc_eq) (fun hp_2760 => ?_) (fun hp_2760 => ?_)
      · have h := it_t hp_2760 h
        refine go_goto (o := 817) (t := 2597) (by decide +kernel) (by decide +kernel) ?_
        refine go_iinc (n := 4) (c := 7) (c' := 7) (by decide +kernel) (by decide +kernel) l_2724 f4 (by decide) fun L_2761 v_2762 f_2763 l_2764 kp_2765 => ?_
        obtain ⟨x_2766, e_2767, h⟩ := lx_s h
        have f_2768 := q_is_eq f_2763 e_2767
        have l_2769 := kp_2765 0 _ l_2720 (by decide) (Or.inl (by decide))
        have l_2770 := kp_2765 1 _ l_2721 (by decide) (Or.inl (by decide))
        have l_2771 := kp_2765 2 _ l_2722 (by decide) (Or.inl (by decide))
        have l_2772 := kp_2765 3 _ l_2723 (by decide) (Or.inr (q_is_cat f3 (Or.inr rfl)))
        refine go_goto (o := (-2577)) (t := 23) (by decide +kernel) (by decide +kernel) ?_
        exact hc m_2707 E_2716 h R_2732 l_2769 f0 l_2770 f1 l_2771 f2 l_2772 f3 l_2764 f_2768
      · have h := it_f hp_2760 h
        refine go_iconst (n := 0) (z := 0) (by decide +kernel) (by decide) fun v_2773 f_2774 => ?_
        cases h
        exact go_iret (by decide +kernel) rfl (Or.inr ⟨rfl, by decide⟩) f_2774 (hQ E_2716 _ _ R_2732 (q_out_v (by decide) f_2774))
  · have h := it_f hp_2735 h
    refine go_iconst (n := 0) (z := 0) (by decide +kernel) (by decide) fun v_2775 f_2776 => ?_
    cases h
    exact go_iret (by decide +kernel) rfl (Or.inr ⟨rfl, by decide⟩) f_2776 (hQ E_2716 _ _ R_2732 (q_out_v (by decide) f_2776))
noncomputable def fj_L_law_1783 (xs : List Int32) (c : Int → MM → Option (Int × MM)) (y4 : Int) (m : MM) : Option (Int × MM) := gd (0 ≤ w32 (y4 + 1) ∧ w32 (y4 + 1) < (xs.length : Int)) <| bd (fm_L_pass (scr xs (w32 (y4 + 1))) m) fun x_2787 m_2788 =>
bd (fm_X12_pass (scr xs (w32 (y4 + 1))) m_2788) fun x_2813 m_2814 =>
bp (fm_X12_thrown m_2814) fun x_2834 =>
if x_2834 = x_2787 then
if x_2787 = 0 then
lx (m_2814 162 0) fun x_2861 =>
if x_2861 = x_2813 then
lx (w32 (y4 + 7)) fun x_2873 =>
c x_2873 m_2814
else
some (0, m_2814)
else
lx (w32 (y4 + 7)) fun x_2849 =>
c x_2849 m_2814
else
some (0, m_2814)
set_option maxHeartbeats 4000000 in
theorem oj_L_law_1783 {xs : List Int32} {d : Nat} {S : QS} {L : QL} {Q : QO → QS → Prop} {m : MM} {y4 : Int} {v0 : Value} {v1 : Value} {v2 : Value} {v3 : Value} {v4 : Value}  {rz : Int} {rm : MM} {c : Int → MM → Option (Int × MM)} 
  (hd : 174 ≤ d) (R : Rp S m) (l0 : q_lo L 0 = some v0) (f0 : q_is 7 v0 0) (l1 : q_lo L 1 = some v1) (f1 : q_is 2 v1 4) (l2 : q_lo L 2 = some v2) (f2 : q_is 2 v2 68) (l3 : q_lo L 3 = some v3) (f3 : q_is 2 v3 162) (l4 : q_lo L 4 = some v4) (f4 : q_is 0 v4 y4)
  (hc : ∀ mq : MM, Ext m mq → ∀ {z4 : Int} {Sq : QS} {Lq : QL} {u0 : Value} {u1 : Value} {u2 : Value} {u3 : Value} {u4 : Value}, c z4 mq = some (rz, rm) → Rp Sq mq → q_lo Lq 0 = some u0 → q_is 7 u0 0 → q_lo Lq 1 = some u1 → q_is 2 u1 4 → q_lo Lq 2 = some u2 → q_is 2 u2 68 → q_lo Lq 3 = some u3 → q_is 2 u3 162 → q_lo Lq 4 = some u4 → q_is 0 u4 z4 → Go xs d qM_L_law 23 Lq [] Sq Q)
  (hQ : Ext m rm → ∀ o S1, Rp S1 rm → q_out 0 o rz → Q o S1)
  (h : fj_L_law_1783 xs c y4 m = some (rz, rm)) : Go xs d qM_L_law 1783 L [] S Q := by
  unfold fj_L_law_1783 at h
  refine go_aload_n (n := 1) (by decide +kernel) l1 f1 ?_
  refine go_aloadS (n := 0) (by decide +kernel) l0 f0 ?_
  refine go_iload (n := 4) (by decide +kernel) l4 f4 ?_
  refine go_iconst (n := 1) (z := 1) (by decide +kernel) (by decide) fun v_2779 f_2780 => ?_
  refine go_iadd (by decide +kernel) f4 f_2780 fun v_2781 f_2782 => ?_
  obtain ⟨g_2785, h⟩ := gd_s h
  refine go_sld (by decide +kernel) f0 f_2782 g_2785 fun v_2783 f_2784 => ?_
  refine go_aload_n (n := 3) (by decide +kernel) l3 f3 ?_
  obtain ⟨x_2787, m_2788, hc_2786, h⟩ := bd_s h
  refine go_callS (x := 221) (mi := 363) (n := 3) (b := 0) (as := [v1, v_2783, v3]) (rest := []) (by decide +kernel) (by decide +kernel) rfl rfl (q_sum8 _ (Nat.le_of_ble_eq_true rfl)) (om_L_pass (Nat.le_trans (by decide) hd) R f1 f_2784 f3 hc_2786) (fun _ S_2791 q_2794 => ?_) (fun _ _ qq => kr_x qq)
  refine kr_z (by decide) q_2794 fun v_2789 f_2790 R_2792 E_2793 => ?_
  have E_2797 := E_2793
  refine go_istore (n := 5) (by decide +kernel) (by decide +kernel) f_2790 fun L_2798 l_2799 kp_2800 => ?_
  have l_2801 := kp_2800 0 _ l0 (by decide) (Or.inl (by decide))
  have l_2802 := kp_2800 1 _ l1 (by decide) (Or.inl (by decide))
  have l_2803 := kp_2800 2 _ l2 (by decide) (Or.inl (by decide))
  have l_2804 := kp_2800 3 _ l3 (by decide) (Or.inl (by decide))
  have l_2805 := kp_2800 4 _ l4 (by decide) (Or.inr (q_is_cat f4 (Or.inl rfl)))
  refine go_aload_n (n := 2) (by decide +kernel) l_2803 f2 ?_
  refine go_aloadS (n := 0) (by decide +kernel) l_2801 f0 ?_
  refine go_iload (n := 4) (by decide +kernel) l_2805 f4 ?_
  refine go_iconst (n := 1) (z := 1) (by decide +kernel) (by decide) fun v_2806 f_2807 => ?_
  refine go_iadd (by decide +kernel) f4 f_2807 fun v_2808 f_2809 => ?_
  refine go_sld (by decide +kernel) f0 f_2809 g_2785 fun v_2810 f_2811 => ?_
  obtain ⟨x_2813, m_2814, hc_2812, h⟩ := bd_s h
  refine go_callV (x := 223) (mi := 293) (n := 1) (ci := 13) (as := [v_2810]) (rest := []) (by decide +kernel) (by decide +kernel) rfl rfl (q_sum8 _ (Nat.le_of_ble_eq_true rfl)) R_2792 f2 (fx_k (c := 13) R_2792 (by decide +kernel)) (om_X12_pass (Nat.le_trans (by decide) hd) R_2792 f2 f_2811 hc_2812) (fun _ S_2817 q_2820 => ?_) (fun _ _ qq => kr_x qq)
  refine kr_z (by decide) q_2820 fun v_2815 f_2816 R_2818 E_2819 => ?_
  have E_2823 := Ext.tr E_2797 E_2819
  refine go_istore (n := 6) (by decide +kernel) (by decide +kernel) f_2816 fun L_2824 l_2825 kp_2826 => ?_
  have l_2827 := kp_2826 0 _ l_2801 (by decide) (Or.inl (by decide))
  have l_2828 := kp_2826 1 _ l_2802 (by decide) (Or.inl (by decide))
  have l_2829 := kp_2826 2 _ l_2803 (by decide) (Or.inl (by decide))
  have l_2830 := kp_2826 3 _ l_2804 (by decide) (Or.inl (by decide))
  have l_2831 := kp_2826 4 _ l_2805 (by decide) (Or.inl (by decide))
  have l_2832 := kp_2826 5 _ l_2799 (by decide) (Or.inr (q_is_cat f_2790 (Or.inl rfl)))
  refine go_aload_n (n := 2) (by decide +kernel) l_2829 f2 ?_
  obtain ⟨x_2834, hc_2833, h⟩ := bp_s h
  refine go_callV (x := 143) (mi := 185) (n := 0) (ci := 13) (as := []) (rest := []) (by decide +kernel) (by decide +kernel) rfl rfl (q_sum8 _ (Nat.le_of_ble_eq_true rfl)) R_2818 f2 (fx_k (c := 13) R_2818 (by decide +kernel)) (om_X12_thrown (Nat.le_trans (by decide) hd) R_2818 f2 hc_2833) (fun _ S_2838 q_2841 => ?_) (fun _ _ qq => kr_x qq)
  refine kr_z (by decide) q_2841 fun v_2836 f_2837 R_2839 E_2840 => ?_
  refine go_iload (n := 5) (by decide +kernel) l_2832 f_2790 ?_
  refine go_icmp (c := .eq) (o := 5) (t := 1819) (P := x_2834 = x_2787) (by decide +kernel) (by decide +kernel) f_2837 f_2790 (Iff.rfl) (fun hp_2842 => ?_) (fun hp_2842 => ?_)
  · have h := it_t hp_2842 h
    refine go_iload (n := 5) (by decide +kernel) l_2832 f_2790 ?_
    refine go_if (c := .ne) (o := 15) (t := 1836) (P := ¬ (x_2787 = 0)) (by decide +kernel) (by decide +kernel) f_2790 (Iff.rfl) (fun hp_2843 => ?_) (fun hp_2843 => ?_)
    · have h := it_f hp_2843 h
      refine go_goto (o := 761) (t := 2597) (by decide +kernel) (by decide +kernel) ?_
      refine go_iinc (n := 4) (c := 7) (c' := 7) (by decide +kernel) (by decide +kernel) l_2831 f4 (by decide) fun L_2844 v_2845 f_2846 l_2847 kp_2848 => ?_
      obtain ⟨x_2849, e_2850, h⟩ := lx_s h
      have f_2851 := q_is_eq f_2846 e_2850
      have l_2852 := kp_2848 0 _ l_2827 (by decide) (Or.inl (by decide))
      have l_2853 := kp_2848 1 _ l_2828 (by decide) (Or.inl (by decide))
      have l_2854 := kp_2848 2 _ l_2829 (by decide) (Or.inl (by decide))
      have l_2855 := kp_2848 3 _ l_2830 (by decide) (Or.inr (q_is_cat f3 (Or.inr rfl)))
      refine go_goto (o := (-2577)) (t := 23) (by decide +kernel) (by decide +kernel) ?_
      exact hc m_2814 E_2823 h R_2839 l_2852 f0 l_2853 f1 l_2854 f2 l_2855 f3 l_2847 f_2851
    · have h := it_n hp_2843 h
      refine go_aload_n (n := 3) (by decide +kernel) l_2830 f3 ?_
      refine go_iconst (n := 0) (z := 0) (by decide +kernel) (by decide) fun v_2856 f_2857 => ?_
      obtain ⟨x_2861, e_2862, h⟩ := lx_s h
      refine go_lald (kd := 101) (by decide +kernel) rfl R_2839 f3 f_2857 (fx_k (c := 101) R_2839 (by decide +kernel)) (fx_x (a := 162) (ln := 1) R_2839 (by decide +kernel) (by decide)) fun v_2858 f_2859 => ?_
      have f_2860 := q_is_eq f_2859 e_2862
      refine go_iload (n := 6) (by decide +kernel) l_2825 f_2816 ?_
      refine go_i2l (by decide +kernel) f_2816 fun v_2863 f_2864 => ?_
      refine go_lcmp (by decide +kernel) f_2860 f_2864 fun v_2865 f_2866 => ?_
      refine go_if (c := .eq) (o := 5) (t := 1836) (P := x_2861 = x_2813) (by decide +kernel) (by decide +kernel) f_2866 (lc_eq) (fun hp_2867 => ?_) (fun hp_2867 => ?_)
      · have h := it_t hp_2867 h
        refine go_goto (o := 761) (t := 2597) (by decide +kernel) (by decide +kernel) ?_
        refine go_iinc (n := 4) (c := 7) (c' := 7) (by decide +kernel) (by decide +kernel) l_2831 f4 (by decide) fun L_2868 v_2869 f_2870 l_2871 kp_2872 => ?_
        obtain ⟨x_2873, e_2874, h⟩ := lx_s h
        have f_2875 := q_is_eq f_2870 e_2874
        have l_2876 := kp_2872 0 _ l_2827 (by decide) (Or.inl (by decide))
        have l_2877 := kp_2872 1 _ l_2828 (by decide) (Or.inl (by decide))
        have l_2878 := kp_2872 2 _ l_2829 (by decide) (Or.inl (by decide))
        have l_2879 := kp_2872 3 _ l_2830 (by decide) (Or.inr (q_is_cat f3 (Or.inr rfl)))
        refine go_goto (o := (-2577)) (t := 23) (by decide +kernel) (by decide +kernel) ?_
        exact hc m_2814 E_2823 h R_2839 l_2876 f0 l_2877 f1 l_2878 f2 l_2879 f3 l_2871 f_2875
      · have h := it_f hp_2867 h
        refine go_iconst (n := 0) (z := 0) (by decide +kernel) (by decide) fun v_2880 f_2881 => ?_
        cases h
        exact go_iret (by decide +kernel) rfl (Or.inr ⟨rfl, by decide⟩) f_2881 (hQ E_2823 _ _ R_2839 (q_out_v (by decide) f_2881))
  · have h := it_f hp_2842 h
    refine go_iconst (n := 0) (z := 0) (by decide +kernel) (by decide) fun v_2882 f_2883 => ?_
    cases h
    exact go_iret (by decide +kernel) rfl (Or.inr ⟨rfl, by decide⟩) f_2883 (hQ E_2823 _ _ R_2839 (q_out_v (by decide) f_2883))
noncomputable def fj_L_law_1839 (xs : List Int32) (c : Int → MM → Option (Int × MM)) (y4 : Int) (m : MM) : Option (Int × MM) := gd (0 ≤ w32 (y4 + 1) ∧ w32 (y4 + 1) < (xs.length : Int)) <| gd (0 ≤ w32 (y4 + 2) ∧ w32 (y4 + 2) < (xs.length : Int)) <| bd (fm_L_unsafe (scr xs (w32 (y4 + 1))) (scr xs (w32 (y4 + 2))) m) fun x_2901 m_2902 =>
bd (fm_X12_unsafe (scr xs (w32 (y4 + 1))) (scr xs (w32 (y4 + 2))) m_2902) fun x_2933 m_2934 =>
bp (fm_X12_thrown m_2934) fun x_2954 =>
if x_2954 = x_2901 then
if x_2901 = 0 then
lx (m_2934 162 0) fun x_2981 =>
if x_2981 = x_2933 then
lx (w32 (y4 + 7)) fun x_2993 =>
c x_2993 m_2934
else
some (0, m_2934)
else
lx (w32 (y4 + 7)) fun x_2969 =>
c x_2969 m_2934
else
some (0, m_2934)
set_option maxHeartbeats 4000000 in
theorem oj_L_law_1839 {xs : List Int32} {d : Nat} {S : QS} {L : QL} {Q : QO → QS → Prop} {m : MM} {y4 : Int} {v0 : Value} {v1 : Value} {v2 : Value} {v3 : Value} {v4 : Value}  {rz : Int} {rm : MM} {c : Int → MM → Option (Int × MM)} 
  (hd : 174 ≤ d) (R : Rp S m) (l0 : q_lo L 0 = some v0) (f0 : q_is 7 v0 0) (l1 : q_lo L 1 = some v1) (f1 : q_is 2 v1 4) (l2 : q_lo L 2 = some v2) (f2 : q_is 2 v2 68) (l3 : q_lo L 3 = some v3) (f3 : q_is 2 v3 162) (l4 : q_lo L 4 = some v4) (f4 : q_is 0 v4 y4)
  (hc : ∀ mq : MM, Ext m mq → ∀ {z4 : Int} {Sq : QS} {Lq : QL} {u0 : Value} {u1 : Value} {u2 : Value} {u3 : Value} {u4 : Value}, c z4 mq = some (rz, rm) → Rp Sq mq → q_lo Lq 0 = some u0 → q_is 7 u0 0 → q_lo Lq 1 = some u1 → q_is 2 u1 4 → q_lo Lq 2 = some u2 → q_is 2 u2 68 → q_lo Lq 3 = some u3 → q_is 2 u3 162 → q_lo Lq 4 = some u4 → q_is 0 u4 z4 → Go xs d qM_L_law 23 Lq [] Sq Q)
  (hQ : Ext m rm → ∀ o S1, Rp S1 rm → q_out 0 o rz → Q o S1)
  (h : fj_L_law_1839 xs c y4 m = some (rz, rm)) : Go xs d qM_L_law 1839 L [] S Q := by
  unfold fj_L_law_1839 at h
  refine go_aload_n (n := 1) (by decide +kernel) l1 f1 ?_
  refine go_aloadS (n := 0) (by decide +kernel) l0 f0 ?_
  refine go_iload (n := 4) (by decide +kernel) l4 f4 ?_
  refine go_iconst (n := 1) (z := 1) (by decide +kernel) (by decide) fun v_2886 f_2887 => ?_
  refine go_iadd (by decide +kernel) f4 f_2887 fun v_2888 f_2889 => ?_
  obtain ⟨g_2892, h⟩ := gd_s h
  refine go_sld (by decide +kernel) f0 f_2889 g_2892 fun v_2890 f_2891 => ?_
  refine go_aloadS (n := 0) (by decide +kernel) l0 f0 ?_
  refine go_iload (n := 4) (by decide +kernel) l4 f4 ?_
  refine go_iconst (n := 2) (z := 2) (by decide +kernel) (by decide) fun v_2893 f_2894 => ?_
  refine go_iadd (by decide +kernel) f4 f_2894 fun v_2895 f_2896 => ?_
  obtain ⟨g_2899, h⟩ := gd_s h
  refine go_sld (by decide +kernel) f0 f_2896 g_2899 fun v_2897 f_2898 => ?_
  refine go_aload_n (n := 3) (by decide +kernel) l3 f3 ?_
  obtain ⟨x_2901, m_2902, hc_2900, h⟩ := bd_s h
  refine go_callS (x := 224) (mi := 364) (n := 4) (b := 0) (as := [v1, v_2890, v_2897, v3]) (rest := []) (by decide +kernel) (by decide +kernel) rfl rfl (q_sum8 _ (Nat.le_of_ble_eq_true rfl)) (om_L_unsafe (Nat.le_trans (by decide) hd) R f1 f_2891 f_2898 f3 hc_2900) (fun _ S_2905 q_2908 => ?_) (fun _ _ qq => kr_x qq)
  refine kr_z (by decide) q_2908 fun v_2903 f_2904 R_2906 E_2907 => ?_
  have E_2911 := E_2907
  refine go_istore (n := 5) (by decide +kernel) (by decide +kernel) f_2904 fun L_2912 l_2913 kp_2914 => ?_
  have l_2915 := kp_2914 0 _ l0 (by decide) (Or.inl (by decide))
  have l_2916 := kp_2914 1 _ l1 (by decide) (Or.inl (by decide))
  have l_2917 := kp_2914 2 _ l2 (by decide) (Or.inl (by decide))
  have l_2918 := kp_2914 3 _ l3 (by decide) (Or.inl (by decide))
  have l_2919 := kp_2914 4 _ l4 (by decide) (Or.inr (q_is_cat f4 (Or.inl rfl)))
  refine go_aload_n (n := 2) (by decide +kernel) l_2917 f2 ?_
  refine go_aloadS (n := 0) (by decide +kernel) l_2915 f0 ?_
  refine go_iload (n := 4) (by decide +kernel) l_2919 f4 ?_
  refine go_iconst (n := 1) (z := 1) (by decide +kernel) (by decide) fun v_2920 f_2921 => ?_
  refine go_iadd (by decide +kernel) f4 f_2921 fun v_2922 f_2923 => ?_
  refine go_sld (by decide +kernel) f0 f_2923 g_2892 fun v_2924 f_2925 => ?_
  refine go_aloadS (n := 0) (by decide +kernel) l_2915 f0 ?_
  refine go_iload (n := 4) (by decide +kernel) l_2919 f4 ?_
  refine go_iconst (n := 2) (z := 2) (by decide +kernel) (by decide) fun v_2926 f_2927 => ?_
  refine go_iadd (by decide +kernel) f4 f_2927 fun v_2928 f_2929 => ?_
  refine go_sld (by decide +kernel) f0 f_2929 g_2899 fun v_2930 f_2931 => ?_
  obtain ⟨x_2933, m_2934, hc_2932, h⟩ := bd_s h
  refine go_callV (x := 226) (mi := 295) (n := 2) (ci := 13) (as := [v_2924, v_2930]) (rest := []) (by decide +kernel) (by decide +kernel) rfl rfl (q_sum8 _ (Nat.le_of_ble_eq_true rfl)) R_2906 f2 (fx_k (c := 13) R_2906 (by decide +kernel)) (om_X12_unsafe (Nat.le_trans (by decide) hd) R_2906 f2 f_2925 f_2931 hc_2932) (fun _ S_2937 q_2940 => ?_) (fun _ _ qq => kr_x qq)
  refine kr_z (by decide) q_2940 fun v_2935 f_2936 R_2938 E_2939 => ?_
  have E_2943 := Ext.tr E_2911 E_2939
  refine go_istore (n := 6) (by decide +kernel) (by decide +kernel) f_2936 fun L_2944 l_2945 kp_2946 => ?_
  have l_2947 := kp_2946 0 _ l_2915 (by decide) (Or.inl (by decide))
  have l_2948 := kp_2946 1 _ l_2916 (by decide) (Or.inl (by decide))
  have l_2949 := kp_2946 2 _ l_2917 (by decide) (Or.inl (by decide))
  have l_2950 := kp_2946 3 _ l_2918 (by decide) (Or.inl (by decide))
  have l_2951 := kp_2946 4 _ l_2919 (by decide) (Or.inl (by decide))
  have l_2952 := kp_2946 5 _ l_2913 (by decide) (Or.inr (q_is_cat f_2904 (Or.inl rfl)))
  refine go_aload_n (n := 2) (by decide +kernel) l_2949 f2 ?_
  obtain ⟨x_2954, hc_2953, h⟩ := bp_s h
  refine go_callV (x := 143) (mi := 185) (n := 0) (ci := 13) (as := []) (rest := []) (by decide +kernel) (by decide +kernel) rfl rfl (q_sum8 _ (Nat.le_of_ble_eq_true rfl)) R_2938 f2 (fx_k (c := 13) R_2938 (by decide +kernel)) (om_X12_thrown (Nat.le_trans (by decide) hd) R_2938 f2 hc_2953) (fun _ S_2958 q_2961 => ?_) (fun _ _ qq => kr_x qq)
  refine kr_z (by decide) q_2961 fun v_2956 f_2957 R_2959 E_2960 => ?_
  refine go_iload (n := 5) (by decide +kernel) l_2952 f_2904 ?_
  refine go_icmp (c := .eq) (o := 5) (t := 1887) (P := x_2954 = x_2901) (by decide +kernel) (by decide +kernel) f_2957 f_2904 (Iff.rfl) (fun hp_2962 => ?_) (fun hp_2962 => ?_)
  · have h := it_t hp_2962 h
    refine go_iload (n := 5) (by decide +kernel) l_2952 f_2904 ?_
    refine go_if (c := .ne) (o := 15) (t := 1904) (P := ¬ (x_2901 = 0)) (by decide +kernel) (by decide +kernel) f_2904 (Iff.rfl) (fun hp_2963 => ?_) (fun hp_2963 => ?_)
    · have h := it_f hp_2963 h
      refine go_goto (o := 693) (t := 2597) (by decide +kernel) (by decide +kernel) ?_
      refine go_iinc (n := 4) (c := 7) (c' := 7) (by decide +kernel) (by decide +kernel) l_2951 f4 (by decide) fun L_2964 v_2965 f_2966 l_2967 kp_2968 => ?_
      obtain ⟨x_2969, e_2970, h⟩ := lx_s h
      have f_2971 := q_is_eq f_2966 e_2970
      have l_2972 := kp_2968 0 _ l_2947 (by decide) (Or.inl (by decide))
      have l_2973 := kp_2968 1 _ l_2948 (by decide) (Or.inl (by decide))
      have l_2974 := kp_2968 2 _ l_2949 (by decide) (Or.inl (by decide))
      have l_2975 := kp_2968 3 _ l_2950 (by decide) (Or.inr (q_is_cat f3 (Or.inr rfl)))
      refine go_goto (o := (-2577)) (t := 23) (by decide +kernel) (by decide +kernel) ?_
      exact hc m_2934 E_2943 h R_2959 l_2972 f0 l_2973 f1 l_2974 f2 l_2975 f3 l_2967 f_2971
    · have h := it_n hp_2963 h
      refine go_aload_n (n := 3) (by decide +kernel) l_2950 f3 ?_
      refine go_iconst (n := 0) (z := 0) (by decide +kernel) (by decide) fun v_2976 f_2977 => ?_
      obtain ⟨x_2981, e_2982, h⟩ := lx_s h
      refine go_lald (kd := 101) (by decide +kernel) rfl R_2959 f3 f_2977 (fx_k (c := 101) R_2959 (by decide +kernel)) (fx_x (a := 162) (ln := 1) R_2959 (by decide +kernel) (by decide)) fun v_2978 f_2979 => ?_
      have f_2980 := q_is_eq f_2979 e_2982
      refine go_iload (n := 6) (by decide +kernel) l_2945 f_2936 ?_
      refine go_i2l (by decide +kernel) f_2936 fun v_2983 f_2984 => ?_
      refine go_lcmp (by decide +kernel) f_2980 f_2984 fun v_2985 f_2986 => ?_
      refine go_if (c := .eq) (o := 5) (t := 1904) (P := x_2981 = x_2933) (by decide +kernel) (by decide +kernel) f_2986 (lc_eq) (fun hp_2987 => ?_) (fun hp_2987 => ?_)
      · have h := it_t hp_2987 h
        refine go_goto (o := 693) (t := 2597) (by decide +kernel) (by decide +kernel) ?_
        refine go_iinc (n := 4) (c := 7) (c' := 7) (by decide +kernel) (by decide +kernel) l_2951 f4 (by decide) fun L_2988 v_2989 f_2990 l_2991 kp_2992 => ?_
        obtain ⟨x_2993, e_2994, h⟩ := lx_s h
        have f_2995 := q_is_eq f_2990 e_2994
        have l_2996 := kp_2992 0 _ l_2947 (by decide) (Or.inl (by decide))
        have l_2997 := kp_2992 1 _ l_2948 (by decide) (Or.inl (by decide))
        have l_2998 := kp_2992 2 _ l_2949 (by decide) (Or.inl (by decide))
        have l_2999 := kp_2992 3 _ l_2950 (by decide) (Or.inr (q_is_cat f3 (Or.inr rfl)))
        refine go_goto (o := (-2577)) (t := 23) (by decide +kernel) (by decide +kernel) ?_
        exact hc m_2934 E_2943 h R_2959 l_2996 f0 l_2997 f1 l_2998 f2 l_2999 f3 l_2991 f_2995
      · have h := it_f hp_2987 h
        refine go_iconst (n := 0) (z := 0) (by decide +kernel) (by decide) fun v_3000 f_3001 => ?_
        cases h
        exact go_iret (by decide +kernel) rfl (Or.inr ⟨rfl, by decide⟩) f_3001 (hQ E_2943 _ _ R_2959 (q_out_v (by decide) f_3001))
  · have h := it_f hp_2962 h
    refine go_iconst (n := 0) (z := 0) (by decide +kernel) (by decide) fun v_3002 f_3003 => ?_
    cases h
    exact go_iret (by decide +kernel) rfl (Or.inr ⟨rfl, by decide⟩) f_3003 (hQ E_2943 _ _ R_2959 (q_out_v (by decide) f_3003))
noncomputable def fj_L_law_1973 (xs : List Int32) (c : Int → MM → Option (Int × MM)) (y4 s0 s1 : Int) (m : MM) : Option (Int × MM) := if s1 = s0 then
lx (w32 (y4 + 7)) fun x_3114 =>
c x_3114 m
else
some (0, m)
set_option maxHeartbeats 4000000 in
theorem oj_L_law_1973 {xs : List Int32} {d : Nat} {S : QS} {L : QL} {Q : QO → QS → Prop} {m : MM} {y4 s0 s1 : Int} {v0 : Value} {v1 : Value} {v2 : Value} {v3 : Value} {v4 : Value} {w0 : Value} {w1 : Value}  {rz : Int} {rm : MM} {c : Int → MM → Option (Int × MM)} 
  (hd : 174 ≤ d) (R : Rp S m) (l0 : q_lo L 0 = some v0) (f0 : q_is 7 v0 0) (l1 : q_lo L 1 = some v1) (f1 : q_is 2 v1 4) (l2 : q_lo L 2 = some v2) (f2 : q_is 2 v2 68) (l3 : q_lo L 3 = some v3) (f3 : q_is 2 v3 162) (l4 : q_lo L 4 = some v4) (f4 : q_is 0 v4 y4) (fs0 : q_is 1 w0 s0) (fs1 : q_is 1 w1 s1)
  (hc : ∀ mq : MM, Ext m mq → ∀ {z4 : Int} {Sq : QS} {Lq : QL} {u0 : Value} {u1 : Value} {u2 : Value} {u3 : Value} {u4 : Value}, c z4 mq = some (rz, rm) → Rp Sq mq → q_lo Lq 0 = some u0 → q_is 7 u0 0 → q_lo Lq 1 = some u1 → q_is 2 u1 4 → q_lo Lq 2 = some u2 → q_is 2 u2 68 → q_lo Lq 3 = some u3 → q_is 2 u3 162 → q_lo Lq 4 = some u4 → q_is 0 u4 z4 → Go xs d qM_L_law 23 Lq [] Sq Q)
  (hQ : Ext m rm → ∀ o S1, Rp S1 rm → q_out 0 o rz → Q o S1)
  (h : fj_L_law_1973 xs c y4 s0 s1 m = some (rz, rm)) : Go xs d qM_L_law 1973 L [w0, w1] S Q := by
  unfold fj_L_law_1973 at h
  refine go_lcmp (by decide +kernel) fs1 fs0 fun v_3106 f_3107 => ?_
  refine go_if (c := .eq) (o := 5) (t := 1979) (P := s1 = s0) (by decide +kernel) (by decide +kernel) f_3107 (lc_eq) (fun hp_3108 => ?_) (fun hp_3108 => ?_)
  · have h := it_t hp_3108 h
    refine go_goto (o := 618) (t := 2597) (by decide +kernel) (by decide +kernel) ?_
    refine go_iinc (n := 4) (c := 7) (c' := 7) (by decide +kernel) (by decide +kernel) l4 f4 (by decide) fun L_3109 v_3110 f_3111 l_3112 kp_3113 => ?_
    obtain ⟨x_3114, e_3115, h⟩ := lx_s h
    have f_3116 := q_is_eq f_3111 e_3115
    have l_3117 := kp_3113 0 _ l0 (by decide) (Or.inl (by decide))
    have l_3118 := kp_3113 1 _ l1 (by decide) (Or.inl (by decide))
    have l_3119 := kp_3113 2 _ l2 (by decide) (Or.inl (by decide))
    have l_3120 := kp_3113 3 _ l3 (by decide) (Or.inr (q_is_cat f3 (Or.inr rfl)))
    refine go_goto (o := (-2577)) (t := 23) (by decide +kernel) (by decide +kernel) ?_
    exact hc m (Ext.rf _) h R l_3117 f0 l_3118 f1 l_3119 f2 l_3120 f3 l_3112 f_3116
  · have h := it_f hp_3108 h
    refine go_iconst (n := 0) (z := 0) (by decide +kernel) (by decide) fun v_3121 f_3122 => ?_
    cases h
    exact go_iret (by decide +kernel) rfl (Or.inr ⟨rfl, by decide⟩) f_3122 (hQ (Ext.rf _) _ _ R (q_out_v (by decide) f_3122))
noncomputable def fj_L_law_1907 (xs : List Int32) (c : Int → MM → Option (Int × MM)) (y4 : Int) (m : MM) : Option (Int × MM) := gd (0 ≤ w32 (y4 + 1) ∧ w32 (y4 + 1) < (xs.length : Int)) <| gd (0 ≤ w32 (y4 + 2) ∧ w32 (y4 + 2) < (xs.length : Int)) <| bd (fm_L_move (scr xs (w32 (y4 + 1))) (scr xs (w32 (y4 + 2))) m) fun x_3021 m_3022 =>
bd (fm_X12_move (scr xs (w32 (y4 + 1))) (scr xs (w32 (y4 + 2))) m_3022) fun x_3053 m_3054 =>
bp (fm_X12_thrown m_3054) fun x_3074 =>
if x_3074 = x_3021 then
if x_3021 = 0 then
lx (m_3054 162 0) fun x_3101 =>
if x_3053 = 0 then
fj_L_law_1973 xs c y4 0 x_3101 m_3054
else
fj_L_law_1973 xs c y4 1 x_3101 m_3054
else
lx (w32 (y4 + 7)) fun x_3089 =>
c x_3089 m_3054
else
some (0, m_3054)
set_option maxHeartbeats 4000000 in
theorem oj_L_law_1907 {xs : List Int32} {d : Nat} {S : QS} {L : QL} {Q : QO → QS → Prop} {m : MM} {y4 : Int} {v0 : Value} {v1 : Value} {v2 : Value} {v3 : Value} {v4 : Value}  {rz : Int} {rm : MM} {c : Int → MM → Option (Int × MM)} 
  (hd : 174 ≤ d) (R : Rp S m) (l0 : q_lo L 0 = some v0) (f0 : q_is 7 v0 0) (l1 : q_lo L 1 = some v1) (f1 : q_is 2 v1 4) (l2 : q_lo L 2 = some v2) (f2 : q_is 2 v2 68) (l3 : q_lo L 3 = some v3) (f3 : q_is 2 v3 162) (l4 : q_lo L 4 = some v4) (f4 : q_is 0 v4 y4)
  (hc : ∀ mq : MM, Ext m mq → ∀ {z4 : Int} {Sq : QS} {Lq : QL} {u0 : Value} {u1 : Value} {u2 : Value} {u3 : Value} {u4 : Value}, c z4 mq = some (rz, rm) → Rp Sq mq → q_lo Lq 0 = some u0 → q_is 7 u0 0 → q_lo Lq 1 = some u1 → q_is 2 u1 4 → q_lo Lq 2 = some u2 → q_is 2 u2 68 → q_lo Lq 3 = some u3 → q_is 2 u3 162 → q_lo Lq 4 = some u4 → q_is 0 u4 z4 → Go xs d qM_L_law 23 Lq [] Sq Q)
  (hQ : Ext m rm → ∀ o S1, Rp S1 rm → q_out 0 o rz → Q o S1)
  (h : fj_L_law_1907 xs c y4 m = some (rz, rm)) : Go xs d qM_L_law 1907 L [] S Q := by
  unfold fj_L_law_1907 at h
  refine go_aload_n (n := 1) (by decide +kernel) l1 f1 ?_
  refine go_aloadS (n := 0) (by decide +kernel) l0 f0 ?_
  refine go_iload (n := 4) (by decide +kernel) l4 f4 ?_
  refine go_iconst (n := 1) (z := 1) (by decide +kernel) (by decide) fun v_3006 f_3007 => ?_
  refine go_iadd (by decide +kernel) f4 f_3007 fun v_3008 f_3009 => ?_
  obtain ⟨g_3012, h⟩ := gd_s h
  refine go_sld (by decide +kernel) f0 f_3009 g_3012 fun v_3010 f_3011 => ?_
  refine go_aloadS (n := 0) (by decide +kernel) l0 f0 ?_
  refine go_iload (n := 4) (by decide +kernel) l4 f4 ?_
  refine go_iconst (n := 2) (z := 2) (by decide +kernel) (by decide) fun v_3013 f_3014 => ?_
  refine go_iadd (by decide +kernel) f4 f_3014 fun v_3015 f_3016 => ?_
  obtain ⟨g_3019, h⟩ := gd_s h
  refine go_sld (by decide +kernel) f0 f_3016 g_3019 fun v_3017 f_3018 => ?_
  refine go_aload_n (n := 3) (by decide +kernel) l3 f3 ?_
  obtain ⟨x_3021, m_3022, hc_3020, h⟩ := bd_s h
  refine go_callS (x := 227) (mi := 365) (n := 4) (b := 0) (as := [v1, v_3010, v_3017, v3]) (rest := []) (by decide +kernel) (by decide +kernel) rfl rfl (q_sum8 _ (Nat.le_of_ble_eq_true rfl)) (om_L_move (Nat.le_trans (by decide) hd) R f1 f_3011 f_3018 f3 hc_3020) (fun _ S_3025 q_3028 => ?_) (fun _ _ qq => kr_x qq)
  refine kr_z (by decide) q_3028 fun v_3023 f_3024 R_3026 E_3027 => ?_
  have E_3031 := E_3027
  refine go_istore (n := 5) (by decide +kernel) (by decide +kernel) f_3024 fun L_3032 l_3033 kp_3034 => ?_
  have l_3035 := kp_3034 0 _ l0 (by decide) (Or.inl (by decide))
  have l_3036 := kp_3034 1 _ l1 (by decide) (Or.inl (by decide))
  have l_3037 := kp_3034 2 _ l2 (by decide) (Or.inl (by decide))
  have l_3038 := kp_3034 3 _ l3 (by decide) (Or.inl (by decide))
  have l_3039 := kp_3034 4 _ l4 (by decide) (Or.inr (q_is_cat f4 (Or.inl rfl)))
  refine go_aload_n (n := 2) (by decide +kernel) l_3037 f2 ?_
  refine go_aloadS (n := 0) (by decide +kernel) l_3035 f0 ?_
  refine go_iload (n := 4) (by decide +kernel) l_3039 f4 ?_
  refine go_iconst (n := 1) (z := 1) (by decide +kernel) (by decide) fun v_3040 f_3041 => ?_
  refine go_iadd (by decide +kernel) f4 f_3041 fun v_3042 f_3043 => ?_
  refine go_sld (by decide +kernel) f0 f_3043 g_3012 fun v_3044 f_3045 => ?_
  refine go_aloadS (n := 0) (by decide +kernel) l_3035 f0 ?_
  refine go_iload (n := 4) (by decide +kernel) l_3039 f4 ?_
  refine go_iconst (n := 2) (z := 2) (by decide +kernel) (by decide) fun v_3046 f_3047 => ?_
  refine go_iadd (by decide +kernel) f4 f_3047 fun v_3048 f_3049 => ?_
  refine go_sld (by decide +kernel) f0 f_3049 g_3019 fun v_3050 f_3051 => ?_
  obtain ⟨x_3053, m_3054, hc_3052, h⟩ := bd_s h
  refine go_callV (x := 229) (mi := 296) (n := 2) (ci := 13) (as := [v_3044, v_3050]) (rest := []) (by decide +kernel) (by decide +kernel) rfl rfl (q_sum8 _ (Nat.le_of_ble_eq_true rfl)) R_3026 f2 (fx_k (c := 13) R_3026 (by decide +kernel)) (om_X12_move (Nat.le_trans (by decide) hd) R_3026 f2 f_3045 f_3051 hc_3052) (fun _ S_3057 q_3060 => ?_) (fun _ _ qq => kr_x qq)
  refine kr_z (by decide) q_3060 fun v_3055 f_3056 R_3058 E_3059 => ?_
  have E_3063 := Ext.tr E_3031 E_3059
  refine go_istore (n := 6) (by decide +kernel) (by decide +kernel) f_3056 fun L_3064 l_3065 kp_3066 => ?_
  have l_3067 := kp_3066 0 _ l_3035 (by decide) (Or.inl (by decide))
  have l_3068 := kp_3066 1 _ l_3036 (by decide) (Or.inl (by decide))
  have l_3069 := kp_3066 2 _ l_3037 (by decide) (Or.inl (by decide))
  have l_3070 := kp_3066 3 _ l_3038 (by decide) (Or.inl (by decide))
  have l_3071 := kp_3066 4 _ l_3039 (by decide) (Or.inl (by decide))
  have l_3072 := kp_3066 5 _ l_3033 (by decide) (Or.inr (q_is_cat f_3024 (Or.inl rfl)))
  refine go_aload_n (n := 2) (by decide +kernel) l_3069 f2 ?_
  obtain ⟨x_3074, hc_3073, h⟩ := bp_s h
  refine go_callV (x := 143) (mi := 185) (n := 0) (ci := 13) (as := []) (rest := []) (by decide +kernel) (by decide +kernel) rfl rfl (q_sum8 _ (Nat.le_of_ble_eq_true rfl)) R_3058 f2 (fx_k (c := 13) R_3058 (by decide +kernel)) (om_X12_thrown (Nat.le_trans (by decide) hd) R_3058 f2 hc_3073) (fun _ S_3078 q_3081 => ?_) (fun _ _ qq => kr_x qq)
  refine kr_z (by decide) q_3081 fun v_3076 f_3077 R_3079 E_3080 => ?_
  refine go_iload (n := 5) (by decide +kernel) l_3072 f_3024 ?_
  refine go_icmp (c := .eq) (o := 5) (t := 1955) (P := x_3074 = x_3021) (by decide +kernel) (by decide +kernel) f_3077 f_3024 (Iff.rfl) (fun hp_3082 => ?_) (fun hp_3082 => ?_)
  · have h := it_t hp_3082 h
    refine go_iload (n := 5) (by decide +kernel) l_3072 f_3024 ?_
    refine go_if (c := .ne) (o := 22) (t := 1979) (P := ¬ (x_3021 = 0)) (by decide +kernel) (by decide +kernel) f_3024 (Iff.rfl) (fun hp_3083 => ?_) (fun hp_3083 => ?_)
    · have h := it_f hp_3083 h
      refine go_goto (o := 618) (t := 2597) (by decide +kernel) (by decide +kernel) ?_
      refine go_iinc (n := 4) (c := 7) (c' := 7) (by decide +kernel) (by decide +kernel) l_3071 f4 (by decide) fun L_3084 v_3085 f_3086 l_3087 kp_3088 => ?_
      obtain ⟨x_3089, e_3090, h⟩ := lx_s h
      have f_3091 := q_is_eq f_3086 e_3090
      have l_3092 := kp_3088 0 _ l_3067 (by decide) (Or.inl (by decide))
      have l_3093 := kp_3088 1 _ l_3068 (by decide) (Or.inl (by decide))
      have l_3094 := kp_3088 2 _ l_3069 (by decide) (Or.inl (by decide))
      have l_3095 := kp_3088 3 _ l_3070 (by decide) (Or.inr (q_is_cat f3 (Or.inr rfl)))
      refine go_goto (o := (-2577)) (t := 23) (by decide +kernel) (by decide +kernel) ?_
      exact hc m_3054 E_3063 h R_3079 l_3092 f0 l_3093 f1 l_3094 f2 l_3095 f3 l_3087 f_3091
    · have h := it_n hp_3083 h
      refine go_aload_n (n := 3) (by decide +kernel) l_3070 f3 ?_
      refine go_iconst (n := 0) (z := 0) (by decide +kernel) (by decide) fun v_3096 f_3097 => ?_
      obtain ⟨x_3101, e_3102, h⟩ := lx_s h
      refine go_lald (kd := 101) (by decide +kernel) rfl R_3079 f3 f_3097 (fx_k (c := 101) R_3079 (by decide +kernel)) (fx_x (a := 162) (ln := 1) R_3079 (by decide +kernel) (by decide)) fun v_3098 f_3099 => ?_
      have f_3100 := q_is_eq f_3099 e_3102
      refine go_iload (n := 6) (by decide +kernel) l_3065 f_3056 ?_
      refine go_if (c := .eq) (o := 7) (t := 1972) (P := x_3053 = 0) (by decide +kernel) (by decide +kernel) f_3056 (Iff.rfl) (fun hp_3103 => ?_) (fun hp_3103 => ?_)
      · have h := it_t hp_3103 h
        refine go_lconst (n := 0) (z := 0) (by decide +kernel) (by decide) fun v_3104 f_3105 => ?_
        exact oj_L_law_1973 hd R_3079 l_3067 f0 l_3068 f1 l_3069 f2 l_3070 f3 l_3071 f4 f_3105 f_3100 (fun mq b => hc mq (Ext.tr E_3063 b)) (fun b => hQ (Ext.tr E_3063 b)) h
      · have h := it_f hp_3103 h
        refine go_lconst (n := 1) (z := 1) (by decide +kernel) (by decide) fun v_3123 f_3124 => ?_
        refine go_goto (o := 4) (t := 1973) (by decide +kernel) (by decide +kernel) ?_
        exact oj_L_law_1973 hd R_3079 l_3067 f0 l_3068 f1 l_3069 f2 l_3070 f3 l_3071 f4 f_3124 f_3100 (fun mq b => hc mq (Ext.tr E_3063 b)) (fun b => hQ (Ext.tr E_3063 b)) h
  · have h := it_f hp_3082 h
    refine go_iconst (n := 0) (z := 0) (by decide +kernel) (by decide) fun v_3125 f_3126 => ?_
    cases h
    exact go_iret (by decide +kernel) rfl (Or.inr ⟨rfl, by decide⟩) f_3126 (hQ E_3063 _ _ R_3079 (q_out_v (by decide) f_3126))
noncomputable def fj_L_law_1982 (xs : List Int32) (c : Int → MM → Option (Int × MM)) (y4 : Int) (m : MM) : Option (Int × MM) := gd (0 ≤ w32 (y4 + 1) ∧ w32 (y4 + 1) < (xs.length : Int)) <| gd (0 ≤ w32 (y4 + 2) ∧ w32 (y4 + 2) < (xs.length : Int)) <| bd (fm_L_setBack (scr xs (w32 (y4 + 1))) (scr xs (w32 (y4 + 2))) m) fun x_3144 m_3145 =>
bd (fm_X12_setBack (scr xs (w32 (y4 + 1))) (scr xs (w32 (y4 + 2))) m_3145) fun x_3176 m_3177 =>
bp (fm_X12_thrown m_3177) fun x_3197 =>
if x_3197 = x_3144 then
if x_3144 = 0 then
lx (m_3177 162 0) fun x_3224 =>
if x_3224 = x_3176 then
lx (w32 (y4 + 7)) fun x_3236 =>
c x_3236 m_3177
else
some (0, m_3177)
else
lx (w32 (y4 + 7)) fun x_3212 =>
c x_3212 m_3177
else
some (0, m_3177)
set_option maxHeartbeats 4000000 in
theorem oj_L_law_1982 {xs : List Int32} {d : Nat} {S : QS} {L : QL} {Q : QO → QS → Prop} {m : MM} {y4 : Int} {v0 : Value} {v1 : Value} {v2 : Value} {v3 : Value} {v4 : Value}  {rz : Int} {rm : MM} {c : Int → MM → Option (Int × MM)} 
  (hd : 174 ≤ d) (R : Rp S m) (l0 : q_lo L 0 = some v0) (f0 : q_is 7 v0 0) (l1 : q_lo L 1 = some v1) (f1 : q_is 2 v1 4) (l2 : q_lo L 2 = some v2) (f2 : q_is 2 v2 68) (l3 : q_lo L 3 = some v3) (f3 : q_is 2 v3 162) (l4 : q_lo L 4 = some v4) (f4 : q_is 0 v4 y4)
  (hc : ∀ mq : MM, Ext m mq → ∀ {z4 : Int} {Sq : QS} {Lq : QL} {u0 : Value} {u1 : Value} {u2 : Value} {u3 : Value} {u4 : Value}, c z4 mq = some (rz, rm) → Rp Sq mq → q_lo Lq 0 = some u0 → q_is 7 u0 0 → q_lo Lq 1 = some u1 → q_is 2 u1 4 → q_lo Lq 2 = some u2 → q_is 2 u2 68 → q_lo Lq 3 = some u3 → q_is 2 u3 162 → q_lo Lq 4 = some u4 → q_is 0 u4 z4 → Go xs d qM_L_law 23 Lq [] Sq Q)
  (hQ : Ext m rm → ∀ o S1, Rp S1 rm → q_out 0 o rz → Q o S1)
  (h : fj_L_law_1982 xs c y4 m = some (rz, rm)) : Go xs d qM_L_law 1982 L [] S Q := by
  unfold fj_L_law_1982 at h
  refine go_aload_n (n := 1) (by decide +kernel) l1 f1 ?_
  refine go_aloadS (n := 0) (by decide +kernel) l0 f0 ?_
  refine go_iload (n := 4) (by decide +kernel) l4 f4 ?_
  refine go_iconst (n := 1) (z := 1) (by decide +kernel) (by decide) fun v_3129 f_3130 => ?_
  refine go_iadd (by decide +kernel) f4 f_3130 fun v_3131 f_3132 => ?_
  obtain ⟨g_3135, h⟩ := gd_s h
  refine go_sld (by decide +kernel) f0 f_3132 g_3135 fun v_3133 f_3134 => ?_
  refine go_aloadS (n := 0) (by decide +kernel) l0 f0 ?_
  refine go_iload (n := 4) (by decide +kernel) l4 f4 ?_
  refine go_iconst (n := 2) (z := 2) (by decide +kernel) (by decide) fun v_3136 f_3137 => ?_
  refine go_iadd (by decide +kernel) f4 f_3137 fun v_3138 f_3139 => ?_
  obtain ⟨g_3142, h⟩ := gd_s h
  refine go_sld (by decide +kernel) f0 f_3139 g_3142 fun v_3140 f_3141 => ?_
  refine go_aload_n (n := 3) (by decide +kernel) l3 f3 ?_
  obtain ⟨x_3144, m_3145, hc_3143, h⟩ := bd_s h
  refine go_callS (x := 230) (mi := 366) (n := 4) (b := 0) (as := [v1, v_3133, v_3140, v3]) (rest := []) (by decide +kernel) (by decide +kernel) rfl rfl (q_sum8 _ (Nat.le_of_ble_eq_true rfl)) (om_L_setBack (Nat.le_trans (by decide) hd) R f1 f_3134 f_3141 f3 hc_3143) (fun _ S_3148 q_3151 => ?_) (fun _ _ qq => kr_x qq)
  refine kr_z (by decide) q_3151 fun v_3146 f_3147 R_3149 E_3150 => ?_
  have E_3154 := E_3150
  refine go_istore (n := 5) (by decide +kernel) (by decide +kernel) f_3147 fun L_3155 l_3156 kp_3157 => ?_
  have l_3158 := kp_3157 0 _ l0 (by decide) (Or.inl (by decide))
  have l_3159 := kp_3157 1 _ l1 (by decide) (Or.inl (by decide))
  have l_3160 := kp_3157 2 _ l2 (by decide) (Or.inl (by decide))
  have l_3161 := kp_3157 3 _ l3 (by decide) (Or.inl (by decide))
  have l_3162 := kp_3157 4 _ l4 (by decide) (Or.inr (q_is_cat f4 (Or.inl rfl)))
  refine go_aload_n (n := 2) (by decide +kernel) l_3160 f2 ?_
  refine go_aloadS (n := 0) (by decide +kernel) l_3158 f0 ?_
  refine go_iload (n := 4) (by decide +kernel) l_3162 f4 ?_
  refine go_iconst (n := 1) (z := 1) (by decide +kernel) (by decide) fun v_3163 f_3164 => ?_
  refine go_iadd (by decide +kernel) f4 f_3164 fun v_3165 f_3166 => ?_
  refine go_sld (by decide +kernel) f0 f_3166 g_3135 fun v_3167 f_3168 => ?_
  refine go_aloadS (n := 0) (by decide +kernel) l_3158 f0 ?_
  refine go_iload (n := 4) (by decide +kernel) l_3162 f4 ?_
  refine go_iconst (n := 2) (z := 2) (by decide +kernel) (by decide) fun v_3169 f_3170 => ?_
  refine go_iadd (by decide +kernel) f4 f_3170 fun v_3171 f_3172 => ?_
  refine go_sld (by decide +kernel) f0 f_3172 g_3142 fun v_3173 f_3174 => ?_
  obtain ⟨x_3176, m_3177, hc_3175, h⟩ := bd_s h
  refine go_callV (x := 232) (mi := 301) (n := 2) (ci := 13) (as := [v_3167, v_3173]) (rest := []) (by decide +kernel) (by decide +kernel) rfl rfl (q_sum8 _ (Nat.le_of_ble_eq_true rfl)) R_3149 f2 (fx_k (c := 13) R_3149 (by decide +kernel)) (om_X12_setBack (Nat.le_trans (by decide) hd) R_3149 f2 f_3168 f_3174 hc_3175) (fun _ S_3180 q_3183 => ?_) (fun _ _ qq => kr_x qq)
  refine kr_z (by decide) q_3183 fun v_3178 f_3179 R_3181 E_3182 => ?_
  have E_3186 := Ext.tr E_3154 E_3182
  refine go_istore (n := 6) (by decide +kernel) (by decide +kernel) f_3179 fun L_3187 l_3188 kp_3189 => ?_
  have l_3190 := kp_3189 0 _ l_3158 (by decide) (Or.inl (by decide))
  have l_3191 := kp_3189 1 _ l_3159 (by decide) (Or.inl (by decide))
  have l_3192 := kp_3189 2 _ l_3160 (by decide) (Or.inl (by decide))
  have l_3193 := kp_3189 3 _ l_3161 (by decide) (Or.inl (by decide))
  have l_3194 := kp_3189 4 _ l_3162 (by decide) (Or.inl (by decide))
  have l_3195 := kp_3189 5 _ l_3156 (by decide) (Or.inr (q_is_cat f_3147 (Or.inl rfl)))
  refine go_aload_n (n := 2) (by decide +kernel) l_3192 f2 ?_
  obtain ⟨x_3197, hc_3196, h⟩ := bp_s h
  refine go_callV (x := 143) (mi := 185) (n := 0) (ci := 13) (as := []) (rest := []) (by decide +kernel) (by decide +kernel) rfl rfl (q_sum8 _ (Nat.le_of_ble_eq_true rfl)) R_3181 f2 (fx_k (c := 13) R_3181 (by decide +kernel)) (om_X12_thrown (Nat.le_trans (by decide) hd) R_3181 f2 hc_3196) (fun _ S_3201 q_3204 => ?_) (fun _ _ qq => kr_x qq)
  refine kr_z (by decide) q_3204 fun v_3199 f_3200 R_3202 E_3203 => ?_
  refine go_iload (n := 5) (by decide +kernel) l_3195 f_3147 ?_
  refine go_icmp (c := .eq) (o := 5) (t := 2030) (P := x_3197 = x_3144) (by decide +kernel) (by decide +kernel) f_3200 f_3147 (Iff.rfl) (fun hp_3205 => ?_) (fun hp_3205 => ?_)
  · have h := it_t hp_3205 h
    refine go_iload (n := 5) (by decide +kernel) l_3195 f_3147 ?_
    refine go_if (c := .ne) (o := 15) (t := 2047) (P := ¬ (x_3144 = 0)) (by decide +kernel) (by decide +kernel) f_3147 (Iff.rfl) (fun hp_3206 => ?_) (fun hp_3206 => ?_)
    · have h := it_f hp_3206 h
      refine go_goto (o := 550) (t := 2597) (by decide +kernel) (by decide +kernel) ?_
      refine go_iinc (n := 4) (c := 7) (c' := 7) (by decide +kernel) (by decide +kernel) l_3194 f4 (by decide) fun L_3207 v_3208 f_3209 l_3210 kp_3211 => ?_
      obtain ⟨x_3212, e_3213, h⟩ := lx_s h
      have f_3214 := q_is_eq f_3209 e_3213
      have l_3215 := kp_3211 0 _ l_3190 (by decide) (Or.inl (by decide))
      have l_3216 := kp_3211 1 _ l_3191 (by decide) (Or.inl (by decide))
      have l_3217 := kp_3211 2 _ l_3192 (by decide) (Or.inl (by decide))
      have l_3218 := kp_3211 3 _ l_3193 (by decide) (Or.inr (q_is_cat f3 (Or.inr rfl)))
      refine go_goto (o := (-2577)) (t := 23) (by decide +kernel) (by decide +kernel) ?_
      exact hc m_3177 E_3186 h R_3202 l_3215 f0 l_3216 f1 l_3217 f2 l_3218 f3 l_3210 f_3214
    · have h := it_n hp_3206 h
      refine go_aload_n (n := 3) (by decide +kernel) l_3193 f3 ?_
      refine go_iconst (n := 0) (z := 0) (by decide +kernel) (by decide) fun v_3219 f_3220 => ?_
      obtain ⟨x_3224, e_3225, h⟩ := lx_s h
      refine go_lald (kd := 101) (by decide +kernel) rfl R_3202 f3 f_3220 (fx_k (c := 101) R_3202 (by decide +kernel)) (fx_x (a := 162) (ln := 1) R_3202 (by decide +kernel) (by decide)) fun v_3221 f_3222 => ?_
      have f_3223 := q_is_eq f_3222 e_3225
      refine go_iload (n := 6) (by decide +kernel) l_3188 f_3179 ?_
      refine go_i2l (by decide +kernel) f_3179 fun v_3226 f_3227 => ?_
      refine go_lcmp (by decide +kernel) f_3223 f_3227 fun v_3228 f_3229 => ?_
      refine go_if (c := .eq) (o := 5) (t := 2047) (P := x_3224 = x_3176) (by decide +kernel) (by decide +kernel) f_3229 (lc_eq) (fun hp_3230 => ?_) (fun hp_3230 => ?_)
      · have h := it_t hp_3230 h
        refine go_goto (o := 550) (t := 2597) (by decide +kernel) (by decide +kernel) ?_
        refine go_iinc (n := 4) (c := 7) (c' := 7) (by decide +kernel) (by decide +kernel) l_3194 f4 (by decide) fun L_3231 v_3232 f_3233 l_3234 kp_3235 => ?_
        obtain ⟨x_3236, e_3237, h⟩ := lx_s h
        have f_3238 := q_is_eq f_3233 e_3237
        have l_3239 := kp_3235 0 _ l_3190 (by decide) (Or.inl (by decide))
        have l_3240 := kp_3235 1 _ l_3191 (by decide) (Or.inl (by decide))
        have l_3241 := kp_3235 2 _ l_3192 (by decide) (Or.inl (by decide))
        have l_3242 := kp_3235 3 _ l_3193 (by decide) (Or.inr (q_is_cat f3 (Or.inr rfl)))
        refine go_goto (o := (-2577)) (t := 23) (by decide +kernel) (by decide +kernel) ?_
        exact hc m_3177 E_3186 h R_3202 l_3239 f0 l_3240 f1 l_3241 f2 l_3242 f3 l_3234 f_3238
      · have h := it_f hp_3230 h
        refine go_iconst (n := 0) (z := 0) (by decide +kernel) (by decide) fun v_3243 f_3244 => ?_
        cases h
        exact go_iret (by decide +kernel) rfl (Or.inr ⟨rfl, by decide⟩) f_3244 (hQ E_3186 _ _ R_3202 (q_out_v (by decide) f_3244))
  · have h := it_f hp_3205 h
    refine go_iconst (n := 0) (z := 0) (by decide +kernel) (by decide) fun v_3245 f_3246 => ?_
    cases h
    exact go_iret (by decide +kernel) rfl (Or.inr ⟨rfl, by decide⟩) f_3246 (hQ E_3186 _ _ R_3202 (q_out_v (by decide) f_3246))
noncomputable def fj_L_law_2050 (xs : List Int32) (c : Int → MM → Option (Int × MM)) (y4 : Int) (m : MM) : Option (Int × MM) := gd (0 ≤ w32 (y4 + 1) ∧ w32 (y4 + 1) < (xs.length : Int)) <| gd (0 ≤ w32 (y4 + 2) ∧ w32 (y4 + 2) < (xs.length : Int)) <| bd (fm_L_copy (scr xs (w32 (y4 + 1))) (scr xs (w32 (y4 + 2))) m) fun x_3264 m_3265 =>
bd (fm_X12_copy (scr xs (w32 (y4 + 1))) (scr xs (w32 (y4 + 2))) m_3265) fun x_3296 m_3297 =>
bp (fm_X12_thrown m_3297) fun x_3317 =>
if x_3317 = x_3264 then
if x_3264 = 0 then
lx (m_3297 162 0) fun x_3344 =>
if x_3344 = x_3296 then
lx (w32 (y4 + 7)) fun x_3356 =>
c x_3356 m_3297
else
some (0, m_3297)
else
lx (w32 (y4 + 7)) fun x_3332 =>
c x_3332 m_3297
else
some (0, m_3297)
set_option maxHeartbeats 4000000 in
theorem oj_L_law_2050 {xs : List Int32} {d : Nat} {S : QS} {L : QL} {Q : QO → QS → Prop} {m : MM} {y4 : Int} {v0 : Value} {v1 : Value} {v2 : Value} {v3 : Value} {v4 : Value}  {rz : Int} {rm : MM} {c : Int → MM → Option (Int × MM)} 
  (hd : 174 ≤ d) (R : Rp S m) (l0 : q_lo L 0 = some v0) (f0 : q_is 7 v0 0) (l1 : q_lo L 1 = some v1) (f1 : q_is 2 v1 4) (l2 : q_lo L 2 = some v2) (f2 : q_is 2 v2 68) (l3 : q_lo L 3 = some v3) (f3 : q_is 2 v3 162) (l4 : q_lo L 4 = some v4) (f4 : q_is 0 v4 y4)
  (hc : ∀ mq : MM, Ext m mq → ∀ {z4 : Int} {Sq : QS} {Lq : QL} {u0 : Value} {u1 : Value} {u2 : Value} {u3 : Value} {u4 : Value}, c z4 mq = some (rz, rm) → Rp Sq mq → q_lo Lq 0 = some u0 → q_is 7 u0 0 → q_lo Lq 1 = some u1 → q_is 2 u1 4 → q_lo Lq 2 = some u2 → q_is 2 u2 68 → q_lo Lq 3 = some u3 → q_is 2 u3 162 → q_lo Lq 4 = some u4 → q_is 0 u4 z4 → Go xs d qM_L_law 23 Lq [] Sq Q)
  (hQ : Ext m rm → ∀ o S1, Rp S1 rm → q_out 0 o rz → Q o S1)
  (h : fj_L_law_2050 xs c y4 m = some (rz, rm)) : Go xs d qM_L_law 2050 L [] S Q := by
  unfold fj_L_law_2050 at h
  refine go_aload_n (n := 1) (by decide +kernel) l1 f1 ?_
  refine go_aloadS (n := 0) (by decide +kernel) l0 f0 ?_
  refine go_iload (n := 4) (by decide +kernel) l4 f4 ?_
  refine go_iconst (n := 1) (z := 1) (by decide +kernel) (by decide) fun v_3249 f_3250 => ?_
  refine go_iadd (by decide +kernel) f4 f_3250 fun v_3251 f_3252 => ?_
  obtain ⟨g_3255, h⟩ := gd_s h
  refine go_sld (by decide +kernel) f0 f_3252 g_3255 fun v_3253 f_3254 => ?_
  refine go_aloadS (n := 0) (by decide +kernel) l0 f0 ?_
  refine go_iload (n := 4) (by decide +kernel) l4 f4 ?_
  refine go_iconst (n := 2) (z := 2) (by decide +kernel) (by decide) fun v_3256 f_3257 => ?_
  refine go_iadd (by decide +kernel) f4 f_3257 fun v_3258 f_3259 => ?_
  obtain ⟨g_3262, h⟩ := gd_s h
  refine go_sld (by decide +kernel) f0 f_3259 g_3262 fun v_3260 f_3261 => ?_
  refine go_aload_n (n := 3) (by decide +kernel) l3 f3 ?_
  obtain ⟨x_3264, m_3265, hc_3263, h⟩ := bd_s h
  refine go_callS (x := 233) (mi := 367) (n := 4) (b := 0) (as := [v1, v_3253, v_3260, v3]) (rest := []) (by decide +kernel) (by decide +kernel) rfl rfl (q_sum8 _ (Nat.le_of_ble_eq_true rfl)) (om_L_copy (Nat.le_trans (by decide) hd) R f1 f_3254 f_3261 f3 hc_3263) (fun _ S_3268 q_3271 => ?_) (fun _ _ qq => kr_x qq)
  refine kr_z (by decide) q_3271 fun v_3266 f_3267 R_3269 E_3270 => ?_
  have E_3274 := E_3270
  refine go_istore (n := 5) (by decide +kernel) (by decide +kernel) f_3267 fun L_3275 l_3276 kp_3277 => ?_
  have l_3278 := kp_3277 0 _ l0 (by decide) (Or.inl (by decide))
  have l_3279 := kp_3277 1 _ l1 (by decide) (Or.inl (by decide))
  have l_3280 := kp_3277 2 _ l2 (by decide) (Or.inl (by decide))
  have l_3281 := kp_3277 3 _ l3 (by decide) (Or.inl (by decide))
  have l_3282 := kp_3277 4 _ l4 (by decide) (Or.inr (q_is_cat f4 (Or.inl rfl)))
  refine go_aload_n (n := 2) (by decide +kernel) l_3280 f2 ?_
  refine go_aloadS (n := 0) (by decide +kernel) l_3278 f0 ?_
  refine go_iload (n := 4) (by decide +kernel) l_3282 f4 ?_
  refine go_iconst (n := 1) (z := 1) (by decide +kernel) (by decide) fun v_3283 f_3284 => ?_
  refine go_iadd (by decide +kernel) f4 f_3284 fun v_3285 f_3286 => ?_
  refine go_sld (by decide +kernel) f0 f_3286 g_3255 fun v_3287 f_3288 => ?_
  refine go_aloadS (n := 0) (by decide +kernel) l_3278 f0 ?_
  refine go_iload (n := 4) (by decide +kernel) l_3282 f4 ?_
  refine go_iconst (n := 2) (z := 2) (by decide +kernel) (by decide) fun v_3289 f_3290 => ?_
  refine go_iadd (by decide +kernel) f4 f_3290 fun v_3291 f_3292 => ?_
  refine go_sld (by decide +kernel) f0 f_3292 g_3262 fun v_3293 f_3294 => ?_
  obtain ⟨x_3296, m_3297, hc_3295, h⟩ := bd_s h
  refine go_callV (x := 235) (mi := 302) (n := 2) (ci := 13) (as := [v_3287, v_3293]) (rest := []) (by decide +kernel) (by decide +kernel) rfl rfl (q_sum8 _ (Nat.le_of_ble_eq_true rfl)) R_3269 f2 (fx_k (c := 13) R_3269 (by decide +kernel)) (om_X12_copy (Nat.le_trans (by decide) hd) R_3269 f2 f_3288 f_3294 hc_3295) (fun _ S_3300 q_3303 => ?_) (fun _ _ qq => kr_x qq)
  refine kr_z (by decide) q_3303 fun v_3298 f_3299 R_3301 E_3302 => ?_
  have E_3306 := Ext.tr E_3274 E_3302
  refine go_istore (n := 6) (by decide +kernel) (by decide +kernel) f_3299 fun L_3307 l_3308 kp_3309 => ?_
  have l_3310 := kp_3309 0 _ l_3278 (by decide) (Or.inl (by decide))
  have l_3311 := kp_3309 1 _ l_3279 (by decide) (Or.inl (by decide))
  have l_3312 := kp_3309 2 _ l_3280 (by decide) (Or.inl (by decide))
  have l_3313 := kp_3309 3 _ l_3281 (by decide) (Or.inl (by decide))
  have l_3314 := kp_3309 4 _ l_3282 (by decide) (Or.inl (by decide))
  have l_3315 := kp_3309 5 _ l_3276 (by decide) (Or.inr (q_is_cat f_3267 (Or.inl rfl)))
  refine go_aload_n (n := 2) (by decide +kernel) l_3312 f2 ?_
  obtain ⟨x_3317, hc_3316, h⟩ := bp_s h
  refine go_callV (x := 143) (mi := 185) (n := 0) (ci := 13) (as := []) (rest := []) (by decide +kernel) (by decide +kernel) rfl rfl (q_sum8 _ (Nat.le_of_ble_eq_true rfl)) R_3301 f2 (fx_k (c := 13) R_3301 (by decide +kernel)) (om_X12_thrown (Nat.le_trans (by decide) hd) R_3301 f2 hc_3316) (fun _ S_3321 q_3324 => ?_) (fun _ _ qq => kr_x qq)
  refine kr_z (by decide) q_3324 fun v_3319 f_3320 R_3322 E_3323 => ?_
  refine go_iload (n := 5) (by decide +kernel) l_3315 f_3267 ?_
  refine go_icmp (c := .eq) (o := 5) (t := 2098) (P := x_3317 = x_3264) (by decide +kernel) (by decide +kernel) f_3320 f_3267 (Iff.rfl) (fun hp_3325 => ?_) (fun hp_3325 => ?_)
  · have h := it_t hp_3325 h
    refine go_iload (n := 5) (by decide +kernel) l_3315 f_3267 ?_
    refine go_if (c := .ne) (o := 15) (t := 2115) (P := ¬ (x_3264 = 0)) (by decide +kernel) (by decide +kernel) f_3267 (Iff.rfl) (fun hp_3326 => ?_) (fun hp_3326 => ?_)
    · have h := it_f hp_3326 h
      refine go_goto (o := 482) (t := 2597) (by decide +kernel) (by decide +kernel) ?_
      refine go_iinc (n := 4) (c := 7) (c' := 7) (by decide +kernel) (by decide +kernel) l_3314 f4 (by decide) fun L_3327 v_3328 f_3329 l_3330 kp_3331 => ?_
      obtain ⟨x_3332, e_3333, h⟩ := lx_s h
      have f_3334 := q_is_eq f_3329 e_3333
      have l_3335 := kp_3331 0 _ l_3310 (by decide) (Or.inl (by decide))
      have l_3336 := kp_3331 1 _ l_3311 (by decide) (Or.inl (by decide))
      have l_3337 := kp_3331 2 _ l_3312 (by decide) (Or.inl (by decide))
      have l_3338 := kp_3331 3 _ l_3313 (by decide) (Or.inr (q_is_cat f3 (Or.inr rfl)))
      refine go_goto (o := (-2577)) (t := 23) (by decide +kernel) (by decide +kernel) ?_
      exact hc m_3297 E_3306 h R_3322 l_3335 f0 l_3336 f1 l_3337 f2 l_3338 f3 l_3330 f_3334
    · have h := it_n hp_3326 h
      refine go_aload_n (n := 3) (by decide +kernel) l_3313 f3 ?_
      refine go_iconst (n := 0) (z := 0) (by decide +kernel) (by decide) fun v_3339 f_3340 => ?_
      obtain ⟨x_3344, e_3345, h⟩ := lx_s h
      refine go_lald (kd := 101) (by decide +kernel) rfl R_3322 f3 f_3340 (fx_k (c := 101) R_3322 (by decide +kernel)) (fx_x (a := 162) (ln := 1) R_3322 (by decide +kernel) (by decide)) fun v_3341 f_3342 => ?_
      have f_3343 := q_is_eq f_3342 e_3345
      refine go_iload (n := 6) (by decide +kernel) l_3308 f_3299 ?_
      refine go_i2l (by decide +kernel) f_3299 fun v_3346 f_3347 => ?_
      refine go_lcmp (by decide +kernel) f_3343 f_3347 fun v_3348 f_3349 => ?_
      refine go_if (c := .eq) (o := 5) (t := 2115) (P := x_3344 = x_3296) (by decide +kernel) (by decide +kernel) f_3349 (lc_eq) (fun hp_3350 => ?_) (fun hp_3350 => ?_)
      · have h := it_t hp_3350 h
        refine go_goto (o := 482) (t := 2597) (by decide +kernel) (by decide +kernel) ?_
        refine go_iinc (n := 4) (c := 7) (c' := 7) (by decide +kernel) (by decide +kernel) l_3314 f4 (by decide) fun L_3351 v_3352 f_3353 l_3354 kp_3355 => ?_
        obtain ⟨x_3356, e_3357, h⟩ := lx_s h
        have f_3358 := q_is_eq f_3353 e_3357
        have l_3359 := kp_3355 0 _ l_3310 (by decide) (Or.inl (by decide))
        have l_3360 := kp_3355 1 _ l_3311 (by decide) (Or.inl (by decide))
        have l_3361 := kp_3355 2 _ l_3312 (by decide) (Or.inl (by decide))
        have l_3362 := kp_3355 3 _ l_3313 (by decide) (Or.inr (q_is_cat f3 (Or.inr rfl)))
        refine go_goto (o := (-2577)) (t := 23) (by decide +kernel) (by decide +kernel) ?_
        exact hc m_3297 E_3306 h R_3322 l_3359 f0 l_3360 f1 l_3361 f2 l_3362 f3 l_3354 f_3358
      · have h := it_f hp_3350 h
        refine go_iconst (n := 0) (z := 0) (by decide +kernel) (by decide) fun v_3363 f_3364 => ?_
        cases h
        exact go_iret (by decide +kernel) rfl (Or.inr ⟨rfl, by decide⟩) f_3364 (hQ E_3306 _ _ R_3322 (q_out_v (by decide) f_3364))
  · have h := it_f hp_3325 h
    refine go_iconst (n := 0) (z := 0) (by decide +kernel) (by decide) fun v_3365 f_3366 => ?_
    cases h
    exact go_iret (by decide +kernel) rfl (Or.inr ⟨rfl, by decide⟩) f_3366 (hQ E_3306 _ _ R_3322 (q_out_v (by decide) f_3366))
noncomputable def fj_L_law_2118 (xs : List Int32) (c : Int → MM → Option (Int × MM)) (y4 : Int) (m : MM) : Option (Int × MM) := bd (fm_L_takeOver m) fun x_3370 m_3371 =>
bd (fm_X12_takeOver m_3371) fun x_3390 m_3391 =>
bp (fm_X12_thrown m_3391) fun x_3411 =>
if x_3411 = x_3370 then
if x_3370 = 0 then
lx (m_3391 162 0) fun x_3438 =>
if x_3438 = x_3390 then
lx (w32 (y4 + 7)) fun x_3450 =>
c x_3450 m_3391
else
some (0, m_3391)
else
lx (w32 (y4 + 7)) fun x_3426 =>
c x_3426 m_3391
else
some (0, m_3391)
set_option maxHeartbeats 4000000 in
theorem oj_L_law_2118 {xs : List Int32} {d : Nat} {S : QS} {L : QL} {Q : QO → QS → Prop} {m : MM} {y4 : Int} {v0 : Value} {v1 : Value} {v2 : Value} {v3 : Value} {v4 : Value}  {rz : Int} {rm : MM} {c : Int → MM → Option (Int × MM)} 
  (hd : 174 ≤ d) (R : Rp S m) (l0 : q_lo L 0 = some v0) (f0 : q_is 7 v0 0) (l1 : q_lo L 1 = some v1) (f1 : q_is 2 v1 4) (l2 : q_lo L 2 = some v2) (f2 : q_is 2 v2 68) (l3 : q_lo L 3 = some v3) (f3 : q_is 2 v3 162) (l4 : q_lo L 4 = some v4) (f4 : q_is 0 v4 y4)
  (hc : ∀ mq : MM, Ext m mq → ∀ {z4 : Int} {Sq : QS} {Lq : QL} {u0 : Value} {u1 : Value} {u2 : Value} {u3 : Value} {u4 : Value}, c z4 mq = some (rz, rm) → Rp Sq mq → q_lo Lq 0 = some u0 → q_is 7 u0 0 → q_lo Lq 1 = some u1 → q_is 2 u1 4 → q_lo Lq 2 = some u2 → q_is 2 u2 68 → q_lo Lq 3 = some u3 → q_is 2 u3 162 → q_lo Lq 4 = some u4 → q_is 0 u4 z4 → Go xs d qM_L_law 23 Lq [] Sq Q)
  (hQ : Ext m rm → ∀ o S1, Rp S1 rm → q_out 0 o rz → Q o S1)
  (h : fj_L_law_2118 xs c y4 m = some (rz, rm)) : Go xs d qM_L_law 2118 L [] S Q := by
  unfold fj_L_law_2118 at h
  refine go_aload_n (n := 1) (by decide +kernel) l1 f1 ?_
  refine go_aload_n (n := 3) (by decide +kernel) l3 f3 ?_
  obtain ⟨x_3370, m_3371, hc_3369, h⟩ := bd_s h
  refine go_callS (x := 236) (mi := 368) (n := 2) (b := 0) (as := [v1, v3]) (rest := []) (by decide +kernel) (by decide +kernel) rfl rfl (q_sum8 _ (Nat.le_of_ble_eq_true rfl)) (om_L_takeOver (Nat.le_trans (by decide) hd) R f1 f3 hc_3369) (fun _ S_3374 q_3377 => ?_) (fun _ _ qq => kr_x qq)
  refine kr_z (by decide) q_3377 fun v_3372 f_3373 R_3375 E_3376 => ?_
  have E_3380 := E_3376
  refine go_istore (n := 5) (by decide +kernel) (by decide +kernel) f_3373 fun L_3381 l_3382 kp_3383 => ?_
  have l_3384 := kp_3383 0 _ l0 (by decide) (Or.inl (by decide))
  have l_3385 := kp_3383 1 _ l1 (by decide) (Or.inl (by decide))
  have l_3386 := kp_3383 2 _ l2 (by decide) (Or.inl (by decide))
  have l_3387 := kp_3383 3 _ l3 (by decide) (Or.inl (by decide))
  have l_3388 := kp_3383 4 _ l4 (by decide) (Or.inr (q_is_cat f4 (Or.inl rfl)))
  refine go_aload_n (n := 2) (by decide +kernel) l_3386 f2 ?_
  obtain ⟨x_3390, m_3391, hc_3389, h⟩ := bd_s h
  refine go_callV (x := 239) (mi := 304) (n := 0) (ci := 13) (as := []) (rest := []) (by decide +kernel) (by decide +kernel) rfl rfl (q_sum8 _ (Nat.le_of_ble_eq_true rfl)) R_3375 f2 (fx_k (c := 13) R_3375 (by decide +kernel)) (om_X12_takeOver (Nat.le_trans (by decide) hd) R_3375 f2 hc_3389) (fun _ S_3394 q_3397 => ?_) (fun _ _ qq => kr_x qq)
  refine kr_z (by decide) q_3397 fun v_3392 f_3393 R_3395 E_3396 => ?_
  have E_3400 := Ext.tr E_3380 E_3396
  refine go_istore (n := 6) (by decide +kernel) (by decide +kernel) f_3393 fun L_3401 l_3402 kp_3403 => ?_
  have l_3404 := kp_3403 0 _ l_3384 (by decide) (Or.inl (by decide))
  have l_3405 := kp_3403 1 _ l_3385 (by decide) (Or.inl (by decide))
  have l_3406 := kp_3403 2 _ l_3386 (by decide) (Or.inl (by decide))
  have l_3407 := kp_3403 3 _ l_3387 (by decide) (Or.inl (by decide))
  have l_3408 := kp_3403 4 _ l_3388 (by decide) (Or.inl (by decide))
  have l_3409 := kp_3403 5 _ l_3382 (by decide) (Or.inr (q_is_cat f_3373 (Or.inl rfl)))
  refine go_aload_n (n := 2) (by decide +kernel) l_3406 f2 ?_
  obtain ⟨x_3411, hc_3410, h⟩ := bp_s h
  refine go_callV (x := 143) (mi := 185) (n := 0) (ci := 13) (as := []) (rest := []) (by decide +kernel) (by decide +kernel) rfl rfl (q_sum8 _ (Nat.le_of_ble_eq_true rfl)) R_3395 f2 (fx_k (c := 13) R_3395 (by decide +kernel)) (om_X12_thrown (Nat.le_trans (by decide) hd) R_3395 f2 hc_3410) (fun _ S_3415 q_3418 => ?_) (fun _ _ qq => kr_x qq)
  refine kr_z (by decide) q_3418 fun v_3413 f_3414 R_3416 E_3417 => ?_
  refine go_iload (n := 5) (by decide +kernel) l_3409 f_3373 ?_
  refine go_icmp (c := .eq) (o := 5) (t := 2142) (P := x_3411 = x_3370) (by decide +kernel) (by decide +kernel) f_3414 f_3373 (Iff.rfl) (fun hp_3419 => ?_) (fun hp_3419 => ?_)
  · have h := it_t hp_3419 h
    refine go_iload (n := 5) (by decide +kernel) l_3409 f_3373 ?_
    refine go_if (c := .ne) (o := 15) (t := 2159) (P := ¬ (x_3370 = 0)) (by decide +kernel) (by decide +kernel) f_3373 (Iff.rfl) (fun hp_3420 => ?_) (fun hp_3420 => ?_)
    · have h := it_f hp_3420 h
      refine go_goto (o := 438) (t := 2597) (by decide +kernel) (by decide +kernel) ?_
      refine go_iinc (n := 4) (c := 7) (c' := 7) (by decide +kernel) (by decide +kernel) l_3408 f4 (by decide) fun L_3421 v_3422 f_3423 l_3424 kp_3425 => ?_
      obtain ⟨x_3426, e_3427, h⟩ := lx_s h
      have f_3428 := q_is_eq f_3423 e_3427
      have l_3429 := kp_3425 0 _ l_3404 (by decide) (Or.inl (by decide))
      have l_3430 := kp_3425 1 _ l_3405 (by decide) (Or.inl (by decide))
      have l_3431 := kp_3425 2 _ l_3406 (by decide) (Or.inl (by decide))
      have l_3432 := kp_3425 3 _ l_3407 (by decide) (Or.inr (q_is_cat f3 (Or.inr rfl)))
      refine go_goto (o := (-2577)) (t := 23) (by decide +kernel) (by decide +kernel) ?_
      exact hc m_3391 E_3400 h R_3416 l_3429 f0 l_3430 f1 l_3431 f2 l_3432 f3 l_3424 f_3428
    · have h := it_n hp_3420 h
      refine go_aload_n (n := 3) (by decide +kernel) l_3407 f3 ?_
      refine go_iconst (n := 0) (z := 0) (by decide +kernel) (by decide) fun v_3433 f_3434 => ?_
      obtain ⟨x_3438, e_3439, h⟩ := lx_s h
      refine go_lald (kd := 101) (by decide +kernel) rfl R_3416 f3 f_3434 (fx_k (c := 101) R_3416 (by decide +kernel)) (fx_x (a := 162) (ln := 1) R_3416 (by decide +kernel) (by decide)) fun v_3435 f_3436 => ?_
      have f_3437 := q_is_eq f_3436 e_3439
      refine go_iload (n := 6) (by decide +kernel) l_3402 f_3393 ?_
      refine go_i2l (by decide +kernel) f_3393 fun v_3440 f_3441 => ?_
      refine go_lcmp (by decide +kernel) f_3437 f_3441 fun v_3442 f_3443 => ?_
      refine go_if (c := .eq) (o := 5) (t := 2159) (P := x_3438 = x_3390) (by decide +kernel) (by decide +kernel) f_3443 (lc_eq) (fun hp_3444 => ?_) (fun hp_3444 => ?_)
      · have h := it_t hp_3444 h
        refine go_goto (o := 438) (t := 2597) (by decide +kernel) (by decide +kernel) ?_
        refine go_iinc (n := 4) (c := 7) (c' := 7) (by decide +kernel) (by decide +kernel) l_3408 f4 (by decide) fun L_3445 v_3446 f_3447 l_3448 kp_3449 => ?_
        obtain ⟨x_3450, e_3451, h⟩ := lx_s h
        have f_3452 := q_is_eq f_3447 e_3451
        have l_3453 := kp_3449 0 _ l_3404 (by decide) (Or.inl (by decide))
        have l_3454 := kp_3449 1 _ l_3405 (by decide) (Or.inl (by decide))
        have l_3455 := kp_3449 2 _ l_3406 (by decide) (Or.inl (by decide))
        have l_3456 := kp_3449 3 _ l_3407 (by decide) (Or.inr (q_is_cat f3 (Or.inr rfl)))
        refine go_goto (o := (-2577)) (t := 23) (by decide +kernel) (by decide +kernel) ?_
        exact hc m_3391 E_3400 h R_3416 l_3453 f0 l_3454 f1 l_3455 f2 l_3456 f3 l_3448 f_3452
      · have h := it_f hp_3444 h
        refine go_iconst (n := 0) (z := 0) (by decide +kernel) (by decide) fun v_3457 f_3458 => ?_
        cases h
        exact go_iret (by decide +kernel) rfl (Or.inr ⟨rfl, by decide⟩) f_3458 (hQ E_3400 _ _ R_3416 (q_out_v (by decide) f_3458))
  · have h := it_f hp_3419 h
    refine go_iconst (n := 0) (z := 0) (by decide +kernel) (by decide) fun v_3459 f_3460 => ?_
    cases h
    exact go_iret (by decide +kernel) rfl (Or.inr ⟨rfl, by decide⟩) f_3460 (hQ E_3400 _ _ R_3416 (q_out_v (by decide) f_3460))
noncomputable def fj_L_law_2162 (xs : List Int32) (c : Int → MM → Option (Int × MM)) (y4 : Int) (m : MM) : Option (Int × MM) := bd (fm_L_join m) fun x_3464 m_3465 =>
bd (fm_X12_join m_3465) fun x_3484 m_3485 =>
bp (fm_X12_thrown m_3485) fun x_3505 =>
if x_3505 = x_3464 then
if x_3464 = 0 then
lx (m_3485 162 0) fun x_3532 =>
if x_3532 = x_3484 then
lx (w32 (y4 + 7)) fun x_3544 =>
c x_3544 m_3485
else
some (0, m_3485)
else
lx (w32 (y4 + 7)) fun x_3520 =>
c x_3520 m_3485
else
some (0, m_3485)
set_option maxHeartbeats 4000000 in
theorem oj_L_law_2162 {xs : List Int32} {d : Nat} {S : QS} {L : QL} {Q : QO → QS → Prop} {m : MM} {y4 : Int} {v0 : Value} {v1 : Value} {v2 : Value} {v3 : Value} {v4 : Value}  {rz : Int} {rm : MM} {c : Int → MM → Option (Int × MM)} 
  (hd : 174 ≤ d) (R : Rp S m) (l0 : q_lo L 0 = some v0) (f0 : q_is 7 v0 0) (l1 : q_lo L 1 = some v1) (f1 : q_is 2 v1 4) (l2 : q_lo L 2 = some v2) (f2 : q_is 2 v2 68) (l3 : q_lo L 3 = some v3) (f3 : q_is 2 v3 162) (l4 : q_lo L 4 = some v4) (f4 : q_is 0 v4 y4)
  (hc : ∀ mq : MM, Ext m mq → ∀ {z4 : Int} {Sq : QS} {Lq : QL} {u0 : Value} {u1 : Value} {u2 : Value} {u3 : Value} {u4 : Value}, c z4 mq = some (rz, rm) → Rp Sq mq → q_lo Lq 0 = some u0 → q_is 7 u0 0 → q_lo Lq 1 = some u1 → q_is 2 u1 4 → q_lo Lq 2 = some u2 → q_is 2 u2 68 → q_lo Lq 3 = some u3 → q_is 2 u3 162 → q_lo Lq 4 = some u4 → q_is 0 u4 z4 → Go xs d qM_L_law 23 Lq [] Sq Q)
  (hQ : Ext m rm → ∀ o S1, Rp S1 rm → q_out 0 o rz → Q o S1)
  (h : fj_L_law_2162 xs c y4 m = some (rz, rm)) : Go xs d qM_L_law 2162 L [] S Q := by
  unfold fj_L_law_2162 at h
  refine go_aload_n (n := 1) (by decide +kernel) l1 f1 ?_
  refine go_aload_n (n := 3) (by decide +kernel) l3 f3 ?_
  obtain ⟨x_3464, m_3465, hc_3463, h⟩ := bd_s h
  refine go_callS (x := 240) (mi := 369) (n := 2) (b := 0) (as := [v1, v3]) (rest := []) (by decide +kernel) (by decide +kernel) rfl rfl (q_sum8 _ (Nat.le_of_ble_eq_true rfl)) (om_L_join (Nat.le_trans (by decide) hd) R f1 f3 hc_3463) (fun _ S_3468 q_3471 => ?_) (fun _ _ qq => kr_x qq)
  refine kr_z (by decide) q_3471 fun v_3466 f_3467 R_3469 E_3470 => ?_
  have E_3474 := E_3470
  refine go_istore (n := 5) (by decide +kernel) (by decide +kernel) f_3467 fun L_3475 l_3476 kp_3477 => ?_
  have l_3478 := kp_3477 0 _ l0 (by decide) (Or.inl (by decide))
  have l_3479 := kp_3477 1 _ l1 (by decide) (Or.inl (by decide))
  have l_3480 := kp_3477 2 _ l2 (by decide) (Or.inl (by decide))
  have l_3481 := kp_3477 3 _ l3 (by decide) (Or.inl (by decide))
  have l_3482 := kp_3477 4 _ l4 (by decide) (Or.inr (q_is_cat f4 (Or.inl rfl)))
  refine go_aload_n (n := 2) (by decide +kernel) l_3480 f2 ?_
  obtain ⟨x_3484, m_3485, hc_3483, h⟩ := bd_s h
  refine go_callV (x := 242) (mi := 305) (n := 0) (ci := 13) (as := []) (rest := []) (by decide +kernel) (by decide +kernel) rfl rfl (q_sum8 _ (Nat.le_of_ble_eq_true rfl)) R_3469 f2 (fx_k (c := 13) R_3469 (by decide +kernel)) (om_X12_join (Nat.le_trans (by decide) hd) R_3469 f2 hc_3483) (fun _ S_3488 q_3491 => ?_) (fun _ _ qq => kr_x qq)
  refine kr_z (by decide) q_3491 fun v_3486 f_3487 R_3489 E_3490 => ?_
  have E_3494 := Ext.tr E_3474 E_3490
  refine go_istore (n := 6) (by decide +kernel) (by decide +kernel) f_3487 fun L_3495 l_3496 kp_3497 => ?_
  have l_3498 := kp_3497 0 _ l_3478 (by decide) (Or.inl (by decide))
  have l_3499 := kp_3497 1 _ l_3479 (by decide) (Or.inl (by decide))
  have l_3500 := kp_3497 2 _ l_3480 (by decide) (Or.inl (by decide))
  have l_3501 := kp_3497 3 _ l_3481 (by decide) (Or.inl (by decide))
  have l_3502 := kp_3497 4 _ l_3482 (by decide) (Or.inl (by decide))
  have l_3503 := kp_3497 5 _ l_3476 (by decide) (Or.inr (q_is_cat f_3467 (Or.inl rfl)))
  refine go_aload_n (n := 2) (by decide +kernel) l_3500 f2 ?_
  obtain ⟨x_3505, hc_3504, h⟩ := bp_s h
  refine go_callV (x := 143) (mi := 185) (n := 0) (ci := 13) (as := []) (rest := []) (by decide +kernel) (by decide +kernel) rfl rfl (q_sum8 _ (Nat.le_of_ble_eq_true rfl)) R_3489 f2 (fx_k (c := 13) R_3489 (by decide +kernel)) (om_X12_thrown (Nat.le_trans (by decide) hd) R_3489 f2 hc_3504) (fun _ S_3509 q_3512 => ?_) (fun _ _ qq => kr_x qq)
  refine kr_z (by decide) q_3512 fun v_3507 f_3508 R_3510 E_3511 => ?_
  refine go_iload (n := 5) (by decide +kernel) l_3503 f_3467 ?_
  refine go_icmp (c := .eq) (o := 5) (t := 2186) (P := x_3505 = x_3464) (by decide +kernel) (by decide +kernel) f_3508 f_3467 (Iff.rfl) (fun hp_3513 => ?_) (fun hp_3513 => ?_)
  · have h := it_t hp_3513 h
    refine go_iload (n := 5) (by decide +kernel) l_3503 f_3467 ?_
    refine go_if (c := .ne) (o := 15) (t := 2203) (P := ¬ (x_3464 = 0)) (by decide +kernel) (by decide +kernel) f_3467 (Iff.rfl) (fun hp_3514 => ?_) (fun hp_3514 => ?_)
    · have h := it_f hp_3514 h
      refine go_goto (o := 394) (t := 2597) (by decide +kernel) (by decide +kernel) ?_
      refine go_iinc (n := 4) (c := 7) (c' := 7) (by decide +kernel) (by decide +kernel) l_3502 f4 (by decide) fun L_3515 v_3516 f_3517 l_3518 kp_3519 => ?_
      obtain ⟨x_3520, e_3521, h⟩ := lx_s h
      have f_3522 := q_is_eq f_3517 e_3521
      have l_3523 := kp_3519 0 _ l_3498 (by decide) (Or.inl (by decide))
      have l_3524 := kp_3519 1 _ l_3499 (by decide) (Or.inl (by decide))
      have l_3525 := kp_3519 2 _ l_3500 (by decide) (Or.inl (by decide))
      have l_3526 := kp_3519 3 _ l_3501 (by decide) (Or.inr (q_is_cat f3 (Or.inr rfl)))
      refine go_goto (o := (-2577)) (t := 23) (by decide +kernel) (by decide +kernel) ?_
      exact hc m_3485 E_3494 h R_3510 l_3523 f0 l_3524 f1 l_3525 f2 l_3526 f3 l_3518 f_3522
    · have h := it_n hp_3514 h
      refine go_aload_n (n := 3) (by decide +kernel) l_3501 f3 ?_
      refine go_iconst (n := 0) (z := 0) (by decide +kernel) (by decide) fun v_3527 f_3528 => ?_
      obtain ⟨x_3532, e_3533, h⟩ := lx_s h
      refine go_lald (kd := 101) (by decide +kernel) rfl R_3510 f3 f_3528 (fx_k (c := 101) R_3510 (by decide +kernel)) (fx_x (a := 162) (ln := 1) R_3510 (by decide +kernel) (by decide)) fun v_3529 f_3530 => ?_
      have f_3531 := q_is_eq f_3530 e_3533
      refine go_iload (n := 6) (by decide +kernel) l_3496 f_3487 ?_
      refine go_i2l (by decide +kernel) f_3487 fun v_3534 f_3535 => ?_
      refine go_lcmp (by decide +kernel) f_3531 f_3535 fun v_3536 f_3537 => ?_
      refine go_if (c := .eq) (o := 5) (t := 2203) (P := x_3532 = x_3484) (by decide +kernel) (by decide +kernel) f_3537 (lc_eq) (fun hp_3538 => ?_) (fun hp_3538 => ?_)
      · have h := it_t hp_3538 h
        refine go_goto (o := 394) (t := 2597) (by decide +kernel) (by decide +kernel) ?_
        refine go_iinc (n := 4) (c := 7) (c' := 7) (by decide +kernel) (by decide +kernel) l_3502 f4 (by decide) fun L_3539 v_3540 f_3541 l_3542 kp_3543 => ?_
        obtain ⟨x_3544, e_3545, h⟩ := lx_s h
        have f_3546 := q_is_eq f_3541 e_3545
        have l_3547 := kp_3543 0 _ l_3498 (by decide) (Or.inl (by decide))
        have l_3548 := kp_3543 1 _ l_3499 (by decide) (Or.inl (by decide))
        have l_3549 := kp_3543 2 _ l_3500 (by decide) (Or.inl (by decide))
        have l_3550 := kp_3543 3 _ l_3501 (by decide) (Or.inr (q_is_cat f3 (Or.inr rfl)))
        refine go_goto (o := (-2577)) (t := 23) (by decide +kernel) (by decide +kernel) ?_
        exact hc m_3485 E_3494 h R_3510 l_3547 f0 l_3548 f1 l_3549 f2 l_3550 f3 l_3542 f_3546
      · have h := it_f hp_3538 h
        refine go_iconst (n := 0) (z := 0) (by decide +kernel) (by decide) fun v_3551 f_3552 => ?_
        cases h
        exact go_iret (by decide +kernel) rfl (Or.inr ⟨rfl, by decide⟩) f_3552 (hQ E_3494 _ _ R_3510 (q_out_v (by decide) f_3552))
  · have h := it_f hp_3513 h
    refine go_iconst (n := 0) (z := 0) (by decide +kernel) (by decide) fun v_3553 f_3554 => ?_
    cases h
    exact go_iret (by decide +kernel) rfl (Or.inr ⟨rfl, by decide⟩) f_3554 (hQ E_3494 _ _ R_3510 (q_out_v (by decide) f_3554))
noncomputable def fj_L_law_2206 (xs : List Int32) (c : Int → MM → Option (Int × MM)) (y4 : Int) (m : MM) : Option (Int × MM) := gd (0 ≤ w32 (y4 + 1) ∧ w32 (y4 + 1) < (xs.length : Int)) <| gd (0 ≤ w32 (y4 + 2) ∧ w32 (y4 + 2) < (xs.length : Int)) <| gd (0 ≤ w32 (y4 + 3) ∧ w32 (y4 + 3) < (xs.length : Int)) <| gd (0 ≤ w32 (y4 + 4) ∧ w32 (y4 + 4) < (xs.length : Int)) <| bd (fm_L_schedule (scr xs (w32 (y4 + 1))) (scr xs (w32 (y4 + 2))) (scr xs (w32 (y4 + 3))) (scr xs (w32 (y4 + 4))) m) fun x_3586 m_3587 =>
bd (fm_X12_schedule (scr xs (w32 (y4 + 1))) (scr xs (w32 (y4 + 2))) (scr xs (w32 (y4 + 3))) (scr xs (w32 (y4 + 4))) m_3587) fun x_3630 m_3631 =>
bp (fm_X12_thrown m_3631) fun x_3651 =>
if x_3651 = x_3586 then
if x_3586 = 0 then
lx (m_3631 162 0) fun x_3678 =>
if x_3678 = x_3630 then
lx (w32 (y4 + 7)) fun x_3690 =>
c x_3690 m_3631
else
some (0, m_3631)
else
lx (w32 (y4 + 7)) fun x_3666 =>
c x_3666 m_3631
else
some (0, m_3631)
set_option maxHeartbeats 4000000 in
theorem oj_L_law_2206 {xs : List Int32} {d : Nat} {S : QS} {L : QL} {Q : QO → QS → Prop} {m : MM} {y4 : Int} {v0 : Value} {v1 : Value} {v2 : Value} {v3 : Value} {v4 : Value}  {rz : Int} {rm : MM} {c : Int → MM → Option (Int × MM)} 
  (hd : 174 ≤ d) (R : Rp S m) (l0 : q_lo L 0 = some v0) (f0 : q_is 7 v0 0) (l1 : q_lo L 1 = some v1) (f1 : q_is 2 v1 4) (l2 : q_lo L 2 = some v2) (f2 : q_is 2 v2 68) (l3 : q_lo L 3 = some v3) (f3 : q_is 2 v3 162) (l4 : q_lo L 4 = some v4) (f4 : q_is 0 v4 y4)
  (hc : ∀ mq : MM, Ext m mq → ∀ {z4 : Int} {Sq : QS} {Lq : QL} {u0 : Value} {u1 : Value} {u2 : Value} {u3 : Value} {u4 : Value}, c z4 mq = some (rz, rm) → Rp Sq mq → q_lo Lq 0 = some u0 → q_is 7 u0 0 → q_lo Lq 1 = some u1 → q_is 2 u1 4 → q_lo Lq 2 = some u2 → q_is 2 u2 68 → q_lo Lq 3 = some u3 → q_is 2 u3 162 → q_lo Lq 4 = some u4 → q_is 0 u4 z4 → Go xs d qM_L_law 23 Lq [] Sq Q)
  (hQ : Ext m rm → ∀ o S1, Rp S1 rm → q_out 0 o rz → Q o S1)
  (h : fj_L_law_2206 xs c y4 m = some (rz, rm)) : Go xs d qM_L_law 2206 L [] S Q := by
  unfold fj_L_law_2206 at h
  refine go_aload_n (n := 1) (by decide +kernel) l1 f1 ?_
  refine go_aloadS (n := 0) (by decide +kernel) l0 f0 ?_
  refine go_iload (n := 4) (by decide +kernel) l4 f4 ?_
  refine go_iconst (n := 1) (z := 1) (by decide +kernel) (by decide) fun v_3557 f_3558 => ?_
  refine go_iadd (by decide +kernel) f4 f_3558 fun v_3559 f_3560 => ?_
  obtain ⟨g_3563, h⟩ := gd_s h
  refine go_sld (by decide +kernel) f0 f_3560 g_3563 fun v_3561 f_3562 => ?_
  refine go_aloadS (n := 0) (by decide +kernel) l0 f0 ?_
  refine go_iload (n := 4) (by decide +kernel) l4 f4 ?_
  refine go_iconst (n := 2) (z := 2) (by decide +kernel) (by decide) fun v_3564 f_3565 => ?_
  refine go_iadd (by decide +kernel) f4 f_3565 fun v_3566 f_3567 => ?_
  obtain ⟨g_3570, h⟩ := gd_s h
  refine go_sld (by decide +kernel) f0 f_3567 g_3570 fun v_3568 f_3569 => ?_
  refine go_aloadS (n := 0) (by decide +kernel) l0 f0 ?_
  refine go_iload (n := 4) (by decide +kernel) l4 f4 ?_
  refine go_iconst (n := 3) (z := 3) (by decide +kernel) (by decide) fun v_3571 f_3572 => ?_
  refine go_iadd (by decide +kernel) f4 f_3572 fun v_3573 f_3574 => ?_
  obtain ⟨g_3577, h⟩ := gd_s h
  refine go_sld (by decide +kernel) f0 f_3574 g_3577 fun v_3575 f_3576 => ?_
  refine go_aloadS (n := 0) (by decide +kernel) l0 f0 ?_
  refine go_iload (n := 4) (by decide +kernel) l4 f4 ?_
  refine go_iconst (n := 4) (z := 4) (by decide +kernel) (by decide) fun v_3578 f_3579 => ?_
  refine go_iadd (by decide +kernel) f4 f_3579 fun v_3580 f_3581 => ?_
  obtain ⟨g_3584, h⟩ := gd_s h
  refine go_sld (by decide +kernel) f0 f_3581 g_3584 fun v_3582 f_3583 => ?_
  refine go_aload_n (n := 3) (by decide +kernel) l3 f3 ?_
  obtain ⟨x_3586, m_3587, hc_3585, h⟩ := bd_s h
  refine go_callS (x := 243) (mi := 370) (n := 6) (b := 0) (as := [v1, v_3561, v_3568, v_3575, v_3582, v3]) (rest := []) (by decide +kernel) (by decide +kernel) rfl rfl (q_sum8 _ (Nat.le_of_ble_eq_true rfl)) (om_L_schedule (Nat.le_trans (by decide) hd) R f1 f_3562 f_3569 f_3576 f_3583 f3 hc_3585) (fun _ S_3590 q_3593 => ?_) (fun _ _ qq => kr_x qq)
  refine kr_z (by decide) q_3593 fun v_3588 f_3589 R_3591 E_3592 => ?_
  have E_3596 := E_3592
  refine go_istore (n := 5) (by decide +kernel) (by decide +kernel) f_3589 fun L_3597 l_3598 kp_3599 => ?_
  have l_3600 := kp_3599 0 _ l0 (by decide) (Or.inl (by decide))
  have l_3601 := kp_3599 1 _ l1 (by decide) (Or.inl (by decide))
  have l_3602 := kp_3599 2 _ l2 (by decide) (Or.inl (by decide))
  have l_3603 := kp_3599 3 _ l3 (by decide) (Or.inl (by decide))
  have l_3604 := kp_3599 4 _ l4 (by decide) (Or.inr (q_is_cat f4 (Or.inl rfl)))
  refine go_aload_n (n := 2) (by decide +kernel) l_3602 f2 ?_
  refine go_aloadS (n := 0) (by decide +kernel) l_3600 f0 ?_
  refine go_iload (n := 4) (by decide +kernel) l_3604 f4 ?_
  refine go_iconst (n := 1) (z := 1) (by decide +kernel) (by decide) fun v_3605 f_3606 => ?_
  refine go_iadd (by decide +kernel) f4 f_3606 fun v_3607 f_3608 => ?_
  refine go_sld (by decide +kernel) f0 f_3608 g_3563 fun v_3609 f_3610 => ?_
  refine go_aloadS (n := 0) (by decide +kernel) l_3600 f0 ?_
  refine go_iload (n := 4) (by decide +kernel) l_3604 f4 ?_
  refine go_iconst (n := 2) (z := 2) (by decide +kernel) (by decide) fun v_3611 f_3612 => ?_
  refine go_iadd (by decide +kernel) f4 f_3612 fun v_3613 f_3614 => ?_
  refine go_sld (by decide +kernel) f0 f_3614 g_3570 fun v_3615 f_3616 => ?_
  refine go_aloadS (n := 0) (by decide +kernel) l_3600 f0 ?_
  refine go_iload (n := 4) (by decide +kernel) l_3604 f4 ?_
  refine go_iconst (n := 3) (z := 3) (by decide +kernel) (by decide) fun v_3617 f_3618 => ?_
  refine go_iadd (by decide +kernel) f4 f_3618 fun v_3619 f_3620 => ?_
  refine go_sld (by decide +kernel) f0 f_3620 g_3577 fun v_3621 f_3622 => ?_
  refine go_aloadS (n := 0) (by decide +kernel) l_3600 f0 ?_
  refine go_iload (n := 4) (by decide +kernel) l_3604 f4 ?_
  refine go_iconst (n := 4) (z := 4) (by decide +kernel) (by decide) fun v_3623 f_3624 => ?_
  refine go_iadd (by decide +kernel) f4 f_3624 fun v_3625 f_3626 => ?_
  refine go_sld (by decide +kernel) f0 f_3626 g_3584 fun v_3627 f_3628 => ?_
  obtain ⟨x_3630, m_3631, hc_3629, h⟩ := bd_s h
  refine go_callV (x := 245) (mi := 307) (n := 4) (ci := 13) (as := [v_3609, v_3615, v_3621, v_3627]) (rest := []) (by decide +kernel) (by decide +kernel) rfl rfl (q_sum8 _ (Nat.le_of_ble_eq_true rfl)) R_3591 f2 (fx_k (c := 13) R_3591 (by decide +kernel)) (om_X12_schedule (Nat.le_trans (by decide) hd) R_3591 f2 f_3610 f_3616 f_3622 f_3628 hc_3629) (fun _ S_3634 q_3637 => ?_) (fun _ _ qq => kr_x qq)
  refine kr_z (by decide) q_3637 fun v_3632 f_3633 R_3635 E_3636 => ?_
  have E_3640 := Ext.tr E_3596 E_3636
  refine go_istore (n := 6) (by decide +kernel) (by decide +kernel) f_3633 fun L_3641 l_3642 kp_3643 => ?_
  have l_3644 := kp_3643 0 _ l_3600 (by decide) (Or.inl (by decide))
  have l_3645 := kp_3643 1 _ l_3601 (by decide) (Or.inl (by decide))
  have l_3646 := kp_3643 2 _ l_3602 (by decide) (Or.inl (by decide))
  have l_3647 := kp_3643 3 _ l_3603 (by decide) (Or.inl (by decide))
  have l_3648 := kp_3643 4 _ l_3604 (by decide) (Or.inl (by decide))
  have l_3649 := kp_3643 5 _ l_3598 (by decide) (Or.inr (q_is_cat f_3589 (Or.inl rfl)))
  refine go_aload_n (n := 2) (by decide +kernel) l_3646 f2 ?_
  obtain ⟨x_3651, hc_3650, h⟩ := bp_s h
  refine go_callV (x := 143) (mi := 185) (n := 0) (ci := 13) (as := []) (rest := []) (by decide +kernel) (by decide +kernel) rfl rfl (q_sum8 _ (Nat.le_of_ble_eq_true rfl)) R_3635 f2 (fx_k (c := 13) R_3635 (by decide +kernel)) (om_X12_thrown (Nat.le_trans (by decide) hd) R_3635 f2 hc_3650) (fun _ S_3655 q_3658 => ?_) (fun _ _ qq => kr_x qq)
  refine kr_z (by decide) q_3658 fun v_3653 f_3654 R_3656 E_3657 => ?_
  refine go_iload (n := 5) (by decide +kernel) l_3649 f_3589 ?_
  refine go_icmp (c := .eq) (o := 5) (t := 2278) (P := x_3651 = x_3586) (by decide +kernel) (by decide +kernel) f_3654 f_3589 (Iff.rfl) (fun hp_3659 => ?_) (fun hp_3659 => ?_)
  · have h := it_t hp_3659 h
    refine go_iload (n := 5) (by decide +kernel) l_3649 f_3589 ?_
    refine go_if (c := .ne) (o := 15) (t := 2295) (P := ¬ (x_3586 = 0)) (by decide +kernel) (by decide +kernel) f_3589 (Iff.rfl) (fun hp_3660 => ?_) (fun hp_3660 => ?_)
    · have h := it_f hp_3660 h
      refine go_goto (o := 302) (t := 2597) (by decide +kernel) (by decide +kernel) ?_
      refine go_iinc (n := 4) (c := 7) (c' := 7) (by decide +kernel) (by decide +kernel) l_3648 f4 (by decide) fun L_3661 v_3662 f_3663 l_3664 kp_3665 => ?_
      obtain ⟨x_3666, e_3667, h⟩ := lx_s h
      have f_3668 := q_is_eq f_3663 e_3667
      have l_3669 := kp_3665 0 _ l_3644 (by decide) (Or.inl (by decide))
      have l_3670 := kp_3665 1 _ l_3645 (by decide) (Or.inl (by decide))
      have l_3671 := kp_3665 2 _ l_3646 (by decide) (Or.inl (by decide))
      have l_3672 := kp_3665 3 _ l_3647 (by decide) (Or.inr (q_is_cat f3 (Or.inr rfl)))
      refine go_goto (o := (-2577)) (t := 23) (by decide +kernel) (by decide +kernel) ?_
      exact hc m_3631 E_3640 h R_3656 l_3669 f0 l_3670 f1 l_3671 f2 l_3672 f3 l_3664 f_3668
    · have h := it_n hp_3660 h
      refine go_aload_n (n := 3) (by decide +kernel) l_3647 f3 ?_
      refine go_iconst (n := 0) (z := 0) (by decide +kernel) (by decide) fun v_3673 f_3674 => ?_
      obtain ⟨x_3678, e_3679, h⟩ := lx_s h
      refine go_lald (kd := 101) (by decide +kernel) rfl R_3656 f3 f_3674 (fx_k (c := 101) R_3656 (by decide +kernel)) (fx_x (a := 162) (ln := 1) R_3656 (by decide +kernel) (by decide)) fun v_3675 f_3676 => ?_
      have f_3677 := q_is_eq f_3676 e_3679
      refine go_iload (n := 6) (by decide +kernel) l_3642 f_3633 ?_
      refine go_i2l (by decide +kernel) f_3633 fun v_3680 f_3681 => ?_
      refine go_lcmp (by decide +kernel) f_3677 f_3681 fun v_3682 f_3683 => ?_
      refine go_if (c := .eq) (o := 5) (t := 2295) (P := x_3678 = x_3630) (by decide +kernel) (by decide +kernel) f_3683 (lc_eq) (fun hp_3684 => ?_) (fun hp_3684 => ?_)
      · have h := it_t hp_3684 h
        refine go_goto (o := 302) (t := 2597) (by decide +kernel) (by decide +kernel) ?_
        refine go_iinc (n := 4) (c := 7) (c' := 7) (by decide +kernel) (by decide +kernel) l_3648 f4 (by decide) fun L_3685 v_3686 f_3687 l_3688 kp_3689 => ?_
        obtain ⟨x_3690, e_3691, h⟩ := lx_s h
        have f_3692 := q_is_eq f_3687 e_3691
        have l_3693 := kp_3689 0 _ l_3644 (by decide) (Or.inl (by decide))
        have l_3694 := kp_3689 1 _ l_3645 (by decide) (Or.inl (by decide))
        have l_3695 := kp_3689 2 _ l_3646 (by decide) (Or.inl (by decide))
        have l_3696 := kp_3689 3 _ l_3647 (by decide) (Or.inr (q_is_cat f3 (Or.inr rfl)))
        refine go_goto (o := (-2577)) (t := 23) (by decide +kernel) (by decide +kernel) ?_
        exact hc m_3631 E_3640 h R_3656 l_3693 f0 l_3694 f1 l_3695 f2 l_3696 f3 l_3688 f_3692
      · have h := it_f hp_3684 h
        refine go_iconst (n := 0) (z := 0) (by decide +kernel) (by decide) fun v_3697 f_3698 => ?_
        cases h
        exact go_iret (by decide +kernel) rfl (Or.inr ⟨rfl, by decide⟩) f_3698 (hQ E_3640 _ _ R_3656 (q_out_v (by decide) f_3698))
  · have h := it_f hp_3659 h
    refine go_iconst (n := 0) (z := 0) (by decide +kernel) (by decide) fun v_3699 f_3700 => ?_
    cases h
    exact go_iret (by decide +kernel) rfl (Or.inr ⟨rfl, by decide⟩) f_3700 (hQ E_3640 _ _ R_3656 (q_out_v (by decide) f_3700))
noncomputable def fj_L_law_2352 (xs : List Int32) (c : Int → MM → Option (Int × MM)) (y4 s0 s1 : Int) (m : MM) : Option (Int × MM) := if s1 = s0 then
lx (w32 (y4 + 7)) fun x_3798 =>
c x_3798 m
else
some (0, m)
set_option maxHeartbeats 4000000 in
theorem oj_L_law_2352 {xs : List Int32} {d : Nat} {S : QS} {L : QL} {Q : QO → QS → Prop} {m : MM} {y4 s0 s1 : Int} {v0 : Value} {v1 : Value} {v2 : Value} {v3 : Value} {v4 : Value} {w0 : Value} {w1 : Value}  {rz : Int} {rm : MM} {c : Int → MM → Option (Int × MM)} 
  (hd : 174 ≤ d) (R : Rp S m) (l0 : q_lo L 0 = some v0) (f0 : q_is 7 v0 0) (l1 : q_lo L 1 = some v1) (f1 : q_is 2 v1 4) (l2 : q_lo L 2 = some v2) (f2 : q_is 2 v2 68) (l3 : q_lo L 3 = some v3) (f3 : q_is 2 v3 162) (l4 : q_lo L 4 = some v4) (f4 : q_is 0 v4 y4) (fs0 : q_is 1 w0 s0) (fs1 : q_is 1 w1 s1)
  (hc : ∀ mq : MM, Ext m mq → ∀ {z4 : Int} {Sq : QS} {Lq : QL} {u0 : Value} {u1 : Value} {u2 : Value} {u3 : Value} {u4 : Value}, c z4 mq = some (rz, rm) → Rp Sq mq → q_lo Lq 0 = some u0 → q_is 7 u0 0 → q_lo Lq 1 = some u1 → q_is 2 u1 4 → q_lo Lq 2 = some u2 → q_is 2 u2 68 → q_lo Lq 3 = some u3 → q_is 2 u3 162 → q_lo Lq 4 = some u4 → q_is 0 u4 z4 → Go xs d qM_L_law 23 Lq [] Sq Q)
  (hQ : Ext m rm → ∀ o S1, Rp S1 rm → q_out 0 o rz → Q o S1)
  (h : fj_L_law_2352 xs c y4 s0 s1 m = some (rz, rm)) : Go xs d qM_L_law 2352 L [w0, w1] S Q := by
  unfold fj_L_law_2352 at h
  refine go_lcmp (by decide +kernel) fs1 fs0 fun v_3790 f_3791 => ?_
  refine go_if (c := .eq) (o := 5) (t := 2358) (P := s1 = s0) (by decide +kernel) (by decide +kernel) f_3791 (lc_eq) (fun hp_3792 => ?_) (fun hp_3792 => ?_)
  · have h := it_t hp_3792 h
    refine go_goto (o := 239) (t := 2597) (by decide +kernel) (by decide +kernel) ?_
    refine go_iinc (n := 4) (c := 7) (c' := 7) (by decide +kernel) (by decide +kernel) l4 f4 (by decide) fun L_3793 v_3794 f_3795 l_3796 kp_3797 => ?_
    obtain ⟨x_3798, e_3799, h⟩ := lx_s h
    have f_3800 := q_is_eq f_3795 e_3799
    have l_3801 := kp_3797 0 _ l0 (by decide) (Or.inl (by decide))
    have l_3802 := kp_3797 1 _ l1 (by decide) (Or.inl (by decide))
    have l_3803 := kp_3797 2 _ l2 (by decide) (Or.inl (by decide))
    have l_3804 := kp_3797 3 _ l3 (by decide) (Or.inr (q_is_cat f3 (Or.inr rfl)))
    refine go_goto (o := (-2577)) (t := 23) (by decide +kernel) (by decide +kernel) ?_
    exact hc m (Ext.rf _) h R l_3801 f0 l_3802 f1 l_3803 f2 l_3804 f3 l_3796 f_3800
  · have h := it_f hp_3792 h
    refine go_iconst (n := 0) (z := 0) (by decide +kernel) (by decide) fun v_3805 f_3806 => ?_
    cases h
    exact go_iret (by decide +kernel) rfl (Or.inr ⟨rfl, by decide⟩) f_3806 (hQ (Ext.rf _) _ _ R (q_out_v (by decide) f_3806))
noncomputable def fj_L_law_2298 (xs : List Int32) (c : Int → MM → Option (Int × MM)) (y4 : Int) (m : MM) : Option (Int × MM) := gd (0 ≤ w32 (y4 + 1) ∧ w32 (y4 + 1) < (xs.length : Int)) <| bd (fm_L_togglePause (scr xs (w32 (y4 + 1))) m) fun x_3711 m_3712 =>
bd (fm_X12_togglePause (scr xs (w32 (y4 + 1))) m_3712) fun x_3737 m_3738 =>
bp (fm_X12_thrown m_3738) fun x_3758 =>
if x_3758 = x_3711 then
if x_3711 = 0 then
lx (m_3738 162 0) fun x_3785 =>
if x_3737 = 0 then
fj_L_law_2352 xs c y4 0 x_3785 m_3738
else
fj_L_law_2352 xs c y4 1 x_3785 m_3738
else
lx (w32 (y4 + 7)) fun x_3773 =>
c x_3773 m_3738
else
some (0, m_3738)
set_option maxHeartbeats 4000000 in
theorem oj_L_law_2298 {xs : List Int32} {d : Nat} {S : QS} {L : QL} {Q : QO → QS → Prop} {m : MM} {y4 : Int} {v0 : Value} {v1 : Value} {v2 : Value} {v3 : Value} {v4 : Value}  {rz : Int} {rm : MM} {c : Int → MM → Option (Int × MM)} 
  (hd : 174 ≤ d) (R : Rp S m) (l0 : q_lo L 0 = some v0) (f0 : q_is 7 v0 0) (l1 : q_lo L 1 = some v1) (f1 : q_is 2 v1 4) (l2 : q_lo L 2 = some v2) (f2 : q_is 2 v2 68) (l3 : q_lo L 3 = some v3) (f3 : q_is 2 v3 162) (l4 : q_lo L 4 = some v4) (f4 : q_is 0 v4 y4)
  (hc : ∀ mq : MM, Ext m mq → ∀ {z4 : Int} {Sq : QS} {Lq : QL} {u0 : Value} {u1 : Value} {u2 : Value} {u3 : Value} {u4 : Value}, c z4 mq = some (rz, rm) → Rp Sq mq → q_lo Lq 0 = some u0 → q_is 7 u0 0 → q_lo Lq 1 = some u1 → q_is 2 u1 4 → q_lo Lq 2 = some u2 → q_is 2 u2 68 → q_lo Lq 3 = some u3 → q_is 2 u3 162 → q_lo Lq 4 = some u4 → q_is 0 u4 z4 → Go xs d qM_L_law 23 Lq [] Sq Q)
  (hQ : Ext m rm → ∀ o S1, Rp S1 rm → q_out 0 o rz → Q o S1)
  (h : fj_L_law_2298 xs c y4 m = some (rz, rm)) : Go xs d qM_L_law 2298 L [] S Q := by
  unfold fj_L_law_2298 at h
  refine go_aload_n (n := 1) (by decide +kernel) l1 f1 ?_
  refine go_aloadS (n := 0) (by decide +kernel) l0 f0 ?_
  refine go_iload (n := 4) (by decide +kernel) l4 f4 ?_
  refine go_iconst (n := 1) (z := 1) (by decide +kernel) (by decide) fun v_3703 f_3704 => ?_
  refine go_iadd (by decide +kernel) f4 f_3704 fun v_3705 f_3706 => ?_
  obtain ⟨g_3709, h⟩ := gd_s h
  refine go_sld (by decide +kernel) f0 f_3706 g_3709 fun v_3707 f_3708 => ?_
  refine go_aload_n (n := 3) (by decide +kernel) l3 f3 ?_
  obtain ⟨x_3711, m_3712, hc_3710, h⟩ := bd_s h
  refine go_callS (x := 246) (mi := 371) (n := 3) (b := 0) (as := [v1, v_3707, v3]) (rest := []) (by decide +kernel) (by decide +kernel) rfl rfl (q_sum8 _ (Nat.le_of_ble_eq_true rfl)) (om_L_togglePause (Nat.le_trans (by decide) hd) R f1 f_3708 f3 hc_3710) (fun _ S_3715 q_3718 => ?_) (fun _ _ qq => kr_x qq)
  refine kr_z (by decide) q_3718 fun v_3713 f_3714 R_3716 E_3717 => ?_
  have E_3721 := E_3717
  refine go_istore (n := 5) (by decide +kernel) (by decide +kernel) f_3714 fun L_3722 l_3723 kp_3724 => ?_
  have l_3725 := kp_3724 0 _ l0 (by decide) (Or.inl (by decide))
  have l_3726 := kp_3724 1 _ l1 (by decide) (Or.inl (by decide))
  have l_3727 := kp_3724 2 _ l2 (by decide) (Or.inl (by decide))
  have l_3728 := kp_3724 3 _ l3 (by decide) (Or.inl (by decide))
  have l_3729 := kp_3724 4 _ l4 (by decide) (Or.inr (q_is_cat f4 (Or.inl rfl)))
  refine go_aload_n (n := 2) (by decide +kernel) l_3727 f2 ?_
  refine go_aloadS (n := 0) (by decide +kernel) l_3725 f0 ?_
  refine go_iload (n := 4) (by decide +kernel) l_3729 f4 ?_
  refine go_iconst (n := 1) (z := 1) (by decide +kernel) (by decide) fun v_3730 f_3731 => ?_
  refine go_iadd (by decide +kernel) f4 f_3731 fun v_3732 f_3733 => ?_
  refine go_sld (by decide +kernel) f0 f_3733 g_3709 fun v_3734 f_3735 => ?_
  obtain ⟨x_3737, m_3738, hc_3736, h⟩ := bd_s h
  refine go_callV (x := 248) (mi := 313) (n := 1) (ci := 13) (as := [v_3734]) (rest := []) (by decide +kernel) (by decide +kernel) rfl rfl (q_sum8 _ (Nat.le_of_ble_eq_true rfl)) R_3716 f2 (fx_k (c := 13) R_3716 (by decide +kernel)) (om_X12_togglePause (Nat.le_trans (by decide) hd) R_3716 f2 f_3735 hc_3736) (fun _ S_3741 q_3744 => ?_) (fun _ _ qq => kr_x qq)
  refine kr_z (by decide) q_3744 fun v_3739 f_3740 R_3742 E_3743 => ?_
  have E_3747 := Ext.tr E_3721 E_3743
  refine go_istore (n := 6) (by decide +kernel) (by decide +kernel) f_3740 fun L_3748 l_3749 kp_3750 => ?_
  have l_3751 := kp_3750 0 _ l_3725 (by decide) (Or.inl (by decide))
  have l_3752 := kp_3750 1 _ l_3726 (by decide) (Or.inl (by decide))
  have l_3753 := kp_3750 2 _ l_3727 (by decide) (Or.inl (by decide))
  have l_3754 := kp_3750 3 _ l_3728 (by decide) (Or.inl (by decide))
  have l_3755 := kp_3750 4 _ l_3729 (by decide) (Or.inl (by decide))
  have l_3756 := kp_3750 5 _ l_3723 (by decide) (Or.inr (q_is_cat f_3714 (Or.inl rfl)))
  refine go_aload_n (n := 2) (by decide +kernel) l_3753 f2 ?_
  obtain ⟨x_3758, hc_3757, h⟩ := bp_s h
  refine go_callV (x := 143) (mi := 185) (n := 0) (ci := 13) (as := []) (rest := []) (by decide +kernel) (by decide +kernel) rfl rfl (q_sum8 _ (Nat.le_of_ble_eq_true rfl)) R_3742 f2 (fx_k (c := 13) R_3742 (by decide +kernel)) (om_X12_thrown (Nat.le_trans (by decide) hd) R_3742 f2 hc_3757) (fun _ S_3762 q_3765 => ?_) (fun _ _ qq => kr_x qq)
  refine kr_z (by decide) q_3765 fun v_3760 f_3761 R_3763 E_3764 => ?_
  refine go_iload (n := 5) (by decide +kernel) l_3756 f_3714 ?_
  refine go_icmp (c := .eq) (o := 5) (t := 2334) (P := x_3758 = x_3711) (by decide +kernel) (by decide +kernel) f_3761 f_3714 (Iff.rfl) (fun hp_3766 => ?_) (fun hp_3766 => ?_)
  · have h := it_t hp_3766 h
    refine go_iload (n := 5) (by decide +kernel) l_3756 f_3714 ?_
    refine go_if (c := .ne) (o := 22) (t := 2358) (P := ¬ (x_3711 = 0)) (by decide +kernel) (by decide +kernel) f_3714 (Iff.rfl) (fun hp_3767 => ?_) (fun hp_3767 => ?_)
    · have h := it_f hp_3767 h
      refine go_goto (o := 239) (t := 2597) (by decide +kernel) (by decide +kernel) ?_
      refine go_iinc (n := 4) (c := 7) (c' := 7) (by decide +kernel) (by decide +kernel) l_3755 f4 (by decide) fun L_3768 v_3769 f_3770 l_3771 kp_3772 => ?_
      obtain ⟨x_3773, e_3774, h⟩ := lx_s h
      have f_3775 := q_is_eq f_3770 e_3774
      have l_3776 := kp_3772 0 _ l_3751 (by decide) (Or.inl (by decide))
      have l_3777 := kp_3772 1 _ l_3752 (by decide) (Or.inl (by decide))
      have l_3778 := kp_3772 2 _ l_3753 (by decide) (Or.inl (by decide))
      have l_3779 := kp_3772 3 _ l_3754 (by decide) (Or.inr (q_is_cat f3 (Or.inr rfl)))
      refine go_goto (o := (-2577)) (t := 23) (by decide +kernel) (by decide +kernel) ?_
      exact hc m_3738 E_3747 h R_3763 l_3776 f0 l_3777 f1 l_3778 f2 l_3779 f3 l_3771 f_3775
    · have h := it_n hp_3767 h
      refine go_aload_n (n := 3) (by decide +kernel) l_3754 f3 ?_
      refine go_iconst (n := 0) (z := 0) (by decide +kernel) (by decide) fun v_3780 f_3781 => ?_
      obtain ⟨x_3785, e_3786, h⟩ := lx_s h
      refine go_lald (kd := 101) (by decide +kernel) rfl R_3763 f3 f_3781 (fx_k (c := 101) R_3763 (by decide +kernel)) (fx_x (a := 162) (ln := 1) R_3763 (by decide +kernel) (by decide)) fun v_3782 f_3783 => ?_
      have f_3784 := q_is_eq f_3783 e_3786
      refine go_iload (n := 6) (by decide +kernel) l_3749 f_3740 ?_
      refine go_if (c := .eq) (o := 7) (t := 2351) (P := x_3737 = 0) (by decide +kernel) (by decide +kernel) f_3740 (Iff.rfl) (fun hp_3787 => ?_) (fun hp_3787 => ?_)
      · have h := it_t hp_3787 h
        refine go_lconst (n := 0) (z := 0) (by decide +kernel) (by decide) fun v_3788 f_3789 => ?_
        exact oj_L_law_2352 hd R_3763 l_3751 f0 l_3752 f1 l_3753 f2 l_3754 f3 l_3755 f4 f_3789 f_3784 (fun mq b => hc mq (Ext.tr E_3747 b)) (fun b => hQ (Ext.tr E_3747 b)) h
      · have h := it_f hp_3787 h
        refine go_lconst (n := 1) (z := 1) (by decide +kernel) (by decide) fun v_3807 f_3808 => ?_
        refine go_goto (o := 4) (t := 2352) (by decide +kernel) (by decide +kernel) ?_
        exact oj_L_law_2352 hd R_3763 l_3751 f0 l_3752 f1 l_3753 f2 l_3754 f3 l_3755 f4 f_3808 f_3784 (fun mq b => hc mq (Ext.tr E_3747 b)) (fun b => hQ (Ext.tr E_3747 b)) h
  · have h := it_f hp_3766 h
    refine go_iconst (n := 0) (z := 0) (by decide +kernel) (by decide) fun v_3809 f_3810 => ?_
    cases h
    exact go_iret (by decide +kernel) rfl (Or.inr ⟨rfl, by decide⟩) f_3810 (hQ E_3747 _ _ R_3763 (q_out_v (by decide) f_3810))
noncomputable def fj_L_law_2361 (xs : List Int32) (c : Int → MM → Option (Int × MM)) (y4 : Int) (m : MM) : Option (Int × MM) := gd (0 ≤ w32 (y4 + 1) ∧ w32 (y4 + 1) < (xs.length : Int)) <| gd (0 ≤ w32 (y4 + 2) ∧ w32 (y4 + 2) < (xs.length : Int)) <| bd (fm_L_backfill (scr xs (w32 (y4 + 1))) (scr xs (w32 (y4 + 2))) m) fun x_3828 m_3829 =>
bd (fm_X12_backfill (scr xs (w32 (y4 + 1))) (scr xs (w32 (y4 + 2))) m_3829) fun x_3860 m_3861 =>
bp (fm_X12_thrown m_3861) fun x_3881 =>
if x_3881 = x_3828 then
if x_3828 = 0 then
lx (m_3861 162 0) fun x_3908 =>
if x_3908 = x_3860 then
lx (w32 (y4 + 7)) fun x_3920 =>
c x_3920 m_3861
else
some (0, m_3861)
else
lx (w32 (y4 + 7)) fun x_3896 =>
c x_3896 m_3861
else
some (0, m_3861)
set_option maxHeartbeats 4000000 in
theorem oj_L_law_2361 {xs : List Int32} {d : Nat} {S : QS} {L : QL} {Q : QO → QS → Prop} {m : MM} {y4 : Int} {v0 : Value} {v1 : Value} {v2 : Value} {v3 : Value} {v4 : Value}  {rz : Int} {rm : MM} {c : Int → MM → Option (Int × MM)} 
  (hd : 174 ≤ d) (R : Rp S m) (l0 : q_lo L 0 = some v0) (f0 : q_is 7 v0 0) (l1 : q_lo L 1 = some v1) (f1 : q_is 2 v1 4) (l2 : q_lo L 2 = some v2) (f2 : q_is 2 v2 68) (l3 : q_lo L 3 = some v3) (f3 : q_is 2 v3 162) (l4 : q_lo L 4 = some v4) (f4 : q_is 0 v4 y4)
  (hc : ∀ mq : MM, Ext m mq → ∀ {z4 : Int} {Sq : QS} {Lq : QL} {u0 : Value} {u1 : Value} {u2 : Value} {u3 : Value} {u4 : Value}, c z4 mq = some (rz, rm) → Rp Sq mq → q_lo Lq 0 = some u0 → q_is 7 u0 0 → q_lo Lq 1 = some u1 → q_is 2 u1 4 → q_lo Lq 2 = some u2 → q_is 2 u2 68 → q_lo Lq 3 = some u3 → q_is 2 u3 162 → q_lo Lq 4 = some u4 → q_is 0 u4 z4 → Go xs d qM_L_law 23 Lq [] Sq Q)
  (hQ : Ext m rm → ∀ o S1, Rp S1 rm → q_out 0 o rz → Q o S1)
  (h : fj_L_law_2361 xs c y4 m = some (rz, rm)) : Go xs d qM_L_law 2361 L [] S Q := by
  unfold fj_L_law_2361 at h
  refine go_aload_n (n := 1) (by decide +kernel) l1 f1 ?_
  refine go_aloadS (n := 0) (by decide +kernel) l0 f0 ?_
  refine go_iload (n := 4) (by decide +kernel) l4 f4 ?_
  refine go_iconst (n := 1) (z := 1) (by decide +kernel) (by decide) fun v_3813 f_3814 => ?_
  refine go_iadd (by decide +kernel) f4 f_3814 fun v_3815 f_3816 => ?_
  obtain ⟨g_3819, h⟩ := gd_s h
  refine go_sld (by decide +kernel) f0 f_3816 g_3819 fun v_3817 f_3818 => ?_
  refine go_aloadS (n := 0) (by decide +kernel) l0 f0 ?_
  refine go_iload (n := 4) (by decide +kernel) l4 f4 ?_
  refine go_iconst (n := 2) (z := 2) (by decide +kernel) (by decide) fun v_3820 f_3821 => ?_
  refine go_iadd (by decide +kernel) f4 f_3821 fun v_3822 f_3823 => ?_
  obtain ⟨g_3826, h⟩ := gd_s h
  refine go_sld (by decide +kernel) f0 f_3823 g_3826 fun v_3824 f_3825 => ?_
  refine go_aload_n (n := 3) (by decide +kernel) l3 f3 ?_
  obtain ⟨x_3828, m_3829, hc_3827, h⟩ := bd_s h
  refine go_callS (x := 249) (mi := 372) (n := 4) (b := 0) (as := [v1, v_3817, v_3824, v3]) (rest := []) (by decide +kernel) (by decide +kernel) rfl rfl (q_sum8 _ (Nat.le_of_ble_eq_true rfl)) (om_L_backfill (Nat.le_trans (by decide) hd) R f1 f_3818 f_3825 f3 hc_3827) (fun _ S_3832 q_3835 => ?_) (fun _ _ qq => kr_x qq)
  refine kr_z (by decide) q_3835 fun v_3830 f_3831 R_3833 E_3834 => ?_
  have E_3838 := E_3834
  refine go_istore (n := 5) (by decide +kernel) (by decide +kernel) f_3831 fun L_3839 l_3840 kp_3841 => ?_
  have l_3842 := kp_3841 0 _ l0 (by decide) (Or.inl (by decide))
  have l_3843 := kp_3841 1 _ l1 (by decide) (Or.inl (by decide))
  have l_3844 := kp_3841 2 _ l2 (by decide) (Or.inl (by decide))
  have l_3845 := kp_3841 3 _ l3 (by decide) (Or.inl (by decide))
  have l_3846 := kp_3841 4 _ l4 (by decide) (Or.inr (q_is_cat f4 (Or.inl rfl)))
  refine go_aload_n (n := 2) (by decide +kernel) l_3844 f2 ?_
  refine go_aloadS (n := 0) (by decide +kernel) l_3842 f0 ?_
  refine go_iload (n := 4) (by decide +kernel) l_3846 f4 ?_
  refine go_iconst (n := 1) (z := 1) (by decide +kernel) (by decide) fun v_3847 f_3848 => ?_
  refine go_iadd (by decide +kernel) f4 f_3848 fun v_3849 f_3850 => ?_
  refine go_sld (by decide +kernel) f0 f_3850 g_3819 fun v_3851 f_3852 => ?_
  refine go_aloadS (n := 0) (by decide +kernel) l_3842 f0 ?_
  refine go_iload (n := 4) (by decide +kernel) l_3846 f4 ?_
  refine go_iconst (n := 2) (z := 2) (by decide +kernel) (by decide) fun v_3853 f_3854 => ?_
  refine go_iadd (by decide +kernel) f4 f_3854 fun v_3855 f_3856 => ?_
  refine go_sld (by decide +kernel) f0 f_3856 g_3826 fun v_3857 f_3858 => ?_
  obtain ⟨x_3860, m_3861, hc_3859, h⟩ := bd_s h
  refine go_callV (x := 251) (mi := 314) (n := 2) (ci := 13) (as := [v_3851, v_3857]) (rest := []) (by decide +kernel) (by decide +kernel) rfl rfl (q_sum8 _ (Nat.le_of_ble_eq_true rfl)) R_3833 f2 (fx_k (c := 13) R_3833 (by decide +kernel)) (om_X12_backfill (Nat.le_trans (by decide) hd) R_3833 f2 f_3852 f_3858 hc_3859) (fun _ S_3864 q_3867 => ?_) (fun _ _ qq => kr_x qq)
  refine kr_z (by decide) q_3867 fun v_3862 f_3863 R_3865 E_3866 => ?_
  have E_3870 := Ext.tr E_3838 E_3866
  refine go_istore (n := 6) (by decide +kernel) (by decide +kernel) f_3863 fun L_3871 l_3872 kp_3873 => ?_
  have l_3874 := kp_3873 0 _ l_3842 (by decide) (Or.inl (by decide))
  have l_3875 := kp_3873 1 _ l_3843 (by decide) (Or.inl (by decide))
  have l_3876 := kp_3873 2 _ l_3844 (by decide) (Or.inl (by decide))
  have l_3877 := kp_3873 3 _ l_3845 (by decide) (Or.inl (by decide))
  have l_3878 := kp_3873 4 _ l_3846 (by decide) (Or.inl (by decide))
  have l_3879 := kp_3873 5 _ l_3840 (by decide) (Or.inr (q_is_cat f_3831 (Or.inl rfl)))
  refine go_aload_n (n := 2) (by decide +kernel) l_3876 f2 ?_
  obtain ⟨x_3881, hc_3880, h⟩ := bp_s h
  refine go_callV (x := 143) (mi := 185) (n := 0) (ci := 13) (as := []) (rest := []) (by decide +kernel) (by decide +kernel) rfl rfl (q_sum8 _ (Nat.le_of_ble_eq_true rfl)) R_3865 f2 (fx_k (c := 13) R_3865 (by decide +kernel)) (om_X12_thrown (Nat.le_trans (by decide) hd) R_3865 f2 hc_3880) (fun _ S_3885 q_3888 => ?_) (fun _ _ qq => kr_x qq)
  refine kr_z (by decide) q_3888 fun v_3883 f_3884 R_3886 E_3887 => ?_
  refine go_iload (n := 5) (by decide +kernel) l_3879 f_3831 ?_
  refine go_icmp (c := .eq) (o := 5) (t := 2409) (P := x_3881 = x_3828) (by decide +kernel) (by decide +kernel) f_3884 f_3831 (Iff.rfl) (fun hp_3889 => ?_) (fun hp_3889 => ?_)
  · have h := it_t hp_3889 h
    refine go_iload (n := 5) (by decide +kernel) l_3879 f_3831 ?_
    refine go_if (c := .ne) (o := 15) (t := 2426) (P := ¬ (x_3828 = 0)) (by decide +kernel) (by decide +kernel) f_3831 (Iff.rfl) (fun hp_3890 => ?_) (fun hp_3890 => ?_)
    · have h := it_f hp_3890 h
      refine go_goto (o := 171) (t := 2597) (by decide +kernel) (by decide +kernel) ?_
      refine go_iinc (n := 4) (c := 7) (c' := 7) (by decide +kernel) (by decide +kernel) l_3878 f4 (by decide) fun L_3891 v_3892 f_3893 l_3894 kp_3895 => ?_
      obtain ⟨x_3896, e_3897, h⟩ := lx_s h
      have f_3898 := q_is_eq f_3893 e_3897
      have l_3899 := kp_3895 0 _ l_3874 (by decide) (Or.inl (by decide))
      have l_3900 := kp_3895 1 _ l_3875 (by decide) (Or.inl (by decide))
      have l_3901 := kp_3895 2 _ l_3876 (by decide) (Or.inl (by decide))
      have l_3902 := kp_3895 3 _ l_3877 (by decide) (Or.inr (q_is_cat f3 (Or.inr rfl)))
      refine go_goto (o := (-2577)) (t := 23) (by decide +kernel) (by decide +kernel) ?_
      exact hc m_3861 E_3870 h R_3886 l_3899 f0 l_3900 f1 l_3901 f2 l_3902 f3 l_3894 f_3898
    · have h := it_n hp_3890 h
      refine go_aload_n (n := 3) (by decide +kernel) l_3877 f3 ?_
      refine go_iconst (n := 0) (z := 0) (by decide +kernel) (by decide) fun v_3903 f_3904 => ?_
      obtain ⟨x_3908, e_3909, h⟩ := lx_s h
      refine go_lald (kd := 101) (by decide +kernel) rfl R_3886 f3 f_3904 (fx_k (c := 101) R_3886 (by decide +kernel)) (fx_x (a := 162) (ln := 1) R_3886 (by decide +kernel) (by decide)) fun v_3905 f_3906 => ?_
      have f_3907 := q_is_eq f_3906 e_3909
      refine go_iload (n := 6) (by decide +kernel) l_3872 f_3863 ?_
      refine go_i2l (by decide +kernel) f_3863 fun v_3910 f_3911 => ?_
      refine go_lcmp (by decide +kernel) f_3907 f_3911 fun v_3912 f_3913 => ?_
      refine go_if (c := .eq) (o := 5) (t := 2426) (P := x_3908 = x_3860) (by decide +kernel) (by decide +kernel) f_3913 (lc_eq) (fun hp_3914 => ?_) (fun hp_3914 => ?_)
      · have h := it_t hp_3914 h
        refine go_goto (o := 171) (t := 2597) (by decide +kernel) (by decide +kernel) ?_
        refine go_iinc (n := 4) (c := 7) (c' := 7) (by decide +kernel) (by decide +kernel) l_3878 f4 (by decide) fun L_3915 v_3916 f_3917 l_3918 kp_3919 => ?_
        obtain ⟨x_3920, e_3921, h⟩ := lx_s h
        have f_3922 := q_is_eq f_3917 e_3921
        have l_3923 := kp_3919 0 _ l_3874 (by decide) (Or.inl (by decide))
        have l_3924 := kp_3919 1 _ l_3875 (by decide) (Or.inl (by decide))
        have l_3925 := kp_3919 2 _ l_3876 (by decide) (Or.inl (by decide))
        have l_3926 := kp_3919 3 _ l_3877 (by decide) (Or.inr (q_is_cat f3 (Or.inr rfl)))
        refine go_goto (o := (-2577)) (t := 23) (by decide +kernel) (by decide +kernel) ?_
        exact hc m_3861 E_3870 h R_3886 l_3923 f0 l_3924 f1 l_3925 f2 l_3926 f3 l_3918 f_3922
      · have h := it_f hp_3914 h
        refine go_iconst (n := 0) (z := 0) (by decide +kernel) (by decide) fun v_3927 f_3928 => ?_
        cases h
        exact go_iret (by decide +kernel) rfl (Or.inr ⟨rfl, by decide⟩) f_3928 (hQ E_3870 _ _ R_3886 (q_out_v (by decide) f_3928))
  · have h := it_f hp_3889 h
    refine go_iconst (n := 0) (z := 0) (by decide +kernel) (by decide) fun v_3929 f_3930 => ?_
    cases h
    exact go_iret (by decide +kernel) rfl (Or.inr ⟨rfl, by decide⟩) f_3930 (hQ E_3870 _ _ R_3886 (q_out_v (by decide) f_3930))
noncomputable def fj_L_law_2429 (xs : List Int32) (c : Int → MM → Option (Int × MM)) (y4 : Int) (m : MM) : Option (Int × MM) := gd (0 ≤ w32 (y4 + 1) ∧ w32 (y4 + 1) < (xs.length : Int)) <| bd (fm_L_shift (scr xs (w32 (y4 + 1))) m) fun x_3941 m_3942 =>
bd (fm_X12_shift (scr xs (w32 (y4 + 1))) m_3942) fun x_3967 m_3968 =>
bp (fm_X12_thrown m_3968) fun x_3988 =>
if x_3988 = x_3941 then
if x_3941 = 0 then
lx (m_3968 162 0) fun x_4015 =>
if x_4015 = x_3967 then
lx (w32 (y4 + 7)) fun x_4027 =>
c x_4027 m_3968
else
some (0, m_3968)
else
lx (w32 (y4 + 7)) fun x_4003 =>
c x_4003 m_3968
else
some (0, m_3968)
set_option maxHeartbeats 4000000 in
theorem oj_L_law_2429 {xs : List Int32} {d : Nat} {S : QS} {L : QL} {Q : QO → QS → Prop} {m : MM} {y4 : Int} {v0 : Value} {v1 : Value} {v2 : Value} {v3 : Value} {v4 : Value}  {rz : Int} {rm : MM} {c : Int → MM → Option (Int × MM)} 
  (hd : 174 ≤ d) (R : Rp S m) (l0 : q_lo L 0 = some v0) (f0 : q_is 7 v0 0) (l1 : q_lo L 1 = some v1) (f1 : q_is 2 v1 4) (l2 : q_lo L 2 = some v2) (f2 : q_is 2 v2 68) (l3 : q_lo L 3 = some v3) (f3 : q_is 2 v3 162) (l4 : q_lo L 4 = some v4) (f4 : q_is 0 v4 y4)
  (hc : ∀ mq : MM, Ext m mq → ∀ {z4 : Int} {Sq : QS} {Lq : QL} {u0 : Value} {u1 : Value} {u2 : Value} {u3 : Value} {u4 : Value}, c z4 mq = some (rz, rm) → Rp Sq mq → q_lo Lq 0 = some u0 → q_is 7 u0 0 → q_lo Lq 1 = some u1 → q_is 2 u1 4 → q_lo Lq 2 = some u2 → q_is 2 u2 68 → q_lo Lq 3 = some u3 → q_is 2 u3 162 → q_lo Lq 4 = some u4 → q_is 0 u4 z4 → Go xs d qM_L_law 23 Lq [] Sq Q)
  (hQ : Ext m rm → ∀ o S1, Rp S1 rm → q_out 0 o rz → Q o S1)
  (h : fj_L_law_2429 xs c y4 m = some (rz, rm)) : Go xs d qM_L_law 2429 L [] S Q := by
  unfold fj_L_law_2429 at h
  refine go_aload_n (n := 1) (by decide +kernel) l1 f1 ?_
  refine go_aloadS (n := 0) (by decide +kernel) l0 f0 ?_
  refine go_iload (n := 4) (by decide +kernel) l4 f4 ?_
  refine go_iconst (n := 1) (z := 1) (by decide +kernel) (by decide) fun v_3933 f_3934 => ?_
  refine go_iadd (by decide +kernel) f4 f_3934 fun v_3935 f_3936 => ?_
  obtain ⟨g_3939, h⟩ := gd_s h
  refine go_sld (by decide +kernel) f0 f_3936 g_3939 fun v_3937 f_3938 => ?_
  refine go_aload_n (n := 3) (by decide +kernel) l3 f3 ?_
  obtain ⟨x_3941, m_3942, hc_3940, h⟩ := bd_s h
  refine go_callS (x := 252) (mi := 373) (n := 3) (b := 0) (as := [v1, v_3937, v3]) (rest := []) (by decide +kernel) (by decide +kernel) rfl rfl (q_sum8 _ (Nat.le_of_ble_eq_true rfl)) (om_L_shift (Nat.le_trans (by decide) hd) R f1 f_3938 f3 hc_3940) (fun _ S_3945 q_3948 => ?_) (fun _ _ qq => kr_x qq)
  refine kr_z (by decide) q_3948 fun v_3943 f_3944 R_3946 E_3947 => ?_
  have E_3951 := E_3947
  refine go_istore (n := 5) (by decide +kernel) (by decide +kernel) f_3944 fun L_3952 l_3953 kp_3954 => ?_
  have l_3955 := kp_3954 0 _ l0 (by decide) (Or.inl (by decide))
  have l_3956 := kp_3954 1 _ l1 (by decide) (Or.inl (by decide))
  have l_3957 := kp_3954 2 _ l2 (by decide) (Or.inl (by decide))
  have l_3958 := kp_3954 3 _ l3 (by decide) (Or.inl (by decide))
  have l_3959 := kp_3954 4 _ l4 (by decide) (Or.inr (q_is_cat f4 (Or.inl rfl)))
  refine go_aload_n (n := 2) (by decide +kernel) l_3957 f2 ?_
  refine go_aloadS (n := 0) (by decide +kernel) l_3955 f0 ?_
  refine go_iload (n := 4) (by decide +kernel) l_3959 f4 ?_
  refine go_iconst (n := 1) (z := 1) (by decide +kernel) (by decide) fun v_3960 f_3961 => ?_
  refine go_iadd (by decide +kernel) f4 f_3961 fun v_3962 f_3963 => ?_
  refine go_sld (by decide +kernel) f0 f_3963 g_3939 fun v_3964 f_3965 => ?_
  obtain ⟨x_3967, m_3968, hc_3966, h⟩ := bd_s h
  refine go_callV (x := 254) (mi := 315) (n := 1) (ci := 13) (as := [v_3964]) (rest := []) (by decide +kernel) (by decide +kernel) rfl rfl (q_sum8 _ (Nat.le_of_ble_eq_true rfl)) R_3946 f2 (fx_k (c := 13) R_3946 (by decide +kernel)) (om_X12_shift (Nat.le_trans (by decide) hd) R_3946 f2 f_3965 hc_3966) (fun _ S_3971 q_3974 => ?_) (fun _ _ qq => kr_x qq)
  refine kr_z (by decide) q_3974 fun v_3969 f_3970 R_3972 E_3973 => ?_
  have E_3977 := Ext.tr E_3951 E_3973
  refine go_istore (n := 6) (by decide +kernel) (by decide +kernel) f_3970 fun L_3978 l_3979 kp_3980 => ?_
  have l_3981 := kp_3980 0 _ l_3955 (by decide) (Or.inl (by decide))
  have l_3982 := kp_3980 1 _ l_3956 (by decide) (Or.inl (by decide))
  have l_3983 := kp_3980 2 _ l_3957 (by decide) (Or.inl (by decide))
  have l_3984 := kp_3980 3 _ l_3958 (by decide) (Or.inl (by decide))
  have l_3985 := kp_3980 4 _ l_3959 (by decide) (Or.inl (by decide))
  have l_3986 := kp_3980 5 _ l_3953 (by decide) (Or.inr (q_is_cat f_3944 (Or.inl rfl)))
  refine go_aload_n (n := 2) (by decide +kernel) l_3983 f2 ?_
  obtain ⟨x_3988, hc_3987, h⟩ := bp_s h
  refine go_callV (x := 143) (mi := 185) (n := 0) (ci := 13) (as := []) (rest := []) (by decide +kernel) (by decide +kernel) rfl rfl (q_sum8 _ (Nat.le_of_ble_eq_true rfl)) R_3972 f2 (fx_k (c := 13) R_3972 (by decide +kernel)) (om_X12_thrown (Nat.le_trans (by decide) hd) R_3972 f2 hc_3987) (fun _ S_3992 q_3995 => ?_) (fun _ _ qq => kr_x qq)
  refine kr_z (by decide) q_3995 fun v_3990 f_3991 R_3993 E_3994 => ?_
  refine go_iload (n := 5) (by decide +kernel) l_3986 f_3944 ?_
  refine go_icmp (c := .eq) (o := 5) (t := 2465) (P := x_3988 = x_3941) (by decide +kernel) (by decide +kernel) f_3991 f_3944 (Iff.rfl) (fun hp_3996 => ?_) (fun hp_3996 => ?_)
  · have h := it_t hp_3996 h
    refine go_iload (n := 5) (by decide +kernel) l_3986 f_3944 ?_
    refine go_if (c := .ne) (o := 15) (t := 2482) (P := ¬ (x_3941 = 0)) (by decide +kernel) (by decide +kernel) f_3944 (Iff.rfl) (fun hp_3997 => ?_) (fun hp_3997 => ?_)
    · have h := it_f hp_3997 h
      refine go_goto (o := 115) (t := 2597) (by decide +kernel) (by decide +kernel) ?_
      refine go_iinc (n := 4) (c := 7) (c' := 7) (by decide +kernel) (by decide +kernel) l_3985 f4 (by decide) fun L_3998 v_3999 f_4000 l_4001 kp_4002 => ?_
      obtain ⟨x_4003, e_4004, h⟩ := lx_s h
      have f_4005 := q_is_eq f_4000 e_4004
      have l_4006 := kp_4002 0 _ l_3981 (by decide) (Or.inl (by decide))
      have l_4007 := kp_4002 1 _ l_3982 (by decide) (Or.inl (by decide))
      have l_4008 := kp_4002 2 _ l_3983 (by decide) (Or.inl (by decide))
      have l_4009 := kp_4002 3 _ l_3984 (by decide) (Or.inr (q_is_cat f3 (Or.inr rfl)))
      refine go_goto (o := (-2577)) (t := 23) (by decide +kernel) (by decide +kernel) ?_
      exact hc m_3968 E_3977 h R_3993 l_4006 f0 l_4007 f1 l_4008 f2 l_4009 f3 l_4001 f_4005
    · have h := it_n hp_3997 h
      refine go_aload_n (n := 3) (by decide +kernel) l_3984 f3 ?_
      refine go_iconst (n := 0) (z := 0) (by decide +kernel) (by decide) fun v_4010 f_4011 => ?_
      obtain ⟨x_4015, e_4016, h⟩ := lx_s h
      refine go_lald (kd := 101) (by decide +kernel) rfl R_3993 f3 f_4011 (fx_k (c := 101) R_3993 (by decide +kernel)) (fx_x (a := 162) (ln := 1) R_3993 (by decide +kernel) (by decide)) fun v_4012 f_4013 => ?_
      have f_4014 := q_is_eq f_4013 e_4016
      refine go_iload (n := 6) (by decide +kernel) l_3979 f_3970 ?_
      refine go_i2l (by decide +kernel) f_3970 fun v_4017 f_4018 => ?_
      refine go_lcmp (by decide +kernel) f_4014 f_4018 fun v_4019 f_4020 => ?_
      refine go_if (c := .eq) (o := 5) (t := 2482) (P := x_4015 = x_3967) (by decide +kernel) (by decide +kernel) f_4020 (lc_eq) (fun hp_4021 => ?_) (fun hp_4021 => ?_)
      · have h := it_t hp_4021 h
        refine go_goto (o := 115) (t := 2597) (by decide +kernel) (by decide +kernel) ?_
        refine go_iinc (n := 4) (c := 7) (c' := 7) (by decide +kernel) (by decide +kernel) l_3985 f4 (by decide) fun L_4022 v_4023 f_4024 l_4025 kp_4026 => ?_
        obtain ⟨x_4027, e_4028, h⟩ := lx_s h
        have f_4029 := q_is_eq f_4024 e_4028
        have l_4030 := kp_4026 0 _ l_3981 (by decide) (Or.inl (by decide))
        have l_4031 := kp_4026 1 _ l_3982 (by decide) (Or.inl (by decide))
        have l_4032 := kp_4026 2 _ l_3983 (by decide) (Or.inl (by decide))
        have l_4033 := kp_4026 3 _ l_3984 (by decide) (Or.inr (q_is_cat f3 (Or.inr rfl)))
        refine go_goto (o := (-2577)) (t := 23) (by decide +kernel) (by decide +kernel) ?_
        exact hc m_3968 E_3977 h R_3993 l_4030 f0 l_4031 f1 l_4032 f2 l_4033 f3 l_4025 f_4029
      · have h := it_f hp_4021 h
        refine go_iconst (n := 0) (z := 0) (by decide +kernel) (by decide) fun v_4034 f_4035 => ?_
        cases h
        exact go_iret (by decide +kernel) rfl (Or.inr ⟨rfl, by decide⟩) f_4035 (hQ E_3977 _ _ R_3993 (q_out_v (by decide) f_4035))
  · have h := it_f hp_3996 h
    refine go_iconst (n := 0) (z := 0) (by decide +kernel) (by decide) fun v_4036 f_4037 => ?_
    cases h
    exact go_iret (by decide +kernel) rfl (Or.inr ⟨rfl, by decide⟩) f_4037 (hQ E_3977 _ _ R_3993 (q_out_v (by decide) f_4037))
noncomputable def fj_L_law_2485 (xs : List Int32) (c : Int → MM → Option (Int × MM)) (y4 : Int) (m : MM) : Option (Int × MM) := gd (0 ≤ w32 (y4 + 1) ∧ w32 (y4 + 1) < (xs.length : Int)) <| bd (fm_L_bringIn (scr xs (w32 (y4 + 1))) m) fun x_4048 m_4049 =>
bd (fm_X12_bringIn (scr xs (w32 (y4 + 1))) m_4049) fun x_4074 m_4075 =>
bp (fm_X12_thrown m_4075) fun x_4095 =>
if x_4095 = x_4048 then
if x_4048 = 0 then
lx (m_4075 162 0) fun x_4122 =>
if x_4122 = x_4074 then
lx (w32 (y4 + 7)) fun x_4134 =>
c x_4134 m_4075
else
some (0, m_4075)
else
lx (w32 (y4 + 7)) fun x_4110 =>
c x_4110 m_4075
else
some (0, m_4075)
set_option maxHeartbeats 4000000 in
theorem oj_L_law_2485 {xs : List Int32} {d : Nat} {S : QS} {L : QL} {Q : QO → QS → Prop} {m : MM} {y4 : Int} {v0 : Value} {v1 : Value} {v2 : Value} {v3 : Value} {v4 : Value}  {rz : Int} {rm : MM} {c : Int → MM → Option (Int × MM)} 
  (hd : 174 ≤ d) (R : Rp S m) (l0 : q_lo L 0 = some v0) (f0 : q_is 7 v0 0) (l1 : q_lo L 1 = some v1) (f1 : q_is 2 v1 4) (l2 : q_lo L 2 = some v2) (f2 : q_is 2 v2 68) (l3 : q_lo L 3 = some v3) (f3 : q_is 2 v3 162) (l4 : q_lo L 4 = some v4) (f4 : q_is 0 v4 y4)
  (hc : ∀ mq : MM, Ext m mq → ∀ {z4 : Int} {Sq : QS} {Lq : QL} {u0 : Value} {u1 : Value} {u2 : Value} {u3 : Value} {u4 : Value}, c z4 mq = some (rz, rm) → Rp Sq mq → q_lo Lq 0 = some u0 → q_is 7 u0 0 → q_lo Lq 1 = some u1 → q_is 2 u1 4 → q_lo Lq 2 = some u2 → q_is 2 u2 68 → q_lo Lq 3 = some u3 → q_is 2 u3 162 → q_lo Lq 4 = some u4 → q_is 0 u4 z4 → Go xs d qM_L_law 23 Lq [] Sq Q)
  (hQ : Ext m rm → ∀ o S1, Rp S1 rm → q_out 0 o rz → Q o S1)
  (h : fj_L_law_2485 xs c y4 m = some (rz, rm)) : Go xs d qM_L_law 2485 L [] S Q := by
  unfold fj_L_law_2485 at h
  refine go_aload_n (n := 1) (by decide +kernel) l1 f1 ?_
  refine go_aloadS (n := 0) (by decide +kernel) l0 f0 ?_
  refine go_iload (n := 4) (by decide +kernel) l4 f4 ?_
  refine go_iconst (n := 1) (z := 1) (by decide +kernel) (by decide) fun v_4040 f_4041 => ?_
  refine go_iadd (by decide +kernel) f4 f_4041 fun v_4042 f_4043 => ?_
  obtain ⟨g_4046, h⟩ := gd_s h
  refine go_sld (by decide +kernel) f0 f_4043 g_4046 fun v_4044 f_4045 => ?_
  refine go_aload_n (n := 3) (by decide +kernel) l3 f3 ?_
  obtain ⟨x_4048, m_4049, hc_4047, h⟩ := bd_s h
  refine go_callS (x := 255) (mi := 374) (n := 3) (b := 0) (as := [v1, v_4044, v3]) (rest := []) (by decide +kernel) (by decide +kernel) rfl rfl (q_sum8 _ (Nat.le_of_ble_eq_true rfl)) (om_L_bringIn (Nat.le_trans (by decide) hd) R f1 f_4045 f3 hc_4047) (fun _ S_4052 q_4055 => ?_) (fun _ _ qq => kr_x qq)
  refine kr_z (by decide) q_4055 fun v_4050 f_4051 R_4053 E_4054 => ?_
  have E_4058 := E_4054
  refine go_istore (n := 5) (by decide +kernel) (by decide +kernel) f_4051 fun L_4059 l_4060 kp_4061 => ?_
  have l_4062 := kp_4061 0 _ l0 (by decide) (Or.inl (by decide))
  have l_4063 := kp_4061 1 _ l1 (by decide) (Or.inl (by decide))
  have l_4064 := kp_4061 2 _ l2 (by decide) (Or.inl (by decide))
  have l_4065 := kp_4061 3 _ l3 (by decide) (Or.inl (by decide))
  have l_4066 := kp_4061 4 _ l4 (by decide) (Or.inr (q_is_cat f4 (Or.inl rfl)))
  refine go_aload_n (n := 2) (by decide +kernel) l_4064 f2 ?_
  refine go_aloadS (n := 0) (by decide +kernel) l_4062 f0 ?_
  refine go_iload (n := 4) (by decide +kernel) l_4066 f4 ?_
  refine go_iconst (n := 1) (z := 1) (by decide +kernel) (by decide) fun v_4067 f_4068 => ?_
  refine go_iadd (by decide +kernel) f4 f_4068 fun v_4069 f_4070 => ?_
  refine go_sld (by decide +kernel) f0 f_4070 g_4046 fun v_4071 f_4072 => ?_
  obtain ⟨x_4074, m_4075, hc_4073, h⟩ := bd_s h
  refine go_callV (x := 257) (mi := 316) (n := 1) (ci := 13) (as := [v_4071]) (rest := []) (by decide +kernel) (by decide +kernel) rfl rfl (q_sum8 _ (Nat.le_of_ble_eq_true rfl)) R_4053 f2 (fx_k (c := 13) R_4053 (by decide +kernel)) (om_X12_bringIn (Nat.le_trans (by decide) hd) R_4053 f2 f_4072 hc_4073) (fun _ S_4078 q_4081 => ?_) (fun _ _ qq => kr_x qq)
  refine kr_z (by decide) q_4081 fun v_4076 f_4077 R_4079 E_4080 => ?_
  have E_4084 := Ext.tr E_4058 E_4080
  refine go_istore (n := 6) (by decide +kernel) (by decide +kernel) f_4077 fun L_4085 l_4086 kp_4087 => ?_
  have l_4088 := kp_4087 0 _ l_4062 (by decide) (Or.inl (by decide))
  have l_4089 := kp_4087 1 _ l_4063 (by decide) (Or.inl (by decide))
  have l_4090 := kp_4087 2 _ l_4064 (by decide) (Or.inl (by decide))
  have l_4091 := kp_4087 3 _ l_4065 (by decide) (Or.inl (by decide))
  have l_4092 := kp_4087 4 _ l_4066 (by decide) (Or.inl (by decide))
  have l_4093 := kp_4087 5 _ l_4060 (by decide) (Or.inr (q_is_cat f_4051 (Or.inl rfl)))
  refine go_aload_n (n := 2) (by decide +kernel) l_4090 f2 ?_
  obtain ⟨x_4095, hc_4094, h⟩ := bp_s h
  refine go_callV (x := 143) (mi := 185) (n := 0) (ci := 13) (as := []) (rest := []) (by decide +kernel) (by decide +kernel) rfl rfl (q_sum8 _ (Nat.le_of_ble_eq_true rfl)) R_4079 f2 (fx_k (c := 13) R_4079 (by decide +kernel)) (om_X12_thrown (Nat.le_trans (by decide) hd) R_4079 f2 hc_4094) (fun _ S_4099 q_4102 => ?_) (fun _ _ qq => kr_x qq)
  refine kr_z (by decide) q_4102 fun v_4097 f_4098 R_4100 E_4101 => ?_
  refine go_iload (n := 5) (by decide +kernel) l_4093 f_4051 ?_
  refine go_icmp (c := .eq) (o := 5) (t := 2521) (P := x_4095 = x_4048) (by decide +kernel) (by decide +kernel) f_4098 f_4051 (Iff.rfl) (fun hp_4103 => ?_) (fun hp_4103 => ?_)
  · have h := it_t hp_4103 h
    refine go_iload (n := 5) (by decide +kernel) l_4093 f_4051 ?_
    refine go_if (c := .ne) (o := 15) (t := 2538) (P := ¬ (x_4048 = 0)) (by decide +kernel) (by decide +kernel) f_4051 (Iff.rfl) (fun hp_4104 => ?_) (fun hp_4104 => ?_)
    · have h := it_f hp_4104 h
      refine go_goto (o := 59) (t := 2597) (by decide +kernel) (by decide +kernel) ?_
      refine go_iinc (n := 4) (c := 7) (c' := 7) (by decide +kernel) (by decide +kernel) l_4092 f4 (by decide) fun L_4105 v_4106 f_4107 l_4108 kp_4109 => ?_
      obtain ⟨x_4110, e_4111, h⟩ := lx_s h
      have f_4112 := q_is_eq f_4107 e_4111
      have l_4113 := kp_4109 0 _ l_4088 (by decide) (Or.inl (by decide))
      have l_4114 := kp_4109 1 _ l_4089 (by decide) (Or.inl (by decide))
      have l_4115 := kp_4109 2 _ l_4090 (by decide) (Or.inl (by decide))
      have l_4116 := kp_4109 3 _ l_4091 (by decide) (Or.inr (q_is_cat f3 (Or.inr rfl)))
      refine go_goto (o := (-2577)) (t := 23) (by decide +kernel) (by decide +kernel) ?_
      exact hc m_4075 E_4084 h R_4100 l_4113 f0 l_4114 f1 l_4115 f2 l_4116 f3 l_4108 f_4112
    · have h := it_n hp_4104 h
      refine go_aload_n (n := 3) (by decide +kernel) l_4091 f3 ?_
      refine go_iconst (n := 0) (z := 0) (by decide +kernel) (by decide) fun v_4117 f_4118 => ?_
      obtain ⟨x_4122, e_4123, h⟩ := lx_s h
      refine go_lald (kd := 101) (by decide +kernel) rfl R_4100 f3 f_4118 (fx_k (c := 101) R_4100 (by decide +kernel)) (fx_x (a := 162) (ln := 1) R_4100 (by decide +kernel) (by decide)) fun v_4119 f_4120 => ?_
      have f_4121 := q_is_eq f_4120 e_4123
      refine go_iload (n := 6) (by decide +kernel) l_4086 f_4077 ?_
      refine go_i2l (by decide +kernel) f_4077 fun v_4124 f_4125 => ?_
      refine go_lcmp (by decide +kernel) f_4121 f_4125 fun v_4126 f_4127 => ?_
      refine go_if (c := .eq) (o := 5) (t := 2538) (P := x_4122 = x_4074) (by decide +kernel) (by decide +kernel) f_4127 (lc_eq) (fun hp_4128 => ?_) (fun hp_4128 => ?_)
      · have h := it_t hp_4128 h
        refine go_goto (o := 59) (t := 2597) (by decide +kernel) (by decide +kernel) ?_
        refine go_iinc (n := 4) (c := 7) (c' := 7) (by decide +kernel) (by decide +kernel) l_4092 f4 (by decide) fun L_4129 v_4130 f_4131 l_4132 kp_4133 => ?_
        obtain ⟨x_4134, e_4135, h⟩ := lx_s h
        have f_4136 := q_is_eq f_4131 e_4135
        have l_4137 := kp_4133 0 _ l_4088 (by decide) (Or.inl (by decide))
        have l_4138 := kp_4133 1 _ l_4089 (by decide) (Or.inl (by decide))
        have l_4139 := kp_4133 2 _ l_4090 (by decide) (Or.inl (by decide))
        have l_4140 := kp_4133 3 _ l_4091 (by decide) (Or.inr (q_is_cat f3 (Or.inr rfl)))
        refine go_goto (o := (-2577)) (t := 23) (by decide +kernel) (by decide +kernel) ?_
        exact hc m_4075 E_4084 h R_4100 l_4137 f0 l_4138 f1 l_4139 f2 l_4140 f3 l_4132 f_4136
      · have h := it_f hp_4128 h
        refine go_iconst (n := 0) (z := 0) (by decide +kernel) (by decide) fun v_4141 f_4142 => ?_
        cases h
        exact go_iret (by decide +kernel) rfl (Or.inr ⟨rfl, by decide⟩) f_4142 (hQ E_4084 _ _ R_4100 (q_out_v (by decide) f_4142))
  · have h := it_f hp_4103 h
    refine go_iconst (n := 0) (z := 0) (by decide +kernel) (by decide) fun v_4143 f_4144 => ?_
    cases h
    exact go_iret (by decide +kernel) rfl (Or.inr ⟨rfl, by decide⟩) f_4144 (hQ E_4084 _ _ R_4100 (q_out_v (by decide) f_4144))
noncomputable def fj_L_law_2541 (xs : List Int32) (c : Int → MM → Option (Int × MM)) (y4 : Int) (m : MM) : Option (Int × MM) := gd (0 ≤ w32 (y4 + 1) ∧ w32 (y4 + 1) < (xs.length : Int)) <| bd (fm_L_search (scr xs (w32 (y4 + 1))) m) fun x_4155 m_4156 =>
bd (fm_X12_search (scr xs (w32 (y4 + 1))) m_4156) fun x_4181 m_4182 =>
bp (fm_X12_thrown m_4182) fun x_4202 =>
if x_4202 = x_4155 then
if x_4155 = 0 then
lx (m_4182 162 0) fun x_4229 =>
if x_4229 = x_4181 then
lx (w32 (y4 + 7)) fun x_4241 =>
c x_4241 m_4182
else
some (0, m_4182)
else
lx (w32 (y4 + 7)) fun x_4217 =>
c x_4217 m_4182
else
some (0, m_4182)
set_option maxHeartbeats 4000000 in
theorem oj_L_law_2541 {xs : List Int32} {d : Nat} {S : QS} {L : QL} {Q : QO → QS → Prop} {m : MM} {y4 : Int} {v0 : Value} {v1 : Value} {v2 : Value} {v3 : Value} {v4 : Value}  {rz : Int} {rm : MM} {c : Int → MM → Option (Int × MM)} 
  (hd : 174 ≤ d) (R : Rp S m) (l0 : q_lo L 0 = some v0) (f0 : q_is 7 v0 0) (l1 : q_lo L 1 = some v1) (f1 : q_is 2 v1 4) (l2 : q_lo L 2 = some v2) (f2 : q_is 2 v2 68) (l3 : q_lo L 3 = some v3) (f3 : q_is 2 v3 162) (l4 : q_lo L 4 = some v4) (f4 : q_is 0 v4 y4)
  (hc : ∀ mq : MM, Ext m mq → ∀ {z4 : Int} {Sq : QS} {Lq : QL} {u0 : Value} {u1 : Value} {u2 : Value} {u3 : Value} {u4 : Value}, c z4 mq = some (rz, rm) → Rp Sq mq → q_lo Lq 0 = some u0 → q_is 7 u0 0 → q_lo Lq 1 = some u1 → q_is 2 u1 4 → q_lo Lq 2 = some u2 → q_is 2 u2 68 → q_lo Lq 3 = some u3 → q_is 2 u3 162 → q_lo Lq 4 = some u4 → q_is 0 u4 z4 → Go xs d qM_L_law 23 Lq [] Sq Q)
  (hQ : Ext m rm → ∀ o S1, Rp S1 rm → q_out 0 o rz → Q o S1)
  (h : fj_L_law_2541 xs c y4 m = some (rz, rm)) : Go xs d qM_L_law 2541 L [] S Q := by
  unfold fj_L_law_2541 at h
  refine go_aload_n (n := 1) (by decide +kernel) l1 f1 ?_
  refine go_aloadS (n := 0) (by decide +kernel) l0 f0 ?_
  refine go_iload (n := 4) (by decide +kernel) l4 f4 ?_
  refine go_iconst (n := 1) (z := 1) (by decide +kernel) (by decide) fun v_4147 f_4148 => ?_
  refine go_iadd (by decide +kernel) f4 f_4148 fun v_4149 f_4150 => ?_
  obtain ⟨g_4153, h⟩ := gd_s h
  refine go_sld (by decide +kernel) f0 f_4150 g_4153 fun v_4151 f_4152 => ?_
  refine go_aload_n (n := 3) (by decide +kernel) l3 f3 ?_
  obtain ⟨x_4155, m_4156, hc_4154, h⟩ := bd_s h
  refine go_callS (x := 258) (mi := 375) (n := 3) (b := 0) (as := [v1, v_4151, v3]) (rest := []) (by decide +kernel) (by decide +kernel) rfl rfl (q_sum8 _ (Nat.le_of_ble_eq_true rfl)) (om_L_search (Nat.le_trans (by decide) hd) R f1 f_4152 f3 hc_4154) (fun _ S_4159 q_4162 => ?_) (fun _ _ qq => kr_x qq)
  refine kr_z (by decide) q_4162 fun v_4157 f_4158 R_4160 E_4161 => ?_
  have E_4165 := E_4161
  refine go_istore (n := 5) (by decide +kernel) (by decide +kernel) f_4158 fun L_4166 l_4167 kp_4168 => ?_
  have l_4169 := kp_4168 0 _ l0 (by decide) (Or.inl (by decide))
  have l_4170 := kp_4168 1 _ l1 (by decide) (Or.inl (by decide))
  have l_4171 := kp_4168 2 _ l2 (by decide) (Or.inl (by decide))
  have l_4172 := kp_4168 3 _ l3 (by decide) (Or.inl (by decide))
  have l_4173 := kp_4168 4 _ l4 (by decide) (Or.inr (q_is_cat f4 (Or.inl rfl)))
  refine go_aload_n (n := 2) (by decide +kernel) l_4171 f2 ?_
  refine go_aloadS (n := 0) (by decide +kernel) l_4169 f0 ?_
  refine go_iload (n := 4) (by decide +kernel) l_4173 f4 ?_
  refine go_iconst (n := 1) (z := 1) (by decide +kernel) (by decide) fun v_4174 f_4175 => ?_
  refine go_iadd (by decide +kernel) f4 f_4175 fun v_4176 f_4177 => ?_
  refine go_sld (by decide +kernel) f0 f_4177 g_4153 fun v_4178 f_4179 => ?_
  obtain ⟨x_4181, m_4182, hc_4180, h⟩ := bd_s h
  refine go_callV (x := 260) (mi := 317) (n := 1) (ci := 13) (as := [v_4178]) (rest := []) (by decide +kernel) (by decide +kernel) rfl rfl (q_sum8 _ (Nat.le_of_ble_eq_true rfl)) R_4160 f2 (fx_k (c := 13) R_4160 (by decide +kernel)) (om_X12_search (Nat.le_trans (by decide) hd) R_4160 f2 f_4179 hc_4180) (fun _ S_4185 q_4188 => ?_) (fun _ _ qq => kr_x qq)
  refine kr_z (by decide) q_4188 fun v_4183 f_4184 R_4186 E_4187 => ?_
  have E_4191 := Ext.tr E_4165 E_4187
  refine go_istore (n := 6) (by decide +kernel) (by decide +kernel) f_4184 fun L_4192 l_4193 kp_4194 => ?_
  have l_4195 := kp_4194 0 _ l_4169 (by decide) (Or.inl (by decide))
  have l_4196 := kp_4194 1 _ l_4170 (by decide) (Or.inl (by decide))
  have l_4197 := kp_4194 2 _ l_4171 (by decide) (Or.inl (by decide))
  have l_4198 := kp_4194 3 _ l_4172 (by decide) (Or.inl (by decide))
  have l_4199 := kp_4194 4 _ l_4173 (by decide) (Or.inl (by decide))
  have l_4200 := kp_4194 5 _ l_4167 (by decide) (Or.inr (q_is_cat f_4158 (Or.inl rfl)))
  refine go_aload_n (n := 2) (by decide +kernel) l_4197 f2 ?_
  obtain ⟨x_4202, hc_4201, h⟩ := bp_s h
  refine go_callV (x := 143) (mi := 185) (n := 0) (ci := 13) (as := []) (rest := []) (by decide +kernel) (by decide +kernel) rfl rfl (q_sum8 _ (Nat.le_of_ble_eq_true rfl)) R_4186 f2 (fx_k (c := 13) R_4186 (by decide +kernel)) (om_X12_thrown (Nat.le_trans (by decide) hd) R_4186 f2 hc_4201) (fun _ S_4206 q_4209 => ?_) (fun _ _ qq => kr_x qq)
  refine kr_z (by decide) q_4209 fun v_4204 f_4205 R_4207 E_4208 => ?_
  refine go_iload (n := 5) (by decide +kernel) l_4200 f_4158 ?_
  refine go_icmp (c := .eq) (o := 5) (t := 2577) (P := x_4202 = x_4155) (by decide +kernel) (by decide +kernel) f_4205 f_4158 (Iff.rfl) (fun hp_4210 => ?_) (fun hp_4210 => ?_)
  · have h := it_t hp_4210 h
    refine go_iload (n := 5) (by decide +kernel) l_4200 f_4158 ?_
    refine go_if (c := .ne) (o := 15) (t := 2594) (P := ¬ (x_4155 = 0)) (by decide +kernel) (by decide +kernel) f_4158 (Iff.rfl) (fun hp_4211 => ?_) (fun hp_4211 => ?_)
    · have h := it_f hp_4211 h
      refine go_goto (o := 3) (t := 2597) (by decide +kernel) (by decide +kernel) ?_
      refine go_iinc (n := 4) (c := 7) (c' := 7) (by decide +kernel) (by decide +kernel) l_4199 f4 (by decide) fun L_4212 v_4213 f_4214 l_4215 kp_4216 => ?_
      obtain ⟨x_4217, e_4218, h⟩ := lx_s h
      have f_4219 := q_is_eq f_4214 e_4218
      have l_4220 := kp_4216 0 _ l_4195 (by decide) (Or.inl (by decide))
      have l_4221 := kp_4216 1 _ l_4196 (by decide) (Or.inl (by decide))
      have l_4222 := kp_4216 2 _ l_4197 (by decide) (Or.inl (by decide))
      have l_4223 := kp_4216 3 _ l_4198 (by decide) (Or.inr (q_is_cat f3 (Or.inr rfl)))
      refine go_goto (o := (-2577)) (t := 23) (by decide +kernel) (by decide +kernel) ?_
      exact hc m_4182 E_4191 h R_4207 l_4220 f0 l_4221 f1 l_4222 f2 l_4223 f3 l_4215 f_4219
    · have h := it_n hp_4211 h
      refine go_aload_n (n := 3) (by decide +kernel) l_4198 f3 ?_
      refine go_iconst (n := 0) (z := 0) (by decide +kernel) (by decide) fun v_4224 f_4225 => ?_
      obtain ⟨x_4229, e_4230, h⟩ := lx_s h
      refine go_lald (kd := 101) (by decide +kernel) rfl R_4207 f3 f_4225 (fx_k (c := 101) R_4207 (by decide +kernel)) (fx_x (a := 162) (ln := 1) R_4207 (by decide +kernel) (by decide)) fun v_4226 f_4227 => ?_
      have f_4228 := q_is_eq f_4227 e_4230
      refine go_iload (n := 6) (by decide +kernel) l_4193 f_4184 ?_
      refine go_i2l (by decide +kernel) f_4184 fun v_4231 f_4232 => ?_
      refine go_lcmp (by decide +kernel) f_4228 f_4232 fun v_4233 f_4234 => ?_
      refine go_if (c := .eq) (o := 5) (t := 2594) (P := x_4229 = x_4181) (by decide +kernel) (by decide +kernel) f_4234 (lc_eq) (fun hp_4235 => ?_) (fun hp_4235 => ?_)
      · have h := it_t hp_4235 h
        refine go_goto (o := 3) (t := 2597) (by decide +kernel) (by decide +kernel) ?_
        refine go_iinc (n := 4) (c := 7) (c' := 7) (by decide +kernel) (by decide +kernel) l_4199 f4 (by decide) fun L_4236 v_4237 f_4238 l_4239 kp_4240 => ?_
        obtain ⟨x_4241, e_4242, h⟩ := lx_s h
        have f_4243 := q_is_eq f_4238 e_4242
        have l_4244 := kp_4240 0 _ l_4195 (by decide) (Or.inl (by decide))
        have l_4245 := kp_4240 1 _ l_4196 (by decide) (Or.inl (by decide))
        have l_4246 := kp_4240 2 _ l_4197 (by decide) (Or.inl (by decide))
        have l_4247 := kp_4240 3 _ l_4198 (by decide) (Or.inr (q_is_cat f3 (Or.inr rfl)))
        refine go_goto (o := (-2577)) (t := 23) (by decide +kernel) (by decide +kernel) ?_
        exact hc m_4182 E_4191 h R_4207 l_4244 f0 l_4245 f1 l_4246 f2 l_4247 f3 l_4239 f_4243
      · have h := it_f hp_4235 h
        refine go_iconst (n := 0) (z := 0) (by decide +kernel) (by decide) fun v_4248 f_4249 => ?_
        cases h
        exact go_iret (by decide +kernel) rfl (Or.inr ⟨rfl, by decide⟩) f_4249 (hQ E_4191 _ _ R_4207 (q_out_v (by decide) f_4249))
  · have h := it_f hp_4210 h
    refine go_iconst (n := 0) (z := 0) (by decide +kernel) (by decide) fun v_4250 f_4251 => ?_
    cases h
    exact go_iret (by decide +kernel) rfl (Or.inr ⟨rfl, by decide⟩) f_4251 (hQ E_4191 _ _ R_4207 (q_out_v (by decide) f_4251))
noncomputable def fl_L_law_23 (xs : List Int32) : Nat → Int → MM → Option (Int × MM)
  | 0, _, _ => none
  | n + 1, y4, m => if w32 ((sln xs) - 7) < y4 then
some (1, m)
else
gd (0 ≤ y4 ∧ y4 < (xs.length : Int)) <| if iAnd (scr xs y4) 63 = 0 then
fj_L_law_204 xs (fl_L_law_23 xs n) y4 m
else if iAnd (scr xs y4) 63 = 1 then
fj_L_law_296 xs (fl_L_law_23 xs n) y4 m
else if iAnd (scr xs y4) 63 = 2 then
fj_L_law_352 xs (fl_L_law_23 xs n) y4 m
else if iAnd (scr xs y4) 63 = 3 then
fj_L_law_450 xs (fl_L_law_23 xs n) y4 m
else if iAnd (scr xs y4) 63 = 4 then
fj_L_law_518 xs (fl_L_law_23 xs n) y4 m
else if iAnd (scr xs y4) 63 = 5 then
fj_L_law_598 xs (fl_L_law_23 xs n) y4 m
else if iAnd (scr xs y4) 63 = 6 then
fj_L_law_678 xs (fl_L_law_23 xs n) y4 m
else if iAnd (scr xs y4) 63 = 7 then
fj_L_law_765 xs (fl_L_law_23 xs n) y4 m
else if iAnd (scr xs y4) 63 = 8 then
fj_L_law_828 xs (fl_L_law_23 xs n) y4 m
else if iAnd (scr xs y4) 63 = 9 then
fj_L_law_896 xs (fl_L_law_23 xs n) y4 m
else if iAnd (scr xs y4) 63 = 10 then
fj_L_law_964 xs (fl_L_law_23 xs n) y4 m
else if iAnd (scr xs y4) 63 = 11 then
fj_L_law_1020 xs (fl_L_law_23 xs n) y4 m
else if iAnd (scr xs y4) 63 = 12 then
fj_L_law_1088 xs (fl_L_law_23 xs n) y4 m
else if iAnd (scr xs y4) 63 = 13 then
fj_L_law_1144 xs (fl_L_law_23 xs n) y4 m
else if iAnd (scr xs y4) 63 = 14 then
fj_L_law_1157 xs (fl_L_law_23 xs n) y4 m
else if iAnd (scr xs y4) 63 = 15 then
fj_L_law_1213 xs (fl_L_law_23 xs n) y4 m
else if iAnd (scr xs y4) 63 = 16 then
fj_L_law_1269 xs (fl_L_law_23 xs n) y4 m
else if iAnd (scr xs y4) 63 = 17 then
fj_L_law_1325 xs (fl_L_law_23 xs n) y4 m
else if iAnd (scr xs y4) 63 = 18 then
fj_L_law_1381 xs (fl_L_law_23 xs n) y4 m
else if iAnd (scr xs y4) 63 = 19 then
fj_L_law_1437 xs (fl_L_law_23 xs n) y4 m
else if iAnd (scr xs y4) 63 = 20 then
fj_L_law_1493 xs (fl_L_law_23 xs n) y4 m
else if iAnd (scr xs y4) 63 = 21 then
fj_L_law_1568 xs (fl_L_law_23 xs n) y4 m
else if iAnd (scr xs y4) 63 = 22 then
fj_L_law_1659 xs (fl_L_law_23 xs n) y4 m
else if iAnd (scr xs y4) 63 = 23 then
fj_L_law_1727 xs (fl_L_law_23 xs n) y4 m
else if iAnd (scr xs y4) 63 = 24 then
fj_L_law_1783 xs (fl_L_law_23 xs n) y4 m
else if iAnd (scr xs y4) 63 = 25 then
fj_L_law_1839 xs (fl_L_law_23 xs n) y4 m
else if iAnd (scr xs y4) 63 = 26 then
fj_L_law_1907 xs (fl_L_law_23 xs n) y4 m
else if iAnd (scr xs y4) 63 = 27 then
fj_L_law_1982 xs (fl_L_law_23 xs n) y4 m
else if iAnd (scr xs y4) 63 = 28 then
fj_L_law_2050 xs (fl_L_law_23 xs n) y4 m
else if iAnd (scr xs y4) 63 = 29 then
fj_L_law_2118 xs (fl_L_law_23 xs n) y4 m
else if iAnd (scr xs y4) 63 = 30 then
fj_L_law_2162 xs (fl_L_law_23 xs n) y4 m
else if iAnd (scr xs y4) 63 = 31 then
fj_L_law_2206 xs (fl_L_law_23 xs n) y4 m
else if iAnd (scr xs y4) 63 = 32 then
fj_L_law_2298 xs (fl_L_law_23 xs n) y4 m
else if iAnd (scr xs y4) 63 = 33 then
fj_L_law_2361 xs (fl_L_law_23 xs n) y4 m
else if iAnd (scr xs y4) 63 = 34 then
fj_L_law_2429 xs (fl_L_law_23 xs n) y4 m
else if iAnd (scr xs y4) 63 = 35 then
fj_L_law_2485 xs (fl_L_law_23 xs n) y4 m
else if iAnd (scr xs y4) 63 = 36 then
fj_L_law_2541 xs (fl_L_law_23 xs n) y4 m
else 
lx (w32 (y4 + 7)) fun x_4257 =>
fl_L_law_23 xs n x_4257 m
set_option maxHeartbeats 4000000 in
theorem ol_L_law_23 {xs : List Int32} {d : Nat} {Q : QO → QS → Prop} {mb : MM} {rz : Int} {rm : MM}
  (hd : 174 ≤ d)
  (hQ : Ext mb rm → ∀ o S1, Rp S1 rm → q_out 0 o rz → Q o S1) :
  ∀ (n : Nat) {m : MM} {S : QS} {L : QL} {y4 : Int} {v0 : Value} {v1 : Value} {v2 : Value} {v3 : Value} {v4 : Value} , Ext mb m → fl_L_law_23 xs n y4 m = some (rz, rm) → Rp S m → q_lo L 0 = some v0 → q_is 7 v0 0 → q_lo L 1 = some v1 → q_is 2 v1 4 → q_lo L 2 = some v2 → q_is 2 v2 68 → q_lo L 3 = some v3 → q_is 2 v3 162 → q_lo L 4 = some v4 → q_is 0 v4 y4 → Go xs d qM_L_law 23 L [] S Q := by
  intro n
  induction n with
  | zero => intro m S L y4 v0 v1 v2 v3 v4; intro E h R l0 f0 l1 f1 l2 f2 l3 f3 l4 f4; cases h
  | succ n ih0 =>
    intro m S L y4 v0 v1 v2 v3 v4; intro E h R l0 f0 l1 f1 l2 f2 l3 f3 l4 f4
    have ih : ∀ mq : MM, Ext mb mq → ∀ {z4 : Int} {Sq : QS} {Lq : QL} {u0 : Value} {u1 : Value} {u2 : Value} {u3 : Value} {u4 : Value}, fl_L_law_23 xs n z4 mq = some (rz, rm) → Rp Sq mq → q_lo Lq 0 = some u0 → q_is 7 u0 0 → q_lo Lq 1 = some u1 → q_is 2 u1 4 → q_lo Lq 2 = some u2 → q_is 2 u2 68 → q_lo Lq 3 = some u3 → q_is 2 u3 162 → q_lo Lq 4 = some u4 → q_is 0 u4 z4 → Go xs d qM_L_law 23 Lq [] Sq Q := fun mq b => by intros; exact ih0 b ‹_› ‹_› ‹_› ‹_› ‹_› ‹_› ‹_› ‹_› ‹_› ‹_› ‹_› ‹_›
    unfold fl_L_law_23 at h
    refine go_iload (n := 4) (by decide +kernel) l4 f4 ?_
    refine go_aloadS (n := 0) (by decide +kernel) l0 f0 ?_
    refine go_slen (by decide +kernel) f0 fun v_1 f_2 => ?_
    refine go_bipush (n := 7) (z := 7) (by decide +kernel) (by decide) fun v_3 f_4 => ?_
    refine go_isub (by decide +kernel) f_2 f_4 fun v_5 f_6 => ?_
    refine go_icmp (c := .gt) (o := 2573) (t := 2603) (P := w32 ((sln xs) - 7) < y4) (by decide +kernel) (by decide +kernel) f4 f_6 (Iff.rfl) (fun hp_7 => ?_) (fun hp_7 => ?_)
    · have h := it_t hp_7 h
      refine go_iconst (n := 1) (z := 1) (by decide +kernel) (by decide) fun v_8 f_9 => ?_
      cases h
      exact go_iret (by decide +kernel) rfl (Or.inr ⟨rfl, by decide⟩) f_9 (hQ E _ _ R (q_out_v (by decide) f_9))
    · have h := it_f hp_7 h
      refine go_aloadS (n := 0) (by decide +kernel) l0 f0 ?_
      refine go_iload (n := 4) (by decide +kernel) l4 f4 ?_
      obtain ⟨g_12, h⟩ := gd_s h
      refine go_sld (by decide +kernel) f0 f4 g_12 fun v_10 f_11 => ?_
      refine go_bipush (n := 63) (z := 63) (by decide +kernel) (by decide) fun v_13 f_14 => ?_
      refine go_iand (by decide +kernel) f_11 f_14 fun v_15 f_16 => ?_
      by_cases hp_18 : iAnd (scr xs y4) 63 = 0
      · have h := it_t hp_18 h
        refine go_tsin (dflt := 2557) (lo := 0) (hi := 36) (offs := #[164, 256, 312, 410, 478, 558, 638, 725, 788, 856, 924, 980, 1048, 1104, 1117, 1173, 1229, 1285, 1341, 1397, 1453, 1528, 1619, 1687, 1743, 1799, 1867, 1942, 2010, 2078, 2122, 2166, 2258, 2321, 2389, 2445, 2501]) (o := 164) (t := 204) (by decide +kernel) f_16 (by omega) (by omega) (by rw [hp_18]; decide) (by decide +kernel) ?_
        exact oj_L_law_204 hd R l0 f0 l1 f1 l2 f2 l3 f3 l4 f4 (fun mq b => ih mq (Ext.tr E b)) (fun b => hQ (Ext.tr E b)) h
      have h := it_f hp_18 h
      by_cases hp_164 : iAnd (scr xs y4) 63 = 1
      · have h := it_t hp_164 h
        refine go_tsin (dflt := 2557) (lo := 0) (hi := 36) (offs := #[164, 256, 312, 410, 478, 558, 638, 725, 788, 856, 924, 980, 1048, 1104, 1117, 1173, 1229, 1285, 1341, 1397, 1453, 1528, 1619, 1687, 1743, 1799, 1867, 1942, 2010, 2078, 2122, 2166, 2258, 2321, 2389, 2445, 2501]) (o := 256) (t := 296) (by decide +kernel) f_16 (by omega) (by omega) (by rw [hp_164]; decide) (by decide +kernel) ?_
        exact oj_L_law_296 hd R l0 f0 l1 f1 l2 f2 l3 f3 l4 f4 (fun mq b => ih mq (Ext.tr E b)) (fun b => hQ (Ext.tr E b)) h
      have h := it_f hp_164 h
      by_cases hp_271 : iAnd (scr xs y4) 63 = 2
      · have h := it_t hp_271 h
        refine go_tsin (dflt := 2557) (lo := 0) (hi := 36) (offs := #[164, 256, 312, 410, 478, 558, 638, 725, 788, 856, 924, 980, 1048, 1104, 1117, 1173, 1229, 1285, 1341, 1397, 1453, 1528, 1619, 1687, 1743, 1799, 1867, 1942, 2010, 2078, 2122, 2166, 2258, 2321, 2389, 2445, 2501]) (o := 312) (t := 352) (by decide +kernel) f_16 (by omega) (by omega) (by rw [hp_271]; decide) (by decide +kernel) ?_
        exact oj_L_law_352 hd R l0 f0 l1 f1 l2 f2 l3 f3 l4 f4 (fun mq b => ih mq (Ext.tr E b)) (fun b => hQ (Ext.tr E b)) h
      have h := it_f hp_271 h
      by_cases hp_407 : iAnd (scr xs y4) 63 = 3
      · have h := it_t hp_407 h
        refine go_tsin (dflt := 2557) (lo := 0) (hi := 36) (offs := #[164, 256, 312, 410, 478, 558, 638, 725, 788, 856, 924, 980, 1048, 1104, 1117, 1173, 1229, 1285, 1341, 1397, 1453, 1528, 1619, 1687, 1743, 1799, 1867, 1942, 2010, 2078, 2122, 2166, 2258, 2321, 2389, 2445, 2501]) (o := 410) (t := 450) (by decide +kernel) f_16 (by omega) (by omega) (by rw [hp_407]; decide) (by decide +kernel) ?_
        exact oj_L_law_450 hd R l0 f0 l1 f1 l2 f2 l3 f3 l4 f4 (fun mq b => ih mq (Ext.tr E b)) (fun b => hQ (Ext.tr E b)) h
      have h := it_f hp_407 h
      by_cases hp_527 : iAnd (scr xs y4) 63 = 4
      · have h := it_t hp_527 h
        refine go_tsin (dflt := 2557) (lo := 0) (hi := 36) (offs := #[164, 256, 312, 410, 478, 558, 638, 725, 788, 856, 924, 980, 1048, 1104, 1117, 1173, 1229, 1285, 1341, 1397, 1453, 1528, 1619, 1687, 1743, 1799, 1867, 1942, 2010, 2078, 2122, 2166, 2258, 2321, 2389, 2445, 2501]) (o := 478) (t := 518) (by decide +kernel) f_16 (by omega) (by omega) (by rw [hp_527]; decide) (by decide +kernel) ?_
        exact oj_L_law_518 hd R l0 f0 l1 f1 l2 f2 l3 f3 l4 f4 (fun mq b => ih mq (Ext.tr E b)) (fun b => hQ (Ext.tr E b)) h
      have h := it_f hp_527 h
      by_cases hp_660 : iAnd (scr xs y4) 63 = 5
      · have h := it_t hp_660 h
        refine go_tsin (dflt := 2557) (lo := 0) (hi := 36) (offs := #[164, 256, 312, 410, 478, 558, 638, 725, 788, 856, 924, 980, 1048, 1104, 1117, 1173, 1229, 1285, 1341, 1397, 1453, 1528, 1619, 1687, 1743, 1799, 1867, 1942, 2010, 2078, 2122, 2166, 2258, 2321, 2389, 2445, 2501]) (o := 558) (t := 598) (by decide +kernel) f_16 (by omega) (by omega) (by rw [hp_660]; decide) (by decide +kernel) ?_
        exact oj_L_law_598 hd R l0 f0 l1 f1 l2 f2 l3 f3 l4 f4 (fun mq b => ih mq (Ext.tr E b)) (fun b => hQ (Ext.tr E b)) h
      have h := it_f hp_660 h
      by_cases hp_793 : iAnd (scr xs y4) 63 = 6
      · have h := it_t hp_793 h
        refine go_tsin (dflt := 2557) (lo := 0) (hi := 36) (offs := #[164, 256, 312, 410, 478, 558, 638, 725, 788, 856, 924, 980, 1048, 1104, 1117, 1173, 1229, 1285, 1341, 1397, 1453, 1528, 1619, 1687, 1743, 1799, 1867, 1942, 2010, 2078, 2122, 2166, 2258, 2321, 2389, 2445, 2501]) (o := 638) (t := 678) (by decide +kernel) f_16 (by omega) (by omega) (by rw [hp_793]; decide) (by decide +kernel) ?_
        exact oj_L_law_678 hd R l0 f0 l1 f1 l2 f2 l3 f3 l4 f4 (fun mq b => ih mq (Ext.tr E b)) (fun b => hQ (Ext.tr E b)) h
      have h := it_f hp_793 h
      by_cases hp_929 : iAnd (scr xs y4) 63 = 7
      · have h := it_t hp_929 h
        refine go_tsin (dflt := 2557) (lo := 0) (hi := 36) (offs := #[164, 256, 312, 410, 478, 558, 638, 725, 788, 856, 924, 980, 1048, 1104, 1117, 1173, 1229, 1285, 1341, 1397, 1453, 1528, 1619, 1687, 1743, 1799, 1867, 1942, 2010, 2078, 2122, 2166, 2258, 2321, 2389, 2445, 2501]) (o := 725) (t := 765) (by decide +kernel) f_16 (by omega) (by omega) (by rw [hp_929]; decide) (by decide +kernel) ?_
        exact oj_L_law_765 hd R l0 f0 l1 f1 l2 f2 l3 f3 l4 f4 (fun mq b => ih mq (Ext.tr E b)) (fun b => hQ (Ext.tr E b)) h
      have h := it_f hp_929 h
      by_cases hp_1039 : iAnd (scr xs y4) 63 = 8
      · have h := it_t hp_1039 h
        refine go_tsin (dflt := 2557) (lo := 0) (hi := 36) (offs := #[164, 256, 312, 410, 478, 558, 638, 725, 788, 856, 924, 980, 1048, 1104, 1117, 1173, 1229, 1285, 1341, 1397, 1453, 1528, 1619, 1687, 1743, 1799, 1867, 1942, 2010, 2078, 2122, 2166, 2258, 2321, 2389, 2445, 2501]) (o := 788) (t := 828) (by decide +kernel) f_16 (by omega) (by omega) (by rw [hp_1039]; decide) (by decide +kernel) ?_
        exact oj_L_law_828 hd R l0 f0 l1 f1 l2 f2 l3 f3 l4 f4 (fun mq b => ih mq (Ext.tr E b)) (fun b => hQ (Ext.tr E b)) h
      have h := it_f hp_1039 h
      by_cases hp_1159 : iAnd (scr xs y4) 63 = 9
      · have h := it_t hp_1159 h
        refine go_tsin (dflt := 2557) (lo := 0) (hi := 36) (offs := #[164, 256, 312, 410, 478, 558, 638, 725, 788, 856, 924, 980, 1048, 1104, 1117, 1173, 1229, 1285, 1341, 1397, 1453, 1528, 1619, 1687, 1743, 1799, 1867, 1942, 2010, 2078, 2122, 2166, 2258, 2321, 2389, 2445, 2501]) (o := 856) (t := 896) (by decide +kernel) f_16 (by omega) (by omega) (by rw [hp_1159]; decide) (by decide +kernel) ?_
        exact oj_L_law_896 hd R l0 f0 l1 f1 l2 f2 l3 f3 l4 f4 (fun mq b => ih mq (Ext.tr E b)) (fun b => hQ (Ext.tr E b)) h
      have h := it_f hp_1159 h
      by_cases hp_1279 : iAnd (scr xs y4) 63 = 10
      · have h := it_t hp_1279 h
        refine go_tsin (dflt := 2557) (lo := 0) (hi := 36) (offs := #[164, 256, 312, 410, 478, 558, 638, 725, 788, 856, 924, 980, 1048, 1104, 1117, 1173, 1229, 1285, 1341, 1397, 1453, 1528, 1619, 1687, 1743, 1799, 1867, 1942, 2010, 2078, 2122, 2166, 2258, 2321, 2389, 2445, 2501]) (o := 924) (t := 964) (by decide +kernel) f_16 (by omega) (by omega) (by rw [hp_1279]; decide) (by decide +kernel) ?_
        exact oj_L_law_964 hd R l0 f0 l1 f1 l2 f2 l3 f3 l4 f4 (fun mq b => ih mq (Ext.tr E b)) (fun b => hQ (Ext.tr E b)) h
      have h := it_f hp_1279 h
      by_cases hp_1386 : iAnd (scr xs y4) 63 = 11
      · have h := it_t hp_1386 h
        refine go_tsin (dflt := 2557) (lo := 0) (hi := 36) (offs := #[164, 256, 312, 410, 478, 558, 638, 725, 788, 856, 924, 980, 1048, 1104, 1117, 1173, 1229, 1285, 1341, 1397, 1453, 1528, 1619, 1687, 1743, 1799, 1867, 1942, 2010, 2078, 2122, 2166, 2258, 2321, 2389, 2445, 2501]) (o := 980) (t := 1020) (by decide +kernel) f_16 (by omega) (by omega) (by rw [hp_1386]; decide) (by decide +kernel) ?_
        exact oj_L_law_1020 hd R l0 f0 l1 f1 l2 f2 l3 f3 l4 f4 (fun mq b => ih mq (Ext.tr E b)) (fun b => hQ (Ext.tr E b)) h
      have h := it_f hp_1386 h
      by_cases hp_1506 : iAnd (scr xs y4) 63 = 12
      · have h := it_t hp_1506 h
        refine go_tsin (dflt := 2557) (lo := 0) (hi := 36) (offs := #[164, 256, 312, 410, 478, 558, 638, 725, 788, 856, 924, 980, 1048, 1104, 1117, 1173, 1229, 1285, 1341, 1397, 1453, 1528, 1619, 1687, 1743, 1799, 1867, 1942, 2010, 2078, 2122, 2166, 2258, 2321, 2389, 2445, 2501]) (o := 1048) (t := 1088) (by decide +kernel) f_16 (by omega) (by omega) (by rw [hp_1506]; decide) (by decide +kernel) ?_
        exact oj_L_law_1088 hd R l0 f0 l1 f1 l2 f2 l3 f3 l4 f4 (fun mq b => ih mq (Ext.tr E b)) (fun b => hQ (Ext.tr E b)) h
      have h := it_f hp_1506 h
      by_cases hp_1613 : iAnd (scr xs y4) 63 = 13
      · have h := it_t hp_1613 h
        refine go_tsin (dflt := 2557) (lo := 0) (hi := 36) (offs := #[164, 256, 312, 410, 478, 558, 638, 725, 788, 856, 924, 980, 1048, 1104, 1117, 1173, 1229, 1285, 1341, 1397, 1453, 1528, 1619, 1687, 1743, 1799, 1867, 1942, 2010, 2078, 2122, 2166, 2258, 2321, 2389, 2445, 2501]) (o := 1104) (t := 1144) (by decide +kernel) f_16 (by omega) (by omega) (by rw [hp_1613]; decide) (by decide +kernel) ?_
        exact oj_L_law_1144 hd R l0 f0 l1 f1 l2 f2 l3 f3 l4 f4 (fun mq b => ih mq (Ext.tr E b)) (fun b => hQ (Ext.tr E b)) h
      have h := it_f hp_1613 h
      by_cases hp_1651 : iAnd (scr xs y4) 63 = 14
      · have h := it_t hp_1651 h
        refine go_tsin (dflt := 2557) (lo := 0) (hi := 36) (offs := #[164, 256, 312, 410, 478, 558, 638, 725, 788, 856, 924, 980, 1048, 1104, 1117, 1173, 1229, 1285, 1341, 1397, 1453, 1528, 1619, 1687, 1743, 1799, 1867, 1942, 2010, 2078, 2122, 2166, 2258, 2321, 2389, 2445, 2501]) (o := 1117) (t := 1157) (by decide +kernel) f_16 (by omega) (by omega) (by rw [hp_1651]; decide) (by decide +kernel) ?_
        exact oj_L_law_1157 hd R l0 f0 l1 f1 l2 f2 l3 f3 l4 f4 (fun mq b => ih mq (Ext.tr E b)) (fun b => hQ (Ext.tr E b)) h
      have h := it_f hp_1651 h
      by_cases hp_1758 : iAnd (scr xs y4) 63 = 15
      · have h := it_t hp_1758 h
        refine go_tsin (dflt := 2557) (lo := 0) (hi := 36) (offs := #[164, 256, 312, 410, 478, 558, 638, 725, 788, 856, 924, 980, 1048, 1104, 1117, 1173, 1229, 1285, 1341, 1397, 1453, 1528, 1619, 1687, 1743, 1799, 1867, 1942, 2010, 2078, 2122, 2166, 2258, 2321, 2389, 2445, 2501]) (o := 1173) (t := 1213) (by decide +kernel) f_16 (by omega) (by omega) (by rw [hp_1758]; decide) (by decide +kernel) ?_
        exact oj_L_law_1213 hd R l0 f0 l1 f1 l2 f2 l3 f3 l4 f4 (fun mq b => ih mq (Ext.tr E b)) (fun b => hQ (Ext.tr E b)) h
      have h := it_f hp_1758 h
      by_cases hp_1865 : iAnd (scr xs y4) 63 = 16
      · have h := it_t hp_1865 h
        refine go_tsin (dflt := 2557) (lo := 0) (hi := 36) (offs := #[164, 256, 312, 410, 478, 558, 638, 725, 788, 856, 924, 980, 1048, 1104, 1117, 1173, 1229, 1285, 1341, 1397, 1453, 1528, 1619, 1687, 1743, 1799, 1867, 1942, 2010, 2078, 2122, 2166, 2258, 2321, 2389, 2445, 2501]) (o := 1229) (t := 1269) (by decide +kernel) f_16 (by omega) (by omega) (by rw [hp_1865]; decide) (by decide +kernel) ?_
        exact oj_L_law_1269 hd R l0 f0 l1 f1 l2 f2 l3 f3 l4 f4 (fun mq b => ih mq (Ext.tr E b)) (fun b => hQ (Ext.tr E b)) h
      have h := it_f hp_1865 h
      by_cases hp_1972 : iAnd (scr xs y4) 63 = 17
      · have h := it_t hp_1972 h
        refine go_tsin (dflt := 2557) (lo := 0) (hi := 36) (offs := #[164, 256, 312, 410, 478, 558, 638, 725, 788, 856, 924, 980, 1048, 1104, 1117, 1173, 1229, 1285, 1341, 1397, 1453, 1528, 1619, 1687, 1743, 1799, 1867, 1942, 2010, 2078, 2122, 2166, 2258, 2321, 2389, 2445, 2501]) (o := 1285) (t := 1325) (by decide +kernel) f_16 (by omega) (by omega) (by rw [hp_1972]; decide) (by decide +kernel) ?_
        exact oj_L_law_1325 hd R l0 f0 l1 f1 l2 f2 l3 f3 l4 f4 (fun mq b => ih mq (Ext.tr E b)) (fun b => hQ (Ext.tr E b)) h
      have h := it_f hp_1972 h
      by_cases hp_2079 : iAnd (scr xs y4) 63 = 18
      · have h := it_t hp_2079 h
        refine go_tsin (dflt := 2557) (lo := 0) (hi := 36) (offs := #[164, 256, 312, 410, 478, 558, 638, 725, 788, 856, 924, 980, 1048, 1104, 1117, 1173, 1229, 1285, 1341, 1397, 1453, 1528, 1619, 1687, 1743, 1799, 1867, 1942, 2010, 2078, 2122, 2166, 2258, 2321, 2389, 2445, 2501]) (o := 1341) (t := 1381) (by decide +kernel) f_16 (by omega) (by omega) (by rw [hp_2079]; decide) (by decide +kernel) ?_
        exact oj_L_law_1381 hd R l0 f0 l1 f1 l2 f2 l3 f3 l4 f4 (fun mq b => ih mq (Ext.tr E b)) (fun b => hQ (Ext.tr E b)) h
      have h := it_f hp_2079 h
      by_cases hp_2186 : iAnd (scr xs y4) 63 = 19
      · have h := it_t hp_2186 h
        refine go_tsin (dflt := 2557) (lo := 0) (hi := 36) (offs := #[164, 256, 312, 410, 478, 558, 638, 725, 788, 856, 924, 980, 1048, 1104, 1117, 1173, 1229, 1285, 1341, 1397, 1453, 1528, 1619, 1687, 1743, 1799, 1867, 1942, 2010, 2078, 2122, 2166, 2258, 2321, 2389, 2445, 2501]) (o := 1397) (t := 1437) (by decide +kernel) f_16 (by omega) (by omega) (by rw [hp_2186]; decide) (by decide +kernel) ?_
        exact oj_L_law_1437 hd R l0 f0 l1 f1 l2 f2 l3 f3 l4 f4 (fun mq b => ih mq (Ext.tr E b)) (fun b => hQ (Ext.tr E b)) h
      have h := it_f hp_2186 h
      by_cases hp_2293 : iAnd (scr xs y4) 63 = 20
      · have h := it_t hp_2293 h
        refine go_tsin (dflt := 2557) (lo := 0) (hi := 36) (offs := #[164, 256, 312, 410, 478, 558, 638, 725, 788, 856, 924, 980, 1048, 1104, 1117, 1173, 1229, 1285, 1341, 1397, 1453, 1528, 1619, 1687, 1743, 1799, 1867, 1942, 2010, 2078, 2122, 2166, 2258, 2321, 2389, 2445, 2501]) (o := 1453) (t := 1493) (by decide +kernel) f_16 (by omega) (by omega) (by rw [hp_2293]; decide) (by decide +kernel) ?_
        exact oj_L_law_1493 hd R l0 f0 l1 f1 l2 f2 l3 f3 l4 f4 (fun mq b => ih mq (Ext.tr E b)) (fun b => hQ (Ext.tr E b)) h
      have h := it_f hp_2293 h
      by_cases hp_2416 : iAnd (scr xs y4) 63 = 21
      · have h := it_t hp_2416 h
        refine go_tsin (dflt := 2557) (lo := 0) (hi := 36) (offs := #[164, 256, 312, 410, 478, 558, 638, 725, 788, 856, 924, 980, 1048, 1104, 1117, 1173, 1229, 1285, 1341, 1397, 1453, 1528, 1619, 1687, 1743, 1799, 1867, 1942, 2010, 2078, 2122, 2166, 2258, 2321, 2389, 2445, 2501]) (o := 1528) (t := 1568) (by decide +kernel) f_16 (by omega) (by omega) (by rw [hp_2416]; decide) (by decide +kernel) ?_
        exact oj_L_law_1568 hd R l0 f0 l1 f1 l2 f2 l3 f3 l4 f4 (fun mq b => ih mq (Ext.tr E b)) (fun b => hQ (Ext.tr E b)) h
      have h := it_f hp_2416 h
      by_cases hp_2551 : iAnd (scr xs y4) 63 = 22
      · have h := it_t hp_2551 h
        refine go_tsin (dflt := 2557) (lo := 0) (hi := 36) (offs := #[164, 256, 312, 410, 478, 558, 638, 725, 788, 856, 924, 980, 1048, 1104, 1117, 1173, 1229, 1285, 1341, 1397, 1453, 1528, 1619, 1687, 1743, 1799, 1867, 1942, 2010, 2078, 2122, 2166, 2258, 2321, 2389, 2445, 2501]) (o := 1619) (t := 1659) (by decide +kernel) f_16 (by omega) (by omega) (by rw [hp_2551]; decide) (by decide +kernel) ?_
        exact oj_L_law_1659 hd R l0 f0 l1 f1 l2 f2 l3 f3 l4 f4 (fun mq b => ih mq (Ext.tr E b)) (fun b => hQ (Ext.tr E b)) h
      have h := it_f hp_2551 h
      by_cases hp_2671 : iAnd (scr xs y4) 63 = 23
      · have h := it_t hp_2671 h
        refine go_tsin (dflt := 2557) (lo := 0) (hi := 36) (offs := #[164, 256, 312, 410, 478, 558, 638, 725, 788, 856, 924, 980, 1048, 1104, 1117, 1173, 1229, 1285, 1341, 1397, 1453, 1528, 1619, 1687, 1743, 1799, 1867, 1942, 2010, 2078, 2122, 2166, 2258, 2321, 2389, 2445, 2501]) (o := 1687) (t := 1727) (by decide +kernel) f_16 (by omega) (by omega) (by rw [hp_2671]; decide) (by decide +kernel) ?_
        exact oj_L_law_1727 hd R l0 f0 l1 f1 l2 f2 l3 f3 l4 f4 (fun mq b => ih mq (Ext.tr E b)) (fun b => hQ (Ext.tr E b)) h
      have h := it_f hp_2671 h
      by_cases hp_2778 : iAnd (scr xs y4) 63 = 24
      · have h := it_t hp_2778 h
        refine go_tsin (dflt := 2557) (lo := 0) (hi := 36) (offs := #[164, 256, 312, 410, 478, 558, 638, 725, 788, 856, 924, 980, 1048, 1104, 1117, 1173, 1229, 1285, 1341, 1397, 1453, 1528, 1619, 1687, 1743, 1799, 1867, 1942, 2010, 2078, 2122, 2166, 2258, 2321, 2389, 2445, 2501]) (o := 1743) (t := 1783) (by decide +kernel) f_16 (by omega) (by omega) (by rw [hp_2778]; decide) (by decide +kernel) ?_
        exact oj_L_law_1783 hd R l0 f0 l1 f1 l2 f2 l3 f3 l4 f4 (fun mq b => ih mq (Ext.tr E b)) (fun b => hQ (Ext.tr E b)) h
      have h := it_f hp_2778 h
      by_cases hp_2885 : iAnd (scr xs y4) 63 = 25
      · have h := it_t hp_2885 h
        refine go_tsin (dflt := 2557) (lo := 0) (hi := 36) (offs := #[164, 256, 312, 410, 478, 558, 638, 725, 788, 856, 924, 980, 1048, 1104, 1117, 1173, 1229, 1285, 1341, 1397, 1453, 1528, 1619, 1687, 1743, 1799, 1867, 1942, 2010, 2078, 2122, 2166, 2258, 2321, 2389, 2445, 2501]) (o := 1799) (t := 1839) (by decide +kernel) f_16 (by omega) (by omega) (by rw [hp_2885]; decide) (by decide +kernel) ?_
        exact oj_L_law_1839 hd R l0 f0 l1 f1 l2 f2 l3 f3 l4 f4 (fun mq b => ih mq (Ext.tr E b)) (fun b => hQ (Ext.tr E b)) h
      have h := it_f hp_2885 h
      by_cases hp_3005 : iAnd (scr xs y4) 63 = 26
      · have h := it_t hp_3005 h
        refine go_tsin (dflt := 2557) (lo := 0) (hi := 36) (offs := #[164, 256, 312, 410, 478, 558, 638, 725, 788, 856, 924, 980, 1048, 1104, 1117, 1173, 1229, 1285, 1341, 1397, 1453, 1528, 1619, 1687, 1743, 1799, 1867, 1942, 2010, 2078, 2122, 2166, 2258, 2321, 2389, 2445, 2501]) (o := 1867) (t := 1907) (by decide +kernel) f_16 (by omega) (by omega) (by rw [hp_3005]; decide) (by decide +kernel) ?_
        exact oj_L_law_1907 hd R l0 f0 l1 f1 l2 f2 l3 f3 l4 f4 (fun mq b => ih mq (Ext.tr E b)) (fun b => hQ (Ext.tr E b)) h
      have h := it_f hp_3005 h
      by_cases hp_3128 : iAnd (scr xs y4) 63 = 27
      · have h := it_t hp_3128 h
        refine go_tsin (dflt := 2557) (lo := 0) (hi := 36) (offs := #[164, 256, 312, 410, 478, 558, 638, 725, 788, 856, 924, 980, 1048, 1104, 1117, 1173, 1229, 1285, 1341, 1397, 1453, 1528, 1619, 1687, 1743, 1799, 1867, 1942, 2010, 2078, 2122, 2166, 2258, 2321, 2389, 2445, 2501]) (o := 1942) (t := 1982) (by decide +kernel) f_16 (by omega) (by omega) (by rw [hp_3128]; decide) (by decide +kernel) ?_
        exact oj_L_law_1982 hd R l0 f0 l1 f1 l2 f2 l3 f3 l4 f4 (fun mq b => ih mq (Ext.tr E b)) (fun b => hQ (Ext.tr E b)) h
      have h := it_f hp_3128 h
      by_cases hp_3248 : iAnd (scr xs y4) 63 = 28
      · have h := it_t hp_3248 h
        refine go_tsin (dflt := 2557) (lo := 0) (hi := 36) (offs := #[164, 256, 312, 410, 478, 558, 638, 725, 788, 856, 924, 980, 1048, 1104, 1117, 1173, 1229, 1285, 1341, 1397, 1453, 1528, 1619, 1687, 1743, 1799, 1867, 1942, 2010, 2078, 2122, 2166, 2258, 2321, 2389, 2445, 2501]) (o := 2010) (t := 2050) (by decide +kernel) f_16 (by omega) (by omega) (by rw [hp_3248]; decide) (by decide +kernel) ?_
        exact oj_L_law_2050 hd R l0 f0 l1 f1 l2 f2 l3 f3 l4 f4 (fun mq b => ih mq (Ext.tr E b)) (fun b => hQ (Ext.tr E b)) h
      have h := it_f hp_3248 h
      by_cases hp_3368 : iAnd (scr xs y4) 63 = 29
      · have h := it_t hp_3368 h
        refine go_tsin (dflt := 2557) (lo := 0) (hi := 36) (offs := #[164, 256, 312, 410, 478, 558, 638, 725, 788, 856, 924, 980, 1048, 1104, 1117, 1173, 1229, 1285, 1341, 1397, 1453, 1528, 1619, 1687, 1743, 1799, 1867, 1942, 2010, 2078, 2122, 2166, 2258, 2321, 2389, 2445, 2501]) (o := 2078) (t := 2118) (by decide +kernel) f_16 (by omega) (by omega) (by rw [hp_3368]; decide) (by decide +kernel) ?_
        exact oj_L_law_2118 hd R l0 f0 l1 f1 l2 f2 l3 f3 l4 f4 (fun mq b => ih mq (Ext.tr E b)) (fun b => hQ (Ext.tr E b)) h
      have h := it_f hp_3368 h
      by_cases hp_3462 : iAnd (scr xs y4) 63 = 30
      · have h := it_t hp_3462 h
        refine go_tsin (dflt := 2557) (lo := 0) (hi := 36) (offs := #[164, 256, 312, 410, 478, 558, 638, 725, 788, 856, 924, 980, 1048, 1104, 1117, 1173, 1229, 1285, 1341, 1397, 1453, 1528, 1619, 1687, 1743, 1799, 1867, 1942, 2010, 2078, 2122, 2166, 2258, 2321, 2389, 2445, 2501]) (o := 2122) (t := 2162) (by decide +kernel) f_16 (by omega) (by omega) (by rw [hp_3462]; decide) (by decide +kernel) ?_
        exact oj_L_law_2162 hd R l0 f0 l1 f1 l2 f2 l3 f3 l4 f4 (fun mq b => ih mq (Ext.tr E b)) (fun b => hQ (Ext.tr E b)) h
      have h := it_f hp_3462 h
      by_cases hp_3556 : iAnd (scr xs y4) 63 = 31
      · have h := it_t hp_3556 h
        refine go_tsin (dflt := 2557) (lo := 0) (hi := 36) (offs := #[164, 256, 312, 410, 478, 558, 638, 725, 788, 856, 924, 980, 1048, 1104, 1117, 1173, 1229, 1285, 1341, 1397, 1453, 1528, 1619, 1687, 1743, 1799, 1867, 1942, 2010, 2078, 2122, 2166, 2258, 2321, 2389, 2445, 2501]) (o := 2166) (t := 2206) (by decide +kernel) f_16 (by omega) (by omega) (by rw [hp_3556]; decide) (by decide +kernel) ?_
        exact oj_L_law_2206 hd R l0 f0 l1 f1 l2 f2 l3 f3 l4 f4 (fun mq b => ih mq (Ext.tr E b)) (fun b => hQ (Ext.tr E b)) h
      have h := it_f hp_3556 h
      by_cases hp_3702 : iAnd (scr xs y4) 63 = 32
      · have h := it_t hp_3702 h
        refine go_tsin (dflt := 2557) (lo := 0) (hi := 36) (offs := #[164, 256, 312, 410, 478, 558, 638, 725, 788, 856, 924, 980, 1048, 1104, 1117, 1173, 1229, 1285, 1341, 1397, 1453, 1528, 1619, 1687, 1743, 1799, 1867, 1942, 2010, 2078, 2122, 2166, 2258, 2321, 2389, 2445, 2501]) (o := 2258) (t := 2298) (by decide +kernel) f_16 (by omega) (by omega) (by rw [hp_3702]; decide) (by decide +kernel) ?_
        exact oj_L_law_2298 hd R l0 f0 l1 f1 l2 f2 l3 f3 l4 f4 (fun mq b => ih mq (Ext.tr E b)) (fun b => hQ (Ext.tr E b)) h
      have h := it_f hp_3702 h
      by_cases hp_3812 : iAnd (scr xs y4) 63 = 33
      · have h := it_t hp_3812 h
        refine go_tsin (dflt := 2557) (lo := 0) (hi := 36) (offs := #[164, 256, 312, 410, 478, 558, 638, 725, 788, 856, 924, 980, 1048, 1104, 1117, 1173, 1229, 1285, 1341, 1397, 1453, 1528, 1619, 1687, 1743, 1799, 1867, 1942, 2010, 2078, 2122, 2166, 2258, 2321, 2389, 2445, 2501]) (o := 2321) (t := 2361) (by decide +kernel) f_16 (by omega) (by omega) (by rw [hp_3812]; decide) (by decide +kernel) ?_
        exact oj_L_law_2361 hd R l0 f0 l1 f1 l2 f2 l3 f3 l4 f4 (fun mq b => ih mq (Ext.tr E b)) (fun b => hQ (Ext.tr E b)) h
      have h := it_f hp_3812 h
      by_cases hp_3932 : iAnd (scr xs y4) 63 = 34
      · have h := it_t hp_3932 h
        refine go_tsin (dflt := 2557) (lo := 0) (hi := 36) (offs := #[164, 256, 312, 410, 478, 558, 638, 725, 788, 856, 924, 980, 1048, 1104, 1117, 1173, 1229, 1285, 1341, 1397, 1453, 1528, 1619, 1687, 1743, 1799, 1867, 1942, 2010, 2078, 2122, 2166, 2258, 2321, 2389, 2445, 2501]) (o := 2389) (t := 2429) (by decide +kernel) f_16 (by omega) (by omega) (by rw [hp_3932]; decide) (by decide +kernel) ?_
        exact oj_L_law_2429 hd R l0 f0 l1 f1 l2 f2 l3 f3 l4 f4 (fun mq b => ih mq (Ext.tr E b)) (fun b => hQ (Ext.tr E b)) h
      have h := it_f hp_3932 h
      by_cases hp_4039 : iAnd (scr xs y4) 63 = 35
      · have h := it_t hp_4039 h
        refine go_tsin (dflt := 2557) (lo := 0) (hi := 36) (offs := #[164, 256, 312, 410, 478, 558, 638, 725, 788, 856, 924, 980, 1048, 1104, 1117, 1173, 1229, 1285, 1341, 1397, 1453, 1528, 1619, 1687, 1743, 1799, 1867, 1942, 2010, 2078, 2122, 2166, 2258, 2321, 2389, 2445, 2501]) (o := 2445) (t := 2485) (by decide +kernel) f_16 (by omega) (by omega) (by rw [hp_4039]; decide) (by decide +kernel) ?_
        exact oj_L_law_2485 hd R l0 f0 l1 f1 l2 f2 l3 f3 l4 f4 (fun mq b => ih mq (Ext.tr E b)) (fun b => hQ (Ext.tr E b)) h
      have h := it_f hp_4039 h
      by_cases hp_4146 : iAnd (scr xs y4) 63 = 36
      · have h := it_t hp_4146 h
        refine go_tsin (dflt := 2557) (lo := 0) (hi := 36) (offs := #[164, 256, 312, 410, 478, 558, 638, 725, 788, 856, 924, 980, 1048, 1104, 1117, 1173, 1229, 1285, 1341, 1397, 1453, 1528, 1619, 1687, 1743, 1799, 1867, 1942, 2010, 2078, 2122, 2166, 2258, 2321, 2389, 2445, 2501]) (o := 2501) (t := 2541) (by decide +kernel) f_16 (by omega) (by omega) (by rw [hp_4146]; decide) (by decide +kernel) ?_
        exact oj_L_law_2541 hd R l0 f0 l1 f1 l2 f2 l3 f3 l4 f4 (fun mq b => ih mq (Ext.tr E b)) (fun b => hQ (Ext.tr E b)) h
      have h := it_f hp_4146 h
      refine go_tsout (dflt := 2557) (lo := 0) (hi := 36) (offs := #[164, 256, 312, 410, 478, 558, 638, 725, 788, 856, 924, 980, 1048, 1104, 1117, 1173, 1229, 1285, 1341, 1397, 1453, 1528, 1619, 1687, 1743, 1799, 1867, 1942, 2010, 2078, 2122, 2166, 2258, 2321, 2389, 2445, 2501]) (t := 2597) (by decide +kernel) f_16 (by omega) (by decide +kernel) ?_
      refine go_iinc (n := 4) (c := 7) (c' := 7) (by decide +kernel) (by decide +kernel) l4 f4 (by decide) fun L_4252 v_4253 f_4254 l_4255 kp_4256 => ?_
      obtain ⟨x_4257, e_4258, h⟩ := lx_s h
      have f_4259 := q_is_eq f_4254 e_4258
      have l_4260 := kp_4256 0 _ l0 (by decide) (Or.inl (by decide))
      have l_4261 := kp_4256 1 _ l1 (by decide) (Or.inl (by decide))
      have l_4262 := kp_4256 2 _ l2 (by decide) (Or.inl (by decide))
      have l_4263 := kp_4256 3 _ l3 (by decide) (Or.inr (q_is_cat f3 (Or.inr rfl)))
      refine go_goto (o := (-2577)) (t := 23) (by decide +kernel) (by decide +kernel) ?_
      exact ih m E h R l_4260 f0 l_4261 f1 l_4262 f2 l_4263 f3 l_4255 f_4259
end DF50
