/-! Methods as functions (written by wip/whole/dec.py), 50: L_join, L_schedule, L_togglePause, L_backfill, L_shift, L_bringIn, L_search. -/
section DF50
noncomputable def fm_L_join (m0 : MM) : Option (Int × MM) := bx (fm_X11_join m0) (fun q_12 m_5 =>
if q_12 = 2 then
some (1, m_5)
else none) fun x_4 m_5 =>
up m_5 162 0 x_4 fun m_22 =>
some (0, m_22)
set_option maxHeartbeats 4000000 in
theorem om_L_join {xs : List Int32} {d : Nat} {S : QS} {m0 : MM} {v0 : Value} {v1 : Value} {rz : Int} {rm : MM}
  (hd : 5 ≤ d) (R : Rp S m0) (f0 : q_is 2 v0 4) (f1 : q_is 2 v1 162)
  (h : fm_L_join m0 = some (rz, rm)) : Mt xs d 369 [v0, v1] S (Cr 0 m0 rm rz) := by
  obtain ⟨d, rfl⟩ : ∃ e, d = e + 1 := ⟨d - 1, by omega⟩
  have hd : 4 ≤ d := Nat.le_of_succ_le_succ hd
  refine Mt.of (M := qM_L_join) rfl (by rw [sl_1 (q_is_cat f0 (Or.inr rfl)), sl_1 (q_is_cat f1 (Or.inr rfl)), sl_0]; decide) ?_
  rw [la_1 (q_is_cat f0 (Or.inr rfl)), la_1 (q_is_cat f1 (Or.inr rfl)), la_0]
  obtain ⟨L, hL⟩ : ∃ L : QL, L = [(0, v0), (0 + 1, v1)] := ⟨_, rfl⟩
  rw [← hL]
  have l0 : q_lo L 0 = some v0 := by rw [hL]; rfl
  have l1 : q_lo L 1 = some v1 := by rw [hL]; rfl
  have hQ : Ext m0 rm → ∀ o S1, Rp S1 rm → q_out 0 o rz → (Cr 0 m0 rm rz) o S1 := fun a o S1 b e => ⟨b, a, e⟩
  unfold fm_L_join at h
  refine go_aload_n (n := 1) (by decide +kernel) l1 f1 ?_
  refine go_iconst (n := 0) (z := 0) (by decide +kernel) (by decide) fun v_1 f_2 => ?_
  refine go_aload_n (n := 0) (by decide +kernel) l0 f0 ?_
  obtain ⟨rr5, m_5, hc_3, h⟩ := bx_s h
  rcases h with ⟨q_12, rfl, h⟩ | ⟨x_4, rfl, h⟩
  · refine go_callV (x := 112) (mi := 130) (n := 0) (ci := 12) (as := []) (rest := [v_1, v1]) (by decide +kernel) (by decide +kernel) rfl rfl (q_sum8 _ (Nat.le_of_ble_eq_true rfl)) R f0 (fx_k (c := 12) R (by decide +kernel)) (om_X11_join (Nat.le_trans (by decide) hd) R f0 hc_3) (fun _ _ qq => kx_lx qq) (fun _ _ qq => ?_)
    obtain ⟨rfl, Rq, Eq⟩ := kx_e qq
    by_cases hp_14 : q_12 = 2
    · have h := it_t hp_14 h
      subst hp_14
      refine Or.inr ⟨by decide, _, _, q_hand_k (n := 2) (h := (0, 8, 11, 17)) (by decide +kernel) (by decide +kernel) (by decide), ?_⟩
      refine go_iconst (n := 1) (z := 1) (by decide +kernel) (by decide) fun v_17 f_18 => ?_
      cases h
      exact go_iret (by decide +kernel) rfl (Or.inl rfl) f_18 (hQ Eq _ _ Rq (q_out_v (by decide) f_18))
    have h := it_f hp_14 h
    cases h
  refine go_callV (x := 112) (mi := 130) (n := 0) (ci := 12) (as := []) (rest := [v_1, v1]) (by decide +kernel) (by decide +kernel) rfl rfl (q_sum8 _ (Nat.le_of_ble_eq_true rfl)) R f0 (fx_k (c := 12) R (by decide +kernel)) (om_X11_join (Nat.le_trans (by decide) hd) R f0 hc_3) (fun _ S_8 q_11 => ?_) (fun _ _ qq => kr_x (kx_l qq))
  have q_11 := kx_l q_11
  refine kr_z (by decide) q_11 fun v_6 f_7 R_9 E_10 => ?_
  have E_19 := E_10
  refine go_i2l (by decide +kernel) f_7 fun v_20 f_21 => ?_
  obtain ⟨m_22, e_23, h⟩ := up_s h
  refine go_last (kd := 101) (by decide +kernel) rfl R_9 f1 f_2 f_21 (fx_k (c := 101) R_9 (by decide +kernel)) (fx_x (a := 162) (ln := 1) R_9 (by decide +kernel) (by decide)) e_23 (fx_a R_9.2 (fx_k (c := 101) R_9 (by decide +kernel)) (And.left (fx_x (a := 162) (ln := 1) R_9 (by decide +kernel) (by decide))) (by decide +kernel)) fun S_24 R_25 E_26 => ?_
  have E_27 := Ext.tr E_19 E_26
  refine go_goto (o := 6) (t := 14) (by decide +kernel) (by decide +kernel) ?_
  refine go_iconst (n := 0) (z := 0) (by decide +kernel) (by decide) fun v_28 f_29 => ?_
  cases h
  exact go_iret (by decide +kernel) rfl (Or.inl rfl) f_29 (hQ E_27 _ _ R_25 (q_out_v (by decide) f_29))
noncomputable def fm_L_schedule (p1 p2 p3 p4 : Int) (m0 : MM) : Option (Int × MM) := bx (fm_X11_schedule p1 p2 p3 p4 m0) (fun q_12 m_5 =>
if q_12 = 0 then
some (1, m_5)
else if q_12 = 1 then
some (2, m_5)
else if q_12 = 2 then
some (3, m_5)
else none) fun x_4 m_5 =>
up m_5 162 0 x_4 fun m_32 =>
some (0, m_32)
set_option maxHeartbeats 4000000 in
theorem om_L_schedule {xs : List Int32} {d : Nat} {S : QS} {m0 : MM} {p1 p2 p3 p4 : Int} {v0 : Value} {v1 : Value} {v2 : Value} {v3 : Value} {v4 : Value} {v5 : Value} {rz : Int} {rm : MM}
  (hd : 10 ≤ d) (R : Rp S m0) (f0 : q_is 2 v0 4) (f1 : q_is 0 v1 p1) (f2 : q_is 0 v2 p2) (f3 : q_is 0 v3 p3) (f4 : q_is 0 v4 p4) (f5 : q_is 2 v5 162)
  (h : fm_L_schedule p1 p2 p3 p4 m0 = some (rz, rm)) : Mt xs d 370 [v0, v1, v2, v3, v4, v5] S (Cr 0 m0 rm rz) := by
  obtain ⟨d, rfl⟩ : ∃ e, d = e + 1 := ⟨d - 1, by omega⟩
  have hd : 9 ≤ d := Nat.le_of_succ_le_succ hd
  refine Mt.of (M := qM_L_schedule) rfl (by rw [sl_1 (q_is_cat f0 (Or.inr rfl)), sl_1 (q_is_cat f1 (Or.inl rfl)), sl_1 (q_is_cat f2 (Or.inl rfl)), sl_1 (q_is_cat f3 (Or.inl rfl)), sl_1 (q_is_cat f4 (Or.inl rfl)), sl_1 (q_is_cat f5 (Or.inr rfl)), sl_0]; decide) ?_
  rw [la_1 (q_is_cat f0 (Or.inr rfl)), la_1 (q_is_cat f1 (Or.inl rfl)), la_1 (q_is_cat f2 (Or.inl rfl)), la_1 (q_is_cat f3 (Or.inl rfl)), la_1 (q_is_cat f4 (Or.inl rfl)), la_1 (q_is_cat f5 (Or.inr rfl)), la_0]
  obtain ⟨L, hL⟩ : ∃ L : QL, L = [(0, v0), (0 + 1, v1), (0 + 1 + 1, v2), (0 + 1 + 1 + 1, v3), (0 + 1 + 1 + 1 + 1, v4), (0 + 1 + 1 + 1 + 1 + 1, v5)] := ⟨_, rfl⟩
  rw [← hL]
  have l0 : q_lo L 0 = some v0 := by rw [hL]; rfl
  have l1 : q_lo L 1 = some v1 := by rw [hL]; rfl
  have l2 : q_lo L 2 = some v2 := by rw [hL]; rfl
  have l3 : q_lo L 3 = some v3 := by rw [hL]; rfl
  have l4 : q_lo L 4 = some v4 := by rw [hL]; rfl
  have l5 : q_lo L 5 = some v5 := by rw [hL]; rfl
  have hQ : Ext m0 rm → ∀ o S1, Rp S1 rm → q_out 0 o rz → (Cr 0 m0 rm rz) o S1 := fun a o S1 b e => ⟨b, a, e⟩
  unfold fm_L_schedule at h
  refine go_aload (n := 5) (by decide +kernel) l5 f5 ?_
  refine go_iconst (n := 0) (z := 0) (by decide +kernel) (by decide) fun v_1 f_2 => ?_
  refine go_aload_n (n := 0) (by decide +kernel) l0 f0 ?_
  refine go_iload_n (n := 1) (by decide +kernel) l1 f1 ?_
  refine go_iload_n (n := 2) (by decide +kernel) l2 f2 ?_
  refine go_iload_n (n := 3) (by decide +kernel) l3 f3 ?_
  refine go_iload (n := 4) (by decide +kernel) l4 f4 ?_
  obtain ⟨rr5, m_5, hc_3, h⟩ := bx_s h
  rcases h with ⟨q_12, rfl, h⟩ | ⟨x_4, rfl, h⟩
  · refine go_callV (x := 115) (mi := 131) (n := 4) (ci := 12) (as := [v1, v2, v3, v4]) (rest := [v_1, v5]) (by decide +kernel) (by decide +kernel) rfl rfl (q_sum8 _ (Nat.le_of_ble_eq_true rfl)) R f0 (fx_k (c := 12) R (by decide +kernel)) (om_X11_schedule (Nat.le_trans (by decide) hd) R f0 f1 f2 f3 f4 hc_3) (fun _ _ qq => kx_lx qq) (fun _ _ qq => ?_)
    obtain ⟨rfl, Rq, Eq⟩ := kx_e qq
    by_cases hp_14 : q_12 = 0
    · have h := it_t hp_14 h
      subst hp_14
      refine Or.inr ⟨by decide, _, _, q_hand_n (n := 6) (h := (0, 14, 17, 13)) (by decide +kernel) (by decide +kernel) (by decide), ?_⟩
      refine go_iconst (n := 1) (z := 1) (by decide +kernel) (by decide) fun v_17 f_18 => ?_
      cases h
      exact go_iret (by decide +kernel) rfl (Or.inl rfl) f_18 (hQ Eq _ _ Rq (q_out_v (by decide) f_18))
    have h := it_f hp_14 h
    by_cases hp_19 : q_12 = 1
    · have h := it_t hp_19 h
      subst hp_19
      refine Or.inr ⟨by decide, _, _, q_hand_n (n := 6) (h := (0, 14, 21, 15)) (by decide +kernel) (by decide +kernel) (by decide), ?_⟩
      refine go_iconst (n := 2) (z := 2) (by decide +kernel) (by decide) fun v_22 f_23 => ?_
      cases h
      exact go_iret (by decide +kernel) rfl (Or.inl rfl) f_23 (hQ Eq _ _ Rq (q_out_v (by decide) f_23))
    have h := it_f hp_19 h
    by_cases hp_24 : q_12 = 2
    · have h := it_t hp_24 h
      subst hp_24
      refine Or.inr ⟨by decide, _, _, q_hand_n (n := 6) (h := (0, 14, 25, 17)) (by decide +kernel) (by decide +kernel) (by decide), ?_⟩
      refine go_iconst (n := 3) (z := 3) (by decide +kernel) (by decide) fun v_27 f_28 => ?_
      cases h
      exact go_iret (by decide +kernel) rfl (Or.inl rfl) f_28 (hQ Eq _ _ Rq (q_out_v (by decide) f_28))
    have h := it_f hp_24 h
    cases h
  refine go_callV (x := 115) (mi := 131) (n := 4) (ci := 12) (as := [v1, v2, v3, v4]) (rest := [v_1, v5]) (by decide +kernel) (by decide +kernel) rfl rfl (q_sum8 _ (Nat.le_of_ble_eq_true rfl)) R f0 (fx_k (c := 12) R (by decide +kernel)) (om_X11_schedule (Nat.le_trans (by decide) hd) R f0 f1 f2 f3 f4 hc_3) (fun _ S_8 q_11 => ?_) (fun _ _ qq => kr_x (kx_l qq))
  have q_11 := kx_l q_11
  refine kr_z (by decide) q_11 fun v_6 f_7 R_9 E_10 => ?_
  have E_29 := E_10
  refine go_i2l (by decide +kernel) f_7 fun v_30 f_31 => ?_
  obtain ⟨m_32, e_33, h⟩ := up_s h
  refine go_last (kd := 101) (by decide +kernel) rfl R_9 f5 f_2 f_31 (fx_k (c := 101) R_9 (by decide +kernel)) (fx_x (a := 162) (ln := 1) R_9 (by decide +kernel) (by decide)) e_33 (fx_a R_9.2 (fx_k (c := 101) R_9 (by decide +kernel)) (And.left (fx_x (a := 162) (ln := 1) R_9 (by decide +kernel) (by decide))) (by decide +kernel)) fun S_34 R_35 E_36 => ?_
  have E_37 := Ext.tr E_29 E_36
  refine go_goto (o := 15) (t := 29) (by decide +kernel) (by decide +kernel) ?_
  refine go_iconst (n := 0) (z := 0) (by decide +kernel) (by decide) fun v_38 f_39 => ?_
  cases h
  exact go_iret (by decide +kernel) rfl (Or.inl rfl) f_39 (hQ E_37 _ _ R_35 (q_out_v (by decide) f_39))
noncomputable def fm_L_togglePause (p1 : Int) (m0 : MM) : Option (Int × MM) := bx (fm_X11_togglePause p1 m0) (fun q_12 m_5 =>
if q_12 = 0 then
some (1, m_5)
else none) fun x_4 m_5 =>
if x_4 = 0 then
up m_5 162 0 0 fun m_23 =>
some (0, m_23)
else
up m_5 162 0 1 fun m_33 =>
some (0, m_33)
set_option maxHeartbeats 4000000 in
theorem om_L_togglePause {xs : List Int32} {d : Nat} {S : QS} {m0 : MM} {p1 : Int} {v0 : Value} {v1 : Value} {v2 : Value} {rz : Int} {rm : MM}
  (hd : 6 ≤ d) (R : Rp S m0) (f0 : q_is 2 v0 4) (f1 : q_is 0 v1 p1) (f2 : q_is 2 v2 162)
  (h : fm_L_togglePause p1 m0 = some (rz, rm)) : Mt xs d 371 [v0, v1, v2] S (Cr 0 m0 rm rz) := by
  obtain ⟨d, rfl⟩ : ∃ e, d = e + 1 := ⟨d - 1, by omega⟩
  have hd : 5 ≤ d := Nat.le_of_succ_le_succ hd
  refine Mt.of (M := qM_L_togglePause) rfl (by rw [sl_1 (q_is_cat f0 (Or.inr rfl)), sl_1 (q_is_cat f1 (Or.inl rfl)), sl_1 (q_is_cat f2 (Or.inr rfl)), sl_0]; decide) ?_
  rw [la_1 (q_is_cat f0 (Or.inr rfl)), la_1 (q_is_cat f1 (Or.inl rfl)), la_1 (q_is_cat f2 (Or.inr rfl)), la_0]
  obtain ⟨L, hL⟩ : ∃ L : QL, L = [(0, v0), (0 + 1, v1), (0 + 1 + 1, v2)] := ⟨_, rfl⟩
  rw [← hL]
  have l0 : q_lo L 0 = some v0 := by rw [hL]; rfl
  have l1 : q_lo L 1 = some v1 := by rw [hL]; rfl
  have l2 : q_lo L 2 = some v2 := by rw [hL]; rfl
  have hQ : Ext m0 rm → ∀ o S1, Rp S1 rm → q_out 0 o rz → (Cr 0 m0 rm rz) o S1 := fun a o S1 b e => ⟨b, a, e⟩
  unfold fm_L_togglePause at h
  refine go_aload_n (n := 2) (by decide +kernel) l2 f2 ?_
  refine go_iconst (n := 0) (z := 0) (by decide +kernel) (by decide) fun v_1 f_2 => ?_
  refine go_aload_n (n := 0) (by decide +kernel) l0 f0 ?_
  refine go_iload_n (n := 1) (by decide +kernel) l1 f1 ?_
  obtain ⟨rr5, m_5, hc_3, h⟩ := bx_s h
  rcases h with ⟨q_12, rfl, h⟩ | ⟨x_4, rfl, h⟩
  · refine go_callV (x := 118) (mi := 132) (n := 1) (ci := 12) (as := [v1]) (rest := [v_1, v2]) (by decide +kernel) (by decide +kernel) rfl rfl (q_sum8 _ (Nat.le_of_ble_eq_true rfl)) R f0 (fx_k (c := 12) R (by decide +kernel)) (om_X11_togglePause (Nat.le_trans (by decide) hd) R f0 f1 hc_3) (fun _ _ qq => kx_lx qq) (fun _ _ qq => ?_)
    obtain ⟨rfl, Rq, Eq⟩ := kx_e qq
    by_cases hp_14 : q_12 = 0
    · have h := it_t hp_14 h
      subst hp_14
      refine Or.inr ⟨by decide, _, _, q_hand_k (n := 3) (h := (0, 16, 19, 13)) (by decide +kernel) (by decide +kernel) (by decide), ?_⟩
      refine go_iconst (n := 1) (z := 1) (by decide +kernel) (by decide) fun v_17 f_18 => ?_
      cases h
      exact go_iret (by decide +kernel) rfl (Or.inl rfl) f_18 (hQ Eq _ _ Rq (q_out_v (by decide) f_18))
    have h := it_f hp_14 h
    cases h
  refine go_callV (x := 118) (mi := 132) (n := 1) (ci := 12) (as := [v1]) (rest := [v_1, v2]) (by decide +kernel) (by decide +kernel) rfl rfl (q_sum8 _ (Nat.le_of_ble_eq_true rfl)) R f0 (fx_k (c := 12) R (by decide +kernel)) (om_X11_togglePause (Nat.le_trans (by decide) hd) R f0 f1 hc_3) (fun _ S_8 q_11 => ?_) (fun _ _ qq => kr_x (kx_l qq))
  have q_11 := kx_l q_11
  refine kr_z (by decide) q_11 fun v_6 f_7 R_9 E_10 => ?_
  have E_19 := E_10
  refine go_if (c := .eq) (o := 7) (t := 14) (P := x_4 = 0) (by decide +kernel) (by decide +kernel) f_7 (Iff.rfl) (fun hp_20 => ?_) (fun hp_20 => ?_)
  · have h := it_t hp_20 h
    refine go_lconst (n := 0) (z := 0) (by decide +kernel) (by decide) fun v_21 f_22 => ?_
    obtain ⟨m_23, e_24, h⟩ := up_s h
    refine go_last (kd := 101) (by decide +kernel) rfl R_9 f2 f_2 f_22 (fx_k (c := 101) R_9 (by decide +kernel)) (fx_x (a := 162) (ln := 1) R_9 (by decide +kernel) (by decide)) e_24 (fx_a R_9.2 (fx_k (c := 101) R_9 (by decide +kernel)) (And.left (fx_x (a := 162) (ln := 1) R_9 (by decide +kernel) (by decide))) (by decide +kernel)) fun S_25 R_26 E_27 => ?_
    have E_28 := Ext.tr E_19 E_27
    refine go_goto (o := 6) (t := 22) (by decide +kernel) (by decide +kernel) ?_
    refine go_iconst (n := 0) (z := 0) (by decide +kernel) (by decide) fun v_29 f_30 => ?_
    cases h
    exact go_iret (by decide +kernel) rfl (Or.inl rfl) f_30 (hQ E_28 _ _ R_26 (q_out_v (by decide) f_30))
  · have h := it_f hp_20 h
    refine go_lconst (n := 1) (z := 1) (by decide +kernel) (by decide) fun v_31 f_32 => ?_
    refine go_goto (o := 4) (t := 15) (by decide +kernel) (by decide +kernel) ?_
    obtain ⟨m_33, e_34, h⟩ := up_s h
    refine go_last (kd := 101) (by decide +kernel) rfl R_9 f2 f_2 f_32 (fx_k (c := 101) R_9 (by decide +kernel)) (fx_x (a := 162) (ln := 1) R_9 (by decide +kernel) (by decide)) e_34 (fx_a R_9.2 (fx_k (c := 101) R_9 (by decide +kernel)) (And.left (fx_x (a := 162) (ln := 1) R_9 (by decide +kernel) (by decide))) (by decide +kernel)) fun S_35 R_36 E_37 => ?_
    have E_38 := Ext.tr E_19 E_37
    refine go_goto (o := 6) (t := 22) (by decide +kernel) (by decide +kernel) ?_
    refine go_iconst (n := 0) (z := 0) (by decide +kernel) (by decide) fun v_39 f_40 => ?_
    cases h
    exact go_iret (by decide +kernel) rfl (Or.inl rfl) f_40 (hQ E_38 _ _ R_36 (q_out_v (by decide) f_40))
noncomputable def fm_L_backfill (p1 p2 : Int) (m0 : MM) : Option (Int × MM) := bx (fm_X11_backfill p1 p2 m0) (fun q_12 m_5 =>
if q_12 = 0 then
some (1, m_5)
else if q_12 = 1 then
some (2, m_5)
else none) fun x_4 m_5 =>
up m_5 162 0 x_4 fun m_27 =>
some (0, m_27)
set_option maxHeartbeats 4000000 in
theorem om_L_backfill {xs : List Int32} {d : Nat} {S : QS} {m0 : MM} {p1 p2 : Int} {v0 : Value} {v1 : Value} {v2 : Value} {v3 : Value} {rz : Int} {rm : MM}
  (hd : 12 ≤ d) (R : Rp S m0) (f0 : q_is 2 v0 4) (f1 : q_is 0 v1 p1) (f2 : q_is 0 v2 p2) (f3 : q_is 2 v3 162)
  (h : fm_L_backfill p1 p2 m0 = some (rz, rm)) : Mt xs d 372 [v0, v1, v2, v3] S (Cr 0 m0 rm rz) := by
  obtain ⟨d, rfl⟩ : ∃ e, d = e + 1 := ⟨d - 1, by omega⟩
  have hd : 11 ≤ d := Nat.le_of_succ_le_succ hd
  refine Mt.of (M := qM_L_backfill) rfl (by rw [sl_1 (q_is_cat f0 (Or.inr rfl)), sl_1 (q_is_cat f1 (Or.inl rfl)), sl_1 (q_is_cat f2 (Or.inl rfl)), sl_1 (q_is_cat f3 (Or.inr rfl)), sl_0]; decide) ?_
  rw [la_1 (q_is_cat f0 (Or.inr rfl)), la_1 (q_is_cat f1 (Or.inl rfl)), la_1 (q_is_cat f2 (Or.inl rfl)), la_1 (q_is_cat f3 (Or.inr rfl)), la_0]
  obtain ⟨L, hL⟩ : ∃ L : QL, L = [(0, v0), (0 + 1, v1), (0 + 1 + 1, v2), (0 + 1 + 1 + 1, v3)] := ⟨_, rfl⟩
  rw [← hL]
  have l0 : q_lo L 0 = some v0 := by rw [hL]; rfl
  have l1 : q_lo L 1 = some v1 := by rw [hL]; rfl
  have l2 : q_lo L 2 = some v2 := by rw [hL]; rfl
  have l3 : q_lo L 3 = some v3 := by rw [hL]; rfl
  have hQ : Ext m0 rm → ∀ o S1, Rp S1 rm → q_out 0 o rz → (Cr 0 m0 rm rz) o S1 := fun a o S1 b e => ⟨b, a, e⟩
  unfold fm_L_backfill at h
  refine go_aload_n (n := 3) (by decide +kernel) l3 f3 ?_
  refine go_iconst (n := 0) (z := 0) (by decide +kernel) (by decide) fun v_1 f_2 => ?_
  refine go_aload_n (n := 0) (by decide +kernel) l0 f0 ?_
  refine go_iload_n (n := 1) (by decide +kernel) l1 f1 ?_
  refine go_iload_n (n := 2) (by decide +kernel) l2 f2 ?_
  obtain ⟨rr5, m_5, hc_3, h⟩ := bx_s h
  rcases h with ⟨q_12, rfl, h⟩ | ⟨x_4, rfl, h⟩
  · refine go_callV (x := 121) (mi := 133) (n := 2) (ci := 12) (as := [v1, v2]) (rest := [v_1, v3]) (by decide +kernel) (by decide +kernel) rfl rfl (q_sum8 _ (Nat.le_of_ble_eq_true rfl)) R f0 (fx_k (c := 12) R (by decide +kernel)) (om_X11_backfill (Nat.le_trans (by decide) hd) R f0 f1 f2 hc_3) (fun _ _ qq => kx_lx qq) (fun _ _ qq => ?_)
    obtain ⟨rfl, Rq, Eq⟩ := kx_e qq
    by_cases hp_14 : q_12 = 0
    · have h := it_t hp_14 h
      subst hp_14
      refine Or.inr ⟨by decide, _, _, q_hand_n (n := 4) (h := (0, 10, 13, 13)) (by decide +kernel) (by decide +kernel) (by decide), ?_⟩
      refine go_iconst (n := 1) (z := 1) (by decide +kernel) (by decide) fun v_17 f_18 => ?_
      cases h
      exact go_iret (by decide +kernel) rfl (Or.inl rfl) f_18 (hQ Eq _ _ Rq (q_out_v (by decide) f_18))
    have h := it_f hp_14 h
    by_cases hp_19 : q_12 = 1
    · have h := it_t hp_19 h
      subst hp_19
      refine Or.inr ⟨by decide, _, _, q_hand_n (n := 4) (h := (0, 10, 17, 15)) (by decide +kernel) (by decide +kernel) (by decide), ?_⟩
      refine go_iconst (n := 2) (z := 2) (by decide +kernel) (by decide) fun v_22 f_23 => ?_
      cases h
      exact go_iret (by decide +kernel) rfl (Or.inl rfl) f_23 (hQ Eq _ _ Rq (q_out_v (by decide) f_23))
    have h := it_f hp_19 h
    cases h
  refine go_callV (x := 121) (mi := 133) (n := 2) (ci := 12) (as := [v1, v2]) (rest := [v_1, v3]) (by decide +kernel) (by decide +kernel) rfl rfl (q_sum8 _ (Nat.le_of_ble_eq_true rfl)) R f0 (fx_k (c := 12) R (by decide +kernel)) (om_X11_backfill (Nat.le_trans (by decide) hd) R f0 f1 f2 hc_3) (fun _ S_8 q_11 => ?_) (fun _ _ qq => kr_x (kx_l qq))
  have q_11 := kx_l q_11
  refine kr_z (by decide) q_11 fun v_6 f_7 R_9 E_10 => ?_
  have E_24 := E_10
  refine go_i2l (by decide +kernel) f_7 fun v_25 f_26 => ?_
  obtain ⟨m_27, e_28, h⟩ := up_s h
  refine go_last (kd := 101) (by decide +kernel) rfl R_9 f3 f_2 f_26 (fx_k (c := 101) R_9 (by decide +kernel)) (fx_x (a := 162) (ln := 1) R_9 (by decide +kernel) (by decide)) e_28 (fx_a R_9.2 (fx_k (c := 101) R_9 (by decide +kernel)) (And.left (fx_x (a := 162) (ln := 1) R_9 (by decide +kernel) (by decide))) (by decide +kernel)) fun S_29 R_30 E_31 => ?_
  have E_32 := Ext.tr E_24 E_31
  refine go_goto (o := 11) (t := 21) (by decide +kernel) (by decide +kernel) ?_
  refine go_iconst (n := 0) (z := 0) (by decide +kernel) (by decide) fun v_33 f_34 => ?_
  cases h
  exact go_iret (by decide +kernel) rfl (Or.inl rfl) f_34 (hQ E_32 _ _ R_30 (q_out_v (by decide) f_34))
noncomputable def fm_L_shift (p1 : Int) (m0 : MM) : Option (Int × MM) := bx (fm_X11_shift p1 m0) (fun q_12 m_5 =>
if q_12 = 1 then
some (1, m_5)
else none) fun x_4 m_5 =>
up m_5 162 0 x_4 fun m_22 =>
some (0, m_22)
set_option maxHeartbeats 4000000 in
theorem om_L_shift {xs : List Int32} {d : Nat} {S : QS} {m0 : MM} {p1 : Int} {v0 : Value} {v1 : Value} {v2 : Value} {rz : Int} {rm : MM}
  (hd : 2 ≤ d) (R : Rp S m0) (f0 : q_is 2 v0 4) (f1 : q_is 0 v1 p1) (f2 : q_is 2 v2 162)
  (h : fm_L_shift p1 m0 = some (rz, rm)) : Mt xs d 373 [v0, v1, v2] S (Cr 0 m0 rm rz) := by
  obtain ⟨d, rfl⟩ : ∃ e, d = e + 1 := ⟨d - 1, by omega⟩
  have hd : 1 ≤ d := Nat.le_of_succ_le_succ hd
  refine Mt.of (M := qM_L_shift) rfl (by rw [sl_1 (q_is_cat f0 (Or.inr rfl)), sl_1 (q_is_cat f1 (Or.inl rfl)), sl_1 (q_is_cat f2 (Or.inr rfl)), sl_0]; decide) ?_
  rw [la_1 (q_is_cat f0 (Or.inr rfl)), la_1 (q_is_cat f1 (Or.inl rfl)), la_1 (q_is_cat f2 (Or.inr rfl)), la_0]
  obtain ⟨L, hL⟩ : ∃ L : QL, L = [(0, v0), (0 + 1, v1), (0 + 1 + 1, v2)] := ⟨_, rfl⟩
  rw [← hL]
  have l0 : q_lo L 0 = some v0 := by rw [hL]; rfl
  have l1 : q_lo L 1 = some v1 := by rw [hL]; rfl
  have l2 : q_lo L 2 = some v2 := by rw [hL]; rfl
  have hQ : Ext m0 rm → ∀ o S1, Rp S1 rm → q_out 0 o rz → (Cr 0 m0 rm rz) o S1 := fun a o S1 b e => ⟨b, a, e⟩
  unfold fm_L_shift at h
  refine go_aload_n (n := 2) (by decide +kernel) l2 f2 ?_
  refine go_iconst (n := 0) (z := 0) (by decide +kernel) (by decide) fun v_1 f_2 => ?_
  refine go_aload_n (n := 0) (by decide +kernel) l0 f0 ?_
  refine go_iload_n (n := 1) (by decide +kernel) l1 f1 ?_
  obtain ⟨rr5, m_5, hc_3, h⟩ := bx_s h
  rcases h with ⟨q_12, rfl, h⟩ | ⟨x_4, rfl, h⟩
  · refine go_callV (x := 124) (mi := 134) (n := 1) (ci := 12) (as := [v1]) (rest := [v_1, v2]) (by decide +kernel) (by decide +kernel) rfl rfl (q_sum8 _ (Nat.le_of_ble_eq_true rfl)) R f0 (fx_k (c := 12) R (by decide +kernel)) (om_X11_shift (Nat.le_trans (by decide) hd) R f0 f1 hc_3) (fun _ _ qq => kx_lx qq) (fun _ _ qq => ?_)
    obtain ⟨rfl, Rq, Eq⟩ := kx_e qq
    by_cases hp_14 : q_12 = 1
    · have h := it_t hp_14 h
      subst hp_14
      refine Or.inr ⟨by decide, _, _, q_hand_k (n := 3) (h := (0, 9, 12, 15)) (by decide +kernel) (by decide +kernel) (by decide), ?_⟩
      refine go_iconst (n := 1) (z := 1) (by decide +kernel) (by decide) fun v_17 f_18 => ?_
      cases h
      exact go_iret (by decide +kernel) rfl (Or.inl rfl) f_18 (hQ Eq _ _ Rq (q_out_v (by decide) f_18))
    have h := it_f hp_14 h
    cases h
  refine go_callV (x := 124) (mi := 134) (n := 1) (ci := 12) (as := [v1]) (rest := [v_1, v2]) (by decide +kernel) (by decide +kernel) rfl rfl (q_sum8 _ (Nat.le_of_ble_eq_true rfl)) R f0 (fx_k (c := 12) R (by decide +kernel)) (om_X11_shift (Nat.le_trans (by decide) hd) R f0 f1 hc_3) (fun _ S_8 q_11 => ?_) (fun _ _ qq => kr_x (kx_l qq))
  have q_11 := kx_l q_11
  refine kr_z (by decide) q_11 fun v_6 f_7 R_9 E_10 => ?_
  have E_19 := E_10
  refine go_i2l (by decide +kernel) f_7 fun v_20 f_21 => ?_
  obtain ⟨m_22, e_23, h⟩ := up_s h
  refine go_last (kd := 101) (by decide +kernel) rfl R_9 f2 f_2 f_21 (fx_k (c := 101) R_9 (by decide +kernel)) (fx_x (a := 162) (ln := 1) R_9 (by decide +kernel) (by decide)) e_23 (fx_a R_9.2 (fx_k (c := 101) R_9 (by decide +kernel)) (And.left (fx_x (a := 162) (ln := 1) R_9 (by decide +kernel) (by decide))) (by decide +kernel)) fun S_24 R_25 E_26 => ?_
  have E_27 := Ext.tr E_19 E_26
  refine go_goto (o := 6) (t := 15) (by decide +kernel) (by decide +kernel) ?_
  refine go_iconst (n := 0) (z := 0) (by decide +kernel) (by decide) fun v_28 f_29 => ?_
  cases h
  exact go_iret (by decide +kernel) rfl (Or.inl rfl) f_29 (hQ E_27 _ _ R_25 (q_out_v (by decide) f_29))
noncomputable def fm_L_bringIn (p1 : Int) (m0 : MM) : Option (Int × MM) := bx (fm_X11_bringIn p1 m0) (fun q_12 m_5 =>
if q_12 = 1 then
some (1, m_5)
else none) fun x_4 m_5 =>
up m_5 162 0 x_4 fun m_22 =>
some (0, m_22)
set_option maxHeartbeats 4000000 in
theorem om_L_bringIn {xs : List Int32} {d : Nat} {S : QS} {m0 : MM} {p1 : Int} {v0 : Value} {v1 : Value} {v2 : Value} {rz : Int} {rm : MM}
  (hd : 5 ≤ d) (R : Rp S m0) (f0 : q_is 2 v0 4) (f1 : q_is 0 v1 p1) (f2 : q_is 2 v2 162)
  (h : fm_L_bringIn p1 m0 = some (rz, rm)) : Mt xs d 374 [v0, v1, v2] S (Cr 0 m0 rm rz) := by
  obtain ⟨d, rfl⟩ : ∃ e, d = e + 1 := ⟨d - 1, by omega⟩
  have hd : 4 ≤ d := Nat.le_of_succ_le_succ hd
  refine Mt.of (M := qM_L_bringIn) rfl (by rw [sl_1 (q_is_cat f0 (Or.inr rfl)), sl_1 (q_is_cat f1 (Or.inl rfl)), sl_1 (q_is_cat f2 (Or.inr rfl)), sl_0]; decide) ?_
  rw [la_1 (q_is_cat f0 (Or.inr rfl)), la_1 (q_is_cat f1 (Or.inl rfl)), la_1 (q_is_cat f2 (Or.inr rfl)), la_0]
  obtain ⟨L, hL⟩ : ∃ L : QL, L = [(0, v0), (0 + 1, v1), (0 + 1 + 1, v2)] := ⟨_, rfl⟩
  rw [← hL]
  have l0 : q_lo L 0 = some v0 := by rw [hL]; rfl
  have l1 : q_lo L 1 = some v1 := by rw [hL]; rfl
  have l2 : q_lo L 2 = some v2 := by rw [hL]; rfl
  have hQ : Ext m0 rm → ∀ o S1, Rp S1 rm → q_out 0 o rz → (Cr 0 m0 rm rz) o S1 := fun a o S1 b e => ⟨b, a, e⟩
  unfold fm_L_bringIn at h
  refine go_aload_n (n := 2) (by decide +kernel) l2 f2 ?_
  refine go_iconst (n := 0) (z := 0) (by decide +kernel) (by decide) fun v_1 f_2 => ?_
  refine go_aload_n (n := 0) (by decide +kernel) l0 f0 ?_
  refine go_iload_n (n := 1) (by decide +kernel) l1 f1 ?_
  obtain ⟨rr5, m_5, hc_3, h⟩ := bx_s h
  rcases h with ⟨q_12, rfl, h⟩ | ⟨x_4, rfl, h⟩
  · refine go_callV (x := 127) (mi := 135) (n := 1) (ci := 12) (as := [v1]) (rest := [v_1, v2]) (by decide +kernel) (by decide +kernel) rfl rfl (q_sum8 _ (Nat.le_of_ble_eq_true rfl)) R f0 (fx_k (c := 12) R (by decide +kernel)) (om_X11_bringIn (Nat.le_trans (by decide) hd) R f0 f1 hc_3) (fun _ _ qq => kx_lx qq) (fun _ _ qq => ?_)
    obtain ⟨rfl, Rq, Eq⟩ := kx_e qq
    by_cases hp_14 : q_12 = 1
    · have h := it_t hp_14 h
      subst hp_14
      refine Or.inr ⟨by decide, _, _, q_hand_k (n := 3) (h := (0, 9, 12, 15)) (by decide +kernel) (by decide +kernel) (by decide), ?_⟩
      refine go_iconst (n := 1) (z := 1) (by decide +kernel) (by decide) fun v_17 f_18 => ?_
      cases h
      exact go_iret (by decide +kernel) rfl (Or.inl rfl) f_18 (hQ Eq _ _ Rq (q_out_v (by decide) f_18))
    have h := it_f hp_14 h
    cases h
  refine go_callV (x := 127) (mi := 135) (n := 1) (ci := 12) (as := [v1]) (rest := [v_1, v2]) (by decide +kernel) (by decide +kernel) rfl rfl (q_sum8 _ (Nat.le_of_ble_eq_true rfl)) R f0 (fx_k (c := 12) R (by decide +kernel)) (om_X11_bringIn (Nat.le_trans (by decide) hd) R f0 f1 hc_3) (fun _ S_8 q_11 => ?_) (fun _ _ qq => kr_x (kx_l qq))
  have q_11 := kx_l q_11
  refine kr_z (by decide) q_11 fun v_6 f_7 R_9 E_10 => ?_
  have E_19 := E_10
  refine go_i2l (by decide +kernel) f_7 fun v_20 f_21 => ?_
  obtain ⟨m_22, e_23, h⟩ := up_s h
  refine go_last (kd := 101) (by decide +kernel) rfl R_9 f2 f_2 f_21 (fx_k (c := 101) R_9 (by decide +kernel)) (fx_x (a := 162) (ln := 1) R_9 (by decide +kernel) (by decide)) e_23 (fx_a R_9.2 (fx_k (c := 101) R_9 (by decide +kernel)) (And.left (fx_x (a := 162) (ln := 1) R_9 (by decide +kernel) (by decide))) (by decide +kernel)) fun S_24 R_25 E_26 => ?_
  have E_27 := Ext.tr E_19 E_26
  refine go_goto (o := 6) (t := 15) (by decide +kernel) (by decide +kernel) ?_
  refine go_iconst (n := 0) (z := 0) (by decide +kernel) (by decide) fun v_28 f_29 => ?_
  cases h
  exact go_iret (by decide +kernel) rfl (Or.inl rfl) f_29 (hQ E_27 _ _ R_25 (q_out_v (by decide) f_29))
noncomputable def fm_L_search (p1 : Int) (m0 : MM) : Option (Int × MM) := bx (fm_X11_search p1 m0) (fun q_12 m_5 =>
if q_12 = 1 then
some (1, m_5)
else none) fun x_4 m_5 =>
up m_5 162 0 x_4 fun m_22 =>
some (0, m_22)
set_option maxHeartbeats 4000000 in
theorem om_L_search {xs : List Int32} {d : Nat} {S : QS} {m0 : MM} {p1 : Int} {v0 : Value} {v1 : Value} {v2 : Value} {rz : Int} {rm : MM}
  (hd : 5 ≤ d) (R : Rp S m0) (f0 : q_is 2 v0 4) (f1 : q_is 0 v1 p1) (f2 : q_is 2 v2 162)
  (h : fm_L_search p1 m0 = some (rz, rm)) : Mt xs d 375 [v0, v1, v2] S (Cr 0 m0 rm rz) := by
  obtain ⟨d, rfl⟩ : ∃ e, d = e + 1 := ⟨d - 1, by omega⟩
  have hd : 4 ≤ d := Nat.le_of_succ_le_succ hd
  refine Mt.of (M := qM_L_search) rfl (by rw [sl_1 (q_is_cat f0 (Or.inr rfl)), sl_1 (q_is_cat f1 (Or.inl rfl)), sl_1 (q_is_cat f2 (Or.inr rfl)), sl_0]; decide) ?_
  rw [la_1 (q_is_cat f0 (Or.inr rfl)), la_1 (q_is_cat f1 (Or.inl rfl)), la_1 (q_is_cat f2 (Or.inr rfl)), la_0]
  obtain ⟨L, hL⟩ : ∃ L : QL, L = [(0, v0), (0 + 1, v1), (0 + 1 + 1, v2)] := ⟨_, rfl⟩
  rw [← hL]
  have l0 : q_lo L 0 = some v0 := by rw [hL]; rfl
  have l1 : q_lo L 1 = some v1 := by rw [hL]; rfl
  have l2 : q_lo L 2 = some v2 := by rw [hL]; rfl
  have hQ : Ext m0 rm → ∀ o S1, Rp S1 rm → q_out 0 o rz → (Cr 0 m0 rm rz) o S1 := fun a o S1 b e => ⟨b, a, e⟩
  unfold fm_L_search at h
  refine go_aload_n (n := 2) (by decide +kernel) l2 f2 ?_
  refine go_iconst (n := 0) (z := 0) (by decide +kernel) (by decide) fun v_1 f_2 => ?_
  refine go_aload_n (n := 0) (by decide +kernel) l0 f0 ?_
  refine go_iload_n (n := 1) (by decide +kernel) l1 f1 ?_
  obtain ⟨rr5, m_5, hc_3, h⟩ := bx_s h
  rcases h with ⟨q_12, rfl, h⟩ | ⟨x_4, rfl, h⟩
  · refine go_callV (x := 130) (mi := 136) (n := 1) (ci := 12) (as := [v1]) (rest := [v_1, v2]) (by decide +kernel) (by decide +kernel) rfl rfl (q_sum8 _ (Nat.le_of_ble_eq_true rfl)) R f0 (fx_k (c := 12) R (by decide +kernel)) (om_X11_search (Nat.le_trans (by decide) hd) R f0 f1 hc_3) (fun _ _ qq => kx_lx qq) (fun _ _ qq => ?_)
    obtain ⟨rfl, Rq, Eq⟩ := kx_e qq
    by_cases hp_14 : q_12 = 1
    · have h := it_t hp_14 h
      subst hp_14
      refine Or.inr ⟨by decide, _, _, q_hand_k (n := 3) (h := (0, 9, 12, 15)) (by decide +kernel) (by decide +kernel) (by decide), ?_⟩
      refine go_iconst (n := 1) (z := 1) (by decide +kernel) (by decide) fun v_17 f_18 => ?_
      cases h
      exact go_iret (by decide +kernel) rfl (Or.inl rfl) f_18 (hQ Eq _ _ Rq (q_out_v (by decide) f_18))
    have h := it_f hp_14 h
    cases h
  refine go_callV (x := 130) (mi := 136) (n := 1) (ci := 12) (as := [v1]) (rest := [v_1, v2]) (by decide +kernel) (by decide +kernel) rfl rfl (q_sum8 _ (Nat.le_of_ble_eq_true rfl)) R f0 (fx_k (c := 12) R (by decide +kernel)) (om_X11_search (Nat.le_trans (by decide) hd) R f0 f1 hc_3) (fun _ S_8 q_11 => ?_) (fun _ _ qq => kr_x (kx_l qq))
  have q_11 := kx_l q_11
  refine kr_z (by decide) q_11 fun v_6 f_7 R_9 E_10 => ?_
  have E_19 := E_10
  refine go_i2l (by decide +kernel) f_7 fun v_20 f_21 => ?_
  obtain ⟨m_22, e_23, h⟩ := up_s h
  refine go_last (kd := 101) (by decide +kernel) rfl R_9 f2 f_2 f_21 (fx_k (c := 101) R_9 (by decide +kernel)) (fx_x (a := 162) (ln := 1) R_9 (by decide +kernel) (by decide)) e_23 (fx_a R_9.2 (fx_k (c := 101) R_9 (by decide +kernel)) (And.left (fx_x (a := 162) (ln := 1) R_9 (by decide +kernel) (by decide))) (by decide +kernel)) fun S_24 R_25 E_26 => ?_
  have E_27 := Ext.tr E_19 E_26
  refine go_goto (o := 6) (t := 15) (by decide +kernel) (by decide +kernel) ?_
  refine go_iconst (n := 0) (z := 0) (by decide +kernel) (by decide) fun v_28 f_29 => ?_
  cases h
  exact go_iret (by decide +kernel) rfl (Or.inl rfl) f_29 (hQ E_27 _ _ R_25 (q_out_v (by decide) f_29))
end DF50
