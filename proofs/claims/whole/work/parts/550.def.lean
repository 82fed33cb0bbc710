/-! Methods as functions (written by wip/whole/dec.py), 50: L_join, L_schedule, L_togglePause, L_backfill, L_shift, L_bringIn, L_search, L_law. -/
section DF50
noncomputable def fm_L_join (m0 : MM) : Option (Int × MM) := bx (fm_X11_join m0) (fun q_12 m_5 =>
if q_12 = 2 then
some (1, m_5)
else none) fun x_4 m_5 =>
up m_5 162 0 x_4 fun m_22 =>
some (0, m_22)
set_option maxHeartbeats 4000000 in
theorem om_L_join {xs : List Int32} {d : Nat} {S : QS} {m0 : MM} {v0 : Value} {v1 : Value} {rz : Int} {rm : MM}
  (hd : 5 ≤ d) (R : Rp S m0) (f0 : q_is 2 v0 4) (f1 : q_is 2 v1 162)
  (h : fm_L_join m0 = some (rz, rm)) : Mt xs d 369 [v0, v1] S (Cr 0 m0 rm rz) := by
  obtain ⟨d, rfl⟩ : ∃ e, d = e + 1 := ⟨d - 1, by omega⟩
  have hd : 4 ≤ d := Nat.le_of_succ_le_succ hd
  refine Mt.of (M := qM_L_join) rfl (by rw [sl_1 (q_is_cat f0 (Or.inr rfl)), sl_1 (q_is_cat f1 (Or.inr rfl)), sl_0]; decide) ?_
  rw [la_1 (q_is_cat f0 (Or.inr rfl)), la_1 (q_is_cat f1 (Or.inr rfl)), la_0]
  obtain ⟨L, hL⟩ : ∃ L : QL, L = [(0, v0), (0 + 1, v1)] := ⟨_, rfl⟩
  rw [← hL]
  have l0 : q_lo L 0 = some v0 := by rw [hL]; rfl
  have l1 : q_lo L 1 = some v1 := by rw [hL]; rfl
  have hQ : Ext m0 rm → ∀ o S1, Rp S1 rm → q_out 0 o rz → (Cr 0 m0 rm rz) o S1 := fun a o S1 b e => ⟨b, a, e⟩
  unfold fm_L_join at h
  refine go_aload_n (n := 1) (by decide +kernel) l1 f1 ?_
  refine go_iconst (n := 0) (z := 0) (by decide +kernel) (by decide) fun v_1 f_2 => ?_
  refine go_aload_n (n := 0) (by decide +kernel) l0 f0 ?_
  obtain ⟨rr5, m_5, hc_3, h⟩ := bx_s h
  rcases h with ⟨q_12, rfl, h⟩ | ⟨x_4, rfl, h⟩
  · refine go_callV (x := 112) (mi := 130) (n := 0) (ci := 12) (as := []) (rest := [v_1, v1]) (by decide +kernel) (by decide +kernel) rfl rfl (q_sum8 _ (Nat.le_of_ble_eq_true rfl)) R f0 (fx_k (c := 12) R (by decide +kernel)) (om_X11_join (Nat.le_trans (by decide) hd) R f0 hc_3) (fun _ _ qq => kx_lx qq) (fun _ _ qq => ?_)
    obtain ⟨rfl, Rq, Eq⟩ := kx_e qq
    by_cases hp_14 : q_12 = 2
    · have h := it_t hp_14 h
      subst hp_14
      refine Or.inr ⟨by decide, _, _, q_hand_k (n := 2) (h := (0, 8, 11, 17)) (by decide +kernel) (by decide +kernel) (by decide), ?_⟩
      refine go_iconst (n := 1) (z := 1) (by decide +kernel) (by decide) fun v_17 f_18 => ?_
      cases h
      exact go_iret (by decide +kernel) rfl (Or.inl rfl) f_18 (hQ Eq _ _ Rq (q_out_v (by decide) f_18))
    have h := it_f hp_14 h
    cases h
  refine go_callV (x := 112) (mi := 130) (n := 0) (ci := 12) (as := []) (rest := [v_1, v1]) (by decide +kernel) (by decide +kernel) rfl rfl (q_sum8 _ (Nat.le_of_ble_eq_true rfl)) R f0 (fx_k (c := 12) R (by decide +kernel)) (om_X11_join (Nat.le_trans (by decide) hd) R f0 hc_3) (fun _ S_8 q_11 => ?_) (fun _ _ qq => kr_x (kx_l qq))
  have q_11 := kx_l q_11
  refine kr_z (by decide) q_11 fun v_6 f_7 R_9 E_10 => ?_
  have E_19 := E_10
  refine go_i2l (by decide +kernel) f_7 fun v_20 f_21 => ?_
  obtain ⟨m_22, e_23, h⟩ := up_s h
  refine go_last (kd := 101) (by decide +kernel) rfl R_9 f1 f_2 f_21 (fx_k (c := 101) R_9 (by decide +kernel)) (fx_x (a := 162) (ln := 1) R_9 (by decide +kernel) (by decide)) e_23 (fx_a R_9.2 (fx_k (c := 101) R_9 (by decide +kernel)) (And.left (fx_x (a := 162) (ln := 1) R_9 (by decide +kernel) (by decide))) (by decide +kernel)) fun S_24 R_25 E_26 => ?_
  have E_27 := Ext.tr E_19 E_26
  refine go_goto (o := 6) (t := 14) (by decide +kernel) (by decide +kernel) ?_
  refine go_iconst (n := 0) (z := 0) (by decide +kernel) (by decide) fun v_28 f_29 => ?_
  cases h
  exact go_iret (by decide +kernel) rfl (Or.inl rfl) f_29 (hQ E_27 _ _ R_25 (q_out_v (by decide) f_29))
noncomputable def fm_L_schedule (p1 p2 p3 p4 : Int) (m0 : MM) : Option (Int × MM) := bx (fm_X11_schedule p1 p2 p3 p4 m0) (fun q_12 m_5 =>
if q_12 = 0 then
some (1, m_5)
else if q_12 = 1 then
some (2, m_5)
else if q_12 = 2 then
some (3, m_5)
else none) fun x_4 m_5 =>
up m_5 162 0 x_4 fun m_32 =>
some (0, m_32)
set_option maxHeartbeats 4000000 in
theorem om_L_schedule {xs : List Int32} {d : Nat} {S : QS} {m0 : MM} {p1 p2 p3 p4 : Int} {v0 : Value} {v1 : Value} {v2 : Value} {v3 : Value} {v4 : Value} {v5 : Value} {rz : Int} {rm : MM}
  (hd : 10 ≤ d) (R : Rp S m0) (f0 : q_is 2 v0 4) (f1 : q_is 0 v1 p1) (f2 : q_is 0 v2 p2) (f3 : q_is 0 v3 p3) (f4 : q_is 0 v4 p4) (f5 : q_is 2 v5 162)
  (h : fm_L_schedule p1 p2 p3 p4 m0 = some (rz, rm)) : Mt xs d 370 [v0, v1, v2, v3, v4, v5] S (Cr 0 m0 rm rz) := by
  obtain ⟨d, rfl⟩ : ∃ e, d = e + 1 := ⟨d - 1, by omega⟩
  have hd : 9 ≤ d := Nat.le_of_succ_le_succ hd
  refine Mt.of (M := qM_L_schedule) rfl (by rw [sl_1 (q_is_cat f0 (Or.inr rfl)), sl_1 (q_is_cat f1 (Or.inl rfl)), sl_1 (q_is_cat f2 (Or.inl rfl)), sl_1 (q_is_cat f3 (Or.inl rfl)), sl_1 (q_is_cat f4 (Or.inl rfl)), sl_1 (q_is_cat f5 (Or.inr rfl)), sl_0]; decide) ?_
  rw [la_1 (q_is_cat f0 (Or.inr rfl)), la_1 (q_is_cat f1 (Or.inl rfl)), la_1 (q_is_cat f2 (Or.inl rfl)), la_1 (q_is_cat f3 (Or.inl rfl)), la_1 (q_is_cat f4 (Or.inl rfl)), la_1 (q_is_cat f5 (Or.inr rfl)), la_0]
  obtain ⟨L, hL⟩ : ∃ L : QL, L = [(0, v0), (0 + 1, v1), (0 + 1 + 1, v2), (0 + 1 + 1 + 1, v3), (0 + 1 + 1 + 1 + 1, v4), (0 + 1 + 1 + 1 + 1 + 1, v5)] := ⟨_, rfl⟩
  rw [← hL]
  have l0 : q_lo L 0 = some v0 := by rw [hL]; rfl
  have l1 : q_lo L 1 = some v1 := by rw [hL]; rfl
  have l2 : q_lo L 2 = some v2 := by rw [hL]; rfl
  have l3 : q_lo L 3 = some v3 := by rw [hL]; rfl
  have l4 : q_lo L 4 = some v4 := by rw [hL]; rfl
  have l5 : q_lo L 5 = some v5 := by rw [hL]; rfl
  have hQ : Ext m0 rm → ∀ o S1, Rp S1 rm → q_out 0 o rz → (Cr 0 m0 rm rz) o S1 := fun a o S1 b e => ⟨b, a, e⟩
  unfold fm_L_schedule at h
  refine go_aload (n := 5) (by decide +kernel) l5 f5 ?_
  refine go_iconst (n := 0) (z := 0) (by decide +kernel) (by decide) fun v_1 f_2 => ?_
  refine go_aload_n (n := 0) (by decide +kernel) l0 f0 ?_
  refine go_iload_n (n := 1) (by decide +kernel) l1 f1 ?_
  refine go_iload_n (n := 2) (by decide +kernel) l2 f2 ?_
  refine go_iload_n (n := 3) (by decide +kernel) l3 f3 ?_
  refine go_iload (n := 4) (by decide +kernel) l4 f4 ?_
  obtain ⟨rr5, m_5, hc_3, h⟩ := bx_s h
  rcases h with ⟨q_12, rfl, h⟩ | ⟨x_4, rfl, h⟩
  · refine go_callV (x := 115) (mi := 131) (n := 4) (ci := 12) (as := [v1, v2, v3, v4]) (rest := [v_1, v5]) (by decide +kernel) (by decide +kernel) rfl rfl (q_sum8 _ (Nat.le_of_ble_eq_true rfl)) R f0 (fx_k (c := 12) R (by decide +kernel)) (om_X11_schedule (Nat.le_trans (by decide) hd) R f0 f1 f2 f3 f4 hc_3) (fun _ _ qq => kx_lx qq) (fun _ _ qq => ?_)
    obtain ⟨rfl, Rq, Eq⟩ := kx_e qq
    by_cases hp_14 : q_12 = 0
    · have h := it_t hp_14 h
      subst hp_14
      refine Or.inr ⟨by decide, _, _, q_hand_n (n := 6) (h := (0, 14, 17, 13)) (by decide +kernel) (by decide +kernel) (by decide), ?_⟩
      refine go_iconst (n := 1) (z := 1) (by decide +kernel) (by decide) fun v_17 f_18 => ?_
      cases h
      exact go_iret (by decide +kernel) rfl (Or.inl rfl) f_18 (hQ Eq _ _ Rq (q_out_v (by decide) f_18))
    have h := it_f hp_14 h
    by_cases hp_19 : q_12 = 1
    · have h := it_t hp_19 h
      subst hp_19
      refine Or.inr ⟨by decide, _, _, q_hand_n (n := 6) (h := (0, 14, 21, 15)) (by decide +kernel) (by decide +kernel) (by decide), ?_⟩
      refine go_iconst (n := 2) (z := 2) (by decide +kernel) (by decide) fun v_22 f_23 => ?_
      cases h
      exact go_iret (by decide +kernel) rfl (Or.inl rfl) f_23 (hQ Eq _ _ Rq (q_out_v (by decide) f_23))
    have h := it_f hp_19 h
    by_cases hp_24 : q_12 = 2
    · have h := it_t hp_24 h
      subst hp_24
      refine Or.inr ⟨by decide, _, _, q_hand_n (n := 6) (h := (0, 14, 25, 17)) (by decide +kernel) (by decide +kernel) (by decide), ?_⟩
      refine go_iconst (n := 3) (z := 3) (by decide +kernel) (by decide) fun v_27 f_28 => ?_
      cases h
      exact go_iret (by decide +kernel) rfl (Or.inl rfl) f_28 (hQ Eq _ _ Rq (q_out_v (by decide) f_28))
    have h := it_f hp_24 h
    cases h
  refine go_callV (x := 115) (mi := 131) (n := 4) (ci := 12) (as := [v1, v2, v3, v4]) (rest := [v_1, v5]) (by decide +kernel) (by decide +kernel) rfl rfl (q_sum8 _ (Nat.le_of_ble_eq_true rfl)) R f0 (fx_k (c := 12) R (by decide +kernel)) (om_X11_schedule (Nat.le_trans (by decide) hd) R f0 f1 f2 f3 f4 hc_3) (fun _ S_8 q_11 => ?_) (fun _ _ qq => kr_x (kx_l qq))
  have q_11 := kx_l q_11
  refine kr_z (by decide) q_11 fun v_6 f_7 R_9 E_10 => ?_
  have E_29 := E_10
  refine go_i2l (by decide +kernel) f_7 fun v_30 f_31 => ?_
  obtain ⟨m_32, e_33, h⟩ := up_s h
  refine go_last (kd := 101) (by decide +kernel) rfl R_9 f5 f_2 f_31 (fx_k (c := 101) R_9 (by decide +kernel)) (fx_x (a := 162) (ln := 1) R_9 (by decide +kernel) (by decide)) e_33 (fx_a R_9.2 (fx_k (c := 101) R_9 (by decide +kernel)) (And.left (fx_x (a := 162) (ln := 1) R_9 (by decide +kernel) (by decide))) (by decide +kernel)) fun S_34 R_35 E_36 => ?_
  have E_37 := Ext.tr E_29 E_36
  refine go_goto (o := 15) (t := 29) (by decide +kernel) (by decide +kernel) ?_
  refine go_iconst (n := 0) (z := 0) (by decide +kernel) (by decide) fun v_38 f_39 => ?_
  cases h
  exact go_iret (by decide +kernel) rfl (Or.inl rfl) f_39 (hQ E_37 _ _ R_35 (q_out_v (by decide) f_39))
noncomputable def fm_L_togglePause (p1 : Int) (m0 : MM) : Option (Int × MM) := bx (fm_X11_togglePause p1 m0) (fun q_12 m_5 =>
if q_12 = 0 then
some (1, m_5)
else none) fun x_4 m_5 =>
if x_4 = 0 then
up m_5 162 0 0 fun m_23 =>
some (0, m_23)
else
up m_5 162 0 1 fun m_33 =>
some (0, m_33)
set_option maxHeartbeats 4000000 in
theorem om_L_togglePause {xs : List Int32} {d : Nat} {S : QS} {m0 : MM} {p1 : Int} {v0 : Value} {v1 : Value} {v2 : Value} {rz : Int} {rm : MM}
  (hd : 6 ≤ d) (R : Rp S m0) (f0 : q_is 2 v0 4) (f1 : q_is 0 v1 p1) (f2 : q_is 2 v2 162)
  (h : fm_L_togglePause p1 m0 = some (rz, rm)) : Mt xs d 371 [v0, v1, v2] S (Cr 0 m0 rm rz) := by
  obtain ⟨d, rfl⟩ : ∃ e, d = e + 1 := ⟨d - 1, by omega⟩
  have hd : 5 ≤ d := Nat.le_of_succ_le_succ hd
  refine Mt.of (M := qM_L_togglePause) rfl (by rw [sl_1 (q_is_cat f0 (Or.inr rfl)), sl_1 (q_is_cat f1 (Or.inl rfl)), sl_1 (q_is_cat f2 (Or.inr rfl)), sl_0]; decide) ?_
  rw [la_1 (q_is_cat f0 (Or.inr rfl)), la_1 (q_is_cat f1 (Or.inl rfl)), la_1 (q_is_cat f2 (Or.inr rfl)), la_0]
  obtain ⟨L, hL⟩ : ∃ L : QL, L = [(0, v0), (0 + 1, v1), (0 + 1 + 1, v2)] := ⟨_, rfl⟩
  rw [← hL]
  have l0 : q_lo L 0 = some v0 := by rw [hL]; rfl
  have l1 : q_lo L 1 = some v1 := by rw [hL]; rfl
  have l2 : q_lo L 2 = some v2 := by rw [hL]; rfl
  have hQ : Ext m0 rm → ∀ o S1, Rp S1 rm → q_out 0 o rz → (Cr 0 m0 rm rz) o S1 := fun a o S1 b e => ⟨b, a, e⟩
  unfold fm_L_togglePause at h
  refine go_aload_n (n := 2) (by decide +kernel) l2 f2 ?_
  refine go_iconst (n := 0) (z := 0) (by decide +kernel) (by decide) fun v_1 f_2 => ?_
  refine go_aload_n (n := 0) (by decide +kernel) l0 f0 ?_
  refine go_iload_n (n := 1) (by decide +kernel) l1 f1 ?_
  obtain ⟨rr5, m_5, hc_3, h⟩ := bx_s h
  rcases h with ⟨q_12, rfl, h⟩ | ⟨x_4, rfl, h⟩
  · refine go_callV (x := 118) (mi := 132) (n := 1) (ci := 12) (as := [v1]) (rest := [v_1, v2]) (by decide +kernel) (by decide +kernel) rfl rfl (q_sum8 _ (Nat.le_of_ble_eq_true rfl)) R f0 (fx_k (c := 12) R (by decide +kernel)) (om_X11_togglePause (Nat.le_trans (by decide) hd) R f0 f1 hc_3) (fun _ _ qq => kx_lx qq) (fun _ _ qq => ?_)
    obtain ⟨rfl, Rq, Eq⟩ := kx_e qq
    by_cases hp_14 : q_12 = 0
    · have h := it_t hp_14 h
      subst hp_14
      refine Or.inr ⟨by decide, _, _, q_hand_k (n := 3) (h := (0, 16, 19, 13)) (by decide +kernel) (by decide +kernel) (by decide), ?_⟩
      refine go_iconst (n := 1) (z := 1) (by decide +kernel) (by decide) fun v_17 f_18 => ?_
      cases h
      exact go_iret (by decide +kernel) rfl (Or.inl rfl) f_18 (hQ Eq _ _ Rq (q_out_v (by decide) f_18))
    have h := it_f hp_14 h
    cases h
  refine go_callV (x := 118) (mi := 132) (n := 1) (ci := 12) (as := [v1]) (rest := [v_1, v2]) (by decide +kernel) (by decide +kernel) rfl rfl (q_sum8 _ (Nat.le_of_ble_eq_true rfl)) R f0 (fx_k (c := 12) R (by decide +kernel)) (om_X11_togglePause (Nat.le_trans (by decide) hd) R f0 f1 hc_3) (fun _ S_8 q_11 => ?_) (fun _ _ qq => kr_x (kx_l qq))
  have q_11 := kx_l q_11
  refine kr_z (by decide) q_11 fun v_6 f_7 R_9 E_10 => ?_
  have E_19 := E_10
  refine go_if (c := .eq) (o := 7) (t := 14) (P := x_4 = 0) (by decide +kernel) (by decide +kernel) f_7 (Iff.rfl) (fun hp_20 => ?_) (fun hp_20 => ?_)
  · have h := it_t hp_20 h
    refine go_lconst (n := 0) (z := 0) (by decide +kernel) (by decide) fun v_21 f_22 => ?_
    obtain ⟨m_23, e_24, h⟩ := up_s h
    refine go_last (kd := 101) (by decide +kernel) rfl R_9 f2 f_2 f_22 (fx_k (c := 101) R_9 (by decide +kernel)) (fx_x (a := 162) (ln := 1) R_9 (by decide +kernel) (by decide)) e_24 (fx_a R_9.2 (fx_k (c := 101) R_9 (by decide +kernel)) (And.left (fx_x (a := 162) (ln := 1) R_9 (by decide +kernel) (by decide))) (by decide +kernel)) fun S_25 R_26 E_27 => ?_
    have E_28 := Ext.tr E_19 E_27
    refine go_goto (o := 6) (t := 22) (by decide +kernel) (by decide +kernel) ?_
    refine go_iconst (n := 0) (z := 0) (by decide +kernel) (by decide) fun v_29 f_30 => ?_
    cases h
    exact go_iret (by decide +kernel) rfl (Or.inl rfl) f_30 (hQ E_28 _ _ R_26 (q_out_v (by decide) f_30))
  · have h := it_f hp_20 h
    refine go_lconst (n := 1) (z := 1) (by decide +kernel) (by decide) fun v_31 f_32 => ?_
    refine go_goto (o := 4) (t := 15) (by decide +kernel) (by decide +kernel) ?_
    obtain ⟨m_33, e_34, h⟩ := up_s h
    refine go_last (kd := 101) (by decide +kernel) rfl R_9 f2 f_2 f_32 (fx_k (c := 101) R_9 (by decide +kernel)) (fx_x (a := 162) (ln := 1) R_9 (by decide +kernel) (by decide)) e_34 (fx_a R_9.2 (fx_k (c := 101) R_9 (by decide +kernel)) (And.left (fx_x (a := 162) (ln := 1) R_9 (by decide +kernel) (by decide))) (by decide +kernel)) fun S_35 R_36 E_37 => ?_
    have E_38 := Ext.tr E_19 E_37
    refine go_goto (o := 6) (t := 22) (by decide +kernel) (by decide +kernel) ?_
    refine go_iconst (n := 0) (z := 0) (by decide +kernel) (by decide) fun v_39 f_40 => ?_
    cases h
    exact go_iret (by decide +kernel) rfl (Or.inl rfl) f_40 (hQ E_38 _ _ R_36 (q_out_v (by decide) f_40))
noncomputable def fm_L_backfill (p1 p2 : Int) (m0 : MM) : Option (Int × MM) := bx (fm_X11_backfill p1 p2 m0) (fun q_12 m_5 =>
if q_12 = 0 then
some (1, m_5)
else if q_12 = 1 then
some (2, m_5)
else none) fun x_4 m_5 =>
up m_5 162 0 x_4 fun m_27 =>
some (0, m_27)
set_option maxHeartbeats 4000000 in
theorem om_L_backfill {xs : List Int32} {d : Nat} {S : QS} {m0 : MM} {p1 p2 : Int} {v0 : Value} {v1 : Value} {v2 : Value} {v3 : Value} {rz : Int} {rm : MM}
  (hd : 12 ≤ d) (R : Rp S m0) (f0 : q_is 2 v0 4) (f1 : q_is 0 v1 p1) (f2 : q_is 0 v2 p2) (f3 : q_is 2 v3 162)
  (h : fm_L_backfill p1 p2 m0 = some (rz, rm)) : Mt xs d 372 [v0, v1, v2, v3] S (Cr 0 m0 rm rz) := by
  obtain ⟨d, rfl⟩ : ∃ e, d = e + 1 := ⟨d - 1, by omega⟩
  have hd : 11 ≤ d := Nat.le_of_succ_le_succ hd
  refine Mt.of (M := qM_L_backfill) rfl (by rw [sl_1 (q_is_cat f0 (Or.inr rfl)), sl_1 (q_is_cat f1 (Or.inl rfl)), sl_1 (q_is_cat f2 (Or.inl rfl)), sl_1 (q_is_cat f3 (Or.inr rfl)), sl_0]; decide) ?_
  rw [la_1 (q_is_cat f0 (Or.inr rfl)), la_1 (q_is_cat f1 (Or.inl rfl)), la_1 (q_is_cat f2 (Or.inl rfl)), la_1 (q_is_cat f3 (Or.inr rfl)), la_0]
  obtain ⟨L, hL⟩ : ∃ L : QL, L = [(0, v0), (0 + 1, v1), (0 + 1 + 1, v2), (0 + 1 + 1 + 1, v3)] := ⟨_, rfl⟩
  rw [← hL]
  have l0 : q_lo L 0 = some v0 := by rw [hL]; rfl
  have l1 : q_lo L 1 = some v1 := by rw [hL]; rfl
  have l2 : q_lo L 2 = some v2 := by rw [hL]; rfl
  have l3 : q_lo L 3 = some v3 := by rw [hL]; rfl
  have hQ : Ext m0 rm → ∀ o S1, Rp S1 rm → q_out 0 o rz → (Cr 0 m0 rm rz) o S1 := fun a o S1 b e => ⟨b, a, e⟩
  unfold fm_L_backfill at h
  refine go_aload_n (n := 3) (by decide +kernel) l3 f3 ?_
  refine go_iconst (n := 0) (z := 0) (by decide +kernel) (by decide) fun v_1 f_2 => ?_
  refine go_aload_n (n := 0) (by decide +kernel) l0 f0 ?_
  refine go_iload_n (n := 1) (by decide +kernel) l1 f1 ?_
  refine go_iload_n (n := 2) (by decide +kernel) l2 f2 ?_
  obtain ⟨rr5, m_5, hc_3, h⟩ := bx_s h
  rcases h with ⟨q_12, rfl, h⟩ | ⟨x_4, rfl, h⟩
  · refine go_callV (x := 121) (mi := 133) (n := 2) (ci := 12) (as := [v1, v2]) (rest := [v_1, v3]) (by decide +kernel) (by decide +kernel) rfl rfl (q_sum8 _ (Nat.le_of_ble_eq_true rfl)) R f0 (fx_k (c := 12) R (by decide +kernel)) (om_X11_backfill (Nat.le_trans (by decide) hd) R f0 f1 f2 hc_3) (fun _ _ qq => kx_lx qq) (fun _ _ qq => ?_)
    obtain ⟨rfl, Rq, Eq⟩ := kx_e qq
    by_cases hp_14 : q_12 = 0
    · have h := it_t hp_14 h
      subst hp_14
      refine Or.inr ⟨by decide, _, _, q_hand_n (n := 4) (h := (0, 10, 13, 13)) (by decide +kernel) (by decide +kernel) (by decide), ?_⟩
      refine go_iconst (n := 1) (z := 1) (by decide +kernel) (by decide) fun v_17 f_18 => ?_
      cases h
      exact go_iret (by decide +kernel) rfl (Or.inl rfl) f_18 (hQ Eq _ _ Rq (q_out_v (by decide) f_18))
    have h := it_f hp_14 h
    by_cases hp_19 : q_12 = 1
    · have h := it_t hp_19 h
      subst hp_19
      refine Or.inr ⟨by decide, _, _, q_hand_n (n := 4) (h := (0, 10, 17, 15)) (by decide +kernel) (by decide +kernel) (by decide), ?_⟩
      refine go_iconst (n := 2) (z := 2) (by decide +kernel) (by decide) fun v_22 f_23 => ?_
      cases h
      exact go_iret (by decide +kernel) rfl (Or.inl rfl) f_23 (hQ Eq _ _ Rq (q_out_v (by decide) f_23))
    have h := it_f hp_19 h
    cases h
  refine go_callV (x := 121) (mi := 133) (n := 2) (ci := 12) (as := [v1, v2]) (rest := [v_1, v3]) (by decide +kernel) (by decide +kernel) rfl rfl (q_sum8 _ (Nat.le_of_ble_eq_true rfl)) R f0 (fx_k (c := 12) R (by decide +kernel)) (om_X11_backfill (Nat.le_trans (by decide) hd) R f0 f1 f2 hc_3) (fun _ S_8 q_11 => ?_) (fun _ _ qq => kr_x (kx_l qq))
  have q_11 := kx_l q_11
  refine kr_z (by decide) q_11 fun v_6 f_7 R_9 E_10 => ?_
  have E_24 := E_10
  refine go_i2l (by decide +kernel) f_7 fun v_25 f_26 => ?_
  obtain ⟨m_27, e_28, h⟩ := up_s h
  refine go_last (kd := 101) (by decide +kernel) rfl R_9 f3 f_2 f_26 (fx_k (c := 101) R_9 (by decide +kernel)) (fx_x (a := 162) (ln := 1) R_9 (by decide +kernel) (by decide)) e_28 (fx_a R_9.2 (fx_k (c := 101) R_9 (by decide +kernel)) (And.left (fx_x (a := 162) (ln := 1) R_9 (by decide +kernel) (by decide))) (by decide +kernel)) fun S_29 R_30 E_31 => ?_
  have E_32 := Ext.tr E_24 E_31
  refine go_goto (o := 11) (t := 21) (by decide +kernel) (by decide +kernel) ?_
  refine go_iconst (n := 0) (z := 0) (by decide +kernel) (by decide) fun v_33 f_34 => ?_
  cases h
  exact go_iret (by decide +kernel) rfl (Or.inl rfl) f_34 (hQ E_32 _ _ R_30 (q_out_v (by decide) f_34))
noncomputable def fm_L_shift (p1 : Int) (m0 : MM) : Option (Int × MM) := bx (fm_X11_shift p1 m0) (fun q_12 m_5 =>
if q_12 = 1 then
some (1, m_5)
else none) fun x_4 m_5 =>
up m_5 162 0 x_4 fun m_22 =>
some (0, m_22)
set_option maxHeartbeats 4000000 in
theorem om_L_shift {xs : List Int32} {d : Nat} {S : QS} {m0 : MM} {p1 : Int} {v0 : Value} {v1 : Value} {v2 : Value} {rz : Int} {rm : MM}
  (hd : 2 ≤ d) (R : Rp S m0) (f0 : q_is 2 v0 4) (f1 : q_is 0 v1 p1) (f2 : q_is 2 v2 162)
  (h : fm_L_shift p1 m0 = some (rz, rm)) : Mt xs d 373 [v0, v1, v2] S (Cr 0 m0 rm rz) := by
  obtain ⟨d, rfl⟩ : ∃ e, d = e + 1 := ⟨d - 1, by omega⟩
  have hd : 1 ≤ d := Nat.le_of_succ_le_succ hd
  refine Mt.of (M := qM_L_shift) rfl (by rw [sl_1 (q_is_cat f0 (Or.inr rfl)), sl_1 (q_is_cat f1 (Or.inl rfl)), sl_1 (q_is_cat f2 (Or.inr rfl)), sl_0]; decide) ?_
  rw [la_1 (q_is_cat f0 (Or.inr rfl)), la_1 (q_is_cat f1 (Or.inl rfl)), la_1 (q_is_cat f2 (Or.inr rfl)), la_0]
  obtain ⟨L, hL⟩ : ∃ L : QL, L = [(0, v0), (0 + 1, v1), (0 + 1 + 1, v2)] := ⟨_, rfl⟩
  rw [← hL]
  have l0 : q_lo L 0 = some v0 := by rw [hL]; rfl
  have l1 : q_lo L 1 = some v1 := by rw [hL]; rfl
  have l2 : q_lo L 2 = some v2 := by rw [hL]; rfl
  have hQ : Ext m0 rm → ∀ o S1, Rp S1 rm → q_out 0 o rz → (Cr 0 m0 rm rz) o S1 := fun a o S1 b e => ⟨b, a, e⟩
  unfold fm_L_shift at h
  refine go_aload_n (n := 2) (by decide +kernel) l2 f2 ?_
  refine go_iconst (n := 0) (z := 0) (by decide +kernel) (by decide) fun v_1 f_2 => ?_
  refine go_aload_n (n := 0) (by decide +kernel) l0 f0 ?_
  refine go_iload_n (n := 1) (by decide +kernel) l1 f1 ?_
  obtain ⟨rr5, m_5, hc_3, h⟩ := bx_s h
  rcases h with ⟨q_12, rfl, h⟩ | ⟨x_4, rfl, h⟩
  · refine go_callV (x := 124) (mi := 134) (n := 1) (ci := 12) (as := [v1]) (rest := [v_1, v2]) (by decide +kernel) (by decide +kernel) rfl rfl (q_sum8 _ (Nat.le_of_ble_eq_true rfl)) R f0 (fx_k (c := 12) R (by decide +kernel)) (om_X11_shift (Nat.le_trans (by decide) hd) R f0 f1 hc_3) (fun _ _ qq => kx_lx qq) (fun _ _ qq => ?_)
    obtain ⟨rfl, Rq, Eq⟩ := kx_e qq
    by_cases hp_14 : q_12 = 1
    · have h := it_t hp_14 h
      subst hp_14
      refine Or.inr ⟨by decide, _, _, q_hand_k (n := 3) (h := (0, 9, 12, 15)) (by decide +kernel) (by decide +kernel) (by decide), ?_⟩
      refine go_iconst (n := 1) (z := 1) (by decide +kernel) (by decide) fun v_17 f_18 => ?_
      cases h
      exact go_iret (by decide +kernel) rfl (Or.inl rfl) f_18 (hQ Eq _ _ Rq (q_out_v (by decide) f_18))
    have h := it_f hp_14 h
    cases h
  refine go_callV (x := 124) (mi := 134) (n := 1) (ci := 12) (as := [v1]) (rest := [v_1, v2]) (by decide +kernel) (by decide +kernel) rfl rfl (q_sum8 _ (Nat.le_of_ble_eq_true rfl)) R f0 (fx_k (c := 12) R (by decide +kernel)) (om_X11_shift (Nat.le_trans (by decide) hd) R f0 f1 hc_3) (fun _ S_8 q_11 => ?_) (fun _ _ qq => kr_x (kx_l qq))
  have q_11 := kx_l q_11
  refine kr_z (by decide) q_11 fun v_6 f_7 R_9 E_10 => ?_
  have E_19 := E_10
  refine go_i2l (by decide +kernel) f_7 fun v_20 f_21 => ?_
  obtain ⟨m_22, e_23, h⟩ := up_s h
  refine go_last (kd := 101) (by decide +kernel) rfl R_9 f2 f_2 f_21 (fx_k (c := 101) R_9 (by decide +kernel)) (fx_x (a := 162) (ln := 1) R_9 (by decide +kernel) (by decide)) e_23 (fx_a R_9.2 (fx_k (c := 101) R_9 (by decide +kernel)) (And.left (fx_x (a := 162) (ln := 1) R_9 (by decide +kernel) (by decide))) (by decide +kernel)) fun S_24 R_25 E_26 => ?_
  have E_27 := Ext.tr E_19 E_26
  refine go_goto (o := 6) (t := 15) (by decide +kernel) (by decide +kernel) ?_
  refine go_iconst (n := 0) (z := 0) (by decide +kernel) (by decide) fun v_28 f_29 => ?_
  cases h
  exact go_iret (by decide +kernel) rfl (Or.inl rfl) f_29 (hQ E_27 _ _ R_25 (q_out_v (by decide) f_29))
noncomputable def fm_L_bringIn (p1 : Int) (m0 : MM) : Option (Int × MM) := bx (fm_X11_bringIn p1 m0) (fun q_12 m_5 =>
if q_12 = 1 then
some (1, m_5)
else none) fun x_4 m_5 =>
up m_5 162 0 x_4 fun m_22 =>
some (0, m_22)
set_option maxHeartbeats 4000000 in
theorem om_L_bringIn {xs : List Int32} {d : Nat} {S : QS} {m0 : MM} {p1 : Int} {v0 : Value} {v1 : Value} {v2 : Value} {rz : Int} {rm : MM}
  (hd : 5 ≤ d) (R : Rp S m0) (f0 : q_is 2 v0 4) (f1 : q_is 0 v1 p1) (f2 : q_is 2 v2 162)
  (h : fm_L_bringIn p1 m0 = some (rz, rm)) : Mt xs d 374 [v0, v1, v2] S (Cr 0 m0 rm rz) := by
  obtain ⟨d, rfl⟩ : ∃ e, d = e + 1 := ⟨d - 1, by omega⟩
  have hd : 4 ≤ d := Nat.le_of_succ_le_succ hd
  refine Mt.of (M := qM_L_bringIn) rfl (by rw [sl_1 (q_is_cat f0 (Or.inr rfl)), sl_1 (q_is_cat f1 (Or.inl rfl)), sl_1 (q_is_cat f2 (Or.inr rfl)), sl_0]; decide) ?_
  rw [la_1 (q_is_cat f0 (Or.inr rfl)), la_1 (q_is_cat f1 (Or.inl rfl)), la_1 (q_is_cat f2 (Or.inr rfl)), la_0]
  obtain ⟨L, hL⟩ : ∃ L : QL, L = [(0, v0), (0 + 1, v1), (0 + 1 + 1, v2)] := ⟨_, rfl⟩
  rw [← hL]
  have l0 : q_lo L 0 = some v0 := by rw [hL]; rfl
  have l1 : q_lo L 1 = some v1 := by rw [hL]; rfl
  have l2 : q_lo L 2 = some v2 := by rw [hL]; rfl
  have hQ : Ext m0 rm → ∀ o S1, Rp S1 rm → q_out 0 o rz → (Cr 0 m0 rm rz) o S1 := fun a o S1 b e => ⟨b, a, e⟩
  unfold fm_L_bringIn at h
  refine go_aload_n (n := 2) (by decide +kernel) l2 f2 ?_
  refine go_iconst (n := 0) (z := 0) (by decide +kernel) (by decide) fun v_1 f_2 => ?_
  refine go_aload_n (n := 0) (by decide +kernel) l0 f0 ?_
  refine go_iload_n (n := 1) (by decide +kernel) l1 f1 ?_
  obtain ⟨rr5, m_5, hc_3, h⟩ := bx_s h
  rcases h with ⟨q_12, rfl, h⟩ | ⟨x_4, rfl, h⟩
  · refine go_callV (x := 127) (mi := 135) (n := 1) (ci := 12) (as := [v1]) (rest := [v_1, v2]) (by decide +kernel) (by decide +kernel) rfl rfl (q_sum8 _ (Nat.le_of_ble_eq_true rfl)) R f0 (fx_k (c := 12) R (by decide +kernel)) (om_X11_bringIn (Nat.le_trans (by decide) hd) R f0 f1 hc_3) (fun _ _ qq => kx_lx qq) (fun _ _ qq => ?_)
    obtain ⟨rfl, Rq, Eq⟩ := kx_e qq
    by_cases hp_14 : q_12 = 1
    · have h := it_t hp_14 h
      subst hp_14
      refine Or.inr ⟨by decide, _, _, q_hand_k (n := 3) (h := (0, 9, 12, 15)) (by decide +kernel) (by decide +kernel) (by decide), ?_⟩
      refine go_iconst (n := 1) (z := 1) (by decide +kernel) (by decide) fun v_17 f_18 => ?_
      cases h
      exact go_iret (by decide +kernel) rfl (Or.inl rfl) f_18 (hQ Eq _ _ Rq (q_out_v (by decide) f_18))
    have h := it_f hp_14 h
    cases h
  refine go_callV (x := 127) (mi := 135) (n := 1) (ci := 12) (as := [v1]) (rest := [v_1, v2]) (by decide +kernel) (by decide +kernel) rfl rfl (q_sum8 _ (Nat.le_of_ble_eq_true rfl)) R f0 (fx_k (c := 12) R (by decide +kernel)) (om_X11_bringIn (Nat.le_trans (by decide) hd) R f0 f1 hc_3) (fun _ S_8 q_11 => ?_) (fun _ _ qq => kr_x (kx_l qq))
  have q_11 := kx_l q_11
  refine kr_z (by decide) q_11 fun v_6 f_7 R_9 E_10 => ?_
  have E_19 := E_10
  refine go_i2l (by decide +kernel) f_7 fun v_20 f_21 => ?_
  obtain ⟨m_22, e_23, h⟩ := up_s h
  refine go_last (kd := 101) (by decide +kernel) rfl R_9 f2 f_2 f_21 (fx_k (c := 101) R_9 (by decide +kernel)) (fx_x (a := 162) (ln := 1) R_9 (by decide +kernel) (by decide)) e_23 (fx_a R_9.2 (fx_k (c := 101) R_9 (by decide +kernel)) (And.left (fx_x (a := 162) (ln := 1) R_9 (by decide +kernel) (by decide))) (by decide +kernel)) fun S_24 R_25 E_26 => ?_
  have E_27 := Ext.tr E_19 E_26
  refine go_goto (o := 6) (t := 15) (by decide +kernel) (by decide +kernel) ?_
  refine go_iconst (n := 0) (z := 0) (by decide +kernel) (by decide) fun v_28 f_29 => ?_
  cases h
  exact go_iret (by decide +kernel) rfl (Or.inl rfl) f_29 (hQ E_27 _ _ R_25 (q_out_v (by decide) f_29))
noncomputable def fm_L_search (p1 : Int) (m0 : MM) : Option (Int × MM) := bx (fm_X11_search p1 m0) (fun q_12 m_5 =>
if q_12 = 1 then
some (1, m_5)
else none) fun x_4 m_5 =>
up m_5 162 0 x_4 fun m_22 =>
some (0, m_22)
set_option maxHeartbeats 4000000 in
theorem om_L_search {xs : List Int32} {d : Nat} {S : QS} {m0 : MM} {p1 : Int} {v0 : Value} {v1 : Value} {v2 : Value} {rz : Int} {rm : MM}
  (hd : 5 ≤ d) (R : Rp S m0) (f0 : q_is 2 v0 4) (f1 : q_is 0 v1 p1) (f2 : q_is 2 v2 162)
  (h : fm_L_search p1 m0 = some (rz, rm)) : Mt xs d 375 [v0, v1, v2] S (Cr 0 m0 rm rz) := by
  obtain ⟨d, rfl⟩ : ∃ e, d = e + 1 := ⟨d - 1, by omega⟩
  have hd : 4 ≤ d := Nat.le_of_succ_le_succ hd
  refine Mt.of (M := qM_L_search) rfl (by rw [sl_1 (q_is_cat f0 (Or.inr rfl)), sl_1 (q_is_cat f1 (Or.inl rfl)), sl_1 (q_is_cat f2 (Or.inr rfl)), sl_0]; decide) ?_
  rw [la_1 (q_is_cat f0 (Or.inr rfl)), la_1 (q_is_cat f1 (Or.inl rfl)), la_1 (q_is_cat f2 (Or.inr rfl)), la_0]
  obtain ⟨L, hL⟩ : ∃ L : QL, L = [(0, v0), (0 + 1, v1), (0 + 1 + 1, v2)] := ⟨_, rfl⟩
  rw [← hL]
  have l0 : q_lo L 0 = some v0 := by rw [hL]; rfl
  have l1 : q_lo L 1 = some v1 := by rw [hL]; rfl
  have l2 : q_lo L 2 = some v2 := by rw [hL]; rfl
  have hQ : Ext m0 rm → ∀ o S1, Rp S1 rm → q_out 0 o rz → (Cr 0 m0 rm rz) o S1 := fun a o S1 b e => ⟨b, a, e⟩
  unfold fm_L_search at h
  refine go_aload_n (n := 2) (by decide +kernel) l2 f2 ?_
  refine go_iconst (n := 0) (z := 0) (by decide +kernel) (by decide) fun v_1 f_2 => ?_
  refine go_aload_n (n := 0) (by decide +kernel) l0 f0 ?_
  refine go_iload_n (n := 1) (by decide +kernel) l1 f1 ?_
  obtain ⟨rr5, m_5, hc_3, h⟩ := bx_s h
  rcases h with ⟨q_12, rfl, h⟩ | ⟨x_4, rfl, h⟩
  · refine go_callV (x := 130) (mi := 136) (n := 1) (ci := 12) (as := [v1]) (rest := [v_1, v2]) (by decide +kernel) (by decide +kernel) rfl rfl (q_sum8 _ (Nat.le_of_ble_eq_true rfl)) R f0 (fx_k (c := 12) R (by decide +kernel)) (om_X11_search (Nat.le_trans (by decide) hd) R f0 f1 hc_3) (fun _ _ qq => kx_lx qq) (fun _ _ qq => ?_)
    obtain ⟨rfl, Rq, Eq⟩ := kx_e qq
    by_cases hp_14 : q_12 = 1
    · have h := it_t hp_14 h
      subst hp_14
      refine Or.inr ⟨by decide, _, _, q_hand_k (n := 3) (h := (0, 9, 12, 15)) (by decide +kernel) (by decide +kernel) (by decide), ?_⟩
      refine go_iconst (n := 1) (z := 1) (by decide +kernel) (by decide) fun v_17 f_18 => ?_
      cases h
      exact go_iret (by decide +kernel) rfl (Or.inl rfl) f_18 (hQ Eq _ _ Rq (q_out_v (by decide) f_18))
    have h := it_f hp_14 h
    cases h
  refine go_callV (x := 130) (mi := 136) (n := 1) (ci := 12) (as := [v1]) (rest := [v_1, v2]) (by decide +kernel) (by decide +kernel) rfl rfl (q_sum8 _ (Nat.le_of_ble_eq_true rfl)) R f0 (fx_k (c := 12) R (by decide +kernel)) (om_X11_search (Nat.le_trans (by decide) hd) R f0 f1 hc_3) (fun _ S_8 q_11 => ?_) (fun _ _ qq => kr_x (kx_l qq))
  have q_11 := kx_l q_11
  refine kr_z (by decide) q_11 fun v_6 f_7 R_9 E_10 => ?_
  have E_19 := E_10
  refine go_i2l (by decide +kernel) f_7 fun v_20 f_21 => ?_
  obtain ⟨m_22, e_23, h⟩ := up_s h
  refine go_last (kd := 101) (by decide +kernel) rfl R_9 f2 f_2 f_21 (fx_k (c := 101) R_9 (by decide +kernel)) (fx_x (a := 162) (ln := 1) R_9 (by decide +kernel) (by decide)) e_23 (fx_a R_9.2 (fx_k (c := 101) R_9 (by decide +kernel)) (And.left (fx_x (a := 162) (ln := 1) R_9 (by decide +kernel) (by decide))) (by decide +kernel)) fun S_24 R_25 E_26 => ?_
  have E_27 := Ext.tr E_19 E_26
  refine go_goto (o := 6) (t := 15) (by decide +kernel) (by decide +kernel) ?_
  refine go_iconst (n := 0) (z := 0) (by decide +kernel) (by decide) fun v_28 f_29 => ?_
  cases h
  exact go_iret (by decide +kernel) rfl (Or.inl rfl) f_29 (hQ E_27 _ _ R_25 (q_out_v (by decide) f_29))
noncomputable def fj_L_law_204 (xs : List Int32) (c : Int → MM → Option (Int × MM)) (y4 : Int) (m : MM) : Option (Int × MM) := gd (0 ≤ w32 (y4 + 1) ∧ w32 (y4 + 1) < (xs.length : Int)) <| gd (0 ≤ w32 (y4 + 2) ∧ w32 (y4 + 2) < (xs.length : Int)) <| gd (0 ≤ w32 (y4 + 3) ∧ w32 (y4 + 3) < (xs.length : Int)) <| gd (0 ≤ w32 (y4 + 4) ∧ w32 (y4 + 4) < (xs.length : Int)) <| bd (fm_L_line (scr xs (w32 (y4 + 1))) (scr xs (w32 (y4 + 2))) (scr xs (w32 (y4 + 3))) (scr xs (w32 (y4 + 4))) m) fun x_48 m_49 =>
bd (fm_X12_line (scr xs (w32 (y4 + 1))) (scr xs (w32 (y4 + 2))) (scr xs (w32 (y4 + 3))) (scr xs (w32 (y4 + 4))) m_49) fun x_90 m_91 =>
bp (fm_X12_thrown m_91) fun x_109 =>
if x_109 = x_48 then
if x_48 = 0 then
lx (m_91 162 0) fun x_136 =>
if x_136 = x_90 then
lx (w32 (y4 + 7)) fun x_148 =>
c x_148 m_91
else
some (0, m_91)
else
lx (w32 (y4 + 7)) fun x_124 =>
c x_124 m_91
else
some (0, m_91)
set_option maxHeartbeats 4000000 in
theorem oj_L_law_204 {xs : List Int32} {d : Nat} {S : QS} {L : QL} {Q : QO → QS → Prop} {m : MM} {y4 : Int} {v0 : Value} {v1 : Value} {v2 : Value} {v3 : Value} {v4 : Value}  {rz : Int} {rm : MM} {c : Int → MM → Option (Int × MM)} 
  (hd : 174 ≤ d) (R : Rp S m) (l0 : q_lo L 0 = some v0) (f0 : q_is 7 v0 0) (l1 : q_lo L 1 = some v1) (f1 : q_is 2 v1 4) (l2 : q_lo L 2 = some v2) (f2 : q_is 2 v2 68) (l3 : q_lo L 3 = some v3) (f3 : q_is 2 v3 162) (l4 : q_lo L 4 = some v4) (f4 : q_is 0 v4 y4)
  (hc : ∀ mq : MM, Ext m mq → ∀ {z4 : Int} {Sq : QS} {Lq : QL} {u0 : Value} {u1 : Value} {u2 : Value} {u3 : Value} {u4 : Value}, c z4 mq = some (rz, rm) → Rp Sq mq → q_lo Lq 0 = some u0 → q_is 7 u0 0 → q_lo Lq 1 = some u1 → q_is 2 u1 4 → q_lo Lq 2 = some u2 → q_is 2 u2 68 → q_lo Lq 3 = some u3 → q_is 2 u3 162 → q_lo Lq 4 = some u4 → q_is 0 u4 z4 → Go xs d qM_L_law 23 Lq [] Sq Q)
  (hQ : Ext m rm → ∀ o S1, Rp S1 rm → q_out 0 o rz → Q o S1)
  (h : fj_L_law_204 xs c y4 m = some (rz, rm)) : Go xs d qM_L_law 204 L [] S Q := by
  unfold fj_L_law_204 at h
  refine go_aload_n (n := 1) (by decide +kernel) l1 f1 ?_
  refine go_aloadS (n := 0) (by decide +kernel) l0 f0 ?_
  refine go_iload (n := 4) (by decide +kernel) l4 f4 ?_
  refine go_iconst (n := 1) (z := 1) (by decide +kernel) (by decide) fun v_19 f_20 => ?_
  refine go_iadd (by decide +kernel) f4 f_20 fun v_21 f_22 => ?_
  obtain ⟨g_25, h⟩ := gd_s h
  refine go_sld (by decide +kernel) f0 f_22 g_25 fun v_23 f_24 => ?_
  refine go_aloadS (n := 0) (by decide +kernel) l0 f0 ?_
  refine go_iload (n := 4) (by decide +kernel) l4 f4 ?_
  refine go_iconst (n := 2) (z := 2) (by decide +kernel) (by decide) fun v_26 f_27 => ?_
  refine go_iadd (by decide +kernel) f4 f_27 fun v_28 f_29 => ?_
  obtain ⟨g_32, h⟩ := gd_s h
  refine go_sld (by decide +kernel) f0 f_29 g_32 fun v_30 f_31 => ?_
  refine go_aloadS (n := 0) (by decide +kernel) l0 f0 ?_
  refine go_iload (n := 4) (by decide +kernel) l4 f4 ?_
  refine go_iconst (n := 3) (z := 3) (by decide +kernel) (by decide) fun v_33 f_34 => ?_
  refine go_iadd (by decide +kernel) f4 f_34 fun v_35 f_36 => ?_
  obtain ⟨g_39, h⟩ := gd_s h
  refine go_sld (by decide +kernel) f0 f_36 g_39 fun v_37 f_38 => ?_
  refine go_aloadS (n := 0) (by decide +kernel) l0 f0 ?_
  refine go_iload (n := 4) (by decide +kernel) l4 f4 ?_
  refine go_iconst (n := 4) (z := 4) (by decide +kernel) (by decide) fun v_40 f_41 => ?_
  refine go_iadd (by decide +kernel) f4 f_41 fun v_42 f_43 => ?_
  obtain ⟨g_46, h⟩ := gd_s h
  refine go_sld (by decide +kernel) f0 f_43 g_46 fun v_44 f_45 => ?_
  refine go_aload_n (n := 3) (by decide +kernel) l3 f3 ?_
  obtain ⟨x_48, m_49, hc_47, h⟩ := bd_s h
  refine go_callS (x := 137) (mi := 340) (n := 6) (b := 0) (as := [v1, v_23, v_30, v_37, v_44, v3]) (rest := []) (by decide +kernel) (by decide +kernel) rfl rfl (q_sum8 _ (Nat.le_of_ble_eq_true rfl)) (om_L_line (Nat.le_trans (by decide) hd) R f1 f_24 f_31 f_38 f_45 f3 hc_47) (fun _ S_52 q_55 => ?_) (fun _ _ qq => kr_x qq)
  refine kr_z (by decide) q_55 fun v_50 f_51 R_53 E_54 => ?_
  have E_56 := E_54
  refine go_istore (n := 5) (by decide +kernel) (by decide +kernel) f_51 fun L_57 l_58 kp_59 => ?_
  have l_60 := kp_59 0 _ l0 (by decide) (Or.inl (by decide))
  have l_61 := kp_59 1 _ l1 (by decide) (Or.inl (by decide))
  have l_62 := kp_59 2 _ l2 (by decide) (Or.inl (by decide))
  have l_63 := kp_59 3 _ l3 (by decide) (Or.inl (by decide))
  have l_64 := kp_59 4 _ l4 (by decide) (Or.inr (q_is_cat f4 (Or.inl rfl)))
  refine go_aload_n (n := 2) (by decide +kernel) l_62 f2 ?_
  refine go_aloadS (n := 0) (by decide +kernel) l_60 f0 ?_
  refine go_iload (n := 4) (by decide +kernel) l_64 f4 ?_
  refine go_iconst (n := 1) (z := 1) (by decide +kernel) (by decide) fun v_65 f_66 => ?_
  refine go_iadd (by decide +kernel) f4 f_66 fun v_67 f_68 => ?_
  refine go_sld (by decide +kernel) f0 f_68 g_25 fun v_69 f_70 => ?_
  refine go_aloadS (n := 0) (by decide +kernel) l_60 f0 ?_
  refine go_iload (n := 4) (by decide +kernel) l_64 f4 ?_
  refine go_iconst (n := 2) (z := 2) (by decide +kernel) (by decide) fun v_71 f_72 => ?_
  refine go_iadd (by decide +kernel) f4 f_72 fun v_73 f_74 => ?_
  refine go_sld (by decide +kernel) f0 f_74 g_32 fun v_75 f_76 => ?_
  refine go_aloadS (n := 0) (by decide +kernel) l_60 f0 ?_
  refine go_iload (n := 4) (by decide +kernel) l_64 f4 ?_
  refine go_iconst (n := 3) (z := 3) (by decide +kernel) (by decide) fun v_77 f_78 => ?_
  refine go_iadd (by decide +kernel) f4 f_78 fun v_79 f_80 => ?_
  refine go_sld (by decide +kernel) f0 f_80 g_39 fun v_81 f_82 => ?_
  refine go_aloadS (n := 0) (by decide +kernel) l_60 f0 ?_
  refine go_iload (n := 4) (by decide +kernel) l_64 f4 ?_
  refine go_iconst (n := 4) (z := 4) (by decide +kernel) (by decide) fun v_83 f_84 => ?_
  refine go_iadd (by decide +kernel) f4 f_84 fun v_85 f_86 => ?_
  refine go_sld (by decide +kernel) f0 f_86 g_46 fun v_87 f_88 => ?_
  obtain ⟨x_90, m_91, hc_89, h⟩ := bd_s h
  refine go_callV (x := 142) (mi := 199) (n := 4) (ci := 13) (as := [v_69, v_75, v_81, v_87]) (rest := []) (by decide +kernel) (by decide +kernel) rfl rfl (q_sum8 _ (Nat.le_of_ble_eq_true rfl)) R_53 f2 (fx_k (c := 13) R_53 (by decide +kernel)) (om_X12_line (Nat.le_trans (by decide) hd) R_53 f2 f_70 f_76 f_82 f_88 hc_89) (fun _ S_94 q_97 => ?_) (fun _ _ qq => kr_x qq)
  refine kr_z (by decide) q_97 fun v_92 f_93 R_95 E_96 => ?_
  have E_98 := Ext.tr E_56 E_96
  refine go_istore (n := 6) (by decide +kernel) (by decide +kernel) f_93 fun L_99 l_100 kp_101 => ?_
  have l_102 := kp_101 0 _ l_60 (by decide) (Or.inl (by decide))
  have l_103 := kp_101 1 _ l_61 (by decide) (Or.inl (by decide))
  have l_104 := kp_101 2 _ l_62 (by decide) (Or.inl (by decide))
  have l_105 := kp_101 3 _ l_63 (by decide) (Or.inl (by decide))
  have l_106 := kp_101 4 _ l_64 (by decide) (Or.inl (by decide))
  have l_107 := kp_101 5 _ l_58 (by decide) (Or.inr (q_is_cat f_51 (Or.inl rfl)))
  refine go_aload_n (n := 2) (by decide +kernel) l_104 f2 ?_
  obtain ⟨x_109, hc_108, h⟩ := bp_s h
  refine go_callV (x := 143) (mi := 185) (n := 0) (ci := 13) (as := []) (rest := []) (by decide +kernel) (by decide +kernel) rfl rfl (q_sum8 _ (Nat.le_of_ble_eq_true rfl)) R_95 f2 (fx_k (c := 13) R_95 (by decide +kernel)) (om_X12_thrown (Nat.le_trans (by decide) hd) R_95 f2 hc_108) (fun _ S_113 q_116 => ?_) (fun _ _ qq => kr_x qq)
  refine kr_z (by decide) q_116 fun v_111 f_112 R_114 E_115 => ?_
  refine go_iload (n := 5) (by decide +kernel) l_107 f_51 ?_
  refine go_icmp (c := .eq) (o := 5) (t := 276) (P := x_109 = x_48) (by decide +kernel) (by decide +kernel) f_112 f_51 (Iff.rfl) (fun hp_117 => ?_) (fun hp_117 => ?_)
  · have h := it_t hp_117 h
    refine go_iload (n := 5) (by decide +kernel) l_107 f_51 ?_
    refine go_if (c := .ne) (o := 15) (t := 293) (P := ¬ (x_48 = 0)) (by decide +kernel) (by decide +kernel) f_51 (Iff.rfl) (fun hp_118 => ?_) (fun hp_118 => ?_)
    · have h := it_f hp_118 h
      refine go_goto (o := 2304) (t := 2597) (by decide +kernel) (by decide +kernel) ?_
      refine go_iinc (n := 4) (c := 7) (c' := 7) (by decide +kernel) (by decide +kernel) l_106 f4 (by decide) fun L_119 v_120 f_121 l_122 kp_123 => ?_
      obtain ⟨x_124, e_125, h⟩ := lx_s h
      have f_126 := q_is_eq f_121 e_125
      have l_127 := kp_123 0 _ l_102 (by decide) (Or.inl (by decide))
      have l_128 := kp_123 1 _ l_103 (by decide) (Or.inl (by decide))
      have l_129 := kp_123 2 _ l_104 (by decide) (Or.inl (by decide))
      have l_130 := kp_123 3 _ l_105 (by decide) (Or.inr (q_is_cat f3 (Or.inr rfl)))
      refine go_goto (o := (-2577)) (t := 23) (by decide +kernel) (by decide +kernel) ?_
      exact hc m_91 E_98 h R_114 l_127 f0 l_128 f1 l_129 f2 l_130 f3 l_122 f_126
    · have h := it_n hp_118 h
      refine go_aload_n (n := 3) (by decide +kernel) l_105 f3 ?_
      refine go_iconst (n := 0) (z := 0) (by decide +kernel) (by decide) fun v_131 f_132 => ?_
      obtain ⟨x_136, e_137, h⟩ := lx_s h
      refine go_lald (kd := 101) (by decide +kernel) rfl R_114 f3 f_132 (fx_k (c := 101) R_114 (by decide +kernel)) (fx_x (a := 162) (ln := 1) R_114 (by decide +kernel) (by decide)) fun v_133 f_134 => ?_
      have f_135 := q_is_eq f_134 e_137
      refine go_iload (n := 6) (by decide +kernel) l_100 f_93 ?_
      refine go_i2l (by decide +kernel) f_93 fun v_138 f_139 => ?_
      refine go_lcmp (by decide +kernel) f_135 f_139 fun v_140 f_141 => ?_
      refine go_if (c := .eq) (o := 5) (t := 293) (P := x_136 = x_90) (by decide +kernel) (by decide +kernel) f_141 (lc_eq) (fun hp_142 => ?_) (fun hp_142 => ?_)
      · have h := it_t hp_142 h
        refine go_goto (o := 2304) (t := 2597) (by decide +kernel) (by decide +kernel) ?_
        refine go_iinc (n := 4) (c := 7) (c' := 7) (by decide +kernel) (by decide +kernel) l_106 f4 (by decide) fun L_143 v_144 f_145 l_146 kp_147 => ?_
        obtain ⟨x_148, e_149, h⟩ := lx_s h
        have f_150 := q_is_eq f_145 e_149
        have l_151 := kp_147 0 _ l_102 (by decide) (Or.inl (by decide))
        have l_152 := kp_147 1 _ l_103 (by decide) (Or.inl (by decide))
        have l_153 := kp_147 2 _ l_104 (by decide) (Or.inl (by decide))
        have l_154 := kp_147 3 _ l_105 (by decide) (Or.inr (q_is_cat f3 (Or.inr rfl)))
        refine go_goto (o := (-2577)) (t := 23) (by decide +kernel) (by decide +kernel) ?_
        exact hc m_91 E_98 h R_114 l_151 f0 l_152 f1 l_153 f2 l_154 f3 l_146 f_150
      · have h := it_f hp_142 h
        refine go_iconst (n := 0) (z := 0) (by decide +kernel) (by decide) fun v_155 f_156 => ?_
        cases h
        exact go_iret (by decide +kernel) rfl (Or.inr ⟨rfl, by decide⟩) f_156 (hQ E_98 _ _ R_114 (q_out_v (by decide) f_156))
  · have h := it_f hp_117 h
    refine go_iconst (n := 0) (z := 0) (by decide +kernel) (by decide) fun v_157 f_158 => ?_
    cases h
    exact go_iret (by decide +kernel) rfl (Or.inr ⟨rfl, by decide⟩) f_158 (hQ E_98 _ _ R_114 (q_out_v (by decide) f_158))
noncomputable def fj_L_law_296 (xs : List Int32) (c : Int → MM → Option (Int × MM)) (y4 : Int) (m : MM) : Option (Int × MM) := gd (0 ≤ w32 (y4 + 1) ∧ w32 (y4 + 1) < (xs.length : Int)) <| bd (fm_L_deploy (scr xs (w32 (y4 + 1))) m) fun x_169 m_170 =>
bd (fm_X12_deploy (scr xs (w32 (y4 + 1))) m_170) fun x_193 m_194 =>
bp (fm_X12_thrown m_194) fun x_212 =>
if x_212 = x_169 then
if x_169 = 0 then
lx (m_194 162 0) fun x_239 =>
if x_239 = x_193 then
lx (w32 (y4 + 7)) fun x_251 =>
c x_251 m_194
else
some (0, m_194)
else
lx (w32 (y4 + 7)) fun x_227 =>
c x_227 m_194
else
some (0, m_194)
set_option maxHeartbeats 4000000 in
theorem oj_L_law_296 {xs : List Int32} {d : Nat} {S : QS} {L : QL} {Q : QO → QS → Prop} {m : MM} {y4 : Int} {v0 : Value} {v1 : Value} {v2 : Value} {v3 : Value} {v4 : Value}  {rz : Int} {rm : MM} {c : Int → MM → Option (Int × MM)} 
  (hd : 174 ≤ d) (R : Rp S m) (l0 : q_lo L 0 = some v0) (f0 : q_is 7 v0 0) (l1 : q_lo L 1 = some v1) (f1 : q_is 2 v1 4) (l2 : q_lo L 2 = some v2) (f2 : q_is 2 v2 68) (l3 : q_lo L 3 = some v3) (f3 : q_is 2 v3 162) (l4 : q_lo L 4 = some v4) (f4 : q_is 0 v4 y4)
  (hc : ∀ mq : MM, Ext m mq → ∀ {z4 : Int} {Sq : QS} {Lq : QL} {u0 : Value} {u1 : Value} {u2 : Value} {u3 : Value} {u4 : Value}, c z4 mq = some (rz, rm) → Rp Sq mq → q_lo Lq 0 = some u0 → q_is 7 u0 0 → q_lo Lq 1 = some u1 → q_is 2 u1 4 → q_lo Lq 2 = some u2 → q_is 2 u2 68 → q_lo Lq 3 = some u3 → q_is 2 u3 162 → q_lo Lq 4 = some u4 → q_is 0 u4 z4 → Go xs d qM_L_law 23 Lq [] Sq Q)
  (hQ : Ext m rm → ∀ o S1, Rp S1 rm → q_out 0 o rz → Q o S1)
  (h : fj_L_law_296 xs c y4 m = some (rz, rm)) : Go xs d qM_L_law 296 L [] S Q := by
  unfold fj_L_law_296 at h
  refine go_aload_n (n := 1) (by decide +kernel) l1 f1 ?_
  refine go_aloadS (n := 0) (by decide +kernel) l0 f0 ?_
  refine go_iload (n := 4) (by decide +kernel) l4 f4 ?_
  refine go_iconst (n := 1) (z := 1) (by decide +kernel) (by decide) fun v_161 f_162 => ?_
  refine go_iadd (by decide +kernel) f4 f_162 fun v_163 f_164 => ?_
  obtain ⟨g_167, h⟩ := gd_s h
  refine go_sld (by decide +kernel) f0 f_164 g_167 fun v_165 f_166 => ?_
  refine go_aload_n (n := 3) (by decide +kernel) l3 f3 ?_
  obtain ⟨x_169, m_170, hc_168, h⟩ := bd_s h
  refine go_callS (x := 146) (mi := 341) (n := 3) (b := 0) (as := [v1, v_165, v3]) (rest := []) (by decide +kernel) (by decide +kernel) rfl rfl (q_sum8 _ (Nat.le_of_ble_eq_true rfl)) (om_L_deploy (Nat.le_trans (by decide) hd) R f1 f_166 f3 hc_168) (fun _ S_173 q_176 => ?_) (fun _ _ qq => kr_x qq)
  refine kr_z (by decide) q_176 fun v_171 f_172 R_174 E_175 => ?_
  have E_177 := E_175
  refine go_istore (n := 5) (by decide +kernel) (by decide +kernel) f_172 fun L_178 l_179 kp_180 => ?_
  have l_181 := kp_180 0 _ l0 (by decide) (Or.inl (by decide))
  have l_182 := kp_180 1 _ l1 (by decide) (Or.inl (by decide))
  have l_183 := kp_180 2 _ l2 (by decide) (Or.inl (by decide))
  have l_184 := kp_180 3 _ l3 (by decide) (Or.inl (by decide))
  have l_185 := kp_180 4 _ l4 (by decide) (Or.inr (q_is_cat f4 (Or.inl rfl)))
  refine go_aload_n (n := 2) (by decide +kernel) l_183 f2 ?_
  refine go_aloadS (n := 0) (by decide +kernel) l_181 f0 ?_
  refine go_iload (n := 4) (by decide +kernel) l_185 f4 ?_
  refine go_iconst (n := 1) (z := 1) (by decide +kernel) (by decide) fun v_186 f_187 => ?_
  refine go_iadd (by decide +kernel) f4 f_187 fun v_188 f_189 => ?_
  refine go_sld (by decide +kernel) f0 f_189 g_167 fun v_190 f_191 => ?_
  obtain ⟨x_193, m_194, hc_192, h⟩ := bd_s h
  refine go_callV (x := 149) (mi := 200) (n := 1) (ci := 13) (as := [v_190]) (rest := []) (by decide +kernel) (by decide +kernel) rfl rfl (q_sum8 _ (Nat.le_of_ble_eq_true rfl)) R_174 f2 (fx_k (c := 13) R_174 (by decide +kernel)) (om_X12_deploy (Nat.le_trans (by decide) hd) R_174 f2 f_191 hc_192) (fun _ S_197 q_200 => ?_) (fun _ _ qq => kr_x qq)
  refine kr_z (by decide) q_200 fun v_195 f_196 R_198 E_199 => ?_
  have E_201 := Ext.tr E_177 E_199
  refine go_istore (n := 6) (by decide +kernel) (by decide +kernel) f_196 fun L_202 l_203 kp_204 => ?_
  have l_205 := kp_204 0 _ l_181 (by decide) (Or.inl (by decide))
  have l_206 := kp_204 1 _ l_182 (by decide) (Or.inl (by decide))
  have l_207 := kp_204 2 _ l_183 (by decide) (Or.inl (by decide))
  have l_208 := kp_204 3 _ l_184 (by decide) (Or.inl (by decide))
  have l_209 := kp_204 4 _ l_185 (by decide) (Or.inl (by decide))
  have l_210 := kp_204 5 _ l_179 (by decide) (Or.inr (q_is_cat f_172 (Or.inl rfl)))
  refine go_aload_n (n := 2) (by decide +kernel) l_207 f2 ?_
  obtain ⟨x_212, hc_211, h⟩ := bp_s h
  refine go_callV (x := 143) (mi := 185) (n := 0) (ci := 13) (as := []) (rest := []) (by decide +kernel) (by decide +kernel) rfl rfl (q_sum8 _ (Nat.le_of_ble_eq_true rfl)) R_198 f2 (fx_k (c := 13) R_198 (by decide +kernel)) (om_X12_thrown (Nat.le_trans (by decide) hd) R_198 f2 hc_211) (fun _ S_216 q_219 => ?_) (fun _ _ qq => kr_x qq)
  refine kr_z (by decide) q_219 fun v_214 f_215 R_217 E_218 => ?_
  refine go_iload (n := 5) (by decide +kernel) l_210 f_172 ?_
  refine go_icmp (c := .eq) (o := 5) (t := 332) (P := x_212 = x_169) (by decide +kernel) (by decide +kernel) f_215 f_172 (Iff.rfl) (fun hp_220 => ?_) (fun hp_220 => ?_)
  · have h := it_t hp_220 h
    refine go_iload (n := 5) (by decide +kernel) l_210 f_172 ?_
    refine go_if (c := .ne) (o := 15) (t := 349) (P := ¬ (x_169 = 0)) (by decide +kernel) (by decide +kernel) f_172 (Iff.rfl) (fun hp_221 => ?_) (fun hp_221 => ?_)
    · have h := it_f hp_221 h
      refine go_goto (o := 2248) (t := 2597) (by decide +kernel) (by decide +kernel) ?_
      refine go_iinc (n := 4) (c := 7) (c' := 7) (by decide +kernel) (by decide +kernel) l_209 f4 (by decide) fun L_222 v_223 f_224 l_225 kp_226 => ?_
      obtain ⟨x_227, e_228, h⟩ := lx_s h
      have f_229 := q_is_eq f_224 e_228
      have l_230 := kp_226 0 _ l_205 (by decide) (Or.inl (by decide))
      have l_231 := kp_226 1 _ l_206 (by decide) (Or.inl (by decide))
      have l_232 := kp_226 2 _ l_207 (by decide) (Or.inl (by decide))
      have l_233 := kp_226 3 _ l_208 (by decide) (Or.inr (q_is_cat f3 (Or.inr rfl)))
      refine go_goto (o := (-2577)) (t := 23) (by decide +kernel) (by decide +kernel) ?_
      exact hc m_194 E_201 h R_217 l_230 f0 l_231 f1 l_232 f2 l_233 f3 l_225 f_229
    · have h := it_n hp_221 h
      refine go_aload_n (n := 3) (by decide +kernel) l_208 f3 ?_
      refine go_iconst (n := 0) (z := 0) (by decide +kernel) (by decide) fun v_234 f_235 => ?_
      obtain ⟨x_239, e_240, h⟩ := lx_s h
      refine go_lald (kd := 101) (by decide +kernel) rfl R_217 f3 f_235 (fx_k (c := 101) R_217 (by decide +kernel)) (fx_x (a := 162) (ln := 1) R_217 (by decide +kernel) (by decide)) fun v_236 f_237 => ?_
      have f_238 := q_is_eq f_237 e_240
      refine go_iload (n := 6) (by decide +kernel) l_203 f_196 ?_
      refine go_i2l (by decide +kernel) f_196 fun v_241 f_242 => ?_
      refine go_lcmp (by decide +kernel) f_238 f_242 fun v_243 f_244 => ?_
      refine go_if (c := .eq) (o := 5) (t := 349) (P := x_239 = x_193) (by decide +kernel) (by decide +kernel) f_244 (lc_eq) (fun hp_245 => ?_) (fun hp_245 => ?_)
      · have h := it_t hp_245 h
        refine go_goto (o := 2248) (t := 2597) (by decide +kernel) (by decide +kernel) ?_
        refine go_iinc (n := 4) (c := 7) (c' := 7) (by decide +kernel) (by decide +kernel) l_209 f4 (by decide) fun L_246 v_247 f_248 l_249 kp_250 => ?_
        obtain ⟨x_251, e_252, h⟩ := lx_s h
        have f_253 := q_is_eq f_248 e_252
        have l_254 := kp_250 0 _ l_205 (by decide) (Or.inl (by decide))
        have l_255 := kp_250 1 _ l_206 (by decide) (Or.inl (by decide))
        have l_256 := kp_250 2 _ l_207 (by decide) (Or.inl (by decide))
        have l_257 := kp_250 3 _ l_208 (by decide) (Or.inr (q_is_cat f3 (Or.inr rfl)))
        refine go_goto (o := (-2577)) (t := 23) (by decide +kernel) (by decide +kernel) ?_
        exact hc m_194 E_201 h R_217 l_254 f0 l_255 f1 l_256 f2 l_257 f3 l_249 f_253
      · have h := it_f hp_245 h
        refine go_iconst (n := 0) (z := 0) (by decide +kernel) (by decide) fun v_258 f_259 => ?_
        cases h
        exact go_iret (by decide +kernel) rfl (Or.inr ⟨rfl, by decide⟩) f_259 (hQ E_201 _ _ R_217 (q_out_v (by decide) f_259))
  · have h := it_f hp_220 h
    refine go_iconst (n := 0) (z := 0) (by decide +kernel) (by decide) fun v_260 f_261 => ?_
    cases h
    exact go_iret (by decide +kernel) rfl (Or.inr ⟨rfl, by decide⟩) f_261 (hQ E_201 _ _ R_217 (q_out_v (by decide) f_261))
noncomputable def fj_L_law_352 (xs : List Int32) (c : Int → MM → Option (Int × MM)) (y4 : Int) (m : MM) : Option (Int × MM) := gd (0 ≤ w32 (y4 + 1) ∧ w32 (y4 + 1) < (xs.length : Int)) <| gd (0 ≤ w32 (y4 + 2) ∧ w32 (y4 + 2) < (xs.length : Int)) <| gd (0 ≤ w32 (y4 + 3) ∧ w32 (y4 + 3) < (xs.length : Int)) <| gd (0 ≤ w32 (y4 + 4) ∧ w32 (y4 + 4) < (xs.length : Int)) <| gd (0 ≤ w32 (y4 + 5) ∧ w32 (y4 + 5) < (xs.length : Int)) <| gd (0 ≤ w32 (y4 + 6) ∧ w32 (y4 + 6) < (xs.length : Int)) <| bd (fm_L_setKind (scr xs (w32 (y4 + 1))) (scr xs (w32 (y4 + 2))) (scr xs (w32 (y4 + 3))) (scr xs (w32 (y4 + 4))) (scr xs (w32 (y4 + 5))) (scr xs (w32 (y4 + 6))) m) fun x_307 m_308 =>
bd (fm_X12_setKind (scr xs (w32 (y4 + 1))) (scr xs (w32 (y4 + 2))) (scr xs (w32 (y4 + 3))) (scr xs (w32 (y4 + 4))) (scr xs (w32 (y4 + 5))) (scr xs (w32 (y4 + 6))) m_308) fun x_361 m_362 =>
bp (fm_X12_thrown m_362) fun x_371 =>
if x_371 = x_307 then
lx (w32 (y4 + 7)) fun x_385 =>
c x_385 m_362
else
some (0, m_362)
set_option maxHeartbeats 4000000 in
theorem oj_L_law_352 {xs : List Int32} {d : Nat} {S : QS} {L : QL} {Q : QO → QS → Prop} {m : MM} {y4 : Int} {v0 : Value} {v1 : Value} {v2 : Value} {v3 : Value} {v4 : Value}  {rz : Int} {rm : MM} {c : Int → MM → Option (Int × MM)} 
  (hd : 174 ≤ d) (R : Rp S m) (l0 : q_lo L 0 = some v0) (f0 : q_is 7 v0 0) (l1 : q_lo L 1 = some v1) (f1 : q_is 2 v1 4) (l2 : q_lo L 2 = some v2) (f2 : q_is 2 v2 68) (l3 : q_lo L 3 = some v3) (f3 : q_is 2 v3 162) (l4 : q_lo L 4 = some v4) (f4 : q_is 0 v4 y4)
  (hc : ∀ mq : MM, Ext m mq → ∀ {z4 : Int} {Sq : QS} {Lq : QL} {u0 : Value} {u1 : Value} {u2 : Value} {u3 : Value} {u4 : Value}, c z4 mq = some (rz, rm) → Rp Sq mq → q_lo Lq 0 = some u0 → q_is 7 u0 0 → q_lo Lq 1 = some u1 → q_is 2 u1 4 → q_lo Lq 2 = some u2 → q_is 2 u2 68 → q_lo Lq 3 = some u3 → q_is 2 u3 162 → q_lo Lq 4 = some u4 → q_is 0 u4 z4 → Go xs d qM_L_law 23 Lq [] Sq Q)
  (hQ : Ext m rm → ∀ o S1, Rp S1 rm → q_out 0 o rz → Q o S1)
  (h : fj_L_law_352 xs c y4 m = some (rz, rm)) : Go xs d qM_L_law 352 L [] S Q := by
  unfold fj_L_law_352 at h
  refine go_aload_n (n := 1) (by decide +kernel) l1 f1 ?_
  refine go_aloadS (n := 0) (by decide +kernel) l0 f0 ?_
  refine go_iload (n := 4) (by decide +kernel) l4 f4 ?_
  refine go_iconst (n := 1) (z := 1) (by decide +kernel) (by decide) fun v_264 f_265 => ?_
  refine go_iadd (by decide +kernel) f4 f_265 fun v_266 f_267 => ?_
  obtain ⟨g_270, h⟩ := gd_s h
  refine go_sld (by decide +kernel) f0 f_267 g_270 fun v_268 f_269 => ?_
  refine go_aloadS (n := 0) (by decide +kernel) l0 f0 ?_
  refine go_iload (n := 4) (by decide +kernel) l4 f4 ?_
  refine go_iconst (n := 2) (z := 2) (by decide +kernel) (by decide) fun v_271 f_272 => ?_
  refine go_iadd (by decide +kernel) f4 f_272 fun v_273 f_274 => ?_
  obtain ⟨g_277, h⟩ := gd_s h
  refine go_sld (by decide +kernel) f0 f_274 g_277 fun v_275 f_276 => ?_
  refine go_aloadS (n := 0) (by decide +kernel) l0 f0 ?_
  refine go_iload (n := 4) (by decide +kernel) l4 f4 ?_
  refine go_iconst (n := 3) (z := 3) (by decide +kernel) (by decide) fun v_278 f_279 => ?_
  refine go_iadd (by decide +kernel) f4 f_279 fun v_280 f_281 => ?_
  obtain ⟨g_284, h⟩ := gd_s h
  refine go_sld (by decide +kernel) f0 f_281 g_284 fun v_282 f_283 => ?_
  refine go_aloadS (n := 0) (by decide +kernel) l0 f0 ?_
  refine go_iload (n := 4) (by decide +kernel) l4 f4 ?_
  refine go_iconst (n := 4) (z := 4) (by decide +kernel) (by decide) fun v_285 f_286 => ?_
  refine go_iadd (by decide +kernel) f4 f_286 fun v_287 f_288 => ?_
  obtain ⟨g_291, h⟩ := gd_s h
  refine go_sld (by decide +kernel) f0 f_288 g_291 fun v_289 f_290 => ?_
  refine go_aloadS (n := 0) (by decide +kernel) l0 f0 ?_
  refine go_iload (n := 4) (by decide +kernel) l4 f4 ?_
  refine go_iconst (n := 5) (z := 5) (by decide +kernel) (by decide) fun v_292 f_293 => ?_
  refine go_iadd (by decide +kernel) f4 f_293 fun v_294 f_295 => ?_
  obtain ⟨g_298, h⟩ := gd_s h
  refine go_sld (by decide +kernel) f0 f_295 g_298 fun v_296 f_297 => ?_
  refine go_aloadS (n := 0) (by decide +kernel) l0 f0 ?_
  refine go_iload (n := 4) (by decide +kernel) l4 f4 ?_
  refine go_bipush (n := 6) (z := 6) (by decide +kernel) (by decide) fun v_299 f_300 => ?_
  refine go_iadd (by decide +kernel) f4 f_300 fun v_301 f_302 => ?_
  obtain ⟨g_305, h⟩ := gd_s h
  refine go_sld (by decide +kernel) f0 f_302 g_305 fun v_303 f_304 => ?_
  obtain ⟨x_307, m_308, hc_306, h⟩ := bd_s h
  refine go_callS (x := 150) (mi := 342) (n := 7) (b := 0) (as := [v1, v_268, v_275, v_282, v_289, v_296, v_303]) (rest := []) (by decide +kernel) (by decide +kernel) rfl rfl (q_sum8 _ (Nat.le_of_ble_eq_true rfl)) (om_L_setKind (Nat.le_trans (by decide) hd) R f1 f_269 f_276 f_283 f_290 f_297 f_304 hc_306) (fun _ S_311 q_314 => ?_) (fun _ _ qq => kr_x qq)
  refine kr_z (by decide) q_314 fun v_309 f_310 R_312 E_313 => ?_
  have E_315 := E_313
  refine go_istore (n := 5) (by decide +kernel) (by decide +kernel) f_310 fun L_316 l_317 kp_318 => ?_
  have l_319 := kp_318 0 _ l0 (by decide) (Or.inl (by decide))
  have l_320 := kp_318 1 _ l1 (by decide) (Or.inl (by decide))
  have l_321 := kp_318 2 _ l2 (by decide) (Or.inl (by decide))
  have l_322 := kp_318 3 _ l3 (by decide) (Or.inl (by decide))
  have l_323 := kp_318 4 _ l4 (by decide) (Or.inr (q_is_cat f4 (Or.inl rfl)))
  refine go_aload_n (n := 2) (by decide +kernel) l_321 f2 ?_
  refine go_aloadS (n := 0) (by decide +kernel) l_319 f0 ?_
  refine go_iload (n := 4) (by decide +kernel) l_323 f4 ?_
  refine go_iconst (n := 1) (z := 1) (by decide +kernel) (by decide) fun v_324 f_325 => ?_
  refine go_iadd (by decide +kernel) f4 f_325 fun v_326 f_327 => ?_
  refine go_sld (by decide +kernel) f0 f_327 g_270 fun v_328 f_329 => ?_
  refine go_aloadS (n := 0) (by decide +kernel) l_319 f0 ?_
  refine go_iload (n := 4) (by decide +kernel) l_323 f4 ?_
  refine go_iconst (n := 2) (z := 2) (by decide +kernel) (by decide) fun v_330 f_331 => ?_
  refine go_iadd (by decide +kernel) f4 f_331 fun v_332 f_333 => ?_
  refine go_sld (by decide +kernel) f0 f_333 g_277 fun v_334 f_335 => ?_
  refine go_aloadS (n := 0) (by decide +kernel) l_319 f0 ?_
  refine go_iload (n := 4) (by decide +kernel) l_323 f4 ?_
  refine go_iconst (n := 3) (z := 3) (by decide +kernel) (by decide) fun v_336 f_337 => ?_
  refine go_iadd (by decide +kernel) f4 f_337 fun v_338 f_339 => ?_
  refine go_sld (by decide +kernel) f0 f_339 g_284 fun v_340 f_341 => ?_
  refine go_aloadS (n := 0) (by decide +kernel) l_319 f0 ?_
  refine go_iload (n := 4) (by decide +kernel) l_323 f4 ?_
  refine go_iconst (n := 4) (z := 4) (by decide +kernel) (by decide) fun v_342 f_343 => ?_
  refine go_iadd (by decide +kernel) f4 f_343 fun v_344 f_345 => ?_
  refine go_sld (by decide +kernel) f0 f_345 g_291 fun v_346 f_347 => ?_
  refine go_aloadS (n := 0) (by decide +kernel) l_319 f0 ?_
  refine go_iload (n := 4) (by decide +kernel) l_323 f4 ?_
  refine go_iconst (n := 5) (z := 5) (by decide +kernel) (by decide) fun v_348 f_349 => ?_
  refine go_iadd (by decide +kernel) f4 f_349 fun v_350 f_351 => ?_
  refine go_sld (by decide +kernel) f0 f_351 g_298 fun v_352 f_353 => ?_
  refine go_aloadS (n := 0) (by decide +kernel) l_319 f0 ?_
  refine go_iload (n := 4) (by decide +kernel) l_323 f4 ?_
  refine go_bipush (n := 6) (z := 6) (by decide +kernel) (by decide) fun v_354 f_355 => ?_
  refine go_iadd (by decide +kernel) f4 f_355 fun v_356 f_357 => ?_
  refine go_sld (by decide +kernel) f0 f_357 g_305 fun v_358 f_359 => ?_
  obtain ⟨x_361, m_362, hc_360, h⟩ := bd_s h
  refine go_callV (x := 153) (mi := 201) (n := 6) (ci := 13) (as := [v_328, v_334, v_340, v_346, v_352, v_358]) (rest := []) (by decide +kernel) (by decide +kernel) rfl rfl (q_sum8 _ (Nat.le_of_ble_eq_true rfl)) R_312 f2 (fx_k (c := 13) R_312 (by decide +kernel)) (om_X12_setKind (Nat.le_trans (by decide) hd) R_312 f2 f_329 f_335 f_341 f_347 f_353 f_359 hc_360) (fun _ S_365 q_368 => ?_) (fun _ _ qq => kr_x qq)
  refine kr_v q_368 fun R_366 E_367 => ?_
  have E_369 := Ext.tr E_315 E_367
  refine go_aload_n (n := 2) (by decide +kernel) l_321 f2 ?_
  obtain ⟨x_371, hc_370, h⟩ := bp_s h
  refine go_callV (x := 143) (mi := 185) (n := 0) (ci := 13) (as := []) (rest := []) (by decide +kernel) (by decide +kernel) rfl rfl (q_sum8 _ (Nat.le_of_ble_eq_true rfl)) R_366 f2 (fx_k (c := 13) R_366 (by decide +kernel)) (om_X12_thrown (Nat.le_trans (by decide) hd) R_366 f2 hc_370) (fun _ S_375 q_378 => ?_) (fun _ _ qq => kr_x qq)
  refine kr_z (by decide) q_378 fun v_373 f_374 R_376 E_377 => ?_
  refine go_iload (n := 5) (by decide +kernel) l_317 f_310 ?_
  refine go_icmp (c := .eq) (o := 5) (t := 447) (P := x_371 = x_307) (by decide +kernel) (by decide +kernel) f_374 f_310 (Iff.rfl) (fun hp_379 => ?_) (fun hp_379 => ?_)
  · have h := it_t hp_379 h
    refine go_goto (o := 2150) (t := 2597) (by decide +kernel) (by decide +kernel) ?_
    refine go_iinc (n := 4) (c := 7) (c' := 7) (by decide +kernel) (by decide +kernel) l_323 f4 (by decide) fun L_380 v_381 f_382 l_383 kp_384 => ?_
    obtain ⟨x_385, e_386, h⟩ := lx_s h
    have f_387 := q_is_eq f_382 e_386
    have l_388 := kp_384 0 _ l_319 (by decide) (Or.inl (by decide))
    have l_389 := kp_384 1 _ l_320 (by decide) (Or.inl (by decide))
    have l_390 := kp_384 2 _ l_321 (by decide) (Or.inl (by decide))
    have l_391 := kp_384 3 _ l_322 (by decide) (Or.inr (q_is_cat f3 (Or.inr rfl)))
    refine go_goto (o := (-2577)) (t := 23) (by decide +kernel) (by decide +kernel) ?_
    exact hc m_362 E_369 h R_376 l_388 f0 l_389 f1 l_390 f2 l_391 f3 l_383 f_387
  · have h := it_f hp_379 h
    refine go_iconst (n := 0) (z := 0) (by decide +kernel) (by decide) fun v_392 f_393 => ?_
    cases h
    exact go_iret (by decide +kernel) rfl (Or.inr ⟨rfl, by decide⟩) f_393 (hQ E_369 _ _ R_376 (q_out_v (by decide) f_393))
noncomputable def fj_L_law_450 (xs : List Int32) (c : Int → MM → Option (Int × MM)) (y4 : Int) (m : MM) : Option (Int × MM) := gd (0 ≤ w32 (y4 + 1) ∧ w32 (y4 + 1) < (xs.length : Int)) <| gd (0 ≤ w32 (y4 + 2) ∧ w32 (y4 + 2) < (xs.length : Int)) <| bd (fm_L_setPolicy (scr xs (w32 (y4 + 1))) (scr xs (w32 (y4 + 2))) m) fun x_411 m_412 =>
bd (fm_X12_setPolicy (scr xs (w32 (y4 + 1))) (scr xs (w32 (y4 + 2))) m_412) fun x_441 m_442 =>
bp (fm_X12_thrown m_442) fun x_460 =>
if x_460 = x_411 then
if x_411 = 0 then
lx (m_442 162 0) fun x_487 =>
if x_487 = x_441 then
lx (w32 (y4 + 7)) fun x_499 =>
c x_499 m_442
else
some (0, m_442)
else
lx (w32 (y4 + 7)) fun x_475 =>
c x_475 m_442
else
some (0, m_442)
set_option maxHeartbeats 4000000 in
theorem oj_L_law_450 {xs : List Int32} {d : Nat} {S : QS} {L : QL} {Q : QO → QS → Prop} {m : MM} {y4 : Int} {v0 : Value} {v1 : Value} {v2 : Value} {v3 : Value} {v4 : Value}  {rz : Int} {rm : MM} {c : Int → MM → Option (Int × MM)} 
  (hd : 174 ≤ d) (R : Rp S m) (l0 : q_lo L 0 = some v0) (f0 : q_is 7 v0 0) (l1 : q_lo L 1 = some v1) (f1 : q_is 2 v1 4) (l2 : q_lo L 2 = some v2) (f2 : q_is 2 v2 68) (l3 : q_lo L 3 = some v3) (f3 : q_is 2 v3 162) (l4 : q_lo L 4 = some v4) (f4 : q_is 0 v4 y4)
  (hc : ∀ mq : MM, Ext m mq → ∀ {z4 : Int} {Sq : QS} {Lq : QL} {u0 : Value} {u1 : Value} {u2 : Value} {u3 : Value} {u4 : Value}, c z4 mq = some (rz, rm) → Rp Sq mq → q_lo Lq 0 = some u0 → q_is 7 u0 0 → q_lo Lq 1 = some u1 → q_is 2 u1 4 → q_lo Lq 2 = some u2 → q_is 2 u2 68 → q_lo Lq 3 = some u3 → q_is 2 u3 162 → q_lo Lq 4 = some u4 → q_is 0 u4 z4 → Go xs d qM_L_law 23 Lq [] Sq Q)
  (hQ : Ext m rm → ∀ o S1, Rp S1 rm → q_out 0 o rz → Q o S1)
  (h : fj_L_law_450 xs c y4 m = some (rz, rm)) : Go xs d qM_L_law 450 L [] S Q := by
  unfold fj_L_law_450 at h
  refine go_aload_n (n := 1) (by decide +kernel) l1 f1 ?_
  refine go_aloadS (n := 0) (by decide +kernel) l0 f0 ?_
  refine go_iload (n := 4) (by decide +kernel) l4 f4 ?_
  refine go_iconst (n := 1) (z := 1) (by decide +kernel) (by decide) fun v_396 f_397 => ?_
  refine go_iadd (by decide +kernel) f4 f_397 fun v_398 f_399 => ?_
  obtain ⟨g_402, h⟩ := gd_s h
  refine go_sld (by decide +kernel) f0 f_399 g_402 fun v_400 f_401 => ?_
  refine go_aloadS (n := 0) (by decide +kernel) l0 f0 ?_
  refine go_iload (n := 4) (by decide +kernel) l4 f4 ?_
  refine go_iconst (n := 2) (z := 2) (by decide +kernel) (by decide) fun v_403 f_404 => ?_
  refine go_iadd (by decide +kernel) f4 f_404 fun v_405 f_406 => ?_
  obtain ⟨g_409, h⟩ := gd_s h
  refine go_sld (by decide +kernel) f0 f_406 g_409 fun v_407 f_408 => ?_
  refine go_aload_n (n := 3) (by decide +kernel) l3 f3 ?_
  obtain ⟨x_411, m_412, hc_410, h⟩ := bd_s h
  refine go_callS (x := 154) (mi := 343) (n := 4) (b := 0) (as := [v1, v_400, v_407, v3]) (rest := []) (by decide +kernel) (by decide +kernel) rfl rfl (q_sum8 _ (Nat.le_of_ble_eq_true rfl)) (om_L_setPolicy (Nat.le_trans (by decide) hd) R f1 f_401 f_408 f3 hc_410) (fun _ S_415 q_418 => ?_) (fun _ _ qq => kr_x qq)
  refine kr_z (by decide) q_418 fun v_413 f_414 R_416 E_417 => ?_
  have E_419 := E_417
  refine go_istore (n := 5) (by decide +kernel) (by decide +kernel) f_414 fun L_420 l_421 kp_422 => ?_
  have l_423 := kp_422 0 _ l0 (by decide) (Or.inl (by decide))
  have l_424 := kp_422 1 _ l1 (by decide) (Or.inl (by decide))
  have l_425 := kp_422 2 _ l2 (by decide) (Or.inl (by decide))
  have l_426 := kp_422 3 _ l3 (by decide) (Or.inl (by decide))
  have l_427 := kp_422 4 _ l4 (by decide) (Or.inr (q_is_cat f4 (Or.inl rfl)))
  refine go_aload_n (n := 2) (by decide +kernel) l_425 f2 ?_
  refine go_aloadS (n := 0) (by decide +kernel) l_423 f0 ?_
  refine go_iload (n := 4) (by decide +kernel) l_427 f4 ?_
  refine go_iconst (n := 1) (z := 1) (by decide +kernel) (by decide) fun v_428 f_429 => ?_
  refine go_iadd (by decide +kernel) f4 f_429 fun v_430 f_431 => ?_
  refine go_sld (by decide +kernel) f0 f_431 g_402 fun v_432 f_433 => ?_
  refine go_aloadS (n := 0) (by decide +kernel) l_423 f0 ?_
  refine go_iload (n := 4) (by decide +kernel) l_427 f4 ?_
  refine go_iconst (n := 2) (z := 2) (by decide +kernel) (by decide) fun v_434 f_435 => ?_
  refine go_iadd (by decide +kernel) f4 f_435 fun v_436 f_437 => ?_
  refine go_sld (by decide +kernel) f0 f_437 g_409 fun v_438 f_439 => ?_
  obtain ⟨x_441, m_442, hc_440, h⟩ := bd_s h
  refine go_callV (x := 157) (mi := 202) (n := 2) (ci := 13) (as := [v_432, v_438]) (rest := []) (by decide +kernel) (by decide +kernel) rfl rfl (q_sum8 _ (Nat.le_of_ble_eq_true rfl)) R_416 f2 (fx_k (c := 13) R_416 (by decide +kernel)) (om_X12_setPolicy (Nat.le_trans (by decide) hd) R_416 f2 f_433 f_439 hc_440) (fun _ S_445 q_448 => ?_) (fun _ _ qq => kr_x qq)
  refine kr_z (by decide) q_448 fun v_443 f_444 R_446 E_447 => ?_
  have E_449 := Ext.tr E_419 E_447
  refine go_istore (n := 6) (by decide +kernel) (by decide +kernel) f_444 fun L_450 l_451 kp_452 => ?_
  have l_453 := kp_452 0 _ l_423 (by decide) (Or.inl (by decide))
  have l_454 := kp_452 1 _ l_424 (by decide) (Or.inl (by decide))
  have l_455 := kp_452 2 _ l_425 (by decide) (Or.inl (by decide))
  have l_456 := kp_452 3 _ l_426 (by decide) (Or.inl (by decide))
  have l_457 := kp_452 4 _ l_427 (by decide) (Or.inl (by decide))
  have l_458 := kp_452 5 _ l_421 (by decide) (Or.inr (q_is_cat f_414 (Or.inl rfl)))
  refine go_aload_n (n := 2) (by decide +kernel) l_455 f2 ?_
  obtain ⟨x_460, hc_459, h⟩ := bp_s h
  refine go_callV (x := 143) (mi := 185) (n := 0) (ci := 13) (as := []) (rest := []) (by decide +kernel) (by decide +kernel) rfl rfl (q_sum8 _ (Nat.le_of_ble_eq_true rfl)) R_446 f2 (fx_k (c := 13) R_446 (by decide +kernel)) (om_X12_thrown (Nat.le_trans (by decide) hd) R_446 f2 hc_459) (fun _ S_464 q_467 => ?_) (fun _ _ qq => kr_x qq)
  refine kr_z (by decide) q_467 fun v_462 f_463 R_465 E_466 => ?_
  refine go_iload (n := 5) (by decide +kernel) l_458 f_414 ?_
  refine go_icmp (c := .eq) (o := 5) (t := 498) (P := x_460 = x_411) (by decide +kernel) (by decide +kernel) f_463 f_414 (Iff.rfl) (fun hp_468 => ?_) (fun hp_468 => ?_)
  · have h := it_t hp_468 h
    refine go_iload (n := 5) (by decide +kernel) l_458 f_414 ?_
    refine go_if (c := .ne) (o := 15) (t := 515) (P := ¬ (x_411 = 0)) (by decide +kernel) (by decide +kernel) f_414 (Iff.rfl) (fun hp_469 => ?_) (fun hp_469 => ?_)
    · have h := it_f hp_469 h
      refine go_goto (o := 2082) (t := 2597) (by decide +kernel) (by decide +kernel) ?_
      refine go_iinc (n := 4) (c := 7) (c' := 7) (by decide +kernel) (by decide +kernel) l_457 f4 (by decide) fun L_470 v_471 f_472 l_473 kp_474 => ?_
      obtain ⟨x_475, e_476, h⟩ := lx_s h
      have f_477 := q_is_eq f_472 e_476
      have l_478 := kp_474 0 _ l_453 (by decide) (Or.inl (by decide))
      have l_479 := kp_474 1 _ l_454 (by decide) (Or.inl (by decide))
      have l_480 := kp_474 2 _ l_455 (by decide) (Or.inl (by decide))
      have l_481 := kp_474 3 _ l_456 (by decide) (Or.inr (q_is_cat f3 (Or.inr rfl)))
      refine go_goto (o := (-2577)) (t := 23) (by decide +kernel) (by decide +kernel) ?_
      exact hc m_442 E_449 h R_465 l_478 f0 l_479 f1 l_480 f2 l_481 f3 l_473 f_477
    · have h := it_n hp_469 h
      refine go_aload_n (n := 3) (by decide +kernel) l_456 f3 ?_
      refine go_iconst (n := 0) (z := 0) (by decide +kernel) (by decide) fun v_482 f_483 => ?_
      obtain ⟨x_487, e_488, h⟩ := lx_s h
      refine go_lald (kd := 101) (by decide +kernel) rfl R_465 f3 f_483 (fx_k (c := 101) R_465 (by decide +kernel)) (fx_x (a := 162) (ln := 1) R_465 (by decide +kernel) (by decide)) fun v_484 f_485 => ?_
      have f_486 := q_is_eq f_485 e_488
      refine go_iload (n := 6) (by decide +kernel) l_451 f_444 ?_
      refine go_i2l (by decide +kernel) f_444 fun v_489 f_490 => ?_
      refine go_lcmp (by decide +kernel) f_486 f_490 fun v_491 f_492 => ?_
      refine go_if (c := .eq) (o := 5) (t := 515) (P := x_487 = x_441) (by decide +kernel) (by decide +kernel) f_492 (lc_eq) (fun hp_493 => ?_) (fun hp_493 => ?_)
      · have h := it_t hp_493 h
        refine go_goto (o := 2082) (t := 2597) (by decide +kernel) (by decide +kernel) ?_
        refine go_iinc (n := 4) (c := 7) (c' := 7) (by decide +kernel) (by decide +kernel) l_457 f4 (by decide) fun L_494 v_495 f_496 l_497 kp_498 => ?_
        obtain ⟨x_499, e_500, h⟩ := lx_s h
        have f_501 := q_is_eq f_496 e_500
        have l_502 := kp_498 0 _ l_453 (by decide) (Or.inl (by decide))
        have l_503 := kp_498 1 _ l_454 (by decide) (Or.inl (by decide))
        have l_504 := kp_498 2 _ l_455 (by decide) (Or.inl (by decide))
        have l_505 := kp_498 3 _ l_456 (by decide) (Or.inr (q_is_cat f3 (Or.inr rfl)))
        refine go_goto (o := (-2577)) (t := 23) (by decide +kernel) (by decide +kernel) ?_
        exact hc m_442 E_449 h R_465 l_502 f0 l_503 f1 l_504 f2 l_505 f3 l_497 f_501
      · have h := it_f hp_493 h
        refine go_iconst (n := 0) (z := 0) (by decide +kernel) (by decide) fun v_506 f_507 => ?_
        cases h
        exact go_iret (by decide +kernel) rfl (Or.inr ⟨rfl, by decide⟩) f_507 (hQ E_449 _ _ R_465 (q_out_v (by decide) f_507))
  · have h := it_f hp_468 h
    refine go_iconst (n := 0) (z := 0) (by decide +kernel) (by decide) fun v_508 f_509 => ?_
    cases h
    exact go_iret (by decide +kernel) rfl (Or.inr ⟨rfl, by decide⟩) f_509 (hQ E_449 _ _ R_465 (q_out_v (by decide) f_509))
noncomputable def fj_L_law_518 (xs : List Int32) (c : Int → MM → Option (Int × MM)) (y4 : Int) (m : MM) : Option (Int × MM) := gd (0 ≤ w32 (y4 + 1) ∧ w32 (y4 + 1) < (xs.length : Int)) <| gd (0 ≤ w32 (y4 + 2) ∧ w32 (y4 + 2) < (xs.length : Int)) <| gd (0 ≤ w32 (y4 + 3) ∧ w32 (y4 + 3) < (xs.length : Int)) <| bd (fm_L_begin (scr xs (w32 (y4 + 1))) (scr xs (w32 (y4 + 2))) (scr xs (w32 (y4 + 3))) m) fun x_534 m_535 =>
bd (fm_X12_begin (scr xs (w32 (y4 + 1))) (scr xs (w32 (y4 + 2))) (scr xs (w32 (y4 + 3))) m_535) fun x_570 m_571 =>
bp (fm_X12_thrown m_571) fun x_589 =>
if x_589 = x_534 then
if x_534 = 0 then
lx (m_571 162 0) fun x_616 =>
if x_616 = x_570 then
lx (w32 (y4 + 7)) fun x_628 =>
c x_628 m_571
else
some (0, m_571)
else
lx (w32 (y4 + 7)) fun x_604 =>
c x_604 m_571
else
some (0, m_571)
set_option maxHeartbeats 4000000 in
theorem oj_L_law_518 {xs : List Int32} {d : Nat} {S : QS} {L : QL} {Q : QO → QS → Prop} {m : MM} {y4 : Int} {v0 : Value} {v1 : Value} {v2 : Value} {v3 : Value} {v4 : Value}  {rz : Int} {rm : MM} {c : Int → MM → Option (Int × MM)} 
  (hd : 174 ≤ d) (R : Rp S m) (l0 : q_lo L 0 = some v0) (f0 : q_is 7 v0 0) (l1 : q_lo L 1 = some v1) (f1 : q_is 2 v1 4) (l2 : q_lo L 2 = some v2) (f2 : q_is 2 v2 68) (l3 : q_lo L 3 = some v3) (f3 : q_is 2 v3 162) (l4 : q_lo L 4 = some v4) (f4 : q_is 0 v4 y4)
  (hc : ∀ mq : MM, Ext m mq → ∀ {z4 : Int} {Sq : QS} {Lq : QL} {u0 : Value} {u1 : Value} {u2 : Value} {u3 : Value} {u4 : Value}, c z4 mq = some (rz, rm) → Rp Sq mq → q_lo Lq 0 = some u0 → q_is 7 u0 0 → q_lo Lq 1 = some u1 → q_is 2 u1 4 → q_lo Lq 2 = some u2 → q_is 2 u2 68 → q_lo Lq 3 = some u3 → q_is 2 u3 162 → q_lo Lq 4 = some u4 → q_is 0 u4 z4 → Go xs d qM_L_law 23 Lq [] Sq Q)
  (hQ : Ext m rm → ∀ o S1, Rp S1 rm → q_out 0 o rz → Q o S1)
  (h : fj_L_law_518 xs c y4 m = some (rz, rm)) : Go xs d qM_L_law 518 L [] S Q := by
  unfold fj_L_law_518 at h
  refine go_aload_n (n := 1) (by decide +kernel) l1 f1 ?_
  refine go_aloadS (n := 0) (by decide +kernel) l0 f0 ?_
  refine go_iload (n := 4) (by decide +kernel) l4 f4 ?_
  refine go_iconst (n := 1) (z := 1) (by decide +kernel) (by decide) fun v_512 f_513 => ?_
  refine go_iadd (by decide +kernel) f4 f_513 fun v_514 f_515 => ?_
  obtain ⟨g_518, h⟩ := gd_s h
  refine go_sld (by decide +kernel) f0 f_515 g_518 fun v_516 f_517 => ?_
  refine go_aloadS (n := 0) (by decide +kernel) l0 f0 ?_
  refine go_iload (n := 4) (by decide +kernel) l4 f4 ?_
  refine go_iconst (n := 2) (z := 2) (by decide +kernel) (by decide) fun v_519 f_520 => ?_
  refine go_iadd (by decide +kernel) f4 f_520 fun v_521 f_522 => ?_
  obtain ⟨g_525, h⟩ := gd_s h
  refine go_sld (by decide +kernel) f0 f_522 g_525 fun v_523 f_524 => ?_
  refine go_aloadS (n := 0) (by decide +kernel) l0 f0 ?_
  refine go_iload (n := 4) (by decide +kernel) l4 f4 ?_
  refine go_iconst (n := 3) (z := 3) (by decide +kernel) (by decide) fun v_526 f_527 => ?_
  refine go_iadd (by decide +kernel) f4 f_527 fun v_528 f_529 => ?_
  obtain ⟨g_532, h⟩ := gd_s h
  refine go_sld (by decide +kernel) f0 f_529 g_532 fun v_530 f_531 => ?_
  refine go_aload_n (n := 3) (by decide +kernel) l3 f3 ?_
  obtain ⟨x_534, m_535, hc_533, h⟩ := bd_s h
  refine go_callS (x := 158) (mi := 344) (n := 5) (b := 0) (as := [v1, v_516, v_523, v_530, v3]) (rest := []) (by decide +kernel) (by decide +kernel) rfl rfl (q_sum8 _ (Nat.le_of_ble_eq_true rfl)) (om_L_begin (Nat.le_trans (by decide) hd) R f1 f_517 f_524 f_531 f3 hc_533) (fun _ S_538 q_541 => ?_) (fun _ _ qq => kr_x qq)
  refine kr_z (by decide) q_541 fun v_536 f_537 R_539 E_540 => ?_
  have E_542 := E_540
  refine go_istore (n := 5) (by decide +kernel) (by decide +kernel) f_537 fun L_543 l_544 kp_545 => ?_
  have l_546 := kp_545 0 _ l0 (by decide) (Or.inl (by decide))
  have l_547 := kp_545 1 _ l1 (by decide) (Or.inl (by decide))
  have l_548 := kp_545 2 _ l2 (by decide) (Or.inl (by decide))
  have l_549 := kp_545 3 _ l3 (by decide) (Or.inl (by decide))
  have l_550 := kp_545 4 _ l4 (by decide) (Or.inr (q_is_cat f4 (Or.inl rfl)))
  refine go_aload_n (n := 2) (by decide +kernel) l_548 f2 ?_
  refine go_aloadS (n := 0) (by decide +kernel) l_546 f0 ?_
  refine go_iload (n := 4) (by decide +kernel) l_550 f4 ?_
  refine go_iconst (n := 1) (z := 1) (by decide +kernel) (by decide) fun v_551 f_552 => ?_
  refine go_iadd (by decide +kernel) f4 f_552 fun v_553 f_554 => ?_
  refine go_sld (by decide +kernel) f0 f_554 g_518 fun v_555 f_556 => ?_
  refine go_aloadS (n := 0) (by decide +kernel) l_546 f0 ?_
  refine go_iload (n := 4) (by decide +kernel) l_550 f4 ?_
  refine go_iconst (n := 2) (z := 2) (by decide +kernel) (by decide) fun v_557 f_558 => ?_
  refine go_iadd (by decide +kernel) f4 f_558 fun v_559 f_560 => ?_
  refine go_sld (by decide +kernel) f0 f_560 g_525 fun v_561 f_562 => ?_
  refine go_aloadS (n := 0) (by decide +kernel) l_546 f0 ?_
  refine go_iload (n := 4) (by decide +kernel) l_550 f4 ?_
  refine go_iconst (n := 3) (z := 3) (by decide +kernel) (by decide) fun v_563 f_564 => ?_
  refine go_iadd (by decide +kernel) f4 f_564 fun v_565 f_566 => ?_
  refine go_sld (by decide +kernel) f0 f_566 g_532 fun v_567 f_568 => ?_
  obtain ⟨x_570, m_571, hc_569, h⟩ := bd_s h
  refine go_callV (x := 161) (mi := 258) (n := 3) (ci := 13) (as := [v_555, v_561, v_567]) (rest := []) (by decide +kernel) (by decide +kernel) rfl rfl (q_sum8 _ (Nat.le_of_ble_eq_true rfl)) R_539 f2 (fx_k (c := 13) R_539 (by decide +kernel)) (om_X12_begin (Nat.le_trans (by decide) hd) R_539 f2 f_556 f_562 f_568 hc_569) (fun _ S_574 q_577 => ?_) (fun _ _ qq => kr_x qq)
  refine kr_z (by decide) q_577 fun v_572 f_573 R_575 E_576 => ?_
  have E_578 := Ext.tr E_542 E_576
  refine go_istore (n := 6) (by decide +kernel) (by decide +kernel) f_573 fun L_579 l_580 kp_581 => ?_
  have l_582 := kp_581 0 _ l_546 (by decide) (Or.inl (by decide))
  have l_583 := kp_581 1 _ l_547 (by decide) (Or.inl (by decide))
  have l_584 := kp_581 2 _ l_548 (by decide) (Or.inl (by decide))
  have l_585 := kp_581 3 _ l_549 (by decide) (Or.inl (by decide))
  have l_586 := kp_581 4 _ l_550 (by decide) (Or.inl (by decide))
  have l_587 := kp_581 5 _ l_544 (by decide) (Or.inr (q_is_cat f_537 (Or.inl rfl)))
  refine go_aload_n (n := 2) (by decide +kernel) l_584 f2 ?_
  obtain ⟨x_589, hc_588, h⟩ := bp_s h
  refine go_callV (x := 143) (mi := 185) (n := 0) (ci := 13) (as := []) (rest := []) (by decide +kernel) (by decide +kernel) rfl rfl (q_sum8 _ (Nat.le_of_ble_eq_true rfl)) R_575 f2 (fx_k (c := 13) R_575 (by decide +kernel)) (om_X12_thrown (Nat.le_trans (by decide) hd) R_575 f2 hc_588) (fun _ S_593 q_596 => ?_) (fun _ _ qq => kr_x qq)
  refine kr_z (by decide) q_596 fun v_591 f_592 R_594 E_595 => ?_
  refine go_iload (n := 5) (by decide +kernel) l_587 f_537 ?_
  refine go_icmp (c := .eq) (o := 5) (t := 578) (P := x_589 = x_534) (by decide +kernel) (by decide +kernel) f_592 f_537 (Iff.rfl) (fun hp_597 => ?_) (fun hp_597 => ?_)
  · have h := it_t hp_597 h
    refine go_iload (n := 5) (by decide +kernel) l_587 f_537 ?_
    refine go_if (c := .ne) (o := 15) (t := 595) (P := ¬ (x_534 = 0)) (by decide +kernel) (by decide +kernel) f_537 (Iff.rfl) (fun hp_598 => ?_) (fun hp_598 => ?_)
    · have h := it_f hp_598 h
      refine go_goto (o := 2002) (t := 2597) (by decide +kernel) (by decide +kernel) ?_
      refine go_iinc (n := 4) (c := 7) (c' := 7) (by decide +kernel) (by decide +kernel) l_586 f4 (by decide) fun L_599 v_600 f_601 l_602 kp_603 => ?_
      obtain ⟨x_604, e_605, h⟩ := lx_s h
      have f_606 := q_is_eq f_601 e_605
      have l_607 := kp_603 0 _ l_582 (by decide) (Or.inl (by decide))
      have l_608 := kp_603 1 _ l_583 (by decide) (Or.inl (by decide))
      have l_609 := kp_603 2 _ l_584 (by decide) (Or.inl (by decide))
      have l_610 := kp_603 3 _ l_585 (by decide) (Or.inr (q_is_cat f3 (Or.inr rfl)))
      refine go_goto (o := (-2577)) (t := 23) (by decide +kernel) (by decide +kernel) ?_
      exact hc m_571 E_578 h R_594 l_607 f0 l_608 f1 l_609 f2 l_610 f3 l_602 f_606
    · have h := it_n hp_598 h
      refine go_aload_n (n := 3) (by decide +kernel) l_585 f3 ?_
      refine go_iconst (n := 0) (z := 0) (by decide +kernel) (by decide) fun v_611 f_612 => ?_
      obtain ⟨x_616, e_617, h⟩ := lx_s h
      refine go_lald (kd := 101) (by decide +kernel) rfl R_594 f3 f_612 (fx_k (c := 101) R_594 (by decide +kernel)) (fx_x (a := 162) (ln := 1) R_594 (by decide +kernel) (by decide)) fun v_613 f_614 => ?_
      have f_615 := q_is_eq f_614 e_617
      refine go_iload (n := 6) (by decide +kernel) l_580 f_573 ?_
      refine go_i2l (by decide +kernel) f_573 fun v_618 f_619 => ?_
      refine go_lcmp (by decide +kernel) f_615 f_619 fun v_620 f_621 => ?_
      refine go_if (c := .eq) (o := 5) (t := 595) (P := x_616 = x_570) (by decide +kernel) (by decide +kernel) f_621 (lc_eq) (fun hp_622 => ?_) (fun hp_622 => ?_)
      · have h := it_t hp_622 h
        refine go_goto (o := 2002) (t := 2597) (by decide +kernel) (by decide +kernel) ?_
        refine go_iinc (n := 4) (c := 7) (c' := 7) (by decide +kernel) (by decide +kernel) l_586 f4 (by decide) fun L_623 v_624 f_625 l_626 kp_627 => ?_
        obtain ⟨x_628, e_629, h⟩ := lx_s h
        have f_630 := q_is_eq f_625 e_629
        have l_631 := kp_627 0 _ l_582 (by decide) (Or.inl (by decide))
        have l_632 := kp_627 1 _ l_583 (by decide) (Or.inl (by decide))
        have l_633 := kp_627 2 _ l_584 (by decide) (Or.inl (by decide))
        have l_634 := kp_627 3 _ l_585 (by decide) (Or.inr (q_is_cat f3 (Or.inr rfl)))
        refine go_goto (o := (-2577)) (t := 23) (by decide +kernel) (by decide +kernel) ?_
        exact hc m_571 E_578 h R_594 l_631 f0 l_632 f1 l_633 f2 l_634 f3 l_626 f_630
      · have h := it_f hp_622 h
        refine go_iconst (n := 0) (z := 0) (by decide +kernel) (by decide) fun v_635 f_636 => ?_
        cases h
        exact go_iret (by decide +kernel) rfl (Or.inr ⟨rfl, by decide⟩) f_636 (hQ E_578 _ _ R_594 (q_out_v (by decide) f_636))
  · have h := it_f hp_597 h
    refine go_iconst (n := 0) (z := 0) (by decide +kernel) (by decide) fun v_637 f_638 => ?_
    cases h
    exact go_iret (by decide +kernel) rfl (Or.inr ⟨rfl, by decide⟩) f_638 (hQ E_578 _ _ R_594 (q_out_v (by decide) f_638))
noncomputable def fj_L_law_598 (xs : List Int32) (c : Int → MM → Option (Int × MM)) (y4 : Int) (m : MM) : Option (Int × MM) := gd (0 ≤ w32 (y4 + 1) ∧ w32 (y4 + 1) < (xs.length : Int)) <| gd (0 ≤ w32 (y4 + 2) ∧ w32 (y4 + 2) < (xs.length : Int)) <| gd (0 ≤ w32 (y4 + 3) ∧ w32 (y4 + 3) < (xs.length : Int)) <| bd (fm_L_signal (scr xs (w32 (y4 + 1))) (scr xs (w32 (y4 + 2))) (scr xs (w32 (y4 + 3))) m) fun x_663 m_664 =>
bd (fm_X12_signal (scr xs (w32 (y4 + 1))) (scr xs (w32 (y4 + 2))) (scr xs (w32 (y4 + 3))) m_664) fun x_699 m_700 =>
bp (fm_X12_thrown m_700) fun x_718 =>
if x_718 = x_663 then
if x_663 = 0 then
lx (m_700 162 0) fun x_745 =>
if x_745 = x_699 then
lx (w32 (y4 + 7)) fun x_757 =>
c x_757 m_700
else
some (0, m_700)
else
lx (w32 (y4 + 7)) fun x_733 =>
c x_733 m_700
else
some (0, m_700)
set_option maxHeartbeats 4000000 in
theorem oj_L_law_598 {xs : List Int32} {d : Nat} {S : QS} {L : QL} {Q : QO → QS → Prop} {m : MM} {y4 : Int} {v0 : Value} {v1 : Value} {v2 : Value} {v3 : Value} {v4 : Value}  {rz : Int} {rm : MM} {c : Int → MM → Option (Int × MM)} 
  (hd : 174 ≤ d) (R : Rp S m) (l0 : q_lo L 0 = some v0) (f0 : q_is 7 v0 0) (l1 : q_lo L 1 = some v1) (f1 : q_is 2 v1 4) (l2 : q_lo L 2 = some v2) (f2 : q_is 2 v2 68) (l3 : q_lo L 3 = some v3) (f3 : q_is 2 v3 162) (l4 : q_lo L 4 = some v4) (f4 : q_is 0 v4 y4)
  (hc : ∀ mq : MM, Ext m mq → ∀ {z4 : Int} {Sq : QS} {Lq : QL} {u0 : Value} {u1 : Value} {u2 : Value} {u3 : Value} {u4 : Value}, c z4 mq = some (rz, rm) → Rp Sq mq → q_lo Lq 0 = some u0 → q_is 7 u0 0 → q_lo Lq 1 = some u1 → q_is 2 u1 4 → q_lo Lq 2 = some u2 → q_is 2 u2 68 → q_lo Lq 3 = some u3 → q_is 2 u3 162 → q_lo Lq 4 = some u4 → q_is 0 u4 z4 → Go xs d qM_L_law 23 Lq [] Sq Q)
  (hQ : Ext m rm → ∀ o S1, Rp S1 rm → q_out 0 o rz → Q o S1)
  (h : fj_L_law_598 xs c y4 m = some (rz, rm)) : Go xs d qM_L_law 598 L [] S Q := by
  unfold fj_L_law_598 at h
  refine go_aload_n (n := 1) (by decide +kernel) l1 f1 ?_
  refine go_aloadS (n := 0) (by decide +kernel) l0 f0 ?_
  refine go_iload (n := 4) (by decide +kernel) l4 f4 ?_
  refine go_iconst (n := 1) (z := 1) (by decide +kernel) (by decide) fun v_641 f_642 => ?_
  refine go_iadd (by decide +kernel) f4 f_642 fun v_643 f_644 => ?_
  obtain ⟨g_647, h⟩ := gd_s h
  refine go_sld (by decide +kernel) f0 f_644 g_647 fun v_645 f_646 => ?_
  refine go_aloadS (n := 0) (by decide +kernel) l0 f0 ?_
  refine go_iload (n := 4) (by decide +kernel) l4 f4 ?_
  refine go_iconst (n := 2) (z := 2) (by decide +kernel) (by decide) fun v_648 f_649 => ?_
  refine go_iadd (by decide +kernel) f4 f_649 fun v_650 f_651 => ?_
  obtain ⟨g_654, h⟩ := gd_s h
  refine go_sld (by decide +kernel) f0 f_651 g_654 fun v_652 f_653 => ?_
  refine go_aloadS (n := 0) (by decide +kernel) l0 f0 ?_
  refine go_iload (n := 4) (by decide +kernel) l4 f4 ?_
  refine go_iconst (n := 3) (z := 3) (by decide +kernel) (by decide) fun v_655 f_656 => ?_
  refine go_iadd (by decide +kernel) f4 f_656 fun v_657 f_658 => ?_
  obtain ⟨g_661, h⟩ := gd_s h
  refine go_sld (by decide +kernel) f0 f_658 g_661 fun v_659 f_660 => ?_
  refine go_aload_n (n := 3) (by decide +kernel) l3 f3 ?_
  obtain ⟨x_663, m_664, hc_662, h⟩ := bd_s h
  refine go_callS (x := 162) (mi := 345) (n := 5) (b := 0) (as := [v1, v_645, v_652, v_659, v3]) (rest := []) (by decide +kernel) (by decide +kernel) rfl rfl (q_sum8 _ (Nat.le_of_ble_eq_true rfl)) (om_L_signal (Nat.le_trans (by decide) hd) R f1 f_646 f_653 f_660 f3 hc_662) (fun _ S_667 q_670 => ?_) (fun _ _ qq => kr_x qq)
  refine kr_z (by decide) q_670 fun v_665 f_666 R_668 E_669 => ?_
  have E_671 := E_669
  refine go_istore (n := 5) (by decide +kernel) (by decide +kernel) f_666 fun L_672 l_673 kp_674 => ?_
  have l_675 := kp_674 0 _ l0 (by decide) (Or.inl (by decide))
  have l_676 := kp_674 1 _ l1 (by decide) (Or.inl (by decide))
  have l_677 := kp_674 2 _ l2 (by decide) (Or.inl (by decide))
  have l_678 := kp_674 3 _ l3 (by decide) (Or.inl (by decide))
  have l_679 := kp_674 4 _ l4 (by decide) (Or.inr (q_is_cat f4 (Or.inl rfl)))
  refine go_aload_n (n := 2) (by decide +kernel) l_677 f2 ?_
  refine go_aloadS (n := 0) (by decide +kernel) l_675 f0 ?_
  refine go_iload (n := 4) (by decide +kernel) l_679 f4 ?_
  refine go_iconst (n := 1) (z := 1) (by decide +kernel) (by decide) fun v_680 f_681 => ?_
  refine go_iadd (by decide +kernel) f4 f_681 fun v_682 f_683 => ?_
  refine go_sld (by decide +kernel) f0 f_683 g_647 fun v_684 f_685 => ?_
  refine go_aloadS (n := 0) (by decide +kernel) l_675 f0 ?_
  refine go_iload (n := 4) (by decide +kernel) l_679 f4 ?_
  refine go_iconst (n := 2) (z := 2) (by decide +kernel) (by decide) fun v_686 f_687 => ?_
  refine go_iadd (by decide +kernel) f4 f_687 fun v_688 f_689 => ?_
  refine go_sld (by decide +kernel) f0 f_689 g_654 fun v_690 f_691 => ?_
  refine go_aloadS (n := 0) (by decide +kernel) l_675 f0 ?_
  refine go_iload (n := 4) (by decide +kernel) l_679 f4 ?_
  refine go_iconst (n := 3) (z := 3) (by decide +kernel) (by decide) fun v_692 f_693 => ?_
  refine go_iadd (by decide +kernel) f4 f_693 fun v_694 f_695 => ?_
  refine go_sld (by decide +kernel) f0 f_695 g_661 fun v_696 f_697 => ?_
  obtain ⟨x_699, m_700, hc_698, h⟩ := bd_s h
  refine go_callV (x := 164) (mi := 260) (n := 3) (ci := 13) (as := [v_684, v_690, v_696]) (rest := []) (by decide +kernel) (by decide +kernel) rfl rfl (q_sum8 _ (Nat.le_of_ble_eq_true rfl)) R_668 f2 (fx_k (c := 13) R_668 (by decide +kernel)) (om_X12_signal (Nat.le_trans (by decide) hd) R_668 f2 f_685 f_691 f_697 hc_698) (fun _ S_703 q_706 => ?_) (fun _ _ qq => kr_x qq)
  refine kr_z (by decide) q_706 fun v_701 f_702 R_704 E_705 => ?_
  have E_707 := Ext.tr E_671 E_705
  refine go_istore (n := 6) (by decide +kernel) (by decide +kernel) f_702 fun L_708 l_709 kp_710 => ?_
  have l_711 := kp_710 0 _ l_675 (by decide) (Or.inl (by decide))
  have l_712 := kp_710 1 _ l_676 (by decide) (Or.inl (by decide))
  have l_713 := kp_710 2 _ l_677 (by decide) (Or.inl (by decide))
  have l_714 := kp_710 3 _ l_678 (by decide) (Or.inl (by decide))
  have l_715 := kp_710 4 _ l_679 (by decide) (Or.inl (by decide))
  have l_716 := kp_710 5 _ l_673 (by decide) (Or.inr (q_is_cat f_666 (Or.inl rfl)))
  refine go_aload_n (n := 2) (by decide +kernel) l_713 f2 ?_
  obtain ⟨x_718, hc_717, h⟩ := bp_s h
  refine go_callV (x := 143) (mi := 185) (n := 0) (ci := 13) (as := []) (rest := []) (by decide +kernel) (by decide +kernel) rfl rfl (q_sum8 _ (Nat.le_of_ble_eq_true rfl)) R_704 f2 (fx_k (c := 13) R_704 (by decide +kernel)) (om_X12_thrown (Nat.le_trans (by decide) hd) R_704 f2 hc_717) (fun _ S_722 q_725 => ?_) (fun _ _ qq => kr_x qq)
  refine kr_z (by decide) q_725 fun v_720 f_721 R_723 E_724 => ?_
  refine go_iload (n := 5) (by decide +kernel) l_716 f_666 ?_
  refine go_icmp (c := .eq) (o := 5) (t := 658) (P := x_718 = x_663) (by decide +kernel) (by decide +kernel) f_721 f_666 (Iff.rfl) (fun hp_726 => ?_) (fun hp_726 => ?_)
  · have h := it_t hp_726 h
    refine go_iload (n := 5) (by decide +kernel) l_716 f_666 ?_
    refine go_if (c := .ne) (o := 15) (t := 675) (P := ¬ (x_663 = 0)) (by decide +kernel) (by decide +kernel) f_666 (Iff.rfl) (fun hp_727 => ?_) (fun hp_727 => ?_)
    · have h := it_f hp_727 h
      refine go_goto (o := 1922) (t := 2597) (by decide +kernel) (by decide +kernel) ?_
      refine go_iinc (n := 4) (c := 7) (c' := 7) (by decide +kernel) (by decide +kernel) l_715 f4 (by decide) fun L_728 v_729 f_730 l_731 kp_732 => ?_
      obtain ⟨x_733, e_734, h⟩ := lx_s h
      have f_735 := q_is_eq f_730 e_734
      have l_736 := kp_732 0 _ l_711 (by decide) (Or.inl (by decide))
      have l_737 := kp_732 1 _ l_712 (by decide) (Or.inl (by decide))
      have l_738 := kp_732 2 _ l_713 (by decide) (Or.inl (by decide))
      have l_739 := kp_732 3 _ l_714 (by decide) (Or.inr (q_is_cat f3 (Or.inr rfl)))
      refine go_goto (o := (-2577)) (t := 23) (by decide +kernel) (by decide +kernel) ?_
      exact hc m_700 E_707 h R_723 l_736 f0 l_737 f1 l_738 f2 l_739 f3 l_731 f_735
    · have h := it_n hp_727 h
      refine go_aload_n (n := 3) (by decide +kernel) l_714 f3 ?_
      refine go_iconst (n := 0) (z := 0) (by decide +kernel) (by decide) fun v_740 f_741 => ?_
      obtain ⟨x_745, e_746, h⟩ := lx_s h
      refine go_lald (kd := 101) (by decide +kernel) rfl R_723 f3 f_741 (fx_k (c := 101) R_723 (by decide +kernel)) (fx_x (a := 162) (ln := 1) R_723 (by decide +kernel) (by decide)) fun v_742 f_743 => ?_
      have f_744 := q_is_eq f_743 e_746
      refine go_iload (n := 6) (by decide +kernel) l_709 f_702 ?_
      refine go_i2l (by decide +kernel) f_702 fun v_747 f_748 => ?_
      refine go_lcmp (by decide +kernel) f_744 f_748 fun v_749 f_750 => ?_
      refine go_if (c := .eq) (o := 5) (t := 675) (P := x_745 = x_699) (by decide +kernel) (by decide +kernel) f_750 (lc_eq) (fun hp_751 => ?_) (fun hp_751 => ?_)
      · have h := it_t hp_751 h
        refine go_goto (o := 1922) (t := 2597) (by decide +kernel) (by decide +kernel) ?_
        refine go_iinc (n := 4) (c := 7) (c' := 7) (by decide +kernel) (by decide +kernel) l_715 f4 (by decide) fun L_752 v_753 f_754 l_755 kp_756 => ?_
        obtain ⟨x_757, e_758, h⟩ := lx_s h
        have f_759 := q_is_eq f_754 e_758
        have l_760 := kp_756 0 _ l_711 (by decide) (Or.inl (by decide))
        have l_761 := kp_756 1 _ l_712 (by decide) (Or.inl (by decide))
        have l_762 := kp_756 2 _ l_713 (by decide) (Or.inl (by decide))
        have l_763 := kp_756 3 _ l_714 (by decide) (Or.inr (q_is_cat f3 (Or.inr rfl)))
        refine go_goto (o := (-2577)) (t := 23) (by decide +kernel) (by decide +kernel) ?_
        exact hc m_700 E_707 h R_723 l_760 f0 l_761 f1 l_762 f2 l_763 f3 l_755 f_759
      · have h := it_f hp_751 h
        refine go_iconst (n := 0) (z := 0) (by decide +kernel) (by decide) fun v_764 f_765 => ?_
        cases h
        exact go_iret (by decide +kernel) rfl (Or.inr ⟨rfl, by decide⟩) f_765 (hQ E_707 _ _ R_723 (q_out_v (by decide) f_765))
  · have h := it_f hp_726 h
    refine go_iconst (n := 0) (z := 0) (by decide +kernel) (by decide) fun v_766 f_767 => ?_
    cases h
    exact go_iret (by decide +kernel) rfl (Or.inr ⟨rfl, by decide⟩) f_767 (hQ E_707 _ _ R_723 (q_out_v (by decide) f_767))
noncomputable def fj_L_law_756 (xs : List Int32) (c : Int → MM → Option (Int × MM)) (y4 s0 s1 : Int) (m : MM) : Option (Int × MM) := if s1 = s0 then
lx (w32 (y4 + 7)) fun x_887 =>
c x_887 m
else
some (0, m)
set_option maxHeartbeats 4000000 in
theorem oj_L_law_756 {xs : List Int32} {d : Nat} {S : QS} {L : QL} {Q : QO → QS → Prop} {m : MM} {y4 s0 s1 : Int} {v0 : Value} {v1 : Value} {v2 : Value} {v3 : Value} {v4 : Value} {w0 : Value} {w1 : Value}  {rz : Int} {rm : MM} {c : Int → MM → Option (Int × MM)} 
  (hd : 174 ≤ d) (R : Rp S m) (l0 : q_lo L 0 = some v0) (f0 : q_is 7 v0 0) (l1 : q_lo L 1 = some v1) (f1 : q_is 2 v1 4) (l2 : q_lo L 2 = some v2) (f2 : q_is 2 v2 68) (l3 : q_lo L 3 = some v3) (f3 : q_is 2 v3 162) (l4 : q_lo L 4 = some v4) (f4 : q_is 0 v4 y4) (fs0 : q_is 1 w0 s0) (fs1 : q_is 1 w1 s1)
  (hc : ∀ mq : MM, Ext m mq → ∀ {z4 : Int} {Sq : QS} {Lq : QL} {u0 : Value} {u1 : Value} {u2 : Value} {u3 : Value} {u4 : Value}, c z4 mq = some (rz, rm) → Rp Sq mq → q_lo Lq 0 = some u0 → q_is 7 u0 0 → q_lo Lq 1 = some u1 → q_is 2 u1 4 → q_lo Lq 2 = some u2 → q_is 2 u2 68 → q_lo Lq 3 = some u3 → q_is 2 u3 162 → q_lo Lq 4 = some u4 → q_is 0 u4 z4 → Go xs d qM_L_law 23 Lq [] Sq Q)
  (hQ : Ext m rm → ∀ o S1, Rp S1 rm → q_out 0 o rz → Q o S1)
  (h : fj_L_law_756 xs c y4 s0 s1 m = some (rz, rm)) : Go xs d qM_L_law 756 L [w0, w1] S Q := by
  unfold fj_L_law_756 at h
  refine go_lcmp (by decide +kernel) fs1 fs0 fun v_879 f_880 => ?_
  refine go_if (c := .eq) (o := 5) (t := 762) (P := s1 = s0) (by decide +kernel) (by decide +kernel) f_880 (lc_eq) (fun hp_881 => ?_) (fun hp_881 => ?_)
  · have h := it_t hp_881 h
    refine go_goto (o := 1835) (t := 2597) (by decide +kernel) (by decide +kernel) ?_
    refine go_iinc (n := 4) (c := 7) (c' := 7) (by decide +kernel) (by decide +kernel) l4 f4 (by decide) fun L_882 v_883 f_884 l_885 kp_886 => ?_
    obtain ⟨x_887, e_888, h⟩ := lx_s h
    have f_889 := q_is_eq f_884 e_888
    have l_890 := kp_886 0 _ l0 (by decide) (Or.inl (by decide))
    have l_891 := kp_886 1 _ l1 (by decide) (Or.inl (by decide))
    have l_892 := kp_886 2 _ l2 (by decide) (Or.inl (by decide))
    have l_893 := kp_886 3 _ l3 (by decide) (Or.inr (q_is_cat f3 (Or.inr rfl)))
    refine go_goto (o := (-2577)) (t := 23) (by decide +kernel) (by decide +kernel) ?_
    exact hc m (Ext.rf _) h R l_890 f0 l_891 f1 l_892 f2 l_893 f3 l_885 f_889
  · have h := it_f hp_881 h
    refine go_iconst (n := 0) (z := 0) (by decide +kernel) (by decide) fun v_894 f_895 => ?_
    cases h
    exact go_iret (by decide +kernel) rfl (Or.inr ⟨rfl, by decide⟩) f_895 (hQ (Ext.rf _) _ _ R (q_out_v (by decide) f_895))
noncomputable def fj_L_law_678 (xs : List Int32) (c : Int → MM → Option (Int × MM)) (y4 : Int) (m : MM) : Option (Int × MM) := gd (0 ≤ w32 (y4 + 1) ∧ w32 (y4 + 1) < (xs.length : Int)) <| gd (0 ≤ w32 (y4 + 2) ∧ w32 (y4 + 2) < (xs.length : Int)) <| gd (0 ≤ w32 (y4 + 3) ∧ w32 (y4 + 3) < (xs.length : Int)) <| bd (fm_L_update (scr xs (w32 (y4 + 1))) (scr xs (w32 (y4 + 2))) (scr xs (w32 (y4 + 3))) m) fun x_792 m_793 =>
bd (fm_X12_update (scr xs (w32 (y4 + 1))) (scr xs (w32 (y4 + 2))) (scr xs (w32 (y4 + 3))) m_793) fun x_828 m_829 =>
bp (fm_X12_thrown m_829) fun x_847 =>
if x_847 = x_792 then
if x_792 = 0 then
lx (m_829 162 0) fun x_874 =>
if x_828 = 0 then
fj_L_law_756 xs c y4 0 x_874 m_829
else
fj_L_law_756 xs c y4 1 x_874 m_829
else
lx (w32 (y4 + 7)) fun x_862 =>
c x_862 m_829
else
some (0, m_829)
set_option maxHeartbeats 4000000 in
theorem oj_L_law_678 {xs : List Int32} {d : Nat} {S : QS} {L : QL} {Q : QO → QS → Prop} {m : MM} {y4 : Int} {v0 : Value} {v1 : Value} {v2 : Value} {v3 : Value} {v4 : Value}  {rz : Int} {rm : MM} {c : Int → MM → Option (Int × MM)} 
  (hd : 174 ≤ d) (R : Rp S m) (l0 : q_lo L 0 = some v0) (f0 : q_is 7 v0 0) (l1 : q_lo L 1 = some v1) (f1 : q_is 2 v1 4) (l2 : q_lo L 2 = some v2) (f2 : q_is 2 v2 68) (l3 : q_lo L 3 = some v3) (f3 : q_is 2 v3 162) (l4 : q_lo L 4 = some v4) (f4 : q_is 0 v4 y4)
  (hc : ∀ mq : MM, Ext m mq → ∀ {z4 : Int} {Sq : QS} {Lq : QL} {u0 : Value} {u1 : Value} {u2 : Value} {u3 : Value} {u4 : Value}, c z4 mq = some (rz, rm) → Rp Sq mq → q_lo Lq 0 = some u0 → q_is 7 u0 0 → q_lo Lq 1 = some u1 → q_is 2 u1 4 → q_lo Lq 2 = some u2 → q_is 2 u2 68 → q_lo Lq 3 = some u3 → q_is 2 u3 162 → q_lo Lq 4 = some u4 → q_is 0 u4 z4 → Go xs d qM_L_law 23 Lq [] Sq Q)
  (hQ : Ext m rm → ∀ o S1, Rp S1 rm → q_out 0 o rz → Q o S1)
  (h : fj_L_law_678 xs c y4 m = some (rz, rm)) : Go xs d qM_L_law 678 L [] S Q := by
  unfold fj_L_law_678 at h
  refine go_aload_n (n := 1) (by decide +kernel) l1 f1 ?_
  refine go_aloadS (n := 0) (by decide +kernel) l0 f0 ?_
  refine go_iload (n := 4) (by decide +kernel) l4 f4 ?_
  refine go_iconst (n := 1) (z := 1) (by decide +kernel) (by decide) fun v_770 f_771 => ?_
  refine go_iadd (by decide +kernel) f4 f_771 fun v_772 f_773 => ?_
  obtain ⟨g_776, h⟩ := gd_s h
  refine go_sld (by decide +kernel) f0 f_773 g_776 fun v_774 f_775 => ?_
  refine go_aloadS (n := 0) (by decide +kernel) l0 f0 ?_
  refine go_iload (n := 4) (by decide +kernel) l4 f4 ?_
  refine go_iconst (n := 2) (z := 2) (by decide +kernel) (by decide) fun v_777 f_778 => ?_
  refine go_iadd (by decide +kernel) f4 f_778 fun v_779 f_780 => ?_
  obtain ⟨g_783, h⟩ := gd_s h
  refine go_sld (by decide +kernel) f0 f_780 g_783 fun v_781 f_782 => ?_
  refine go_aloadS (n := 0) (by decide +kernel) l0 f0 ?_
  refine go_iload (n := 4) (by decide +kernel) l4 f4 ?_
  refine go_iconst (n := 3) (z := 3) (by decide +kernel) (by decide) fun v_784 f_785 => ?_
  refine go_iadd (by decide +kernel) f4 f_785 fun v_786 f_787 => ?_
  obtain ⟨g_790, h⟩ := gd_s h
  refine go_sld (by decide +kernel) f0 f_787 g_790 fun v_788 f_789 => ?_
  refine go_aload_n (n := 3) (by decide +kernel) l3 f3 ?_
  obtain ⟨x_792, m_793, hc_791, h⟩ := bd_s h
  refine go_callS (x := 165) (mi := 346) (n := 5) (b := 0) (as := [v1, v_774, v_781, v_788, v3]) (rest := []) (by decide +kernel) (by decide +kernel) rfl rfl (q_sum8 _ (Nat.le_of_ble_eq_true rfl)) (om_L_update (Nat.le_trans (by decide) hd) R f1 f_775 f_782 f_789 f3 hc_791) (fun _ S_796 q_799 => ?_) (fun _ _ qq => kr_x qq)
  refine kr_z (by decide) q_799 fun v_794 f_795 R_797 E_798 => ?_
  have E_800 := E_798
  refine go_istore (n := 5) (by decide +kernel) (by decide +kernel) f_795 fun L_801 l_802 kp_803 => ?_
  have l_804 := kp_803 0 _ l0 (by decide) (Or.inl (by decide))
  have l_805 := kp_803 1 _ l1 (by decide) (Or.inl (by decide))
  have l_806 := kp_803 2 _ l2 (by decide) (Or.inl (by decide))
  have l_807 := kp_803 3 _ l3 (by decide) (Or.inl (by decide))
  have l_808 := kp_803 4 _ l4 (by decide) (Or.inr (q_is_cat f4 (Or.inl rfl)))
  refine go_aload_n (n := 2) (by decide +kernel) l_806 f2 ?_
  refine go_aloadS (n := 0) (by decide +kernel) l_804 f0 ?_
  refine go_iload (n := 4) (by decide +kernel) l_808 f4 ?_
  refine go_iconst (n := 1) (z := 1) (by decide +kernel) (by decide) fun v_809 f_810 => ?_
  refine go_iadd (by decide +kernel) f4 f_810 fun v_811 f_812 => ?_
  refine go_sld (by decide +kernel) f0 f_812 g_776 fun v_813 f_814 => ?_
  refine go_aloadS (n := 0) (by decide +kernel) l_804 f0 ?_
  refine go_iload (n := 4) (by decide +kernel) l_808 f4 ?_
  refine go_iconst (n := 2) (z := 2) (by decide +kernel) (by decide) fun v_815 f_816 => ?_
  refine go_iadd (by decide +kernel) f4 f_816 fun v_817 f_818 => ?_
  refine go_sld (by decide +kernel) f0 f_818 g_783 fun v_819 f_820 => ?_
  refine go_aloadS (n := 0) (by decide +kernel) l_804 f0 ?_
  refine go_iload (n := 4) (by decide +kernel) l_808 f4 ?_
  refine go_iconst (n := 3) (z := 3) (by decide +kernel) (by decide) fun v_821 f_822 => ?_
  refine go_iadd (by decide +kernel) f4 f_822 fun v_823 f_824 => ?_
  refine go_sld (by decide +kernel) f0 f_824 g_790 fun v_825 f_826 => ?_
  obtain ⟨x_828, m_829, hc_827, h⟩ := bd_s h
  refine go_callV (x := 167) (mi := 262) (n := 3) (ci := 13) (as := [v_813, v_819, v_825]) (rest := []) (by decide +kernel) (by decide +kernel) rfl rfl (q_sum8 _ (Nat.le_of_ble_eq_true rfl)) R_797 f2 (fx_k (c := 13) R_797 (by decide +kernel)) (om_X12_update (Nat.le_trans (by decide) hd) R_797 f2 f_814 f_820 f_826 hc_827) (fun _ S_832 q_835 => ?_) (fun _ _ qq => kr_x qq)
  refine kr_z (by decide) q_835 fun v_830 f_831 R_833 E_834 => ?_
  have E_836 := Ext.tr E_800 E_834
  refine go_istore (n := 6) (by decide +kernel) (by decide +kernel) f_831 fun L_837 l_838 kp_839 => ?_
  have l_840 := kp_839 0 _ l_804 (by decide) (Or.inl (by decide))
  have l_841 := kp_839 1 _ l_805 (by decide) (Or.inl (by decide))
  have l_842 := kp_839 2 _ l_806 (by decide) (Or.inl (by decide))
  have l_843 := kp_839 3 _ l_807 (by decide) (Or.inl (by decide))
  have l_844 := kp_839 4 _ l_808 (by decide) (Or.inl (by decide))
  have l_845 := kp_839 5 _ l_802 (by decide) (Or.inr (q_is_cat f_795 (Or.inl rfl)))
  refine go_aload_n (n := 2) (by decide +kernel) l_842 f2 ?_
  obtain ⟨x_847, hc_846, h⟩ := bp_s h
  refine go_callV (x := 143) (mi := 185) (n := 0) (ci := 13) (as := []) (rest := []) (by decide +kernel) (by decide +kernel) rfl rfl (q_sum8 _ (Nat.le_of_ble_eq_true rfl)) R_833 f2 (fx_k (c := 13) R_833 (by decide +kernel)) (om_X12_thrown (Nat.le_trans (by decide) hd) R_833 f2 hc_846) (fun _ S_851 q_854 => ?_) (fun _ _ qq => kr_x qq)
  refine kr_z (by decide) q_854 fun v_849 f_850 R_852 E_853 => ?_
  refine go_iload (n := 5) (by decide +kernel) l_845 f_795 ?_
  refine go_icmp (c := .eq) (o := 5) (t := 738) (P := x_847 = x_792) (by decide +kernel) (by decide +kernel) f_850 f_795 (Iff.rfl) (fun hp_855 => ?_) (fun hp_855 => ?_)
  · have h := it_t hp_855 h
    refine go_iload (n := 5) (by decide +kernel) l_845 f_795 ?_
    refine go_if (c := .ne) (o := 22) (t := 762) (P := ¬ (x_792 = 0)) (by decide +kernel) (by decide +kernel) f_795 (Iff.rfl) (fun hp_856 => ?_) (fun hp_856 => ?_)
    · have h := it_f hp_856 h
      refine go_goto (o := 1835) (t := 2597) (by decide +kernel) (by decide +kernel) ?_
      refine go_iinc (n := 4) (c := 7) (c' := 7) (by decide +kernel) (by decide +kernel) l_844 f4 (by decide) fun L_857 v_858 f_859 l_860 kp_861 => ?_
      obtain ⟨x_862, e_863, h⟩ := lx_s h
      have f_864 := q_is_eq f_859 e_863
      have l_865 := kp_861 0 _ l_840 (by decide) (Or.inl (by decide))
      have l_866 := kp_861 1 _ l_841 (by decide) (Or.inl (by decide))
      have l_867 := kp_861 2 _ l_842 (by decide) (Or.inl (by decide))
      have l_868 := kp_861 3 _ l_843 (by decide) (Or.inr (q_is_cat f3 (Or.inr rfl)))
      refine go_goto (o := (-2577)) (t := 23) (by decide +kernel) (by decide +kernel) ?_
      exact hc m_829 E_836 h R_852 l_865 f0 l_866 f1 l_867 f2 l_868 f3 l_860 f_864
    · have h := it_n hp_856 h
      refine go_aload_n (n := 3) (by decide +kernel) l_843 f3 ?_
      refine go_iconst (n := 0) (z := 0) (by decide +kernel) (by decide) fun v_869 f_870 => ?_
      obtain ⟨x_874, e_875, h⟩ := lx_s h
      refine go_lald (kd := 101) (by decide +kernel) rfl R_852 f3 f_870 (fx_k (c := 101) R_852 (by decide +kernel)) (fx_x (a := 162) (ln := 1) R_852 (by decide +kernel) (by decide)) fun v_871 f_872 => ?_
      have f_873 := q_is_eq f_872 e_875
      refine go_iload (n := 6) (by decide +kernel) l_838 f_831 ?_
      refine go_if (c := .eq) (o := 7) (t := 755) (P := x_828 = 0) (by decide +kernel) (by decide +kernel) f_831 (Iff.rfl) (fun hp_876 => ?_) (fun hp_876 => ?_)
      · have h := it_t hp_876 h
        refine go_lconst (n := 0) (z := 0) (by decide +kernel) (by decide) fun v_877 f_878 => ?_
        exact oj_L_law_756 hd R_852 l_840 f0 l_841 f1 l_842 f2 l_843 f3 l_844 f4 f_878 f_873 (fun mq b => hc mq (Ext.tr E_836 b)) (fun b => hQ (Ext.tr E_836 b)) h
      · have h := it_f hp_876 h
        refine go_lconst (n := 1) (z := 1) (by decide +kernel) (by decide) fun v_896 f_897 => ?_
        refine go_goto (o := 4) (t := 756) (by decide +kernel) (by decide +kernel) ?_
        exact oj_L_law_756 hd R_852 l_840 f0 l_841 f1 l_842 f2 l_843 f3 l_844 f4 f_897 f_873 (fun mq b => hc mq (Ext.tr E_836 b)) (fun b => hQ (Ext.tr E_836 b)) h
  · have h := it_f hp_855 h
    refine go_iconst (n := 0) (z := 0) (by decide +kernel) (by decide) fun v_898 f_899 => ?_
    cases h
    exact go_iret (by decide +kernel) rfl (Or.inr ⟨rfl, by decide⟩) f_899 (hQ E_836 _ _ R_852 (q_out_v (by decide) f_899))
noncomputable def fj_L_law_819 (xs : List Int32) (c : Int → MM → Option (Int × MM)) (y4 s0 s1 : Int) (m : MM) : Option (Int × MM) := if s1 = s0 then
lx (w32 (y4 + 7)) fun x_993 =>
c x_993 m
else
some (0, m)
set_option maxHeartbeats 4000000 in
theorem oj_L_law_819 {xs : List Int32} {d : Nat} {S : QS} {L : QL} {Q : QO → QS → Prop} {m : MM} {y4 s0 s1 : Int} {v0 : Value} {v1 : Value} {v2 : Value} {v3 : Value} {v4 : Value} {w0 : Value} {w1 : Value}  {rz : Int} {rm : MM} {c : Int → MM → Option (Int × MM)} 
  (hd : 174 ≤ d) (R : Rp S m) (l0 : q_lo L 0 = some v0) (f0 : q_is 7 v0 0) (l1 : q_lo L 1 = some v1) (f1 : q_is 2 v1 4) (l2 : q_lo L 2 = some v2) (f2 : q_is 2 v2 68) (l3 : q_lo L 3 = some v3) (f3 : q_is 2 v3 162) (l4 : q_lo L 4 = some v4) (f4 : q_is 0 v4 y4) (fs0 : q_is 1 w0 s0) (fs1 : q_is 1 w1 s1)
  (hc : ∀ mq : MM, Ext m mq → ∀ {z4 : Int} {Sq : QS} {Lq : QL} {u0 : Value} {u1 : Value} {u2 : Value} {u3 : Value} {u4 : Value}, c z4 mq = some (rz, rm) → Rp Sq mq → q_lo Lq 0 = some u0 → q_is 7 u0 0 → q_lo Lq 1 = some u1 → q_is 2 u1 4 → q_lo Lq 2 = some u2 → q_is 2 u2 68 → q_lo Lq 3 = some u3 → q_is 2 u3 162 → q_lo Lq 4 = some u4 → q_is 0 u4 z4 → Go xs d qM_L_law 23 Lq [] Sq Q)
  (hQ : Ext m rm → ∀ o S1, Rp S1 rm → q_out 0 o rz → Q o S1)
  (h : fj_L_law_819 xs c y4 s0 s1 m = some (rz, rm)) : Go xs d qM_L_law 819 L [w0, w1] S Q := by
  unfold fj_L_law_819 at h
  refine go_lcmp (by decide +kernel) fs1 fs0 fun v_985 f_986 => ?_
  refine go_if (c := .eq) (o := 5) (t := 825) (P := s1 = s0) (by decide +kernel) (by decide +kernel) f_986 (lc_eq) (fun hp_987 => ?_) (fun hp_987 => ?_)
  · have h := it_t hp_987 h
    refine go_goto (o := 1772) (t := 2597) (by decide +kernel) (by decide +kernel) ?_
    refine go_iinc (n := 4) (c := 7) (c' := 7) (by decide +kernel) (by decide +kernel) l4 f4 (by decide) fun L_988 v_989 f_990 l_991 kp_992 => ?_
    obtain ⟨x_993, e_994, h⟩ := lx_s h
    have f_995 := q_is_eq f_990 e_994
    have l_996 := kp_992 0 _ l0 (by decide) (Or.inl (by decide))
    have l_997 := kp_992 1 _ l1 (by decide) (Or.inl (by decide))
    have l_998 := kp_992 2 _ l2 (by decide) (Or.inl (by decide))
    have l_999 := kp_992 3 _ l3 (by decide) (Or.inr (q_is_cat f3 (Or.inr rfl)))
    refine go_goto (o := (-2577)) (t := 23) (by decide +kernel) (by decide +kernel) ?_
    exact hc m (Ext.rf _) h R l_996 f0 l_997 f1 l_998 f2 l_999 f3 l_991 f_995
  · have h := it_f hp_987 h
    refine go_iconst (n := 0) (z := 0) (by decide +kernel) (by decide) fun v_1000 f_1001 => ?_
    cases h
    exact go_iret (by decide +kernel) rfl (Or.inr ⟨rfl, by decide⟩) f_1001 (hQ (Ext.rf _) _ _ R (q_out_v (by decide) f_1001))
noncomputable def fj_L_law_765 (xs : List Int32) (c : Int → MM → Option (Int × MM)) (y4 : Int) (m : MM) : Option (Int × MM) := gd (0 ≤ w32 (y4 + 1) ∧ w32 (y4 + 1) < (xs.length : Int)) <| bd (fm_L_cancel (scr xs (w32 (y4 + 1))) m) fun x_910 m_911 =>
bd (fm_X12_cancel (scr xs (w32 (y4 + 1))) m_911) fun x_934 m_935 =>
bp (fm_X12_thrown m_935) fun x_953 =>
if x_953 = x_910 then
if x_910 = 0 then
lx (m_935 162 0) fun x_980 =>
if x_934 = 0 then
fj_L_law_819 xs c y4 0 x_980 m_935
else
fj_L_law_819 xs c y4 1 x_980 m_935
else
lx (w32 (y4 + 7)) fun x_968 =>
c x_968 m_935
else
some (0, m_935)
set_option maxHeartbeats 4000000 in
theorem oj_L_law_765 {xs : List Int32} {d : Nat} {S : QS} {L : QL} {Q : QO → QS → Prop} {m : MM} {y4 : Int} {v0 : Value} {v1 : Value} {v2 : Value} {v3 : Value} {v4 : Value}  {rz : Int} {rm : MM} {c : Int → MM → Option (Int × MM)} 
  (hd : 174 ≤ d) (R : Rp S m) (l0 : q_lo L 0 = some v0) (f0 : q_is 7 v0 0) (l1 : q_lo L 1 = some v1) (f1 : q_is 2 v1 4) (l2 : q_lo L 2 = some v2) (f2 : q_is 2 v2 68) (l3 : q_lo L 3 = some v3) (f3 : q_is 2 v3 162) (l4 : q_lo L 4 = some v4) (f4 : q_is 0 v4 y4)
  (hc : ∀ mq : MM, Ext m mq → ∀ {z4 : Int} {Sq : QS} {Lq : QL} {u0 : Value} {u1 : Value} {u2 : Value} {u3 : Value} {u4 : Value}, c z4 mq = some (rz, rm) → Rp Sq mq → q_lo Lq 0 = some u0 → q_is 7 u0 0 → q_lo Lq 1 = some u1 → q_is 2 u1 4 → q_lo Lq 2 = some u2 → q_is 2 u2 68 → q_lo Lq 3 = some u3 → q_is 2 u3 162 → q_lo Lq 4 = some u4 → q_is 0 u4 z4 → Go xs d qM_L_law 23 Lq [] Sq Q)
  (hQ : Ext m rm → ∀ o S1, Rp S1 rm → q_out 0 o rz → Q o S1)
  (h : fj_L_law_765 xs c y4 m = some (rz, rm)) : Go xs d qM_L_law 765 L [] S Q := by
  unfold fj_L_law_765 at h
  refine go_aload_n (n := 1) (by decide +kernel) l1 f1 ?_
  refine go_aloadS (n := 0) (by decide +kernel) l0 f0 ?_
  refine go_iload (n := 4) (by decide +kernel) l4 f4 ?_
  refine go_iconst (n := 1) (z := 1) (by decide +kernel) (by decide) fun v_902 f_903 => ?_
  refine go_iadd (by decide +kernel) f4 f_903 fun v_904 f_905 => ?_
  obtain ⟨g_908, h⟩ := gd_s h
  refine go_sld (by decide +kernel) f0 f_905 g_908 fun v_906 f_907 => ?_
  refine go_aload_n (n := 3) (by decide +kernel) l3 f3 ?_
  obtain ⟨x_910, m_911, hc_909, h⟩ := bd_s h
  refine go_callS (x := 168) (mi := 347) (n := 3) (b := 0) (as := [v1, v_906, v3]) (rest := []) (by decide +kernel) (by decide +kernel) rfl rfl (q_sum8 _ (Nat.le_of_ble_eq_true rfl)) (om_L_cancel (Nat.le_trans (by decide) hd) R f1 f_907 f3 hc_909) (fun _ S_914 q_917 => ?_) (fun _ _ qq => kr_x qq)
  refine kr_z (by decide) q_917 fun v_912 f_913 R_915 E_916 => ?_
  have E_918 := E_916
  refine go_istore (n := 5) (by decide +kernel) (by decide +kernel) f_913 fun L_919 l_920 kp_921 => ?_
  have l_922 := kp_921 0 _ l0 (by decide) (Or.inl (by decide))
  have l_923 := kp_921 1 _ l1 (by decide) (Or.inl (by decide))
  have l_924 := kp_921 2 _ l2 (by decide) (Or.inl (by decide))
  have l_925 := kp_921 3 _ l3 (by decide) (Or.inl (by decide))
  have l_926 := kp_921 4 _ l4 (by decide) (Or.inr (q_is_cat f4 (Or.inl rfl)))
  refine go_aload_n (n := 2) (by decide +kernel) l_924 f2 ?_
  refine go_aloadS (n := 0) (by decide +kernel) l_922 f0 ?_
  refine go_iload (n := 4) (by decide +kernel) l_926 f4 ?_
  refine go_iconst (n := 1) (z := 1) (by decide +kernel) (by decide) fun v_927 f_928 => ?_
  refine go_iadd (by decide +kernel) f4 f_928 fun v_929 f_930 => ?_
  refine go_sld (by decide +kernel) f0 f_930 g_908 fun v_931 f_932 => ?_
  obtain ⟨x_934, m_935, hc_933, h⟩ := bd_s h
  refine go_callV (x := 170) (mi := 263) (n := 1) (ci := 13) (as := [v_931]) (rest := []) (by decide +kernel) (by decide +kernel) rfl rfl (q_sum8 _ (Nat.le_of_ble_eq_true rfl)) R_915 f2 (fx_k (c := 13) R_915 (by decide +kernel)) (om_X12_cancel (Nat.le_trans (by decide) hd) R_915 f2 f_932 hc_933) (fun _ S_938 q_941 => ?_) (fun _ _ qq => kr_x qq)
  refine kr_z (by decide) q_941 fun v_936 f_937 R_939 E_940 => ?_
  have E_942 := Ext.tr E_918 E_940
  refine go_istore (n := 6) (by decide +kernel) (by decide +kernel) f_937 fun L_943 l_944 kp_945 => ?_
  have l_946 := kp_945 0 _ l_922 (by decide) (Or.inl (by decide))
  have l_947 := kp_945 1 _ l_923 (by decide) (Or.inl (by decide))
  have l_948 := kp_945 2 _ l_924 (by decide) (Or.inl (by decide))
  have l_949 := kp_945 3 _ l_925 (by decide) (Or.inl (by decide))
  have l_950 := kp_945 4 _ l_926 (by decide) (Or.inl (by decide))
  have l_951 := kp_945 5 _ l_920 (by decide) (Or.inr (q_is_cat f_913 (Or.inl rfl)))
  refine go_aload_n (n := 2) (by decide +kernel) l_948 f2 ?_
  obtain ⟨x_953, hc_952, h⟩ := bp_s h
  refine go_callV (x := 143) (mi := 185) (n := 0) (ci := 13) (as := []) (rest := []) (by decide +kernel) (by decide +kernel) rfl rfl (q_sum8 _ (Nat.le_of_ble_eq_true rfl)) R_939 f2 (fx_k (c := 13) R_939 (by decide +kernel)) (om_X12_thrown (Nat.le_trans (by decide) hd) R_939 f2 hc_952) (fun _ S_957 q_960 => ?_) (fun _ _ qq => kr_x qq)
  refine kr_z (by decide) q_960 fun v_955 f_956 R_958 E_959 => ?_
  refine go_iload (n := 5) (by decide +kernel) l_951 f_913 ?_
  refine go_icmp (c := .eq) (o := 5) (t := 801) (P := x_953 = x_910) (by decide +kernel) (by decide +kernel) f_956 f_913 (Iff.rfl) (fun hp_961 => ?_) (fun hp_961 => ?_)
  · have h := it_t hp_961 h
    refine go_iload (n := 5) (by decide +kernel) l_951 f_913 ?_
    refine go_if (c := .ne) (o := 22) (t := 825) (P := ¬ (x_910 = 0)) (by decide +kernel) (by decide +kernel) f_913 (Iff.rfl) (fun hp_962 => ?_) (fun hp_962 => ?_)
    · have h := it_f hp_962 h
      refine go_goto (o := 1772) (t := 2597) (by decide +kernel) (by decide +kernel) ?_
      refine go_iinc (n := 4) (c := 7) (c' := 7) (by decide +kernel) (by decide +kernel) l_950 f4 (by decide) fun L_963 v_964 f_965 l_966 kp_967 => ?_
      obtain ⟨x_968, e_969, h⟩ := lx_s h
      have f_970 := q_is_eq f_965 e_969
      have l_971 := kp_967 0 _ l_946 (by decide) (Or.inl (by decide))
      have l_972 := kp_967 1 _ l_947 (by decide) (Or.inl (by decide))
      have l_973 := kp_967 2 _ l_948 (by decide) (Or.inl (by decide))
      have l_974 := kp_967 3 _ l_949 (by decide) (Or.inr (q_is_cat f3 (Or.inr rfl)))
      refine go_goto (o := (-2577)) (t := 23) (by decide +kernel) (by decide +kernel) ?_
      exact hc m_935 E_942 h R_958 l_971 f0 l_972 f1 l_973 f2 l_974 f3 l_966 f_970
    · have h := it_n hp_962 h
      refine go_aload_n (n := 3) (by decide +kernel) l_949 f3 ?_
      refine go_iconst (n := 0) (z := 0) (by decide +kernel) (by decide) fun v_975 f_976 => ?_
      obtain ⟨x_980, e_981, h⟩ := lx_s h
      refine go_lald (kd := 101) (by decide +kernel) rfl R_958 f3 f_976 (fx_k (c := 101) R_958 (by decide +kernel)) (fx_x (a := 162) (ln := 1) R_958 (by decide +kernel) (by decide)) fun v_977 f_978 => ?_
      have f_979 := q_is_eq f_978 e_981
      refine go_iload (n := 6) (by decide +kernel) l_944 f_937 ?_
      refine go_if (c := .eq) (o := 7) (t := 818) (P := x_934 = 0) (by decide +kernel) (by decide +kernel) f_937 (Iff.rfl) (fun hp_982 => ?_) (fun hp_982 => ?_)
      · have h := it_t hp_982 h
        refine go_lconst (n := 0) (z := 0) (by decide +kernel) (by decide) fun v_983 f_984 => ?_
        exact oj_L_law_819 hd R_958 l_946 f0 l_947 f1 l_948 f2 l_949 f3 l_950 f4 f_984 f_979 (fun mq b => hc mq (Ext.tr E_942 b)) (fun b => hQ (Ext.tr E_942 b)) h
      · have h := it_f hp_982 h
        refine go_lconst (n := 1) (z := 1) (by decide +kernel) (by decide) fun v_1002 f_1003 => ?_
        refine go_goto (o := 4) (t := 819) (by decide +kernel) (by decide +kernel) ?_
        exact oj_L_law_819 hd R_958 l_946 f0 l_947 f1 l_948 f2 l_949 f3 l_950 f4 f_1003 f_979 (fun mq b => hc mq (Ext.tr E_942 b)) (fun b => hQ (Ext.tr E_942 b)) h
  · have h := it_f hp_961 h
    refine go_iconst (n := 0) (z := 0) (by decide +kernel) (by decide) fun v_1004 f_1005 => ?_
    cases h
    exact go_iret (by decide +kernel) rfl (Or.inr ⟨rfl, by decide⟩) f_1005 (hQ E_942 _ _ R_958 (q_out_v (by decide) f_1005))
noncomputable def fj_L_law_828 (xs : List Int32) (c : Int → MM → Option (Int × MM)) (y4 : Int) (m : MM) : Option (Int × MM) := gd (0 ≤ w32 (y4 + 1) ∧ w32 (y4 + 1) < (xs.length : Int)) <| gd (0 ≤ w32 (y4 + 2) ∧ w32 (y4 + 2) < (xs.length : Int)) <| bd (fm_L_query (scr xs (w32 (y4 + 1))) (scr xs (w32 (y4 + 2))) m) fun x_1023 m_1024 =>
bd (fm_X12_query (scr xs (w32 (y4 + 1))) (scr xs (w32 (y4 + 2))) m_1024) fun x_1053 m_1054 =>
bp (fm_X12_thrown m_1054) fun x_1072 =>
if x_1072 = x_1023 then
if x_1023 = 0 then
lx (m_1054 162 0) fun x_1099 =>
if x_1099 = x_1053 then
lx (w32 (y4 + 7)) fun x_1111 =>
c x_1111 m_1054
else
some (0, m_1054)
else
lx (w32 (y4 + 7)) fun x_1087 =>
c x_1087 m_1054
else
some (0, m_1054)
set_option maxHeartbeats 4000000 in
theorem oj_L_law_828 {xs : List Int32} {d : Nat} {S : QS} {L : QL} {Q : QO → QS → Prop} {m : MM} {y4 : Int} {v0 : Value} {v1 : Value} {v2 : Value} {v3 : Value} {v4 : Value}  {rz : Int} {rm : MM} {c : Int → MM → Option (Int × MM)} 
  (hd : 174 ≤ d) (R : Rp S m) (l0 : q_lo L 0 = some v0) (f0 : q_is 7 v0 0) (l1 : q_lo L 1 = some v1) (f1 : q_is 2 v1 4) (l2 : q_lo L 2 = some v2) (f2 : q_is 2 v2 68) (l3 : q_lo L 3 = some v3) (f3 : q_is 2 v3 162) (l4 : q_lo L 4 = some v4) (f4 : q_is 0 v4 y4)
  (hc : ∀ mq : MM, Ext m mq → ∀ {z4 : Int} {Sq : QS} {Lq : QL} {u0 : Value} {u1 : Value} {u2 : Value} {u3 : Value} {u4 : Value}, c z4 mq = some (rz, rm) → Rp Sq mq → q_lo Lq 0 = some u0 → q_is 7 u0 0 → q_lo Lq 1 = some u1 → q_is 2 u1 4 → q_lo Lq 2 = some u2 → q_is 2 u2 68 → q_lo Lq 3 = some u3 → q_is 2 u3 162 → q_lo Lq 4 = some u4 → q_is 0 u4 z4 → Go xs d qM_L_law 23 Lq [] Sq Q)
  (hQ : Ext m rm → ∀ o S1, Rp S1 rm → q_out 0 o rz → Q o S1)
  (h : fj_L_law_828 xs c y4 m = some (rz, rm)) : Go xs d qM_L_law 828 L [] S Q := by
  unfold fj_L_law_828 at h
  refine go_aload_n (n := 1) (by decide +kernel) l1 f1 ?_
  refine go_aloadS (n := 0) (by decide +kernel) l0 f0 ?_
  refine go_iload (n := 4) (by decide +kernel) l4 f4 ?_
  refine go_iconst (n := 1) (z := 1) (by decide +kernel) (by decide) fun v_1008 f_1009 => ?_
  refine go_iadd (by decide +kernel) f4 f_1009 fun v_1010 f_1011 => ?_
  obtain ⟨g_1014, h⟩ := gd_s h
  refine go_sld (by decide +kernel) f0 f_1011 g_1014 fun v_1012 f_1013 => ?_
  refine go_aloadS (n := 0) (by decide +kernel) l0 f0 ?_
  refine go_iload (n := 4) (by decide +kernel) l4 f4 ?_
  refine go_iconst (n := 2) (z := 2) (by decide +kernel) (by decide) fun v_1015 f_1016 => ?_
  refine go_iadd (by decide +kernel) f4 f_1016 fun v_1017 f_1018 => ?_
  obtain ⟨g_1021, h⟩ := gd_s h
  refine go_sld (by decide +kernel) f0 f_1018 g_1021 fun v_1019 f_1020 => ?_
  refine go_aload_n (n := 3) (by decide +kernel) l3 f3 ?_
  obtain ⟨x_1023, m_1024, hc_1022, h⟩ := bd_s h
  refine go_callS (x := 171) (mi := 348) (n := 4) (b := 0) (as := [v1, v_1012, v_1019, v3]) (rest := []) (by decide +kernel) (by decide +kernel) rfl rfl (q_sum8 _ (Nat.le_of_ble_eq_true rfl)) (om_L_query (Nat.le_trans (by decide) hd) R f1 f_1013 f_1020 f3 hc_1022) (fun _ S_1027 q_1030 => ?_) (fun _ _ qq => kr_x qq)
  refine kr_z (by decide) q_1030 fun v_1025 f_1026 R_1028 E_1029 => ?_
  have E_1031 := E_1029
  refine go_istore (n := 5) (by decide +kernel) (by decide +kernel) f_1026 fun L_1032 l_1033 kp_1034 => ?_
  have l_1035 := kp_1034 0 _ l0 (by decide) (Or.inl (by decide))
  have l_1036 := kp_1034 1 _ l1 (by decide) (Or.inl (by decide))
  have l_1037 := kp_1034 2 _ l2 (by decide) (Or.inl (by decide))
  have l_1038 := kp_1034 3 _ l3 (by decide) (Or.inl (by decide))
  have l_1039 := kp_1034 4 _ l4 (by decide) (Or.inr (q_is_cat f4 (Or.inl rfl)))
  refine go_aload_n (n := 2) (by decide +kernel) l_1037 f2 ?_
  refine go_aloadS (n := 0) (by decide +kernel) l_1035 f0 ?_
  refine go_iload (n := 4) (by decide +kernel) l_1039 f4 ?_
  refine go_iconst (n := 1) (z := 1) (by decide +kernel) (by decide) fun v_1040 f_1041 => ?_
  refine go_iadd (by decide +kernel) f4 f_1041 fun v_1042 f_1043 => ?_
  refine go_sld (by decide +kernel) f0 f_1043 g_1014 fun v_1044 f_1045 => ?_
  refine go_aloadS (n := 0) (by decide +kernel) l_1035 f0 ?_
  refine go_iload (n := 4) (by decide +kernel) l_1039 f4 ?_
  refine go_iconst (n := 2) (z := 2) (by decide +kernel) (by decide) fun v_1046 f_1047 => ?_
  refine go_iadd (by decide +kernel) f4 f_1047 fun v_1048 f_1049 => ?_
  refine go_sld (by decide +kernel) f0 f_1049 g_1021 fun v_1050 f_1051 => ?_
  obtain ⟨x_1053, m_1054, hc_1052, h⟩ := bd_s h
  refine go_callV (x := 173) (mi := 265) (n := 2) (ci := 13) (as := [v_1044, v_1050]) (rest := []) (by decide +kernel) (by decide +kernel) rfl rfl (q_sum8 _ (Nat.le_of_ble_eq_true rfl)) R_1028 f2 (fx_k (c := 13) R_1028 (by decide +kernel)) (om_X12_query (Nat.le_trans (by decide) hd) R_1028 f2 f_1045 f_1051 hc_1052) (fun _ S_1057 q_1060 => ?_) (fun _ _ qq => kr_x qq)
  refine kr_z (by decide) q_1060 fun v_1055 f_1056 R_1058 E_1059 => ?_
  have E_1061 := Ext.tr E_1031 E_1059
  refine go_istore (n := 6) (by decide +kernel) (by decide +kernel) f_1056 fun L_1062 l_1063 kp_1064 => ?_
  have l_1065 := kp_1064 0 _ l_1035 (by decide) (Or.inl (by decide))
  have l_1066 := kp_1064 1 _ l_1036 (by decide) (Or.inl (by decide))
  have l_1067 := kp_1064 2 _ l_1037 (by decide) (Or.inl (by decide))
  have l_1068 := kp_1064 3 _ l_1038 (by decide) (Or.inl (by decide))
  have l_1069 := kp_1064 4 _ l_1039 (by decide) (Or.inl (by decide))
  have l_1070 := kp_1064 5 _ l_1033 (by decide) (Or.inr (q_is_cat f_1026 (Or.inl rfl)))
  refine go_aload_n (n := 2) (by decide +kernel) l_1067 f2 ?_
  obtain ⟨x_1072, hc_1071, h⟩ := bp_s h
  refine go_callV (x := 143) (mi := 185) (n := 0) (ci := 13) (as := []) (rest := []) (by decide +kernel) (by decide +kernel) rfl rfl (q_sum8 _ (Nat.le_of_ble_eq_true rfl)) R_1058 f2 (fx_k (c := 13) R_1058 (by decide +kernel)) (om_X12_thrown (Nat.le_trans (by decide) hd) R_1058 f2 hc_1071) (fun _ S_1076 q_1079 => ?_) (fun _ _ qq => kr_x qq)
  refine kr_z (by decide) q_1079 fun v_1074 f_1075 R_1077 E_1078 => ?_
  refine go_iload (n := 5) (by decide +kernel) l_1070 f_1026 ?_
  refine go_icmp (c := .eq) (o := 5) (t := 876) (P := x_1072 = x_1023) (by decide +kernel) (by decide +kernel) f_1075 f_1026 (Iff.rfl) (fun hp_1080 => ?_) (fun hp_1080 => ?_)
  · have h := it_t hp_1080 h
    refine go_iload (n := 5) (by decide +kernel) l_1070 f_1026 ?_
    refine go_if (c := .ne) (o := 15) (t := 893) (P := ¬ (x_1023 = 0)) (by decide +kernel) (by decide +kernel) f_1026 (Iff.rfl) (fun hp_1081 => ?_) (fun hp_1081 => ?_)
    · have h := it_f hp_1081 h
      refine go_goto (o := 1704) (t := 2597) (by decide +kernel) (by decide +kernel) ?_
      refine go_iinc (n := 4) (c := 7) (c' := 7) (by decide +kernel) (by decide +kernel) l_1069 f4 (by decide) fun L_1082 v_1083 f_1084 l_1085 kp_1086 => ?_
      obtain ⟨x_1087, e_1088, h⟩ := lx_s h
      have f_1089 := q_is_eq f_1084 e_1088
      have l_1090 := kp_1086 0 _ l_1065 (by decide) (Or.inl (by decide))
      have l_1091 := kp_1086 1 _ l_1066 (by decide) (Or.inl (by decide))
      have l_1092 := kp_1086 2 _ l_1067 (by decide) (Or.inl (by decide))
      have l_1093 := kp_1086 3 _ l_1068 (by decide) (Or.inr (q_is_cat f3 (Or.inr rfl)))
      refine go_goto (o := (-2577)) (t := 23) (by decide +kernel) (by decide +kernel) ?_
      exact hc m_1054 E_1061 h R_1077 l_1090 f0 l_1091 f1 l_1092 f2 l_1093 f3 l_1085 f_1089
    · have h := it_n hp_1081 h
      refine go_aload_n (n := 3) (by decide +kernel) l_1068 f3 ?_
      refine go_iconst (n := 0) (z := 0) (by decide +kernel) (by decide) fun v_1094 f_1095 => ?_
      obtain ⟨x_1099, e_1100, h⟩ := lx_s h
      refine go_lald (kd := 101) (by decide +kernel) rfl R_1077 f3 f_1095 (fx_k (c := 101) R_1077 (by decide +kernel)) (fx_x (a := 162) (ln := 1) R_1077 (by decide +kernel) (by decide)) fun v_1096 f_1097 => ?_
      have f_1098 := q_is_eq f_1097 e_1100
      refine go_iload (n := 6) (by decide +kernel) l_1063 f_1056 ?_
      refine go_i2l (by decide +kernel) f_1056 fun v_1101 f_1102 => ?_
      refine go_lcmp (by decide +kernel) f_1098 f_1102 fun v_1103 f_1104 => ?_
      refine go_if (c := .eq) (o := 5) (t := 893) (P := x_1099 = x_1053) (by decide +kernel) (by decide +kernel) f_1104 (lc_eq) (fun hp_1105 => ?_) (fun hp_1105 => ?_)
      · have h := it_t hp_1105 h
        refine go_goto (o := 1704) (t := 2597) (by decide +kernel) (by decide +kernel) ?_
        refine go_iinc (n := 4) (c := 7) (c' := 7) (by decide +kernel) (by decide +kernel) l_1069 f4 (by decide) fun L_1106 v_1107 f_1108 l_1109 kp_1110 => ?_
        obtain ⟨x_1111, e_1112, h⟩ := lx_s h
        have f_1113 := q_is_eq f_1108 e_1112
        have l_1114 := kp_1110 0 _ l_1065 (by decide) (Or.inl (by decide))
        have l_1115 := kp_1110 1 _ l_1066 (by decide) (Or.inl (by decide))
        have l_1116 := kp_1110 2 _ l_1067 (by decide) (Or.inl (by decide))
        have l_1117 := kp_1110 3 _ l_1068 (by decide) (Or.inr (q_is_cat f3 (Or.inr rfl)))
        refine go_goto (o := (-2577)) (t := 23) (by decide +kernel) (by decide +kernel) ?_
        exact hc m_1054 E_1061 h R_1077 l_1114 f0 l_1115 f1 l_1116 f2 l_1117 f3 l_1109 f_1113
      · have h := it_f hp_1105 h
        refine go_iconst (n := 0) (z := 0) (by decide +kernel) (by decide) fun v_1118 f_1119 => ?_
        cases h
        exact go_iret (by decide +kernel) rfl (Or.inr ⟨rfl, by decide⟩) f_1119 (hQ E_1061 _ _ R_1077 (q_out_v (by decide) f_1119))
  · have h := it_f hp_1080 h
    refine go_iconst (n := 0) (z := 0) (by decide +kernel) (by decide) fun v_1120 f_1121 => ?_
    cases h
    exact go_iret (by decide +kernel) rfl (Or.inr ⟨rfl, by decide⟩) f_1121 (hQ E_1061 _ _ R_1077 (q_out_v (by decide) f_1121))
noncomputable def fj_L_law_896 (xs : List Int32) (c : Int → MM → Option (Int × MM)) (y4 : Int) (m : MM) : Option (Int × MM) := gd (0 ≤ w32 (y4 + 1) ∧ w32 (y4 + 1) < (xs.length : Int)) <| gd (0 ≤ w32 (y4 + 2) ∧ w32 (y4 + 2) < (xs.length : Int)) <| bd (fm_L_plain (scr xs (w32 (y4 + 1))) (scr xs (w32 (y4 + 2))) m) fun x_1139 m_1140 =>
bd (fm_X12_plain (scr xs (w32 (y4 + 1))) (scr xs (w32 (y4 + 2))) m_1140) fun x_1169 m_1170 =>
bp (fm_X12_thrown m_1170) fun x_1188 =>
if x_1188 = x_1139 then
if x_1139 = 0 then
lx (m_1170 162 0) fun x_1215 =>
if x_1215 = x_1169 then
lx (w32 (y4 + 7)) fun x_1227 =>
c x_1227 m_1170
else
some (0, m_1170)
else
lx (w32 (y4 + 7)) fun x_1203 =>
c x_1203 m_1170
else
some (0, m_1170)
set_option maxHeartbeats 4000000 in
theorem oj_L_law_896 {xs : List Int32} {d : Nat} {S : QS} {L : QL} {Q : QO → QS → Prop} {m : MM} {y4 : Int} {v0 : Value} {v1 : Value} {v2 : Value} {v3 : Value} {v4 : Value}  {rz : Int} {rm : MM} {c : Int → MM → Option (Int × MM)} 
  (hd : 174 ≤ d) (R : Rp S m) (l0 : q_lo L 0 = some v0) (f0 : q_is 7 v0 0) (l1 : q_lo L 1 = some v1) (f1 : q_is 2 v1 4) (l2 : q_lo L 2 = some v2) (f2 : q_is 2 v2 68) (l3 : q_lo L 3 = some v3) (f3 : q_is 2 v3 162) (l4 : q_lo L 4 = some v4) (f4 : q_is 0 v4 y4)
  (hc : ∀ mq : MM, Ext m mq → ∀ {z4 : Int} {Sq : QS} {Lq : QL} {u0 : Value} {u1 : Value} {u2 : Value} {u3 : Value} {u4 : Value}, c z4 mq = some (rz, rm) → Rp Sq mq → q_lo Lq 0 = some u0 → q_is 7 u0 0 → q_lo Lq 1 = some u1 → q_is 2 u1 4 → q_lo Lq 2 = some u2 → q_is 2 u2 68 → q_lo Lq 3 = some u3 → q_is 2 u3 162 → q_lo Lq 4 = some u4 → q_is 0 u4 z4 → Go xs d qM_L_law 23 Lq [] Sq Q)
  (hQ : Ext m rm → ∀ o S1, Rp S1 rm → q_out 0 o rz → Q o S1)
  (h : fj_L_law_896 xs c y4 m = some (rz, rm)) : Go xs d qM_L_law 896 L [] S Q := by
  unfold fj_L_law_896 at h
  refine go_aload_n (n := 1) (by decide +kernel) l1 f1 ?_
  refine go_aloadS (n := 0) (by decide +kernel) l0 f0 ?_
  refine go_iload (n := 4) (by decide +kernel) l4 f4 ?_
  refine go_iconst (n := 1) (z := 1) (by decide +kernel) (by decide) fun v_1124 f_1125 => ?_
  refine go_iadd (by decide +kernel) f4 f_1125 fun v_1126 f_1127 => ?_
  obtain ⟨g_1130, h⟩ := gd_s h
  refine go_sld (by decide +kernel) f0 f_1127 g_1130 fun v_1128 f_1129 => ?_
  refine go_aloadS (n := 0) (by decide +kernel) l0 f0 ?_
  refine go_iload (n := 4) (by decide +kernel) l4 f4 ?_
  refine go_iconst (n := 2) (z := 2) (by decide +kernel) (by decide) fun v_1131 f_1132 => ?_
  refine go_iadd (by decide +kernel) f4 f_1132 fun v_1133 f_1134 => ?_
  obtain ⟨g_1137, h⟩ := gd_s h
  refine go_sld (by decide +kernel) f0 f_1134 g_1137 fun v_1135 f_1136 => ?_
  refine go_aload_n (n := 3) (by decide +kernel) l3 f3 ?_
  obtain ⟨x_1139, m_1140, hc_1138, h⟩ := bd_s h
  refine go_callS (x := 174) (mi := 349) (n := 4) (b := 0) (as := [v1, v_1128, v_1135, v3]) (rest := []) (by decide +kernel) (by decide +kernel) rfl rfl (q_sum8 _ (Nat.le_of_ble_eq_true rfl)) (om_L_plain (Nat.le_trans (by decide) hd) R f1 f_1129 f_1136 f3 hc_1138) (fun _ S_1143 q_1146 => ?_) (fun _ _ qq => kr_x qq)
  refine kr_z (by decide) q_1146 fun v_1141 f_1142 R_1144 E_1145 => ?_
  have E_1147 := E_1145
  refine go_istore (n := 5) (by decide +kernel) (by decide +kernel) f_1142 fun L_1148 l_1149 kp_1150 => ?_
  have l_1151 := kp_1150 0 _ l0 (by decide) (Or.inl (by decide))
  have l_1152 := kp_1150 1 _ l1 (by decide) (Or.inl (by decide))
  have l_1153 := kp_1150 2 _ l2 (by decide) (Or.inl (by decide))
  have l_1154 := kp_1150 3 _ l3 (by decide) (Or.inl (by decide))
  have l_1155 := kp_1150 4 _ l4 (by decide) (Or.inr (q_is_cat f4 (Or.inl rfl)))
  refine go_aload_n (n := 2) (by decide +kernel) l_1153 f2 ?_
  refine go_aloadS (n := 0) (by decide +kernel) l_1151 f0 ?_
  refine go_iload (n := 4) (by decide +kernel) l_1155 f4 ?_
  refine go_iconst (n := 1) (z := 1) (by decide +kernel) (by decide) fun v_1156 f_1157 => ?_
  refine go_iadd (by decide +kernel) f4 f_1157 fun v_1158 f_1159 => ?_
  refine go_sld (by decide +kernel) f0 f_1159 g_1130 fun v_1160 f_1161 => ?_
  refine go_aloadS (n := 0) (by decide +kernel) l_1151 f0 ?_
  refine go_iload (n := 4) (by decide +kernel) l_1155 f4 ?_
  refine go_iconst (n := 2) (z := 2) (by decide +kernel) (by decide) fun v_1162 f_1163 => ?_
  refine go_iadd (by decide +kernel) f4 f_1163 fun v_1164 f_1165 => ?_
  refine go_sld (by decide +kernel) f0 f_1165 g_1137 fun v_1166 f_1167 => ?_
  obtain ⟨x_1169, m_1170, hc_1168, h⟩ := bd_s h
  refine go_callV (x := 176) (mi := 266) (n := 2) (ci := 13) (as := [v_1160, v_1166]) (rest := []) (by decide +kernel) (by decide +kernel) rfl rfl (q_sum8 _ (Nat.le_of_ble_eq_true rfl)) R_1144 f2 (fx_k (c := 13) R_1144 (by decide +kernel)) (om_X12_plain (Nat.le_trans (by decide) hd) R_1144 f2 f_1161 f_1167 hc_1168) (fun _ S_1173 q_1176 => ?_) (fun _ _ qq => kr_x qq)
  refine kr_z (by decide) q_1176 fun v_1171 f_1172 R_1174 E_1175 => ?_
  have E_1177 := Ext.tr E_1147 E_1175
  refine go_istore (n := 6) (by decide +kernel) (by decide +kernel) f_1172 fun L_1178 l_1179 kp_1180 => ?_
  have l_1181 := kp_1180 0 _ l_1151 (by decide) (Or.inl (by decide))
  have l_1182 := kp_1180 1 _ l_1152 (by decide) (Or.inl (by decide))
  have l_1183 := kp_1180 2 _ l_1153 (by decide) (Or.inl (by decide))
  have l_1184 := kp_1180 3 _ l_1154 (by decide) (Or.inl (by decide))
  have l_1185 := kp_1180 4 _ l_1155 (by decide) (Or.inl (by decide))
  have l_1186 := kp_1180 5 _ l_1149 (by decide) (Or.inr (q_is_cat f_1142 (Or.inl rfl)))
  refine go_aload_n (n := 2) (by decide +kernel) l_1183 f2 ?_
  obtain ⟨x_1188, hc_1187, h⟩ := bp_s h
  refine go_callV (x := 143) (mi := 185) (n := 0) (ci := 13) (as := []) (rest := []) (by decide +kernel) (by decide +kernel) rfl rfl (q_sum8 _ (Nat.le_of_ble_eq_true rfl)) R_1174 f2 (fx_k (c := 13) R_1174 (by decide +kernel)) (om_X12_thrown (Nat.le_trans (by decide) hd) R_1174 f2 hc_1187) (fun _ S_1192 q_1195 => ?_) (fun _ _ qq => kr_x qq)
  refine kr_z (by decide) q_1195 fun v_1190 f_1191 R_1193 E_1194 => ?_
  refine go_iload (n := 5) (by decide +kernel) l_1186 f_1142 ?_
  refine go_icmp (c := .eq) (o := 5) (t := 944) (P := x_1188 = x_1139) (by decide +kernel) (by decide +kernel) f_1191 f_1142 (Iff.rfl) (fun hp_1196 => ?_) (fun hp_1196 => ?_)
  · have h := it_t hp_1196 h
    refine go_iload (n := 5) (by decide +kernel) l_1186 f_1142 ?_
    refine go_if (c := .ne) (o := 15) (t := 961) (P := ¬ (x_1139 = 0)) (by decide +kernel) (by decide +kernel) f_1142 (Iff.rfl) (fun hp_1197 => ?_) (fun hp_1197 => ?_)
    · have h := it_f hp_1197 h
      refine go_goto (o := 1636) (t := 2597) (by decide +kernel) (by decide +kernel) ?_
      refine go_iinc (n := 4) (c := 7) (c' := 7) (by decide +kernel) (by decide +kernel) l_1185 f4 (by decide) fun L_1198 v_1199 f_1200 l_1201 kp_1202 => ?_
      obtain ⟨x_1203, e_1204, h⟩ := lx_s h
      have f_1205 := q_is_eq f_1200 e_1204
      have l_1206 := kp_1202 0 _ l_1181 (by decide) (Or.inl (by decide))
      have l_1207 := kp_1202 1 _ l_1182 (by decide) (Or.inl (by decide))
      have l_1208 := kp_1202 2 _ l_1183 (by decide) (Or.inl (by decide))
      have l_1209 := kp_1202 3 _ l_1184 (by decide) (Or.inr (q_is_cat f3 (Or.inr rfl)))
      refine go_goto (o := (-2577)) (t := 23) (by decide +kernel) (by decide +kernel) ?_
      exact hc m_1170 E_1177 h R_1193 l_1206 f0 l_1207 f1 l_1208 f2 l_1209 f3 l_1201 f_1205
    · have h := it_n hp_1197 h
      refine go_aload_n (n := 3) (by decide +kernel) l_1184 f3 ?_
      refine go_iconst (n := 0) (z := 0) (by decide +kernel) (by decide) fun v_1210 f_1211 => ?_
      obtain ⟨x_1215, e_1216, h⟩ := lx_s h
      refine go_lald (kd := 101) (by decide +kernel) rfl R_1193 f3 f_1211 (fx_k (c := 101) R_1193 (by decide +kernel)) (fx_x (a := 162) (ln := 1) R_1193 (by decide +kernel) (by decide)) fun v_1212 f_1213 => ?_
      have f_1214 := q_is_eq f_1213 e_1216
      refine go_iload (n := 6) (by decide +kernel) l_1179 f_1172 ?_
      refine go_i2l (by decide +kernel) f_1172 fun v_1217 f_1218 => ?_
      refine go_lcmp (by decide +kernel) f_1214 f_1218 fun v_1219 f_1220 => ?_
      refine go_if (c := .eq) (o := 5) (t := 961) (P := x_1215 = x_1169) (by decide +kernel) (by decide +kernel) f_1220 (lc_eq) (fun hp_1221 => ?_) (fun hp_1221 => ?_)
      · have h := it_t hp_1221 h
        refine go_goto (o := 1636) (t := 2597) (by decide +kernel) (by decide +kernel) ?_
        refine go_iinc (n := 4) (c := 7) (c' := 7) (by decide +kernel) (by decide +kernel) l_1185 f4 (by decide) fun L_1222 v_1223 f_1224 l_1225 kp_1226 => ?_
        obtain ⟨x_1227, e_1228, h⟩ := lx_s h
        have f_1229 := q_is_eq f_1224 e_1228
        have l_1230 := kp_1226 0 _ l_1181 (by decide) (Or.inl (by decide))
        have l_1231 := kp_1226 1 _ l_1182 (by decide) (Or.inl (by decide))
        have l_1232 := kp_1226 2 _ l_1183 (by decide) (Or.inl (by decide))
        have l_1233 := kp_1226 3 _ l_1184 (by decide) (Or.inr (q_is_cat f3 (Or.inr rfl)))
        refine go_goto (o := (-2577)) (t := 23) (by decide +kernel) (by decide +kernel) ?_
        exact hc m_1170 E_1177 h R_1193 l_1230 f0 l_1231 f1 l_1232 f2 l_1233 f3 l_1225 f_1229
      · have h := it_f hp_1221 h
        refine go_iconst (n := 0) (z := 0) (by decide +kernel) (by decide) fun v_1234 f_1235 => ?_
        cases h
        exact go_iret (by decide +kernel) rfl (Or.inr ⟨rfl, by decide⟩) f_1235 (hQ E_1177 _ _ R_1193 (q_out_v (by decide) f_1235))
  · have h := it_f hp_1196 h
    refine go_iconst (n := 0) (z := 0) (by decide +kernel) (by decide) fun v_1236 f_1237 => ?_
    cases h
    exact go_iret (by decide +kernel) rfl (Or.inr ⟨rfl, by decide⟩) f_1237 (hQ E_1177 _ _ R_1193 (q_out_v (by decide) f_1237))
noncomputable def fj_L_law_964 (xs : List Int32) (c : Int → MM → Option (Int × MM)) (y4 : Int) (m : MM) : Option (Int × MM) := gd (0 ≤ w32 (y4 + 1) ∧ w32 (y4 + 1) < (xs.length : Int)) <| bd (fm_L_standing (scr xs (w32 (y4 + 1))) m) fun x_1248 m_1249 =>
bd (fm_X12_standing (scr xs (w32 (y4 + 1))) m_1249) fun x_1272 m_1273 =>
bp (fm_X12_thrown m_1273) fun x_1291 =>
if x_1291 = x_1248 then
if x_1248 = 0 then
lx (m_1273 162 0) fun x_1318 =>
if x_1318 = x_1272 then
lx (w32 (y4 + 7)) fun x_1330 =>
c x_1330 m_1273
else
some (0, m_1273)
else
lx (w32 (y4 + 7)) fun x_1306 =>
c x_1306 m_1273
else
some (0, m_1273)
set_option maxHeartbeats 4000000 in
theorem oj_L_law_964 {xs : List Int32} {d : Nat} {S : QS} {L : QL} {Q : QO → QS → Prop} {m : MM} {y4 : Int} {v0 : Value} {v1 : Value} {v2 : Value} {v3 : Value} {v4 : Value}  {rz : Int} {rm : MM} {c : Int → MM → Option (Int × MM)} 
  (hd : 174 ≤ d) (R : Rp S m) (l0 : q_lo L 0 = some v0) (f0 : q_is 7 v0 0) (l1 : q_lo L 1 = some v1) (f1 : q_is 2 v1 4) (l2 : q_lo L 2 = some v2) (f2 : q_is 2 v2 68) (l3 : q_lo L 3 = some v3) (f3 : q_is 2 v3 162) (l4 : q_lo L 4 = some v4) (f4 : q_is 0 v4 y4)
  (hc : ∀ mq : MM, Ext m mq → ∀ {z4 : Int} {Sq : QS} {Lq : QL} {u0 : Value} {u1 : Value} {u2 : Value} {u3 : Value} {u4 : Value}, c z4 mq = some (rz, rm) → Rp Sq mq → q_lo Lq 0 = some u0 → q_is 7 u0 0 → q_lo Lq 1 = some u1 → q_is 2 u1 4 → q_lo Lq 2 = some u2 → q_is 2 u2 68 → q_lo Lq 3 = some u3 → q_is 2 u3 162 → q_lo Lq 4 = some u4 → q_is 0 u4 z4 → Go xs d qM_L_law 23 Lq [] Sq Q)
  (hQ : Ext m rm → ∀ o S1, Rp S1 rm → q_out 0 o rz → Q o S1)
  (h : fj_L_law_964 xs c y4 m = some (rz, rm)) : Go xs d qM_L_law 964 L [] S Q := by
  unfold fj_L_law_964 at h
  refine go_aload_n (n := 1) (by decide +kernel) l1 f1 ?_
  refine go_aloadS (n := 0) (by decide +kernel) l0 f0 ?_
  refine go_iload (n := 4) (by decide +kernel) l4 f4 ?_
  refine go_iconst (n := 1) (z := 1) (by decide +kernel) (by decide) fun v_1240 f_1241 => ?_
  refine go_iadd (by decide +kernel) f4 f_1241 fun v_1242 f_1243 => ?_
  obtain ⟨g_1246, h⟩ := gd_s h
  refine go_sld (by decide +kernel) f0 f_1243 g_1246 fun v_1244 f_1245 => ?_
  refine go_aload_n (n := 3) (by decide +kernel) l3 f3 ?_
  obtain ⟨x_1248, m_1249, hc_1247, h⟩ := bd_s h
  refine go_callS (x := 177) (mi := 350) (n := 3) (b := 0) (as := [v1, v_1244, v3]) (rest := []) (by decide +kernel) (by decide +kernel) rfl rfl (q_sum8 _ (Nat.le_of_ble_eq_true rfl)) (om_L_standing (Nat.le_trans (by decide) hd) R f1 f_1245 f3 hc_1247) (fun _ S_1252 q_1255 => ?_) (fun _ _ qq => kr_x qq)
  refine kr_z (by decide) q_1255 fun v_1250 f_1251 R_1253 E_1254 => ?_
  have E_1256 := E_1254
  refine go_istore (n := 5) (by decide +kernel) (by decide +kernel) f_1251 fun L_1257 l_1258 kp_1259 => ?_
  have l_1260 := kp_1259 0 _ l0 (by decide) (Or.inl (by decide))
  have l_1261 := kp_1259 1 _ l1 (by decide) (Or.inl (by decide))
  have l_1262 := kp_1259 2 _ l2 (by decide) (Or.inl (by decide))
  have l_1263 := kp_1259 3 _ l3 (by decide) (Or.inl (by decide))
  have l_1264 := kp_1259 4 _ l4 (by decide) (Or.inr (q_is_cat f4 (Or.inl rfl)))
  refine go_aload_n (n := 2) (by decide +kernel) l_1262 f2 ?_
  refine go_aloadS (n := 0) (by decide +kernel) l_1260 f0 ?_
  refine go_iload (n := 4) (by decide +kernel) l_1264 f4 ?_
  refine go_iconst (n := 1) (z := 1) (by decide +kernel) (by decide) fun v_1265 f_1266 => ?_
  refine go_iadd (by decide +kernel) f4 f_1266 fun v_1267 f_1268 => ?_
  refine go_sld (by decide +kernel) f0 f_1268 g_1246 fun v_1269 f_1270 => ?_
  obtain ⟨x_1272, m_1273, hc_1271, h⟩ := bd_s h
  refine go_callV (x := 179) (mi := 267) (n := 1) (ci := 13) (as := [v_1269]) (rest := []) (by decide +kernel) (by decide +kernel) rfl rfl (q_sum8 _ (Nat.le_of_ble_eq_true rfl)) R_1253 f2 (fx_k (c := 13) R_1253 (by decide +kernel)) (om_X12_standing (Nat.le_trans (by decide) hd) R_1253 f2 f_1270 hc_1271) (fun _ S_1276 q_1279 => ?_) (fun _ _ qq => kr_x qq)
  refine kr_z (by decide) q_1279 fun v_1274 f_1275 R_1277 E_1278 => ?_
  have E_1280 := Ext.tr E_1256 E_1278
  refine go_istore (n := 6) (by decide +kernel) (by decide +kernel) f_1275 fun L_1281 l_1282 kp_1283 => ?_
  have l_1284 := kp_1283 0 _ l_1260 (by decide) (Or.inl (by decide))
  have l_1285 := kp_1283 1 _ l_1261 (by decide) (Or.inl (by decide))
  have l_1286 := kp_1283 2 _ l_1262 (by decide) (Or.inl (by decide))
  have l_1287 := kp_1283 3 _ l_1263 (by decide) (Or.inl (by decide))
  have l_1288 := kp_1283 4 _ l_1264 (by decide) (Or.inl (by decide))
  have l_1289 := kp_1283 5 _ l_1258 (by decide) (Or.inr (q_is_cat f_1251 (Or.inl rfl)))
  refine go_aload_n (n := 2) (by decide +kernel) l_1286 f2 ?_
  obtain ⟨x_1291, hc_1290, h⟩ := bp_s h
  refine go_callV (x := 143) (mi := 185) (n := 0) (ci := 13) (as := []) (rest := []) (by decide +kernel) (by decide +kernel) rfl rfl (q_sum8 _ (Nat.le_of_ble_eq_true rfl)) R_1277 f2 (fx_k (c := 13) R_1277 (by decide +kernel)) (om_X12_thrown (Nat.le_trans (by decide) hd) R_1277 f2 hc_1290) (fun _ S_1295 q_1298 => ?_) (fun _ _ qq => kr_x qq)
  refine kr_z (by decide) q_1298 fun v_1293 f_1294 R_1296 E_1297 => ?_
  refine go_iload (n := 5) (by decide +kernel) l_1289 f_1251 ?_
  refine go_icmp (c := .eq) (o := 5) (t := 1000) (P := x_1291 = x_1248) (by decide +kernel) (by decide +kernel) f_1294 f_1251 (Iff.rfl) (fun hp_1299 => ?_) (fun hp_1299 => ?_)
  · have h := it_t hp_1299 h
    refine go_iload (n := 5) (by decide +kernel) l_1289 f_1251 ?_
    refine go_if (c := .ne) (o := 15) (t := 1017) (P := ¬ (x_1248 = 0)) (by decide +kernel) (by decide +kernel) f_1251 (Iff.rfl) (fun hp_1300 => ?_) (fun hp_1300 => ?_)
    · have h := it_f hp_1300 h
      refine go_goto (o := 1580) (t := 2597) (by decide +kernel) (by decide +kernel) ?_
      refine go_iinc (n := 4) (c := 7) (c' := 7) (by decide +kernel) (by decide +kernel) l_1288 f4 (by decide) fun L_1301 v_1302 f_1303 l_1304 kp_1305 => ?_
      obtain ⟨x_1306, e_1307, h⟩ := lx_s h
      have f_1308 := q_is_eq f_1303 e_1307
      have l_1309 := kp_1305 0 _ l_1284 (by decide) (Or.inl (by decide))
      have l_1310 := kp_1305 1 _ l_1285 (by decide) (Or.inl (by decide))
      have l_1311 := kp_1305 2 _ l_1286 (by decide) (Or.inl (by decide))
      have l_1312 := kp_1305 3 _ l_1287 (by decide) (Or.inr (q_is_cat f3 (Or.inr rfl)))
      refine go_goto (o := (-2577)) (t := 23) (by decide +kernel) (by decide +kernel) ?_
      exact hc m_1273 E_1280 h R_1296 l_1309 f0 l_1310 f1 l_1311 f2 l_1312 f3 l_1304 f_1308
    · have h := it_n hp_1300 h
      refine go_aload_n (n := 3) (by decide +kernel) l_1287 f3 ?_
      refine go_iconst (n := 0) (z := 0) (by decide +kernel) (by decide) fun v_1313 f_1314 => ?_
      obtain ⟨x_1318, e_1319, h⟩ := lx_s h
      refine go_lald (kd := 101) (by decide +kernel) rfl R_1296 f3 f_1314 (fx_k (c := 101) R_1296 (by decide +kernel)) (fx_x (a := 162) (ln := 1) R_1296 (by decide +kernel) (by decide)) fun v_1315 f_1316 => ?_
      have f_1317 := q_is_eq f_1316 e_1319
      refine go_iload (n := 6) (by decide +kernel) l_1282 f_1275 ?_
      refine go_i2l (by decide +kernel) f_1275 fun v_1320 f_1321 => ?_
      refine go_lcmp (by decide +kernel) f_1317 f_1321 fun v_1322 f_1323 => ?_
      refine go_if (c := .eq) (o := 5) (t := 1017) (P := x_1318 = x_1272) (by decide +kernel) (by decide +kernel) f_1323 (lc_eq) (fun hp_1324 => ?_) (fun hp_1324 => ?_)
      · have h := it_t hp_1324 h
        refine go_goto (o := 1580) (t := 2597) (by decide +kernel) (by decide +kernel) ?_
        refine go_iinc (n := 4) (c := 7) (c' := 7) (by decide +kernel) (by decide +kernel) l_1288 f4 (by decide) fun L_1325 v_1326 f_1327 l_1328 kp_1329 => ?_
        obtain ⟨x_1330, e_1331, h⟩ := lx_s h
        have f_1332 := q_is_eq f_1327 e_1331
        have l_1333 := kp_1329 0 _ l_1284 (by decide) (Or.inl (by decide))
        have l_1334 := kp_1329 1 _ l_1285 (by decide) (Or.inl (by decide))
        have l_1335 := kp_1329 2 _ l_1286 (by decide) (Or.inl (by decide))
        have l_1336 := kp_1329 3 _ l_1287 (by decide) (Or.inr (q_is_cat f3 (Or.inr rfl)))
        refine go_goto (o := (-2577)) (t := 23) (by decide +kernel) (by decide +kernel) ?_
        exact hc m_1273 E_1280 h R_1296 l_1333 f0 l_1334 f1 l_1335 f2 l_1336 f3 l_1328 f_1332
      · have h := it_f hp_1324 h
        refine go_iconst (n := 0) (z := 0) (by decide +kernel) (by decide) fun v_1337 f_1338 => ?_
        cases h
        exact go_iret (by decide +kernel) rfl (Or.inr ⟨rfl, by decide⟩) f_1338 (hQ E_1280 _ _ R_1296 (q_out_v (by decide) f_1338))
  · have h := it_f hp_1299 h
    refine go_iconst (n := 0) (z := 0) (by decide +kernel) (by decide) fun v_1339 f_1340 => ?_
    cases h
    exact go_iret (by decide +kernel) rfl (Or.inr ⟨rfl, by decide⟩) f_1340 (hQ E_1280 _ _ R_1296 (q_out_v (by decide) f_1340))
noncomputable def fj_L_law_1020 (xs : List Int32) (c : Int → MM → Option (Int × MM)) (y4 : Int) (m : MM) : Option (Int × MM) := gd (0 ≤ w32 (y4 + 1) ∧ w32 (y4 + 1) < (xs.length : Int)) <| gd (0 ≤ w32 (y4 + 2) ∧ w32 (y4 + 2) < (xs.length : Int)) <| bd (fm_L_event (scr xs (w32 (y4 + 1))) (scr xs (w32 (y4 + 2))) m) fun x_1358 m_1359 =>
bd (fm_X12_event (scr xs (w32 (y4 + 1))) (scr xs (w32 (y4 + 2))) m_1359) fun x_1388 m_1389 =>
bp (fm_X12_thrown m_1389) fun x_1407 =>
if x_1407 = x_1358 then
if x_1358 = 0 then
lx (m_1389 162 0) fun x_1434 =>
if x_1434 = x_1388 then
lx (w32 (y4 + 7)) fun x_1446 =>
c x_1446 m_1389
else
some (0, m_1389)
else
lx (w32 (y4 + 7)) fun x_1422 =>
c x_1422 m_1389
else
some (0, m_1389)
set_option maxHeartbeats 4000000 in
theorem oj_L_law_1020 {xs : List Int32} {d : Nat} {S : QS} {L : QL} {Q : QO → QS → Prop} {m : MM} {y4 : Int} {v0 : Value} {v1 : Value} {v2 : Value} {v3 : Value} {v4 : Value}  {rz : Int} {rm : MM} {c : Int → MM → Option (Int × MM)} 
  (hd : 174 ≤ d) (R : Rp S m) (l0 : q_lo L 0 = some v0) (f0 : q_is 7 v0 0) (l1 : q_lo L 1 = some v1) (f1 : q_is 2 v1 4) (l2 : q_lo L 2 = some v2) (f2 : q_is 2 v2 68) (l3 : q_lo L 3 = some v3) (f3 : q_is 2 v3 162) (l4 : q_lo L 4 = some v4) (f4 : q_is 0 v4 y4)
  (hc : ∀ mq : MM, Ext m mq → ∀ {z4 : Int} {Sq : QS} {Lq : QL} {u0 : Value} {u1 : Value} {u2 : Value} {u3 : Value} {u4 : Value}, c z4 mq = some (rz, rm) → Rp Sq mq → q_lo Lq 0 = some u0 → q_is 7 u0 0 → q_lo Lq 1 = some u1 → q_is 2 u1 4 → q_lo Lq 2 = some u2 → q_is 2 u2 68 → q_lo Lq 3 = some u3 → q_is 2 u3 162 → q_lo Lq 4 = some u4 → q_is 0 u4 z4 → Go xs d qM_L_law 23 Lq [] Sq Q)
  (hQ : Ext m rm → ∀ o S1, Rp S1 rm → q_out 0 o rz → Q o S1)
  (h : fj_L_law_1020 xs c y4 m = some (rz, rm)) : Go xs d qM_L_law 1020 L [] S Q := by
  unfold fj_L_law_1020 at h
  refine go_aload_n (n := 1) (by decide +kernel) l1 f1 ?_
  refine go_aloadS (n := 0) (by decide +kernel) l0 f0 ?_
  refine go_iload (n := 4) (by decide +kernel) l4 f4 ?_
  refine go_iconst (n := 1) (z := 1) (by decide +kernel) (by decide) fun v_1343 f_1344 => ?_
  refine go_iadd (by decide +kernel) f4 f_1344 fun v_1345 f_1346 => ?_
  obtain ⟨g_1349, h⟩ := gd_s h
  refine go_sld (by decide +kernel) f0 f_1346 g_1349 fun v_1347 f_1348 => ?_
  refine go_aloadS (n := 0) (by decide +kernel) l0 f0 ?_
  refine go_iload (n := 4) (by decide +kernel) l4 f4 ?_
  refine go_iconst (n := 2) (z := 2) (by decide +kernel) (by decide) fun v_1350 f_1351 => ?_
  refine go_iadd (by decide +kernel) f4 f_1351 fun v_1352 f_1353 => ?_
  obtain ⟨g_1356, h⟩ := gd_s h
  refine go_sld (by decide +kernel) f0 f_1353 g_1356 fun v_1354 f_1355 => ?_
  refine go_aload_n (n := 3) (by decide +kernel) l3 f3 ?_
  obtain ⟨x_1358, m_1359, hc_1357, h⟩ := bd_s h
  refine go_callS (x := 180) (mi := 351) (n := 4) (b := 0) (as := [v1, v_1347, v_1354, v3]) (rest := []) (by decide +kernel) (by decide +kernel) rfl rfl (q_sum8 _ (Nat.le_of_ble_eq_true rfl)) (om_L_event (Nat.le_trans (by decide) hd) R f1 f_1348 f_1355 f3 hc_1357) (fun _ S_1362 q_1365 => ?_) (fun _ _ qq => kr_x qq)
  refine kr_z (by decide) q_1365 fun v_1360 f_1361 R_1363 E_1364 => ?_
  have E_1366 := E_1364
  refine go_istore (n := 5) (by decide +kernel) (by decide +kernel) f_1361 fun L_1367 l_1368 kp_1369 => ?_
  have l_1370 := kp_1369 0 _ l0 (by decide) (Or.inl (by decide))
  have l_1371 := kp_1369 1 _ l1 (by decide) (Or.inl (by decide))
  have l_1372 := kp_1369 2 _ l2 (by decide) (Or.inl (by decide))
  have l_1373 := kp_1369 3 _ l3 (by decide) (Or.inl (by decide))
  have l_1374 := kp_1369 4 _ l4 (by decide) (Or.inr (q_is_cat f4 (Or.inl rfl)))
  refine go_aload_n (n := 2) (by decide +kernel) l_1372 f2 ?_
  refine go_aloadS (n := 0) (by decide +kernel) l_1370 f0 ?_
  refine go_iload (n := 4) (by decide +kernel) l_1374 f4 ?_
  refine go_iconst (n := 1) (z := 1) (by decide +kernel) (by decide) fun v_1375 f_1376 => ?_
  refine go_iadd (by decide +kernel) f4 f_1376 fun v_1377 f_1378 => ?_
  refine go_sld (by decide +kernel) f0 f_1378 g_1349 fun v_1379 f_1380 => ?_
  refine go_aloadS (n := 0) (by decide +kernel) l_1370 f0 ?_
  refine go_iload (n := 4) (by decide +kernel) l_1374 f4 ?_
  refine go_iconst (n := 2) (z := 2) (by decide +kernel) (by decide) fun v_1381 f_1382 => ?_
  refine go_iadd (by decide +kernel) f4 f_1382 fun v_1383 f_1384 => ?_
  refine go_sld (by decide +kernel) f0 f_1384 g_1356 fun v_1385 f_1386 => ?_
  obtain ⟨x_1388, m_1389, hc_1387, h⟩ := bd_s h
  refine go_callV (x := 182) (mi := 268) (n := 2) (ci := 13) (as := [v_1379, v_1385]) (rest := []) (by decide +kernel) (by decide +kernel) rfl rfl (q_sum8 _ (Nat.le_of_ble_eq_true rfl)) R_1363 f2 (fx_k (c := 13) R_1363 (by decide +kernel)) (om_X12_event (Nat.le_trans (by decide) hd) R_1363 f2 f_1380 f_1386 hc_1387) (fun _ S_1392 q_1395 => ?_) (fun _ _ qq => kr_x qq)
  refine kr_z (by decide) q_1395 fun v_1390 f_1391 R_1393 E_1394 => ?_
  have E_1396 := Ext.tr E_1366 E_1394
  refine go_istore (n := 6) (by decide +kernel) (by decide +kernel) f_1391 fun L_1397 l_1398 kp_1399 => ?_
  have l_1400 := kp_1399 0 _ l_1370 (by decide) (Or.inl (by decide))
  have l_1401 := kp_1399 1 _ l_1371 (by decide) (Or.inl (by decide))
  have l_1402 := kp_1399 2 _ l_1372 (by decide) (Or.inl (by decide))
  have l_1403 := kp_1399 3 _ l_1373 (by decide) (Or.inl (by decide))
  have l_1404 := kp_1399 4 _ l_1374 (by decide) (Or.inl (by decide))
  have l_1405 := kp_1399 5 _ l_1368 (by decide) (Or.inr (q_is_cat f_1361 (Or.inl rfl)))
  refine go_aload_n (n := 2) (by decide +kernel) l_1402 f2 ?_
  obtain ⟨x_1407, hc_1406, h⟩ := bp_s h
  refine go_callV (x := 143) (mi := 185) (n := 0) (ci := 13) (as := []) (rest := []) (by decide +kernel) (by decide +kernel) rfl rfl (q_sum8 _ (Nat.le_of_ble_eq_true rfl)) R_1393 f2 (fx_k (c := 13) R_1393 (by decide +kernel)) (om_X12_thrown (Nat.le_trans (by decide) hd) R_1393 f2 hc_1406) (fun _ S_1411 q_1414 => ?_) (fun _ _ qq => kr_x qq)
  refine kr_z (by decide) q_1414 fun v_1409 f_1410 R_1412 E_1413 => ?_
  refine go_iload (n := 5) (by decide +kernel) l_1405 f_1361 ?_
  refine go_icmp (c := .eq) (o := 5) (t := 1068) (P := x_1407 = x_1358) (by decide +kernel) (by decide +kernel) f_1410 f_1361 (Iff.rfl) (fun hp_1415 => ?_) (fun hp_1415 => ?_)
  · have h := it_t hp_1415 h
    refine go_iload (n := 5) (by decide +kernel) l_1405 f_1361 ?_
    refine go_if (c := .ne) (o := 15) (t := 1085) (P := ¬ (x_1358 = 0)) (by decide +kernel) (by decide +kernel) f_1361 (Iff.rfl) (fun hp_1416 => ?_) (fun hp_1416 => ?_)
    · have h := it_f hp_1416 h
      refine go_goto (o := 1512) (t := 2597) (by decide +kernel) (by decide +kernel) ?_
      refine go_iinc (n := 4) (c := 7) (c' := 7) (by decide +kernel) (by decide +kernel) l_1404 f4 (by decide) fun L_1417 v_1418 f_1419 l_1420 kp_1421 => ?_
      obtain ⟨x_1422, e_1423, h⟩ := lx_s h
      have f_1424 := q_is_eq f_1419 e_1423
      have l_1425 := kp_1421 0 _ l_1400 (by decide) (Or.inl (by decide))
      have l_1426 := kp_1421 1 _ l_1401 (by decide) (Or.inl (by decide))
      have l_1427 := kp_1421 2 _ l_1402 (by decide) (Or.inl (by decide))
      have l_1428 := kp_1421 3 _ l_1403 (by decide) (Or.inr (q_is_cat f3 (Or.inr rfl)))
      refine go_goto (o := (-2577)) (t := 23) (by decide +kernel) (by decide +kernel) ?_
      exact hc m_1389 E_1396 h R_1412 l_1425 f0 l_1426 f1 l_1427 f2 l_1428 f3 l_1420 f_1424
    · have h := it_n hp_1416 h
      refine go_aload_n (n := 3) (by decide +kernel) l_1403 f3 ?_
      refine go_iconst (n := 0) (z := 0) (by decide +kernel) (by decide) fun v_1429 f_1430 => ?_
      obtain ⟨x_1434, e_1435, h⟩ := lx_s h
      refine go_lald (kd := 101) (by decide +kernel) rfl R_1412 f3 f_1430 (fx_k (c := 101) R_1412 (by decide +kernel)) (fx_x (a := 162) (ln := 1) R_1412 (by decide +kernel) (by decide)) fun v_1431 f_1432 => ?_
      have f_1433 := q_is_eq f_1432 e_1435
      refine go_iload (n := 6) (by decide +kernel) l_1398 f_1391 ?_
      refine go_i2l (by decide +kernel) f_1391 fun v_1436 f_1437 => ?_
      refine go_lcmp (by decide +kernel) f_1433 f_1437 fun v_1438 f_1439 => ?_
      refine go_if (c := .eq) (o := 5) (t := 1085) (P := x_1434 = x_1388) (by decide +kernel) (by decide +kernel) f_1439 (lc_eq) (fun hp_1440 => ?_) (fun hp_1440 => ?_)
      · have h := it_t hp_1440 h
        refine go_goto (o := 1512) (t := 2597) (by decide +kernel) (by decide +kernel) ?_
        refine go_iinc (n := 4) (c := 7) (c' := 7) (by decide +kernel) (by decide +kernel) l_1404 f4 (by decide) fun L_1441 v_1442 f_1443 l_1444 kp_1445 => ?_
        obtain ⟨x_1446, e_1447, h⟩ := lx_s h
        have f_1448 := q_is_eq f_1443 e_1447
        have l_1449 := kp_1445 0 _ l_1400 (by decide) (Or.inl (by decide))
        have l_1450 := kp_1445 1 _ l_1401 (by decide) (Or.inl (by decide))
        have l_1451 := kp_1445 2 _ l_1402 (by decide) (Or.inl (by decide))
        have l_1452 := kp_1445 3 _ l_1403 (by decide) (Or.inr (q_is_cat f3 (Or.inr rfl)))
        refine go_goto (o := (-2577)) (t := 23) (by decide +kernel) (by decide +kernel) ?_
        exact hc m_1389 E_1396 h R_1412 l_1449 f0 l_1450 f1 l_1451 f2 l_1452 f3 l_1444 f_1448
      · have h := it_f hp_1440 h
        refine go_iconst (n := 0) (z := 0) (by decide +kernel) (by decide) fun v_1453 f_1454 => ?_
        cases h
        exact go_iret (by decide +kernel) rfl (Or.inr ⟨rfl, by decide⟩) f_1454 (hQ E_1396 _ _ R_1412 (q_out_v (by decide) f_1454))
  · have h := it_f hp_1415 h
    refine go_iconst (n := 0) (z := 0) (by decide +kernel) (by decide) fun v_1455 f_1456 => ?_
    cases h
    exact go_iret (by decide +kernel) rfl (Or.inr ⟨rfl, by decide⟩) f_1456 (hQ E_1396 _ _ R_1412 (q_out_v (by decide) f_1456))
noncomputable def fj_L_law_1088 (xs : List Int32) (c : Int → MM → Option (Int × MM)) (y4 : Int) (m : MM) : Option (Int × MM) := gd (0 ≤ w32 (y4 + 1) ∧ w32 (y4 + 1) < (xs.length : Int)) <| bd (fm_L_difference (scr xs (w32 (y4 + 1))) m) fun x_1467 m_1468 =>
bd (fm_X12_difference (scr xs (w32 (y4 + 1))) m_1468) fun x_1491 m_1492 =>
bp (fm_X12_thrown m_1492) fun x_1510 =>
if x_1510 = x_1467 then
if x_1467 = 0 then
lx (m_1492 162 0) fun x_1537 =>
if x_1537 = x_1491 then
lx (w32 (y4 + 7)) fun x_1549 =>
c x_1549 m_1492
else
some (0, m_1492)
else
lx (w32 (y4 + 7)) fun x_1525 =>
c x_1525 m_1492
else
some (0, m_1492)
set_option maxHeartbeats 4000000 in
theorem oj_L_law_1088 {xs : List Int32} {d : Nat} {S : QS} {L : QL} {Q : QO → QS → Prop} {m : MM} {y4 : Int} {v0 : Value} {v1 : Value} {v2 : Value} {v3 : Value} {v4 : Value}  {rz : Int} {rm : MM} {c : Int → MM → Option (Int × MM)} 
  (hd : 174 ≤ d) (R : Rp S m) (l0 : q_lo L 0 = some v0) (f0 : q_is 7 v0 0) (l1 : q_lo L 1 = some v1) (f1 : q_is 2 v1 4) (l2 : q_lo L 2 = some v2) (f2 : q_is 2 v2 68) (l3 : q_lo L 3 = some v3) (f3 : q_is 2 v3 162) (l4 : q_lo L 4 = some v4) (f4 : q_is 0 v4 y4)
  (hc : ∀ mq : MM, Ext m mq → ∀ {z4 : Int} {Sq : QS} {Lq : QL} {u0 : Value} {u1 : Value} {u2 : Value} {u3 : Value} {u4 : Value}, c z4 mq = some (rz, rm) → Rp Sq mq → q_lo Lq 0 = some u0 → q_is 7 u0 0 → q_lo Lq 1 = some u1 → q_is 2 u1 4 → q_lo Lq 2 = some u2 → q_is 2 u2 68 → q_lo Lq 3 = some u3 → q_is 2 u3 162 → q_lo Lq 4 = some u4 → q_is 0 u4 z4 → Go xs d qM_L_law 23 Lq [] Sq Q)
  (hQ : Ext m rm → ∀ o S1, Rp S1 rm → q_out 0 o rz → Q o S1)
  (h : fj_L_law_1088 xs c y4 m = some (rz, rm)) : Go xs d qM_L_law 1088 L [] S Q := by
  unfold fj_L_law_1088 at h
  refine go_aload_n (n := 1) (by decide +kernel) l1 f1 ?_
  refine go_aloadS (n := 0) (by decide +kernel) l0 f0 ?_
  refine go_iload (n := 4) (by decide +kernel) l4 f4 ?_
  refine go_iconst (n := 1) (z := 1) (by decide +kernel) (by decide) fun v_1459 f_1460 => ?_
  refine go_iadd (by decide +kernel) f4 f_1460 fun v_1461 f_1462 => ?_
  obtain ⟨g_1465, h⟩ := gd_s h
  refine go_sld (by decide +kernel) f0 f_1462 g_1465 fun v_1463 f_1464 => ?_
  refine go_aload_n (n := 3) (by decide +kernel) l3 f3 ?_
  obtain ⟨x_1467, m_1468, hc_1466, h⟩ := bd_s h
  refine go_callS (x := 183) (mi := 352) (n := 3) (b := 0) (as := [v1, v_1463, v3]) (rest := []) (by decide +kernel) (by decide +kernel) rfl rfl (q_sum8 _ (Nat.le_of_ble_eq_true rfl)) (om_L_difference (Nat.le_trans (by decide) hd) R f1 f_1464 f3 hc_1466) (fun _ S_1471 q_1474 => ?_) (fun _ _ qq => kr_x qq)
  refine kr_z (by decide) q_1474 fun v_1469 f_1470 R_1472 E_1473 => ?_
  have E_1475 := E_1473
  refine go_istore (n := 5) (by decide +kernel) (by decide +kernel) f_1470 fun L_1476 l_1477 kp_1478 => ?_
  have l_1479 := kp_1478 0 _ l0 (by decide) (Or.inl (by decide))
  have l_1480 := kp_1478 1 _ l1 (by decide) (Or.inl (by decide))
  have l_1481 := kp_1478 2 _ l2 (by decide) (Or.inl (by decide))
  have l_1482 := kp_1478 3 _ l3 (by decide) (Or.inl (by decide))
  have l_1483 := kp_1478 4 _ l4 (by decide) (Or.inr (q_is_cat f4 (Or.inl rfl)))
  refine go_aload_n (n := 2) (by decide +kernel) l_1481 f2 ?_
  refine go_aloadS (n := 0) (by decide +kernel) l_1479 f0 ?_
  refine go_iload (n := 4) (by decide +kernel) l_1483 f4 ?_
  refine go_iconst (n := 1) (z := 1) (by decide +kernel) (by decide) fun v_1484 f_1485 => ?_
  refine go_iadd (by decide +kernel) f4 f_1485 fun v_1486 f_1487 => ?_
  refine go_sld (by decide +kernel) f0 f_1487 g_1465 fun v_1488 f_1489 => ?_
  obtain ⟨x_1491, m_1492, hc_1490, h⟩ := bd_s h
  refine go_callV (x := 185) (mi := 269) (n := 1) (ci := 13) (as := [v_1488]) (rest := []) (by decide +kernel) (by decide +kernel) rfl rfl (q_sum8 _ (Nat.le_of_ble_eq_true rfl)) R_1472 f2 (fx_k (c := 13) R_1472 (by decide +kernel)) (om_X12_difference (Nat.le_trans (by decide) hd) R_1472 f2 f_1489 hc_1490) (fun _ S_1495 q_1498 => ?_) (fun _ _ qq => kr_x qq)
  refine kr_z (by decide) q_1498 fun v_1493 f_1494 R_1496 E_1497 => ?_
  have E_1499 := Ext.tr E_1475 E_1497
  refine go_istore (n := 6) (by decide +kernel) (by decide +kernel) f_1494 fun L_1500 l_1501 kp_1502 => ?_
  have l_1503 := kp_1502 0 _ l_1479 (by decide) (Or.inl (by decide))
  have l_1504 := kp_1502 1 _ l_1480 (by decide) (Or.inl (by decide))
  have l_1505 := kp_1502 2 _ l_1481 (by decide) (Or.inl (by decide))
  have l_1506 := kp_1502 3 _ l_1482 (by decide) (Or.inl (by decide))
  have l_1507 := kp_1502 4 _ l_1483 (by decide) (Or.inl (by decide))
  have l_1508 := kp_1502 5 _ l_1477 (by decide) (Or.inr (q_is_cat f_1470 (Or.inl rfl)))
  refine go_aload_n (n := 2) (by decide +kernel) l_1505 f2 ?_
  obtain ⟨x_1510, hc_1509, h⟩ := bp_s h
  refine go_callV (x := 143) (mi := 185) (n := 0) (ci := 13) (as := []) (rest := []) (by decide +kernel) (by decide +kernel) rfl rfl (q_sum8 _ (Nat.le_of_ble_eq_true rfl)) R_1496 f2 (fx_k (c := 13) R_1496 (by decide +kernel)) (om_X12_thrown (Nat.le_trans (by decide) hd) R_1496 f2 hc_1509) (fun _ S_1514 q_1517 => ?_) (fun _ _ qq => kr_x qq)
  refine kr_z (by decide) q_1517 fun v_1512 f_1513 R_1515 E_1516 => ?_
  refine go_iload (n := 5) (by decide +kernel) l_1508 f_1470 ?_
  refine go_icmp (c := .eq) (o := 5) (t := 1124) (P := x_1510 = x_1467) (by decide +kernel) (by decide +kernel) f_1513 f_1470 (Iff.rfl) (fun hp_1518 => ?_) (fun hp_1518 => ?_)
  · have h := it_t hp_1518 h
    refine go_iload (n := 5) (by decide +kernel) l_1508 f_1470 ?_
    refine go_if (c := .ne) (o := 15) (t := 1141) (P := ¬ (x_1467 = 0)) (by decide +kernel) (by decide +kernel) f_1470 (Iff.rfl) (fun hp_1519 => ?_) (fun hp_1519 => ?_)
    · have h := it_f hp_1519 h
      refine go_goto (o := 1456) (t := 2597) (by decide +kernel) (by decide +kernel) ?_
      refine go_iinc (n := 4) (c := 7) (c' := 7) (by decide +kernel) (by decide +kernel) l_1507 f4 (by decide) fun L_1520 v_1521 f_1522 l_1523 kp_1524 => ?_
      obtain ⟨x_1525, e_1526, h⟩ := lx_s h
      have f_1527 := q_is_eq f_1522 e_1526
      have l_1528 := kp_1524 0 _ l_1503 (by decide) (Or.inl (by decide))
      have l_1529 := kp_1524 1 _ l_1504 (by decide) (Or.inl (by decide))
      have l_1530 := kp_1524 2 _ l_1505 (by decide) (Or.inl (by decide))
      have l_1531 := kp_1524 3 _ l_1506 (by decide) (Or.inr (q_is_cat f3 (Or.inr rfl)))
      refine go_goto (o := (-2577)) (t := 23) (by decide +kernel) (by decide +kernel) ?_
      exact hc m_1492 E_1499 h R_1515 l_1528 f0 l_1529 f1 l_1530 f2 l_1531 f3 l_1523 f_1527
    · have h := it_n hp_1519 h
      refine go_aload_n (n := 3) (by decide +kernel) l_1506 f3 ?_
      refine go_iconst (n := 0) (z := 0) (by decide +kernel) (by decide) fun v_1532 f_1533 => ?_
      obtain ⟨x_1537, e_1538, h⟩ := lx_s h
      refine go_lald (kd := 101) (by decide +kernel) rfl R_1515 f3 f_1533 (fx_k (c := 101) R_1515 (by decide +kernel)) (fx_x (a := 162) (ln := 1) R_1515 (by decide +kernel) (by decide)) fun v_1534 f_1535 => ?_
      have f_1536 := q_is_eq f_1535 e_1538
      refine go_iload (n := 6) (by decide +kernel) l_1501 f_1494 ?_
      refine go_i2l (by decide +kernel) f_1494 fun v_1539 f_1540 => ?_
      refine go_lcmp (by decide +kernel) f_1536 f_1540 fun v_1541 f_1542 => ?_
      refine go_if (c := .eq) (o := 5) (t := 1141) (P := x_1537 = x_1491) (by decide +kernel) (by decide +kernel) f_1542 (lc_eq) (fun hp_1543 => ?_) (fun hp_1543 => ?_)
      · have h := it_t hp_1543 h
        refine go_goto (o := 1456) (t := 2597) (by decide +kernel) (by decide +kernel) ?_
        refine go_iinc (n := 4) (c := 7) (c' := 7) (by decide +kernel) (by decide +kernel) l_1507 f4 (by decide) fun L_1544 v_1545 f_1546 l_1547 kp_1548 => ?_
        obtain ⟨x_1549, e_1550, h⟩ := lx_s h
        have f_1551 := q_is_eq f_1546 e_1550
        have l_1552 := kp_1548 0 _ l_1503 (by decide) (Or.inl (by decide))
        have l_1553 := kp_1548 1 _ l_1504 (by decide) (Or.inl (by decide))
        have l_1554 := kp_1548 2 _ l_1505 (by decide) (Or.inl (by decide))
        have l_1555 := kp_1548 3 _ l_1506 (by decide) (Or.inr (q_is_cat f3 (Or.inr rfl)))
        refine go_goto (o := (-2577)) (t := 23) (by decide +kernel) (by decide +kernel) ?_
        exact hc m_1492 E_1499 h R_1515 l_1552 f0 l_1553 f1 l_1554 f2 l_1555 f3 l_1547 f_1551
      · have h := it_f hp_1543 h
        refine go_iconst (n := 0) (z := 0) (by decide +kernel) (by decide) fun v_1556 f_1557 => ?_
        cases h
        exact go_iret (by decide +kernel) rfl (Or.inr ⟨rfl, by decide⟩) f_1557 (hQ E_1499 _ _ R_1515 (q_out_v (by decide) f_1557))
  · have h := it_f hp_1518 h
    refine go_iconst (n := 0) (z := 0) (by decide +kernel) (by decide) fun v_1558 f_1559 => ?_
    cases h
    exact go_iret (by decide +kernel) rfl (Or.inr ⟨rfl, by decide⟩) f_1559 (hQ E_1499 _ _ R_1515 (q_out_v (by decide) f_1559))
noncomputable def fj_L_law_1144 (xs : List Int32) (c : Int → MM → Option (Int × MM)) (y4 : Int) (m : MM) : Option (Int × MM) := bp (fm_X11_runs m) fun x_1563 =>
bd (fm_X12_runs m) fun x_1572 m_1573 =>
if x_1563 = x_1572 then
lx (w32 (y4 + 7)) fun x_1587 =>
c x_1587 m_1573
else
some (0, m_1573)
set_option maxHeartbeats 4000000 in
theorem oj_L_law_1144 {xs : List Int32} {d : Nat} {S : QS} {L : QL} {Q : QO → QS → Prop} {m : MM} {y4 : Int} {v0 : Value} {v1 : Value} {v2 : Value} {v3 : Value} {v4 : Value}  {rz : Int} {rm : MM} {c : Int → MM → Option (Int × MM)} 
  (hd : 174 ≤ d) (R : Rp S m) (l0 : q_lo L 0 = some v0) (f0 : q_is 7 v0 0) (l1 : q_lo L 1 = some v1) (f1 : q_is 2 v1 4) (l2 : q_lo L 2 = some v2) (f2 : q_is 2 v2 68) (l3 : q_lo L 3 = some v3) (f3 : q_is 2 v3 162) (l4 : q_lo L 4 = some v4) (f4 : q_is 0 v4 y4)
  (hc : ∀ mq : MM, Ext m mq → ∀ {z4 : Int} {Sq : QS} {Lq : QL} {u0 : Value} {u1 : Value} {u2 : Value} {u3 : Value} {u4 : Value}, c z4 mq = some (rz, rm) → Rp Sq mq → q_lo Lq 0 = some u0 → q_is 7 u0 0 → q_lo Lq 1 = some u1 → q_is 2 u1 4 → q_lo Lq 2 = some u2 → q_is 2 u2 68 → q_lo Lq 3 = some u3 → q_is 2 u3 162 → q_lo Lq 4 = some u4 → q_is 0 u4 z4 → Go xs d qM_L_law 23 Lq [] Sq Q)
  (hQ : Ext m rm → ∀ o S1, Rp S1 rm → q_out 0 o rz → Q o S1)
  (h : fj_L_law_1144 xs c y4 m = some (rz, rm)) : Go xs d qM_L_law 1144 L [] S Q := by
  unfold fj_L_law_1144 at h
  refine go_aload_n (n := 1) (by decide +kernel) l1 f1 ?_
  obtain ⟨x_1563, hc_1562, h⟩ := bp_s h
  refine go_callV (x := 186) (mi := 113) (n := 0) (ci := 12) (as := []) (rest := []) (by decide +kernel) (by decide +kernel) rfl rfl (q_sum8 _ (Nat.le_of_ble_eq_true rfl)) R f1 (fx_k (c := 12) R (by decide +kernel)) (om_X11_runs (Nat.le_trans (by decide) hd) R f1 hc_1562) (fun _ S_1567 q_1570 => ?_) (fun _ _ qq => kr_x qq)
  refine kr_z (by decide) q_1570 fun v_1565 f_1566 R_1568 E_1569 => ?_
  refine go_aload_n (n := 2) (by decide +kernel) l2 f2 ?_
  obtain ⟨x_1572, m_1573, hc_1571, h⟩ := bd_s h
  refine go_callV (x := 189) (mi := 270) (n := 0) (ci := 13) (as := []) (rest := [v_1565]) (by decide +kernel) (by decide +kernel) rfl rfl (q_sum8 _ (Nat.le_of_ble_eq_true rfl)) R_1568 f2 (fx_k (c := 13) R_1568 (by decide +kernel)) (om_X12_runs (Nat.le_trans (by decide) hd) R_1568 f2 hc_1571) (fun _ S_1576 q_1579 => ?_) (fun _ _ qq => kr_x qq)
  refine kr_z (by decide) q_1579 fun v_1574 f_1575 R_1577 E_1578 => ?_
  have E_1580 := E_1578
  refine go_icmp (c := .eq) (o := 1445) (t := 2597) (P := x_1563 = x_1572) (by decide +kernel) (by decide +kernel) f_1566 f_1575 (Iff.rfl) (fun hp_1581 => ?_) (fun hp_1581 => ?_)
  · have h := it_t hp_1581 h
    refine go_iinc (n := 4) (c := 7) (c' := 7) (by decide +kernel) (by decide +kernel) l4 f4 (by decide) fun L_1582 v_1583 f_1584 l_1585 kp_1586 => ?_
    obtain ⟨x_1587, e_1588, h⟩ := lx_s h
    have f_1589 := q_is_eq f_1584 e_1588
    have l_1590 := kp_1586 0 _ l0 (by decide) (Or.inl (by decide))
    have l_1591 := kp_1586 1 _ l1 (by decide) (Or.inl (by decide))
    have l_1592 := kp_1586 2 _ l2 (by decide) (Or.inl (by decide))
    have l_1593 := kp_1586 3 _ l3 (by decide) (Or.inr (q_is_cat f3 (Or.inr rfl)))
    refine go_goto (o := (-2577)) (t := 23) (by decide +kernel) (by decide +kernel) ?_
    exact hc m_1573 E_1580 h R_1577 l_1590 f0 l_1591 f1 l_1592 f2 l_1593 f3 l_1585 f_1589
  · have h := it_f hp_1581 h
    refine go_iconst (n := 0) (z := 0) (by decide +kernel) (by decide) fun v_1594 f_1595 => ?_
    cases h
    exact go_iret (by decide +kernel) rfl (Or.inr ⟨rfl, by decide⟩) f_1595 (hQ E_1580 _ _ R_1577 (q_out_v (by decide) f_1595))
noncomputable def fj_L_law_1157 (xs : List Int32) (c : Int → MM → Option (Int × MM)) (y4 : Int) (m : MM) : Option (Int × MM) := gd (0 ≤ w32 (y4 + 1) ∧ w32 (y4 + 1) < (xs.length : Int)) <| bd (fm_L_setRate (scr xs (w32 (y4 + 1))) m) fun x_1606 m_1607 =>
bd (fm_X12_setRate (scr xs (w32 (y4 + 1))) m_1607) fun x_1630 m_1631 =>
bp (fm_X12_thrown m_1631) fun x_1649 =>
if x_1649 = x_1606 then
if x_1606 = 0 then
lx (m_1631 162 0) fun x_1676 =>
if x_1676 = x_1630 then
lx (w32 (y4 + 7)) fun x_1688 =>
c x_1688 m_1631
else
some (0, m_1631)
else
lx (w32 (y4 + 7)) fun x_1664 =>
c x_1664 m_1631
else
some (0, m_1631)
set_option maxHeartbeats 4000000 in
theorem oj_L_law_1157 {xs : List Int32} {d : Nat} {S : QS} {L : QL} {Q : QO → QS → Prop} {m : MM} {y4 : Int} {v0 : Value} {v1 : Value} {v2 : Value} {v3 : Value} {v4 : Value}  {rz : Int} {rm : MM} {c : Int → MM → Option (Int × MM)} 
  (hd : 174 ≤ d) (R : Rp S m) (l0 : q_lo L 0 = some v0) (f0 : q_is 7 v0 0) (l1 : q_lo L 1 = some v1) (f1 : q_is 2 v1 4) (l2 : q_lo L 2 = some v2) (f2 : q_is 2 v2 68) (l3 : q_lo L 3 = some v3) (f3 : q_is 2 v3 162) (l4 : q_lo L 4 = some v4) (f4 : q_is 0 v4 y4)
  (hc : ∀ mq : MM, Ext m mq → ∀ {z4 : Int} {Sq : QS} {Lq : QL} {u0 : Value} {u1 : Value} {u2 : Value} {u3 : Value} {u4 : Value}, c z4 mq = some (rz, rm) → Rp Sq mq → q_lo Lq 0 = some u0 → q_is 7 u0 0 → q_lo Lq 1 = some u1 → q_is 2 u1 4 → q_lo Lq 2 = some u2 → q_is 2 u2 68 → q_lo Lq 3 = some u3 → q_is 2 u3 162 → q_lo Lq 4 = some u4 → q_is 0 u4 z4 → Go xs d qM_L_law 23 Lq [] Sq Q)
  (hQ : Ext m rm → ∀ o S1, Rp S1 rm → q_out 0 o rz → Q o S1)
  (h : fj_L_law_1157 xs c y4 m = some (rz, rm)) : Go xs d qM_L_law 1157 L [] S Q := by
  unfold fj_L_law_1157 at h
  refine go_aload_n (n := 1) (by decide +kernel) l1 f1 ?_
  refine go_aloadS (n := 0) (by decide +kernel) l0 f0 ?_
  refine go_iload (n := 4) (by decide +kernel) l4 f4 ?_
  refine go_iconst (n := 1) (z := 1) (by decide +kernel) (by decide) fun v_1598 f_1599 => ?_
  refine go_iadd (by decide +kernel) f4 f_1599 fun v_1600 f_1601 => ?_
  obtain ⟨g_1604, h⟩ := gd_s h
  refine go_sld (by decide +kernel) f0 f_1601 g_1604 fun v_1602 f_1603 => ?_
  refine go_aload_n (n := 3) (by decide +kernel) l3 f3 ?_
  obtain ⟨x_1606, m_1607, hc_1605, h⟩ := bd_s h
  refine go_callS (x := 190) (mi := 353) (n := 3) (b := 0) (as := [v1, v_1602, v3]) (rest := []) (by decide +kernel) (by decide +kernel) rfl rfl (q_sum8 _ (Nat.le_of_ble_eq_true rfl)) (om_L_setRate (Nat.le_trans (by decide) hd) R f1 f_1603 f3 hc_1605) (fun _ S_1610 q_1613 => ?_) (fun _ _ qq => kr_x qq)
  refine kr_z (by decide) q_1613 fun v_1608 f_1609 R_1611 E_1612 => ?_
  have E_1614 := E_1612
  refine go_istore (n := 5) (by decide +kernel) (by decide +kernel) f_1609 fun L_1615 l_1616 kp_1617 => ?_
  have l_1618 := kp_1617 0 _ l0 (by decide) (Or.inl (by decide))
  have l_1619 := kp_1617 1 _ l1 (by decide) (Or.inl (by decide))
  have l_1620 := kp_1617 2 _ l2 (by decide) (Or.inl (by decide))
  have l_1621 := kp_1617 3 _ l3 (by decide) (Or.inl (by decide))
  have l_1622 := kp_1617 4 _ l4 (by decide) (Or.inr (q_is_cat f4 (Or.inl rfl)))
  refine go_aload_n (n := 2) (by decide +kernel) l_1620 f2 ?_
  refine go_aloadS (n := 0) (by decide +kernel) l_1618 f0 ?_
  refine go_iload (n := 4) (by decide +kernel) l_1622 f4 ?_
  refine go_iconst (n := 1) (z := 1) (by decide +kernel) (by decide) fun v_1623 f_1624 => ?_
  refine go_iadd (by decide +kernel) f4 f_1624 fun v_1625 f_1626 => ?_
  refine go_sld (by decide +kernel) f0 f_1626 g_1604 fun v_1627 f_1628 => ?_
  obtain ⟨x_1630, m_1631, hc_1629, h⟩ := bd_s h
  refine go_callV (x := 192) (mi := 271) (n := 1) (ci := 13) (as := [v_1627]) (rest := []) (by decide +kernel) (by decide +kernel) rfl rfl (q_sum8 _ (Nat.le_of_ble_eq_true rfl)) R_1611 f2 (fx_k (c := 13) R_1611 (by decide +kernel)) (om_X12_setRate (Nat.le_trans (by decide) hd) R_1611 f2 f_1628 hc_1629) (fun _ S_1634 q_1637 => ?_) (fun _ _ qq => kr_x qq)
  refine kr_z (by decide) q_1637 fun v_1632 f_1633 R_1635 E_1636 => ?_
  have E_1638 := Ext.tr E_1614 E_1636
  refine go_istore (n := 6) (by decide +kernel) (by decide +kernel) f_1633 fun L_1639 l_1640 kp_1641 => ?_
  have l_1642 := kp_1641 0 _ l_1618 (by decide) (Or.inl (by decide))
  have l_1643 := kp_1641 1 _ l_1619 (by decide) (Or.inl (by decide))
  have l_1644 := kp_1641 2 _ l_1620 (by decide) (Or.inl (by decide))
  have l_1645 := kp_1641 3 _ l_1621 (by decide) (Or.inl (by decide))
  have l_1646 := kp_1641 4 _ l_1622 (by decide) (Or.inl (by decide))
  have l_1647 := kp_1641 5 _ l_1616 (by decide) (Or.inr (q_is_cat f_1609 (Or.inl rfl)))
  refine go_aload_n (n := 2) (by decide +kernel) l_1644 f2 ?_
  obtain ⟨x_1649, hc_1648, h⟩ := bp_s h
  refine go_callV (x := 143) (mi := 185) (n := 0) (ci := 13) (as := []) (rest := []) (by decide +kernel) (by decide +kernel) rfl rfl (q_sum8 _ (Nat.le_of_ble_eq_true rfl)) R_1635 f2 (fx_k (c := 13) R_1635 (by decide +kernel)) (om_X12_thrown (Nat.le_trans (by decide) hd) R_1635 f2 hc_1648) (fun _ S_1653 q_1656 => ?_) (fun _ _ qq => kr_x qq)
  refine kr_z (by decide) q_1656 fun v_1651 f_1652 R_1654 E_1655 => ?_
  refine go_iload (n := 5) (by decide +kernel) l_1647 f_1609 ?_
  refine go_icmp (c := .eq) (o := 5) (t := 1193) (P := x_1649 = x_1606) (by decide +kernel) (by decide +kernel) f_1652 f_1609 (Iff.rfl) (fun hp_1657 => ?_) (fun hp_1657 => ?_)
  · have h := it_t hp_1657 h
    refine go_iload (n := 5) (by decide +kernel) l_1647 f_1609 ?_
    refine go_if (c := .ne) (o := 15) (t := 1210) (P := ¬ (x_1606 = 0)) (by decide +kernel) (by decide +kernel) f_1609 (Iff.rfl) (fun hp_1658 => ?_) (fun hp_1658 => ?_)
    · have h := it_f hp_1658 h
      refine go_goto (o := 1387) (t := 2597) (by decide +kernel) (by decide +kernel) ?_
      refine go_iinc (n := 4) (c := 7) (c' := 7) (by decide +kernel) (by decide +kernel) l_1646 f4 (by decide) fun L_1659 v_1660 f_1661 l_1662 kp_1663 => ?_
      obtain ⟨x_1664, e_1665, h⟩ := lx_s h
      have f_1666 := q_is_eq f_1661 e_1665
      have l_1667 := kp_1663 0 _ l_1642 (by decide) (Or.inl (by decide))
      have l_1668 := kp_1663 1 _ l_1643 (by decide) (Or.inl (by decide))
      have l_1669 := kp_1663 2 _ l_1644 (by decide) (Or.inl (by decide))
      have l_1670 := kp_1663 3 _ l_1645 (by decide) (Or.inr (q_is_cat f3 (Or.inr rfl)))
      refine go_goto (o := (-2577)) (t := 23) (by decide +kernel) (by decide +kernel) ?_
      exact hc m_1631 E_1638 h R_1654 l_1667 f0 l_1668 f1 l_1669 f2 l_1670 f3 l_1662 f_1666
    · have h := it_n hp_1658 h
      refine go_aload_n (n := 3) (by decide +kernel) l_1645 f3 ?_
      refine go_iconst (n := 0) (z := 0) (by decide +kernel) (by decide) fun v_1671 f_1672 => ?_
      obtain ⟨x_1676, e_1677, h⟩ := lx_s h
      refine go_lald (kd := 101) (by decide +kernel) rfl R_1654 f3 f_1672 (fx_k (c := 101) R_1654 (by decide +kernel)) (fx_x (a := 162) (ln := 1) R_1654 (by decide +kernel) (by decide)) fun v_1673 f_1674 => ?_
      have f_1675 := q_is_eq f_1674 e_1677
      refine go_iload (n := 6) (by decide +kernel) l_1640 f_1633 ?_
      refine go_i2l (by decide +kernel) f_1633 fun v_1678 f_1679 => ?_
      refine go_lcmp (by decide +kernel) f_1675 f_1679 fun v_1680 f_1681 => ?_
      refine go_if (c := .eq) (o := 5) (t := 1210) (P := x_1676 = x_1630) (by decide +kernel) (by decide +kernel) f_1681 (lc_eq) (fun hp_1682 => ?_) (fun hp_1682 => ?_)
      · have h := it_t hp_1682 h
        refine go_goto (o := 1387) (t := 2597) (by decide +kernel) (by decide +kernel) ?_
        refine go_iinc (n := 4) (c := 7) (c' := 7) (by decide +kernel) (by decide +kernel) l_1646 f4 (by decide) fun L_1683 v_1684 f_1685 l_1686 kp_1687 => ?_
        obtain ⟨x_1688, e_1689, h⟩ := lx_s h
        have f_1690 := q_is_eq f_1685 e_1689
        have l_1691 := kp_1687 0 _ l_1642 (by decide) (Or.inl (by decide))
        have l_1692 := kp_1687 1 _ l_1643 (by decide) (Or.inl (by decide))
        have l_1693 := kp_1687 2 _ l_1644 (by decide) (Or.inl (by decide))
        have l_1694 := kp_1687 3 _ l_1645 (by decide) (Or.inr (q_is_cat f3 (Or.inr rfl)))
        refine go_goto (o := (-2577)) (t := 23) (by decide +kernel) (by decide +kernel) ?_
        exact hc m_1631 E_1638 h R_1654 l_1691 f0 l_1692 f1 l_1693 f2 l_1694 f3 l_1686 f_1690
      · have h := it_f hp_1682 h
        refine go_iconst (n := 0) (z := 0) (by decide +kernel) (by decide) fun v_1695 f_1696 => ?_
        cases h
        exact go_iret (by decide +kernel) rfl (Or.inr ⟨rfl, by decide⟩) f_1696 (hQ E_1638 _ _ R_1654 (q_out_v (by decide) f_1696))
  · have h := it_f hp_1657 h
    refine go_iconst (n := 0) (z := 0) (by decide +kernel) (by decide) fun v_1697 f_1698 => ?_
    cases h
    exact go_iret (by decide +kernel) rfl (Or.inr ⟨rfl, by decide⟩) f_1698 (hQ E_1638 _ _ R_1654 (q_out_v (by decide) f_1698))
noncomputable def fj_L_law_1213 (xs : List Int32) (c : Int → MM → Option (Int × MM)) (y4 : Int) (m : MM) : Option (Int × MM) := gd (0 ≤ w32 (y4 + 1) ∧ w32 (y4 + 1) < (xs.length : Int)) <| bd (fm_L_poll (scr xs (w32 (y4 + 1))) m) fun x_1709 m_1710 =>
bd (fm_X12_poll (scr xs (w32 (y4 + 1))) m_1710) fun x_1733 m_1734 =>
bp (fm_X12_thrown m_1734) fun x_1752 =>
if x_1752 = x_1709 then
if x_1709 = 0 then
lx (m_1734 162 0) fun x_1779 =>
if x_1779 = x_1733 then
lx (w32 (y4 + 7)) fun x_1791 =>
c x_1791 m_1734
else
some (0, m_1734)
else
lx (w32 (y4 + 7)) fun x_1767 =>
c x_1767 m_1734
else
some (0, m_1734)
set_option maxHeartbeats 4000000 in
theorem oj_L_law_1213 {xs : List Int32} {d : Nat} {S : QS} {L : QL} {Q : QO → QS → Prop} {m : MM} {y4 : Int} {v0 : Value} {v1 : Value} {v2 : Value} {v3 : Value} {v4 : Value}  {rz : Int} {rm : MM} {c : Int → MM → Option (Int × MM)} 
  (hd : 174 ≤ d) (R : Rp S m) (l0 : q_lo L 0 = some v0) (f0 : q_is 7 v0 0) (l1 : q_lo L 1 = some v1) (f1 : q_is 2 v1 4) (l2 : q_lo L 2 = some v2) (f2 : q_is 2 v2 68) (l3 : q_lo L 3 = some v3) (f3 : q_is 2 v3 162) (l4 : q_lo L 4 = some v4) (f4 : q_is 0 v4 y4)
  (hc : ∀ mq : MM, Ext m mq → ∀ {z4 : Int} {Sq : QS} {Lq : QL} {u0 : Value} {u1 : Value} {u2 : Value} {u3 : Value} {u4 : Value}, c z4 mq = some (rz, rm) → Rp Sq mq → q_lo Lq 0 = some u0 → q_is 7 u0 0 → q_lo Lq 1 = some u1 → q_is 2 u1 4 → q_lo Lq 2 = some u2 → q_is 2 u2 68 → q_lo Lq 3 = some u3 → q_is 2 u3 162 → q_lo Lq 4 = some u4 → q_is 0 u4 z4 → Go xs d qM_L_law 23 Lq [] Sq Q)
  (hQ : Ext m rm → ∀ o S1, Rp S1 rm → q_out 0 o rz → Q o S1)
  (h : fj_L_law_1213 xs c y4 m = some (rz, rm)) : Go xs d qM_L_law 1213 L [] S Q := by
  unfold fj_L_law_1213 at h
  refine go_aload_n (n := 1) (by decide +kernel) l1 f1 ?_
  refine go_aloadS (n := 0) (by decide +kernel) l0 f0 ?_
  refine go_iload (n := 4) (by decide +kernel) l4 f4 ?_
  refine go_iconst (n := 1) (z := 1) (by decide +kernel) (by decide) fun v_1701 f_1702 => ?_
  refine go_iadd (by decide +kernel) f4 f_1702 fun v_1703 f_1704 => ?_
  obtain ⟨g_1707, h⟩ := gd_s h
  refine go_sld (by decide +kernel) f0 f_1704 g_1707 fun v_1705 f_1706 => ?_
  refine go_aload_n (n := 3) (by decide +kernel) l3 f3 ?_
  obtain ⟨x_1709, m_1710, hc_1708, h⟩ := bd_s h
  refine go_callS (x := 193) (mi := 354) (n := 3) (b := 0) (as := [v1, v_1705, v3]) (rest := []) (by decide +kernel) (by decide +kernel) rfl rfl (q_sum8 _ (Nat.le_of_ble_eq_true rfl)) (om_L_poll (Nat.le_trans (by decide) hd) R f1 f_1706 f3 hc_1708) (fun _ S_1713 q_1716 => ?_) (fun _ _ qq => kr_x qq)
  refine kr_z (by decide) q_1716 fun v_1711 f_1712 R_1714 E_1715 => ?_
  have E_1717 := E_1715
  refine go_istore (n := 5) (by decide +kernel) (by decide +kernel) f_1712 fun L_1718 l_1719 kp_1720 => ?_
  have l_1721 := kp_1720 0 _ l0 (by decide) (Or.inl (by decide))
  have l_1722 := kp_1720 1 _ l1 (by decide) (Or.inl (by decide))
  have l_1723 := kp_1720 2 _ l2 (by decide) (Or.inl (by decide))
  have l_1724 := kp_1720 3 _ l3 (by decide) (Or.inl (by decide))
  have l_1725 := kp_1720 4 _ l4 (by decide) (Or.inr (q_is_cat f4 (Or.inl rfl)))
  refine go_aload_n (n := 2) (by decide +kernel) l_1723 f2 ?_
  refine go_aloadS (n := 0) (by decide +kernel) l_1721 f0 ?_
  refine go_iload (n := 4) (by decide +kernel) l_1725 f4 ?_
  refine go_iconst (n := 1) (z := 1) (by decide +kernel) (by decide) fun v_1726 f_1727 => ?_
  refine go_iadd (by decide +kernel) f4 f_1727 fun v_1728 f_1729 => ?_
  refine go_sld (by decide +kernel) f0 f_1729 g_1707 fun v_1730 f_1731 => ?_
  obtain ⟨x_1733, m_1734, hc_1732, h⟩ := bd_s h
  refine go_callV (x := 195) (mi := 276) (n := 1) (ci := 13) (as := [v_1730]) (rest := []) (by decide +kernel) (by decide +kernel) rfl rfl (q_sum8 _ (Nat.le_of_ble_eq_true rfl)) R_1714 f2 (fx_k (c := 13) R_1714 (by decide +kernel)) (om_X12_poll (Nat.le_trans (by decide) hd) R_1714 f2 f_1731 hc_1732) (fun _ S_1737 q_1740 => ?_) (fun _ _ qq => kr_x qq)
  refine kr_z (by decide) q_1740 fun v_1735 f_1736 R_1738 E_1739 => ?_
  have E_1741 := Ext.tr E_1717 E_1739
  refine go_istore (n := 6) (by decide +kernel) (by decide +kernel) f_1736 fun L_1742 l_1743 kp_1744 => ?_
  have l_1745 := kp_1744 0 _ l_1721 (by decide) (Or.inl (by decide))
  have l_1746 := kp_1744 1 _ l_1722 (by decide) (Or.inl (by decide))
  have l_1747 := kp_1744 2 _ l_1723 (by decide) (Or.inl (by decide))
  have l_1748 := kp_1744 3 _ l_1724 (by decide) (Or.inl (by decide))
  have l_1749 := kp_1744 4 _ l_1725 (by decide) (Or.inl (by decide))
  have l_1750 := kp_1744 5 _ l_1719 (by decide) (Or.inr (q_is_cat f_1712 (Or.inl rfl)))
  refine go_aload_n (n := 2) (by decide +kernel) l_1747 f2 ?_
  obtain ⟨x_1752, hc_1751, h⟩ := bp_s h
  refine go_callV (x := 143) (mi := 185) (n := 0) (ci := 13) (as := []) (rest := []) (by decide +kernel) (by decide +kernel) rfl rfl (q_sum8 _ (Nat.le_of_ble_eq_true rfl)) R_1738 f2 (fx_k (c := 13) R_1738 (by decide +kernel)) (om_X12_thrown (Nat.le_trans (by decide) hd) R_1738 f2 hc_1751) (fun _ S_1756 q_1759 => ?_) (fun _ _ qq => kr_x qq)
  refine kr_z (by decide) q_1759 fun v_1754 f_1755 R_1757 E_1758 => ?_
  refine go_iload (n := 5) (by decide +kernel) l_1750 f_1712 ?_
  refine go_icmp (c := .eq) (o := 5) (t := 1249) (P := x_1752 = x_1709) (by decide +kernel) (by decide +kernel) f_1755 f_1712 (Iff.rfl) (fun hp_1760 => ?_) (fun hp_1760 => ?_)
  · have h := it_t hp_1760 h
    refine go_iload (n := 5) (by decide +kernel) l_1750 f_1712 ?_
    refine go_if (c := .ne) (o := 15) (t := 1266) (P := ¬ (x_1709 = 0)) (by decide +kernel) (by decide +kernel) f_1712 (Iff.rfl) (fun hp_1761 => ?_) (fun hp_1761 => ?_)
    · have h := it_f hp_1761 h
      refine go_goto (o := 1331) (t := 2597) (by decide +kernel) (by decide +kernel) ?_
      refine go_iinc (n := 4) (c := 7) (c' := 7) (by decide +kernel) (by decide +kernel) l_1749 f4 (by decide) fun L_1762 v_1763 f_1764 l_1765 kp_1766 => ?_
      obtain ⟨x_1767, e_1768, h⟩ := lx_s h
      have f_1769 := q_is_eq f_1764 e_1768
      have l_1770 := kp_1766 0 _ l_1745 (by decide) (Or.inl (by decide))
      have l_1771 := kp_1766 1 _ l_1746 (by decide) (Or.inl (by decide))
      have l_1772 := kp_1766 2 _ l_1747 (by decide) (Or.inl (by decide))
      have l_1773 := kp_1766 3 _ l_1748 (by decide) (Or.inr (q_is_cat f3 (Or.inr rfl)))
      refine go_goto (o := (-2577)) (t := 23) (by decide +kernel) (by decide +kernel) ?_
      exact hc m_1734 E_1741 h R_1757 l_1770 f0 l_1771 f1 l_1772 f2 l_1773 f3 l_1765 f_1769
    · have h := it_n hp_1761 h
      refine go_aload_n (n := 3) (by decide +kernel) l_1748 f3 ?_
      refine go_iconst (n := 0) (z := 0) (by decide +kernel) (by decide) fun v_1774 f_1775 => ?_
      obtain ⟨x_1779, e_1780, h⟩ := lx_s h
      refine go_lald (kd := 101) (by decide +kernel) rfl R_1757 f3 f_1775 (fx_k (c := 101) R_1757 (by decide +kernel)) (fx_x (a := 162) (ln := 1) R_1757 (by decide +kernel) (by decide)) fun v_1776 f_1777 => ?_
      have f_1778 := q_is_eq f_1777 e_1780
      refine go_iload (n := 6) (by decide +kernel) l_1743 f_1736 ?_
      refine go_i2l (by decide +kernel) f_1736 fun v_1781 f_1782 => ?_
      refine go_lcmp (by decide +kernel) f_1778 f_1782 fun v_1783 f_1784 => ?_
      refine go_if (c := .eq) (o := 5) (t := 1266) (P := x_1779 = x_1733) (by decide +kernel) (by decide +kernel) f_1784 (lc_eq) (fun hp_1785 => ?_) (fun hp_1785 => ?_)
      · have h := it_t hp_1785 h
        refine go_goto (o := 1331) (t := 2597) (by decide +kernel) (by decide +kernel) ?_
        refine go_iinc (n := 4) (c := 7) (c' := 7) (by decide +kernel) (by decide +kernel) l_1749 f4 (by decide) fun L_1786 v_1787 f_1788 l_1789 kp_1790 => ?_
        obtain ⟨x_1791, e_1792, h⟩ := lx_s h
        have f_1793 := q_is_eq f_1788 e_1792
        have l_1794 := kp_1790 0 _ l_1745 (by decide) (Or.inl (by decide))
        have l_1795 := kp_1790 1 _ l_1746 (by decide) (Or.inl (by decide))
        have l_1796 := kp_1790 2 _ l_1747 (by decide) (Or.inl (by decide))
        have l_1797 := kp_1790 3 _ l_1748 (by decide) (Or.inr (q_is_cat f3 (Or.inr rfl)))
        refine go_goto (o := (-2577)) (t := 23) (by decide +kernel) (by decide +kernel) ?_
        exact hc m_1734 E_1741 h R_1757 l_1794 f0 l_1795 f1 l_1796 f2 l_1797 f3 l_1789 f_1793
      · have h := it_f hp_1785 h
        refine go_iconst (n := 0) (z := 0) (by decide +kernel) (by decide) fun v_1798 f_1799 => ?_
        cases h
        exact go_iret (by decide +kernel) rfl (Or.inr ⟨rfl, by decide⟩) f_1799 (hQ E_1741 _ _ R_1757 (q_out_v (by decide) f_1799))
  · have h := it_f hp_1760 h
    refine go_iconst (n := 0) (z := 0) (by decide +kernel) (by decide) fun v_1800 f_1801 => ?_
    cases h
    exact go_iret (by decide +kernel) rfl (Or.inr ⟨rfl, by decide⟩) f_1801 (hQ E_1741 _ _ R_1757 (q_out_v (by decide) f_1801))
noncomputable def fj_L_law_1269 (xs : List Int32) (c : Int → MM → Option (Int × MM)) (y4 : Int) (m : MM) : Option (Int × MM) := gd (0 ≤ w32 (y4 + 1) ∧ w32 (y4 + 1) < (xs.length : Int)) <| bd (fm_L_complete (scr xs (w32 (y4 + 1))) m) fun x_1812 m_1813 =>
bd (fm_X12_complete (scr xs (w32 (y4 + 1))) m_1813) fun x_1836 m_1837 =>
bp (fm_X12_thrown m_1837) fun x_1855 =>
if x_1855 = x_1812 then
if x_1812 = 0 then
lx (m_1837 162 0) fun x_1882 =>
if x_1882 = x_1836 then
lx (w32 (y4 + 7)) fun x_1894 =>
c x_1894 m_1837
else
some (0, m_1837)
else
lx (w32 (y4 + 7)) fun x_1870 =>
c x_1870 m_1837
else
some (0, m_1837)
set_option maxHeartbeats 4000000 in
theorem oj_L_law_1269 {xs : List Int32} {d : Nat} {S : QS} {L : QL} {Q : QO → QS → Prop} {m : MM} {y4 : Int} {v0 : Value} {v1 : Value} {v2 : Value} {v3 : Value} {v4 : Value}  {rz : Int} {rm : MM} {c : Int → MM → Option (Int × MM)} 
  (hd : 174 ≤ d) (R : Rp S m) (l0 : q_lo L 0 = some v0) (f0 : q_is 7 v0 0) (l1 : q_lo L 1 = some v1) (f1 : q_is 2 v1 4) (l2 : q_lo L 2 = some v2) (f2 : q_is 2 v2 68) (l3 : q_lo L 3 = some v3) (f3 : q_is 2 v3 162) (l4 : q_lo L 4 = some v4) (f4 : q_is 0 v4 y4)
  (hc : ∀ mq : MM, Ext m mq → ∀ {z4 : Int} {Sq : QS} {Lq : QL} {u0 : Value} {u1 : Value} {u2 : Value} {u3 : Value} {u4 : Value}, c z4 mq = some (rz, rm) → Rp Sq mq → q_lo Lq 0 = some u0 → q_is 7 u0 0 → q_lo Lq 1 = some u1 → q_is 2 u1 4 → q_lo Lq 2 = some u2 → q_is 2 u2 68 → q_lo Lq 3 = some u3 → q_is 2 u3 162 → q_lo Lq 4 = some u4 → q_is 0 u4 z4 → Go xs d qM_L_law 23 Lq [] Sq Q)
  (hQ : Ext m rm → ∀ o S1, Rp S1 rm → q_out 0 o rz → Q o S1)
  (h : fj_L_law_1269 xs c y4 m = some (rz, rm)) : Go xs d qM_L_law 1269 L [] S Q := by
  unfold fj_L_law_1269 at h
  refine go_aload_n (n := 1) (by decide +kernel) l1 f1 ?_
  refine go_aloadS (n := 0) (by decide +kernel) l0 f0 ?_
  refine go_iload (n := 4) (by decide +kernel) l4 f4 ?_
  refine go_iconst (n := 1) (z := 1) (by decide +kernel) (by decide) fun v_1804 f_1805 => ?_
  refine go_iadd (by decide +kernel) f4 f_1805 fun v_1806 f_1807 => ?_
  obtain ⟨g_1810, h⟩ := gd_s h
  refine go_sld (by decide +kernel) f0 f_1807 g_1810 fun v_1808 f_1809 => ?_
  refine go_aload_n (n := 3) (by decide +kernel) l3 f3 ?_
  obtain ⟨x_1812, m_1813, hc_1811, h⟩ := bd_s h
  refine go_callS (x := 196) (mi := 355) (n := 3) (b := 0) (as := [v1, v_1808, v3]) (rest := []) (by decide +kernel) (by decide +kernel) rfl rfl (q_sum8 _ (Nat.le_of_ble_eq_true rfl)) (om_L_complete (Nat.le_trans (by decide) hd) R f1 f_1809 f3 hc_1811) (fun _ S_1816 q_1819 => ?_) (fun _ _ qq => kr_x qq)
  refine kr_z (by decide) q_1819 fun v_1814 f_1815 R_1817 E_1818 => ?_
  have E_1820 := E_1818
  refine go_istore (n := 5) (by decide +kernel) (by decide +kernel) f_1815 fun L_1821 l_1822 kp_1823 => ?_
  have l_1824 := kp_1823 0 _ l0 (by decide) (Or.inl (by decide))
  have l_1825 := kp_1823 1 _ l1 (by decide) (Or.inl (by decide))
  have l_1826 := kp_1823 2 _ l2 (by decide) (Or.inl (by decide))
  have l_1827 := kp_1823 3 _ l3 (by decide) (Or.inl (by decide))
  have l_1828 := kp_1823 4 _ l4 (by decide) (Or.inr (q_is_cat f4 (Or.inl rfl)))
  refine go_aload_n (n := 2) (by decide +kernel) l_1826 f2 ?_
  refine go_aloadS (n := 0) (by decide +kernel) l_1824 f0 ?_
  refine go_iload (n := 4) (by decide +kernel) l_1828 f4 ?_
  refine go_iconst (n := 1) (z := 1) (by decide +kernel) (by decide) fun v_1829 f_1830 => ?_
  refine go_iadd (by decide +kernel) f4 f_1830 fun v_1831 f_1832 => ?_
  refine go_sld (by decide +kernel) f0 f_1832 g_1810 fun v_1833 f_1834 => ?_
  obtain ⟨x_1836, m_1837, hc_1835, h⟩ := bd_s h
  refine go_callV (x := 198) (mi := 279) (n := 1) (ci := 13) (as := [v_1833]) (rest := []) (by decide +kernel) (by decide +kernel) rfl rfl (q_sum8 _ (Nat.le_of_ble_eq_true rfl)) R_1817 f2 (fx_k (c := 13) R_1817 (by decide +kernel)) (om_X12_complete (Nat.le_trans (by decide) hd) R_1817 f2 f_1834 hc_1835) (fun _ S_1840 q_1843 => ?_) (fun _ _ qq => kr_x qq)
  refine kr_z (by decide) q_1843 fun v_1838 f_1839 R_1841 E_1842 => ?_
  have E_1844 := Ext.tr E_1820 E_1842
  refine go_istore (n := 6) (by decide +kernel) (by decide +kernel) f_1839 fun L_1845 l_1846 kp_1847 => ?_
  have l_1848 := kp_1847 0 _ l_1824 (by decide) (Or.inl (by decide))
  have l_1849 := kp_1847 1 _ l_1825 (by decide) (Or.inl (by decide))
  have l_1850 := kp_1847 2 _ l_1826 (by decide) (Or.inl (by decide))
  have l_1851 := kp_1847 3 _ l_1827 (by decide) (Or.inl (by decide))
  have l_1852 := kp_1847 4 _ l_1828 (by decide) (Or.inl (by decide))
  have l_1853 := kp_1847 5 _ l_1822 (by decide) (Or.inr (q_is_cat f_1815 (Or.inl rfl)))
  refine go_aload_n (n := 2) (by decide +kernel) l_1850 f2 ?_
  obtain ⟨x_1855, hc_1854, h⟩ := bp_s h
  refine go_callV (x := 143) (mi := 185) (n := 0) (ci := 13) (as := []) (rest := []) (by decide +kernel) (by decide +kernel) rfl rfl (q_sum8 _ (Nat.le_of_ble_eq_true rfl)) R_1841 f2 (fx_k (c := 13) R_1841 (by decide +kernel)) (om_X12_thrown (Nat.le_trans (by decide) hd) R_1841 f2 hc_1854) (fun _ S_1859 q_1862 => ?_) (fun _ _ qq => kr_x qq)
  refine kr_z (by decide) q_1862 fun v_1857 f_1858 R_1860 E_1861 => ?_
  refine go_iload (n := 5) (by decide +kernel) l_1853 f_1815 ?_
  refine go_icmp (c := .eq) (o := 5) (t := 1305) (P := x_1855 = x_1812) (by decide +kernel) (by decide +kernel) f_1858 f_1815 (Iff.rfl) (fun hp_1863 => ?_) (fun hp_1863 => ?_)
  · have h := it_t hp_1863 h
    refine go_iload (n := 5) (by decide +kernel) l_1853 f_1815 ?_
    refine go_if (c := .ne) (o := 15) (t := 1322) (P := ¬ (x_1812 = 0)) (by decide +kernel) (by decide +kernel) f_1815 (Iff.rfl) (fun hp_1864 => ?_) (fun hp_1864 => ?_)
    · have h := it_f hp_1864 h
      refine go_goto (o := 1275) (t := 2597) (by decide +kernel) (by decide +kernel) ?_
      refine go_iinc (n := 4) (c := 7) (c' := 7) (by decide +kernel) (by decide +kernel) l_1852 f4 (by decide) fun L_1865 v_1866 f_1867 l_1868 kp_1869 => ?_
      obtain ⟨x_1870, e_1871, h⟩ := lx_s h
      have f_1872 := q_is_eq f_1867 e_1871
      have l_1873 := kp_1869 0 _ l_1848 (by decide) (Or.inl (by decide))
      have l_1874 := kp_1869 1 _ l_1849 (by decide) (Or.inl (by decide))
      have l_1875 := kp_1869 2 _ l_1850 (by decide) (Or.inl (by decide))
      have l_1876 := kp_1869 3 _ l_1851 (by decide) (Or.inr (q_is_cat f3 (Or.inr rfl)))
      refine go_goto (o := (-2577)) (t := 23) (by decide +kernel) (by decide +kernel) ?_
      exact hc m_1837 E_1844 h R_1860 l_1873 f0 l_1874 f1 l_1875 f2 l_1876 f3 l_1868 f_1872
    · have h := it_n hp_1864 h
      refine go_aload_n (n := 3) (by decide +kernel) l_1851 f3 ?_
      refine go_iconst (n := 0) (z := 0) (by decide +kernel) (by decide) fun v_1877 f_1878 => ?_
      obtain ⟨x_1882, e_1883, h⟩ := lx_s h
      refine go_lald (kd := 101) (by decide +kernel) rfl R_1860 f3 f_1878 (fx_k (c := 101) R_1860 (by decide +kernel)) (fx_x (a := 162) (ln := 1) R_1860 (by decide +kernel) (by decide)) fun v_1879 f_1880 => ?_
      have f_1881 := q_is_eq f_1880 e_1883
      refine go_iload (n := 6) (by decide +kernel) l_1846 f_1839 ?_
      refine go_i2l (by decide +kernel) f_1839 fun v_1884 f_1885 => ?_
      refine go_lcmp (by decide +kernel) f_1881 f_1885 fun v_1886 f_1887 => ?_
      refine go_if (c := .eq) (o := 5) (t := 1322) (P := x_1882 = x_1836) (by decide +kernel) (by decide +kernel) f_1887 (lc_eq) (fun hp_1888 => ?_) (fun hp_1888 => ?_)
      · have h := it_t hp_1888 h
        refine go_goto (o := 1275) (t := 2597) (by decide +kernel) (by decide +kernel) ?_
        refine go_iinc (n := 4) (c := 7) (c' := 7) (by decide +kernel) (by decide +kernel) l_1852 f4 (by decide) fun L_1889 v_1890 f_1891 l_1892 kp_1893 => ?_
        obtain ⟨x_1894, e_1895, h⟩ := lx_s h
        have f_1896 := q_is_eq f_1891 e_1895
        have l_1897 := kp_1893 0 _ l_1848 (by decide) (Or.inl (by decide))
        have l_1898 := kp_1893 1 _ l_1849 (by decide) (Or.inl (by decide))
        have l_1899 := kp_1893 2 _ l_1850 (by decide) (Or.inl (by decide))
        have l_1900 := kp_1893 3 _ l_1851 (by decide) (Or.inr (q_is_cat f3 (Or.inr rfl)))
        refine go_goto (o := (-2577)) (t := 23) (by decide +kernel) (by decide +kernel) ?_
        exact hc m_1837 E_1844 h R_1860 l_1897 f0 l_1898 f1 l_1899 f2 l_1900 f3 l_1892 f_1896
      · have h := it_f hp_1888 h
        refine go_iconst (n := 0) (z := 0) (by decide +kernel) (by decide) fun v_1901 f_1902 => ?_
        cases h
        exact go_iret (by decide +kernel) rfl (Or.inr ⟨rfl, by decide⟩) f_1902 (hQ E_1844 _ _ R_1860 (q_out_v (by decide) f_1902))
  · have h := it_f hp_1863 h
    refine go_iconst (n := 0) (z := 0) (by decide +kernel) (by decide) fun v_1903 f_1904 => ?_
    cases h
    exact go_iret (by decide +kernel) rfl (Or.inr ⟨rfl, by decide⟩) f_1904 (hQ E_1844 _ _ R_1860 (q_out_v (by decide) f_1904))
noncomputable def fj_L_law_1325 (xs : List Int32) (c : Int → MM → Option (Int × MM)) (y4 : Int) (m : MM) : Option (Int × MM) := gd (0 ≤ w32 (y4 + 1) ∧ w32 (y4 + 1) < (xs.length : Int)) <| bd (fm_L_die (scr xs (w32 (y4 + 1))) m) fun x_1915 m_1916 =>
bd (fm_X12_die (scr xs (w32 (y4 + 1))) m_1916) fun x_1939 m_1940 =>
bp (fm_X12_thrown m_1940) fun x_1958 =>
if x_1958 = x_1915 then
if x_1915 = 0 then
lx (m_1940 162 0) fun x_1985 =>
if x_1985 = x_1939 then
lx (w32 (y4 + 7)) fun x_1997 =>
c x_1997 m_1940
else
some (0, m_1940)
else
lx (w32 (y4 + 7)) fun x_1973 =>
c x_1973 m_1940
else
some (0, m_1940)
set_option maxHeartbeats 4000000 in
theorem oj_L_law_1325 {xs : List Int32} {d : Nat} {S : QS} {L : QL} {Q : QO → QS → Prop} {m : MM} {y4 : Int} {v0 : Value} {v1 : Value} {v2 : Value} {v3 : Value} {v4 : Value}  {rz : Int} {rm : MM} {c : Int → MM → Option (Int × MM)} 
  (hd : 174 ≤ d) (R : Rp S m) (l0 : q_lo L 0 = some v0) (f0 : q_is 7 v0 0) (l1 : q_lo L 1 = some v1) (f1 : q_is 2 v1 4) (l2 : q_lo L 2 = some v2) (f2 : q_is 2 v2 68) (l3 : q_lo L 3 = some v3) (f3 : q_is 2 v3 162) (l4 : q_lo L 4 = some v4) (f4 : q_is 0 v4 y4)
  (hc : ∀ mq : MM, Ext m mq → ∀ {z4 : Int} {Sq : QS} {Lq : QL} {u0 : Value} {u1 : Value} {u2 : Value} {u3 : Value} {u4 : Value}, c z4 mq = some (rz, rm) → Rp Sq mq → q_lo Lq 0 = some u0 → q_is 7 u0 0 → q_lo Lq 1 = some u1 → q_is 2 u1 4 → q_lo Lq 2 = some u2 → q_is 2 u2 68 → q_lo Lq 3 = some u3 → q_is 2 u3 162 → q_lo Lq 4 = some u4 → q_is 0 u4 z4 → Go xs d qM_L_law 23 Lq [] Sq Q)
  (hQ : Ext m rm → ∀ o S1, Rp S1 rm → q_out 0 o rz → Q o S1)
  (h : fj_L_law_1325 xs c y4 m = some (rz, rm)) : Go xs d qM_L_law 1325 L [] S Q := by
  unfold fj_L_law_1325 at h
  refine go_aload_n (n := 1) (by decide +kernel) l1 f1 ?_
  refine go_aloadS (n := 0) (by decide +kernel) l0 f0 ?_
  refine go_iload (n := 4) (by decide +kernel) l4 f4 ?_
  refine go_iconst (n := 1) (z := 1) (by decide +kernel) (by decide) fun v_1907 f_1908 => ?_
  refine go_iadd (by decide +kernel) f4 f_1908 fun v_1909 f_1910 => ?_
  obtain ⟨g_1913, h⟩ := gd_s h
  refine go_sld (by decide +kernel) f0 f_1910 g_1913 fun v_1911 f_1912 => ?_
  refine go_aload_n (n := 3) (by decide +kernel) l3 f3 ?_
  obtain ⟨x_1915, m_1916, hc_1914, h⟩ := bd_s h
  refine go_callS (x := 199) (mi := 356) (n := 3) (b := 0) (as := [v1, v_1911, v3]) (rest := []) (by decide +kernel) (by decide +kernel) rfl rfl (q_sum8 _ (Nat.le_of_ble_eq_true rfl)) (om_L_die (Nat.le_trans (by decide) hd) R f1 f_1912 f3 hc_1914) (fun _ S_1919 q_1922 => ?_) (fun _ _ qq => kr_x qq)
  refine kr_z (by decide) q_1922 fun v_1917 f_1918 R_1920 E_1921 => ?_
  have E_1923 := E_1921
  refine go_istore (n := 5) (by decide +kernel) (by decide +kernel) f_1918 fun L_1924 l_1925 kp_1926 => ?_
  have l_1927 := kp_1926 0 _ l0 (by decide) (Or.inl (by decide))
  have l_1928 := kp_1926 1 _ l1 (by decide) (Or.inl (by decide))
  have l_1929 := kp_1926 2 _ l2 (by decide) (Or.inl (by decide))
  have l_1930 := kp_1926 3 _ l3 (by decide) (Or.inl (by decide))
  have l_1931 := kp_1926 4 _ l4 (by decide) (Or.inr (q_is_cat f4 (Or.inl rfl)))
  refine go_aload_n (n := 2) (by decide +kernel) l_1929 f2 ?_
  refine go_aloadS (n := 0) (by decide +kernel) l_1927 f0 ?_
  refine go_iload (n := 4) (by decide +kernel) l_1931 f4 ?_
  refine go_iconst (n := 1) (z := 1) (by decide +kernel) (by decide) fun v_1932 f_1933 => ?_
  refine go_iadd (by decide +kernel) f4 f_1933 fun v_1934 f_1935 => ?_
  refine go_sld (by decide +kernel) f0 f_1935 g_1913 fun v_1936 f_1937 => ?_
  obtain ⟨x_1939, m_1940, hc_1938, h⟩ := bd_s h
  refine go_callV (x := 201) (mi := 282) (n := 1) (ci := 13) (as := [v_1936]) (rest := []) (by decide +kernel) (by decide +kernel) rfl rfl (q_sum8 _ (Nat.le_of_ble_eq_true rfl)) R_1920 f2 (fx_k (c := 13) R_1920 (by decide +kernel)) (om_X12_die (Nat.le_trans (by decide) hd) R_1920 f2 f_1937 hc_1938) (fun _ S_1943 q_1946 => ?_) (fun _ _ qq => kr_x qq)
  refine kr_z (by decide) q_1946 fun v_1941 f_1942 R_1944 E_1945 => ?_
  have E_1947 := Ext.tr E_1923 E_1945
  refine go_istore (n := 6) (by decide +kernel) (by decide +kernel) f_1942 fun L_1948 l_1949 kp_1950 => ?_
  have l_1951 := kp_1950 0 _ l_1927 (by decide) (Or.inl (by decide))
  have l_1952 := kp_1950 1 _ l_1928 (by decide) (Or.inl (by decide))
  have l_1953 := kp_1950 2 _ l_1929 (by decide) (Or.inl (by decide))
  have l_1954 := kp_1950 3 _ l_1930 (by decide) (Or.inl (by decide))
  have l_1955 := kp_1950 4 _ l_1931 (by decide) (Or.inl (by decide))
  have l_1956 := kp_1950 5 _ l_1925 (by decide) (Or.inr (q_is_cat f_1918 (Or.inl rfl)))
  refine go_aload_n (n := 2) (by decide +kernel) l_1953 f2 ?_
  obtain ⟨x_1958, hc_1957, h⟩ := bp_s h
  refine go_callV (x := 143) (mi := 185) (n := 0) (ci := 13) (as := []) (rest := []) (by decide +kernel) (by decide +kernel) rfl rfl (q_sum8 _ (Nat.le_of_ble_eq_true rfl)) R_1944 f2 (fx_k (c := 13) R_1944 (by decide +kernel)) (om_X12_thrown (Nat.le_trans (by decide) hd) R_1944 f2 hc_1957) (fun _ S_1962 q_1965 => ?_) (fun _ _ qq => kr_x qq)
  refine kr_z (by decide) q_1965 fun v_1960 f_1961 R_1963 E_1964 => ?_
  refine go_iload (n := 5) (by decide +kernel) l_1956 f_1918 ?_
  refine go_icmp (c := .eq) (o := 5) (t := 1361) (P := x_1958 = x_1915) (by decide +kernel) (by decide +kernel) f_1961 f_1918 (Iff.rfl) (fun hp_1966 => ?_) (fun hp_1966 => ?_)
  · have h := it_t hp_1966 h
    refine go_iload (n := 5) (by decide +kernel) l_1956 f_1918 ?_
    refine go_if (c := .ne) (o := 15) (t := 1378) (P := ¬ (x_1915 = 0)) (by decide +kernel) (by decide +kernel) f_1918 (Iff.rfl) (fun hp_1967 => ?_) (fun hp_1967 => ?_)
    · have h := it_f hp_1967 h
      refine go_goto (o := 1219) (t := 2597) (by decide +kernel) (by decide +kernel) ?_
      refine go_iinc (n := 4) (c := 7) (c' := 7) (by decide +kernel) (by decide +kernel) l_1955 f4 (by decide) fun L_1968 v_1969 f_1970 l_1971 kp_1972 => ?_
      obtain ⟨x_1973, e_1974, h⟩ := lx_s h
      have f_1975 := q_is_eq f_1970 e_1974
      have l_1976 := kp_1972 0 _ l_1951 (by decide) (Or.inl (by decide))
      have l_1977 := kp_1972 1 _ l_1952 (by decide) (Or.inl (by decide))
      have l_1978 := kp_1972 2 _ l_1953 (by decide) (Or.inl (by decide))
      have l_1979 := kp_1972 3 _ l_1954 (by decide) (Or.inr (q_is_cat f3 (Or.inr rfl)))
      refine go_goto (o := (-2577)) (t := 23) (by decide +kernel) (by decide +kernel) ?_
      exact hc m_1940 E_1947 h R_1963 l_1976 f0 l_1977 f1 l_1978 f2 l_1979 f3 l_1971 f_1975
    · have h := it_n hp_1967 h
      refine go_aload_n (n := 3) (by decide +kernel) l_1954 f3 ?_
      refine go_iconst (n := 0) (z := 0) (by decide +kernel) (by decide) fun v_1980 f_1981 => ?_
      obtain ⟨x_1985, e_1986, h⟩ := lx_s h
      refine go_lald (kd := 101) (by decide +kernel) rfl R_1963 f3 f_1981 (fx_k (c := 101) R_1963 (by decide +kernel)) (fx_x (a := 162) (ln := 1) R_1963 (by decide +kernel) (by decide)) fun v_1982 f_1983 => ?_
      have f_1984 := q_is_eq f_1983 e_1986
      refine go_iload (n := 6) (by decide +kernel) l_1949 f_1942 ?_
      refine go_i2l (by decide +kernel) f_1942 fun v_1987 f_1988 => ?_
      refine go_lcmp (by decide +kernel) f_1984 f_1988 fun v_1989 f_1990 => ?_
      refine go_if (c := .eq) (o := 5) (t := 1378) (P := x_1985 = x_1939) (by decide +kernel) (by decide +kernel) f_1990 (lc_eq) (fun hp_1991 => ?_) (fun hp_1991 => ?_)
      · have h := it_t hp_1991 h
        refine go_goto (o := 1219) (t := 2597) (by decide +kernel) (by decide +kernel) ?_
        refine go_iinc (n := 4) (c := 7) (c' := 7) (by decide +kernel) (by decide +kernel) l_1955 f4 (by decide) fun L_1992 v_1993 f_1994 l_1995 kp_1996 => ?_
        obtain ⟨x_1997, e_1998, h⟩ := lx_s h
        have f_1999 := q_is_eq f_1994 e_1998
        have l_2000 := kp_1996 0 _ l_1951 (by decide) (Or.inl (by decide))
        have l_2001 := kp_1996 1 _ l_1952 (by decide) (Or.inl (by decide))
        have l_2002 := kp_1996 2 _ l_1953 (by decide) (Or.inl (by decide))
        have l_2003 := kp_1996 3 _ l_1954 (by decide) (Or.inr (q_is_cat f3 (Or.inr rfl)))
        refine go_goto (o := (-2577)) (t := 23) (by decide +kernel) (by decide +kernel) ?_
        exact hc m_1940 E_1947 h R_1963 l_2000 f0 l_2001 f1 l_2002 f2 l_2003 f3 l_1995 f_1999
      · have h := it_f hp_1991 h
        refine go_iconst (n := 0) (z := 0) (by decide +kernel) (by decide) fun v_2004 f_2005 => ?_
        cases h
        exact go_iret (by decide +kernel) rfl (Or.inr ⟨rfl, by decide⟩) f_2005 (hQ E_1947 _ _ R_1963 (q_out_v (by decide) f_2005))
  · have h := it_f hp_1966 h
    refine go_iconst (n := 0) (z := 0) (by decide +kernel) (by decide) fun v_2006 f_2007 => ?_
    cases h
    exact go_iret (by decide +kernel) rfl (Or.inr ⟨rfl, by decide⟩) f_2007 (hQ E_1947 _ _ R_1963 (q_out_v (by decide) f_2007))
noncomputable def fj_L_law_1381 (xs : List Int32) (c : Int → MM → Option (Int × MM)) (y4 : Int) (m : MM) : Option (Int × MM) := gd (0 ≤ w32 (y4 + 1) ∧ w32 (y4 + 1) < (xs.length : Int)) <| bd (fm_L_replays (scr xs (w32 (y4 + 1))) m) fun x_2018 m_2019 =>
bd (fm_X12_replays (scr xs (w32 (y4 + 1))) m_2019) fun x_2042 m_2043 =>
bp (fm_X12_thrown m_2043) fun x_2061 =>
if x_2061 = x_2018 then
if x_2018 = 0 then
lx (m_2043 162 0) fun x_2088 =>
if x_2088 = x_2042 then
lx (w32 (y4 + 7)) fun x_2100 =>
c x_2100 m_2043
else
some (0, m_2043)
else
lx (w32 (y4 + 7)) fun x_2076 =>
c x_2076 m_2043
else
some (0, m_2043)
set_option maxHeartbeats 4000000 in
theorem oj_L_law_1381 {xs : List Int32} {d : Nat} {S : QS} {L : QL} {Q : QO → QS → Prop} {m : MM} {y4 : Int} {v0 : Value} {v1 : Value} {v2 : Value} {v3 : Value} {v4 : Value}  {rz : Int} {rm : MM} {c : Int → MM → Option (Int × MM)} 
  (hd : 174 ≤ d) (R : Rp S m) (l0 : q_lo L 0 = some v0) (f0 : q_is 7 v0 0) (l1 : q_lo L 1 = some v1) (f1 : q_is 2 v1 4) (l2 : q_lo L 2 = some v2) (f2 : q_is 2 v2 68) (l3 : q_lo L 3 = some v3) (f3 : q_is 2 v3 162) (l4 : q_lo L 4 = some v4) (f4 : q_is 0 v4 y4)
  (hc : ∀ mq : MM, Ext m mq → ∀ {z4 : Int} {Sq : QS} {Lq : QL} {u0 : Value} {u1 : Value} {u2 : Value} {u3 : Value} {u4 : Value}, c z4 mq = some (rz, rm) → Rp Sq mq → q_lo Lq 0 = some u0 → q_is 7 u0 0 → q_lo Lq 1 = some u1 → q_is 2 u1 4 → q_lo Lq 2 = some u2 → q_is 2 u2 68 → q_lo Lq 3 = some u3 → q_is 2 u3 162 → q_lo Lq 4 = some u4 → q_is 0 u4 z4 → Go xs d qM_L_law 23 Lq [] Sq Q)
  (hQ : Ext m rm → ∀ o S1, Rp S1 rm → q_out 0 o rz → Q o S1)
  (h : fj_L_law_1381 xs c y4 m = some (rz, rm)) : Go xs d qM_L_law 1381 L [] S Q := by
  unfold fj_L_law_1381 at h
  refine go_aload_n (n := 1) (by decide +kernel) l1 f1 ?_
  refine go_aloadS (n := 0) (by decide +kernel) l0 f0 ?_
  refine go_iload (n := 4) (by decide +kernel) l4 f4 ?_
  refine go_iconst (n := 1) (z := 1) (by decide +kernel) (by decide) fun v_2010 f_2011 => ?_
  refine go_iadd (by decide +kernel) f4 f_2011 fun v_2012 f_2013 => ?_
  obtain ⟨g_2016, h⟩ := gd_s h
  refine go_sld (by decide +kernel) f0 f_2013 g_2016 fun v_2014 f_2015 => ?_
  refine go_aload_n (n := 3) (by decide +kernel) l3 f3 ?_
  obtain ⟨x_2018, m_2019, hc_2017, h⟩ := bd_s h
  refine go_callS (x := 202) (mi := 357) (n := 3) (b := 0) (as := [v1, v_2014, v3]) (rest := []) (by decide +kernel) (by decide +kernel) rfl rfl (q_sum8 _ (Nat.le_of_ble_eq_true rfl)) (om_L_replays (Nat.le_trans (by decide) hd) R f1 f_2015 f3 hc_2017) (fun _ S_2022 q_2025 => ?_) (fun _ _ qq => kr_x qq)
  refine kr_z (by decide) q_2025 fun v_2020 f_2021 R_2023 E_2024 => ?_
  have E_2026 := E_2024
  refine go_istore (n := 5) (by decide +kernel) (by decide +kernel) f_2021 fun L_2027 l_2028 kp_2029 => ?_
  have l_2030 := kp_2029 0 _ l0 (by decide) (Or.inl (by decide))
  have l_2031 := kp_2029 1 _ l1 (by decide) (Or.inl (by decide))
  have l_2032 := kp_2029 2 _ l2 (by decide) (Or.inl (by decide))
  have l_2033 := kp_2029 3 _ l3 (by decide) (Or.inl (by decide))
  have l_2034 := kp_2029 4 _ l4 (by decide) (Or.inr (q_is_cat f4 (Or.inl rfl)))
  refine go_aload_n (n := 2) (by decide +kernel) l_2032 f2 ?_
  refine go_aloadS (n := 0) (by decide +kernel) l_2030 f0 ?_
  refine go_iload (n := 4) (by decide +kernel) l_2034 f4 ?_
  refine go_iconst (n := 1) (z := 1) (by decide +kernel) (by decide) fun v_2035 f_2036 => ?_
  refine go_iadd (by decide +kernel) f4 f_2036 fun v_2037 f_2038 => ?_
  refine go_sld (by decide +kernel) f0 f_2038 g_2016 fun v_2039 f_2040 => ?_
  obtain ⟨x_2042, m_2043, hc_2041, h⟩ := bd_s h
  refine go_callV (x := 204) (mi := 283) (n := 1) (ci := 13) (as := [v_2039]) (rest := []) (by decide +kernel) (by decide +kernel) rfl rfl (q_sum8 _ (Nat.le_of_ble_eq_true rfl)) R_2023 f2 (fx_k (c := 13) R_2023 (by decide +kernel)) (om_X12_replays (Nat.le_trans (by decide) hd) R_2023 f2 f_2040 hc_2041) (fun _ S_2046 q_2049 => ?_) (fun _ _ qq => kr_x qq)
  refine kr_z (by decide) q_2049 fun v_2044 f_2045 R_2047 E_2048 => ?_
  have E_2050 := Ext.tr E_2026 E_2048
  refine go_istore (n := 6) (by decide +kernel) (by decide +kernel) f_2045 fun L_2051 l_2052 kp_2053 => ?_
  have l_2054 := kp_2053 0 _ l_2030 (by decide) (Or.inl (by decide))
  have l_2055 := kp_2053 1 _ l_2031 (by decide) (Or.inl (by decide))
  have l_2056 := kp_2053 2 _ l_2032 (by decide) (Or.inl (by decide))
  have l_2057 := kp_2053 3 _ l_2033 (by decide) (Or.inl (by decide))
  have l_2058 := kp_2053 4 _ l_2034 (by decide) (Or.inl (by decide))
  have l_2059 := kp_2053 5 _ l_2028 (by decide) (Or.inr (q_is_cat f_2021 (Or.inl rfl)))
  refine go_aload_n (n := 2) (by decide +kernel) l_2056 f2 ?_
  obtain ⟨x_2061, hc_2060, h⟩ := bp_s h
  refine go_callV (x := 143) (mi := 185) (n := 0) (ci := 13) (as := []) (rest := []) (by decide +kernel) (by decide +kernel) rfl rfl (q_sum8 _ (Nat.le_of_ble_eq_true rfl)) R_2047 f2 (fx_k (c := 13) R_2047 (by decide +kernel)) (om_X12_thrown (Nat.le_trans (by decide) hd) R_2047 f2 hc_2060) (fun _ S_2065 q_2068 => ?_) (fun _ _ qq => kr_x qq)
  refine kr_z (by decide) q_2068 fun v_2063 f_2064 R_2066 E_2067 => ?_
  refine go_iload (n := 5) (by decide +kernel) l_2059 f_2021 ?_
  refine go_icmp (c := .eq) (o := 5) (t := 1417) (P := x_2061 = x_2018) (by decide +kernel) (by decide +kernel) f_2064 f_2021 (Iff.rfl) (fun hp_2069 => ?_) (fun hp_2069 => ?_)
  · have h := it_t hp_2069 h
    refine go_iload (n := 5) (by decide +kernel) l_2059 f_2021 ?_
    refine go_if (c := .ne) (o := 15) (t := 1434) (P := ¬ (x_2018 = 0)) (by decide +kernel) (by decide +kernel) f_2021 (Iff.rfl) (fun hp_2070 => ?_) (fun hp_2070 => ?_)
    · have h := it_f hp_2070 h
      refine go_goto (o := 1163) (t := 2597) (by decide +kernel) (by decide +kernel) ?_
      refine go_iinc (n := 4) (c := 7) (c' := 7) (by decide +kernel) (by decide +kernel) l_2058 f4 (by decide) fun L_2071 v_2072 f_2073 l_2074 kp_2075 => ?_
      obtain ⟨x_2076, e_2077, h⟩ := lx_s h
      have f_2078 := q_is_eq f_2073 e_2077
      have l_2079 := kp_2075 0 _ l_2054 (by decide) (Or.inl (by decide))
      have l_2080 := kp_2075 1 _ l_2055 (by decide) (Or.inl (by decide))
      have l_2081 := kp_2075 2 _ l_2056 (by decide) (Or.inl (by decide))
      have l_2082 := kp_2075 3 _ l_2057 (by decide) (Or.inr (q_is_cat f3 (Or.inr rfl)))
      refine go_goto (o := (-2577)) (t := 23) (by decide +kernel) (by decide +kernel) ?_
      exact hc m_2043 E_2050 h R_2066 l_2079 f0 l_2080 f1 l_2081 f2 l_2082 f3 l_2074 f_2078
    · have h := it_n hp_2070 h
      refine go_aload_n (n := 3) (by decide +kernel) l_2057 f3 ?_
      refine go_iconst (n := 0) (z := 0) (by decide +kernel) (by decide) fun v_2083 f_2084 => ?_
      obtain ⟨x_2088, e_2089, h⟩ := lx_s h
      refine go_lald (kd := 101) (by decide +kernel) rfl R_2066 f3 f_2084 (fx_k (c := 101) R_2066 (by decide +kernel)) (fx_x (a := 162) (ln := 1) R_2066 (by decide +kernel) (by decide)) fun v_2085 f_2086 => ?_
      have f_2087 := q_is_eq f_2086 e_2089
      refine go_iload (n := 6) (by decide +kernel) l_2052 f_2045 ?_
      refine go_i2l (by decide +kernel) f_2045 fun v_2090 f_2091 => ?_
      refine go_lcmp (by decide +kernel) f_2087 f_2091 fun v_2092 f_2093 => ?_
      refine go_if (c := .eq) (o := 5) (t := 1434) (P := x_2088 = x_2042) (by decide +kernel) (by decide +kernel) f_2093 (lc_eq) (fun hp_2094 => ?_) (fun hp_2094 => ?_)
      · have h := it_t hp_2094 h
        refine go_goto (o := 1163) (t := 2597) (by decide +kernel) (by decide +kernel) ?_
        refine go_iinc (n := 4) (c := 7) (c' := 7) (by decide +kernel) (by decide +kernel) l_2058 f4 (by decide) fun L_2095 v_2096 f_2097 l_2098 kp_2099 => ?_
        obtain ⟨x_2100, e_2101, h⟩ := lx_s h
        have f_2102 := q_is_eq f_2097 e_2101
        have l_2103 := kp_2099 0 _ l_2054 (by decide) (Or.inl (by decide))
        have l_2104 := kp_2099 1 _ l_2055 (by decide) (Or.inl (by decide))
        have l_2105 := kp_2099 2 _ l_2056 (by decide) (Or.inl (by decide))
        have l_2106 := kp_2099 3 _ l_2057 (by decide) (Or.inr (q_is_cat f3 (Or.inr rfl)))
        refine go_goto (o := (-2577)) (t := 23) (by decide +kernel) (by decide +kernel) ?_
        exact hc m_2043 E_2050 h R_2066 l_2103 f0 l_2104 f1 l_2105 f2 l_2106 f3 l_2098 f_2102
      · have h := it_f hp_2094 h
        refine go_iconst (n := 0) (z := 0) (by decide +kernel) (by decide) fun v_2107 f_2108 => ?_
        cases h
        exact go_iret (by decide +kernel) rfl (Or.inr ⟨rfl, by decide⟩) f_2108 (hQ E_2050 _ _ R_2066 (q_out_v (by decide) f_2108))
  · have h := it_f hp_2069 h
    refine go_iconst (n := 0) (z := 0) (by decide +kernel) (by decide) fun v_2109 f_2110 => ?_
    cases h
    exact go_iret (by decide +kernel) rfl (Or.inr ⟨rfl, by decide⟩) f_2110 (hQ E_2050 _ _ R_2066 (q_out_v (by decide) f_2110))
noncomputable def fj_L_law_1437 (xs : List Int32) (c : Int → MM → Option (Int × MM)) (y4 : Int) (m : MM) : Option (Int × MM) := gd (0 ≤ w32 (y4 + 1) ∧ w32 (y4 + 1) < (xs.length : Int)) <| bd (fm_L_take (scr xs (w32 (y4 + 1))) m) fun x_2121 m_2122 =>
bd (fm_X12_take (scr xs (w32 (y4 + 1))) m_2122) fun x_2145 m_2146 =>
bp (fm_X12_thrown m_2146) fun x_2164 =>
if x_2164 = x_2121 then
if x_2121 = 0 then
lx (m_2146 162 0) fun x_2191 =>
if x_2191 = x_2145 then
lx (w32 (y4 + 7)) fun x_2203 =>
c x_2203 m_2146
else
some (0, m_2146)
else
lx (w32 (y4 + 7)) fun x_2179 =>
c x_2179 m_2146
else
some (0, m_2146)
set_option maxHeartbeats 4000000 in
theorem oj_L_law_1437 {xs : List Int32} {d : Nat} {S : QS} {L : QL} {Q : QO → QS → Prop} {m : MM} {y4 : Int} {v0 : Value} {v1 : Value} {v2 : Value} {v3 : Value} {v4 : Value}  {rz : Int} {rm : MM} {c : Int → MM → Option (Int × MM)} 
  (hd : 174 ≤ d) (R : Rp S m) (l0 : q_lo L 0 = some v0) (f0 : q_is 7 v0 0) (l1 : q_lo L 1 = some v1) (f1 : q_is 2 v1 4) (l2 : q_lo L 2 = some v2) (f2 : q_is 2 v2 68) (l3 : q_lo L 3 = some v3) (f3 : q_is 2 v3 162) (l4 : q_lo L 4 = some v4) (f4 : q_is 0 v4 y4)
  (hc : ∀ mq : MM, Ext m mq → ∀ {z4 : Int} {Sq : QS} {Lq : QL} {u0 : Value} {u1 : Value} {u2 : Value} {u3 : Value} {u4 : Value}, c z4 mq = some (rz, rm) → Rp Sq mq → q_lo Lq 0 = some u0 → q_is 7 u0 0 → q_lo Lq 1 = some u1 → q_is 2 u1 4 → q_lo Lq 2 = some u2 → q_is 2 u2 68 → q_lo Lq 3 = some u3 → q_is 2 u3 162 → q_lo Lq 4 = some u4 → q_is 0 u4 z4 → Go xs d qM_L_law 23 Lq [] Sq Q)
  (hQ : Ext m rm → ∀ o S1, Rp S1 rm → q_out 0 o rz → Q o S1)
  (h : fj_L_law_1437 xs c y4 m = some (rz, rm)) : Go xs d qM_L_law 1437 L [] S Q := by
  unfold fj_L_law_1437 at h
  refine go_aload_n (n := 1) (by decide +kernel) l1 f1 ?_
  refine go_aloadS (n := 0) (by decide +kernel) l0 f0 ?_
  refine go_iload (n := 4) (by decide +kernel) l4 f4 ?_
  refine go_iconst (n := 1) (z := 1) (by decide +kernel) (by decide) fun v_2113 f_2114 => ?_
  refine go_iadd (by decide +kernel) f4 f_2114 fun v_2115 f_2116 => ?_
  obtain ⟨g_2119, h⟩ := gd_s h
  refine go_sld (by decide +kernel) f0 f_2116 g_2119 fun v_2117 f_2118 => ?_
  refine go_aload_n (n := 3) (by decide +kernel) l3 f3 ?_
  obtain ⟨x_2121, m_2122, hc_2120, h⟩ := bd_s h
  refine go_callS (x := 205) (mi := 358) (n := 3) (b := 0) (as := [v1, v_2117, v3]) (rest := []) (by decide +kernel) (by decide +kernel) rfl rfl (q_sum8 _ (Nat.le_of_ble_eq_true rfl)) (om_L_take (Nat.le_trans (by decide) hd) R f1 f_2118 f3 hc_2120) (fun _ S_2125 q_2128 => ?_) (fun _ _ qq => kr_x qq)
  refine kr_z (by decide) q_2128 fun v_2123 f_2124 R_2126 E_2127 => ?_
  have E_2129 := E_2127
  refine go_istore (n := 5) (by decide +kernel) (by decide +kernel) f_2124 fun L_2130 l_2131 kp_2132 => ?_
  have l_2133 := kp_2132 0 _ l0 (by decide) (Or.inl (by decide))
  have l_2134 := kp_2132 1 _ l1 (by decide) (Or.inl (by decide))
  have l_2135 := kp_2132 2 _ l2 (by decide) (Or.inl (by decide))
  have l_2136 := kp_2132 3 _ l3 (by decide) (Or.inl (by decide))
  have l_2137 := kp_2132 4 _ l4 (by decide) (Or.inr (q_is_cat f4 (Or.inl rfl)))
  refine go_aload_n (n := 2) (by decide +kernel) l_2135 f2 ?_
  refine go_aloadS (n := 0) (by decide +kernel) l_2133 f0 ?_
  refine go_iload (n := 4) (by decide +kernel) l_2137 f4 ?_
  refine go_iconst (n := 1) (z := 1) (by decide +kernel) (by decide) fun v_2138 f_2139 => ?_
  refine go_iadd (by decide +kernel) f4 f_2139 fun v_2140 f_2141 => ?_
  refine go_sld (by decide +kernel) f0 f_2141 g_2119 fun v_2142 f_2143 => ?_
  obtain ⟨x_2145, m_2146, hc_2144, h⟩ := bd_s h
  refine go_callV (x := 207) (mi := 284) (n := 1) (ci := 13) (as := [v_2142]) (rest := []) (by decide +kernel) (by decide +kernel) rfl rfl (q_sum8 _ (Nat.le_of_ble_eq_true rfl)) R_2126 f2 (fx_k (c := 13) R_2126 (by decide +kernel)) (om_X12_take (Nat.le_trans (by decide) hd) R_2126 f2 f_2143 hc_2144) (fun _ S_2149 q_2152 => ?_) (fun _ _ qq => kr_x qq)
  refine kr_z (by decide) q_2152 fun v_2147 f_2148 R_2150 E_2151 => ?_
  have E_2153 := Ext.tr E_2129 E_2151
  refine go_istore (n := 6) (by decide +kernel) (by decide +kernel) f_2148 fun L_2154 l_2155 kp_2156 => ?_
  have l_2157 := kp_2156 0 _ l_2133 (by decide) (Or.inl (by decide))
  have l_2158 := kp_2156 1 _ l_2134 (by decide) (Or.inl (by decide))
  have l_2159 := kp_2156 2 _ l_2135 (by decide) (Or.inl (by decide))
  have l_2160 := kp_2156 3 _ l_2136 (by decide) (Or.inl (by decide))
  have l_2161 := kp_2156 4 _ l_2137 (by decide) (Or.inl (by decide))
  have l_2162 := kp_2156 5 _ l_2131 (by decide) (Or.inr (q_is_cat f_2124 (Or.inl rfl)))
  refine go_aload_n (n := 2) (by decide +kernel) l_2159 f2 ?_
  obtain ⟨x_2164, hc_2163, h⟩ := bp_s h
  refine go_callV (x := 143) (mi := 185) (n := 0) (ci := 13) (as := []) (rest := []) (by decide +kernel) (by decide +kernel) rfl rfl (q_sum8 _ (Nat.le_of_ble_eq_true rfl)) R_2150 f2 (fx_k (c := 13) R_2150 (by decide +kernel)) (om_X12_thrown (Nat.le_trans (by decide) hd) R_2150 f2 hc_2163) (fun _ S_2168 q_2171 => ?_) (fun _ _ qq => kr_x qq)
  refine kr_z (by decide) q_2171 fun v_2166 f_2167 R_2169 E_2170 => ?_
  refine go_iload (n := 5) (by decide +kernel) l_2162 f_2124 ?_
  refine go_icmp (c := .eq) (o := 5) (t := 1473) (P := x_2164 = x_2121) (by decide +kernel) (by decide +kernel) f_2167 f_2124 (Iff.rfl) (fun hp_2172 => ?_) (fun hp_2172 => ?_)
  · have h := it_t hp_2172 h
    refine go_iload (n := 5) (by decide +kernel) l_2162 f_2124 ?_
    refine go_if (c := .ne) (o := 15) (t := 1490) (P := ¬ (x_2121 = 0)) (by decide +kernel) (by decide +kernel) f_2124 (Iff.rfl) (fun hp_2173 => ?_) (fun hp_2173 => ?_)
    · have h := it_f hp_2173 h
      refine go_goto (o := 1107) (t := 2597) (by decide +kernel) (by decide +kernel) ?_
      refine go_iinc (n := 4) (c := 7) (c' := 7) (by decide +kernel) (by decide +kernel) l_2161 f4 (by decide) fun L_2174 v_2175 f_2176 l_2177 kp_2178 => ?_
      obtain ⟨x_2179, e_2180, h⟩ := lx_s h
      have f_2181 := q_is_eq f_2176 e_2180
      have l_2182 := kp_2178 0 _ l_2157 (by decide) (Or.inl (by decide))
      have l_2183 := kp_2178 1 _ l_2158 (by decide) (Or.inl (by decide))
      have l_2184 := kp_2178 2 _ l_2159 (by decide) (Or.inl (by decide))
      have l_2185 := kp_2178 3 _ l_2160 (by decide) (Or.inr (q_is_cat f3 (Or.inr rfl)))
      refine go_goto (o := (-2577)) (t := 23) (by decide +kernel) (by decide +kernel) ?_
      exact hc m_2146 E_2153 h R_2169 l_2182 f0 l_2183 f1 l_2184 f2 l_2185 f3 l_2177 f_2181
    · have h := it_n hp_2173 h
      refine go_aload_n (n := 3) (by decide +kernel) l_2160 f3 ?_
      refine go_iconst (n := 0) (z := 0) (by decide +kernel) (by decide) fun v_2186 f_2187 => ?_
      obtain ⟨x_2191, e_2192, h⟩ := lx_s h
      refine go_lald (kd := 101) (by decide +kernel) rfl R_2169 f3 f_2187 (fx_k (c := 101) R_2169 (by decide +kernel)) (fx_x (a := 162) (ln := 1) R_2169 (by decide +kernel) (by decide)) fun v_2188 f_2189 => ?_
      have f_2190 := q_is_eq f_2189 e_2192
      refine go_iload (n := 6) (by decide +kernel) l_2155 f_2148 ?_
      refine go_i2l (by decide +kernel) f_2148 fun v_2193 f_2194 => ?_
      refine go_lcmp (by decide +kernel) f_2190 f_2194 fun v_2195 f_2196 => ?_
      refine go_if (c := .eq) (o := 5) (t := 1490) (P := x_2191 = x_2145) (by decide +kernel) (by decide +kernel) f_2196 (lc_eq) (fun hp_2197 => ?_) (fun hp_2197 => ?_)
      · have h := it_t hp_2197 h
        refine go_goto (o := 1107) (t := 2597) (by decide +kernel) (by decide +kernel) ?_
        refine go_iinc (n := 4) (c := 7) (c' := 7) (by decide +kernel) (by decide +kernel) l_2161 f4 (by decide) fun L_2198 v_2199 f_2200 l_2201 kp_2202 => ?_
        obtain ⟨x_2203, e_2204, h⟩ := lx_s h
        have f_2205 := q_is_eq f_2200 e_2204
        have l_2206 := kp_2202 0 _ l_2157 (by decide) (Or.inl (by decide))
        have l_2207 := kp_2202 1 _ l_2158 (by decide) (Or.inl (by decide))
        have l_2208 := kp_2202 2 _ l_2159 (by decide) (Or.inl (by decide))
        have l_2209 := kp_2202 3 _ l_2160 (by decide) (Or.inr (q_is_cat f3 (Or.inr rfl)))
        refine go_goto (o := (-2577)) (t := 23) (by decide +kernel) (by decide +kernel) ?_
        exact hc m_2146 E_2153 h R_2169 l_2206 f0 l_2207 f1 l_2208 f2 l_2209 f3 l_2201 f_2205
      · have h := it_f hp_2197 h
        refine go_iconst (n := 0) (z := 0) (by decide +kernel) (by decide) fun v_2210 f_2211 => ?_
        cases h
        exact go_iret (by decide +kernel) rfl (Or.inr ⟨rfl, by decide⟩) f_2211 (hQ E_2153 _ _ R_2169 (q_out_v (by decide) f_2211))
  · have h := it_f hp_2172 h
    refine go_iconst (n := 0) (z := 0) (by decide +kernel) (by decide) fun v_2212 f_2213 => ?_
    cases h
    exact go_iret (by decide +kernel) rfl (Or.inr ⟨rfl, by decide⟩) f_2213 (hQ E_2153 _ _ R_2169 (q_out_v (by decide) f_2213))
noncomputable def fj_L_law_1559 (xs : List Int32) (c : Int → MM → Option (Int × MM)) (y4 s0 s1 : Int) (m : MM) : Option (Int × MM) := if s1 = s0 then
lx (w32 (y4 + 7)) fun x_2320 =>
c x_2320 m
else
some (0, m)
set_option maxHeartbeats 4000000 in
theorem oj_L_law_1559 {xs : List Int32} {d : Nat} {S : QS} {L : QL} {Q : QO → QS → Prop} {m : MM} {y4 s0 s1 : Int} {v0 : Value} {v1 : Value} {v2 : Value} {v3 : Value} {v4 : Value} {w0 : Value} {w1 : Value}  {rz : Int} {rm : MM} {c : Int → MM → Option (Int × MM)} 
  (hd : 174 ≤ d) (R : Rp S m) (l0 : q_lo L 0 = some v0) (f0 : q_is 7 v0 0) (l1 : q_lo L 1 = some v1) (f1 : q_is 2 v1 4) (l2 : q_lo L 2 = some v2) (f2 : q_is 2 v2 68) (l3 : q_lo L 3 = some v3) (f3 : q_is 2 v3 162) (l4 : q_lo L 4 = some v4) (f4 : q_is 0 v4 y4) (fs0 : q_is 1 w0 s0) (fs1 : q_is 1 w1 s1)
  (hc : ∀ mq : MM, Ext m mq → ∀ {z4 : Int} {Sq : QS} {Lq : QL} {u0 : Value} {u1 : Value} {u2 : Value} {u3 : Value} {u4 : Value}, c z4 mq = some (rz, rm) → Rp Sq mq → q_lo Lq 0 = some u0 → q_is 7 u0 0 → q_lo Lq 1 = some u1 → q_is 2 u1 4 → q_lo Lq 2 = some u2 → q_is 2 u2 68 → q_lo Lq 3 = some u3 → q_is 2 u3 162 → q_lo Lq 4 = some u4 → q_is 0 u4 z4 → Go xs d qM_L_law 23 Lq [] Sq Q)
  (hQ : Ext m rm → ∀ o S1, Rp S1 rm → q_out 0 o rz → Q o S1)
  (h : fj_L_law_1559 xs c y4 s0 s1 m = some (rz, rm)) : Go xs d qM_L_law 1559 L [w0, w1] S Q := by
  unfold fj_L_law_1559 at h
  refine go_lcmp (by decide +kernel) fs1 fs0 fun v_2312 f_2313 => ?_
  refine go_if (c := .eq) (o := 5) (t := 1565) (P := s1 = s0) (by decide +kernel) (by decide +kernel) f_2313 (lc_eq) (fun hp_2314 => ?_) (fun hp_2314 => ?_)
  · have h := it_t hp_2314 h
    refine go_goto (o := 1032) (t := 2597) (by decide +kernel) (by decide +kernel) ?_
    refine go_iinc (n := 4) (c := 7) (c' := 7) (by decide +kernel) (by decide +kernel) l4 f4 (by decide) fun L_2315 v_2316 f_2317 l_2318 kp_2319 => ?_
    obtain ⟨x_2320, e_2321, h⟩ := lx_s h
    have f_2322 := q_is_eq f_2317 e_2321
    have l_2323 := kp_2319 0 _ l0 (by decide) (Or.inl (by decide))
    have l_2324 := kp_2319 1 _ l1 (by decide) (Or.inl (by decide))
    have l_2325 := kp_2319 2 _ l2 (by decide) (Or.inl (by decide))
    have l_2326 := kp_2319 3 _ l3 (by decide) (Or.inr (q_is_cat f3 (Or.inr rfl)))
    refine go_goto (o := (-2577)) (t := 23) (by decide +kernel) (by decide +kernel) ?_
    exact hc m (Ext.rf _) h R l_2323 f0 l_2324 f1 l_2325 f2 l_2326 f3 l_2318 f_2322
  · have h := it_f hp_2314 h
    refine go_iconst (n := 0) (z := 0) (by decide +kernel) (by decide) fun v_2327 f_2328 => ?_
    cases h
    exact go_iret (by decide +kernel) rfl (Or.inr ⟨rfl, by decide⟩) f_2328 (hQ (Ext.rf _) _ _ R (q_out_v (by decide) f_2328))
noncomputable def fj_L_law_1493 (xs : List Int32) (c : Int → MM → Option (Int × MM)) (y4 : Int) (m : MM) : Option (Int × MM) := gd (0 ≤ w32 (y4 + 1) ∧ w32 (y4 + 1) < (xs.length : Int)) <| gd (0 ≤ w32 (y4 + 2) ∧ w32 (y4 + 2) < (xs.length : Int)) <| bd (fm_L_answer (scr xs (w32 (y4 + 1))) (scr xs (w32 (y4 + 2))) m) fun x_2231 m_2232 =>
bd (fm_X12_answer (scr xs (w32 (y4 + 1))) (scr xs (w32 (y4 + 2))) m_2232) fun x_2261 m_2262 =>
bp (fm_X12_thrown m_2262) fun x_2280 =>
if x_2280 = x_2231 then
if x_2231 = 0 then
lx (m_2262 162 0) fun x_2307 =>
if x_2261 = 0 then
fj_L_law_1559 xs c y4 0 x_2307 m_2262
else
fj_L_law_1559 xs c y4 1 x_2307 m_2262
else
lx (w32 (y4 + 7)) fun x_2295 =>
c x_2295 m_2262
else
some (0, m_2262)
set_option maxHeartbeats 4000000 in
theorem oj_L_law_1493 {xs : List Int32} {d : Nat} {S : QS} {L : QL} {Q : QO → QS → Prop} {m : MM} {y4 : Int} {v0 : Value} {v1 : Value} {v2 : Value} {v3 : Value} {v4 : Value}  {rz : Int} {rm : MM} {c : Int → MM → Option (Int × MM)} 
  (hd : 174 ≤ d) (R : Rp S m) (l0 : q_lo L 0 = some v0) (f0 : q_is 7 v0 0) (l1 : q_lo L 1 = some v1) (f1 : q_is 2 v1 4) (l2 : q_lo L 2 = some v2) (f2 : q_is 2 v2 68) (l3 : q_lo L 3 = some v3) (f3 : q_is 2 v3 162) (l4 : q_lo L 4 = some v4) (f4 : q_is 0 v4 y4)
  (hc : ∀ mq : MM, Ext m mq → ∀ {z4 : Int} {Sq : QS} {Lq : QL} {u0 : Value} {u1 : Value} {u2 : Value} {u3 : Value} {u4 : Value}, c z4 mq = some (rz, rm) → Rp Sq mq → q_lo Lq 0 = some u0 → q_is 7 u0 0 → q_lo Lq 1 = some u1 → q_is 2 u1 4 → q_lo Lq 2 = some u2 → q_is 2 u2 68 → q_lo Lq 3 = some u3 → q_is 2 u3 162 → q_lo Lq 4 = some u4 → q_is 0 u4 z4 → Go xs d qM_L_law 23 Lq [] Sq Q)
  (hQ : Ext m rm → ∀ o S1, Rp S1 rm → q_out 0 o rz → Q o S1)
  (h : fj_L_law_1493 xs c y4 m = some (rz, rm)) : Go xs d qM_L_law 1493 L [] S Q := by
  unfold fj_L_law_1493 at h
  refine go_aload_n (n := 1) (by decide +kernel) l1 f1 ?_
  refine go_aloadS (n := 0) (by decide +kernel) l0 f0 ?_
  refine go_iload (n := 4) (by decide +kernel) l4 f4 ?_
  refine go_iconst (n := 1) (z := 1) (by decide +kernel) (by decide) fun v_2216 f_2217 => ?_
  refine go_iadd (by decide +kernel) f4 f_2217 fun v_2218 f_2219 => ?_
  obtain ⟨g_2222, h⟩ := gd_s h
  refine go_sld (by decide +kernel) f0 f_2219 g_2222 fun v_2220 f_2221 => ?_
  refine go_aloadS (n := 0) (by decide +kernel) l0 f0 ?_
  refine go_iload (n := 4) (by decide +kernel) l4 f4 ?_
  refine go_iconst (n := 2) (z := 2) (by decide +kernel) (by decide) fun v_2223 f_2224 => ?_
  refine go_iadd (by decide +kernel) f4 f_2224 fun v_2225 f_2226 => ?_
  obtain ⟨g_2229, h⟩ := gd_s h
  refine go_sld (by decide +kernel) f0 f_2226 g_2229 fun v_2227 f_2228 => ?_
  refine go_aload_n (n := 3) (by decide +kernel) l3 f3 ?_
  obtain ⟨x_2231, m_2232, hc_2230, h⟩ := bd_s h
  refine go_callS (x := 208) (mi := 359) (n := 4) (b := 0) (as := [v1, v_2220, v_2227, v3]) (rest := []) (by decide +kernel) (by decide +kernel) rfl rfl (q_sum8 _ (Nat.le_of_ble_eq_true rfl)) (om_L_answer (Nat.le_trans (by decide) hd) R f1 f_2221 f_2228 f3 hc_2230) (fun _ S_2235 q_2238 => ?_) (fun _ _ qq => kr_x qq)
  refine kr_z (by decide) q_2238 fun v_2233 f_2234 R_2236 E_2237 => ?_
  have E_2239 := E_2237
  refine go_istore (n := 5) (by decide +kernel) (by decide +kernel) f_2234 fun L_2240 l_2241 kp_2242 => ?_
  have l_2243 := kp_2242 0 _ l0 (by decide) (Or.inl (by decide))
  have l_2244 := kp_2242 1 _ l1 (by decide) (Or.inl (by decide))
  have l_2245 := kp_2242 2 _ l2 (by decide) (Or.inl (by decide))
  have l_2246 := kp_2242 3 _ l3 (by decide) (Or.inl (by decide))
  have l_2247 := kp_2242 4 _ l4 (by decide) (Or.inr (q_is_cat f4 (Or.inl rfl)))
  refine go_aload_n (n := 2) (by decide +kernel) l_2245 f2 ?_
  refine go_aloadS (n := 0) (by decide +kernel) l_2243 f0 ?_
  refine go_iload (n := 4) (by decide +kernel) l_2247 f4 ?_
  refine go_iconst (n := 1) (z := 1) (by decide +kernel) (by decide) fun v_2248 f_2249 => ?_
  refine go_iadd (by decide +kernel) f4 f_2249 fun v_2250 f_2251 => ?_
  refine go_sld (by decide +kernel) f0 f_2251 g_2222 fun v_2252 f_2253 => ?_
  refine go_aloadS (n := 0) (by decide +kernel) l_2243 f0 ?_
  refine go_iload (n := 4) (by decide +kernel) l_2247 f4 ?_
  refine go_iconst (n := 2) (z := 2) (by decide +kernel) (by decide) fun v_2254 f_2255 => ?_
  refine go_iadd (by decide +kernel) f4 f_2255 fun v_2256 f_2257 => ?_
  refine go_sld (by decide +kernel) f0 f_2257 g_2229 fun v_2258 f_2259 => ?_
  obtain ⟨x_2261, m_2262, hc_2260, h⟩ := bd_s h
  refine go_callV (x := 210) (mi := 286) (n := 2) (ci := 13) (as := [v_2252, v_2258]) (rest := []) (by decide +kernel) (by decide +kernel) rfl rfl (q_sum8 _ (Nat.le_of_ble_eq_true rfl)) R_2236 f2 (fx_k (c := 13) R_2236 (by decide +kernel)) (om_X12_answer (Nat.le_trans (by decide) hd) R_2236 f2 f_2253 f_2259 hc_2260) (fun _ S_2265 q_2268 => ?_) (fun _ _ qq => kr_x qq)
  refine kr_z (by decide) q_2268 fun v_2263 f_2264 R_2266 E_2267 => ?_
  have E_2269 := Ext.tr E_2239 E_2267
  refine go_istore (n := 6) (by decide +kernel) (by decide +kernel) f_2264 fun L_2270 l_2271 kp_2272 => ?_
  have l_2273 := kp_2272 0 _ l_2243 (by decide) (Or.inl (by decide))
  have l_2274 := kp_2272 1 _ l_2244 (by decide) (Or.inl (by decide))
  have l_2275 := kp_2272 2 _ l_2245 (by decide) (Or.inl (by decide))
  have l_2276 := kp_2272 3 _ l_2246 (by decide) (Or.inl (by decide))
  have l_2277 := kp_2272 4 _ l_2247 (by decide) (Or.inl (by decide))
  have l_2278 := kp_2272 5 _ l_2241 (by decide) (Or.inr (q_is_cat f_2234 (Or.inl rfl)))
  refine go_aload_n (n := 2) (by decide +kernel) l_2275 f2 ?_
  obtain ⟨x_2280, hc_2279, h⟩ := bp_s h
  refine go_callV (x := 143) (mi := 185) (n := 0) (ci := 13) (as := []) (rest := []) (by decide +kernel) (by decide +kernel) rfl rfl (q_sum8 _ (Nat.le_of_ble_eq_true rfl)) R_2266 f2 (fx_k (c := 13) R_2266 (by decide +kernel)) (om_X12_thrown (Nat.le_trans (by decide) hd) R_2266 f2 hc_2279) (fun _ S_2284 q_2287 => ?_) (fun _ _ qq => kr_x qq)
  refine kr_z (by decide) q_2287 fun v_2282 f_2283 R_2285 E_2286 => ?_
  refine go_iload (n := 5) (by decide +kernel) l_2278 f_2234 ?_
  refine go_icmp (c := .eq) (o := 5) (t := 1541) (P := x_2280 = x_2231) (by decide +kernel) (by decide +kernel) f_2283 f_2234 (Iff.rfl) (fun hp_2288 => ?_) (fun hp_2288 => ?_)
  · have h := it_t hp_2288 h
    refine go_iload (n := 5) (by decide +kernel) l_2278 f_2234 ?_
    refine go_if (c := .ne) (o := 22) (t := 1565) (P := ¬ (x_2231 = 0)) (by decide +kernel) (by decide +kernel) f_2234 (Iff.rfl) (fun hp_2289 => ?_) (fun hp_2289 => ?_)
    · have h := it_f hp_2289 h
      refine go_goto (o := 1032) (t := 2597) (by decide +kernel) (by decide +kernel) ?_
      refine go_iinc (n := 4) (c := 7) (c' := 7) (by decide +kernel) (by decide +kernel) l_2277 f4 (by decide) fun L_2290 v_2291 f_2292 l_2293 kp_2294 => ?_
      obtain ⟨x_2295, e_2296, h⟩ := lx_s h
      have f_2297 := q_is_eq f_2292 e_2296
      have l_2298 := kp_2294 0 _ l_2273 (by decide) (Or.inl (by decide))
      have l_2299 := kp_2294 1 _ l_2274 (by decide) (Or.inl (by decide))
      have l_2300 := kp_2294 2 _ l_2275 (by decide) (Or.inl (by decide))
      have l_2301 := kp_2294 3 _ l_2276 (by decide) (Or.inr (q_is_cat f3 (Or.inr rfl)))
      refine go_goto (o := (-2577)) (t := 23) (by decide +kernel) (by decide +kernel) ?_
      exact hc m_2262 E_2269 h R_2285 l_2298 f0 l_2299 f1 l_2300 f2 l_2301 f3 l_2293 f_2297
    · have h := it_n hp_2289 h
      refine go_aload_n (n := 3) (by decide +kernel) l_2276 f3 ?_
      refine go_iconst (n := 0) (z := 0) (by decide +kernel) (by decide) fun v_2302 f_2303 => ?_
      obtain ⟨x_2307, e_2308, h⟩ := lx_s h
      refine go_lald (kd := 101) (by decide +kernel) rfl R_2285 f3 f_2303 (fx_k (c := 101) R_2285 (by decide +kernel)) (fx_x (a := 162) (ln := 1) R_2285 (by decide +kernel) (by decide)) fun v_2304 f_2305 => ?_
      have f_2306 := q_is_eq f_2305 e_2308
      refine go_iload (n := 6) (by decide +kernel) l_2271 f_2264 ?_
      refine go_if (c := .eq) (o := 7) (t := 1558) (P := x_2261 = 0) (by decide +kernel) (by decide +kernel) f_2264 (Iff.rfl) (fun hp_2309 => ?_) (fun hp_2309 => ?_)
      · have h := it_t hp_2309 h
        refine go_lconst (n := 0) (z := 0) (by decide +kernel) (by decide) fun v_2310 f_2311 => ?_
        exact oj_L_law_1559 hd R_2285 l_2273 f0 l_2274 f1 l_2275 f2 l_2276 f3 l_2277 f4 f_2311 f_2306 (fun mq b => hc mq (Ext.tr E_2269 b)) (fun b => hQ (Ext.tr E_2269 b)) h
      · have h := it_f hp_2309 h
        refine go_lconst (n := 1) (z := 1) (by decide +kernel) (by decide) fun v_2329 f_2330 => ?_
        refine go_goto (o := 4) (t := 1559) (by decide +kernel) (by decide +kernel) ?_
        exact oj_L_law_1559 hd R_2285 l_2273 f0 l_2274 f1 l_2275 f2 l_2276 f3 l_2277 f4 f_2330 f_2306 (fun mq b => hc mq (Ext.tr E_2269 b)) (fun b => hQ (Ext.tr E_2269 b)) h
  · have h := it_f hp_2288 h
    refine go_iconst (n := 0) (z := 0) (by decide +kernel) (by decide) fun v_2331 f_2332 => ?_
    cases h
    exact go_iret (by decide +kernel) rfl (Or.inr ⟨rfl, by decide⟩) f_2332 (hQ E_2269 _ _ R_2285 (q_out_v (by decide) f_2332))
noncomputable def fj_L_law_1650 (xs : List Int32) (c : Int → MM → Option (Int × MM)) (y4 s0 s1 : Int) (m : MM) : Option (Int × MM) := if s1 = s0 then
lx (w32 (y4 + 7)) fun x_2447 =>
c x_2447 m
else
some (0, m)
set_option maxHeartbeats 4000000 in
theorem oj_L_law_1650 {xs : List Int32} {d : Nat} {S : QS} {L : QL} {Q : QO → QS → Prop} {m : MM} {y4 s0 s1 : Int} {v0 : Value} {v1 : Value} {v2 : Value} {v3 : Value} {v4 : Value} {w0 : Value} {w1 : Value}  {rz : Int} {rm : MM} {c : Int → MM → Option (Int × MM)} 
  (hd : 174 ≤ d) (R : Rp S m) (l0 : q_lo L 0 = some v0) (f0 : q_is 7 v0 0) (l1 : q_lo L 1 = some v1) (f1 : q_is 2 v1 4) (l2 : q_lo L 2 = some v2) (f2 : q_is 2 v2 68) (l3 : q_lo L 3 = some v3) (f3 : q_is 2 v3 162) (l4 : q_lo L 4 = some v4) (f4 : q_is 0 v4 y4) (fs0 : q_is 1 w0 s0) (fs1 : q_is 1 w1 s1)
  (hc : ∀ mq : MM, Ext m mq → ∀ {z4 : Int} {Sq : QS} {Lq : QL} {u0 : Value} {u1 : Value} {u2 : Value} {u3 : Value} {u4 : Value}, c z4 mq = some (rz, rm) → Rp Sq mq → q_lo Lq 0 = some u0 → q_is 7 u0 0 → q_lo Lq 1 = some u1 → q_is 2 u1 4 → q_lo Lq 2 = some u2 → q_is 2 u2 68 → q_lo Lq 3 = some u3 → q_is 2 u3 162 → q_lo Lq 4 = some u4 → q_is 0 u4 z4 → Go xs d qM_L_law 23 Lq [] Sq Q)
  (hQ : Ext m rm → ∀ o S1, Rp S1 rm → q_out 0 o rz → Q o S1)
  (h : fj_L_law_1650 xs c y4 s0 s1 m = some (rz, rm)) : Go xs d qM_L_law 1650 L [w0, w1] S Q := by
  unfold fj_L_law_1650 at h
  refine go_lcmp (by decide +kernel) fs1 fs0 fun v_2439 f_2440 => ?_
  refine go_if (c := .eq) (o := 5) (t := 1656) (P := s1 = s0) (by decide +kernel) (by decide +kernel) f_2440 (lc_eq) (fun hp_2441 => ?_) (fun hp_2441 => ?_)
  · have h := it_t hp_2441 h
    refine go_goto (o := 941) (t := 2597) (by decide +kernel) (by decide +kernel) ?_
    refine go_iinc (n := 4) (c := 7) (c' := 7) (by decide +kernel) (by decide +kernel) l4 f4 (by decide) fun L_2442 v_2443 f_2444 l_2445 kp_2446 => ?_
    obtain ⟨x_2447, e_2448, h⟩ := lx_s h
    have f_2449 := q_is_eq f_2444 e_2448
    have l_2450 := kp_2446 0 _ l0 (by decide) (Or.inl (by decide))
    have l_2451 := kp_2446 1 _ l1 (by decide) (Or.inl (by decide))
    have l_2452 := kp_2446 2 _ l2 (by decide) (Or.inl (by decide))
    have l_2453 := kp_2446 3 _ l3 (by decide) (Or.inr (q_is_cat f3 (Or.inr rfl)))
    refine go_goto (o := (-2577)) (t := 23) (by decide +kernel) (by decide +kernel) ?_
    exact hc m (Ext.rf _) h R l_2450 f0 l_2451 f1 l_2452 f2 l_2453 f3 l_2445 f_2449
  · have h := it_f hp_2441 h
    refine go_iconst (n := 0) (z := 0) (by decide +kernel) (by decide) fun v_2454 f_2455 => ?_
    cases h
    exact go_iret (by decide +kernel) rfl (Or.inr ⟨rfl, by decide⟩) f_2455 (hQ (Ext.rf _) _ _ R (q_out_v (by decide) f_2455))
noncomputable def fj_L_law_1616 (xs : List Int32) (c : Int → MM → Option (Int × MM)) (y4 y5 s0 s1 : Int) (m : MM) : Option (Int × MM) := bd (fm_X12_fail s1 s0 m) fun x_2388 m_2389 =>
bp (fm_X12_thrown m_2389) fun x_2407 =>
if x_2407 = y5 then
if y5 = 0 then
lx (m_2389 162 0) fun x_2434 =>
if x_2388 = 0 then
fj_L_law_1650 xs c y4 0 x_2434 m_2389
else
fj_L_law_1650 xs c y4 1 x_2434 m_2389
else
lx (w32 (y4 + 7)) fun x_2422 =>
c x_2422 m_2389
else
some (0, m_2389)
set_option maxHeartbeats 4000000 in
theorem oj_L_law_1616 {xs : List Int32} {d : Nat} {S : QS} {L : QL} {Q : QO → QS → Prop} {m : MM} {y4 y5 s0 s1 : Int} {v0 : Value} {v1 : Value} {v2 : Value} {v3 : Value} {v4 : Value} {v5 : Value} {w0 : Value} {w1 : Value} {w2 : Value}  {rz : Int} {rm : MM} {c : Int → MM → Option (Int × MM)} 
  (hd : 174 ≤ d) (R : Rp S m) (l0 : q_lo L 0 = some v0) (f0 : q_is 7 v0 0) (l1 : q_lo L 1 = some v1) (f1 : q_is 2 v1 4) (l2 : q_lo L 2 = some v2) (f2 : q_is 2 v2 68) (l3 : q_lo L 3 = some v3) (f3 : q_is 2 v3 162) (l4 : q_lo L 4 = some v4) (f4 : q_is 0 v4 y4) (l5 : q_lo L 5 = some v5) (f5 : q_is 0 v5 y5) (fs0 : q_is 0 w0 s0) (fs1 : q_is 0 w1 s1) (fs2 : q_is 2 w2 68)
  (hc : ∀ mq : MM, Ext m mq → ∀ {z4 : Int} {Sq : QS} {Lq : QL} {u0 : Value} {u1 : Value} {u2 : Value} {u3 : Value} {u4 : Value}, c z4 mq = some (rz, rm) → Rp Sq mq → q_lo Lq 0 = some u0 → q_is 7 u0 0 → q_lo Lq 1 = some u1 → q_is 2 u1 4 → q_lo Lq 2 = some u2 → q_is 2 u2 68 → q_lo Lq 3 = some u3 → q_is 2 u3 162 → q_lo Lq 4 = some u4 → q_is 0 u4 z4 → Go xs d qM_L_law 23 Lq [] Sq Q)
  (hQ : Ext m rm → ∀ o S1, Rp S1 rm → q_out 0 o rz → Q o S1)
  (h : fj_L_law_1616 xs c y4 y5 s0 s1 m = some (rz, rm)) : Go xs d qM_L_law 1616 L [w0, w1, w2] S Q := by
  unfold fj_L_law_1616 at h
  obtain ⟨x_2388, m_2389, hc_2387, h⟩ := bd_s h
  refine go_callV (x := 214) (mi := 288) (n := 2) (ci := 13) (as := [w1, w0]) (rest := []) (by decide +kernel) (by decide +kernel) rfl rfl (q_sum8 _ (Nat.le_of_ble_eq_true rfl)) R fs2 (fx_k (c := 13) R (by decide +kernel)) (om_X12_fail (Nat.le_trans (by decide) hd) R fs2 fs1 fs0 hc_2387) (fun _ S_2392 q_2395 => ?_) (fun _ _ qq => kr_x qq)
  refine kr_z (by decide) q_2395 fun v_2390 f_2391 R_2393 E_2394 => ?_
  have E_2396 := E_2394
  refine go_istore (n := 6) (by decide +kernel) (by decide +kernel) f_2391 fun L_2397 l_2398 kp_2399 => ?_
  have l_2400 := kp_2399 0 _ l0 (by decide) (Or.inl (by decide))
  have l_2401 := kp_2399 1 _ l1 (by decide) (Or.inl (by decide))
  have l_2402 := kp_2399 2 _ l2 (by decide) (Or.inl (by decide))
  have l_2403 := kp_2399 3 _ l3 (by decide) (Or.inl (by decide))
  have l_2404 := kp_2399 4 _ l4 (by decide) (Or.inl (by decide))
  have l_2405 := kp_2399 5 _ l5 (by decide) (Or.inr (q_is_cat f5 (Or.inl rfl)))
  refine go_aload_n (n := 2) (by decide +kernel) l_2402 f2 ?_
  obtain ⟨x_2407, hc_2406, h⟩ := bp_s h
  refine go_callV (x := 143) (mi := 185) (n := 0) (ci := 13) (as := []) (rest := []) (by decide +kernel) (by decide +kernel) rfl rfl (q_sum8 _ (Nat.le_of_ble_eq_true rfl)) R_2393 f2 (fx_k (c := 13) R_2393 (by decide +kernel)) (om_X12_thrown (Nat.le_trans (by decide) hd) R_2393 f2 hc_2406) (fun _ S_2411 q_2414 => ?_) (fun _ _ qq => kr_x qq)
  refine kr_z (by decide) q_2414 fun v_2409 f_2410 R_2412 E_2413 => ?_
  refine go_iload (n := 5) (by decide +kernel) l_2405 f5 ?_
  refine go_icmp (c := .eq) (o := 5) (t := 1632) (P := x_2407 = y5) (by decide +kernel) (by decide +kernel) f_2410 f5 (Iff.rfl) (fun hp_2415 => ?_) (fun hp_2415 => ?_)
  · have h := it_t hp_2415 h
    refine go_iload (n := 5) (by decide +kernel) l_2405 f5 ?_
    refine go_if (c := .ne) (o := 22) (t := 1656) (P := ¬ (y5 = 0)) (by decide +kernel) (by decide +kernel) f5 (Iff.rfl) (fun hp_2416 => ?_) (fun hp_2416 => ?_)
    · have h := it_f hp_2416 h
      refine go_goto (o := 941) (t := 2597) (by decide +kernel) (by decide +kernel) ?_
      refine go_iinc (n := 4) (c := 7) (c' := 7) (by decide +kernel) (by decide +kernel) l_2404 f4 (by decide) fun L_2417 v_2418 f_2419 l_2420 kp_2421 => ?_
      obtain ⟨x_2422, e_2423, h⟩ := lx_s h
      have f_2424 := q_is_eq f_2419 e_2423
      have l_2425 := kp_2421 0 _ l_2400 (by decide) (Or.inl (by decide))
      have l_2426 := kp_2421 1 _ l_2401 (by decide) (Or.inl (by decide))
      have l_2427 := kp_2421 2 _ l_2402 (by decide) (Or.inl (by decide))
      have l_2428 := kp_2421 3 _ l_2403 (by decide) (Or.inr (q_is_cat f3 (Or.inr rfl)))
      refine go_goto (o := (-2577)) (t := 23) (by decide +kernel) (by decide +kernel) ?_
      exact hc m_2389 E_2396 h R_2412 l_2425 f0 l_2426 f1 l_2427 f2 l_2428 f3 l_2420 f_2424
    · have h := it_n hp_2416 h
      refine go_aload_n (n := 3) (by decide +kernel) l_2403 f3 ?_
      refine go_iconst (n := 0) (z := 0) (by decide +kernel) (by decide) fun v_2429 f_2430 => ?_
      obtain ⟨x_2434, e_2435, h⟩ := lx_s h
      refine go_lald (kd := 101) (by decide +kernel) rfl R_2412 f3 f_2430 (fx_k (c := 101) R_2412 (by decide +kernel)) (fx_x (a := 162) (ln := 1) R_2412 (by decide +kernel) (by decide)) fun v_2431 f_2432 => ?_
      have f_2433 := q_is_eq f_2432 e_2435
      refine go_iload (n := 6) (by decide +kernel) l_2398 f_2391 ?_
      refine go_if (c := .eq) (o := 7) (t := 1649) (P := x_2388 = 0) (by decide +kernel) (by decide +kernel) f_2391 (Iff.rfl) (fun hp_2436 => ?_) (fun hp_2436 => ?_)
      · have h := it_t hp_2436 h
        refine go_lconst (n := 0) (z := 0) (by decide +kernel) (by decide) fun v_2437 f_2438 => ?_
        exact oj_L_law_1650 hd R_2412 l_2400 f0 l_2401 f1 l_2402 f2 l_2403 f3 l_2404 f4 f_2438 f_2433 (fun mq b => hc mq (Ext.tr E_2396 b)) (fun b => hQ (Ext.tr E_2396 b)) h
      · have h := it_f hp_2436 h
        refine go_lconst (n := 1) (z := 1) (by decide +kernel) (by decide) fun v_2456 f_2457 => ?_
        refine go_goto (o := 4) (t := 1650) (by decide +kernel) (by decide +kernel) ?_
        exact oj_L_law_1650 hd R_2412 l_2400 f0 l_2401 f1 l_2402 f2 l_2403 f3 l_2404 f4 f_2457 f_2433 (fun mq b => hc mq (Ext.tr E_2396 b)) (fun b => hQ (Ext.tr E_2396 b)) h
  · have h := it_f hp_2415 h
    refine go_iconst (n := 0) (z := 0) (by decide +kernel) (by decide) fun v_2458 f_2459 => ?_
    cases h
    exact go_iret (by decide +kernel) rfl (Or.inr ⟨rfl, by decide⟩) f_2459 (hQ E_2396 _ _ R_2412 (q_out_v (by decide) f_2459))
noncomputable def fj_L_law_1589 (xs : List Int32) (c : Int → MM → Option (Int × MM)) (y4 s0 s1 : Int) (m : MM) : Option (Int × MM) := bd (fm_L_fail s1 s0 m) fun x_2353 m_2354 =>
gd (0 ≤ w32 (y4 + 1) ∧ w32 (y4 + 1) < (xs.length : Int)) <| gd (0 ≤ w32 (y4 + 2) ∧ w32 (y4 + 2) < (xs.length : Int)) <| if scr xs (w32 (y4 + 2)) = 0 then
fj_L_law_1616 xs c y4 x_2353 0 (scr xs (w32 (y4 + 1))) m_2354
else
fj_L_law_1616 xs c y4 x_2353 1 (scr xs (w32 (y4 + 1))) m_2354
set_option maxHeartbeats 4000000 in
theorem oj_L_law_1589 {xs : List Int32} {d : Nat} {S : QS} {L : QL} {Q : QO → QS → Prop} {m : MM} {y4 s0 s1 : Int} {v0 : Value} {v1 : Value} {v2 : Value} {v3 : Value} {v4 : Value} {w0 : Value} {w1 : Value} {w2 : Value}  {rz : Int} {rm : MM} {c : Int → MM → Option (Int × MM)} 
  (hd : 174 ≤ d) (R : Rp S m) (l0 : q_lo L 0 = some v0) (f0 : q_is 7 v0 0) (l1 : q_lo L 1 = some v1) (f1 : q_is 2 v1 4) (l2 : q_lo L 2 = some v2) (f2 : q_is 2 v2 68) (l3 : q_lo L 3 = some v3) (f3 : q_is 2 v3 162) (l4 : q_lo L 4 = some v4) (f4 : q_is 0 v4 y4) (fs0 : q_is 0 w0 s0) (fs1 : q_is 0 w1 s1) (fs2 : q_is 2 w2 4)
  (hc : ∀ mq : MM, Ext m mq → ∀ {z4 : Int} {Sq : QS} {Lq : QL} {u0 : Value} {u1 : Value} {u2 : Value} {u3 : Value} {u4 : Value}, c z4 mq = some (rz, rm) → Rp Sq mq → q_lo Lq 0 = some u0 → q_is 7 u0 0 → q_lo Lq 1 = some u1 → q_is 2 u1 4 → q_lo Lq 2 = some u2 → q_is 2 u2 68 → q_lo Lq 3 = some u3 → q_is 2 u3 162 → q_lo Lq 4 = some u4 → q_is 0 u4 z4 → Go xs d qM_L_law 23 Lq [] Sq Q)
  (hQ : Ext m rm → ∀ o S1, Rp S1 rm → q_out 0 o rz → Q o S1)
  (h : fj_L_law_1589 xs c y4 s0 s1 m = some (rz, rm)) : Go xs d qM_L_law 1589 L [w0, w1, w2] S Q := by
  unfold fj_L_law_1589 at h
  refine go_aload_n (n := 3) (by decide +kernel) l3 f3 ?_
  obtain ⟨x_2353, m_2354, hc_2352, h⟩ := bd_s h
  refine go_callS (x := 211) (mi := 360) (n := 4) (b := 0) (as := [w2, w1, w0, v3]) (rest := []) (by decide +kernel) (by decide +kernel) rfl rfl (q_sum8 _ (Nat.le_of_ble_eq_true rfl)) (om_L_fail (Nat.le_trans (by decide) hd) R fs2 fs1 fs0 f3 hc_2352) (fun _ S_2357 q_2360 => ?_) (fun _ _ qq => kr_x qq)
  refine kr_z (by decide) q_2360 fun v_2355 f_2356 R_2358 E_2359 => ?_
  have E_2361 := E_2359
  refine go_istore (n := 5) (by decide +kernel) (by decide +kernel) f_2356 fun L_2362 l_2363 kp_2364 => ?_
  have l_2365 := kp_2364 0 _ l0 (by decide) (Or.inl (by decide))
  have l_2366 := kp_2364 1 _ l1 (by decide) (Or.inl (by decide))
  have l_2367 := kp_2364 2 _ l2 (by decide) (Or.inl (by decide))
  have l_2368 := kp_2364 3 _ l3 (by decide) (Or.inl (by decide))
  have l_2369 := kp_2364 4 _ l4 (by decide) (Or.inr (q_is_cat f4 (Or.inl rfl)))
  refine go_aload_n (n := 2) (by decide +kernel) l_2367 f2 ?_
  refine go_aloadS (n := 0) (by decide +kernel) l_2365 f0 ?_
  refine go_iload (n := 4) (by decide +kernel) l_2369 f4 ?_
  refine go_iconst (n := 1) (z := 1) (by decide +kernel) (by decide) fun v_2370 f_2371 => ?_
  refine go_iadd (by decide +kernel) f4 f_2371 fun v_2372 f_2373 => ?_
  obtain ⟨g_2376, h⟩ := gd_s h
  refine go_sld (by decide +kernel) f0 f_2373 g_2376 fun v_2374 f_2375 => ?_
  refine go_aloadS (n := 0) (by decide +kernel) l_2365 f0 ?_
  refine go_iload (n := 4) (by decide +kernel) l_2369 f4 ?_
  refine go_iconst (n := 2) (z := 2) (by decide +kernel) (by decide) fun v_2377 f_2378 => ?_
  refine go_iadd (by decide +kernel) f4 f_2378 fun v_2379 f_2380 => ?_
  obtain ⟨g_2383, h⟩ := gd_s h
  refine go_sld (by decide +kernel) f0 f_2380 g_2383 fun v_2381 f_2382 => ?_
  refine go_if (c := .eq) (o := 7) (t := 1615) (P := scr xs (w32 (y4 + 2)) = 0) (by decide +kernel) (by decide +kernel) f_2382 (Iff.rfl) (fun hp_2384 => ?_) (fun hp_2384 => ?_)
  · have h := it_t hp_2384 h
    refine go_iconst (n := 0) (z := 0) (by decide +kernel) (by decide) fun v_2385 f_2386 => ?_
    exact oj_L_law_1616 hd R_2358 l_2365 f0 l_2366 f1 l_2367 f2 l_2368 f3 l_2369 f4 l_2363 f_2356 f_2386 f_2375 f2 (fun mq b => hc mq (Ext.tr E_2361 b)) (fun b => hQ (Ext.tr E_2361 b)) h
  · have h := it_f hp_2384 h
    refine go_iconst (n := 1) (z := 1) (by decide +kernel) (by decide) fun v_2460 f_2461 => ?_
    refine go_goto (o := 4) (t := 1616) (by decide +kernel) (by decide +kernel) ?_
    exact oj_L_law_1616 hd R_2358 l_2365 f0 l_2366 f1 l_2367 f2 l_2368 f3 l_2369 f4 l_2363 f_2356 f_2461 f_2375 f2 (fun mq b => hc mq (Ext.tr E_2361 b)) (fun b => hQ (Ext.tr E_2361 b)) h
noncomputable def fj_L_law_1568 (xs : List Int32) (c : Int → MM → Option (Int × MM)) (y4 : Int) (m : MM) : Option (Int × MM) := gd (0 ≤ w32 (y4 + 1) ∧ w32 (y4 + 1) < (xs.length : Int)) <| gd (0 ≤ w32 (y4 + 2) ∧ w32 (y4 + 2) < (xs.length : Int)) <| if scr xs (w32 (y4 + 2)) = 0 then
fj_L_law_1589 xs c y4 0 (scr xs (w32 (y4 + 1))) m
else
fj_L_law_1589 xs c y4 1 (scr xs (w32 (y4 + 1))) m
set_option maxHeartbeats 4000000 in
theorem oj_L_law_1568 {xs : List Int32} {d : Nat} {S : QS} {L : QL} {Q : QO → QS → Prop} {m : MM} {y4 : Int} {v0 : Value} {v1 : Value} {v2 : Value} {v3 : Value} {v4 : Value}  {rz : Int} {rm : MM} {c : Int → MM → Option (Int × MM)} 
  (hd : 174 ≤ d) (R : Rp S m) (l0 : q_lo L 0 = some v0) (f0 : q_is 7 v0 0) (l1 : q_lo L 1 = some v1) (f1 : q_is 2 v1 4) (l2 : q_lo L 2 = some v2) (f2 : q_is 2 v2 68) (l3 : q_lo L 3 = some v3) (f3 : q_is 2 v3 162) (l4 : q_lo L 4 = some v4) (f4 : q_is 0 v4 y4)
  (hc : ∀ mq : MM, Ext m mq → ∀ {z4 : Int} {Sq : QS} {Lq : QL} {u0 : Value} {u1 : Value} {u2 : Value} {u3 : Value} {u4 : Value}, c z4 mq = some (rz, rm) → Rp Sq mq → q_lo Lq 0 = some u0 → q_is 7 u0 0 → q_lo Lq 1 = some u1 → q_is 2 u1 4 → q_lo Lq 2 = some u2 → q_is 2 u2 68 → q_lo Lq 3 = some u3 → q_is 2 u3 162 → q_lo Lq 4 = some u4 → q_is 0 u4 z4 → Go xs d qM_L_law 23 Lq [] Sq Q)
  (hQ : Ext m rm → ∀ o S1, Rp S1 rm → q_out 0 o rz → Q o S1)
  (h : fj_L_law_1568 xs c y4 m = some (rz, rm)) : Go xs d qM_L_law 1568 L [] S Q := by
  unfold fj_L_law_1568 at h
  refine go_aload_n (n := 1) (by decide +kernel) l1 f1 ?_
  refine go_aloadS (n := 0) (by decide +kernel) l0 f0 ?_
  refine go_iload (n := 4) (by decide +kernel) l4 f4 ?_
  refine go_iconst (n := 1) (z := 1) (by decide +kernel) (by decide) fun v_2335 f_2336 => ?_
  refine go_iadd (by decide +kernel) f4 f_2336 fun v_2337 f_2338 => ?_
  obtain ⟨g_2341, h⟩ := gd_s h
  refine go_sld (by decide +kernel) f0 f_2338 g_2341 fun v_2339 f_2340 => ?_
  refine go_aloadS (n := 0) (by decide +kernel) l0 f0 ?_
  refine go_iload (n := 4) (by decide +kernel) l4 f4 ?_
  refine go_iconst (n := 2) (z := 2) (by decide +kernel) (by decide) fun v_2342 f_2343 => ?_
  refine go_iadd (by decide +kernel) f4 f_2343 fun v_2344 f_2345 => ?_
  obtain ⟨g_2348, h⟩ := gd_s h
  refine go_sld (by decide +kernel) f0 f_2345 g_2348 fun v_2346 f_2347 => ?_
  refine go_if (c := .eq) (o := 7) (t := 1588) (P := scr xs (w32 (y4 + 2)) = 0) (by decide +kernel) (by decide +kernel) f_2347 (Iff.rfl) (fun hp_2349 => ?_) (fun hp_2349 => ?_)
  · have h := it_t hp_2349 h
    refine go_iconst (n := 0) (z := 0) (by decide +kernel) (by decide) fun v_2350 f_2351 => ?_
    exact oj_L_law_1589 hd R l0 f0 l1 f1 l2 f2 l3 f3 l4 f4 f_2351 f_2340 f1 hc hQ h
  · have h := it_f hp_2349 h
    refine go_iconst (n := 1) (z := 1) (by decide +kernel) (by decide) fun v_2462 f_2463 => ?_
    refine go_goto (o := 4) (t := 1589) (by decide +kernel) (by decide +kernel) ?_
    exact oj_L_law_1589 hd R l0 f0 l1 f1 l2 f2 l3 f3 l4 f4 f_2463 f_2340 f1 hc hQ h
noncomputable def fj_L_law_1659 (xs : List Int32) (c : Int → MM → Option (Int × MM)) (y4 : Int) (m : MM) : Option (Int × MM) := gd (0 ≤ w32 (y4 + 1) ∧ w32 (y4 + 1) < (xs.length : Int)) <| gd (0 ≤ w32 (y4 + 2) ∧ w32 (y4 + 2) < (xs.length : Int)) <| bd (fm_L_beat (scr xs (w32 (y4 + 1))) (scr xs (w32 (y4 + 2))) m) fun x_2481 m_2482 =>
bd (fm_X12_beat (scr xs (w32 (y4 + 1))) (scr xs (w32 (y4 + 2))) m_2482) fun x_2511 m_2512 =>
bp (fm_X12_thrown m_2512) fun x_2530 =>
if x_2530 = x_2481 then
if x_2481 = 0 then
lx (m_2512 162 0) fun x_2557 =>
if x_2557 = x_2511 then
lx (w32 (y4 + 7)) fun x_2569 =>
c x_2569 m_2512
else
some (0, m_2512)
else
lx (w32 (y4 + 7)) fun x_2545 =>
c x_2545 m_2512
else
some (0, m_2512)
set_option maxHeartbeats 4000000 in
theorem oj_L_law_1659 {xs : List Int32} {d : Nat} {S : QS} {L : QL} {Q : QO → QS → Prop} {m : MM} {y4 : Int} {v0 : Value} {v1 : Value} {v2 : Value} {v3 : Value} {v4 : Value}  {rz : Int} {rm : MM} {c : Int → MM → Option (Int × MM)} 
  (hd : 174 ≤ d) (R : Rp S m) (l0 : q_lo L 0 = some v0) (f0 : q_is 7 v0 0) (l1 : q_lo L 1 = some v1) (f1 : q_is 2 v1 4) (l2 : q_lo L 2 = some v2) (f2 : q_is 2 v2 68) (l3 : q_lo L 3 = some v3) (f3 : q_is 2 v3 162) (l4 : q_lo L 4 = some v4) (f4 : q_is 0 v4 y4)
  (hc : ∀ mq : MM, Ext m mq → ∀ {z4 : Int} {Sq : QS} {Lq : QL} {u0 : Value} {u1 : Value} {u2 : Value} {u3 : Value} {u4 : Value}, c z4 mq = some (rz, rm) → Rp Sq mq → q_lo Lq 0 = some u0 → q_is 7 u0 0 → q_lo Lq 1 = some u1 → q_is 2 u1 4 → q_lo Lq 2 = some u2 → q_is 2 u2 68 → q_lo Lq 3 = some u3 → q_is 2 u3 162 → q_lo Lq 4 = some u4 → q_is 0 u4 z4 → Go xs d qM_L_law 23 Lq [] Sq Q)
  (hQ : Ext m rm → ∀ o S1, Rp S1 rm → q_out 0 o rz → Q o S1)
  (h : fj_L_law_1659 xs c y4 m = some (rz, rm)) : Go xs d qM_L_law 1659 L [] S Q := by
  unfold fj_L_law_1659 at h
  refine go_aload_n (n := 1) (by decide +kernel) l1 f1 ?_
  refine go_aloadS (n := 0) (by decide +kernel) l0 f0 ?_
  refine go_iload (n := 4) (by decide +kernel) l4 f4 ?_
  refine go_iconst (n := 1) (z := 1) (by decide +kernel) (by decide) fun v_2466 f_2467 => ?_
  refine go_iadd (by decide +kernel) f4 f_2467 fun v_2468 f_2469 => ?_
  obtain ⟨g_2472, h⟩ := gd_s h
  refine go_sld (by decide +kernel) f0 f_2469 g_2472 fun v_2470 f_2471 => ?_
  refine go_aloadS (n := 0) (by decide +kernel) l0 f0 ?_
  refine go_iload (n := 4) (by decide +kernel) l4 f4 ?_
  refine go_iconst (n := 2) (z := 2) (by decide +kernel) (by decide) fun v_2473 f_2474 => ?_
  refine go_iadd (by decide +kernel) f4 f_2474 fun v_2475 f_2476 => ?_
  obtain ⟨g_2479, h⟩ := gd_s h
  refine go_sld (by decide +kernel) f0 f_2476 g_2479 fun v_2477 f_2478 => ?_
  refine go_aload_n (n := 3) (by decide +kernel) l3 f3 ?_
  obtain ⟨x_2481, m_2482, hc_2480, h⟩ := bd_s h
  refine go_callS (x := 215) (mi := 361) (n := 4) (b := 0) (as := [v1, v_2470, v_2477, v3]) (rest := []) (by decide +kernel) (by decide +kernel) rfl rfl (q_sum8 _ (Nat.le_of_ble_eq_true rfl)) (om_L_beat (Nat.le_trans (by decide) hd) R f1 f_2471 f_2478 f3 hc_2480) (fun _ S_2485 q_2488 => ?_) (fun _ _ qq => kr_x qq)
  refine kr_z (by decide) q_2488 fun v_2483 f_2484 R_2486 E_2487 => ?_
  have E_2489 := E_2487
  refine go_istore (n := 5) (by decide +kernel) (by decide +kernel) f_2484 fun L_2490 l_2491 kp_2492 => ?_
  have l_2493 := kp_2492 0 _ l0 (by decide) (Or.inl (by decide))
  have l_2494 := kp_2492 1 _ l1 (by decide) (Or.inl (by decide))
  have l_2495 := kp_2492 2 _ l2 (by decide) (Or.inl (by decide))
  have l_2496 := kp_2492 3 _ l3 (by decide) (Or.inl (by decide))
  have l_2497 := kp_2492 4 _ l4 (by decide) (Or.inr (q_is_cat f4 (Or.inl rfl)))
  refine go_aload_n (n := 2) (by decide +kernel) l_2495 f2 ?_
  refine go_aloadS (n := 0) (by decide +kernel) l_2493 f0 ?_
  refine go_iload (n := 4) (by decide +kernel) l_2497 f4 ?_
  refine go_iconst (n := 1) (z := 1) (by decide +kernel) (by decide) fun v_2498 f_2499 => ?_
  refine go_iadd (by decide +kernel) f4 f_2499 fun v_2500 f_2501 => ?_
  refine go_sld (by decide +kernel) f0 f_2501 g_2472 fun v_2502 f_2503 => ?_
  refine go_aloadS (n := 0) (by decide +kernel) l_2493 f0 ?_
  refine go_iload (n := 4) (by decide +kernel) l_2497 f4 ?_
  refine go_iconst (n := 2) (z := 2) (by decide +kernel) (by decide) fun v_2504 f_2505 => ?_
  refine go_iadd (by decide +kernel) f4 f_2505 fun v_2506 f_2507 => ?_
  refine go_sld (by decide +kernel) f0 f_2507 g_2479 fun v_2508 f_2509 => ?_
  obtain ⟨x_2511, m_2512, hc_2510, h⟩ := bd_s h
  refine go_callV (x := 217) (mi := 289) (n := 2) (ci := 13) (as := [v_2502, v_2508]) (rest := []) (by decide +kernel) (by decide +kernel) rfl rfl (q_sum8 _ (Nat.le_of_ble_eq_true rfl)) R_2486 f2 (fx_k (c := 13) R_2486 (by decide +kernel)) (om_X12_beat (Nat.le_trans (by decide) hd) R_2486 f2 f_2503 f_2509 hc_2510) (fun _ S_2515 q_2518 => ?_) (fun _ _ qq => kr_x qq)
  refine kr_z (by decide) q_2518 fun v_2513 f_2514 R_2516 E_2517 => ?_
  have E_2519 := Ext.tr E_2489 E_2517
  refine go_istore (n := 6) (by decide +kernel) (by decide +kernel) f_2514 fun L_2520 l_2521 kp_2522 => ?_
  have l_2523 := kp_2522 0 _ l_2493 (by decide) (Or.inl (by decide))
  have l_2524 := kp_2522 1 _ l_2494 (by decide) (Or.inl (by decide))
  have l_2525 := kp_2522 2 _ l_2495 (by decide) (Or.inl (by decide))
  have l_2526 := kp_2522 3 _ l_2496 (by decide) (Or.inl (by decide))
  have l_2527 := kp_2522 4 _ l_2497 (by decide) (Or.inl (by decide))
  have l_2528 := kp_2522 5 _ l_2491 (by decide) (Or.inr (q_is_cat f_2484 (Or.inl rfl)))
  refine go_aload_n (n := 2) (by decide +kernel) l_2525 f2 ?_
  obtain ⟨x_2530, hc_2529, h⟩ := bp_s h
  refine go_callV (x := 143) (mi := 185) (n := 0) (ci := 13) (as := []) (rest := []) (by decide +kernel) (by decide +kernel) rfl rfl (q_sum8 _ (Nat.le_of_ble_eq_true rfl)) R_2516 f2 (fx_k (c := 13) R_2516 (by decide +kernel)) (om_X12_thrown (Nat.le_trans (by decide) hd) R_2516 f2 hc_2529) (fun _ S_2534 q_2537 => ?_) (fun _ _ qq => kr_x qq)
  refine kr_z (by decide) q_2537 fun v_2532 f_2533 R_2535 E_2536 => ?_
  refine go_iload (n := 5) (by decide +kernel) l_2528 f_2484 ?_
  refine go_icmp (c := .eq) (o := 5) (t := 1707) (P := x_2530 = x_2481) (by decide +kernel) (by decide +kernel) f_2533 f_2484 (Iff.rfl) (fun hp_2538 => ?_) (fun hp_2538 => ?_)
  · have h := it_t hp_2538 h
    refine go_iload (n := 5) (by decide +kernel) l_2528 f_2484 ?_
    refine go_if (c := .ne) (o := 15) (t := 1724) (P := ¬ (x_2481 = 0)) (by decide +kernel) (by decide +kernel) f_2484 (Iff.rfl) (fun hp_2539 => ?_) (fun hp_2539 => ?_)
    · have h := it_f hp_2539 h
      refine go_goto (o := 873) (t := 2597) (by decide +kernel) (by decide +kernel) ?_
      refine go_iinc (n := 4) (c := 7) (c' := 7) (by decide +kernel) (by decide +kernel) l_2527 f4 (by decide) fun L_2540 v_2541 f_2542 l_2543 kp_2544 => ?_
      obtain ⟨x_2545, e_2546, h⟩ := lx_s h
      have f_2547 := q_is_eq f_2542 e_2546
      have l_2548 := kp_2544 0 _ l_2523 (by decide) (Or.inl (by decide))
      have l_2549 := kp_2544 1 _ l_2524 (by decide) (Or.inl (by decide))
      have l_2550 := kp_2544 2 _ l_2525 (by decide) (Or.inl (by decide))
      have l_2551 := kp_2544 3 _ l_2526 (by decide) (Or.inr (q_is_cat f3 (Or.inr rfl)))
      refine go_goto (o := (-2577)) (t := 23) (by decide +kernel) (by decide +kernel) ?_
      exact hc m_2512 E_2519 h R_2535 l_2548 f0 l_2549 f1 l_2550 f2 l_2551 f3 l_2543 f_2547
    · have h := it_n hp_2539 h
      refine go_aload_n (n := 3) (by decide +kernel) l_2526 f3 ?_
      refine go_iconst (n := 0) (z := 0) (by decide +kernel) (by decide) fun v_2552 f_2553 => ?_
      obtain ⟨x_2557, e_2558, h⟩ := lx_s h
      refine go_lald (kd := 101) (by decide +kernel) rfl R_2535 f3 f_2553 (fx_k (c := 101) R_2535 (by decide +kernel)) (fx_x (a := 162) (ln := 1) R_2535 (by decide +kernel) (by decide)) fun v_2554 f_2555 => ?_
      have f_2556 := q_is_eq f_2555 e_2558
      refine go_iload (n := 6) (by decide +kernel) l_2521 f_2514 ?_
      refine go_i2l (by decide +kernel) f_2514 fun v_2559 f_2560 => ?_
      refine go_lcmp (by decide +kernel) f_2556 f_2560 fun v_2561 f_2562 => ?_
      refine go_if (c := .eq) (o := 5) (t := 1724) (P := x_2557 = x_2511) (by decide +kernel) (by decide +kernel) f_2562 (lc_eq) (fun hp_2563 => ?_) (fun hp_2563 => ?_)
      · have h := it_t hp_2563 h
        refine go_goto (o := 873) (t := 2597) (by decide +kernel) (by decide +kernel) ?_
        refine go_iinc (n := 4) (c := 7) (c' := 7) (by decide +kernel) (by decide +kernel) l_2527 f4 (by decide) fun L_2564 v_2565 f_2566 l_2567 kp_2568 => ?_
        obtain ⟨x_2569, e_2570, h⟩ := lx_s h
        have f_2571 := q_is_eq f_2566 e_2570
        have l_2572 := kp_2568 0 _ l_2523 (by decide) (Or.inl (by decide))
        have l_2573 := kp_2568 1 _ l_2524 (by decide) (Or.inl (by decide))
        have l_2574 := kp_2568 2 _ l_2525 (by decide) (Or.inl (by decide))
        have l_2575 := kp_2568 3 _ l_2526 (by decide) (Or.inr (q_is_cat f3 (Or.inr rfl)))
        refine go_goto (o := (-2577)) (t := 23) (by decide +kernel) (by decide +kernel) ?_
        exact hc m_2512 E_2519 h R_2535 l_2572 f0 l_2573 f1 l_2574 f2 l_2575 f3 l_2567 f_2571
      · have h := it_f hp_2563 h
        refine go_iconst (n := 0) (z := 0) (by decide +kernel) (by decide) fun v_2576 f_2577 => ?_
        cases h
        exact go_iret (by decide +kernel) rfl (Or.inr ⟨rfl, by decide⟩) f_2577 (hQ E_2519 _ _ R_2535 (q_out_v (by decide) f_2577))
  · have h := it_f hp_2538 h
    refine go_iconst (n := 0) (z := 0) (by decide +kernel) (by decide) fun v_2578 f_2579 => ?_
    cases h
    exact go_iret (by decide +kernel) rfl (Or.inr ⟨rfl, by decide⟩) f_2579 (hQ E_2519 _ _ R_2535 (q_out_v (by decide) f_2579))
noncomputable def fj_L_law_1727 (xs : List Int32) (c : Int → MM → Option (Int × MM)) (y4 : Int) (m : MM) : Option (Int × MM) := gd (0 ≤ w32 (y4 + 1) ∧ w32 (y4 + 1) < (xs.length : Int)) <| bd (fm_L_activity (scr xs (w32 (y4 + 1))) m) fun x_2590 m_2591 =>
bd (fm_X12_activity (scr xs (w32 (y4 + 1))) m_2591) fun x_2614 m_2615 =>
bp (fm_X12_thrown m_2615) fun x_2633 =>
if x_2633 = x_2590 then
if x_2590 = 0 then
lx (m_2615 162 0) fun x_2660 =>
if x_2660 = x_2614 then
lx (w32 (y4 + 7)) fun x_2672 =>
c x_2672 m_2615
else
some (0, m_2615)
else
lx (w32 (y4 + 7)) fun x_2648 =>
c x_2648 m_2615
else
some (0, m_2615)
set_option maxHeartbeats 4000000 in
theorem oj_L_law_1727 {xs : List Int32} {d : Nat} {S : QS} {L : QL} {Q : QO → QS → Prop} {m : MM} {y4 : Int} {v0 : Value} {v1 : Value} {v2 : Value} {v3 : Value} {v4 : Value}  {rz : Int} {rm : MM} {c : Int → MM → Option (Int × MM)} 
  (hd : 174 ≤ d) (R : Rp S m) (l0 : q_lo L 0 = some v0) (f0 : q_is 7 v0 0) (l1 : q_lo L 1 = some v1) (f1 : q_is 2 v1 4) (l2 : q_lo L 2 = some v2) (f2 : q_is 2 v2 68) (l3 : q_lo L 3 = some v3) (f3 : q_is 2 v3 162) (l4 : q_lo L 4 = some v4) (f4 : q_is 0 v4 y4)
  (hc : ∀ mq : MM, Ext m mq → ∀ {z4 : Int} {Sq : QS} {Lq : QL} {u0 : Value} {u1 : Value} {u2 : Value} {u3 : Value} {u4 : Value}, c z4 mq = some (rz, rm) → Rp Sq mq → q_lo Lq 0 = some u0 → q_is 7 u0 0 → q_lo Lq 1 = some u1 → q_is 2 u1 4 → q_lo Lq 2 = some u2 → q_is 2 u2 68 → q_lo Lq 3 = some u3 → q_is 2 u3 162 → q_lo Lq 4 = some u4 → q_is 0 u4 z4 → Go xs d qM_L_law 23 Lq [] Sq Q)
  (hQ : Ext m rm → ∀ o S1, Rp S1 rm → q_out 0 o rz → Q o S1)
  (h : fj_L_law_1727 xs c y4 m = some (rz, rm)) : Go xs d qM_L_law 1727 L [] S Q := by
  unfold fj_L_law_1727 at h
  refine go_aload_n (n := 1) (by decide +kernel) l1 f1 ?_
  refine go_aloadS (n := 0) (by decide +kernel) l0 f0 ?_
  refine go_iload (n := 4) (by decide +kernel) l4 f4 ?_
  refine go_iconst (n := 1) (z := 1) (by decide +kernel) (by decide) fun v_2582 f_2583 => ?_
  refine go_iadd (by decide +kernel) f4 f_2583 fun v_2584 f_2585 => ?_
  obtain ⟨g_2588, h⟩ := gd_s h
  refine go_sld (by decide +kernel) f0 f_2585 g_2588 fun v_2586 f_2587 => ?_
  refine go_aload_n (n := 3) (by decide +kernel) l3 f3 ?_
  obtain ⟨x_2590, m_2591, hc_2589, h⟩ := bd_s h
  refine go_callS (x := 218) (mi := 362) (n := 3) (b := 0) (as := [v1, v_2586, v3]) (rest := []) (by decide +kernel) (by decide +kernel) rfl rfl (q_sum8 _ (Nat.le_of_ble_eq_true rfl)) (om_L_activity (Nat.le_trans (by decide) hd) R f1 f_2587 f3 hc_2589) (fun _ S_2594 q_2597 => ?_) (fun _ _ qq => kr_x qq)
  refine kr_z (by decide) q_2597 fun v_2592 f_2593 R_2595 E_2596 => ?_
  have E_2598 := E_2596
  refine go_istore (n := 5) (by decide +kernel) (by decide +kernel) f_2593 fun L_2599 l_2600 kp_2601 => ?_
  have l_2602 := kp_2601 0 _ l0 (by decide) (Or.inl (by decide))
  have l_2603 := kp_2601 1 _ l1 (by decide) (Or.inl (by decide))
  have l_2604 := kp_2601 2 _ l2 (by decide) (Or.inl (by decide))
  have l_2605 := kp_2601 3 _ l3 (by decide) (Or.inl (by decide))
  have l_2606 := kp_2601 4 _ l4 (by decide) (Or.inr (q_is_cat f4 (Or.inl rfl)))
  refine go_aload_n (n := 2) (by decide +kernel) l_2604 f2 ?_
  refine go_aloadS (n := 0) (by decide +kernel) l_2602 f0 ?_
  refine go_iload (n := 4) (by decide +kernel) l_2606 f4 ?_
  refine go_iconst (n := 1) (z := 1) (by decide +kernel) (by decide) fun v_2607 f_2608 => ?_
  refine go_iadd (by decide +kernel) f4 f_2608 fun v_2609 f_2610 => ?_
  refine go_sld (by decide +kernel) f0 f_2610 g_2588 fun v_2611 f_2612 => ?_
  obtain ⟨x_2614, m_2615, hc_2613, h⟩ := bd_s h
  refine go_callV (x := 220) (mi := 290) (n := 1) (ci := 13) (as := [v_2611]) (rest := []) (by decide +kernel) (by decide +kernel) rfl rfl (q_sum8 _ (Nat.le_of_ble_eq_true rfl)) R_2595 f2 (fx_k (c := 13) R_2595 (by decide +kernel)) (om_X12_activity (Nat.le_trans (by decide) hd) R_2595 f2 f_2612 hc_2613) (fun _ S_2618 q_2621 => ?_) (fun _ _ qq => kr_x qq)
  refine kr_z (by decide) q_2621 fun v_2616 f_2617 R_2619 E_2620 => ?_
  have E_2622 := Ext.tr E_2598 E_2620
  refine go_istore (n := 6) (by decide +kernel) (by decide +kernel) f_2617 fun L_2623 l_2624 kp_2625 => ?_
  have l_2626 := kp_2625 0 _ l_2602 (by decide) (Or.inl (by decide))
  have l_2627 := kp_2625 1 _ l_2603 (by decide) (Or.inl (by decide))
  have l_2628 := kp_2625 2 _ l_2604 (by decide) (Or.inl (by decide))
  have l_2629 := kp_2625 3 _ l_2605 (by decide) (Or.inl (by decide))
  have l_2630 := kp_2625 4 _ l_2606 (by decide) (Or.inl (by decide))
  have l_2631 := kp_2625 5 _ l_2600 (by decide) (Or.inr (q_is_cat f_2593 (Or.inl rfl)))
  refine go_aload_n (n := 2) (by decide +kernel) l_2628 f2 ?_
  obtain ⟨x_2633, hc_2632, h⟩ := bp_s h
  refine go_callV (x := 143) (mi := 185) (n := 0) (ci := 13) (as := []) (rest := []) (by decide +kernel) (by decide +kernel) rfl rfl (q_sum8 _ (Nat.le_of_ble_eq_true rfl)) R_2619 f2 (fx_k (c := 13) R_2619 (by decide +kernel)) (om_X12_thrown (Nat.le_trans (by decide) hd) R_2619 f2 hc_2632) (fun _ S_2637 q_2640 => ?_) (fun _ _ qq => kr_x qq)
  refine kr_z (by decide) q_2640 fun v_2635 f_2636 R_2638 E_2639 => ?_
  refine go_iload (n := 5) (by decide +kernel) l_2631 f_2593 ?_
  refine go_icmp (c := .eq) (o := 5) (t := 1763) (P := x_2633 = x_2590) (by decide +kernel) (by decide +kernel) f_2636 f_2593 (Iff.rfl) (fun hp_2641 => ?_) (fun hp_2641 => ?_)
  · have h := it_t hp_2641 h
    refine go_iload (n := 5) (by decide +kernel) l_2631 f_2593 ?_
    refine go_if (c := .ne) (o := 15) (t := 1780) (P := ¬ (x_2590 = 0)) (by decide +kernel) (by decide +kernel) f_2593 (Iff.rfl) (fun hp_2642 => ?_) (fun hp_2642 => ?_)
    · have h := it_f hp_2642 h
      refine go_goto (o := 817) (t := 2597) (by decide +kernel) (by decide +kernel) ?_
      refine go_iinc (n := 4) (c := 7) (c' := 7) (by decide +kernel) (by decide +kernel) l_2630 f4 (by decide) fun L_2643 v_2644 f_2645 l_2646 kp_2647 => ?_
      obtain ⟨x_2648, e_2649, h⟩ := lx_s h
      have f_2650 := q_is_eq f_2645 e_2649
      have l_2651 := kp_2647 0 _ l_2626 (by decide) (Or.inl (by decide))
      have l_2652 := kp_2647 1 _ l_2627 (by decide) (Or.inl (by decide))
      have l_2653 := kp_2647 2 _ l_2628 (by decide) (Or.inl (by decide))
      have l_2654 := kp_2647 3 _ l_2629 (by decide) (Or.inr (q_is_cat f3 (Or.inr rfl)))
      refine go_goto (o := (-2577)) (t := 23) (by decide +kernel) (by decide +kernel) ?_
      exact hc m_2615 E_2622 h R_2638 l_2651 f0 l_2652 f1 l_2653 f2 l_2654 f3 l_2646 f_2650
    · have h := it_n hp_2642 h
      refine go_aload_n (n := 3) (by decide +kernel) l_2629 f3 ?_
      refine go_iconst (n := 0) (z := 0) (by decide +kernel) (by decide) fun v_2655 f_2656 => ?_
      obtain ⟨x_2660, e_2661, h⟩ := lx_s h
      refine go_lald (kd := 101) (by decide +kernel) rfl R_2638 f3 f_2656 (fx_k (c := 101) R_2638 (by decide +kernel)) (fx_x (a := 162) (ln := 1) R_2638 (by decide +kernel) (by decide)) fun v_2657 f_2658 => ?_
      have f_2659 := q_is_eq f_2658 e_2661
      refine go_iload (n := 6) (by decide +kernel) l_2624 f_2617 ?_
      refine go_i2l (by decide +kernel) f_2617 fun v_2662 f_2663 => ?_
      refine go_lcmp (by decide +kernel) f_2659 f_2663 fun v_2664 f_2665 => ?_
      refine go_if (c := .eq) (o := 5) (t := 1780) (P := x_2660 = x_2614) (by decide +kernel) (by decide +kernel) f_2665 (lc_eq) (fun hp_2666 => ?_) (fun hp_2666 => ?_)
      · have h := it_t hp_2666 h
        refine go_goto (o := 817) (t := 2597) (by decide +kernel) (by decide +kernel) ?_
        refine go_iinc (n := 4) (c := 7) (c' := 7) (by decide +kernel) (by decide +kernel) l_2630 f4 (by decide) fun L_2667 v_2668 f_2669 l_2670 kp_2671 => ?_
        obtain ⟨x_2672, e_2673, h⟩ := lx_s h
        have f_2674 := q_is_eq f_2669 e_2673
        have l_2675 := kp_2671 0 _ l_2626 (by decide) (Or.inl (by decide))
        have l_2676 := kp_2671 1 _ l_2627 (by decide) (Or.inl (by decide))
        have l_2677 := kp_2671 2 _ l_2628 (by decide) (Or.inl (by decide))
        have l_2678 := kp_2671 3 _ l_2629 (by decide) (Or.inr (q_is_cat f3 (Or.inr rfl)))
        refine go_goto (o := (-2577)) (t := 23) (by decide +kernel) (by decide +kernel) ?_
        exact hc m_2615 E_2622 h R_2638 l_2675 f0 l_2676 f1 l_2677 f2 l_2678 f3 l_2670 f_2674
      · have h := it_f hp_2666 h
        refine go_iconst (n := 0) (z := 0) (by decide +kernel) (by decide) fun v_2679 f_2680 => ?_
        cases h
        exact go_iret (by decide +kernel) rfl (Or.inr ⟨rfl, by decide⟩) f_2680 (hQ E_2622 _ _ R_2638 (q_out_v (by decide) f_2680))
  · have h := it_f hp_2641 h
    refine go_iconst (n := 0) (z := 0) (by decide +kernel) (by decide) fun v_2681 f_2682 => ?_
    cases h
    exact go_iret (by decide +kernel) rfl (Or.inr ⟨rfl, by decide⟩) f_2682 (hQ E_2622 _ _ R_2638 (q_out_v (by decide) f_2682))
noncomputable def fj_L_law_1783 (xs : List Int32) (c : Int → MM → Option (Int × MM)) (y4 : Int) (m : MM) : Option (Int × MM) := gd (0 ≤ w32 (y4 + 1) ∧ w32 (y4 + 1) < (xs.length : Int)) <| bd (fm_L_pass (scr xs (w32 (y4 + 1))) m) fun x_2693 m_2694 =>
bd (fm_X12_pass (scr xs (w32 (y4 + 1))) m_2694) fun x_2717 m_2718 =>
bp (fm_X12_thrown m_2718) fun x_2736 =>
if x_2736 = x_2693 then
if x_2693 = 0 then
lx (m_2718 162 0) fun x_2763 =>
if x_2763 = x_2717 then
lx (w32 (y4 + 7)) fun x_2775 =>
c x_2775 m_2718
else
some (0, m_2718)
else
lx (w32 (y4 + 7)) fun x_2751 =>
c x_2751 m_2718
else
some (0, m_2718)
set_option maxHeartbeats 4000000 in
theorem oj_L_law_1783 {xs : List Int32} {d : Nat} {S : QS} {L : QL} {Q : QO → QS → Prop} {m : MM} {y4 : Int} {v0 : Value} {v1 : Value} {v2 : Value} {v3 : Value} {v4 : Value}  {rz : Int} {rm : MM} {c : Int → MM → Option (Int × MM)} 
  (hd : 174 ≤ d) (R : Rp S m) (l0 : q_lo L 0 = some v0) (f0 : q_is 7 v0 0) (l1 : q_lo L 1 = some v1) (f1 : q_is 2 v1 4) (l2 : q_lo L 2 = some v2) (f2 : q_is 2 v2 68) (l3 : q_lo L 3 = some v3) (f3 : q_is 2 v3 162) (l4 : q_lo L 4 = some v4) (f4 : q_is 0 v4 y4)
  (hc : ∀ mq : MM, Ext m mq → ∀ {z4 : Int} {Sq : QS} {Lq : QL} {u0 : Value} {u1 : Value} {u2 : Value} {u3 : Value} {u4 : Value}, c z4 mq = some (rz, rm) → Rp Sq mq → q_lo Lq 0 = some u0 → q_is 7 u0 0 → q_lo Lq 1 = some u1 → q_is 2 u1 4 → q_lo Lq 2 = some u2 → q_is 2 u2 68 → q_lo Lq 3 = some u3 → q_is 2 u3 162 → q_lo Lq 4 = some u4 → q_is 0 u4 z4 → Go xs d qM_L_law 23 Lq [] Sq Q)
  (hQ : Ext m rm → ∀ o S1, Rp S1 rm → q_out 0 o rz → Q o S1)
  (h : fj_L_law_1783 xs c y4 m = some (rz, rm)) : Go xs d qM_L_law 1783 L [] S Q := by
  unfold fj_L_law_1783 at h
  refine go_aload_n (n := 1) (by decide +kernel) l1 f1 ?_
  refine go_aloadS (n := 0) (by decide +kernel) l0 f0 ?_
  refine go_iload (n := 4) (by decide +kernel) l4 f4 ?_
  refine go_iconst (n := 1) (z := 1) (by decide +kernel) (by decide) fun v_2685 f_2686 => ?_
  refine go_iadd (by decide +kernel) f4 f_2686 fun v_2687 f_2688 => ?_
  obtain ⟨g_2691, h⟩ := gd_s h
  refine go_sld (by decide +kernel) f0 f_2688 g_2691 fun v_2689 f_2690 => ?_
  refine go_aload_n (n := 3) (by decide +kernel) l3 f3 ?_
  obtain ⟨x_2693, m_2694, hc_2692, h⟩ := bd_s h
  refine go_callS (x := 221) (mi := 363) (n := 3) (b := 0) (as := [v1, v_2689, v3]) (rest := []) (by decide +kernel) (by decide +kernel) rfl rfl (q_sum8 _ (Nat.le_of_ble_eq_true rfl)) (om_L_pass (Nat.le_trans (by decide) hd) R f1 f_2690 f3 hc_2692) (fun _ S_2697 q_2700 => ?_) (fun _ _ qq => kr_x qq)
  refine kr_z (by decide) q_2700 fun v_2695 f_2696 R_2698 E_2699 => ?_
  have E_2701 := E_2699
  refine go_istore (n := 5) (by decide +kernel) (by decide +kernel) f_2696 fun L_2702 l_2703 kp_2704 => ?_
  have l_2705 := kp_2704 0 _ l0 (by decide) (Or.inl (by decide))
  have l_2706 := kp_2704 1 _ l1 (by decide) (Or.inl (by decide))
  have l_2707 := kp_2704 2 _ l2 (by decide) (Or.inl (by decide))
  have l_2708 := kp_2704 3 _ l3 (by decide) (Or.inl (by decide))
  have l_2709 := kp_2704 4 _ l4 (by decide) (Or.inr (q_is_cat f4 (Or.inl rfl)))
  refine go_aload_n (n := 2) (by decide +kernel) l_2707 f2 ?_
  refine go_aloadS (n := 0) (by decide +kernel) l_2705 f0 ?_
  refine go_iload (n := 4) (by decide +kernel) l_2709 f4 ?_
  refine go_iconst (n := 1) (z := 1) (by decide +kernel) (by decide) fun v_2710 f_2711 => ?_
  refine go_iadd (by decide +kernel) f4 f_2711 fun v_2712 f_2713 => ?_
  refine go_sld (by decide +kernel) f0 f_2713 g_2691 fun v_2714 f_2715 => ?_
  obtain ⟨x_2717, m_2718, hc_2716, h⟩ := bd_s h
  refine go_callV (x := 223) (mi := 293) (n := 1) (ci := 13) (as := [v_2714]) (rest := []) (by decide +kernel) (by decide +kernel) rfl rfl (q_sum8 _ (Nat.le_of_ble_eq_true rfl)) R_2698 f2 (fx_k (c := 13) R_2698 (by decide +kernel)) (om_X12_pass (Nat.le_trans (by decide) hd) R_2698 f2 f_2715 hc_2716) (fun _ S_2721 q_2724 => ?_) (fun _ _ qq => kr_x qq)
  refine kr_z (by decide) q_2724 fun v_2719 f_2720 R_2722 E_2723 => ?_
  have E_2725 := Ext.tr E_2701 E_2723
  refine go_istore (n := 6) (by decide +kernel) (by decide +kernel) f_2720 fun L_2726 l_2727 kp_2728 => ?_
  have l_2729 := kp_2728 0 _ l_2705 (by decide) (Or.inl (by decide))
  have l_2730 := kp_2728 1 _ l_2706 (by decide) (Or.inl (by decide))
  have l_2731 := kp_2728 2 _ l_2707 (by decide) (Or.inl (by decide))
  have l_2732 := kp_2728 3 _ l_2708 (by decide) (Or.inl (by decide))
  have l_2733 := kp_2728 4 _ l_2709 (by decide) (Or.inl (by decide))
  have l_2734 := kp_2728 5 _ l_2703 (by decide) (Or.inr (q_is_cat f_2696 (Or.inl rfl)))
  refine go_aload_n (n := 2) (by decide +kernel) l_2731 f2 ?_
  obtain ⟨x_2736, hc_2735, h⟩ := bp_s h
  refine go_callV (x := 143) (mi := 185) (n := 0) (ci := 13) (as := []) (rest := []) (by decide +kernel) (by decide +kernel) rfl rfl (q_sum8 _ (Nat.le_of_ble_eq_true rfl)) R_2722 f2 (fx_k (c := 13) R_2722 (by decide +kernel)) (om_X12_thrown (Nat.le_trans (by decide) hd) R_2722 f2 hc_2735) (fun _ S_2740 q_2743 => ?_) (fun _ _ qq => kr_x qq)
  refine kr_z (by decide) q_2743 fun v_2738 f_2739 R_2741 E_2742 => ?_
  refine go_iload (n := 5) (by decide +kernel) l_2734 f_2696 ?_
  refine go_icmp (c := .eq) (o := 5) (t := 1819) (P := x_2736 = x_2693) (by decide +kernel) (by decide +kernel) f_2739 f_2696 (Iff.rfl) (fun hp_2744 => ?_) (fun hp_2744 => ?_)
  · have h := it_t hp_2744 h
    refine go_iload (n := 5) (by decide +kernel) l_2734 f_2696 ?_
    refine go_if (c := .ne) (o := 15) (t := 1836) (P := ¬ (x_2693 = 0)) (by decide +kernel) (by decide +kernel) f_2696 (Iff.rfl) (fun hp_2745 => ?_) (fun hp_2745 => ?_)
    · have h := it_f hp_2745 h
      refine go_goto (o := 761) (t := 2597) (by decide +kernel) (by decide +kernel) ?_
      refine go_iinc (n := 4) (c := 7) (c' := 7) (by decide +kernel) (by decide +kernel) l_2733 f4 (by decide) fun L_2746 v_2747 f_2748 l_2749 kp_2750 => ?_
      obtain ⟨x_2751, e_2752, h⟩ := lx_s h
      have f_2753 := q_is_eq f_2748 e_2752
      have l_2754 := kp_2750 0 _ l_2729 (by decide) (Or.inl (by decide))
      have l_2755 := kp_2750 1 _ l_2730 (by decide) (Or.inl (by decide))
      have l_2756 := kp_2750 2 _ l_2731 (by decide) (Or.inl (by decide))
      have l_2757 := kp_2750 3 _ l_2732 (by decide) (Or.inr (q_is_cat f3 (Or.inr rfl)))
      refine go_goto (o := (-2577)) (t := 23) (by decide +kernel) (by decide +kernel) ?_
      exact hc m_2718 E_2725 h R_2741 l_2754 f0 l_2755 f1 l_2756 f2 l_2757 f3 l_2749 f_2753
    · have h := it_n hp_2745 h
      refine go_aload_n (n := 3) (by decide +kernel) l_2732 f3 ?_
      refine go_iconst (n := 0) (z := 0) (by decide +kernel) (by decide) fun v_2758 f_2759 => ?_
      obtain ⟨x_2763, e_2764, h⟩ := lx_s h
      refine go_lald (kd := 101) (by decide +kernel) rfl R_2741 f3 f_2759 (fx_k (c := 101) R_2741 (by decide +kernel)) (fx_x (a := 162) (ln := 1) R_2741 (by decide +kernel) (by decide)) fun v_2760 f_2761 => ?_
      have f_2762 := q_is_eq f_2761 e_2764
      refine go_iload (n := 6) (by decide +kernel) l_2727 f_2720 ?_
      refine go_i2l (by decide +kernel) f_2720 fun v_2765 f_2766 => ?_
      refine go_lcmp (by decide +kernel) f_2762 f_2766 fun v_2767 f_2768 => ?_
      refine go_if (c := .eq) (o := 5) (t := 1836) (P := x_2763 = x_2717) (by decide +kernel) (by decide +kernel) f_2768 (lc_eq) (fun hp_2769 => ?_) (fun hp_2769 => ?_)
      · have h := it_t hp_2769 h
        refine go_goto (o := 761) (t := 2597) (by decide +kernel) (by decide +kernel) ?_
        refine go_iinc (n := 4) (c := 7) (c' := 7) (by decide +kernel) (by decide +kernel) l_2733 f4 (by decide) fun L_2770 v_2771 f_2772 l_2773 kp_2774 => ?_
        obtain ⟨x_2775, e_2776, h⟩ := lx_s h
        have f_2777 := q_is_eq f_2772 e_2776
        have l_2778 := kp_2774 0 _ l_2729 (by decide) (Or.inl (by decide))
        have l_2779 := kp_2774 1 _ l_2730 (by decide) (Or.inl (by decide))
        have l_2780 := kp_2774 2 _ l_2731 (by decide) (Or.inl (by decide))
        have l_2781 := kp_2774 3 _ l_2732 (by decide) (Or.inr (q_is_cat f3 (Or.inr rfl)))
        refine go_goto (o := (-2577)) (t := 23) (by decide +kernel) (by decide +kernel) ?_
        exact hc m_2718 E_2725 h R_2741 l_2778 f0 l_2779 f1 l_2780 f2 l_2781 f3 l_2773 f_2777
      · have h := it_f hp_2769 h
        refine go_iconst (n := 0) (z := 0) (by decide +kernel) (by decide) fun v_2782 f_2783 => ?_
        cases h
        exact go_iret (by decide +kernel) rfl (Or.inr ⟨rfl, by decide⟩) f_2783 (hQ E_2725 _ _ R_2741 (q_out_v (by decide) f_2783))
  · have h := it_f hp_2744 h
    refine go_iconst (n := 0) (z := 0) (by decide +kernel) (by decide) fun v_2784 f_2785 => ?_
    cases h
    exact go_iret (by decide +kernel) rfl (Or.inr ⟨rfl, by decide⟩) f_2785 (hQ E_2725 _ _ R_2741 (q_out_v (by decide) f_2785))
noncomputable def fj_L_law_1839 (xs : List Int32) (c : Int → MM → Option (Int × MM)) (y4 : Int) (m : MM) : Option (Int × MM) := gd (0 ≤ w32 (y4 + 1) ∧ w32 (y4 + 1) < (xs.length : Int)) <| gd (0 ≤ w32 (y4 + 2) ∧ w32 (y4 + 2) < (xs.length : Int)) <| bd (fm_L_unsafe (scr xs (w32 (y4 + 1))) (scr xs (w32 (y4 + 2))) m) fun x_2803 m_2804 =>
bd (fm_X12_unsafe (scr xs (w32 (y4 + 1))) (scr xs (w32 (y4 + 2))) m_2804) fun x_2833 m_2834 =>
bp (fm_X12_thrown m_2834) fun x_2852 =>
if x_2852 = x_2803 then
if x_2803 = 0 then
lx (m_2834 162 0) fun x_2879 =>
if x_2879 = x_2833 then
lx (w32 (y4 + 7)) fun x_2891 =>
c x_2891 m_2834
else
some (0, m_2834)
else
lx (w32 (y4 + 7)) fun x_2867 =>
c x_2867 m_2834
else
some (0, m_2834)
set_option maxHeartbeats 4000000 in
theorem oj_L_law_1839 {xs : List Int32} {d : Nat} {S : QS} {L : QL} {Q : QO → QS → Prop} {m : MM} {y4 : Int} {v0 : Value} {v1 : Value} {v2 : Value} {v3 : Value} {v4 : Value}  {rz : Int} {rm : MM} {c : Int → MM → Option (Int × MM)} 
  (hd : 174 ≤ d) (R : Rp S m) (l0 : q_lo L 0 = some v0) (f0 : q_is 7 v0 0) (l1 : q_lo L 1 = some v1) (f1 : q_is 2 v1 4) (l2 : q_lo L 2 = some v2) (f2 : q_is 2 v2 68) (l3 : q_lo L 3 = some v3) (f3 : q_is 2 v3 162) (l4 : q_lo L 4 = some v4) (f4 : q_is 0 v4 y4)
  (hc : ∀ mq : MM, Ext m mq → ∀ {z4 : Int} {Sq : QS} {Lq : QL} {u0 : Value} {u1 : Value} {u2 : Value} {u3 : Value} {u4 : Value}, c z4 mq = some (rz, rm) → Rp Sq mq → q_lo Lq 0 = some u0 → q_is 7 u0 0 → q_lo Lq 1 = some u1 → q_is 2 u1 4 → q_lo Lq 2 = some u2 → q_is 2 u2 68 → q_lo Lq 3 = some u3 → q_is 2 u3 162 → q_lo Lq 4 = some u4 → q_is 0 u4 z4 → Go xs d qM_L_law 23 Lq [] Sq Q)
  (hQ : Ext m rm → ∀ o S1, Rp S1 rm → q_out 0 o rz → Q o S1)
  (h : fj_L_law_1839 xs c y4 m = some (rz, rm)) : Go xs d qM_L_law 1839 L [] S Q := by
  unfold fj_L_law_1839 at h
  refine go_aload_n (n := 1) (by decide +kernel) l1 f1 ?_
  refine go_aloadS (n := 0) (by decide +kernel) l0 f0 ?_
  refine go_iload (n := 4) (by decide +kernel) l4 f4 ?_
  refine go_iconst (n := 1) (z := 1) (by decide +kernel) (by decide) fun v_2788 f_2789 => ?_
  refine go_iadd (by decide +kernel) f4 f_2789 fun v_2790 f_2791 => ?_
  obtain ⟨g_2794, h⟩ := gd_s h
  refine go_sld (by decide +kernel) f0 f_2791 g_2794 fun v_2792 f_2793 => ?_
  refine go_aloadS (n := 0) (by decide +kernel) l0 f0 ?_
  refine go_iload (n := 4) (by decide +kernel) l4 f4 ?_
  refine go_iconst (n := 2) (z := 2) (by decide +kernel) (by decide) fun v_2795 f_2796 => ?_
  refine go_iadd (by decide +kernel) f4 f_2796 fun v_2797 f_2798 => ?_
  obtain ⟨g_2801, h⟩ := gd_s h
  refine go_sld (by decide +kernel) f0 f_2798 g_2801 fun v_2799 f_2800 => ?_
  refine go_aload_n (n := 3) (by decide +kernel) l3 f3 ?_
  obtain ⟨x_2803, m_2804, hc_2802, h⟩ := bd_s h
  refine go_callS (x := 224) (mi := 364) (n := 4) (b := 0) (as := [v1, v_2792, v_2799, v3]) (rest := []) (by decide +kernel) (by decide +kernel) rfl rfl (q_sum8 _ (Nat.le_of_ble_eq_true rfl)) (om_L_unsafe (Nat.le_trans (by decide) hd) R f1 f_2793 f_2800 f3 hc_2802) (fun _ S_2807 q_2810 => ?_) (fun _ _ qq => kr_x qq)
  refine kr_z (by decide) q_2810 fun v_2805 f_2806 R_2808 E_2809 => ?_
  have E_2811 := E_2809
  refine go_istore (n := 5) (by decide +kernel) (by decide +kernel) f_2806 fun L_2812 l_2813 kp_2814 => ?_
  have l_2815 := kp_2814 0 _ l0 (by decide) (Or.inl (by decide))
  have l_2816 := kp_2814 1 _ l1 (by decide) (Or.inl (by decide))
  have l_2817 := kp_2814 2 _ l2 (by decide) (Or.inl (by decide))
  have l_2818 := kp_2814 3 _ l3 (by decide) (Or.inl (by decide))
  have l_2819 := kp_2814 4 _ l4 (by decide) (Or.inr (q_is_cat f4 (Or.inl rfl)))
  refine go_aload_n (n := 2) (by decide +kernel) l_2817 f2 ?_
  refine go_aloadS (n := 0) (by decide +kernel) l_2815 f0 ?_
  refine go_iload (n := 4) (by decide +kernel) l_2819 f4 ?_
  refine go_iconst (n := 1) (z := 1) (by decide +kernel) (by decide) fun v_2820 f_2821 => ?_
  refine go_iadd (by decide +kernel) f4 f_2821 fun v_2822 f_2823 => ?_
  refine go_sld (by decide +kernel) f0 f_2823 g_2794 fun v_2824 f_2825 => ?_
  refine go_aloadS (n := 0) (by decide +kernel) l_2815 f0 ?_
  refine go_iload (n := 4) (by decide +kernel) l_2819 f4 ?_
  refine go_iconst (n := 2) (z := 2) (by decide +kernel) (by decide) fun v_2826 f_2827 => ?_
  refine go_iadd (by decide +kernel) f4 f_2827 fun v_2828 f_2829 => ?_
  refine go_sld (by decide +kernel) f0 f_2829 g_2801 fun v_2830 f_2831 => ?_
  obtain ⟨x_2833, m_2834, hc_2832, h⟩ := bd_s h
  refine go_callV (x := 226) (mi := 295) (n := 2) (ci := 13) (as := [v_2824, v_2830]) (rest := []) (by decide +kernel) (by decide +kernel) rfl rfl (q_sum8 _ (Nat.le_of_ble_eq_true rfl)) R_2808 f2 (fx_k (c := 13) R_2808 (by decide +kernel)) (om_X12_unsafe (Nat.le_trans (by decide) hd) R_2808 f2 f_2825 f_2831 hc_2832) (fun _ S_2837 q_2840 => ?_) (fun _ _ qq => kr_x qq)
  refine kr_z (by decide) q_2840 fun v_2835 f_2836 R_2838 E_2839 => ?_
  have E_2841 := Ext.tr E_2811 E_2839
  refine go_istore (n := 6) (by decide +kernel) (by decide +kernel) f_2836 fun L_2842 l_2843 kp_2844 => ?_
  have l_2845 := kp_2844 0 _ l_2815 (by decide) (Or.inl (by decide))
  have l_2846 := kp_2844 1 _ l_2816 (by decide) (Or.inl (by decide))
  have l_2847 := kp_2844 2 _ l_2817 (by decide) (Or.inl (by decide))
  have l_2848 := kp_2844 3 _ l_2818 (by decide) (Or.inl (by decide))
  have l_2849 := kp_2844 4 _ l_2819 (by decide) (Or.inl (by decide))
  have l_2850 := kp_2844 5 _ l_2813 (by decide) (Or.inr (q_is_cat f_2806 (Or.inl rfl)))
  refine go_aload_n (n := 2) (by decide +kernel) l_2847 f2 ?_
  obtain ⟨x_2852, hc_2851, h⟩ := bp_s h
  refine go_callV (x := 143) (mi := 185) (n := 0) (ci := 13) (as := []) (rest := []) (by decide +kernel) (by decide +kernel) rfl rfl (q_sum8 _ (Nat.le_of_ble_eq_true rfl)) R_2838 f2 (fx_k (c := 13) R_2838 (by decide +kernel)) (om_X12_thrown (Nat.le_trans (by decide) hd) R_2838 f2 hc_2851) (fun _ S_2856 q_2859 => ?_) (fun _ _ qq => kr_x qq)
  refine kr_z (by decide) q_2859 fun v_2854 f_2855 R_2857 E_2858 => ?_
  refine go_iload (n := 5) (by decide +kernel) l_2850 f_2806 ?_
  refine go_icmp (c := .eq) (o := 5) (t := 1887) (P := x_2852 = x_2803) (by decide +kernel) (by decide +kernel) f_2855 f_2806 (Iff.rfl) (fun hp_2860 => ?_) (fun hp_2860 => ?_)
  · have h := it_t hp_2860 h
    refine go_iload (n := 5) (by decide +kernel) l_2850 f_2806 ?_
    refine go_if (c := .ne) (o := 15) (t := 1904) (P := ¬ (x_2803 = 0)) (by decide +kernel) (by decide +kernel) f_2806 (Iff.rfl) (fun hp_2861 => ?_) (fun hp_2861 => ?_)
    · have h := it_f hp_2861 h
      refine go_goto (o := 693) (t := 2597) (by decide +kernel) (by decide +kernel) ?_
      refine go_iinc (n := 4) (c := 7) (c' := 7) (by decide +kernel) (by decide +kernel) l_2849 f4 (by decide) fun L_2862 v_2863 f_2864 l_2865 kp_2866 => ?_
      obtain ⟨x_2867, e_2868, h⟩ := lx_s h
      have f_2869 := q_is_eq f_2864 e_2868
      have l_2870 := kp_2866 0 _ l_2845 (by decide) (Or.inl (by decide))
      have l_2871 := kp_2866 1 _ l_2846 (by decide) (Or.inl (by decide))
      have l_2872 := kp_2866 2 _ l_2847 (by decide) (Or.inl (by decide))
      have l_2873 := kp_2866 3 _ l_2848 (by decide) (Or.inr (q_is_cat f3 (Or.inr rfl)))
      refine go_goto (o := (-2577)) (t := 23) (by decide +kernel) (by decide +kernel) ?_
      exact hc m_2834 E_2841 h R_2857 l_2870 f0 l_2871 f1 l_2872 f2 l_2873 f3 l_2865 f_2869
    · have h := it_n hp_2861 h
      refine go_aload_n (n := 3) (by decide +kernel) l_2848 f3 ?_
      refine go_iconst (n := 0) (z := 0) (by decide +kernel) (by decide) fun v_2874 f_2875 => ?_
      obtain ⟨x_2879, e_2880, h⟩ := lx_s h
      refine go_lald (kd := 101) (by decide +kernel) rfl R_2857 f3 f_2875 (fx_k (c := 101) R_2857 (by decide +kernel)) (fx_x (a := 162) (ln := 1) R_2857 (by decide +kernel) (by decide)) fun v_2876 f_2877 => ?_
      have f_2878 := q_is_eq f_2877 e_2880
      refine go_iload (n := 6) (by decide +kernel) l_2843 f_2836 ?_
      refine go_i2l (by decide +kernel) f_2836 fun v_2881 f_2882 => ?_
      refine go_lcmp (by decide +kernel) f_2878 f_2882 fun v_2883 f_2884 => ?_
      refine go_if (c := .eq) (o := 5) (t := 1904) (P := x_2879 = x_2833) (by decide +kernel) (by decide +kernel) f_2884 (lc_eq) (fun hp_2885 => ?_) (fun hp_2885 => ?_)
      · have h := it_t hp_2885 h
        refine go_goto (o := 693) (t := 2597) (by decide +kernel) (by decide +kernel) ?_
        refine go_iinc (n := 4) (c := 7) (c' := 7) (by decide +kernel) (by decide +kernel) l_2849 f4 (by decide) fun L_2886 v_2887 f_2888 l_2889 kp_2890 => ?_
        obtain ⟨x_2891, e_2892, h⟩ := lx_s h
        have f_2893 := q_is_eq f_2888 e_2892
        have l_2894 := kp_2890 0 _ l_2845 (by decide) (Or.inl (by decide))
        have l_2895 := kp_2890 1 _ l_2846 (by decide) (Or.inl (by decide))
        have l_2896 := kp_2890 2 _ l_2847 (by decide) (Or.inl (by decide))
        have l_2897 := kp_2890 3 _ l_2848 (by decide) (Or.inr (q_is_cat f3 (Or.inr rfl)))
        refine go_goto (o := (-2577)) (t := 23) (by decide +kernel) (by decide +kernel) ?_
        exact hc m_2834 E_2841 h R_2857 l_2894 f0 l_2895 f1 l_2896 f2 l_2897 f3 l_2889 f_2893
      · have h := it_f hp_2885 h
        refine go_iconst (n := 0) (z := 0) (by decide +kernel) (by decide) fun v_2898 f_2899 => ?_
        cases h
        exact go_iret (by decide +kernel) rfl (Or.inr ⟨rfl, by decide⟩) f_2899 (hQ E_2841 _ _ R_2857 (q_out_v (by decide) f_2899))
  · have h := it_f hp_2860 h
    refine go_iconst (n := 0) (z := 0) (by decide +kernel) (by decide) fun v_2900 f_2901 => ?_
    cases h
    exact go_iret (by decide +kernel) rfl (Or.inr ⟨rfl, by decide⟩) f_2901 (hQ E_2841 _ _ R_2857 (q_out_v (by decide) f_2901))
noncomputable def fj_L_law_1973 (xs : List Int32) (c : Int → MM → Option (Int × MM)) (y4 s0 s1 : Int) (m : MM) : Option (Int × MM) := if s1 = s0 then
lx (w32 (y4 + 7)) fun x_3008 =>
c x_3008 m
else
some (0, m)
set_option maxHeartbeats 4000000 in
theorem oj_L_law_1973 {xs : List Int32} {d : Nat} {S : QS} {L : QL} {Q : QO → QS → Prop} {m : MM} {y4 s0 s1 : Int} {v0 : Value} {v1 : Value} {v2 : Value} {v3 : Value} {v4 : Value} {w0 : Value} {w1 : Value}  {rz : Int} {rm : MM} {c : Int → MM → Option (Int × MM)} 
  (hd : 174 ≤ d) (R : Rp S m) (l0 : q_lo L 0 = some v0) (f0 : q_is 7 v0 0) (l1 : q_lo L 1 = some v1) (f1 : q_is 2 v1 4) (l2 : q_lo L 2 = some v2) (f2 : q_is 2 v2 68) (l3 : q_lo L 3 = some v3) (f3 : q_is 2 v3 162) (l4 : q_lo L 4 = some v4) (f4 : q_is 0 v4 y4) (fs0 : q_is 1 w0 s0) (fs1 : q_is 1 w1 s1)
  (hc : ∀ mq : MM, Ext m mq → ∀ {z4 : Int} {Sq : QS} {Lq : QL} {u0 : Value} {u1 : Value} {u2 : Value} {u3 : Value} {u4 : Value}, c z4 mq = some (rz, rm) → Rp Sq mq → q_lo Lq 0 = some u0 → q_is 7 u0 0 → q_lo Lq 1 = some u1 → q_is 2 u1 4 → q_lo Lq 2 = some u2 → q_is 2 u2 68 → q_lo Lq 3 = some u3 → q_is 2 u3 162 → q_lo Lq 4 = some u4 → q_is 0 u4 z4 → Go xs d qM_L_law 23 Lq [] Sq Q)
  (hQ : Ext m rm → ∀ o S1, Rp S1 rm → q_out 0 o rz → Q o S1)
  (h : fj_L_law_1973 xs c y4 s0 s1 m = some (rz, rm)) : Go xs d qM_L_law 1973 L [w0, w1] S Q := by
  unfold fj_L_law_1973 at h
  refine go_lcmp (by decide +kernel) fs1 fs0 fun v_3000 f_3001 => ?_
  refine go_if (c := .eq) (o := 5) (t := 1979) (P := s1 = s0) (by decide +kernel) (by decide +kernel) f_3001 (lc_eq) (fun hp_3002 => ?_) (fun hp_3002 => ?_)
  · have h := it_t hp_3002 h
    refine go_goto (o := 618) (t := 2597) (by decide +kernel) (by decide +kernel) ?_
    refine go_iinc (n := 4) (c := 7) (c' := 7) (by decide +kernel) (by decide +kernel) l4 f4 (by decide) fun L_3003 v_3004 f_3005 l_3006 kp_3007 => ?_
    obtain ⟨x_3008, e_3009, h⟩ := lx_s h
    have f_3010 := q_is_eq f_3005 e_3009
    have l_3011 := kp_3007 0 _ l0 (by decide) (Or.inl (by decide))
    have l_3012 := kp_3007 1 _ l1 (by decide) (Or.inl (by decide))
    have l_3013 := kp_3007 2 _ l2 (by decide) (Or.inl (by decide))
    have l_3014 := kp_3007 3 _ l3 (by decide) (Or.inr (q_is_cat f3 (Or.inr rfl)))
    refine go_goto (o := (-2577)) (t := 23) (by decide +kernel) (by decide +kernel) ?_
    exact hc m (Ext.rf _) h R l_3011 f0 l_3012 f1 l_3013 f2 l_3014 f3 l_3006 f_3010
  · have h := it_f hp_3002 h
    refine go_iconst (n := 0) (z := 0) (by decide +kernel) (by decide) fun v_3015 f_3016 => ?_
    cases h
    exact go_iret (by decide +kernel) rfl (Or.inr ⟨rfl, by decide⟩) f_3016 (hQ (Ext.rf _) _ _ R (q_out_v (by decide) f_3016))
noncomputable def fj_L_law_1907 (xs : List Int32) (c : Int → MM → Option (Int × MM)) (y4 : Int) (m : MM) : Option (Int × MM) := gd (0 ≤ w32 (y4 + 1) ∧ w32 (y4 + 1) < (xs.length : Int)) <| gd (0 ≤ w32 (y4 + 2) ∧ w32 (y4 + 2) < (xs.length : Int)) <| bd (fm_L_move (scr xs (w32 (y4 + 1))) (scr xs (w32 (y4 + 2))) m) fun x_2919 m_2920 =>
bd (fm_X12_move (scr xs (w32 (y4 + 1))) (scr xs (w32 (y4 + 2))) m_2920) fun x_2949 m_2950 =>
bp (fm_X12_thrown m_2950) fun x_2968 =>
if x_2968 = x_2919 then
if x_2919 = 0 then
lx (m_2950 162 0) fun x_2995 =>
if x_2949 = 0 then
fj_L_law_1973 xs c y4 0 x_2995 m_2950
else
fj_L_law_1973 xs c y4 1 x_2995 m_2950
else
lx (w32 (y4 + 7)) fun x_2983 =>
c x_2983 m_2950
else
some (0, m_2950)
set_option maxHeartbeats 4000000 in
theorem oj_L_law_1907 {xs : List Int32} {d : Nat} {S : QS} {L : QL} {Q : QO → QS → Prop} {m : MM} {y4 : Int} {v0 : Value} {v1 : Value} {v2 : Value} {v3 : Value} {v4 : Value}  {rz : Int} {rm : MM} {c : Int → MM → Option (Int × MM)} 
  (hd : 174 ≤ d) (R : Rp S m) (l0 : q_lo L 0 = some v0) (f0 : q_is 7 v0 0) (l1 : q_lo L 1 = some v1) (f1 : q_is 2 v1 4) (l2 : q_lo L 2 = some v2) (f2 : q_is 2 v2 68) (l3 : q_lo L 3 = some v3) (f3 : q_is 2 v3 162) (l4 : q_lo L 4 = some v4) (f4 : q_is 0 v4 y4)
  (hc : ∀ mq : MM, Ext m mq → ∀ {z4 : Int} {Sq : QS} {Lq : QL} {u0 : Value} {u1 : Value} {u2 : Value} {u3 : Value} {u4 : Value}, c z4 mq = some (rz, rm) → Rp Sq mq → q_lo Lq 0 = some u0 → q_is 7 u0 0 → q_lo Lq 1 = some u1 → q_is 2 u1 4 → q_lo Lq 2 = some u2 → q_is 2 u2 68 → q_lo Lq 3 = some u3 → q_is 2 u3 162 → q_lo Lq 4 = some u4 → q_is 0 u4 z4 → Go xs d qM_L_law 23 Lq [] Sq Q)
  (hQ : Ext m rm → ∀ o S1, Rp S1 rm → q_out 0 o rz → Q o S1)
  (h : fj_L_law_1907 xs c y4 m = some (rz, rm)) : Go xs d qM_L_law 1907 L [] S Q := by
  unfold fj_L_law_1907 at h
  refine go_aload_n (n := 1) (by decide +kernel) l1 f1 ?_
  refine go_aloadS (n := 0) (by decide +kernel) l0 f0 ?_
  refine go_iload (n := 4) (by decide +kernel) l4 f4 ?_
  refine go_iconst (n := 1) (z := 1) (by decide +kernel) (by decide) fun v_2904 f_2905 => ?_
  refine go_iadd (by decide +kernel) f4 f_2905 fun v_2906 f_2907 => ?_
  obtain ⟨g_2910, h⟩ := gd_s h
  refine go_sld (by decide +kernel) f0 f_2907 g_2910 fun v_2908 f_2909 => ?_
  refine go_aloadS (n := 0) (by decide +kernel) l0 f0 ?_
  refine go_iload (n := 4) (by decide +kernel) l4 f4 ?_
  refine go_iconst (n := 2) (z := 2) (by decide +kernel) (by decide) fun v_2911 f_2912 => ?_
  refine go_iadd (by decide +kernel) f4 f_2912 fun v_2913 f_2914 => ?_
  obtain ⟨g_2917, h⟩ := gd_s h
  refine go_sld (by decide +kernel) f0 f_2914 g_2917 fun v_2915 f_2916 => ?_
  refine go_aload_n (n := 3) (by decide +kernel) l3 f3 ?_
  obtain ⟨x_2919, m_2920, hc_2918, h⟩ := bd_s h
  refine go_callS (x := 227) (mi := 365) (n := 4) (b := 0) (as := [v1, v_2908, v_2915, v3]) (rest := []) (by decide +kernel) (by decide +kernel) rfl rfl (q_sum8 _ (Nat.le_of_ble_eq_true rfl)) (om_L_move (Nat.le_trans (by decide) hd) R f1 f_2909 f_2916 f3 hc_2918) (fun _ S_2923 q_2926 => ?_) (fun _ _ qq => kr_x qq)
  refine kr_z (by decide) q_2926 fun v_2921 f_2922 R_2924 E_2925 => ?_
  have E_2927 := E_2925
  refine go_istore (n := 5) (by decide +kernel) (by decide +kernel) f_2922 fun L_2928 l_2929 kp_2930 => ?_
  have l_2931 := kp_2930 0 _ l0 (by decide) (Or.inl (by decide))
  have l_2932 := kp_2930 1 _ l1 (by decide) (Or.inl (by decide))
  have l_2933 := kp_2930 2 _ l2 (by decide) (Or.inl (by decide))
  have l_2934 := kp_2930 3 _ l3 (by decide) (Or.inl (by decide))
  have l_2935 := kp_2930 4 _ l4 (by decide) (Or.inr (q_is_cat f4 (Or.inl rfl)))
  refine go_aload_n (n := 2) (by decide +kernel) l_2933 f2 ?_
  refine go_aloadS (n := 0) (by decide +kernel) l_2931 f0 ?_
  refine go_iload (n := 4) (by decide +kernel) l_2935 f4 ?_
  refine go_iconst (n := 1) (z := 1) (by decide +kernel) (by decide) fun v_2936 f_2937 => ?_
  refine go_iadd (by decide +kernel) f4 f_2937 fun v_2938 f_2939 => ?_
  refine go_sld (by decide +kernel) f0 f_2939 g_2910 fun v_2940 f_2941 => ?_
  refine go_aloadS (n := 0) (by decide +kernel) l_2931 f0 ?_
  refine go_iload (n := 4) (by decide +kernel) l_2935 f4 ?_
  refine go_iconst (n := 2) (z := 2) (by decide +kernel) (by decide) fun v_2942 f_2943 => ?_
  refine go_iadd (by decide +kernel) f4 f_2943 fun v_2944 f_2945 => ?_
  refine go_sld (by decide +kernel) f0 f_2945 g_2917 fun v_2946 f_2947 => ?_
  obtain ⟨x_2949, m_2950, hc_2948, h⟩ := bd_s h
  refine go_callV (x := 229) (mi := 296) (n := 2) (ci := 13) (as := [v_2940, v_2946]) (rest := []) (by decide +kernel) (by decide +kernel) rfl rfl (q_sum8 _ (Nat.le_of_ble_eq_true rfl)) R_2924 f2 (fx_k (c := 13) R_2924 (by decide +kernel)) (om_X12_move (Nat.le_trans (by decide) hd) R_2924 f2 f_2941 f_2947 hc_2948) (fun _ S_2953 q_2956 => ?_) (fun _ _ qq => kr_x qq)
  refine kr_z (by decide) q_2956 fun v_2951 f_2952 R_2954 E_2955 => ?_
  have E_2957 := Ext.tr E_2927 E_2955
  refine go_istore (n := 6) (by decide +kernel) (by decide +kernel) f_2952 fun L_2958 l_2959 kp_2960 => ?_
  have l_2961 := kp_2960 0 _ l_2931 (by decide) (Or.inl (by decide))
  have l_2962 := kp_2960 1 _ l_2932 (by decide) (Or.inl (by decide))
  have l_2963 := kp_2960 2 _ l_2933 (by decide) (Or.inl (by decide))
  have l_2964 := kp_2960 3 _ l_2934 (by decide) (Or.inl (by decide))
  have l_2965 := kp_2960 4 _ l_2935 (by decide) (Or.inl (by decide))
  have l_2966 := kp_2960 5 _ l_2929 (by decide) (Or.inr (q_is_cat f_2922 (Or.inl rfl)))
  refine go_aload_n (n := 2) (by decide +kernel) l_2963 f2 ?_
  obtain ⟨x_2968, hc_2967, h⟩ := bp_s h
  refine go_callV (x := 143) (mi := 185) (n := 0) (ci := 13) (as := []) (rest := []) (by decide +kernel) (by decide +kernel) rfl rfl (q_sum8 _ (Nat.le_of_ble_eq_true rfl)) R_2954 f2 (fx_k (c := 13) R_2954 (by decide +kernel)) (om_X12_thrown (Nat.le_trans (by decide) hd) R_2954 f2 hc_2967) (fun _ S_2972 q_2975 => ?_) (fun _ _ qq => kr_x qq)
  refine kr_z (by decide) q_2975 fun v_2970 f_2971 R_2973 E_2974 => ?_
  refine go_iload (n := 5) (by decide +kernel) l_2966 f_2922 ?_
  refine go_icmp (c := .eq) (o := 5) (t := 1955) (P := x_2968 = x_2919) (by decide +kernel) (by decide +kernel) f_2971 f_2922 (Iff.rfl) (fun hp_2976 => ?_) (fun hp_2976 => ?_)
  · have h := it_t hp_2976 h
    refine go_iload (n := 5) (by decide +kernel) l_2966 f_2922 ?_
    refine go_if (c := .ne) (o := 22) (t := 1979) (P := ¬ (x_2919 = 0)) (by decide +kernel) (by decide +kernel) f_2922 (Iff.rfl) (fun hp_2977 => ?_) (fun hp_2977 => ?_)
    · have h := it_f hp_2977 h
      refine go_goto (o := 618) (t := 2597) (by decide +kernel) (by decide +kernel) ?_
      refine go_iinc (n := 4) (c := 7) (c' := 7) (by decide +kernel) (by decide +kernel) l_2965 f4 (by decide) fun L_2978 v_2979 f_2980 l_2981 kp_2982 => ?_
      obtain ⟨x_2983, e_2984, h⟩ := lx_s h
      have f_2985 := q_is_eq f_2980 e_2984
      have l_2986 := kp_2982 0 _ l_2961 (by decide) (Or.inl (by decide))
      have l_2987 := kp_2982 1 _ l_2962 (by decide) (Or.inl (by decide))
      have l_2988 := kp_2982 2 _ l_2963 (by decide) (Or.inl (by decide))
      have l_2989 := kp_2982 3 _ l_2964 (by decide) (Or.inr (q_is_cat f3 (Or.inr rfl)))
      refine go_goto (o := (-2577)) (t := 23) (by decide +kernel) (by decide +kernel) ?_
      exact hc m_2950 E_2957 h R_2973 l_2986 f0 l_2987 f1 l_2988 f2 l_2989 f3 l_2981 f_2985
    · have h := it_n hp_2977 h
      refine go_aload_n (n := 3) (by decide +kernel) l_2964 f3 ?_
      refine go_iconst (n := 0) (z := 0) (by decide +kernel) (by decide) fun v_2990 f_2991 => ?_
      obtain ⟨x_2995, e_2996, h⟩ := lx_s h
      refine go_lald (kd := 101) (by decide +kernel) rfl R_2973 f3 f_2991 (fx_k (c := 101) R_2973 (by decide +kernel)) (fx_x (a := 162) (ln := 1) R_2973 (by decide +kernel) (by decide)) fun v_2992 f_2993 => ?_
      have f_2994 := q_is_eq f_2993 e_2996
      refine go_iload (n := 6) (by decide +kernel) l_2959 f_2952 ?_
      refine go_if (c := .eq) (o := 7) (t := 1972) (P := x_2949 = 0) (by decide +kernel) (by decide +kernel) f_2952 (Iff.rfl) (fun hp_2997 => ?_) (fun hp_2997 => ?_)
      · have h := it_t hp_2997 h
        refine go_lconst (n := 0) (z := 0) (by decide +kernel) (by decide) fun v_2998 f_2999 => ?_
        exact oj_L_law_1973 hd R_2973 l_2961 f0 l_2962 f1 l_2963 f2 l_2964 f3 l_2965 f4 f_2999 f_2994 (fun mq b => hc mq (Ext.tr E_2957 b)) (fun b => hQ (Ext.tr E_2957 b)) h
      · have h := it_f hp_2997 h
        refine go_lconst (n := 1) (z := 1) (by decide +kernel) (by decide) fun v_3017 f_3018 => ?_
        refine go_goto (o := 4) (t := 1973) (by decide +kernel) (by decide +kernel) ?_
        exact oj_L_law_1973 hd R_2973 l_2961 f0 l_2962 f1 l_2963 f2 l_2964 f3 l_2965 f4 f_3018 f_2994 (fun mq b => hc mq (Ext.tr E_2957 b)) (fun b => hQ (Ext.tr E_2957 b)) h
  · have h := it_f hp_2976 h
    refine go_iconst (n := 0) (z := 0) (by decide +kernel) (by decide) fun v_3019 f_3020 => ?_
    cases h
    exact go_iret (by decide +kernel) rfl (Or.inr ⟨rfl, by decide⟩) f_3020 (hQ E_2957 _ _ R_2973 (q_out_v (by decide) f_3020))
noncomputable def fj_L_law_1982 (xs : List Int32) (c : Int → MM → Option (Int × MM)) (y4 : Int) (m : MM) : Option (Int × MM) := gd (0 ≤ w32 (y4 + 1) ∧ w32 (y4 + 1) < (xs.length : Int)) <| gd (0 ≤ w32 (y4 + 2) ∧ w32 (y4 + 2) < (xs.length : Int)) <| bd (fm_L_setBack (scr xs (w32 (y4 + 1))) (scr xs (w32 (y4 + 2))) m) fun x_3038 m_3039 =>
bd (fm_X12_setBack (scr xs (w32 (y4 + 1))) (scr xs (w32 (y4 + 2))) m_3039) fun x_3068 m_3069 =>
bp (fm_X12_thrown m_3069) fun x_3087 =>
if x_3087 = x_3038 then
if x_3038 = 0 then
lx (m_3069 162 0) fun x_3114 =>
if x_3114 = x_3068 then
lx (w32 (y4 + 7)) fun x_3126 =>
c x_3126 m_3069
else
some (0, m_3069)
else
lx (w32 (y4 + 7)) fun x_3102 =>
c x_3102 m_3069
else
some (0, m_3069)
set_option maxHeartbeats 4000000 in
theorem oj_L_law_1982 {xs : List Int32} {d : Nat} {S : QS} {L : QL} {Q : QO → QS → Prop} {m : MM} {y4 : Int} {v0 : Value} {v1 : Value} {v2 : Value} {v3 : Value} {v4 : Value}  {rz : Int} {rm : MM} {c : Int → MM → Option (Int × MM)} 
  (hd : 174 ≤ d) (R : Rp S m) (l0 : q_lo L 0 = some v0) (f0 : q_is 7 v0 0) (l1 : q_lo L 1 = some v1) (f1 : q_is 2 v1 4) (l2 : q_lo L 2 = some v2) (f2 : q_is 2 v2 68) (l3 : q_lo L 3 = some v3) (f3 : q_is 2 v3 162) (l4 : q_lo L 4 = some v4) (f4 : q_is 0 v4 y4)
  (hc : ∀ mq : MM, Ext m mq → ∀ {z4 : Int} {Sq : QS} {Lq : QL} {u0 : Value} {u1 : Value} {u2 : Value} {u3 : Value} {u4 : Value}, c z4 mq = some (rz, rm) → Rp Sq mq → q_lo Lq 0 = some u0 → q_is 7 u0 0 → q_lo Lq 1 = some u1 → q_is 2 u1 4 → q_lo Lq 2 = some u2 → q_is 2 u2 68 → q_lo Lq 3 = some u3 → q_is 2 u3 162 → q_lo Lq 4 = some u4 → q_is 0 u4 z4 → Go xs d qM_L_law 23 Lq [] Sq Q)
  (hQ : Ext m rm → ∀ o S1, Rp S1 rm → q_out 0 o rz → Q o S1)
  (h : fj_L_law_1982 xs c y4 m = some (rz, rm)) : Go xs d qM_L_law 1982 L [] S Q := by
  unfold fj_L_law_1982 at h
  refine go_aload_n (n := 1) (by decide +kernel) l1 f1 ?_
  refine go_aloadS (n := 0) (by decide +kernel) l0 f0 ?_
  refine go_iload (n := 4) (by decide +kernel) l4 f4 ?_
  refine go_iconst (n := 1) (z := 1) (by decide +kernel) (by decide) fun v_3023 f_3024 => ?_
  refine go_iadd (by decide +kernel) f4 f_3024 fun v_3025 f_3026 => ?_
  obtain ⟨g_3029, h⟩ := gd_s h
  refine go_sld (by decide +kernel) f0 f_3026 g_3029 fun v_3027 f_3028 => ?_
  refine go_aloadS (n := 0) (by decide +kernel) l0 f0 ?_
  refine go_iload (n := 4) (by decide +kernel) l4 f4 ?_
  refine go_iconst (n := 2) (z := 2) (by decide +kernel) (by decide) fun v_3030 f_3031 => ?_
  refine go_iadd (by decide +kernel) f4 f_3031 fun v_3032 f_3033 => ?_
  obtain ⟨g_3036, h⟩ := gd_s h
  refine go_sld (by decide +kernel) f0 f_3033 g_3036 fun v_3034 f_3035 => ?_
  refine go_aload_n (n := 3) (by decide +kernel) l3 f3 ?_
  obtain ⟨x_3038, m_3039, hc_3037, h⟩ := bd_s h
  refine go_callS (x := 230) (mi := 366) (n := 4) (b := 0) (as := [v1, v_3027, v_3034, v3]) (rest := []) (by decide +kernel) (by decide +kernel) rfl rfl (q_sum8 _ (Nat.le_of_ble_eq_true rfl)) (om_L_setBack (Nat.le_trans (by decide) hd) R f1 f_3028 f_3035 f3 hc_3037) (fun _ S_3042 q_3045 => ?_) (fun _ _ qq => kr_x qq)
  refine kr_z (by decide) q_3045 fun v_3040 f_3041 R_3043 E_3044 => ?_
  have E_3046 := E_3044
  refine go_istore (n := 5) (by decide +kernel) (by decide +kernel) f_3041 fun L_3047 l_3048 kp_3049 => ?_
  have l_3050 := kp_3049 0 _ l0 (by decide) (Or.inl (by decide))
  have l_3051 := kp_3049 1 _ l1 (by decide) (Or.inl (by decide))
  have l_3052 := kp_3049 2 _ l2 (by decide) (Or.inl (by decide))
  have l_3053 := kp_3049 3 _ l3 (by decide) (Or.inl (by decide))
  have l_3054 := kp_3049 4 _ l4 (by decide) (Or.inr (q_is_cat f4 (Or.inl rfl)))
  refine go_aload_n (n := 2) (by decide +kernel) l_3052 f2 ?_
  refine go_aloadS (n := 0) (by decide +kernel) l_3050 f0 ?_
  refine go_iload (n := 4) (by decide +kernel) l_3054 f4 ?_
  refine go_iconst (n := 1) (z := 1) (by decide +kernel) (by decide) fun v_3055 f_3056 => ?_
  refine go_iadd (by decide +kernel) f4 f_3056 fun v_3057 f_3058 => ?_
  refine go_sld (by decide +kernel) f0 f_3058 g_3029 fun v_3059 f_3060 => ?_
  refine go_aloadS (n := 0) (by decide +kernel) l_3050 f0 ?_
  refine go_iload (n := 4) (by decide +kernel) l_3054 f4 ?_
  refine go_iconst (n := 2) (z := 2) (by decide +kernel) (by decide) fun v_3061 f_3062 => ?_
  refine go_iadd (by decide +kernel) f4 f_3062 fun v_3063 f_3064 => ?_
  refine go_sld (by decide +kernel) f0 f_3064 g_3036 fun v_3065 f_3066 => ?_
  obtain ⟨x_3068, m_3069, hc_3067, h⟩ := bd_s h
  refine go_callV (x := 232) (mi := 301) (n := 2) (ci := 13) (as := [v_3059, v_3065]) (rest := []) (by decide +kernel) (by decide +kernel) rfl rfl (q_sum8 _ (Nat.le_of_ble_eq_true rfl)) R_3043 f2 (fx_k (c := 13) R_3043 (by decide +kernel)) (om_X12_setBack (Nat.le_trans (by decide) hd) R_3043 f2 f_3060 f_3066 hc_3067) (fun _ S_3072 q_3075 => ?_) (fun _ _ qq => kr_x qq)
  refine kr_z (by decide) q_3075 fun v_3070 f_3071 R_3073 E_3074 => ?_
  have E_3076 := Ext.tr E_3046 E_3074
  refine go_istore (n := 6) (by decide +kernel) (by decide +kernel) f_3071 fun L_3077 l_3078 kp_3079 => ?_
  have l_3080 := kp_3079 0 _ l_3050 (by decide) (Or.inl (by decide))
  have l_3081 := kp_3079 1 _ l_3051 (by decide) (Or.inl (by decide))
  have l_3082 := kp_3079 2 _ l_3052 (by decide) (Or.inl (by decide))
  have l_3083 := kp_3079 3 _ l_3053 (by decide) (Or.inl (by decide))
  have l_3084 := kp_3079 4 _ l_3054 (by decide) (Or.inl (by decide))
  have l_3085 := kp_3079 5 _ l_3048 (by decide) (Or.inr (q_is_cat f_3041 (Or.inl rfl)))
  refine go_aload_n (n := 2) (by decide +kernel) l_3082 f2 ?_
  obtain ⟨x_3087, hc_3086, h⟩ := bp_s h
  refine go_callV (x := 143) (mi := 185) (n := 0) (ci := 13) (as := []) (rest := []) (by decide +kernel) (by decide +kernel) rfl rfl (q_sum8 _ (Nat.le_of_ble_eq_true rfl)) R_3073 f2 (fx_k (c := 13) R_3073 (by decide +kernel)) (om_X12_thrown (Nat.le_trans (by decide) hd) R_3073 f2 hc_3086) (fun _ S_3091 q_3094 => ?_) (fun _ _ qq => kr_x qq)
  refine kr_z (by decide) q_3094 fun v_3089 f_3090 R_3092 E_3093 => ?_
  refine go_iload (n := 5) (by decide +kernel) l_3085 f_3041 ?_
  refine go_icmp (c := .eq) (o := 5) (t := 2030) (P := x_3087 = x_3038) (by decide +kernel) (by decide +kernel) f_3090 f_3041 (Iff.rfl) (fun hp_3095 => ?_) (fun hp_3095 => ?_)
  · have h := it_t hp_3095 h
    refine go_iload (n := 5) (by decide +kernel) l_3085 f_3041 ?_
    refine go_if (c := .ne) (o := 15) (t := 2047) (P := ¬ (x_3038 = 0)) (by decide +kernel) (by decide +kernel) f_3041 (Iff.rfl) (fun hp_3096 => ?_) (fun hp_3096 => ?_)
    · have h := it_f hp_3096 h
      refine go_goto (o := 550) (t := 2597) (by decide +kernel) (by decide +kernel) ?_
      refine go_iinc (n := 4) (c := 7) (c' := 7) (by decide +kernel) (by decide +kernel) l_3084 f4 (by decide) fun L_3097 v_3098 f_3099 l_3100 kp_3101 => ?_
      obtain ⟨x_3102, e_3103, h⟩ := lx_s h
      have f_3104 := q_is_eq f_3099 e_3103
      have l_3105 := kp_3101 0 _ l_3080 (by decide) (Or.inl (by decide))
      have l_3106 := kp_3101 1 _ l_3081 (by decide) (Or.inl (by decide))
      have l_3107 := kp_3101 2 _ l_3082 (by decide) (Or.inl (by decide))
      have l_3108 := kp_3101 3 _ l_3083 (by decide) (Or.inr (q_is_cat f3 (Or.inr rfl)))
      refine go_goto (o := (-2577)) (t := 23) (by decide +kernel) (by decide +kernel) ?_
      exact hc m_3069 E_3076 h R_3092 l_3105 f0 l_3106 f1 l_3107 f2 l_3108 f3 l_3100 f_3104
    · have h := it_n hp_3096 h
      refine go_aload_n (n := 3) (by decide +kernel) l_3083 f3 ?_
      refine go_iconst (n := 0) (z := 0) (by decide +kernel) (by decide) fun v_3109 f_3110 => ?_
      obtain ⟨x_3114, e_3115, h⟩ := lx_s h
      refine go_lald (kd := 101) (by decide +kernel) rfl R_3092 f3 f_3110 (fx_k (c := 101) R_3092 (by decide +kernel)) (fx_x (a := 162) (ln := 1) R_3092 (by decide +kernel) (by decide)) fun v_3111 f_3112 => ?_
      have f_3113 := q_is_eq f_3112 e_3115
      refine go_iload (n := 6) (by decide +kernel) l_3078 f_3071 ?_
      refine go_i2l (by decide +kernel) f_3071 fun v_3116 f_3117 => ?_
      refine go_lcmp (by decide +kernel) f_3113 f_3117 fun v_3118 f_3119 => ?_
      refine go_if (c := .eq) (o := 5) (t := 2047) (P := x_3114 = x_3068) (by decide +kernel) (by decide +kernel) f_3119 (lc_eq) (fun hp_3120 => ?_) (fun hp_3120 => ?_)
      · have h := it_t hp_3120 h
        refine go_goto (o := 550) (t := 2597) (by decide +kernel) (by decide +kernel) ?_
        refine go_iinc (n := 4) (c := 7) (c' := 7) (by decide +kernel) (by decide +kernel) l_3084 f4 (by decide) fun L_3121 v_3122 f_3123 l_3124 kp_3125 => ?_
        obtain ⟨x_3126, e_3127, h⟩ := lx_s h
        have f_3128 := q_is_eq f_3123 e_3127
        have l_3129 := kp_3125 0 _ l_3080 (by decide) (Or.inl (by decide))
        have l_3130 := kp_3125 1 _ l_3081 (by decide) (Or.inl (by decide))
        have l_3131 := kp_3125 2 _ l_3082 (by decide) (Or.inl (by decide))
        have l_3132 := kp_3125 3 _ l_3083 (by decide) (Or.inr (q_is_cat f3 (Or.inr rfl)))
        refine go_goto (o := (-2577)) (t := 23) (by decide +kernel) (by decide +kernel) ?_
        exact hc m_3069 E_3076 h R_3092 l_3129 f0 l_3130 f1 l_3131 f2 l_3132 f3 l_3124 f_3128
      · have h := it_f hp_3120 h
        refine go_iconst (n := 0) (z := 0) (by decide +kernel) (by decide) fun v_3133 f_3134 => ?_
        cases h
        exact go_iret (by decide +kernel) rfl (Or.inr ⟨rfl, by decide⟩) f_3134 (hQ E_3076 _ _ R_3092 (q_out_v (by decide) f_3134))
  · have h := it_f hp_3095 h
    refine go_iconst (n := 0) (z := 0) (by decide +kernel) (by decide) fun v_3135 f_3136 => ?_
    cases h
    exact go_iret (by decide +kernel) rfl (Or.inr ⟨rfl, by decide⟩) f_3136 (hQ E_3076 _ _ R_3092 (q_out_v (by decide) f_3136))
noncomputable def fj_L_law_2050 (xs : List Int32) (c : Int → MM → Option (Int × MM)) (y4 : Int) (m : MM) : Option (Int × MM) := gd (0 ≤ w32 (y4 + 1) ∧ w32 (y4 + 1) < (xs.length : Int)) <| gd (0 ≤ w32 (y4 + 2) ∧ w32 (y4 + 2) < (xs.length : Int)) <| bd (fm_L_copy (scr xs (w32 (y4 + 1))) (scr xs (w32 (y4 + 2))) m) fun x_3154 m_3155 =>
bd (fm_X12_copy (scr xs (w32 (y4 + 1))) (scr xs (w32 (y4 + 2))) m_3155) fun x_3184 m_3185 =>
bp (fm_X12_thrown m_3185) fun x_3203 =>
if x_3203 = x_3154 then
if x_3154 = 0 then
lx (m_3185 162 0) fun x_3230 =>
if x_3230 = x_3184 then
lx (w32 (y4 + 7)) fun x_3242 =>
c x_3242 m_3185
else
some (0, m_3185)
else
lx (w32 (y4 + 7)) fun x_3218 =>
c x_3218 m_3185
else
some (0, m_3185)
set_option maxHeartbeats 4000000 in
theorem oj_L_law_2050 {xs : List Int32} {d : Nat} {S : QS} {L : QL} {Q : QO → QS → Prop} {m : MM} {y4 : Int} {v0 : Value} {v1 : Value} {v2 : Value} {v3 : Value} {v4 : Value}  {rz : Int} {rm : MM} {c : Int → MM → Option (Int × MM)} 
  (hd : 174 ≤ d) (R : Rp S m) (l0 : q_lo L 0 = some v0) (f0 : q_is 7 v0 0) (l1 : q_lo L 1 = some v1) (f1 : q_is 2 v1 4) (l2 : q_lo L 2 = some v2) (f2 : q_is 2 v2 68) (l3 : q_lo L 3 = some v3) (f3 : q_is 2 v3 162) (l4 : q_lo L 4 = some v4) (f4 : q_is 0 v4 y4)
  (hc : ∀ mq : MM, Ext m mq → ∀ {z4 : Int} {Sq : QS} {Lq : QL} {u0 : Value} {u1 : Value} {u2 : Value} {u3 : Value} {u4 : Value}, c z4 mq = some (rz, rm) → Rp Sq mq → q_lo Lq 0 = some u0 → q_is 7 u0 0 → q_lo Lq 1 = some u1 → q_is 2 u1 4 → q_lo Lq 2 = some u2 → q_is 2 u2 68 → q_lo Lq 3 = some u3 → q_is 2 u3 162 → q_lo Lq 4 = some u4 → q_is 0 u4 z4 → Go xs d qM_L_law 23 Lq [] Sq Q)
  (hQ : Ext m rm → ∀ o S1, Rp S1 rm → q_out 0 o rz → Q o S1)
  (h : fj_L_law_2050 xs c y4 m = some (rz, rm)) : Go xs d qM_L_law 2050 L [] S Q := by
  unfold fj_L_law_2050 at h
  refine go_aload_n (n := 1) (by decide +kernel) l1 f1 ?_
  refine go_aloadS (n := 0) (by decide +kernel) l0 f0 ?_
  refine go_iload (n := 4) (by decide +kernel) l4 f4 ?_
  refine go_iconst (n := 1) (z := 1) (by decide +kernel) (by decide) fun v_3139 f_3140 => ?_
  refine go_iadd (by decide +kernel) f4 f_3140 fun v_3141 f_3142 => ?_
  obtain ⟨g_3145, h⟩ := gd_s h
  refine go_sld (by decide +kernel) f0 f_3142 g_3145 fun v_3143 f_3144 => ?_
  refine go_aloadS (n := 0) (by decide +kernel) l0 f0 ?_
  refine go_iload (n := 4) (by decide +kernel) l4 f4 ?_
  refine go_iconst (n := 2) (z := 2) (by decide +kernel) (by decide) fun v_3146 f_3147 => ?_
  refine go_iadd (by decide +kernel) f4 f_3147 fun v_3148 f_3149 => ?_
  obtain ⟨g_3152, h⟩ := gd_s h
  refine go_sld (by decide +kernel) f0 f_3149 g_3152 fun v_3150 f_3151 => ?_
  refine go_aload_n (n := 3) (by decide +kernel) l3 f3 ?_
  obtain ⟨x_3154, m_3155, hc_3153, h⟩ := bd_s h
  refine go_callS (x := 233) (mi := 367) (n := 4) (b := 0) (as := [v1, v_3143, v_3150, v3]) (rest := []) (by decide +kernel) (by decide +kernel) rfl rfl (q_sum8 _ (Nat.le_of_ble_eq_true rfl)) (om_L_copy (Nat.le_trans (by decide) hd) R f1 f_3144 f_3151 f3 hc_3153) (fun _ S_3158 q_3161 => ?_) (fun _ _ qq => kr_x qq)
  refine kr_z (by decide) q_3161 fun v_3156 f_3157 R_3159 E_3160 => ?_
  have E_3162 := E_3160
  refine go_istore (n := 5) (by decide +kernel) (by decide +kernel) f_3157 fun L_3163 l_3164 kp_3165 => ?_
  have l_3166 := kp_3165 0 _ l0 (by decide) (Or.inl (by decide))
  have l_3167 := kp_3165 1 _ l1 (by decide) (Or.inl (by decide))
  have l_3168 := kp_3165 2 _ l2 (by decide) (Or.inl (by decide))
  have l_3169 := kp_3165 3 _ l3 (by decide) (Or.inl (by decide))
  have l_3170 := kp_3165 4 _ l4 (by decide) (Or.inr (q_is_cat f4 (Or.inl rfl)))
  refine go_aload_n (n := 2) (by decide +kernel) l_3168 f2 ?_
  refine go_aloadS (n := 0) (by decide +kernel) l_3166 f0 ?_
  refine go_iload (n := 4) (by decide +kernel) l_3170 f4 ?_
  refine go_iconst (n := 1) (z := 1) (by decide +kernel) (by decide) fun v_3171 f_3172 => ?_
  refine go_iadd (by decide +kernel) f4 f_3172 fun v_3173 f_3174 => ?_
  refine go_sld (by decide +kernel) f0 f_3174 g_3145 fun v_3175 f_3176 => ?_
  refine go_aloadS (n := 0) (by decide +kernel) l_3166 f0 ?_
  refine go_iload (n := 4) (by decide +kernel) l_3170 f4 ?_
  refine go_iconst (n := 2) (z := 2) (by decide +kernel) (by decide) fun v_3177 f_3178 => ?_
  refine go_iadd (by decide +kernel) f4 f_3178 fun v_3179 f_3180 => ?_
  refine go_sld (by decide +kernel) f0 f_3180 g_3152 fun v_3181 f_3182 => ?_
  obtain ⟨x_3184, m_3185, hc_3183, h⟩ := bd_s h
  refine go_callV (x := 235) (mi := 302) (n := 2) (ci := 13) (as := [v_3175, v_3181]) (rest := []) (by decide +kernel) (by decide +kernel) rfl rfl (q_sum8 _ (Nat.le_of_ble_eq_true rfl)) R_3159 f2 (fx_k (c := 13) R_3159 (by decide +kernel)) (om_X12_copy (Nat.le_trans (by decide) hd) R_3159 f2 f_3176 f_3182 hc_3183) (fun _ S_3188 q_3191 => ?_) (fun _ _ qq => kr_x qq)
  refine kr_z (by decide) q_3191 fun v_3186 f_3187 R_3189 E_3190 => ?_
  have E_3192 := Ext.tr E_3162 E_3190
  refine go_istore (n := 6) (by decide +kernel) (by decide +kernel) f_3187 fun L_3193 l_3194 kp_3195 => ?_
  have l_3196 := kp_3195 0 _ l_3166 (by decide) (Or.inl (by decide))
  have l_3197 := kp_3195 1 _ l_3167 (by decide) (Or.inl (by decide))
  have l_3198 := kp_3195 2 _ l_3168 (by decide) (Or.inl (by decide))
  have l_3199 := kp_3195 3 _ l_3169 (by decide) (Or.inl (by decide))
  have l_3200 := kp_3195 4 _ l_3170 (by decide) (Or.inl (by decide))
  have l_3201 := kp_3195 5 _ l_3164 (by decide) (Or.inr (q_is_cat f_3157 (Or.inl rfl)))
  refine go_aload_n (n := 2) (by decide +kernel) l_3198 f2 ?_
  obtain ⟨x_3203, hc_3202, h⟩ := bp_s h
  refine go_callV (x := 143) (mi := 185) (n := 0) (ci := 13) (as := []) (rest := []) (by decide +kernel) (by decide +kernel) rfl rfl (q_sum8 _ (Nat.le_of_ble_eq_true rfl)) R_3189 f2 (fx_k (c := 13) R_3189 (by decide +kernel)) (om_X12_thrown (Nat.le_trans (by decide) hd) R_3189 f2 hc_3202) (fun _ S_3207 q_3210 => ?_) (fun _ _ qq => kr_x qq)
  refine kr_z (by decide) q_3210 fun v_3205 f_3206 R_3208 E_3209 => ?_
  refine go_iload (n := 5) (by decide +kernel) l_3201 f_3157 ?_
  refine go_icmp (c := .eq) (o := 5) (t := 2098) (P := x_3203 = x_3154) (by decide +kernel) (by decide +kernel) f_3206 f_3157 (Iff.rfl) (fun hp_3211 => ?_) (fun hp_3211 => ?_)
  · have h := it_t hp_3211 h
    refine go_iload (n := 5) (by decide +kernel) l_3201 f_3157 ?_
    refine go_if (c := .ne) (o := 15) (t := 2115) (P := ¬ (x_3154 = 0)) (by decide +kernel) (by decide +kernel) f_3157 (Iff.rfl) (fun hp_3212 => ?_) (fun hp_3212 => ?_)
    · have h := it_f hp_3212 h
      refine go_goto (o := 482) (t := 2597) (by decide +kernel) (by decide +kernel) ?_
      refine go_iinc (n := 4) (c := 7) (c' := 7) (by decide +kernel) (by decide +kernel) l_3200 f4 (by decide) fun L_3213 v_3214 f_3215 l_3216 kp_3217 => ?_
      obtain ⟨x_3218, e_3219, h⟩ := lx_s h
      have f_3220 := q_is_eq f_3215 e_3219
      have l_3221 := kp_3217 0 _ l_3196 (by decide) (Or.inl (by decide))
      have l_3222 := kp_3217 1 _ l_3197 (by decide) (Or.inl (by decide))
      have l_3223 := kp_3217 2 _ l_3198 (by decide) (Or.inl (by decide))
      have l_3224 := kp_3217 3 _ l_3199 (by decide) (Or.inr (q_is_cat f3 (Or.inr rfl)))
      refine go_goto (o := (-2577)) (t := 23) (by decide +kernel) (by decide +kernel) ?_
      exact hc m_3185 E_3192 h R_3208 l_3221 f0 l_3222 f1 l_3223 f2 l_3224 f3 l_3216 f_3220
    · have h := it_n hp_3212 h
      refine go_aload_n (n := 3) (by decide +kernel) l_3199 f3 ?_
      refine go_iconst (n := 0) (z := 0) (by decide +kernel) (by decide) fun v_3225 f_3226 => ?_
      obtain ⟨x_3230, e_3231, h⟩ := lx_s h
      refine go_lald (kd := 101) (by decide +kernel) rfl R_3208 f3 f_3226 (fx_k (c := 101) R_3208 (by decide +kernel)) (fx_x (a := 162) (ln := 1) R_3208 (by decide +kernel) (by decide)) fun v_3227 f_3228 => ?_
      have f_3229 := q_is_eq f_3228 e_3231
      refine go_iload (n := 6) (by decide +kernel) l_3194 f_3187 ?_
      refine go_i2l (by decide +kernel) f_3187 fun v_3232 f_3233 => ?_
      refine go_lcmp (by decide +kernel) f_3229 f_3233 fun v_3234 f_3235 => ?_
      refine go_if (c := .eq) (o := 5) (t := 2115) (P := x_3230 = x_3184) (by decide +kernel) (by decide +kernel) f_3235 (lc_eq) (fun hp_3236 => ?_) (fun hp_3236 => ?_)
      · have h := it_t hp_3236 h
        refine go_goto (o := 482) (t := 2597) (by decide +kernel) (by decide +kernel) ?_
        refine go_iinc (n := 4) (c := 7) (c' := 7) (by decide +kernel) (by decide +kernel) l_3200 f4 (by decide) fun L_3237 v_3238 f_3239 l_3240 kp_3241 => ?_
        obtain ⟨x_3242, e_3243, h⟩ := lx_s h
        have f_3244 := q_is_eq f_3239 e_3243
        have l_3245 := kp_3241 0 _ l_3196 (by decide) (Or.inl (by decide))
        have l_3246 := kp_3241 1 _ l_3197 (by decide) (Or.inl (by decide))
        have l_3247 := kp_3241 2 _ l_3198 (by decide) (Or.inl (by decide))
        have l_3248 := kp_3241 3 _ l_3199 (by decide) (Or.inr (q_is_cat f3 (Or.inr rfl)))
        refine go_goto (o := (-2577)) (t := 23) (by decide +kernel) (by decide +kernel) ?_
        exact hc m_3185 E_3192 h R_3208 l_3245 f0 l_3246 f1 l_3247 f2 l_3248 f3 l_3240 f_3244
      · have h := it_f hp_3236 h
        refine go_iconst (n := 0) (z := 0) (by decide +kernel) (by decide) fun v_3249 f_3250 => ?_
        cases h
        exact go_iret (by decide +kernel) rfl (Or.inr ⟨rfl, by decide⟩) f_3250 (hQ E_3192 _ _ R_3208 (q_out_v (by decide) f_3250))
  · have h := it_f hp_3211 h
    refine go_iconst (n := 0) (z := 0) (by decide +kernel) (by decide) fun v_3251 f_3252 => ?_
    cases h
    exact go_iret (by decide +kernel) rfl (Or.inr ⟨rfl, by decide⟩) f_3252 (hQ E_3192 _ _ R_3208 (q_out_v (by decide) f_3252))
noncomputable def fj_L_law_2118 (xs : List Int32) (c : Int → MM → Option (Int × MM)) (y4 : Int) (m : MM) : Option (Int × MM) := bd (fm_L_takeOver m) fun x_3256 m_3257 =>
bd (fm_X12_takeOver m_3257) fun x_3274 m_3275 =>
bp (fm_X12_thrown m_3275) fun x_3293 =>
if x_3293 = x_3256 then
if x_3256 = 0 then
lx (m_3275 162 0) fun x_3320 =>
if x_3320 = x_3274 then
lx (w32 (y4 + 7)) fun x_3332 =>
c x_3332 m_3275
else
some (0, m_3275)
else
lx (w32 (y4 + 7)) fun x_3308 =>
c x_3308 m_3275
else
some (0, m_3275)
set_option maxHeartbeats 4000000 in
theorem oj_L_law_2118 {xs : List Int32} {d : Nat} {S : QS} {L : QL} {Q : QO → QS → Prop} {m : MM} {y4 : Int} {v0 : Value} {v1 : Value} {v2 : Value} {v3 : Value} {v4 : Value}  {rz : Int} {rm : MM} {c : Int → MM → Option (Int × MM)} 
  (hd : 174 ≤ d) (R : Rp S m) (l0 : q_lo L 0 = some v0) (f0 : q_is 7 v0 0) (l1 : q_lo L 1 = some v1) (f1 : q_is 2 v1 4) (l2 : q_lo L 2 = some v2) (f2 : q_is 2 v2 68) (l3 : q_lo L 3 = some v3) (f3 : q_is 2 v3 162) (l4 : q_lo L 4 = some v4) (f4 : q_is 0 v4 y4)
  (hc : ∀ mq : MM, Ext m mq → ∀ {z4 : Int} {Sq : QS} {Lq : QL} {u0 : Value} {u1 : Value} {u2 : Value} {u3 : Value} {u4 : Value}, c z4 mq = some (rz, rm) → Rp Sq mq → q_lo Lq 0 = some u0 → q_is 7 u0 0 → q_lo Lq 1 = some u1 → q_is 2 u1 4 → q_lo Lq 2 = some u2 → q_is 2 u2 68 → q_lo Lq 3 = some u3 → q_is 2 u3 162 → q_lo Lq 4 = some u4 → q_is 0 u4 z4 → Go xs d qM_L_law 23 Lq [] Sq Q)
  (hQ : Ext m rm → ∀ o S1, Rp S1 rm → q_out 0 o rz → Q o S1)
  (h : fj_L_law_2118 xs c y4 m = some (rz, rm)) : Go xs d qM_L_law 2118 L [] S Q := by
  unfold fj_L_law_2118 at h
  refine go_aload_n (n := 1) (by decide +kernel) l1 f1 ?_
  refine go_aload_n (n := 3) (by decide +kernel) l3 f3 ?_
  obtain ⟨x_3256, m_3257, hc_3255, h⟩ := bd_s h
  refine go_callS (x := 236) (mi := 368) (n := 2) (b := 0) (as := [v1, v3]) (rest := []) (by decide +kernel) (by decide +kernel) rfl rfl (q_sum8 _ (Nat.le_of_ble_eq_true rfl)) (om_L_takeOver (Nat.le_trans (by decide) hd) R f1 f3 hc_3255) (fun _ S_3260 q_3263 => ?_) (fun _ _ qq => kr_x qq)
  refine kr_z (by decide) q_3263 fun v_3258 f_3259 R_3261 E_3262 => ?_
  have E_3264 := E_3262
  refine go_istore (n := 5) (by decide +kernel) (by decide +kernel) f_3259 fun L_3265 l_3266 kp_3267 => ?_
  have l_3268 := kp_3267 0 _ l0 (by decide) (Or.inl (by decide))
  have l_3269 := kp_3267 1 _ l1 (by decide) (Or.inl (by decide))
  have l_3270 := kp_3267 2 _ l2 (by decide) (Or.inl (by decide))
  have l_3271 := kp_3267 3 _ l3 (by decide) (Or.inl (by decide))
  have l_3272 := kp_3267 4 _ l4 (by decide) (Or.inr (q_is_cat f4 (Or.inl rfl)))
  refine go_aload_n (n := 2) (by decide +kernel) l_3270 f2 ?_
  obtain ⟨x_3274, m_3275, hc_3273, h⟩ := bd_s h
  refine go_callV (x := 239) (mi := 304) (n := 0) (ci := 13) (as := []) (rest := []) (by decide +kernel) (by decide +kernel) rfl rfl (q_sum8 _ (Nat.le_of_ble_eq_true rfl)) R_3261 f2 (fx_k (c := 13) R_3261 (by decide +kernel)) (om_X12_takeOver (Nat.le_trans (by decide) hd) R_3261 f2 hc_3273) (fun _ S_3278 q_3281 => ?_) (fun _ _ qq => kr_x qq)
  refine kr_z (by decide) q_3281 fun v_3276 f_3277 R_3279 E_3280 => ?_
  have E_3282 := Ext.tr E_3264 E_3280
  refine go_istore (n := 6) (by decide +kernel) (by decide +kernel) f_3277 fun L_3283 l_3284 kp_3285 => ?_
  have l_3286 := kp_3285 0 _ l_3268 (by decide) (Or.inl (by decide))
  have l_3287 := kp_3285 1 _ l_3269 (by decide) (Or.inl (by decide))
  have l_3288 := kp_3285 2 _ l_3270 (by decide) (Or.inl (by decide))
  have l_3289 := kp_3285 3 _ l_3271 (by decide) (Or.inl (by decide))
  have l_3290 := kp_3285 4 _ l_3272 (by decide) (Or.inl (by decide))
  have l_3291 := kp_3285 5 _ l_3266 (by decide) (Or.inr (q_is_cat f_3259 (Or.inl rfl)))
  refine go_aload_n (n := 2) (by decide +kernel) l_3288 f2 ?_
  obtain ⟨x_3293, hc_3292, h⟩ := bp_s h
  refine go_callV (x := 143) (mi := 185) (n := 0) (ci := 13) (as := []) (rest := []) (by decide +kernel) (by decide +kernel) rfl rfl (q_sum8 _ (Nat.le_of_ble_eq_true rfl)) R_3279 f2 (fx_k (c := 13) R_3279 (by decide +kernel)) (om_X12_thrown (Nat.le_trans (by decide) hd) R_3279 f2 hc_3292) (fun _ S_3297 q_3300 => ?_) (fun _ _ qq => kr_x qq)
  refine kr_z (by decide) q_3300 fun v_3295 f_3296 R_3298 E_3299 => ?_
  refine go_iload (n := 5) (by decide +kernel) l_3291 f_3259 ?_
  refine go_icmp (c := .eq) (o := 5) (t := 2142) (P := x_3293 = x_3256) (by decide +kernel) (by decide +kernel) f_3296 f_3259 (Iff.rfl) (fun hp_3301 => ?_) (fun hp_3301 => ?_)
  · have h := it_t hp_3301 h
    refine go_iload (n := 5) (by decide +kernel) l_3291 f_3259 ?_
    refine go_if (c := .ne) (o := 15) (t := 2159) (P := ¬ (x_3256 = 0)) (by decide +kernel) (by decide +kernel) f_3259 (Iff.rfl) (fun hp_3302 => ?_) (fun hp_3302 => ?_)
    · have h := it_f hp_3302 h
      refine go_goto (o := 438) (t := 2597) (by decide +kernel) (by decide +kernel) ?_
      refine go_iinc (n := 4) (c := 7) (c' := 7) (by decide +kernel) (by decide +kernel) l_3290 f4 (by decide) fun L_3303 v_3304 f_3305 l_3306 kp_3307 => ?_
      obtain ⟨x_3308, e_3309, h⟩ := lx_s h
      have f_3310 := q_is_eq f_3305 e_3309
      have l_3311 := kp_3307 0 _ l_3286 (by decide) (Or.inl (by decide))
      have l_3312 := kp_3307 1 _ l_3287 (by decide) (Or.inl (by decide))
      have l_3313 := kp_3307 2 _ l_3288 (by decide) (Or.inl (by decide))
      have l_3314 := kp_3307 3 _ l_3289 (by decide) (Or.inr (q_is_cat f3 (Or.inr rfl)))
      refine go_goto (o := (-2577)) (t := 23) (by decide +kernel) (by decide +kernel) ?_
      exact hc m_3275 E_3282 h R_3298 l_3311 f0 l_3312 f1 l_3313 f2 l_3314 f3 l_3306 f_3310
    · have h := it_n hp_3302 h
      refine go_aload_n (n := 3) (by decide +kernel) l_3289 f3 ?_
      refine go_iconst (n := 0) (z := 0) (by decide +kernel) (by decide) fun v_3315 f_3316 => ?_
      obtain ⟨x_3320, e_3321, h⟩ := lx_s h
      refine go_lald (kd := 101) (by decide +kernel) rfl R_3298 f3 f_3316 (fx_k (c := 101) R_3298 (by decide +kernel)) (fx_x (a := 162) (ln := 1) R_3298 (by decide +kernel) (by decide)) fun v_3317 f_3318 => ?_
      have f_3319 := q_is_eq f_3318 e_3321
      refine go_iload (n := 6) (by decide +kernel) l_3284 f_3277 ?_
      refine go_i2l (by decide +kernel) f_3277 fun v_3322 f_3323 => ?_
      refine go_lcmp (by decide +kernel) f_3319 f_3323 fun v_3324 f_3325 => ?_
      refine go_if (c := .eq) (o := 5) (t := 2159) (P := x_3320 = x_3274) (by decide +kernel) (by decide +kernel) f_3325 (lc_eq) (fun hp_3326 => ?_) (fun hp_3326 => ?_)
      · have h := it_t hp_3326 h
        refine go_goto (o := 438) (t := 2597) (by decide +kernel) (by decide +kernel) ?_
        refine go_iinc (n := 4) (c := 7) (c' := 7) (by decide +kernel) (by decide +kernel) l_3290 f4 (by decide) fun L_3327 v_3328 f_3329 l_3330 kp_3331 => ?_
        obtain ⟨x_3332, e_3333, h⟩ := lx_s h
        have f_3334 := q_is_eq f_3329 e_3333
        have l_3335 := kp_3331 0 _ l_3286 (by decide) (Or.inl (by decide))
        have l_3336 := kp_3331 1 _ l_3287 (by decide) (Or.inl (by decide))
        have l_3337 := kp_3331 2 _ l_3288 (by decide) (Or.inl (by decide))
        have l_3338 := kp_3331 3 _ l_3289 (by decide) (Or.inr (q_is_cat f3 (Or.inr rfl)))
        refine go_goto (o := (-2577)) (t := 23) (by decide +kernel) (by decide +kernel) ?_
        exact hc m_3275 E_3282 h R_3298 l_3335 f0 l_3336 f1 l_3337 f2 l_3338 f3 l_3330 f_3334
      · have h := it_f hp_3326 h
        refine go_iconst (n := 0) (z := 0) (by decide +kernel) (by decide) fun v_3339 f_3340 => ?_
        cases h
        exact go_iret (by decide +kernel) rfl (Or.inr ⟨rfl, by decide⟩) f_3340 (hQ E_3282 _ _ R_3298 (q_out_v (by decide) f_3340))
  · have h := it_f hp_3301 h
    refine go_iconst (n := 0) (z := 0) (by decide +kernel) (by decide) fun v_3341 f_3342 => ?_
    cases h
    exact go_iret (by decide +kernel) rfl (Or.inr ⟨rfl, by decide⟩) f_3342 (hQ E_3282 _ _ R_3298 (q_out_v (by decide) f_3342))
noncomputable def fj_L_law_2162 (xs : List Int32) (c : Int → MM → Option (Int × MM)) (y4 : Int) (m : MM) : Option (Int × MM) := bd (fm_L_join m) fun x_3346 m_3347 =>
bd (fm_X12_join m_3347) fun x_3364 m_3365 =>
bp (fm_X12_thrown m_3365) fun x_3383 =>
if x_3383 = x_3346 then
if x_3346 = 0 then
lx (m_3365 162 0) fun x_3410 =>
if x_3410 = x_3364 then
lx (w32 (y4 + 7)) fun x_3422 =>
c x_3422 m_3365
else
some (0, m_3365)
else
lx (w32 (y4 + 7)) fun x_3398 =>
c x_3398 m_3365
else
some (0, m_3365)
set_option maxHeartbeats 4000000 in
theorem oj_L_law_2162 {xs : List Int32} {d : Nat} {S : QS} {L : QL} {Q : QO → QS → Prop} {m : MM} {y4 : Int} {v0 : Value} {v1 : Value} {v2 : Value} {v3 : Value} {v4 : Value}  {rz : Int} {rm : MM} {c : Int → MM → Option (Int × MM)} 
  (hd : 174 ≤ d) (R : Rp S m) (l0 : q_lo L 0 = some v0) (f0 : q_is 7 v0 0) (l1 : q_lo L 1 = some v1) (f1 : q_is 2 v1 4) (l2 : q_lo L 2 = some v2) (f2 : q_is 2 v2 68) (l3 : q_lo L 3 = some v3) (f3 : q_is 2 v3 162) (l4 : q_lo L 4 = some v4) (f4 : q_is 0 v4 y4)
  (hc : ∀ mq : MM, Ext m mq → ∀ {z4 : Int} {Sq : QS} {Lq : QL} {u0 : Value} {u1 : Value} {u2 : Value} {u3 : Value} {u4 : Value}, c z4 mq = some (rz, rm) → Rp Sq mq → q_lo Lq 0 = some u0 → q_is 7 u0 0 → q_lo Lq 1 = some u1 → q_is 2 u1 4 → q_lo Lq 2 = some u2 → q_is 2 u2 68 → q_lo Lq 3 = some u3 → q_is 2 u3 162 → q_lo Lq 4 = some u4 → q_is 0 u4 z4 → Go xs d qM_L_law 23 Lq [] Sq Q)
  (hQ : Ext m rm → ∀ o S1, Rp S1 rm → q_out 0 o rz → Q o S1)
  (h : fj_L_law_2162 xs c y4 m = some (rz, rm)) : Go xs d qM_L_law 2162 L [] S Q := by
  unfold fj_L_law_2162 at h
  refine go_aload_n (n := 1) (by decide +kernel) l1 f1 ?_
  refine go_aload_n (n := 3) (by decide +kernel) l3 f3 ?_
  obtain ⟨x_3346, m_3347, hc_3345, h⟩ := bd_s h
  refine go_callS (x := 240) (mi := 369) (n := 2) (b := 0) (as := [v1, v3]) (rest := []) (by decide +kernel) (by decide +kernel) rfl rfl (q_sum8 _ (Nat.le_of_ble_eq_true rfl)) (om_L_join (Nat.le_trans (by decide) hd) R f1 f3 hc_3345) (fun _ S_3350 q_3353 => ?_) (fun _ _ qq => kr_x qq)
  refine kr_z (by decide) q_3353 fun v_3348 f_3349 R_3351 E_3352 => ?_
  have E_3354 := E_3352
  refine go_istore (n := 5) (by decide +kernel) (by decide +kernel) f_3349 fun L_3355 l_3356 kp_3357 => ?_
  have l_3358 := kp_3357 0 _ l0 (by decide) (Or.inl (by decide))
  have l_3359 := kp_3357 1 _ l1 (by decide) (Or.inl (by decide))
  have l_3360 := kp_3357 2 _ l2 (by decide) (Or.inl (by decide))
  have l_3361 := kp_3357 3 _ l3 (by decide) (Or.inl (by decide))
  have l_3362 := kp_3357 4 _ l4 (by decide) (Or.inr (q_is_cat f4 (Or.inl rfl)))
  refine go_aload_n (n := 2) (by decide +kernel) l_3360 f2 ?_
  obtain ⟨x_3364, m_3365, hc_3363, h⟩ := bd_s h
  refine go_callV (x := 242) (mi := 305) (n := 0) (ci := 13) (as := []) (rest := []) (by decide +kernel) (by decide +kernel) rfl rfl (q_sum8 _ (Nat.le_of_ble_eq_true rfl)) R_3351 f2 (fx_k (c := 13) R_3351 (by decide +kernel)) (om_X12_join (Nat.le_trans (by decide) hd) R_3351 f2 hc_3363) (fun _ S_3368 q_3371 => ?_) (fun _ _ qq => kr_x qq)
  refine kr_z (by decide) q_3371 fun v_3366 f_3367 R_3369 E_3370 => ?_
  have E_3372 := Ext.tr E_3354 E_3370
  refine go_istore (n := 6) (by decide +kernel) (by decide +kernel) f_3367 fun L_3373 l_3374 kp_3375 => ?_
  have l_3376 := kp_3375 0 _ l_3358 (by decide) (Or.inl (by decide))
  have l_3377 := kp_3375 1 _ l_3359 (by decide) (Or.inl (by decide))
  have l_3378 := kp_3375 2 _ l_3360 (by decide) (Or.inl (by decide))
  have l_3379 := kp_3375 3 _ l_3361 (by decide) (Or.inl (by decide))
  have l_3380 := kp_3375 4 _ l_3362 (by decide) (Or.inl (by decide))
  have l_3381 := kp_3375 5 _ l_3356 (by decide) (Or.inr (q_is_cat f_3349 (Or.inl rfl)))
  refine go_aload_n (n := 2) (by decide +kernel) l_3378 f2 ?_
  obtain ⟨x_3383, hc_3382, h⟩ := bp_s h
  refine go_callV (x := 143) (mi := 185) (n := 0) (ci := 13) (as := []) (rest := []) (by decide +kernel) (by decide +kernel) rfl rfl (q_sum8 _ (Nat.le_of_ble_eq_true rfl)) R_3369 f2 (fx_k (c := 13) R_3369 (by decide +kernel)) (om_X12_thrown (Nat.le_trans (by decide) hd) R_3369 f2 hc_3382) (fun _ S_3387 q_3390 => ?_) (fun _ _ qq => kr_x qq)
  refine kr_z (by decide) q_3390 fun v_3385 f_3386 R_3388 E_3389 => ?_
  refine go_iload (n := 5) (by decide +kernel) l_3381 f_3349 ?_
  refine go_icmp (c := .eq) (o := 5) (t := 2186) (P := x_3383 = x_3346) (by decide +kernel) (by decide +kernel) f_3386 f_3349 (Iff.rfl) (fun hp_3391 => ?_) (fun hp_3391 => ?_)
  · have h := it_t hp_3391 h
    refine go_iload (n := 5) (by decide +kernel) l_3381 f_3349 ?_
    refine go_if (c := .ne) (o := 15) (t := 2203) (P := ¬ (x_3346 = 0)) (by decide +kernel) (by decide +kernel) f_3349 (Iff.rfl) (fun hp_3392 => ?_) (fun hp_3392 => ?_)
    · have h := it_f hp_3392 h
      refine go_goto (o := 394) (t := 2597) (by decide +kernel) (by decide +kernel) ?_
      refine go_iinc (n := 4) (c := 7) (c' := 7) (by decide +kernel) (by decide +kernel) l_3380 f4 (by decide) fun L_3393 v_3394 f_3395 l_3396 kp_3397 => ?_
      obtain ⟨x_3398, e_3399, h⟩ := lx_s h
      have f_3400 := q_is_eq f_3395 e_3399
      have l_3401 := kp_3397 0 _ l_3376 (by decide) (Or.inl (by decide))
      have l_3402 := kp_3397 1 _ l_3377 (by decide) (Or.inl (by decide))
      have l_3403 := kp_3397 2 _ l_3378 (by decide) (Or.inl (by decide))
      have l_3404 := kp_3397 3 _ l_3379 (by decide) (Or.inr (q_is_cat f3 (Or.inr rfl)))
      refine go_goto (o := (-2577)) (t := 23) (by decide +kernel) (by decide +kernel) ?_
      exact hc m_3365 E_3372 h R_3388 l_3401 f0 l_3402 f1 l_3403 f2 l_3404 f3 l_3396 f_3400
    · have h := it_n hp_3392 h
      refine go_aload_n (n := 3) (by decide +kernel) l_3379 f3 ?_
      refine go_iconst (n := 0) (z := 0) (by decide +kernel) (by decide) fun v_3405 f_3406 => ?_
      obtain ⟨x_3410, e_3411, h⟩ := lx_s h
      refine go_lald (kd := 101) (by decide +kernel) rfl R_3388 f3 f_3406 (fx_k (c := 101) R_3388 (by decide +kernel)) (fx_x (a := 162) (ln := 1) R_3388 (by decide +kernel) (by decide)) fun v_3407 f_3408 => ?_
      have f_3409 := q_is_eq f_3408 e_3411
      refine go_iload (n := 6) (by decide +kernel) l_3374 f_3367 ?_
      refine go_i2l (by decide +kernel) f_3367 fun v_3412 f_3413 => ?_
      refine go_lcmp (by decide +kernel) f_3409 f_3413 fun v_3414 f_3415 => ?_
      refine go_if (c := .eq) (o := 5) (t := 2203) (P := x_3410 = x_3364) (by decide +kernel) (by decide +kernel) f_3415 (lc_eq) (fun hp_3416 => ?_) (fun hp_3416 => ?_)
      · have h := it_t hp_3416 h
        refine go_goto (o := 394) (t := 2597) (by decide +kernel) (by decide +kernel) ?_
        refine go_iinc (n := 4) (c := 7) (c' := 7) (by decide +kernel) (by decide +kernel) l_3380 f4 (by decide) fun L_3417 v_3418 f_3419 l_3420 kp_3421 => ?_
        obtain ⟨x_3422, e_3423, h⟩ := lx_s h
        have f_3424 := q_is_eq f_3419 e_3423
        have l_3425 := kp_3421 0 _ l_3376 (by decide) (Or.inl (by decide))
        have l_3426 := kp_3421 1 _ l_3377 (by decide) (Or.inl (by decide))
        have l_3427 := kp_3421 2 _ l_3378 (by decide) (Or.inl (by decide))
        have l_3428 := kp_3421 3 _ l_3379 (by decide) (Or.inr (q_is_cat f3 (Or.inr rfl)))
        refine go_goto (o := (-2577)) (t := 23) (by decide +kernel) (by decide +kernel) ?_
        exact hc m_3365 E_3372 h R_3388 l_3425 f0 l_3426 f1 l_3427 f2 l_3428 f3 l_3420 f_3424
      · have h := it_f hp_3416 h
        refine go_iconst (n := 0) (z := 0) (by decide +kernel) (by decide) fun v_3429 f_3430 => ?_
        cases h
        exact go_iret (by decide +kernel) rfl (Or.inr ⟨rfl, by decide⟩) f_3430 (hQ E_3372 _ _ R_3388 (q_out_v (by decide) f_3430))
  · have h := it_f hp_3391 h
    refine go_iconst (n := 0) (z := 0) (by decide +kernel) (by decide) fun v_3431 f_3432 => ?_
    cases h
    exact go_iret (by decide +kernel) rfl (Or.inr ⟨rfl, by decide⟩) f_3432 (hQ E_3372 _ _ R_3388 (q_out_v (by decide) f_3432))
noncomputable def fj_L_law_2206 (xs : List Int32) (c : Int → MM → Option (Int × MM)) (y4 : Int) (m : MM) : Option (Int × MM) := gd (0 ≤ w32 (y4 + 1) ∧ w32 (y4 + 1) < (xs.length : Int)) <| gd (0 ≤ w32 (y4 + 2) ∧ w32 (y4 + 2) < (xs.length : Int)) <| gd (0 ≤ w32 (y4 + 3) ∧ w32 (y4 + 3) < (xs.length : Int)) <| gd (0 ≤ w32 (y4 + 4) ∧ w32 (y4 + 4) < (xs.length : Int)) <| bd (fm_L_schedule (scr xs (w32 (y4 + 1))) (scr xs (w32 (y4 + 2))) (scr xs (w32 (y4 + 3))) (scr xs (w32 (y4 + 4))) m) fun x_3464 m_3465 =>
bd (fm_X12_schedule (scr xs (w32 (y4 + 1))) (scr xs (w32 (y4 + 2))) (scr xs (w32 (y4 + 3))) (scr xs (w32 (y4 + 4))) m_3465) fun x_3506 m_3507 =>
bp (fm_X12_thrown m_3507) fun x_3525 =>
if x_3525 = x_3464 then
if x_3464 = 0 then
lx (m_3507 162 0) fun x_3552 =>
if x_3552 = x_3506 then
lx (w32 (y4 + 7)) fun x_3564 =>
c x_3564 m_3507
else
some (0, m_3507)
else
lx (w32 (y4 + 7)) fun x_3540 =>
c x_3540 m_3507
else
some (0, m_3507)
set_option maxHeartbeats 4000000 in
theorem oj_L_law_2206 {xs : List Int32} {d : Nat} {S : QS} {L : QL} {Q : QO → QS → Prop} {m : MM} {y4 : Int} {v0 : Value} {v1 : Value} {v2 : Value} {v3 : Value} {v4 : Value}  {rz : Int} {rm : MM} {c : Int → MM → Option (Int × MM)} 
  (hd : 174 ≤ d) (R : Rp S m) (l0 : q_lo L 0 = some v0) (f0 : q_is 7 v0 0) (l1 : q_lo L 1 = some v1) (f1 : q_is 2 v1 4) (l2 : q_lo L 2 = some v2) (f2 : q_is 2 v2 68) (l3 : q_lo L 3 = some v3) (f3 : q_is 2 v3 162) (l4 : q_lo L 4 = some v4) (f4 : q_is 0 v4 y4)
  (hc : ∀ mq : MM, Ext m mq → ∀ {z4 : Int} {Sq : QS} {Lq : QL} {u0 : Value} {u1 : Value} {u2 : Value} {u3 : Value} {u4 : Value}, c z4 mq = some (rz, rm) → Rp Sq mq → q_lo Lq 0 = some u0 → q_is 7 u0 0 → q_lo Lq 1 = some u1 → q_is 2 u1 4 → q_lo Lq 2 = some u2 → q_is 2 u2 68 → q_lo Lq 3 = some u3 → q_is 2 u3 162 → q_lo Lq 4 = some u4 → q_is 0 u4 z4 → Go xs d qM_L_law 23 Lq [] Sq Q)
  (hQ : Ext m rm → ∀ o S1, Rp S1 rm → q_out 0 o rz → Q o S1)
  (h : fj_L_law_2206 xs c y4 m = some (rz, rm)) : Go xs d qM_L_law 2206 L [] S Q := by
  unfold fj_L_law_2206 at h
  refine go_aload_n (n := 1) (by decide +kernel) l1 f1 ?_
  refine go_aloadS (n := 0) (by decide +kernel) l0 f0 ?_
  refine go_iload (n := 4) (by decide +kernel) l4 f4 ?_
  refine go_iconst (n := 1) (z := 1) (by decide +kernel) (by decide) fun v_3435 f_3436 => ?_
  refine go_iadd (by decide +kernel) f4 f_3436 fun v_3437 f_3438 => ?_
  obtain ⟨g_3441, h⟩ := gd_s h
  refine go_sld (by decide +kernel) f0 f_3438 g_3441 fun v_3439 f_3440 => ?_
  refine go_aloadS (n := 0) (by decide +kernel) l0 f0 ?_
  refine go_iload (n := 4) (by decide +kernel) l4 f4 ?_
  refine go_iconst (n := 2) (z := 2) (by decide +kernel) (by decide) fun v_3442 f_3443 => ?_
  refine go_iadd (by decide +kernel) f4 f_3443 fun v_3444 f_3445 => ?_
  obtain ⟨g_3448, h⟩ := gd_s h
  refine go_sld (by decide +kernel) f0 f_3445 g_3448 fun v_3446 f_3447 => ?_
  refine go_aloadS (n := 0) (by decide +kernel) l0 f0 ?_
  refine go_iload (n := 4) (by decide +kernel) l4 f4 ?_
  refine go_iconst (n := 3) (z := 3) (by decide +kernel) (by decide) fun v_3449 f_3450 => ?_
  refine go_iadd (by decide +kernel) f4 f_3450 fun v_3451 f_3452 => ?_
  obtain ⟨g_3455, h⟩ := gd_s h
  refine go_sld (by decide +kernel) f0 f_3452 g_3455 fun v_3453 f_3454 => ?_
  refine go_aloadS (n := 0) (by decide +kernel) l0 f0 ?_
  refine go_iload (n := 4) (by decide +kernel) l4 f4 ?_
  refine go_iconst (n := 4) (z := 4) (by decide +kernel) (by decide) fun v_3456 f_3457 => ?_
  refine go_iadd (by decide +kernel) f4 f_3457 fun v_3458 f_3459 => ?_
  obtain ⟨g_3462, h⟩ := gd_s h
  refine go_sld (by decide +kernel) f0 f_3459 g_3462 fun v_3460 f_3461 => ?_
  refine go_aload_n (n := 3) (by decide +kernel) l3 f3 ?_
  obtain ⟨x_3464, m_3465, hc_3463, h⟩ := bd_s h
  refine go_callS (x := 243) (mi := 370) (n := 6) (b := 0) (as := [v1, v_3439, v_3446, v_3453, v_3460, v3]) (rest := []) (by decide +kernel) (by decide +kernel) rfl rfl (q_sum8 _ (Nat.le_of_ble_eq_true rfl)) (om_L_schedule (Nat.le_trans (by decide) hd) R f1 f_3440 f_3447 f_3454 f_3461 f3 hc_3463) (fun _ S_3468 q_3471 => ?_) (fun _ _ qq => kr_x qq)
  refine kr_z (by decide) q_3471 fun v_3466 f_3467 R_3469 E_3470 => ?_
  have E_3472 := E_3470
  refine go_istore (n := 5) (by decide +kernel) (by decide +kernel) f_3467 fun L_3473 l_3474 kp_3475 => ?_
  have l_3476 := kp_3475 0 _ l0 (by decide) (Or.inl (by decide))
  have l_3477 := kp_3475 1 _ l1 (by decide) (Or.inl (by decide))
  have l_3478 := kp_3475 2 _ l2 (by decide) (Or.inl (by decide))
  have l_3479 := kp_3475 3 _ l3 (by decide) (Or.inl (by decide))
  have l_3480 := kp_3475 4 _ l4 (by decide) (Or.inr (q_is_cat f4 (Or.inl rfl)))
  refine go_aload_n (n := 2) (by decide +kernel) l_3478 f2 ?_
  refine go_aloadS (n := 0) (by decide +kernel) l_3476 f0 ?_
  refine go_iload (n := 4) (by decide +kernel) l_3480 f4 ?_
  refine go_iconst (n := 1) (z := 1) (by decide +kernel) (by decide) fun v_3481 f_3482 => ?_
  refine go_iadd (by decide +kernel) f4 f_3482 fun v_3483 f_3484 => ?_
  refine go_sld (by decide +kernel) f0 f_3484 g_3441 fun v_3485 f_3486 => ?_
  refine go_aloadS (n := 0) (by decide +kernel) l_3476 f0 ?_
  refine go_iload (n := 4) (by decide +kernel) l_3480 f4 ?_
  refine go_iconst (n := 2) (z := 2) (by decide +kernel) (by decide) fun v_3487 f_3488 => ?_
  refine go_iadd (by decide +kernel) f4 f_3488 fun v_3489 f_3490 => ?_
  refine go_sld (by decide +kernel) f0 f_3490 g_3448 fun v_3491 f_3492 => ?_
  refine go_aloadS (n := 0) (by decide +kernel) l_3476 f0 ?_
  refine go_iload (n := 4) (by decide +kernel) l_3480 f4 ?_
  refine go_iconst (n := 3) (z := 3) (by decide +kernel) (by decide) fun v_3493 f_3494 => ?_
  refine go_iadd (by decide +kernel) f4 f_3494 fun v_3495 f_3496 => ?_
  refine go_sld (by decide +kernel) f0 f_3496 g_3455 fun v_3497 f_3498 => ?_
  refine go_aloadS (n := 0) (by decide +kernel) l_3476 f0 ?_
  refine go_iload (n := 4) (by decide +kernel) l_3480 f4 ?_
  refine go_iconst (n := 4) (z := 4) (by decide +kernel) (by decide) fun v_3499 f_3500 => ?_
  refine go_iadd (by decide +kernel) f4 f_3500 fun v_3501 f_3502 => ?_
  refine go_sld (by decide +kernel) f0 f_3502 g_3462 fun v_3503 f_3504 => ?_
  obtain ⟨x_3506, m_3507, hc_3505, h⟩ := bd_s h
  refine go_callV (x := 245) (mi := 307) (n := 4) (ci := 13) (as := [v_3485, v_3491, v_3497, v_3503]) (rest := []) (by decide +kernel) (by decide +kernel) rfl rfl (q_sum8 _ (Nat.le_of_ble_eq_true rfl)) R_3469 f2 (fx_k (c := 13) R_3469 (by decide +kernel)) (om_X12_schedule (Nat.le_trans (by decide) hd) R_3469 f2 f_3486 f_3492 f_3498 f_3504 hc_3505) (fun _ S_3510 q_3513 => ?_) (fun _ _ qq => kr_x qq)
  refine kr_z (by decide) q_3513 fun v_3508 f_3509 R_3511 E_3512 => ?_
  have E_3514 := Ext.tr E_3472 E_3512
  refine go_istore (n := 6) (by decide +kernel) (by decide +kernel) f_3509 fun L_3515 l_3516 kp_3517 => ?_
  have l_3518 := kp_3517 0 _ l_3476 (by decide) (Or.inl (by decide))
  have l_3519 := kp_3517 1 _ l_3477 (by decide) (Or.inl (by decide))
  have l_3520 := kp_3517 2 _ l_3478 (by decide) (Or.inl (by decide))
  have l_3521 := kp_3517 3 _ l_3479 (by decide) (Or.inl (by decide))
  have l_3522 := kp_3517 4 _ l_3480 (by decide) (Or.inl (by decide))
  have l_3523 := kp_3517 5 _ l_3474 (by decide) (Or.inr (q_is_cat f_3467 (Or.inl rfl)))
  refine go_aload_n (n := 2) (by decide +kernel) l_3520 f2 ?_
  obtain ⟨x_3525, hc_3524, h⟩ := bp_s h
  refine go_callV (x := 143) (mi := 185) (n := 0) (ci := 13) (as := []) (rest := []) (by decide +kernel) (by decide +kernel) rfl rfl (q_sum8 _ (Nat.le_of_ble_eq_true rfl)) R_3511 f2 (fx_k (c := 13) R_3511 (by decide +kernel)) (om_X12_thrown (Nat.le_trans (by decide) hd) R_3511 f2 hc_3524) (fun _ S_3529 q_3532 => ?_) (fun _ _ qq => kr_x qq)
  refine kr_z (by decide) q_3532 fun v_3527 f_3528 R_3530 E_3531 => ?_
  refine go_iload (n := 5) (by decide +kernel) l_3523 f_3467 ?_
  refine go_icmp (c := .eq) (o := 5) (t := 2278) (P := x_3525 = x_3464) (by decide +kernel) (by decide +kernel) f_3528 f_3467 (Iff.rfl) (fun hp_3533 => ?_) (fun hp_3533 => ?_)
  · have h := it_t hp_3533 h
    refine go_iload (n := 5) (by decide +kernel) l_3523 f_3467 ?_
    refine go_if (c := .ne) (o := 15) (t := 2295) (P := ¬ (x_3464 = 0)) (by decide +kernel) (by decide +kernel) f_3467 (Iff.rfl) (fun hp_3534 => ?_) (fun hp_3534 => ?_)
    · have h := it_f hp_3534 h
      refine go_goto (o := 302) (t := 2597) (by decide +kernel) (by decide +kernel) ?_
      refine go_iinc (n := 4) (c := 7) (c' := 7) (by decide +kernel) (by decide +kernel) l_3522 f4 (by decide) fun L_3535 v_3536 f_3537 l_3538 kp_3539 => ?_
      obtain ⟨x_3540, e_3541, h⟩ := lx_s h
      have f_3542 := q_is_eq f_3537 e_3541
      have l_3543 := kp_3539 0 _ l_3518 (by decide) (Or.inl (by decide))
      have l_3544 := kp_3539 1 _ l_3519 (by decide) (Or.inl (by decide))
      have l_3545 := kp_3539 2 _ l_3520 (by decide) (Or.inl (by decide))
      have l_3546 := kp_3539 3 _ l_3521 (by decide) (Or.inr (q_is_cat f3 (Or.inr rfl)))
      refine go_goto (o := (-2577)) (t := 23) (by decide +kernel) (by decide +kernel) ?_
      exact hc m_3507 E_3514 h R_3530 l_3543 f0 l_3544 f1 l_3545 f2 l_3546 f3 l_3538 f_3542
    · have h := it_n hp_3534 h
      refine go_aload_n (n := 3) (by decide +kernel) l_3521 f3 ?_
      refine go_iconst (n := 0) (z := 0) (by decide +kernel) (by decide) fun v_3547 f_3548 => ?_
      obtain ⟨x_3552, e_3553, h⟩ := lx_s h
      refine go_lald (kd := 101) (by decide +kernel) rfl R_3530 f3 f_3548 (fx_k (c := 101) R_3530 (by decide +kernel)) (fx_x (a := 162) (ln := 1) R_3530 (by decide +kernel) (by decide)) fun v_3549 f_3550 => ?_
      have f_3551 := q_is_eq f_3550 e_3553
      refine go_iload (n := 6) (by decide +kernel) l_3516 f_3509 ?_
      refine go_i2l (by decide +kernel) f_3509 fun v_3554 f_3555 => ?_
      refine go_lcmp (by decide +kernel) f_3551 f_3555 fun v_3556 f_3557 => ?_
      refine go_if (c := .eq) (o := 5) (t := 2295) (P := x_3552 = x_3506) (by decide +kernel) (by decide +kernel) f_3557 (lc_eq) (fun hp_3558 => ?_) (fun hp_3558 => ?_)
      · have h := it_t hp_3558 h
        refine go_goto (o := 302) (t := 2597) (by decide +kernel) (by decide +kernel) ?_
        refine go_iinc (n := 4) (c := 7) (c' := 7) (by decide +kernel) (by decide +kernel) l_3522 f4 (by decide) fun L_3559 v_3560 f_3561 l_3562 kp_3563 => ?_
        obtain ⟨x_3564, e_3565, h⟩ := lx_s h
        have f_3566 := q_is_eq f_3561 e_3565
        have l_3567 := kp_3563 0 _ l_3518 (by decide) (Or.inl (by decide))
        have l_3568 := kp_3563 1 _ l_3519 (by decide) (Or.inl (by decide))
        have l_3569 := kp_3563 2 _ l_3520 (by decide) (Or.inl (by decide))
        have l_3570 := kp_3563 3 _ l_3521 (by decide) (Or.inr (q_is_cat f3 (Or.inr rfl)))
        refine go_goto (o := (-2577)) (t := 23) (by decide +kernel) (by decide +kernel) ?_
        exact hc m_3507 E_3514 h R_3530 l_3567 f0 l_3568 f1 l_3569 f2 l_3570 f3 l_3562 f_3566
      · have h := it_f hp_3558 h
        refine go_iconst (n := 0) (z := 0) (by decide +kernel) (by decide) fun v_3571 f_3572 => ?_
        cases h
        exact go_iret (by decide +kernel) rfl (Or.inr ⟨rfl, by decide⟩) f_3572 (hQ E_3514 _ _ R_3530 (q_out_v (by decide) f_3572))
  · have h := it_f hp_3533 h
    refine go_iconst (n := 0) (z := 0) (by decide +kernel) (by decide) fun v_3573 f_3574 => ?_
    cases h
    exact go_iret (by decide +kernel) rfl (Or.inr ⟨rfl, by decide⟩) f_3574 (hQ E_3514 _ _ R_3530 (q_out_v (by decide) f_3574))
noncomputable def fj_L_law_2352 (xs : List Int32) (c : Int → MM → Option (Int × MM)) (y4 s0 s1 : Int) (m : MM) : Option (Int × MM) := if s1 = s0 then
lx (w32 (y4 + 7)) fun x_3668 =>
c x_3668 m
else
some (0, m)
set_option maxHeartbeats 4000000 in
theorem oj_L_law_2352 {xs : List Int32} {d : Nat} {S : QS} {L : QL} {Q : QO → QS → Prop} {m : MM} {y4 s0 s1 : Int} {v0 : Value} {v1 : Value} {v2 : Value} {v3 : Value} {v4 : Value} {w0 : Value} {w1 : Value}  {rz : Int} {rm : MM} {c : Int → MM → Option (Int × MM)} 
  (hd : 174 ≤ d) (R : Rp S m) (l0 : q_lo L 0 = some v0) (f0 : q_is 7 v0 0) (l1 : q_lo L 1 = some v1) (f1 : q_is 2 v1 4) (l2 : q_lo L 2 = some v2) (f2 : q_is 2 v2 68) (l3 : q_lo L 3 = some v3) (f3 : q_is 2 v3 162) (l4 : q_lo L 4 = some v4) (f4 : q_is 0 v4 y4) (fs0 : q_is 1 w0 s0) (fs1 : q_is 1 w1 s1)
  (hc : ∀ mq : MM, Ext m mq → ∀ {z4 : Int} {Sq : QS} {Lq : QL} {u0 : Value} {u1 : Value} {u2 : Value} {u3 : Value} {u4 : Value}, c z4 mq = some (rz, rm) → Rp Sq mq → q_lo Lq 0 = some u0 → q_is 7 u0 0 → q_lo Lq 1 = some u1 → q_is 2 u1 4 → q_lo Lq 2 = some u2 → q_is 2 u2 68 → q_lo Lq 3 = some u3 → q_is 2 u3 162 → q_lo Lq 4 = some u4 → q_is 0 u4 z4 → Go xs d qM_L_law 23 Lq [] Sq Q)
  (hQ : Ext m rm → ∀ o S1, Rp S1 rm → q_out 0 o rz → Q o S1)
  (h : fj_L_law_2352 xs c y4 s0 s1 m = some (rz, rm)) : Go xs d qM_L_law 2352 L [w0, w1] S Q := by
  unfold fj_L_law_2352 at h
  refine go_lcmp (by decide +kernel) fs1 fs0 fun v_3660 f_3661 => ?_
  refine go_if (c := .eq) (o := 5) (t := 2358) (P := s1 = s0) (by decide +kernel) (by decide +kernel) f_3661 (lc_eq) (fun hp_3662 => ?_) (fun hp_3662 => ?_)
  · have h := it_t hp_3662 h
    refine go_goto (o := 239) (t := 2597) (by decide +kernel) (by decide +kernel) ?_
    refine go_iinc (n := 4) (c := 7) (c' := 7) (by decide +kernel) (by decide +kernel) l4 f4 (by decide) fun L_3663 v_3664 f_3665 l_3666 kp_3667 => ?_
    obtain ⟨x_3668, e_3669, h⟩ := lx_s h
    have f_3670 := q_is_eq f_3665 e_3669
    have l_3671 := kp_3667 0 _ l0 (by decide) (Or.inl (by decide))
    have l_3672 := kp_3667 1 _ l1 (by decide) (Or.inl (by decide))
    have l_3673 := kp_3667 2 _ l2 (by decide) (Or.inl (by decide))
    have l_3674 := kp_3667 3 _ l3 (by decide) (Or.inr (q_is_cat f3 (Or.inr rfl)))
    refine go_goto (o := (-2577)) (t := 23) (by decide +kernel) (by decide +kernel) ?_
    exact hc m (Ext.rf _) h R l_3671 f0 l_3672 f1 l_3673 f2 l_3674 f3 l_3666 f_3670
  · have h := it_f hp_3662 h
    refine go_iconst (n := 0) (z := 0) (by decide +kernel) (by decide) fun v_3675 f_3676 => ?_
    cases h
    exact go_iret (by decide +kernel) rfl (Or.inr ⟨rfl, by decide⟩) f_3676 (hQ (Ext.rf _) _ _ R (q_out_v (by decide) f_3676))
noncomputable def fj_L_law_2298 (xs : List Int32) (c : Int → MM → Option (Int × MM)) (y4 : Int) (m : MM) : Option (Int × MM) := gd (0 ≤ w32 (y4 + 1) ∧ w32 (y4 + 1) < (xs.length : Int)) <| bd (fm_L_togglePause (scr xs (w32 (y4 + 1))) m) fun x_3585 m_3586 =>
bd (fm_X12_togglePause (scr xs (w32 (y4 + 1))) m_3586) fun x_3609 m_3610 =>
bp (fm_X12_thrown m_3610) fun x_3628 =>
if x_3628 = x_3585 then
if x_3585 = 0 then
lx (m_3610 162 0) fun x_3655 =>
if x_3609 = 0 then
fj_L_law_2352 xs c y4 0 x_3655 m_3610
else
fj_L_law_2352 xs c y4 1 x_3655 m_3610
else
lx (w32 (y4 + 7)) fun x_3643 =>
c x_3643 m_3610
else
some (0, m_3610)
set_option maxHeartbeats 4000000 in
theorem oj_L_law_2298 {xs : List Int32} {d : Nat} {S : QS} {L : QL} {Q : QO → QS → Prop} {m : MM} {y4 : Int} {v0 : Value} {v1 : Value} {v2 : Value} {v3 : Value} {v4 : Value}  {rz : Int} {rm : MM} {c : Int → MM → Option (Int × MM)} 
  (hd : 174 ≤ d) (R : Rp S m) (l0 : q_lo L 0 = some v0) (f0 : q_is 7 v0 0) (l1 : q_lo L 1 = some v1) (f1 : q_is 2 v1 4) (l2 : q_lo L 2 = some v2) (f2 : q_is 2 v2 68) (l3 : q_lo L 3 = some v3) (f3 : q_is 2 v3 162) (l4 : q_lo L 4 = some v4) (f4 : q_is 0 v4 y4)
  (hc : ∀ mq : MM, Ext m mq → ∀ {z4 : Int} {Sq : QS} {Lq : QL} {u0 : Value} {u1 : Value} {u2 : Value} {u3 : Value} {u4 : Value}, c z4 mq = some (rz, rm) → Rp Sq mq → q_lo Lq 0 = some u0 → q_is 7 u0 0 → q_lo Lq 1 = some u1 → q_is 2 u1 4 → q_lo Lq 2 = some u2 → q_is 2 u2 68 → q_lo Lq 3 = some u3 → q_is 2 u3 162 → q_lo Lq 4 = some u4 → q_is 0 u4 z4 → Go xs d qM_L_law 23 Lq [] Sq Q)
  (hQ : Ext m rm → ∀ o S1, Rp S1 rm → q_out 0 o rz → Q o S1)
  (h : fj_L_law_2298 xs c y4 m = some (rz, rm)) : Go xs d qM_L_law 2298 L [] S Q := by
  unfold fj_L_law_2298 at h
  refine go_aload_n (n := 1) (by decide +kernel) l1 f1 ?_
  refine go_aloadS (n := 0) (by decide +kernel) l0 f0 ?_
  refine go_iload (n := 4) (by decide +kernel) l4 f4 ?_
  refine go_iconst (n := 1) (z := 1) (by decide +kernel) (by decide) fun v_3577 f_3578 => ?_
  refine go_iadd (by decide +kernel) f4 f_3578 fun v_3579 f_3580 => ?_
  obtain ⟨g_3583, h⟩ := gd_s h
  refine go_sld (by decide +kernel) f0 f_3580 g_3583 fun v_3581 f_3582 => ?_
  refine go_aload_n (n := 3) (by decide +kernel) l3 f3 ?_
  obtain ⟨x_3585, m_3586, hc_3584, h⟩ := bd_s h
  refine go_callS (x := 246) (mi := 371) (n := 3) (b := 0) (as := [v1, v_3581, v3]) (rest := []) (by decide +kernel) (by decide +kernel) rfl rfl (q_sum8 _ (Nat.le_of_ble_eq_true rfl)) (om_L_togglePause (Nat.le_trans (by decide) hd) R f1 f_3582 f3 hc_3584) (fun _ S_3589 q_3592 => ?_) (fun _ _ qq => kr_x qq)
  refine kr_z (by decide) q_3592 fun v_3587 f_3588 R_3590 E_3591 => ?_
  have E_3593 := E_3591
  refine go_istore (n := 5) (by decide +kernel) (by decide +kernel) f_3588 fun L_3594 l_3595 kp_3596 => ?_
  have l_3597 := kp_3596 0 _ l0 (by decide) (Or.inl (by decide))
  have l_3598 := kp_3596 1 _ l1 (by decide) (Or.inl (by decide))
  have l_3599 := kp_3596 2 _ l2 (by decide) (Or.inl (by decide))
  have l_3600 := kp_3596 3 _ l3 (by decide) (Or.inl (by decide))
  have l_3601 := kp_3596 4 _ l4 (by decide) (Or.inr (q_is_cat f4 (Or.inl rfl)))
  refine go_aload_n (n := 2) (by decide +kernel) l_3599 f2 ?_
  refine go_aloadS (n := 0) (by decide +kernel) l_3597 f0 ?_
  refine go_iload (n := 4) (by decide +kernel) l_3601 f4 ?_
  refine go_iconst (n := 1) (z := 1) (by decide +kernel) (by decide) fun v_3602 f_3603 => ?_
  refine go_iadd (by decide +kernel) f4 f_3603 fun v_3604 f_3605 => ?_
  refine go_sld (by decide +kernel) f0 f_3605 g_3583 fun v_3606 f_3607 => ?_
  obtain ⟨x_3609, m_3610, hc_3608, h⟩ := bd_s h
  refine go_callV (x := 248) (mi := 313) (n := 1) (ci := 13) (as := [v_3606]) (rest := []) (by decide +kernel) (by decide +kernel) rfl rfl (q_sum8 _ (Nat.le_of_ble_eq_true rfl)) R_3590 f2 (fx_k (c := 13) R_3590 (by decide +kernel)) (om_X12_togglePause (Nat.le_trans (by decide) hd) R_3590 f2 f_3607 hc_3608) (fun _ S_3613 q_3616 => ?_) (fun _ _ qq => kr_x qq)
  refine kr_z (by decide) q_3616 fun v_3611 f_3612 R_3614 E_3615 => ?_
  have E_3617 := Ext.tr E_3593 E_3615
  refine go_istore (n := 6) (by decide +kernel) (by decide +kernel) f_3612 fun L_3618 l_3619 kp_3620 => ?_
  have l_3621 := kp_3620 0 _ l_3597 (by decide) (Or.inl (by decide))
  have l_3622 := kp_3620 1 _ l_3598 (by decide) (Or.inl (by decide))
  have l_3623 := kp_3620 2 _ l_3599 (by decide) (Or.inl (by decide))
  have l_3624 := kp_3620 3 _ l_3600 (by decide) (Or.inl (by decide))
  have l_3625 := kp_3620 4 _ l_3601 (by decide) (Or.inl (by decide))
  have l_3626 := kp_3620 5 _ l_3595 (by decide) (Or.inr (q_is_cat f_3588 (Or.inl rfl)))
  refine go_aload_n (n := 2) (by decide +kernel) l_3623 f2 ?_
  obtain ⟨x_3628, hc_3627, h⟩ := bp_s h
  refine go_callV (x := 143) (mi := 185) (n := 0) (ci := 13) (as := []) (rest := []) (by decide +kernel) (by decide +kernel) rfl rfl (q_sum8 _ (Nat.le_of_ble_eq_true rfl)) R_3614 f2 (fx_k (c := 13) R_3614 (by decide +kernel)) (om_X12_thrown (Nat.le_trans (by decide) hd) R_3614 f2 hc_3627) (fun _ S_3632 q_3635 => ?_) (fun _ _ qq => kr_x qq)
  refine kr_z (by decide) q_3635 fun v_3630 f_3631 R_3633 E_3634 => ?_
  refine go_iload (n := 5) (by decide +kernel) l_3626 f_3588 ?_
  refine go_icmp (c := .eq) (o := 5) (t := 2334) (P := x_3628 = x_3585) (by decide +kernel) (by decide +kernel) f_3631 f_3588 (Iff.rfl) (fun hp_3636 => ?_) (fun hp_3636 => ?_)
  · have h := it_t hp_3636 h
    refine go_iload (n := 5) (by decide +kernel) l_3626 f_3588 ?_
    refine go_if (c := .ne) (o := 22) (t := 2358) (P := ¬ (x_3585 = 0)) (by decide +kernel) (by decide +kernel) f_3588 (Iff.rfl) (fun hp_3637 => ?_) (fun hp_3637 => ?_)
    · have h := it_f hp_3637 h
      refine go_goto (o := 239) (t := 2597) (by decide +kernel) (by decide +kernel) ?_
      refine go_iinc (n := 4) (c := 7) (c' := 7) (by decide +kernel) (by decide +kernel) l_3625 f4 (by decide) fun L_3638 v_3639 f_3640 l_3641 kp_3642 => ?_
      obtain ⟨x_3643, e_3644, h⟩ := lx_s h
      have f_3645 := q_is_eq f_3640 e_3644
      have l_3646 := kp_3642 0 _ l_3621 (by decide) (Or.inl (by decide))
      have l_3647 := kp_3642 1 _ l_3622 (by decide) (Or.inl (by decide))
      have l_3648 := kp_3642 2 _ l_3623 (by decide) (Or.inl (by decide))
      have l_3649 := kp_3642 3 _ l_3624 (by decide) (Or.inr (q_is_cat f3 (Or.inr rfl)))
      refine go_goto (o := (-2577)) (t := 23) (by decide +kernel) (by decide +kernel) ?_
      exact hc m_3610 E_3617 h R_3633 l_3646 f0 l_3647 f1 l_3648 f2 l_3649 f3 l_3641 f_3645
    · have h := it_n hp_3637 h
      refine go_aload_n (n := 3) (by decide +kernel) l_3624 f3 ?_
      refine go_iconst (n := 0) (z := 0) (by decide +kernel) (by decide) fun v_3650 f_3651 => ?_
      obtain ⟨x_3655, e_3656, h⟩ := lx_s h
      refine go_lald (kd := 101) (by decide +kernel) rfl R_3633 f3 f_3651 (fx_k (c := 101) R_3633 (by decide +kernel)) (fx_x (a := 162) (ln := 1) R_3633 (by decide +kernel) (by decide)) fun v_3652 f_3653 => ?_
      have f_3654 := q_is_eq f_3653 e_3656
      refine go_iload (n := 6) (by decide +kernel) l_3619 f_3612 ?_
      refine go_if (c := .eq) (o := 7) (t := 2351) (P := x_3609 = 0) (by decide +kernel) (by decide +kernel) f_3612 (Iff.rfl) (fun hp_3657 => ?_) (fun hp_3657 => ?_)
      · have h := it_t hp_3657 h
        refine go_lconst (n := 0) (z := 0) (by decide +kernel) (by decide) fun v_3658 f_3659 => ?_
        exact oj_L_law_2352 hd R_3633 l_3621 f0 l_3622 f1 l_3623 f2 l_3624 f3 l_3625 f4 f_3659 f_3654 (fun mq b => hc mq (Ext.tr E_3617 b)) (fun b => hQ (Ext.tr E_3617 b)) h
      · have h := it_f hp_3657 h
        refine go_lconst (n := 1) (z := 1) (by decide +kernel) (by decide) fun v_3677 f_3678 => ?_
        refine go_goto (o := 4) (t := 2352) (by decide +kernel) (by decide +kernel) ?_
        exact oj_L_law_2352 hd R_3633 l_3621 f0 l_3622 f1 l_3623 f2 l_3624 f3 l_3625 f4 f_3678 f_3654 (fun mq b => hc mq (Ext.tr E_3617 b)) (fun b => hQ (Ext.tr E_3617 b)) h
  · have h := it_f hp_3636 h
    refine go_iconst (n := 0) (z := 0) (by decide +kernel) (by decide) fun v_3679 f_3680 => ?_
    cases h
    exact go_iret (by decide +kernel) rfl (Or.inr ⟨rfl, by decide⟩) f_3680 (hQ E_3617 _ _ R_3633 (q_out_v (by decide) f_3680))
noncomputable def fj_L_law_2361 (xs : List Int32) (c : Int → MM → Option (Int × MM)) (y4 : Int) (m : MM) : Option (Int × MM) := gd (0 ≤ w32 (y4 + 1) ∧ w32 (y4 + 1) < (xs.length : Int)) <| gd (0 ≤ w32 (y4 + 2) ∧ w32 (y4 + 2) < (xs.length : Int)) <| bd (fm_L_backfill (scr xs (w32 (y4 + 1))) (scr xs (w32 (y4 + 2))) m) fun x_3698 m_3699 =>
bd (fm_X12_backfill (scr xs (w32 (y4 + 1))) (scr xs (w32 (y4 + 2))) m_3699) fun x_3728 m_3729 =>
bp (fm_X12_thrown m_3729) fun x_3747 =>
if x_3747 = x_3698 then
if x_3698 = 0 then
lx (m_3729 162 0) fun x_3774 =>
if x_3774 = x_3728 then
lx (w32 (y4 + 7)) fun x_3786 =>
c x_3786 m_3729
else
some (0, m_3729)
else
lx (w32 (y4 + 7)) fun x_3762 =>
c x_3762 m_3729
else
some (0, m_3729)
set_option maxHeartbeats 4000000 in
theorem oj_L_law_2361 {xs : List Int32} {d : Nat} {S : QS} {L : QL} {Q : QO → QS → Prop} {m : MM} {y4 : Int} {v0 : Value} {v1 : Value} {v2 : Value} {v3 : Value} {v4 : Value}  {rz : Int} {rm : MM} {c : Int → MM → Option (Int × MM)} 
  (hd : 174 ≤ d) (R : Rp S m) (l0 : q_lo L 0 = some v0) (f0 : q_is 7 v0 0) (l1 : q_lo L 1 = some v1) (f1 : q_is 2 v1 4) (l2 : q_lo L 2 = some v2) (f2 : q_is 2 v2 68) (l3 : q_lo L 3 = some v3) (f3 : q_is 2 v3 162) (l4 : q_lo L 4 = some v4) (f4 : q_is 0 v4 y4)
  (hc : ∀ mq : MM, Ext m mq → ∀ {z4 : Int} {Sq : QS} {Lq : QL} {u0 : Value} {u1 : Value} {u2 : Value} {u3 : Value} {u4 : Value}, c z4 mq = some (rz, rm) → Rp Sq mq → q_lo Lq 0 = some u0 → q_is 7 u0 0 → q_lo Lq 1 = some u1 → q_is 2 u1 4 → q_lo Lq 2 = some u2 → q_is 2 u2 68 → q_lo Lq 3 = some u3 → q_is 2 u3 162 → q_lo Lq 4 = some u4 → q_is 0 u4 z4 → Go xs d qM_L_law 23 Lq [] Sq Q)
  (hQ : Ext m rm → ∀ o S1, Rp S1 rm → q_out 0 o rz → Q o S1)
  (h : fj_L_law_2361 xs c y4 m = some (rz, rm)) : Go xs d qM_L_law 2361 L [] S Q := by
  unfold fj_L_law_2361 at h
  refine go_aload_n (n := 1) (by decide +kernel) l1 f1 ?_
  refine go_aloadS (n := 0) (by decide +kernel) l0 f0 ?_
  refine go_iload (n := 4) (by decide +kernel) l4 f4 ?_
  refine go_iconst (n := 1) (z := 1) (by decide +kernel) (by decide) fun v_3683 f_3684 => ?_
  refine go_iadd (by decide +kernel) f4 f_3684 fun v_3685 f_3686 => ?_
  obtain ⟨g_3689, h⟩ := gd_s h
  refine go_sld (by decide +kernel) f0 f_3686 g_3689 fun v_3687 f_3688 => ?_
  refine go_aloadS (n := 0) (by decide +kernel) l0 f0 ?_
  refine go_iload (n := 4) (by decide +kernel) l4 f4 ?_
  refine go_iconst (n := 2) (z := 2) (by decide +kernel) (by decide) fun v_3690 f_3691 => ?_
  refine go_iadd (by decide +kernel) f4 f_3691 fun v_3692 f_3693 => ?_
  obtain ⟨g_3696, h⟩ := gd_s h
  refine go_sld (by decide +kernel) f0 f_3693 g_3696 fun v_3694 f_3695 => ?_
  refine go_aload_n (n := 3) (by decide +kernel) l3 f3 ?_
  obtain ⟨x_3698, m_3699, hc_3697, h⟩ := bd_s h
  refine go_callS (x := 249) (mi := 372) (n := 4) (b := 0) (as := [v1, v_3687, v_3694, v3]) (rest := []) (by decide +kernel) (by decide +kernel) rfl rfl (q_sum8 _ (Nat.le_of_ble_eq_true rfl)) (om_L_backfill (Nat.le_trans (by decide) hd) R f1 f_3688 f_3695 f3 hc_3697) (fun _ S_3702 q_3705 => ?_) (fun _ _ qq => kr_x qq)
  refine kr_z (by decide) q_3705 fun v_3700 f_3701 R_3703 E_3704 => ?_
  have E_3706 := E_3704
  refine go_istore (n := 5) (by decide +kernel) (by decide +kernel) f_3701 fun L_3707 l_3708 kp_3709 => ?_
  have l_3710 := kp_3709 0 _ l0 (by decide) (Or.inl (by decide))
  have l_3711 := kp_3709 1 _ l1 (by decide) (Or.inl (by decide))
  have l_3712 := kp_3709 2 _ l2 (by decide) (Or.inl (by decide))
  have l_3713 := kp_3709 3 _ l3 (by decide) (Or.inl (by decide))
  have l_3714 := kp_3709 4 _ l4 (by decide) (Or.inr (q_is_cat f4 (Or.inl rfl)))
  refine go_aload_n (n := 2) (by decide +kernel) l_3712 f2 ?_
  refine go_aloadS (n := 0) (by decide +kernel) l_3710 f0 ?_
  refine go_iload (n := 4) (by decide +kernel) l_3714 f4 ?_
  refine go_iconst (n := 1) (z := 1) (by decide +kernel) (by decide) fun v_3715 f_3716 => ?_
  refine go_iadd (by decide +kernel) f4 f_3716 fun v_3717 f_3718 => ?_
  refine go_sld (by decide +kernel) f0 f_3718 g_3689 fun v_3719 f_3720 => ?_
  refine go_aloadS (n := 0) (by decide +kernel) l_3710 f0 ?_
  refine go_iload (n := 4) (by decide +kernel) l_3714 f4 ?_
  refine go_iconst (n := 2) (z := 2) (by decide +kernel) (by decide) fun v_3721 f_3722 => ?_
  refine go_iadd (by decide +kernel) f4 f_3722 fun v_3723 f_3724 => ?_
  refine go_sld (by decide +kernel) f0 f_3724 g_3696 fun v_3725 f_3726 => ?_
  obtain ⟨x_3728, m_3729, hc_3727, h⟩ := bd_s h
  refine go_callV (x := 251) (mi := 314) (n := 2) (ci := 13) (as := [v_3719, v_3725]) (rest := []) (by decide +kernel) (by decide +kernel) rfl rfl (q_sum8 _ (Nat.le_of_ble_eq_true rfl)) R_3703 f2 (fx_k (c := 13) R_3703 (by decide +kernel)) (om_X12_backfill (Nat.le_trans (by decide) hd) R_3703 f2 f_3720 f_3726 hc_3727) (fun _ S_3732 q_3735 => ?_) (fun _ _ qq => kr_x qq)
  refine kr_z (by decide) q_3735 fun v_3730 f_3731 R_3733 E_3734 => ?_
  have E_3736 := Ext.tr E_3706 E_3734
  refine go_istore (n := 6) (by decide +kernel) (by decide +kernel) f_3731 fun L_3737 l_3738 kp_3739 => ?_
  have l_3740 := kp_3739 0 _ l_3710 (by decide) (Or.inl (by decide))
  have l_3741 := kp_3739 1 _ l_3711 (by decide) (Or.inl (by decide))
  have l_3742 := kp_3739 2 _ l_3712 (by decide) (Or.inl (by decide))
  have l_3743 := kp_3739 3 _ l_3713 (by decide) (Or.inl (by decide))
  have l_3744 := kp_3739 4 _ l_3714 (by decide) (Or.inl (by decide))
  have l_3745 := kp_3739 5 _ l_3708 (by decide) (Or.inr (q_is_cat f_3701 (Or.inl rfl)))
  refine go_aload_n (n := 2) (by decide +kernel) l_3742 f2 ?_
  obtain ⟨x_3747, hc_3746, h⟩ := bp_s h
  refine go_callV (x := 143) (mi := 185) (n := 0) (ci := 13) (as := []) (rest := []) (by decide +kernel) (by decide +kernel) rfl rfl (q_sum8 _ (Nat.le_of_ble_eq_true rfl)) R_3733 f2 (fx_k (c := 13) R_3733 (by decide +kernel)) (om_X12_thrown (Nat.le_trans (by decide) hd) R_3733 f2 hc_3746) (fun _ S_3751 q_3754 => ?_) (fun _ _ qq => kr_x qq)
  refine kr_z (by decide) q_3754 fun v_3749 f_3750 R_3752 E_3753 => ?_
  refine go_iload (n := 5) (by decide +kernel) l_3745 f_3701 ?_
  refine go_icmp (c := .eq) (o := 5) (t := 2409) (P := x_3747 = x_3698) (by decide +kernel) (by decide +kernel) f_3750 f_3701 (Iff.rfl) (fun hp_3755 => ?_) (fun hp_3755 => ?_)
  · have h := it_t hp_3755 h
    refine go_iload (n := 5) (by decide +kernel) l_3745 f_3701 ?_
    refine go_if (c := .ne) (o := 15) (t := 2426) (P := ¬ (x_3698 = 0)) (by decide +kernel) (by decide +kernel) f_3701 (Iff.rfl) (fun hp_3756 => ?_) (fun hp_3756 => ?_)
    · have h := it_f hp_3756 h
      refine go_goto (o := 171) (t := 2597) (by decide +kernel) (by decide +kernel) ?_
      refine go_iinc (n := 4) (c := 7) (c' := 7) (by decide +kernel) (by decide +kernel) l_3744 f4 (by decide) fun L_3757 v_3758 f_3759 l_3760 kp_3761 => ?_
      obtain ⟨x_3762, e_3763, h⟩ := lx_s h
      have f_3764 := q_is_eq f_3759 e_3763
      have l_3765 := kp_3761 0 _ l_3740 (by decide) (Or.inl (by decide))
      have l_3766 := kp_3761 1 _ l_3741 (by decide) (Or.inl (by decide))
      have l_3767 := kp_3761 2 _ l_3742 (by decide) (Or.inl (by decide))
      have l_3768 := kp_3761 3 _ l_3743 (by decide) (Or.inr (q_is_cat f3 (Or.inr rfl)))
      refine go_goto (o := (-2577)) (t := 23) (by decide +kernel) (by decide +kernel) ?_
      exact hc m_3729 E_3736 h R_3752 l_3765 f0 l_3766 f1 l_3767 f2 l_3768 f3 l_3760 f_3764
    · have h := it_n hp_3756 h
      refine go_aload_n (n := 3) (by decide +kernel) l_3743 f3 ?_
      refine go_iconst (n := 0) (z := 0) (by decide +kernel) (by decide) fun v_3769 f_3770 => ?_
      obtain ⟨x_3774, e_3775, h⟩ := lx_s h
      refine go_lald (kd := 101) (by decide +kernel) rfl R_3752 f3 f_3770 (fx_k (c := 101) R_3752 (by decide +kernel)) (fx_x (a := 162) (ln := 1) R_3752 (by decide +kernel) (by decide)) fun v_3771 f_3772 => ?_
      have f_3773 := q_is_eq f_3772 e_3775
      refine go_iload (n := 6) (by decide +kernel) l_3738 f_3731 ?_
      refine go_i2l (by decide +kernel) f_3731 fun v_3776 f_3777 => ?_
      refine go_lcmp (by decide +kernel) f_3773 f_3777 fun v_3778 f_3779 => ?_
      refine go_if (c := .eq) (o := 5) (t := 2426) (P := x_3774 = x_3728) (by decide +kernel) (by decide +kernel) f_3779 (lc_eq) (fun hp_3780 => ?_) (fun hp_3780 => ?_)
      · have h := it_t hp_3780 h
        refine go_goto (o := 171) (t := 2597) (by decide +kernel) (by decide +kernel) ?_
        refine go_iinc (n := 4) (c := 7) (c' := 7) (by decide +kernel) (by decide +kernel) l_3744 f4 (by decide) fun L_3781 v_3782 f_3783 l_3784 kp_3785 => ?_
        obtain ⟨x_3786, e_3787, h⟩ := lx_s h
        have f_3788 := q_is_eq f_3783 e_3787
        have l_3789 := kp_3785 0 _ l_3740 (by decide) (Or.inl (by decide))
        have l_3790 := kp_3785 1 _ l_3741 (by decide) (Or.inl (by decide))
        have l_3791 := kp_3785 2 _ l_3742 (by decide) (Or.inl (by decide))
        have l_3792 := kp_3785 3 _ l_3743 (by decide) (Or.inr (q_is_cat f3 (Or.inr rfl)))
        refine go_goto (o := (-2577)) (t := 23) (by decide +kernel) (by decide +kernel) ?_
        exact hc m_3729 E_3736 h R_3752 l_3789 f0 l_3790 f1 l_3791 f2 l_3792 f3 l_3784 f_3788
      · have h := it_f hp_3780 h
        refine go_iconst (n := 0) (z := 0) (by decide +kernel) (by decide) fun v_3793 f_3794 => ?_
        cases h
        exact go_iret (by decide +kernel) rfl (Or.inr ⟨rfl, by decide⟩) f_3794 (hQ E_3736 _ _ R_3752 (q_out_v (by decide) f_3794))
  · have h := it_f hp_3755 h
    refine go_iconst (n := 0) (z := 0) (by decide +kernel) (by decide) fun v_3795 f_3796 => ?_
    cases h
    exact go_iret (by decide +kernel) rfl (Or.inr ⟨rfl, by decide⟩) f_3796 (hQ E_3736 _ _ R_3752 (q_out_v (by decide) f_3796))
noncomputable def fj_L_law_2429 (xs : List Int32) (c : Int → MM → Option (Int × MM)) (y4 : Int) (m : MM) : Option (Int × MM) := gd (0 ≤ w32 (y4 + 1) ∧ w32 (y4 + 1) < (xs.length : Int)) <| bd (fm_L_shift (scr xs (w32 (y4 + 1))) m) fun x_3807 m_3808 =>
bd (fm_X12_shift (scr xs (w32 (y4 + 1))) m_3808) fun x_3831 m_3832 =>
bp (fm_X12_thrown m_3832) fun x_3850 =>
if x_3850 = x_3807 then
if x_3807 = 0 then
lx (m_3832 162 0) fun x_3877 =>
if x_3877 = x_3831 then
lx (w32 (y4 + 7)) fun x_3889 =>
c x_3889 m_3832
else
some (0, m_3832)
else
lx (w32 (y4 + 7)) fun x_3865 =>
c x_3865 m_3832
else
some (0, m_3832)
set_option maxHeartbeats 4000000 in
theorem oj_L_law_2429 {xs : List Int32} {d : Nat} {S : QS} {L : QL} {Q : QO → QS → Prop} {m : MM} {y4 : Int} {v0 : Value} {v1 : Value} {v2 : Value} {v3 : Value} {v4 : Value}  {rz : Int} {rm : MM} {c : Int → MM → Option (Int × MM)} 
  (hd : 174 ≤ d) (R : Rp S m) (l0 : q_lo L 0 = some v0) (f0 : q_is 7 v0 0) (l1 : q_lo L 1 = some v1) (f1 : q_is 2 v1 4) (l2 : q_lo L 2 = some v2) (f2 : q_is 2 v2 68) (l3 : q_lo L 3 = some v3) (f3 : q_is 2 v3 162) (l4 : q_lo L 4 = some v4) (f4 : q_is 0 v4 y4)
  (hc : ∀ mq : MM, Ext m mq → ∀ {z4 : Int} {Sq : QS} {Lq : QL} {u0 : Value} {u1 : Value} {u2 : Value} {u3 : Value} {u4 : Value}, c z4 mq = some (rz, rm) → Rp Sq mq → q_lo Lq 0 = some u0 → q_is 7 u0 0 → q_lo Lq 1 = some u1 → q_is 2 u1 4 → q_lo Lq 2 = some u2 → q_is 2 u2 68 → q_lo Lq 3 = some u3 → q_is 2 u3 162 → q_lo Lq 4 = some u4 → q_is 0 u4 z4 → Go xs d qM_L_law 23 Lq [] Sq Q)
  (hQ : Ext m rm → ∀ o S1, Rp S1 rm → q_out 0 o rz → Q o S1)
  (h : fj_L_law_2429 xs c y4 m = some (rz, rm)) : Go xs d qM_L_law 2429 L [] S Q := by
  unfold fj_L_law_2429 at h
  refine go_aload_n (n := 1) (by decide +kernel) l1 f1 ?_
  refine go_aloadS (n := 0) (by decide +kernel) l0 f0 ?_
  refine go_iload (n := 4) (by decide +kernel) l4 f4 ?_
  refine go_iconst (n := 1) (z := 1) (by decide +kernel) (by decide) fun v_3799 f_3800 => ?_
  refine go_iadd (by decide +kernel) f4 f_3800 fun v_3801 f_3802 => ?_
  obtain ⟨g_3805, h⟩ := gd_s h
  refine go_sld (by decide +kernel) f0 f_3802 g_3805 fun v_3803 f_3804 => ?_
  refine go_aload_n (n := 3) (by decide +kernel) l3 f3 ?_
  obtain ⟨x_3807, m_3808, hc_3806, h⟩ := bd_s h
  refine go_callS (x := 252) (mi := 373) (n := 3) (b := 0) (as := [v1, v_3803, v3]) (rest := []) (by decide +kernel) (by decide +kernel) rfl rfl (q_sum8 _ (Nat.le_of_ble_eq_true rfl)) (om_L_shift (Nat.le_trans (by decide) hd) R f1 f_3804 f3 hc_3806) (fun _ S_3811 q_3814 => ?_) (fun _ _ qq => kr_x qq)
  refine kr_z (by decide) q_3814 fun v_3809 f_3810 R_3812 E_3813 => ?_
  have E_3815 := E_3813
  refine go_istore (n := 5) (by decide +kernel) (by decide +kernel) f_3810 fun L_3816 l_3817 kp_3818 => ?_
  have l_3819 := kp_3818 0 _ l0 (by decide) (Or.inl (by decide))
  have l_3820 := kp_3818 1 _ l1 (by decide) (Or.inl (by decide))
  have l_3821 := kp_3818 2 _ l2 (by decide) (Or.inl (by decide))
  have l_3822 := kp_3818 3 _ l3 (by decide) (Or.inl (by decide))
  have l_3823 := kp_3818 4 _ l4 (by decide) (Or.inr (q_is_cat f4 (Or.inl rfl)))
  refine go_aload_n (n := 2) (by decide +kernel) l_3821 f2 ?_
  refine go_aloadS (n := 0) (by decide +kernel) l_3819 f0 ?_
  refine go_iload (n := 4) (by decide +kernel) l_3823 f4 ?_
  refine go_iconst (n := 1) (z := 1) (by decide +kernel) (by decide) fun v_3824 f_3825 => ?_
  refine go_iadd (by decide +kernel) f4 f_3825 fun v_3826 f_3827 => ?_
  refine go_sld (by decide +kernel) f0 f_3827 g_3805 fun v_3828 f_3829 => ?_
  obtain ⟨x_3831, m_3832, hc_3830, h⟩ := bd_s h
  refine go_callV (x := 254) (mi := 315) (n := 1) (ci := 13) (as := [v_3828]) (rest := []) (by decide +kernel) (by decide +kernel) rfl rfl (q_sum8 _ (Nat.le_of_ble_eq_true rfl)) R_3812 f2 (fx_k (c := 13) R_3812 (by decide +kernel)) (om_X12_shift (Nat.le_trans (by decide) hd) R_3812 f2 f_3829 hc_3830) (fun _ S_3835 q_3838 => ?_) (fun _ _ qq => kr_x qq)
  refine kr_z (by decide) q_3838 fun v_3833 f_3834 R_3836 E_3837 => ?_
  have E_3839 := Ext.tr E_3815 E_3837
  refine go_istore (n := 6) (by decide +kernel) (by decide +kernel) f_3834 fun L_3840 l_3841 kp_3842 => ?_
  have l_3843 := kp_3842 0 _ l_3819 (by decide) (Or.inl (by decide))
  have l_3844 := kp_3842 1 _ l_3820 (by decide) (Or.inl (by decide))
  have l_3845 := kp_3842 2 _ l_3821 (by decide) (Or.inl (by decide))
  have l_3846 := kp_3842 3 _ l_3822 (by decide) (Or.inl (by decide))
  have l_3847 := kp_3842 4 _ l_3823 (by decide) (Or.inl (by decide))
  have l_3848 := kp_3842 5 _ l_3817 (by decide) (Or.inr (q_is_cat f_3810 (Or.inl rfl)))
  refine go_aload_n (n := 2) (by decide +kernel) l_3845 f2 ?_
  obtain ⟨x_3850, hc_3849, h⟩ := bp_s h
  refine go_callV (x := 143) (mi := 185) (n := 0) (ci := 13) (as := []) (rest := []) (by decide +kernel) (by decide +kernel) rfl rfl (q_sum8 _ (Nat.le_of_ble_eq_true rfl)) R_3836 f2 (fx_k (c := 13) R_3836 (by decide +kernel)) (om_X12_thrown (Nat.le_trans (by decide) hd) R_3836 f2 hc_3849) (fun _ S_3854 q_3857 => ?_) (fun _ _ qq => kr_x qq)
  refine kr_z (by decide) q_3857 fun v_3852 f_3853 R_3855 E_3856 => ?_
  refine go_iload (n := 5) (by decide +kernel) l_3848 f_3810 ?_
  refine go_icmp (c := .eq) (o := 5) (t := 2465) (P := x_3850 = x_3807) (by decide +kernel) (by decide +kernel) f_3853 f_3810 (Iff.rfl) (fun hp_3858 => ?_) (fun hp_3858 => ?_)
  · have h := it_t hp_3858 h
    refine go_iload (n := 5) (by decide +kernel) l_3848 f_3810 ?_
    refine go_if (c := .ne) (o := 15) (t := 2482) (P := ¬ (x_3807 = 0)) (by decide +kernel) (by decide +kernel) f_3810 (Iff.rfl) (fun hp_3859 => ?_) (fun hp_3859 => ?_)
    · have h := it_f hp_3859 h
      refine go_goto (o := 115) (t := 2597) (by decide +kernel) (by decide +kernel) ?_
      refine go_iinc (n := 4) (c := 7) (c' := 7) (by decide +kernel) (by decide +kernel) l_3847 f4 (by decide) fun L_3860 v_3861 f_3862 l_3863 kp_3864 => ?_
      obtain ⟨x_3865, e_3866, h⟩ := lx_s h
      have f_3867 := q_is_eq f_3862 e_3866
      have l_3868 := kp_3864 0 _ l_3843 (by decide) (Or.inl (by decide))
      have l_3869 := kp_3864 1 _ l_3844 (by decide) (Or.inl (by decide))
      have l_3870 := kp_3864 2 _ l_3845 (by decide) (Or.inl (by decide))
      have l_3871 := kp_3864 3 _ l_3846 (by decide) (Or.inr (q_is_cat f3 (Or.inr rfl)))
      refine go_goto (o := (-2577)) (t := 23) (by decide +kernel) (by decide +kernel) ?_
      exact hc m_3832 E_3839 h R_3855 l_3868 f0 l_3869 f1 l_3870 f2 l_3871 f3 l_3863 f_3867
    · have h := it_n hp_3859 h
      refine go_aload_n (n := 3) (by decide +kernel) l_3846 f3 ?_
      refine go_iconst (n := 0) (z := 0) (by decide +kernel) (by decide) fun v_3872 f_3873 => ?_
      obtain ⟨x_3877, e_3878, h⟩ := lx_s h
      refine go_lald (kd := 101) (by decide +kernel) rfl R_3855 f3 f_3873 (fx_k (c := 101) R_3855 (by decide +kernel)) (fx_x (a := 162) (ln := 1) R_3855 (by decide +kernel) (by decide)) fun v_3874 f_3875 => ?_
      have f_3876 := q_is_eq f_3875 e_3878
      refine go_iload (n := 6) (by decide +kernel) l_3841 f_3834 ?_
      refine go_i2l (by decide +kernel) f_3834 fun v_3879 f_3880 => ?_
      refine go_lcmp (by decide +kernel) f_3876 f_3880 fun v_3881 f_3882 => ?_
      refine go_if (c := .eq) (o := 5) (t := 2482) (P := x_3877 = x_3831) (by decide +kernel) (by decide +kernel) f_3882 (lc_eq) (fun hp_3883 => ?_) (fun hp_3883 => ?_)
      · have h := it_t hp_3883 h
        refine go_goto (o := 115) (t := 2597) (by decide +kernel) (by decide +kernel) ?_
        refine go_iinc (n := 4) (c := 7) (c' := 7) (by decide +kernel) (by decide +kernel) l_3847 f4 (by decide) fun L_3884 v_3885 f_3886 l_3887 kp_3888 => ?_
        obtain ⟨x_3889, e_3890, h⟩ := lx_s h
        have f_3891 := q_is_eq f_3886 e_3890
        have l_3892 := kp_3888 0 _ l_3843 (by decide) (Or.inl (by decide))
        have l_3893 := kp_3888 1 _ l_3844 (by decide) (Or.inl (by decide))
        have l_3894 := kp_3888 2 _ l_3845 (by decide) (Or.inl (by decide))
        have l_3895 := kp_3888 3 _ l_3846 (by decide) (Or.inr (q_is_cat f3 (Or.inr rfl)))
        refine go_goto (o := (-2577)) (t := 23) (by decide +kernel) (by decide +kernel) ?_
        exact hc m_3832 E_3839 h R_3855 l_3892 f0 l_3893 f1 l_3894 f2 l_3895 f3 l_3887 f_3891
      · have h := it_f hp_3883 h
        refine go_iconst (n := 0) (z := 0) (by decide +kernel) (by decide) fun v_3896 f_3897 => ?_
        cases h
        exact go_iret (by decide +kernel) rfl (Or.inr ⟨rfl, by decide⟩) f_3897 (hQ E_3839 _ _ R_3855 (q_out_v (by decide) f_3897))
  · have h := it_f hp_3858 h
    refine go_iconst (n := 0) (z := 0) (by decide +kernel) (by decide) fun v_3898 f_3899 => ?_
    cases h
    exact go_iret (by decide +kernel) rfl (Or.inr ⟨rfl, by decide⟩) f_3899 (hQ E_3839 _ _ R_3855 (q_out_v (by decide) f_3899))
noncomputable def fj_L_law_2485 (xs : List Int32) (c : Int → MM → Option (Int × MM)) (y4 : Int) (m : MM) : Option (Int × MM) := gd (0 ≤ w32 (y4 + 1) ∧ w32 (y4 + 1) < (xs.length : Int)) <| bd (fm_L_bringIn (scr xs (w32 (y4 + 1))) m) fun x_3910 m_3911 =>
bd (fm_X12_bringIn (scr xs (w32 (y4 + 1))) m_3911) fun x_3934 m_3935 =>
bp (fm_X12_thrown m_3935) fun x_3953 =>
if x_3953 = x_3910 then
if x_3910 = 0 then
lx (m_3935 162 0) fun x_3980 =>
if x_3980 = x_3934 then
lx (w32 (y4 + 7)) fun x_3992 =>
c x_3992 m_3935
else
some (0, m_3935)
else
lx (w32 (y4 + 7)) fun x_3968 =>
c x_3968 m_3935
else
some (0, m_3935)
set_option maxHeartbeats 4000000 in
theorem oj_L_law_2485 {xs : List Int32} {d : Nat} {S : QS} {L : QL} {Q : QO → QS → Prop} {m : MM} {y4 : Int} {v0 : Value} {v1 : Value} {v2 : Value} {v3 : Value} {v4 : Value}  {rz : Int} {rm : MM} {c : Int → MM → Option (Int × MM)} 
  (hd : 174 ≤ d) (R : Rp S m) (l0 : q_lo L 0 = some v0) (f0 : q_is 7 v0 0) (l1 : q_lo L 1 = some v1) (f1 : q_is 2 v1 4) (l2 : q_lo L 2 = some v2) (f2 : q_is 2 v2 68) (l3 : q_lo L 3 = some v3) (f3 : q_is 2 v3 162) (l4 : q_lo L 4 = some v4) (f4 : q_is 0 v4 y4)
  (hc : ∀ mq : MM, Ext m mq → ∀ {z4 : Int} {Sq : QS} {Lq : QL} {u0 : Value} {u1 : Value} {u2 : Value} {u3 : Value} {u4 : Value}, c z4 mq = some (rz, rm) → Rp Sq mq → q_lo Lq 0 = some u0 → q_is 7 u0 0 → q_lo Lq 1 = some u1 → q_is 2 u1 4 → q_lo Lq 2 = some u2 → q_is 2 u2 68 → q_lo Lq 3 = some u3 → q_is 2 u3 162 → q_lo Lq 4 = some u4 → q_is 0 u4 z4 → Go xs d qM_L_law 23 Lq [] Sq Q)
  (hQ : Ext m rm → ∀ o S1, Rp S1 rm → q_out 0 o rz → Q o S1)
  (h : fj_L_law_2485 xs c y4 m = some (rz, rm)) : Go xs d qM_L_law 2485 L [] S Q := by
  unfold fj_L_law_2485 at h
  refine go_aload_n (n := 1) (by decide +kernel) l1 f1 ?_
  refine go_aloadS (n := 0) (by decide +kernel) l0 f0 ?_
  refine go_iload (n := 4) (by decide +kernel) l4 f4 ?_
  refine go_iconst (n := 1) (z := 1) (by decide +kernel) (by decide) fun v_3902 f_3903 => ?_
  refine go_iadd (by decide +kernel) f4 f_3903 fun v_3904 f_3905 => ?_
  obtain ⟨g_3908, h⟩ := gd_s h
  refine go_sld (by decide +kernel) f0 f_3905 g_3908 fun v_3906 f_3907 => ?_
  refine go_aload_n (n := 3) (by decide +kernel) l3 f3 ?_
  obtain ⟨x_3910, m_3911, hc_3909, h⟩ := bd_s h
  refine go_callS (x := 255) (mi := 374) (n := 3) (b := 0) (as := [v1, v_3906, v3]) (rest := []) (by decide +kernel) (by decide +kernel) rfl rfl (q_sum8 _ (Nat.le_of_ble_eq_true rfl)) (om_L_bringIn (Nat.le_trans (by decide) hd) R f1 f_3907 f3 hc_3909) (fun _ S_3914 q_3917 => ?_) (fun _ _ qq => kr_x qq)
  refine kr_z (by decide) q_3917 fun v_3912 f_3913 R_3915 E_3916 => ?_
  have E_3918 := E_3916
  refine go_istore (n := 5) (by decide +kernel) (by decide +kernel) f_3913 fun L_3919 l_3920 kp_3921 => ?_
  have l_3922 := kp_3921 0 _ l0 (by decide) (Or.inl (by decide))
  have l_3923 := kp_3921 1 _ l1 (by decide) (Or.inl (by decide))
  have l_3924 := kp_3921 2 _ l2 (by decide) (Or.inl (by decide))
  have l_3925 := kp_3921 3 _ l3 (by decide) (Or.inl (by decide))
  have l_3926 := kp_3921 4 _ l4 (by decide) (Or.inr (q_is_cat f4 (Or.inl rfl)))
  refine go_aload_n (n := 2) (by decide +kernel) l_3924 f2 ?_
  refine go_aloadS (n := 0) (by decide +kernel) l_3922 f0 ?_
  refine go_iload (n := 4) (by decide +kernel) l_3926 f4 ?_
  refine go_iconst (n := 1) (z := 1) (by decide +kernel) (by decide) fun v_3927 f_3928 => ?_
  refine go_iadd (by decide +kernel) f4 f_3928 fun v_3929 f_3930 => ?_
  refine go_sld (by decide +kernel) f0 f_3930 g_3908 fun v_3931 f_3932 => ?_
  obtain ⟨x_3934, m_3935, hc_3933, h⟩ := bd_s h
  refine go_callV (x := 257) (mi := 316) (n := 1) (ci := 13) (as := [v_3931]) (rest := []) (by decide +kernel) (by decide +kernel) rfl rfl (q_sum8 _ (Nat.le_of_ble_eq_true rfl)) R_3915 f2 (fx_k (c := 13) R_3915 (by decide +kernel)) (om_X12_bringIn (Nat.le_trans (by decide) hd) R_3915 f2 f_3932 hc_3933) (fun _ S_3938 q_3941 => ?_) (fun _ _ qq => kr_x qq)
  refine kr_z (by decide) q_3941 fun v_3936 f_3937 R_3939 E_3940 => ?_
  have E_3942 := Ext.tr E_3918 E_3940
  refine go_istore (n := 6) (by decide +kernel) (by decide +kernel) f_3937 fun L_3943 l_3944 kp_3945 => ?_
  have l_3946 := kp_3945 0 _ l_3922 (by decide) (Or.inl (by decide))
  have l_3947 := kp_3945 1 _ l_3923 (by decide) (Or.inl (by decide))
  have l_3948 := kp_3945 2 _ l_3924 (by decide) (Or.inl (by decide))
  have l_3949 := kp_3945 3 _ l_3925 (by decide) (Or.inl (by decide))
  have l_3950 := kp_3945 4 _ l_3926 (by decide) (Or.inl (by decide))
  have l_3951 := kp_3945 5 _ l_3920 (by decide) (Or.inr (q_is_cat f_3913 (Or.inl rfl)))
  refine go_aload_n (n := 2) (by decide +kernel) l_3948 f2 ?_
  obtain ⟨x_3953, hc_3952, h⟩ := bp_s h
  refine go_callV (x := 143) (mi := 185) (n := 0) (ci := 13) (as := []) (rest := []) (by decide +kernel) (by decide +kernel) rfl rfl (q_sum8 _ (Nat.le_of_ble_eq_true rfl)) R_3939 f2 (fx_k (c := 13) R_3939 (by decide +kernel)) (om_X12_thrown (Nat.le_trans (by decide) hd) R_3939 f2 hc_3952) (fun _ S_3957 q_3960 => ?_) (fun _ _ qq => kr_x qq)
  refine kr_z (by decide) q_3960 fun v_3955 f_3956 R_3958 E_3959 => ?_
  refine go_iload (n := 5) (by decide +kernel) l_3951 f_3913 ?_
  refine go_icmp (c := .eq) (o := 5) (t := 2521) (P := x_3953 = x_3910) (by decide +kernel) (by decide +kernel) f_3956 f_3913 (Iff.rfl) (fun hp_3961 => ?_) (fun hp_3961 => ?_)
  · have h := it_t hp_3961 h
    refine go_iload (n := 5) (by decide +kernel) l_3951 f_3913 ?_
    refine go_if (c := .ne) (o := 15) (t := 2538) (P := ¬ (x_3910 = 0)) (by decide +kernel) (by decide +kernel) f_3913 (Iff.rfl) (fun hp_3962 => ?_) (fun hp_3962 => ?_)
    · have h := it_f hp_3962 h
      refine go_goto (o := 59) (t := 2597) (by decide +kernel) (by decide +kernel) ?_
      refine go_iinc (n := 4) (c := 7) (c' := 7) (by decide +kernel) (by decide +kernel) l_3950 f4 (by decide) fun L_3963 v_3964 f_3965 l_3966 kp_3967 => ?_
      obtain ⟨x_3968, e_3969, h⟩ := lx_s h
      have f_3970 := q_is_eq f_3965 e_3969
      have l_3971 := kp_3967 0 _ l_3946 (by decide) (Or.inl (by decide))
      have l_3972 := kp_3967 1 _ l_3947 (by decide) (Or.inl (by decide))
      have l_3973 := kp_3967 2 _ l_3948 (by decide) (Or.inl (by decide))
      have l_3974 := kp_3967 3 _ l_3949 (by decide) (Or.inr (q_is_cat f3 (Or.inr rfl)))
      refine go_goto (o := (-2577)) (t := 23) (by decide +kernel) (by decide +kernel) ?_
      exact hc m_3935 E_3942 h R_3958 l_3971 f0 l_3972 f1 l_3973 f2 l_3974 f3 l_3966 f_3970
    · have h := it_n hp_3962 h
      refine go_aload_n (n := 3) (by decide +kernel) l_3949 f3 ?_
      refine go_iconst (n := 0) (z := 0) (by decide +kernel) (by decide) fun v_3975 f_3976 => ?_
      obtain ⟨x_3980, e_3981, h⟩ := lx_s h
      refine go_lald (kd := 101) (by decide +kernel) rfl R_3958 f3 f_3976 (fx_k (c := 101) R_3958 (by decide +kernel)) (fx_x (a := 162) (ln := 1) R_3958 (by decide +kernel) (by decide)) fun v_3977 f_3978 => ?_
      have f_3979 := q_is_eq f_3978 e_3981
      refine go_iload (n := 6) (by decide +kernel) l_3944 f_3937 ?_
      refine go_i2l (by decide +kernel) f_3937 fun v_3982 f_3983 => ?_
      refine go_lcmp (by decide +kernel) f_3979 f_3983 fun v_3984 f_3985 => ?_
      refine go_if (c := .eq) (o := 5) (t := 2538) (P := x_3980 = x_3934) (by decide +kernel) (by decide +kernel) f_3985 (lc_eq) (fun hp_3986 => ?_) (fun hp_3986 => ?_)
      · have h := it_t hp_3986 h
        refine go_goto (o := 59) (t := 2597) (by decide +kernel) (by decide +kernel) ?_
        refine go_iinc (n := 4) (c := 7) (c' := 7) (by decide +kernel) (by decide +kernel) l_3950 f4 (by decide) fun L_3987 v_3988 f_3989 l_3990 kp_3991 => ?_
        obtain ⟨x_3992, e_3993, h⟩ := lx_s h
        have f_3994 := q_is_eq f_3989 e_3993
        have l_3995 := kp_3991 0 _ l_3946 (by decide) (Or.inl (by decide))
        have l_3996 := kp_3991 1 _ l_3947 (by decide) (Or.inl (by decide))
        have l_3997 := kp_3991 2 _ l_3948 (by decide) (Or.inl (by decide))
        have l_3998 := kp_3991 3 _ l_3949 (by decide) (Or.inr (q_is_cat f3 (Or.inr rfl)))
        refine go_goto (o := (-2577)) (t := 23) (by decide +kernel) (by decide +kernel) ?_
        exact hc m_3935 E_3942 h R_3958 l_3995 f0 l_3996 f1 l_3997 f2 l_3998 f3 l_3990 f_3994
      · have h := it_f hp_3986 h
        refine go_iconst (n := 0) (z := 0) (by decide +kernel) (by decide) fun v_3999 f_4000 => ?_
        cases h
        exact go_iret (by decide +kernel) rfl (Or.inr ⟨rfl, by decide⟩) f_4000 (hQ E_3942 _ _ R_3958 (q_out_v (by decide) f_4000))
  · have h := it_f hp_3961 h
    refine go_iconst (n := 0) (z := 0) (by decide +kernel) (by decide) fun v_4001 f_4002 => ?_
    cases h
    exact go_iret (by decide +kernel) rfl (Or.inr ⟨rfl, by decide⟩) f_4002 (hQ E_3942 _ _ R_3958 (q_out_v (by decide) f_4002))
noncomputable def fj_L_law_2541 (xs : List Int32) (c : Int → MM → Option (Int × MM)) (y4 : Int) (m : MM) : Option (Int × MM) := gd (0 ≤ w32 (y4 + 1) ∧ w32 (y4 + 1) < (xs.length : Int)) <| bd (fm_L_search (scr xs (w32 (y4 + 1))) m) fun x_4013 m_4014 =>
bd (fm_X12_search (scr xs (w32 (y4 + 1))) m_4014) fun x_4037 m_4038 =>
bp (fm_X12_thrown m_4038) fun x_4056 =>
if x_4056 = x_4013 then
if x_4013 = 0 then
lx (m_4038 162 0) fun x_4083 =>
if x_4083 = x_4037 then
lx (w32 (y4 + 7)) fun x_4095 =>
c x_4095 m_4038
else
some (0, m_4038)
else
lx (w32 (y4 + 7)) fun x_4071 =>
c x_4071 m_4038
else
some (0, m_4038)
set_option maxHeartbeats 4000000 in
theorem oj_L_law_2541 {xs : List Int32} {d : Nat} {S : QS} {L : QL} {Q : QO → QS → Prop} {m : MM} {y4 : Int} {v0 : Value} {v1 : Value} {v2 : Value} {v3 : Value} {v4 : Value}  {rz : Int} {rm : MM} {c : Int → MM → Option (Int × MM)} 
  (hd : 174 ≤ d) (R : Rp S m) (l0 : q_lo L 0 = some v0) (f0 : q_is 7 v0 0) (l1 : q_lo L 1 = some v1) (f1 : q_is 2 v1 4) (l2 : q_lo L 2 = some v2) (f2 : q_is 2 v2 68) (l3 : q_lo L 3 = some v3) (f3 : q_is 2 v3 162) (l4 : q_lo L 4 = some v4) (f4 : q_is 0 v4 y4)
  (hc : ∀ mq : MM, Ext m mq → ∀ {z4 : Int} {Sq : QS} {Lq : QL} {u0 : Value} {u1 : Value} {u2 : Value} {u3 : Value} {u4 : Value}, c z4 mq = some (rz, rm) → Rp Sq mq → q_lo Lq 0 = some u0 → q_is 7 u0 0 → q_lo Lq 1 = some u1 → q_is 2 u1 4 → q_lo Lq 2 = some u2 → q_is 2 u2 68 → q_lo Lq 3 = some u3 → q_is 2 u3 162 → q_lo Lq 4 = some u4 → q_is 0 u4 z4 → Go xs d qM_L_law 23 Lq [] Sq Q)
  (hQ : Ext m rm → ∀ o S1, Rp S1 rm → q_out 0 o rz → Q o S1)
  (h : fj_L_law_2541 xs c y4 m = some (rz, rm)) : Go xs d qM_L_law 2541 L [] S Q := by
  unfold fj_L_law_2541 at h
  refine go_aload_n (n := 1) (by decide +kernel) l1 f1 ?_
  refine go_aloadS (n := 0) (by decide +kernel) l0 f0 ?_
  refine go_iload (n := 4) (by decide +kernel) l4 f4 ?_
  refine go_iconst (n := 1) (z := 1) (by decide +kernel) (by decide) fun v_4005 f_4006 => ?_
  refine go_iadd (by decide +kernel) f4 f_4006 fun v_4007 f_4008 => ?_
  obtain ⟨g_4011, h⟩ := gd_s h
  refine go_sld (by decide +kernel) f0 f_4008 g_4011 fun v_4009 f_4010 => ?_
  refine go_aload_n (n := 3) (by decide +kernel) l3 f3 ?_
  obtain ⟨x_4013, m_4014, hc_4012, h⟩ := bd_s h
  refine go_callS (x := 258) (mi := 375) (n := 3) (b := 0) (as := [v1, v_4009, v3]) (rest := []) (by decide +kernel) (by decide +kernel) rfl rfl (q_sum8 _ (Nat.le_of_ble_eq_true rfl)) (om_L_search (Nat.le_trans (by decide) hd) R f1 f_4010 f3 hc_4012) (fun _ S_4017 q_4020 => ?_) (fun _ _ qq => kr_x qq)
  refine kr_z (by decide) q_4020 fun v_4015 f_4016 R_4018 E_4019 => ?_
  have E_4021 := E_4019
  refine go_istore (n := 5) (by decide +kernel) (by decide +kernel) f_4016 fun L_4022 l_4023 kp_4024 => ?_
  have l_4025 := kp_4024 0 _ l0 (by decide) (Or.inl (by decide))
  have l_4026 := kp_4024 1 _ l1 (by decide) (Or.inl (by decide))
  have l_4027 := kp_4024 2 _ l2 (by decide) (Or.inl (by decide))
  have l_4028 := kp_4024 3 _ l3 (by decide) (Or.inl (by decide))
  have l_4029 := kp_4024 4 _ l4 (by decide) (Or.inr (q_is_cat f4 (Or.inl rfl)))
  refine go_aload_n (n := 2) (by decide +kernel) l_4027 f2 ?_
  refine go_aloadS (n := 0) (by decide +kernel) l_4025 f0 ?_
  refine go_iload (n := 4) (by decide +kernel) l_4029 f4 ?_
  refine go_iconst (n := 1) (z := 1) (by decide +kernel) (by decide) fun v_4030 f_4031 => ?_
  refine go_iadd (by decide +kernel) f4 f_4031 fun v_4032 f_4033 => ?_
  refine go_sld (by decide +kernel) f0 f_4033 g_4011 fun v_4034 f_4035 => ?_
  obtain ⟨x_4037, m_4038, hc_4036, h⟩ := bd_s h
  refine go_callV (x := 260) (mi := 317) (n := 1) (ci := 13) (as := [v_4034]) (rest := []) (by decide +kernel) (by decide +kernel) rfl rfl (q_sum8 _ (Nat.le_of_ble_eq_true rfl)) R_4018 f2 (fx_k (c := 13) R_4018 (by decide +kernel)) (om_X12_search (Nat.le_trans (by decide) hd) R_4018 f2 f_4035 hc_4036) (fun _ S_4041 q_4044 => ?_) (fun _ _ qq => kr_x qq)
  refine kr_z (by decide) q_4044 fun v_4039 f_4040 R_4042 E_4043 => ?_
  have E_4045 := Ext.tr E_4021 E_4043
  refine go_istore (n := 6) (by decide +kernel) (by decide +kernel) f_4040 fun L_4046 l_4047 kp_4048 => ?_
  have l_4049 := kp_4048 0 _ l_4025 (by decide) (Or.inl (by decide))
  have l_4050 := kp_4048 1 _ l_4026 (by decide) (Or.inl (by decide))
  have l_4051 := kp_4048 2 _ l_4027 (by decide) (Or.inl (by decide))
  have l_4052 := kp_4048 3 _ l_4028 (by decide) (Or.inl (by decide))
  have l_4053 := kp_4048 4 _ l_4029 (by decide) (Or.inl (by decide))
  have l_4054 := kp_4048 5 _ l_4023 (by decide) (Or.inr (q_is_cat f_4016 (Or.inl rfl)))
  refine go_aload_n (n := 2) (by decide +kernel) l_4051 f2 ?_
  obtain ⟨x_4056, hc_4055, h⟩ := bp_s h
  refine go_callV (x := 143) (mi := 185) (n := 0) (ci := 13) (as := []) (rest := []) (by decide +kernel) (by decide +kernel) rfl rfl (q_sum8 _ (Nat.le_of_ble_eq_true rfl)) R_4042 f2 (fx_k (c := 13) R_4042 (by decide +kernel)) (om_X12_thrown (Nat.le_trans (by decide) hd) R_4042 f2 hc_4055) (fun _ S_4060 q_4063 => ?_) (fun _ _ qq => kr_x qq)
  refine kr_z (by decide) q_4063 fun v_4058 f_4059 R_4061 E_4062 => ?_
  refine go_iload (n := 5) (by decide +kernel) l_4054 f_4016 ?_
  refine go_icmp (c := .eq) (o := 5) (t := 2577) (P := x_4056 = x_4013) (by decide +kernel) (by decide +kernel) f_4059 f_4016 (Iff.rfl) (fun hp_4064 => ?_) (fun hp_4064 => ?_)
  · have h := it_t hp_4064 h
    refine go_iload (n := 5) (by decide +kernel) l_4054 f_4016 ?_
    refine go_if (c := .ne) (o := 15) (t := 2594) (P := ¬ (x_4013 = 0)) (by decide +kernel) (by decide +kernel) f_4016 (Iff.rfl) (fun hp_4065 => ?_) (fun hp_4065 => ?_)
    · have h := it_f hp_4065 h
      refine go_goto (o := 3) (t := 2597) (by decide +kernel) (by decide +kernel) ?_
      refine go_iinc (n := 4) (c := 7) (c' := 7) (by decide +kernel) (by decide +kernel) l_4053 f4 (by decide) fun L_4066 v_4067 f_4068 l_4069 kp_4070 => ?_
      obtain ⟨x_4071, e_4072, h⟩ := lx_s h
      have f_4073 := q_is_eq f_4068 e_4072
      have l_4074 := kp_4070 0 _ l_4049 (by decide) (Or.inl (by decide))
      have l_4075 := kp_4070 1 _ l_4050 (by decide) (Or.inl (by decide))
      have l_4076 := kp_4070 2 _ l_4051 (by decide) (Or.inl (by decide))
      have l_4077 := kp_4070 3 _ l_4052 (by decide) (Or.inr (q_is_cat f3 (Or.inr rfl)))
      refine go_goto (o := (-2577)) (t := 23) (by decide +kernel) (by decide +kernel) ?_
      exact hc m_4038 E_4045 h R_4061 l_4074 f0 l_4075 f1 l_4076 f2 l_4077 f3 l_4069 f_4073
    · have h := it_n hp_4065 h
      refine go_aload_n (n := 3) (by decide +kernel) l_4052 f3 ?_
      refine go_iconst (n := 0) (z := 0) (by decide +kernel) (by decide) fun v_4078 f_4079 => ?_
      obtain ⟨x_4083, e_4084, h⟩ := lx_s h
      refine go_lald (kd := 101) (by decide +kernel) rfl R_4061 f3 f_4079 (fx_k (c := 101) R_4061 (by decide +kernel)) (fx_x (a := 162) (ln := 1) R_4061 (by decide +kernel) (by decide)) fun v_4080 f_4081 => ?_
      have f_4082 := q_is_eq f_4081 e_4084
      refine go_iload (n := 6) (by decide +kernel) l_4047 f_4040 ?_
      refine go_i2l (by decide +kernel) f_4040 fun v_4085 f_4086 => ?_
      refine go_lcmp (by decide +kernel) f_4082 f_4086 fun v_4087 f_4088 => ?_
      refine go_if (c := .eq) (o := 5) (t := 2594) (P := x_4083 = x_4037) (by decide +kernel) (by decide +kernel) f_4088 (lc_eq) (fun hp_4089 => ?_) (fun hp_4089 => ?_)
      · have h := it_t hp_4089 h
        refine go_goto (o := 3) (t := 2597) (by decide +kernel) (by decide +kernel) ?_
        refine go_iinc (n := 4) (c := 7) (c' := 7) (by decide +kernel) (by decide +kernel) l_4053 f4 (by decide) fun L_4090 v_4091 f_4092 l_4093 kp_4094 => ?_
        obtain ⟨x_4095, e_4096, h⟩ := lx_s h
        have f_4097 := q_is_eq f_4092 e_4096
        have l_4098 := kp_4094 0 _ l_4049 (by decide) (Or.inl (by decide))
        have l_4099 := kp_4094 1 _ l_4050 (by decide) (Or.inl (by decide))
        have l_4100 := kp_4094 2 _ l_4051 (by decide) (Or.inl (by decide))
        have l_4101 := kp_4094 3 _ l_4052 (by decide) (Or.inr (q_is_cat f3 (Or.inr rfl)))
        refine go_goto (o := (-2577)) (t := 23) (by decide +kernel) (by decide +kernel) ?_
        exact hc m_4038 E_4045 h R_4061 l_4098 f0 l_4099 f1 l_4100 f2 l_4101 f3 l_4093 f_4097
      · have h := it_f hp_4089 h
        refine go_iconst (n := 0) (z := 0) (by decide +kernel) (by decide) fun v_4102 f_4103 => ?_
        cases h
        exact go_iret (by decide +kernel) rfl (Or.inr ⟨rfl, by decide⟩) f_4103 (hQ E_4045 _ _ R_4061 (q_out_v (by decide) f_4103))
  · have h := it_f hp_4064 h
    refine go_iconst (n := 0) (z := 0) (by decide +kernel) (by decide) fun v_4104 f_4105 => ?_
    cases h
    exact go_iret (by decide +kernel) rfl (Or.inr ⟨rfl, by decide⟩) f_4105 (hQ E_4045 _ _ R_4061 (q_out_v (by decide) f_4105))
noncomputable def fl_L_law_23 (xs : List Int32) : Nat → Int → MM → Option (Int × MM)
  | 0, _, _ => none
  | n + 1, y4, m => if w32 ((sln xs) - 7) < y4 then
some (1, m)
else
gd (0 ≤ y4 ∧ y4 < (xs.length : Int)) <| if iAnd (scr xs y4) 63 = 0 then
fj_L_law_204 xs (fl_L_law_23 xs n) y4 m
else if iAnd (scr xs y4) 63 = 1 then
fj_L_law_296 xs (fl_L_law_23 xs n) y4 m
else if iAnd (scr xs y4) 63 = 2 then
fj_L_law_352 xs (fl_L_law_23 xs n) y4 m
else if iAnd (scr xs y4) 63 = 3 then
fj_L_law_450 xs (fl_L_law_23 xs n) y4 m
else if iAnd (scr xs y4) 63 = 4 then
fj_L_law_518 xs (fl_L_law_23 xs n) y4 m
else if iAnd (scr xs y4) 63 = 5 then
fj_L_law_598 xs (fl_L_law_23 xs n) y4 m
else if iAnd (scr xs y4) 63 = 6 then
fj_L_law_678 xs (fl_L_law_23 xs n) y4 m
else if iAnd (scr xs y4) 63 = 7 then
fj_L_law_765 xs (fl_L_law_23 xs n) y4 m
else if iAnd (scr xs y4) 63 = 8 then
fj_L_law_828 xs (fl_L_law_23 xs n) y4 m
else if iAnd (scr xs y4) 63 = 9 then
fj_L_law_896 xs (fl_L_law_23 xs n) y4 m
else if iAnd (scr xs y4) 63 = 10 then
fj_L_law_964 xs (fl_L_law_23 xs n) y4 m
else if iAnd (scr xs y4) 63 = 11 then
fj_L_law_1020 xs (fl_L_law_23 xs n) y4 m
else if iAnd (scr xs y4) 63 = 12 then
fj_L_law_1088 xs (fl_L_law_23 xs n) y4 m
else if iAnd (scr xs y4) 63 = 13 then
fj_L_law_1144 xs (fl_L_law_23 xs n) y4 m
else if iAnd (scr xs y4) 63 = 14 then
fj_L_law_1157 xs (fl_L_law_23 xs n) y4 m
else if iAnd (scr xs y4) 63 = 15 then
fj_L_law_1213 xs (fl_L_law_23 xs n) y4 m
else if iAnd (scr xs y4) 63 = 16 then
fj_L_law_1269 xs (fl_L_law_23 xs n) y4 m
else if iAnd (scr xs y4) 63 = 17 then
fj_L_law_1325 xs (fl_L_law_23 xs n) y4 m
else if iAnd (scr xs y4) 63 = 18 then
fj_L_law_1381 xs (fl_L_law_23 xs n) y4 m
else if iAnd (scr xs y4) 63 = 19 then
fj_L_law_1437 xs (fl_L_law_23 xs n) y4 m
else if iAnd (scr xs y4) 63 = 20 then
fj_L_law_1493 xs (fl_L_law_23 xs n) y4 m
else if iAnd (scr xs y4) 63 = 21 then
fj_L_law_1568 xs (fl_L_law_23 xs n) y4 m
else if iAnd (scr xs y4) 63 = 22 then
fj_L_law_1659 xs (fl_L_law_23 xs n) y4 m
else if iAnd (scr xs y4) 63 = 23 then
fj_L_law_1727 xs (fl_L_law_23 xs n) y4 m
else if iAnd (scr xs y4) 63 = 24 then
fj_L_law_1783 xs (fl_L_law_23 xs n) y4 m
else if iAnd (scr xs y4) 63 = 25 then
fj_L_law_1839 xs (fl_L_law_23 xs n) y4 m
else if iAnd (scr xs y4) 63 = 26 then
fj_L_law_1907 xs (fl_L_law_23 xs n) y4 m
else if iAnd (scr xs y4) 63 = 27 then
fj_L_law_1982 xs (fl_L_law_23 xs n) y4 m
else if iAnd (scr xs y4) 63 = 28 then
fj_L_law_2050 xs (fl_L_law_23 xs n) y4 m
else if iAnd (scr xs y4) 63 = 29 then
fj_L_law_2118 xs (fl_L_law_23 xs n) y4 m
else if iAnd (scr xs y4) 63 = 30 then
fj_L_law_2162 xs (fl_L_law_23 xs n) y4 m
else if iAnd (scr xs y4) 63 = 31 then
fj_L_law_2206 xs (fl_L_law_23 xs n) y4 m
else if iAnd (scr xs y4) 63 = 32 then
fj_L_law_2298 xs (fl_L_law_23 xs n) y4 m
else if iAnd (scr xs y4) 63 = 33 then
fj_L_law_2361 xs (fl_L_law_23 xs n) y4 m
else if iAnd (scr xs y4) 63 = 34 then
fj_L_law_2429 xs (fl_L_law_23 xs n) y4 m
else if iAnd (scr xs y4) 63 = 35 then
fj_L_law_2485 xs (fl_L_law_23 xs n) y4 m
else if iAnd (scr xs y4) 63 = 36 then
fj_L_law_2541 xs (fl_L_law_23 xs n) y4 m
else 
lx (w32 (y4 + 7)) fun x_4111 =>
fl_L_law_23 xs n x_4111 m
set_option maxHeartbeats 4000000 in
theorem ol_L_law_23 {xs : List Int32} {d : Nat} {Q : QO → QS → Prop} {mb : MM} {rz : Int} {rm : MM}
  (hd : 174 ≤ d)
  (hQ : Ext mb rm → ∀ o S1, Rp S1 rm → q_out 0 o rz → Q o S1) :
  ∀ (n : Nat) {m : MM} {S : QS} {L : QL} {y4 : Int} {v0 : Value} {v1 : Value} {v2 : Value} {v3 : Value} {v4 : Value} , Ext mb m → fl_L_law_23 xs n y4 m = some (rz, rm) → Rp S m → q_lo L 0 = some v0 → q_is 7 v0 0 → q_lo L 1 = some v1 → q_is 2 v1 4 → q_lo L 2 = some v2 → q_is 2 v2 68 → q_lo L 3 = some v3 → q_is 2 v3 162 → q_lo L 4 = some v4 → q_is 0 v4 y4 → Go xs d qM_L_law 23 L [] S Q := by
  intro n
  induction n with
  | zero => intro m S L y4 v0 v1 v2 v3 v4; intro E h R l0 f0 l1 f1 l2 f2 l3 f3 l4 f4; cases h
  | succ n ih0 =>
    intro m S L y4 v0 v1 v2 v3 v4; intro E h R l0 f0 l1 f1 l2 f2 l3 f3 l4 f4
    have ih : ∀ mq : MM, Ext mb mq → ∀ {z4 : Int} {Sq : QS} {Lq : QL} {u0 : Value} {u1 : Value} {u2 : Value} {u3 : Value} {u4 : Value}, fl_L_law_23 xs n z4 mq = some (rz, rm) → Rp Sq mq → q_lo Lq 0 = some u0 → q_is 7 u0 0 → q_lo Lq 1 = some u1 → q_is 2 u1 4 → q_lo Lq 2 = some u2 → q_is 2 u2 68 → q_lo Lq 3 = some u3 → q_is 2 u3 162 → q_lo Lq 4 = some u4 → q_is 0 u4 z4 → Go xs d qM_L_law 23 Lq [] Sq Q := fun mq b => by intros; exact ih0 b ‹_› ‹_› ‹_› ‹_› ‹_› ‹_› ‹_› ‹_› ‹_› ‹_› ‹_› ‹_›
    unfold fl_L_law_23 at h
    refine go_iload (n := 4) (by decide +kernel) l4 f4 ?_
    refine go_aloadS (n := 0) (by decide +kernel) l0 f0 ?_
    refine go_slen (by decide +kernel) f0 fun v_1 f_2 => ?_
    refine go_bipush (n := 7) (z := 7) (by decide +kernel) (by decide) fun v_3 f_4 => ?_
    refine go_isub (by decide +kernel) f_2 f_4 fun v_5 f_6 => ?_
    refine go_icmp (c := .gt) (o := 2573) (t := 2603) (P := w32 ((sln xs) - 7) < y4) (by decide +kernel) (by decide +kernel) f4 f_6 (Iff.rfl) (fun hp_7 => ?_) (fun hp_7 => ?_)
    · have h := it_t hp_7 h
      refine go_iconst (n := 1) (z := 1) (by decide +kernel) (by decide) fun v_8 f_9 => ?_
      cases h
      exact go_iret (by decide +kernel) rfl (Or.inr ⟨rfl, by decide⟩) f_9 (hQ E _ _ R (q_out_v (by decide) f_9))
    · have h := it_f hp_7 h
      refine go_aloadS (n := 0) (by decide +kernel) l0 f0 ?_
      refine go_iload (n := 4) (by decide +kernel) l4 f4 ?_
      obtain ⟨g_12, h⟩ := gd_s h
      refine go_sld (by decide +kernel) f0 f4 g_12 fun v_10 f_11 => ?_
      refine go_bipush (n := 63) (z := 63) (by decide +kernel) (by decide) fun v_13 f_14 => ?_
      refine go_iand (by decide +kernel) f_11 f_14 fun v_15 f_16 => ?_
      by_cases hp_18 : iAnd (scr xs y4) 63 = 0
      · have h := it_t hp_18 h
        refine go_tsin (dflt := 2557) (lo := 0) (hi := 36) (offs := #[164, 256, 312, 410, 478, 558, 638, 725, 788, 856, 924, 980, 1048, 1104, 1117, 1173, 1229, 1285, 1341, 1397, 1453, 1528, 1619, 1687, 1743, 1799, 1867, 1942, 2010, 2078, 2122, 2166, 2258, 2321, 2389, 2445, 2501]) (o := 164) (t := 204) (by decide +kernel) f_16 (by omega) (by omega) (by rw [hp_18]; decide) (by decide +kernel) ?_
        exact oj_L_law_204 hd R l0 f0 l1 f1 l2 f2 l3 f3 l4 f4 (fun mq b => ih mq (Ext.tr E b)) (fun b => hQ (Ext.tr E b)) h
      have h := it_f hp_18 h
      by_cases hp_160 : iAnd (scr xs y4) 63 = 1
      · have h := it_t hp_160 h
        refine go_tsin (dflt := 2557) (lo := 0) (hi := 36) (offs := #[164, 256, 312, 410, 478, 558, 638, 725, 788, 856, 924, 980, 1048, 1104, 1117, 1173, 1229, 1285, 1341, 1397, 1453, 1528, 1619, 1687, 1743, 1799, 1867, 1942, 2010, 2078, 2122, 2166, 2258, 2321, 2389, 2445, 2501]) (o := 256) (t := 296) (by decide +kernel) f_16 (by omega) (by omega) (by rw [hp_160]; decide) (by decide +kernel) ?_
        exact oj_L_law_296 hd R l0 f0 l1 f1 l2 f2 l3 f3 l4 f4 (fun mq b => ih mq (Ext.tr E b)) (fun b => hQ (Ext.tr E b)) h
      have h := it_f hp_160 h
      by_cases hp_263 : iAnd (scr xs y4) 63 = 2
      · have h := it_t hp_263 h
        refine go_tsin (dflt := 2557) (lo := 0) (hi := 36) (offs := #[164, 256, 312, 410, 478, 558, 638, 725, 788, 856, 924, 980, 1048, 1104, 1117, 1173, 1229, 1285, 1341, 1397, 1453, 1528, 1619, 1687, 1743, 1799, 1867, 1942, 2010, 2078, 2122, 2166, 2258, 2321, 2389, 2445, 2501]) (o := 312) (t := 352) (by decide +kernel) f_16 (by omega) (by omega) (by rw [hp_263]; decide) (by decide +kernel) ?_
        exact oj_L_law_352 hd R l0 f0 l1 f1 l2 f2 l3 f3 l4 f4 (fun mq b => ih mq (Ext.tr E b)) (fun b => hQ (Ext.tr E b)) h
      have h := it_f hp_263 h
      by_cases hp_395 : iAnd (scr xs y4) 63 = 3
      · have h := it_t hp_395 h
        refine go_tsin (dflt := 2557) (lo := 0) (hi := 36) (offs := #[164, 256, 312, 410, 478, 558, 638, 725, 788, 856, 924, 980, 1048, 1104, 1117, 1173, 1229, 1285, 1341, 1397, 1453, 1528, 1619, 1687, 1743, 1799, 1867, 1942, 2010, 2078, 2122, 2166, 2258, 2321, 2389, 2445, 2501]) (o := 410) (t := 450) (by decide +kernel) f_16 (by omega) (by omega) (by rw [hp_395]; decide) (by decide +kernel) ?_
        exact oj_L_law_450 hd R l0 f0 l1 f1 l2 f2 l3 f3 l4 f4 (fun mq b => ih mq (Ext.tr E b)) (fun b => hQ (Ext.tr E b)) h
      have h := it_f hp_395 h
      by_cases hp_511 : iAnd (scr xs y4) 63 = 4
      · have h := it_t hp_511 h
        refine go_tsin (dflt := 2557) (lo := 0) (hi := 36) (offs := #[164, 256, 312, 410, 478, 558, 638, 725, 788, 856, 924, 980, 1048, 1104, 1117, 1173, 1229, 1285, 1341, 1397, 1453, 1528, 1619, 1687, 1743, 1799, 1867, 1942, 2010, 2078, 2122, 2166, 2258, 2321, 2389, 2445, 2501]) (o := 478) (t := 518) (by decide +kernel) f_16 (by omega) (by omega) (by rw [hp_511]; decide) (by decide +kernel) ?_
        exact oj_L_law_518 hd R l0 f0 l1 f1 l2 f2 l3 f3 l4 f4 (fun mq b => ih mq (Ext.tr E b)) (fun b => hQ (Ext.tr E b)) h
      have h := it_f hp_511 h
      by_cases hp_640 : iAnd (scr xs y4) 63 = 5
      · have h := it_t hp_640 h
        refine go_tsin (dflt := 2557) (lo := 0) (hi := 36) (offs := #[164, 256, 312, 410, 478, 558, 638, 725, 788, 856, 924, 980, 1048, 1104, 1117, 1173, 1229, 1285, 1341, 1397, 1453, 1528, 1619, 1687, 1743, 1799, 1867, 1942, 2010, 2078, 2122, 2166, 2258, 2321, 2389, 2445, 2501]) (o := 558) (t := 598) (by decide +kernel) f_16 (by omega) (by omega) (by rw [hp_640]; decide) (by decide +kernel) ?_
        exact oj_L_law_598 hd R l0 f0 l1 f1 l2 f2 l3 f3 l4 f4 (fun mq b => ih mq (Ext.tr E b)) (fun b => hQ (Ext.tr E b)) h
      have h := it_f hp_640 h
      by_cases hp_769 : iAnd (scr xs y4) 63 = 6
      · have h := it_t hp_769 h
        refine go_tsin (dflt := 2557) (lo := 0) (hi := 36) (offs := #[164, 256, 312, 410, 478, 558, 638, 725, 788, 856, 924, 980, 1048, 1104, 1117, 1173, 1229, 1285, 1341, 1397, 1453, 1528, 1619, 1687, 1743, 1799, 1867, 1942, 2010, 2078, 2122, 2166, 2258, 2321, 2389, 2445, 2501]) (o := 638) (t := 678) (by decide +kernel) f_16 (by omega) (by omega) (by rw [hp_769]; decide) (by decide +kernel) ?_
        exact oj_L_law_678 hd R l0 f0 l1 f1 l2 f2 l3 f3 l4 f4 (fun mq b => ih mq (Ext.tr E b)) (fun b => hQ (Ext.tr E b)) h
      have h := it_f hp_769 h
      by_cases hp_901 : iAnd (scr xs y4) 63 = 7
      · have h := it_t hp_901 h
        refine go_tsin (dflt := 2557) (lo := 0) (hi := 36) (offs := #[164, 256, 312, 410, 478, 558, 638, 725, 788, 856, 924, 980, 1048, 1104, 1117, 1173, 1229, 1285, 1341, 1397, 1453, 1528, 1619, 1687, 1743, 1799, 1867, 1942, 2010, 2078, 2122, 2166, 2258, 2321, 2389, 2445, 2501]) (o := 725) (t := 765) (by decide +kernel) f_16 (by omega) (by omega) (by rw [hp_901]; decide) (by decide +kernel) ?_
        exact oj_L_law_765 hd R l0 f0 l1 f1 l2 f2 l3 f3 l4 f4 (fun mq b => ih mq (Ext.tr E b)) (fun b => hQ (Ext.tr E b)) h
      have h := it_f hp_901 h
      by_cases hp_1007 : iAnd (scr xs y4) 63 = 8
      · have h := it_t hp_1007 h
        refine go_tsin (dflt := 2557) (lo := 0) (hi := 36) (offs := #[164, 256, 312, 410, 478, 558, 638, 725, 788, 856, 924, 980, 1048, 1104, 1117, 1173, 1229, 1285, 1341, 1397, 1453, 1528, 1619, 1687, 1743, 1799, 1867, 1942, 2010, 2078, 2122, 2166, 2258, 2321, 2389, 2445, 2501]) (o := 788) (t := 828) (by decide +kernel) f_16 (by omega) (by omega) (by rw [hp_1007]; decide) (by decide +kernel) ?_
        exact oj_L_law_828 hd R l0 f0 l1 f1 l2 f2 l3 f3 l4 f4 (fun mq b => ih mq (Ext.tr E b)) (fun b => hQ (Ext.tr E b)) h
      have h := it_f hp_1007 h
      by_cases hp_1123 : iAnd (scr xs y4) 63 = 9
      · have h := it_t hp_1123 h
        refine go_tsin (dflt := 2557) (lo := 0) (hi := 36) (offs := #[164, 256, 312, 410, 478, 558, 638, 725, 788, 856, 924, 980, 1048, 1104, 1117, 1173, 1229, 1285, 1341, 1397, 1453, 1528, 1619, 1687, 1743, 1799, 1867, 1942, 2010, 2078, 2122, 2166, 2258, 2321, 2389, 2445, 2501]) (o := 856) (t := 896) (by decide +kernel) f_16 (by omega) (by omega) (by rw [hp_1123]; decide) (by decide +kernel) ?_
        exact oj_L_law_896 hd R l0 f0 l1 f1 l2 f2 l3 f3 l4 f4 (fun mq b => ih mq (Ext.tr E b)) (fun b => hQ (Ext.tr E b)) h
      have h := it_f hp_1123 h
      by_cases hp_1239 : iAnd (scr xs y4) 63 = 10
      · have h := it_t hp_1239 h
        refine go_tsin (dflt := 2557) (lo := 0) (hi := 36) (offs := #[164, 256, 312, 410, 478, 558, 638, 725, 788, 856, 924, 980, 1048, 1104, 1117, 1173, 1229, 1285, 1341, 1397, 1453, 1528, 1619, 1687, 1743, 1799, 1867, 1942, 2010, 2078, 2122, 2166, 2258, 2321, 2389, 2445, 2501]) (o := 924) (t := 964) (by decide +kernel) f_16 (by omega) (by omega) (by rw [hp_1239]; decide) (by decide +kernel) ?_
        exact oj_L_law_964 hd R l0 f0 l1 f1 l2 f2 l3 f3 l4 f4 (fun mq b => ih mq (Ext.tr E b)) (fun b => hQ (Ext.tr E b)) h
      have h := it_f hp_1239 h
      by_cases hp_1342 : iAnd (scr xs y4) 63 = 11
      · have h := it_t hp_1342 h
        refine go_tsin (dflt := 2557) (lo := 0) (hi := 36) (offs := #[164, 256, 312, 410, 478, 558, 638, 725, 788, 856, 924, 980, 1048, 1104, 1117, 1173, 1229, 1285, 1341, 1397, 1453, 1528, 1619, 1687, 1743, 1799, 1867, 1942, 2010, 2078, 2122, 2166, 2258, 2321, 2389, 2445, 2501]) (o := 980) (t := 1020) (by decide +kernel) f_16 (by omega) (by omega) (by rw [hp_1342]; decide) (by decide +kernel) ?_
        exact oj_L_law_1020 hd R l0 f0 l1 f1 l2 f2 l3 f3 l4 f4 (fun mq b => ih mq (Ext.tr E b)) (fun b => hQ (Ext.tr E b)) h
      have h := it_f hp_1342 h
      by_cases hp_1458 : iAnd (scr xs y4) 63 = 12
      · have h := it_t hp_1458 h
        refine go_tsin (dflt := 2557) (lo := 0) (hi := 36) (offs := #[164, 256, 312, 410, 478, 558, 638, 725, 788, 856, 924, 980, 1048, 1104, 1117, 1173, 1229, 1285, 1341, 1397, 1453, 1528, 1619, 1687, 1743, 1799, 1867, 1942, 2010, 2078, 2122, 2166, 2258, 2321, 2389, 2445, 2501]) (o := 1048) (t := 1088) (by decide +kernel) f_16 (by omega) (by omega) (by rw [hp_1458]; decide) (by decide +kernel) ?_
        exact oj_L_law_1088 hd R l0 f0 l1 f1 l2 f2 l3 f3 l4 f4 (fun mq b => ih mq (Ext.tr E b)) (fun b => hQ (Ext.tr E b)) h
      have h := it_f hp_1458 h
      by_cases hp_1561 : iAnd (scr xs y4) 63 = 13
      · have h := it_t hp_1561 h
        refine go_tsin (dflt := 2557) (lo := 0) (hi := 36) (offs := #[164, 256, 312, 410, 478, 558, 638, 725, 788, 856, 924, 980, 1048, 1104, 1117, 1173, 1229, 1285, 1341, 1397, 1453, 1528, 1619, 1687, 1743, 1799, 1867, 1942, 2010, 2078, 2122, 2166, 2258, 2321, 2389, 2445, 2501]) (o := 1104) (t := 1144) (by decide +kernel) f_16 (by omega) (by omega) (by rw [hp_1561]; decide) (by decide +kernel) ?_
        exact oj_L_law_1144 hd R l0 f0 l1 f1 l2 f2 l3 f3 l4 f4 (fun mq b => ih mq (Ext.tr E b)) (fun b => hQ (Ext.tr E b)) h
      have h := it_f hp_1561 h
      by_cases hp_1597 : iAnd (scr xs y4) 63 = 14
      · have h := it_t hp_1597 h
        refine go_tsin (dflt := 2557) (lo := 0) (hi := 36) (offs := #[164, 256, 312, 410, 478, 558, 638, 725, 788, 856, 924, 980, 1048, 1104, 1117, 1173, 1229, 1285, 1341, 1397, 1453, 1528, 1619, 1687, 1743, 1799, 1867, 1942, 2010, 2078, 2122, 2166, 2258, 2321, 2389, 2445, 2501]) (o := 1117) (t := 1157) (by decide +kernel) f_16 (by omega) (by omega) (by rw [hp_1597]; decide) (by decide +kernel) ?_
        exact oj_L_law_1157 hd R l0 f0 l1 f1 l2 f2 l3 f3 l4 f4 (fun mq b => ih mq (Ext.tr E b)) (fun b => hQ (Ext.tr E b)) h
      have h := it_f hp_1597 h
      by_cases hp_1700 : iAnd (scr xs y4) 63 = 15
      · have h := it_t hp_1700 h
        refine go_tsin (dflt := 2557) (lo := 0) (hi := 36) (offs := #[164, 256, 312, 410, 478, 558, 638, 725, 788, 856, 924, 980, 1048, 1104, 1117, 1173, 1229, 1285, 1341, 1397, 1453, 1528, 1619, 1687, 1743, 1799, 1867, 1942, 2010, 2078, 2122, 2166, 2258, 2321, 2389, 2445, 2501]) (o := 1173) (t := 1213) (by decide +kernel) f_16 (by omega) (by omega) (by rw [hp_1700]; decide) (by decide +kernel) ?_
        exact oj_L_law_1213 hd R l0 f0 l1 f1 l2 f2 l3 f3 l4 f4 (fun mq b => ih mq (Ext.tr E b)) (fun b => hQ (Ext.tr E b)) h
      have h := it_f hp_1700 h
      by_cases hp_1803 : iAnd (scr xs y4) 63 = 16
      · have h := it_t hp_1803 h
        refine go_tsin (dflt := 2557) (lo := 0) (hi := 36) (offs := #[164, 256, 312, 410, 478, 558, 638, 725, 788, 856, 924, 980, 1048, 1104, 1117, 1173, 1229, 1285, 1341, 1397, 1453, 1528, 1619, 1687, 1743, 1799, 1867, 1942, 2010, 2078, 2122, 2166, 2258, 2321, 2389, 2445, 2501]) (o := 1229) (t := 1269) (by decide +kernel) f_16 (by omega) (by omega) (by rw [hp_1803]; decide) (by decide +kernel) ?_
        exact oj_L_law_1269 hd R l0 f0 l1 f1 l2 f2 l3 f3 l4 f4 (fun mq b => ih mq (Ext.tr E b)) (fun b => hQ (Ext.tr E b)) h
      have h := it_f hp_1803 h
      by_cases hp_1906 : iAnd (scr xs y4) 63 = 17
      · have h := it_t hp_1906 h
        refine go_tsin (dflt := 2557) (lo := 0) (hi := 36) (offs := #[164, 256, 312, 410, 478, 558, 638, 725, 788, 856, 924, 980, 1048, 1104, 1117, 1173, 1229, 1285, 1341, 1397, 1453, 1528, 1619, 1687, 1743, 1799, 1867, 1942, 2010, 2078, 2122, 2166, 2258, 2321, 2389, 2445, 2501]) (o := 1285) (t := 1325) (by decide +kernel) f_16 (by omega) (by omega) (by rw [hp_1906]; decide) (by decide +kernel) ?_
        exact oj_L_law_1325 hd R l0 f0 l1 f1 l2 f2 l3 f3 l4 f4 (fun mq b => ih mq (Ext.tr E b)) (fun b => hQ (Ext.tr E b)) h
      have h := it_f hp_1906 h
      by_cases hp_2009 : iAnd (scr xs y4) 63 = 18
      · have h := it_t hp_2009 h
        refine go_tsin (dflt := 2557) (lo := 0) (hi := 36) (offs := #[164, 256, 312, 410, 478, 558, 638, 725, 788, 856, 924, 980, 1048, 1104, 1117, 1173, 1229, 1285, 1341, 1397, 1453, 1528, 1619, 1687, 1743, 1799, 1867, 1942, 2010, 2078, 2122, 2166, 2258, 2321, 2389, 2445, 2501]) (o := 1341) (t := 1381) (by decide +kernel) f_16 (by omega) (by omega) (by rw [hp_2009]; decide) (by decide +kernel) ?_
        exact oj_L_law_1381 hd R l0 f0 l1 f1 l2 f2 l3 f3 l4 f4 (fun mq b => ih mq (Ext.tr E b)) (fun b => hQ (Ext.tr E b)) h
      have h := it_f hp_2009 h
      by_cases hp_2112 : iAnd (scr xs y4) 63 = 19
      · have h := it_t hp_2112 h
        refine go_tsin (dflt := 2557) (lo := 0) (hi := 36) (offs := #[164, 256, 312, 410, 478, 558, 638, 725, 788, 856, 924, 980, 1048, 1104, 1117, 1173, 1229, 1285, 1341, 1397, 1453, 1528, 1619, 1687, 1743, 1799, 1867, 1942, 2010, 2078, 2122, 2166, 2258, 2321, 2389, 2445, 2501]) (o := 1397) (t := 1437) (by decide +kernel) f_16 (by omega) (by omega) (by rw [hp_2112]; decide) (by decide +kernel) ?_
        exact oj_L_law_1437 hd R l0 f0 l1 f1 l2 f2 l3 f3 l4 f4 (fun mq b => ih mq (Ext.tr E b)) (fun b => hQ (Ext.tr E b)) h
      have h := it_f hp_2112 h
      by_cases hp_2215 : iAnd (scr xs y4) 63 = 20
      · have h := it_t hp_2215 h
        refine go_tsin (dflt := 2557) (lo := 0) (hi := 36) (offs := #[164, 256, 312, 410, 478, 558, 638, 725, 788, 856, 924, 980, 1048, 1104, 1117, 1173, 1229, 1285, 1341, 1397, 1453, 1528, 1619, 1687, 1743, 1799, 1867, 1942, 2010, 2078, 2122, 2166, 2258, 2321, 2389, 2445, 2501]) (o := 1453) (t := 1493) (by decide +kernel) f_16 (by omega) (by omega) (by rw [hp_2215]; decide) (by decide +kernel) ?_
        exact oj_L_law_1493 hd R l0 f0 l1 f1 l2 f2 l3 f3 l4 f4 (fun mq b => ih mq (Ext.tr E b)) (fun b => hQ (Ext.tr E b)) h
      have h := it_f hp_2215 h
      by_cases hp_2334 : iAnd (scr xs y4) 63 = 21
      · have h := it_t hp_2334 h
        refine go_tsin (dflt := 2557) (lo := 0) (hi := 36) (offs := #[164, 256, 312, 410, 478, 558, 638, 725, 788, 856, 924, 980, 1048, 1104, 1117, 1173, 1229, 1285, 1341, 1397, 1453, 1528, 1619, 1687, 1743, 1799, 1867, 1942, 2010, 2078, 2122, 2166, 2258, 2321, 2389, 2445, 2501]) (o := 1528) (t := 1568) (by decide +kernel) f_16 (by omega) (by omega) (by rw [hp_2334]; decide) (by decide +kernel) ?_
        exact oj_L_law_1568 hd R l0 f0 l1 f1 l2 f2 l3 f3 l4 f4 (fun mq b => ih mq (Ext.tr E b)) (fun b => hQ (Ext.tr E b)) h
      have h := it_f hp_2334 h
      by_cases hp_2465 : iAnd (scr xs y4) 63 = 22
      · have h := it_t hp_2465 h
        refine go_tsin (dflt := 2557) (lo := 0) (hi := 36) (offs := #[164, 256, 312, 410, 478, 558, 638, 725, 788, 856, 924, 980, 1048, 1104, 1117, 1173, 1229, 1285, 1341, 1397, 1453, 1528, 1619, 1687, 1743, 1799, 1867, 1942, 2010, 2078, 2122, 2166, 2258, 2321, 2389, 2445, 2501]) (o := 1619) (t := 1659) (by decide +kernel) f_16 (by omega) (by omega) (by rw [hp_2465]; decide) (by decide +kernel) ?_
        exact oj_L_law_1659 hd R l0 f0 l1 f1 l2 f2 l3 f3 l4 f4 (fun mq b => ih mq (Ext.tr E b)) (fun b => hQ (Ext.tr E b)) h
      have h := it_f hp_2465 h
      by_cases hp_2581 : iAnd (scr xs y4) 63 = 23
      · have h := it_t hp_2581 h
        refine go_tsin (dflt := 2557) (lo := 0) (hi := 36) (offs := #[164, 256, 312, 410, 478, 558, 638, 725, 788, 856, 924, 980, 1048, 1104, 1117, 1173, 1229, 1285, 1341, 1397, 1453, 1528, 1619, 1687, 1743, 1799, 1867, 1942, 2010, 2078, 2122, 2166, 2258, 2321, 2389, 2445, 2501]) (o := 1687) (t := 1727) (by decide +kernel) f_16 (by omega) (by omega) (by rw [hp_2581]; decide) (by decide +kernel) ?_
        exact oj_L_law_1727 hd R l0 f0 l1 f1 l2 f2 l3 f3 l4 f4 (fun mq b => ih mq (Ext.tr E b)) (fun b => hQ (Ext.tr E b)) h
      have h := it_f hp_2581 h
      by_cases hp_2684 : iAnd (scr xs y4) 63 = 24
      · have h := it_t hp_2684 h
        refine go_tsin (dflt := 2557) (lo := 0) (hi := 36) (offs := #[164, 256, 312, 410, 478, 558, 638, 725, 788, 856, 924, 980, 1048, 1104, 1117, 1173, 1229, 1285, 1341, 1397, 1453, 1528, 1619, 1687, 1743, 1799, 1867, 1942, 2010, 2078, 2122, 2166, 2258, 2321, 2389, 2445, 2501]) (o := 1743) (t := 1783) (by decide +kernel) f_16 (by omega) (by omega) (by rw [hp_2684]; decide) (by decide +kernel) ?_
        exact oj_L_law_1783 hd R l0 f0 l1 f1 l2 f2 l3 f3 l4 f4 (fun mq b => ih mq (Ext.tr E b)) (fun b => hQ (Ext.tr E b)) h
      have h := it_f hp_2684 h
      by_cases hp_2787 : iAnd (scr xs y4) 63 = 25
      · have h := it_t hp_2787 h
        refine go_tsin (dflt := 2557) (lo := 0) (hi := 36) (offs := #[164, 256, 312, 410, 478, 558, 638, 725, 788, 856, 924, 980, 1048, 1104, 1117, 1173, 1229, 1285, 1341, 1397, 1453, 1528, 1619, 1687, 1743, 1799, 1867, 1942, 2010, 2078, 2122, 2166, 2258, 2321, 2389, 2445, 2501]) (o := 1799) (t := 1839) (by decide +kernel) f_16 (by omega) (by omega) (by rw [hp_2787]; decide) (by decide +kernel) ?_
        exact oj_L_law_1839 hd R l0 f0 l1 f1 l2 f2 l3 f3 l4 f4 (fun mq b => ih mq (Ext.tr E b)) (fun b => hQ (Ext.tr E b)) h
      have h := it_f hp_2787 h
      by_cases hp_2903 : iAnd (scr xs y4) 63 = 26
      · have h := it_t hp_2903 h
        refine go_tsin (dflt := 2557) (lo := 0) (hi := 36) (offs := #[164, 256, 312, 410, 478, 558, 638, 725, 788, 856, 924, 980, 1048, 1104, 1117, 1173, 1229, 1285, 1341, 1397, 1453, 1528, 1619, 1687, 1743, 1799, 1867, 1942, 2010, 2078, 2122, 2166, 2258, 2321, 2389, 2445, 2501]) (o := 1867) (t := 1907) (by decide +kernel) f_16 (by omega) (by omega) (by rw [hp_2903]; decide) (by decide +kernel) ?_
        exact oj_L_law_1907 hd R l0 f0 l1 f1 l2 f2 l3 f3 l4 f4 (fun mq b => ih mq (Ext.tr E b)) (fun b => hQ (Ext.tr E b)) h
      have h := it_f hp_2903 h
      by_cases hp_3022 : iAnd (scr xs y4) 63 = 27
      · have h := it_t hp_3022 h
        refine go_tsin (dflt := 2557) (lo := 0) (hi := 36) (offs := #[164, 256, 312, 410, 478, 558, 638, 725, 788, 856, 924, 980, 1048, 1104, 1117, 1173, 1229, 1285, 1341, 1397, 1453, 1528, 1619, 1687, 1743, 1799, 1867, 1942, 2010, 2078, 2122, 2166, 2258, 2321, 2389, 2445, 2501]) (o := 1942) (t := 1982) (by decide +kernel) f_16 (by omega) (by omega) (by rw [hp_3022]; decide) (by decide +kernel) ?_
        exact oj_L_law_1982 hd R l0 f0 l1 f1 l2 f2 l3 f3 l4 f4 (fun mq b => ih mq (Ext.tr E b)) (fun b => hQ (Ext.tr E b)) h
      have h := it_f hp_3022 h
      by_cases hp_3138 : iAnd (scr xs y4) 63 = 28
      · have h := it_t hp_3138 h
        refine go_tsin (dflt := 2557) (lo := 0) (hi := 36) (offs := #[164, 256, 312, 410, 478, 558, 638, 725, 788, 856, 924, 980, 1048, 1104, 1117, 1173, 1229, 1285, 1341, 1397, 1453, 1528, 1619, 1687, 1743, 1799, 1867, 1942, 2010, 2078, 2122, 2166, 2258, 2321, 2389, 2445, 2501]) (o := 2010) (t := 2050) (by decide +kernel) f_16 (by omega) (by omega) (by rw [hp_3138]; decide) (by decide +kernel) ?_
        exact oj_L_law_2050 hd R l0 f0 l1 f1 l2 f2 l3 f3 l4 f4 (fun mq b => ih mq (Ext.tr E b)) (fun b => hQ (Ext.tr E b)) h
      have h := it_f hp_3138 h
      by_cases hp_3254 : iAnd (scr xs y4) 63 = 29
      · have h := it_t hp_3254 h
        refine go_tsin (dflt := 2557) (lo := 0) (hi := 36) (offs := #[164, 256, 312, 410, 478, 558, 638, 725, 788, 856, 924, 980, 1048, 1104, 1117, 1173, 1229, 1285, 1341, 1397, 1453, 1528, 1619, 1687, 1743, 1799, 1867, 1942, 2010, 2078, 2122, 2166, 2258, 2321, 2389, 2445, 2501]) (o := 2078) (t := 2118) (by decide +kernel) f_16 (by omega) (by omega) (by rw [hp_3254]; decide) (by decide +kernel) ?_
        exact oj_L_law_2118 hd R l0 f0 l1 f1 l2 f2 l3 f3 l4 f4 (fun mq b => ih mq (Ext.tr E b)) (fun b => hQ (Ext.tr E b)) h
      have h := it_f hp_3254 h
      by_cases hp_3344 : iAnd (scr xs y4) 63 = 30
      · have h := it_t hp_3344 h
        refine go_tsin (dflt := 2557) (lo := 0) (hi := 36) (offs := #[164, 256, 312, 410, 478, 558, 638, 725, 788, 856, 924, 980, 1048, 1104, 1117, 1173, 1229, 1285, 1341, 1397, 1453, 1528, 1619, 1687, 1743, 1799, 1867, 1942, 2010, 2078, 2122, 2166, 2258, 2321, 2389, 2445, 2501]) (o := 2122) (t := 2162) (by decide +kernel) f_16 (by omega) (by omega) (by rw [hp_3344]; decide) (by decide +kernel) ?_
        exact oj_L_law_2162 hd R l0 f0 l1 f1 l2 f2 l3 f3 l4 f4 (fun mq b => ih mq (Ext.tr E b)) (fun b => hQ (Ext.tr E b)) h
      have h := it_f hp_3344 h
      by_cases hp_3434 : iAnd (scr xs y4) 63 = 31
      · have h := it_t hp_3434 h
        refine go_tsin (dflt := 2557) (lo := 0) (hi := 36) (offs := #[164, 256, 312, 410, 478, 558, 638, 725, 788, 856, 924, 980, 1048, 1104, 1117, 1173, 1229, 1285, 1341, 1397, 1453, 1528, 1619, 1687, 1743, 1799, 1867, 1942, 2010, 2078, 2122, 2166, 2258, 2321, 2389, 2445, 2501]) (o := 2166) (t := 2206) (by decide +kernel) f_16 (by omega) (by omega) (by rw [hp_3434]; decide) (by decide +kernel) ?_
        exact oj_L_law_2206 hd R l0 f0 l1 f1 l2 f2 l3 f3 l4 f4 (fun mq b => ih mq (Ext.tr E b)) (fun b => hQ (Ext.tr E b)) h
      have h := it_f hp_3434 h
      by_cases hp_3576 : iAnd (scr xs y4) 63 = 32
      · have h := it_t hp_3576 h
        refine go_tsin (dflt := 2557) (lo := 0) (hi := 36) (offs := #[164, 256, 312, 410, 478, 558, 638, 725, 788, 856, 924, 980, 1048, 1104, 1117, 1173, 1229, 1285, 1341, 1397, 1453, 1528, 1619, 1687, 1743, 1799, 1867, 1942, 2010, 2078, 2122, 2166, 2258, 2321, 2389, 2445, 2501]) (o := 2258) (t := 2298) (by decide +kernel) f_16 (by omega) (by omega) (by rw [hp_3576]; decide) (by decide +kernel) ?_
        exact oj_L_law_2298 hd R l0 f0 l1 f1 l2 f2 l3 f3 l4 f4 (fun mq b => ih mq (Ext.tr E b)) (fun b => hQ (Ext.tr E b)) h
      have h := it_f hp_3576 h
      by_cases hp_3682 : iAnd (scr xs y4) 63 = 33
      · have h := it_t hp_3682 h
        refine go_tsin (dflt := 2557) (lo := 0) (hi := 36) (offs := #[164, 256, 312, 410, 478, 558, 638, 725, 788, 856, 924, 980, 1048, 1104, 1117, 1173, 1229, 1285, 1341, 1397, 1453, 1528, 1619, 1687, 1743, 1799, 1867, 1942, 2010, 2078, 2122, 2166, 2258, 2321, 2389, 2445, 2501]) (o := 2321) (t := 2361) (by decide +kernel) f_16 (by omega) (by omega) (by rw [hp_3682]; decide) (by decide +kernel) ?_
        exact oj_L_law_2361 hd R l0 f0 l1 f1 l2 f2 l3 f3 l4 f4 (fun mq b => ih mq (Ext.tr E b)) (fun b => hQ (Ext.tr E b)) h
      have h := it_f hp_3682 h
      by_cases hp_3798 : iAnd (scr xs y4) 63 = 34
      · have h := it_t hp_3798 h
        refine go_tsin (dflt := 2557) (lo := 0) (hi := 36) (offs := #[164, 256, 312, 410, 478, 558, 638, 725, 788, 856, 924, 980, 1048, 1104, 1117, 1173, 1229, 1285, 1341, 1397, 1453, 1528, 1619, 1687, 1743, 1799, 1867, 1942, 2010, 2078, 2122, 2166, 2258, 2321, 2389, 2445, 2501]) (o := 2389) (t := 2429) (by decide +kernel) f_16 (by omega) (by omega) (by rw [hp_3798]; decide) (by decide +kernel) ?_
        exact oj_L_law_2429 hd R l0 f0 l1 f1 l2 f2 l3 f3 l4 f4 (fun mq b => ih mq (Ext.tr E b)) (fun b => hQ (Ext.tr E b)) h
      have h := it_f hp_3798 h
      by_cases hp_3901 : iAnd (scr xs y4) 63 = 35
      · have h := it_t hp_3901 h
        refine go_tsin (dflt := 2557) (lo := 0) (hi := 36) (offs := #[164, 256, 312, 410, 478, 558, 638, 725, 788, 856, 924, 980, 1048, 1104, 1117, 1173, 1229, 1285, 1341, 1397, 1453, 1528, 1619, 1687, 1743, 1799, 1867, 1942, 2010, 2078, 2122, 2166, 2258, 2321, 2389, 2445, 2501]) (o := 2445) (t := 2485) (by decide +kernel) f_16 (by omega) (by omega) (by rw [hp_3901]; decide) (by decide +kernel) ?_
        exact oj_L_law_2485 hd R l0 f0 l1 f1 l2 f2 l3 f3 l4 f4 (fun mq b => ih mq (Ext.tr E b)) (fun b => hQ (Ext.tr E b)) h
      have h := it_f hp_3901 h
      by_cases hp_4004 : iAnd (scr xs y4) 63 = 36
      · have h := it_t hp_4004 h
        refine go_tsin (dflt := 2557) (lo := 0) (hi := 36) (offs := #[164, 256, 312, 410, 478, 558, 638, 725, 788, 856, 924, 980, 1048, 1104, 1117, 1173, 1229, 1285, 1341, 1397, 1453, 1528, 1619, 1687, 1743, 1799, 1867, 1942, 2010, 2078, 2122, 2166, 2258, 2321, 2389, 2445, 2501]) (o := 2501) (t := 2541) (by decide +kernel) f_16 (by omega) (by omega) (by rw [hp_4004]; decide) (by decide +kernel) ?_
        exact oj_L_law_2541 hd R l0 f0 l1 f1 l2 f2 l3 f3 l4 f4 (fun mq b => ih mq (Ext.tr E b)) (fun b => hQ (Ext.tr E b)) h
      have h := it_f hp_4004 h
      refine go_tsout (dflt := 2557) (lo := 0) (hi := 36) (offs := #[164, 256, 312, 410, 478, 558, 638, 725, 788, 856, 924, 980, 1048, 1104, 1117, 1173, 1229, 1285, 1341, 1397, 1453, 1528, 1619, 1687, 1743, 1799, 1867, 1942, 2010, 2078, 2122, 2166, 2258, 2321, 2389, 2445, 2501]) (t := 2597) (by decide +kernel) f_16 (by omega) (by decide +kernel) ?_
      refine go_iinc (n := 4) (c := 7) (c' := 7) (by decide +kernel) (by decide +kernel) l4 f4 (by decide) fun L_4106 v_4107 f_4108 l_4109 kp_4110 => ?_
      obtain ⟨x_4111, e_4112, h⟩ := lx_s h
      have f_4113 := q_is_eq f_4108 e_4112
      have l_4114 := kp_4110 0 _ l0 (by decide) (Or.inl (by decide))
      have l_4115 := kp_4110 1 _ l1 (by decide) (Or.inl (by decide))
      have l_4116 := kp_4110 2 _ l2 (by decide) (Or.inl (by decide))
      have l_4117 := kp_4110 3 _ l3 (by decide) (Or.inr (q_is_cat f3 (Or.inr rfl)))
      refine go_goto (o := (-2577)) (t := 23) (by decide +kernel) (by decide +kernel) ?_
      exact ih m E h R l_4114 f0 l_4115 f1 l_4116 f2 l_4117 f3 l_4109 f_4113
end DF50
