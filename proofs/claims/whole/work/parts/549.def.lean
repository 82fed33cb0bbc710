/-! Methods as functions (written by wip/whole/dec.py), 49: L_poll, L_complete, L_die, L_replays, L_take, L_answer, L_fail, L_beat, L_activity, L_pass, L_unsafe, L_move, L_setBack, L_copy, L_takeOver. -/
section DF49
noncomputable def fm_L_poll (p1 : Int) (m0 : MM) : Option (Int × MM) := bx (fm_X11_poll p1 m0) (fun q_12 m_5 =>
if q_12 = 0 then
some (1, m_5)
else none) fun x_4 m_5 =>
up m_5 162 0 x_4 fun m_26 =>
some (0, m_26)
set_option maxHeartbeats 4000000 in
theorem om_L_poll {xs : List Int32} {d : Nat} {S : QS} {m0 : MM} {p1 : Int} {v0 : Value} {v1 : Value} {v2 : Value} {rz : Int} {rm : MM}
  (hd : 10 ≤ d) (R : Rp S m0) (f0 : q_is 2 v0 4) (f1 : q_is 0 v1 p1) (f2 : q_is 2 v2 162)
  (h : fm_L_poll p1 m0 = some (rz, rm)) : Mt xs d 354 [v0, v1, v2] S (Cr 0 m0 rm rz) := by
  obtain ⟨d, rfl⟩ : ∃ e, d = e + 1 := ⟨d - 1, by omega⟩
  have hd : 9 ≤ d := Nat.le_of_succ_le_succ hd
  refine Mt.of (M := qM_L_poll) rfl (by rw [sl_1 (q_is_cat f0 (Or.inr rfl)), sl_1 (q_is_cat f1 (Or.inl rfl)), sl_1 (q_is_cat f2 (Or.inr rfl)), sl_0]; decide) ?_
  rw [la_1 (q_is_cat f0 (Or.inr rfl)), la_1 (q_is_cat f1 (Or.inl rfl)), la_1 (q_is_cat f2 (Or.inr rfl)), la_0]
  obtain ⟨L, hL⟩ : ∃ L : QL, L = [(0, v0), (0 + 1, v1), (0 + 1 + 1, v2)] := ⟨_, rfl⟩
  rw [← hL]
  have l0 : q_lo L 0 = some v0 := by rw [hL]; rfl
  have l1 : q_lo L 1 = some v1 := by rw [hL]; rfl
  have l2 : q_lo L 2 = some v2 := by rw [hL]; rfl
  have hQ : Ext m0 rm → ∀ o S1, Rp S1 rm → q_out 0 o rz → (Cr 0 m0 rm rz) o S1 := fun a o S1 b e => ⟨b, a, e⟩
  unfold fm_L_poll at h
  refine go_aload_n (n := 2) (by decide +kernel) l2 f2 ?_
  refine go_iconst (n := 0) (z := 0) (by decide +kernel) (by decide) fun v_1 f_2 => ?_
  refine go_aload_n (n := 0) (by decide +kernel) l0 f0 ?_
  refine go_iload_n (n := 1) (by decide +kernel) l1 f1 ?_
  obtain ⟨rr5, m_5, hc_3, h⟩ := bx_s h
  rcases h with ⟨q_12, rfl, h⟩ | ⟨x_4, rfl, h⟩
  · refine go_callV (x := 64) (mi := 115) (n := 1) (ci := 12) (as := [v1]) (rest := [v_1, v2]) (by decide +kernel) (by decide +kernel) rfl rfl (q_sum8 _ (Nat.le_of_ble_eq_true rfl)) R f0 (fx_k (c := 12) R (by decide +kernel)) (om_X11_poll (Nat.le_trans (by decide) hd) R f0 f1 hc_3) (fun _ _ qq => kx_lx qq) (fun _ _ qq => ?_)
    obtain ⟨rfl, Rq, Eq⟩ := kx_e qq
    by_cases hp_14 : q_12 = 0
    · have h := it_t hp_14 h
      subst hp_14
      refine Or.inr ⟨by decide, _, _, q_hand_k (n := 3) (h := (0, 9, 12, 13)) (by decide +kernel) (by decide +kernel) (by decide), ?_⟩
      refine go_iconst (n := 1) (z := 1) (by decide +kernel) (by decide) fun v_19 f_20 => ?_
      cases h
      exact go_iret (by decide +kernel) rfl (Or.inl rfl) f_20 (hQ Eq _ _ Rq (q_out_v (by decide) f_20))
    have h := it_f hp_14 h
    cases h
  refine go_callV (x := 64) (mi := 115) (n := 1) (ci := 12) (as := [v1]) (rest := [v_1, v2]) (by decide +kernel) (by decide +kernel) rfl rfl (q_sum8 _ (Nat.le_of_ble_eq_true rfl)) R f0 (fx_k (c := 12) R (by decide +kernel)) (om_X11_poll (Nat.le_trans (by decide) hd) R f0 f1 hc_3) (fun _ S_8 q_11 => ?_) (fun _ _ qq => kr_x (kx_l qq))
  have q_11 := kx_l q_11
  refine kr_z (by decide) q_11 fun v_6 f_7 R_9 E_10 => ?_
  have E_23 := E_10
  refine go_i2l (by decide +kernel) f_7 fun v_24 f_25 => ?_
  obtain ⟨m_26, e_27, h⟩ := up_s h
  refine go_last (kd := 101) (by decide +kernel) rfl R_9 f2 f_2 f_25 (fx_k (c := 101) R_9 (by decide +kernel)) (fx_x (a := 162) (ln := 1) R_9 (by decide +kernel) (by decide)) e_27 (fx_a R_9.2 (fx_k (c := 101) R_9 (by decide +kernel)) (And.left (fx_x (a := 162) (ln := 1) R_9 (by decide +kernel) (by decide))) (by decide +kernel)) fun S_28 R_29 E_30 => ?_
  have E_32 := Ext.tr E_23 E_30
  refine go_goto (o := 6) (t := 15) (by decide +kernel) (by decide +kernel) ?_
  refine go_iconst (n := 0) (z := 0) (by decide +kernel) (by decide) fun v_33 f_34 => ?_
  cases h
  exact go_iret (by decide +kernel) rfl (Or.inl rfl) f_34 (hQ E_32 _ _ R_29 (q_out_v (by decide) f_34))
noncomputable def fm_L_complete (p1 : Int) (m0 : MM) : Option (Int × MM) := bx (fm_X11_complete p1 m0) (fun q_12 m_5 =>
if q_12 = 0 then
some (1, m_5)
else none) fun x_4 m_5 =>
up m_5 162 0 x_4 fun m_26 =>
some (0, m_26)
set_option maxHeartbeats 4000000 in
theorem om_L_complete {xs : List Int32} {d : Nat} {S : QS} {m0 : MM} {p1 : Int} {v0 : Value} {v1 : Value} {v2 : Value} {rz : Int} {rm : MM}
  (hd : 174 ≤ d) (R : Rp S m0) (f0 : q_is 2 v0 4) (f1 : q_is 0 v1 p1) (f2 : q_is 2 v2 162)
  (h : fm_L_complete p1 m0 = some (rz, rm)) : Mt xs d 355 [v0, v1, v2] S (Cr 0 m0 rm rz) := by
  obtain ⟨d, rfl⟩ : ∃ e, d = e + 1 := ⟨d - 1, by omega⟩
  have hd : 173 ≤ d := Nat.le_of_succ_le_succ hd
  refine Mt.of (M := qM_L_complete) rfl (by rw [sl_1 (q_is_cat f0 (Or.inr rfl)), sl_1 (q_is_cat f1 (Or.inl rfl)), sl_1 (q_is_cat f2 (Or.inr rfl)), sl_0]; decide) ?_
  rw [la_1 (q_is_cat f0 (Or.inr rfl)), la_1 (q_is_cat f1 (Or.inl rfl)), la_1 (q_is_cat f2 (Or.inr rfl)), la_0]
  obtain ⟨L, hL⟩ : ∃ L : QL, L = [(0, v0), (0 + 1, v1), (0 + 1 + 1, v2)] := ⟨_, rfl⟩
  rw [← hL]
  have l0 : q_lo L 0 = some v0 := by rw [hL]; rfl
  have l1 : q_lo L 1 = some v1 := by rw [hL]; rfl
  have l2 : q_lo L 2 = some v2 := by rw [hL]; rfl
  have hQ : Ext m0 rm → ∀ o S1, Rp S1 rm → q_out 0 o rz → (Cr 0 m0 rm rz) o S1 := fun a o S1 b e => ⟨b, a, e⟩
  unfold fm_L_complete at h
  refine go_aload_n (n := 2) (by decide +kernel) l2 f2 ?_
  refine go_iconst (n := 0) (z := 0) (by decide +kernel) (by decide) fun v_1 f_2 => ?_
  refine go_aload_n (n := 0) (by decide +kernel) l0 f0 ?_
  refine go_iload_n (n := 1) (by decide +kernel) l1 f1 ?_
  obtain ⟨rr5, m_5, hc_3, h⟩ := bx_s h
  rcases h with ⟨q_12, rfl, h⟩ | ⟨x_4, rfl, h⟩
  · refine go_callV (x := 67) (mi := 116) (n := 1) (ci := 12) (as := [v1]) (rest := [v_1, v2]) (by decide +kernel) (by decide +kernel) rfl rfl (q_sum8 _ (Nat.le_of_ble_eq_true rfl)) R f0 (fx_k (c := 12) R (by decide +kernel)) (om_X11_complete (Nat.le_trans (by decide) hd) R f0 f1 hc_3) (fun _ _ qq => kx_lx qq) (fun _ _ qq => ?_)
    obtain ⟨rfl, Rq, Eq⟩ := kx_e qq
    by_cases hp_14 : q_12 = 0
    · have h := it_t hp_14 h
      subst hp_14
      refine Or.inr ⟨by decide, _, _, q_hand_k (n := 3) (h := (0, 9, 12, 13)) (by decide +kernel) (by decide +kernel) (by decide), ?_⟩
      refine go_iconst (n := 1) (z := 1) (by decide +kernel) (by decide) fun v_19 f_20 => ?_
      cases h
      exact go_iret (by decide +kernel) rfl (Or.inl rfl) f_20 (hQ Eq _ _ Rq (q_out_v (by decide) f_20))
    have h := it_f hp_14 h
    cases h
  refine go_callV (x := 67) (mi := 116) (n := 1) (ci := 12) (as := [v1]) (rest := [v_1, v2]) (by decide +kernel) (by decide +kernel) rfl rfl (q_sum8 _ (Nat.le_of_ble_eq_true rfl)) R f0 (fx_k (c := 12) R (by decide +kernel)) (om_X11_complete (Nat.le_trans (by decide) hd) R f0 f1 hc_3) (fun _ S_8 q_11 => ?_) (fun _ _ qq => kr_x (kx_l qq))
  have q_11 := kx_l q_11
  refine kr_z (by decide) q_11 fun v_6 f_7 R_9 E_10 => ?_
  have E_23 := E_10
  refine go_i2l (by decide +kernel) f_7 fun v_24 f_25 => ?_
  obtain ⟨m_26, e_27, h⟩ := up_s h
  refine go_last (kd := 101) (by decide +kernel) rfl R_9 f2 f_2 f_25 (fx_k (c := 101) R_9 (by decide +kernel)) (fx_x (a := 162) (ln := 1) R_9 (by decide +kernel) (by decide)) e_27 (fx_a R_9.2 (fx_k (c := 101) R_9 (by decide +kernel)) (And.left (fx_x (a := 162) (ln := 1) R_9 (by decide +kernel) (by decide))) (by decide +kernel)) fun S_28 R_29 E_30 => ?_
  have E_32 := Ext.tr E_23 E_30
  refine go_goto (o := 6) (t := 15) (by decide +kernel) (by decide +kernel) ?_
  refine go_iconst (n := 0) (z := 0) (by decide +kernel) (by decide) fun v_33 f_34 => ?_
  cases h
  exact go_iret (by decide +kernel) rfl (Or.inl rfl) f_34 (hQ E_32 _ _ R_29 (q_out_v (by decide) f_34))
noncomputable def fm_L_die (p1 : Int) (m0 : MM) : Option (Int × MM) := bx (fm_X11_die p1 m0) (fun q_12 m_5 =>
if q_12 = 0 then
some (1, m_5)
else none) fun x_4 m_5 =>
up m_5 162 0 x_4 fun m_26 =>
some (0, m_26)
set_option maxHeartbeats 4000000 in
theorem om_L_die {xs : List Int32} {d : Nat} {S : QS} {m0 : MM} {p1 : Int} {v0 : Value} {v1 : Value} {v2 : Value} {rz : Int} {rm : MM}
  (hd : 5 ≤ d) (R : Rp S m0) (f0 : q_is 2 v0 4) (f1 : q_is 0 v1 p1) (f2 : q_is 2 v2 162)
  (h : fm_L_die p1 m0 = some (rz, rm)) : Mt xs d 356 [v0, v1, v2] S (Cr 0 m0 rm rz) := by
  obtain ⟨d, rfl⟩ : ∃ e, d = e + 1 := ⟨d - 1, by omega⟩
  have hd : 4 ≤ d := Nat.le_of_succ_le_succ hd
  refine Mt.of (M := qM_L_die) rfl (by rw [sl_1 (q_is_cat f0 (Or.inr rfl)), sl_1 (q_is_cat f1 (Or.inl rfl)), sl_1 (q_is_cat f2 (Or.inr rfl)), sl_0]; decide) ?_
  rw [la_1 (q_is_cat f0 (Or.inr rfl)), la_1 (q_is_cat f1 (Or.inl rfl)), la_1 (q_is_cat f2 (Or.inr rfl)), la_0]
  obtain ⟨L, hL⟩ : ∃ L : QL, L = [(0, v0), (0 + 1, v1), (0 + 1 + 1, v2)] := ⟨_, rfl⟩
  rw [← hL]
  have l0 : q_lo L 0 = some v0 := by rw [hL]; rfl
  have l1 : q_lo L 1 = some v1 := by rw [hL]; rfl
  have l2 : q_lo L 2 = some v2 := by rw [hL]; rfl
  have hQ : Ext m0 rm → ∀ o S1, Rp S1 rm → q_out 0 o rz → (Cr 0 m0 rm rz) o S1 := fun a o S1 b e => ⟨b, a, e⟩
  unfold fm_L_die at h
  refine go_aload_n (n := 2) (by decide +kernel) l2 f2 ?_
  refine go_iconst (n := 0) (z := 0) (by decide +kernel) (by decide) fun v_1 f_2 => ?_
  refine go_aload_n (n := 0) (by decide +kernel) l0 f0 ?_
  refine go_iload_n (n := 1) (by decide +kernel) l1 f1 ?_
  obtain ⟨rr5, m_5, hc_3, h⟩ := bx_s h
  rcases h with ⟨q_12, rfl, h⟩ | ⟨x_4, rfl, h⟩
  · refine go_callV (x := 70) (mi := 117) (n := 1) (ci := 12) (as := [v1]) (rest := [v_1, v2]) (by decide +kernel) (by decide +kernel) rfl rfl (q_sum8 _ (Nat.le_of_ble_eq_true rfl)) R f0 (fx_k (c := 12) R (by decide +kernel)) (om_X11_die (Nat.le_trans (by decide) hd) R f0 f1 hc_3) (fun _ _ qq => kx_lx qq) (fun _ _ qq => ?_)
    obtain ⟨rfl, Rq, Eq⟩ := kx_e qq
    by_cases hp_14 : q_12 = 0
    · have h := it_t hp_14 h
      subst hp_14
      refine Or.inr ⟨by decide, _, _, q_hand_k (n := 3) (h := (0, 9, 12, 13)) (by decide +kernel) (by decide +kernel) (by decide), ?_⟩
      refine go_iconst (n := 1) (z := 1) (by decide +kernel) (by decide) fun v_19 f_20 => ?_
      cases h
      exact go_iret (by decide +kernel) rfl (Or.inl rfl) f_20 (hQ Eq _ _ Rq (q_out_v (by decide) f_20))
    have h := it_f hp_14 h
    cases h
  refine go_callV (x := 70) (mi := 117) (n := 1) (ci := 12) (as := [v1]) (rest := [v_1, v2]) (by decide +kernel) (by decide +kernel) rfl rfl (q_sum8 _ (Nat.le_of_ble_eq_true rfl)) R f0 (fx_k (c := 12) R (by decide +kernel)) (om_X11_die (Nat.le_trans (by decide) hd) R f0 f1 hc_3) (fun _ S_8 q_11 => ?_) (fun _ _ qq => kr_x (kx_l qq))
  have q_11 := kx_l q_11
  refine kr_z (by decide) q_11 fun v_6 f_7 R_9 E_10 => ?_
  have E_23 := E_10
  refine go_i2l (by decide +kernel) f_7 fun v_24 f_25 => ?_
  obtain ⟨m_26, e_27, h⟩ := up_s h
  refine go_last (kd := 101) (by decide +kernel) rfl R_9 f2 f_2 f_25 (fx_k (c := 101) R_9 (by decide +kernel)) (fx_x (a := 162) (ln := 1) R_9 (by decide +kernel) (by decide)) e_27 (fx_a R_9.2 (fx_k (c := 101) R_9 (by decide +kernel)) (And.left (fx_x (a := 162) (ln := 1) R_9 (by decide +kernel) (by decide))) (by decide +kernel)) fun S_28 R_29 E_30 => ?_
  have E_32 := Ext.tr E_23 E_30
  refine go_goto (o := 6) (t := 15) (by decide +kernel) (by decide +kernel) ?_
  refine go_iconst (n := 0) (z := 0) (by decide +kernel) (by decide) fun v_33 f_34 => ?_
  cases h
  exact go_iret (by decide +kernel) rfl (Or.inl rfl) f_34 (hQ E_32 _ _ R_29 (q_out_v (by decide) f_34))
noncomputable def fm_L_replays (p1 : Int) (m0 : MM) : Option (Int × MM) := bx (fm_X11_replays p1 m0) (fun q_12 m_5 =>
if q_12 = 0 then
some (1, m_5)
else none) fun x_4 m_5 =>
up m_5 162 0 x_4 fun m_26 =>
some (0, m_26)
set_option maxHeartbeats 4000000 in
theorem om_L_replays {xs : List Int32} {d : Nat} {S : QS} {m0 : MM} {p1 : Int} {v0 : Value} {v1 : Value} {v2 : Value} {rz : Int} {rm : MM}
  (hd : 3 ≤ d) (R : Rp S m0) (f0 : q_is 2 v0 4) (f1 : q_is 0 v1 p1) (f2 : q_is 2 v2 162)
  (h : fm_L_replays p1 m0 = some (rz, rm)) : Mt xs d 357 [v0, v1, v2] S (Cr 0 m0 rm rz) := by
  obtain ⟨d, rfl⟩ : ∃ e, d = e + 1 := ⟨d - 1, by omega⟩
  have hd : 2 ≤ d := Nat.le_of_succ_le_succ hd
  refine Mt.of (M := qM_L_replays) rfl (by rw [sl_1 (q_is_cat f0 (Or.inr rfl)), sl_1 (q_is_cat f1 (Or.inl rfl)), sl_1 (q_is_cat f2 (Or.inr rfl)), sl_0]; decide) ?_
  rw [la_1 (q_is_cat f0 (Or.inr rfl)), la_1 (q_is_cat f1 (Or.inl rfl)), la_1 (q_is_cat f2 (Or.inr rfl)), la_0]
  obtain ⟨L, hL⟩ : ∃ L : QL, L = [(0, v0), (0 + 1, v1), (0 + 1 + 1, v2)] := ⟨_, rfl⟩
  rw [← hL]
  have l0 : q_lo L 0 = some v0 := by rw [hL]; rfl
  have l1 : q_lo L 1 = some v1 := by rw [hL]; rfl
  have l2 : q_lo L 2 = some v2 := by rw [hL]; rfl
  have hQ : Ext m0 rm → ∀ o S1, Rp S1 rm → q_out 0 o rz → (Cr 0 m0 rm rz) o S1 := fun a o S1 b e => ⟨b, a, e⟩
  unfold fm_L_replays at h
  refine go_aload_n (n := 2) (by decide +kernel) l2 f2 ?_
  refine go_iconst (n := 0) (z := 0) (by decide +kernel) (by decide) fun v_1 f_2 => ?_
  refine go_aload_n (n := 0) (by decide +kernel) l0 f0 ?_
  refine go_iload_n (n := 1) (by decide +kernel) l1 f1 ?_
  obtain ⟨rr5, m_5, hc_3, h⟩ := bx_s h
  rcases h with ⟨q_12, rfl, h⟩ | ⟨x_4, rfl, h⟩
  · refine go_callV (x := 73) (mi := 118) (n := 1) (ci := 12) (as := [v1]) (rest := [v_1, v2]) (by decide +kernel) (by decide +kernel) rfl rfl (q_sum8 _ (Nat.le_of_ble_eq_true rfl)) R f0 (fx_k (c := 12) R (by decide +kernel)) (om_X11_replays (Nat.le_trans (by decide) hd) R f0 f1 hc_3) (fun _ _ qq => kx_lx qq) (fun _ _ qq => ?_)
    obtain ⟨rfl, Rq, Eq⟩ := kx_e qq
    by_cases hp_14 : q_12 = 0
    · have h := it_t hp_14 h
      subst hp_14
      refine Or.inr ⟨by decide, _, _, q_hand_k (n := 3) (h := (0, 9, 12, 13)) (by decide +kernel) (by decide +kernel) (by decide), ?_⟩
      refine go_iconst (n := 1) (z := 1) (by decide +kernel) (by decide) fun v_19 f_20 => ?_
      cases h
      exact go_iret (by decide +kernel) rfl (Or.inl rfl) f_20 (hQ Eq _ _ Rq (q_out_v (by decide) f_20))
    have h := it_f hp_14 h
    cases h
  refine go_callV (x := 73) (mi := 118) (n := 1) (ci := 12) (as := [v1]) (rest := [v_1, v2]) (by decide +kernel) (by decide +kernel) rfl rfl (q_sum8 _ (Nat.le_of_ble_eq_true rfl)) R f0 (fx_k (c := 12) R (by decide +kernel)) (om_X11_replays (Nat.le_trans (by decide) hd) R f0 f1 hc_3) (fun _ S_8 q_11 => ?_) (fun _ _ qq => kr_x (kx_l qq))
  have q_11 := kx_l q_11
  refine kr_z (by decide) q_11 fun v_6 f_7 R_9 E_10 => ?_
  have E_23 := E_10
  refine go_i2l (by decide +kernel) f_7 fun v_24 f_25 => ?_
  obtain ⟨m_26, e_27, h⟩ := up_s h
  refine go_last (kd := 101) (by decide +kernel) rfl R_9 f2 f_2 f_25 (fx_k (c := 101) R_9 (by decide +kernel)) (fx_x (a := 162) (ln := 1) R_9 (by decide +kernel) (by decide)) e_27 (fx_a R_9.2 (fx_k (c := 101) R_9 (by decide +kernel)) (And.left (fx_x (a := 162) (ln := 1) R_9 (by decide +kernel) (by decide))) (by decide +kernel)) fun S_28 R_29 E_30 => ?_
  have E_32 := Ext.tr E_23 E_30
  refine go_goto (o := 6) (t := 15) (by decide +kernel) (by decide +kernel) ?_
  refine go_iconst (n := 0) (z := 0) (by decide +kernel) (by decide) fun v_33 f_34 => ?_
  cases h
  exact go_iret (by decide +kernel) rfl (Or.inl rfl) f_34 (hQ E_32 _ _ R_29 (q_out_v (by decide) f_34))
noncomputable def fm_L_take (p1 : Int) (m0 : MM) : Option (Int × MM) := bx (fm_X11_take p1 m0) (fun q_12 m_5 =>
if q_12 = 0 then
some (1, m_5)
else none) fun x_4 m_5 =>
up m_5 162 0 x_4 fun m_26 =>
some (0, m_26)
set_option maxHeartbeats 4000000 in
theorem om_L_take {xs : List Int32} {d : Nat} {S : QS} {m0 : MM} {p1 : Int} {v0 : Value} {v1 : Value} {v2 : Value} {rz : Int} {rm : MM}
  (hd : 5 ≤ d) (R : Rp S m0) (f0 : q_is 2 v0 4) (f1 : q_is 0 v1 p1) (f2 : q_is 2 v2 162)
  (h : fm_L_take p1 m0 = some (rz, rm)) : Mt xs d 358 [v0, v1, v2] S (Cr 0 m0 rm rz) := by
  obtain ⟨d, rfl⟩ : ∃ e, d = e + 1 := ⟨d - 1, by omega⟩
  have hd : 4 ≤ d := Nat.le_of_succ_le_succ hd
  refine Mt.of (M := qM_L_take) rfl (by rw [sl_1 (q_is_cat f0 (Or.inr rfl)), sl_1 (q_is_cat f1 (Or.inl rfl)), sl_1 (q_is_cat f2 (Or.inr rfl)), sl_0]; decide) ?_
  rw [la_1 (q_is_cat f0 (Or.inr rfl)), la_1 (q_is_cat f1 (Or.inl rfl)), la_1 (q_is_cat f2 (Or.inr rfl)), la_0]
  obtain ⟨L, hL⟩ : ∃ L : QL, L = [(0, v0), (0 + 1, v1), (0 + 1 + 1, v2)] := ⟨_, rfl⟩
  rw [← hL]
  have l0 : q_lo L 0 = some v0 := by rw [hL]; rfl
  have l1 : q_lo L 1 = some v1 := by rw [hL]; rfl
  have l2 : q_lo L 2 = some v2 := by rw [hL]; rfl
  have hQ : Ext m0 rm → ∀ o S1, Rp S1 rm → q_out 0 o rz → (Cr 0 m0 rm rz) o S1 := fun a o S1 b e => ⟨b, a, e⟩
  unfold fm_L_take at h
  refine go_aload_n (n := 2) (by decide +kernel) l2 f2 ?_
  refine go_iconst (n := 0) (z := 0) (by decide +kernel) (by decide) fun v_1 f_2 => ?_
  refine go_aload_n (n := 0) (by decide +kernel) l0 f0 ?_
  refine go_iload_n (n := 1) (by decide +kernel) l1 f1 ?_
  obtain ⟨rr5, m_5, hc_3, h⟩ := bx_s h
  rcases h with ⟨q_12, rfl, h⟩ | ⟨x_4, rfl, h⟩
  · refine go_callV (x := 76) (mi := 119) (n := 1) (ci := 12) (as := [v1]) (rest := [v_1, v2]) (by decide +kernel) (by decide +kernel) rfl rfl (q_sum8 _ (Nat.le_of_ble_eq_true rfl)) R f0 (fx_k (c := 12) R (by decide +kernel)) (om_X11_take (Nat.le_trans (by decide) hd) R f0 f1 hc_3) (fun _ _ qq => kx_lx qq) (fun _ _ qq => ?_)
    obtain ⟨rfl, Rq, Eq⟩ := kx_e qq
    by_cases hp_14 : q_12 = 0
    · have h := it_t hp_14 h
      subst hp_14
      refine Or.inr ⟨by decide, _, _, q_hand_k (n := 3) (h := (0, 9, 12, 13)) (by decide +kernel) (by decide +kernel) (by decide), ?_⟩
      refine go_iconst (n := 1) (z := 1) (by decide +kernel) (by decide) fun v_19 f_20 => ?_
      cases h
      exact go_iret (by decide +kernel) rfl (Or.inl rfl) f_20 (hQ Eq _ _ Rq (q_out_v (by decide) f_20))
    have h := it_f hp_14 h
    cases h
  refine go_callV (x := 76) (mi := 119) (n := 1) (ci := 12) (as := [v1]) (rest := [v_1, v2]) (by decide +kernel) (by decide +kernel) rfl rfl (q_sum8 _ (Nat.le_of_ble_eq_true rfl)) R f0 (fx_k (c := 12) R (by decide +kernel)) (om_X11_take (Nat.le_trans (by decide) hd) R f0 f1 hc_3) (fun _ S_8 q_11 => ?_) (fun _ _ qq => kr_x (kx_l qq))
  have q_11 := kx_l q_11
  refine kr_z (by decide) q_11 fun v_6 f_7 R_9 E_10 => ?_
  have E_23 := E_10
  refine go_i2l (by decide +kernel) f_7 fun v_24 f_25 => ?_
  obtain ⟨m_26, e_27, h⟩ := up_s h
  refine go_last (kd := 101) (by decide +kernel) rfl R_9 f2 f_2 f_25 (fx_k (c := 101) R_9 (by decide +kernel)) (fx_x (a := 162) (ln := 1) R_9 (by decide +kernel) (by decide)) e_27 (fx_a R_9.2 (fx_k (c := 101) R_9 (by decide +kernel)) (And.left (fx_x (a := 162) (ln := 1) R_9 (by decide +kernel) (by decide))) (by decide +kernel)) fun S_28 R_29 E_30 => ?_
  have E_32 := Ext.tr E_23 E_30
  refine go_goto (o := 6) (t := 15) (by decide +kernel) (by decide +kernel) ?_
  refine go_iconst (n := 0) (z := 0) (by decide +kernel) (by decide) fun v_33 f_34 => ?_
  cases h
  exact go_iret (by decide +kernel) rfl (Or.inl rfl) f_34 (hQ E_32 _ _ R_29 (q_out_v (by decide) f_34))
noncomputable def fm_L_answer (p1 p2 : Int) (m0 : MM) : Option (Int × MM) := bx (fm_X11_answer p1 p2 m0) (fun q_12 m_5 =>
if q_12 = 0 then
some (1, m_5)
else if q_12 = 1 then
some (2, m_5)
else none) fun x_4 m_5 =>
if x_4 = 0 then
up m_5 162 0 0 fun m_34 =>
some (0, m_34)
else
up m_5 162 0 1 fun m_45 =>
some (0, m_45)
set_option maxHeartbeats 4000000 in
theorem om_L_answer {xs : List Int32} {d : Nat} {S : QS} {m0 : MM} {p1 p2 : Int} {v0 : Value} {v1 : Value} {v2 : Value} {v3 : Value} {rz : Int} {rm : MM}
  (hd : 6 ≤ d) (R : Rp S m0) (f0 : q_is 2 v0 4) (f1 : q_is 0 v1 p1) (f2 : q_is 0 v2 p2) (f3 : q_is 2 v3 162)
  (h : fm_L_answer p1 p2 m0 = some (rz, rm)) : Mt xs d 359 [v0, v1, v2, v3] S (Cr 0 m0 rm rz) := by
  obtain ⟨d, rfl⟩ : ∃ e, d = e + 1 := ⟨d - 1, by omega⟩
  have hd : 5 ≤ d := Nat.le_of_succ_le_succ hd
  refine Mt.of (M := qM_L_answer) rfl (by rw [sl_1 (q_is_cat f0 (Or.inr rfl)), sl_1 (q_is_cat f1 (Or.inl rfl)), sl_1 (q_is_cat f2 (Or.inl rfl)), sl_1 (q_is_cat f3 (Or.inr rfl)), sl_0]; decide) ?_
  rw [la_1 (q_is_cat f0 (Or.inr rfl)), la_1 (q_is_cat f1 (Or.inl rfl)), la_1 (q_is_cat f2 (Or.inl rfl)), la_1 (q_is_cat f3 (Or.inr rfl)), la_0]
  obtain ⟨L, hL⟩ : ∃ L : QL, L = [(0, v0), (0 + 1, v1), (0 + 1 + 1, v2), (0 + 1 + 1 + 1, v3)] := ⟨_, rfl⟩
  rw [← hL]
  have l0 : q_lo L 0 = some v0 := by rw [hL]; rfl
  have l1 : q_lo L 1 = some v1 := by rw [hL]; rfl
  have l2 : q_lo L 2 = some v2 := by rw [hL]; rfl
  have l3 : q_lo L 3 = some v3 := by rw [hL]; rfl
  have hQ : Ext m0 rm → ∀ o S1, Rp S1 rm → q_out 0 o rz → (Cr 0 m0 rm rz) o S1 := fun a o S1 b e => ⟨b, a, e⟩
  unfold fm_L_answer at h
  refine go_aload_n (n := 3) (by decide +kernel) l3 f3 ?_
  refine go_iconst (n := 0) (z := 0) (by decide +kernel) (by decide) fun v_1 f_2 => ?_
  refine go_aload_n (n := 0) (by decide +kernel) l0 f0 ?_
  refine go_iload_n (n := 1) (by decide +kernel) l1 f1 ?_
  refine go_iload_n (n := 2) (by decide +kernel) l2 f2 ?_
  obtain ⟨rr5, m_5, hc_3, h⟩ := bx_s h
  rcases h with ⟨q_12, rfl, h⟩ | ⟨x_4, rfl, h⟩
  · refine go_callV (x := 79) (mi := 120) (n := 2) (ci := 12) (as := [v1, v2]) (rest := [v_1, v3]) (by decide +kernel) (by decide +kernel) rfl rfl (q_sum8 _ (Nat.le_of_ble_eq_true rfl)) R f0 (fx_k (c := 12) R (by decide +kernel)) (om_X11_answer (Nat.le_trans (by decide) hd) R f0 f1 f2 hc_3) (fun _ _ qq => kx_lx qq) (fun _ _ qq => ?_)
    obtain ⟨rfl, Rq, Eq⟩ := kx_e qq
    by_cases hp_14 : q_12 = 0
    · have h := it_t hp_14 h
      subst hp_14
      refine Or.inr ⟨by decide, _, _, q_hand_n (n := 4) (h := (0, 17, 20, 13)) (by decide +kernel) (by decide +kernel) (by decide), ?_⟩
      refine go_iconst (n := 1) (z := 1) (by decide +kernel) (by decide) fun v_19 f_20 => ?_
      cases h
      exact go_iret (by decide +kernel) rfl (Or.inl rfl) f_20 (hQ Eq _ _ Rq (q_out_v (by decide) f_20))
    have h := it_f hp_14 h
    by_cases hp_21 : q_12 = 1
    · have h := it_t hp_21 h
      subst hp_21
      refine Or.inr ⟨by decide, _, _, q_hand_n (n := 4) (h := (0, 17, 24, 15)) (by decide +kernel) (by decide +kernel) (by decide), ?_⟩
      refine go_iconst (n := 2) (z := 2) (by decide +kernel) (by decide) fun v_26 f_27 => ?_
      cases h
      exact go_iret (by decide +kernel) rfl (Or.inl rfl) f_27 (hQ Eq _ _ Rq (q_out_v (by decide) f_27))
    have h := it_f hp_21 h
    cases h
  refine go_callV (x := 79) (mi := 120) (n := 2) (ci := 12) (as := [v1, v2]) (rest := [v_1, v3]) (by decide +kernel) (by decide +kernel) rfl rfl (q_sum8 _ (Nat.le_of_ble_eq_true rfl)) R f0 (fx_k (c := 12) R (by decide +kernel)) (om_X11_answer (Nat.le_trans (by decide) hd) R f0 f1 f2 hc_3) (fun _ S_8 q_11 => ?_) (fun _ _ qq => kr_x (kx_l qq))
  have q_11 := kx_l q_11
  refine kr_z (by decide) q_11 fun v_6 f_7 R_9 E_10 => ?_
  have E_30 := E_10
  refine go_if (c := .eq) (o := 7) (t := 15) (P := x_4 = 0) (by decide +kernel) (by decide +kernel) f_7 (Iff.rfl) (fun hp_31 => ?_) (fun hp_31 => ?_)
  · have h := it_t hp_31 h
    refine go_lconst (n := 0) (z := 0) (by decide +kernel) (by decide) fun v_32 f_33 => ?_
    obtain ⟨m_34, e_35, h⟩ := up_s h
    refine go_last (kd := 101) (by decide +kernel) rfl R_9 f3 f_2 f_33 (fx_k (c := 101) R_9 (by decide +kernel)) (fx_x (a := 162) (ln := 1) R_9 (by decide +kernel) (by decide)) e_35 (fx_a R_9.2 (fx_k (c := 101) R_9 (by decide +kernel)) (And.left (fx_x (a := 162) (ln := 1) R_9 (by decide +kernel) (by decide))) (by decide +kernel)) fun S_36 R_37 E_38 => ?_
    have E_40 := Ext.tr E_30 E_38
    refine go_goto (o := 11) (t := 28) (by decide +kernel) (by decide +kernel) ?_
    refine go_iconst (n := 0) (z := 0) (by decide +kernel) (by decide) fun v_41 f_42 => ?_
    cases h
    exact go_iret (by decide +kernel) rfl (Or.inl rfl) f_42 (hQ E_40 _ _ R_37 (q_out_v (by decide) f_42))
  · have h := it_f hp_31 h
    refine go_lconst (n := 1) (z := 1) (by decide +kernel) (by decide) fun v_43 f_44 => ?_
    refine go_goto (o := 4) (t := 16) (by decide +kernel) (by decide +kernel) ?_
    obtain ⟨m_45, e_46, h⟩ := up_s h
    refine go_last (kd := 101) (by decide +kernel) rfl R_9 f3 f_2 f_44 (fx_k (c := 101) R_9 (by decide +kernel)) (fx_x (a := 162) (ln := 1) R_9 (by decide +kernel) (by decide)) e_46 (fx_a R_9.2 (fx_k (c := 101) R_9 (by decide +kernel)) (And.left (fx_x (a := 162) (ln := 1) R_9 (by decide +kernel) (by decide))) (by decide +kernel)) fun S_47 R_48 E_49 => ?_
    have E_51 := Ext.tr E_30 E_49
    refine go_goto (o := 11) (t := 28) (by decide +kernel) (by decide +kernel) ?_
    refine go_iconst (n := 0) (z := 0) (by decide +kernel) (by decide) fun v_52 f_53 => ?_
    cases h
    exact go_iret (by decide +kernel) rfl (Or.inl rfl) f_53 (hQ E_51 _ _ R_48 (q_out_v (by decide) f_53))
noncomputable def fm_L_fail (p1 p2 : Int) (m0 : MM) : Option (Int × MM) := bx (fm_X11_fail p1 p2 m0) (fun q_12 m_5 =>
if q_12 = 0 then
some (1, m_5)
else none) fun x_4 m_5 =>
if x_4 = 0 then
up m_5 162 0 0 fun m_27 =>
some (0, m_27)
else
up m_5 162 0 1 fun m_38 =>
some (0, m_38)
set_option maxHeartbeats 4000000 in
theorem om_L_fail {xs : List Int32} {d : Nat} {S : QS} {m0 : MM} {p1 p2 : Int} {v0 : Value} {v1 : Value} {v2 : Value} {v3 : Value} {rz : Int} {rm : MM}
  (hd : 6 ≤ d) (R : Rp S m0) (f0 : q_is 2 v0 4) (f1 : q_is 0 v1 p1) (f2 : q_is 0 v2 p2) (f3 : q_is 2 v3 162)
  (h : fm_L_fail p1 p2 m0 = some (rz, rm)) : Mt xs d 360 [v0, v1, v2, v3] S (Cr 0 m0 rm rz) := by
  obtain ⟨d, rfl⟩ : ∃ e, d = e + 1 := ⟨d - 1, by omega⟩
  have hd : 5 ≤ d := Nat.le_of_succ_le_succ hd
  refine Mt.of (M := qM_L_fail) rfl (by rw [sl_1 (q_is_cat f0 (Or.inr rfl)), sl_1 (q_is_cat f1 (Or.inl rfl)), sl_1 (q_is_cat f2 (Or.inl rfl)), sl_1 (q_is_cat f3 (Or.inr rfl)), sl_0]; decide) ?_
  rw [la_1 (q_is_cat f0 (Or.inr rfl)), la_1 (q_is_cat f1 (Or.inl rfl)), la_1 (q_is_cat f2 (Or.inl rfl)), la_1 (q_is_cat f3 (Or.inr rfl)), la_0]
  obtain ⟨L, hL⟩ : ∃ L : QL, L = [(0, v0), (0 + 1, v1), (0 + 1 + 1, v2), (0 + 1 + 1 + 1, v3)] := ⟨_, rfl⟩
  rw [← hL]
  have l0 : q_lo L 0 = some v0 := by rw [hL]; rfl
  have l1 : q_lo L 1 = some v1 := by rw [hL]; rfl
  have l2 : q_lo L 2 = some v2 := by rw [hL]; rfl
  have l3 : q_lo L 3 = some v3 := by rw [hL]; rfl
  have hQ : Ext m0 rm → ∀ o S1, Rp S1 rm → q_out 0 o rz → (Cr 0 m0 rm rz) o S1 := fun a o S1 b e => ⟨b, a, e⟩
  unfold fm_L_fail at h
  refine go_aload_n (n := 3) (by decide +kernel) l3 f3 ?_
  refine go_iconst (n := 0) (z := 0) (by decide +kernel) (by decide) fun v_1 f_2 => ?_
  refine go_aload_n (n := 0) (by decide +kernel) l0 f0 ?_
  refine go_iload_n (n := 1) (by decide +kernel) l1 f1 ?_
  refine go_iload_n (n := 2) (by decide +kernel) l2 f2 ?_
  obtain ⟨rr5, m_5, hc_3, h⟩ := bx_s h
  rcases h with ⟨q_12, rfl, h⟩ | ⟨x_4, rfl, h⟩
  · refine go_callV (x := 83) (mi := 121) (n := 2) (ci := 12) (as := [v1, v2]) (rest := [v_1, v3]) (by decide +kernel) (by decide +kernel) rfl rfl (q_sum8 _ (Nat.le_of_ble_eq_true rfl)) R f0 (fx_k (c := 12) R (by decide +kernel)) (om_X11_fail (Nat.le_trans (by decide) hd) R f0 f1 f2 hc_3) (fun _ _ qq => kx_lx qq) (fun _ _ qq => ?_)
    obtain ⟨rfl, Rq, Eq⟩ := kx_e qq
    by_cases hp_14 : q_12 = 0
    · have h := it_t hp_14 h
      subst hp_14
      refine Or.inr ⟨by decide, _, _, q_hand_n (n := 4) (h := (0, 17, 20, 13)) (by decide +kernel) (by decide +kernel) (by decide), ?_⟩
      refine go_iconst (n := 1) (z := 1) (by decide +kernel) (by decide) fun v_19 f_20 => ?_
      cases h
      exact go_iret (by decide +kernel) rfl (Or.inl rfl) f_20 (hQ Eq _ _ Rq (q_out_v (by decide) f_20))
    have h := it_f hp_14 h
    cases h
  refine go_callV (x := 83) (mi := 121) (n := 2) (ci := 12) (as := [v1, v2]) (rest := [v_1, v3]) (by decide +kernel) (by decide +kernel) rfl rfl (q_sum8 _ (Nat.le_of_ble_eq_true rfl)) R f0 (fx_k (c := 12) R (by decide +kernel)) (om_X11_fail (Nat.le_trans (by decide) hd) R f0 f1 f2 hc_3) (fun _ S_8 q_11 => ?_) (fun _ _ qq => kr_x (kx_l qq))
  have q_11 := kx_l q_11
  refine kr_z (by decide) q_11 fun v_6 f_7 R_9 E_10 => ?_
  have E_23 := E_10
  refine go_if (c := .eq) (o := 7) (t := 15) (P := x_4 = 0) (by decide +kernel) (by decide +kernel) f_7 (Iff.rfl) (fun hp_24 => ?_) (fun hp_24 => ?_)
  · have h := it_t hp_24 h
    refine go_lconst (n := 0) (z := 0) (by decide +kernel) (by decide) fun v_25 f_26 => ?_
    obtain ⟨m_27, e_28, h⟩ := up_s h
    refine go_last (kd := 101) (by decide +kernel) rfl R_9 f3 f_2 f_26 (fx_k (c := 101) R_9 (by decide +kernel)) (fx_x (a := 162) (ln := 1) R_9 (by decide +kernel) (by decide)) e_28 (fx_a R_9.2 (fx_k (c := 101) R_9 (by decide +kernel)) (And.left (fx_x (a := 162) (ln := 1) R_9 (by decide +kernel) (by decide))) (by decide +kernel)) fun S_29 R_30 E_31 => ?_
    have E_33 := Ext.tr E_23 E_31
    refine go_goto (o := 7) (t := 24) (by decide +kernel) (by decide +kernel) ?_
    refine go_iconst (n := 0) (z := 0) (by decide +kernel) (by decide) fun v_34 f_35 => ?_
    cases h
    exact go_iret (by decide +kernel) rfl (Or.inl rfl) f_35 (hQ E_33 _ _ R_30 (q_out_v (by decide) f_35))
  · have h := it_f hp_24 h
    refine go_lconst (n := 1) (z := 1) (by decide +kernel) (by decide) fun v_36 f_37 => ?_
    refine go_goto (o := 4) (t := 16) (by decide +kernel) (by decide +kernel) ?_
    obtain ⟨m_38, e_39, h⟩ := up_s h
    refine go_last (kd := 101) (by decide +kernel) rfl R_9 f3 f_2 f_37 (fx_k (c := 101) R_9 (by decide +kernel)) (fx_x (a := 162) (ln := 1) R_9 (by decide +kernel) (by decide)) e_39 (fx_a R_9.2 (fx_k (c := 101) R_9 (by decide +kernel)) (And.left (fx_x (a := 162) (ln := 1) R_9 (by decide +kernel) (by decide))) (by decide +kernel)) fun S_40 R_41 E_42 => ?_
    have E_44 := Ext.tr E_23 E_42
    refine go_goto (o := 7) (t := 24) (by decide +kernel) (by decide +kernel) ?_
    refine go_iconst (n := 0) (z := 0) (by decide +kernel) (by decide) fun v_45 f_46 => ?_
    cases h
    exact go_iret (by decide +kernel) rfl (Or.inl rfl) f_46 (hQ E_44 _ _ R_41 (q_out_v (by decide) f_46))
noncomputable def fm_L_beat (p1 p2 : Int) (m0 : MM) : Option (Int × MM) := bx (fm_X11_beat p1 p2 m0) (fun q_12 m_5 =>
if q_12 = 0 then
some (1, m_5)
else if q_12 = 1 then
some (2, m_5)
else none) fun x_4 m_5 =>
up m_5 162 0 x_4 fun m_33 =>
some (0, m_33)
set_option maxHeartbeats 4000000 in
theorem om_L_beat {xs : List Int32} {d : Nat} {S : QS} {m0 : MM} {p1 p2 : Int} {v0 : Value} {v1 : Value} {v2 : Value} {v3 : Value} {rz : Int} {rm : MM}
  (hd : 6 ≤ d) (R : Rp S m0) (f0 : q_is 2 v0 4) (f1 : q_is 0 v1 p1) (f2 : q_is 0 v2 p2) (f3 : q_is 2 v3 162)
  (h : fm_L_beat p1 p2 m0 = some (rz, rm)) : Mt xs d 361 [v0, v1, v2, v3] S (Cr 0 m0 rm rz) := by
  obtain ⟨d, rfl⟩ : ∃ e, d = e + 1 := ⟨d - 1, by omega⟩
  have hd : 5 ≤ d := Nat.le_of_succ_le_succ hd
  refine Mt.of (M := qM_L_beat) rfl (by rw [sl_1 (q_is_cat f0 (Or.inr rfl)), sl_1 (q_is_cat f1 (Or.inl rfl)), sl_1 (q_is_cat f2 (Or.inl rfl)), sl_1 (q_is_cat f3 (Or.inr rfl)), sl_0]; decide) ?_
  rw [la_1 (q_is_cat f0 (Or.inr rfl)), la_1 (q_is_cat f1 (Or.inl rfl)), la_1 (q_is_cat f2 (Or.inl rfl)), la_1 (q_is_cat f3 (Or.inr rfl)), la_0]
  obtain ⟨L, hL⟩ : ∃ L : QL, L = [(0, v0), (0 + 1, v1), (0 + 1 + 1, v2), (0 + 1 + 1 + 1, v3)] := ⟨_, rfl⟩
  rw [← hL]
  have l0 : q_lo L 0 = some v0 := by rw [hL]; rfl
  have l1 : q_lo L 1 = some v1 := by rw [hL]; rfl
  have l2 : q_lo L 2 = some v2 := by rw [hL]; rfl
  have l3 : q_lo L 3 = some v3 := by rw [hL]; rfl
  have hQ : Ext m0 rm → ∀ o S1, Rp S1 rm → q_out 0 o rz → (Cr 0 m0 rm rz) o S1 := fun a o S1 b e => ⟨b, a, e⟩
  unfold fm_L_beat at h
  refine go_aload_n (n := 3) (by decide +kernel) l3 f3 ?_
  refine go_iconst (n := 0) (z := 0) (by decide +kernel) (by decide) fun v_1 f_2 => ?_
  refine go_aload_n (n := 0) (by decide +kernel) l0 f0 ?_
  refine go_iload_n (n := 1) (by decide +kernel) l1 f1 ?_
  refine go_iload_n (n := 2) (by decide +kernel) l2 f2 ?_
  obtain ⟨rr5, m_5, hc_3, h⟩ := bx_s h
  rcases h with ⟨q_12, rfl, h⟩ | ⟨x_4, rfl, h⟩
  · refine go_callV (x := 87) (mi := 122) (n := 2) (ci := 12) (as := [v1, v2]) (rest := [v_1, v3]) (by decide +kernel) (by decide +kernel) rfl rfl (q_sum8 _ (Nat.le_of_ble_eq_true rfl)) R f0 (fx_k (c := 12) R (by decide +kernel)) (om_X11_beat (Nat.le_trans (by decide) hd) R f0 f1 f2 hc_3) (fun _ _ qq => kx_lx qq) (fun _ _ qq => ?_)
    obtain ⟨rfl, Rq, Eq⟩ := kx_e qq
    by_cases hp_14 : q_12 = 0
    · have h := it_t hp_14 h
      subst hp_14
      refine Or.inr ⟨by decide, _, _, q_hand_n (n := 4) (h := (0, 10, 13, 13)) (by decide +kernel) (by decide +kernel) (by decide), ?_⟩
      refine go_iconst (n := 1) (z := 1) (by decide +kernel) (by decide) fun v_19 f_20 => ?_
      cases h
      exact go_iret (by decide +kernel) rfl (Or.inl rfl) f_20 (hQ Eq _ _ Rq (q_out_v (by decide) f_20))
    have h := it_f hp_14 h
    by_cases hp_21 : q_12 = 1
    · have h := it_t hp_21 h
      subst hp_21
      refine Or.inr ⟨by decide, _, _, q_hand_n (n := 4) (h := (0, 10, 17, 15)) (by decide +kernel) (by decide +kernel) (by decide), ?_⟩
      refine go_iconst (n := 2) (z := 2) (by decide +kernel) (by decide) fun v_26 f_27 => ?_
      cases h
      exact go_iret (by decide +kernel) rfl (Or.inl rfl) f_27 (hQ Eq _ _ Rq (q_out_v (by decide) f_27))
    have h := it_f hp_21 h
    cases h
  refine go_callV (x := 87) (mi := 122) (n := 2) (ci := 12) (as := [v1, v2]) (rest := [v_1, v3]) (by decide +kernel) (by decide +kernel) rfl rfl (q_sum8 _ (Nat.le_of_ble_eq_true rfl)) R f0 (fx_k (c := 12) R (by decide +kernel)) (om_X11_beat (Nat.le_trans (by decide) hd) R f0 f1 f2 hc_3) (fun _ S_8 q_11 => ?_) (fun _ _ qq => kr_x (kx_l qq))
  have q_11 := kx_l q_11
  refine kr_z (by decide) q_11 fun v_6 f_7 R_9 E_10 => ?_
  have E_30 := E_10
  refine go_i2l (by decide +kernel) f_7 fun v_31 f_32 => ?_
  obtain ⟨m_33, e_34, h⟩ := up_s h
  refine go_last (kd := 101) (by decide +kernel) rfl R_9 f3 f_2 f_32 (fx_k (c := 101) R_9 (by decide +kernel)) (fx_x (a := 162) (ln := 1) R_9 (by decide +kernel) (by decide)) e_34 (fx_a R_9.2 (fx_k (c := 101) R_9 (by decide +kernel)) (And.left (fx_x (a := 162) (ln := 1) R_9 (by decide +kernel) (by decide))) (by decide +kernel)) fun S_35 R_36 E_37 => ?_
  have E_39 := Ext.tr E_30 E_37
  refine go_goto (o := 11) (t := 21) (by decide +kernel) (by decide +kernel) ?_
  refine go_iconst (n := 0) (z := 0) (by decide +kernel) (by decide) fun v_40 f_41 => ?_
  cases h
  exact go_iret (by decide +kernel) rfl (Or.inl rfl) f_41 (hQ E_39 _ _ R_36 (q_out_v (by decide) f_41))
noncomputable def fm_L_activity (p1 : Int) (m0 : MM) : Option (Int × MM) := bx (fm_X11_activity p1 m0) (fun q_12 m_5 =>
if q_12 = 0 then
some (1, m_5)
else none) fun x_4 m_5 =>
up m_5 162 0 x_4 fun m_26 =>
some (0, m_26)
set_option maxHeartbeats 4000000 in
theorem om_L_activity {xs : List Int32} {d : Nat} {S : QS} {m0 : MM} {p1 : Int} {v0 : Value} {v1 : Value} {v2 : Value} {rz : Int} {rm : MM}
  (hd : 6 ≤ d) (R : Rp S m0) (f0 : q_is 2 v0 4) (f1 : q_is 0 v1 p1) (f2 : q_is 2 v2 162)
  (h : fm_L_activity p1 m0 = some (rz, rm)) : Mt xs d 362 [v0, v1, v2] S (Cr 0 m0 rm rz) := by
  obtain ⟨d, rfl⟩ : ∃ e, d = e + 1 := ⟨d - 1, by omega⟩
  have hd : 5 ≤ d := Nat.le_of_succ_le_succ hd
  refine Mt.of (M := qM_L_activity) rfl (by rw [sl_1 (q_is_cat f0 (Or.inr rfl)), sl_1 (q_is_cat f1 (Or.inl rfl)), sl_1 (q_is_cat f2 (Or.inr rfl)), sl_0]; decide) ?_
  rw [la_1 (q_is_cat f0 (Or.inr rfl)), la_1 (q_is_cat f1 (Or.inl rfl)), la_1 (q_is_cat f2 (Or.inr rfl)), la_0]
  obtain ⟨L, hL⟩ : ∃ L : QL, L = [(0, v0), (0 + 1, v1), (0 + 1 + 1, v2)] := ⟨_, rfl⟩
  rw [← hL]
  have l0 : q_lo L 0 = some v0 := by rw [hL]; rfl
  have l1 : q_lo L 1 = some v1 := by rw [hL]; rfl
  have l2 : q_lo L 2 = some v2 := by rw [hL]; rfl
  have hQ : Ext m0 rm → ∀ o S1, Rp S1 rm → q_out 0 o rz → (Cr 0 m0 rm rz) o S1 := fun a o S1 b e => ⟨b, a, e⟩
  unfold fm_L_activity at h
  refine go_aload_n (n := 2) (by decide +kernel) l2 f2 ?_
  refine go_iconst (n := 0) (z := 0) (by decide +kernel) (by decide) fun v_1 f_2 => ?_
  refine go_aload_n (n := 0) (by decide +kernel) l0 f0 ?_
  refine go_iload_n (n := 1) (by decide +kernel) l1 f1 ?_
  obtain ⟨rr5, m_5, hc_3, h⟩ := bx_s h
  rcases h with ⟨q_12, rfl, h⟩ | ⟨x_4, rfl, h⟩
  · refine go_callV (x := 90) (mi := 123) (n := 1) (ci := 12) (as := [v1]) (rest := [v_1, v2]) (by decide +kernel) (by decide +kernel) rfl rfl (q_sum8 _ (Nat.le_of_ble_eq_true rfl)) R f0 (fx_k (c := 12) R (by decide +kernel)) (om_X11_activity (Nat.le_trans (by decide) hd) R f0 f1 hc_3) (fun _ _ qq => kx_lx qq) (fun _ _ qq => ?_)
    obtain ⟨rfl, Rq, Eq⟩ := kx_e qq
    by_cases hp_14 : q_12 = 0
    · have h := it_t hp_14 h
      subst hp_14
      refine Or.inr ⟨by decide, _, _, q_hand_k (n := 3) (h := (0, 9, 12, 13)) (by decide +kernel) (by decide +kernel) (by decide), ?_⟩
      refine go_iconst (n := 1) (z := 1) (by decide +kernel) (by decide) fun v_19 f_20 => ?_
      cases h
      exact go_iret (by decide +kernel) rfl (Or.inl rfl) f_20 (hQ Eq _ _ Rq (q_out_v (by decide) f_20))
    have h := it_f hp_14 h
    cases h
  refine go_callV (x := 90) (mi := 123) (n := 1) (ci := 12) (as := [v1]) (rest := [v_1, v2]) (by decide +kernel) (by decide +kernel) rfl rfl (q_sum8 _ (Nat.le_of_ble_eq_true rfl)) R f0 (fx_k (c := 12) R (by decide +kernel)) (om_X11_activity (Nat.le_trans (by decide) hd) R f0 f1 hc_3) (fun _ S_8 q_11 => ?_) (fun _ _ qq => kr_x (kx_l qq))
  have q_11 := kx_l q_11
  refine kr_z (by decide) q_11 fun v_6 f_7 R_9 E_10 => ?_
  have E_23 := E_10
  refine go_i2l (by decide +kernel) f_7 fun v_24 f_25 => ?_
  obtain ⟨m_26, e_27, h⟩ := up_s h
  refine go_last (kd := 101) (by decide +kernel) rfl R_9 f2 f_2 f_25 (fx_k (c := 101) R_9 (by decide +kernel)) (fx_x (a := 162) (ln := 1) R_9 (by decide +kernel) (by decide)) e_27 (fx_a R_9.2 (fx_k (c := 101) R_9 (by decide +kernel)) (And.left (fx_x (a := 162) (ln := 1) R_9 (by decide +kernel) (by decide))) (by decide +kernel)) fun S_28 R_29 E_30 => ?_
  have E_32 := Ext.tr E_23 E_30
  refine go_goto (o := 6) (t := 15) (by decide +kernel) (by decide +kernel) ?_
  refine go_iconst (n := 0) (z := 0) (by decide +kernel) (by decide) fun v_33 f_34 => ?_
  cases h
  exact go_iret (by decide +kernel) rfl (Or.inl rfl) f_34 (hQ E_32 _ _ R_29 (q_out_v (by decide) f_34))
noncomputable def fm_L_pass (p1 : Int) (m0 : MM) : Option (Int × MM) := bx (fm_X11_pass p1 m0) (fun q_12 m_5 =>
if q_12 = 1 then
some (1, m_5)
else none) fun x_4 m_5 =>
up m_5 162 0 x_4 fun m_26 =>
some (0, m_26)
set_option maxHeartbeats 4000000 in
theorem om_L_pass {xs : List Int32} {d : Nat} {S : QS} {m0 : MM} {p1 : Int} {v0 : Value} {v1 : Value} {v2 : Value} {rz : Int} {rm : MM}
  (hd : 15 ≤ d) (R : Rp S m0) (f0 : q_is 2 v0 4) (f1 : q_is 0 v1 p1) (f2 : q_is 2 v2 162)
  (h : fm_L_pass p1 m0 = some (rz, rm)) : Mt xs d 363 [v0, v1, v2] S (Cr 0 m0 rm rz) := by
  obtain ⟨d, rfl⟩ : ∃ e, d = e + 1 := ⟨d - 1, by omega⟩
  have hd : 14 ≤ d := Nat.le_of_succ_le_succ hd
  refine Mt.of (M := qM_L_pass) rfl (by rw [sl_1 (q_is_cat f0 (Or.inr rfl)), sl_1 (q_is_cat f1 (Or.inl rfl)), sl_1 (q_is_cat f2 (Or.inr rfl)), sl_0]; decide) ?_
  rw [la_1 (q_is_cat f0 (Or.inr rfl)), la_1 (q_is_cat f1 (Or.inl rfl)), la_1 (q_is_cat f2 (Or.inr rfl)), la_0]
  obtain ⟨L, hL⟩ : ∃ L : QL, L = [(0, v0), (0 + 1, v1), (0 + 1 + 1, v2)] := ⟨_, rfl⟩
  rw [← hL]
  have l0 : q_lo L 0 = some v0 := by rw [hL]; rfl
  have l1 : q_lo L 1 = some v1 := by rw [hL]; rfl
  have l2 : q_lo L 2 = some v2 := by rw [hL]; rfl
  have hQ : Ext m0 rm → ∀ o S1, Rp S1 rm → q_out 0 o rz → (Cr 0 m0 rm rz) o S1 := fun a o S1 b e => ⟨b, a, e⟩
  unfold fm_L_pass at h
  refine go_aload_n (n := 2) (by decide +kernel) l2 f2 ?_
  refine go_iconst (n := 0) (z := 0) (by decide +kernel) (by decide) fun v_1 f_2 => ?_
  refine go_aload_n (n := 0) (by decide +kernel) l0 f0 ?_
  refine go_iload_n (n := 1) (by decide +kernel) l1 f1 ?_
  obtain ⟨rr5, m_5, hc_3, h⟩ := bx_s h
  rcases h with ⟨q_12, rfl, h⟩ | ⟨x_4, rfl, h⟩
  · refine go_callV (x := 93) (mi := 124) (n := 1) (ci := 12) (as := [v1]) (rest := [v_1, v2]) (by decide +kernel) (by decide +kernel) rfl rfl (q_sum8 _ (Nat.le_of_ble_eq_true rfl)) R f0 (fx_k (c := 12) R (by decide +kernel)) (om_X11_pass (Nat.le_trans (by decide) hd) R f0 f1 hc_3) (fun _ _ qq => kx_lx qq) (fun _ _ qq => ?_)
    obtain ⟨rfl, Rq, Eq⟩ := kx_e qq
    by_cases hp_14 : q_12 = 1
    · have h := it_t hp_14 h
      subst hp_14
      refine Or.inr ⟨by decide, _, _, q_hand_k (n := 3) (h := (0, 9, 12, 15)) (by decide +kernel) (by decide +kernel) (by decide), ?_⟩
      refine go_iconst (n := 1) (z := 1) (by decide +kernel) (by decide) fun v_19 f_20 => ?_
      cases h
      exact go_iret (by decide +kernel) rfl (Or.inl rfl) f_20 (hQ Eq _ _ Rq (q_out_v (by decide) f_20))
    have h := it_f hp_14 h
    cases h
  refine go_callV (x := 93) (mi := 124) (n := 1) (ci := 12) (as := [v1]) (rest := [v_1, v2]) (by decide +kernel) (by decide +kernel) rfl rfl (q_sum8 _ (Nat.le_of_ble_eq_true rfl)) R f0 (fx_k (c := 12) R (by decide +kernel)) (om_X11_pass (Nat.le_trans (by decide) hd) R f0 f1 hc_3) (fun _ S_8 q_11 => ?_) (fun _ _ qq => kr_x (kx_l qq))
  have q_11 := kx_l q_11
  refine kr_z (by decide) q_11 fun v_6 f_7 R_9 E_10 => ?_
  have E_23 := E_10
  refine go_i2l (by decide +kernel) f_7 fun v_24 f_25 => ?_
  obtain ⟨m_26, e_27, h⟩ := up_s h
  refine go_last (kd := 101) (by decide +kernel) rfl R_9 f2 f_2 f_25 (fx_k (c := 101) R_9 (by decide +kernel)) (fx_x (a := 162) (ln := 1) R_9 (by decide +kernel) (by decide)) e_27 (fx_a R_9.2 (fx_k (c := 101) R_9 (by decide +kernel)) (And.left (fx_x (a := 162) (ln := 1) R_9 (by decide +kernel) (by decide))) (by decide +kernel)) fun S_28 R_29 E_30 => ?_
  have E_32 := Ext.tr E_23 E_30
  refine go_goto (o := 6) (t := 15) (by decide +kernel) (by decide +kernel) ?_
  refine go_iconst (n := 0) (z := 0) (by decide +kernel) (by decide) fun v_33 f_34 => ?_
  cases h
  exact go_iret (by decide +kernel) rfl (Or.inl rfl) f_34 (hQ E_32 _ _ R_29 (q_out_v (by decide) f_34))
noncomputable def fm_L_unsafe (p1 p2 : Int) (m0 : MM) : Option (Int × MM) := bx (fm_X11_unsafe p1 p2 m0) (fun q_12 m_5 =>
if q_12 = 0 then
some (1, m_5)
else none) fun x_4 m_5 =>
up m_5 162 0 x_4 fun m_26 =>
some (0, m_26)
set_option maxHeartbeats 4000000 in
theorem om_L_unsafe {xs : List Int32} {d : Nat} {S : QS} {m0 : MM} {p1 p2 : Int} {v0 : Value} {v1 : Value} {v2 : Value} {v3 : Value} {rz : Int} {rm : MM}
  (hd : 9 ≤ d) (R : Rp S m0) (f0 : q_is 2 v0 4) (f1 : q_is 0 v1 p1) (f2 : q_is 0 v2 p2) (f3 : q_is 2 v3 162)
  (h : fm_L_unsafe p1 p2 m0 = some (rz, rm)) : Mt xs d 364 [v0, v1, v2, v3] S (Cr 0 m0 rm rz) := by
  obtain ⟨d, rfl⟩ : ∃ e, d = e + 1 := ⟨d - 1, by omega⟩
  have hd : 8 ≤ d := Nat.le_of_succ_le_succ hd
  refine Mt.of (M := qM_L_unsafe) rfl (by rw [sl_1 (q_is_cat f0 (Or.inr rfl)), sl_1 (q_is_cat f1 (Or.inl rfl)), sl_1 (q_is_cat f2 (Or.inl rfl)), sl_1 (q_is_cat f3 (Or.inr rfl)), sl_0]; decide) ?_
  rw [la_1 (q_is_cat f0 (Or.inr rfl)), la_1 (q_is_cat f1 (Or.inl rfl)), la_1 (q_is_cat f2 (Or.inl rfl)), la_1 (q_is_cat f3 (Or.inr rfl)), la_0]
  obtain ⟨L, hL⟩ : ∃ L : QL, L = [(0, v0), (0 + 1, v1), (0 + 1 + 1, v2), (0 + 1 + 1 + 1, v3)] := ⟨_, rfl⟩
  rw [← hL]
  have l0 : q_lo L 0 = some v0 := by rw [hL]; rfl
  have l1 : q_lo L 1 = some v1 := by rw [hL]; rfl
  have l2 : q_lo L 2 = some v2 := by rw [hL]; rfl
  have l3 : q_lo L 3 = some v3 := by rw [hL]; rfl
  have hQ : Ext m0 rm → ∀ o S1, Rp S1 rm → q_out 0 o rz → (Cr 0 m0 rm rz) o S1 := fun a o S1 b e => ⟨b, a, e⟩
  unfold fm_L_unsafe at h
  refine go_aload_n (n := 3) (by decide +kernel) l3 f3 ?_
  refine go_iconst (n := 0) (z := 0) (by decide +kernel) (by decide) fun v_1 f_2 => ?_
  refine go_aload_n (n := 0) (by decide +kernel) l0 f0 ?_
  refine go_iload_n (n := 1) (by decide +kernel) l1 f1 ?_
  refine go_iload_n (n := 2) (by decide +kernel) l2 f2 ?_
  obtain ⟨rr5, m_5, hc_3, h⟩ := bx_s h
  rcases h with ⟨q_12, rfl, h⟩ | ⟨x_4, rfl, h⟩
  · refine go_callV (x := 96) (mi := 125) (n := 2) (ci := 12) (as := [v1, v2]) (rest := [v_1, v3]) (by decide +kernel) (by decide +kernel) rfl rfl (q_sum8 _ (Nat.le_of_ble_eq_true rfl)) R f0 (fx_k (c := 12) R (by decide +kernel)) (om_X11_unsafe (Nat.le_trans (by decide) hd) R f0 f1 f2 hc_3) (fun _ _ qq => kx_lx qq) (fun _ _ qq => ?_)
    obtain ⟨rfl, Rq, Eq⟩ := kx_e qq
    by_cases hp_14 : q_12 = 0
    · have h := it_t hp_14 h
      subst hp_14
      refine Or.inr ⟨by decide, _, _, q_hand_n (n := 4) (h := (0, 10, 13, 13)) (by decide +kernel) (by decide +kernel) (by decide), ?_⟩
      refine go_iconst (n := 1) (z := 1) (by decide +kernel) (by decide) fun v_19 f_20 => ?_
      cases h
      exact go_iret (by decide +kernel) rfl (Or.inl rfl) f_20 (hQ Eq _ _ Rq (q_out_v (by decide) f_20))
    have h := it_f hp_14 h
    cases h
  refine go_callV (x := 96) (mi := 125) (n := 2) (ci := 12) (as := [v1, v2]) (rest := [v_1, v3]) (by decide +kernel) (by decide +kernel) rfl rfl (q_sum8 _ (Nat.le_of_ble_eq_true rfl)) R f0 (fx_k (c := 12) R (by decide +kernel)) (om_X11_unsafe (Nat.le_trans (by decide) hd) R f0 f1 f2 hc_3) (fun _ S_8 q_11 => ?_) (fun _ _ qq => kr_x (kx_l qq))
  have q_11 := kx_l q_11
  refine kr_z (by decide) q_11 fun v_6 f_7 R_9 E_10 => ?_
  have E_23 := E_10
  refine go_i2l (by decide +kernel) f_7 fun v_24 f_25 => ?_
  obtain ⟨m_26, e_27, h⟩ := up_s h
  refine go_last (kd := 101) (by decide +kernel) rfl R_9 f3 f_2 f_25 (fx_k (c := 101) R_9 (by decide +kernel)) (fx_x (a := 162) (ln := 1) R_9 (by decide +kernel) (by decide)) e_27 (fx_a R_9.2 (fx_k (c := 101) R_9 (by decide +kernel)) (And.left (fx_x (a := 162) (ln := 1) R_9 (by decide +kernel) (by decide))) (by decide +kernel)) fun S_28 R_29 E_30 => ?_
  have E_32 := Ext.tr E_23 E_30
  refine go_goto (o := 7) (t := 17) (by decide +kernel) (by decide +kernel) ?_
  refine go_iconst (n := 0) (z := 0) (by decide +kernel) (by decide) fun v_33 f_34 => ?_
  cases h
  exact go_iret (by decide +kernel) rfl (Or.inl rfl) f_34 (hQ E_32 _ _ R_29 (q_out_v (by decide) f_34))
noncomputable def fm_L_move (p1 p2 : Int) (m0 : MM) : Option (Int × MM) := bx (fm_X11_move p1 p2 m0) (fun q_12 m_5 =>
if q_12 = 0 then
some (1, m_5)
else if q_12 = 2 then
some (2, m_5)
else none) fun x_4 m_5 =>
if x_4 = 0 then
up m_5 162 0 0 fun m_34 =>
some (0, m_34)
else
up m_5 162 0 1 fun m_45 =>
some (0, m_45)
set_option maxHeartbeats 4000000 in
theorem om_L_move {xs : List Int32} {d : Nat} {S : QS} {m0 : MM} {p1 p2 : Int} {v0 : Value} {v1 : Value} {v2 : Value} {v3 : Value} {rz : Int} {rm : MM}
  (hd : 9 ≤ d) (R : Rp S m0) (f0 : q_is 2 v0 4) (f1 : q_is 0 v1 p1) (f2 : q_is 0 v2 p2) (f3 : q_is 2 v3 162)
  (h : fm_L_move p1 p2 m0 = some (rz, rm)) : Mt xs d 365 [v0, v1, v2, v3] S (Cr 0 m0 rm rz) := by
  obtain ⟨d, rfl⟩ : ∃ e, d = e + 1 := ⟨d - 1, by omega⟩
  have hd : 8 ≤ d := Nat.le_of_succ_le_succ hd
  refine Mt.of (M := qM_L_move) rfl (by rw [sl_1 (q_is_cat f0 (Or.inr rfl)), sl_1 (q_is_cat f1 (Or.inl rfl)), sl_1 (q_is_cat f2 (Or.inl rfl)), sl_1 (q_is_cat f3 (Or.inr rfl)), sl_0]; decide) ?_
  rw [la_1 (q_is_cat f0 (Or.inr rfl)), la_1 (q_is_cat f1 (Or.inl rfl)), la_1 (q_is_cat f2 (Or.inl rfl)), la_1 (q_is_cat f3 (Or.inr rfl)), la_0]
  obtain ⟨L, hL⟩ : ∃ L : QL, L = [(0, v0), (0 + 1, v1), (0 + 1 + 1, v2), (0 + 1 + 1 + 1, v3)] := ⟨_, rfl⟩
  rw [← hL]
  have l0 : q_lo L 0 = some v0 := by rw [hL]; rfl
  have l1 : q_lo L 1 = some v1 := by rw [hL]; rfl
  have l2 : q_lo L 2 = some v2 := by rw [hL]; rfl
  have l3 : q_lo L 3 = some v3 := by rw [hL]; rfl
  have hQ : Ext m0 rm → ∀ o S1, Rp S1 rm → q_out 0 o rz → (Cr 0 m0 rm rz) o S1 := fun a o S1 b e => ⟨b, a, e⟩
  unfold fm_L_move at h
  refine go_aload_n (n := 3) (by decide +kernel) l3 f3 ?_
  refine go_iconst (n := 0) (z := 0) (by decide +kernel) (by decide) fun v_1 f_2 => ?_
  refine go_aload_n (n := 0) (by decide +kernel) l0 f0 ?_
  refine go_iload_n (n := 1) (by decide +kernel) l1 f1 ?_
  refine go_iload_n (n := 2) (by decide +kernel) l2 f2 ?_
  obtain ⟨rr5, m_5, hc_3, h⟩ := bx_s h
  rcases h with ⟨q_12, rfl, h⟩ | ⟨x_4, rfl, h⟩
  · refine go_callV (x := 99) (mi := 126) (n := 2) (ci := 12) (as := [v1, v2]) (rest := [v_1, v3]) (by decide +kernel) (by decide +kernel) rfl rfl (q_sum8 _ (Nat.le_of_ble_eq_true rfl)) R f0 (fx_k (c := 12) R (by decide +kernel)) (om_X11_move (Nat.le_trans (by decide) hd) R f0 f1 f2 hc_3) (fun _ _ qq => kx_lx qq) (fun _ _ qq => ?_)
    obtain ⟨rfl, Rq, Eq⟩ := kx_e qq
    by_cases hp_14 : q_12 = 0
    · have h := it_t hp_14 h
      subst hp_14
      refine Or.inr ⟨by decide, _, _, q_hand_n (n := 4) (h := (0, 17, 20, 13)) (by decide +kernel) (by decide +kernel) (by decide), ?_⟩
      refine go_iconst (n := 1) (z := 1) (by decide +kernel) (by decide) fun v_19 f_20 => ?_
      cases h
      exact go_iret (by decide +kernel) rfl (Or.inl rfl) f_20 (hQ Eq _ _ Rq (q_out_v (by decide) f_20))
    have h := it_f hp_14 h
    by_cases hp_21 : q_12 = 2
    · have h := it_t hp_21 h
      subst hp_21
      refine Or.inr ⟨by decide, _, _, q_hand_n (n := 4) (h := (0, 17, 24, 17)) (by decide +kernel) (by decide +kernel) (by decide), ?_⟩
      refine go_iconst (n := 2) (z := 2) (by decide +kernel) (by decide) fun v_26 f_27 => ?_
      cases h
      exact go_iret (by decide +kernel) rfl (Or.inl rfl) f_27 (hQ Eq _ _ Rq (q_out_v (by decide) f_27))
    have h := it_f hp_21 h
    cases h
  refine go_callV (x := 99) (mi := 126) (n := 2) (ci := 12) (as := [v1, v2]) (rest := [v_1, v3]) (by decide +kernel) (by decide +kernel) rfl rfl (q_sum8 _ (Nat.le_of_ble_eq_true rfl)) R f0 (fx_k (c := 12) R (by decide +kernel)) (om_X11_move (Nat.le_trans (by decide) hd) R f0 f1 f2 hc_3) (fun _ S_8 q_11 => ?_) (fun _ _ qq => kr_x (kx_l qq))
  have q_11 := kx_l q_11
  refine kr_z (by decide) q_11 fun v_6 f_7 R_9 E_10 => ?_
  have E_30 := E_10
  refine go_if (c := .eq) (o := 7) (t := 15) (P := x_4 = 0) (by decide +kernel) (by decide +kernel) f_7 (Iff.rfl) (fun hp_31 => ?_) (fun hp_31 => ?_)
  · have h := it_t hp_31 h
    refine go_lconst (n := 0) (z := 0) (by decide +kernel) (by decide) fun v_32 f_33 => ?_
    obtain ⟨m_34, e_35, h⟩ := up_s h
    refine go_last (kd := 101) (by decide +kernel) rfl R_9 f3 f_2 f_33 (fx_k (c := 101) R_9 (by decide +kernel)) (fx_x (a := 162) (ln := 1) R_9 (by decide +kernel) (by decide)) e_35 (fx_a R_9.2 (fx_k (c := 101) R_9 (by decide +kernel)) (And.left (fx_x (a := 162) (ln := 1) R_9 (by decide +kernel) (by decide))) (by decide +kernel)) fun S_36 R_37 E_38 => ?_
    have E_40 := Ext.tr E_30 E_38
    refine go_goto (o := 11) (t := 28) (by decide +kernel) (by decide +kernel) ?_
    refine go_iconst (n := 0) (z := 0) (by decide +kernel) (by decide) fun v_41 f_42 => ?_
    cases h
    exact go_iret (by decide +kernel) rfl (Or.inl rfl) f_42 (hQ E_40 _ _ R_37 (q_out_v (by decide) f_42))
  · have h := it_f hp_31 h
    refine go_lconst (n := 1) (z := 1) (by decide +kernel) (by decide) fun v_43 f_44 => ?_
    refine go_goto (o := 4) (t := 16) (by decide +kernel) (by decide +kernel) ?_
    obtain ⟨m_45, e_46, h⟩ := up_s h
    refine go_last (kd := 101) (by decide +kernel) rfl R_9 f3 f_2 f_44 (fx_k (c := 101) R_9 (by decide +kernel)) (fx_x (a := 162) (ln := 1) R_9 (by decide +kernel) (by decide)) e_46 (fx_a R_9.2 (fx_k (c := 101) R_9 (by decide +kernel)) (And.left (fx_x (a := 162) (ln := 1) R_9 (by decide +kernel) (by decide))) (by decide +kernel)) fun S_47 R_48 E_49 => ?_
    have E_51 := Ext.tr E_30 E_49
    refine go_goto (o := 11) (t := 28) (by decide +kernel) (by decide +kernel) ?_
    refine go_iconst (n := 0) (z := 0) (by decide +kernel) (by decide) fun v_52 f_53 => ?_
    cases h
    exact go_iret (by decide +kernel) rfl (Or.inl rfl) f_53 (hQ E_51 _ _ R_48 (q_out_v (by decide) f_53))
noncomputable def fm_L_setBack (p1 p2 : Int) (m0 : MM) : Option (Int × MM) := bx (fm_X11_setBack p1 p2 m0) (fun q_12 m_5 =>
if q_12 = 0 then
some (1, m_5)
else if q_12 = 2 then
some (2, m_5)
else none) fun x_4 m_5 =>
up m_5 162 0 x_4 fun m_33 =>
some (0, m_33)
set_option maxHeartbeats 4000000 in
theorem om_L_setBack {xs : List Int32} {d : Nat} {S : QS} {m0 : MM} {p1 p2 : Int} {v0 : Value} {v1 : Value} {v2 : Value} {v3 : Value} {rz : Int} {rm : MM}
  (hd : 12 ≤ d) (R : Rp S m0) (f0 : q_is 2 v0 4) (f1 : q_is 0 v1 p1) (f2 : q_is 0 v2 p2) (f3 : q_is 2 v3 162)
  (h : fm_L_setBack p1 p2 m0 = some (rz, rm)) : Mt xs d 366 [v0, v1, v2, v3] S (Cr 0 m0 rm rz) := by
  obtain ⟨d, rfl⟩ : ∃ e, d = e + 1 := ⟨d - 1, by omega⟩
  have hd : 11 ≤ d := Nat.le_of_succ_le_succ hd
  refine Mt.of (M := qM_L_setBack) rfl (by rw [sl_1 (q_is_cat f0 (Or.inr rfl)), sl_1 (q_is_cat f1 (Or.inl rfl)), sl_1 (q_is_cat f2 (Or.inl rfl)), sl_1 (q_is_cat f3 (Or.inr rfl)), sl_0]; decide) ?_
  rw [la_1 (q_is_cat f0 (Or.inr rfl)), la_1 (q_is_cat f1 (Or.inl rfl)), la_1 (q_is_cat f2 (Or.inl rfl)), la_1 (q_is_cat f3 (Or.inr rfl)), la_0]
  obtain ⟨L, hL⟩ : ∃ L : QL, L = [(0, v0), (0 + 1, v1), (0 + 1 + 1, v2), (0 + 1 + 1 + 1, v3)] := ⟨_, rfl⟩
  rw [← hL]
  have l0 : q_lo L 0 = some v0 := by rw [hL]; rfl
  have l1 : q_lo L 1 = some v1 := by rw [hL]; rfl
  have l2 : q_lo L 2 = some v2 := by rw [hL]; rfl
  have l3 : q_lo L 3 = some v3 := by rw [hL]; rfl
  have hQ : Ext m0 rm → ∀ o S1, Rp S1 rm → q_out 0 o rz → (Cr 0 m0 rm rz) o S1 := fun a o S1 b e => ⟨b, a, e⟩
  unfold fm_L_setBack at h
  refine go_aload_n (n := 3) (by decide +kernel) l3 f3 ?_
  refine go_iconst (n := 0) (z := 0) (by decide +kernel) (by decide) fun v_1 f_2 => ?_
  refine go_aload_n (n := 0) (by decide +kernel) l0 f0 ?_
  refine go_iload_n (n := 1) (by decide +kernel) l1 f1 ?_
  refine go_iload_n (n := 2) (by decide +kernel) l2 f2 ?_
  obtain ⟨rr5, m_5, hc_3, h⟩ := bx_s h
  rcases h with ⟨q_12, rfl, h⟩ | ⟨x_4, rfl, h⟩
  · refine go_callV (x := 102) (mi := 127) (n := 2) (ci := 12) (as := [v1, v2]) (rest := [v_1, v3]) (by decide +kernel) (by decide +kernel) rfl rfl (q_sum8 _ (Nat.le_of_ble_eq_true rfl)) R f0 (fx_k (c := 12) R (by decide +kernel)) (om_X11_setBack (Nat.le_trans (by decide) hd) R f0 f1 f2 hc_3) (fun _ _ qq => kx_lx qq) (fun _ _ qq => ?_)
    obtain ⟨rfl, Rq, Eq⟩ := kx_e qq
    by_cases hp_14 : q_12 = 0
    · have h := it_t hp_14 h
      subst hp_14
      refine Or.inr ⟨by decide, _, _, q_hand_n (n := 4) (h := (0, 10, 13, 13)) (by decide +kernel) (by decide +kernel) (by decide), ?_⟩
      refine go_iconst (n := 1) (z := 1) (by decide +kernel) (by decide) fun v_19 f_20 => ?_
      cases h
      exact go_iret (by decide +kernel) rfl (Or.inl rfl) f_20 (hQ Eq _ _ Rq (q_out_v (by decide) f_20))
    have h := it_f hp_14 h
    by_cases hp_21 : q_12 = 2
    · have h := it_t hp_21 h
      subst hp_21
      refine Or.inr ⟨by decide, _, _, q_hand_n (n := 4) (h := (0, 10, 17, 17)) (by decide +kernel) (by decide +kernel) (by decide), ?_⟩
      refine go_iconst (n := 2) (z := 2) (by decide +kernel) (by decide) fun v_26 f_27 => ?_
      cases h
      exact go_iret (by decide +kernel) rfl (Or.inl rfl) f_27 (hQ Eq _ _ Rq (q_out_v (by decide) f_27))
    have h := it_f hp_21 h
    cases h
  refine go_callV (x := 102) (mi := 127) (n := 2) (ci := 12) (as := [v1, v2]) (rest := [v_1, v3]) (by decide +kernel) (by decide +kernel) rfl rfl (q_sum8 _ (Nat.le_of_ble_eq_true rfl)) R f0 (fx_k (c := 12) R (by decide +kernel)) (om_X11_setBack (Nat.le_trans (by decide) hd) R f0 f1 f2 hc_3) (fun _ S_8 q_11 => ?_) (fun _ _ qq => kr_x (kx_l qq))
  have q_11 := kx_l q_11
  refine kr_z (by decide) q_11 fun v_6 f_7 R_9 E_10 => ?_
  have E_30 := E_10
  refine go_i2l (by decide +kernel) f_7 fun v_31 f_32 => ?_
  obtain ⟨m_33, e_34, h⟩ := up_s h
  refine go_last (kd := 101) (by decide +kernel) rfl R_9 f3 f_2 f_32 (fx_k (c := 101) R_9 (by decide +kernel)) (fx_x (a := 162) (ln := 1) R_9 (by decide +kernel) (by decide)) e_34 (fx_a R_9.2 (fx_k (c := 101) R_9 (by decide +kernel)) (And.left (fx_x (a := 162) (ln := 1) R_9 (by decide +kernel) (by decide))) (by decide +kernel)) fun S_35 R_36 E_37 => ?_
  have E_39 := Ext.tr E_30 E_37
  refine go_goto (o := 11) (t := 21) (by decide +kernel) (by decide +kernel) ?_
  refine go_iconst (n := 0) (z := 0) (by decide +kernel) (by decide) fun v_40 f_41 => ?_
  cases h
  exact go_iret (by decide +kernel) rfl (Or.inl rfl) f_41 (hQ E_39 _ _ R_36 (q_out_v (by decide) f_41))
noncomputable def fm_L_copy (p1 p2 : Int) (m0 : MM) : Option (Int × MM) := bx (fm_X11_copy p1 p2 m0) (fun q_12 m_5 =>
if q_12 = 0 then
some (1, m_5)
else if q_12 = 1 then
some (2, m_5)
else none) fun x_4 m_5 =>
up m_5 162 0 x_4 fun m_33 =>
some (0, m_33)
set_option maxHeartbeats 4000000 in
theorem om_L_copy {xs : List Int32} {d : Nat} {S : QS} {m0 : MM} {p1 p2 : Int} {v0 : Value} {v1 : Value} {v2 : Value} {v3 : Value} {rz : Int} {rm : MM}
  (hd : 6 ≤ d) (R : Rp S m0) (f0 : q_is 2 v0 4) (f1 : q_is 0 v1 p1) (f2 : q_is 0 v2 p2) (f3 : q_is 2 v3 162)
  (h : fm_L_copy p1 p2 m0 = some (rz, rm)) : Mt xs d 367 [v0, v1, v2, v3] S (Cr 0 m0 rm rz) := by
  obtain ⟨d, rfl⟩ : ∃ e, d = e + 1 := ⟨d - 1, by omega⟩
  have hd : 5 ≤ d := Nat.le_of_succ_le_succ hd
  refine Mt.of (M := qM_L_copy) rfl (by rw [sl_1 (q_is_cat f0 (Or.inr rfl)), sl_1 (q_is_cat f1 (Or.inl rfl)), sl_1 (q_is_cat f2 (Or.inl rfl)), sl_1 (q_is_cat f3 (Or.inr rfl)), sl_0]; decide) ?_
  rw [la_1 (q_is_cat f0 (Or.inr rfl)), la_1 (q_is_cat f1 (Or.inl rfl)), la_1 (q_is_cat f2 (Or.inl rfl)), la_1 (q_is_cat f3 (Or.inr rfl)), la_0]
  obtain ⟨L, hL⟩ : ∃ L : QL, L = [(0, v0), (0 + 1, v1), (0 + 1 + 1, v2), (0 + 1 + 1 + 1, v3)] := ⟨_, rfl⟩
  rw [← hL]
  have l0 : q_lo L 0 = some v0 := by rw [hL]; rfl
  have l1 : q_lo L 1 = some v1 := by rw [hL]; rfl
  have l2 : q_lo L 2 = some v2 := by rw [hL]; rfl
  have l3 : q_lo L 3 = some v3 := by rw [hL]; rfl
  have hQ : Ext m0 rm → ∀ o S1, Rp S1 rm → q_out 0 o rz → (Cr 0 m0 rm rz) o S1 := fun a o S1 b e => ⟨b, a, e⟩
  unfold fm_L_copy at h
  refine go_aload_n (n := 3) (by decide +kernel) l3 f3 ?_
  refine go_iconst (n := 0) (z := 0) (by decide +kernel) (by decide) fun v_1 f_2 => ?_
  refine go_aload_n (n := 0) (by decide +kernel) l0 f0 ?_
  refine go_iload_n (n := 1) (by decide +kernel) l1 f1 ?_
  refine go_iload_n (n := 2) (by decide +kernel) l2 f2 ?_
  obtain ⟨rr5, m_5, hc_3, h⟩ := bx_s h
  rcases h with ⟨q_12, rfl, h⟩ | ⟨x_4, rfl, h⟩
  · refine go_callV (x := 105) (mi := 128) (n := 2) (ci := 12) (as := [v1, v2]) (rest := [v_1, v3]) (by decide +kernel) (by decide +kernel) rfl rfl (q_sum8 _ (Nat.le_of_ble_eq_true rfl)) R f0 (fx_k (c := 12) R (by decide +kernel)) (om_X11_copy (Nat.le_trans (by decide) hd) R f0 f1 f2 hc_3) (fun _ _ qq => kx_lx qq) (fun _ _ qq => ?_)
    obtain ⟨rfl, Rq, Eq⟩ := kx_e qq
    by_cases hp_14 : q_12 = 0
    · have h := it_t hp_14 h
      subst hp_14
      refine Or.inr ⟨by decide, _, _, q_hand_n (n := 4) (h := (0, 10, 13, 13)) (by decide +kernel) (by decide +kernel) (by decide), ?_⟩
      refine go_iconst (n := 1) (z := 1) (by decide +kernel) (by decide) fun v_19 f_20 => ?_
      cases h
      exact go_iret (by decide +kernel) rfl (Or.inl rfl) f_20 (hQ Eq _ _ Rq (q_out_v (by decide) f_20))
    have h := it_f hp_14 h
    by_cases hp_21 : q_12 = 1
    · have h := it_t hp_21 h
      subst hp_21
      refine Or.inr ⟨by decide, _, _, q_hand_n (n := 4) (h := (0, 10, 17, 15)) (by decide +kernel) (by decide +kernel) (by decide), ?_⟩
      refine go_iconst (n := 2) (z := 2) (by decide +kernel) (by decide) fun v_26 f_27 => ?_
      cases h
      exact go_iret (by decide +kernel) rfl (Or.inl rfl) f_27 (hQ Eq _ _ Rq (q_out_v (by decide) f_27))
    have h := it_f hp_21 h
    cases h
  refine go_callV (x := 105) (mi := 128) (n := 2) (ci := 12) (as := [v1, v2]) (rest := [v_1, v3]) (by decide +kernel) (by decide +kernel) rfl rfl (q_sum8 _ (Nat.le_of_ble_eq_true rfl)) R f0 (fx_k (c := 12) R (by decide +kernel)) (om_X11_copy (Nat.le_trans (by decide) hd) R f0 f1 f2 hc_3) (fun _ S_8 q_11 => ?_) (fun _ _ qq => kr_x (kx_l qq))
  have q_11 := kx_l q_11
  refine kr_z (by decide) q_11 fun v_6 f_7 R_9 E_10 => ?_
  have E_30 := E_10
  refine go_i2l (by decide +kernel) f_7 fun v_31 f_32 => ?_
  obtain ⟨m_33, e_34, h⟩ := up_s h
  refine go_last (kd := 101) (by decide +kernel) rfl R_9 f3 f_2 f_32 (fx_k (c := 101) R_9 (by decide +kernel)) (fx_x (a := 162) (ln := 1) R_9 (by decide +kernel) (by decide)) e_34 (fx_a R_9.2 (fx_k (c := 101) R_9 (by decide +kernel)) (And.left (fx_x (a := 162) (ln := 1) R_9 (by decide +kernel) (by decide))) (by decide +kernel)) fun S_35 R_36 E_37 => ?_
  have E_39 := Ext.tr E_30 E_37
  refine go_goto (o := 11) (t := 21) (by decide +kernel) (by decide +kernel) ?_
  refine go_iconst (n := 0) (z := 0) (by decide +kernel) (by decide) fun v_40 f_41 => ?_
  cases h
  exact go_iret (by decide +kernel) rfl (Or.inl rfl) f_41 (hQ E_39 _ _ R_36 (q_out_v (by decide) f_41))
noncomputable def fm_L_takeOver (m0 : MM) : Option (Int × MM) := bx (fm_X11_takeOver m0) (fun q_12 m_5 =>
if q_12 = 2 then
some (1, m_5)
else none) fun x_4 m_5 =>
up m_5 162 0 x_4 fun m_26 =>
some (0, m_26)
set_option maxHeartbeats 4000000 in
theorem om_L_takeOver {xs : List Int32} {d : Nat} {S : QS} {m0 : MM} {v0 : Value} {v1 : Value} {rz : Int} {rm : MM}
  (hd : 152 ≤ d) (R : Rp S m0) (f0 : q_is 2 v0 4) (f1 : q_is 2 v1 162)
  (h : fm_L_takeOver m0 = some (rz, rm)) : Mt xs d 368 [v0, v1] S (Cr 0 m0 rm rz) := by
  obtain ⟨d, rfl⟩ : ∃ e, d = e + 1 := ⟨d - 1, by omega⟩
  have hd : 151 ≤ d := Nat.le_of_succ_le_succ hd
  refine Mt.of (M := qM_L_takeOver) rfl (by rw [sl_1 (q_is_cat f0 (Or.inr rfl)), sl_1 (q_is_cat f1 (Or.inr rfl)), sl_0]; decide) ?_
  rw [la_1 (q_is_cat f0 (Or.inr rfl)), la_1 (q_is_cat f1 (Or.inr rfl)), la_0]
  obtain ⟨L, hL⟩ : ∃ L : QL, L = [(0, v0), (0 + 1, v1)] := ⟨_, rfl⟩
  rw [← hL]
  have l0 : q_lo L 0 = some v0 := by rw [hL]; rfl
  have l1 : q_lo L 1 = some v1 := by rw [hL]; rfl
  have hQ : Ext m0 rm → ∀ o S1, Rp S1 rm → q_out 0 o rz → (Cr 0 m0 rm rz) o S1 := fun a o S1 b e => ⟨b, a, e⟩
  unfold fm_L_takeOver at h
  refine go_aload_n (n := 1) (by decide +kernel) l1 f1 ?_
  refine go_iconst (n := 0) (z := 0) (by decide +kernel) (by decide) fun v_1 f_2 => ?_
  refine go_aload_n (n := 0) (by decide +kernel) l0 f0 ?_
  obtain ⟨rr5, m_5, hc_3, h⟩ := bx_s h
  rcases h with ⟨q_12, rfl, h⟩ | ⟨x_4, rfl, h⟩
  · refine go_callV (x := 108) (mi := 129) (n := 0) (ci := 12) (as := []) (rest := [v_1, v1]) (by decide +kernel) (by decide +kernel) rfl rfl (q_sum8 _ (Nat.le_of_ble_eq_true rfl)) R f0 (fx_k (c := 12) R (by decide +kernel)) (om_X11_takeOver (Nat.le_trans (by decide) hd) R f0 hc_3) (fun _ _ qq => kx_lx qq) (fun _ _ qq => ?_)
    obtain ⟨rfl, Rq, Eq⟩ := kx_e qq
    by_cases hp_14 : q_12 = 2
    · have h := it_t hp_14 h
      subst hp_14
      refine Or.inr ⟨by decide, _, _, q_hand_k (n := 2) (h := (0, 8, 11, 17)) (by decide +kernel) (by decide +kernel) (by decide), ?_⟩
      refine go_iconst (n := 1) (z := 1) (by decide +kernel) (by decide) fun v_19 f_20 => ?_
      cases h
      exact go_iret (by decide +kernel) rfl (Or.inl rfl) f_20 (hQ Eq _ _ Rq (q_out_v (by decide) f_20))
    have h := it_f hp_14 h
    cases h
  refine go_callV (x := 108) (mi := 129) (n := 0) (ci := 12) (as := []) (rest := [v_1, v1]) (by decide +kernel) (by decide +kernel) rfl rfl (q_sum8 _ (Nat.le_of_ble_eq_true rfl)) R f0 (fx_k (c := 12) R (by decide +kernel)) (om_X11_takeOver (Nat.le_trans (by decide) hd) R f0 hc_3) (fun _ S_8 q_11 => ?_) (fun _ _ qq => kr_x (kx_l qq))
  have q_11 := kx_l q_11
  refine kr_z (by decide) q_11 fun v_6 f_7 R_9 E_10 => ?_
  have E_23 := E_10
  refine go_i2l (by decide +kernel) f_7 fun v_24 f_25 => ?_
  obtain ⟨m_26, e_27, h⟩ := up_s h
  refine go_last (kd := 101) (by decide +kernel) rfl R_9 f1 f_2 f_25 (fx_k (c := 101) R_9 (by decide +kernel)) (fx_x (a := 162) (ln := 1) R_9 (by decide +kernel) (by decide)) e_27 (fx_a R_9.2 (fx_k (c := 101) R_9 (by decide +kernel)) (And.left (fx_x (a := 162) (ln := 1) R_9 (by decide +kernel) (by decide))) (by decide +kernel)) fun S_28 R_29 E_30 => ?_
  have E_32 := Ext.tr E_23 E_30
  refine go_goto (o := 6) (t := 14) (by decide +kernel) (by decide +kernel) ?_
  refine go_iconst (n := 0) (z := 0) (by decide +kernel) (by decide) fun v_33 f_34 => ?_
  cases h
  exact go_iret (by decide +kernel) rfl (Or.inl rfl) f_34 (hQ E_32 _ _ R_29 (q_out_v (by decide) f_34))
end DF49
