/-! Methods as functions (written by wip/whole/dec.py), 19: X11_activityAt, X11_answer, X11_failAttempt, X11_fail, X11_beat, X11_activity, X11_beginTick, X11_fireTimers, X11_isReached, X11_lookAtActivity. -/
section DF19
noncomputable def fm_X11_activityAt (p1 : Int) (m0 : MM) : Option ((Int ⊕ Nat) × MM) := if p1 < 0 then
some (.inr 0, mthr m0)
else
bp (fm_Jx4a65c_size_8abf5 8 m0) fun x_6 =>
if p1 < x_6 then
bp (fm_Jx4a65c_get_915e3 8 p1 m0) fun x_19 =>
gd (okc m0 x_19 1) <| some (.inl x_19, m0)
else
some (.inr 0, mthr m0)
set_option maxHeartbeats 4000000 in
theorem om_X11_activityAt {xs : List Int32} {d : Nat} {S : QS} {m0 : MM} {p1 : Int} {v0 : Value} {v1 : Value} {rr : Int ⊕ Nat} {rm : MM}
  (hd : 4 ≤ d) (R : Rp S m0) (f0 : q_is 2 v0 4) (f1 : q_is 0 v1 p1)
  (h : fm_X11_activityAt p1 m0 = some (rr, rm)) : Mt xs d 140 [v0, v1] S (Cx 2 m0 rm rr) := by
  obtain ⟨d, rfl⟩ : ∃ e, d = e + 1 := ⟨d - 1, by omega⟩
  have hd : 3 ≤ d := Nat.le_of_succ_le_succ hd
  refine Mt.of (M := qM_X11_activityAt) rfl (by rw [sl_1 (q_is_cat f0 (Or.inr rfl)), sl_1 (q_is_cat f1 (Or.inl rfl)), sl_0]; decide) ?_
  rw [la_1 (q_is_cat f0 (Or.inr rfl)), la_1 (q_is_cat f1 (Or.inl rfl)), la_0]
  obtain ⟨L, hL⟩ : ∃ L : QL, L = [(0, v0), (0 + 1, v1)] := ⟨_, rfl⟩
  rw [← hL]
  have l0 : q_lo L 0 = some v0 := by rw [hL]; rfl
  have l1 : q_lo L 1 = some v1 := by rw [hL]; rfl
  have hQ : Ext m0 rm → ∀ o S1, Rp S1 rm → q_oux 2 o rr → (Cx 2 m0 rm rr) o S1 := fun a o S1 b e => ⟨b, a, e⟩
  unfold fm_X11_activityAt at h
  refine go_iload_n (n := 1) (by decide +kernel) l1 f1 ?_
  refine go_if (c := .lt) (o := 14) (t := 15) (P := p1 < 0) (by decide +kernel) (by decide +kernel) f1 (Iff.rfl) (fun hp_1 => ?_) (fun hp_1 => ?_)
  · have h := it_t hp_1 h
    cases h
    exact go_thr (x := 255) (e := 0) (ic := 259) (b := 0) (by decide +kernel) (by decide +kernel) (by decide +kernel) R rfl fun Sq Rq Eq => hQ Eq _ _ Rq rfl
  · have h := it_f hp_1 h
    refine go_iload_n (n := 1) (by decide +kernel) l1 f1 ?_
    refine go_aload_n (n := 0) (by decide +kernel) l0 f0 ?_
    refine go_getf (x := 28) (ci := 12) (kf := 3) (fin := 1) (t := 2) (by decide +kernel) (by decide +kernel) (by decide +kernel) R f0 (fx_k (c := 12) R (by decide +kernel)) fun v_2 f_3 => ?_
    have f_4 := q_is_eq (b := 8) f_3 (fx_v R (by decide +kernel)).symm
    obtain ⟨x_6, hc_5, h⟩ := bp_s h
    refine go_callV (x := 127) (mi := 326) (n := 0) (ci := 0) (as := []) (rest := [v1]) (by decide +kernel) (by decide +kernel) rfl rfl (q_sum8 _ (Nat.le_of_ble_eq_true rfl)) R f_4 (fx_k (c := 0) R (by decide +kernel)) (om_Jx4a65c_size_8abf5 (Nat.le_trans (by decide) hd) R (fx_k (c := 0) R (by decide +kernel)) f_4 hc_5) (fun _ S_10 q_13 => ?_) (fun _ _ qq => kr_x qq)
    refine kr_z (by decide) q_13 fun v_8 f_9 R_11 E_12 => ?_
    refine go_icmp (c := .lt) (o := 14) (t := 26) (P := p1 < x_6) (by decide +kernel) (by decide +kernel) f1 f_9 (Iff.rfl) (fun hp_14 => ?_) (fun hp_14 => ?_)
    · have h := it_t hp_14 h
      refine go_aload_n (n := 0) (by decide +kernel) l0 f0 ?_
      refine go_getf (x := 28) (ci := 12) (kf := 3) (fin := 1) (t := 2) (by decide +kernel) (by decide +kernel) (by decide +kernel) R_11 f0 (fx_k (c := 12) R_11 (by decide +kernel)) fun v_15 f_16 => ?_
      have f_17 := q_is_eq (b := 8) f_16 (fx_v R_11 (by decide +kernel)).symm
      refine go_iload_n (n := 1) (by decide +kernel) l1 f1 ?_
      obtain ⟨x_19, hc_18, h⟩ := bp_s h
      refine go_callV (x := 305) (mi := 329) (n := 1) (ci := 0) (as := [v1]) (rest := []) (by decide +kernel) (by decide +kernel) rfl rfl (q_sum8 _ (Nat.le_of_ble_eq_true rfl)) R_11 f_17 (fx_k (c := 0) R_11 (by decide +kernel)) (om_Jx4a65c_get_915e3 (Nat.le_trans (by decide) hd) R_11 (fx_k (c := 0) R_11 (by decide +kernel)) f_17 f1 hc_18) (fun _ S_23 q_26 => ?_) (fun _ _ qq => kr_x qq)
      refine kr_z (by decide) q_26 fun v_21 f_22 R_24 E_25 => ?_
      obtain ⟨g_27, h⟩ := gd_s h
      refine go_cast (x := 347) (kd := 1) (a := 0) (b := 0) (by decide +kernel) (by decide +kernel) R_24 f_22 g_27 ?_
      cases h
      exact go_aret (by decide +kernel) rfl rfl f_22 (hQ (Ext.rf _) _ _ R_24 (q_out_v (by decide) f_22))
    · have h := it_f hp_14 h
      cases h
      exact go_thr (x := 255) (e := 0) (ic := 259) (b := 0) (by decide +kernel) (by decide +kernel) (by decide +kernel) R_11 rfl fun Sq Rq Eq => hQ Eq _ _ Rq rfl
noncomputable def fm_X11_answer (p1 p2 : Int) (m0 : MM) : Option ((Int ⊕ Nat) × MM) := bx (fm_X11_activityAt p1 m0) (fun q_10 m_3 => some (.inr q_10, m_3)) fun x_2 m_3 =>
bx (fm_X11_checkValue p2 m_3) (fun q_27 m_20 => some (.inr q_27, m_20)) fun x_19 m_20 =>
gd (okc m_20 x_2 1) <| lx (m_20 x_2 5) fun x_34 =>
if x_34 = 1 then
up m_20 x_2 5 2 fun m_41 =>
lx (m_41 x_2 0) fun x_51 =>
lx (m_41 x_2 1) fun x_58 =>
bd (fm_X11_arrive x_51 1 x_58 p2 m_41) fun x_61 m_62 =>
some (.inl 1, m_62)
else
some (.inl 0, m_20)
set_option maxHeartbeats 4000000 in
theorem om_X11_answer {xs : List Int32} {d : Nat} {S : QS} {m0 : MM} {p1 p2 : Int} {v0 : Value} {v1 : Value} {v2 : Value} {rr : Int ⊕ Nat} {rm : MM}
  (hd : 5 ≤ d) (R : Rp S m0) (f0 : q_is 2 v0 4) (f1 : q_is 0 v1 p1) (f2 : q_is 0 v2 p2)
  (h : fm_X11_answer p1 p2 m0 = some (rr, rm)) : Mt xs d 120 [v0, v1, v2] S (Cx 0 m0 rm rr) := by
  obtain ⟨d, rfl⟩ : ∃ e, d = e + 1 := ⟨d - 1, by omega⟩
  have hd : 4 ≤ d := Nat.le_of_succ_le_succ hd
  refine Mt.of (M := qM_X11_answer) rfl (by rw [sl_1 (q_is_cat f0 (Or.inr rfl)), sl_1 (q_is_cat f1 (Or.inl rfl)), sl_1 (q_is_cat f2 (Or.inl rfl)), sl_0]; decide) ?_
  rw [la_1 (q_is_cat f0 (Or.inr rfl)), la_1 (q_is_cat f1 (Or.inl rfl)), la_1 (q_is_cat f2 (Or.inl rfl)), la_0]
  obtain ⟨L, hL⟩ : ∃ L : QL, L = [(0, v0), (0 + 1, v1), (0 + 1 + 1, v2)] := ⟨_, rfl⟩
  rw [← hL]
  have l0 : q_lo L 0 = some v0 := by rw [hL]; rfl
  have l1 : q_lo L 1 = some v1 := by rw [hL]; rfl
  have l2 : q_lo L 2 = some v2 := by rw [hL]; rfl
  have hQ : Ext m0 rm → ∀ o S1, Rp S1 rm → q_oux 0 o rr → (Cx 0 m0 rm rr) o S1 := fun a o S1 b e => ⟨b, a, e⟩
  unfold fm_X11_answer at h
  refine go_aload_n (n := 0) (by decide +kernel) l0 f0 ?_
  refine go_iload_n (n := 1) (by decide +kernel) l1 f1 ?_
  obtain ⟨rr5, m_3, hc_1, h⟩ := bx_s h
  rcases h with ⟨q_10, rfl, h⟩ | ⟨x_2, rfl, h⟩
  · cases h
    exact go_callV (x := 362) (mi := 140) (n := 1) (ci := 12) (as := [v1]) (rest := []) (by decide +kernel) (by decide +kernel) rfl rfl (q_sum8 _ (Nat.le_of_ble_eq_true rfl)) R f0 (fx_k (c := 12) R (by decide +kernel)) (om_X11_activityAt (Nat.le_trans (by decide) hd) R f0 f1 hc_1) (fun _ _ qq => kx_lx qq) (fun _ _ qq => by
      obtain ⟨rfl, Rq, Eq⟩ := kx_e qq
      exact Or.inl ⟨rfl, hQ Eq _ _ Rq rfl⟩)
  refine go_callV (x := 362) (mi := 140) (n := 1) (ci := 12) (as := [v1]) (rest := []) (by decide +kernel) (by decide +kernel) rfl rfl (q_sum8 _ (Nat.le_of_ble_eq_true rfl)) R f0 (fx_k (c := 12) R (by decide +kernel)) (om_X11_activityAt (Nat.le_trans (by decide) hd) R f0 f1 hc_1) (fun _ S_6 q_9 => ?_) (fun _ _ qq => kr_x (kx_l qq))
  have q_9 := kx_l q_9
  refine kr_z (by decide) q_9 fun v_4 f_5 R_7 E_8 => ?_
  have E_12 := E_8
  refine go_astore_n (n := 3) (by decide +kernel) (by decide +kernel) f_5 fun L_13 l_14 kp_15 => ?_
  have l_16 := kp_15 0 _ l0 (by decide) (Or.inl (by decide))
  have l_17 := kp_15 2 _ l2 (by decide) (Or.inr (q_is_cat f2 (Or.inl rfl)))
  refine go_aload_n (n := 0) (by decide +kernel) l_16 f0 ?_
  refine go_iload_n (n := 2) (by decide +kernel) l_17 f2 ?_
  obtain ⟨rr5, m_20, hc_18, h⟩ := bx_s h
  rcases h with ⟨q_27, rfl, h⟩ | ⟨x_19, rfl, h⟩
  · cases h
    exact go_callV (x := 167) (mi := 147) (n := 1) (ci := 12) (as := [v2]) (rest := []) (by decide +kernel) (by decide +kernel) rfl rfl (q_sum8 _ (Nat.le_of_ble_eq_true rfl)) R_7 f0 (fx_k (c := 12) R_7 (by decide +kernel)) (om_X11_checkValue (Nat.le_trans (by decide) hd) R_7 f0 f2 hc_18) (fun _ _ qq => kx_lx qq) (fun _ _ qq => by
      obtain ⟨rfl, Rq, Eq⟩ := kx_e qq
      exact Or.inl ⟨rfl, hQ (Ext.tr E_12 Eq) _ _ Rq rfl⟩)
  refine go_callV (x := 167) (mi := 147) (n := 1) (ci := 12) (as := [v2]) (rest := []) (by decide +kernel) (by decide +kernel) rfl rfl (q_sum8 _ (Nat.le_of_ble_eq_true rfl)) R_7 f0 (fx_k (c := 12) R_7 (by decide +kernel)) (om_X11_checkValue (Nat.le_trans (by decide) hd) R_7 f0 f2 hc_18) (fun _ S_23 q_26 => ?_) (fun _ _ qq => kr_x (kx_l qq))
  have q_26 := kx_l q_26
  refine kr_v q_26 fun R_24 E_25 => ?_
  have E_29 := Ext.tr E_12 E_25
  refine go_aload_n (n := 3) (by decide +kernel) l_14 f_5 ?_
  obtain ⟨g_32, h⟩ := gd_s h
  obtain ⟨x_34, e_35, h⟩ := lx_s h
  refine go_getf (x := 351) (ci := 1) (kf := 5) (fin := 0) (t := 0) (by decide +kernel) (by decide +kernel) (by decide +kernel) R_24 f_5 g_32 fun v_30 f_31 => ?_
  have f_33 := q_is_eq f_31 e_35
  refine go_iconst (n := 1) (z := 1) (by decide +kernel) (by decide) fun v_36 f_37 => ?_
  refine go_icmp (c := .eq) (o := 5) (t := 21) (P := x_34 = 1) (by decide +kernel) (by decide +kernel) f_33 f_37 (Iff.rfl) (fun hp_38 => ?_) (fun hp_38 => ?_)
  · have h := it_t hp_38 h
    refine go_aload_n (n := 3) (by decide +kernel) l_14 f_5 ?_
    refine go_iconst (n := 2) (z := 2) (by decide +kernel) (by decide) fun v_39 f_40 => ?_
    obtain ⟨m_41, e_42, h⟩ := up_s h
    refine go_putf (x := 351) (ci := 1) (kf := 5) (fin := 0) (zt := 0) (by decide +kernel) (by decide +kernel) (by decide) (by decide +kernel) (by decide) (Or.inl rfl) R_24 f_5 f_40 (fun hq => absurd hq (by decide)) g_32 e_42 (fx_f (j := 5) R_24.2 g_32 (by decide +kernel)) fun S_43 R_44 E_45 => ?_
    have E_46 := Ext.tr E_29 E_45
    refine go_aload_n (n := 0) (by decide +kernel) l_16 f0 ?_
    refine go_aload_n (n := 3) (by decide +kernel) l_14 f_5 ?_
    have g_49 := Ext.ok E_45 g_32
    obtain ⟨x_51, e_52, h⟩ := lx_s h
    refine go_getf (x := 366) (ci := 1) (kf := 0) (fin := 2) (t := 2) (by decide +kernel) (by decide +kernel) (by decide +kernel) R_44 f_5 g_49 fun v_47 f_48 => ?_
    have f_50 := q_is_eq f_48 e_52
    refine go_iconst (n := 1) (z := 1) (by decide +kernel) (by decide) fun v_53 f_54 => ?_
    refine go_aload_n (n := 3) (by decide +kernel) l_14 f_5 ?_
    obtain ⟨x_58, e_59, h⟩ := lx_s h
    refine go_getf (x := 367) (ci := 1) (kf := 1) (fin := 2) (t := 0) (by decide +kernel) (by decide +kernel) (by decide +kernel) R_44 f_5 g_49 fun v_55 f_56 => ?_
    have f_57 := q_is_eq f_56 e_59
    refine go_iload_n (n := 2) (by decide +kernel) l_17 f2 ?_
    obtain ⟨x_61, m_62, hc_60, h⟩ := bd_s h
    refine go_callV (x := 204) (mi := 152) (n := 4) (ci := 12) (as := [v_47, v_53, v_55, v2]) (rest := []) (by decide +kernel) (by decide +kernel) rfl rfl (q_sum8 _ (Nat.le_of_ble_eq_true rfl)) R_44 f0 (fx_k (c := 12) R_44 (by decide +kernel)) (om_X11_arrive (Nat.le_trans (by decide) hd) R_44 f0 f_50 f_54 f_57 f2 hc_60) (fun _ S_65 q_68 => ?_) (fun _ _ qq => kr_x qq)
    refine kr_v q_68 fun R_66 E_67 => ?_
    have E_69 := Ext.tr E_46 E_67
    refine go_iconst (n := 1) (z := 1) (by decide +kernel) (by decide) fun v_70 f_71 => ?_
    cases h
    exact go_iret (by decide +kernel) rfl (Or.inr ⟨rfl, by decide⟩) f_71 (hQ E_69 _ _ R_66 (q_out_v (by decide) f_71))
  · have h := it_f hp_38 h
    refine go_iconst (n := 0) (z := 0) (by decide +kernel) (by decide) fun v_72 f_73 => ?_
    cases h
    exact go_iret (by decide +kernel) rfl (Or.inr ⟨rfl, by decide⟩) f_73 (hQ E_29 _ _ R_24 (q_out_v (by decide) f_73))
noncomputable def fj_X11_failAttempt_54 (y1 : Int) (m : MM) : Option (Int × MM) := gd (okc m y1 1) <| up m y1 5 2 fun m_41 =>
lx (m_41 y1 0) fun x_51 =>
lx (m_41 y1 1) fun x_58 =>
bd (fm_X11_arrive x_51 2 x_58 0 m_41) fun x_63 m_64 =>
some (0, m_64)
set_option maxHeartbeats 4000000 in
theorem oj_X11_failAttempt_54 {xs : List Int32} {d : Nat} {S : QS} {L : QL} {Q : QO → QS → Prop} {m : MM} {y1 : Int} {v0 : Value} {v1 : Value}  {rz : Int} {rm : MM}
  (hd : 3 ≤ d) (R : Rp S m) (l0 : q_lo L 0 = some v0) (f0 : q_is 2 v0 4) (l1 : q_lo L 1 = some v1) (f1 : q_is 2 v1 y1)
  (hQ : Ext m rm → ∀ o S1, Rp S1 rm → q_out 9 o rz → Q o S1)
  (h : fj_X11_failAttempt_54 y1 m = some (rz, rm)) : Go xs d qM_X11_failAttempt 54 L [] S Q := by
  unfold fj_X11_failAttempt_54 at h
  refine go_aload_n (n := 1) (by decide +kernel) l1 f1 ?_
  refine go_iconst (n := 2) (z := 2) (by decide +kernel) (by decide) fun v_38 f_39 => ?_
  obtain ⟨g_40, h⟩ := gd_s h
  obtain ⟨m_41, e_42, h⟩ := up_s h
  refine go_putf (x := 351) (ci := 1) (kf := 5) (fin := 0) (zt := 0) (by decide +kernel) (by decide +kernel) (by decide) (by decide +kernel) (by decide) (Or.inl rfl) R f1 f_39 (fun hq => absurd hq (by decide)) g_40 e_42 (fx_f (j := 5) R.2 g_40 (by decide +kernel)) fun S_43 R_44 E_45 => ?_
  have E_46 := E_45
  refine go_aload_n (n := 0) (by decide +kernel) l0 f0 ?_
  refine go_aload_n (n := 1) (by decide +kernel) l1 f1 ?_
  have g_49 := Ext.ok E_45 g_40
  obtain ⟨x_51, e_52, h⟩ := lx_s h
  refine go_getf (x := 366) (ci := 1) (kf := 0) (fin := 2) (t := 2) (by decide +kernel) (by decide +kernel) (by decide +kernel) R_44 f1 g_49 fun v_47 f_48 => ?_
  have f_50 := q_is_eq f_48 e_52
  refine go_iconst (n := 2) (z := 2) (by decide +kernel) (by decide) fun v_53 f_54 => ?_
  refine go_aload_n (n := 1) (by decide +kernel) l1 f1 ?_
  obtain ⟨x_58, e_59, h⟩ := lx_s h
  refine go_getf (x := 367) (ci := 1) (kf := 1) (fin := 2) (t := 0) (by decide +kernel) (by decide +kernel) (by decide +kernel) R_44 f1 g_49 fun v_55 f_56 => ?_
  have f_57 := q_is_eq f_56 e_59
  refine go_iconst (n := 0) (z := 0) (by decide +kernel) (by decide) fun v_60 f_61 => ?_
  obtain ⟨x_63, m_64, hc_62, h⟩ := bd_s h
  refine go_callV (x := 204) (mi := 152) (n := 4) (ci := 12) (as := [v_47, v_53, v_55, v_60]) (rest := []) (by decide +kernel) (by decide +kernel) rfl rfl (q_sum8 _ (Nat.le_of_ble_eq_true rfl)) R_44 f0 (fx_k (c := 12) R_44 (by decide +kernel)) (om_X11_arrive (Nat.le_trans (by decide) hd) R_44 f0 f_50 f_54 f_57 f_61 hc_62) (fun _ S_67 q_70 => ?_) (fun _ _ qq => kr_x qq)
  refine kr_v q_70 fun R_68 E_69 => ?_
  have E_71 := Ext.tr E_46 E_69
  cases h
  exact go_vret (by decide +kernel) rfl (hQ E_71 _ _ R_68 q_out_n)
noncomputable def fm_X11_failAttempt (p1 p2 : Int) (m0 : MM) : Option (Int × MM) := gd (okc m0 p1 1) <| lx (m0 p1 2) fun x_8 =>
bp (fm_J9_floorMod_7cf53 x_8 4 m0) fun x_17 =>
gd (0 ≤ x_17 ∧ x_17 < 4) <| lx (m0 6 x_17) fun x_29 =>
if p2 = 0 then
lx (m0 p1 6) fun x_75 =>
gd (okc m0 x_29 4) <| lx (m0 x_29 0) fun x_81 =>
if x_75 < x_81 then
up m0 p1 5 0 fun m_86 =>
lx (m_86 4 14) fun x_95 =>
lx (m_86 x_29 1) fun x_101 =>
up m_86 p1 7 (w32 (x_95 + x_101)) fun m_106 =>
some (0, m_106)
else
fj_X11_failAttempt_54 p1 m0
else
fj_X11_failAttempt_54 p1 m0
set_option maxHeartbeats 4000000 in
theorem om_X11_failAttempt {xs : List Int32} {d : Nat} {S : QS} {m0 : MM} {p1 p2 : Int} {v0 : Value} {v1 : Value} {v2 : Value} {rz : Int} {rm : MM}
  (hd : 4 ≤ d) (R : Rp S m0) (f0 : q_is 2 v0 4) (f1 : q_is 2 v1 p1) (f2 : q_is 0 v2 p2)
  (h : fm_X11_failAttempt p1 p2 m0 = some (rz, rm)) : Mt xs d 179 [v0, v1, v2] S (Cr 9 m0 rm rz) := by
  obtain ⟨d, rfl⟩ : ∃ e, d = e + 1 := ⟨d - 1, by omega⟩
  have hd : 3 ≤ d := Nat.le_of_succ_le_succ hd
  refine Mt.of (M := qM_X11_failAttempt) rfl (by rw [sl_1 (q_is_cat f0 (Or.inr rfl)), sl_1 (q_is_cat f1 (Or.inr rfl)), sl_1 (q_is_cat f2 (Or.inl rfl)), sl_0]; decide) ?_
  rw [la_1 (q_is_cat f0 (Or.inr rfl)), la_1 (q_is_cat f1 (Or.inr rfl)), la_1 (q_is_cat f2 (Or.inl rfl)), la_0]
  obtain ⟨L, hL⟩ : ∃ L : QL, L = [(0, v0), (0 + 1, v1), (0 + 1 + 1, v2)] := ⟨_, rfl⟩
  rw [← hL]
  have l0 : q_lo L 0 = some v0 := by rw [hL]; rfl
  have l1 : q_lo L 1 = some v1 := by rw [hL]; rfl
  have l2 : q_lo L 2 = some v2 := by rw [hL]; rfl
  have hQ : Ext m0 rm → ∀ o S1, Rp S1 rm → q_out 9 o rz → (Cr 9 m0 rm rz) o S1 := fun a o S1 b e => ⟨b, a, e⟩
  unfold fm_X11_failAttempt at h
  refine go_aload_n (n := 0) (by decide +kernel) l0 f0 ?_
  refine go_getf (x := 17) (ci := 12) (kf := 1) (fin := 1) (t := 2) (by decide +kernel) (by decide +kernel) (by decide +kernel) R f0 (fx_k (c := 12) R (by decide +kernel)) fun v_1 f_2 => ?_
  have f_3 := q_is_eq (b := 6) f_2 (fx_v R (by decide +kernel)).symm
  refine go_aload_n (n := 1) (by decide +kernel) l1 f1 ?_
  obtain ⟨g_6, h⟩ := gd_s h
  obtain ⟨x_8, e_9, h⟩ := lx_s h
  refine go_getf (x := 349) (ci := 1) (kf := 2) (fin := 2) (t := 0) (by decide +kernel) (by decide +kernel) (by decide +kernel) R f1 g_6 fun v_4 f_5 => ?_
  have f_7 := q_is_eq f_5 e_9
  refine go_aload_n (n := 0) (by decide +kernel) l0 f0 ?_
  refine go_getf (x := 17) (ci := 12) (kf := 1) (fin := 1) (t := 2) (by decide +kernel) (by decide +kernel) (by decide +kernel) R f0 (fx_k (c := 12) R (by decide +kernel)) fun v_10 f_11 => ?_
  have f_12 := q_is_eq (b := 6) f_11 (fx_v R (by decide +kernel)).symm
  refine go_alen (by decide +kernel) R f_12 (okl_of (fx_k (c := 104) R (by decide +kernel)) (by decide)) fun v_13 f_14 => ?_
  have f_15 := q_is_eq (b := 4) f_14 (by rw [fx_l R (ln := 4) (by decide +kernel)]; decide)
  obtain ⟨x_17, hc_16, h⟩ := bp_s h
  refine go_callS (x := 496) (mi := 318) (n := 2) (b := 0) (as := [v_4, v_13]) (rest := [v_1]) (by decide +kernel) (by decide +kernel) rfl rfl (q_sum8 _ (Nat.le_of_ble_eq_true rfl)) (om_J9_floorMod_7cf53 (Nat.le_trans (by decide) hd) R f_7 f_15 hc_16) (fun _ S_21 q_24 => ?_) (fun _ _ qq => kr_x qq)
  refine kr_z (by decide) q_24 fun v_19 f_20 R_22 E_23 => ?_
  obtain ⟨g_27, h⟩ := gd_s h
  obtain ⟨x_29, e_30, h⟩ := lx_s h
  refine go_aald (kd := 104) (by decide +kernel) (by decide) R_22 f_3 f_20 (fx_k (c := 104) R_22 (by decide +kernel)) (fx_x (a := 6) (ln := 4) R_22 (by decide +kernel) g_27) fun v_25 f_26 => ?_
  have f_28 := q_is_eq f_26 e_30
  refine go_astore_n (n := 3) (by decide +kernel) (by decide +kernel) f_28 fun L_31 l_32 kp_33 => ?_
  have l_34 := kp_33 0 _ l0 (by decide) (Or.inl (by decide))
  have l_35 := kp_33 1 _ l1 (by decide) (Or.inl (by decide))
  have l_36 := kp_33 2 _ l2 (by decide) (Or.inr (q_is_cat f2 (Or.inl rfl)))
  refine go_iload_n (n := 2) (by decide +kernel) l_36 f2 ?_
  refine go_if (c := .ne) (o := 35) (t := 54) (P := ¬ (p2 = 0)) (by decide +kernel) (by decide +kernel) f2 (Iff.rfl) (fun hp_37 => ?_) (fun hp_37 => ?_)
  · have h := it_f hp_37 h
    exact oj_X11_failAttempt_54 hd R_22 l_34 f0 l_35 f1 hQ h
  · have h := it_n hp_37 h
    refine go_aload_n (n := 1) (by decide +kernel) l_35 f1 ?_
    obtain ⟨x_75, e_76, h⟩ := lx_s h
    refine go_getf (x := 380) (ci := 1) (kf := 6) (fin := 0) (t := 0) (by decide +kernel) (by decide +kernel) (by decide +kernel) R_22 f1 g_6 fun v_72 f_73 => ?_
    have f_74 := q_is_eq f_73 e_76
    refine go_aload_n (n := 3) (by decide +kernel) l_32 f_28 ?_
    obtain ⟨g_79, h⟩ := gd_s h
    obtain ⟨x_81, e_82, h⟩ := lx_s h
    refine go_getf (x := 143) (ci := 4) (kf := 0) (fin := 0) (t := 0) (by decide +kernel) (by decide +kernel) (by decide +kernel) R_22 f_28 g_79 fun v_77 f_78 => ?_
    have f_80 := q_is_eq f_78 e_82
    refine go_icmp (c := .ge) (o := 24) (t := 54) (P := ¬ (x_75 < x_81)) (by decide +kernel) (by decide +kernel) f_74 f_80 (Int.not_lt.symm) (fun hp_83 => ?_) (fun hp_83 => ?_)
    · have h := it_f hp_83 h
      exact oj_X11_failAttempt_54 hd R_22 l_34 f0 l_35 f1 hQ h
    · have h := it_n hp_83 h
      refine go_aload_n (n := 1) (by decide +kernel) l_35 f1 ?_
      refine go_iconst (n := 0) (z := 0) (by decide +kernel) (by decide) fun v_84 f_85 => ?_
      obtain ⟨m_86, e_87, h⟩ := up_s h
      refine go_putf (x := 351) (ci := 1) (kf := 5) (fin := 0) (zt := 0) (by decide +kernel) (by decide +kernel) (by decide) (by decide +kernel) (by decide) (Or.inl rfl) R_22 f1 f_85 (fun hq => absurd hq (by decide)) g_6 e_87 (fx_f (j := 5) R_22.2 g_6 (by decide +kernel)) fun S_88 R_89 E_90 => ?_
      have E_91 := E_90
      refine go_aload_n (n := 1) (by decide +kernel) l_35 f1 ?_
      refine go_aload_n (n := 0) (by decide +kernel) l_34 f0 ?_
      obtain ⟨x_95, e_96, h⟩ := lx_s h
      refine go_getf (x := 71) (ci := 12) (kf := 14) (fin := 0) (t := 0) (by decide +kernel) (by decide +kernel) (by decide +kernel) R_89 f0 (fx_k (c := 12) R_89 (by decide +kernel)) fun v_92 f_93 => ?_
      have f_94 := q_is_eq f_93 e_96
      refine go_aload_n (n := 3) (by decide +kernel) l_32 f_28 ?_
      have g_99 := Ext.ok E_90 g_79
      obtain ⟨x_101, e_102, h⟩ := lx_s h
      refine go_getf (x := 146) (ci := 4) (kf := 1) (fin := 0) (t := 0) (by decide +kernel) (by decide +kernel) (by decide +kernel) R_89 f_28 g_99 fun v_97 f_98 => ?_
      have f_100 := q_is_eq f_98 e_102
      refine go_iadd (by decide +kernel) f_94 f_100 fun v_103 f_104 => ?_
      have g_105 := Ext.ok E_90 g_6
      obtain ⟨m_106, e_107, h⟩ := up_s h
      refine go_putf (x := 353) (ci := 1) (kf := 7) (fin := 0) (zt := 0) (by decide +kernel) (by decide +kernel) (by decide) (by decide +kernel) (by decide) (Or.inl rfl) R_89 f1 f_104 (fun hq => absurd hq (by decide)) g_105 e_107 (fx_f (j := 7) R_89.2 g_105 (by decide +kernel)) fun S_108 R_109 E_110 => ?_
      have E_111 := Ext.tr E_91 E_110
      refine go_goto (o := 22) (t := 73) (by decide +kernel) (by decide +kernel) ?_
      cases h
      exact go_vret (by decide +kernel) rfl (hQ E_111 _ _ R_109 q_out_n)
noncomputable def fm_X11_fail (p1 p2 : Int) (m0 : MM) : Option ((Int ⊕ Nat) × MM) := bx (fm_X11_activityAt p1 m0) (fun q_10 m_3 => some (.inr q_10, m_3)) fun x_2 m_3 =>
gd (okc m_3 x_2 1) <| lx (m_3 x_2 5) fun x_22 =>
if x_22 = 1 then
bd (fm_X11_failAttempt x_2 p2 m_3) fun x_28 m_29 =>
some (.inl 1, m_29)
else
some (.inl 0, m_3)
set_option maxHeartbeats 4000000 in
theorem om_X11_fail {xs : List Int32} {d : Nat} {S : QS} {m0 : MM} {p1 p2 : Int} {v0 : Value} {v1 : Value} {v2 : Value} {rr : Int ⊕ Nat} {rm : MM}
  (hd : 5 ≤ d) (R : Rp S m0) (f0 : q_is 2 v0 4) (f1 : q_is 0 v1 p1) (f2 : q_is 0 v2 p2)
  (h : fm_X11_fail p1 p2 m0 = some (rr, rm)) : Mt xs d 121 [v0, v1, v2] S (Cx 0 m0 rm rr) := by
  obtain ⟨d, rfl⟩ : ∃ e, d = e + 1 := ⟨d - 1, by omega⟩
  have hd : 4 ≤ d := Nat.le_of_succ_le_succ hd
  refine Mt.of (M := qM_X11_fail) rfl (by rw [sl_1 (q_is_cat f0 (Or.inr rfl)), sl_1 (q_is_cat f1 (Or.inl rfl)), sl_1 (q_is_cat f2 (Or.inl rfl)), sl_0]; decide) ?_
  rw [la_1 (q_is_cat f0 (Or.inr rfl)), la_1 (q_is_cat f1 (Or.inl rfl)), la_1 (q_is_cat f2 (Or.inl rfl)), la_0]
  obtain ⟨L, hL⟩ : ∃ L : QL, L = [(0, v0), (0 + 1, v1), (0 + 1 + 1, v2)] := ⟨_, rfl⟩
  rw [← hL]
  have l0 : q_lo L 0 = some v0 := by rw [hL]; rfl
  have l1 : q_lo L 1 = some v1 := by rw [hL]; rfl
  have l2 : q_lo L 2 = some v2 := by rw [hL]; rfl
  have hQ : Ext m0 rm → ∀ o S1, Rp S1 rm → q_oux 0 o rr → (Cx 0 m0 rm rr) o S1 := fun a o S1 b e => ⟨b, a, e⟩
  unfold fm_X11_fail at h
  refine go_aload_n (n := 0) (by decide +kernel) l0 f0 ?_
  refine go_iload_n (n := 1) (by decide +kernel) l1 f1 ?_
  obtain ⟨rr5, m_3, hc_1, h⟩ := bx_s h
  rcases h with ⟨q_10, rfl, h⟩ | ⟨x_2, rfl, h⟩
  · cases h
    exact go_callV (x := 362) (mi := 140) (n := 1) (ci := 12) (as := [v1]) (rest := []) (by decide +kernel) (by decide +kernel) rfl rfl (q_sum8 _ (Nat.le_of_ble_eq_true rfl)) R f0 (fx_k (c := 12) R (by decide +kernel)) (om_X11_activityAt (Nat.le_trans (by decide) hd) R f0 f1 hc_1) (fun _ _ qq => kx_lx qq) (fun _ _ qq => by
      obtain ⟨rfl, Rq, Eq⟩ := kx_e qq
      exact Or.inl ⟨rfl, hQ Eq _ _ Rq rfl⟩)
  refine go_callV (x := 362) (mi := 140) (n := 1) (ci := 12) (as := [v1]) (rest := []) (by decide +kernel) (by decide +kernel) rfl rfl (q_sum8 _ (Nat.le_of_ble_eq_true rfl)) R f0 (fx_k (c := 12) R (by decide +kernel)) (om_X11_activityAt (Nat.le_trans (by decide) hd) R f0 f1 hc_1) (fun _ S_6 q_9 => ?_) (fun _ _ qq => kr_x (kx_l qq))
  have q_9 := kx_l q_9
  refine kr_z (by decide) q_9 fun v_4 f_5 R_7 E_8 => ?_
  have E_12 := E_8
  refine go_astore_n (n := 3) (by decide +kernel) (by decide +kernel) f_5 fun L_13 l_14 kp_15 => ?_
  have l_16 := kp_15 0 _ l0 (by decide) (Or.inl (by decide))
  have l_17 := kp_15 2 _ l2 (by decide) (Or.inr (q_is_cat f2 (Or.inl rfl)))
  refine go_aload_n (n := 3) (by decide +kernel) l_14 f_5 ?_
  obtain ⟨g_20, h⟩ := gd_s h
  obtain ⟨x_22, e_23, h⟩ := lx_s h
  refine go_getf (x := 351) (ci := 1) (kf := 5) (fin := 0) (t := 0) (by decide +kernel) (by decide +kernel) (by decide +kernel) R_7 f_5 g_20 fun v_18 f_19 => ?_
  have f_21 := q_is_eq f_19 e_23
  refine go_iconst (n := 1) (z := 1) (by decide +kernel) (by decide) fun v_24 f_25 => ?_
  refine go_icmp (c := .eq) (o := 5) (t := 16) (P := x_22 = 1) (by decide +kernel) (by decide +kernel) f_21 f_25 (Iff.rfl) (fun hp_26 => ?_) (fun hp_26 => ?_)
  · have h := it_t hp_26 h
    refine go_aload_n (n := 0) (by decide +kernel) l_16 f0 ?_
    refine go_aload_n (n := 3) (by decide +kernel) l_14 f_5 ?_
    refine go_iload_n (n := 2) (by decide +kernel) l_17 f2 ?_
    obtain ⟨x_28, m_29, hc_27, h⟩ := bd_s h
    refine go_callV (x := 370) (mi := 179) (n := 2) (ci := 12) (as := [v_4, v2]) (rest := []) (by decide +kernel) (by decide +kernel) rfl rfl (q_sum8 _ (Nat.le_of_ble_eq_true rfl)) R_7 f0 (fx_k (c := 12) R_7 (by decide +kernel)) (om_X11_failAttempt (Nat.le_trans (by decide) hd) R_7 f0 f_5 f2 hc_27) (fun _ S_32 q_35 => ?_) (fun _ _ qq => kr_x qq)
    refine kr_v q_35 fun R_33 E_34 => ?_
    have E_36 := Ext.tr E_12 E_34
    refine go_iconst (n := 1) (z := 1) (by decide +kernel) (by decide) fun v_37 f_38 => ?_
    cases h
    exact go_iret (by decide +kernel) rfl (Or.inr ⟨rfl, by decide⟩) f_38 (hQ E_36 _ _ R_33 (q_out_v (by decide) f_38))
  · have h := it_f hp_26 h
    refine go_iconst (n := 0) (z := 0) (by decide +kernel) (by decide) fun v_39 f_40 => ?_
    cases h
    exact go_iret (by decide +kernel) rfl (Or.inr ⟨rfl, by decide⟩) f_40 (hQ E_12 _ _ R_7 (q_out_v (by decide) f_40))
noncomputable def fm_X11_beat (p1 p2 : Int) (m0 : MM) : Option ((Int ⊕ Nat) × MM) := bx (fm_X11_activityAt p1 m0) (fun q_10 m_3 => some (.inr q_10, m_3)) fun x_2 m_3 =>
bx (fm_X11_checkValue p2 m_3) (fun q_27 m_20 => some (.inr q_27, m_20)) fun x_19 m_20 =>
gd (okc m_20 x_2 1) <| lx (m_20 x_2 5) fun x_34 =>
if x_34 = 1 then
lx (m_20 x_2 10) fun x_42 =>
up m_20 x_2 10 p2 fun m_50 =>
lx (m_50 4 14) fun x_59 =>
up m_50 x_2 9 x_59 fun m_62 =>
some (.inl x_42, m_62)
else
some (.inl (-1), m_20)
set_option maxHeartbeats 4000000 in
theorem om_X11_beat {xs : List Int32} {d : Nat} {S : QS} {m0 : MM} {p1 p2 : Int} {v0 : Value} {v1 : Value} {v2 : Value} {rr : Int ⊕ Nat} {rm : MM}
  (hd : 5 ≤ d) (R : Rp S m0) (f0 : q_is 2 v0 4) (f1 : q_is 0 v1 p1) (f2 : q_is 0 v2 p2)
  (h : fm_X11_beat p1 p2 m0 = some (rr, rm)) : Mt xs d 122 [v0, v1, v2] S (Cx 0 m0 rm rr) := by
  obtain ⟨d, rfl⟩ : ∃ e, d = e + 1 := ⟨d - 1, by omega⟩
  have hd : 4 ≤ d := Nat.le_of_succ_le_succ hd
  refine Mt.of (M := qM_X11_beat) rfl (by rw [sl_1 (q_is_cat f0 (Or.inr rfl)), sl_1 (q_is_cat f1 (Or.inl rfl)), sl_1 (q_is_cat f2 (Or.inl rfl)), sl_0]; decide) ?_
  rw [la_1 (q_is_cat f0 (Or.inr rfl)), la_1 (q_is_cat f1 (Or.inl rfl)), la_1 (q_is_cat f2 (Or.inl rfl)), la_0]
  obtain ⟨L, hL⟩ : ∃ L : QL, L = [(0, v0), (0 + 1, v1), (0 + 1 + 1, v2)] := ⟨_, rfl⟩
  rw [← hL]
  have l0 : q_lo L 0 = some v0 := by rw [hL]; rfl
  have l1 : q_lo L 1 = some v1 := by rw [hL]; rfl
  have l2 : q_lo L 2 = some v2 := by rw [hL]; rfl
  have hQ : Ext m0 rm → ∀ o S1, Rp S1 rm → q_oux 0 o rr → (Cx 0 m0 rm rr) o S1 := fun a o S1 b e => ⟨b, a, e⟩
  unfold fm_X11_beat at h
  refine go_aload_n (n := 0) (by decide +kernel) l0 f0 ?_
  refine go_iload_n (n := 1) (by decide +kernel) l1 f1 ?_
  obtain ⟨rr5, m_3, hc_1, h⟩ := bx_s h
  rcases h with ⟨q_10, rfl, h⟩ | ⟨x_2, rfl, h⟩
  · cases h
    exact go_callV (x := 362) (mi := 140) (n := 1) (ci := 12) (as := [v1]) (rest := []) (by decide +kernel) (by decide +kernel) rfl rfl (q_sum8 _ (Nat.le_of_ble_eq_true rfl)) R f0 (fx_k (c := 12) R (by decide +kernel)) (om_X11_activityAt (Nat.le_trans (by decide) hd) R f0 f1 hc_1) (fun _ _ qq => kx_lx qq) (fun _ _ qq => by
      obtain ⟨rfl, Rq, Eq⟩ := kx_e qq
      exact Or.inl ⟨rfl, hQ Eq _ _ Rq rfl⟩)
  refine go_callV (x := 362) (mi := 140) (n := 1) (ci := 12) (as := [v1]) (rest := []) (by decide +kernel) (by decide +kernel) rfl rfl (q_sum8 _ (Nat.le_of_ble_eq_true rfl)) R f0 (fx_k (c := 12) R (by decide +kernel)) (om_X11_activityAt (Nat.le_trans (by decide) hd) R f0 f1 hc_1) (fun _ S_6 q_9 => ?_) (fun _ _ qq => kr_x (kx_l qq))
  have q_9 := kx_l q_9
  refine kr_z (by decide) q_9 fun v_4 f_5 R_7 E_8 => ?_
  have E_12 := E_8
  refine go_astore_n (n := 3) (by decide +kernel) (by decide +kernel) f_5 fun L_13 l_14 kp_15 => ?_
  have l_16 := kp_15 0 _ l0 (by decide) (Or.inl (by decide))
  have l_17 := kp_15 2 _ l2 (by decide) (Or.inr (q_is_cat f2 (Or.inl rfl)))
  refine go_aload_n (n := 0) (by decide +kernel) l_16 f0 ?_
  refine go_iload_n (n := 2) (by decide +kernel) l_17 f2 ?_
  obtain ⟨rr5, m_20, hc_18, h⟩ := bx_s h
  rcases h with ⟨q_27, rfl, h⟩ | ⟨x_19, rfl, h⟩
  · cases h
    exact go_callV (x := 167) (mi := 147) (n := 1) (ci := 12) (as := [v2]) (rest := []) (by decide +kernel) (by decide +kernel) rfl rfl (q_sum8 _ (Nat.le_of_ble_eq_true rfl)) R_7 f0 (fx_k (c := 12) R_7 (by decide +kernel)) (om_X11_checkValue (Nat.le_trans (by decide) hd) R_7 f0 f2 hc_18) (fun _ _ qq => kx_lx qq) (fun _ _ qq => by
      obtain ⟨rfl, Rq, Eq⟩ := kx_e qq
      exact Or.inl ⟨rfl, hQ (Ext.tr E_12 Eq) _ _ Rq rfl⟩)
  refine go_callV (x := 167) (mi := 147) (n := 1) (ci := 12) (as := [v2]) (rest := []) (by decide +kernel) (by decide +kernel) rfl rfl (q_sum8 _ (Nat.le_of_ble_eq_true rfl)) R_7 f0 (fx_k (c := 12) R_7 (by decide +kernel)) (om_X11_checkValue (Nat.le_trans (by decide) hd) R_7 f0 f2 hc_18) (fun _ S_23 q_26 => ?_) (fun _ _ qq => kr_x (kx_l qq))
  have q_26 := kx_l q_26
  refine kr_v q_26 fun R_24 E_25 => ?_
  have E_29 := Ext.tr E_12 E_25
  refine go_aload_n (n := 3) (by decide +kernel) l_14 f_5 ?_
  obtain ⟨g_32, h⟩ := gd_s h
  obtain ⟨x_34, e_35, h⟩ := lx_s h
  refine go_getf (x := 351) (ci := 1) (kf := 5) (fin := 0) (t := 0) (by decide +kernel) (by decide +kernel) (by decide +kernel) R_24 f_5 g_32 fun v_30 f_31 => ?_
  have f_33 := q_is_eq f_31 e_35
  refine go_iconst (n := 1) (z := 1) (by decide +kernel) (by decide) fun v_36 f_37 => ?_
  refine go_icmp (c := .eq) (o := 5) (t := 21) (P := x_34 = 1) (by decide +kernel) (by decide +kernel) f_33 f_37 (Iff.rfl) (fun hp_38 => ?_) (fun hp_38 => ?_)
  · have h := it_t hp_38 h
    refine go_aload_n (n := 3) (by decide +kernel) l_14 f_5 ?_
    obtain ⟨x_42, e_43, h⟩ := lx_s h
    refine go_getf (x := 374) (ci := 1) (kf := 10) (fin := 0) (t := 0) (by decide +kernel) (by decide +kernel) (by decide +kernel) R_24 f_5 g_32 fun v_39 f_40 => ?_
    have f_41 := q_is_eq f_40 e_43
    refine go_istore (n := 4) (by decide +kernel) (by decide +kernel) f_41 fun L_44 l_45 kp_46 => ?_
    have l_47 := kp_46 0 _ l_16 (by decide) (Or.inl (by decide))
    have l_48 := kp_46 2 _ l_17 (by decide) (Or.inl (by decide))
    have l_49 := kp_46 3 _ l_14 (by decide) (Or.inr (q_is_cat f_5 (Or.inr rfl)))
    refine go_aload_n (n := 3) (by decide +kernel) l_49 f_5 ?_
    refine go_iload_n (n := 2) (by decide +kernel) l_48 f2 ?_
    obtain ⟨m_50, e_51, h⟩ := up_s h
    refine go_putf (x := 374) (ci := 1) (kf := 10) (fin := 0) (zt := 0) (by decide +kernel) (by decide +kernel) (by decide) (by decide +kernel) (by decide) (Or.inl rfl) R_24 f_5 f2 (fun hq => absurd hq (by decide)) g_32 e_51 (fx_f (j := 10) R_24.2 g_32 (by decide +kernel)) fun S_52 R_53 E_54 => ?_
    have E_55 := Ext.tr E_29 E_54
    refine go_aload_n (n := 3) (by decide +kernel) l_49 f_5 ?_
    refine go_aload_n (n := 0) (by decide +kernel) l_47 f0 ?_
    obtain ⟨x_59, e_60, h⟩ := lx_s h
    refine go_getf (x := 71) (ci := 12) (kf := 14) (fin := 0) (t := 0) (by decide +kernel) (by decide +kernel) (by decide +kernel) R_53 f0 (fx_k (c := 12) R_53 (by decide +kernel)) fun v_56 f_57 => ?_
    have f_58 := q_is_eq f_57 e_60
    have g_61 := Ext.ok E_54 g_32
    obtain ⟨m_62, e_63, h⟩ := up_s h
    refine go_putf (x := 377) (ci := 1) (kf := 9) (fin := 0) (zt := 0) (by decide +kernel) (by decide +kernel) (by decide) (by decide +kernel) (by decide) (Or.inl rfl) R_53 f_5 f_58 (fun hq => absurd hq (by decide)) g_61 e_63 (fx_f (j := 9) R_53.2 g_61 (by decide +kernel)) fun S_64 R_65 E_66 => ?_
    have E_67 := Ext.tr E_55 E_66
    refine go_iload (n := 4) (by decide +kernel) l_45 f_41 ?_
    cases h
    exact go_iret (by decide +kernel) rfl (Or.inl rfl) f_41 (hQ E_67 _ _ R_65 (q_out_v (by decide) f_41))
  · have h := it_f hp_38 h
    refine go_iconst (n := (-1)) (z := (-1)) (by decide +kernel) (by decide) fun v_68 f_69 => ?_
    cases h
    exact go_iret (by decide +kernel) rfl (Or.inl rfl) f_69 (hQ E_29 _ _ R_24 (q_out_v (by decide) f_69))
noncomputable def fm_X11_activity (p1 : Int) (m0 : MM) : Option ((Int ⊕ Nat) × MM) := bx (fm_X11_activityAt p1 m0) (fun q_10 m_3 => some (.inr q_10, m_3)) fun x_2 m_3 =>
gd (okc m_3 x_2 1) <| lx (m_3 x_2 0) fun x_22 =>
gd (okc m_3 x_22 7) <| lx (m_3 x_22 0) fun x_28 =>
lx (m_3 x_2 6) fun x_37 =>
lx (m_3 x_2 5) fun x_46 =>
some (.inl (w32 ((w32 ((w32 (100 * x_28)) + (w32 (10 * x_37)))) + x_46)), m_3)
set_option maxHeartbeats 4000000 in
theorem om_X11_activity {xs : List Int32} {d : Nat} {S : QS} {m0 : MM} {p1 : Int} {v0 : Value} {v1 : Value} {rr : Int ⊕ Nat} {rm : MM}
  (hd : 5 ≤ d) (R : Rp S m0) (f0 : q_is 2 v0 4) (f1 : q_is 0 v1 p1)
  (h : fm_X11_activity p1 m0 = some (rr, rm)) : Mt xs d 123 [v0, v1] S (Cx 0 m0 rm rr) := by
  obtain ⟨d, rfl⟩ : ∃ e, d = e + 1 := ⟨d - 1, by omega⟩
  have hd : 4 ≤ d := Nat.le_of_succ_le_succ hd
  refine Mt.of (M := qM_X11_activity) rfl (by rw [sl_1 (q_is_cat f0 (Or.inr rfl)), sl_1 (q_is_cat f1 (Or.inl rfl)), sl_0]; decide) ?_
  rw [la_1 (q_is_cat f0 (Or.inr rfl)), la_1 (q_is_cat f1 (Or.inl rfl)), la_0]
  obtain ⟨L, hL⟩ : ∃ L : QL, L = [(0, v0), (0 + 1, v1)] := ⟨_, rfl⟩
  rw [← hL]
  have l0 : q_lo L 0 = some v0 := by rw [hL]; rfl
  have l1 : q_lo L 1 = some v1 := by rw [hL]; rfl
  have hQ : Ext m0 rm → ∀ o S1, Rp S1 rm → q_oux 0 o rr → (Cx 0 m0 rm rr) o S1 := fun a o S1 b e => ⟨b, a, e⟩
  unfold fm_X11_activity at h
  refine go_aload_n (n := 0) (by decide +kernel) l0 f0 ?_
  refine go_iload_n (n := 1) (by decide +kernel) l1 f1 ?_
  obtain ⟨rr5, m_3, hc_1, h⟩ := bx_s h
  rcases h with ⟨q_10, rfl, h⟩ | ⟨x_2, rfl, h⟩
  · cases h
    exact go_callV (x := 362) (mi := 140) (n := 1) (ci := 12) (as := [v1]) (rest := []) (by decide +kernel) (by decide +kernel) rfl rfl (q_sum8 _ (Nat.le_of_ble_eq_true rfl)) R f0 (fx_k (c := 12) R (by decide +kernel)) (om_X11_activityAt (Nat.le_trans (by decide) hd) R f0 f1 hc_1) (fun _ _ qq => kx_lx qq) (fun _ _ qq => by
      obtain ⟨rfl, Rq, Eq⟩ := kx_e qq
      exact Or.inl ⟨rfl, hQ Eq _ _ Rq rfl⟩)
  refine go_callV (x := 362) (mi := 140) (n := 1) (ci := 12) (as := [v1]) (rest := []) (by decide +kernel) (by decide +kernel) rfl rfl (q_sum8 _ (Nat.le_of_ble_eq_true rfl)) R f0 (fx_k (c := 12) R (by decide +kernel)) (om_X11_activityAt (Nat.le_trans (by decide) hd) R f0 f1 hc_1) (fun _ S_6 q_9 => ?_) (fun _ _ qq => kr_x (kx_l qq))
  have q_9 := kx_l q_9
  refine kr_z (by decide) q_9 fun v_4 f_5 R_7 E_8 => ?_
  have E_12 := E_8
  refine go_astore_n (n := 2) (by decide +kernel) (by decide +kernel) f_5 fun L_13 l_14 kp_15 => ?_
  refine go_bipush (n := 100) (z := 100) (by decide +kernel) (by decide) fun v_16 f_17 => ?_
  refine go_aload_n (n := 2) (by decide +kernel) l_14 f_5 ?_
  obtain ⟨g_20, h⟩ := gd_s h
  obtain ⟨x_22, e_23, h⟩ := lx_s h
  refine go_getf (x := 366) (ci := 1) (kf := 0) (fin := 2) (t := 2) (by decide +kernel) (by decide +kernel) (by decide +kernel) R_7 f_5 g_20 fun v_18 f_19 => ?_
  have f_21 := q_is_eq f_19 e_23
  obtain ⟨g_26, h⟩ := gd_s h
  obtain ⟨x_28, e_29, h⟩ := lx_s h
  refine go_getf (x := 180) (ci := 7) (kf := 0) (fin := 2) (t := 0) (by decide +kernel) (by decide +kernel) (by decide +kernel) R_7 f_21 g_26 fun v_24 f_25 => ?_
  have f_27 := q_is_eq f_25 e_29
  refine go_imul (by decide +kernel) f_17 f_27 fun v_30 f_31 => ?_
  refine go_bipush (n := 10) (z := 10) (by decide +kernel) (by decide) fun v_32 f_33 => ?_
  refine go_aload_n (n := 2) (by decide +kernel) l_14 f_5 ?_
  obtain ⟨x_37, e_38, h⟩ := lx_s h
  refine go_getf (x := 380) (ci := 1) (kf := 6) (fin := 0) (t := 0) (by decide +kernel) (by decide +kernel) (by decide +kernel) R_7 f_5 g_20 fun v_34 f_35 => ?_
  have f_36 := q_is_eq f_35 e_38
  refine go_imul (by decide +kernel) f_33 f_36 fun v_39 f_40 => ?_
  refine go_iadd (by decide +kernel) f_31 f_40 fun v_41 f_42 => ?_
  refine go_aload_n (n := 2) (by decide +kernel) l_14 f_5 ?_
  obtain ⟨x_46, e_47, h⟩ := lx_s h
  refine go_getf (x := 351) (ci := 1) (kf := 5) (fin := 0) (t := 0) (by decide +kernel) (by decide +kernel) (by decide +kernel) R_7 f_5 g_20 fun v_43 f_44 => ?_
  have f_45 := q_is_eq f_44 e_47
  refine go_iadd (by decide +kernel) f_42 f_45 fun v_48 f_49 => ?_
  cases h
  exact go_iret (by decide +kernel) rfl (Or.inl rfl) f_49 (hQ E_12 _ _ R_7 (q_out_v (by decide) f_49))
noncomputable def fl_X11_beginTick_12 : Nat → Int → MM → Option (Int × MM)
  | 0, _, _ => none
  | n + 1, y1, m => if y1 < 3 then
gd (0 ≤ y1 ∧ y1 < 3) <| up m 13 y1 0 fun m_35 =>
lx (w32 (y1 + 1)) fun x_46 =>
fl_X11_beginTick_12 n x_46 m_35
else
some (0, m)
set_option maxHeartbeats 4000000 in
theorem ol_X11_beginTick_12 {xs : List Int32} {d : Nat} {Q : QO → QS → Prop} {mb : MM} {rz : Int} {rm : MM}
  (hd : 0 ≤ d)
  (hQ : Ext mb rm → ∀ o S1, Rp S1 rm → q_out 9 o rz → Q o S1) :
  ∀ (n : Nat) {m : MM} {S : QS} {L : QL} {y1 : Int} {v0 : Value} {v1 : Value} , Ext mb m → fl_X11_beginTick_12 n y1 m = some (rz, rm) → Rp S m → q_lo L 0 = some v0 → q_is 2 v0 4 → q_lo L 1 = some v1 → q_is 0 v1 y1 → Go xs d qM_X11_beginTick 12 L [] S Q := by
  intro n
  induction n with
  | zero => intro m S L y1 v0 v1; intro E h R l0 f0 l1 f1; cases h
  | succ n ih0 =>
    intro m S L y1 v0 v1; intro E h R l0 f0 l1 f1
    have ih : ∀ mq : MM, Ext mb mq → ∀ {z1 : Int} {Sq : QS} {Lq : QL} {u0 : Value} {u1 : Value}, fl_X11_beginTick_12 n z1 mq = some (rz, rm) → Rp Sq mq → q_lo Lq 0 = some u0 → q_is 2 u0 4 → q_lo Lq 1 = some u1 → q_is 0 u1 z1 → Go xs d qM_X11_beginTick 12 Lq [] Sq Q := fun mq b => by intros; exact ih0 b ‹_› ‹_› ‹_› ‹_› ‹_› ‹_›
    unfold fl_X11_beginTick_12 at h
    refine go_iload_n (n := 1) (by decide +kernel) l1 f1 ?_
    refine go_aload_n (n := 0) (by decide +kernel) l0 f0 ?_
    refine go_getf (x := 44) (ci := 12) (kf := 8) (fin := 1) (t := 2) (by decide +kernel) (by decide +kernel) (by decide +kernel) R f0 (fx_k (c := 12) R (by decide +kernel)) fun v_22 f_23 => ?_
    have f_24 := q_is_eq (b := 13) f_23 (fx_v R (by decide +kernel)).symm
    refine go_alen (by decide +kernel) R f_24 (okl_of (fx_k (c := 100) R (by decide +kernel)) (by decide)) fun v_25 f_26 => ?_
    have f_27 := q_is_eq (b := 3) f_26 (by rw [fx_l R (ln := 3) (by decide +kernel)]; decide)
    refine go_icmp (c := .ge) (o := 16) (t := 34) (P := ¬ (y1 < 3)) (by decide +kernel) (by decide +kernel) f1 f_27 (Int.not_lt.symm) (fun hp_28 => ?_) (fun hp_28 => ?_)
    · have h := it_f hp_28 h
      cases h
      exact go_vret (by decide +kernel) rfl (hQ E _ _ R q_out_n)
    · have h := it_n hp_28 h
      refine go_aload_n (n := 0) (by decide +kernel) l0 f0 ?_
      refine go_getf (x := 44) (ci := 12) (kf := 8) (fin := 1) (t := 2) (by decide +kernel) (by decide +kernel) (by decide +kernel) R f0 (fx_k (c := 12) R (by decide +kernel)) fun v_29 f_30 => ?_
      have f_31 := q_is_eq (b := 13) f_30 (fx_v R (by decide +kernel)).symm
      refine go_iload_n (n := 1) (by decide +kernel) l1 f1 ?_
      refine go_iconst (n := 0) (z := 0) (by decide +kernel) (by decide) fun v_32 f_33 => ?_
      obtain ⟨g_34, h⟩ := gd_s h
      obtain ⟨m_35, e_36, h⟩ := up_s h
      refine go_iast (kd := 100) (by decide +kernel) rfl R f_31 f1 f_33 (fx_k (c := 100) R (by decide +kernel)) (fx_x (a := 13) (ln := 3) R (by decide +kernel) g_34) e_36 (fx_a R.2 (fx_k (c := 100) R (by decide +kernel)) (And.left (fx_x (a := 13) (ln := 3) R (by decide +kernel) g_34)) (by decide +kernel)) fun S_37 R_38 E_39 => ?_
      have E_40 := Ext.tr E E_39
      refine go_iinc (n := 1) (c := 1) (c' := 1) (by decide +kernel) (by decide +kernel) l1 f1 (by decide) fun L_41 v_42 f_43 l_44 kp_45 => ?_
      obtain ⟨x_46, e_47, h⟩ := lx_s h
      have f_48 := q_is_eq f_43 e_47
      have l_49 := kp_45 0 _ l0 (by decide) (Or.inr (q_is_cat f0 (Or.inr rfl)))
      refine go_goto (o := (-19)) (t := 12) (by decide +kernel) (by decide +kernel) ?_
      exact ih m_35 E_40 h R_38 l_49 f0 l_44 f_48
noncomputable def fm_X11_beginTick (m0 : MM) : Option (Int × MM) := lx (m0 4 14) fun x_4 =>
up m0 4 14 (w32 (x_4 + 1)) fun m_10 =>
fl_X11_beginTick_12   BIG 0 m_10
set_option maxHeartbeats 4000000 in
theorem om_X11_beginTick {xs : List Int32} {d : Nat} {S : QS} {m0 : MM} {v0 : Value} {rz : Int} {rm : MM}
  (hd : 1 ≤ d) (R : Rp S m0) (f0 : q_is 2 v0 4)
  (h : fm_X11_beginTick m0 = some (rz, rm)) : Mt xs d 175 [v0] S (Cr 9 m0 rm rz) := by
  obtain ⟨d, rfl⟩ : ∃ e, d = e + 1 := ⟨d - 1, by omega⟩
  have hd : 0 ≤ d := Nat.le_of_succ_le_succ hd
  refine Mt.of (M := qM_X11_beginTick) rfl (by rw [sl_1 (q_is_cat f0 (Or.inr rfl)), sl_0]; decide) ?_
  rw [la_1 (q_is_cat f0 (Or.inr rfl)), la_0]
  obtain ⟨L, hL⟩ : ∃ L : QL, L = [(0, v0)] := ⟨_, rfl⟩
  rw [← hL]
  have l0 : q_lo L 0 = some v0 := by rw [hL]; rfl
  have hQ : Ext m0 rm → ∀ o S1, Rp S1 rm → q_out 9 o rz → (Cr 9 m0 rm rz) o S1 := fun a o S1 b e => ⟨b, a, e⟩
  unfold fm_X11_beginTick at h
  refine go_aload_n (n := 0) (by decide +kernel) l0 f0 ?_
  refine go_dup (by decide +kernel) f0 (Or.inr rfl) ?_
  obtain ⟨x_4, e_5, h⟩ := lx_s h
  refine go_getf (x := 71) (ci := 12) (kf := 14) (fin := 0) (t := 0) (by decide +kernel) (by decide +kernel) (by decide +kernel) R f0 (fx_k (c := 12) R (by decide +kernel)) fun v_1 f_2 => ?_
  have f_3 := q_is_eq f_2 e_5
  refine go_iconst (n := 1) (z := 1) (by decide +kernel) (by decide) fun v_6 f_7 => ?_
  refine go_iadd (by decide +kernel) f_3 f_7 fun v_8 f_9 => ?_
  obtain ⟨m_10, e_11, h⟩ := up_s h
  refine go_putf (x := 71) (ci := 12) (kf := 14) (fin := 0) (zt := 0) (by decide +kernel) (by decide +kernel) (by decide) (by decide +kernel) (by decide) (Or.inl rfl) R f0 f_9 (fun hq => absurd hq (by decide)) (fx_k (c := 12) R (by decide +kernel)) e_11 (fx_f (j := 14) R.2 (fx_k (c := 12) R (by decide +kernel)) (by decide +kernel)) fun S_12 R_13 E_14 => ?_
  have E_15 := E_14
  refine go_iconst (n := 0) (z := 0) (by decide +kernel) (by decide) fun v_16 f_17 => ?_
  refine go_istore_n (n := 1) (by decide +kernel) (by decide +kernel) f_17 fun L_18 l_19 kp_20 => ?_
  have l_21 := kp_20 0 _ l0 (by decide) (Or.inr (q_is_cat f0 (Or.inr rfl)))
  refine ol_X11_beginTick_12 hd   (fun b => hQ (Ext.tr E_15 b)) BIG (Ext.rf _) h R_13 l_21 f0 l_19 f_17
noncomputable def fl_X11_fireTimers_13 (y1 y2 : Int) : Nat → Int → Int → MM → Option (Int × MM)
  | 0, _, _, _ => none
  | n + 1, y3, y4, m => if y4 < y2 then
gd (okc m y1 7) <| lx (m y1 18) fun x_40 =>
gd (okc m x_40 6) <| bp (fm_X5_at x_40 y3 m) fun x_44 =>
lx (m 4 14) fun x_55 =>
if x_55 < x_44 then
lx (w32 (y3 + 1)) fun x_138 =>
lx (w32 (y4 + 1)) fun x_150 =>
fl_X11_fireTimers_13 y1 y2 n x_138 x_150 m
else
lx (m y1 17) fun x_63 =>
gd (okc m x_63 6) <| bp (fm_X5_at x_63 y3 m) fun x_67 =>
bd (fm_X11_arrive y1 3 x_67 0 m) fun x_78 m_79 =>
lx (m_79 y1 17) fun x_91 =>
gd (okc m_79 x_91 6) <| bd (fm_X5_removeAt x_91 y3 m_79) fun x_95 m_96 =>
lx (m_96 y1 18) fun x_108 =>
gd (okc m_96 x_108 6) <| bd (fm_X5_removeAt x_108 y3 m_96) fun x_112 m_113 =>
lx (w32 (y4 + 1)) fun x_126 =>
fl_X11_fireTimers_13 y1 y2 n y3 x_126 m_113
else
some (0, m)
set_option maxHeartbeats 4000000 in
theorem ol_X11_fireTimers_13 {xs : List Int32} {d : Nat} {Q : QO → QS → Prop} {mb : MM} {y1 y2 : Int} {rz : Int} {rm : MM}
  (hd : 3 ≤ d)
  (hQ : Ext mb rm → ∀ o S1, Rp S1 rm → q_out 9 o rz → Q o S1) :
  ∀ (n : Nat) {m : MM} {S : QS} {L : QL} {y3 y4 : Int} {v0 : Value} {v1 : Value} {v2 : Value} {v3 : Value} {v4 : Value} , Ext mb m → fl_X11_fireTimers_13 y1 y2 n y3 y4 m = some (rz, rm) → Rp S m → q_lo L 0 = some v0 → q_is 2 v0 4 → q_lo L 1 = some v1 → q_is 2 v1 y1 → q_lo L 2 = some v2 → q_is 0 v2 y2 → q_lo L 3 = some v3 → q_is 0 v3 y3 → q_lo L 4 = some v4 → q_is 0 v4 y4 → Go xs d qM_X11_fireTimers 13 L [] S Q := by
  intro n
  induction n with
  | zero => intro m S L y3 y4 v0 v1 v2 v3 v4; intro E h R l0 f0 l1 f1 l2 f2 l3 f3 l4 f4; cases h
  | succ n ih0 =>
    intro m S L y3 y4 v0 v1 v2 v3 v4; intro E h R l0 f0 l1 f1 l2 f2 l3 f3 l4 f4
    have ih : ∀ mq : MM, Ext mb mq → ∀ {z3 : Int} {z4 : Int} {Sq : QS} {Lq : QL} {u0 : Value} {u1 : Value} {u2 : Value} {u3 : Value} {u4 : Value}, fl_X11_fireTimers_13 y1 y2 n z3 z4 mq = some (rz, rm) → Rp Sq mq → q_lo Lq 0 = some u0 → q_is 2 u0 4 → q_lo Lq 1 = some u1 → q_is 2 u1 y1 → q_lo Lq 2 = some u2 → q_is 0 u2 y2 → q_lo Lq 3 = some u3 → q_is 0 u3 z3 → q_lo Lq 4 = some u4 → q_is 0 u4 z4 → Go xs d qM_X11_fireTimers 13 Lq [] Sq Q := fun mq b => by intros; exact ih0 b ‹_› ‹_› ‹_› ‹_› ‹_› ‹_› ‹_› ‹_› ‹_› ‹_› ‹_› ‹_›
    unfold fl_X11_fireTimers_13 at h
    refine go_iload (n := 4) (by decide +kernel) l4 f4 ?_
    refine go_iload_n (n := 2) (by decide +kernel) l2 f2 ?_
    refine go_icmp (c := .ge) (o := 61) (t := 77) (P := ¬ (y4 < y2)) (by decide +kernel) (by decide +kernel) f4 f2 (Int.not_lt.symm) (fun hp_35 => ?_) (fun hp_35 => ?_)
    · have h := it_f hp_35 h
      cases h
      exact go_vret (by decide +kernel) rfl (hQ E _ _ R q_out_n)
    · have h := it_n hp_35 h
      refine go_aload_n (n := 1) (by decide +kernel) l1 f1 ?_
      obtain ⟨g_38, h⟩ := gd_s h
      obtain ⟨x_40, e_41, h⟩ := lx_s h
      refine go_getf (x := 553) (ci := 7) (kf := 18) (fin := 2) (t := 2) (by decide +kernel) (by decide +kernel) (by decide +kernel) R f1 g_38 fun v_36 f_37 => ?_
      have f_39 := q_is_eq f_37 e_41
      refine go_iload_n (n := 3) (by decide +kernel) l3 f3 ?_
      obtain ⟨g_42, h⟩ := gd_s h
      obtain ⟨x_44, hc_43, h⟩ := bp_s h
      refine go_callV (x := 466) (mi := 59) (n := 1) (ci := 6) (as := [v3]) (rest := []) (by decide +kernel) (by decide +kernel) rfl rfl (q_sum8 _ (Nat.le_of_ble_eq_true rfl)) R f_39 g_42 (om_X5_at (Nat.le_trans (by decide) hd) R g_42 f_39 f3 hc_43) (fun _ S_48 q_51 => ?_) (fun _ _ qq => kr_x qq)
      refine kr_z (by decide) q_51 fun v_46 f_47 R_49 E_50 => ?_
      refine go_aload_n (n := 0) (by decide +kernel) l0 f0 ?_
      obtain ⟨x_55, e_56, h⟩ := lx_s h
      refine go_getf (x := 71) (ci := 12) (kf := 14) (fin := 0) (t := 0) (by decide +kernel) (by decide +kernel) (by decide +kernel) R_49 f0 (fx_k (c := 12) R_49 (by decide +kernel)) fun v_52 f_53 => ?_
      have f_54 := q_is_eq f_53 e_56
      refine go_icmp (c := .le) (o := 9) (t := 40) (P := ¬ (x_55 < x_44)) (by decide +kernel) (by decide +kernel) f_47 f_54 (Int.not_lt.symm) (fun hp_57 => ?_) (fun hp_57 => ?_)
      · have h := it_f hp_57 h
        refine go_aload_n (n := 0) (by decide +kernel) l0 f0 ?_
        refine go_aload_n (n := 1) (by decide +kernel) l1 f1 ?_
        refine go_iconst (n := 3) (z := 3) (by decide +kernel) (by decide) fun v_58 f_59 => ?_
        refine go_aload_n (n := 1) (by decide +kernel) l1 f1 ?_
        obtain ⟨x_63, e_64, h⟩ := lx_s h
        refine go_getf (x := 550) (ci := 7) (kf := 17) (fin := 2) (t := 2) (by decide +kernel) (by decide +kernel) (by decide +kernel) R_49 f1 g_38 fun v_60 f_61 => ?_
        have f_62 := q_is_eq f_61 e_64
        refine go_iload_n (n := 3) (by decide +kernel) l3 f3 ?_
        obtain ⟨g_65, h⟩ := gd_s h
        obtain ⟨x_67, hc_66, h⟩ := bp_s h
        refine go_callV (x := 466) (mi := 59) (n := 1) (ci := 6) (as := [v3]) (rest := [v_58, v1, v0]) (by decide +kernel) (by decide +kernel) rfl rfl (q_sum8 _ (Nat.le_of_ble_eq_true rfl)) R_49 f_62 g_65 (om_X5_at (Nat.le_trans (by decide) hd) R_49 g_65 f_62 f3 hc_66) (fun _ S_71 q_74 => ?_) (fun _ _ qq => kr_x qq)
        refine kr_z (by decide) q_74 fun v_69 f_70 R_72 E_73 => ?_
        refine go_iconst (n := 0) (z := 0) (by decide +kernel) (by decide) fun v_75 f_76 => ?_
        obtain ⟨x_78, m_79, hc_77, h⟩ := bd_s h
        refine go_callV (x := 204) (mi := 152) (n := 4) (ci := 12) (as := [v1, v_58, v_69, v_75]) (rest := []) (by decide +kernel) (by decide +kernel) rfl rfl (q_sum8 _ (Nat.le_of_ble_eq_true rfl)) R_72 f0 (fx_k (c := 12) R_72 (by decide +kernel)) (om_X11_arrive (Nat.le_trans (by decide) hd) R_72 f0 f1 f_59 f_70 f_76 hc_77) (fun _ S_82 q_85 => ?_) (fun _ _ qq => kr_x qq)
        refine kr_v q_85 fun R_83 E_84 => ?_
        have E_86 := Ext.tr E E_84
        refine go_aload_n (n := 1) (by decide +kernel) l1 f1 ?_
        have g_89 := Ext.ok E_84 g_38
        obtain ⟨x_91, e_92, h⟩ := lx_s h
        refine go_getf (x := 550) (ci := 7) (kf := 17) (fin := 2) (t := 2) (by decide +kernel) (by decide +kernel) (by decide +kernel) R_83 f1 g_89 fun v_87 f_88 => ?_
        have f_90 := q_is_eq f_88 e_92
        refine go_iload_n (n := 3) (by decide +kernel) l3 f3 ?_
        obtain ⟨g_93, h⟩ := gd_s h
        obtain ⟨x_95, m_96, hc_94, h⟩ := bd_s h
        refine go_callV (x := 635) (mi := 61) (n := 1) (ci := 6) (as := [v3]) (rest := []) (by decide +kernel) (by decide +kernel) rfl rfl (q_sum8 _ (Nat.le_of_ble_eq_true rfl)) R_83 f_90 g_93 (om_X5_removeAt (Nat.le_trans (by decide) hd) R_83 g_93 f_90 f3 hc_94) (fun _ S_99 q_102 => ?_) (fun _ _ qq => kr_x qq)
        refine kr_v q_102 fun R_100 E_101 => ?_
        have E_103 := Ext.tr E_86 E_101
        refine go_aload_n (n := 1) (by decide +kernel) l1 f1 ?_
        have g_106 := Ext.ok E_101 g_89
        obtain ⟨x_108, e_109, h⟩ := lx_s h
        refine go_getf (x := 553) (ci := 7) (kf := 18) (fin := 2) (t := 2) (by decide +kernel) (by decide +kernel) (by decide +kernel) R_100 f1 g_106 fun v_104 f_105 => ?_
        have f_107 := q_is_eq f_105 e_109
        refine go_iload_n (n := 3) (by decide +kernel) l3 f3 ?_
        obtain ⟨g_110, h⟩ := gd_s h
        obtain ⟨x_112, m_113, hc_111, h⟩ := bd_s h
        refine go_callV (x := 635) (mi := 61) (n := 1) (ci := 6) (as := [v3]) (rest := []) (by decide +kernel) (by decide +kernel) rfl rfl (q_sum8 _ (Nat.le_of_ble_eq_true rfl)) R_100 f_107 g_110 (om_X5_removeAt (Nat.le_trans (by decide) hd) R_100 g_110 f_107 f3 hc_111) (fun _ S_116 q_119 => ?_) (fun _ _ qq => kr_x qq)
        refine kr_v q_119 fun R_117 E_118 => ?_
        have E_120 := Ext.tr E_103 E_118
        refine go_iinc (n := 4) (c := 1) (c' := 1) (by decide +kernel) (by decide +kernel) l4 f4 (by decide) fun L_121 v_122 f_123 l_124 kp_125 => ?_
        obtain ⟨x_126, e_127, h⟩ := lx_s h
        have f_128 := q_is_eq f_123 e_127
        have l_129 := kp_125 0 _ l0 (by decide) (Or.inl (by decide))
        have l_130 := kp_125 1 _ l1 (by decide) (Or.inl (by decide))
        have l_131 := kp_125 2 _ l2 (by decide) (Or.inl (by decide))
        have l_132 := kp_125 3 _ l3 (by decide) (Or.inr (q_is_cat f3 (Or.inl rfl)))
        refine go_goto (o := (-61)) (t := 13) (by decide +kernel) (by decide +kernel) ?_
        exact ih m_113 E_120 h R_117 l_129 f0 l_130 f1 l_131 f2 l_132 f3 l_124 f_128
      · have h := it_n hp_57 h
        refine go_iinc (n := 3) (c := 1) (c' := 1) (by decide +kernel) (by decide +kernel) l3 f3 (by decide) fun L_133 v_134 f_135 l_136 kp_137 => ?_
        obtain ⟨x_138, e_139, h⟩ := lx_s h
        have f_140 := q_is_eq f_135 e_139
        have l_141 := kp_137 0 _ l0 (by decide) (Or.inl (by decide))
        have l_142 := kp_137 1 _ l1 (by decide) (Or.inl (by decide))
        have l_143 := kp_137 2 _ l2 (by decide) (Or.inr (q_is_cat f2 (Or.inl rfl)))
        have l_144 := kp_137 4 _ l4 (by decide) (Or.inl (by decide))
        refine go_goto (o := 34) (t := 71) (by decide +kernel) (by decide +kernel) ?_
        refine go_iinc (n := 4) (c := 1) (c' := 1) (by decide +kernel) (by decide +kernel) l_144 f4 (by decide) fun L_145 v_146 f_147 l_148 kp_149 => ?_
        obtain ⟨x_150, e_151, h⟩ := lx_s h
        have f_152 := q_is_eq f_147 e_151
        have l_153 := kp_149 0 _ l_141 (by decide) (Or.inl (by decide))
        have l_154 := kp_149 1 _ l_142 (by decide) (Or.inl (by decide))
        have l_155 := kp_149 2 _ l_143 (by decide) (Or.inl (by decide))
        have l_156 := kp_149 3 _ l_136 (by decide) (Or.inr (q_is_cat f_140 (Or.inl rfl)))
        refine go_goto (o := (-61)) (t := 13) (by decide +kernel) (by decide +kernel) ?_
        exact ih m E h R_49 l_153 f0 l_154 f1 l_155 f2 l_156 f_140 l_148 f_152
noncomputable def fm_X11_fireTimers (p1 : Int) (m0 : MM) : Option (Int × MM) := gd (okc m0 p1 7) <| lx (m0 p1 17) fun x_5 =>
gd (okc m0 x_5 6) <| lx (m0 x_5 2) fun x_11 =>
fl_X11_fireTimers_13 p1 x_11  BIG 0 0 m0
set_option maxHeartbeats 4000000 in
theorem om_X11_fireTimers {xs : List Int32} {d : Nat} {S : QS} {m0 : MM} {p1 : Int} {v0 : Value} {v1 : Value} {rz : Int} {rm : MM}
  (hd : 4 ≤ d) (R : Rp S m0) (f0 : q_is 2 v0 4) (f1 : q_is 2 v1 p1)
  (h : fm_X11_fireTimers p1 m0 = some (rz, rm)) : Mt xs d 176 [v0, v1] S (Cr 9 m0 rm rz) := by
  obtain ⟨d, rfl⟩ : ∃ e, d = e + 1 := ⟨d - 1, by omega⟩
  have hd : 3 ≤ d := Nat.le_of_succ_le_succ hd
  refine Mt.of (M := qM_X11_fireTimers) rfl (by rw [sl_1 (q_is_cat f0 (Or.inr rfl)), sl_1 (q_is_cat f1 (Or.inr rfl)), sl_0]; decide) ?_
  rw [la_1 (q_is_cat f0 (Or.inr rfl)), la_1 (q_is_cat f1 (Or.inr rfl)), la_0]
  obtain ⟨L, hL⟩ : ∃ L : QL, L = [(0, v0), (0 + 1, v1)] := ⟨_, rfl⟩
  rw [← hL]
  have l0 : q_lo L 0 = some v0 := by rw [hL]; rfl
  have l1 : q_lo L 1 = some v1 := by rw [hL]; rfl
  have hQ : Ext m0 rm → ∀ o S1, Rp S1 rm → q_out 9 o rz → (Cr 9 m0 rm rz) o S1 := fun a o S1 b e => ⟨b, a, e⟩
  unfold fm_X11_fireTimers at h
  refine go_aload_n (n := 1) (by decide +kernel) l1 f1 ?_
  obtain ⟨g_3, h⟩ := gd_s h
  obtain ⟨x_5, e_6, h⟩ := lx_s h
  refine go_getf (x := 550) (ci := 7) (kf := 17) (fin := 2) (t := 2) (by decide +kernel) (by decide +kernel) (by decide +kernel) R f1 g_3 fun v_1 f_2 => ?_
  have f_4 := q_is_eq f_2 e_6
  obtain ⟨g_9, h⟩ := gd_s h
  obtain ⟨x_11, e_12, h⟩ := lx_s h
  refine go_getf (x := 108) (ci := 6) (kf := 2) (fin := 0) (t := 0) (by decide +kernel) (by decide +kernel) (by decide +kernel) R f_4 g_9 fun v_7 f_8 => ?_
  have f_10 := q_is_eq f_8 e_12
  refine go_istore_n (n := 2) (by decide +kernel) (by decide +kernel) f_10 fun L_13 l_14 kp_15 => ?_
  have l_16 := kp_15 0 _ l0 (by decide) (Or.inl (by decide))
  have l_17 := kp_15 1 _ l1 (by decide) (Or.inr (q_is_cat f1 (Or.inr rfl)))
  refine go_iconst (n := 0) (z := 0) (by decide +kernel) (by decide) fun v_18 f_19 => ?_
  refine go_istore_n (n := 3) (by decide +kernel) (by decide +kernel) f_19 fun L_20 l_21 kp_22 => ?_
  have l_23 := kp_22 0 _ l_16 (by decide) (Or.inl (by decide))
  have l_24 := kp_22 1 _ l_17 (by decide) (Or.inl (by decide))
  have l_25 := kp_22 2 _ l_14 (by decide) (Or.inr (q_is_cat f_10 (Or.inl rfl)))
  refine go_iconst (n := 0) (z := 0) (by decide +kernel) (by decide) fun v_26 f_27 => ?_
  refine go_istore (n := 4) (by decide +kernel) (by decide +kernel) f_27 fun L_28 l_29 kp_30 => ?_
  have l_31 := kp_30 0 _ l_23 (by decide) (Or.inl (by decide))
  have l_32 := kp_30 1 _ l_24 (by decide) (Or.inl (by decide))
  have l_33 := kp_30 2 _ l_25 (by decide) (Or.inl (by decide))
  have l_34 := kp_30 3 _ l_21 (by decide) (Or.inr (q_is_cat f_19 (Or.inl rfl)))
  refine ol_X11_fireTimers_13 hd   hQ BIG (Ext.rf _) h R l_31 f0 l_32 f1 l_33 f_10 l_34 f_19 l_29 f_27
noncomputable def fm_X11_isReached (p1 p2 : Int) (m0 : MM) : Option Int := if 0 < p1 then
lx (m0 4 14) fun x_7 =>
if w32 (x_7 - p2) < p1 then
some 0
else
some 1
else
some 0
set_option maxHeartbeats 4000000 in
theorem om_X11_isReached {xs : List Int32} {d : Nat} {S : QS} {m0 : MM} {p1 p2 : Int} {v0 : Value} {v1 : Value} {v2 : Value} {rz : Int}
  (hd : 1 ≤ d) (R : Rp S m0) (f0 : q_is 2 v0 4) (f1 : q_is 0 v1 p1) (f2 : q_is 0 v2 p2)
  (h : fm_X11_isReached p1 p2 m0 = some rz) : Mt xs d 178 [v0, v1, v2] S (Cr 0 m0 m0 rz) := by
  obtain ⟨d, rfl⟩ : ∃ e, d = e + 1 := ⟨d - 1, by omega⟩
  have hd : 0 ≤ d := Nat.le_of_succ_le_succ hd
  refine Mt.of (M := qM_X11_isReached) rfl (by rw [sl_1 (q_is_cat f0 (Or.inr rfl)), sl_1 (q_is_cat f1 (Or.inl rfl)), sl_1 (q_is_cat f2 (Or.inl rfl)), sl_0]; decide) ?_
  rw [la_1 (q_is_cat f0 (Or.inr rfl)), la_1 (q_is_cat f1 (Or.inl rfl)), la_1 (q_is_cat f2 (Or.inl rfl)), la_0]
  obtain ⟨L, hL⟩ : ∃ L : QL, L = [(0, v0), (0 + 1, v1), (0 + 1 + 1, v2)] := ⟨_, rfl⟩
  rw [← hL]
  have l0 : q_lo L 0 = some v0 := by rw [hL]; rfl
  have l1 : q_lo L 1 = some v1 := by rw [hL]; rfl
  have l2 : q_lo L 2 = some v2 := by rw [hL]; rfl
  have hQ : ∀ o S1, Rp S1 m0 → q_out 0 o rz → (Cr 0 m0 m0 rz) o S1 := fun o S1 a b => ⟨a, Ext.rf _, b⟩
  unfold fm_X11_isReached at h
  refine go_iload_n (n := 1) (by decide +kernel) l1 f1 ?_
  refine go_if (c := .le) (o := 17) (t := 18) (P := ¬ (0 < p1)) (by decide +kernel) (by decide +kernel) f1 (Int.not_lt.symm) (fun hp_1 => ?_) (fun hp_1 => ?_)
  · have h := it_f hp_1 h
    refine go_iconst (n := 0) (z := 0) (by decide +kernel) (by decide) fun v_2 f_3 => ?_
    cases h
    exact go_iret (by decide +kernel) rfl (Or.inr ⟨rfl, by decide⟩) f_3 (hQ _ _ R (q_out_v (by decide) f_3))
  · have h := it_n hp_1 h
    refine go_aload_n (n := 0) (by decide +kernel) l0 f0 ?_
    obtain ⟨x_7, e_8, h⟩ := lx_s h
    refine go_getf (x := 71) (ci := 12) (kf := 14) (fin := 0) (t := 0) (by decide +kernel) (by decide +kernel) (by decide +kernel) R f0 (fx_k (c := 12) R (by decide +kernel)) fun v_4 f_5 => ?_
    have f_6 := q_is_eq f_5 e_8
    refine go_iload_n (n := 2) (by decide +kernel) l2 f2 ?_
    refine go_isub (by decide +kernel) f_6 f2 fun v_9 f_10 => ?_
    refine go_iload_n (n := 1) (by decide +kernel) l1 f1 ?_
    refine go_icmp (c := .lt) (o := 7) (t := 18) (P := w32 (x_7 - p2) < p1) (by decide +kernel) (by decide +kernel) f_10 f1 (Iff.rfl) (fun hp_11 => ?_) (fun hp_11 => ?_)
    · have h := it_t hp_11 h
      refine go_iconst (n := 0) (z := 0) (by decide +kernel) (by decide) fun v_12 f_13 => ?_
      cases h
      exact go_iret (by decide +kernel) rfl (Or.inr ⟨rfl, by decide⟩) f_13 (hQ _ _ R (q_out_v (by decide) f_13))
    · have h := it_f hp_11 h
      refine go_iconst (n := 1) (z := 1) (by decide +kernel) (by decide) fun v_14 f_15 => ?_
      refine go_goto (o := 4) (t := 19) (by decide +kernel) (by decide +kernel) ?_
      cases h
      exact go_iret (by decide +kernel) rfl (Or.inr ⟨rfl, by decide⟩) f_15 (hQ _ _ R (q_out_v (by decide) f_15))
noncomputable def fj_X11_lookAtActivity_107 (y1 : Int) (m : MM) : Option (Int × MM) := bd (fm_X11_failAttempt y1 0 m) fun x_75 m_76 =>
some (0, m_76)
set_option maxHeartbeats 4000000 in
theorem oj_X11_lookAtActivity_107 {xs : List Int32} {d : Nat} {S : QS} {L : QL} {Q : QO → QS → Prop} {m : MM} {y1 : Int} {v0 : Value} {v1 : Value}  {rz : Int} {rm : MM}
  (hd : 4 ≤ d) (R : Rp S m) (l0 : q_lo L 0 = some v0) (f0 : q_is 2 v0 4) (l1 : q_lo L 1 = some v1) (f1 : q_is 2 v1 y1)
  (hQ : Ext m rm → ∀ o S1, Rp S1 rm → q_out 9 o rz → Q o S1)
  (h : fj_X11_lookAtActivity_107 y1 m = some (rz, rm)) : Go xs d qM_X11_lookAtActivity 107 L [] S Q := by
  unfold fj_X11_lookAtActivity_107 at h
  refine go_aload_n (n := 0) (by decide +kernel) l0 f0 ?_
  refine go_aload_n (n := 1) (by decide +kernel) l1 f1 ?_
  refine go_iconst (n := 0) (z := 0) (by decide +kernel) (by decide) fun v_72 f_73 => ?_
  obtain ⟨x_75, m_76, hc_74, h⟩ := bd_s h
  refine go_callV (x := 370) (mi := 179) (n := 2) (ci := 12) (as := [v1, v_72]) (rest := []) (by decide +kernel) (by decide +kernel) rfl rfl (q_sum8 _ (Nat.le_of_ble_eq_true rfl)) R f0 (fx_k (c := 12) R (by decide +kernel)) (om_X11_failAttempt (Nat.le_trans (by decide) hd) R f0 f1 f_73 hc_74) (fun _ S_79 q_82 => ?_) (fun _ _ qq => kr_x qq)
  refine kr_v q_82 fun R_80 E_81 => ?_
  have E_83 := E_81
  cases h
  exact go_vret (by decide +kernel) rfl (hQ E_83 _ _ R_80 q_out_n)
noncomputable def fj_X11_lookAtActivity_69 (y1 y2 : Int) (m : MM) : Option (Int × MM) := gd (okc m y1 1) <| lx (m y1 5) fun x_46 =>
if x_46 = 1 then
gd (okc m y2 4) <| lx (m y2 3) fun x_55 =>
lx (m y1 8) fun x_60 =>
bp (fm_X11_isReached x_55 x_60 m) fun x_63 =>
if x_63 = 0 then
lx (m y2 4) fun x_87 =>
lx (m y1 9) fun x_92 =>
bp (fm_X11_isReached x_87 x_92 m) fun x_95 =>
if x_95 = 0 then
some (0, m)
else
fj_X11_lookAtActivity_107 y1 m
else
fj_X11_lookAtActivity_107 y1 m
else
some (0, m)
set_option maxHeartbeats 4000000 in
theorem oj_X11_lookAtActivity_69 {xs : List Int32} {d : Nat} {S : QS} {L : QL} {Q : QO → QS → Prop} {m : MM} {y1 y2 : Int} {v0 : Value} {v1 : Value} {v2 : Value}  {rz : Int} {rm : MM}
  (hd : 4 ≤ d) (R : Rp S m) (l0 : q_lo L 0 = some v0) (f0 : q_is 2 v0 4) (l1 : q_lo L 1 = some v1) (f1 : q_is 2 v1 y1) (l2 : q_lo L 2 = some v2) (f2 : q_is 2 v2 y2)
  (hQ : Ext m rm → ∀ o S1, Rp S1 rm → q_out 9 o rz → Q o S1)
  (h : fj_X11_lookAtActivity_69 y1 y2 m = some (rz, rm)) : Go xs d qM_X11_lookAtActivity 69 L [] S Q := by
  unfold fj_X11_lookAtActivity_69 at h
  refine go_aload_n (n := 1) (by decide +kernel) l1 f1 ?_
  obtain ⟨g_44, h⟩ := gd_s h
  obtain ⟨x_46, e_47, h⟩ := lx_s h
  refine go_getf (x := 351) (ci := 1) (kf := 5) (fin := 0) (t := 0) (by decide +kernel) (by decide +kernel) (by decide +kernel) R f1 g_44 fun v_42 f_43 => ?_
  have f_45 := q_is_eq f_43 e_47
  refine go_iconst (n := 1) (z := 1) (by decide +kernel) (by decide) fun v_48 f_49 => ?_
  refine go_icmp (c := .ne) (o := 39) (t := 113) (P := ¬ (x_46 = 1)) (by decide +kernel) (by decide +kernel) f_45 f_49 (Iff.rfl) (fun hp_50 => ?_) (fun hp_50 => ?_)
  · have h := it_f hp_50 h
    cases h
    exact go_vret (by decide +kernel) rfl (hQ (Ext.rf _) _ _ R q_out_n)
  · have h := it_n hp_50 h
    refine go_aload_n (n := 0) (by decide +kernel) l0 f0 ?_
    refine go_aload_n (n := 2) (by decide +kernel) l2 f2 ?_
    obtain ⟨g_53, h⟩ := gd_s h
    obtain ⟨x_55, e_56, h⟩ := lx_s h
    refine go_getf (x := 152) (ci := 4) (kf := 3) (fin := 0) (t := 0) (by decide +kernel) (by decide +kernel) (by decide +kernel) R f2 g_53 fun v_51 f_52 => ?_
    have f_54 := q_is_eq f_52 e_56
    refine go_aload_n (n := 1) (by decide +kernel) l1 f1 ?_
    obtain ⟨x_60, e_61, h⟩ := lx_s h
    refine go_getf (x := 645) (ci := 1) (kf := 8) (fin := 0) (t := 0) (by decide +kernel) (by decide +kernel) (by decide +kernel) R f1 g_44 fun v_57 f_58 => ?_
    have f_59 := q_is_eq f_58 e_61
    obtain ⟨x_63, hc_62, h⟩ := bp_s h
    refine go_callV (x := 641) (mi := 178) (n := 2) (ci := 12) (as := [v_51, v_57]) (rest := []) (by decide +kernel) (by decide +kernel) rfl rfl (q_sum8 _ (Nat.le_of_ble_eq_true rfl)) R f0 (fx_k (c := 12) R (by decide +kernel)) (om_X11_isReached (Nat.le_trans (by decide) hd) R f0 f_54 f_59 hc_62) (fun _ S_67 q_70 => ?_) (fun _ _ qq => kr_x qq)
    refine kr_z (by decide) q_70 fun v_65 f_66 R_68 E_69 => ?_
    refine go_if (c := .ne) (o := 18) (t := 107) (P := ¬ (x_63 = 0)) (by decide +kernel) (by decide +kernel) f_66 (Iff.rfl) (fun hp_71 => ?_) (fun hp_71 => ?_)
    · have h := it_f hp_71 h
      exact oj_X11_lookAtActivity_107 hd R_68 l0 f0 l1 f1 hQ h
    · have h := it_n hp_71 h
      refine go_aload_n (n := 0) (by decide +kernel) l0 f0 ?_
      refine go_aload_n (n := 2) (by decide +kernel) l2 f2 ?_
      obtain ⟨x_87, e_88, h⟩ := lx_s h
      refine go_getf (x := 155) (ci := 4) (kf := 4) (fin := 0) (t := 0) (by decide +kernel) (by decide +kernel) (by decide +kernel) R_68 f2 g_53 fun v_84 f_85 => ?_
      have f_86 := q_is_eq f_85 e_88
      refine go_aload_n (n := 1) (by decide +kernel) l1 f1 ?_
      obtain ⟨x_92, e_93, h⟩ := lx_s h
      refine go_getf (x := 377) (ci := 1) (kf := 9) (fin := 0) (t := 0) (by decide +kernel) (by decide +kernel) (by decide +kernel) R_68 f1 g_44 fun v_89 f_90 => ?_
      have f_91 := q_is_eq f_90 e_93
      obtain ⟨x_95, hc_94, h⟩ := bp_s h
      refine go_callV (x := 641) (mi := 178) (n := 2) (ci := 12) (as := [v_84, v_89]) (rest := []) (by decide +kernel) (by decide +kernel) rfl rfl (q_sum8 _ (Nat.le_of_ble_eq_true rfl)) R_68 f0 (fx_k (c := 12) R_68 (by decide +kernel)) (om_X11_isReached (Nat.le_trans (by decide) hd) R_68 f0 f_86 f_91 hc_94) (fun _ S_99 q_102 => ?_) (fun _ _ qq => kr_x qq)
      refine kr_z (by decide) q_102 fun v_97 f_98 R_100 E_101 => ?_
      refine go_if (c := .eq) (o := 9) (t := 113) (P := x_95 = 0) (by decide +kernel) (by decide +kernel) f_98 (Iff.rfl) (fun hp_103 => ?_) (fun hp_103 => ?_)
      · have h := it_t hp_103 h
        cases h
        exact go_vret (by decide +kernel) rfl (hQ (Ext.rf _) _ _ R_100 q_out_n)
      · have h := it_f hp_103 h
        exact oj_X11_lookAtActivity_107 hd R_100 l0 f0 l1 f1 hQ h
noncomputable def fm_X11_lookAtActivity (p1 : Int) (m0 : MM) : Option (Int × MM) := gd (okc m0 p1 1) <| lx (m0 p1 2) fun x_8 =>
bp (fm_J9_floorMod_7cf53 x_8 4 m0) fun x_17 =>
gd (0 ≤ x_17 ∧ x_17 < 4) <| lx (m0 6 x_17) fun x_29 =>
lx (m0 p1 5) fun x_39 =>
if x_39 = 0 then
lx (m0 p1 6) fun x_107 =>
if x_107 = 0 then
gd (okc m0 x_29 4) <| lx (m0 x_29 2) fun x_114 =>
lx (m0 p1 4) fun x_119 =>
bp (fm_X11_isReached x_114 x_119 m0) fun x_122 =>
if x_122 = 0 then
some (0, m0)
else
up m0 p1 5 2 fun m_133 =>
lx (m_133 p1 0) fun x_143 =>
lx (m_133 p1 1) fun x_150 =>
bd (fm_X11_arrive x_143 2 x_150 0 m_133) fun x_155 m_156 =>
some (0, m_156)
else
fj_X11_lookAtActivity_69 p1 x_29 m0
else
fj_X11_lookAtActivity_69 p1 x_29 m0
set_option maxHeartbeats 4000000 in
theorem om_X11_lookAtActivity {xs : List Int32} {d : Nat} {S : QS} {m0 : MM} {p1 : Int} {v0 : Value} {v1 : Value} {rz : Int} {rm : MM}
  (hd : 5 ≤ d) (R : Rp S m0) (f0 : q_is 2 v0 4) (f1 : q_is 2 v1 p1)
  (h : fm_X11_lookAtActivity p1 m0 = some (rz, rm)) : Mt xs d 177 [v0, v1] S (Cr 9 m0 rm rz) := by
  obtain ⟨d, rfl⟩ : ∃ e, d = e + 1 := ⟨d - 1, by omega⟩
  have hd : 4 ≤ d := Nat.le_of_succ_le_succ hd
  refine Mt.of (M := qM_X11_lookAtActivity) rfl (by rw [sl_1 (q_is_cat f0 (Or.inr rfl)), sl_1 (q_is_cat f1 (Or.inr rfl)), sl_0]; decide) ?_
  rw [la_1 (q_is_cat f0 (Or.inr rfl)), la_1 (q_is_cat f1 (Or.inr rfl)), la_0]
  obtain ⟨L, hL⟩ : ∃ L : QL, L = [(0, v0), (0 + 1, v1)] := ⟨_, rfl⟩
  rw [← hL]
  have l0 : q_lo L 0 = some v0 := by rw [hL]; rfl
  have l1 : q_lo L 1 = some v1 := by rw [hL]; rfl
  have hQ : Ext m0 rm → ∀ o S1, Rp S1 rm → q_out 9 o rz → (Cr 9 m0 rm rz) o S1 := fun a o S1 b e => ⟨b, a, e⟩
  unfold fm_X11_lookAtActivity at h
  refine go_aload_n (n := 0) (by decide +kernel) l0 f0 ?_
  refine go_getf (x := 17) (ci := 12) (kf := 1) (fin := 1) (t := 2) (by decide +kernel) (by decide +kernel) (by decide +kernel) R f0 (fx_k (c := 12) R (by decide +kernel)) fun v_1 f_2 => ?_
  have f_3 := q_is_eq (b := 6) f_2 (fx_v R (by decide +kernel)).symm
  refine go_aload_n (n := 1) (by decide +kernel) l1 f1 ?_
  obtain ⟨g_6, h⟩ := gd_s h
  obtain ⟨x_8, e_9, h⟩ := lx_s h
  refine go_getf (x := 349) (ci := 1) (kf := 2) (fin := 2) (t := 0) (by decide +kernel) (by decide +kernel) (by decide +kernel) R f1 g_6 fun v_4 f_5 => ?_
  have f_7 := q_is_eq f_5 e_9
  refine go_aload_n (n := 0) (by decide +kernel) l0 f0 ?_
  refine go_getf (x := 17) (ci := 12) (kf := 1) (fin := 1) (t := 2) (by decide +kernel) (by decide +kernel) (by decide +kernel) R f0 (fx_k (c := 12) R (by decide +kernel)) fun v_10 f_11 => ?_
  have f_12 := q_is_eq (b := 6) f_11 (fx_v R (by decide +kernel)).symm
  refine go_alen (by decide +kernel) R f_12 (okl_of (fx_k (c := 104) R (by decide +kernel)) (by decide)) fun v_13 f_14 => ?_
  have f_15 := q_is_eq (b := 4) f_14 (by rw [fx_l R (ln := 4) (by decide +kernel)]; decide)
  obtain ⟨x_17, hc_16, h⟩ := bp_s h
  refine go_callS (x := 496) (mi := 318) (n := 2) (b := 0) (as := [v_4, v_13]) (rest := [v_1]) (by decide +kernel) (by decide +kernel) rfl rfl (q_sum8 _ (Nat.le_of_ble_eq_true rfl)) (om_J9_floorMod_7cf53 (Nat.le_trans (by decide) hd) R f_7 f_15 hc_16) (fun _ S_21 q_24 => ?_) (fun _ _ qq => kr_x qq)
  refine kr_z (by decide) q_24 fun v_19 f_20 R_22 E_23 => ?_
  obtain ⟨g_27, h⟩ := gd_s h
  obtain ⟨x_29, e_30, h⟩ := lx_s h
  refine go_aald (kd := 104) (by decide +kernel) (by decide) R_22 f_3 f_20 (fx_k (c := 104) R_22 (by decide +kernel)) (fx_x (a := 6) (ln := 4) R_22 (by decide +kernel) g_27) fun v_25 f_26 => ?_
  have f_28 := q_is_eq f_26 e_30
  refine go_astore_n (n := 2) (by decide +kernel) (by decide +kernel) f_28 fun L_31 l_32 kp_33 => ?_
  have l_34 := kp_33 0 _ l0 (by decide) (Or.inl (by decide))
  have l_35 := kp_33 1 _ l1 (by decide) (Or.inr (q_is_cat f1 (Or.inr rfl)))
  refine go_aload_n (n := 1) (by decide +kernel) l_35 f1 ?_
  obtain ⟨x_39, e_40, h⟩ := lx_s h
  refine go_getf (x := 351) (ci := 1) (kf := 5) (fin := 0) (t := 0) (by decide +kernel) (by decide +kernel) (by decide +kernel) R_22 f1 g_6 fun v_36 f_37 => ?_
  have f_38 := q_is_eq f_37 e_40
  refine go_if (c := .ne) (o := 47) (t := 69) (P := ¬ (x_39 = 0)) (by decide +kernel) (by decide +kernel) f_38 (Iff.rfl) (fun hp_41 => ?_) (fun hp_41 => ?_)
  · have h := it_f hp_41 h
    exact oj_X11_lookAtActivity_69 hd R_22 l_34 f0 l_35 f1 l_32 f_28 hQ h
  · have h := it_n hp_41 h
    refine go_aload_n (n := 1) (by decide +kernel) l_35 f1 ?_
    obtain ⟨x_107, e_108, h⟩ := lx_s h
    refine go_getf (x := 380) (ci := 1) (kf := 6) (fin := 0) (t := 0) (by decide +kernel) (by decide +kernel) (by decide +kernel) R_22 f1 g_6 fun v_104 f_105 => ?_
    have f_106 := q_is_eq f_105 e_108
    refine go_if (c := .ne) (o := 40) (t := 69) (P := ¬ (x_107 = 0)) (by decide +kernel) (by decide +kernel) f_106 (Iff.rfl) (fun hp_109 => ?_) (fun hp_109 => ?_)
    · have h := it_f hp_109 h
      exact oj_X11_lookAtActivity_69 hd R_22 l_34 f0 l_35 f1 l_32 f_28 hQ h
    · have h := it_n hp_109 h
      refine go_aload_n (n := 0) (by decide +kernel) l_34 f0 ?_
      refine go_aload_n (n := 2) (by decide +kernel) l_32 f_28 ?_
      obtain ⟨g_112, h⟩ := gd_s h
      obtain ⟨x_114, e_115, h⟩ := lx_s h
      refine go_getf (x := 149) (ci := 4) (kf := 2) (fin := 0) (t := 0) (by decide +kernel) (by decide +kernel) (by decide +kernel) R_22 f_28 g_112 fun v_110 f_111 => ?_
      have f_113 := q_is_eq f_111 e_115
      refine go_aload_n (n := 1) (by decide +kernel) l_35 f1 ?_
      obtain ⟨x_119, e_120, h⟩ := lx_s h
      refine go_getf (x := 638) (ci := 1) (kf := 4) (fin := 2) (t := 0) (by decide +kernel) (by decide +kernel) (by decide +kernel) R_22 f1 g_6 fun v_116 f_117 => ?_
      have f_118 := q_is_eq f_117 e_120
      obtain ⟨x_122, hc_121, h⟩ := bp_s h
      refine go_callV (x := 641) (mi := 178) (n := 2) (ci := 12) (as := [v_110, v_116]) (rest := []) (by decide +kernel) (by decide +kernel) rfl rfl (q_sum8 _ (Nat.le_of_ble_eq_true rfl)) R_22 f0 (fx_k (c := 12) R_22 (by decide +kernel)) (om_X11_isReached (Nat.le_trans (by decide) hd) R_22 f0 f_113 f_118 hc_121) (fun _ S_126 q_129 => ?_) (fun _ _ qq => kr_x qq)
      refine kr_z (by decide) q_129 fun v_124 f_125 R_127 E_128 => ?_
      refine go_if (c := .eq) (o := 69) (t := 113) (P := x_122 = 0) (by decide +kernel) (by decide +kernel) f_125 (Iff.rfl) (fun hp_130 => ?_) (fun hp_130 => ?_)
      · have h := it_t hp_130 h
        cases h
        exact go_vret (by decide +kernel) rfl (hQ (Ext.rf _) _ _ R_127 q_out_n)
      · have h := it_f hp_130 h
        refine go_aload_n (n := 1) (by decide +kernel) l_35 f1 ?_
        refine go_iconst (n := 2) (z := 2) (by decide +kernel) (by decide) fun v_131 f_132 => ?_
        obtain ⟨m_133, e_134, h⟩ := up_s h
        refine go_putf (x := 351) (ci := 1) (kf := 5) (fin := 0) (zt := 0) (by decide +kernel) (by decide +kernel) (by decide) (by decide +kernel) (by decide) (Or.inl rfl) R_127 f1 f_132 (fun hq => absurd hq (by decide)) g_6 e_134 (fx_f (j := 5) R_127.2 g_6 (by decide +kernel)) fun S_135 R_136 E_137 => ?_
        have E_138 := E_137
        refine go_aload_n (n := 0) (by decide +kernel) l_34 f0 ?_
        refine go_aload_n (n := 1) (by decide +kernel) l_35 f1 ?_
        have g_141 := Ext.ok E_137 g_6
        obtain ⟨x_143, e_144, h⟩ := lx_s h
        refine go_getf (x := 366) (ci := 1) (kf := 0) (fin := 2) (t := 2) (by decide +kernel) (by decide +kernel) (by decide +kernel) R_136 f1 g_141 fun v_139 f_140 => ?_
        have f_142 := q_is_eq f_140 e_144
        refine go_iconst (n := 2) (z := 2) (by decide +kernel) (by decide) fun v_145 f_146 => ?_
        refine go_aload_n (n := 1) (by decide +kernel) l_35 f1 ?_
        obtain ⟨x_150, e_151, h⟩ := lx_s h
        refine go_getf (x := 367) (ci := 1) (kf := 1) (fin := 2) (t := 0) (by decide +kernel) (by decide +kernel) (by decide +kernel) R_136 f1 g_141 fun v_147 f_148 => ?_
        have f_149 := q_is_eq f_148 e_151
        refine go_iconst (n := 0) (z := 0) (by decide +kernel) (by decide) fun v_152 f_153 => ?_
        obtain ⟨x_155, m_156, hc_154, h⟩ := bd_s h
        refine go_callV (x := 204) (mi := 152) (n := 4) (ci := 12) (as := [v_139, v_145, v_147, v_152]) (rest := []) (by decide +kernel) (by decide +kernel) rfl rfl (q_sum8 _ (Nat.le_of_ble_eq_true rfl)) R_136 f0 (fx_k (c := 12) R_136 (by decide +kernel)) (om_X11_arrive (Nat.le_trans (by decide) hd) R_136 f0 f_142 f_146 f_149 f_153 hc_154) (fun _ S_159 q_162 => ?_) (fun _ _ qq => kr_x qq)
        refine kr_v q_162 fun R_160 E_161 => ?_
        have E_163 := Ext.tr E_138 E_161
        refine go_goto (o := 47) (t := 113) (by decide +kernel) (by decide +kernel) ?_
        cases h
        exact go_vret (by decide +kernel) rfl (hQ E_163 _ _ R_160 q_out_n)
end DF19
