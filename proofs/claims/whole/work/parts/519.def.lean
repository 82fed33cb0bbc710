/-! Methods as functions (written by wip/whole/dec.py), 19: X11_activityAt, X11_answer, X11_failAttempt, X11_fail, X11_beat, X11_activity, X11_beginTick, X11_fireTimers, X11_isReached, X11_lookAtActivity. -/
section DF19
noncomputable def fm_X11_activityAt (p1 : Int) (m0 : MM) : Option ((Int ⊕ Nat) × MM) := if p1 < 0 then
some (.inr 0, mthr m0)
else
bp (fm_Jx4a65c_size_8abf5 8 m0) fun x_6 =>
if p1 < x_6 then
bp (fm_Jx4a65c_get_915e3 8 p1 m0) fun x_19 =>
gd (okc m0 x_19 1) <| some (.inl x_19, m0)
else
some (.inr 0, mthr m0)
set_option maxHeartbeats 4000000 in
theorem om_X11_activityAt {xs : List Int32} {d : Nat} {S : QS} {m0 : MM} {p1 : Int} {v0 : Value} {v1 : Value} {rr : Int ⊕ Nat} {rm : MM}
  (hd : 4 ≤ d) (R : Rp S m0) (f0 : q_is 2 v0 4) (f1 : q_is 0 v1 p1)
  (h : fm_X11_activityAt p1 m0 = some (rr, rm)) : Mt xs d 140 [v0, v1] S (Cx 2 m0 rm rr) := by
  obtain ⟨d, rfl⟩ : ∃ e, d = e + 1 := ⟨d - 1, by omega⟩
  have hd : 3 ≤ d := Nat.le_of_succ_le_succ hd
  refine Mt.of (M := qM_X11_activityAt) rfl (by rw [sl_1 (q_is_cat f0 (Or.inr rfl)), sl_1 (q_is_cat f1 (Or.inl rfl)), sl_0]; decide) ?_
  rw [la_1 (q_is_cat f0 (Or.inr rfl)), la_1 (q_is_cat f1 (Or.inl rfl)), la_0]
  obtain ⟨L, hL⟩ : ∃ L : QL, L = [(0, v0), (0 + 1, v1)] := ⟨_, rfl⟩
  rw [← hL]
  have l0 : q_lo L 0 = some v0 := by rw [hL]; rfl
  have l1 : q_lo L 1 = some v1 := by rw [hL]; rfl
  have hQ : Ext m0 rm → ∀ o S1, Rp S1 rm → q_oux 2 o rr → (Cx 2 m0 rm rr) o S1 := fun a o S1 b e => ⟨b, a, e⟩
  unfold fm_X11_activityAt at h
  refine go_iload_n (n := 1) (by decide +kernel) l1 f1 ?_
  refine go_if (c := .lt) (o := 14) (t := 15) (P := p1 < 0) (by decide +kernel) (by decide +kernel) f1 (Iff.rfl) (fun hp_1 => ?_) (fun hp_1 => ?_)
  · have h := it_t hp_1 h
    cases h
    exact go_thr (x := 255) (e := 0) (ic := 259) (b := 0) (by decide +kernel) (by decide +kernel) (by decide +kernel) R rfl fun Sq Rq Eq => hQ Eq _ _ Rq rfl
  · have h := it_f hp_1 h
    refine go_iload_n (n := 1) (by decide +kernel) l1 f1 ?_
    refine go_aload_n (n := 0) (by decide +kernel) l0 f0 ?_
    refine go_getf (x := 28) (ci := 12) (kf := 3) (fin := 1) (t := 2) (by decide +kernel) (by decide +kernel) (by decide +kernel) R f0 (fx_k (c := 12) R (by decide +kernel)) fun v_2 f_3 => ?_
    have f_4 := q_is_eq (b := 8) f_3 (fx_v R (by decide +kernel)).symm
    obtain ⟨x_6, hc_5, h⟩ := bp_s h
    refine go_callV (x := 127) (mi := 326) (n := 0) (ci := 0) (as := []) (rest := [v1]) (by decide +kernel) (by decide +kernel) rfl rfl (q_sum8 _ (Nat.le_of_ble_eq_true rfl)) R f_4 (fx_k (c := 0) R (by decide +kernel)) (om_Jx4a65c_size_8abf5 (Nat.le_trans (by decide) hd) R (fx_k (c := 0) R (by decide +kernel)) f_4 hc_5) (fun _ S_10 q_13 => ?_) (fun _ _ qq => kr_x qq)
    refine kr_z (by decide) q_13 fun v_8 f_9 R_11 E_12 => ?_
    refine go_icmp (c := .lt) (o := 14) (t := 26) (P := p1 < x_6) (by decide +kernel) (by decide +kernel) f1 f_9 (Iff.rfl) (fun hp_14 => ?_) (fun hp_14 => ?_)
    · have h := it_t hp_14 h
      refine go_aload_n (n := 0) (by decide +kernel) l0 f0 ?_
      refine go_getf (x := 28) (ci := 12) (kf := 3) (fin := 1) (t := 2) (by decide +kernel) (by decide +kernel) (by decide +kernel) R_11 f0 (fx_k (c := 12) R_11 (by decide +kernel)) fun v_15 f_16 => ?_
      have f_17 := q_is_eq (b := 8) f_16 (fx_v R_11 (by decide +kernel)).symm
      refine go_iload_n (n := 1) (by decide +kernel) l1 f1 ?_
      obtain ⟨x_19, hc_18, h⟩ := bp_s h
      refine go_callV (x := 305) (mi := 329) (n := 1) (ci := 0) (as := [v1]) (rest := []) (by decide +kernel) (by decide +kernel) rfl rfl (q_sum8 _ (Nat.le_of_ble_eq_true rfl)) R_11 f_17 (fx_k (c := 0) R_11 (by decide +kernel)) (om_Jx4a65c_get_915e3 (Nat.le_trans (by decide) hd) R_11 (fx_k (c := 0) R_11 (by decide +kernel)) f_17 f1 hc_18) (fun _ S_23 q_26 => ?_) (fun _ _ qq => kr_x qq)
      refine kr_z (by decide) q_26 fun v_21 f_22 R_24 E_25 => ?_
      obtain ⟨g_27, h⟩ := gd_s h
      refine go_cast (x := 347) (kd := 1) (a := 0) (b := 0) (by decide +kernel) (by decide +kernel) R_24 f_22 g_27 ?_
      cases h
      exact go_aret (by decide +kernel) rfl rfl f_22 (hQ (Ext.rf _) _ _ R_24 (q_out_v (by decide) f_22))
    · have h := it_f hp_14 h
      cases h
      exact go_thr (x := 255) (e := 0) (ic := 259) (b := 0) (by decide +kernel) (by decide +kernel) (by decide +kernel) R_11 rfl fun Sq Rq Eq => hQ Eq _ _ Rq rfl
noncomputable def fm_X11_answer (p1 p2 : Int) (m0 : MM) : Option ((Int ⊕ Nat) × MM) := bx (fm_X11_activityAt p1 m0) (fun q_10 m_3 => some (.inr q_10, m_3)) fun x_2 m_3 =>
bx (fm_X11_checkValue p2 m_3) (fun q_31 m_24 => some (.inr q_31, m_24)) fun x_23 m_24 =>
gd (okc m_24 x_2 1) <| lx (m_24 x_2 5) fun x_42 =>
if x_42 = 1 then
up m_24 x_2 5 2 fun m_49 =>
lx (m_49 x_2 0) fun x_60 =>
lx (m_49 x_2 1) fun x_67 =>
bd (fm_X11_arrive x_60 1 x_67 p2 m_49) fun x_70 m_71 =>
some (.inl 1, m_71)
else
some (.inl 0, m_24)
set_option maxHeartbeats 4000000 in
theorem om_X11_answer {xs : List Int32} {d : Nat} {S : QS} {m0 : MM} {p1 p2 : Int} {v0 : Value} {v1 : Value} {v2 : Value} {rr : Int ⊕ Nat} {rm : MM}
  (hd : 5 ≤ d) (R : Rp S m0) (f0 : q_is 2 v0 4) (f1 : q_is 0 v1 p1) (f2 : q_is 0 v2 p2)
  (h : fm_X11_answer p1 p2 m0 = some (rr, rm)) : Mt xs d 120 [v0, v1, v2] S (Cx 0 m0 rm rr) := by
  obtain ⟨d, rfl⟩ : ∃ e, d = e + 1 := ⟨d - 1, by omega⟩
  have hd : 4 ≤ d := Nat.le_of_succ_le_succ hd
  refine Mt.of (M := qM_X11_answer) rfl (by rw [sl_1 (q_is_cat f0 (Or.inr rfl)), sl_1 (q_is_cat f1 (Or.inl rfl)), sl_1 (q_is_cat f2 (Or.inl rfl)), sl_0]; decide) ?_
  rw [la_1 (q_is_cat f0 (Or.inr rfl)), la_1 (q_is_cat f1 (Or.inl rfl)), la_1 (q_is_cat f2 (Or.inl rfl)), la_0]
  obtain ⟨L, hL⟩ : ∃ L : QL, L = [(0, v0), (0 + 1, v1), (0 + 1 + 1, v2)] := ⟨_, rfl⟩
  rw [← hL]
  have l0 : q_lo L 0 = some v0 := by rw [hL]; rfl
  have l1 : q_lo L 1 = some v1 := by rw [hL]; rfl
  have l2 : q_lo L 2 = some v2 := by rw [hL]; rfl
  have hQ : Ext m0 rm → ∀ o S1, Rp S1 rm → q_oux 0 o rr → (Cx 0 m0 rm rr) o S1 := fun a o S1 b e => ⟨b, a, e⟩
  unfold fm_X11_answer at h
  refine go_aload_n (n := 0) (by decide +kernel) l0 f0 ?_
  refine go_iload_n (n := 1) (by decide +kernel) l1 f1 ?_
  obtain ⟨rr5, m_3, hc_1, h⟩ := bx_s h
  rcases h with ⟨q_10, rfl, h⟩ | ⟨x_2, rfl, h⟩
  · cases h
    exact go_callV (x := 362) (mi := 140) (n := 1) (ci := 12) (as := [v1]) (rest := []) (by decide +kernel) (by decide +kernel) rfl rfl (q_sum8 _ (Nat.le_of_ble_eq_true rfl)) R f0 (fx_k (c := 12) R (by decide +kernel)) (om_X11_activityAt (Nat.le_trans (by decide) hd) R f0 f1 hc_1) (fun _ _ qq => kx_lx qq) (fun _ _ qq => by
      obtain ⟨rfl, Rq, Eq⟩ := kx_e qq
      exact Or.inl ⟨rfl, hQ Eq _ _ Rq rfl⟩)
  refine go_callV (x := 362) (mi := 140) (n := 1) (ci := 12) (as := [v1]) (rest := []) (by decide +kernel) (by decide +kernel) rfl rfl (q_sum8 _ (Nat.le_of_ble_eq_true rfl)) R f0 (fx_k (c := 12) R (by decide +kernel)) (om_X11_activityAt (Nat.le_trans (by decide) hd) R f0 f1 hc_1) (fun _ S_6 q_9 => ?_) (fun _ _ qq => kr_x (kx_l qq))
  have q_9 := kx_l q_9
  refine kr_z (by decide) q_9 fun v_4 f_5 R_7 E_8 => ?_
  have E_16 := E_8
  refine go_astore_n (n := 3) (by decide +kernel) (by decide +kernel) f_5 fun L_17 l_18 kp_19 => ?_
  have l_20 := kp_19 0 _ l0 (by decide) (Or.inl (by decide))
  have l_21 := kp_19 2 _ l2 (by decide) (Or.inr (q_is_cat f2 (Or.inl rfl)))
  refine go_aload_n (n := 0) (by decide +kernel) l_20 f0 ?_
  refine go_iload_n (n := 2) (by decide +kernel) l_21 f2 ?_
  obtain ⟨rr5, m_24, hc_22, h⟩ := bx_s h
  rcases h with ⟨q_31, rfl, h⟩ | ⟨x_23, rfl, h⟩
  · cases h
    exact go_callV (x := 167) (mi := 147) (n := 1) (ci := 12) (as := [v2]) (rest := []) (by decide +kernel) (by decide +kernel) rfl rfl (q_sum8 _ (Nat.le_of_ble_eq_true rfl)) R_7 f0 (fx_k (c := 12) R_7 (by decide +kernel)) (om_X11_checkValue (Nat.le_trans (by decide) hd) R_7 f0 f2 hc_22) (fun _ _ qq => kx_lx qq) (fun _ _ qq => by
      obtain ⟨rfl, Rq, Eq⟩ := kx_e qq
      exact Or.inl ⟨rfl, hQ (Ext.tr E_16 Eq) _ _ Rq rfl⟩)
  refine go_callV (x := 167) (mi := 147) (n := 1) (ci := 12) (as := [v2]) (rest := []) (by decide +kernel) (by decide +kernel) rfl rfl (q_sum8 _ (Nat.le_of_ble_eq_true rfl)) R_7 f0 (fx_k (c := 12) R_7 (by decide +kernel)) (om_X11_checkValue (Nat.le_trans (by decide) hd) R_7 f0 f2 hc_22) (fun _ S_27 q_30 => ?_) (fun _ _ qq => kr_x (kx_l qq))
  have q_30 := kx_l q_30
  refine kr_v q_30 fun R_28 E_29 => ?_
  have E_37 := Ext.tr E_16 E_29
  refine go_aload_n (n := 3) (by decide +kernel) l_18 f_5 ?_
  obtain ⟨g_40, h⟩ := gd_s h
  obtain ⟨x_42, e_43, h⟩ := lx_s h
  refine go_getf (x := 351) (ci := 1) (kf := 5) (fin := 0) (t := 0) (by decide +kernel) (by decide +kernel) (by decide +kernel) R_28 f_5 g_40 fun v_38 f_39 => ?_
  have f_41 := q_is_eq f_39 e_43
  refine go_iconst (n := 1) (z := 1) (by decide +kernel) (by decide) fun v_44 f_45 => ?_
  refine go_icmp (c := .eq) (o := 5) (t := 21) (P := x_42 = 1) (by decide +kernel) (by decide +kernel) f_41 f_45 (Iff.rfl) (fun hp_46 => ?_) (fun hp_46 => ?_)
  · have h := it_t hp_46 h
    refine go_aload_n (n := 3) (by decide +kernel) l_18 f_5 ?_
    refine go_iconst (n := 2) (z := 2) (by decide +kernel) (by decide) fun v_47 f_48 => ?_
    obtain ⟨m_49, e_50, h⟩ := up_s h
    refine go_putf (x := 351) (ci := 1) (kf := 5) (fin := 0) (zt := 0) (by decide +kernel) (by decide +kernel) (by decide) (by decide +kernel) (by decide) (Or.inl rfl) R_28 f_5 f_48 (fun hq => absurd hq (by decide)) g_40 e_50 (fx_f (j := 5) R_28.2 g_40 (by decide +kernel)) fun S_51 R_52 E_53 => ?_
    have E_55 := Ext.tr E_37 E_53
    refine go_aload_n (n := 0) (by decide +kernel) l_20 f0 ?_
    refine go_aload_n (n := 3) (by decide +kernel) l_18 f_5 ?_
    have g_58 := Ext.ok E_53 g_40
    obtain ⟨x_60, e_61, h⟩ := lx_s h
    refine go_getf (x := 366) (ci := 1) (kf := 0) (fin := 2) (t := 2) (by decide +kernel) (by decide +kernel) (by decide +kernel) R_52 f_5 g_58 fun v_56 f_57 => ?_
    have f_59 := q_is_eq f_57 e_61
    refine go_iconst (n := 1) (z := 1) (by decide +kernel) (by decide) fun v_62 f_63 => ?_
    refine go_aload_n (n := 3) (by decide +kernel) l_18 f_5 ?_
    obtain ⟨x_67, e_68, h⟩ := lx_s h
    refine go_getf (x := 367) (ci := 1) (kf := 1) (fin := 2) (t := 0) (by decide +kernel) (by decide +kernel) (by decide +kernel) R_52 f_5 g_58 fun v_64 f_65 => ?_
    have f_66 := q_is_eq f_65 e_68
    refine go_iload_n (n := 2) (by decide +kernel) l_21 f2 ?_
    obtain ⟨x_70, m_71, hc_69, h⟩ := bd_s h
    refine go_callV (x := 204) (mi := 152) (n := 4) (ci := 12) (as := [v_56, v_62, v_64, v2]) (rest := []) (by decide +kernel) (by decide +kernel) rfl rfl (q_sum8 _ (Nat.le_of_ble_eq_true rfl)) R_52 f0 (fx_k (c := 12) R_52 (by decide +kernel)) (om_X11_arrive (Nat.le_trans (by decide) hd) R_52 f0 f_59 f_63 f_66 f2 hc_69) (fun _ S_74 q_77 => ?_) (fun _ _ qq => kr_x qq)
    refine kr_v q_77 fun R_75 E_76 => ?_
    have E_80 := Ext.tr E_55 E_76
    refine go_iconst (n := 1) (z := 1) (by decide +kernel) (by decide) fun v_81 f_82 => ?_
    cases h
    exact go_iret (by decide +kernel) rfl (Or.inr ⟨rfl, by decide⟩) f_82 (hQ E_80 _ _ R_75 (q_out_v (by decide) f_82))
  · have h := it_f hp_46 h
    refine go_iconst (n := 0) (z := 0) (by decide +kernel) (by decide) fun v_83 f_84 => ?_
    cases h
    exact go_iret (by decide +kernel) rfl (Or.inr ⟨rfl, by decide⟩) f_84 (hQ E_37 _ _ R_28 (q_out_v (by decide) f_84))
noncomputable def fj_X11_failAttempt_54 (y1 : Int) (m : MM) : Option (Int × MM) := gd (okc m y1 1) <| up m y1 5 2 fun m_41 =>
lx (m_41 y1 0) fun x_52 =>
lx (m_41 y1 1) fun x_59 =>
bd (fm_X11_arrive x_52 2 x_59 0 m_41) fun x_64 m_65 =>
some (0, m_65)
set_option maxHeartbeats 4000000 in
theorem oj_X11_failAttempt_54 {xs : List Int32} {d : Nat} {S : QS} {L : QL} {Q : QO → QS → Prop} {m : MM} {y1 : Int} {v0 : Value} {v1 : Value}  {rz : Int} {rm : MM}
  (hd : 3 ≤ d) (R : Rp S m) (l0 : q_lo L 0 = some v0) (f0 : q_is 2 v0 4) (l1 : q_lo L 1 = some v1) (f1 : q_is 2 v1 y1)
  (hQ : Ext m rm → ∀ o S1, Rp S1 rm → q_out 9 o rz → Q o S1)
  (h : fj_X11_failAttempt_54 y1 m = some (rz, rm)) : Go xs d qM_X11_failAttempt 54 L [] S Q := by
  unfold fj_X11_failAttempt_54 at h
  refine go_aload_n (n := 1) (by decide +kernel) l1 f1 ?_
  refine go_iconst (n := 2) (z := 2) (by decide +kernel) (by decide) fun v_38 f_39 => ?_
  obtain ⟨g_40, h⟩ := gd_s h
  obtain ⟨m_41, e_42, h⟩ := up_s h
  refine go_putf (x := 351) (ci := 1) (kf := 5) (fin := 0) (zt := 0) (by decide +kernel) (by decide +kernel) (by decide) (by decide +kernel) (by decide) (Or.inl rfl) R f1 f_39 (fun hq => absurd hq (by decide)) g_40 e_42 (fx_f (j := 5) R.2 g_40 (by decide +kernel)) fun S_43 R_44 E_45 => ?_
  have E_47 := E_45
  refine go_aload_n (n := 0) (by decide +kernel) l0 f0 ?_
  refine go_aload_n (n := 1) (by decide +kernel) l1 f1 ?_
  have g_50 := Ext.ok E_45 g_40
  obtain ⟨x_52, e_53, h⟩ := lx_s h
  refine go_getf (x := 366) (ci := 1) (kf := 0) (fin := 2) (t := 2) (by decide +kernel) (by decide +kernel) (by decide +kernel) R_44 f1 g_50 fun v_48 f_49 => ?_
  have f_51 := q_is_eq f_49 e_53
  refine go_iconst (n := 2) (z := 2) (by decide +kernel) (by decide) fun v_54 f_55 => ?_
  refine go_aload_n (n := 1) (by decide +kernel) l1 f1 ?_
  obtain ⟨x_59, e_60, h⟩ := lx_s h
  refine go_getf (x := 367) (ci := 1) (kf := 1) (fin := 2) (t := 0) (by decide +kernel) (by decide +kernel) (by decide +kernel) R_44 f1 g_50 fun v_56 f_57 => ?_
  have f_58 := q_is_eq f_57 e_60
  refine go_iconst (n := 0) (z := 0) (by decide +kernel) (by decide) fun v_61 f_62 => ?_
  obtain ⟨x_64, m_65, hc_63, h⟩ := bd_s h
  refine go_callV (x := 204) (mi := 152) (n := 4) (ci := 12) (as := [v_48, v_54, v_56, v_61]) (rest := []) (by decide +kernel) (by decide +kernel) rfl rfl (q_sum8 _ (Nat.le_of_ble_eq_true rfl)) R_44 f0 (fx_k (c := 12) R_44 (by decide +kernel)) (om_X11_arrive (Nat.le_trans (by decide) hd) R_44 f0 f_51 f_55 f_58 f_62 hc_63) (fun _ S_68 q_71 => ?_) (fun _ _ qq => kr_x qq)
  refine kr_v q_71 fun R_69 E_70 => ?_
  have E_74 := Ext.tr E_47 E_70
  cases h
  exact go_vret (by decide +kernel) rfl (hQ E_74 _ _ R_69 q_out_n)
noncomputable def fm_X11_failAttempt (p1 p2 : Int) (m0 : MM) : Option (Int × MM) := gd (okc m0 p1 1) <| lx (m0 p1 2) fun x_8 =>
bp (fm_J9_floorMod_7cf53 x_8 4 m0) fun x_17 =>
gd (0 ≤ x_17 ∧ x_17 < 4) <| lx (m0 6 x_17) fun x_29 =>
if p2 = 0 then
lx (m0 p1 6) fun x_78 =>
gd (okc m0 x_29 4) <| lx (m0 x_29 0) fun x_84 =>
if x_78 < x_84 then
up m0 p1 5 0 fun m_89 =>
lx (m_89 4 14) fun x_99 =>
lx (m_89 x_29 1) fun x_105 =>
up m_89 p1 7 (w32 (x_99 + x_105)) fun m_110 =>
some (0, m_110)
else
fj_X11_failAttempt_54 p1 m0
else
fj_X11_failAttempt_54 p1 m0
set_option maxHeartbeats 4000000 in
theorem om_X11_failAttempt {xs : List Int32} {d : Nat} {S : QS} {m0 : MM} {p1 p2 : Int} {v0 : Value} {v1 : Value} {v2 : Value} {rz : Int} {rm : MM}
  (hd : 4 ≤ d) (R : Rp S m0) (f0 : q_is 2 v0 4) (f1 : q_is 2 v1 p1) (f2 : q_is 0 v2 p2)
  (h : fm_X11_failAttempt p1 p2 m0 = some (rz, rm)) : Mt xs d 179 [v0, v1, v2] S (Cr 9 m0 rm rz) := by
  obtain ⟨d, rfl⟩ : ∃ e, d = e + 1 := ⟨d - 1, by omega⟩
  have hd : 3 ≤ d := Nat.le_of_succ_le_succ hd
  refine Mt.of (M := qM_X11_failAttempt) rfl (by rw [sl_1 (q_is_cat f0 (Or.inr rfl)), sl_1 (q_is_cat f1 (Or.inr rfl)), sl_1 (q_is_cat f2 (Or.inl rfl)), sl_0]; decide) ?_
  rw [la_1 (q_is_cat f0 (Or.inr rfl)), la_1 (q_is_cat f1 (Or.inr rfl)), la_1 (q_is_cat f2 (Or.inl rfl)), la_0]
  obtain ⟨L, hL⟩ : ∃ L : QL, L = [(0, v0), (0 + 1, v1), (0 + 1 + 1, v2)] := ⟨_, rfl⟩
  rw [← hL]
  have l0 : q_lo L 0 = some v0 := by rw [hL]; rfl
  have l1 : q_lo L 1 = some v1 := by rw [hL]; rfl
  have l2 : q_lo L 2 = some v2 := by rw [hL]; rfl
  have hQ : Ext m0 rm → ∀ o S1, Rp S1 rm → q_out 9 o rz → (Cr 9 m0 rm rz) o S1 := fun a o S1 b e => ⟨b, a, e⟩
  unfold fm_X11_failAttempt at h
  refine go_aload_n (n := 0) (by decide +kernel) l0 f0 ?_
  refine go_getf (x := 17) (ci := 12) (kf := 1) (fin := 1) (t := 2) (by decide +kernel) (by decide +kernel) (by decide +kernel) R f0 (fx_k (c := 12) R (by decide +kernel)) fun v_1 f_2 => ?_
  have f_3 := q_is_eq (b := 6) f_2 (fx_v R (by decide +kernel)).symm
  refine go_aload_n (n := 1) (by decide +kernel) l1 f1 ?_
  obtain ⟨g_6, h⟩ := gd_s h
  obtain ⟨x_8, e_9, h⟩ := lx_s h
  refine go_getf (x := 349) (ci := 1) (kf := 2) (fin := 2) (t := 0) (by decide +kernel) (by decide +kernel) (by decide +kernel) R f1 g_6 fun v_4 f_5 => ?_
  have f_7 := q_is_eq f_5 e_9
  refine go_aload_n (n := 0) (by decide +kernel) l0 f0 ?_
  refine go_getf (x := 17) (ci := 12) (kf := 1) (fin := 1) (t := 2) (by decide +kernel) (by decide +kernel) (by decide +kernel) R f0 (fx_k (c := 12) R (by decide +kernel)) fun v_10 f_11 => ?_
  have f_12 := q_is_eq (b := 6) f_11 (fx_v R (by decide +kernel)).symm
  refine go_alen (by decide +kernel) R f_12 (okl_of (fx_k (c := 104) R (by decide +kernel)) (by decide)) fun v_13 f_14 => ?_
  have f_15 := q_is_eq (b := 4) f_14 (by rw [fx_l R (ln := 4) (by decide +kernel)]; decide)
  obtain ⟨x_17, hc_16, h⟩ := bp_s h
  refine go_callS (x := 496) (mi := 318) (n := 2) (b := 0) (as := [v_4, v_13]) (rest := [v_1]) (by decide +kernel) (by decide +kernel) rfl rfl (q_sum8 _ (Nat.le_of_ble_eq_true rfl)) (om_J9_floorMod_7cf53 (Nat.le_trans (by decide) hd) R f_7 f_15 hc_16) (fun _ S_21 q_24 => ?_) (fun _ _ qq => kr_x qq)
  refine kr_z (by decide) q_24 fun v_19 f_20 R_22 E_23 => ?_
  obtain ⟨g_27, h⟩ := gd_s h
  obtain ⟨x_29, e_30, h⟩ := lx_s h
  refine go_aald (kd := 104) (by decide +kernel) (by decide) R_22 f_3 f_20 (fx_k (c := 104) R_22 (by decide +kernel)) (fx_x (a := 6) (ln := 4) R_22 (by decide +kernel) g_27) fun v_25 f_26 => ?_
  have f_28 := q_is_eq f_26 e_30
  refine go_astore_n (n := 3) (by decide +kernel) (by decide +kernel) f_28 fun L_31 l_32 kp_33 => ?_
  have l_34 := kp_33 0 _ l0 (by decide) (Or.inl (by decide))
  have l_35 := kp_33 1 _ l1 (by decide) (Or.inl (by decide))
  have l_36 := kp_33 2 _ l2 (by decide) (Or.inr (q_is_cat f2 (Or.inl rfl)))
  refine go_iload_n (n := 2) (by decide +kernel) l_36 f2 ?_
  refine go_if (c := .ne) (o := 35) (t := 54) (P := ¬ (p2 = 0)) (by decide +kernel) (by decide +kernel) f2 (Iff.rfl) (fun hp_37 => ?_) (fun hp_37 => ?_)
  · have h := it_f hp_37 h
    exact oj_X11_failAttempt_54 hd R_22 l_34 f0 l_35 f1 hQ h
  · have h := it_n hp_37 h
    refine go_aload_n (n := 1) (by decide +kernel) l_35 f1 ?_
    obtain ⟨x_78, e_79, h⟩ := lx_s h
    refine go_getf (x := 380) (ci := 1) (kf := 6) (fin := 0) (t := 0) (by decide +kernel) (by decide +kernel) (by decide +kernel) R_22 f1 g_6 fun v_75 f_76 => ?_
    have f_77 := q_is_eq f_76 e_79
    refine go_aload_n (n := 3) (by decide +kernel) l_32 f_28 ?_
    obtain ⟨g_82, h⟩ := gd_s h
    obtain ⟨x_84, e_85, h⟩ := lx_s h
    refine go_getf (x := 143) (ci := 4) (kf := 0) (fin := 0) (t := 0) (by decide +kernel) (by decide +kernel) (by decide +kernel) R_22 f_28 g_82 fun v_80 f_81 => ?_
    have f_83 := q_is_eq f_81 e_85
    refine go_icmp (c := .ge) (o := 24) (t := 54) (P := ¬ (x_78 < x_84)) (by decide +kernel) (by decide +kernel) f_77 f_83 (Int.not_lt.symm) (fun hp_86 => ?_) (fun hp_86 => ?_)
    · have h := it_f hp_86 h
      exact oj_X11_failAttempt_54 hd R_22 l_34 f0 l_35 f1 hQ h
    · have h := it_n hp_86 h
      refine go_aload_n (n := 1) (by decide +kernel) l_35 f1 ?_
      refine go_iconst (n := 0) (z := 0) (by decide +kernel) (by decide) fun v_87 f_88 => ?_
      obtain ⟨m_89, e_90, h⟩ := up_s h
      refine go_putf (x := 351) (ci := 1) (kf := 5) (fin := 0) (zt := 0) (by decide +kernel) (by decide +kernel) (by decide) (by decide +kernel) (by decide) (Or.inl rfl) R_22 f1 f_88 (fun hq => absurd hq (by decide)) g_6 e_90 (fx_f (j := 5) R_22.2 g_6 (by decide +kernel)) fun S_91 R_92 E_93 => ?_
      have E_95 := E_93
      refine go_aload_n (n := 1) (by decide +kernel) l_35 f1 ?_
      refine go_aload_n (n := 0) (by decide +kernel) l_34 f0 ?_
      obtain ⟨x_99, e_100, h⟩ := lx_s h
      refine go_getf (x := 71) (ci := 12) (kf := 14) (fin := 0) (t := 0) (by decide +kernel) (by decide +kernel) (by decide +kernel) R_92 f0 (fx_k (c := 12) R_92 (by decide +kernel)) fun v_96 f_97 => ?_
      have f_98 := q_is_eq f_97 e_100
      refine go_aload_n (n := 3) (by decide +kernel) l_32 f_28 ?_
      have g_103 := Ext.ok E_93 g_82
      obtain ⟨x_105, e_106, h⟩ := lx_s h
      refine go_getf (x := 146) (ci := 4) (kf := 1) (fin := 0) (t := 0) (by decide +kernel) (by decide +kernel) (by decide +kernel) R_92 f_28 g_103 fun v_101 f_102 => ?_
      have f_104 := q_is_eq f_102 e_106
      refine go_iadd (by decide +kernel) f_98 f_104 fun v_107 f_108 => ?_
      have g_109 := Ext.ok E_93 g_6
      obtain ⟨m_110, e_111, h⟩ := up_s h
      refine go_putf (x := 353) (ci := 1) (kf := 7) (fin := 0) (zt := 0) (by decide +kernel) (by decide +kernel) (by decide) (by decide +kernel) (by decide) (Or.inl rfl) R_92 f1 f_108 (fun hq => absurd hq (by decide)) g_109 e_111 (fx_f (j := 7) R_92.2 g_109 (by decide +kernel)) fun S_112 R_113 E_114 => ?_
      have E_116 := Ext.tr E_95 E_114
      refine go_goto (o := 22) (t := 73) (by decide +kernel) (by decide +kernel) ?_
      cases h
      exact go_vret (by decide +kernel) rfl (hQ E_116 _ _ R_113 q_out_n)
noncomputable def fm_X11_fail (p1 p2 : Int) (m0 : MM) : Option ((Int ⊕ Nat) × MM) := bx (fm_X11_activityAt p1 m0) (fun q_10 m_3 => some (.inr q_10, m_3)) fun x_2 m_3 =>
gd (okc m_3 x_2 1) <| lx (m_3 x_2 5) fun x_26 =>
if x_26 = 1 then
bd (fm_X11_failAttempt x_2 p2 m_3) fun x_32 m_33 =>
some (.inl 1, m_33)
else
some (.inl 0, m_3)
set_option maxHeartbeats 4000000 in
theorem om_X11_fail {xs : List Int32} {d : Nat} {S : QS} {m0 : MM} {p1 p2 : Int} {v0 : Value} {v1 : Value} {v2 : Value} {rr : Int ⊕ Nat} {rm : MM}
  (hd : 5 ≤ d) (R : Rp S m0) (f0 : q_is 2 v0 4) (f1 : q_is 0 v1 p1) (f2 : q_is 0 v2 p2)
  (h : fm_X11_fail p1 p2 m0 = some (rr, rm)) : Mt xs d 121 [v0, v1, v2] S (Cx 0 m0 rm rr) := by
  obtain ⟨d, rfl⟩ : ∃ e, d = e + 1 := ⟨d - 1, by omega⟩
  have hd : 4 ≤ d := Nat.le_of_succ_le_succ hd
  refine Mt.of (M := qM_X11_fail) rfl (by rw [sl_1 (q_is_cat f0 (Or.inr rfl)), sl_1 (q_is_cat f1 (Or.inl rfl)), sl_1 (q_is_cat f2 (Or.inl rfl)), sl_0]; decide) ?_
  rw [la_1 (q_is_cat f0 (Or.inr rfl)), la_1 (q_is_cat f1 (Or.inl rfl)), la_1 (q_is_cat f2 (Or.inl rfl)), la_0]
  obtain ⟨L, hL⟩ : ∃ L : QL, L = [(0, v0), (0 + 1, v1), (0 + 1 + 1, v2)] := ⟨_, rfl⟩
  rw [← hL]
  have l0 : q_lo L 0 = some v0 := by rw [hL]; rfl
  have l1 : q_lo L 1 = some v1 := by rw [hL]; rfl
  have l2 : q_lo L 2 = some v2 := by rw [hL]; rfl
  have hQ : Ext m0 rm → ∀ o S1, Rp S1 rm → q_oux 0 o rr → (Cx 0 m0 rm rr) o S1 := fun a o S1 b e => ⟨b, a, e⟩
  unfold fm_X11_fail at h
  refine go_aload_n (n := 0) (by decide +kernel) l0 f0 ?_
  refine go_iload_n (n := 1) (by decide +kernel) l1 f1 ?_
  obtain ⟨rr5, m_3, hc_1, h⟩ := bx_s h
  rcases h with ⟨q_10, rfl, h⟩ | ⟨x_2, rfl, h⟩
  · cases h
    exact go_callV (x := 362) (mi := 140) (n := 1) (ci := 12) (as := [v1]) (rest := []) (by decide +kernel) (by decide +kernel) rfl rfl (q_sum8 _ (Nat.le_of_ble_eq_true rfl)) R f0 (fx_k (c := 12) R (by decide +kernel)) (om_X11_activityAt (Nat.le_trans (by decide) hd) R f0 f1 hc_1) (fun _ _ qq => kx_lx qq) (fun _ _ qq => by
      obtain ⟨rfl, Rq, Eq⟩ := kx_e qq
      exact Or.inl ⟨rfl, hQ Eq _ _ Rq rfl⟩)
  refine go_callV (x := 362) (mi := 140) (n := 1) (ci := 12) (as := [v1]) (rest := []) (by decide +kernel) (by decide +kernel) rfl rfl (q_sum8 _ (Nat.le_of_ble_eq_true rfl)) R f0 (fx_k (c := 12) R (by decide +kernel)) (om_X11_activityAt (Nat.le_trans (by decide) hd) R f0 f1 hc_1) (fun _ S_6 q_9 => ?_) (fun _ _ qq => kr_x (kx_l qq))
  have q_9 := kx_l q_9
  refine kr_z (by decide) q_9 fun v_4 f_5 R_7 E_8 => ?_
  have E_16 := E_8
  refine go_astore_n (n := 3) (by decide +kernel) (by decide +kernel) f_5 fun L_17 l_18 kp_19 => ?_
  have l_20 := kp_19 0 _ l0 (by decide) (Or.inl (by decide))
  have l_21 := kp_19 2 _ l2 (by decide) (Or.inr (q_is_cat f2 (Or.inl rfl)))
  refine go_aload_n (n := 3) (by decide +kernel) l_18 f_5 ?_
  obtain ⟨g_24, h⟩ := gd_s h
  obtain ⟨x_26, e_27, h⟩ := lx_s h
  refine go_getf (x := 351) (ci := 1) (kf := 5) (fin := 0) (t := 0) (by decide +kernel) (by decide +kernel) (by decide +kernel) R_7 f_5 g_24 fun v_22 f_23 => ?_
  have f_25 := q_is_eq f_23 e_27
  refine go_iconst (n := 1) (z := 1) (by decide +kernel) (by decide) fun v_28 f_29 => ?_
  refine go_icmp (c := .eq) (o := 5) (t := 16) (P := x_26 = 1) (by decide +kernel) (by decide +kernel) f_25 f_29 (Iff.rfl) (fun hp_30 => ?_) (fun hp_30 => ?_)
  · have h := it_t hp_30 h
    refine go_aload_n (n := 0) (by decide +kernel) l_20 f0 ?_
    refine go_aload_n (n := 3) (by decide +kernel) l_18 f_5 ?_
    refine go_iload_n (n := 2) (by decide +kernel) l_21 f2 ?_
    obtain ⟨x_32, m_33, hc_31, h⟩ := bd_s h
    refine go_callV (x := 370) (mi := 179) (n := 2) (ci := 12) (as := [v_4, v2]) (rest := []) (by decide +kernel) (by decide +kernel) rfl rfl (q_sum8 _ (Nat.le_of_ble_eq_true rfl)) R_7 f0 (fx_k (c := 12) R_7 (by decide +kernel)) (om_X11_failAttempt (Nat.le_trans (by decide) hd) R_7 f0 f_5 f2 hc_31) (fun _ S_36 q_39 => ?_) (fun _ _ qq => kr_x qq)
    refine kr_v q_39 fun R_37 E_38 => ?_
    have E_42 := Ext.tr E_16 E_38
    refine go_iconst (n := 1) (z := 1) (by decide +kernel) (by decide) fun v_43 f_44 => ?_
    cases h
    exact go_iret (by decide +kernel) rfl (Or.inr ⟨rfl, by decide⟩) f_44 (hQ E_42 _ _ R_37 (q_out_v (by decide) f_44))
  · have h := it_f hp_30 h
    refine go_iconst (n := 0) (z := 0) (by decide +kernel) (by decide) fun v_45 f_46 => ?_
    cases h
    exact go_iret (by decide +kernel) rfl (Or.inr ⟨rfl, by decide⟩) f_46 (hQ E_16 _ _ R_7 (q_out_v (by decide) f_46))
noncomputable def fm_X11_beat (p1 p2 : Int) (m0 : MM) : Option ((Int ⊕ Nat) × MM) := bx (fm_X11_activityAt p1 m0) (fun q_10 m_3 => some (.inr q_10, m_3)) fun x_2 m_3 =>
bx (fm_X11_checkValue p2 m_3) (fun q_31 m_24 => some (.inr q_31, m_24)) fun x_23 m_24 =>
gd (okc m_24 x_2 1) <| lx (m_24 x_2 5) fun x_42 =>
if x_42 = 1 then
lx (m_24 x_2 10) fun x_50 =>
up m_24 x_2 10 p2 fun m_58 =>
lx (m_58 4 14) fun x_68 =>
up m_58 x_2 9 x_68 fun m_71 =>
some (.inl x_50, m_71)
else
some (.inl (-1), m_24)
set_option maxHeartbeats 4000000 in
theorem om_X11_beat {xs : List Int32} {d : Nat} {S : QS} {m0 : MM} {p1 p2 : Int} {v0 : Value} {v1 : Value} {v2 : Value} {rr : Int ⊕ Nat} {rm : MM}
  (hd : 5 ≤ d) (R : Rp S m0) (f0 : q_is 2 v0 4) (f1 : q_is 0 v1 p1) (f2 : q_is 0 v2 p2)
  (h : fm_X11_beat p1 p2 m0 = some (rr, rm)) : Mt xs d 122 [v0, v1, v2] S (Cx 0 m0 rm rr) := by
  obtain ⟨d, rfl⟩ : ∃ e, d = e + 1 := ⟨d - 1, by omega⟩
  have hd : 4 ≤ d := Nat.le_of_succ_le_succ hd
  refine Mt.of (M := qM_X11_beat) rfl (by rw [sl_1 (q_is_cat f0 (Or.inr rfl)), sl_1 (q_is_cat f1 (Or.inl rfl)), sl_1 (q_is_cat f2 (Or.inl rfl)), sl_0]; decide) ?_
  rw [la_1 (q_is_cat f0 (Or.inr rfl)), la_1 (q_is_cat f1 (Or.inl rfl)), la_1 (q_is_cat f2 (Or.inl rfl)), la_0]
  obtain ⟨L, hL⟩ : ∃ L : QL, L = [(0, v0), (0 + 1, v1), (0 + 1 + 1, v2)] := ⟨_, rfl⟩
  rw [← hL]
  have l0 : q_lo L 0 = some v0 := by rw [hL]; rfl
  have l1 : q_lo L 1 = some v1 := by rw [hL]; rfl
  have l2 : q_lo L 2 = some v2 := by rw [hL]; rfl
  have hQ : Ext m0 rm → ∀ o S1, Rp S1 rm → q_oux 0 o rr → (Cx 0 m0 rm rr) o S1 := fun a o S1 b e => ⟨b, a, e⟩
  unfold fm_X11_beat at h
  refine go_aload_n (n := 0) (by decide +kernel) l0 f0 ?_
  refine go_iload_n (n := 1) (by decide +kernel) l1 f1 ?_
  obtain ⟨rr5, m_3, hc_1, h⟩ := bx_s h
  rcases h with ⟨q_10, rfl, h⟩ | ⟨x_2, rfl, h⟩
  · cases h
    exact go_callV (x := 362) (mi := 140) (n := 1) (ci := 12) (as := [v1]) (rest := []) (by decide +kernel) (by decide +kernel) rfl rfl (q_sum8 _ (Nat.le_of_ble_eq_true rfl)) R f0 (fx_k (c := 12) R (by decide +kernel)) (om_X11_activityAt (Nat.le_trans (by decide) hd) R f0 f1 hc_1) (fun _ _ qq => kx_lx qq) (fun _ _ qq => by
      obtain ⟨rfl, Rq, Eq⟩ := kx_e qq
      exact Or.inl ⟨rfl, hQ Eq _ _ Rq rfl⟩)
  refine go_callV (x := 362) (mi := 140) (n := 1) (ci := 12) (as := [v1]) (rest := []) (by decide +kernel) (by decide +kernel) rfl rfl (q_sum8 _ (Nat.le_of_ble_eq_true rfl)) R f0 (fx_k (c := 12) R (by decide +kernel)) (om_X11_activityAt (Nat.le_trans (by decide) hd) R f0 f1 hc_1) (fun _ S_6 q_9 => ?_) (fun _ _ qq => kr_x (kx_l qq))
  have q_9 := kx_l q_9
  refine kr_z (by decide) q_9 fun v_4 f_5 R_7 E_8 => ?_
  have E_16 := E_8
  refine go_astore_n (n := 3) (by decide +kernel) (by decide +kernel) f_5 fun L_17 l_18 kp_19 => ?_
  have l_20 := kp_19 0 _ l0 (by decide) (Or.inl (by decide))
  have l_21 := kp_19 2 _ l2 (by decide) (Or.inr (q_is_cat f2 (Or.inl rfl)))
  refine go_aload_n (n := 0) (by decide +kernel) l_20 f0 ?_
  refine go_iload_n (n := 2) (by decide +kernel) l_21 f2 ?_
  obtain ⟨rr5, m_24, hc_22, h⟩ := bx_s h
  rcases h with ⟨q_31, rfl, h⟩ | ⟨x_23, rfl, h⟩
  · cases h
    exact go_callV (x := 167) (mi := 147) (n := 1) (ci := 12) (as := [v2]) (rest := []) (by decide +kernel) (by decide +kernel) rfl rfl (q_sum8 _ (Nat.le_of_ble_eq_true rfl)) R_7 f0 (fx_k (c := 12) R_7 (by decide +kernel)) (om_X11_checkValue (Nat.le_trans (by decide) hd) R_7 f0 f2 hc_22) (fun _ _ qq => kx_lx qq) (fun _ _ qq => by
      obtain ⟨rfl, Rq, Eq⟩ := kx_e qq
      exact Or.inl ⟨rfl, hQ (Ext.tr E_16 Eq) _ _ Rq rfl⟩)
  refine go_callV (x := 167) (mi := 147) (n := 1) (ci := 12) (as := [v2]) (rest := []) (by decide +kernel) (by decide +kernel) rfl rfl (q_sum8 _ (Nat.le_of_ble_eq_true rfl)) R_7 f0 (fx_k (c := 12) R_7 (by decide +kernel)) (om_X11_checkValue (Nat.le_trans (by decide) hd) R_7 f0 f2 hc_22) (fun _ S_27 q_30 => ?_) (fun _ _ qq => kr_x (kx_l qq))
  have q_30 := kx_l q_30
  refine kr_v q_30 fun R_28 E_29 => ?_
  have E_37 := Ext.tr E_16 E_29
  refine go_aload_n (n := 3) (by decide +kernel) l_18 f_5 ?_
  obtain ⟨g_40, h⟩ := gd_s h
  obtain ⟨x_42, e_43, h⟩ := lx_s h
  refine go_getf (x := 351) (ci := 1) (kf := 5) (fin := 0) (t := 0) (by decide +kernel) (by decide +kernel) (by decide +kernel) R_28 f_5 g_40 fun v_38 f_39 => ?_
  have f_41 := q_is_eq f_39 e_43
  refine go_iconst (n := 1) (z := 1) (by decide +kernel) (by decide) fun v_44 f_45 => ?_
  refine go_icmp (c := .eq) (o := 5) (t := 21) (P := x_42 = 1) (by decide +kernel) (by decide +kernel) f_41 f_45 (Iff.rfl) (fun hp_46 => ?_) (fun hp_46 => ?_)
  · have h := it_t hp_46 h
    refine go_aload_n (n := 3) (by decide +kernel) l_18 f_5 ?_
    obtain ⟨x_50, e_51, h⟩ := lx_s h
    refine go_getf (x := 374) (ci := 1) (kf := 10) (fin := 0) (t := 0) (by decide +kernel) (by decide +kernel) (by decide +kernel) R_28 f_5 g_40 fun v_47 f_48 => ?_
    have f_49 := q_is_eq f_48 e_51
    refine go_istore (n := 4) (by decide +kernel) (by decide +kernel) f_49 fun L_52 l_53 kp_54 => ?_
    have l_55 := kp_54 0 _ l_20 (by decide) (Or.inl (by decide))
    have l_56 := kp_54 2 _ l_21 (by decide) (Or.inl (by decide))
    have l_57 := kp_54 3 _ l_18 (by decide) (Or.inr (q_is_cat f_5 (Or.inr rfl)))
    refine go_aload_n (n := 3) (by decide +kernel) l_57 f_5 ?_
    refine go_iload_n (n := 2) (by decide +kernel) l_56 f2 ?_
    obtain ⟨m_58, e_59, h⟩ := up_s h
    refine go_putf (x := 374) (ci := 1) (kf := 10) (fin := 0) (zt := 0) (by decide +kernel) (by decide +kernel) (by decide) (by decide +kernel) (by decide) (Or.inl rfl) R_28 f_5 f2 (fun hq => absurd hq (by decide)) g_40 e_59 (fx_f (j := 10) R_28.2 g_40 (by decide +kernel)) fun S_60 R_61 E_62 => ?_
    have E_64 := Ext.tr E_37 E_62
    refine go_aload_n (n := 3) (by decide +kernel) l_57 f_5 ?_
    refine go_aload_n (n := 0) (by decide +kernel) l_55 f0 ?_
    obtain ⟨x_68, e_69, h⟩ := lx_s h
    refine go_getf (x := 71) (ci := 12) (kf := 14) (fin := 0) (t := 0) (by decide +kernel) (by decide +kernel) (by decide +kernel) R_61 f0 (fx_k (c := 12) R_61 (by decide +kernel)) fun v_65 f_66 => ?_
    have f_67 := q_is_eq f_66 e_69
    have g_70 := Ext.ok E_62 g_40
    obtain ⟨m_71, e_72, h⟩ := up_s h
    refine go_putf (x := 377) (ci := 1) (kf := 9) (fin := 0) (zt := 0) (by decide +kernel) (by decide +kernel) (by decide) (by decide +kernel) (by decide) (Or.inl rfl) R_61 f_5 f_67 (fun hq => absurd hq (by decide)) g_70 e_72 (fx_f (j := 9) R_61.2 g_70 (by decide +kernel)) fun S_73 R_74 E_75 => ?_
    have E_77 := Ext.tr E_64 E_75
    refine go_iload (n := 4) (by decide +kernel) l_53 f_49 ?_
    cases h
    exact go_iret (by decide +kernel) rfl (Or.inl rfl) f_49 (hQ E_77 _ _ R_74 (q_out_v (by decide) f_49))
  · have h := it_f hp_46 h
    refine go_iconst (n := (-1)) (z := (-1)) (by decide +kernel) (by decide) fun v_78 f_79 => ?_
    cases h
    exact go_iret (by decide +kernel) rfl (Or.inl rfl) f_79 (hQ E_37 _ _ R_28 (q_out_v (by decide) f_79))
noncomputable def fm_X11_activity (p1 : Int) (m0 : MM) : Option ((Int ⊕ Nat) × MM) := bx (fm_X11_activityAt p1 m0) (fun q_10 m_3 => some (.inr q_10, m_3)) fun x_2 m_3 =>
gd (okc m_3 x_2 1) <| lx (m_3 x_2 0) fun x_26 =>
gd (okc m_3 x_26 7) <| lx (m_3 x_26 0) fun x_32 =>
lx (m_3 x_2 6) fun x_41 =>
lx (m_3 x_2 5) fun x_50 =>
some (.inl (w32 ((w32 ((w32 (100 * x_32)) + (w32 (10 * x_41)))) + x_50)), m_3)
set_option maxHeartbeats 4000000 in
theorem om_X11_activity {xs : List Int32} {d : Nat} {S : QS} {m0 : MM} {p1 : Int} {v0 : Value} {v1 : Value} {rr : Int ⊕ Nat} {rm : MM}
  (hd : 5 ≤ d) (R : Rp S m0) (f0 : q_is 2 v0 4) (f1 : q_is 0 v1 p1)
  (h : fm_X11_activity p1 m0 = some (rr, rm)) : Mt xs d 123 [v0, v1] S (Cx 0 m0 rm rr) := by
  obtain ⟨d, rfl⟩ : ∃ e, d = e + 1 := ⟨d - 1, by omega⟩
  have hd : 4 ≤ d := Nat.le_of_succ_le_succ hd
  refine Mt.of (M := qM_X11_activity) rfl (by rw [sl_1 (q_is_cat f0 (Or.inr rfl)), sl_1 (q_is_cat f1 (Or.inl rfl)), sl_0]; decide) ?_
  rw [la_1 (q_is_cat f0 (Or.inr rfl)), la_1 (q_is_cat f1 (Or.inl rfl)), la_0]
  obtain ⟨L, hL⟩ : ∃ L : QL, L = [(0, v0), (0 + 1, v1)] := ⟨_, rfl⟩
  rw [← hL]
  have l0 : q_lo L 0 = some v0 := by rw [hL]; rfl
  have l1 : q_lo L 1 = some v1 := by rw [hL]; rfl
  have hQ : Ext m0 rm → ∀ o S1, Rp S1 rm → q_oux 0 o rr → (Cx 0 m0 rm rr) o S1 := fun a o S1 b e => ⟨b, a, e⟩
  unfold fm_X11_activity at h
  refine go_aload_n (n := 0) (by decide +kernel) l0 f0 ?_
  refine go_iload_n (n := 1) (by decide +kernel) l1 f1 ?_
  obtain ⟨rr5, m_3, hc_1, h⟩ := bx_s h
  rcases h with ⟨q_10, rfl, h⟩ | ⟨x_2, rfl, h⟩
  · cases h
    exact go_callV (x := 362) (mi := 140) (n := 1) (ci := 12) (as := [v1]) (rest := []) (by decide +kernel) (by decide +kernel) rfl rfl (q_sum8 _ (Nat.le_of_ble_eq_true rfl)) R f0 (fx_k (c := 12) R (by decide +kernel)) (om_X11_activityAt (Nat.le_trans (by decide) hd) R f0 f1 hc_1) (fun _ _ qq => kx_lx qq) (fun _ _ qq => by
      obtain ⟨rfl, Rq, Eq⟩ := kx_e qq
      exact Or.inl ⟨rfl, hQ Eq _ _ Rq rfl⟩)
  refine go_callV (x := 362) (mi := 140) (n := 1) (ci := 12) (as := [v1]) (rest := []) (by decide +kernel) (by decide +kernel) rfl rfl (q_sum8 _ (Nat.le_of_ble_eq_true rfl)) R f0 (fx_k (c := 12) R (by decide +kernel)) (om_X11_activityAt (Nat.le_trans (by decide) hd) R f0 f1 hc_1) (fun _ S_6 q_9 => ?_) (fun _ _ qq => kr_x (kx_l qq))
  have q_9 := kx_l q_9
  refine kr_z (by decide) q_9 fun v_4 f_5 R_7 E_8 => ?_
  have E_16 := E_8
  refine go_astore_n (n := 2) (by decide +kernel) (by decide +kernel) f_5 fun L_17 l_18 kp_19 => ?_
  refine go_bipush (n := 100) (z := 100) (by decide +kernel) (by decide) fun v_20 f_21 => ?_
  refine go_aload_n (n := 2) (by decide +kernel) l_18 f_5 ?_
  obtain ⟨g_24, h⟩ := gd_s h
  obtain ⟨x_26, e_27, h⟩ := lx_s h
  refine go_getf (x := 366) (ci := 1) (kf := 0) (fin := 2) (t := 2) (by decide +kernel) (by decide +kernel) (by decide +kernel) R_7 f_5 g_24 fun v_22 f_23 => ?_
  have f_25 := q_is_eq f_23 e_27
  obtain ⟨g_30, h⟩ := gd_s h
  obtain ⟨x_32, e_33, h⟩ := lx_s h
  refine go_getf (x := 180) (ci := 7) (kf := 0) (fin := 2) (t := 0) (by decide +kernel) (by decide +kernel) (by decide +kernel) R_7 f_25 g_30 fun v_28 f_29 => ?_
  have f_31 := q_is_eq f_29 e_33
  refine go_imul (by decide +kernel) f_21 f_31 fun v_34 f_35 => ?_
  refine go_bipush (n := 10) (z := 10) (by decide +kernel) (by decide) fun v_36 f_37 => ?_
  refine go_aload_n (n := 2) (by decide +kernel) l_18 f_5 ?_
  obtain ⟨x_41, e_42, h⟩ := lx_s h
  refine go_getf (x := 380) (ci := 1) (kf := 6) (fin := 0) (t := 0) (by decide +kernel) (by decide +kernel) (by decide +kernel) R_7 f_5 g_24 fun v_38 f_39 => ?_
  have f_40 := q_is_eq f_39 e_42
  refine go_imul (by decide +kernel) f_37 f_40 fun v_43 f_44 => ?_
  refine go_iadd (by decide +kernel) f_35 f_44 fun v_45 f_46 => ?_
  refine go_aload_n (n := 2) (by decide +kernel) l_18 f_5 ?_
  obtain ⟨x_50, e_51, h⟩ := lx_s h
  refine go_getf (x := 351) (ci := 1) (kf := 5) (fin := 0) (t := 0) (by decide +kernel) (by decide +kernel) (by decide +kernel) R_7 f_5 g_24 fun v_47 f_48 => ?_
  have f_49 := q_is_eq f_48 e_51
  refine go_iadd (by decide +kernel) f_46 f_49 fun v_52 f_53 => ?_
  cases h
  exact go_iret (by decide +kernel) rfl (Or.inl rfl) f_53 (hQ E_16 _ _ R_7 (q_out_v (by decide) f_53))
noncomputable def fl_X11_beginTick_12 : Nat → Int → MM → Option (Int × MM)
  | 0, _, _ => none
  | n + 1, y1, m => if y1 < 3 then
gd (0 ≤ y1 ∧ y1 < 3) <| up m 13 y1 0 fun m_36 =>
lx (w32 (y1 + 1)) fun x_48 =>
fl_X11_beginTick_12 n x_48 m_36
else
some (0, m)
set_option maxHeartbeats 4000000 in
theorem ol_X11_beginTick_12 {xs : List Int32} {d : Nat} {Q : QO → QS → Prop} {mb : MM} {rz : Int} {rm : MM}
  (hd : 0 ≤ d)
  (hQ : Ext mb rm → ∀ o S1, Rp S1 rm → q_out 9 o rz → Q o S1) :
  ∀ (n : Nat) {m : MM} {S : QS} {L : QL} {y1 : Int} {v0 : Value} {v1 : Value} , Ext mb m → fl_X11_beginTick_12 n y1 m = some (rz, rm) → Rp S m → q_lo L 0 = some v0 → q_is 2 v0 4 → q_lo L 1 = some v1 → q_is 0 v1 y1 → Go xs d qM_X11_beginTick 12 L [] S Q := by
  intro n
  induction n with
  | zero => intro m S L y1 v0 v1; intro E h R l0 f0 l1 f1; cases h
  | succ n ih0 =>
    intro m S L y1 v0 v1; intro E h R l0 f0 l1 f1
    have ih : ∀ mq : MM, Ext mb mq → ∀ {z1 : Int} {Sq : QS} {Lq : QL} {u0 : Value} {u1 : Value}, fl_X11_beginTick_12 n z1 mq = some (rz, rm) → Rp Sq mq → q_lo Lq 0 = some u0 → q_is 2 u0 4 → q_lo Lq 1 = some u1 → q_is 0 u1 z1 → Go xs d qM_X11_beginTick 12 Lq [] Sq Q := fun mq b => by intros; exact ih0 b ‹_› ‹_› ‹_› ‹_› ‹_› ‹_›
    unfold fl_X11_beginTick_12 at h
    refine go_iload_n (n := 1) (by decide +kernel) l1 f1 ?_
    refine go_aload_n (n := 0) (by decide +kernel) l0 f0 ?_
    refine go_getf (x := 44) (ci := 12) (kf := 8) (fin := 1) (t := 2) (by decide +kernel) (by decide +kernel) (by decide +kernel) R f0 (fx_k (c := 12) R (by decide +kernel)) fun v_23 f_24 => ?_
    have f_25 := q_is_eq (b := 13) f_24 (fx_v R (by decide +kernel)).symm
    refine go_alen (by decide +kernel) R f_25 (okl_of (fx_k (c := 100) R (by decide +kernel)) (by decide)) fun v_26 f_27 => ?_
    have f_28 := q_is_eq (b := 3) f_27 (by rw [fx_l R (ln := 3) (by decide +kernel)]; decide)
    refine go_icmp (c := .ge) (o := 16) (t := 34) (P := ¬ (y1 < 3)) (by decide +kernel) (by decide +kernel) f1 f_28 (Int.not_lt.symm) (fun hp_29 => ?_) (fun hp_29 => ?_)
    · have h := it_f hp_29 h
      cases h
      exact go_vret (by decide +kernel) rfl (hQ E _ _ R q_out_n)
    · have h := it_n hp_29 h
      refine go_aload_n (n := 0) (by decide +kernel) l0 f0 ?_
      refine go_getf (x := 44) (ci := 12) (kf := 8) (fin := 1) (t := 2) (by decide +kernel) (by decide +kernel) (by decide +kernel) R f0 (fx_k (c := 12) R (by decide +kernel)) fun v_30 f_31 => ?_
      have f_32 := q_is_eq (b := 13) f_31 (fx_v R (by decide +kernel)).symm
      refine go_iload_n (n := 1) (by decide +kernel) l1 f1 ?_
      refine go_iconst (n := 0) (z := 0) (by decide +kernel) (by decide) fun v_33 f_34 => ?_
      obtain ⟨g_35, h⟩ := gd_s h
      obtain ⟨m_36, e_37, h⟩ := up_s h
      refine go_iast (kd := 100) (by decide +kernel) rfl R f_32 f1 f_34 (fx_k (c := 100) R (by decide +kernel)) (fx_x (a := 13) (ln := 3) R (by decide +kernel) g_35) e_37 (fx_a R.2 (fx_k (c := 100) R (by decide +kernel)) (And.left (fx_x (a := 13) (ln := 3) R (by decide +kernel) g_35)) (by decide +kernel)) fun S_38 R_39 E_40 => ?_
      have E_42 := Ext.tr E E_40
      refine go_iinc (n := 1) (c := 1) (c' := 1) (by decide +kernel) (by decide +kernel) l1 f1 (by decide) fun L_43 v_44 f_45 l_46 kp_47 => ?_
      obtain ⟨x_48, e_49, h⟩ := lx_s h
      have f_50 := q_is_eq f_45 e_49
      have l_51 := kp_47 0 _ l0 (by decide) (Or.inr (q_is_cat f0 (Or.inr rfl)))
      refine go_goto (o := (-19)) (t := 12) (by decide +kernel) (by decide +kernel) ?_
      exact ih m_36 E_42 h R_39 l_51 f0 l_46 f_50
noncomputable def fm_X11_beginTick (m0 : MM) : Option (Int × MM) := lx (m0 4 14) fun x_4 =>
up m0 4 14 (w32 (x_4 + 1)) fun m_10 =>
fl_X11_beginTick_12   BIG 0 m_10
set_option maxHeartbeats 4000000 in
theorem om_X11_beginTick {xs : List Int32} {d : Nat} {S : QS} {m0 : MM} {v0 : Value} {rz : Int} {rm : MM}
  (hd : 1 ≤ d) (R : Rp S m0) (f0 : q_is 2 v0 4)
  (h : fm_X11_beginTick m0 = some (rz, rm)) : Mt xs d 175 [v0] S (Cr 9 m0 rm rz) := by
  obtain ⟨d, rfl⟩ : ∃ e, d = e + 1 := ⟨d - 1, by omega⟩
  have hd : 0 ≤ d := Nat.le_of_succ_le_succ hd
  refine Mt.of (M := qM_X11_beginTick) rfl (by rw [sl_1 (q_is_cat f0 (Or.inr rfl)), sl_0]; decide) ?_
  rw [la_1 (q_is_cat f0 (Or.inr rfl)), la_0]
  obtain ⟨L, hL⟩ : ∃ L : QL, L = [(0, v0)] := ⟨_, rfl⟩
  rw [← hL]
  have l0 : q_lo L 0 = some v0 := by rw [hL]; rfl
  have hQ : Ext m0 rm → ∀ o S1, Rp S1 rm → q_out 9 o rz → (Cr 9 m0 rm rz) o S1 := fun a o S1 b e => ⟨b, a, e⟩
  unfold fm_X11_beginTick at h
  refine go_aload_n (n := 0) (by decide +kernel) l0 f0 ?_
  refine go_dup (by decide +kernel) f0 (Or.inr rfl) ?_
  obtain ⟨x_4, e_5, h⟩ := lx_s h
  refine go_getf (x := 71) (ci := 12) (kf := 14) (fin := 0) (t := 0) (by decide +kernel) (by decide +kernel) (by decide +kernel) R f0 (fx_k (c := 12) R (by decide +kernel)) fun v_1 f_2 => ?_
  have f_3 := q_is_eq f_2 e_5
  refine go_iconst (n := 1) (z := 1) (by decide +kernel) (by decide) fun v_6 f_7 => ?_
  refine go_iadd (by decide +kernel) f_3 f_7 fun v_8 f_9 => ?_
  obtain ⟨m_10, e_11, h⟩ := up_s h
  refine go_putf (x := 71) (ci := 12) (kf := 14) (fin := 0) (zt := 0) (by decide +kernel) (by decide +kernel) (by decide) (by decide +kernel) (by decide) (Or.inl rfl) R f0 f_9 (fun hq => absurd hq (by decide)) (fx_k (c := 12) R (by decide +kernel)) e_11 (fx_f (j := 14) R.2 (fx_k (c := 12) R (by decide +kernel)) (by decide +kernel)) fun S_12 R_13 E_14 => ?_
  have E_16 := E_14
  refine go_iconst (n := 0) (z := 0) (by decide +kernel) (by decide) fun v_17 f_18 => ?_
  refine go_istore_n (n := 1) (by decide +kernel) (by decide +kernel) f_18 fun L_19 l_20 kp_21 => ?_
  have l_22 := kp_21 0 _ l0 (by decide) (Or.inr (q_is_cat f0 (Or.inr rfl)))
  refine ol_X11_beginTick_12 hd   (fun b => hQ (Ext.tr E_16 b)) BIG (Ext.rf _) h R_13 l_22 f0 l_20 f_18
noncomputable def fl_X11_fireTimers_13 (y1 y2 : Int) : Nat → Int → Int → MM → Option (Int × MM)
  | 0, _, _, _ => none
  | n + 1, y3, y4, m => if y4 < y2 then
gd (okc m y1 7) <| lx (m y1 18) fun x_40 =>
gd (okc m x_40 6) <| bp (fm_X5_at x_40 y3 m) fun x_44 =>
lx (m 4 14) fun x_55 =>
if x_55 < x_44 then
lx (w32 (y3 + 1)) fun x_144 =>
lx (w32 (y4 + 1)) fun x_156 =>
fl_X11_fireTimers_13 y1 y2 n x_144 x_156 m
else
lx (m y1 17) fun x_63 =>
gd (okc m x_63 6) <| bp (fm_X5_at x_63 y3 m) fun x_67 =>
bd (fm_X11_arrive y1 3 x_67 0 m) fun x_78 m_79 =>
lx (m_79 y1 17) fun x_93 =>
gd (okc m_79 x_93 6) <| bd (fm_X5_removeAt x_93 y3 m_79) fun x_97 m_98 =>
lx (m_98 y1 18) fun x_112 =>
gd (okc m_98 x_112 6) <| bd (fm_X5_removeAt x_112 y3 m_98) fun x_116 m_117 =>
lx (w32 (y4 + 1)) fun x_132 =>
fl_X11_fireTimers_13 y1 y2 n y3 x_132 m_117
else
some (0, m)
set_option maxHeartbeats 4000000 in
theorem ol_X11_fireTimers_13 {xs : List Int32} {d : Nat} {Q : QO → QS → Prop} {mb : MM} {y1 y2 : Int} {rz : Int} {rm : MM}
  (hd : 3 ≤ d)
  (hQ : Ext mb rm → ∀ o S1, Rp S1 rm → q_out 9 o rz → Q o S1) :
  ∀ (n : Nat) {m : MM} {S : QS} {L : QL} {y3 y4 : Int} {v0 : Value} {v1 : Value} {v2 : Value} {v3 : Value} {v4 : Value} , Ext mb m → fl_X11_fireTimers_13 y1 y2 n y3 y4 m = some (rz, rm) → Rp S m → q_lo L 0 = some v0 → q_is 2 v0 4 → q_lo L 1 = some v1 → q_is 2 v1 y1 → q_lo L 2 = some v2 → q_is 0 v2 y2 → q_lo L 3 = some v3 → q_is 0 v3 y3 → q_lo L 4 = some v4 → q_is 0 v4 y4 → Go xs d qM_X11_fireTimers 13 L [] S Q := by
  intro n
  induction n with
  | zero => intro m S L y3 y4 v0 v1 v2 v3 v4; intro E h R l0 f0 l1 f1 l2 f2 l3 f3 l4 f4; cases h
  | succ n ih0 =>
    intro m S L y3 y4 v0 v1 v2 v3 v4; intro E h R l0 f0 l1 f1 l2 f2 l3 f3 l4 f4
    have ih : ∀ mq : MM, Ext mb mq → ∀ {z3 : Int} {z4 : Int} {Sq : QS} {Lq : QL} {u0 : Value} {u1 : Value} {u2 : Value} {u3 : Value} {u4 : Value}, fl_X11_fireTimers_13 y1 y2 n z3 z4 mq = some (rz, rm) → Rp Sq mq → q_lo Lq 0 = some u0 → q_is 2 u0 4 → q_lo Lq 1 = some u1 → q_is 2 u1 y1 → q_lo Lq 2 = some u2 → q_is 0 u2 y2 → q_lo Lq 3 = some u3 → q_is 0 u3 z3 → q_lo Lq 4 = some u4 → q_is 0 u4 z4 → Go xs d qM_X11_fireTimers 13 Lq [] Sq Q := fun mq b => by intros; exact ih0 b ‹_› ‹_› ‹_› ‹_› ‹_› ‹_› ‹_› ‹_› ‹_› ‹_› ‹_› ‹_›
    unfold fl_X11_fireTimers_13 at h
    refine go_iload (n := 4) (by decide +kernel) l4 f4 ?_
    refine go_iload_n (n := 2) (by decide +kernel) l2 f2 ?_
    refine go_icmp (c := .ge) (o := 61) (t := 77) (P := ¬ (y4 < y2)) (by decide +kernel) (by decide +kernel) f4 f2 (Int.not_lt.symm) (fun hp_35 => ?_) (fun hp_35 => ?_)
    · have h := it_f hp_35 h
      cases h
      exact go_vret (by decide +kernel) rfl (hQ E _ _ R q_out_n)
    · have h := it_n hp_35 h
      refine go_aload_n (n := 1) (by decide +kernel) l1 f1 ?_
      obtain ⟨g_38, h⟩ := gd_s h
      obtain ⟨x_40, e_41, h⟩ := lx_s h
      refine go_getf (x := 553) (ci := 7) (kf := 18) (fin := 2) (t := 2) (by decide +kernel) (by decide +kernel) (by decide +kernel) R f1 g_38 fun v_36 f_37 => ?_
      have f_39 := q_is_eq f_37 e_41
      refine go_iload_n (n := 3) (by decide +kernel) l3 f3 ?_
      obtain ⟨g_42, h⟩ := gd_s h
      obtain ⟨x_44, hc_43, h⟩ := bp_s h
      refine go_callV (x := 466) (mi := 59) (n := 1) (ci := 6) (as := [v3]) (rest := []) (by decide +kernel) (by decide +kernel) rfl rfl (q_sum8 _ (Nat.le_of_ble_eq_true rfl)) R f_39 g_42 (om_X5_at (Nat.le_trans (by decide) hd) R g_42 f_39 f3 hc_43) (fun _ S_48 q_51 => ?_) (fun _ _ qq => kr_x qq)
      refine kr_z (by decide) q_51 fun v_46 f_47 R_49 E_50 => ?_
      refine go_aload_n (n := 0) (by decide +kernel) l0 f0 ?_
      obtain ⟨x_55, e_56, h⟩ := lx_s h
      refine go_getf (x := 71) (ci := 12) (kf := 14) (fin := 0) (t := 0) (by decide +kernel) (by decide +kernel) (by decide +kernel) R_49 f0 (fx_k (c := 12) R_49 (by decide +kernel)) fun v_52 f_53 => ?_
      have f_54 := q_is_eq f_53 e_56
      refine go_icmp (c := .le) (o := 9) (t := 40) (P := ¬ (x_55 < x_44)) (by decide +kernel) (by decide +kernel) f_47 f_54 (Int.not_lt.symm) (fun hp_57 => ?_) (fun hp_57 => ?_)
      · have h := it_f hp_57 h
        refine go_aload_n (n := 0) (by decide +kernel) l0 f0 ?_
        refine go_aload_n (n := 1) (by decide +kernel) l1 f1 ?_
        refine go_iconst (n := 3) (z := 3) (by decide +kernel) (by decide) fun v_58 f_59 => ?_
        refine go_aload_n (n := 1) (by decide +kernel) l1 f1 ?_
        obtain ⟨x_63, e_64, h⟩ := lx_s h
        refine go_getf (x := 550) (ci := 7) (kf := 17) (fin := 2) (t := 2) (by decide +kernel) (by decide +kernel) (by decide +kernel) R_49 f1 g_38 fun v_60 f_61 => ?_
        have f_62 := q_is_eq f_61 e_64
        refine go_iload_n (n := 3) (by decide +kernel) l3 f3 ?_
        obtain ⟨g_65, h⟩ := gd_s h
        obtain ⟨x_67, hc_66, h⟩ := bp_s h
        refine go_callV (x := 466) (mi := 59) (n := 1) (ci := 6) (as := [v3]) (rest := [v_58, v1, v0]) (by decide +kernel) (by decide +kernel) rfl rfl (q_sum8 _ (Nat.le_of_ble_eq_true rfl)) R_49 f_62 g_65 (om_X5_at (Nat.le_trans (by decide) hd) R_49 g_65 f_62 f3 hc_66) (fun _ S_71 q_74 => ?_) (fun _ _ qq => kr_x qq)
        refine kr_z (by decide) q_74 fun v_69 f_70 R_72 E_73 => ?_
        refine go_iconst (n := 0) (z := 0) (by decide +kernel) (by decide) fun v_75 f_76 => ?_
        obtain ⟨x_78, m_79, hc_77, h⟩ := bd_s h
        refine go_callV (x := 204) (mi := 152) (n := 4) (ci := 12) (as := [v1, v_58, v_69, v_75]) (rest := []) (by decide +kernel) (by decide +kernel) rfl rfl (q_sum8 _ (Nat.le_of_ble_eq_true rfl)) R_72 f0 (fx_k (c := 12) R_72 (by decide +kernel)) (om_X11_arrive (Nat.le_trans (by decide) hd) R_72 f0 f1 f_59 f_70 f_76 hc_77) (fun _ S_82 q_85 => ?_) (fun _ _ qq => kr_x qq)
        refine kr_v q_85 fun R_83 E_84 => ?_
        have E_88 := Ext.tr E E_84
        refine go_aload_n (n := 1) (by decide +kernel) l1 f1 ?_
        have g_91 := Ext.ok E_84 g_38
        obtain ⟨x_93, e_94, h⟩ := lx_s h
        refine go_getf (x := 550) (ci := 7) (kf := 17) (fin := 2) (t := 2) (by decide +kernel) (by decide +kernel) (by decide +kernel) R_83 f1 g_91 fun v_89 f_90 => ?_
        have f_92 := q_is_eq f_90 e_94
        refine go_iload_n (n := 3) (by decide +kernel) l3 f3 ?_
        obtain ⟨g_95, h⟩ := gd_s h
        obtain ⟨x_97, m_98, hc_96, h⟩ := bd_s h
        refine go_callV (x := 635) (mi := 61) (n := 1) (ci := 6) (as := [v3]) (rest := []) (by decide +kernel) (by decide +kernel) rfl rfl (q_sum8 _ (Nat.le_of_ble_eq_true rfl)) R_83 f_92 g_95 (om_X5_removeAt (Nat.le_trans (by decide) hd) R_83 g_95 f_92 f3 hc_96) (fun _ S_101 q_104 => ?_) (fun _ _ qq => kr_x qq)
        refine kr_v q_104 fun R_102 E_103 => ?_
        have E_107 := Ext.tr E_88 E_103
        refine go_aload_n (n := 1) (by decide +kernel) l1 f1 ?_
        have g_110 := Ext.ok E_103 g_91
        obtain ⟨x_112, e_113, h⟩ := lx_s h
        refine go_getf (x := 553) (ci := 7) (kf := 18) (fin := 2) (t := 2) (by decide +kernel) (by decide +kernel) (by decide +kernel) R_102 f1 g_110 fun v_108 f_109 => ?_
        have f_111 := q_is_eq f_109 e_113
        refine go_iload_n (n := 3) (by decide +kernel) l3 f3 ?_
        obtain ⟨g_114, h⟩ := gd_s h
        obtain ⟨x_116, m_117, hc_115, h⟩ := bd_s h
        refine go_callV (x := 635) (mi := 61) (n := 1) (ci := 6) (as := [v3]) (rest := []) (by decide +kernel) (by decide +kernel) rfl rfl (q_sum8 _ (Nat.le_of_ble_eq_true rfl)) R_102 f_111 g_114 (om_X5_removeAt (Nat.le_trans (by decide) hd) R_102 g_114 f_111 f3 hc_115) (fun _ S_120 q_123 => ?_) (fun _ _ qq => kr_x qq)
        refine kr_v q_123 fun R_121 E_122 => ?_
        have E_126 := Ext.tr E_107 E_122
        refine go_iinc (n := 4) (c := 1) (c' := 1) (by decide +kernel) (by decide +kernel) l4 f4 (by decide) fun L_127 v_128 f_129 l_130 kp_131 => ?_
        obtain ⟨x_132, e_133, h⟩ := lx_s h
        have f_134 := q_is_eq f_129 e_133
        have l_135 := kp_131 0 _ l0 (by decide) (Or.inl (by decide))
        have l_136 := kp_131 1 _ l1 (by decide) (Or.inl (by decide))
        have l_137 := kp_131 2 _ l2 (by decide) (Or.inl (by decide))
        have l_138 := kp_131 3 _ l3 (by decide) (Or.inr (q_is_cat f3 (Or.inl rfl)))
        refine go_goto (o := (-61)) (t := 13) (by decide +kernel) (by decide +kernel) ?_
        exact ih m_117 E_126 h R_121 l_135 f0 l_136 f1 l_137 f2 l_138 f3 l_130 f_134
      · have h := it_n hp_57 h
        refine go_iinc (n := 3) (c := 1) (c' := 1) (by decide +kernel) (by decide +kernel) l3 f3 (by decide) fun L_139 v_140 f_141 l_142 kp_143 => ?_
        obtain ⟨x_144, e_145, h⟩ := lx_s h
        have f_146 := q_is_eq f_141 e_145
        have l_147 := kp_143 0 _ l0 (by decide) (Or.inl (by decide))
        have l_148 := kp_143 1 _ l1 (by decide) (Or.inl (by decide))
        have l_149 := kp_143 2 _ l2 (by decide) (Or.inr (q_is_cat f2 (Or.inl rfl)))
        have l_150 := kp_143 4 _ l4 (by decide) (Or.inl (by decide))
        refine go_goto (o := 34) (t := 71) (by decide +kernel) (by decide +kernel) ?_
        refine go_iinc (n := 4) (c := 1) (c' := 1) (by decide +kernel) (by decide +kernel) l_150 f4 (by decide) fun L_151 v_152 f_153 l_154 kp_155 => ?_
        obtain ⟨x_156, e_157, h⟩ := lx_s h
        have f_158 := q_is_eq f_153 e_157
        have l_159 := kp_155 0 _ l_147 (by decide) (Or.inl (by decide))
        have l_160 := kp_155 1 _ l_148 (by decide) (Or.inl (by decide))
        have l_161 := kp_155 2 _ l_149 (by decide) (Or.inl (by decide))
        have l_162 := kp_155 3 _ l_142 (by decide) (Or.inr (q_is_cat f_146 (Or.inl rfl)))
        refine go_goto (o := (-61)) (t := 13) (by decide +kernel) (by decide +kernel) ?_
        exact ih m E h R_49 l_159 f0 l_160 f1 l_161 f2 l_162 f_146 l_154 f_158
noncomputable def fm_X11_fireTimers (p1 : Int) (m0 : MM) : Option (Int × MM) := gd (okc m0 p1 7) <| lx (m0 p1 17) fun x_5 =>
gd (okc m0 x_5 6) <| lx (m0 x_5 2) fun x_11 =>
fl_X11_fireTimers_13 p1 x_11  BIG 0 0 m0
set_option maxHeartbeats 4000000 in
theorem om_X11_fireTimers {xs : List Int32} {d : Nat} {S : QS} {m0 : MM} {p1 : Int} {v0 : Value} {v1 : Value} {rz : Int} {rm : MM}
  (hd : 4 ≤ d) (R : Rp S m0) (f0 : q_is 2 v0 4) (f1 : q_is 2 v1 p1)
  (h : fm_X11_fireTimers p1 m0 = some (rz, rm)) : Mt xs d 176 [v0, v1] S (Cr 9 m0 rm rz) := by
  obtain ⟨d, rfl⟩ : ∃ e, d = e + 1 := ⟨d - 1, by omega⟩
  have hd : 3 ≤ d := Nat.le_of_succ_le_succ hd
  refine Mt.of (M := qM_X11_fireTimers) rfl (by rw [sl_1 (q_is_cat f0 (Or.inr rfl)), sl_1 (q_is_cat f1 (Or.inr rfl)), sl_0]; decide) ?_
  rw [la_1 (q_is_cat f0 (Or.inr rfl)), la_1 (q_is_cat f1 (Or.inr rfl)), la_0]
  obtain ⟨L, hL⟩ : ∃ L : QL, L = [(0, v0), (0 + 1, v1)] := ⟨_, rfl⟩
  rw [← hL]
  have l0 : q_lo L 0 = some v0 := by rw [hL]; rfl
  have l1 : q_lo L 1 = some v1 := by rw [hL]; rfl
  have hQ : Ext m0 rm → ∀ o S1, Rp S1 rm → q_out 9 o rz → (Cr 9 m0 rm rz) o S1 := fun a o S1 b e => ⟨b, a, e⟩
  unfold fm_X11_fireTimers at h
  refine go_aload_n (n := 1) (by decide +kernel) l1 f1 ?_
  obtain ⟨g_3, h⟩ := gd_s h
  obtain ⟨x_5, e_6, h⟩ := lx_s h
  refine go_getf (x := 550) (ci := 7) (kf := 17) (fin := 2) (t := 2) (by decide +kernel) (by decide +kernel) (by decide +kernel) R f1 g_3 fun v_1 f_2 => ?_
  have f_4 := q_is_eq f_2 e_6
  obtain ⟨g_9, h⟩ := gd_s h
  obtain ⟨x_11, e_12, h⟩ := lx_s h
  refine go_getf (x := 108) (ci := 6) (kf := 2) (fin := 0) (t := 0) (by decide +kernel) (by decide +kernel) (by decide +kernel) R f_4 g_9 fun v_7 f_8 => ?_
  have f_10 := q_is_eq f_8 e_12
  refine go_istore_n (n := 2) (by decide +kernel) (by decide +kernel) f_10 fun L_13 l_14 kp_15 => ?_
  have l_16 := kp_15 0 _ l0 (by decide) (Or.inl (by decide))
  have l_17 := kp_15 1 _ l1 (by decide) (Or.inr (q_is_cat f1 (Or.inr rfl)))
  refine go_iconst (n := 0) (z := 0) (by decide +kernel) (by decide) fun v_18 f_19 => ?_
  refine go_istore_n (n := 3) (by decide +kernel) (by decide +kernel) f_19 fun L_20 l_21 kp_22 => ?_
  have l_23 := kp_22 0 _ l_16 (by decide) (Or.inl (by decide))
  have l_24 := kp_22 1 _ l_17 (by decide) (Or.inl (by decide))
  have l_25 := kp_22 2 _ l_14 (by decide) (Or.inr (q_is_cat f_10 (Or.inl rfl)))
  refine go_iconst (n := 0) (z := 0) (by decide +kernel) (by decide) fun v_26 f_27 => ?_
  refine go_istore (n := 4) (by decide +kernel) (by decide +kernel) f_27 fun L_28 l_29 kp_30 => ?_
  have l_31 := kp_30 0 _ l_23 (by decide) (Or.inl (by decide))
  have l_32 := kp_30 1 _ l_24 (by decide) (Or.inl (by decide))
  have l_33 := kp_30 2 _ l_25 (by decide) (Or.inl (by decide))
  have l_34 := kp_30 3 _ l_21 (by decide) (Or.inr (q_is_cat f_19 (Or.inl rfl)))
  refine ol_X11_fireTimers_13 hd   hQ BIG (Ext.rf _) h R l_31 f0 l_32 f1 l_33 f_10 l_34 f_19 l_29 f_27
noncomputable def fm_X11_isReached (p1 p2 : Int) (m0 : MM) : Option Int := if 0 < p1 then
lx (m0 4 14) fun x_7 =>
if w32 (x_7 - p2) < p1 then
some 0
else
some 1
else
some 0
set_option maxHeartbeats 4000000 in
theorem om_X11_isReached {xs : List Int32} {d : Nat} {S : QS} {m0 : MM} {p1 p2 : Int} {v0 : Value} {v1 : Value} {v2 : Value} {rz : Int}
  (hd : 1 ≤ d) (R : Rp S m0) (f0 : q_is 2 v0 4) (f1 : q_is 0 v1 p1) (f2 : q_is 0 v2 p2)
  (h : fm_X11_isReached p1 p2 m0 = some rz) : Mt xs d 178 [v0, v1, v2] S (Cr 0 m0 m0 rz) := by
  obtain ⟨d, rfl⟩ : ∃ e, d = e + 1 := ⟨d - 1, by omega⟩
  have hd : 0 ≤ d := Nat.le_of_succ_le_succ hd
  refine Mt.of (M := qM_X11_isReached) rfl (by rw [sl_1 (q_is_cat f0 (Or.inr rfl)), sl_1 (q_is_cat f1 (Or.inl rfl)), sl_1 (q_is_cat f2 (Or.inl rfl)), sl_0]; decide) ?_
  rw [la_1 (q_is_cat f0 (Or.inr rfl)), la_1 (q_is_cat f1 (Or.inl rfl)), la_1 (q_is_cat f2 (Or.inl rfl)), la_0]
  obtain ⟨L, hL⟩ : ∃ L : QL, L = [(0, v0), (0 + 1, v1), (0 + 1 + 1, v2)] := ⟨_, rfl⟩
  rw [← hL]
  have l0 : q_lo L 0 = some v0 := by rw [hL]; rfl
  have l1 : q_lo L 1 = some v1 := by rw [hL]; rfl
  have l2 : q_lo L 2 = some v2 := by rw [hL]; rfl
  have hQ : ∀ o S1, Rp S1 m0 → q_out 0 o rz → (Cr 0 m0 m0 rz) o S1 := fun o S1 a b => ⟨a, Ext.rf _, b⟩
  unfold fm_X11_isReached at h
  refine go_iload_n (n := 1) (by decide +kernel) l1 f1 ?_
  refine go_if (c := .le) (o := 17) (t := 18) (P := ¬ (0 < p1)) (by decide +kernel) (by decide +kernel) f1 (Int.not_lt.symm) (fun hp_1 => ?_) (fun hp_1 => ?_)
  · have h := it_f hp_1 h
    refine go_iconst (n := 0) (z := 0) (by decide +kernel) (by decide) fun v_2 f_3 => ?_
    cases h
    exact go_iret (by decide +kernel) rfl (Or.inr ⟨rfl, by decide⟩) f_3 (hQ _ _ R (q_out_v (by decide) f_3))
  · have h := it_n hp_1 h
    refine go_aload_n (n := 0) (by decide +kernel) l0 f0 ?_
    obtain ⟨x_7, e_8, h⟩ := lx_s h
    refine go_getf (x := 71) (ci := 12) (kf := 14) (fin := 0) (t := 0) (by decide +kernel) (by decide +kernel) (by decide +kernel) R f0 (fx_k (c := 12) R (by decide +kernel)) fun v_4 f_5 => ?_
    have f_6 := q_is_eq f_5 e_8
    refine go_iload_n (n := 2) (by decide +kernel) l2 f2 ?_
    refine go_isub (by decide +kernel) f_6 f2 fun v_9 f_10 => ?_
    refine go_iload_n (n := 1) (by decide +kernel) l1 f1 ?_
    refine go_icmp (c := .lt) (o := 7) (t := 18) (P := w32 (x_7 - p2) < p1) (by decide +kernel) (by decide +kernel) f_10 f1 (Iff.rfl) (fun hp_11 => ?_) (fun hp_11 => ?_)
    · have h := it_t hp_11 h
      refine go_iconst (n := 0) (z := 0) (by decide +kernel) (by decide) fun v_12 f_13 => ?_
      cases h
      exact go_iret (by decide +kernel) rfl (Or.inr ⟨rfl, by decide⟩) f_13 (hQ _ _ R (q_out_v (by decide) f_13))
    · have h := it_f hp_11 h
      refine go_iconst (n := 1) (z := 1) (by decide +kernel) (by decide) fun v_14 f_15 => ?_
      refine go_goto (o := 4) (t := 19) (by decide +kernel) (by decide +kernel) ?_
      cases h
      exact go_iret (by decide +kernel) rfl (Or.inr ⟨rfl, by decide⟩) f_15 (hQ _ _ R (q_out_v (by decide) f_15))
noncomputable def fj_X11_lookAtActivity_107 (y1 : Int) (m : MM) : Option (Int × MM) := bd (fm_X11_failAttempt y1 0 m) fun x_75 m_76 =>
some (0, m_76)
set_option maxHeartbeats 4000000 in
theorem oj_X11_lookAtActivity_107 {xs : List Int32} {d : Nat} {S : QS} {L : QL} {Q : QO → QS → Prop} {m : MM} {y1 : Int} {v0 : Value} {v1 : Value}  {rz : Int} {rm : MM}
  (hd : 4 ≤ d) (R : Rp S m) (l0 : q_lo L 0 = some v0) (f0 : q_is 2 v0 4) (l1 : q_lo L 1 = some v1) (f1 : q_is 2 v1 y1)
  (hQ : Ext m rm → ∀ o S1, Rp S1 rm → q_out 9 o rz → Q o S1)
  (h : fj_X11_lookAtActivity_107 y1 m = some (rz, rm)) : Go xs d qM_X11_lookAtActivity 107 L [] S Q := by
  unfold fj_X11_lookAtActivity_107 at h
  refine go_aload_n (n := 0) (by decide +kernel) l0 f0 ?_
  refine go_aload_n (n := 1) (by decide +kernel) l1 f1 ?_
  refine go_iconst (n := 0) (z := 0) (by decide +kernel) (by decide) fun v_72 f_73 => ?_
  obtain ⟨x_75, m_76, hc_74, h⟩ := bd_s h
  refine go_callV (x := 370) (mi := 179) (n := 2) (ci := 12) (as := [v1, v_72]) (rest := []) (by decide +kernel) (by decide +kernel) rfl rfl (q_sum8 _ (Nat.le_of_ble_eq_true rfl)) R f0 (fx_k (c := 12) R (by decide +kernel)) (om_X11_failAttempt (Nat.le_trans (by decide) hd) R f0 f1 f_73 hc_74) (fun _ S_79 q_82 => ?_) (fun _ _ qq => kr_x qq)
  refine kr_v q_82 fun R_80 E_81 => ?_
  have E_85 := E_81
  cases h
  exact go_vret (by decide +kernel) rfl (hQ E_85 _ _ R_80 q_out_n)
noncomputable def fj_X11_lookAtActivity_69 (y1 y2 : Int) (m : MM) : Option (Int × MM) := gd (okc m y1 1) <| lx (m y1 5) fun x_46 =>
if x_46 = 1 then
gd (okc m y2 4) <| lx (m y2 3) fun x_55 =>
lx (m y1 8) fun x_60 =>
bp (fm_X11_isReached x_55 x_60 m) fun x_63 =>
if x_63 = 0 then
lx (m y2 4) fun x_89 =>
lx (m y1 9) fun x_94 =>
bp (fm_X11_isReached x_89 x_94 m) fun x_97 =>
if x_97 = 0 then
some (0, m)
else
fj_X11_lookAtActivity_107 y1 m
else
fj_X11_lookAtActivity_107 y1 m
else
some (0, m)
set_option maxHeartbeats 4000000 in
theorem oj_X11_lookAtActivity_69 {xs : List Int32} {d : Nat} {S : QS} {L : QL} {Q : QO → QS → Prop} {m : MM} {y1 y2 : Int} {v0 : Value} {v1 : Value} {v2 : Value}  {rz : Int} {rm : MM}
  (hd : 4 ≤ d) (R : Rp S m) (l0 : q_lo L 0 = some v0) (f0 : q_is 2 v0 4) (l1 : q_lo L 1 = some v1) (f1 : q_is 2 v1 y1) (l2 : q_lo L 2 = some v2) (f2 : q_is 2 v2 y2)
  (hQ : Ext m rm → ∀ o S1, Rp S1 rm → q_out 9 o rz → Q o S1)
  (h : fj_X11_lookAtActivity_69 y1 y2 m = some (rz, rm)) : Go xs d qM_X11_lookAtActivity 69 L [] S Q := by
  unfold fj_X11_lookAtActivity_69 at h
  refine go_aload_n (n := 1) (by decide +kernel) l1 f1 ?_
  obtain ⟨g_44, h⟩ := gd_s h
  obtain ⟨x_46, e_47, h⟩ := lx_s h
  refine go_getf (x := 351) (ci := 1) (kf := 5) (fin := 0) (t := 0) (by decide +kernel) (by decide +kernel) (by decide +kernel) R f1 g_44 fun v_42 f_43 => ?_
  have f_45 := q_is_eq f_43 e_47
  refine go_iconst (n := 1) (z := 1) (by decide +kernel) (by decide) fun v_48 f_49 => ?_
  refine go_icmp (c := .ne) (o := 39) (t := 113) (P := ¬ (x_46 = 1)) (by decide +kernel) (by decide +kernel) f_45 f_49 (Iff.rfl) (fun hp_50 => ?_) (fun hp_50 => ?_)
  · have h := it_f hp_50 h
    cases h
    exact go_vret (by decide +kernel) rfl (hQ (Ext.rf _) _ _ R q_out_n)
  · have h := it_n hp_50 h
    refine go_aload_n (n := 0) (by decide +kernel) l0 f0 ?_
    refine go_aload_n (n := 2) (by decide +kernel) l2 f2 ?_
    obtain ⟨g_53, h⟩ := gd_s h
    obtain ⟨x_55, e_56, h⟩ := lx_s h
    refine go_getf (x := 152) (ci := 4) (kf := 3) (fin := 0) (t := 0) (by decide +kernel) (by decide +kernel) (by decide +kernel) R f2 g_53 fun v_51 f_52 => ?_
    have f_54 := q_is_eq f_52 e_56
    refine go_aload_n (n := 1) (by decide +kernel) l1 f1 ?_
    obtain ⟨x_60, e_61, h⟩ := lx_s h
    refine go_getf (x := 645) (ci := 1) (kf := 8) (fin := 0) (t := 0) (by decide +kernel) (by decide +kernel) (by decide +kernel) R f1 g_44 fun v_57 f_58 => ?_
    have f_59 := q_is_eq f_58 e_61
    obtain ⟨x_63, hc_62, h⟩ := bp_s h
    refine go_callV (x := 641) (mi := 178) (n := 2) (ci := 12) (as := [v_51, v_57]) (rest := []) (by decide +kernel) (by decide +kernel) rfl rfl (q_sum8 _ (Nat.le_of_ble_eq_true rfl)) R f0 (fx_k (c := 12) R (by decide +kernel)) (om_X11_isReached (Nat.le_trans (by decide) hd) R f0 f_54 f_59 hc_62) (fun _ S_67 q_70 => ?_) (fun _ _ qq => kr_x qq)
    refine kr_z (by decide) q_70 fun v_65 f_66 R_68 E_69 => ?_
    refine go_if (c := .ne) (o := 18) (t := 107) (P := ¬ (x_63 = 0)) (by decide +kernel) (by decide +kernel) f_66 (Iff.rfl) (fun hp_71 => ?_) (fun hp_71 => ?_)
    · have h := it_f hp_71 h
      exact oj_X11_lookAtActivity_107 hd R_68 l0 f0 l1 f1 hQ h
    · have h := it_n hp_71 h
      refine go_aload_n (n := 0) (by decide +kernel) l0 f0 ?_
      refine go_aload_n (n := 2) (by decide +kernel) l2 f2 ?_
      obtain ⟨x_89, e_90, h⟩ := lx_s h
      refine go_getf (x := 155) (ci := 4) (kf := 4) (fin := 0) (t := 0) (by decide +kernel) (by decide +kernel) (by decide +kernel) R_68 f2 g_53 fun v_86 f_87 => ?_
      have f_88 := q_is_eq f_87 e_90
      refine go_aload_n (n := 1) (by decide +kernel) l1 f1 ?_
      obtain ⟨x_94, e_95, h⟩ := lx_s h
      refine go_getf (x := 377) (ci := 1) (kf := 9) (fin := 0) (t := 0) (by decide +kernel) (by decide +kernel) (by decide +kernel) R_68 f1 g_44 fun v_91 f_92 => ?_
      have f_93 := q_is_eq f_92 e_95
      obtain ⟨x_97, hc_96, h⟩ := bp_s h
      refine go_callV (x := 641) (mi := 178) (n := 2) (ci := 12) (as := [v_86, v_91]) (rest := []) (by decide +kernel) (by decide +kernel) rfl rfl (q_sum8 _ (Nat.le_of_ble_eq_true rfl)) R_68 f0 (fx_k (c := 12) R_68 (by decide +kernel)) (om_X11_isReached (Nat.le_trans (by decide) hd) R_68 f0 f_88 f_93 hc_96) (fun _ S_101 q_104 => ?_) (fun _ _ qq => kr_x qq)
      refine kr_z (by decide) q_104 fun v_99 f_100 R_102 E_103 => ?_
      refine go_if (c := .eq) (o := 9) (t := 113) (P := x_97 = 0) (by decide +kernel) (by decide +kernel) f_100 (Iff.rfl) (fun hp_105 => ?_) (fun hp_105 => ?_)
      · have h := it_t hp_105 h
        cases h
        exact go_vret (by decide +kernel) rfl (hQ (Ext.rf _) _ _ R_102 q_out_n)
      · have h := it_f hp_105 h
        exact oj_X11_lookAtActivity_107 hd R_102 l0 f0 l1 f1 hQ h
noncomputable def fm_X11_lookAtActivity (p1 : Int) (m0 : MM) : Option (Int × MM) := gd (okc m0 p1 1) <| lx (m0 p1 2) fun x_8 =>
bp (fm_J9_floorMod_7cf53 x_8 4 m0) fun x_17 =>
gd (0 ≤ x_17 ∧ x_17 < 4) <| lx (m0 6 x_17) fun x_29 =>
lx (m0 p1 5) fun x_39 =>
if x_39 = 0 then
lx (m0 p1 6) fun x_109 =>
if x_109 = 0 then
gd (okc m0 x_29 4) <| lx (m0 x_29 2) fun x_116 =>
lx (m0 p1 4) fun x_121 =>
bp (fm_X11_isReached x_116 x_121 m0) fun x_124 =>
if x_124 = 0 then
some (0, m0)
else
up m0 p1 5 2 fun m_135 =>
lx (m_135 p1 0) fun x_146 =>
lx (m_135 p1 1) fun x_153 =>
bd (fm_X11_arrive x_146 2 x_153 0 m_135) fun x_158 m_159 =>
some (0, m_159)
else
fj_X11_lookAtActivity_69 p1 x_29 m0
else
fj_X11_lookAtActivity_69 p1 x_29 m0
set_option maxHeartbeats 4000000 in
theorem om_X11_lookAtActivity {xs : List Int32} {d : Nat} {S : QS} {m0 : MM} {p1 : Int} {v0 : Value} {v1 : Value} {rz : Int} {rm : MM}
  (hd : 5 ≤ d) (R : Rp S m0) (f0 : q_is 2 v0 4) (f1 : q_is 2 v1 p1)
  (h : fm_X11_lookAtActivity p1 m0 = some (rz, rm)) : Mt xs d 177 [v0, v1] S (Cr 9 m0 rm rz) := by
  obtain ⟨d, rfl⟩ : ∃ e, d = e + 1 := ⟨d - 1, by omega⟩
  have hd : 4 ≤ d := Nat.le_of_succ_le_succ hd
  refine Mt.of (M := qM_X11_lookAtActivity) rfl (by rw [sl_1 (q_is_cat f0 (Or.inr rfl)), sl_1 (q_is_cat f1 (Or.inr rfl)), sl_0]; decide) ?_
  rw [la_1 (q_is_cat f0 (Or.inr rfl)), la_1 (q_is_cat f1 (Or.inr rfl)), la_0]
  obtain ⟨L, hL⟩ : ∃ L : QL, L = [(0, v0), (0 + 1, v1)] := ⟨_, rfl⟩
  rw [← hL]
  have l0 : q_lo L 0 = some v0 := by rw [hL]; rfl
  have l1 : q_lo L 1 = some v1 := by rw [hL]; rfl
  have hQ : Ext m0 rm → ∀ o S1, Rp S1 rm → q_out 9 o rz → (Cr 9 m0 rm rz) o S1 := fun a o S1 b e => ⟨b, a, e⟩
  unfold fm_X11_lookAtActivity at h
  refine go_aload_n (n := 0) (by decide +kernel) l0 f0 ?_
  refine go_getf (x := 17) (ci := 12) (kf := 1) (fin := 1) (t := 2) (by decide +kernel) (by decide +kernel) (by decide +kernel) R f0 (fx_k (c := 12) R (by decide +kernel)) fun v_1 f_2 => ?_
  have f_3 := q_is_eq (b := 6) f_2 (fx_v R (by decide +kernel)).symm
  refine go_aload_n (n := 1) (by decide +kernel) l1 f1 ?_
  obtain ⟨g_6, h⟩ := gd_s h
  obtain ⟨x_8, e_9, h⟩ := lx_s h
  refine go_getf (x := 349) (ci := 1) (kf := 2) (fin := 2) (t := 0) (by decide +kernel) (by decide +kernel) (by decide +kernel) R f1 g_6 fun v_4 f_5 => ?_
  have f_7 := q_is_eq f_5 e_9
  refine go_aload_n (n := 0) (by decide +kernel) l0 f0 ?_
  refine go_getf (x := 17) (ci := 12) (kf := 1) (fin := 1) (t := 2) (by decide +kernel) (by decide +kernel) (by decide +kernel) R f0 (fx_k (c := 12) R (by decide +kernel)) fun v_10 f_11 => ?_
  have f_12 := q_is_eq (b := 6) f_11 (fx_v R (by decide +kernel)).symm
  refine go_alen (by decide +kernel) R f_12 (okl_of (fx_k (c := 104) R (by decide +kernel)) (by decide)) fun v_13 f_14 => ?_
  have f_15 := q_is_eq (b := 4) f_14 (by rw [fx_l R (ln := 4) (by decide +kernel)]; decide)
  obtain ⟨x_17, hc_16, h⟩ := bp_s h
  refine go_callS (x := 496) (mi := 318) (n := 2) (b := 0) (as := [v_4, v_13]) (rest := [v_1]) (by decide +kernel) (by decide +kernel) rfl rfl (q_sum8 _ (Nat.le_of_ble_eq_true rfl)) (om_J9_floorMod_7cf53 (Nat.le_trans (by decide) hd) R f_7 f_15 hc_16) (fun _ S_21 q_24 => ?_) (fun _ _ qq => kr_x qq)
  refine kr_z (by decide) q_24 fun v_19 f_20 R_22 E_23 => ?_
  obtain ⟨g_27, h⟩ := gd_s h
  obtain ⟨x_29, e_30, h⟩ := lx_s h
  refine go_aald (kd := 104) (by decide +kernel) (by decide) R_22 f_3 f_20 (fx_k (c := 104) R_22 (by decide +kernel)) (fx_x (a := 6) (ln := 4) R_22 (by decide +kernel) g_27) fun v_25 f_26 => ?_
  have f_28 := q_is_eq f_26 e_30
  refine go_astore_n (n := 2) (by decide +kernel) (by decide +kernel) f_28 fun L_31 l_32 kp_33 => ?_
  have l_34 := kp_33 0 _ l0 (by decide) (Or.inl (by decide))
  have l_35 := kp_33 1 _ l1 (by decide) (Or.inr (q_is_cat f1 (Or.inr rfl)))
  refine go_aload_n (n := 1) (by decide +kernel) l_35 f1 ?_
  obtain ⟨x_39, e_40, h⟩ := lx_s h
  refine go_getf (x := 351) (ci := 1) (kf := 5) (fin := 0) (t := 0) (by decide +kernel) (by decide +kernel) (by decide +kernel) R_22 f1 g_6 fun v_36 f_37 => ?_
  have f_38 := q_is_eq f_37 e_40
  refine go_if (c := .ne) (o := 47) (t := 69) (P := ¬ (x_39 = 0)) (by decide +kernel) (by decide +kernel) f_38 (Iff.rfl) (fun hp_41 => ?_) (fun hp_41 => ?_)
  · have h := it_f hp_41 h
    exact oj_X11_lookAtActivity_69 hd R_22 l_34 f0 l_35 f1 l_32 f_28 hQ h
  · have h := it_n hp_41 h
    refine go_aload_n (n := 1) (by decide +kernel) l_35 f1 ?_
    obtain ⟨x_109, e_110, h⟩ := lx_s h
    refine go_getf (x := 380) (ci := 1) (kf := 6) (fin := 0) (t := 0) (by decide +kernel) (by decide +kernel) (by decide +kernel) R_22 f1 g_6 fun v_106 f_107 => ?_
    have f_108 := q_is_eq f_107 e_110
    refine go_if (c := .ne) (o := 40) (t := 69) (P := ¬ (x_109 = 0)) (by decide +kernel) (by decide +kernel) f_108 (Iff.rfl) (fun hp_111 => ?_) (fun hp_111 => ?_)
    · have h := it_f hp_111 h
      exact oj_X11_lookAtActivity_69 hd R_22 l_34 f0 l_35 f1 l_32 f_28 hQ h
    · have h := it_n hp_111 h
      refine go_aload_n (n := 0) (by decide +kernel) l_34 f0 ?_
      refine go_aload_n (n := 2) (by decide +kernel) l_32 f_28 ?_
      obtain ⟨g_114, h⟩ := gd_s h
      obtain ⟨x_116, e_117, h⟩ := lx_s h
      refine go_getf (x := 149) (ci := 4) (kf := 2) (fin := 0) (t := 0) (by decide +kernel) (by decide +kernel) (by decide +kernel) R_22 f_28 g_114 fun v_112 f_113 => ?_
      have f_115 := q_is_eq f_113 e_117
      refine go_aload_n (n := 1) (by decide +kernel) l_35 f1 ?_
      obtain ⟨x_121, e_122, h⟩ := lx_s h
      refine go_getf (x := 638) (ci := 1) (kf := 4) (fin := 2) (t := 0) (by decide +kernel) (by decide +kernel) (by decide +kernel) R_22 f1 g_6 fun v_118 f_119 => ?_
      have f_120 := q_is_eq f_119 e_122
      obtain ⟨x_124, hc_123, h⟩ := bp_s h
      refine go_callV (x := 641) (mi := 178) (n := 2) (ci := 12) (as := [v_112, v_118]) (rest := []) (by decide +kernel) (by decide +kernel) rfl rfl (q_sum8 _ (Nat.le_of_ble_eq_true rfl)) R_22 f0 (fx_k (c := 12) R_22 (by decide +kernel)) (om_X11_isReached (Nat.le_trans (by decide) hd) R_22 f0 f_115 f_120 hc_123) (fun _ S_128 q_131 => ?_) (fun _ _ qq => kr_x qq)
      refine kr_z (by decide) q_131 fun v_126 f_127 R_129 E_130 => ?_
      refine go_if (c := .eq) (o := 69) (t := 113) (P := x_124 = 0) (by decide +kernel) (by decide +kernel) f_127 (Iff.rfl) (fun hp_132 => ?_) (fun hp_132 => ?_)
      · have h := it_t hp_132 h
        cases h
        exact go_vret (by decide +kernel) rfl (hQ (Ext.rf _) _ _ R_129 q_out_n)
      · have h := it_f hp_132 h
        refine go_aload_n (n := 1) (by decide +kernel) l_35 f1 ?_
        refine go_iconst (n := 2) (z := 2) (by decide +kernel) (by decide) fun v_133 f_134 => ?_
        obtain ⟨m_135, e_136, h⟩ := up_s h
        refine go_putf (x := 351) (ci := 1) (kf := 5) (fin := 0) (zt := 0) (by decide +kernel) (by decide +kernel) (by decide) (by decide +kernel) (by decide) (Or.inl rfl) R_129 f1 f_134 (fun hq => absurd hq (by decide)) g_6 e_136 (fx_f (j := 5) R_129.2 g_6 (by decide +kernel)) fun S_137 R_138 E_139 => ?_
        have E_141 := E_139
        refine go_aload_n (n := 0) (by decide +kernel) l_34 f0 ?_
        refine go_aload_n (n := 1) (by decide +kernel) l_35 f1 ?_
        have g_144 := Ext.ok E_139 g_6
        obtain ⟨x_146, e_147, h⟩ := lx_s h
        refine go_getf (x := 366) (ci := 1) (kf := 0) (fin := 2) (t := 2) (by decide +kernel) (by decide +kernel) (by decide +kernel) R_138 f1 g_144 fun v_142 f_143 => ?_
        have f_145 := q_is_eq f_143 e_147
        refine go_iconst (n := 2) (z := 2) (by decide +kernel) (by decide) fun v_148 f_149 => ?_
        refine go_aload_n (n := 1) (by decide +kernel) l_35 f1 ?_
        obtain ⟨x_153, e_154, h⟩ := lx_s h
        refine go_getf (x := 367) (ci := 1) (kf := 1) (fin := 2) (t := 0) (by decide +kernel) (by decide +kernel) (by decide +kernel) R_138 f1 g_144 fun v_150 f_151 => ?_
        have f_152 := q_is_eq f_151 e_154
        refine go_iconst (n := 0) (z := 0) (by decide +kernel) (by decide) fun v_155 f_156 => ?_
        obtain ⟨x_158, m_159, hc_157, h⟩ := bd_s h
        refine go_callV (x := 204) (mi := 152) (n := 4) (ci := 12) (as := [v_142, v_148, v_150, v_155]) (rest := []) (by decide +kernel) (by decide +kernel) rfl rfl (q_sum8 _ (Nat.le_of_ble_eq_true rfl)) R_138 f0 (fx_k (c := 12) R_138 (by decide +kernel)) (om_X11_arrive (Nat.le_trans (by decide) hd) R_138 f0 f_145 f_149 f_152 f_156 hc_157) (fun _ S_162 q_165 => ?_) (fun _ _ qq => kr_x qq)
        refine kr_v q_165 fun R_163 E_164 => ?_
        have E_168 := Ext.tr E_141 E_164
        refine go_goto (o := 47) (t := 113) (by decide +kernel) (by decide +kernel) ?_
        cases h
        exact go_vret (by decide +kernel) rfl (hQ E_168 _ _ R_163 q_out_n)
end DF19
