/-! Methods as functions (written by wip/whole/dec.py), 14: X11_cancel, X11_checkVariable, X11_query, X11_plain, X11_standing, X11_event, X11_difference, X11_runs, X11_setRate, X11_checkWorker, X11_isHeld, X11_firstRunWithWork. -/
section DF14
noncomputable def fm_X11_cancel (p1 : Int) (m0 : MM) : Option ((Int ⊕ Nat) × MM) := bx (fm_X11_runAt p1 m0) (fun q_10 m_3 => some (.inr q_10, m_3)) fun x_2 m_3 =>
gd (okc m_3 x_2 7) <| bp (fm_X6_isAlive x_2 m_3) fun x_19 =>
if x_19 = 0 then
some (.inr 2, mthr m_3)
else
bd (fm_X11_cancelRun x_2 m_3) fun x_29 m_30 =>
gd (x_29 = 0 ∨ x_29 = 1) <| some (.inl x_29, m_30)
set_option maxHeartbeats 4000000 in
theorem om_X11_cancel {xs : List Int32} {d : Nat} {S : QS} {m0 : MM} {p1 : Int} {v0 : Value} {v1 : Value} {rr : Int ⊕ Nat} {rm : MM}
  (hd : 5 ≤ d) (R : Rp S m0) (f0 : q_is 2 v0 4) (f1 : q_is 0 v1 p1)
  (h : fm_X11_cancel p1 m0 = some (rr, rm)) : Mt xs d 107 [v0, v1] S (Cx 0 m0 rm rr) := by
  obtain ⟨d, rfl⟩ : ∃ e, d = e + 1 := ⟨d - 1, by omega⟩
  have hd : 4 ≤ d := Nat.le_of_succ_le_succ hd
  refine Mt.of (M := qM_X11_cancel) rfl (by rw [sl_1 (q_is_cat f0 (Or.inr rfl)), sl_1 (q_is_cat f1 (Or.inl rfl)), sl_0]; decide) ?_
  rw [la_1 (q_is_cat f0 (Or.inr rfl)), la_1 (q_is_cat f1 (Or.inl rfl)), la_0]
  obtain ⟨L, hL⟩ : ∃ L : QL, L = [(0, v0), (0 + 1, v1)] := ⟨_, rfl⟩
  rw [← hL]
  have l0 : q_lo L 0 = some v0 := by rw [hL]; rfl
  have l1 : q_lo L 1 = some v1 := by rw [hL]; rfl
  have hQ : Ext m0 rm → ∀ o S1, Rp S1 rm → q_oux 0 o rr → (Cx 0 m0 rm rr) o S1 := fun a o S1 b e => ⟨b, a, e⟩
  unfold fm_X11_cancel at h
  refine go_aload_n (n := 0) (by decide +kernel) l0 f0 ?_
  refine go_iload_n (n := 1) (by decide +kernel) l1 f1 ?_
  obtain ⟨rr5, m_3, hc_1, h⟩ := bx_s h
  rcases h with ⟨q_10, rfl, h⟩ | ⟨x_2, rfl, h⟩
  · cases h
    exact go_callV (x := 185) (mi := 139) (n := 1) (ci := 12) (as := [v1]) (rest := []) (by decide +kernel) (by decide +kernel) rfl rfl (q_sum8 _ (Nat.le_of_ble_eq_true rfl)) R f0 (fx_k (c := 12) R (by decide +kernel)) (om_X11_runAt (Nat.le_trans (by decide) hd) R f0 f1 hc_1) (fun _ _ qq => kx_lx qq) (fun _ _ qq => by
      obtain ⟨rfl, Rq, Eq⟩ := kx_e qq
      exact Or.inl ⟨rfl, hQ Eq _ _ Rq rfl⟩)
  refine go_callV (x := 185) (mi := 139) (n := 1) (ci := 12) (as := [v1]) (rest := []) (by decide +kernel) (by decide +kernel) rfl rfl (q_sum8 _ (Nat.le_of_ble_eq_true rfl)) R f0 (fx_k (c := 12) R (by decide +kernel)) (om_X11_runAt (Nat.le_trans (by decide) hd) R f0 f1 hc_1) (fun _ S_6 q_9 => ?_) (fun _ _ qq => kr_x (kx_l qq))
  have q_9 := kx_l q_9
  refine kr_z (by decide) q_9 fun v_4 f_5 R_7 E_8 => ?_
  have E_12 := E_8
  refine go_astore_n (n := 2) (by decide +kernel) (by decide +kernel) f_5 fun L_13 l_14 kp_15 => ?_
  have l_16 := kp_15 0 _ l0 (by decide) (Or.inl (by decide))
  refine go_aload_n (n := 2) (by decide +kernel) l_14 f_5 ?_
  obtain ⟨g_17, h⟩ := gd_s h
  obtain ⟨x_19, hc_18, h⟩ := bp_s h
  refine go_callV (x := 192) (mi := 66) (n := 0) (ci := 7) (as := []) (rest := []) (by decide +kernel) (by decide +kernel) rfl rfl (q_sum8 _ (Nat.le_of_ble_eq_true rfl)) R_7 f_5 g_17 (om_X6_isAlive (Nat.le_trans (by decide) hd) R_7 g_17 f_5 hc_18) (fun _ S_23 q_26 => ?_) (fun _ _ qq => kr_x qq)
  refine kr_z (by decide) q_26 fun v_21 f_22 R_24 E_25 => ?_
  refine go_if (c := .ne) (o := 13) (t := 23) (P := ¬ (x_19 = 0)) (by decide +kernel) (by decide +kernel) f_22 (Iff.rfl) (fun hp_27 => ?_) (fun hp_27 => ?_)
  · have h := it_f hp_27 h
    refine go_aload_n (n := 0) (by decide +kernel) l_16 f0 ?_
    refine go_aload_n (n := 2) (by decide +kernel) l_14 f_5 ?_
    obtain ⟨x_29, m_30, hc_28, h⟩ := bd_s h
    refine go_callV (x := 242) (mi := 153) (n := 1) (ci := 12) (as := [v_4]) (rest := []) (by decide +kernel) (by decide +kernel) rfl rfl (q_sum8 _ (Nat.le_of_ble_eq_true rfl)) R_24 f0 (fx_k (c := 12) R_24 (by decide +kernel)) (om_X11_cancelRun (Nat.le_trans (by decide) hd) R_24 f0 f_5 hc_28) (fun _ S_33 q_36 => ?_) (fun _ _ qq => kr_x qq)
    refine kr_z (by decide) q_36 fun v_31 f_32 R_34 E_35 => ?_
    have E_37 := Ext.tr E_12 E_35
    obtain ⟨g_38, h⟩ := gd_s h
    cases h
    exact go_iret (by decide +kernel) rfl (Or.inr ⟨rfl, g_38⟩) f_32 (hQ E_37 _ _ R_34 (q_out_v (by decide) f_32))
  · have h := it_n hp_27 h
    cases h
    exact go_thr (x := 111) (e := 2) (ic := 115) (b := 0) (by decide +kernel) (by decide +kernel) (by decide +kernel) R_24 rfl fun Sq Rq Eq => hQ (Ext.tr E_12 Eq) _ _ Rq rfl
noncomputable def fm_X11_checkVariable (p1 : Int) (m0 : MM) : Option ((Int ⊕ Nat) × MM) := if p1 < 0 then
some (.inr 0, mthr m0)
else
if p1 < 6 then
some (.inl 0, m0)
else
some (.inr 0, mthr m0)
set_option maxHeartbeats 4000000 in
theorem om_X11_checkVariable {xs : List Int32} {d : Nat} {S : QS} {m0 : MM} {p1 : Int} {v0 : Value} {v1 : Value} {rr : Int ⊕ Nat} {rm : MM}
  (hd : 1 ≤ d) (R : Rp S m0) (f0 : q_is 2 v0 4) (f1 : q_is 0 v1 p1)
  (h : fm_X11_checkVariable p1 m0 = some (rr, rm)) : Mt xs d 146 [v0, v1] S (Cx 9 m0 rm rr) := by
  obtain ⟨d, rfl⟩ : ∃ e, d = e + 1 := ⟨d - 1, by omega⟩
  have hd : 0 ≤ d := Nat.le_of_succ_le_succ hd
  refine Mt.of (M := qM_X11_checkVariable) rfl (by rw [sl_1 (q_is_cat f0 (Or.inr rfl)), sl_1 (q_is_cat f1 (Or.inl rfl)), sl_0]; decide) ?_
  rw [la_1 (q_is_cat f0 (Or.inr rfl)), la_1 (q_is_cat f1 (Or.inl rfl)), la_0]
  obtain ⟨L, hL⟩ : ∃ L : QL, L = [(0, v0), (0 + 1, v1)] := ⟨_, rfl⟩
  rw [← hL]
  have l0 : q_lo L 0 = some v0 := by rw [hL]; rfl
  have l1 : q_lo L 1 = some v1 := by rw [hL]; rfl
  have hQ : Ext m0 rm → ∀ o S1, Rp S1 rm → q_oux 9 o rr → (Cx 9 m0 rm rr) o S1 := fun a o S1 b e => ⟨b, a, e⟩
  unfold fm_X11_checkVariable at h
  refine go_iload_n (n := 1) (by decide +kernel) l1 f1 ?_
  refine go_if (c := .lt) (o := 9) (t := 10) (P := p1 < 0) (by decide +kernel) (by decide +kernel) f1 (Iff.rfl) (fun hp_1 => ?_) (fun hp_1 => ?_)
  · have h := it_t hp_1 h
    cases h
    exact go_thr (x := 255) (e := 0) (ic := 259) (b := 0) (by decide +kernel) (by decide +kernel) (by decide +kernel) R rfl fun Sq Rq Eq => hQ Eq _ _ Rq rfl
  · have h := it_f hp_1 h
    refine go_iload_n (n := 1) (by decide +kernel) l1 f1 ?_
    refine go_bipush (n := 6) (z := 6) (by decide +kernel) (by decide) fun v_2 f_3 => ?_
    refine go_icmp (c := .lt) (o := 14) (t := 21) (P := p1 < 6) (by decide +kernel) (by decide +kernel) f1 f_3 (Iff.rfl) (fun hp_4 => ?_) (fun hp_4 => ?_)
    · have h := it_t hp_4 h
      cases h
      exact go_vret (by decide +kernel) rfl (hQ (Ext.rf _) _ _ R q_out_n)
    · have h := it_f hp_4 h
      cases h
      exact go_thr (x := 255) (e := 0) (ic := 259) (b := 0) (by decide +kernel) (by decide +kernel) (by decide +kernel) R rfl fun Sq Rq Eq => hQ Eq _ _ Rq rfl
noncomputable def fm_X11_query (p1 p2 : Int) (m0 : MM) : Option ((Int ⊕ Nat) × MM) := bx (fm_X11_runAt p1 m0) (fun q_10 m_3 => some (.inr q_10, m_3)) fun x_2 m_3 =>
bx (fm_X11_checkVariable p2 m_3) (fun q_27 m_20 => some (.inr q_27, m_20)) fun x_19 m_20 =>
gd (okc m_20 x_2 7) <| lx (m_20 x_2 3) fun x_37 =>
bp (fm_X11_codeOf x_2 x_37 m_20) fun x_40 =>
lx (m_20 x_2 16) fun x_51 =>
gd (okc m_20 x_51 3) <| lx (m_20 x_51 4) fun x_57 =>
bd (fm_X4_follow x_2 x_40 x_57 0 m_20) fun x_62 m_63 =>
if x_62 = 0 then
some (.inr 2, mthr m_63)
else
bp (fm_X8_value p2 m_63) fun x_79 =>
some (.inl x_79, m_63)
set_option maxHeartbeats 4000000 in
theorem om_X11_query {xs : List Int32} {d : Nat} {S : QS} {m0 : MM} {p1 p2 : Int} {v0 : Value} {v1 : Value} {v2 : Value} {rr : Int ⊕ Nat} {rm : MM}
  (hd : 8 ≤ d) (R : Rp S m0) (f0 : q_is 2 v0 4) (f1 : q_is 0 v1 p1) (f2 : q_is 0 v2 p2)
  (h : fm_X11_query p1 p2 m0 = some (rr, rm)) : Mt xs d 108 [v0, v1, v2] S (Cx 0 m0 rm rr) := by
  obtain ⟨d, rfl⟩ : ∃ e, d = e + 1 := ⟨d - 1, by omega⟩
  have hd : 7 ≤ d := Nat.le_of_succ_le_succ hd
  refine Mt.of (M := qM_X11_query) rfl (by rw [sl_1 (q_is_cat f0 (Or.inr rfl)), sl_1 (q_is_cat f1 (Or.inl rfl)), sl_1 (q_is_cat f2 (Or.inl rfl)), sl_0]; decide) ?_
  rw [la_1 (q_is_cat f0 (Or.inr rfl)), la_1 (q_is_cat f1 (Or.inl rfl)), la_1 (q_is_cat f2 (Or.inl rfl)), la_0]
  obtain ⟨L, hL⟩ : ∃ L : QL, L = [(0, v0), (0 + 1, v1), (0 + 1 + 1, v2)] := ⟨_, rfl⟩
  rw [← hL]
  have l0 : q_lo L 0 = some v0 := by rw [hL]; rfl
  have l1 : q_lo L 1 = some v1 := by rw [hL]; rfl
  have l2 : q_lo L 2 = some v2 := by rw [hL]; rfl
  have hQ : Ext m0 rm → ∀ o S1, Rp S1 rm → q_oux 0 o rr → (Cx 0 m0 rm rr) o S1 := fun a o S1 b e => ⟨b, a, e⟩
  unfold fm_X11_query at h
  refine go_aload_n (n := 0) (by decide +kernel) l0 f0 ?_
  refine go_iload_n (n := 1) (by decide +kernel) l1 f1 ?_
  obtain ⟨rr5, m_3, hc_1, h⟩ := bx_s h
  rcases h with ⟨q_10, rfl, h⟩ | ⟨x_2, rfl, h⟩
  · cases h
    exact go_callV (x := 185) (mi := 139) (n := 1) (ci := 12) (as := [v1]) (rest := []) (by decide +kernel) (by decide +kernel) rfl rfl (q_sum8 _ (Nat.le_of_ble_eq_true rfl)) R f0 (fx_k (c := 12) R (by decide +kernel)) (om_X11_runAt (Nat.le_trans (by decide) hd) R f0 f1 hc_1) (fun _ _ qq => kx_lx qq) (fun _ _ qq => by
      obtain ⟨rfl, Rq, Eq⟩ := kx_e qq
      exact Or.inl ⟨rfl, hQ Eq _ _ Rq rfl⟩)
  refine go_callV (x := 185) (mi := 139) (n := 1) (ci := 12) (as := [v1]) (rest := []) (by decide +kernel) (by decide +kernel) rfl rfl (q_sum8 _ (Nat.le_of_ble_eq_true rfl)) R f0 (fx_k (c := 12) R (by decide +kernel)) (om_X11_runAt (Nat.le_trans (by decide) hd) R f0 f1 hc_1) (fun _ S_6 q_9 => ?_) (fun _ _ qq => kr_x (kx_l qq))
  have q_9 := kx_l q_9
  refine kr_z (by decide) q_9 fun v_4 f_5 R_7 E_8 => ?_
  have E_12 := E_8
  refine go_astore_n (n := 3) (by decide +kernel) (by decide +kernel) f_5 fun L_13 l_14 kp_15 => ?_
  have l_16 := kp_15 0 _ l0 (by decide) (Or.inl (by decide))
  have l_17 := kp_15 2 _ l2 (by decide) (Or.inr (q_is_cat f2 (Or.inl rfl)))
  refine go_aload_n (n := 0) (by decide +kernel) l_16 f0 ?_
  refine go_iload_n (n := 2) (by decide +kernel) l_17 f2 ?_
  obtain ⟨rr5, m_20, hc_18, h⟩ := bx_s h
  rcases h with ⟨q_27, rfl, h⟩ | ⟨x_19, rfl, h⟩
  · cases h
    exact go_callV (x := 246) (mi := 146) (n := 1) (ci := 12) (as := [v2]) (rest := []) (by decide +kernel) (by decide +kernel) rfl rfl (q_sum8 _ (Nat.le_of_ble_eq_true rfl)) R_7 f0 (fx_k (c := 12) R_7 (by decide +kernel)) (om_X11_checkVariable (Nat.le_trans (by decide) hd) R_7 f0 f2 hc_18) (fun _ _ qq => kx_lx qq) (fun _ _ qq => by
      obtain ⟨rfl, Rq, Eq⟩ := kx_e qq
      exact Or.inl ⟨rfl, hQ (Ext.tr E_12 Eq) _ _ Rq rfl⟩)
  refine go_callV (x := 246) (mi := 146) (n := 1) (ci := 12) (as := [v2]) (rest := []) (by decide +kernel) (by decide +kernel) rfl rfl (q_sum8 _ (Nat.le_of_ble_eq_true rfl)) R_7 f0 (fx_k (c := 12) R_7 (by decide +kernel)) (om_X11_checkVariable (Nat.le_trans (by decide) hd) R_7 f0 f2 hc_18) (fun _ S_23 q_26 => ?_) (fun _ _ qq => kr_x (kx_l qq))
  have q_26 := kx_l q_26
  refine kr_v q_26 fun R_24 E_25 => ?_
  have E_29 := Ext.tr E_12 E_25
  refine go_aload_n (n := 0) (by decide +kernel) l_16 f0 ?_
  refine go_getf (x := 57) (ci := 12) (kf := 10) (fin := 1) (t := 2) (by decide +kernel) (by decide +kernel) (by decide +kernel) R_24 f0 (fx_k (c := 12) R_24 (by decide +kernel)) fun v_30 f_31 => ?_
  have f_32 := q_is_eq (b := 16) f_31 (fx_v R_24 (by decide +kernel)).symm
  refine go_aload_n (n := 3) (by decide +kernel) l_14 f_5 ?_
  refine go_aload_n (n := 0) (by decide +kernel) l_16 f0 ?_
  refine go_aload_n (n := 3) (by decide +kernel) l_14 f_5 ?_
  refine go_aload_n (n := 3) (by decide +kernel) l_14 f_5 ?_
  obtain ⟨g_35, h⟩ := gd_s h
  obtain ⟨x_37, e_38, h⟩ := lx_s h
  refine go_getf (x := 213) (ci := 7) (kf := 3) (fin := 0) (t := 0) (by decide +kernel) (by decide +kernel) (by decide +kernel) R_24 f_5 g_35 fun v_33 f_34 => ?_
  have f_36 := q_is_eq f_34 e_38
  obtain ⟨x_40, hc_39, h⟩ := bp_s h
  refine go_callV (x := 216) (mi := 149) (n := 2) (ci := 12) (as := [v_4, v_33]) (rest := [v_4, v_30]) (by decide +kernel) (by decide +kernel) rfl rfl (q_sum8 _ (Nat.le_of_ble_eq_true rfl)) R_24 f0 (fx_k (c := 12) R_24 (by decide +kernel)) (om_X11_codeOf (Nat.le_trans (by decide) hd) R_24 f0 f_5 f_36 hc_39) (fun _ S_44 q_47 => ?_) (fun _ _ qq => kr_x qq)
  refine kr_z (by decide) q_47 fun v_42 f_43 R_45 E_46 => ?_
  refine go_aload_n (n := 3) (by decide +kernel) l_14 f_5 ?_
  obtain ⟨x_51, e_52, h⟩ := lx_s h
  refine go_getf (x := 195) (ci := 7) (kf := 16) (fin := 2) (t := 2) (by decide +kernel) (by decide +kernel) (by decide +kernel) R_45 f_5 g_35 fun v_48 f_49 => ?_
  have f_50 := q_is_eq f_49 e_52
  obtain ⟨g_55, h⟩ := gd_s h
  obtain ⟨x_57, e_58, h⟩ := lx_s h
  refine go_getf (x := 220) (ci := 3) (kf := 4) (fin := 0) (t := 0) (by decide +kernel) (by decide +kernel) (by decide +kernel) R_45 f_50 g_55 fun v_53 f_54 => ?_
  have f_56 := q_is_eq f_54 e_58
  refine go_iconst (n := 0) (z := 0) (by decide +kernel) (by decide) fun v_59 f_60 => ?_
  obtain ⟨x_62, m_63, hc_61, h⟩ := bd_s h
  refine go_callV (x := 223) (mi := 30) (n := 4) (ci := 5) (as := [v_4, v_42, v_53, v_59]) (rest := []) (by decide +kernel) (by decide +kernel) rfl rfl (q_sum8 _ (Nat.le_of_ble_eq_true rfl)) R_45 f_32 (fx_k (c := 5) R_45 (by decide +kernel)) (om_X4_follow (Nat.le_trans (by decide) hd) R_45 f_32 f_5 f_43 f_56 f_60 hc_61) (fun _ S_66 q_69 => ?_) (fun _ _ qq => kr_x qq)
  refine kr_z (by decide) q_69 fun v_64 f_65 R_67 E_68 => ?_
  have E_70 := Ext.tr E_29 E_68
  refine go_if (c := .ne) (o := 13) (t := 49) (P := ¬ (x_62 = 0)) (by decide +kernel) (by decide +kernel) f_65 (Iff.rfl) (fun hp_71 => ?_) (fun hp_71 => ?_)
  · have h := it_f hp_71 h
    refine go_aload_n (n := 0) (by decide +kernel) l_16 f0 ?_
    refine go_getf (x := 57) (ci := 12) (kf := 10) (fin := 1) (t := 2) (by decide +kernel) (by decide +kernel) (by decide +kernel) R_67 f0 (fx_k (c := 12) R_67 (by decide +kernel)) fun v_72 f_73 => ?_
    have f_74 := q_is_eq (b := 16) f_73 (fx_v R_67 (by decide +kernel)).symm
    refine go_getf (x := 231) (ci := 5) (kf := 0) (fin := 2) (t := 2) (by decide +kernel) (by decide +kernel) (by decide +kernel) R_67 f_74 (fx_k (c := 5) R_67 (by decide +kernel)) fun v_75 f_76 => ?_
    have f_77 := q_is_eq (b := 17) f_76 (fx_v R_67 (by decide +kernel)).symm
    refine go_iload_n (n := 2) (by decide +kernel) l_17 f2 ?_
    obtain ⟨x_79, hc_78, h⟩ := bp_s h
    refine go_callV (x := 251) (mi := 81) (n := 1) (ci := 9) (as := [v2]) (rest := []) (by decide +kernel) (by decide +kernel) rfl rfl (q_sum8 _ (Nat.le_of_ble_eq_true rfl)) R_67 f_77 (fx_k (c := 9) R_67 (by decide +kernel)) (om_X8_value (Nat.le_trans (by decide) hd) R_67 f_77 f2 hc_78) (fun _ S_83 q_86 => ?_) (fun _ _ qq => kr_x qq)
    refine kr_z (by decide) q_86 fun v_81 f_82 R_84 E_85 => ?_
    cases h
    exact go_iret (by decide +kernel) rfl (Or.inl rfl) f_82 (hQ E_70 _ _ R_84 (q_out_v (by decide) f_82))
  · have h := it_n hp_71 h
    cases h
    exact go_thr (x := 111) (e := 2) (ic := 115) (b := 0) (by decide +kernel) (by decide +kernel) (by decide +kernel) R_67 rfl fun Sq Rq Eq => hQ (Ext.tr E_70 Eq) _ _ Rq rfl
noncomputable def fm_X11_plain (p1 p2 : Int) (m0 : MM) : Option ((Int ⊕ Nat) × MM) := bx (fm_X11_runAt p1 m0) (fun q_10 m_3 => some (.inr q_10, m_3)) fun x_2 m_3 =>
bx (fm_X11_checkVariable p2 m_3) (fun q_27 m_20 => some (.inr q_27, m_20)) fun x_19 m_20 =>
gd (okc m_20 x_2 7) <| lx (m_20 x_2 3) fun x_37 =>
bp (fm_X11_codeOf x_2 x_37 m_20) fun x_40 =>
lx (m_20 x_2 16) fun x_51 =>
gd (okc m_20 x_51 3) <| lx (m_20 x_51 4) fun x_57 =>
bd (fm_X4_follow x_2 x_40 x_57 0 m_20) fun x_62 m_63 =>
if x_62 = 0 then
some (.inr 2, mthr m_63)
else
lx (m_63 x_2 3) fun x_79 =>
bp (fm_X11_codeOf x_2 x_79 m_63) fun x_82 =>
lx (m_63 x_2 16) fun x_93 =>
gd (okc m_63 x_93 3) <| lx (m_63 x_93 4) fun x_99 =>
bd (fm_X4_follow x_2 x_82 x_99 1 m_63) fun x_104 m_105 =>
bp (fm_X8_value p2 m_105) fun x_120 =>
some (.inl x_120, m_105)
set_option maxHeartbeats 4000000 in
theorem om_X11_plain {xs : List Int32} {d : Nat} {S : QS} {m0 : MM} {p1 p2 : Int} {v0 : Value} {v1 : Value} {v2 : Value} {rr : Int ⊕ Nat} {rm : MM}
  (hd : 8 ≤ d) (R : Rp S m0) (f0 : q_is 2 v0 4) (f1 : q_is 0 v1 p1) (f2 : q_is 0 v2 p2)
  (h : fm_X11_plain p1 p2 m0 = some (rr, rm)) : Mt xs d 109 [v0, v1, v2] S (Cx 0 m0 rm rr) := by
  obtain ⟨d, rfl⟩ : ∃ e, d = e + 1 := ⟨d - 1, by omega⟩
  have hd : 7 ≤ d := Nat.le_of_succ_le_succ hd
  refine Mt.of (M := qM_X11_plain) rfl (by rw [sl_1 (q_is_cat f0 (Or.inr rfl)), sl_1 (q_is_cat f1 (Or.inl rfl)), sl_1 (q_is_cat f2 (Or.inl rfl)), sl_0]; decide) ?_
  rw [la_1 (q_is_cat f0 (Or.inr rfl)), la_1 (q_is_cat f1 (Or.inl rfl)), la_1 (q_is_cat f2 (Or.inl rfl)), la_0]
  obtain ⟨L, hL⟩ : ∃ L : QL, L = [(0, v0), (0 + 1, v1), (0 + 1 + 1, v2)] := ⟨_, rfl⟩
  rw [← hL]
  have l0 : q_lo L 0 = some v0 := by rw [hL]; rfl
  have l1 : q_lo L 1 = some v1 := by rw [hL]; rfl
  have l2 : q_lo L 2 = some v2 := by rw [hL]; rfl
  have hQ : Ext m0 rm → ∀ o S1, Rp S1 rm → q_oux 0 o rr → (Cx 0 m0 rm rr) o S1 := fun a o S1 b e => ⟨b, a, e⟩
  unfold fm_X11_plain at h
  refine go_aload_n (n := 0) (by decide +kernel) l0 f0 ?_
  refine go_iload_n (n := 1) (by decide +kernel) l1 f1 ?_
  obtain ⟨rr5, m_3, hc_1, h⟩ := bx_s h
  rcases h with ⟨q_10, rfl, h⟩ | ⟨x_2, rfl, h⟩
  · cases h
    exact go_callV (x := 185) (mi := 139) (n := 1) (ci := 12) (as := [v1]) (rest := []) (by decide +kernel) (by decide +kernel) rfl rfl (q_sum8 _ (Nat.le_of_ble_eq_true rfl)) R f0 (fx_k (c := 12) R (by decide +kernel)) (om_X11_runAt (Nat.le_trans (by decide) hd) R f0 f1 hc_1) (fun _ _ qq => kx_lx qq) (fun _ _ qq => by
      obtain ⟨rfl, Rq, Eq⟩ := kx_e qq
      exact Or.inl ⟨rfl, hQ Eq _ _ Rq rfl⟩)
  refine go_callV (x := 185) (mi := 139) (n := 1) (ci := 12) (as := [v1]) (rest := []) (by decide +kernel) (by decide +kernel) rfl rfl (q_sum8 _ (Nat.le_of_ble_eq_true rfl)) R f0 (fx_k (c := 12) R (by decide +kernel)) (om_X11_runAt (Nat.le_trans (by decide) hd) R f0 f1 hc_1) (fun _ S_6 q_9 => ?_) (fun _ _ qq => kr_x (kx_l qq))
  have q_9 := kx_l q_9
  refine kr_z (by decide) q_9 fun v_4 f_5 R_7 E_8 => ?_
  have E_12 := E_8
  refine go_astore_n (n := 3) (by decide +kernel) (by decide +kernel) f_5 fun L_13 l_14 kp_15 => ?_
  have l_16 := kp_15 0 _ l0 (by decide) (Or.inl (by decide))
  have l_17 := kp_15 2 _ l2 (by decide) (Or.inr (q_is_cat f2 (Or.inl rfl)))
  refine go_aload_n (n := 0) (by decide +kernel) l_16 f0 ?_
  refine go_iload_n (n := 2) (by decide +kernel) l_17 f2 ?_
  obtain ⟨rr5, m_20, hc_18, h⟩ := bx_s h
  rcases h with ⟨q_27, rfl, h⟩ | ⟨x_19, rfl, h⟩
  · cases h
    exact go_callV (x := 246) (mi := 146) (n := 1) (ci := 12) (as := [v2]) (rest := []) (by decide +kernel) (by decide +kernel) rfl rfl (q_sum8 _ (Nat.le_of_ble_eq_true rfl)) R_7 f0 (fx_k (c := 12) R_7 (by decide +kernel)) (om_X11_checkVariable (Nat.le_trans (by decide) hd) R_7 f0 f2 hc_18) (fun _ _ qq => kx_lx qq) (fun _ _ qq => by
      obtain ⟨rfl, Rq, Eq⟩ := kx_e qq
      exact Or.inl ⟨rfl, hQ (Ext.tr E_12 Eq) _ _ Rq rfl⟩)
  refine go_callV (x := 246) (mi := 146) (n := 1) (ci := 12) (as := [v2]) (rest := []) (by decide +kernel) (by decide +kernel) rfl rfl (q_sum8 _ (Nat.le_of_ble_eq_true rfl)) R_7 f0 (fx_k (c := 12) R_7 (by decide +kernel)) (om_X11_checkVariable (Nat.le_trans (by decide) hd) R_7 f0 f2 hc_18) (fun _ S_23 q_26 => ?_) (fun _ _ qq => kr_x (kx_l qq))
  have q_26 := kx_l q_26
  refine kr_v q_26 fun R_24 E_25 => ?_
  have E_29 := Ext.tr E_12 E_25
  refine go_aload_n (n := 0) (by decide +kernel) l_16 f0 ?_
  refine go_getf (x := 57) (ci := 12) (kf := 10) (fin := 1) (t := 2) (by decide +kernel) (by decide +kernel) (by decide +kernel) R_24 f0 (fx_k (c := 12) R_24 (by decide +kernel)) fun v_30 f_31 => ?_
  have f_32 := q_is_eq (b := 16) f_31 (fx_v R_24 (by decide +kernel)).symm
  refine go_aload_n (n := 3) (by decide +kernel) l_14 f_5 ?_
  refine go_aload_n (n := 0) (by decide +kernel) l_16 f0 ?_
  refine go_aload_n (n := 3) (by decide +kernel) l_14 f_5 ?_
  refine go_aload_n (n := 3) (by decide +kernel) l_14 f_5 ?_
  obtain ⟨g_35, h⟩ := gd_s h
  obtain ⟨x_37, e_38, h⟩ := lx_s h
  refine go_getf (x := 213) (ci := 7) (kf := 3) (fin := 0) (t := 0) (by decide +kernel) (by decide +kernel) (by decide +kernel) R_24 f_5 g_35 fun v_33 f_34 => ?_
  have f_36 := q_is_eq f_34 e_38
  obtain ⟨x_40, hc_39, h⟩ := bp_s h
  refine go_callV (x := 216) (mi := 149) (n := 2) (ci := 12) (as := [v_4, v_33]) (rest := [v_4, v_30]) (by decide +kernel) (by decide +kernel) rfl rfl (q_sum8 _ (Nat.le_of_ble_eq_true rfl)) R_24 f0 (fx_k (c := 12) R_24 (by decide +kernel)) (om_X11_codeOf (Nat.le_trans (by decide) hd) R_24 f0 f_5 f_36 hc_39) (fun _ S_44 q_47 => ?_) (fun _ _ qq => kr_x qq)
  refine kr_z (by decide) q_47 fun v_42 f_43 R_45 E_46 => ?_
  refine go_aload_n (n := 3) (by decide +kernel) l_14 f_5 ?_
  obtain ⟨x_51, e_52, h⟩ := lx_s h
  refine go_getf (x := 195) (ci := 7) (kf := 16) (fin := 2) (t := 2) (by decide +kernel) (by decide +kernel) (by decide +kernel) R_45 f_5 g_35 fun v_48 f_49 => ?_
  have f_50 := q_is_eq f_49 e_52
  obtain ⟨g_55, h⟩ := gd_s h
  obtain ⟨x_57, e_58, h⟩ := lx_s h
  refine go_getf (x := 220) (ci := 3) (kf := 4) (fin := 0) (t := 0) (by decide +kernel) (by decide +kernel) (by decide +kernel) R_45 f_50 g_55 fun v_53 f_54 => ?_
  have f_56 := q_is_eq f_54 e_58
  refine go_iconst (n := 0) (z := 0) (by decide +kernel) (by decide) fun v_59 f_60 => ?_
  obtain ⟨x_62, m_63, hc_61, h⟩ := bd_s h
  refine go_callV (x := 223) (mi := 30) (n := 4) (ci := 5) (as := [v_4, v_42, v_53, v_59]) (rest := []) (by decide +kernel) (by decide +kernel) rfl rfl (q_sum8 _ (Nat.le_of_ble_eq_true rfl)) R_45 f_32 (fx_k (c := 5) R_45 (by decide +kernel)) (om_X4_follow (Nat.le_trans (by decide) hd) R_45 f_32 f_5 f_43 f_56 f_60 hc_61) (fun _ S_66 q_69 => ?_) (fun _ _ qq => kr_x qq)
  refine kr_z (by decide) q_69 fun v_64 f_65 R_67 E_68 => ?_
  have E_70 := Ext.tr E_29 E_68
  refine go_if (c := .ne) (o := 13) (t := 49) (P := ¬ (x_62 = 0)) (by decide +kernel) (by decide +kernel) f_65 (Iff.rfl) (fun hp_71 => ?_) (fun hp_71 => ?_)
  · have h := it_f hp_71 h
    refine go_aload_n (n := 0) (by decide +kernel) l_16 f0 ?_
    refine go_getf (x := 57) (ci := 12) (kf := 10) (fin := 1) (t := 2) (by decide +kernel) (by decide +kernel) (by decide +kernel) R_67 f0 (fx_k (c := 12) R_67 (by decide +kernel)) fun v_72 f_73 => ?_
    have f_74 := q_is_eq (b := 16) f_73 (fx_v R_67 (by decide +kernel)).symm
    refine go_aload_n (n := 3) (by decide +kernel) l_14 f_5 ?_
    refine go_aload_n (n := 0) (by decide +kernel) l_16 f0 ?_
    refine go_aload_n (n := 3) (by decide +kernel) l_14 f_5 ?_
    refine go_aload_n (n := 3) (by decide +kernel) l_14 f_5 ?_
    have g_77 := Ext.ok E_68 g_35
    obtain ⟨x_79, e_80, h⟩ := lx_s h
    refine go_getf (x := 213) (ci := 7) (kf := 3) (fin := 0) (t := 0) (by decide +kernel) (by decide +kernel) (by decide +kernel) R_67 f_5 g_77 fun v_75 f_76 => ?_
    have f_78 := q_is_eq f_76 e_80
    obtain ⟨x_82, hc_81, h⟩ := bp_s h
    refine go_callV (x := 216) (mi := 149) (n := 2) (ci := 12) (as := [v_4, v_75]) (rest := [v_4, v_72]) (by decide +kernel) (by decide +kernel) rfl rfl (q_sum8 _ (Nat.le_of_ble_eq_true rfl)) R_67 f0 (fx_k (c := 12) R_67 (by decide +kernel)) (om_X11_codeOf (Nat.le_trans (by decide) hd) R_67 f0 f_5 f_78 hc_81) (fun _ S_86 q_89 => ?_) (fun _ _ qq => kr_x qq)
    refine kr_z (by decide) q_89 fun v_84 f_85 R_87 E_88 => ?_
    refine go_aload_n (n := 3) (by decide +kernel) l_14 f_5 ?_
    obtain ⟨x_93, e_94, h⟩ := lx_s h
    refine go_getf (x := 195) (ci := 7) (kf := 16) (fin := 2) (t := 2) (by decide +kernel) (by decide +kernel) (by decide +kernel) R_87 f_5 g_77 fun v_90 f_91 => ?_
    have f_92 := q_is_eq f_91 e_94
    obtain ⟨g_97, h⟩ := gd_s h
    obtain ⟨x_99, e_100, h⟩ := lx_s h
    refine go_getf (x := 220) (ci := 3) (kf := 4) (fin := 0) (t := 0) (by decide +kernel) (by decide +kernel) (by decide +kernel) R_87 f_92 g_97 fun v_95 f_96 => ?_
    have f_98 := q_is_eq f_96 e_100
    refine go_iconst (n := 1) (z := 1) (by decide +kernel) (by decide) fun v_101 f_102 => ?_
    obtain ⟨x_104, m_105, hc_103, h⟩ := bd_s h
    refine go_callV (x := 223) (mi := 30) (n := 4) (ci := 5) (as := [v_4, v_84, v_95, v_101]) (rest := []) (by decide +kernel) (by decide +kernel) rfl rfl (q_sum8 _ (Nat.le_of_ble_eq_true rfl)) R_87 f_74 (fx_k (c := 5) R_87 (by decide +kernel)) (om_X4_follow (Nat.le_trans (by decide) hd) R_87 f_74 f_5 f_85 f_98 f_102 hc_103) (fun _ S_108 q_111 => ?_) (fun _ _ qq => kr_x qq)
    refine kr_z (by decide) q_111 fun v_106 f_107 R_109 E_110 => ?_
    have E_112 := Ext.tr E_70 E_110
    refine go_pop (by decide +kernel) f_107 (Or.inl rfl) ?_
    refine go_aload_n (n := 0) (by decide +kernel) l_16 f0 ?_
    refine go_getf (x := 57) (ci := 12) (kf := 10) (fin := 1) (t := 2) (by decide +kernel) (by decide +kernel) (by decide +kernel) R_109 f0 (fx_k (c := 12) R_109 (by decide +kernel)) fun v_113 f_114 => ?_
    have f_115 := q_is_eq (b := 16) f_114 (fx_v R_109 (by decide +kernel)).symm
    refine go_getf (x := 231) (ci := 5) (kf := 0) (fin := 2) (t := 2) (by decide +kernel) (by decide +kernel) (by decide +kernel) R_109 f_115 (fx_k (c := 5) R_109 (by decide +kernel)) fun v_116 f_117 => ?_
    have f_118 := q_is_eq (b := 17) f_117 (fx_v R_109 (by decide +kernel)).symm
    refine go_iload_n (n := 2) (by decide +kernel) l_17 f2 ?_
    obtain ⟨x_120, hc_119, h⟩ := bp_s h
    refine go_callV (x := 251) (mi := 81) (n := 1) (ci := 9) (as := [v2]) (rest := []) (by decide +kernel) (by decide +kernel) rfl rfl (q_sum8 _ (Nat.le_of_ble_eq_true rfl)) R_109 f_118 (fx_k (c := 9) R_109 (by decide +kernel)) (om_X8_value (Nat.le_trans (by decide) hd) R_109 f_118 f2 hc_119) (fun _ S_124 q_127 => ?_) (fun _ _ qq => kr_x qq)
    refine kr_z (by decide) q_127 fun v_122 f_123 R_125 E_126 => ?_
    cases h
    exact go_iret (by decide +kernel) rfl (Or.inl rfl) f_123 (hQ E_112 _ _ R_125 (q_out_v (by decide) f_123))
  · have h := it_n hp_71 h
    cases h
    exact go_thr (x := 111) (e := 2) (ic := 115) (b := 0) (by decide +kernel) (by decide +kernel) (by decide +kernel) R_67 rfl fun Sq Rq Eq => hQ (Ext.tr E_70 Eq) _ _ Rq rfl
noncomputable def fm_X11_standing (p1 : Int) (m0 : MM) : Option ((Int ⊕ Nat) × MM) := bx (fm_X11_runAt p1 m0) (fun q_10 m_3 => some (.inr q_10, m_3)) fun x_2 m_3 =>
gd (okc m_3 x_2 7) <| lx (m_3 x_2 16) fun x_22 =>
gd (okc m_3 x_22 3) <| lx (m_3 x_22 1) fun x_28 =>
lx (m_3 x_2 6) fun x_35 =>
some (.inl (w32 ((w32 (10 * x_28)) + x_35)), m_3)
set_option maxHeartbeats 4000000 in
theorem om_X11_standing {xs : List Int32} {d : Nat} {S : QS} {m0 : MM} {p1 : Int} {v0 : Value} {v1 : Value} {rr : Int ⊕ Nat} {rm : MM}
  (hd : 5 ≤ d) (R : Rp S m0) (f0 : q_is 2 v0 4) (f1 : q_is 0 v1 p1)
  (h : fm_X11_standing p1 m0 = some (rr, rm)) : Mt xs d 110 [v0, v1] S (Cx 0 m0 rm rr) := by
  obtain ⟨d, rfl⟩ : ∃ e, d = e + 1 := ⟨d - 1, by omega⟩
  have hd : 4 ≤ d := Nat.le_of_succ_le_succ hd
  refine Mt.of (M := qM_X11_standing) rfl (by rw [sl_1 (q_is_cat f0 (Or.inr rfl)), sl_1 (q_is_cat f1 (Or.inl rfl)), sl_0]; decide) ?_
  rw [la_1 (q_is_cat f0 (Or.inr rfl)), la_1 (q_is_cat f1 (Or.inl rfl)), la_0]
  obtain ⟨L, hL⟩ : ∃ L : QL, L = [(0, v0), (0 + 1, v1)] := ⟨_, rfl⟩
  rw [← hL]
  have l0 : q_lo L 0 = some v0 := by rw [hL]; rfl
  have l1 : q_lo L 1 = some v1 := by rw [hL]; rfl
  have hQ : Ext m0 rm → ∀ o S1, Rp S1 rm → q_oux 0 o rr → (Cx 0 m0 rm rr) o S1 := fun a o S1 b e => ⟨b, a, e⟩
  unfold fm_X11_standing at h
  refine go_aload_n (n := 0) (by decide +kernel) l0 f0 ?_
  refine go_iload_n (n := 1) (by decide +kernel) l1 f1 ?_
  obtain ⟨rr5, m_3, hc_1, h⟩ := bx_s h
  rcases h with ⟨q_10, rfl, h⟩ | ⟨x_2, rfl, h⟩
  · cases h
    exact go_callV (x := 185) (mi := 139) (n := 1) (ci := 12) (as := [v1]) (rest := []) (by decide +kernel) (by decide +kernel) rfl rfl (q_sum8 _ (Nat.le_of_ble_eq_true rfl)) R f0 (fx_k (c := 12) R (by decide +kernel)) (om_X11_runAt (Nat.le_trans (by decide) hd) R f0 f1 hc_1) (fun _ _ qq => kx_lx qq) (fun _ _ qq => by
      obtain ⟨rfl, Rq, Eq⟩ := kx_e qq
      exact Or.inl ⟨rfl, hQ Eq _ _ Rq rfl⟩)
  refine go_callV (x := 185) (mi := 139) (n := 1) (ci := 12) (as := [v1]) (rest := []) (by decide +kernel) (by decide +kernel) rfl rfl (q_sum8 _ (Nat.le_of_ble_eq_true rfl)) R f0 (fx_k (c := 12) R (by decide +kernel)) (om_X11_runAt (Nat.le_trans (by decide) hd) R f0 f1 hc_1) (fun _ S_6 q_9 => ?_) (fun _ _ qq => kr_x (kx_l qq))
  have q_9 := kx_l q_9
  refine kr_z (by decide) q_9 fun v_4 f_5 R_7 E_8 => ?_
  have E_12 := E_8
  refine go_astore_n (n := 2) (by decide +kernel) (by decide +kernel) f_5 fun L_13 l_14 kp_15 => ?_
  refine go_bipush (n := 10) (z := 10) (by decide +kernel) (by decide) fun v_16 f_17 => ?_
  refine go_aload_n (n := 2) (by decide +kernel) l_14 f_5 ?_
  obtain ⟨g_20, h⟩ := gd_s h
  obtain ⟨x_22, e_23, h⟩ := lx_s h
  refine go_getf (x := 195) (ci := 7) (kf := 16) (fin := 2) (t := 2) (by decide +kernel) (by decide +kernel) (by decide +kernel) R_7 f_5 g_20 fun v_18 f_19 => ?_
  have f_21 := q_is_eq f_19 e_23
  obtain ⟨g_26, h⟩ := gd_s h
  obtain ⟨x_28, e_29, h⟩ := lx_s h
  refine go_getf (x := 199) (ci := 3) (kf := 1) (fin := 0) (t := 0) (by decide +kernel) (by decide +kernel) (by decide +kernel) R_7 f_21 g_26 fun v_24 f_25 => ?_
  have f_27 := q_is_eq f_25 e_29
  refine go_imul (by decide +kernel) f_17 f_27 fun v_30 f_31 => ?_
  refine go_aload_n (n := 2) (by decide +kernel) l_14 f_5 ?_
  obtain ⟨x_35, e_36, h⟩ := lx_s h
  refine go_getf (x := 208) (ci := 7) (kf := 6) (fin := 0) (t := 0) (by decide +kernel) (by decide +kernel) (by decide +kernel) R_7 f_5 g_20 fun v_32 f_33 => ?_
  have f_34 := q_is_eq f_33 e_36
  refine go_iadd (by decide +kernel) f_31 f_34 fun v_37 f_38 => ?_
  cases h
  exact go_iret (by decide +kernel) rfl (Or.inl rfl) f_38 (hQ E_12 _ _ R_7 (q_out_v (by decide) f_38))
noncomputable def fm_X11_event (p1 p2 : Int) (m0 : MM) : Option ((Int ⊕ Nat) × MM) := bx (fm_X11_runAt p1 m0) (fun q_10 m_3 => some (.inr q_10, m_3)) fun x_2 m_3 =>
if p2 < 0 then
some (.inr 0, mthr m_3)
else
gd (okc m_3 x_2 7) <| lx (m_3 x_2 16) fun x_22 =>
gd (okc m_3 x_22 3) <| lx (m_3 x_22 1) fun x_28 =>
if p2 < x_28 then
bp (fm_X2_kind x_22 p2 m_3) fun x_37 =>
bp (fm_X2_x x_22 p2 m_3) fun x_53 =>
bp (fm_X2_y x_22 p2 m_3) fun x_69 =>
some (.inl (w32 ((w32 ((w32 (1000000 * x_37)) + (w32 (1000 * x_53)))) + x_69)), m_3)
else
some (.inr 0, mthr m_3)
set_option maxHeartbeats 4000000 in
theorem om_X11_event {xs : List Int32} {d : Nat} {S : QS} {m0 : MM} {p1 p2 : Int} {v0 : Value} {v1 : Value} {v2 : Value} {rr : Int ⊕ Nat} {rm : MM}
  (hd : 5 ≤ d) (R : Rp S m0) (f0 : q_is 2 v0 4) (f1 : q_is 0 v1 p1) (f2 : q_is 0 v2 p2)
  (h : fm_X11_event p1 p2 m0 = some (rr, rm)) : Mt xs d 111 [v0, v1, v2] S (Cx 0 m0 rm rr) := by
  obtain ⟨d, rfl⟩ : ∃ e, d = e + 1 := ⟨d - 1, by omega⟩
  have hd : 4 ≤ d := Nat.le_of_succ_le_succ hd
  refine Mt.of (M := qM_X11_event) rfl (by rw [sl_1 (q_is_cat f0 (Or.inr rfl)), sl_1 (q_is_cat f1 (Or.inl rfl)), sl_1 (q_is_cat f2 (Or.inl rfl)), sl_0]; decide) ?_
  rw [la_1 (q_is_cat f0 (Or.inr rfl)), la_1 (q_is_cat f1 (Or.inl rfl)), la_1 (q_is_cat f2 (Or.inl rfl)), la_0]
  obtain ⟨L, hL⟩ : ∃ L : QL, L = [(0, v0), (0 + 1, v1), (0 + 1 + 1, v2)] := ⟨_, rfl⟩
  rw [← hL]
  have l0 : q_lo L 0 = some v0 := by rw [hL]; rfl
  have l1 : q_lo L 1 = some v1 := by rw [hL]; rfl
  have l2 : q_lo L 2 = some v2 := by rw [hL]; rfl
  have hQ : Ext m0 rm → ∀ o S1, Rp S1 rm → q_oux 0 o rr → (Cx 0 m0 rm rr) o S1 := fun a o S1 b e => ⟨b, a, e⟩
  unfold fm_X11_event at h
  refine go_aload_n (n := 0) (by decide +kernel) l0 f0 ?_
  refine go_iload_n (n := 1) (by decide +kernel) l1 f1 ?_
  obtain ⟨rr5, m_3, hc_1, h⟩ := bx_s h
  rcases h with ⟨q_10, rfl, h⟩ | ⟨x_2, rfl, h⟩
  · cases h
    exact go_callV (x := 185) (mi := 139) (n := 1) (ci := 12) (as := [v1]) (rest := []) (by decide +kernel) (by decide +kernel) rfl rfl (q_sum8 _ (Nat.le_of_ble_eq_true rfl)) R f0 (fx_k (c := 12) R (by decide +kernel)) (om_X11_runAt (Nat.le_trans (by decide) hd) R f0 f1 hc_1) (fun _ _ qq => kx_lx qq) (fun _ _ qq => by
      obtain ⟨rfl, Rq, Eq⟩ := kx_e qq
      exact Or.inl ⟨rfl, hQ Eq _ _ Rq rfl⟩)
  refine go_callV (x := 185) (mi := 139) (n := 1) (ci := 12) (as := [v1]) (rest := []) (by decide +kernel) (by decide +kernel) rfl rfl (q_sum8 _ (Nat.le_of_ble_eq_true rfl)) R f0 (fx_k (c := 12) R (by decide +kernel)) (om_X11_runAt (Nat.le_trans (by decide) hd) R f0 f1 hc_1) (fun _ S_6 q_9 => ?_) (fun _ _ qq => kr_x (kx_l qq))
  have q_9 := kx_l q_9
  refine kr_z (by decide) q_9 fun v_4 f_5 R_7 E_8 => ?_
  have E_12 := E_8
  refine go_astore_n (n := 3) (by decide +kernel) (by decide +kernel) f_5 fun L_13 l_14 kp_15 => ?_
  have l_16 := kp_15 2 _ l2 (by decide) (Or.inr (q_is_cat f2 (Or.inl rfl)))
  refine go_iload_n (n := 2) (by decide +kernel) l_16 f2 ?_
  refine go_if (c := .lt) (o := 14) (t := 21) (P := p2 < 0) (by decide +kernel) (by decide +kernel) f2 (Iff.rfl) (fun hp_17 => ?_) (fun hp_17 => ?_)
  · have h := it_t hp_17 h
    cases h
    exact go_thr (x := 255) (e := 0) (ic := 259) (b := 0) (by decide +kernel) (by decide +kernel) (by decide +kernel) R_7 rfl fun Sq Rq Eq => hQ (Ext.tr E_12 Eq) _ _ Rq rfl
  · have h := it_f hp_17 h
    refine go_iload_n (n := 2) (by decide +kernel) l_16 f2 ?_
    refine go_aload_n (n := 3) (by decide +kernel) l_14 f_5 ?_
    obtain ⟨g_20, h⟩ := gd_s h
    obtain ⟨x_22, e_23, h⟩ := lx_s h
    refine go_getf (x := 195) (ci := 7) (kf := 16) (fin := 2) (t := 2) (by decide +kernel) (by decide +kernel) (by decide +kernel) R_7 f_5 g_20 fun v_18 f_19 => ?_
    have f_21 := q_is_eq f_19 e_23
    obtain ⟨g_26, h⟩ := gd_s h
    obtain ⟨x_28, e_29, h⟩ := lx_s h
    refine go_getf (x := 199) (ci := 3) (kf := 1) (fin := 0) (t := 0) (by decide +kernel) (by decide +kernel) (by decide +kernel) R_7 f_21 g_26 fun v_24 f_25 => ?_
    have f_27 := q_is_eq f_25 e_29
    refine go_icmp (c := .lt) (o := 14) (t := 32) (P := p2 < x_28) (by decide +kernel) (by decide +kernel) f2 f_27 (Iff.rfl) (fun hp_30 => ?_) (fun hp_30 => ?_)
    · have h := it_t hp_30 h
      refine go_ldc_w (x := 260) (n := 1000000) (a := 0) (b := 0) (z := 1000000) (by decide +kernel) (by decide +kernel) (by decide +kernel) fun v_31 f_32 => ?_
      refine go_aload_n (n := 3) (by decide +kernel) l_14 f_5 ?_
      refine go_getf (x := 195) (ci := 7) (kf := 16) (fin := 2) (t := 2) (by decide +kernel) (by decide +kernel) (by decide +kernel) R_7 f_5 g_20 fun v_33 f_34 => ?_
      have f_35 := q_is_eq f_34 e_23
      refine go_iload_n (n := 2) (by decide +kernel) l_16 f2 ?_
      obtain ⟨x_37, hc_36, h⟩ := bp_s h
      refine go_callV (x := 261) (mi := 9) (n := 1) (ci := 3) (as := [v2]) (rest := [v_31]) (by decide +kernel) (by decide +kernel) rfl rfl (q_sum8 _ (Nat.le_of_ble_eq_true rfl)) R_7 f_35 g_26 (om_X2_kind (Nat.le_trans (by decide) hd) R_7 g_26 f_35 f2 hc_36) (fun _ S_41 q_44 => ?_) (fun _ _ qq => kr_x qq)
      refine kr_z (by decide) q_44 fun v_39 f_40 R_42 E_43 => ?_
      refine go_imul (by decide +kernel) f_32 f_40 fun v_45 f_46 => ?_
      refine go_sipush (n := 1000) (z := 1000) (by decide +kernel) (by decide) fun v_47 f_48 => ?_
      refine go_aload_n (n := 3) (by decide +kernel) l_14 f_5 ?_
      refine go_getf (x := 195) (ci := 7) (kf := 16) (fin := 2) (t := 2) (by decide +kernel) (by decide +kernel) (by decide +kernel) R_42 f_5 g_20 fun v_49 f_50 => ?_
      have f_51 := q_is_eq f_50 e_23
      refine go_iload_n (n := 2) (by decide +kernel) l_16 f2 ?_
      obtain ⟨x_53, hc_52, h⟩ := bp_s h
      refine go_callV (x := 264) (mi := 10) (n := 1) (ci := 3) (as := [v2]) (rest := [v_47, v_45]) (by decide +kernel) (by decide +kernel) rfl rfl (q_sum8 _ (Nat.le_of_ble_eq_true rfl)) R_42 f_51 g_26 (om_X2_x (Nat.le_trans (by decide) hd) R_42 g_26 f_51 f2 hc_52) (fun _ S_57 q_60 => ?_) (fun _ _ qq => kr_x qq)
      refine kr_z (by decide) q_60 fun v_55 f_56 R_58 E_59 => ?_
      refine go_imul (by decide +kernel) f_48 f_56 fun v_61 f_62 => ?_
      refine go_iadd (by decide +kernel) f_46 f_62 fun v_63 f_64 => ?_
      refine go_aload_n (n := 3) (by decide +kernel) l_14 f_5 ?_
      refine go_getf (x := 195) (ci := 7) (kf := 16) (fin := 2) (t := 2) (by decide +kernel) (by decide +kernel) (by decide +kernel) R_58 f_5 g_20 fun v_65 f_66 => ?_
      have f_67 := q_is_eq f_66 e_23
      refine go_iload_n (n := 2) (by decide +kernel) l_16 f2 ?_
      obtain ⟨x_69, hc_68, h⟩ := bp_s h
      refine go_callV (x := 267) (mi := 11) (n := 1) (ci := 3) (as := [v2]) (rest := [v_63]) (by decide +kernel) (by decide +kernel) rfl rfl (q_sum8 _ (Nat.le_of_ble_eq_true rfl)) R_58 f_67 g_26 (om_X2_y (Nat.le_trans (by decide) hd) R_58 g_26 f_67 f2 hc_68) (fun _ S_73 q_76 => ?_) (fun _ _ qq => kr_x qq)
      refine kr_z (by decide) q_76 fun v_71 f_72 R_74 E_75 => ?_
      refine go_iadd (by decide +kernel) f_64 f_72 fun v_77 f_78 => ?_
      cases h
      exact go_iret (by decide +kernel) rfl (Or.inl rfl) f_78 (hQ E_12 _ _ R_74 (q_out_v (by decide) f_78))
    · have h := it_f hp_30 h
      cases h
      exact go_thr (x := 255) (e := 0) (ic := 259) (b := 0) (by decide +kernel) (by decide +kernel) (by decide +kernel) R_7 rfl fun Sq Rq Eq => hQ (Ext.tr E_12 Eq) _ _ Rq rfl
noncomputable def fm_X11_difference (p1 : Int) (m0 : MM) : Option ((Int ⊕ Nat) × MM) := bx (fm_X11_runAt p1 m0) (fun q_10 m_3 => some (.inr q_10, m_3)) fun x_2 m_3 =>
gd (okc m_3 x_2 7) <| lx (m_3 x_2 6) fun x_20 =>
if x_20 = 6 then
lx (m_3 x_2 7) fun x_28 =>
some (.inl x_28, m_3)
else
some (.inr 2, mthr m_3)
set_option maxHeartbeats 4000000 in
theorem om_X11_difference {xs : List Int32} {d : Nat} {S : QS} {m0 : MM} {p1 : Int} {v0 : Value} {v1 : Value} {rr : Int ⊕ Nat} {rm : MM}
  (hd : 5 ≤ d) (R : Rp S m0) (f0 : q_is 2 v0 4) (f1 : q_is 0 v1 p1)
  (h : fm_X11_difference p1 m0 = some (rr, rm)) : Mt xs d 112 [v0, v1] S (Cx 0 m0 rm rr) := by
  obtain ⟨d, rfl⟩ : ∃ e, d = e + 1 := ⟨d - 1, by omega⟩
  have hd : 4 ≤ d := Nat.le_of_succ_le_succ hd
  refine Mt.of (M := qM_X11_difference) rfl (by rw [sl_1 (q_is_cat f0 (Or.inr rfl)), sl_1 (q_is_cat f1 (Or.inl rfl)), sl_0]; decide) ?_
  rw [la_1 (q_is_cat f0 (Or.inr rfl)), la_1 (q_is_cat f1 (Or.inl rfl)), la_0]
  obtain ⟨L, hL⟩ : ∃ L : QL, L = [(0, v0), (0 + 1, v1)] := ⟨_, rfl⟩
  rw [← hL]
  have l0 : q_lo L 0 = some v0 := by rw [hL]; rfl
  have l1 : q_lo L 1 = some v1 := by rw [hL]; rfl
  have hQ : Ext m0 rm → ∀ o S1, Rp S1 rm → q_oux 0 o rr → (Cx 0 m0 rm rr) o S1 := fun a o S1 b e => ⟨b, a, e⟩
  unfold fm_X11_difference at h
  refine go_aload_n (n := 0) (by decide +kernel) l0 f0 ?_
  refine go_iload_n (n := 1) (by decide +kernel) l1 f1 ?_
  obtain ⟨rr5, m_3, hc_1, h⟩ := bx_s h
  rcases h with ⟨q_10, rfl, h⟩ | ⟨x_2, rfl, h⟩
  · cases h
    exact go_callV (x := 185) (mi := 139) (n := 1) (ci := 12) (as := [v1]) (rest := []) (by decide +kernel) (by decide +kernel) rfl rfl (q_sum8 _ (Nat.le_of_ble_eq_true rfl)) R f0 (fx_k (c := 12) R (by decide +kernel)) (om_X11_runAt (Nat.le_trans (by decide) hd) R f0 f1 hc_1) (fun _ _ qq => kx_lx qq) (fun _ _ qq => by
      obtain ⟨rfl, Rq, Eq⟩ := kx_e qq
      exact Or.inl ⟨rfl, hQ Eq _ _ Rq rfl⟩)
  refine go_callV (x := 185) (mi := 139) (n := 1) (ci := 12) (as := [v1]) (rest := []) (by decide +kernel) (by decide +kernel) rfl rfl (q_sum8 _ (Nat.le_of_ble_eq_true rfl)) R f0 (fx_k (c := 12) R (by decide +kernel)) (om_X11_runAt (Nat.le_trans (by decide) hd) R f0 f1 hc_1) (fun _ S_6 q_9 => ?_) (fun _ _ qq => kr_x (kx_l qq))
  have q_9 := kx_l q_9
  refine kr_z (by decide) q_9 fun v_4 f_5 R_7 E_8 => ?_
  have E_12 := E_8
  refine go_astore_n (n := 2) (by decide +kernel) (by decide +kernel) f_5 fun L_13 l_14 kp_15 => ?_
  refine go_aload_n (n := 2) (by decide +kernel) l_14 f_5 ?_
  obtain ⟨g_18, h⟩ := gd_s h
  obtain ⟨x_20, e_21, h⟩ := lx_s h
  refine go_getf (x := 208) (ci := 7) (kf := 6) (fin := 0) (t := 0) (by decide +kernel) (by decide +kernel) (by decide +kernel) R_7 f_5 g_18 fun v_16 f_17 => ?_
  have f_19 := q_is_eq f_17 e_21
  refine go_bipush (n := 6) (z := 6) (by decide +kernel) (by decide) fun v_22 f_23 => ?_
  refine go_icmp (c := .eq) (o := 14) (t := 26) (P := x_20 = 6) (by decide +kernel) (by decide +kernel) f_19 f_23 (Iff.rfl) (fun hp_24 => ?_) (fun hp_24 => ?_)
  · have h := it_t hp_24 h
    refine go_aload_n (n := 2) (by decide +kernel) l_14 f_5 ?_
    obtain ⟨x_28, e_29, h⟩ := lx_s h
    refine go_getf (x := 272) (ci := 7) (kf := 7) (fin := 0) (t := 0) (by decide +kernel) (by decide +kernel) (by decide +kernel) R_7 f_5 g_18 fun v_25 f_26 => ?_
    have f_27 := q_is_eq f_26 e_29
    cases h
    exact go_iret (by decide +kernel) rfl (Or.inl rfl) f_27 (hQ E_12 _ _ R_7 (q_out_v (by decide) f_27))
  · have h := it_f hp_24 h
    cases h
    exact go_thr (x := 111) (e := 2) (ic := 115) (b := 0) (by decide +kernel) (by decide +kernel) (by decide +kernel) R_7 rfl fun Sq Rq Eq => hQ (Ext.tr E_12 Eq) _ _ Rq rfl
noncomputable def fm_X11_runs (m0 : MM) : Option Int := bp (fm_Jx4a65c_size_8abf5 7 m0) fun x_5 =>
some x_5
set_option maxHeartbeats 4000000 in
theorem om_X11_runs {xs : List Int32} {d : Nat} {S : QS} {m0 : MM} {v0 : Value} {rz : Int}
  (hd : 2 ≤ d) (R : Rp S m0) (f0 : q_is 2 v0 4)
  (h : fm_X11_runs m0 = some rz) : Mt xs d 113 [v0] S (Cr 0 m0 m0 rz) := by
  obtain ⟨d, rfl⟩ : ∃ e, d = e + 1 := ⟨d - 1, by omega⟩
  have hd : 1 ≤ d := Nat.le_of_succ_le_succ hd
  refine Mt.of (M := qM_X11_runs) rfl (by rw [sl_1 (q_is_cat f0 (Or.inr rfl)), sl_0]; decide) ?_
  rw [la_1 (q_is_cat f0 (Or.inr rfl)), la_0]
  obtain ⟨L, hL⟩ : ∃ L : QL, L = [(0, v0)] := ⟨_, rfl⟩
  rw [← hL]
  have l0 : q_lo L 0 = some v0 := by rw [hL]; rfl
  have hQ : ∀ o S1, Rp S1 m0 → q_out 0 o rz → (Cr 0 m0 m0 rz) o S1 := fun o S1 a b => ⟨a, Ext.rf _, b⟩
  unfold fm_X11_runs at h
  refine go_aload_n (n := 0) (by decide +kernel) l0 f0 ?_
  refine go_getf (x := 24) (ci := 12) (kf := 2) (fin := 1) (t := 2) (by decide +kernel) (by decide +kernel) (by decide +kernel) R f0 (fx_k (c := 12) R (by decide +kernel)) fun v_1 f_2 => ?_
  have f_3 := q_is_eq (b := 7) f_2 (fx_v R (by decide +kernel)).symm
  obtain ⟨x_5, hc_4, h⟩ := bp_s h
  refine go_callV (x := 127) (mi := 326) (n := 0) (ci := 0) (as := []) (rest := []) (by decide +kernel) (by decide +kernel) rfl rfl (q_sum8 _ (Nat.le_of_ble_eq_true rfl)) R f_3 (fx_k (c := 0) R (by decide +kernel)) (om_Jx4a65c_size_8abf5 (Nat.le_trans (by decide) hd) R (fx_k (c := 0) R (by decide +kernel)) f_3 hc_4) (fun _ S_9 q_12 => ?_) (fun _ _ qq => kr_x qq)
  refine kr_z (by decide) q_12 fun v_7 f_8 R_10 E_11 => ?_
  cases h
  exact go_iret (by decide +kernel) rfl (Or.inl rfl) f_8 (hQ _ _ R_10 (q_out_v (by decide) f_8))
noncomputable def fm_X11_setRate (p1 : Int) (m0 : MM) : Option ((Int ⊕ Nat) × MM) := if p1 < 1 then
some (.inr 1, mthr m0)
else
if 10 < p1 then
some (.inr 1, mthr m0)
else
lx (m0 4 13) fun x_10 =>
up m0 4 13 p1 fun m_17 =>
some (.inl x_10, m_17)
set_option maxHeartbeats 4000000 in
theorem om_X11_setRate {xs : List Int32} {d : Nat} {S : QS} {m0 : MM} {p1 : Int} {v0 : Value} {v1 : Value} {rr : Int ⊕ Nat} {rm : MM}
  (hd : 1 ≤ d) (R : Rp S m0) (f0 : q_is 2 v0 4) (f1 : q_is 0 v1 p1)
  (h : fm_X11_setRate p1 m0 = some (rr, rm)) : Mt xs d 114 [v0, v1] S (Cx 0 m0 rm rr) := by
  obtain ⟨d, rfl⟩ : ∃ e, d = e + 1 := ⟨d - 1, by omega⟩
  have hd : 0 ≤ d := Nat.le_of_succ_le_succ hd
  refine Mt.of (M := qM_X11_setRate) rfl (by rw [sl_1 (q_is_cat f0 (Or.inr rfl)), sl_1 (q_is_cat f1 (Or.inl rfl)), sl_0]; decide) ?_
  rw [la_1 (q_is_cat f0 (Or.inr rfl)), la_1 (q_is_cat f1 (Or.inl rfl)), la_0]
  obtain ⟨L, hL⟩ : ∃ L : QL, L = [(0, v0), (0 + 1, v1)] := ⟨_, rfl⟩
  rw [← hL]
  have l0 : q_lo L 0 = some v0 := by rw [hL]; rfl
  have l1 : q_lo L 1 = some v1 := by rw [hL]; rfl
  have hQ : Ext m0 rm → ∀ o S1, Rp S1 rm → q_oux 0 o rr → (Cx 0 m0 rm rr) o S1 := fun a o S1 b e => ⟨b, a, e⟩
  unfold fm_X11_setRate at h
  refine go_iload_n (n := 1) (by decide +kernel) l1 f1 ?_
  refine go_iconst (n := 1) (z := 1) (by decide +kernel) (by decide) fun v_1 f_2 => ?_
  refine go_icmp (c := .lt) (o := 9) (t := 11) (P := p1 < 1) (by decide +kernel) (by decide +kernel) f1 f_2 (Iff.rfl) (fun hp_3 => ?_) (fun hp_3 => ?_)
  · have h := it_t hp_3 h
    cases h
    exact go_thr (x := 96) (e := 1) (ic := 100) (b := 0) (by decide +kernel) (by decide +kernel) (by decide +kernel) R rfl fun Sq Rq Eq => hQ Eq _ _ Rq rfl
  · have h := it_f hp_3 h
    refine go_iload_n (n := 1) (by decide +kernel) l1 f1 ?_
    refine go_bipush (n := 10) (z := 10) (by decide +kernel) (by decide) fun v_4 f_5 => ?_
    refine go_icmp (c := .le) (o := 14) (t := 22) (P := ¬ (10 < p1)) (by decide +kernel) (by decide +kernel) f1 f_5 (Int.not_lt.symm) (fun hp_6 => ?_) (fun hp_6 => ?_)
    · have h := it_f hp_6 h
      refine go_aload_n (n := 0) (by decide +kernel) l0 f0 ?_
      obtain ⟨x_10, e_11, h⟩ := lx_s h
      refine go_getf (x := 68) (ci := 12) (kf := 13) (fin := 0) (t := 0) (by decide +kernel) (by decide +kernel) (by decide +kernel) R f0 (fx_k (c := 12) R (by decide +kernel)) fun v_7 f_8 => ?_
      have f_9 := q_is_eq f_8 e_11
      refine go_istore_n (n := 2) (by decide +kernel) (by decide +kernel) f_9 fun L_12 l_13 kp_14 => ?_
      have l_15 := kp_14 0 _ l0 (by decide) (Or.inl (by decide))
      have l_16 := kp_14 1 _ l1 (by decide) (Or.inr (q_is_cat f1 (Or.inl rfl)))
      refine go_aload_n (n := 0) (by decide +kernel) l_15 f0 ?_
      refine go_iload_n (n := 1) (by decide +kernel) l_16 f1 ?_
      obtain ⟨m_17, e_18, h⟩ := up_s h
      refine go_putf (x := 68) (ci := 12) (kf := 13) (fin := 0) (zt := 0) (by decide +kernel) (by decide +kernel) (by decide) (by decide +kernel) (by decide) (Or.inl rfl) R f0 f1 (fun hq => absurd hq (by decide)) (fx_k (c := 12) R (by decide +kernel)) e_18 (fx_f (j := 13) R.2 (fx_k (c := 12) R (by decide +kernel)) (by decide +kernel)) fun S_19 R_20 E_21 => ?_
      have E_22 := E_21
      refine go_iload_n (n := 2) (by decide +kernel) l_13 f_9 ?_
      cases h
      exact go_iret (by decide +kernel) rfl (Or.inl rfl) f_9 (hQ E_22 _ _ R_20 (q_out_v (by decide) f_9))
    · have h := it_n hp_6 h
      cases h
      exact go_thr (x := 96) (e := 1) (ic := 100) (b := 0) (by decide +kernel) (by decide +kernel) (by decide +kernel) R rfl fun Sq Rq Eq => hQ Eq _ _ Rq rfl
noncomputable def fm_X11_checkWorker (p1 : Int) (m0 : MM) : Option ((Int ⊕ Nat) × MM) := if p1 < 0 then
some (.inr 0, mthr m0)
else
if p1 < 3 then
some (.inl 0, m0)
else
some (.inr 0, mthr m0)
set_option maxHeartbeats 4000000 in
theorem om_X11_checkWorker {xs : List Int32} {d : Nat} {S : QS} {m0 : MM} {p1 : Int} {v0 : Value} {v1 : Value} {rr : Int ⊕ Nat} {rm : MM}
  (hd : 1 ≤ d) (R : Rp S m0) (f0 : q_is 2 v0 4) (f1 : q_is 0 v1 p1)
  (h : fm_X11_checkWorker p1 m0 = some (rr, rm)) : Mt xs d 144 [v0, v1] S (Cx 9 m0 rm rr) := by
  obtain ⟨d, rfl⟩ : ∃ e, d = e + 1 := ⟨d - 1, by omega⟩
  have hd : 0 ≤ d := Nat.le_of_succ_le_succ hd
  refine Mt.of (M := qM_X11_checkWorker) rfl (by rw [sl_1 (q_is_cat f0 (Or.inr rfl)), sl_1 (q_is_cat f1 (Or.inl rfl)), sl_0]; decide) ?_
  rw [la_1 (q_is_cat f0 (Or.inr rfl)), la_1 (q_is_cat f1 (Or.inl rfl)), la_0]
  obtain ⟨L, hL⟩ : ∃ L : QL, L = [(0, v0), (0 + 1, v1)] := ⟨_, rfl⟩
  rw [← hL]
  have l0 : q_lo L 0 = some v0 := by rw [hL]; rfl
  have l1 : q_lo L 1 = some v1 := by rw [hL]; rfl
  have hQ : Ext m0 rm → ∀ o S1, Rp S1 rm → q_oux 9 o rr → (Cx 9 m0 rm rr) o S1 := fun a o S1 b e => ⟨b, a, e⟩
  unfold fm_X11_checkWorker at h
  refine go_iload_n (n := 1) (by decide +kernel) l1 f1 ?_
  refine go_if (c := .lt) (o := 12) (t := 13) (P := p1 < 0) (by decide +kernel) (by decide +kernel) f1 (Iff.rfl) (fun hp_1 => ?_) (fun hp_1 => ?_)
  · have h := it_t hp_1 h
    cases h
    exact go_thr (x := 255) (e := 0) (ic := 259) (b := 0) (by decide +kernel) (by decide +kernel) (by decide +kernel) R rfl fun Sq Rq Eq => hQ Eq _ _ Rq rfl
  · have h := it_f hp_1 h
    refine go_iload_n (n := 1) (by decide +kernel) l1 f1 ?_
    refine go_aload_n (n := 0) (by decide +kernel) l0 f0 ?_
    refine go_getf (x := 37) (ci := 12) (kf := 6) (fin := 1) (t := 2) (by decide +kernel) (by decide +kernel) (by decide +kernel) R f0 (fx_k (c := 12) R (by decide +kernel)) fun v_2 f_3 => ?_
    have f_4 := q_is_eq (b := 11) f_3 (fx_v R (by decide +kernel)).symm
    refine go_alen (by decide +kernel) R f_4 (okl_of (fx_k (c := 100) R (by decide +kernel)) (by decide)) fun v_5 f_6 => ?_
    have f_7 := q_is_eq (b := 3) f_6 (by rw [fx_l R (ln := 3) (by decide +kernel)]; decide)
    refine go_icmp (c := .lt) (o := 14) (t := 24) (P := p1 < 3) (by decide +kernel) (by decide +kernel) f1 f_7 (Iff.rfl) (fun hp_8 => ?_) (fun hp_8 => ?_)
    · have h := it_t hp_8 h
      cases h
      exact go_vret (by decide +kernel) rfl (hQ (Ext.rf _) _ _ R q_out_n)
    · have h := it_f hp_8 h
      cases h
      exact go_thr (x := 255) (e := 0) (ic := 259) (b := 0) (by decide +kernel) (by decide +kernel) (by decide +kernel) R rfl fun Sq Rq Eq => hQ Eq _ _ Rq rfl
noncomputable def fm_X11_isHeld (p1 : Int) (m0 : MM) : Option Int := gd (okc m0 p1 7) <| lx (m0 p1 10) fun x_5 =>
if x_5 < 0 then
some 0
else
bp (fm_Jx4a65c_size_8abf5 9 m0) fun x_17 =>
if x_5 < x_17 then
bp (fm_Jx4a65c_get_915e3 9 x_5 m0) fun x_33 =>
gd (okc m0 x_33 10) <| lx (m0 x_33 5) fun x_49 =>
if x_49 = 0 then
lx (m0 4 14) fun x_57 =>
lx (m0 x_33 2) fun x_62 =>
if w32 (x_57 - x_62) < 5 then
some 1
else
some 0
else
some 0
else
some 0
set_option maxHeartbeats 4000000 in
theorem om_X11_isHeld {xs : List Int32} {d : Nat} {S : QS} {m0 : MM} {p1 : Int} {v0 : Value} {v1 : Value} {rz : Int}
  (hd : 4 ≤ d) (R : Rp S m0) (f0 : q_is 2 v0 4) (f1 : q_is 2 v1 p1)
  (h : fm_X11_isHeld p1 m0 = some rz) : Mt xs d 160 [v0, v1] S (Cr 0 m0 m0 rz) := by
  obtain ⟨d, rfl⟩ : ∃ e, d = e + 1 := ⟨d - 1, by omega⟩
  have hd : 3 ≤ d := Nat.le_of_succ_le_succ hd
  refine Mt.of (M := qM_X11_isHeld) rfl (by rw [sl_1 (q_is_cat f0 (Or.inr rfl)), sl_1 (q_is_cat f1 (Or.inr rfl)), sl_0]; decide) ?_
  rw [la_1 (q_is_cat f0 (Or.inr rfl)), la_1 (q_is_cat f1 (Or.inr rfl)), la_0]
  obtain ⟨L, hL⟩ : ∃ L : QL, L = [(0, v0), (0 + 1, v1)] := ⟨_, rfl⟩
  rw [← hL]
  have l0 : q_lo L 0 = some v0 := by rw [hL]; rfl
  have l1 : q_lo L 1 = some v1 := by rw [hL]; rfl
  have hQ : ∀ o S1, Rp S1 m0 → q_out 0 o rz → (Cr 0 m0 m0 rz) o S1 := fun o S1 a b => ⟨a, Ext.rf _, b⟩
  unfold fm_X11_isHeld at h
  refine go_aload_n (n := 1) (by decide +kernel) l1 f1 ?_
  obtain ⟨g_3, h⟩ := gd_s h
  obtain ⟨x_5, e_6, h⟩ := lx_s h
  refine go_getf (x := 297) (ci := 7) (kf := 10) (fin := 0) (t := 0) (by decide +kernel) (by decide +kernel) (by decide +kernel) R f1 g_3 fun v_1 f_2 => ?_
  have f_4 := q_is_eq f_2 e_6
  refine go_if (c := .lt) (o := 17) (t := 21) (P := x_5 < 0) (by decide +kernel) (by decide +kernel) f_4 (Iff.rfl) (fun hp_7 => ?_) (fun hp_7 => ?_)
  · have h := it_t hp_7 h
    refine go_iconst (n := 0) (z := 0) (by decide +kernel) (by decide) fun v_8 f_9 => ?_
    cases h
    exact go_iret (by decide +kernel) rfl (Or.inr ⟨rfl, by decide⟩) f_9 (hQ _ _ R (q_out_v (by decide) f_9))
  · have h := it_f hp_7 h
    refine go_aload_n (n := 1) (by decide +kernel) l1 f1 ?_
    refine go_getf (x := 297) (ci := 7) (kf := 10) (fin := 0) (t := 0) (by decide +kernel) (by decide +kernel) (by decide +kernel) R f1 g_3 fun v_10 f_11 => ?_
    have f_12 := q_is_eq f_11 e_6
    refine go_aload_n (n := 0) (by decide +kernel) l0 f0 ?_
    refine go_getf (x := 31) (ci := 12) (kf := 4) (fin := 1) (t := 2) (by decide +kernel) (by decide +kernel) (by decide +kernel) R f0 (fx_k (c := 12) R (by decide +kernel)) fun v_13 f_14 => ?_
    have f_15 := q_is_eq (b := 9) f_14 (fx_v R (by decide +kernel)).symm
    obtain ⟨x_17, hc_16, h⟩ := bp_s h
    refine go_callV (x := 127) (mi := 326) (n := 0) (ci := 0) (as := []) (rest := [v_10]) (by decide +kernel) (by decide +kernel) rfl rfl (q_sum8 _ (Nat.le_of_ble_eq_true rfl)) R f_15 (fx_k (c := 0) R (by decide +kernel)) (om_Jx4a65c_size_8abf5 (Nat.le_trans (by decide) hd) R (fx_k (c := 0) R (by decide +kernel)) f_15 hc_16) (fun _ S_21 q_24 => ?_) (fun _ _ qq => kr_x qq)
    refine kr_z (by decide) q_24 fun v_19 f_20 R_22 E_23 => ?_
    refine go_icmp (c := .lt) (o := 5) (t := 23) (P := x_5 < x_17) (by decide +kernel) (by decide +kernel) f_12 f_20 (Iff.rfl) (fun hp_25 => ?_) (fun hp_25 => ?_)
    · have h := it_t hp_25 h
      refine go_aload_n (n := 0) (by decide +kernel) l0 f0 ?_
      refine go_getf (x := 31) (ci := 12) (kf := 4) (fin := 1) (t := 2) (by decide +kernel) (by decide +kernel) (by decide +kernel) R_22 f0 (fx_k (c := 12) R_22 (by decide +kernel)) fun v_26 f_27 => ?_
      have f_28 := q_is_eq (b := 9) f_27 (fx_v R_22 (by decide +kernel)).symm
      refine go_aload_n (n := 1) (by decide +kernel) l1 f1 ?_
      refine go_getf (x := 297) (ci := 7) (kf := 10) (fin := 0) (t := 0) (by decide +kernel) (by decide +kernel) (by decide +kernel) R_22 f1 g_3 fun v_29 f_30 => ?_
      have f_31 := q_is_eq f_30 e_6
      obtain ⟨x_33, hc_32, h⟩ := bp_s h
      refine go_callV (x := 305) (mi := 329) (n := 1) (ci := 0) (as := [v_29]) (rest := []) (by decide +kernel) (by decide +kernel) rfl rfl (q_sum8 _ (Nat.le_of_ble_eq_true rfl)) R_22 f_28 (fx_k (c := 0) R_22 (by decide +kernel)) (om_Jx4a65c_get_915e3 (Nat.le_trans (by decide) hd) R_22 (fx_k (c := 0) R_22 (by decide +kernel)) f_28 f_31 hc_32) (fun _ S_37 q_40 => ?_) (fun _ _ qq => kr_x qq)
      refine kr_z (by decide) q_40 fun v_35 f_36 R_38 E_39 => ?_
      obtain ⟨g_41, h⟩ := gd_s h
      refine go_cast (x := 292) (kd := 10) (a := 0) (b := 0) (by decide +kernel) (by decide +kernel) R_38 f_36 g_41 ?_
      refine go_astore_n (n := 2) (by decide +kernel) (by decide +kernel) f_36 fun L_42 l_43 kp_44 => ?_
      have l_45 := kp_44 0 _ l0 (by decide) (Or.inl (by decide))
      refine go_aload_n (n := 2) (by decide +kernel) l_43 f_36 ?_
      obtain ⟨x_49, e_50, h⟩ := lx_s h
      refine go_getf (x := 317) (ci := 10) (kf := 5) (fin := 0) (t := 0) (by decide +kernel) (by decide +kernel) (by decide +kernel) R_38 f_36 g_41 fun v_46 f_47 => ?_
      have f_48 := q_is_eq f_47 e_50
      refine go_if (c := .ne) (o := 20) (t := 62) (P := ¬ (x_49 = 0)) (by decide +kernel) (by decide +kernel) f_48 (Iff.rfl) (fun hp_51 => ?_) (fun hp_51 => ?_)
      · have h := it_f hp_51 h
        refine go_iconst (n := 0) (z := 0) (by decide +kernel) (by decide) fun v_52 f_53 => ?_
        cases h
        exact go_iret (by decide +kernel) rfl (Or.inr ⟨rfl, by decide⟩) f_53 (hQ _ _ R_38 (q_out_v (by decide) f_53))
      · have h := it_n hp_51 h
        refine go_aload_n (n := 0) (by decide +kernel) l_45 f0 ?_
        obtain ⟨x_57, e_58, h⟩ := lx_s h
        refine go_getf (x := 71) (ci := 12) (kf := 14) (fin := 0) (t := 0) (by decide +kernel) (by decide +kernel) (by decide +kernel) R_38 f0 (fx_k (c := 12) R_38 (by decide +kernel)) fun v_54 f_55 => ?_
        have f_56 := q_is_eq f_55 e_58
        refine go_aload_n (n := 2) (by decide +kernel) l_43 f_36 ?_
        obtain ⟨x_62, e_63, h⟩ := lx_s h
        refine go_getf (x := 565) (ci := 10) (kf := 2) (fin := 2) (t := 0) (by decide +kernel) (by decide +kernel) (by decide +kernel) R_38 f_36 g_41 fun v_59 f_60 => ?_
        have f_61 := q_is_eq f_60 e_63
        refine go_isub (by decide +kernel) f_56 f_61 fun v_64 f_65 => ?_
        refine go_iconst (n := 5) (z := 5) (by decide +kernel) (by decide) fun v_66 f_67 => ?_
        refine go_icmp (c := .ge) (o := 7) (t := 62) (P := ¬ (w32 (x_57 - x_62) < 5)) (by decide +kernel) (by decide +kernel) f_65 f_67 (Int.not_lt.symm) (fun hp_68 => ?_) (fun hp_68 => ?_)
        · have h := it_f hp_68 h
          refine go_iconst (n := 0) (z := 0) (by decide +kernel) (by decide) fun v_69 f_70 => ?_
          cases h
          exact go_iret (by decide +kernel) rfl (Or.inr ⟨rfl, by decide⟩) f_70 (hQ _ _ R_38 (q_out_v (by decide) f_70))
        · have h := it_n hp_68 h
          refine go_iconst (n := 1) (z := 1) (by decide +kernel) (by decide) fun v_71 f_72 => ?_
          refine go_goto (o := 4) (t := 63) (by decide +kernel) (by decide +kernel) ?_
          cases h
          exact go_iret (by decide +kernel) rfl (Or.inr ⟨rfl, by decide⟩) f_72 (hQ _ _ R_38 (q_out_v (by decide) f_72))
    · have h := it_f hp_25 h
      refine go_iconst (n := 0) (z := 0) (by decide +kernel) (by decide) fun v_73 f_74 => ?_
      cases h
      exact go_iret (by decide +kernel) rfl (Or.inr ⟨rfl, by decide⟩) f_74 (hQ _ _ R_22 (q_out_v (by decide) f_74))
noncomputable def fl_X11_firstRunWithWork_4 (y1 : Int) (m0 : MM) : Nat → Int → Int → Option Int
  | 0, _, _ => none
  | n + 1, y2, y3 => bp (fm_Jx4a65c_size_8abf5 7 m0) fun x_20 =>
if y3 < x_20 then
bp (fm_Jx4a65c_get_915e3 7 y3 m0) fun x_33 =>
gd (okc m0 x_33 7) <| lx (m0 x_33 2) fun x_52 =>
if x_52 = y1 then
bp (fm_X6_hasWork x_33 m0) fun x_67 =>
if x_67 = 0 then
lx (w32 (y3 + 1)) fun x_81 =>
fl_X11_firstRunWithWork_4 y1 m0 n y2 x_81
else
bp (fm_X11_isHeld x_33 m0) fun x_88 =>
if x_88 = 0 then
if y2 = 0 then
lx (w32 (y3 + 1)) fun x_120 =>
fl_X11_firstRunWithWork_4 y1 m0 n x_33 x_120
else
bp (fm_X6_firstOrder x_33 m0) fun x_127 =>
gd (okc m0 y2 7) <| bp (fm_X6_firstOrder y2 m0) fun x_137 =>
if x_127 < x_137 then
lx (w32 (y3 + 1)) fun x_168 =>
fl_X11_firstRunWithWork_4 y1 m0 n x_33 x_168
else
lx (w32 (y3 + 1)) fun x_151 =>
fl_X11_firstRunWithWork_4 y1 m0 n y2 x_151
else
lx (w32 (y3 + 1)) fun x_102 =>
fl_X11_firstRunWithWork_4 y1 m0 n y2 x_102
else
lx (w32 (y3 + 1)) fun x_60 =>
fl_X11_firstRunWithWork_4 y1 m0 n y2 x_60
else
some y2
set_option maxHeartbeats 4000000 in
theorem ol_X11_firstRunWithWork_4 {xs : List Int32} {d : Nat} {Q : QO → QS → Prop} {m0 : MM} {y1 : Int} {rz : Int}
  (hd : 4 ≤ d)
  (hQ : ∀ o S1, Rp S1 m0 → q_out 2 o rz → Q o S1) :
  ∀ (n : Nat) {S : QS} {L : QL} {y2 y3 : Int} {v0 : Value} {v1 : Value} {v2 : Value} {v3 : Value} , fl_X11_firstRunWithWork_4 y1 m0 n y2 y3 = some rz → Rp S m0 → q_lo L 0 = some v0 → q_is 2 v0 4 → q_lo L 1 = some v1 → q_is 0 v1 y1 → q_lo L 2 = some v2 → q_is 2 v2 y2 → q_lo L 3 = some v3 → q_is 0 v3 y3 → Go xs d qM_X11_firstRunWithWork 4 L [] S Q := by
  intro n
  induction n with
  | zero => intro S L y2 y3 v0 v1 v2 v3; intro h R l0 f0 l1 f1 l2 f2 l3 f3; cases h
  | succ n ih0 =>
    intro S L y2 y3 v0 v1 v2 v3; intro h R l0 f0 l1 f1 l2 f2 l3 f3
    have ih : ∀ {z2 : Int} {z3 : Int} {Sq : QS} {Lq : QL} {u0 : Value} {u1 : Value} {u2 : Value} {u3 : Value}, fl_X11_firstRunWithWork_4 y1 m0 n z2 z3 = some rz → Rp Sq m0 → q_lo Lq 0 = some u0 → q_is 2 u0 4 → q_lo Lq 1 = some u1 → q_is 0 u1 y1 → q_lo Lq 2 = some u2 → q_is 2 u2 z2 → q_lo Lq 3 = some u3 → q_is 0 u3 z3 → Go xs d qM_X11_firstRunWithWork 4 Lq [] Sq Q := by intros; exact ih0 ‹_› ‹_› ‹_› ‹_› ‹_› ‹_› ‹_› ‹_› ‹_› ‹_›
    unfold fl_X11_firstRunWithWork_4 at h
    refine go_iload_n (n := 3) (by decide +kernel) l3 f3 ?_
    refine go_aload_n (n := 0) (by decide +kernel) l0 f0 ?_
    refine go_getf (x := 24) (ci := 12) (kf := 2) (fin := 1) (t := 2) (by decide +kernel) (by decide +kernel) (by decide +kernel) R f0 (fx_k (c := 12) R (by decide +kernel)) fun v_16 f_17 => ?_
    have f_18 := q_is_eq (b := 7) f_17 (fx_v R (by decide +kernel)).symm
    obtain ⟨x_20, hc_19, h⟩ := bp_s h
    refine go_callV (x := 127) (mi := 326) (n := 0) (ci := 0) (as := []) (rest := [v3]) (by decide +kernel) (by decide +kernel) rfl rfl (q_sum8 _ (Nat.le_of_ble_eq_true rfl)) R f_18 (fx_k (c := 0) R (by decide +kernel)) (om_Jx4a65c_size_8abf5 (Nat.le_trans (by decide) hd) R (fx_k (c := 0) R (by decide +kernel)) f_18 hc_19) (fun _ S_24 q_27 => ?_) (fun _ _ qq => kr_x qq)
    refine kr_z (by decide) q_27 fun v_22 f_23 R_25 E_26 => ?_
    refine go_icmp (c := .ge) (o := 67) (t := 79) (P := ¬ (y3 < x_20)) (by decide +kernel) (by decide +kernel) f3 f_23 (Int.not_lt.symm) (fun hp_28 => ?_) (fun hp_28 => ?_)
    · have h := it_f hp_28 h
      refine go_aload_n (n := 2) (by decide +kernel) l2 f2 ?_
      cases h
      exact go_aret (by decide +kernel) rfl rfl f2 (hQ _ _ R_25 (q_out_v (by decide) f2))
    · have h := it_n hp_28 h
      refine go_aload_n (n := 0) (by decide +kernel) l0 f0 ?_
      refine go_getf (x := 24) (ci := 12) (kf := 2) (fin := 1) (t := 2) (by decide +kernel) (by decide +kernel) (by decide +kernel) R_25 f0 (fx_k (c := 12) R_25 (by decide +kernel)) fun v_29 f_30 => ?_
      have f_31 := q_is_eq (b := 7) f_30 (fx_v R_25 (by decide +kernel)).symm
      refine go_iload_n (n := 3) (by decide +kernel) l3 f3 ?_
      obtain ⟨x_33, hc_32, h⟩ := bp_s h
      refine go_callV (x := 305) (mi := 329) (n := 1) (ci := 0) (as := [v3]) (rest := []) (by decide +kernel) (by decide +kernel) rfl rfl (q_sum8 _ (Nat.le_of_ble_eq_true rfl)) R_25 f_31 (fx_k (c := 0) R_25 (by decide +kernel)) (om_Jx4a65c_get_915e3 (Nat.le_trans (by decide) hd) R_25 (fx_k (c := 0) R_25 (by decide +kernel)) f_31 f3 hc_32) (fun _ S_37 q_40 => ?_) (fun _ _ qq => kr_x qq)
      refine kr_z (by decide) q_40 fun v_35 f_36 R_38 E_39 => ?_
      obtain ⟨g_41, h⟩ := gd_s h
      refine go_cast (x := 181) (kd := 7) (a := 0) (b := 0) (by decide +kernel) (by decide +kernel) R_38 f_36 g_41 ?_
      refine go_astore (n := 4) (by decide +kernel) (by decide +kernel) f_36 fun L_42 l_43 kp_44 => ?_
      have l_45 := kp_44 0 _ l0 (by decide) (Or.inl (by decide))
      have l_46 := kp_44 1 _ l1 (by decide) (Or.inl (by decide))
      have l_47 := kp_44 2 _ l2 (by decide) (Or.inl (by decide))
      have l_48 := kp_44 3 _ l3 (by decide) (Or.inr (q_is_cat f3 (Or.inl rfl)))
      refine go_aload (n := 4) (by decide +kernel) l_43 f_36 ?_
      obtain ⟨x_52, e_53, h⟩ := lx_s h
      refine go_getf (x := 283) (ci := 7) (kf := 2) (fin := 2) (t := 0) (by decide +kernel) (by decide +kernel) (by decide +kernel) R_38 f_36 g_41 fun v_49 f_50 => ?_
      have f_51 := q_is_eq f_50 e_53
      refine go_iload_n (n := 1) (by decide +kernel) l_46 f1 ?_
      refine go_icmp (c := .ne) (o := 39) (t := 73) (P := ¬ (x_52 = y1)) (by decide +kernel) (by decide +kernel) f_51 f1 (Iff.rfl) (fun hp_54 => ?_) (fun hp_54 => ?_)
      · have h := it_f hp_54 h
        refine go_iinc (n := 3) (c := 1) (c' := 1) (by decide +kernel) (by decide +kernel) l_48 f3 (by decide) fun L_55 v_56 f_57 l_58 kp_59 => ?_
        obtain ⟨x_60, e_61, h⟩ := lx_s h
        have f_62 := q_is_eq f_57 e_61
        have l_63 := kp_59 0 _ l_45 (by decide) (Or.inl (by decide))
        have l_64 := kp_59 1 _ l_46 (by decide) (Or.inl (by decide))
        have l_65 := kp_59 2 _ l_47 (by decide) (Or.inr (q_is_cat f2 (Or.inr rfl)))
        refine go_goto (o := (-72)) (t := 4) (by decide +kernel) (by decide +kernel) ?_
        exact ih h R_38 l_63 f0 l_64 f1 l_65 f2 l_58 f_62
      · have h := it_n hp_54 h
        refine go_aload (n := 4) (by decide +kernel) l_43 f_36 ?_
        obtain ⟨x_67, hc_66, h⟩ := bp_s h
        refine go_callV (x := 556) (mi := 67) (n := 0) (ci := 7) (as := []) (rest := []) (by decide +kernel) (by decide +kernel) rfl rfl (q_sum8 _ (Nat.le_of_ble_eq_true rfl)) R_38 f_36 g_41 (om_X6_hasWork (Nat.le_trans (by decide) hd) R_38 g_41 f_36 hc_66) (fun _ S_71 q_74 => ?_) (fun _ _ qq => kr_x qq)
        refine kr_z (by decide) q_74 fun v_69 f_70 R_72 E_73 => ?_
        refine go_if (c := .eq) (o := 31) (t := 73) (P := x_67 = 0) (by decide +kernel) (by decide +kernel) f_70 (Iff.rfl) (fun hp_75 => ?_) (fun hp_75 => ?_)
        · have h := it_t hp_75 h
          refine go_iinc (n := 3) (c := 1) (c' := 1) (by decide +kernel) (by decide +kernel) l_48 f3 (by decide) fun L_76 v_77 f_78 l_79 kp_80 => ?_
          obtain ⟨x_81, e_82, h⟩ := lx_s h
          have f_83 := q_is_eq f_78 e_82
          have l_84 := kp_80 0 _ l_45 (by decide) (Or.inl (by decide))
          have l_85 := kp_80 1 _ l_46 (by decide) (Or.inl (by decide))
          have l_86 := kp_80 2 _ l_47 (by decide) (Or.inr (q_is_cat f2 (Or.inr rfl)))
          refine go_goto (o := (-72)) (t := 4) (by decide +kernel) (by decide +kernel) ?_
          exact ih h R_72 l_84 f0 l_85 f1 l_86 f2 l_79 f_83
        · have h := it_f hp_75 h
          refine go_aload_n (n := 0) (by decide +kernel) l_45 f0 ?_
          refine go_aload (n := 4) (by decide +kernel) l_43 f_36 ?_
          obtain ⟨x_88, hc_87, h⟩ := bp_s h
          refine go_callV (x := 559) (mi := 160) (n := 1) (ci := 12) (as := [v_35]) (rest := []) (by decide +kernel) (by decide +kernel) rfl rfl (q_sum8 _ (Nat.le_of_ble_eq_true rfl)) R_72 f0 (fx_k (c := 12) R_72 (by decide +kernel)) (om_X11_isHeld (Nat.le_trans (by decide) hd) R_72 f0 f_36 hc_87) (fun _ S_92 q_95 => ?_) (fun _ _ qq => kr_x qq)
          refine kr_z (by decide) q_95 fun v_90 f_91 R_93 E_94 => ?_
          refine go_if (c := .ne) (o := 22) (t := 73) (P := ¬ (x_88 = 0)) (by decide +kernel) (by decide +kernel) f_91 (Iff.rfl) (fun hp_96 => ?_) (fun hp_96 => ?_)
          · have h := it_f hp_96 h
            refine go_iinc (n := 3) (c := 1) (c' := 1) (by decide +kernel) (by decide +kernel) l_48 f3 (by decide) fun L_97 v_98 f_99 l_100 kp_101 => ?_
            obtain ⟨x_102, e_103, h⟩ := lx_s h
            have f_104 := q_is_eq f_99 e_103
            have l_105 := kp_101 0 _ l_45 (by decide) (Or.inl (by decide))
            have l_106 := kp_101 1 _ l_46 (by decide) (Or.inl (by decide))
            have l_107 := kp_101 2 _ l_47 (by decide) (Or.inr (q_is_cat f2 (Or.inr rfl)))
            refine go_goto (o := (-72)) (t := 4) (by decide +kernel) (by decide +kernel) ?_
            exact ih h R_93 l_105 f0 l_106 f1 l_107 f2 l_100 f_104
          · have h := it_n hp_96 h
            refine go_aload_n (n := 2) (by decide +kernel) l_47 f2 ?_
            refine go_ifnull (o := 15) (t := 70) (by decide +kernel) (by decide +kernel) f2 (fun hp_108 => ?_) (fun hp_108 => ?_)
            · have h := it_t hp_108 h
              refine go_aload (n := 4) (by decide +kernel) l_43 f_36 ?_
              refine go_astore_n (n := 2) (by decide +kernel) (by decide +kernel) f_36 fun L_109 l_110 kp_111 => ?_
              have l_112 := kp_111 0 _ l_45 (by decide) (Or.inl (by decide))
              have l_113 := kp_111 1 _ l_46 (by decide) (Or.inr (q_is_cat f1 (Or.inl rfl)))
              have l_114 := kp_111 3 _ l_48 (by decide) (Or.inl (by decide))
              refine go_iinc (n := 3) (c := 1) (c' := 1) (by decide +kernel) (by decide +kernel) l_114 f3 (by decide) fun L_115 v_116 f_117 l_118 kp_119 => ?_
              obtain ⟨x_120, e_121, h⟩ := lx_s h
              have f_122 := q_is_eq f_117 e_121
              have l_123 := kp_119 0 _ l_112 (by decide) (Or.inl (by decide))
              have l_124 := kp_119 1 _ l_113 (by decide) (Or.inl (by decide))
              have l_125 := kp_119 2 _ l_110 (by decide) (Or.inr (q_is_cat f_36 (Or.inr rfl)))
              refine go_goto (o := (-72)) (t := 4) (by decide +kernel) (by decide +kernel) ?_
              exact ih h R_93 l_123 f0 l_124 f1 l_125 f_36 l_118 f_122
            · have h := it_f hp_108 h
              refine go_aload (n := 4) (by decide +kernel) l_43 f_36 ?_
              obtain ⟨x_127, hc_126, h⟩ := bp_s h
              refine go_callV (x := 562) (mi := 68) (n := 0) (ci := 7) (as := []) (rest := []) (by decide +kernel) (by decide +kernel) rfl rfl (q_sum8 _ (Nat.le_of_ble_eq_true rfl)) R_93 f_36 g_41 (om_X6_firstOrder (Nat.le_trans (by decide) hd) R_93 g_41 f_36 hc_126) (fun _ S_131 q_134 => ?_) (fun _ _ qq => kr_x qq)
              refine kr_z (by decide) q_134 fun v_129 f_130 R_132 E_133 => ?_
              refine go_aload_n (n := 2) (by decide +kernel) l_47 f2 ?_
              obtain ⟨g_135, h⟩ := gd_s h
              obtain ⟨x_137, hc_136, h⟩ := bp_s h
              refine go_callV (x := 562) (mi := 68) (n := 0) (ci := 7) (as := []) (rest := [v_129]) (by decide +kernel) (by decide +kernel) rfl rfl (q_sum8 _ (Nat.le_of_ble_eq_true rfl)) R_132 f2 g_135 (om_X6_firstOrder (Nat.le_trans (by decide) hd) R_132 g_135 f2 hc_136) (fun _ S_141 q_144 => ?_) (fun _ _ qq => kr_x qq)
              refine kr_z (by decide) q_144 fun v_139 f_140 R_142 E_143 => ?_
              refine go_icmp (c := .ge) (o := 6) (t := 73) (P := ¬ (x_127 < x_137)) (by decide +kernel) (by decide +kernel) f_130 f_140 (Int.not_lt.symm) (fun hp_145 => ?_) (fun hp_145 => ?_)
              · have h := it_f hp_145 h
                refine go_iinc (n := 3) (c := 1) (c' := 1) (by decide +kernel) (by decide +kernel) l_48 f3 (by decide) fun L_146 v_147 f_148 l_149 kp_150 => ?_
                obtain ⟨x_151, e_152, h⟩ := lx_s h
                have f_153 := q_is_eq f_148 e_152
                have l_154 := kp_150 0 _ l_45 (by decide) (Or.inl (by decide))
                have l_155 := kp_150 1 _ l_46 (by decide) (Or.inl (by decide))
                have l_156 := kp_150 2 _ l_47 (by decide) (Or.inr (q_is_cat f2 (Or.inr rfl)))
                refine go_goto (o := (-72)) (t := 4) (by decide +kernel) (by decide +kernel) ?_
                exact ih h R_142 l_154 f0 l_155 f1 l_156 f2 l_149 f_153
              · have h := it_n hp_145 h
                refine go_aload (n := 4) (by decide +kernel) l_43 f_36 ?_
                refine go_astore_n (n := 2) (by decide +kernel) (by decide +kernel) f_36 fun L_157 l_158 kp_159 => ?_
                have l_160 := kp_159 0 _ l_45 (by decide) (Or.inl (by decide))
                have l_161 := kp_159 1 _ l_46 (by decide) (Or.inr (q_is_cat f1 (Or.inl rfl)))
                have l_162 := kp_159 3 _ l_48 (by decide) (Or.inl (by decide))
                refine go_iinc (n := 3) (c := 1) (c' := 1) (by decide +kernel) (by decide +kernel) l_162 f3 (by decide) fun L_163 v_164 f_165 l_166 kp_167 => ?_
                obtain ⟨x_168, e_169, h⟩ := lx_s h
                have f_170 := q_is_eq f_165 e_169
                have l_171 := kp_167 0 _ l_160 (by decide) (Or.inl (by decide))
                have l_172 := kp_167 1 _ l_161 (by decide) (Or.inl (by decide))
                have l_173 := kp_167 2 _ l_158 (by decide) (Or.inr (q_is_cat f_36 (Or.inr rfl)))
                refine go_goto (o := (-72)) (t := 4) (by decide +kernel) (by decide +kernel) ?_
                exact ih h R_142 l_171 f0 l_172 f1 l_173 f_36 l_166 f_170
noncomputable def fm_X11_firstRunWithWork (p1 : Int) (m0 : MM) : Option Int := fl_X11_firstRunWithWork_4 p1 m0  BIG 0 0
set_option maxHeartbeats 4000000 in
theorem om_X11_firstRunWithWork {xs : List Int32} {d : Nat} {S : QS} {m0 : MM} {p1 : Int} {v0 : Value} {v1 : Value} {rz : Int}
  (hd : 5 ≤ d) (R : Rp S m0) (f0 : q_is 2 v0 4) (f1 : q_is 0 v1 p1)
  (h : fm_X11_firstRunWithWork p1 m0 = some rz) : Mt xs d 159 [v0, v1] S (Cr 2 m0 m0 rz) := by
  obtain ⟨d, rfl⟩ : ∃ e, d = e + 1 := ⟨d - 1, by omega⟩
  have hd : 4 ≤ d := Nat.le_of_succ_le_succ hd
  refine Mt.of (M := qM_X11_firstRunWithWork) rfl (by rw [sl_1 (q_is_cat f0 (Or.inr rfl)), sl_1 (q_is_cat f1 (Or.inl rfl)), sl_0]; decide) ?_
  rw [la_1 (q_is_cat f0 (Or.inr rfl)), la_1 (q_is_cat f1 (Or.inl rfl)), la_0]
  obtain ⟨L, hL⟩ : ∃ L : QL, L = [(0, v0), (0 + 1, v1)] := ⟨_, rfl⟩
  rw [← hL]
  have l0 : q_lo L 0 = some v0 := by rw [hL]; rfl
  have l1 : q_lo L 1 = some v1 := by rw [hL]; rfl
  have hQ : ∀ o S1, Rp S1 m0 → q_out 2 o rz → (Cr 2 m0 m0 rz) o S1 := fun o S1 a b => ⟨a, Ext.rf _, b⟩
  unfold fm_X11_firstRunWithWork at h
  refine go_null (by decide +kernel) fun v_1 f_2 => ?_
  refine go_astore_n (n := 2) (by decide +kernel) (by decide +kernel) f_2 fun L_3 l_4 kp_5 => ?_
  have l_6 := kp_5 0 _ l0 (by decide) (Or.inl (by decide))
  have l_7 := kp_5 1 _ l1 (by decide) (Or.inr (q_is_cat f1 (Or.inl rfl)))
  refine go_iconst (n := 0) (z := 0) (by decide +kernel) (by decide) fun v_8 f_9 => ?_
  refine go_istore_n (n := 3) (by decide +kernel) (by decide +kernel) f_9 fun L_10 l_11 kp_12 => ?_
  have l_13 := kp_12 0 _ l_6 (by decide) (Or.inl (by decide))
  have l_14 := kp_12 1 _ l_7 (by decide) (Or.inl (by decide))
  have l_15 := kp_12 2 _ l_4 (by decide) (Or.inr (q_is_cat f_2 (Or.inr rfl)))
  refine ol_X11_firstRunWithWork_4 hd   hQ BIG h R l_13 f0 l_14 f1 l_15 f_2 l_11 f_9
end DF14
