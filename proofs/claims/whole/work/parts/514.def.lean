/-! Methods as functions (written by wip/whole/dec.py), 14: X11_cancel, X11_checkVariable, X11_query, X11_plain, X11_standing, X11_event, X11_difference, X11_runs, X11_setRate, X11_checkWorker, X11_isHeld, X11_firstRunWithWork. -/
section DF14
noncomputable def fm_X11_cancel (p1 : Int) (m0 : MM) : Option ((Int ⊕ Nat) × MM) := bx (fm_X11_runAt p1 m0) (fun q_10 m_3 => some (.inr q_10, m_3)) fun x_2 m_3 =>
gd (okc m_3 x_2 7) <| bp (fm_X6_isAlive x_2 m_3) fun x_23 =>
if x_23 = 0 then
some (.inr 2, mthr m_3)
else
bd (fm_X11_cancelRun x_2 m_3) fun x_33 m_34 =>
gd (x_33 = 0 ∨ x_33 = 1) <| some (.inl x_33, m_34)
set_option maxHeartbeats 4000000 in
theorem om_X11_cancel {xs : List Int32} {d : Nat} {S : QS} {m0 : MM} {p1 : Int} {v0 : Value} {v1 : Value} {rr : Int ⊕ Nat} {rm : MM}
  (hd : 5 ≤ d) (R : Rp S m0) (f0 : q_is 2 v0 4) (f1 : q_is 0 v1 p1)
  (h : fm_X11_cancel p1 m0 = some (rr, rm)) : Mt xs d 107 [v0, v1] S (Cx 0 m0 rm rr) := by
  obtain ⟨d, rfl⟩ : ∃ e, d = e + 1 := ⟨d - 1, by omega⟩
  have hd : 4 ≤ d := Nat.le_of_succ_le_succ hd
  refine Mt.of (M := qM_X11_cancel) rfl (by rw [sl_1 (q_is_cat f0 (Or.inr rfl)), sl_1 (q_is_cat f1 (Or.inl rfl)), sl_0]; decide) ?_
  rw [la_1 (q_is_cat f0 (Or.inr rfl)), la_1 (q_is_cat f1 (Or.inl rfl)), la_0]
  obtain ⟨L, hL⟩ : ∃ L : QL, L = [(0, v0), (0 + 1, v1)] := ⟨_, rfl⟩
  rw [← hL]
  have l0 : q_lo L 0 = some v0 := by rw [hL]; rfl
  have l1 : q_lo L 1 = some v1 := by rw [hL]; rfl
  have hQ : Ext m0 rm → ∀ o S1, Rp S1 rm → q_oux 0 o rr → (Cx 0 m0 rm rr) o S1 := fun a o S1 b e => ⟨b, a, e⟩
  unfold fm_X11_cancel at h
  refine go_aload_n (n := 0) (by decide +kernel) l0 f0 ?_
  refine go_iload_n (n := 1) (by decide +kernel) l1 f1 ?_
  obtain ⟨rr5, m_3, hc_1, h⟩ := bx_s h
  rcases h with ⟨q_10, rfl, h⟩ | ⟨x_2, rfl, h⟩
  · cases h
    exact go_callV (x := 185) (mi := 139) (n := 1) (ci := 12) (as := [v1]) (rest := []) (by decide +kernel) (by decide +kernel) rfl rfl (q_sum8 _ (Nat.le_of_ble_eq_true rfl)) R f0 (fx_k (c := 12) R (by decide +kernel)) (om_X11_runAt (Nat.le_trans (by decide) hd) R f0 f1 hc_1) (fun _ _ qq => kx_lx qq) (fun _ _ qq => by
      obtain ⟨rfl, Rq, Eq⟩ := kx_e qq
      exact Or.inl ⟨rfl, hQ Eq _ _ Rq rfl⟩)
  refine go_callV (x := 185) (mi := 139) (n := 1) (ci := 12) (as := [v1]) (rest := []) (by decide +kernel) (by decide +kernel) rfl rfl (q_sum8 _ (Nat.le_of_ble_eq_true rfl)) R f0 (fx_k (c := 12) R (by decide +kernel)) (om_X11_runAt (Nat.le_trans (by decide) hd) R f0 f1 hc_1) (fun _ S_6 q_9 => ?_) (fun _ _ qq => kr_x (kx_l qq))
  have q_9 := kx_l q_9
  refine kr_z (by decide) q_9 fun v_4 f_5 R_7 E_8 => ?_
  have E_16 := E_8
  refine go_astore_n (n := 2) (by decide +kernel) (by decide +kernel) f_5 fun L_17 l_18 kp_19 => ?_
  have l_20 := kp_19 0 _ l0 (by decide) (Or.inl (by decide))
  refine go_aload_n (n := 2) (by decide +kernel) l_18 f_5 ?_
  obtain ⟨g_21, h⟩ := gd_s h
  obtain ⟨x_23, hc_22, h⟩ := bp_s h
  refine go_callV (x := 192) (mi := 66) (n := 0) (ci := 7) (as := []) (rest := []) (by decide +kernel) (by decide +kernel) rfl rfl (q_sum8 _ (Nat.le_of_ble_eq_true rfl)) R_7 f_5 g_21 (om_X6_isAlive (Nat.le_trans (by decide) hd) R_7 g_21 f_5 hc_22) (fun _ S_27 q_30 => ?_) (fun _ _ qq => kr_x qq)
  refine kr_z (by decide) q_30 fun v_25 f_26 R_28 E_29 => ?_
  refine go_if (c := .ne) (o := 13) (t := 23) (P := ¬ (x_23 = 0)) (by decide +kernel) (by decide +kernel) f_26 (Iff.rfl) (fun hp_31 => ?_) (fun hp_31 => ?_)
  · have h := it_f hp_31 h
    refine go_aload_n (n := 0) (by decide +kernel) l_20 f0 ?_
    refine go_aload_n (n := 2) (by decide +kernel) l_18 f_5 ?_
    obtain ⟨x_33, m_34, hc_32, h⟩ := bd_s h
    refine go_callV (x := 242) (mi := 153) (n := 1) (ci := 12) (as := [v_4]) (rest := []) (by decide +kernel) (by decide +kernel) rfl rfl (q_sum8 _ (Nat.le_of_ble_eq_true rfl)) R_28 f0 (fx_k (c := 12) R_28 (by decide +kernel)) (om_X11_cancelRun (Nat.le_trans (by decide) hd) R_28 f0 f_5 hc_32) (fun _ S_37 q_40 => ?_) (fun _ _ qq => kr_x qq)
    refine kr_z (by decide) q_40 fun v_35 f_36 R_38 E_39 => ?_
    have E_43 := Ext.tr E_16 E_39
    obtain ⟨g_44, h⟩ := gd_s h
    cases h
    exact go_iret (by decide +kernel) rfl (Or.inr ⟨rfl, g_44⟩) f_36 (hQ E_43 _ _ R_38 (q_out_v (by decide) f_36))
  · have h := it_n hp_31 h
    cases h
    exact go_thr (x := 111) (e := 2) (ic := 115) (b := 0) (by decide +kernel) (by decide +kernel) (by decide +kernel) R_28 rfl fun Sq Rq Eq => hQ (Ext.tr E_16 Eq) _ _ Rq rfl
noncomputable def fm_X11_checkVariable (p1 : Int) (m0 : MM) : Option ((Int ⊕ Nat) × MM) := if p1 < 0 then
some (.inr 0, mthr m0)
else
if p1 < 6 then
some (.inl 0, m0)
else
some (.inr 0, mthr m0)
set_option maxHeartbeats 4000000 in
theorem om_X11_checkVariable {xs : List Int32} {d : Nat} {S : QS} {m0 : MM} {p1 : Int} {v0 : Value} {v1 : Value} {rr : Int ⊕ Nat} {rm : MM}
  (hd : 1 ≤ d) (R : Rp S m0) (f0 : q_is 2 v0 4) (f1 : q_is 0 v1 p1)
  (h : fm_X11_checkVariable p1 m0 = some (rr, rm)) : Mt xs d 146 [v0, v1] S (Cx 9 m0 rm rr) := by
  obtain ⟨d, rfl⟩ : ∃ e, d = e + 1 := ⟨d - 1, by omega⟩
  have hd : 0 ≤ d := Nat.le_of_succ_le_succ hd
  refine Mt.of (M := qM_X11_checkVariable) rfl (by rw [sl_1 (q_is_cat f0 (Or.inr rfl)), sl_1 (q_is_cat f1 (Or.inl rfl)), sl_0]; decide) ?_
  rw [la_1 (q_is_cat f0 (Or.inr rfl)), la_1 (q_is_cat f1 (Or.inl rfl)), la_0]
  obtain ⟨L, hL⟩ : ∃ L : QL, L = [(0, v0), (0 + 1, v1)] := ⟨_, rfl⟩
  rw [← hL]
  have l0 : q_lo L 0 = some v0 := by rw [hL]; rfl
  have l1 : q_lo L 1 = some v1 := by rw [hL]; rfl
  have hQ : Ext m0 rm → ∀ o S1, Rp S1 rm → q_oux 9 o rr → (Cx 9 m0 rm rr) o S1 := fun a o S1 b e => ⟨b, a, e⟩
  unfold fm_X11_checkVariable at h
  refine go_iload_n (n := 1) (by decide +kernel) l1 f1 ?_
  refine go_if (c := .lt) (o := 9) (t := 10) (P := p1 < 0) (by decide +kernel) (by decide +kernel) f1 (Iff.rfl) (fun hp_1 => ?_) (fun hp_1 => ?_)
  · have h := it_t hp_1 h
    cases h
    exact go_thr (x := 255) (e := 0) (ic := 259) (b := 0) (by decide +kernel) (by decide +kernel) (by decide +kernel) R rfl fun Sq Rq Eq => hQ Eq _ _ Rq rfl
  · have h := it_f hp_1 h
    refine go_iload_n (n := 1) (by decide +kernel) l1 f1 ?_
    refine go_bipush (n := 6) (z := 6) (by decide +kernel) (by decide) fun v_2 f_3 => ?_
    refine go_icmp (c := .lt) (o := 14) (t := 21) (P := p1 < 6) (by decide +kernel) (by decide +kernel) f1 f_3 (Iff.rfl) (fun hp_4 => ?_) (fun hp_4 => ?_)
    · have h := it_t hp_4 h
      cases h
      exact go_vret (by decide +kernel) rfl (hQ (Ext.rf _) _ _ R q_out_n)
    · have h := it_f hp_4 h
      cases h
      exact go_thr (x := 255) (e := 0) (ic := 259) (b := 0) (by decide +kernel) (by decide +kernel) (by decide +kernel) R rfl fun Sq Rq Eq => hQ Eq _ _ Rq rfl
noncomputable def fm_X11_query (p1 p2 : Int) (m0 : MM) : Option ((Int ⊕ Nat) × MM) := bx (fm_X11_runAt p1 m0) (fun q_10 m_3 => some (.inr q_10, m_3)) fun x_2 m_3 =>
bx (fm_X11_checkVariable p2 m_3) (fun q_31 m_24 => some (.inr q_31, m_24)) fun x_23 m_24 =>
gd (okc m_24 x_2 7) <| lx (m_24 x_2 3) fun x_45 =>
bp (fm_X11_codeOf x_2 x_45 m_24) fun x_48 =>
lx (m_24 x_2 16) fun x_59 =>
gd (okc m_24 x_59 3) <| lx (m_24 x_59 4) fun x_65 =>
bd (fm_X4_follow x_2 x_48 x_65 0 m_24) fun x_70 m_71 =>
if x_70 = 0 then
some (.inr 2, mthr m_71)
else
bp (fm_X8_value p2 m_71) fun x_89 =>
some (.inl x_89, m_71)
set_option maxHeartbeats 4000000 in
theorem om_X11_query {xs : List Int32} {d : Nat} {S : QS} {m0 : MM} {p1 p2 : Int} {v0 : Value} {v1 : Value} {v2 : Value} {rr : Int ⊕ Nat} {rm : MM}
  (hd : 8 ≤ d) (R : Rp S m0) (f0 : q_is 2 v0 4) (f1 : q_is 0 v1 p1) (f2 : q_is 0 v2 p2)
  (h : fm_X11_query p1 p2 m0 = some (rr, rm)) : Mt xs d 108 [v0, v1, v2] S (Cx 0 m0 rm rr) := by
  obtain ⟨d, rfl⟩ : ∃ e, d = e + 1 := ⟨d - 1, by omega⟩
  have hd : 7 ≤ d := Nat.le_of_succ_le_succ hd
  refine Mt.of (M := qM_X11_query) rfl (by rw [sl_1 (q_is_cat f0 (Or.inr rfl)), sl_1 (q_is_cat f1 (Or.inl rfl)), sl_1 (q_is_cat f2 (Or.inl rfl)), sl_0]; decide) ?_
  rw [la_1 (q_is_cat f0 (Or.inr rfl)), la_1 (q_is_cat f1 (Or.inl rfl)), la_1 (q_is_cat f2 (Or.inl rfl)), la_0]
  obtain ⟨L, hL⟩ : ∃ L : QL, L = [(0, v0), (0 + 1, v1), (0 + 1 + 1, v2)] := ⟨_, rfl⟩
  rw [← hL]
  have l0 : q_lo L 0 = some v0 := by rw [hL]; rfl
  have l1 : q_lo L 1 = some v1 := by rw [hL]; rfl
  have l2 : q_lo L 2 = some v2 := by rw [hL]; rfl
  have hQ : Ext m0 rm → ∀ o S1, Rp S1 rm → q_oux 0 o rr → (Cx 0 m0 rm rr) o S1 := fun a o S1 b e => ⟨b, a, e⟩
  unfold fm_X11_query at h
  refine go_aload_n (n := 0) (by decide +kernel) l0 f0 ?_
  refine go_iload_n (n := 1) (by decide +kernel) l1 f1 ?_
  obtain ⟨rr5, m_3, hc_1, h⟩ := bx_s h
  rcases h with ⟨q_10, rfl, h⟩ | ⟨x_2, rfl, h⟩
  · cases h
    exact go_callV (x := 185) (mi := 139) (n := 1) (ci := 12) (as := [v1]) (rest := []) (by decide +kernel) (by decide +kernel) rfl rfl (q_sum8 _ (Nat.le_of_ble_eq_true rfl)) R f0 (fx_k (c := 12) R (by decide +kernel)) (om_X11_runAt (Nat.le_trans (by decide) hd) R f0 f1 hc_1) (fun _ _ qq => kx_lx qq) (fun _ _ qq => by
      obtain ⟨rfl, Rq, Eq⟩ := kx_e qq
      exact Or.inl ⟨rfl, hQ Eq _ _ Rq rfl⟩)
  refine go_callV (x := 185) (mi := 139) (n := 1) (ci := 12) (as := [v1]) (rest := []) (by decide +kernel) (by decide +kernel) rfl rfl (q_sum8 _ (Nat.le_of_ble_eq_true rfl)) R f0 (fx_k (c := 12) R (by decide +kernel)) (om_X11_runAt (Nat.le_trans (by decide) hd) R f0 f1 hc_1) (fun _ S_6 q_9 => ?_) (fun _ _ qq => kr_x (kx_l qq))
  have q_9 := kx_l q_9
  refine kr_z (by decide) q_9 fun v_4 f_5 R_7 E_8 => ?_
  have E_16 := E_8
  refine go_astore_n (n := 3) (by decide +kernel) (by decide +kernel) f_5 fun L_17 l_18 kp_19 => ?_
  have l_20 := kp_19 0 _ l0 (by decide) (Or.inl (by decide))
  have l_21 := kp_19 2 _ l2 (by decide) (Or.inr (q_is_cat f2 (Or.inl rfl)))
  refine go_aload_n (n := 0) (by decide +kernel) l_20 f0 ?_
  refine go_iload_n (n := 2) (by decide +kernel) l_21 f2 ?_
  obtain ⟨rr5, m_24, hc_22, h⟩ := bx_s h
  rcases h with ⟨q_31, rfl, h⟩ | ⟨x_23, rfl, h⟩
  · cases h
    exact go_callV (x := 246) (mi := 146) (n := 1) (ci := 12) (as := [v2]) (rest := []) (by decide +kernel) (by decide +kernel) rfl rfl (q_sum8 _ (Nat.le_of_ble_eq_true rfl)) R_7 f0 (fx_k (c := 12) R_7 (by decide +kernel)) (om_X11_checkVariable (Nat.le_trans (by decide) hd) R_7 f0 f2 hc_22) (fun _ _ qq => kx_lx qq) (fun _ _ qq => by
      obtain ⟨rfl, Rq, Eq⟩ := kx_e qq
      exact Or.inl ⟨rfl, hQ (Ext.tr E_16 Eq) _ _ Rq rfl⟩)
  refine go_callV (x := 246) (mi := 146) (n := 1) (ci := 12) (as := [v2]) (rest := []) (by decide +kernel) (by decide +kernel) rfl rfl (q_sum8 _ (Nat.le_of_ble_eq_true rfl)) R_7 f0 (fx_k (c := 12) R_7 (by decide +kernel)) (om_X11_checkVariable (Nat.le_trans (by decide) hd) R_7 f0 f2 hc_22) (fun _ S_27 q_30 => ?_) (fun _ _ qq => kr_x (kx_l qq))
  have q_30 := kx_l q_30
  refine kr_v q_30 fun R_28 E_29 => ?_
  have E_37 := Ext.tr E_16 E_29
  refine go_aload_n (n := 0) (by decide +kernel) l_20 f0 ?_
  refine go_getf (x := 57) (ci := 12) (kf := 10) (fin := 1) (t := 2) (by decide +kernel) (by decide +kernel) (by decide +kernel) R_28 f0 (fx_k (c := 12) R_28 (by decide +kernel)) fun v_38 f_39 => ?_
  have f_40 := q_is_eq (b := 16) f_39 (fx_v R_28 (by decide +kernel)).symm
  refine go_aload_n (n := 3) (by decide +kernel) l_18 f_5 ?_
  refine go_aload_n (n := 0) (by decide +kernel) l_20 f0 ?_
  refine go_aload_n (n := 3) (by decide +kernel) l_18 f_5 ?_
  refine go_aload_n (n := 3) (by decide +kernel) l_18 f_5 ?_
  obtain ⟨g_43, h⟩ := gd_s h
  obtain ⟨x_45, e_46, h⟩ := lx_s h
  refine go_getf (x := 213) (ci := 7) (kf := 3) (fin := 0) (t := 0) (by decide +kernel) (by decide +kernel) (by decide +kernel) R_28 f_5 g_43 fun v_41 f_42 => ?_
  have f_44 := q_is_eq f_42 e_46
  obtain ⟨x_48, hc_47, h⟩ := bp_s h
  refine go_callV (x := 216) (mi := 149) (n := 2) (ci := 12) (as := [v_4, v_41]) (rest := [v_4, v_38]) (by decide +kernel) (by decide +kernel) rfl rfl (q_sum8 _ (Nat.le_of_ble_eq_true rfl)) R_28 f0 (fx_k (c := 12) R_28 (by decide +kernel)) (om_X11_codeOf (Nat.le_trans (by decide) hd) R_28 f0 f_5 f_44 hc_47) (fun _ S_52 q_55 => ?_) (fun _ _ qq => kr_x qq)
  refine kr_z (by decide) q_55 fun v_50 f_51 R_53 E_54 => ?_
  refine go_aload_n (n := 3) (by decide +kernel) l_18 f_5 ?_
  obtain ⟨x_59, e_60, h⟩ := lx_s h
  refine go_getf (x := 195) (ci := 7) (kf := 16) (fin := 2) (t := 2) (by decide +kernel) (by decide +kernel) (by decide +kernel) R_53 f_5 g_43 fun v_56 f_57 => ?_
  have f_58 := q_is_eq f_57 e_60
  obtain ⟨g_63, h⟩ := gd_s h
  obtain ⟨x_65, e_66, h⟩ := lx_s h
  refine go_getf (x := 220) (ci := 3) (kf := 4) (fin := 0) (t := 0) (by decide +kernel) (by decide +kernel) (by decide +kernel) R_53 f_58 g_63 fun v_61 f_62 => ?_
  have f_64 := q_is_eq f_62 e_66
  refine go_iconst (n := 0) (z := 0) (by decide +kernel) (by decide) fun v_67 f_68 => ?_
  obtain ⟨x_70, m_71, hc_69, h⟩ := bd_s h
  refine go_callV (x := 223) (mi := 30) (n := 4) (ci := 5) (as := [v_4, v_50, v_61, v_67]) (rest := []) (by decide +kernel) (by decide +kernel) rfl rfl (q_sum8 _ (Nat.le_of_ble_eq_true rfl)) R_53 f_40 (fx_k (c := 5) R_53 (by decide +kernel)) (om_X4_follow (Nat.le_trans (by decide) hd) R_53 f_40 f_5 f_51 f_64 f_68 hc_69) (fun _ S_74 q_77 => ?_) (fun _ _ qq => kr_x qq)
  refine kr_z (by decide) q_77 fun v_72 f_73 R_75 E_76 => ?_
  have E_80 := Ext.tr E_37 E_76
  refine go_if (c := .ne) (o := 13) (t := 49) (P := ¬ (x_70 = 0)) (by decide +kernel) (by decide +kernel) f_73 (Iff.rfl) (fun hp_81 => ?_) (fun hp_81 => ?_)
  · have h := it_f hp_81 h
    refine go_aload_n (n := 0) (by decide +kernel) l_20 f0 ?_
    refine go_getf (x := 57) (ci := 12) (kf := 10) (fin := 1) (t := 2) (by decide +kernel) (by decide +kernel) (by decide +kernel) R_75 f0 (fx_k (c := 12) R_75 (by decide +kernel)) fun v_82 f_83 => ?_
    have f_84 := q_is_eq (b := 16) f_83 (fx_v R_75 (by decide +kernel)).symm
    refine go_getf (x := 231) (ci := 5) (kf := 0) (fin := 2) (t := 2) (by decide +kernel) (by decide +kernel) (by decide +kernel) R_75 f_84 (fx_k (c := 5) R_75 (by decide +kernel)) fun v_85 f_86 => ?_
    have f_87 := q_is_eq (b := 17) f_86 (fx_v R_75 (by decide +kernel)).symm
    refine go_iload_n (n := 2) (by decide +kernel) l_21 f2 ?_
    obtain ⟨x_89, hc_88, h⟩ := bp_s h
    refine go_callV (x := 251) (mi := 81) (n := 1) (ci := 9) (as := [v2]) (rest := []) (by decide +kernel) (by decide +kernel) rfl rfl (q_sum8 _ (Nat.le_of_ble_eq_true rfl)) R_75 f_87 (fx_k (c := 9) R_75 (by decide +kernel)) (om_X8_value (Nat.le_trans (by decide) hd) R_75 f_87 f2 hc_88) (fun _ S_93 q_96 => ?_) (fun _ _ qq => kr_x qq)
    refine kr_z (by decide) q_96 fun v_91 f_92 R_94 E_95 => ?_
    cases h
    exact go_iret (by decide +kernel) rfl (Or.inl rfl) f_92 (hQ E_80 _ _ R_94 (q_out_v (by decide) f_92))
  · have h := it_n hp_81 h
    cases h
    exact go_thr (x := 111) (e := 2) (ic := 115) (b := 0) (by decide +kernel) (by decide +kernel) (by decide +kernel) R_75 rfl fun Sq Rq Eq => hQ (Ext.tr E_80 Eq) _ _ Rq rfl
noncomputable def fm_X11_plain (p1 p2 : Int) (m0 : MM) : Option ((Int ⊕ Nat) × MM) := bx (fm_X11_runAt p1 m0) (fun q_10 m_3 => some (.inr q_10, m_3)) fun x_2 m_3 =>
bx (fm_X11_checkVariable p2 m_3) (fun q_31 m_24 => some (.inr q_31, m_24)) fun x_23 m_24 =>
gd (okc m_24 x_2 7) <| lx (m_24 x_2 3) fun x_45 =>
bp (fm_X11_codeOf x_2 x_45 m_24) fun x_48 =>
lx (m_24 x_2 16) fun x_59 =>
gd (okc m_24 x_59 3) <| lx (m_24 x_59 4) fun x_65 =>
bd (fm_X4_follow x_2 x_48 x_65 0 m_24) fun x_70 m_71 =>
if x_70 = 0 then
some (.inr 2, mthr m_71)
else
lx (m_71 x_2 3) fun x_89 =>
bp (fm_X11_codeOf x_2 x_89 m_71) fun x_92 =>
lx (m_71 x_2 16) fun x_103 =>
gd (okc m_71 x_103 3) <| lx (m_71 x_103 4) fun x_109 =>
bd (fm_X4_follow x_2 x_92 x_109 1 m_71) fun x_114 m_115 =>
bp (fm_X8_value p2 m_115) fun x_132 =>
some (.inl x_132, m_115)
set_option maxHeartbeats 4000000 in
theorem om_X11_plain {xs : List Int32} {d : Nat} {S : QS} {m0 : MM} {p1 p2 : Int} {v0 : Value} {v1 : Value} {v2 : Value} {rr : Int ⊕ Nat} {rm : MM}
  (hd : 8 ≤ d) (R : Rp S m0) (f0 : q_is 2 v0 4) (f1 : q_is 0 v1 p1) (f2 : q_is 0 v2 p2)
  (h : fm_X11_plain p1 p2 m0 = some (rr, rm)) : Mt xs d 109 [v0, v1, v2] S (Cx 0 m0 rm rr) := by
  obtain ⟨d, rfl⟩ : ∃ e, d = e + 1 := ⟨d - 1, by omega⟩
  have hd : 7 ≤ d := Nat.le_of_succ_le_succ hd
  refine Mt.of (M := qM_X11_plain) rfl (by rw [sl_1 (q_is_cat f0 (Or.inr rfl)), sl_1 (q_is_cat f1 (Or.inl rfl)), sl_1 (q_is_cat f2 (Or.inl rfl)), sl_0]; decide) ?_
  rw [la_1 (q_is_cat f0 (Or.inr rfl)), la_1 (q_is_cat f1 (Or.inl rfl)), la_1 (q_is_cat f2 (Or.inl rfl)), la_0]
  obtain ⟨L, hL⟩ : ∃ L : QL, L = [(0, v0), (0 + 1, v1), (0 + 1 + 1, v2)] := ⟨_, rfl⟩
  rw [← hL]
  have l0 : q_lo L 0 = some v0 := by rw [hL]; rfl
  have l1 : q_lo L 1 = some v1 := by rw [hL]; rfl
  have l2 : q_lo L 2 = some v2 := by rw [hL]; rfl
  have hQ : Ext m0 rm → ∀ o S1, Rp S1 rm → q_oux 0 o rr → (Cx 0 m0 rm rr) o S1 := fun a o S1 b e => ⟨b, a, e⟩
  unfold fm_X11_plain at h
  refine go_aload_n (n := 0) (by decide +kernel) l0 f0 ?_
  refine go_iload_n (n := 1) (by decide +kernel) l1 f1 ?_
  obtain ⟨rr5, m_3, hc_1, h⟩ := bx_s h
  rcases h with ⟨q_10, rfl, h⟩ | ⟨x_2, rfl, h⟩
  · cases h
    exact go_callV (x := 185) (mi := 139) (n := 1) (ci := 12) (as := [v1]) (rest := []) (by decide +kernel) (by decide +kernel) rfl rfl (q_sum8 _ (Nat.le_of_ble_eq_true rfl)) R f0 (fx_k (c := 12) R (by decide +kernel)) (om_X11_runAt (Nat.le_trans (by decide) hd) R f0 f1 hc_1) (fun _ _ qq => kx_lx qq) (fun _ _ qq => by
      obtain ⟨rfl, Rq, Eq⟩ := kx_e qq
      exact Or.inl ⟨rfl, hQ Eq _ _ Rq rfl⟩)
  refine go_callV (x := 185) (mi := 139) (n := 1) (ci := 12) (as := [v1]) (rest := []) (by decide +kernel) (by decide +kernel) rfl rfl (q_sum8 _ (Nat.le_of_ble_eq_true rfl)) R f0 (fx_k (c := 12) R (by decide +kernel)) (om_X11_runAt (Nat.le_trans (by decide) hd) R f0 f1 hc_1) (fun _ S_6 q_9 => ?_) (fun _ _ qq => kr_x (kx_l qq))
  have q_9 := kx_l q_9
  refine kr_z (by decide) q_9 fun v_4 f_5 R_7 E_8 => ?_
  have E_16 := E_8
  refine go_astore_n (n := 3) (by decide +kernel) (by decide +kernel) f_5 fun L_17 l_18 kp_19 => ?_
  have l_20 := kp_19 0 _ l0 (by decide) (Or.inl (by decide))
  have l_21 := kp_19 2 _ l2 (by decide) (Or.inr (q_is_cat f2 (Or.inl rfl)))
  refine go_aload_n (n := 0) (by decide +kernel) l_20 f0 ?_
  refine go_iload_n (n := 2) (by decide +kernel) l_21 f2 ?_
  obtain ⟨rr5, m_24, hc_22, h⟩ := bx_s h
  rcases h with ⟨q_31, rfl, h⟩ | ⟨x_23, rfl, h⟩
  · cases h
    exact go_callV (x := 246) (mi := 146) (n := 1) (ci := 12) (as := [v2]) (rest := []) (by decide +kernel) (by decide +kernel) rfl rfl (q_sum8 _ (Nat.le_of_ble_eq_true rfl)) R_7 f0 (fx_k (c := 12) R_7 (by decide +kernel)) (om_X11_checkVariable (Nat.le_trans (by decide) hd) R_7 f0 f2 hc_22) (fun _ _ qq => kx_lx qq) (fun _ _ qq => by
      obtain ⟨rfl, Rq, Eq⟩ := kx_e qq
      exact Or.inl ⟨rfl, hQ (Ext.tr E_16 Eq) _ _ Rq rfl⟩)
  refine go_callV (x := 246) (mi := 146) (n := 1) (ci := 12) (as := [v2]) (rest := []) (by decide +kernel) (by decide +kernel) rfl rfl (q_sum8 _ (Nat.le_of_ble_eq_true rfl)) R_7 f0 (fx_k (c := 12) R_7 (by decide +kernel)) (om_X11_checkVariable (Nat.le_trans (by decide) hd) R_7 f0 f2 hc_22) (fun _ S_27 q_30 => ?_) (fun _ _ qq => kr_x (kx_l qq))
  have q_30 := kx_l q_30
  refine kr_v q_30 fun R_28 E_29 => ?_
  have E_37 := Ext.tr E_16 E_29
  refine go_aload_n (n := 0) (by decide +kernel) l_20 f0 ?_
  refine go_getf (x := 57) (ci := 12) (kf := 10) (fin := 1) (t := 2) (by decide +kernel) (by decide +kernel) (by decide +kernel) R_28 f0 (fx_k (c := 12) R_28 (by decide +kernel)) fun v_38 f_39 => ?_
  have f_40 := q_is_eq (b := 16) f_39 (fx_v R_28 (by decide +kernel)).symm
  refine go_aload_n (n := 3) (by decide +kernel) l_18 f_5 ?_
  refine go_aload_n (n := 0) (by decide +kernel) l_20 f0 ?_
  refine go_aload_n (n := 3) (by decide +kernel) l_18 f_5 ?_
  refine go_aload_n (n := 3) (by decide +kernel) l_18 f_5 ?_
  obtain ⟨g_43, h⟩ := gd_s h
  obtain ⟨x_45, e_46, h⟩ := lx_s h
  refine go_getf (x := 213) (ci := 7) (kf := 3) (fin := 0) (t := 0) (by decide +kernel) (by decide +kernel) (by decide +kernel) R_28 f_5 g_43 fun v_41 f_42 => ?_
  have f_44 := q_is_eq f_42 e_46
  obtain ⟨x_48, hc_47, h⟩ := bp_s h
  refine go_callV (x := 216) (mi := 149) (n := 2) (ci := 12) (as := [v_4, v_41]) (rest := [v_4, v_38]) (by decide +kernel) (by decide +kernel) rfl rfl (q_sum8 _ (Nat.le_of_ble_eq_true rfl)) R_28 f0 (fx_k (c := 12) R_28 (by decide +kernel)) (om_X11_codeOf (Nat.le_trans (by decide) hd) R_28 f0 f_5 f_44 hc_47) (fun _ S_52 q_55 => ?_) (fun _ _ qq => kr_x qq)
  refine kr_z (by decide) q_55 fun v_50 f_51 R_53 E_54 => ?_
  refine go_aload_n (n := 3) (by decide +kernel) l_18 f_5 ?_
  obtain ⟨x_59, e_60, h⟩ := lx_s h
  refine go_getf (x := 195) (ci := 7) (kf := 16) (fin := 2) (t := 2) (by decide +kernel) (by decide +kernel) (by decide +kernel) R_53 f_5 g_43 fun v_56 f_57 => ?_
  have f_58 := q_is_eq f_57 e_60
  obtain ⟨g_63, h⟩ := gd_s h
  obtain ⟨x_65, e_66, h⟩ := lx_s h
  refine go_getf (x := 220) (ci := 3) (kf := 4) (fin := 0) (t := 0) (by decide +kernel) (by decide +kernel) (by decide +kernel) R_53 f_58 g_63 fun v_61 f_62 => ?_
  have f_64 := q_is_eq f_62 e_66
  refine go_iconst (n := 0) (z := 0) (by decide +kernel) (by decide) fun v_67 f_68 => ?_
  obtain ⟨x_70, m_71, hc_69, h⟩ := bd_s h
  refine go_callV (x := 223) (mi := 30) (n := 4) (ci := 5) (as := [v_4, v_50, v_61, v_67]) (rest := []) (by decide +kernel) (by decide +kernel) rfl rfl (q_sum8 _ (Nat.le_of_ble_eq_true rfl)) R_53 f_40 (fx_k (c := 5) R_53 (by decide +kernel)) (om_X4_follow (Nat.le_trans (by decide) hd) R_53 f_40 f_5 f_51 f_64 f_68 hc_69) (fun _ S_74 q_77 => ?_) (fun _ _ qq => kr_x qq)
  refine kr_z (by decide) q_77 fun v_72 f_73 R_75 E_76 => ?_
  have E_80 := Ext.tr E_37 E_76
  refine go_if (c := .ne) (o := 13) (t := 49) (P := ¬ (x_70 = 0)) (by decide +kernel) (by decide +kernel) f_73 (Iff.rfl) (fun hp_81 => ?_) (fun hp_81 => ?_)
  · have h := it_f hp_81 h
    refine go_aload_n (n := 0) (by decide +kernel) l_20 f0 ?_
    refine go_getf (x := 57) (ci := 12) (kf := 10) (fin := 1) (t := 2) (by decide +kernel) (by decide +kernel) (by decide +kernel) R_75 f0 (fx_k (c := 12) R_75 (by decide +kernel)) fun v_82 f_83 => ?_
    have f_84 := q_is_eq (b := 16) f_83 (fx_v R_75 (by decide +kernel)).symm
    refine go_aload_n (n := 3) (by decide +kernel) l_18 f_5 ?_
    refine go_aload_n (n := 0) (by decide +kernel) l_20 f0 ?_
    refine go_aload_n (n := 3) (by decide +kernel) l_18 f_5 ?_
    refine go_aload_n (n := 3) (by decide +kernel) l_18 f_5 ?_
    have g_87 := Ext.ok E_76 g_43
    obtain ⟨x_89, e_90, h⟩ := lx_s h
    refine go_getf (x := 213) (ci := 7) (kf := 3) (fin := 0) (t := 0) (by decide +kernel) (by decide +kernel) (by decide +kernel) R_75 f_5 g_87 fun v_85 f_86 => ?_
    have f_88 := q_is_eq f_86 e_90
    obtain ⟨x_92, hc_91, h⟩ := bp_s h
    refine go_callV (x := 216) (mi := 149) (n := 2) (ci := 12) (as := [v_4, v_85]) (rest := [v_4, v_82]) (by decide +kernel) (by decide +kernel) rfl rfl (q_sum8 _ (Nat.le_of_ble_eq_true rfl)) R_75 f0 (fx_k (c := 12) R_75 (by decide +kernel)) (om_X11_codeOf (Nat.le_trans (by decide) hd) R_75 f0 f_5 f_88 hc_91) (fun _ S_96 q_99 => ?_) (fun _ _ qq => kr_x qq)
    refine kr_z (by decide) q_99 fun v_94 f_95 R_97 E_98 => ?_
    refine go_aload_n (n := 3) (by decide +kernel) l_18 f_5 ?_
    obtain ⟨x_103, e_104, h⟩ := lx_s h
    refine go_getf (x := 195) (ci := 7) (kf := 16) (fin := 2) (t := 2) (by decide +kernel) (by decide +kernel) (by decide +kernel) R_97 f_5 g_87 fun v_100 f_101 => ?_
    have f_102 := q_is_eq f_101 e_104
    obtain ⟨g_107, h⟩ := gd_s h
    obtain ⟨x_109, e_110, h⟩ := lx_s h
    refine go_getf (x := 220) (ci := 3) (kf := 4) (fin := 0) (t := 0) (by decide +kernel) (by decide +kernel) (by decide +kernel) R_97 f_102 g_107 fun v_105 f_106 => ?_
    have f_108 := q_is_eq f_106 e_110
    refine go_iconst (n := 1) (z := 1) (by decide +kernel) (by decide) fun v_111 f_112 => ?_
    obtain ⟨x_114, m_115, hc_113, h⟩ := bd_s h
    refine go_callV (x := 223) (mi := 30) (n := 4) (ci := 5) (as := [v_4, v_94, v_105, v_111]) (rest := []) (by decide +kernel) (by decide +kernel) rfl rfl (q_sum8 _ (Nat.le_of_ble_eq_true rfl)) R_97 f_84 (fx_k (c := 5) R_97 (by decide +kernel)) (om_X4_follow (Nat.le_trans (by decide) hd) R_97 f_84 f_5 f_95 f_108 f_112 hc_113) (fun _ S_118 q_121 => ?_) (fun _ _ qq => kr_x qq)
    refine kr_z (by decide) q_121 fun v_116 f_117 R_119 E_120 => ?_
    have E_124 := Ext.tr E_80 E_120
    refine go_pop (by decide +kernel) f_117 (Or.inl rfl) ?_
    refine go_aload_n (n := 0) (by decide +kernel) l_20 f0 ?_
    refine go_getf (x := 57) (ci := 12) (kf := 10) (fin := 1) (t := 2) (by decide +kernel) (by decide +kernel) (by decide +kernel) R_119 f0 (fx_k (c := 12) R_119 (by decide +kernel)) fun v_125 f_126 => ?_
    have f_127 := q_is_eq (b := 16) f_126 (fx_v R_119 (by decide +kernel)).symm
    refine go_getf (x := 231) (ci := 5) (kf := 0) (fin := 2) (t := 2) (by decide +kernel) (by decide +kernel) (by decide +kernel) R_119 f_127 (fx_k (c := 5) R_119 (by decide +kernel)) fun v_128 f_129 => ?_
    have f_130 := q_is_eq (b := 17) f_129 (fx_v R_119 (by decide +kernel)).symm
    refine go_iload_n (n := 2) (by decide +kernel) l_21 f2 ?_
    obtain ⟨x_132, hc_131, h⟩ := bp_s h
    refine go_callV (x := 251) (mi := 81) (n := 1) (ci := 9) (as := [v2]) (rest := []) (by decide +kernel) (by decide +kernel) rfl rfl (q_sum8 _ (Nat.le_of_ble_eq_true rfl)) R_119 f_130 (fx_k (c := 9) R_119 (by decide +kernel)) (om_X8_value (Nat.le_trans (by decide) hd) R_119 f_130 f2 hc_131) (fun _ S_136 q_139 => ?_) (fun _ _ qq => kr_x qq)
    refine kr_z (by decide) q_139 fun v_134 f_135 R_137 E_138 => ?_
    cases h
    exact go_iret (by decide +kernel) rfl (Or.inl rfl) f_135 (hQ E_124 _ _ R_137 (q_out_v (by decide) f_135))
  · have h := it_n hp_81 h
    cases h
    exact go_thr (x := 111) (e := 2) (ic := 115) (b := 0) (by decide +kernel) (by decide +kernel) (by decide +kernel) R_75 rfl fun Sq Rq Eq => hQ (Ext.tr E_80 Eq) _ _ Rq rfl
noncomputable def fm_X11_standing (p1 : Int) (m0 : MM) : Option ((Int ⊕ Nat) × MM) := bx (fm_X11_runAt p1 m0) (fun q_10 m_3 => some (.inr q_10, m_3)) fun x_2 m_3 =>
gd (okc m_3 x_2 7) <| lx (m_3 x_2 16) fun x_26 =>
gd (okc m_3 x_26 3) <| lx (m_3 x_26 1) fun x_32 =>
lx (m_3 x_2 6) fun x_39 =>
some (.inl (w32 ((w32 (10 * x_32)) + x_39)), m_3)
set_option maxHeartbeats 4000000 in
theorem om_X11_standing {xs : List Int32} {d : Nat} {S : QS} {m0 : MM} {p1 : Int} {v0 : Value} {v1 : Value} {rr : Int ⊕ Nat} {rm : MM}
  (hd : 5 ≤ d) (R : Rp S m0) (f0 : q_is 2 v0 4) (f1 : q_is 0 v1 p1)
  (h : fm_X11_standing p1 m0 = some (rr, rm)) : Mt xs d 110 [v0, v1] S (Cx 0 m0 rm rr) := by
  obtain ⟨d, rfl⟩ : ∃ e, d = e + 1 := ⟨d - 1, by omega⟩
  have hd : 4 ≤ d := Nat.le_of_succ_le_succ hd
  refine Mt.of (M := qM_X11_standing) rfl (by rw [sl_1 (q_is_cat f0 (Or.inr rfl)), sl_1 (q_is_cat f1 (Or.inl rfl)), sl_0]; decide) ?_
  rw [la_1 (q_is_cat f0 (Or.inr rfl)), la_1 (q_is_cat f1 (Or.inl rfl)), la_0]
  obtain ⟨L, hL⟩ : ∃ L : QL, L = [(0, v0), (0 + 1, v1)] := ⟨_, rfl⟩
  rw [← hL]
  have l0 : q_lo L 0 = some v0 := by rw [hL]; rfl
  have l1 : q_lo L 1 = some v1 := by rw [hL]; rfl
  have hQ : Ext m0 rm → ∀ o S1, Rp S1 rm → q_oux 0 o rr → (Cx 0 m0 rm rr) o S1 := fun a o S1 b e => ⟨b, a, e⟩
  unfold fm_X11_standing at h
  refine go_aload_n (n := 0) (by decide +kernel) l0 f0 ?_
  refine go_iload_n (n := 1) (by decide +kernel) l1 f1 ?_
  obtain ⟨rr5, m_3, hc_1, h⟩ := bx_s h
  rcases h with ⟨q_10, rfl, h⟩ | ⟨x_2, rfl, h⟩
  · cases h
    exact go_callV (x := 185) (mi := 139) (n := 1) (ci := 12) (as := [v1]) (rest := []) (by decide +kernel) (by decide +kernel) rfl rfl (q_sum8 _ (Nat.le_of_ble_eq_true rfl)) R f0 (fx_k (c := 12) R (by decide +kernel)) (om_X11_runAt (Nat.le_trans (by decide) hd) R f0 f1 hc_1) (fun _ _ qq => kx_lx qq) (fun _ _ qq => by
      obtain ⟨rfl, Rq, Eq⟩ := kx_e qq
      exact Or.inl ⟨rfl, hQ Eq _ _ Rq rfl⟩)
  refine go_callV (x := 185) (mi := 139) (n := 1) (ci := 12) (as := [v1]) (rest := []) (by decide +kernel) (by decide +kernel) rfl rfl (q_sum8 _ (Nat.le_of_ble_eq_true rfl)) R f0 (fx_k (c := 12) R (by decide +kernel)) (om_X11_runAt (Nat.le_trans (by decide) hd) R f0 f1 hc_1) (fun _ S_6 q_9 => ?_) (fun _ _ qq => kr_x (kx_l qq))
  have q_9 := kx_l q_9
  refine kr_z (by decide) q_9 fun v_4 f_5 R_7 E_8 => ?_
  have E_16 := E_8
  refine go_astore_n (n := 2) (by decide +kernel) (by decide +kernel) f_5 fun L_17 l_18 kp_19 => ?_
  refine go_bipush (n := 10) (z := 10) (by decide +kernel) (by decide) fun v_20 f_21 => ?_
  refine go_aload_n (n := 2) (by decide +kernel) l_18 f_5 ?_
  obtain ⟨g_24, h⟩ := gd_s h
  obtain ⟨x_26, e_27, h⟩ := lx_s h
  refine go_getf (x := 195) (ci := 7) (kf := 16) (fin := 2) (t := 2) (by decide +kernel) (by decide +kernel) (by decide +kernel) R_7 f_5 g_24 fun v_22 f_23 => ?_
  have f_25 := q_is_eq f_23 e_27
  obtain ⟨g_30, h⟩ := gd_s h
  obtain ⟨x_32, e_33, h⟩ := lx_s h
  refine go_getf (x := 199) (ci := 3) (kf := 1) (fin := 0) (t := 0) (by decide +kernel) (by decide +kernel) (by decide +kernel) R_7 f_25 g_30 fun v_28 f_29 => ?_
  have f_31 := q_is_eq f_29 e_33
  refine go_imul (by decide +kernel) f_21 f_31 fun v_34 f_35 => ?_
  refine go_aload_n (n := 2) (by decide +kernel) l_18 f_5 ?_
  obtain ⟨x_39, e_40, h⟩ := lx_s h
  refine go_getf (x := 208) (ci := 7) (kf := 6) (fin := 0) (t := 0) (by decide +kernel) (by decide +kernel) (by decide +kernel) R_7 f_5 g_24 fun v_36 f_37 => ?_
  have f_38 := q_is_eq f_37 e_40
  refine go_iadd (by decide +kernel) f_35 f_38 fun v_41 f_42 => ?_
  cases h
  exact go_iret (by decide +kernel) rfl (Or.inl rfl) f_42 (hQ E_16 _ _ R_7 (q_out_v (by decide) f_42))
noncomputable def fm_X11_event (p1 p2 : Int) (m0 : MM) : Option ((Int ⊕ Nat) × MM) := bx (fm_X11_runAt p1 m0) (fun q_10 m_3 => some (.inr q_10, m_3)) fun x_2 m_3 =>
if p2 < 0 then
some (.inr 0, mthr m_3)
else
gd (okc m_3 x_2 7) <| lx (m_3 x_2 16) fun x_26 =>
gd (okc m_3 x_26 3) <| lx (m_3 x_26 1) fun x_32 =>
if p2 < x_32 then
bp (fm_X2_kind x_26 p2 m_3) fun x_41 =>
bp (fm_X2_x x_26 p2 m_3) fun x_57 =>
bp (fm_X2_y x_26 p2 m_3) fun x_73 =>
some (.inl (w32 ((w32 ((w32 (1000000 * x_41)) + (w32 (1000 * x_57)))) + x_73)), m_3)
else
some (.inr 0, mthr m_3)
set_option maxHeartbeats 4000000 in
theorem om_X11_event {xs : List Int32} {d : Nat} {S : QS} {m0 : MM} {p1 p2 : Int} {v0 : Value} {v1 : Value} {v2 : Value} {rr : Int ⊕ Nat} {rm : MM}
  (hd : 5 ≤ d) (R : Rp S m0) (f0 : q_is 2 v0 4) (f1 : q_is 0 v1 p1) (f2 : q_is 0 v2 p2)
  (h : fm_X11_event p1 p2 m0 = some (rr, rm)) : Mt xs d 111 [v0, v1, v2] S (Cx 0 m0 rm rr) := by
  obtain ⟨d, rfl⟩ : ∃ e, d = e + 1 := ⟨d - 1, by omega⟩
  have hd : 4 ≤ d := Nat.le_of_succ_le_succ hd
  refine Mt.of (M := qM_X11_event) rfl (by rw [sl_1 (q_is_cat f0 (Or.inr rfl)), sl_1 (q_is_cat f1 (Or.inl rfl)), sl_1 (q_is_cat f2 (Or.inl rfl)), sl_0]; decide) ?_
  rw [la_1 (q_is_cat f0 (Or.inr rfl)), la_1 (q_is_cat f1 (Or.inl rfl)), la_1 (q_is_cat f2 (Or.inl rfl)), la_0]
  obtain ⟨L, hL⟩ : ∃ L : QL, L = [(0, v0), (0 + 1, v1), (0 + 1 + 1, v2)] := ⟨_, rfl⟩
  rw [← hL]
  have l0 : q_lo L 0 = some v0 := by rw [hL]; rfl
  have l1 : q_lo L 1 = some v1 := by rw [hL]; rfl
  have l2 : q_lo L 2 = some v2 := by rw [hL]; rfl
  have hQ : Ext m0 rm → ∀ o S1, Rp S1 rm → q_oux 0 o rr → (Cx 0 m0 rm rr) o S1 := fun a o S1 b e => ⟨b, a, e⟩
  unfold fm_X11_event at h
  refine go_aload_n (n := 0) (by decide +kernel) l0 f0 ?_
  refine go_iload_n (n := 1) (by decide +kernel) l1 f1 ?_
  obtain ⟨rr5, m_3, hc_1, h⟩ := bx_s h
  rcases h with ⟨q_10, rfl, h⟩ | ⟨x_2, rfl, h⟩
  · cases h
    exact go_callV (x := 185) (mi := 139) (n := 1) (ci := 12) (as := [v1]) (rest := []) (by decide +kernel) (by decide +kernel) rfl rfl (q_sum8 _ (Nat.le_of_ble_eq_true rfl)) R f0 (fx_k (c := 12) R (by decide +kernel)) (om_X11_runAt (Nat.le_trans (by decide) hd) R f0 f1 hc_1) (fun _ _ qq => kx_lx qq) (fun _ _ qq => by
      obtain ⟨rfl, Rq, Eq⟩ := kx_e qq
      exact Or.inl ⟨rfl, hQ Eq _ _ Rq rfl⟩)
  refine go_callV (x := 185) (mi := 139) (n := 1) (ci := 12) (as := [v1]) (rest := []) (by decide +kernel) (by decide +kernel) rfl rfl (q_sum8 _ (Nat.le_of_ble_eq_true rfl)) R f0 (fx_k (c := 12) R (by decide +kernel)) (om_X11_runAt (Nat.le_trans (by decide) hd) R f0 f1 hc_1) (fun _ S_6 q_9 => ?_) (fun _ _ qq => kr_x (kx_l qq))
  have q_9 := kx_l q_9
  refine kr_z (by decide) q_9 fun v_4 f_5 R_7 E_8 => ?_
  have E_16 := E_8
  refine go_astore_n (n := 3) (by decide +kernel) (by decide +kernel) f_5 fun L_17 l_18 kp_19 => ?_
  have l_20 := kp_19 2 _ l2 (by decide) (Or.inr (q_is_cat f2 (Or.inl rfl)))
  refine go_iload_n (n := 2) (by decide +kernel) l_20 f2 ?_
  refine go_if (c := .lt) (o := 14) (t := 21) (P := p2 < 0) (by decide +kernel) (by decide +kernel) f2 (Iff.rfl) (fun hp_21 => ?_) (fun hp_21 => ?_)
  · have h := it_t hp_21 h
    cases h
    exact go_thr (x := 255) (e := 0) (ic := 259) (b := 0) (by decide +kernel) (by decide +kernel) (by decide +kernel) R_7 rfl fun Sq Rq Eq => hQ (Ext.tr E_16 Eq) _ _ Rq rfl
  · have h := it_f hp_21 h
    refine go_iload_n (n := 2) (by decide +kernel) l_20 f2 ?_
    refine go_aload_n (n := 3) (by decide +kernel) l_18 f_5 ?_
    obtain ⟨g_24, h⟩ := gd_s h
    obtain ⟨x_26, e_27, h⟩ := lx_s h
    refine go_getf (x := 195) (ci := 7) (kf := 16) (fin := 2) (t := 2) (by decide +kernel) (by decide +kernel) (by decide +kernel) R_7 f_5 g_24 fun v_22 f_23 => ?_
    have f_25 := q_is_eq f_23 e_27
    obtain ⟨g_30, h⟩ := gd_s h
    obtain ⟨x_32, e_33, h⟩ := lx_s h
    refine go_getf (x := 199) (ci := 3) (kf := 1) (fin := 0) (t := 0) (by decide +kernel) (by decide +kernel) (by decide +kernel) R_7 f_25 g_30 fun v_28 f_29 => ?_
    have f_31 := q_is_eq f_29 e_33
    refine go_icmp (c := .lt) (o := 14) (t := 32) (P := p2 < x_32) (by decide +kernel) (by decide +kernel) f2 f_31 (Iff.rfl) (fun hp_34 => ?_) (fun hp_34 => ?_)
    · have h := it_t hp_34 h
      refine go_ldc_w (x := 260) (n := 1000000) (a := 0) (b := 0) (z := 1000000) (by decide +kernel) (by decide +kernel) (by decide +kernel) fun v_35 f_36 => ?_
      refine go_aload_n (n := 3) (by decide +kernel) l_18 f_5 ?_
      refine go_getf (x := 195) (ci := 7) (kf := 16) (fin := 2) (t := 2) (by decide +kernel) (by decide +kernel) (by decide +kernel) R_7 f_5 g_24 fun v_37 f_38 => ?_
      have f_39 := q_is_eq f_38 e_27
      refine go_iload_n (n := 2) (by decide +kernel) l_20 f2 ?_
      obtain ⟨x_41, hc_40, h⟩ := bp_s h
      refine go_callV (x := 261) (mi := 9) (n := 1) (ci := 3) (as := [v2]) (rest := [v_35]) (by decide +kernel) (by decide +kernel) rfl rfl (q_sum8 _ (Nat.le_of_ble_eq_true rfl)) R_7 f_39 g_30 (om_X2_kind (Nat.le_trans (by decide) hd) R_7 g_30 f_39 f2 hc_40) (fun _ S_45 q_48 => ?_) (fun _ _ qq => kr_x qq)
      refine kr_z (by decide) q_48 fun v_43 f_44 R_46 E_47 => ?_
      refine go_imul (by decide +kernel) f_36 f_44 fun v_49 f_50 => ?_
      refine go_sipush (n := 1000) (z := 1000) (by decide +kernel) (by decide) fun v_51 f_52 => ?_
      refine go_aload_n (n := 3) (by decide +kernel) l_18 f_5 ?_
      refine go_getf (x := 195) (ci := 7) (kf := 16) (fin := 2) (t := 2) (by decide +kernel) (by decide +kernel) (by decide +kernel) R_46 f_5 g_24 fun v_53 f_54 => ?_
      have f_55 := q_is_eq f_54 e_27
      refine go_iload_n (n := 2) (by decide +kernel) l_20 f2 ?_
      obtain ⟨x_57, hc_56, h⟩ := bp_s h
      refine go_callV (x := 264) (mi := 10) (n := 1) (ci := 3) (as := [v2]) (rest := [v_51, v_49]) (by decide +kernel) (by decide +kernel) rfl rfl (q_sum8 _ (Nat.le_of_ble_eq_true rfl)) R_46 f_55 g_30 (om_X2_x (Nat.le_trans (by decide) hd) R_46 g_30 f_55 f2 hc_56) (fun _ S_61 q_64 => ?_) (fun _ _ qq => kr_x qq)
      refine kr_z (by decide) q_64 fun v_59 f_60 R_62 E_63 => ?_
      refine go_imul (by decide +kernel) f_52 f_60 fun v_65 f_66 => ?_
      refine go_iadd (by decide +kernel) f_50 f_66 fun v_67 f_68 => ?_
      refine go_aload_n (n := 3) (by decide +kernel) l_18 f_5 ?_
      refine go_getf (x := 195) (ci := 7) (kf := 16) (fin := 2) (t := 2) (by decide +kernel) (by decide +kernel) (by decide +kernel) R_62 f_5 g_24 fun v_69 f_70 => ?_
      have f_71 := q_is_eq f_70 e_27
      refine go_iload_n (n := 2) (by decide +kernel) l_20 f2 ?_
      obtain ⟨x_73, hc_72, h⟩ := bp_s h
      refine go_callV (x := 267) (mi := 11) (n := 1) (ci := 3) (as := [v2]) (rest := [v_67]) (by decide +kernel) (by decide +kernel) rfl rfl (q_sum8 _ (Nat.le_of_ble_eq_true rfl)) R_62 f_71 g_30 (om_X2_y (Nat.le_trans (by decide) hd) R_62 g_30 f_71 f2 hc_72) (fun _ S_77 q_80 => ?_) (fun _ _ qq => kr_x qq)
      refine kr_z (by decide) q_80 fun v_75 f_76 R_78 E_79 => ?_
      refine go_iadd (by decide +kernel) f_68 f_76 fun v_81 f_82 => ?_
      cases h
      exact go_iret (by decide +kernel) rfl (Or.inl rfl) f_82 (hQ E_16 _ _ R_78 (q_out_v (by decide) f_82))
    · have h := it_f hp_34 h
      cases h
      exact go_thr (x := 255) (e := 0) (ic := 259) (b := 0) (by decide +kernel) (by decide +kernel) (by decide +kernel) R_7 rfl fun Sq Rq Eq => hQ (Ext.tr E_16 Eq) _ _ Rq rfl
noncomputable def fm_X11_difference (p1 : Int) (m0 : MM) : Option ((Int ⊕ Nat) × MM) := bx (fm_X11_runAt p1 m0) (fun q_10 m_3 => some (.inr q_10, m_3)) fun x_2 m_3 =>
gd (okc m_3 x_2 7) <| lx (m_3 x_2 6) fun x_24 =>
if x_24 = 6 then
lx (m_3 x_2 7) fun x_32 =>
some (.inl x_32, m_3)
else
some (.inr 2, mthr m_3)
set_option maxHeartbeats 4000000 in
theorem om_X11_difference {xs : List Int32} {d : Nat} {S : QS} {m0 : MM} {p1 : Int} {v0 : Value} {v1 : Value} {rr : Int ⊕ Nat} {rm : MM}
  (hd : 5 ≤ d) (R : Rp S m0) (f0 : q_is 2 v0 4) (f1 : q_is 0 v1 p1)
  (h : fm_X11_difference p1 m0 = some (rr, rm)) : Mt xs d 112 [v0, v1] S (Cx 0 m0 rm rr) := by
  obtain ⟨d, rfl⟩ : ∃ e, d = e + 1 := ⟨d - 1, by omega⟩
  have hd : 4 ≤ d := Nat.le_of_succ_le_succ hd
  refine Mt.of (M := qM_X11_difference) rfl (by rw [sl_1 (q_is_cat f0 (Or.inr rfl)), sl_1 (q_is_cat f1 (Or.inl rfl)), sl_0]; decide) ?_
  rw [la_1 (q_is_cat f0 (Or.inr rfl)), la_1 (q_is_cat f1 (Or.inl rfl)), la_0]
  obtain ⟨L, hL⟩ : ∃ L : QL, L = [(0, v0), (0 + 1, v1)] := ⟨_, rfl⟩
  rw [← hL]
  have l0 : q_lo L 0 = some v0 := by rw [hL]; rfl
  have l1 : q_lo L 1 = some v1 := by rw [hL]; rfl
  have hQ : Ext m0 rm → ∀ o S1, Rp S1 rm → q_oux 0 o rr → (Cx 0 m0 rm rr) o S1 := fun a o S1 b e => ⟨b, a, e⟩
  unfold fm_X11_difference at h
  refine go_aload_n (n := 0) (by decide +kernel) l0 f0 ?_
  refine go_iload_n (n := 1) (by decide +kernel) l1 f1 ?_
  obtain ⟨rr5, m_3, hc_1, h⟩ := bx_s h
  rcases h with ⟨q_10, rfl, h⟩ | ⟨x_2, rfl, h⟩
  · cases h
    exact go_callV (x := 185) (mi := 139) (n := 1) (ci := 12) (as := [v1]) (rest := []) (by decide +kernel) (by decide +kernel) rfl rfl (q_sum8 _ (Nat.le_of_ble_eq_true rfl)) R f0 (fx_k (c := 12) R (by decide +kernel)) (om_X11_runAt (Nat.le_trans (by decide) hd) R f0 f1 hc_1) (fun _ _ qq => kx_lx qq) (fun _ _ qq => by
      obtain ⟨rfl, Rq, Eq⟩ := kx_e qq
      exact Or.inl ⟨rfl, hQ Eq _ _ Rq rfl⟩)
  refine go_callV (x := 185) (mi := 139) (n := 1) (ci := 12) (as := [v1]) (rest := []) (by decide +kernel) (by decide +kernel) rfl rfl (q_sum8 _ (Nat.le_of_ble_eq_true rfl)) R f0 (fx_k (c := 12) R (by decide +kernel)) (om_X11_runAt (Nat.le_trans (by decide) hd) R f0 f1 hc_1) (fun _ S_6 q_9 => ?_) (fun _ _ qq => kr_x (kx_l qq))
  have q_9 := kx_l q_9
  refine kr_z (by decide) q_9 fun v_4 f_5 R_7 E_8 => ?_
  have E_16 := E_8
  refine go_astore_n (n := 2) (by decide +kernel) (by decide +kernel) f_5 fun L_17 l_18 kp_19 => ?_
  refine go_aload_n (n := 2) (by decide +kernel) l_18 f_5 ?_
  obtain ⟨g_22, h⟩ := gd_s h
  obtain ⟨x_24, e_25, h⟩ := lx_s h
  refine go_getf (x := 208) (ci := 7) (kf := 6) (fin := 0) (t := 0) (by decide +kernel) (by decide +kernel) (by decide +kernel) R_7 f_5 g_22 fun v_20 f_21 => ?_
  have f_23 := q_is_eq f_21 e_25
  refine go_bipush (n := 6) (z := 6) (by decide +kernel) (by decide) fun v_26 f_27 => ?_
  refine go_icmp (c := .eq) (o := 14) (t := 26) (P := x_24 = 6) (by decide +kernel) (by decide +kernel) f_23 f_27 (Iff.rfl) (fun hp_28 => ?_) (fun hp_28 => ?_)
  · have h := it_t hp_28 h
    refine go_aload_n (n := 2) (by decide +kernel) l_18 f_5 ?_
    obtain ⟨x_32, e_33, h⟩ := lx_s h
    refine go_getf (x := 272) (ci := 7) (kf := 7) (fin := 0) (t := 0) (by decide +kernel) (by decide +kernel) (by decide +kernel) R_7 f_5 g_22 fun v_29 f_30 => ?_
    have f_31 := q_is_eq f_30 e_33
    cases h
    exact go_iret (by decide +kernel) rfl (Or.inl rfl) f_31 (hQ E_16 _ _ R_7 (q_out_v (by decide) f_31))
  · have h := it_f hp_28 h
    cases h
    exact go_thr (x := 111) (e := 2) (ic := 115) (b := 0) (by decide +kernel) (by decide +kernel) (by decide +kernel) R_7 rfl fun Sq Rq Eq => hQ (Ext.tr E_16 Eq) _ _ Rq rfl
noncomputable def fm_X11_runs (m0 : MM) : Option Int := bp (fm_Jx4a65c_size_8abf5 7 m0) fun x_5 =>
some x_5
set_option maxHeartbeats 4000000 in
theorem om_X11_runs {xs : List Int32} {d : Nat} {S : QS} {m0 : MM} {v0 : Value} {rz : Int}
  (hd : 2 ≤ d) (R : Rp S m0) (f0 : q_is 2 v0 4)
  (h : fm_X11_runs m0 = some rz) : Mt xs d 113 [v0] S (Cr 0 m0 m0 rz) := by
  obtain ⟨d, rfl⟩ : ∃ e, d = e + 1 := ⟨d - 1, by omega⟩
  have hd : 1 ≤ d := Nat.le_of_succ_le_succ hd
  refine Mt.of (M := qM_X11_runs) rfl (by rw [sl_1 (q_is_cat f0 (Or.inr rfl)), sl_0]; decide) ?_
  rw [la_1 (q_is_cat f0 (Or.inr rfl)), la_0]
  obtain ⟨L, hL⟩ : ∃ L : QL, L = [(0, v0)] := ⟨_, rfl⟩
  rw [← hL]
  have l0 : q_lo L 0 = some v0 := by rw [hL]; rfl
  have hQ : ∀ o S1, Rp S1 m0 → q_out 0 o rz → (Cr 0 m0 m0 rz) o S1 := fun o S1 a b => ⟨a, Ext.rf _, b⟩
  unfold fm_X11_runs at h
  refine go_aload_n (n := 0) (by decide +kernel) l0 f0 ?_
  refine go_getf (x := 24) (ci := 12) (kf := 2) (fin := 1) (t := 2) (by decide +kernel) (by decide +kernel) (by decide +kernel) R f0 (fx_k (c := 12) R (by decide +kernel)) fun v_1 f_2 => ?_
  have f_3 := q_is_eq (b := 7) f_2 (fx_v R (by decide +kernel)).symm
  obtain ⟨x_5, hc_4, h⟩ := bp_s h
  refine go_callV (x := 127) (mi := 326) (n := 0) (ci := 0) (as := []) (rest := []) (by decide +kernel) (by decide +kernel) rfl rfl (q_sum8 _ (Nat.le_of_ble_eq_true rfl)) R f_3 (fx_k (c := 0) R (by decide +kernel)) (om_Jx4a65c_size_8abf5 (Nat.le_trans (by decide) hd) R (fx_k (c := 0) R (by decide +kernel)) f_3 hc_4) (fun _ S_9 q_12 => ?_) (fun _ _ qq => kr_x qq)
  refine kr_z (by decide) q_12 fun v_7 f_8 R_10 E_11 => ?_
  cases h
  exact go_iret (by decide +kernel) rfl (Or.inl rfl) f_8 (hQ _ _ R_10 (q_out_v (by decide) f_8))
noncomputable def fm_X11_setRate (p1 : Int) (m0 : MM) : Option ((Int ⊕ Nat) × MM) := if p1 < 1 then
some (.inr 1, mthr m0)
else
if 10 < p1 then
some (.inr 1, mthr m0)
else
lx (m0 4 13) fun x_10 =>
up m0 4 13 p1 fun m_17 =>
some (.inl x_10, m_17)
set_option maxHeartbeats 4000000 in
theorem om_X11_setRate {xs : List Int32} {d : Nat} {S : QS} {m0 : MM} {p1 : Int} {v0 : Value} {v1 : Value} {rr : Int ⊕ Nat} {rm : MM}
  (hd : 1 ≤ d) (R : Rp S m0) (f0 : q_is 2 v0 4) (f1 : q_is 0 v1 p1)
  (h : fm_X11_setRate p1 m0 = some (rr, rm)) : Mt xs d 114 [v0, v1] S (Cx 0 m0 rm rr) := by
  obtain ⟨d, rfl⟩ : ∃ e, d = e + 1 := ⟨d - 1, by omega⟩
  have hd : 0 ≤ d := Nat.le_of_succ_le_succ hd
  refine Mt.of (M := qM_X11_setRate) rfl (by rw [sl_1 (q_is_cat f0 (Or.inr rfl)), sl_1 (q_is_cat f1 (Or.inl rfl)), sl_0]; decide) ?_
  rw [la_1 (q_is_cat f0 (Or.inr rfl)), la_1 (q_is_cat f1 (Or.inl rfl)), la_0]
  obtain ⟨L, hL⟩ : ∃ L : QL, L = [(0, v0), (0 + 1, v1)] := ⟨_, rfl⟩
  rw [← hL]
  have l0 : q_lo L 0 = some v0 := by rw [hL]; rfl
  have l1 : q_lo L 1 = some v1 := by rw [hL]; rfl
  have hQ : Ext m0 rm → ∀ o S1, Rp S1 rm → q_oux 0 o rr → (Cx 0 m0 rm rr) o S1 := fun a o S1 b e => ⟨b, a, e⟩
  unfold fm_X11_setRate at h
  refine go_iload_n (n := 1) (by decide +kernel) l1 f1 ?_
  refine go_iconst (n := 1) (z := 1) (by decide +kernel) (by decide) fun v_1 f_2 => ?_
  refine go_icmp (c := .lt) (o := 9) (t := 11) (P := p1 < 1) (by decide +kernel) (by decide +kernel) f1 f_2 (Iff.rfl) (fun hp_3 => ?_) (fun hp_3 => ?_)
  · have h := it_t hp_3 h
    cases h
    exact go_thr (x := 96) (e := 1) (ic := 100) (b := 0) (by decide +kernel) (by decide +kernel) (by decide +kernel) R rfl fun Sq Rq Eq => hQ Eq _ _ Rq rfl
  · have h := it_f hp_3 h
    refine go_iload_n (n := 1) (by decide +kernel) l1 f1 ?_
    refine go_bipush (n := 10) (z := 10) (by decide +kernel) (by decide) fun v_4 f_5 => ?_
    refine go_icmp (c := .le) (o := 14) (t := 22) (P := ¬ (10 < p1)) (by decide +kernel) (by decide +kernel) f1 f_5 (Int.not_lt.symm) (fun hp_6 => ?_) (fun hp_6 => ?_)
    · have h := it_f hp_6 h
      refine go_aload_n (n := 0) (by decide +kernel) l0 f0 ?_
      obtain ⟨x_10, e_11, h⟩ := lx_s h
      refine go_getf (x := 68) (ci := 12) (kf := 13) (fin := 0) (t := 0) (by decide +kernel) (by decide +kernel) (by decide +kernel) R f0 (fx_k (c := 12) R (by decide +kernel)) fun v_7 f_8 => ?_
      have f_9 := q_is_eq f_8 e_11
      refine go_istore_n (n := 2) (by decide +kernel) (by decide +kernel) f_9 fun L_12 l_13 kp_14 => ?_
      have l_15 := kp_14 0 _ l0 (by decide) (Or.inl (by decide))
      have l_16 := kp_14 1 _ l1 (by decide) (Or.inr (q_is_cat f1 (Or.inl rfl)))
      refine go_aload_n (n := 0) (by decide +kernel) l_15 f0 ?_
      refine go_iload_n (n := 1) (by decide +kernel) l_16 f1 ?_
      obtain ⟨m_17, e_18, h⟩ := up_s h
      refine go_putf (x := 68) (ci := 12) (kf := 13) (fin := 0) (zt := 0) (by decide +kernel) (by decide +kernel) (by decide) (by decide +kernel) (by decide) (Or.inl rfl) R f0 f1 (fun hq => absurd hq (by decide)) (fx_k (c := 12) R (by decide +kernel)) e_18 (fx_f (j := 13) R.2 (fx_k (c := 12) R (by decide +kernel)) (by decide +kernel)) fun S_19 R_20 E_21 => ?_
      have E_23 := E_21
      refine go_iload_n (n := 2) (by decide +kernel) l_13 f_9 ?_
      cases h
      exact go_iret (by decide +kernel) rfl (Or.inl rfl) f_9 (hQ E_23 _ _ R_20 (q_out_v (by decide) f_9))
    · have h := it_n hp_6 h
      cases h
      exact go_thr (x := 96) (e := 1) (ic := 100) (b := 0) (by decide +kernel) (by decide +kernel) (by decide +kernel) R rfl fun Sq Rq Eq => hQ Eq _ _ Rq rfl
noncomputable def fm_X11_checkWorker (p1 : Int) (m0 : MM) : Option ((Int ⊕ Nat) × MM) := if p1 < 0 then
some (.inr 0, mthr m0)
else
if p1 < 3 then
some (.inl 0, m0)
else
some (.inr 0, mthr m0)
set_option maxHeartbeats 4000000 in
theorem om_X11_checkWorker {xs : List Int32} {d : Nat} {S : QS} {m0 : MM} {p1 : Int} {v0 : Value} {v1 : Value} {rr : Int ⊕ Nat} {rm : MM}
  (hd : 1 ≤ d) (R : Rp S m0) (f0 : q_is 2 v0 4) (f1 : q_is 0 v1 p1)
  (h : fm_X11_checkWorker p1 m0 = some (rr, rm)) : Mt xs d 144 [v0, v1] S (Cx 9 m0 rm rr) := by
  obtain ⟨d, rfl⟩ : ∃ e, d = e + 1 := ⟨d - 1, by omega⟩
  have hd : 0 ≤ d := Nat.le_of_succ_le_succ hd
  refine Mt.of (M := qM_X11_checkWorker) rfl (by rw [sl_1 (q_is_cat f0 (Or.inr rfl)), sl_1 (q_is_cat f1 (Or.inl rfl)), sl_0]; decide) ?_
  rw [la_1 (q_is_cat f0 (Or.inr rfl)), la_1 (q_is_cat f1 (Or.inl rfl)), la_0]
  obtain ⟨L, hL⟩ : ∃ L : QL, L = [(0, v0), (0 + 1, v1)] := ⟨_, rfl⟩
  rw [← hL]
  have l0 : q_lo L 0 = some v0 := by rw [hL]; rfl
  have l1 : q_lo L 1 = some v1 := by rw [hL]; rfl
  have hQ : Ext m0 rm → ∀ o S1, Rp S1 rm → q_oux 9 o rr → (Cx 9 m0 rm rr) o S1 := fun a o S1 b e => ⟨b, a, e⟩
  unfold fm_X11_checkWorker at h
  refine go_iload_n (n := 1) (by decide +kernel) l1 f1 ?_
  refine go_if (c := .lt) (o := 12) (t := 13) (P := p1 < 0) (by decide +kernel) (by decide +kernel) f1 (Iff.rfl) (fun hp_1 => ?_) (fun hp_1 => ?_)
  · have h := it_t hp_1 h
    cases h
    exact go_thr (x := 255) (e := 0) (ic := 259) (b := 0) (by decide +kernel) (by decide +kernel) (by decide +kernel) R rfl fun Sq Rq Eq => hQ Eq _ _ Rq rfl
  · have h := it_f hp_1 h
    refine go_iload_n (n := 1) (by decide +kernel) l1 f1 ?_
    refine go_aload_n (n := 0) (by decide +kernel) l0 f0 ?_
    refine go_getf (x := 37) (ci := 12) (kf := 6) (fin := 1) (t := 2) (by decide +kernel) (by decide +kernel) (by decide +kernel) R f0 (fx_k (c := 12) R (by decide +kernel)) fun v_2 f_3 => ?_
    have f_4 := q_is_eq (b := 11) f_3 (fx_v R (by decide +kernel)).symm
    refine go_alen (by decide +kernel) R f_4 (okl_of (fx_k (c := 100) R (by decide +kernel)) (by decide)) fun v_5 f_6 => ?_
    have f_7 := q_is_eq (b := 3) f_6 (by rw [fx_l R (ln := 3) (by decide +kernel)]; decide)
    refine go_icmp (c := .lt) (o := 14) (t := 24) (P := p1 < 3) (by decide +kernel) (by decide +kernel) f1 f_7 (Iff.rfl) (fun hp_8 => ?_) (fun hp_8 => ?_)
    · have h := it_t hp_8 h
      cases h
      exact go_vret (by decide +kernel) rfl (hQ (Ext.rf _) _ _ R q_out_n)
    · have h := it_f hp_8 h
      cases h
      exact go_thr (x := 255) (e := 0) (ic := 259) (b := 0) (by decide +kernel) (by decide +kernel) (by decide +kernel) R rfl fun Sq Rq Eq => hQ Eq _ _ Rq rfl
noncomputable def fm_X11_isHeld (p1 : Int) (m0 : MM) : Option Int := gd (okc m0 p1 7) <| lx (m0 p1 10) fun x_5 =>
if x_5 < 0 then
some 0
else
bp (fm_Jx4a65c_size_8abf5 9 m0) fun x_17 =>
if x_5 < x_17 then
bp (fm_Jx4a65c_get_915e3 9 x_5 m0) fun x_33 =>
gd (okc m0 x_33 10) <| lx (m0 x_33 5) fun x_49 =>
if x_49 = 0 then
lx (m0 4 14) fun x_57 =>
lx (m0 x_33 2) fun x_62 =>
if w32 (x_57 - x_62) < 5 then
some 1
else
some 0
else
some 0
else
some 0
set_option maxHeartbeats 4000000 in
theorem om_X11_isHeld {xs : List Int32} {d : Nat} {S : QS} {m0 : MM} {p1 : Int} {v0 : Value} {v1 : Value} {rz : Int}
  (hd : 4 ≤ d) (R : Rp S m0) (f0 : q_is 2 v0 4) (f1 : q_is 2 v1 p1)
  (h : fm_X11_isHeld p1 m0 = some rz) : Mt xs d 160 [v0, v1] S (Cr 0 m0 m0 rz) := by
  obtain ⟨d, rfl⟩ : ∃ e, d = e + 1 := ⟨d - 1, by omega⟩
  have hd : 3 ≤ d := Nat.le_of_succ_le_succ hd
  refine Mt.of (M := qM_X11_isHeld) rfl (by rw [sl_1 (q_is_cat f0 (Or.inr rfl)), sl_1 (q_is_cat f1 (Or.inr rfl)), sl_0]; decide) ?_
  rw [la_1 (q_is_cat f0 (Or.inr rfl)), la_1 (q_is_cat f1 (Or.inr rfl)), la_0]
  obtain ⟨L, hL⟩ : ∃ L : QL, L = [(0, v0), (0 + 1, v1)] := ⟨_, rfl⟩
  rw [← hL]
  have l0 : q_lo L 0 = some v0 := by rw [hL]; rfl
  have l1 : q_lo L 1 = some v1 := by rw [hL]; rfl
  have hQ : ∀ o S1, Rp S1 m0 → q_out 0 o rz → (Cr 0 m0 m0 rz) o S1 := fun o S1 a b => ⟨a, Ext.rf _, b⟩
  unfold fm_X11_isHeld at h
  refine go_aload_n (n := 1) (by decide +kernel) l1 f1 ?_
  obtain ⟨g_3, h⟩ := gd_s h
  obtain ⟨x_5, e_6, h⟩ := lx_s h
  refine go_getf (x := 297) (ci := 7) (kf := 10) (fin := 0) (t := 0) (by decide +kernel) (by decide +kernel) (by decide +kernel) R f1 g_3 fun v_1 f_2 => ?_
  have f_4 := q_is_eq f_2 e_6
  refine go_if (c := .lt) (o := 17) (t := 21) (P := x_5 < 0) (by decide +kernel) (by decide +kernel) f_4 (Iff.rfl) (fun hp_7 => ?_) (fun hp_7 => ?_)
  · have h := it_t hp_7 h
    refine go_iconst (n := 0) (z := 0) (by decide +kernel) (by decide) fun v_8 f_9 => ?_
    cases h
    exact go_iret (by decide +kernel) rfl (Or.inr ⟨rfl, by decide⟩) f_9 (hQ _ _ R (q_out_v (by decide) f_9))
  · have h := it_f hp_7 h
    refine go_aload_n (n := 1) (by decide +kernel) l1 f1 ?_
    refine go_getf (x := 297) (ci := 7) (kf := 10) (fin := 0) (t := 0) (by decide +kernel) (by decide +kernel) (by decide +kernel) R f1 g_3 fun v_10 f_11 => ?_
    have f_12 := q_is_eq f_11 e_6
    refine go_aload_n (n := 0) (by decide +kernel) l0 f0 ?_
    refine go_getf (x := 31) (ci := 12) (kf := 4) (fin := 1) (t := 2) (by decide +kernel) (by decide +kernel) (by decide +kernel) R f0 (fx_k (c := 12) R (by decide +kernel)) fun v_13 f_14 => ?_
    have f_15 := q_is_eq (b := 9) f_14 (fx_v R (by decide +kernel)).symm
    obtain ⟨x_17, hc_16, h⟩ := bp_s h
    refine go_callV (x := 127) (mi := 326) (n := 0) (ci := 0) (as := []) (rest := [v_10]) (by decide +kernel) (by decide +kernel) rfl rfl (q_sum8 _ (Nat.le_of_ble_eq_true rfl)) R f_15 (fx_k (c := 0) R (by decide +kernel)) (om_Jx4a65c_size_8abf5 (Nat.le_trans (by decide) hd) R (fx_k (c := 0) R (by decide +kernel)) f_15 hc_16) (fun _ S_21 q_24 => ?_) (fun _ _ qq => kr_x qq)
    refine kr_z (by decide) q_24 fun v_19 f_20 R_22 E_23 => ?_
    refine go_icmp (c := .lt) (o := 5) (t := 23) (P := x_5 < x_17) (by decide +kernel) (by decide +kernel) f_12 f_20 (Iff.rfl) (fun hp_25 => ?_) (fun hp_25 => ?_)
    · have h := it_t hp_25 h
      refine go_aload_n (n := 0) (by decide +kernel) l0 f0 ?_
      refine go_getf (x := 31) (ci := 12) (kf := 4) (fin := 1) (t := 2) (by decide +kernel) (by decide +kernel) (by decide +kernel) R_22 f0 (fx_k (c := 12) R_22 (by decide +kernel)) fun v_26 f_27 => ?_
      have f_28 := q_is_eq (b := 9) f_27 (fx_v R_22 (by decide +kernel)).symm
      refine go_aload_n (n := 1) (by decide +kernel) l1 f1 ?_
      refine go_getf (x := 297) (ci := 7) (kf := 10) (fin := 0) (t := 0) (by decide +kernel) (by decide +kernel) (by decide +kernel) R_22 f1 g_3 fun v_29 f_30 => ?_
      have f_31 := q_is_eq f_30 e_6
      obtain ⟨x_33, hc_32, h⟩ := bp_s h
      refine go_callV (x := 305) (mi := 329) (n := 1) (ci := 0) (as := [v_29]) (rest := []) (by decide +kernel) (by decide +kernel) rfl rfl (q_sum8 _ (Nat.le_of_ble_eq_true rfl)) R_22 f_28 (fx_k (c := 0) R_22 (by decide +kernel)) (om_Jx4a65c_get_915e3 (Nat.le_trans (by decide) hd) R_22 (fx_k (c := 0) R_22 (by decide +kernel)) f_28 f_31 hc_32) (fun _ S_37 q_40 => ?_) (fun _ _ qq => kr_x qq)
      refine kr_z (by decide) q_40 fun v_35 f_36 R_38 E_39 => ?_
      obtain ⟨g_41, h⟩ := gd_s h
      refine go_cast (x := 292) (kd := 10) (a := 0) (b := 0) (by decide +kernel) (by decide +kernel) R_38 f_36 g_41 ?_
      refine go_astore_n (n := 2) (by decide +kernel) (by decide +kernel) f_36 fun L_42 l_43 kp_44 => ?_
      have l_45 := kp_44 0 _ l0 (by decide) (Or.inl (by decide))
      refine go_aload_n (n := 2) (by decide +kernel) l_43 f_36 ?_
      obtain ⟨x_49, e_50, h⟩ := lx_s h
      refine go_getf (x := 317) (ci := 10) (kf := 5) (fin := 0) (t := 0) (by decide +kernel) (by decide +kernel) (by decide +kernel) R_38 f_36 g_41 fun v_46 f_47 => ?_
      have f_48 := q_is_eq f_47 e_50
      refine go_if (c := .ne) (o := 20) (t := 62) (P := ¬ (x_49 = 0)) (by decide +kernel) (by decide +kernel) f_48 (Iff.rfl) (fun hp_51 => ?_) (fun hp_51 => ?_)
      · have h := it_f hp_51 h
        refine go_iconst (n := 0) (z := 0) (by decide +kernel) (by decide) fun v_52 f_53 => ?_
        cases h
        exact go_iret (by decide +kernel) rfl (Or.inr ⟨rfl, by decide⟩) f_53 (hQ _ _ R_38 (q_out_v (by decide) f_53))
      · have h := it_n hp_51 h
        refine go_aload_n (n := 0) (by decide +kernel) l_45 f0 ?_
        obtain ⟨x_57, e_58, h⟩ := lx_s h
        refine go_getf (x := 71) (ci := 12) (kf := 14) (fin := 0) (t := 0) (by decide +kernel) (by decide +kernel) (by decide +kernel) R_38 f0 (fx_k (c := 12) R_38 (by decide +kernel)) fun v_54 f_55 => ?_
        have f_56 := q_is_eq f_55 e_58
        refine go_aload_n (n := 2) (by decide +kernel) l_43 f_36 ?_
        obtain ⟨x_62, e_63, h⟩ := lx_s h
        refine go_getf (x := 565) (ci := 10) (kf := 2) (fin := 2) (t := 0) (by decide +kernel) (by decide +kernel) (by decide +kernel) R_38 f_36 g_41 fun v_59 f_60 => ?_
        have f_61 := q_is_eq f_60 e_63
        refine go_isub (by decide +kernel) f_56 f_61 fun v_64 f_65 => ?_
        refine go_iconst (n := 5) (z := 5) (by decide +kernel) (by decide) fun v_66 f_67 => ?_
        refine go_icmp (c := .ge) (o := 7) (t := 62) (P := ¬ (w32 (x_57 - x_62) < 5)) (by decide +kernel) (by decide +kernel) f_65 f_67 (Int.not_lt.symm) (fun hp_68 => ?_) (fun hp_68 => ?_)
        · have h := it_f hp_68 h
          refine go_iconst (n := 0) (z := 0) (by decide +kernel) (by decide) fun v_69 f_70 => ?_
          cases h
          exact go_iret (by decide +kernel) rfl (Or.inr ⟨rfl, by decide⟩) f_70 (hQ _ _ R_38 (q_out_v (by decide) f_70))
        · have h := it_n hp_68 h
          refine go_iconst (n := 1) (z := 1) (by decide +kernel) (by decide) fun v_71 f_72 => ?_
          refine go_goto (o := 4) (t := 63) (by decide +kernel) (by decide +kernel) ?_
          cases h
          exact go_iret (by decide +kernel) rfl (Or.inr ⟨rfl, by decide⟩) f_72 (hQ _ _ R_38 (q_out_v (by decide) f_72))
    · have h := it_f hp_25 h
      refine go_iconst (n := 0) (z := 0) (by decide +kernel) (by decide) fun v_73 f_74 => ?_
      cases h
      exact go_iret (by decide +kernel) rfl (Or.inr ⟨rfl, by decide⟩) f_74 (hQ _ _ R_22 (q_out_v (by decide) f_74))
noncomputable def fl_X11_firstRunWithWork_4 (y1 : Int) (m0 : MM) : Nat → Int → Int → Option Int
  | 0, _, _ => none
  | n + 1, y2, y3 => bp (fm_Jx4a65c_size_8abf5 7 m0) fun x_20 =>
if y3 < x_20 then
bp (fm_Jx4a65c_get_915e3 7 y3 m0) fun x_33 =>
gd (okc m0 x_33 7) <| lx (m0 x_33 2) fun x_52 =>
if x_52 = y1 then
bp (fm_X6_hasWork x_33 m0) fun x_67 =>
if x_67 = 0 then
lx (w32 (y3 + 1)) fun x_81 =>
fl_X11_firstRunWithWork_4 y1 m0 n y2 x_81
else
bp (fm_X11_isHeld x_33 m0) fun x_88 =>
if x_88 = 0 then
if y2 = 0 then
lx (w32 (y3 + 1)) fun x_120 =>
fl_X11_firstRunWithWork_4 y1 m0 n x_33 x_120
else
bp (fm_X6_firstOrder x_33 m0) fun x_127 =>
gd (okc m0 y2 7) <| bp (fm_X6_firstOrder y2 m0) fun x_137 =>
if x_127 < x_137 then
lx (w32 (y3 + 1)) fun x_168 =>
fl_X11_firstRunWithWork_4 y1 m0 n x_33 x_168
else
lx (w32 (y3 + 1)) fun x_151 =>
fl_X11_firstRunWithWork_4 y1 m0 n y2 x_151
else
lx (w32 (y3 + 1)) fun x_102 =>
fl_X11_firstRunWithWork_4 y1 m0 n y2 x_102
else
lx (w32 (y3 + 1)) fun x_60 =>
fl_X11_firstRunWithWork_4 y1 m0 n y2 x_60
else
some y2
set_option maxHeartbeats 4000000 in
theorem ol_X11_firstRunWithWork_4 {xs : List Int32} {d : Nat} {Q : QO → QS → Prop} {m0 : MM} {y1 : Int} {rz : Int}
  (hd : 4 ≤ d)
  (hQ : ∀ o S1, Rp S1 m0 → q_out 2 o rz → Q o S1) :
  ∀ (n : Nat) {S : QS} {L : QL} {y2 y3 : Int} {v0 : Value} {v1 : Value} {v2 : Value} {v3 : Value} , fl_X11_firstRunWithWork_4 y1 m0 n y2 y3 = some rz → Rp S m0 → q_lo L 0 = some v0 → q_is 2 v0 4 → q_lo L 1 = some v1 → q_is 0 v1 y1 → q_lo L 2 = some v2 → q_is 2 v2 y2 → q_lo L 3 = some v3 → q_is 0 v3 y3 → Go xs d qM_X11_firstRunWithWork 4 L [] S Q := by
  intro n
  induction n with
  | zero => intro S L y2 y3 v0 v1 v2 v3; intro h R l0 f0 l1 f1 l2 f2 l3 f3; cases h
  | succ n ih0 =>
    intro S L y2 y3 v0 v1 v2 v3; intro h R l0 f0 l1 f1 l2 f2 l3 f3
    have ih : ∀ {z2 : Int} {z3 : Int} {Sq : QS} {Lq : QL} {u0 : Value} {u1 : Value} {u2 : Value} {u3 : Value}, fl_X11_firstRunWithWork_4 y1 m0 n z2 z3 = some rz → Rp Sq m0 → q_lo Lq 0 = some u0 → q_is 2 u0 4 → q_lo Lq 1 = some u1 → q_is 0 u1 y1 → q_lo Lq 2 = some u2 → q_is 2 u2 z2 → q_lo Lq 3 = some u3 → q_is 0 u3 z3 → Go xs d qM_X11_firstRunWithWork 4 Lq [] Sq Q := by intros; exact ih0 ‹_› ‹_› ‹_› ‹_› ‹_› ‹_› ‹_› ‹_› ‹_› ‹_›
    unfold fl_X11_firstRunWithWork_4 at h
    refine go_iload_n (n := 3) (by decide +kernel) l3 f3 ?_
    refine go_aload_n (n := 0) (by decide +kernel) l0 f0 ?_
    refine go_getf (x := 24) (ci := 12) (kf := 2) (fin := 1) (t := 2) (by decide +kernel) (by decide +kernel) (by decide +kernel) R f0 (fx_k (c := 12) R (by decide +kernel)) fun v_16 f_17 => ?_
    have f_18 := q_is_eq (b := 7) f_17 (fx_v R (by decide +kernel)).symm
    obtain ⟨x_20, hc_19, h⟩ := bp_s h
    refine go_callV (x := 127) (mi := 326) (n := 0) (ci := 0) (as := []) (rest := [v3]) (by decide +kernel) (by decide +kernel) rfl rfl (q_sum8 _ (Nat.le_of_ble_eq_true rfl)) R f_18 (fx_k (c := 0) R (by decide +kernel)) (om_Jx4a65c_size_8abf5 (Nat.le_trans (by decide) hd) R (fx_k (c := 0) R (by decide +kernel)) f_18 hc_19) (fun _ S_24 q_27 => ?_) (fun _ _ qq => kr_x qq)
    refine kr_z (by decide) q_27 fun v_22 f_23 R_25 E_26 => ?_
    refine go_icmp (c := .ge) (o := 67) (t := 79) (P := ¬ (y3 < x_20)) (by decide +kernel) (by decide +kernel) f3 f_23 (Int.not_lt.symm) (fun hp_28 => ?_) (fun hp_28 => ?_)
    · have h := it_f hp_28 h
      refine go_aload_n (n := 2) (by decide +kernel) l2 f2 ?_
      cases h
      exact go_aret (by decide +kernel) rfl rfl f2 (hQ _ _ R_25 (q_out_v (by decide) f2))
    · have h := it_n hp_28 h
      refine go_aload_n (n := 0) (by decide +kernel) l0 f0 ?_
      refine go_getf (x := 24) (ci := 12) (kf := 2) (fin := 1) (t := 2) (by decide +kernel) (by decide +kernel) (by decide +kernel) R_25 f0 (fx_k (c := 12) R_25 (by decide +kernel)) fun v_29 f_30 => ?_
      have f_31 := q_is_eq (b := 7) f_30 (fx_v R_25 (by decide +kernel)).symm
      refine go_iload_n (n := 3) (by decide +kernel) l3 f3 ?_
      obtain ⟨x_33, hc_32, h⟩ := bp_s h
      refine go_callV (x := 305) (mi := 329) (n := 1) (ci := 0) (as := [v3]) (rest := []) (by decide +kernel) (by decide +kernel) rfl rfl (q_sum8 _ (Nat.le_of_ble_eq_true rfl)) R_25 f_31 (fx_k (c := 0) R_25 (by decide +kernel)) (om_Jx4a65c_get_915e3 (Nat.le_trans (by decide) hd) R_25 (fx_k (c := 0) R_25 (by decide +kernel)) f_31 f3 hc_32) (fun _ S_37 q_40 => ?_) (fun _ _ qq => kr_x qq)
      refine kr_z (by decide) q_40 fun v_35 f_36 R_38 E_39 => ?_
      obtain ⟨g_41, h⟩ := gd_s h
      refine go_cast (x := 181) (kd := 7) (a := 0) (b := 0) (by decide +kernel) (by decide +kernel) R_38 f_36 g_41 ?_
      refine go_astore (n := 4) (by decide +kernel) (by decide +kernel) f_36 fun L_42 l_43 kp_44 => ?_
      have l_45 := kp_44 0 _ l0 (by decide) (Or.inl (by decide))
      have l_46 := kp_44 1 _ l1 (by decide) (Or.inl (by decide))
      have l_47 := kp_44 2 _ l2 (by decide) (Or.inl (by decide))
      have l_48 := kp_44 3 _ l3 (by decide) (Or.inr (q_is_cat f3 (Or.inl rfl)))
      refine go_aload (n := 4) (by decide +kernel) l_43 f_36 ?_
      obtain ⟨x_52, e_53, h⟩ := lx_s h
      refine go_getf (x := 283) (ci := 7) (kf := 2) (fin := 2) (t := 0) (by decide +kernel) (by decide +kernel) (by decide +kernel) R_38 f_36 g_41 fun v_49 f_50 => ?_
      have f_51 := q_is_eq f_50 e_53
      refine go_iload_n (n := 1) (by decide +kernel) l_46 f1 ?_
      refine go_icmp (c := .ne) (o := 39) (t := 73) (P := ¬ (x_52 = y1)) (by decide +kernel) (by decide +kernel) f_51 f1 (Iff.rfl) (fun hp_54 => ?_) (fun hp_54 => ?_)
      · have h := it_f hp_54 h
        refine go_iinc (n := 3) (c := 1) (c' := 1) (by decide +kernel) (by decide +kernel) l_48 f3 (by decide) fun L_55 v_56 f_57 l_58 kp_59 => ?_
        obtain ⟨x_60, e_61, h⟩ := lx_s h
        have f_62 := q_is_eq f_57 e_61
        have l_63 := kp_59 0 _ l_45 (by decide) (Or.inl (by decide))
        have l_64 := kp_59 1 _ l_46 (by decide) (Or.inl (by decide))
        have l_65 := kp_59 2 _ l_47 (by decide) (Or.inr (q_is_cat f2 (Or.inr rfl)))
        refine go_goto (o := (-72)) (t := 4) (by decide +kernel) (by decide +kernel) ?_
        exact ih h R_38 l_63 f0 l_64 f1 l_65 f2 l_58 f_62
      · have h := it_n hp_54 h
        refine go_aload (n := 4) (by decide +kernel) l_43 f_36 ?_
        obtain ⟨x_67, hc_66, h⟩ := bp_s h
        refine go_callV (x := 556) (mi := 67) (n := 0) (ci := 7) (as := []) (rest := []) (by decide +kernel) (by decide +kernel) rfl rfl (q_sum8 _ (Nat.le_of_ble_eq_true rfl)) R_38 f_36 g_41 (om_X6_hasWork (Nat.le_trans (by decide) hd) R_38 g_41 f_36 hc_66) (fun _ S_71 q_74 => ?_) (fun _ _ qq => kr_x qq)
        refine kr_z (by decide) q_74 fun v_69 f_70 R_72 E_73 => ?_
        refine go_if (c := .eq) (o := 31) (t := 73) (P := x_67 = 0) (by decide +kernel) (by decide +kernel) f_70 (Iff.rfl) (fun hp_75 => ?_) (fun hp_75 => ?_)
        · have h := it_t hp_75 h
          refine go_iinc (n := 3) (c := 1) (c' := 1) (by decide +kernel) (by decide +kernel) l_48 f3 (by decide) fun L_76 v_77 f_78 l_79 kp_80 => ?_
          obtain ⟨x_81, e_82, h⟩ := lx_s h
          have f_83 := q_is_eq f_78 e_82
          have l_84 := kp_80 0 _ l_45 (by decide) (Or.inl (by decide))
          have l_85 := kp_80 1 _ l_46 (by decide) (Or.inl (by decide))
          have l_86 := kp_80 2 _ l_47 (by decide) (Or.inr (q_is_cat f2 (Or.inr rfl)))
          refine go_goto (o := (-72)) (t := 4) (by decide +kernel) (by decide +kernel) ?_
          exact ih h R_72 l_84 f0 l_85 f1 l_86 f2 l_79 f_83
        · have h := it_f hp_75 h
          refine go_aload_n (n := 0) (by decide +kernel) l_45 f0 ?_
          refine go_aload (n := 4) (by decide +kernel) l_43 f_36 ?_
          obtain ⟨x_88, hc_87, h⟩ := bp_s h
          refine go_callV (x := 559) (mi := 160) (n := 1) (ci := 12) (as := [v_35]) (rest := []) (by decide +kernel) (by decide +kernel) rfl rfl (q_sum8 _ (Nat.le_of_ble_eq_true rfl)) R_72 f0 (fx_k (c := 12) R_72 (by decide +kernel)) (om_X11_isHeld (Nat.le_trans (by decide) hd) R_72 f0 f_36 hc_87) (fun _ S_92 q_95 => ?_) (fun _ _ qq => kr_x qq)
          refine kr_z (by decide) q_95 fun v_90 f_91 R_93 E_94 => ?_
          refine go_if (c := .ne) (o := 22) (t := 73) (P := ¬ (x_88 = 0)) (by decide +kernel) (by decide +kernel) f_91 (Iff.rfl) (fun hp_96 => ?_) (fun hp_96 => ?_)
          · have h := it_f hp_96 h
            refine go_iinc (n := 3) (c := 1) (c' := 1) (by decide +kernel) (by decide +kernel) l_48 f3 (by decide) fun L_97 v_98 f_99 l_100 kp_101 => ?_
            obtain ⟨x_102, e_103, h⟩ := lx_s h
            have f_104 := q_is_eq f_99 e_103
            have l_105 := kp_101 0 _ l_45 (by decide) (Or.inl (by decide))
            have l_106 := kp_101 1 _ l_46 (by decide) (Or.inl (by decide))
            have l_107 := kp_101 2 _ l_47 (by decide) (Or.inr (q_is_cat f2 (Or.inr rfl)))
            refine go_goto (o := (-72)) (t := 4) (by decide +kernel) (by decide +kernel) ?_
            exact ih h R_93 l_105 f0 l_106 f1 l_107 f2 l_100 f_104
          · have h := it_n hp_96 h
            refine go_aload_n (n := 2) (by decide +kernel) l_47 f2 ?_
            refine go_ifnull (o := 15) (t := 70) (by decide +kernel) (by decide +kernel) f2 (fun hp_108 => ?_) (fun hp_108 => ?_)
            · have h := it_t hp_108 h
              refine go_aload (n := 4) (by decide +kernel) l_43 f_36 ?_
              refine go_astore_n (n := 2) (by decide +kernel) (by decide +kernel) f_36 fun L_109 l_110 kp_111 => ?_
              have l_112 := kp_111 0 _ l_45 (by decide) (Or.inl (by decide))
              have l_113 := kp_111 1 _ l_46 (by decide) (Or.inr (q_is_cat f1 (Or.inl rfl)))
              have l_114 := kp_111 3 _ l_48 (by decide) (Or.inl (by decide))
              refine go_iinc (n := 3) (c := 1) (c' := 1) (by decide +kernel) (by decide +kernel) l_114 f3 (by decide) fun L_115 v_116 f_117 l_118 kp_119 => ?_
              obtain ⟨x_120, e_121, h⟩ := lx_s h
              have f_122 := q_is_eq f_117 e_121
              have l_123 := kp_119 0 _ l_112 (by decide) (Or.inl (by decide))
              have l_124 := kp_119 1 _ l_113 (by decide) (Or.inl (by decide))
              have l_125 := kp_119 2 _ l_110 (by decide) (Or.inr (q_is_cat f_36 (Or.inr rfl)))
              refine go_goto (o := (-72)) (t := 4) (by decide +kernel) (by decide +kernel) ?_
              exact ih h R_93 l_123 f0 l_124 f1 l_125 f_36 l_118 f_122
            · have h := it_f hp_108 h
              refine go_aload (n := 4) (by decide +kernel) l_43 f_36 ?_
              obtain ⟨x_127, hc_126, h⟩ := bp_s h
              refine go_callV (x := 562) (mi := 68) (n := 0) (ci := 7) (as := []) (rest := []) (by decide +kernel) (by decide +kernel) rfl rfl (q_sum8 _ (Nat.le_of_ble_eq_true rfl)) R_93 f_36 g_41 (om_X6_firstOrder (Nat.le_trans (by decide) hd) R_93 g_41 f_36 hc_126) (fun _ S_131 q_134 => ?_) (fun _ _ qq => kr_x qq)
              refine kr_z (by decide) q_134 fun v_129 f_130 R_132 E_133 => ?_
              refine go_aload_n (n := 2) (by decide +kernel) l_47 f2 ?_
              obtain ⟨g_135, h⟩ := gd_s h
              obtain ⟨x_137, hc_136, h⟩ := bp_s h
              refine go_callV (x := 562) (mi := 68) (n := 0) (ci := 7) (as := []) (rest := [v_129]) (by decide +kernel) (by decide +kernel) rfl rfl (q_sum8 _ (Nat.le_of_ble_eq_true rfl)) R_132 f2 g_135 (om_X6_firstOrder (Nat.le_trans (by decide) hd) R_132 g_135 f2 hc_136) (fun _ S_141 q_144 => ?_) (fun _ _ qq => kr_x qq)
              refine kr_z (by decide) q_144 fun v_139 f_140 R_142 E_143 => ?_
              refine go_icmp (c := .ge) (o := 6) (t := 73) (P := ¬ (x_127 < x_137)) (by decide +kernel) (by decide +kernel) f_130 f_140 (Int.not_lt.symm) (fun hp_145 => ?_) (fun hp_145 => ?_)
              · have h := it_f hp_145 h
                refine go_iinc (n := 3) (c := 1) (c' := 1) (by decide +kernel) (by decide +kernel) l_48 f3 (by decide) fun L_146 v_147 f_148 l_149 kp_150 => ?_
                obtain ⟨x_151, e_152, h⟩ := lx_s h
                have f_153 := q_is_eq f_148 e_152
                have l_154 := kp_150 0 _ l_45 (by decide) (Or.inl (by decide))
                have l_155 := kp_150 1 _ l_46 (by decide) (Or.inl (by decide))
                have l_156 := kp_150 2 _ l_47 (by decide) (Or.inr (q_is_cat f2 (Or.inr rfl)))
                refine go_goto (o := (-72)) (t := 4) (by decide +kernel) (by decide +kernel) ?_
                exact ih h R_142 l_154 f0 l_155 f1 l_156 f2 l_149 f_153
              · have h := it_n hp_145 h
                refine go_aload (n := 4) (by decide +kernel) l_43 f_36 ?_
                refine go_astore_n (n := 2) (by decide +kernel) (by decide +kernel) f_36 fun L_157 l_158 kp_159 => ?_
                have l_160 := kp_159 0 _ l_45 (by decide) (Or.inl (by decide))
                have l_161 := kp_159 1 _ l_46 (by decide) (Or.inr (q_is_cat f1 (Or.inl rfl)))
                have l_162 := kp_159 3 _ l_48 (by decide) (Or.inl (by decide))
                refine go_iinc (n := 3) (c := 1) (c' := 1) (by decide +kernel) (by decide +kernel) l_162 f3 (by decide) fun L_163 v_164 f_165 l_166 kp_167 => ?_
                obtain ⟨x_168, e_169, h⟩ := lx_s h
                have f_170 := q_is_eq f_165 e_169
                have l_171 := kp_167 0 _ l_160 (by decide) (Or.inl (by decide))
                have l_172 := kp_167 1 _ l_161 (by decide) (Or.inl (by decide))
                have l_173 := kp_167 2 _ l_158 (by decide) (Or.inr (q_is_cat f_36 (Or.inr rfl)))
                refine go_goto (o := (-72)) (t := 4) (by decide +kernel) (by decide +kernel) ?_
                exact ih h R_142 l_171 f0 l_172 f1 l_173 f_36 l_166 f_170
noncomputable def fm_X11_firstRunWithWork (p1 : Int) (m0 : MM) : Option Int := fl_X11_firstRunWithWork_4 p1 m0  BIG 0 0
set_option maxHeartbeats 4000000 in
theorem om_X11_firstRunWithWork {xs : List Int32} {d : Nat} {S : QS} {m0 : MM} {p1 : Int} {v0 : Value} {v1 : Value} {rz : Int}
  (hd : 5 ≤ d) (R : Rp S m0) (f0 : q_is 2 v0 4) (f1 : q_is 0 v1 p1)
  (h : fm_X11_firstRunWithWork p1 m0 = some rz) : Mt xs d 159 [v0, v1] S (Cr 2 m0 m0 rz) := by
  obtain ⟨d, rfl⟩ : ∃ e, d = e + 1 := ⟨d - 1, by omega⟩
  have hd : 4 ≤ d := Nat.le_of_succ_le_succ hd
  refine Mt.of (M := qM_X11_firstRunWithWork) rfl (by rw [sl_1 (q_is_cat f0 (Or.inr rfl)), sl_1 (q_is_cat f1 (Or.inl rfl)), sl_0]; decide) ?_
  rw [la_1 (q_is_cat f0 (Or.inr rfl)), la_1 (q_is_cat f1 (Or.inl rfl)), la_0]
  obtain ⟨L, hL⟩ : ∃ L : QL, L = [(0, v0), (0 + 1, v1)] := ⟨_, rfl⟩
  rw [← hL]
  have l0 : q_lo L 0 = some v0 := by rw [hL]; rfl
  have l1 : q_lo L 1 = some v1 := by rw [hL]; rfl
  have hQ : ∀ o S1, Rp S1 m0 → q_out 2 o rz → (Cr 2 m0 m0 rz) o S1 := fun o S1 a b => ⟨a, Ext.rf _, b⟩
  unfold fm_X11_firstRunWithWork at h
  refine go_null (by decide +kernel) fun v_1 f_2 => ?_
  refine go_astore_n (n := 2) (by decide +kernel) (by decide +kernel) f_2 fun L_3 l_4 kp_5 => ?_
  have l_6 := kp_5 0 _ l0 (by decide) (Or.inl (by decide))
  have l_7 := kp_5 1 _ l1 (by decide) (Or.inr (q_is_cat f1 (Or.inl rfl)))
  refine go_iconst (n := 0) (z := 0) (by decide +kernel) (by decide) fun v_8 f_9 => ?_
  refine go_istore_n (n := 3) (by decide +kernel) (by decide +kernel) f_9 fun L_10 l_11 kp_12 => ?_
  have l_13 := kp_12 0 _ l_6 (by decide) (Or.inl (by decide))
  have l_14 := kp_12 1 _ l_7 (by decide) (Or.inl (by decide))
  have l_15 := kp_12 2 _ l_4 (by decide) (Or.inr (q_is_cat f_2 (Or.inr rfl)))
  refine ol_X11_firstRunWithWork_4 hd   hQ BIG h R l_13 f0 l_14 f1 l_15 f_2 l_11 f_9
end DF14
