/-! Methods as functions (written by wip/whole/dec.py), 10: X4_knows, X4_isLeft, X5_init, X6_init, X6_isAlive, X6_hasWork, X6_firstOrder, X6_mark, X6_isKeptBy, X6_addTimer, X6_dropTimer, X7_init. -/
section DF10
noncomputable def fm_X4_knows (p1 : Int) (m0 : MM) : Option (Int × MM) := gd (okc m0 p1 7) <| lx (m0 p1 16) fun x_8 =>
gd (okc m0 x_8 3) <| lx (m0 x_8 1) fun x_14 =>
up m0 17 12 x_14 fun m_16 =>
lx (m_16 p1 16) fun x_29 =>
gd (okc m_16 x_29 3) <| lx (m_16 x_29 1) fun x_35 =>
up m_16 17 13 x_35 fun m_37 =>
up m_37 16 7 p1 fun m_43 =>
some (0, m_43)
set_option maxHeartbeats 4000000 in
theorem om_X4_knows {xs : List Int32} {d : Nat} {S : QS} {m0 : MM} {p1 : Int} {v0 : Value} {v1 : Value} {rz : Int} {rm : MM}
  (hd : 1 ≤ d) (R : Rp S m0) (f0 : q_is 2 v0 16) (f1 : q_is 2 v1 p1)
  (h : fm_X4_knows p1 m0 = some (rz, rm)) : Mt xs d 32 [v0, v1] S (Cr 9 m0 rm rz) := by
  obtain ⟨d, rfl⟩ : ∃ e, d = e + 1 := ⟨d - 1, by omega⟩
  have hd : 0 ≤ d := Nat.le_of_succ_le_succ hd
  refine Mt.of (M := qM_X4_knows) rfl (by rw [sl_1 (q_is_cat f0 (Or.inr rfl)), sl_1 (q_is_cat f1 (Or.inr rfl)), sl_0]; decide) ?_
  rw [la_1 (q_is_cat f0 (Or.inr rfl)), la_1 (q_is_cat f1 (Or.inr rfl)), la_0]
  obtain ⟨L, hL⟩ : ∃ L : QL, L = [(0, v0), (0 + 1, v1)] := ⟨_, rfl⟩
  rw [← hL]
  have l0 : q_lo L 0 = some v0 := by rw [hL]; rfl
  have l1 : q_lo L 1 = some v1 := by rw [hL]; rfl
  have hQ : Ext m0 rm → ∀ o S1, Rp S1 rm → q_out 9 o rz → (Cr 9 m0 rm rz) o S1 := fun a o S1 b e => ⟨b, a, e⟩
  unfold fm_X4_knows at h
  refine go_aload_n (n := 0) (by decide +kernel) l0 f0 ?_
  refine go_getf (x := 10) (ci := 5) (kf := 0) (fin := 1) (t := 2) (by decide +kernel) (by decide +kernel) (by decide +kernel) R f0 (fx_k (c := 5) R (by decide +kernel)) fun v_1 f_2 => ?_
  have f_3 := q_is_eq (b := 17) f_2 (fx_v R (by decide +kernel)).symm
  refine go_aload_n (n := 1) (by decide +kernel) l1 f1 ?_
  obtain ⟨g_6, h⟩ := gd_s h
  obtain ⟨x_8, e_9, h⟩ := lx_s h
  refine go_getf (x := 102) (ci := 7) (kf := 16) (fin := 2) (t := 2) (by decide +kernel) (by decide +kernel) (by decide +kernel) R f1 g_6 fun v_4 f_5 => ?_
  have f_7 := q_is_eq f_5 e_9
  obtain ⟨g_12, h⟩ := gd_s h
  obtain ⟨x_14, e_15, h⟩ := lx_s h
  refine go_getf (x := 80) (ci := 3) (kf := 1) (fin := 0) (t := 0) (by decide +kernel) (by decide +kernel) (by decide +kernel) R f_7 g_12 fun v_10 f_11 => ?_
  have f_13 := q_is_eq f_11 e_15
  obtain ⟨m_16, e_17, h⟩ := up_s h
  refine go_putf (x := 114) (ci := 9) (kf := 12) (fin := 0) (zt := 0) (by decide +kernel) (by decide +kernel) (by decide) (by decide +kernel) (by decide) (Or.inl rfl) R f_3 f_13 (fun hq => absurd hq (by decide)) (fx_k (c := 9) R (by decide +kernel)) e_17 (fx_f (j := 12) R.2 (fx_k (c := 9) R (by decide +kernel)) (by decide +kernel)) fun S_18 R_19 E_20 => ?_
  have E_21 := E_20
  refine go_aload_n (n := 0) (by decide +kernel) l0 f0 ?_
  refine go_getf (x := 10) (ci := 5) (kf := 0) (fin := 1) (t := 2) (by decide +kernel) (by decide +kernel) (by decide +kernel) R_19 f0 (fx_k (c := 5) R_19 (by decide +kernel)) fun v_22 f_23 => ?_
  have f_24 := q_is_eq (b := 17) f_23 (fx_v R_19 (by decide +kernel)).symm
  refine go_aload_n (n := 1) (by decide +kernel) l1 f1 ?_
  have g_27 := Ext.ok E_20 g_6
  obtain ⟨x_29, e_30, h⟩ := lx_s h
  refine go_getf (x := 102) (ci := 7) (kf := 16) (fin := 2) (t := 2) (by decide +kernel) (by decide +kernel) (by decide +kernel) R_19 f1 g_27 fun v_25 f_26 => ?_
  have f_28 := q_is_eq f_26 e_30
  obtain ⟨g_33, h⟩ := gd_s h
  obtain ⟨x_35, e_36, h⟩ := lx_s h
  refine go_getf (x := 80) (ci := 3) (kf := 1) (fin := 0) (t := 0) (by decide +kernel) (by decide +kernel) (by decide +kernel) R_19 f_28 g_33 fun v_31 f_32 => ?_
  have f_34 := q_is_eq f_32 e_36
  obtain ⟨m_37, e_38, h⟩ := up_s h
  refine go_putf (x := 117) (ci := 9) (kf := 13) (fin := 0) (zt := 0) (by decide +kernel) (by decide +kernel) (by decide) (by decide +kernel) (by decide) (Or.inl rfl) R_19 f_24 f_34 (fun hq => absurd hq (by decide)) (fx_k (c := 9) R_19 (by decide +kernel)) e_38 (fx_f (j := 13) R_19.2 (fx_k (c := 9) R_19 (by decide +kernel)) (by decide +kernel)) fun S_39 R_40 E_41 => ?_
  have E_42 := Ext.tr E_21 E_41
  refine go_aload_n (n := 0) (by decide +kernel) l0 f0 ?_
  refine go_aload_n (n := 1) (by decide +kernel) l1 f1 ?_
  obtain ⟨m_43, e_44, h⟩ := up_s h
  refine go_putf (x := 45) (ci := 5) (kf := 7) (fin := 0) (zt := 2) (by decide +kernel) (by decide +kernel) (by decide) (by decide +kernel) (by decide) (Or.inl rfl) R_40 f0 f1 (fun hq => absurd hq (by decide)) (fx_k (c := 5) R_40 (by decide +kernel)) e_44 (fx_f (j := 7) R_40.2 (fx_k (c := 5) R_40 (by decide +kernel)) (by decide +kernel)) fun S_45 R_46 E_47 => ?_
  have E_48 := Ext.tr E_42 E_47
  cases h
  exact go_vret (by decide +kernel) rfl (hQ E_48 _ _ R_46 q_out_n)
noncomputable def fm_X4_isLeft (m0 : MM) : Option (Int × MM) := lx (m0 16 2) fun x_4 =>
lx (m0 17 12) fun x_12 =>
gd (okc m0 x_4 3) <| bp (fm_X2_nextCommand x_4 x_12 m0) fun x_16 =>
lx (m0 x_4 1) fun x_34 =>
if x_16 < x_34 then
bd (fm_X4_getStuck x_16 m0) fun x_44 m_45 =>
lx (m_45 16 10) fun x_56 =>
gd (x_56 = 0 ∨ x_56 = 1) <| some (x_56, m_45)
else
lx (m0 16 10) fun x_40 =>
gd (x_40 = 0 ∨ x_40 = 1) <| some (x_40, m0)
set_option maxHeartbeats 4000000 in
theorem om_X4_isLeft {xs : List Int32} {d : Nat} {S : QS} {m0 : MM} {v0 : Value} {rz : Int} {rm : MM}
  (hd : 3 ≤ d) (R : Rp S m0) (f0 : q_is 2 v0 16)
  (h : fm_X4_isLeft m0 = some (rz, rm)) : Mt xs d 36 [v0] S (Cr 0 m0 rm rz) := by
  obtain ⟨d, rfl⟩ : ∃ e, d = e + 1 := ⟨d - 1, by omega⟩
  have hd : 2 ≤ d := Nat.le_of_succ_le_succ hd
  refine Mt.of (M := qM_X4_isLeft) rfl (by rw [sl_1 (q_is_cat f0 (Or.inr rfl)), sl_0]; decide) ?_
  rw [la_1 (q_is_cat f0 (Or.inr rfl)), la_0]
  obtain ⟨L, hL⟩ : ∃ L : QL, L = [(0, v0)] := ⟨_, rfl⟩
  rw [← hL]
  have l0 : q_lo L 0 = some v0 := by rw [hL]; rfl
  have hQ : Ext m0 rm → ∀ o S1, Rp S1 rm → q_out 0 o rz → (Cr 0 m0 rm rz) o S1 := fun a o S1 b e => ⟨b, a, e⟩
  unfold fm_X4_isLeft at h
  refine go_aload_n (n := 0) (by decide +kernel) l0 f0 ?_
  obtain ⟨x_4, e_5, h⟩ := lx_s h
  refine go_getf (x := 28) (ci := 5) (kf := 2) (fin := 0) (t := 2) (by decide +kernel) (by decide +kernel) (by decide +kernel) R f0 (fx_k (c := 5) R (by decide +kernel)) fun v_1 f_2 => ?_
  have f_3 := q_is_eq f_2 e_5
  refine go_aload_n (n := 0) (by decide +kernel) l0 f0 ?_
  refine go_getf (x := 10) (ci := 5) (kf := 0) (fin := 1) (t := 2) (by decide +kernel) (by decide +kernel) (by decide +kernel) R f0 (fx_k (c := 5) R (by decide +kernel)) fun v_6 f_7 => ?_
  have f_8 := q_is_eq (b := 17) f_7 (fx_v R (by decide +kernel)).symm
  obtain ⟨x_12, e_13, h⟩ := lx_s h
  refine go_getf (x := 114) (ci := 9) (kf := 12) (fin := 0) (t := 0) (by decide +kernel) (by decide +kernel) (by decide +kernel) R f_8 (fx_k (c := 9) R (by decide +kernel)) fun v_9 f_10 => ?_
  have f_11 := q_is_eq f_10 e_13
  obtain ⟨g_14, h⟩ := gd_s h
  obtain ⟨x_16, hc_15, h⟩ := bp_s h
  refine go_callV (x := 123) (mi := 22) (n := 1) (ci := 3) (as := [v_9]) (rest := []) (by decide +kernel) (by decide +kernel) rfl rfl (q_sum8 _ (Nat.le_of_ble_eq_true rfl)) R f_3 g_14 (om_X2_nextCommand (Nat.le_trans (by decide) hd) R g_14 f_3 f_11 hc_15) (fun _ S_20 q_23 => ?_) (fun _ _ qq => kr_x qq)
  refine kr_z (by decide) q_23 fun v_18 f_19 R_21 E_22 => ?_
  refine go_istore_n (n := 1) (by decide +kernel) (by decide +kernel) f_19 fun L_24 l_25 kp_26 => ?_
  have l_27 := kp_26 0 _ l0 (by decide) (Or.inr (q_is_cat f0 (Or.inr rfl)))
  refine go_iload_n (n := 1) (by decide +kernel) l_25 f_19 ?_
  refine go_aload_n (n := 0) (by decide +kernel) l_27 f0 ?_
  refine go_getf (x := 28) (ci := 5) (kf := 2) (fin := 0) (t := 2) (by decide +kernel) (by decide +kernel) (by decide +kernel) R_21 f0 (fx_k (c := 5) R_21 (by decide +kernel)) fun v_28 f_29 => ?_
  have f_30 := q_is_eq f_29 e_5
  obtain ⟨x_34, e_35, h⟩ := lx_s h
  refine go_getf (x := 80) (ci := 3) (kf := 1) (fin := 0) (t := 0) (by decide +kernel) (by decide +kernel) (by decide +kernel) R_21 f_30 g_14 fun v_31 f_32 => ?_
  have f_33 := q_is_eq f_32 e_35
  refine go_icmp (c := .ge) (o := 8) (t := 31) (P := ¬ (x_16 < x_34)) (by decide +kernel) (by decide +kernel) f_19 f_33 (Int.not_lt.symm) (fun hp_36 => ?_) (fun hp_36 => ?_)
  · have h := it_f hp_36 h
    refine go_aload_n (n := 0) (by decide +kernel) l_27 f0 ?_
    obtain ⟨x_40, e_41, h⟩ := lx_s h
    refine go_getf (x := 55) (ci := 5) (kf := 10) (fin := 0) (t := 0) (by decide +kernel) (by decide +kernel) (by decide +kernel) R_21 f0 (fx_k (c := 5) R_21 (by decide +kernel)) fun v_37 f_38 => ?_
    have f_39 := q_is_eq f_38 e_41
    obtain ⟨g_42, h⟩ := gd_s h
    cases h
    exact go_iret (by decide +kernel) rfl (Or.inr ⟨rfl, g_42⟩) f_39 (hQ (Ext.rf _) _ _ R_21 (q_out_v (by decide) f_39))
  · have h := it_n hp_36 h
    refine go_aload_n (n := 0) (by decide +kernel) l_27 f0 ?_
    refine go_iload_n (n := 1) (by decide +kernel) l_25 f_19 ?_
    obtain ⟨x_44, m_45, hc_43, h⟩ := bd_s h
    refine go_callV (x := 126) (mi := 34) (n := 1) (ci := 5) (as := [v_18]) (rest := []) (by decide +kernel) (by decide +kernel) rfl rfl (q_sum8 _ (Nat.le_of_ble_eq_true rfl)) R_21 f0 (fx_k (c := 5) R_21 (by decide +kernel)) (om_X4_getStuck (Nat.le_trans (by decide) hd) R_21 f0 f_19 hc_43) (fun _ S_48 q_51 => ?_) (fun _ _ qq => kr_x qq)
    refine kr_v q_51 fun R_49 E_50 => ?_
    have E_52 := E_50
    refine go_aload_n (n := 0) (by decide +kernel) l_27 f0 ?_
    obtain ⟨x_56, e_57, h⟩ := lx_s h
    refine go_getf (x := 55) (ci := 5) (kf := 10) (fin := 0) (t := 0) (by decide +kernel) (by decide +kernel) (by decide +kernel) R_49 f0 (fx_k (c := 5) R_49 (by decide +kernel)) fun v_53 f_54 => ?_
    have f_55 := q_is_eq f_54 e_57
    obtain ⟨g_58, h⟩ := gd_s h
    cases h
    exact go_iret (by decide +kernel) rfl (Or.inr ⟨rfl, g_58⟩) f_55 (hQ E_52 _ _ R_49 (q_out_v (by decide) f_55))
noncomputable def fm_X5_init (p0 : Int) (m0 : MM) : Option (Int × MM) := nw m0 108 1 fun x_3 m_4 =>
up m_4 p0 0 x_3 fun m_15 =>
up m_15 p0 1 0 fun m_24 =>
up m_24 p0 2 0 fun m_33 =>
some (0, m_33)
set_option maxHeartbeats 4000000 in
theorem om_X5_init {xs : List Int32} {d : Nat} {S : QS} {m0 : MM} {p0 : Int} {v0 : Value} {rz : Int} {rm : MM}
  (hd : 1 ≤ d) (R : Rp S m0) (g0 : okc m0 p0 6) (f0 : q_is 2 v0 p0)
  (h : fm_X5_init p0 m0 = some (rz, rm)) : Mt xs d 57 [v0] S (Cr 9 m0 rm rz) := by
  obtain ⟨d, rfl⟩ : ∃ e, d = e + 1 := ⟨d - 1, by omega⟩
  have hd : 0 ≤ d := Nat.le_of_succ_le_succ hd
  refine Mt.of (M := qM_X5_init) rfl (by rw [sl_1 (q_is_cat f0 (Or.inr rfl)), sl_0]; decide) ?_
  rw [la_1 (q_is_cat f0 (Or.inr rfl)), la_0]
  obtain ⟨L, hL⟩ : ∃ L : QL, L = [(0, v0)] := ⟨_, rfl⟩
  rw [← hL]
  have l0 : q_lo L 0 = some v0 := by rw [hL]; rfl
  have hQ : Ext m0 rm → ∀ o S1, Rp S1 rm → q_out 9 o rz → (Cr 9 m0 rm rz) o S1 := fun a o S1 b e => ⟨b, a, e⟩
  unfold fm_X5_init at h
  refine go_aload_n (n := 0) (by decide +kernel) l0 f0 ?_
  refine go_oinit (x := 3) (a := 0) (b := 0) (e := 0) (by decide +kernel) (by decide +kernel) f0 (okc_ne g0) (q_sum8 _ (Nat.le_of_ble_eq_true rfl)) ?_
  refine go_aload_n (n := 0) (by decide +kernel) l0 f0 ?_
  refine go_iconst (n := 1) (z := 1) (by decide +kernel) (by decide) fun v_1 f_2 => ?_
  obtain ⟨x_3, m_4, e_5, e_6, h⟩ := nw_s h
  have g_12 := okc_nw (c := 108) R e_5 e_6
  refine go_anewa (x := 9) (kd := 108) (a := 0) (b := 0) (by decide +kernel) (by decide +kernel) f_2 (by decide) R e_5 e_6 fun v_7 S_9 f_8 R_10 E_11 => ?_
  have E_13 := E_11
  have g_14 := Ext.ok E_11 g0
  obtain ⟨m_15, e_16, h⟩ := up_s h
  refine go_putf (x := 11) (ci := 6) (kf := 0) (fin := 0) (zt := 2) (by decide +kernel) (by decide +kernel) (by decide) (by decide +kernel) (by decide) (Or.inl rfl) R_10 f0 f_8 (fun hq => absurd hq (by decide)) g_14 e_16 (fx_f (j := 0) R_10.2 g_14 (by decide +kernel)) fun S_17 R_18 E_19 => ?_
  have E_20 := Ext.tr E_13 E_19
  refine go_aload_n (n := 0) (by decide +kernel) l0 f0 ?_
  refine go_iconst (n := 0) (z := 0) (by decide +kernel) (by decide) fun v_21 f_22 => ?_
  have g_23 := Ext.ok E_19 g_14
  obtain ⟨m_24, e_25, h⟩ := up_s h
  refine go_putf (x := 15) (ci := 6) (kf := 1) (fin := 0) (zt := 0) (by decide +kernel) (by decide +kernel) (by decide) (by decide +kernel) (by decide) (Or.inl rfl) R_18 f0 f_22 (fun hq => absurd hq (by decide)) g_23 e_25 (fx_f (j := 1) R_18.2 g_23 (by decide +kernel)) fun S_26 R_27 E_28 => ?_
  have E_29 := Ext.tr E_20 E_28
  refine go_aload_n (n := 0) (by decide +kernel) l0 f0 ?_
  refine go_iconst (n := 0) (z := 0) (by decide +kernel) (by decide) fun v_30 f_31 => ?_
  have g_32 := Ext.ok E_28 g_23
  obtain ⟨m_33, e_34, h⟩ := up_s h
  refine go_putf (x := 19) (ci := 6) (kf := 2) (fin := 0) (zt := 0) (by decide +kernel) (by decide +kernel) (by decide) (by decide +kernel) (by decide) (Or.inl rfl) R_27 f0 f_31 (fun hq => absurd hq (by decide)) g_32 e_34 (fx_f (j := 2) R_27.2 g_32 (by decide +kernel)) fun S_35 R_36 E_37 => ?_
  have E_38 := Ext.tr E_29 E_37
  cases h
  exact go_vret (by decide +kernel) rfl (hQ E_38 _ _ R_36 q_out_n)
noncomputable def fm_X6_init (p0 p1 p2 p3 p4 p5 p6 : Int) (m0 : MM) : Option (Int × MM) := up m0 p0 6 0 fun m_3 =>
up m_3 p0 7 (-1) fun m_12 =>
up m_12 p0 8 0 fun m_21 =>
up m_21 p0 9 0 fun m_30 =>
up m_30 p0 10 (-1) fun m_39 =>
up m_39 p0 11 (-1) fun m_48 =>
up m_48 p0 12 (-1) fun m_57 =>
up m_57 p0 13 0 fun m_66 =>
up m_66 p0 14 0 fun m_75 =>
up m_75 p0 15 0 fun m_84 =>
nw m_84 3 5 fun x_90 m_91 =>
nw m_91 6 3 fun x_101 m_102 =>
bd (fm_X5_init x_101 m_102) fun x_113 m_114 =>
bd (fm_X2_init x_90 x_101 m_114) fun x_124 m_125 =>
up m_125 p0 16 x_90 fun m_134 =>
nw m_134 6 3 fun x_140 m_141 =>
bd (fm_X5_init x_140 m_141) fun x_152 m_153 =>
up m_153 p0 17 x_140 fun m_162 =>
nw m_162 6 3 fun x_168 m_169 =>
bd (fm_X5_init x_168 m_169) fun x_180 m_181 =>
up m_181 p0 18 x_168 fun m_190 =>
nw m_190 6 3 fun x_196 m_197 =>
bd (fm_X5_init x_196 m_197) fun x_208 m_209 =>
up m_209 p0 19 x_196 fun m_218 =>
up m_218 p0 0 p1 fun m_225 =>
up m_225 p0 1 p2 fun m_232 =>
up m_232 p0 2 p3 fun m_239 =>
up m_239 p0 3 p4 fun m_246 =>
up m_246 p0 4 p5 fun m_253 =>
up m_253 p0 5 p6 fun m_260 =>
some (0, m_260)
set_option maxHeartbeats 4000000 in
theorem om_X6_init {xs : List Int32} {d : Nat} {S : QS} {m0 : MM} {p0 p1 p2 p3 p4 p5 p6 : Int} {v0 : Value} {v1 : Value} {v2 : Value} {v3 : Value} {v4 : Value} {v5 : Value} {v6 : Value} {rz : Int} {rm : MM}
  (hd : 2 ≤ d) (R : Rp S m0) (g0 : okc m0 p0 7) (f0 : q_is 2 v0 p0) (f1 : q_is 0 v1 p1) (f2 : q_is 0 v2 p2) (f3 : q_is 0 v3 p3) (f4 : q_is 0 v4 p4) (f5 : q_is 0 v5 p5) (f6 : q_is 0 v6 p6)
  (h : fm_X6_init p0 p1 p2 p3 p4 p5 p6 m0 = some (rz, rm)) : Mt xs d 65 [v0, v1, v2, v3, v4, v5, v6] S (Cr 9 m0 rm rz) := by
  obtain ⟨d, rfl⟩ : ∃ e, d = e + 1 := ⟨d - 1, by omega⟩
  have hd : 1 ≤ d := Nat.le_of_succ_le_succ hd
  refine Mt.of (M := qM_X6_init) rfl (by rw [sl_1 (q_is_cat f0 (Or.inr rfl)), sl_1 (q_is_cat f1 (Or.inl rfl)), sl_1 (q_is_cat f2 (Or.inl rfl)), sl_1 (q_is_cat f3 (Or.inl rfl)), sl_1 (q_is_cat f4 (Or.inl rfl)), sl_1 (q_is_cat f5 (Or.inl rfl)), sl_1 (q_is_cat f6 (Or.inl rfl)), sl_0]; decide) ?_
  rw [la_1 (q_is_cat f0 (Or.inr rfl)), la_1 (q_is_cat f1 (Or.inl rfl)), la_1 (q_is_cat f2 (Or.inl rfl)), la_1 (q_is_cat f3 (Or.inl rfl)), la_1 (q_is_cat f4 (Or.inl rfl)), la_1 (q_is_cat f5 (Or.inl rfl)), la_1 (q_is_cat f6 (Or.inl rfl)), la_0]
  obtain ⟨L, hL⟩ : ∃ L : QL, L = [(0, v0), (0 + 1, v1), (0 + 1 + 1, v2), (0 + 1 + 1 + 1, v3), (0 + 1 + 1 + 1 + 1, v4), (0 + 1 + 1 + 1 + 1 + 1, v5), (0 + 1 + 1 + 1 + 1 + 1 + 1, v6)] := ⟨_, rfl⟩
  rw [← hL]
  have l0 : q_lo L 0 = some v0 := by rw [hL]; rfl
  have l1 : q_lo L 1 = some v1 := by rw [hL]; rfl
  have l2 : q_lo L 2 = some v2 := by rw [hL]; rfl
  have l3 : q_lo L 3 = some v3 := by rw [hL]; rfl
  have l4 : q_lo L 4 = some v4 := by rw [hL]; rfl
  have l5 : q_lo L 5 = some v5 := by rw [hL]; rfl
  have l6 : q_lo L 6 = some v6 := by rw [hL]; rfl
  have hQ : Ext m0 rm → ∀ o S1, Rp S1 rm → q_out 9 o rz → (Cr 9 m0 rm rz) o S1 := fun a o S1 b e => ⟨b, a, e⟩
  unfold fm_X6_init at h
  refine go_aload_n (n := 0) (by decide +kernel) l0 f0 ?_
  refine go_oinit (x := 3) (a := 0) (b := 0) (e := 0) (by decide +kernel) (by decide +kernel) f0 (okc_ne g0) (q_sum8 _ (Nat.le_of_ble_eq_true rfl)) ?_
  refine go_aload_n (n := 0) (by decide +kernel) l0 f0 ?_
  refine go_iconst (n := 0) (z := 0) (by decide +kernel) (by decide) fun v_1 f_2 => ?_
  obtain ⟨m_3, e_4, h⟩ := up_s h
  refine go_putf (x := 9) (ci := 7) (kf := 6) (fin := 0) (zt := 0) (by decide +kernel) (by decide +kernel) (by decide) (by decide +kernel) (by decide) (Or.inl rfl) R f0 f_2 (fun hq => absurd hq (by decide)) g0 e_4 (fx_f (j := 6) R.2 g0 (by decide +kernel)) fun S_5 R_6 E_7 => ?_
  have E_8 := E_7
  refine go_aload_n (n := 0) (by decide +kernel) l0 f0 ?_
  refine go_iconst (n := (-1)) (z := (-1)) (by decide +kernel) (by decide) fun v_9 f_10 => ?_
  have g_11 := Ext.ok E_7 g0
  obtain ⟨m_12, e_13, h⟩ := up_s h
  refine go_putf (x := 15) (ci := 7) (kf := 7) (fin := 0) (zt := 0) (by decide +kernel) (by decide +kernel) (by decide) (by decide +kernel) (by decide) (Or.inl rfl) R_6 f0 f_10 (fun hq => absurd hq (by decide)) g_11 e_13 (fx_f (j := 7) R_6.2 g_11 (by decide +kernel)) fun S_14 R_15 E_16 => ?_
  have E_17 := Ext.tr E_8 E_16
  refine go_aload_n (n := 0) (by decide +kernel) l0 f0 ?_
  refine go_iconst (n := 0) (z := 0) (by decide +kernel) (by decide) fun v_18 f_19 => ?_
  have g_20 := Ext.ok E_16 g_11
  obtain ⟨m_21, e_22, h⟩ := up_s h
  refine go_putf (x := 18) (ci := 7) (kf := 8) (fin := 0) (zt := 0) (by decide +kernel) (by decide +kernel) (by decide) (by decide +kernel) (by decide) (Or.inl rfl) R_15 f0 f_19 (fun hq => absurd hq (by decide)) g_20 e_22 (fx_f (j := 8) R_15.2 g_20 (by decide +kernel)) fun S_23 R_24 E_25 => ?_
  have E_26 := Ext.tr E_17 E_25
  refine go_aload_n (n := 0) (by decide +kernel) l0 f0 ?_
  refine go_iconst (n := 0) (z := 0) (by decide +kernel) (by decide) fun v_27 f_28 => ?_
  have g_29 := Ext.ok E_25 g_20
  obtain ⟨m_30, e_31, h⟩ := up_s h
  refine go_putf (x := 21) (ci := 7) (kf := 9) (fin := 0) (zt := 0) (by decide +kernel) (by decide +kernel) (by decide) (by decide +kernel) (by decide) (Or.inl rfl) R_24 f0 f_28 (fun hq => absurd hq (by decide)) g_29 e_31 (fx_f (j := 9) R_24.2 g_29 (by decide +kernel)) fun S_32 R_33 E_34 => ?_
  have E_35 := Ext.tr E_26 E_34
  refine go_aload_n (n := 0) (by decide +kernel) l0 f0 ?_
  refine go_iconst (n := (-1)) (z := (-1)) (by decide +kernel) (by decide) fun v_36 f_37 => ?_
  have g_38 := Ext.ok E_34 g_29
  obtain ⟨m_39, e_40, h⟩ := up_s h
  refine go_putf (x := 24) (ci := 7) (kf := 10) (fin := 0) (zt := 0) (by decide +kernel) (by decide +kernel) (by decide) (by decide +kernel) (by decide) (Or.inl rfl) R_33 f0 f_37 (fun hq => absurd hq (by decide)) g_38 e_40 (fx_f (j := 10) R_33.2 g_38 (by decide +kernel)) fun S_41 R_42 E_43 => ?_
  have E_44 := Ext.tr E_35 E_43
  refine go_aload_n (n := 0) (by decide +kernel) l0 f0 ?_
  refine go_iconst (n := (-1)) (z := (-1)) (by decide +kernel) (by decide) fun v_45 f_46 => ?_
  have g_47 := Ext.ok E_43 g_38
  obtain ⟨m_48, e_49, h⟩ := up_s h
  refine go_putf (x := 27) (ci := 7) (kf := 11) (fin := 0) (zt := 0) (by decide +kernel) (by decide +kernel) (by decide) (by decide +kernel) (by decide) (Or.inl rfl) R_42 f0 f_46 (fun hq => absurd hq (by decide)) g_47 e_49 (fx_f (j := 11) R_42.2 g_47 (by decide +kernel)) fun S_50 R_51 E_52 => ?_
  have E_53 := Ext.tr E_44 E_52
  refine go_aload_n (n := 0) (by decide +kernel) l0 f0 ?_
  refine go_iconst (n := (-1)) (z := (-1)) (by decide +kernel) (by decide) fun v_54 f_55 => ?_
  have g_56 := Ext.ok E_52 g_47
  obtain ⟨m_57, e_58, h⟩ := up_s h
  refine go_putf (x := 30) (ci := 7) (kf := 12) (fin := 0) (zt := 0) (by decide +kernel) (by decide +kernel) (by decide) (by decide +kernel) (by decide) (Or.inl rfl) R_51 f0 f_55 (fun hq => absurd hq (by decide)) g_56 e_58 (fx_f (j := 12) R_51.2 g_56 (by decide +kernel)) fun S_59 R_60 E_61 => ?_
  have E_62 := Ext.tr E_53 E_61
  refine go_aload_n (n := 0) (by decide +kernel) l0 f0 ?_
  refine go_iconst (n := 0) (z := 0) (by decide +kernel) (by decide) fun v_63 f_64 => ?_
  have g_65 := Ext.ok E_61 g_56
  obtain ⟨m_66, e_67, h⟩ := up_s h
  refine go_putf (x := 33) (ci := 7) (kf := 13) (fin := 0) (zt := 0) (by decide +kernel) (by decide +kernel) (by decide) (by decide +kernel) (by decide) (Or.inl rfl) R_60 f0 f_64 (fun hq => absurd hq (by decide)) g_65 e_67 (fx_f (j := 13) R_60.2 g_65 (by decide +kernel)) fun S_68 R_69 E_70 => ?_
  have E_71 := Ext.tr E_62 E_70
  refine go_aload_n (n := 0) (by decide +kernel) l0 f0 ?_
  refine go_iconst (n := 0) (z := 0) (by decide +kernel) (by decide) fun v_72 f_73 => ?_
  have g_74 := Ext.ok E_70 g_65
  obtain ⟨m_75, e_76, h⟩ := up_s h
  refine go_putf (x := 36) (ci := 7) (kf := 14) (fin := 0) (zt := 0) (by decide +kernel) (by decide +kernel) (by decide) (by decide +kernel) (by decide) (Or.inl rfl) R_69 f0 f_73 (fun hq => absurd hq (by decide)) g_74 e_76 (fx_f (j := 14) R_69.2 g_74 (by decide +kernel)) fun S_77 R_78 E_79 => ?_
  have E_80 := Ext.tr E_71 E_79
  refine go_aload_n (n := 0) (by decide +kernel) l0 f0 ?_
  refine go_iconst (n := 0) (z := 0) (by decide +kernel) (by decide) fun v_81 f_82 => ?_
  have g_83 := Ext.ok E_79 g_74
  obtain ⟨m_84, e_85, h⟩ := up_s h
  refine go_putf (x := 39) (ci := 7) (kf := 15) (fin := 0) (zt := 0) (by decide +kernel) (by decide +kernel) (by decide) (by decide +kernel) (by decide) (Or.inl rfl) R_78 f0 f_82 (fun hq => absurd hq (by decide)) g_83 e_85 (fx_f (j := 15) R_78.2 g_83 (by decide +kernel)) fun S_86 R_87 E_88 => ?_
  have E_89 := Ext.tr E_80 E_88
  refine go_aload_n (n := 0) (by decide +kernel) l0 f0 ?_
  obtain ⟨x_90, m_91, e_92, e_93, h⟩ := nw_s h
  have g_99 := okc_nw (c := 3) R_87 e_92 e_93
  refine go_new (x := 42) (ci := 3) (n := 5) (b := 0) (by decide +kernel) (by decide +kernel) R_87 e_92 e_93 fun v_94 S_96 f_95 R_97 E_98 => ?_
  have E_100 := Ext.tr E_89 E_98
  refine go_dup (by decide +kernel) f_95 (Or.inr rfl) ?_
  obtain ⟨x_101, m_102, e_103, e_104, h⟩ := nw_s h
  have g_110 := okc_nw (c := 6) R_97 e_103 e_104
  refine go_new (x := 44) (ci := 6) (n := 3) (b := 0) (by decide +kernel) (by decide +kernel) R_97 e_103 e_104 fun v_105 S_107 f_106 R_108 E_109 => ?_
  have E_111 := Ext.tr E_100 E_109
  refine go_dup (by decide +kernel) f_106 (Or.inr rfl) ?_
  obtain ⟨x_113, m_114, hc_112, h⟩ := bd_s h
  refine go_callI (x := 46) (mi := 57) (n := 0) (b := 0) (tg := 15) (as := []) (rest := [v_105, v_94, v_94, v0]) (by decide +kernel) (by decide +kernel) (by decide) rfl rfl (q_sum8 _ (Nat.le_of_ble_eq_true rfl)) f_106 (okc_ne g_110) (om_X5_init (Nat.le_trans (by decide) hd) R_108 g_110 f_106 hc_112) (fun _ S_117 q_120 => ?_) (fun _ _ qq => kr_x qq)
  refine kr_v q_120 fun R_118 E_119 => ?_
  have E_121 := Ext.tr E_111 E_119
  have g_122 := Ext.ok (Ext.tr E_109 E_119) g_99
  obtain ⟨x_124, m_125, hc_123, h⟩ := bd_s h
  refine go_callI (x := 47) (mi := 8) (n := 1) (b := 0) (tg := 3) (as := [v_105]) (rest := [v_94, v0]) (by decide +kernel) (by decide +kernel) (by decide) rfl rfl (q_sum8 _ (Nat.le_of_ble_eq_true rfl)) f_95 (okc_ne g_122) (om_X2_init (Nat.le_trans (by decide) hd) R_118 g_122 f_95 f_106 hc_123) (fun _ S_128 q_131 => ?_) (fun _ _ qq => kr_x qq)
  refine kr_v q_131 fun R_129 E_130 => ?_
  have E_132 := Ext.tr E_121 E_130
  have g_133 := Ext.ok (Ext.tr (Ext.tr (Ext.tr (Ext.tr E_88 E_98) E_109) E_119) E_130) g_83
  obtain ⟨m_134, e_135, h⟩ := up_s h
  refine go_putf (x := 50) (ci := 7) (kf := 16) (fin := 1) (zt := 2) (by decide +kernel) (by decide +kernel) (by decide) (by decide +kernel) (by decide) (Or.inr ⟨rfl, rfl⟩) R_129 f0 f_95 (fun hq => absurd hq (by decide)) g_133 e_135 (fx_f (j := 16) R_129.2 g_133 (by decide +kernel)) fun S_136 R_137 E_138 => ?_
  have E_139 := Ext.tr E_132 E_138
  refine go_aload_n (n := 0) (by decide +kernel) l0 f0 ?_
  obtain ⟨x_140, m_141, e_142, e_143, h⟩ := nw_s h
  have g_149 := okc_nw (c := 6) R_137 e_142 e_143
  refine go_new (x := 44) (ci := 6) (n := 3) (b := 0) (by decide +kernel) (by decide +kernel) R_137 e_142 e_143 fun v_144 S_146 f_145 R_147 E_148 => ?_
  have E_150 := Ext.tr E_139 E_148
  refine go_dup (by decide +kernel) f_145 (Or.inr rfl) ?_
  obtain ⟨x_152, m_153, hc_151, h⟩ := bd_s h
  refine go_callI (x := 46) (mi := 57) (n := 0) (b := 0) (tg := 15) (as := []) (rest := [v_144, v0]) (by decide +kernel) (by decide +kernel) (by decide) rfl rfl (q_sum8 _ (Nat.le_of_ble_eq_true rfl)) f_145 (okc_ne g_149) (om_X5_init (Nat.le_trans (by decide) hd) R_147 g_149 f_145 hc_151) (fun _ S_156 q_159 => ?_) (fun _ _ qq => kr_x qq)
  refine kr_v q_159 fun R_157 E_158 => ?_
  have E_160 := Ext.tr E_150 E_158
  have g_161 := Ext.ok (Ext.tr (Ext.tr E_138 E_148) E_158) g_133
  obtain ⟨m_162, e_163, h⟩ := up_s h
  refine go_putf (x := 54) (ci := 7) (kf := 17) (fin := 1) (zt := 2) (by decide +kernel) (by decide +kernel) (by decide) (by decide +kernel) (by decide) (Or.inr ⟨rfl, rfl⟩) R_157 f0 f_145 (fun hq => absurd hq (by decide)) g_161 e_163 (fx_f (j := 17) R_157.2 g_161 (by decide +kernel)) fun S_164 R_165 E_166 => ?_
  have E_167 := Ext.tr E_160 E_166
  refine go_aload_n (n := 0) (by decide +kernel) l0 f0 ?_
  obtain ⟨x_168, m_169, e_170, e_171, h⟩ := nw_s h
  have g_177 := okc_nw (c := 6) R_165 e_170 e_171
  refine go_new (x := 44) (ci := 6) (n := 3) (b := 0) (by decide +kernel) (by decide +kernel) R_165 e_170 e_171 fun v_172 S_174 f_173 R_175 E_176 => ?_
  have E_178 := Ext.tr E_167 E_176
  refine go_dup (by decide +kernel) f_173 (Or.inr rfl) ?_
  obtain ⟨x_180, m_181, hc_179, h⟩ := bd_s h
  refine go_callI (x := 46) (mi := 57) (n := 0) (b := 0) (tg := 15) (as := []) (rest := [v_172, v0]) (by decide +kernel) (by decide +kernel) (by decide) rfl rfl (q_sum8 _ (Nat.le_of_ble_eq_true rfl)) f_173 (okc_ne g_177) (om_X5_init (Nat.le_trans (by decide) hd) R_175 g_177 f_173 hc_179) (fun _ S_184 q_187 => ?_) (fun _ _ qq => kr_x qq)
  refine kr_v q_187 fun R_185 E_186 => ?_
  have E_188 := Ext.tr E_178 E_186
  have g_189 := Ext.ok (Ext.tr (Ext.tr E_166 E_176) E_186) g_161
  obtain ⟨m_190, e_191, h⟩ := up_s h
  refine go_putf (x := 58) (ci := 7) (kf := 18) (fin := 1) (zt := 2) (by decide +kernel) (by decide +kernel) (by decide) (by decide +kernel) (by decide) (Or.inr ⟨rfl, rfl⟩) R_185 f0 f_173 (fun hq => absurd hq (by decide)) g_189 e_191 (fx_f (j := 18) R_185.2 g_189 (by decide +kernel)) fun S_192 R_193 E_194 => ?_
  have E_195 := Ext.tr E_188 E_194
  refine go_aload_n (n := 0) (by decide +kernel) l0 f0 ?_
  obtain ⟨x_196, m_197, e_198, e_199, h⟩ := nw_s h
  have g_205 := okc_nw (c := 6) R_193 e_198 e_199
  refine go_new (x := 44) (ci := 6) (n := 3) (b := 0) (by decide +kernel) (by decide +kernel) R_193 e_198 e_199 fun v_200 S_202 f_201 R_203 E_204 => ?_
  have E_206 := Ext.tr E_195 E_204
  refine go_dup (by decide +kernel) f_201 (Or.inr rfl) ?_
  obtain ⟨x_208, m_209, hc_207, h⟩ := bd_s h
  refine go_callI (x := 46) (mi := 57) (n := 0) (b := 0) (tg := 15) (as := []) (rest := [v_200, v0]) (by decide +kernel) (by decide +kernel) (by decide) rfl rfl (q_sum8 _ (Nat.le_of_ble_eq_true rfl)) f_201 (okc_ne g_205) (om_X5_init (Nat.le_trans (by decide) hd) R_203 g_205 f_201 hc_207) (fun _ S_212 q_215 => ?_) (fun _ _ qq => kr_x qq)
  refine kr_v q_215 fun R_213 E_214 => ?_
  have E_216 := Ext.tr E_206 E_214
  have g_217 := Ext.ok (Ext.tr (Ext.tr E_194 E_204) E_214) g_189
  obtain ⟨m_218, e_219, h⟩ := up_s h
  refine go_putf (x := 61) (ci := 7) (kf := 19) (fin := 1) (zt := 2) (by decide +kernel) (by decide +kernel) (by decide) (by decide +kernel) (by decide) (Or.inr ⟨rfl, rfl⟩) R_213 f0 f_201 (fun hq => absurd hq (by decide)) g_217 e_219 (fx_f (j := 19) R_213.2 g_217 (by decide +kernel)) fun S_220 R_221 E_222 => ?_
  have E_223 := Ext.tr E_216 E_222
  refine go_aload_n (n := 0) (by decide +kernel) l0 f0 ?_
  refine go_iload_n (n := 1) (by decide +kernel) l1 f1 ?_
  have g_224 := Ext.ok E_222 g_217
  obtain ⟨m_225, e_226, h⟩ := up_s h
  refine go_putf (x := 64) (ci := 7) (kf := 0) (fin := 1) (zt := 0) (by decide +kernel) (by decide +kernel) (by decide) (by decide +kernel) (by decide) (Or.inr ⟨rfl, rfl⟩) R_221 f0 f1 (fun hq => absurd hq (by decide)) g_224 e_226 (fx_f (j := 0) R_221.2 g_224 (by decide +kernel)) fun S_227 R_228 E_229 => ?_
  have E_230 := Ext.tr E_223 E_229
  refine go_aload_n (n := 0) (by decide +kernel) l0 f0 ?_
  refine go_iload_n (n := 2) (by decide +kernel) l2 f2 ?_
  have g_231 := Ext.ok E_229 g_224
  obtain ⟨m_232, e_233, h⟩ := up_s h
  refine go_putf (x := 67) (ci := 7) (kf := 1) (fin := 1) (zt := 0) (by decide +kernel) (by decide +kernel) (by decide) (by decide +kernel) (by decide) (Or.inr ⟨rfl, rfl⟩) R_228 f0 f2 (fun hq => absurd hq (by decide)) g_231 e_233 (fx_f (j := 1) R_228.2 g_231 (by decide +kernel)) fun S_234 R_235 E_236 => ?_
  have E_237 := Ext.tr E_230 E_236
  refine go_aload_n (n := 0) (by decide +kernel) l0 f0 ?_
  refine go_iload_n (n := 3) (by decide +kernel) l3 f3 ?_
  have g_238 := Ext.ok E_236 g_231
  obtain ⟨m_239, e_240, h⟩ := up_s h
  refine go_putf (x := 70) (ci := 7) (kf := 2) (fin := 1) (zt := 0) (by decide +kernel) (by decide +kernel) (by decide) (by decide +kernel) (by decide) (Or.inr ⟨rfl, rfl⟩) R_235 f0 f3 (fun hq => absurd hq (by decide)) g_238 e_240 (fx_f (j := 2) R_235.2 g_238 (by decide +kernel)) fun S_241 R_242 E_243 => ?_
  have E_244 := Ext.tr E_237 E_243
  refine go_aload_n (n := 0) (by decide +kernel) l0 f0 ?_
  refine go_iload (n := 4) (by decide +kernel) l4 f4 ?_
  have g_245 := Ext.ok E_243 g_238
  obtain ⟨m_246, e_247, h⟩ := up_s h
  refine go_putf (x := 73) (ci := 7) (kf := 3) (fin := 0) (zt := 0) (by decide +kernel) (by decide +kernel) (by decide) (by decide +kernel) (by decide) (Or.inl rfl) R_242 f0 f4 (fun hq => absurd hq (by decide)) g_245 e_247 (fx_f (j := 3) R_242.2 g_245 (by decide +kernel)) fun S_248 R_249 E_250 => ?_
  have E_251 := Ext.tr E_244 E_250
  refine go_aload_n (n := 0) (by decide +kernel) l0 f0 ?_
  refine go_iload (n := 5) (by decide +kernel) l5 f5 ?_
  have g_252 := Ext.ok E_250 g_245
  obtain ⟨m_253, e_254, h⟩ := up_s h
  refine go_putf (x := 76) (ci := 7) (kf := 4) (fin := 0) (zt := 0) (by decide +kernel) (by decide +kernel) (by decide) (by decide +kernel) (by decide) (Or.inl rfl) R_249 f0 f5 (fun hq => absurd hq (by decide)) g_252 e_254 (fx_f (j := 4) R_249.2 g_252 (by decide +kernel)) fun S_255 R_256 E_257 => ?_
  have E_258 := Ext.tr E_251 E_257
  refine go_aload_n (n := 0) (by decide +kernel) l0 f0 ?_
  refine go_iload (n := 6) (by decide +kernel) l6 f6 ?_
  have g_259 := Ext.ok E_257 g_252
  obtain ⟨m_260, e_261, h⟩ := up_s h
  refine go_putf (x := 79) (ci := 7) (kf := 5) (fin := 1) (zt := 0) (by decide +kernel) (by decide +kernel) (by decide) (by decide +kernel) (by decide) (Or.inr ⟨rfl, rfl⟩) R_256 f0 f6 (fun hq => absurd hq (by decide)) g_259 e_261 (fx_f (j := 5) R_256.2 g_259 (by decide +kernel)) fun S_262 R_263 E_264 => ?_
  have E_265 := Ext.tr E_258 E_264
  cases h
  exact go_vret (by decide +kernel) rfl (hQ E_265 _ _ R_263 q_out_n)
noncomputable def fm_X6_isAlive (p0 : Int) (m0 : MM) : Option Int := lx (m0 p0 6) fun x_4 =>
if x_4 = 0 then
some 1
else
if x_4 = 6 then
some 1
else
some 0
set_option maxHeartbeats 4000000 in
theorem om_X6_isAlive {xs : List Int32} {d : Nat} {S : QS} {m0 : MM} {p0 : Int} {v0 : Value} {rz : Int}
  (hd : 1 ≤ d) (R : Rp S m0) (g0 : okc m0 p0 7) (f0 : q_is 2 v0 p0)
  (h : fm_X6_isAlive p0 m0 = some rz) : Mt xs d 66 [v0] S (Cr 0 m0 m0 rz) := by
  obtain ⟨d, rfl⟩ : ∃ e, d = e + 1 := ⟨d - 1, by omega⟩
  have hd : 0 ≤ d := Nat.le_of_succ_le_succ hd
  refine Mt.of (M := qM_X6_isAlive) rfl (by rw [sl_1 (q_is_cat f0 (Or.inr rfl)), sl_0]; decide) ?_
  rw [la_1 (q_is_cat f0 (Or.inr rfl)), la_0]
  obtain ⟨L, hL⟩ : ∃ L : QL, L = [(0, v0)] := ⟨_, rfl⟩
  rw [← hL]
  have l0 : q_lo L 0 = some v0 := by rw [hL]; rfl
  have hQ : ∀ o S1, Rp S1 m0 → q_out 0 o rz → (Cr 0 m0 m0 rz) o S1 := fun o S1 a b => ⟨a, Ext.rf _, b⟩
  unfold fm_X6_isAlive at h
  refine go_aload_n (n := 0) (by decide +kernel) l0 f0 ?_
  obtain ⟨x_4, e_5, h⟩ := lx_s h
  refine go_getf (x := 9) (ci := 7) (kf := 6) (fin := 0) (t := 0) (by decide +kernel) (by decide +kernel) (by decide +kernel) R f0 g0 fun v_1 f_2 => ?_
  have f_3 := q_is_eq f_2 e_5
  refine go_if (c := .eq) (o := 12) (t := 16) (P := x_4 = 0) (by decide +kernel) (by decide +kernel) f_3 (Iff.rfl) (fun hp_6 => ?_) (fun hp_6 => ?_)
  · have h := it_t hp_6 h
    refine go_iconst (n := 1) (z := 1) (by decide +kernel) (by decide) fun v_7 f_8 => ?_
    refine go_goto (o := 4) (t := 21) (by decide +kernel) (by decide +kernel) ?_
    cases h
    exact go_iret (by decide +kernel) rfl (Or.inr ⟨rfl, by decide⟩) f_8 (hQ _ _ R (q_out_v (by decide) f_8))
  · have h := it_f hp_6 h
    refine go_aload_n (n := 0) (by decide +kernel) l0 f0 ?_
    refine go_getf (x := 9) (ci := 7) (kf := 6) (fin := 0) (t := 0) (by decide +kernel) (by decide +kernel) (by decide +kernel) R f0 g0 fun v_9 f_10 => ?_
    have f_11 := q_is_eq f_10 e_5
    refine go_bipush (n := 6) (z := 6) (by decide +kernel) (by decide) fun v_12 f_13 => ?_
    refine go_icmp (c := .ne) (o := 7) (t := 20) (P := ¬ (x_4 = 6)) (by decide +kernel) (by decide +kernel) f_11 f_13 (Iff.rfl) (fun hp_14 => ?_) (fun hp_14 => ?_)
    · have h := it_f hp_14 h
      refine go_iconst (n := 0) (z := 0) (by decide +kernel) (by decide) fun v_15 f_16 => ?_
      cases h
      exact go_iret (by decide +kernel) rfl (Or.inr ⟨rfl, by decide⟩) f_16 (hQ _ _ R (q_out_v (by decide) f_16))
    · have h := it_n hp_14 h
      refine go_iconst (n := 1) (z := 1) (by decide +kernel) (by decide) fun v_17 f_18 => ?_
      refine go_goto (o := 4) (t := 21) (by decide +kernel) (by decide +kernel) ?_
      cases h
      exact go_iret (by decide +kernel) rfl (Or.inr ⟨rfl, by decide⟩) f_18 (hQ _ _ R (q_out_v (by decide) f_18))
noncomputable def fm_X6_hasWork (p0 : Int) (m0 : MM) : Option Int := lx (m0 p0 6) fun x_4 =>
if x_4 = 0 then
lx (m0 p0 16) fun x_12 =>
gd (okc m0 x_12 3) <| lx (m0 x_12 2) fun x_18 =>
lx (m0 x_12 4) fun x_26 =>
if x_26 < x_18 then
some 1
else
some 0
else
some 0
set_option maxHeartbeats 4000000 in
theorem om_X6_hasWork {xs : List Int32} {d : Nat} {S : QS} {m0 : MM} {p0 : Int} {v0 : Value} {rz : Int}
  (hd : 1 ≤ d) (R : Rp S m0) (g0 : okc m0 p0 7) (f0 : q_is 2 v0 p0)
  (h : fm_X6_hasWork p0 m0 = some rz) : Mt xs d 67 [v0] S (Cr 0 m0 m0 rz) := by
  obtain ⟨d, rfl⟩ : ∃ e, d = e + 1 := ⟨d - 1, by omega⟩
  have hd : 0 ≤ d := Nat.le_of_succ_le_succ hd
  refine Mt.of (M := qM_X6_hasWork) rfl (by rw [sl_1 (q_is_cat f0 (Or.inr rfl)), sl_0]; decide) ?_
  rw [la_1 (q_is_cat f0 (Or.inr rfl)), la_0]
  obtain ⟨L, hL⟩ : ∃ L : QL, L = [(0, v0)] := ⟨_, rfl⟩
  rw [← hL]
  have l0 : q_lo L 0 = some v0 := by rw [hL]; rfl
  have hQ : ∀ o S1, Rp S1 m0 → q_out 0 o rz → (Cr 0 m0 m0 rz) o S1 := fun o S1 a b => ⟨a, Ext.rf _, b⟩
  unfold fm_X6_hasWork at h
  refine go_aload_n (n := 0) (by decide +kernel) l0 f0 ?_
  obtain ⟨x_4, e_5, h⟩ := lx_s h
  refine go_getf (x := 9) (ci := 7) (kf := 6) (fin := 0) (t := 0) (by decide +kernel) (by decide +kernel) (by decide +kernel) R f0 g0 fun v_1 f_2 => ?_
  have f_3 := q_is_eq f_2 e_5
  refine go_if (c := .ne) (o := 24) (t := 28) (P := ¬ (x_4 = 0)) (by decide +kernel) (by decide +kernel) f_3 (Iff.rfl) (fun hp_6 => ?_) (fun hp_6 => ?_)
  · have h := it_f hp_6 h
    refine go_iconst (n := 0) (z := 0) (by decide +kernel) (by decide) fun v_7 f_8 => ?_
    cases h
    exact go_iret (by decide +kernel) rfl (Or.inr ⟨rfl, by decide⟩) f_8 (hQ _ _ R (q_out_v (by decide) f_8))
  · have h := it_n hp_6 h
    refine go_aload_n (n := 0) (by decide +kernel) l0 f0 ?_
    obtain ⟨x_12, e_13, h⟩ := lx_s h
    refine go_getf (x := 50) (ci := 7) (kf := 16) (fin := 1) (t := 2) (by decide +kernel) (by decide +kernel) (by decide +kernel) R f0 g0 fun v_9 f_10 => ?_
    have f_11 := q_is_eq f_10 e_13
    obtain ⟨g_16, h⟩ := gd_s h
    obtain ⟨x_18, e_19, h⟩ := lx_s h
    refine go_getf (x := 82) (ci := 3) (kf := 2) (fin := 0) (t := 0) (by decide +kernel) (by decide +kernel) (by decide +kernel) R f_11 g_16 fun v_14 f_15 => ?_
    have f_17 := q_is_eq f_15 e_19
    refine go_aload_n (n := 0) (by decide +kernel) l0 f0 ?_
    refine go_getf (x := 50) (ci := 7) (kf := 16) (fin := 1) (t := 2) (by decide +kernel) (by decide +kernel) (by decide +kernel) R f0 g0 fun v_20 f_21 => ?_
    have f_22 := q_is_eq f_21 e_13
    obtain ⟨x_26, e_27, h⟩ := lx_s h
    refine go_getf (x := 85) (ci := 3) (kf := 4) (fin := 0) (t := 0) (by decide +kernel) (by decide +kernel) (by decide +kernel) R f_22 g_16 fun v_23 f_24 => ?_
    have f_25 := q_is_eq f_24 e_27
    refine go_icmp (c := .le) (o := 7) (t := 28) (P := ¬ (x_26 < x_18)) (by decide +kernel) (by decide +kernel) f_17 f_25 (Int.not_lt.symm) (fun hp_28 => ?_) (fun hp_28 => ?_)
    · have h := it_f hp_28 h
      refine go_iconst (n := 0) (z := 0) (by decide +kernel) (by decide) fun v_29 f_30 => ?_
      cases h
      exact go_iret (by decide +kernel) rfl (Or.inr ⟨rfl, by decide⟩) f_30 (hQ _ _ R (q_out_v (by decide) f_30))
    · have h := it_n hp_28 h
      refine go_iconst (n := 1) (z := 1) (by decide +kernel) (by decide) fun v_31 f_32 => ?_
      refine go_goto (o := 4) (t := 29) (by decide +kernel) (by decide +kernel) ?_
      cases h
      exact go_iret (by decide +kernel) rfl (Or.inr ⟨rfl, by decide⟩) f_32 (hQ _ _ R (q_out_v (by decide) f_32))
noncomputable def fm_X6_firstOrder (p0 : Int) (m0 : MM) : Option Int := lx (m0 p0 16) fun x_4 =>
gd (okc m0 x_4 3) <| bp (fm_X2_firstNew x_4 m0) fun x_11 =>
bp (fm_X2_orderOfArrival x_4 x_11 m0) fun x_20 =>
some x_20
set_option maxHeartbeats 4000000 in
theorem om_X6_firstOrder {xs : List Int32} {d : Nat} {S : QS} {m0 : MM} {p0 : Int} {v0 : Value} {rz : Int}
  (hd : 4 ≤ d) (R : Rp S m0) (g0 : okc m0 p0 7) (f0 : q_is 2 v0 p0)
  (h : fm_X6_firstOrder p0 m0 = some rz) : Mt xs d 68 [v0] S (Cr 0 m0 m0 rz) := by
  obtain ⟨d, rfl⟩ : ∃ e, d = e + 1 := ⟨d - 1, by omega⟩
  have hd : 3 ≤ d := Nat.le_of_succ_le_succ hd
  refine Mt.of (M := qM_X6_firstOrder) rfl (by rw [sl_1 (q_is_cat f0 (Or.inr rfl)), sl_0]; decide) ?_
  rw [la_1 (q_is_cat f0 (Or.inr rfl)), la_0]
  obtain ⟨L, hL⟩ : ∃ L : QL, L = [(0, v0)] := ⟨_, rfl⟩
  rw [← hL]
  have l0 : q_lo L 0 = some v0 := by rw [hL]; rfl
  have hQ : ∀ o S1, Rp S1 m0 → q_out 0 o rz → (Cr 0 m0 m0 rz) o S1 := fun o S1 a b => ⟨a, Ext.rf _, b⟩
  unfold fm_X6_firstOrder at h
  refine go_aload_n (n := 0) (by decide +kernel) l0 f0 ?_
  obtain ⟨x_4, e_5, h⟩ := lx_s h
  refine go_getf (x := 50) (ci := 7) (kf := 16) (fin := 1) (t := 2) (by decide +kernel) (by decide +kernel) (by decide +kernel) R f0 g0 fun v_1 f_2 => ?_
  have f_3 := q_is_eq f_2 e_5
  refine go_aload_n (n := 0) (by decide +kernel) l0 f0 ?_
  refine go_getf (x := 50) (ci := 7) (kf := 16) (fin := 1) (t := 2) (by decide +kernel) (by decide +kernel) (by decide +kernel) R f0 g0 fun v_6 f_7 => ?_
  have f_8 := q_is_eq f_7 e_5
  obtain ⟨g_9, h⟩ := gd_s h
  obtain ⟨x_11, hc_10, h⟩ := bp_s h
  refine go_callV (x := 88) (mi := 25) (n := 0) (ci := 3) (as := []) (rest := [v_1]) (by decide +kernel) (by decide +kernel) rfl rfl (q_sum8 _ (Nat.le_of_ble_eq_true rfl)) R f_8 g_9 (om_X2_firstNew (Nat.le_trans (by decide) hd) R g_9 f_8 hc_10) (fun _ S_15 q_18 => ?_) (fun _ _ qq => kr_x qq)
  refine kr_z (by decide) q_18 fun v_13 f_14 R_16 E_17 => ?_
  obtain ⟨x_20, hc_19, h⟩ := bp_s h
  refine go_callV (x := 92) (mi := 14) (n := 1) (ci := 3) (as := [v_13]) (rest := []) (by decide +kernel) (by decide +kernel) rfl rfl (q_sum8 _ (Nat.le_of_ble_eq_true rfl)) R_16 f_3 g_9 (om_X2_orderOfArrival (Nat.le_trans (by decide) hd) R_16 g_9 f_3 f_14 hc_19) (fun _ S_24 q_27 => ?_) (fun _ _ qq => kr_x qq)
  refine kr_z (by decide) q_27 fun v_22 f_23 R_25 E_26 => ?_
  cases h
  exact go_iret (by decide +kernel) rfl (Or.inl rfl) f_23 (hQ _ _ R_25 (q_out_v (by decide) f_23))
noncomputable def fm_X6_mark (p0 : Int) (m0 : MM) : Option Int := lx (m0 p0 9) fun x_4 =>
lx (m0 p0 16) fun x_13 =>
gd (okc m0 x_13 3) <| lx (m0 x_13 3) fun x_19 =>
lx (m0 p0 3) fun x_30 =>
some (w32 ((w32 ((w32 ((w32 (x_4 * 1000)) + x_19)) * 4)) + x_30))
set_option maxHeartbeats 4000000 in
theorem om_X6_mark {xs : List Int32} {d : Nat} {S : QS} {m0 : MM} {p0 : Int} {v0 : Value} {rz : Int}
  (hd : 1 ≤ d) (R : Rp S m0) (g0 : okc m0 p0 7) (f0 : q_is 2 v0 p0)
  (h : fm_X6_mark p0 m0 = some rz) : Mt xs d 69 [v0] S (Cr 0 m0 m0 rz) := by
  obtain ⟨d, rfl⟩ : ∃ e, d = e + 1 := ⟨d - 1, by omega⟩
  have hd : 0 ≤ d := Nat.le_of_succ_le_succ hd
  refine Mt.of (M := qM_X6_mark) rfl (by rw [sl_1 (q_is_cat f0 (Or.inr rfl)), sl_0]; decide) ?_
  rw [la_1 (q_is_cat f0 (Or.inr rfl)), la_0]
  obtain ⟨L, hL⟩ : ∃ L : QL, L = [(0, v0)] := ⟨_, rfl⟩
  rw [← hL]
  have l0 : q_lo L 0 = some v0 := by rw [hL]; rfl
  have hQ : ∀ o S1, Rp S1 m0 → q_out 0 o rz → (Cr 0 m0 m0 rz) o S1 := fun o S1 a b => ⟨a, Ext.rf _, b⟩
  unfold fm_X6_mark at h
  refine go_aload_n (n := 0) (by decide +kernel) l0 f0 ?_
  obtain ⟨x_4, e_5, h⟩ := lx_s h
  refine go_getf (x := 21) (ci := 7) (kf := 9) (fin := 0) (t := 0) (by decide +kernel) (by decide +kernel) (by decide +kernel) R f0 g0 fun v_1 f_2 => ?_
  have f_3 := q_is_eq f_2 e_5
  refine go_sipush (n := 1000) (z := 1000) (by decide +kernel) (by decide) fun v_6 f_7 => ?_
  refine go_imul (by decide +kernel) f_3 f_7 fun v_8 f_9 => ?_
  refine go_aload_n (n := 0) (by decide +kernel) l0 f0 ?_
  obtain ⟨x_13, e_14, h⟩ := lx_s h
  refine go_getf (x := 50) (ci := 7) (kf := 16) (fin := 1) (t := 2) (by decide +kernel) (by decide +kernel) (by decide +kernel) R f0 g0 fun v_10 f_11 => ?_
  have f_12 := q_is_eq f_11 e_14
  obtain ⟨g_17, h⟩ := gd_s h
  obtain ⟨x_19, e_20, h⟩ := lx_s h
  refine go_getf (x := 96) (ci := 3) (kf := 3) (fin := 0) (t := 0) (by decide +kernel) (by decide +kernel) (by decide +kernel) R f_12 g_17 fun v_15 f_16 => ?_
  have f_18 := q_is_eq f_16 e_20
  refine go_iadd (by decide +kernel) f_9 f_18 fun v_21 f_22 => ?_
  refine go_iconst (n := 4) (z := 4) (by decide +kernel) (by decide) fun v_23 f_24 => ?_
  refine go_imul (by decide +kernel) f_22 f_24 fun v_25 f_26 => ?_
  refine go_aload_n (n := 0) (by decide +kernel) l0 f0 ?_
  obtain ⟨x_30, e_31, h⟩ := lx_s h
  refine go_getf (x := 73) (ci := 7) (kf := 3) (fin := 0) (t := 0) (by decide +kernel) (by decide +kernel) (by decide +kernel) R f0 g0 fun v_27 f_28 => ?_
  have f_29 := q_is_eq f_28 e_31
  refine go_iadd (by decide +kernel) f_26 f_29 fun v_32 f_33 => ?_
  cases h
  exact go_iret (by decide +kernel) rfl (Or.inl rfl) f_33 (hQ _ _ R (q_out_v (by decide) f_33))
noncomputable def fm_X6_isKeptBy (p0 p1 : Int) (m0 : MM) : Option Int := lx (m0 p0 12) fun x_4 =>
if x_4 = p1 then
lx (m0 p0 13) fun x_12 =>
bp (fm_X6_mark p0 m0) fun x_15 =>
if x_12 = x_15 then
some 1
else
some 0
else
some 0
set_option maxHeartbeats 4000000 in
theorem om_X6_isKeptBy {xs : List Int32} {d : Nat} {S : QS} {m0 : MM} {p0 p1 : Int} {v0 : Value} {v1 : Value} {rz : Int}
  (hd : 2 ≤ d) (R : Rp S m0) (g0 : okc m0 p0 7) (f0 : q_is 2 v0 p0) (f1 : q_is 0 v1 p1)
  (h : fm_X6_isKeptBy p0 p1 m0 = some rz) : Mt xs d 70 [v0, v1] S (Cr 0 m0 m0 rz) := by
  obtain ⟨d, rfl⟩ : ∃ e, d = e + 1 := ⟨d - 1, by omega⟩
  have hd : 1 ≤ d := Nat.le_of_succ_le_succ hd
  refine Mt.of (M := qM_X6_isKeptBy) rfl (by rw [sl_1 (q_is_cat f0 (Or.inr rfl)), sl_1 (q_is_cat f1 (Or.inl rfl)), sl_0]; decide) ?_
  rw [la_1 (q_is_cat f0 (Or.inr rfl)), la_1 (q_is_cat f1 (Or.inl rfl)), la_0]
  obtain ⟨L, hL⟩ : ∃ L : QL, L = [(0, v0), (0 + 1, v1)] := ⟨_, rfl⟩
  rw [← hL]
  have l0 : q_lo L 0 = some v0 := by rw [hL]; rfl
  have l1 : q_lo L 1 = some v1 := by rw [hL]; rfl
  have hQ : ∀ o S1, Rp S1 m0 → q_out 0 o rz → (Cr 0 m0 m0 rz) o S1 := fun o S1 a b => ⟨a, Ext.rf _, b⟩
  unfold fm_X6_isKeptBy at h
  refine go_aload_n (n := 0) (by decide +kernel) l0 f0 ?_
  obtain ⟨x_4, e_5, h⟩ := lx_s h
  refine go_getf (x := 30) (ci := 7) (kf := 12) (fin := 0) (t := 0) (by decide +kernel) (by decide +kernel) (by decide +kernel) R f0 g0 fun v_1 f_2 => ?_
  have f_3 := q_is_eq f_2 e_5
  refine go_iload_n (n := 1) (by decide +kernel) l1 f1 ?_
  refine go_icmp (c := .ne) (o := 18) (t := 23) (P := ¬ (x_4 = p1)) (by decide +kernel) (by decide +kernel) f_3 f1 (Iff.rfl) (fun hp_6 => ?_) (fun hp_6 => ?_)
  · have h := it_f hp_6 h
    refine go_iconst (n := 0) (z := 0) (by decide +kernel) (by decide) fun v_7 f_8 => ?_
    cases h
    exact go_iret (by decide +kernel) rfl (Or.inr ⟨rfl, by decide⟩) f_8 (hQ _ _ R (q_out_v (by decide) f_8))
  · have h := it_n hp_6 h
    refine go_aload_n (n := 0) (by decide +kernel) l0 f0 ?_
    obtain ⟨x_12, e_13, h⟩ := lx_s h
    refine go_getf (x := 33) (ci := 7) (kf := 13) (fin := 0) (t := 0) (by decide +kernel) (by decide +kernel) (by decide +kernel) R f0 g0 fun v_9 f_10 => ?_
    have f_11 := q_is_eq f_10 e_13
    refine go_aload_n (n := 0) (by decide +kernel) l0 f0 ?_
    obtain ⟨x_15, hc_14, h⟩ := bp_s h
    refine go_callV (x := 99) (mi := 69) (n := 0) (ci := 7) (as := []) (rest := [v_9]) (by decide +kernel) (by decide +kernel) rfl rfl (q_sum8 _ (Nat.le_of_ble_eq_true rfl)) R f0 g0 (om_X6_mark (Nat.le_trans (by decide) hd) R g0 f0 hc_14) (fun _ S_19 q_22 => ?_) (fun _ _ qq => kr_x qq)
    refine kr_z (by decide) q_22 fun v_17 f_18 R_20 E_21 => ?_
    refine go_icmp (c := .ne) (o := 7) (t := 23) (P := ¬ (x_12 = x_15)) (by decide +kernel) (by decide +kernel) f_11 f_18 (Iff.rfl) (fun hp_23 => ?_) (fun hp_23 => ?_)
    · have h := it_f hp_23 h
      refine go_iconst (n := 0) (z := 0) (by decide +kernel) (by decide) fun v_24 f_25 => ?_
      cases h
      exact go_iret (by decide +kernel) rfl (Or.inr ⟨rfl, by decide⟩) f_25 (hQ _ _ R_20 (q_out_v (by decide) f_25))
    · have h := it_n hp_23 h
      refine go_iconst (n := 1) (z := 1) (by decide +kernel) (by decide) fun v_26 f_27 => ?_
      refine go_goto (o := 4) (t := 24) (by decide +kernel) (by decide +kernel) ?_
      cases h
      exact go_iret (by decide +kernel) rfl (Or.inr ⟨rfl, by decide⟩) f_27 (hQ _ _ R_20 (q_out_v (by decide) f_27))
noncomputable def fm_X6_addTimer (p0 p1 p2 : Int) (m0 : MM) : Option (Int × MM) := lx (m0 p0 17) fun x_4 =>
gd (okc m0 x_4 6) <| bd (fm_X5_add x_4 p1 m0) fun x_10 m_11 =>
lx (m_11 p0 18) fun x_23 =>
gd (okc m_11 x_23 6) <| bd (fm_X5_add x_23 p2 m_11) fun x_29 m_30 =>
some (0, m_30)
set_option maxHeartbeats 4000000 in
theorem om_X6_addTimer {xs : List Int32} {d : Nat} {S : QS} {m0 : MM} {p0 p1 p2 : Int} {v0 : Value} {v1 : Value} {v2 : Value} {rz : Int} {rm : MM}
  (hd : 2 ≤ d) (R : Rp S m0) (g0 : okc m0 p0 7) (f0 : q_is 2 v0 p0) (f1 : q_is 0 v1 p1) (f2 : q_is 0 v2 p2)
  (h : fm_X6_addTimer p0 p1 p2 m0 = some (rz, rm)) : Mt xs d 71 [v0, v1, v2] S (Cr 9 m0 rm rz) := by
  obtain ⟨d, rfl⟩ : ∃ e, d = e + 1 := ⟨d - 1, by omega⟩
  have hd : 1 ≤ d := Nat.le_of_succ_le_succ hd
  refine Mt.of (M := qM_X6_addTimer) rfl (by rw [sl_1 (q_is_cat f0 (Or.inr rfl)), sl_1 (q_is_cat f1 (Or.inl rfl)), sl_1 (q_is_cat f2 (Or.inl rfl)), sl_0]; decide) ?_
  rw [la_1 (q_is_cat f0 (Or.inr rfl)), la_1 (q_is_cat f1 (Or.inl rfl)), la_1 (q_is_cat f2 (Or.inl rfl)), la_0]
  obtain ⟨L, hL⟩ : ∃ L : QL, L = [(0, v0), (0 + 1, v1), (0 + 1 + 1, v2)] := ⟨_, rfl⟩
  rw [← hL]
  have l0 : q_lo L 0 = some v0 := by rw [hL]; rfl
  have l1 : q_lo L 1 = some v1 := by rw [hL]; rfl
  have l2 : q_lo L 2 = some v2 := by rw [hL]; rfl
  have hQ : Ext m0 rm → ∀ o S1, Rp S1 rm → q_out 9 o rz → (Cr 9 m0 rm rz) o S1 := fun a o S1 b e => ⟨b, a, e⟩
  unfold fm_X6_addTimer at h
  refine go_aload_n (n := 0) (by decide +kernel) l0 f0 ?_
  obtain ⟨x_4, e_5, h⟩ := lx_s h
  refine go_getf (x := 54) (ci := 7) (kf := 17) (fin := 1) (t := 2) (by decide +kernel) (by decide +kernel) (by decide +kernel) R f0 g0 fun v_1 f_2 => ?_
  have f_3 := q_is_eq f_2 e_5
  refine go_iload_n (n := 1) (by decide +kernel) l1 f1 ?_
  refine go_i2l (by decide +kernel) f1 fun v_6 f_7 => ?_
  obtain ⟨g_8, h⟩ := gd_s h
  obtain ⟨x_10, m_11, hc_9, h⟩ := bd_s h
  refine go_callV (x := 102) (mi := 60) (n := 1) (ci := 6) (as := [v_6]) (rest := []) (by decide +kernel) (by decide +kernel) rfl rfl (q_sum8 _ (Nat.le_of_ble_eq_true rfl)) R f_3 g_8 (om_X5_add (Nat.le_trans (by decide) hd) R g_8 f_3 f_7 hc_9) (fun _ S_14 q_17 => ?_) (fun _ _ qq => kr_x qq)
  refine kr_v q_17 fun R_15 E_16 => ?_
  have E_18 := E_16
  refine go_aload_n (n := 0) (by decide +kernel) l0 f0 ?_
  have g_21 := Ext.ok E_16 g0
  obtain ⟨x_23, e_24, h⟩ := lx_s h
  refine go_getf (x := 58) (ci := 7) (kf := 18) (fin := 1) (t := 2) (by decide +kernel) (by decide +kernel) (by decide +kernel) R_15 f0 g_21 fun v_19 f_20 => ?_
  have f_22 := q_is_eq f_20 e_24
  refine go_iload_n (n := 2) (by decide +kernel) l2 f2 ?_
  refine go_i2l (by decide +kernel) f2 fun v_25 f_26 => ?_
  obtain ⟨g_27, h⟩ := gd_s h
  obtain ⟨x_29, m_30, hc_28, h⟩ := bd_s h
  refine go_callV (x := 102) (mi := 60) (n := 1) (ci := 6) (as := [v_25]) (rest := []) (by decide +kernel) (by decide +kernel) rfl rfl (q_sum8 _ (Nat.le_of_ble_eq_true rfl)) R_15 f_22 g_27 (om_X5_add (Nat.le_trans (by decide) hd) R_15 g_27 f_22 f_26 hc_28) (fun _ S_33 q_36 => ?_) (fun _ _ qq => kr_x qq)
  refine kr_v q_36 fun R_34 E_35 => ?_
  have E_37 := Ext.tr E_18 E_35
  cases h
  exact go_vret (by decide +kernel) rfl (hQ E_37 _ _ R_34 q_out_n)
noncomputable def fl_X6_dropTimer_10 (p0 y1 : Int) : Nat → Int → MM → Option (Int × MM)
  | 0, _, _ => none
  | n + 1, y2, m => if y2 < 0 then
some (0, m)
else
lx (m p0 17) fun x_28 =>
gd (okc m x_28 6) <| bp (fm_X5_at x_28 y2 m) fun x_32 =>
if x_32 = y1 then
bd (fm_X5_removeAt x_28 y2 m) fun x_55 m_56 =>
lx (m_56 p0 18) fun x_68 =>
gd (okc m_56 x_68 6) <| bd (fm_X5_removeAt x_68 y2 m_56) fun x_72 m_73 =>
lx (w32 (y2 + (-1))) fun x_86 =>
fl_X6_dropTimer_10 p0 y1 n x_86 m_73
else
lx (w32 (y2 + (-1))) fun x_46 =>
fl_X6_dropTimer_10 p0 y1 n x_46 m
set_option maxHeartbeats 4000000 in
theorem ol_X6_dropTimer_10 {xs : List Int32} {d : Nat} {Q : QO → QS → Prop} {mb : MM} {p0 y1 : Int} {rz : Int} {rm : MM}
  (hd : 2 ≤ d) (gb : okc mb p0 7)
  (hQ : Ext mb rm → ∀ o S1, Rp S1 rm → q_out 9 o rz → Q o S1) :
  ∀ (n : Nat) {m : MM} {S : QS} {L : QL} {y2 : Int} {v0 : Value} {v1 : Value} {v2 : Value} , Ext mb m → fl_X6_dropTimer_10 p0 y1 n y2 m = some (rz, rm) → Rp S m → q_lo L 0 = some v0 → q_is 2 v0 p0 → q_lo L 1 = some v1 → q_is 0 v1 y1 → q_lo L 2 = some v2 → q_is 0 v2 y2 → Go xs d qM_X6_dropTimer 10 L [] S Q := by
  intro n
  induction n with
  | zero => intro m S L y2 v0 v1 v2; intro E h R l0 f0 l1 f1 l2 f2; cases h
  | succ n ih0 =>
    intro m S L y2 v0 v1 v2; intro E h R l0 f0 l1 f1 l2 f2
    have ih : ∀ mq : MM, Ext mb mq → ∀ {z2 : Int} {Sq : QS} {Lq : QL} {u0 : Value} {u1 : Value} {u2 : Value}, fl_X6_dropTimer_10 p0 y1 n z2 mq = some (rz, rm) → Rp Sq mq → q_lo Lq 0 = some u0 → q_is 2 u0 p0 → q_lo Lq 1 = some u1 → q_is 0 u1 y1 → q_lo Lq 2 = some u2 → q_is 0 u2 z2 → Go xs d qM_X6_dropTimer 10 Lq [] Sq Q := fun mq b => by intros; exact ih0 b ‹_› ‹_› ‹_› ‹_› ‹_› ‹_› ‹_› ‹_›
    have g0 := Ext.ok E gb
    unfold fl_X6_dropTimer_10 at h
    refine go_iload_n (n := 2) (by decide +kernel) l2 f2 ?_
    refine go_if (c := .lt) (o := 37) (t := 48) (P := y2 < 0) (by decide +kernel) (by decide +kernel) f2 (Iff.rfl) (fun hp_24 => ?_) (fun hp_24 => ?_)
    · have h := it_t hp_24 h
      cases h
      exact go_vret (by decide +kernel) rfl (hQ E _ _ R q_out_n)
    · have h := it_f hp_24 h
      refine go_aload_n (n := 0) (by decide +kernel) l0 f0 ?_
      obtain ⟨x_28, e_29, h⟩ := lx_s h
      refine go_getf (x := 54) (ci := 7) (kf := 17) (fin := 1) (t := 2) (by decide +kernel) (by decide +kernel) (by decide +kernel) R f0 g0 fun v_25 f_26 => ?_
      have f_27 := q_is_eq f_26 e_29
      refine go_iload_n (n := 2) (by decide +kernel) l2 f2 ?_
      obtain ⟨g_30, h⟩ := gd_s h
      obtain ⟨x_32, hc_31, h⟩ := bp_s h
      refine go_callV (x := 109) (mi := 59) (n := 1) (ci := 6) (as := [v2]) (rest := []) (by decide +kernel) (by decide +kernel) rfl rfl (q_sum8 _ (Nat.le_of_ble_eq_true rfl)) R f_27 g_30 (om_X5_at (Nat.le_trans (by decide) hd) R g_30 f_27 f2 hc_31) (fun _ S_36 q_39 => ?_) (fun _ _ qq => kr_x qq)
      refine kr_z (by decide) q_39 fun v_34 f_35 R_37 E_38 => ?_
      refine go_iload_n (n := 1) (by decide +kernel) l1 f1 ?_
      refine go_icmp (c := .ne) (o := 19) (t := 42) (P := ¬ (x_32 = y1)) (by decide +kernel) (by decide +kernel) f_35 f1 (Iff.rfl) (fun hp_40 => ?_) (fun hp_40 => ?_)
      · have h := it_f hp_40 h
        refine go_iinc (n := 2) (c := (-1)) (c' := (-1)) (by decide +kernel) (by decide +kernel) l2 f2 (by decide) fun L_41 v_42 f_43 l_44 kp_45 => ?_
        obtain ⟨x_46, e_47, h⟩ := lx_s h
        have f_48 := q_is_eq f_43 e_47
        have l_49 := kp_45 0 _ l0 (by decide) (Or.inl (by decide))
        have l_50 := kp_45 1 _ l1 (by decide) (Or.inr (q_is_cat f1 (Or.inl rfl)))
        refine go_goto (o := (-35)) (t := 10) (by decide +kernel) (by decide +kernel) ?_
        exact ih m E h R_37 l_49 f0 l_50 f1 l_44 f_48
      · have h := it_n hp_40 h
        refine go_aload_n (n := 0) (by decide +kernel) l0 f0 ?_
        refine go_getf (x := 54) (ci := 7) (kf := 17) (fin := 1) (t := 2) (by decide +kernel) (by decide +kernel) (by decide +kernel) R_37 f0 g0 fun v_51 f_52 => ?_
        have f_53 := q_is_eq f_52 e_29
        refine go_iload_n (n := 2) (by decide +kernel) l2 f2 ?_
        obtain ⟨x_55, m_56, hc_54, h⟩ := bd_s h
        refine go_callV (x := 112) (mi := 61) (n := 1) (ci := 6) (as := [v2]) (rest := []) (by decide +kernel) (by decide +kernel) rfl rfl (q_sum8 _ (Nat.le_of_ble_eq_true rfl)) R_37 f_53 g_30 (om_X5_removeAt (Nat.le_trans (by decide) hd) R_37 g_30 f_53 f2 hc_54) (fun _ S_59 q_62 => ?_) (fun _ _ qq => kr_x qq)
        refine kr_v q_62 fun R_60 E_61 => ?_
        have E_63 := Ext.tr E E_61
        refine go_aload_n (n := 0) (by decide +kernel) l0 f0 ?_
        have g_66 := Ext.ok E_61 g0
        obtain ⟨x_68, e_69, h⟩ := lx_s h
        refine go_getf (x := 58) (ci := 7) (kf := 18) (fin := 1) (t := 2) (by decide +kernel) (by decide +kernel) (by decide +kernel) R_60 f0 g_66 fun v_64 f_65 => ?_
        have f_67 := q_is_eq f_65 e_69
        refine go_iload_n (n := 2) (by decide +kernel) l2 f2 ?_
        obtain ⟨g_70, h⟩ := gd_s h
        obtain ⟨x_72, m_73, hc_71, h⟩ := bd_s h
        refine go_callV (x := 112) (mi := 61) (n := 1) (ci := 6) (as := [v2]) (rest := []) (by decide +kernel) (by decide +kernel) rfl rfl (q_sum8 _ (Nat.le_of_ble_eq_true rfl)) R_60 f_67 g_70 (om_X5_removeAt (Nat.le_trans (by decide) hd) R_60 g_70 f_67 f2 hc_71) (fun _ S_76 q_79 => ?_) (fun _ _ qq => kr_x qq)
        refine kr_v q_79 fun R_77 E_78 => ?_
        have E_80 := Ext.tr E_63 E_78
        refine go_iinc (n := 2) (c := (-1)) (c' := (-1)) (by decide +kernel) (by decide +kernel) l2 f2 (by decide) fun L_81 v_82 f_83 l_84 kp_85 => ?_
        obtain ⟨x_86, e_87, h⟩ := lx_s h
        have f_88 := q_is_eq f_83 e_87
        have l_89 := kp_85 0 _ l0 (by decide) (Or.inl (by decide))
        have l_90 := kp_85 1 _ l1 (by decide) (Or.inr (q_is_cat f1 (Or.inl rfl)))
        refine go_goto (o := (-35)) (t := 10) (by decide +kernel) (by decide +kernel) ?_
        exact ih m_73 E_80 h R_77 l_89 f0 l_90 f1 l_84 f_88
noncomputable def fm_X6_dropTimer (p0 p1 : Int) (m0 : MM) : Option (Int × MM) := lx (m0 p0 17) fun x_4 =>
gd (okc m0 x_4 6) <| lx (m0 x_4 2) fun x_10 =>
lx (w32 (x_10 - 1)) fun x_16 =>
fl_X6_dropTimer_10 p0 p1  BIG x_16 m0
set_option maxHeartbeats 4000000 in
theorem om_X6_dropTimer {xs : List Int32} {d : Nat} {S : QS} {m0 : MM} {p0 p1 : Int} {v0 : Value} {v1 : Value} {rz : Int} {rm : MM}
  (hd : 3 ≤ d) (R : Rp S m0) (g0 : okc m0 p0 7) (f0 : q_is 2 v0 p0) (f1 : q_is 0 v1 p1)
  (h : fm_X6_dropTimer p0 p1 m0 = some (rz, rm)) : Mt xs d 72 [v0, v1] S (Cr 9 m0 rm rz) := by
  obtain ⟨d, rfl⟩ : ∃ e, d = e + 1 := ⟨d - 1, by omega⟩
  have hd : 2 ≤ d := Nat.le_of_succ_le_succ hd
  refine Mt.of (M := qM_X6_dropTimer) rfl (by rw [sl_1 (q_is_cat f0 (Or.inr rfl)), sl_1 (q_is_cat f1 (Or.inl rfl)), sl_0]; decide) ?_
  rw [la_1 (q_is_cat f0 (Or.inr rfl)), la_1 (q_is_cat f1 (Or.inl rfl)), la_0]
  obtain ⟨L, hL⟩ : ∃ L : QL, L = [(0, v0), (0 + 1, v1)] := ⟨_, rfl⟩
  rw [← hL]
  have l0 : q_lo L 0 = some v0 := by rw [hL]; rfl
  have l1 : q_lo L 1 = some v1 := by rw [hL]; rfl
  have hQ : Ext m0 rm → ∀ o S1, Rp S1 rm → q_out 9 o rz → (Cr 9 m0 rm rz) o S1 := fun a o S1 b e => ⟨b, a, e⟩
  unfold fm_X6_dropTimer at h
  refine go_aload_n (n := 0) (by decide +kernel) l0 f0 ?_
  obtain ⟨x_4, e_5, h⟩ := lx_s h
  refine go_getf (x := 54) (ci := 7) (kf := 17) (fin := 1) (t := 2) (by decide +kernel) (by decide +kernel) (by decide +kernel) R f0 g0 fun v_1 f_2 => ?_
  have f_3 := q_is_eq f_2 e_5
  obtain ⟨g_8, h⟩ := gd_s h
  obtain ⟨x_10, e_11, h⟩ := lx_s h
  refine go_getf (x := 106) (ci := 6) (kf := 2) (fin := 0) (t := 0) (by decide +kernel) (by decide +kernel) (by decide +kernel) R f_3 g_8 fun v_6 f_7 => ?_
  have f_9 := q_is_eq f_7 e_11
  refine go_iconst (n := 1) (z := 1) (by decide +kernel) (by decide) fun v_12 f_13 => ?_
  refine go_isub (by decide +kernel) f_9 f_13 fun v_14 f_15 => ?_
  obtain ⟨x_16, e_17, h⟩ := lx_s h
  have f_18 := q_is_eq f_15 e_17
  refine go_istore_n (n := 2) (by decide +kernel) (by decide +kernel) f_18 fun L_19 l_20 kp_21 => ?_
  have l_22 := kp_21 0 _ l0 (by decide) (Or.inl (by decide))
  have l_23 := kp_21 1 _ l1 (by decide) (Or.inr (q_is_cat f1 (Or.inl rfl)))
  refine ol_X6_dropTimer_10 hd  g0  hQ BIG (Ext.rf _) h R l_22 f0 l_23 f1 l_20 f_18
noncomputable def fm_X7_init (p0 p1 p2 p3 p4 p5 : Int) (m0 : MM) : Option (Int × MM) := up m0 p0 5 0 fun m_3 =>
up m_3 p0 6 (-1) fun m_12 =>
up m_12 p0 7 0 fun m_21 =>
up m_21 p0 8 0 fun m_30 =>
up m_30 p0 0 p1 fun m_37 =>
up m_37 p0 1 p2 fun m_44 =>
up m_44 p0 2 p3 fun m_51 =>
up m_51 p0 3 p4 fun m_58 =>
up m_58 p0 4 p5 fun m_65 =>
some (0, m_65)
set_option maxHeartbeats 4000000 in
theorem om_X7_init {xs : List Int32} {d : Nat} {S : QS} {m0 : MM} {p0 p1 p2 p3 p4 p5 : Int} {v0 : Value} {v1 : Value} {v2 : Value} {v3 : Value} {v4 : Value} {v5 : Value} {rz : Int} {rm : MM}
  (hd : 1 ≤ d) (R : Rp S m0) (g0 : okc m0 p0 8) (f0 : q_is 2 v0 p0) (f1 : q_is 0 v1 p1) (f2 : q_is 0 v2 p2) (f3 : q_is 0 v3 p3) (f4 : q_is 0 v4 p4) (f5 : q_is 0 v5 p5)
  (h : fm_X7_init p0 p1 p2 p3 p4 p5 m0 = some (rz, rm)) : Mt xs d 73 [v0, v1, v2, v3, v4, v5] S (Cr 9 m0 rm rz) := by
  obtain ⟨d, rfl⟩ : ∃ e, d = e + 1 := ⟨d - 1, by omega⟩
  have hd : 0 ≤ d := Nat.le_of_succ_le_succ hd
  refine Mt.of (M := qM_X7_init) rfl (by rw [sl_1 (q_is_cat f0 (Or.inr rfl)), sl_1 (q_is_cat f1 (Or.inl rfl)), sl_1 (q_is_cat f2 (Or.inl rfl)), sl_1 (q_is_cat f3 (Or.inl rfl)), sl_1 (q_is_cat f4 (Or.inl rfl)), sl_1 (q_is_cat f5 (Or.inl rfl)), sl_0]; decide) ?_
  rw [la_1 (q_is_cat f0 (Or.inr rfl)), la_1 (q_is_cat f1 (Or.inl rfl)), la_1 (q_is_cat f2 (Or.inl rfl)), la_1 (q_is_cat f3 (Or.inl rfl)), la_1 (q_is_cat f4 (Or.inl rfl)), la_1 (q_is_cat f5 (Or.inl rfl)), la_0]
  obtain ⟨L, hL⟩ : ∃ L : QL, L = [(0, v0), (0 + 1, v1), (0 + 1 + 1, v2), (0 + 1 + 1 + 1, v3), (0 + 1 + 1 + 1 + 1, v4), (0 + 1 + 1 + 1 + 1 + 1, v5)] := ⟨_, rfl⟩
  rw [← hL]
  have l0 : q_lo L 0 = some v0 := by rw [hL]; rfl
  have l1 : q_lo L 1 = some v1 := by rw [hL]; rfl
  have l2 : q_lo L 2 = some v2 := by rw [hL]; rfl
  have l3 : q_lo L 3 = some v3 := by rw [hL]; rfl
  have l4 : q_lo L 4 = some v4 := by rw [hL]; rfl
  have l5 : q_lo L 5 = some v5 := by rw [hL]; rfl
  have hQ : Ext m0 rm → ∀ o S1, Rp S1 rm → q_out 9 o rz → (Cr 9 m0 rm rz) o S1 := fun a o S1 b e => ⟨b, a, e⟩
  unfold fm_X7_init at h
  refine go_aload_n (n := 0) (by decide +kernel) l0 f0 ?_
  refine go_oinit (x := 1) (a := 0) (b := 0) (e := 0) (by decide +kernel) (by decide +kernel) f0 (okc_ne g0) (q_sum8 _ (Nat.le_of_ble_eq_true rfl)) ?_
  refine go_aload_n (n := 0) (by decide +kernel) l0 f0 ?_
  refine go_iconst (n := 0) (z := 0) (by decide +kernel) (by decide) fun v_1 f_2 => ?_
  obtain ⟨m_3, e_4, h⟩ := up_s h
  refine go_putf (x := 7) (ci := 8) (kf := 5) (fin := 0) (zt := 1) (by decide +kernel) (by decide +kernel) (by decide) (by decide +kernel) (by decide) (Or.inl rfl) R f0 f_2 (fun _ => by decide) g0 e_4 (fx_f (j := 5) R.2 g0 (by decide +kernel)) fun S_5 R_6 E_7 => ?_
  have E_8 := E_7
  refine go_aload_n (n := 0) (by decide +kernel) l0 f0 ?_
  refine go_iconst (n := (-1)) (z := (-1)) (by decide +kernel) (by decide) fun v_9 f_10 => ?_
  have g_11 := Ext.ok E_7 g0
  obtain ⟨m_12, e_13, h⟩ := up_s h
  refine go_putf (x := 13) (ci := 8) (kf := 6) (fin := 0) (zt := 0) (by decide +kernel) (by decide +kernel) (by decide) (by decide +kernel) (by decide) (Or.inl rfl) R_6 f0 f_10 (fun hq => absurd hq (by decide)) g_11 e_13 (fx_f (j := 6) R_6.2 g_11 (by decide +kernel)) fun S_14 R_15 E_16 => ?_
  have E_17 := Ext.tr E_8 E_16
  refine go_aload_n (n := 0) (by decide +kernel) l0 f0 ?_
  refine go_iconst (n := 0) (z := 0) (by decide +kernel) (by decide) fun v_18 f_19 => ?_
  have g_20 := Ext.ok E_16 g_11
  obtain ⟨m_21, e_22, h⟩ := up_s h
  refine go_putf (x := 17) (ci := 8) (kf := 7) (fin := 0) (zt := 1) (by decide +kernel) (by decide +kernel) (by decide) (by decide +kernel) (by decide) (Or.inl rfl) R_15 f0 f_19 (fun _ => by decide) g_20 e_22 (fx_f (j := 7) R_15.2 g_20 (by decide +kernel)) fun S_23 R_24 E_25 => ?_
  have E_26 := Ext.tr E_17 E_25
  refine go_aload_n (n := 0) (by decide +kernel) l0 f0 ?_
  refine go_iconst (n := 0) (z := 0) (by decide +kernel) (by decide) fun v_27 f_28 => ?_
  have g_29 := Ext.ok E_25 g_20
  obtain ⟨m_30, e_31, h⟩ := up_s h
  refine go_putf (x := 20) (ci := 8) (kf := 8) (fin := 0) (zt := 0) (by decide +kernel) (by decide +kernel) (by decide) (by decide +kernel) (by decide) (Or.inl rfl) R_24 f0 f_28 (fun hq => absurd hq (by decide)) g_29 e_31 (fx_f (j := 8) R_24.2 g_29 (by decide +kernel)) fun S_32 R_33 E_34 => ?_
  have E_35 := Ext.tr E_26 E_34
  refine go_aload_n (n := 0) (by decide +kernel) l0 f0 ?_
  refine go_iload_n (n := 1) (by decide +kernel) l1 f1 ?_
  have g_36 := Ext.ok E_34 g_29
  obtain ⟨m_37, e_38, h⟩ := up_s h
  refine go_putf (x := 23) (ci := 8) (kf := 0) (fin := 1) (zt := 0) (by decide +kernel) (by decide +kernel) (by decide) (by decide +kernel) (by decide) (Or.inr ⟨rfl, rfl⟩) R_33 f0 f1 (fun hq => absurd hq (by decide)) g_36 e_38 (fx_f (j := 0) R_33.2 g_36 (by decide +kernel)) fun S_39 R_40 E_41 => ?_
  have E_42 := Ext.tr E_35 E_41
  refine go_aload_n (n := 0) (by decide +kernel) l0 f0 ?_
  refine go_iload_n (n := 2) (by decide +kernel) l2 f2 ?_
  have g_43 := Ext.ok E_41 g_36
  obtain ⟨m_44, e_45, h⟩ := up_s h
  refine go_putf (x := 26) (ci := 8) (kf := 1) (fin := 1) (zt := 0) (by decide +kernel) (by decide +kernel) (by decide) (by decide +kernel) (by decide) (Or.inr ⟨rfl, rfl⟩) R_40 f0 f2 (fun hq => absurd hq (by decide)) g_43 e_45 (fx_f (j := 1) R_40.2 g_43 (by decide +kernel)) fun S_46 R_47 E_48 => ?_
  have E_49 := Ext.tr E_42 E_48
  refine go_aload_n (n := 0) (by decide +kernel) l0 f0 ?_
  refine go_iload_n (n := 3) (by decide +kernel) l3 f3 ?_
  have g_50 := Ext.ok E_48 g_43
  obtain ⟨m_51, e_52, h⟩ := up_s h
  refine go_putf (x := 29) (ci := 8) (kf := 2) (fin := 1) (zt := 0) (by decide +kernel) (by decide +kernel) (by decide) (by decide +kernel) (by decide) (Or.inr ⟨rfl, rfl⟩) R_47 f0 f3 (fun hq => absurd hq (by decide)) g_50 e_52 (fx_f (j := 2) R_47.2 g_50 (by decide +kernel)) fun S_53 R_54 E_55 => ?_
  have E_56 := Ext.tr E_49 E_55
  refine go_aload_n (n := 0) (by decide +kernel) l0 f0 ?_
  refine go_iload (n := 4) (by decide +kernel) l4 f4 ?_
  have g_57 := Ext.ok E_55 g_50
  obtain ⟨m_58, e_59, h⟩ := up_s h
  refine go_putf (x := 32) (ci := 8) (kf := 3) (fin := 1) (zt := 0) (by decide +kernel) (by decide +kernel) (by decide) (by decide +kernel) (by decide) (Or.inr ⟨rfl, rfl⟩) R_54 f0 f4 (fun hq => absurd hq (by decide)) g_57 e_59 (fx_f (j := 3) R_54.2 g_57 (by decide +kernel)) fun S_60 R_61 E_62 => ?_
  have E_63 := Ext.tr E_56 E_62
  refine go_aload_n (n := 0) (by decide +kernel) l0 f0 ?_
  refine go_iload (n := 5) (by decide +kernel) l5 f5 ?_
  have g_64 := Ext.ok E_62 g_57
  obtain ⟨m_65, e_66, h⟩ := up_s h
  refine go_putf (x := 35) (ci := 8) (kf := 4) (fin := 0) (zt := 0) (by decide +kernel) (by decide +kernel) (by decide) (by decide +kernel) (by decide) (Or.inl rfl) R_61 f0 f5 (fun hq => absurd hq (by decide)) g_64 e_66 (fx_f (j := 4) R_61.2 g_64 (by decide +kernel)) fun S_67 R_68 E_69 => ?_
  have E_70 := Ext.tr E_63 E_69
  cases h
  exact go_vret (by decide +kernel) rfl (hQ E_70 _ _ R_68 q_out_n)
end DF10
