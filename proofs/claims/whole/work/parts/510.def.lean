/-! Methods as functions (written by wip/whole/dec.py), 10: X4_knows, X4_isLeft, X5_init, X6_init, X6_isAlive, X6_hasWork, X6_firstOrder, X6_mark, X6_isKeptBy, X6_addTimer, X6_dropTimer, X7_init. -/
section DF10
noncomputable def fm_X4_knows (p1 : Int) (m0 : MM) : Option (Int × MM) := gd (okc m0 p1 7) <| lx (m0 p1 16) fun x_8 =>
gd (okc m0 x_8 3) <| lx (m0 x_8 1) fun x_14 =>
up m0 17 12 x_14 fun m_16 =>
lx (m_16 p1 16) fun x_30 =>
gd (okc m_16 x_30 3) <| lx (m_16 x_30 1) fun x_36 =>
up m_16 17 13 x_36 fun m_38 =>
up m_38 16 7 p1 fun m_45 =>
some (0, m_45)
set_option maxHeartbeats 4000000 in
theorem om_X4_knows {xs : List Int32} {d : Nat} {S : QS} {m0 : MM} {p1 : Int} {v0 : Value} {v1 : Value} {rz : Int} {rm : MM}
  (hd : 1 ≤ d) (R : Rp S m0) (f0 : q_is 2 v0 16) (f1 : q_is 2 v1 p1)
  (h : fm_X4_knows p1 m0 = some (rz, rm)) : Mt xs d 32 [v0, v1] S (Cr 9 m0 rm rz) := by
  obtain ⟨d, rfl⟩ : ∃ e, d = e + 1 := ⟨d - 1, by omega⟩
  have hd : 0 ≤ d := Nat.le_of_succ_le_succ hd
  refine Mt.of (M := qM_X4_knows) rfl (by rw [sl_1 (q_is_cat f0 (Or.inr rfl)), sl_1 (q_is_cat f1 (Or.inr rfl)), sl_0]; decide) ?_
  rw [la_1 (q_is_cat f0 (Or.inr rfl)), la_1 (q_is_cat f1 (Or.inr rfl)), la_0]
  obtain ⟨L, hL⟩ : ∃ L : QL, L = [(0, v0), (0 + 1, v1)] := ⟨_, rfl⟩
  rw [← hL]
  have l0 : q_lo L 0 = some v0 := by rw [hL]; rfl
  have l1 : q_lo L 1 = some v1 := by rw [hL]; rfl
  have hQ : Ext m0 rm → ∀ o S1, Rp S1 rm → q_out 9 o rz → (Cr 9 m0 rm rz) o S1 := fun a o S1 b e => ⟨b, a, e⟩
  unfold fm_X4_knows at h
  refine go_aload_n (n := 0) (by decide +kernel) l0 f0 ?_
  refine go_getf (x := 10) (ci := 5) (kf := 0) (fin := 1) (t := 2) (by decide +kernel) (by decide +kernel) (by decide +kernel) R f0 (fx_k (c := 5) R (by decide +kernel)) fun v_1 f_2 => ?_
  have f_3 := q_is_eq (b := 17) f_2 (fx_v R (by decide +kernel)).symm
  refine go_aload_n (n := 1) (by decide +kernel) l1 f1 ?_
  obtain ⟨g_6, h⟩ := gd_s h
  obtain ⟨x_8, e_9, h⟩ := lx_s h
  refine go_getf (x := 102) (ci := 7) (kf := 16) (fin := 2) (t := 2) (by decide +kernel) (by decide +kernel) (by decide +kernel) R f1 g_6 fun v_4 f_5 => ?_
  have f_7 := q_is_eq f_5 e_9
  obtain ⟨g_12, h⟩ := gd_s h
  obtain ⟨x_14, e_15, h⟩ := lx_s h
  refine go_getf (x := 80) (ci := 3) (kf := 1) (fin := 0) (t := 0) (by decide +kernel) (by decide +kernel) (by decide +kernel) R f_7 g_12 fun v_10 f_11 => ?_
  have f_13 := q_is_eq f_11 e_15
  obtain ⟨m_16, e_17, h⟩ := up_s h
  refine go_putf (x := 114) (ci := 9) (kf := 12) (fin := 0) (zt := 0) (by decide +kernel) (by decide +kernel) (by decide) (by decide +kernel) (by decide) (Or.inl rfl) R f_3 f_13 (fun hq => absurd hq (by decide)) (fx_k (c := 9) R (by decide +kernel)) e_17 (fx_f (j := 12) R.2 (fx_k (c := 9) R (by decide +kernel)) (by decide +kernel)) fun S_18 R_19 E_20 => ?_
  have E_22 := E_20
  refine go_aload_n (n := 0) (by decide +kernel) l0 f0 ?_
  refine go_getf (x := 10) (ci := 5) (kf := 0) (fin := 1) (t := 2) (by decide +kernel) (by decide +kernel) (by decide +kernel) R_19 f0 (fx_k (c := 5) R_19 (by decide +kernel)) fun v_23 f_24 => ?_
  have f_25 := q_is_eq (b := 17) f_24 (fx_v R_19 (by decide +kernel)).symm
  refine go_aload_n (n := 1) (by decide +kernel) l1 f1 ?_
  have g_28 := Ext.ok E_20 g_6
  obtain ⟨x_30, e_31, h⟩ := lx_s h
  refine go_getf (x := 102) (ci := 7) (kf := 16) (fin := 2) (t := 2) (by decide +kernel) (by decide +kernel) (by decide +kernel) R_19 f1 g_28 fun v_26 f_27 => ?_
  have f_29 := q_is_eq f_27 e_31
  obtain ⟨g_34, h⟩ := gd_s h
  obtain ⟨x_36, e_37, h⟩ := lx_s h
  refine go_getf (x := 80) (ci := 3) (kf := 1) (fin := 0) (t := 0) (by decide +kernel) (by decide +kernel) (by decide +kernel) R_19 f_29 g_34 fun v_32 f_33 => ?_
  have f_35 := q_is_eq f_33 e_37
  obtain ⟨m_38, e_39, h⟩ := up_s h
  refine go_putf (x := 117) (ci := 9) (kf := 13) (fin := 0) (zt := 0) (by decide +kernel) (by decide +kernel) (by decide) (by decide +kernel) (by decide) (Or.inl rfl) R_19 f_25 f_35 (fun hq => absurd hq (by decide)) (fx_k (c := 9) R_19 (by decide +kernel)) e_39 (fx_f (j := 13) R_19.2 (fx_k (c := 9) R_19 (by decide +kernel)) (by decide +kernel)) fun S_40 R_41 E_42 => ?_
  have E_44 := Ext.tr E_22 E_42
  refine go_aload_n (n := 0) (by decide +kernel) l0 f0 ?_
  refine go_aload_n (n := 1) (by decide +kernel) l1 f1 ?_
  obtain ⟨m_45, e_46, h⟩ := up_s h
  refine go_putf (x := 45) (ci := 5) (kf := 7) (fin := 0) (zt := 2) (by decide +kernel) (by decide +kernel) (by decide) (by decide +kernel) (by decide) (Or.inl rfl) R_41 f0 f1 (fun hq => absurd hq (by decide)) (fx_k (c := 5) R_41 (by decide +kernel)) e_46 (fx_f (j := 7) R_41.2 (fx_k (c := 5) R_41 (by decide +kernel)) (by decide +kernel)) fun S_47 R_48 E_49 => ?_
  have E_51 := Ext.tr E_44 E_49
  cases h
  exact go_vret (by decide +kernel) rfl (hQ E_51 _ _ R_48 q_out_n)
noncomputable def fm_X4_isLeft (m0 : MM) : Option (Int × MM) := lx (m0 16 2) fun x_4 =>
lx (m0 17 12) fun x_12 =>
gd (okc m0 x_4 3) <| bp (fm_X2_nextCommand x_4 x_12 m0) fun x_16 =>
lx (m0 x_4 1) fun x_34 =>
if x_16 < x_34 then
bd (fm_X4_getStuck x_16 m0) fun x_44 m_45 =>
lx (m_45 16 10) fun x_58 =>
gd (x_58 = 0 ∨ x_58 = 1) <| some (x_58, m_45)
else
lx (m0 16 10) fun x_40 =>
gd (x_40 = 0 ∨ x_40 = 1) <| some (x_40, m0)
set_option maxHeartbeats 4000000 in
theorem om_X4_isLeft {xs : List Int32} {d : Nat} {S : QS} {m0 : MM} {v0 : Value} {rz : Int} {rm : MM}
  (hd : 3 ≤ d) (R : Rp S m0) (f0 : q_is 2 v0 16)
  (h : fm_X4_isLeft m0 = some (rz, rm)) : Mt xs d 36 [v0] S (Cr 0 m0 rm rz) := by
  obtain ⟨d, rfl⟩ : ∃ e, d = e + 1 := ⟨d - 1, by omega⟩
  have hd : 2 ≤ d := Nat.le_of_succ_le_succ hd
  refine Mt.of (M := qM_X4_isLeft) rfl (by rw [sl_1 (q_is_cat f0 (Or.inr rfl)), sl_0]; decide) ?_
  rw [la_1 (q_is_cat f0 (Or.inr rfl)), la_0]
  obtain ⟨L, hL⟩ : ∃ L : QL, L = [(0, v0)] := ⟨_, rfl⟩
  rw [← hL]
  have l0 : q_lo L 0 = some v0 := by rw [hL]; rfl
  have hQ : Ext m0 rm → ∀ o S1, Rp S1 rm → q_out 0 o rz → (Cr 0 m0 rm rz) o S1 := fun a o S1 b e => ⟨b, a, e⟩
  unfold fm_X4_isLeft at h
  refine go_aload_n (n := 0) (by decide +kernel) l0 f0 ?_
  obtain ⟨x_4, e_5, h⟩ := lx_s h
  refine go_getf (x := 28) (ci := 5) (kf := 2) (fin := 0) (t := 2) (by decide +kernel) (by decide +kernel) (by decide +kernel) R f0 (fx_k (c := 5) R (by decide +kernel)) fun v_1 f_2 => ?_
  have f_3 := q_is_eq f_2 e_5
  refine go_aload_n (n := 0) (by decide +kernel) l0 f0 ?_
  refine go_getf (x := 10) (ci := 5) (kf := 0) (fin := 1) (t := 2) (by decide +kernel) (by decide +kernel) (by decide +kernel) R f0 (fx_k (c := 5) R (by decide +kernel)) fun v_6 f_7 => ?_
  have f_8 := q_is_eq (b := 17) f_7 (fx_v R (by decide +kernel)).symm
  obtain ⟨x_12, e_13, h⟩ := lx_s h
  refine go_getf (x := 114) (ci := 9) (kf := 12) (fin := 0) (t := 0) (by decide +kernel) (by decide +kernel) (by decide +kernel) R f_8 (fx_k (c := 9) R (by decide +kernel)) fun v_9 f_10 => ?_
  have f_11 := q_is_eq f_10 e_13
  obtain ⟨g_14, h⟩ := gd_s h
  obtain ⟨x_16, hc_15, h⟩ := bp_s h
  refine go_callV (x := 123) (mi := 22) (n := 1) (ci := 3) (as := [v_9]) (rest := []) (by decide +kernel) (by decide +kernel) rfl rfl (q_sum8 _ (Nat.le_of_ble_eq_true rfl)) R f_3 g_14 (om_X2_nextCommand (Nat.le_trans (by decide) hd) R g_14 f_3 f_11 hc_15) (fun _ S_20 q_23 => ?_) (fun _ _ qq => kr_x qq)
  refine kr_z (by decide) q_23 fun v_18 f_19 R_21 E_22 => ?_
  refine go_istore_n (n := 1) (by decide +kernel) (by decide +kernel) f_19 fun L_24 l_25 kp_26 => ?_
  have l_27 := kp_26 0 _ l0 (by decide) (Or.inr (q_is_cat f0 (Or.inr rfl)))
  refine go_iload_n (n := 1) (by decide +kernel) l_25 f_19 ?_
  refine go_aload_n (n := 0) (by decide +kernel) l_27 f0 ?_
  refine go_getf (x := 28) (ci := 5) (kf := 2) (fin := 0) (t := 2) (by decide +kernel) (by decide +kernel) (by decide +kernel) R_21 f0 (fx_k (c := 5) R_21 (by decide +kernel)) fun v_28 f_29 => ?_
  have f_30 := q_is_eq f_29 e_5
  obtain ⟨x_34, e_35, h⟩ := lx_s h
  refine go_getf (x := 80) (ci := 3) (kf := 1) (fin := 0) (t := 0) (by decide +kernel) (by decide +kernel) (by decide +kernel) R_21 f_30 g_14 fun v_31 f_32 => ?_
  have f_33 := q_is_eq f_32 e_35
  refine go_icmp (c := .ge) (o := 8) (t := 31) (P := ¬ (x_16 < x_34)) (by decide +kernel) (by decide +kernel) f_19 f_33 (Int.not_lt.symm) (fun hp_36 => ?_) (fun hp_36 => ?_)
  · have h := it_f hp_36 h
    refine go_aload_n (n := 0) (by decide +kernel) l_27 f0 ?_
    obtain ⟨x_40, e_41, h⟩ := lx_s h
    refine go_getf (x := 55) (ci := 5) (kf := 10) (fin := 0) (t := 0) (by decide +kernel) (by decide +kernel) (by decide +kernel) R_21 f0 (fx_k (c := 5) R_21 (by decide +kernel)) fun v_37 f_38 => ?_
    have f_39 := q_is_eq f_38 e_41
    obtain ⟨g_42, h⟩ := gd_s h
    cases h
    exact go_iret (by decide +kernel) rfl (Or.inr ⟨rfl, g_42⟩) f_39 (hQ (Ext.rf _) _ _ R_21 (q_out_v (by decide) f_39))
  · have h := it_n hp_36 h
    refine go_aload_n (n := 0) (by decide +kernel) l_27 f0 ?_
    refine go_iload_n (n := 1) (by decide +kernel) l_25 f_19 ?_
    obtain ⟨x_44, m_45, hc_43, h⟩ := bd_s h
    refine go_callV (x := 126) (mi := 34) (n := 1) (ci := 5) (as := [v_18]) (rest := []) (by decide +kernel) (by decide +kernel) rfl rfl (q_sum8 _ (Nat.le_of_ble_eq_true rfl)) R_21 f0 (fx_k (c := 5) R_21 (by decide +kernel)) (om_X4_getStuck (Nat.le_trans (by decide) hd) R_21 f0 f_19 hc_43) (fun _ S_48 q_51 => ?_) (fun _ _ qq => kr_x qq)
    refine kr_v q_51 fun R_49 E_50 => ?_
    have E_54 := E_50
    refine go_aload_n (n := 0) (by decide +kernel) l_27 f0 ?_
    obtain ⟨x_58, e_59, h⟩ := lx_s h
    refine go_getf (x := 55) (ci := 5) (kf := 10) (fin := 0) (t := 0) (by decide +kernel) (by decide +kernel) (by decide +kernel) R_49 f0 (fx_k (c := 5) R_49 (by decide +kernel)) fun v_55 f_56 => ?_
    have f_57 := q_is_eq f_56 e_59
    obtain ⟨g_60, h⟩ := gd_s h
    cases h
    exact go_iret (by decide +kernel) rfl (Or.inr ⟨rfl, g_60⟩) f_57 (hQ E_54 _ _ R_49 (q_out_v (by decide) f_57))
noncomputable def fm_X5_init (p0 : Int) (m0 : MM) : Option (Int × MM) := nw m0 108 1 fun x_3 m_4 =>
up m_4 p0 0 x_3 fun m_17 =>
up m_17 p0 1 0 fun m_27 =>
up m_27 p0 2 0 fun m_37 =>
some (0, m_37)
set_option maxHeartbeats 4000000 in
theorem om_X5_init {xs : List Int32} {d : Nat} {S : QS} {m0 : MM} {p0 : Int} {v0 : Value} {rz : Int} {rm : MM}
  (hd : 1 ≤ d) (R : Rp S m0) (g0 : okc m0 p0 6) (f0 : q_is 2 v0 p0)
  (h : fm_X5_init p0 m0 = some (rz, rm)) : Mt xs d 57 [v0] S (Cr 9 m0 rm rz) := by
  obtain ⟨d, rfl⟩ : ∃ e, d = e + 1 := ⟨d - 1, by omega⟩
  have hd : 0 ≤ d := Nat.le_of_succ_le_succ hd
  refine Mt.of (M := qM_X5_init) rfl (by rw [sl_1 (q_is_cat f0 (Or.inr rfl)), sl_0]; decide) ?_
  rw [la_1 (q_is_cat f0 (Or.inr rfl)), la_0]
  obtain ⟨L, hL⟩ : ∃ L : QL, L = [(0, v0)] := ⟨_, rfl⟩
  rw [← hL]
  have l0 : q_lo L 0 = some v0 := by rw [hL]; rfl
  have hQ : Ext m0 rm → ∀ o S1, Rp S1 rm → q_out 9 o rz → (Cr 9 m0 rm rz) o S1 := fun a o S1 b e => ⟨b, a, e⟩
  unfold fm_X5_init at h
  refine go_aload_n (n := 0) (by decide +kernel) l0 f0 ?_
  refine go_oinit (x := 3) (a := 0) (b := 0) (e := 0) (by decide +kernel) (by decide +kernel) f0 (okc_ne g0) (q_sum8 _ (Nat.le_of_ble_eq_true rfl)) ?_
  refine go_aload_n (n := 0) (by decide +kernel) l0 f0 ?_
  refine go_iconst (n := 1) (z := 1) (by decide +kernel) (by decide) fun v_1 f_2 => ?_
  obtain ⟨x_3, m_4, e_5, e_6, h⟩ := nw_s h
  have g_12 := okc_nw (c := 108) R e_5 e_6
  refine go_anewa (x := 9) (kd := 108) (a := 0) (b := 0) (by decide +kernel) (by decide +kernel) f_2 (by decide) R e_5 e_6 fun v_7 S_9 f_8 R_10 E_11 => ?_
  have E_15 := E_11
  have g_16 := Ext.ok E_11 g0
  obtain ⟨m_17, e_18, h⟩ := up_s h
  refine go_putf (x := 11) (ci := 6) (kf := 0) (fin := 0) (zt := 2) (by decide +kernel) (by decide +kernel) (by decide) (by decide +kernel) (by decide) (Or.inl rfl) R_10 f0 f_8 (fun hq => absurd hq (by decide)) g_16 e_18 (fx_f (j := 0) R_10.2 g_16 (by decide +kernel)) fun S_19 R_20 E_21 => ?_
  have E_23 := Ext.tr E_15 E_21
  refine go_aload_n (n := 0) (by decide +kernel) l0 f0 ?_
  refine go_iconst (n := 0) (z := 0) (by decide +kernel) (by decide) fun v_24 f_25 => ?_
  have g_26 := Ext.ok E_21 g_16
  obtain ⟨m_27, e_28, h⟩ := up_s h
  refine go_putf (x := 15) (ci := 6) (kf := 1) (fin := 0) (zt := 0) (by decide +kernel) (by decide +kernel) (by decide) (by decide +kernel) (by decide) (Or.inl rfl) R_20 f0 f_25 (fun hq => absurd hq (by decide)) g_26 e_28 (fx_f (j := 1) R_20.2 g_26 (by decide +kernel)) fun S_29 R_30 E_31 => ?_
  have E_33 := Ext.tr E_23 E_31
  refine go_aload_n (n := 0) (by decide +kernel) l0 f0 ?_
  refine go_iconst (n := 0) (z := 0) (by decide +kernel) (by decide) fun v_34 f_35 => ?_
  have g_36 := Ext.ok E_31 g_26
  obtain ⟨m_37, e_38, h⟩ := up_s h
  refine go_putf (x := 19) (ci := 6) (kf := 2) (fin := 0) (zt := 0) (by decide +kernel) (by decide +kernel) (by decide) (by decide +kernel) (by decide) (Or.inl rfl) R_30 f0 f_35 (fun hq => absurd hq (by decide)) g_36 e_38 (fx_f (j := 2) R_30.2 g_36 (by decide +kernel)) fun S_39 R_40 E_41 => ?_
  have E_43 := Ext.tr E_33 E_41
  cases h
  exact go_vret (by decide +kernel) rfl (hQ E_43 _ _ R_40 q_out_n)
noncomputable def fm_X6_init (p0 p1 p2 p3 p4 p5 p6 : Int) (m0 : MM) : Option (Int × MM) := up m0 p0 6 0 fun m_3 =>
up m_3 p0 7 (-1) fun m_13 =>
up m_13 p0 8 0 fun m_23 =>
up m_23 p0 9 0 fun m_33 =>
up m_33 p0 10 (-1) fun m_43 =>
up m_43 p0 11 (-1) fun m_53 =>
up m_53 p0 12 (-1) fun m_63 =>
up m_63 p0 13 0 fun m_73 =>
up m_73 p0 14 0 fun m_83 =>
up m_83 p0 15 0 fun m_93 =>
nw m_93 3 5 fun x_100 m_101 =>
nw m_101 6 3 fun x_113 m_114 =>
bd (fm_X5_init x_113 m_114) fun x_127 m_128 =>
bd (fm_X2_init x_100 x_113 m_128) fun x_140 m_141 =>
up m_141 p0 16 x_100 fun m_152 =>
nw m_152 6 3 fun x_159 m_160 =>
bd (fm_X5_init x_159 m_160) fun x_173 m_174 =>
up m_174 p0 17 x_159 fun m_185 =>
nw m_185 6 3 fun x_192 m_193 =>
bd (fm_X5_init x_192 m_193) fun x_206 m_207 =>
up m_207 p0 18 x_192 fun m_218 =>
nw m_218 6 3 fun x_225 m_226 =>
bd (fm_X5_init x_225 m_226) fun x_239 m_240 =>
up m_240 p0 19 x_225 fun m_251 =>
up m_251 p0 0 p1 fun m_259 =>
up m_259 p0 1 p2 fun m_267 =>
up m_267 p0 2 p3 fun m_275 =>
up m_275 p0 3 p4 fun m_283 =>
up m_283 p0 4 p5 fun m_291 =>
up m_291 p0 5 p6 fun m_299 =>
some (0, m_299)
set_option maxHeartbeats 4000000 in
theorem om_X6_init {xs : List Int32} {d : Nat} {S : QS} {m0 : MM} {p0 p1 p2 p3 p4 p5 p6 : Int} {v0 : Value} {v1 : Value} {v2 : Value} {v3 : Value} {v4 : Value} {v5 : Value} {v6 : Value} {rz : Int} {rm : MM}
  (hd : 2 ≤ d) (R : Rp S m0) (g0 : okc m0 p0 7) (f0 : q_is 2 v0 p0) (f1 : q_is 0 v1 p1) (f2 : q_is 0 v2 p2) (f3 : q_is 0 v3 p3) (f4 : q_is 0 v4 p4) (f5 : q_is 0 v5 p5) (f6 : q_is 0 v6 p6)
  (h : fm_X6_init p0 p1 p2 p3 p4 p5 p6 m0 = some (rz, rm)) : Mt xs d 65 [v0, v1, v2, v3, v4, v5, v6] S (Cr 9 m0 rm rz) := by
  obtain ⟨d, rfl⟩ : ∃ e, d = e + 1 := ⟨d - 1, by omega⟩
  have hd : 1 ≤ d := Nat.le_of_succ_le_succ hd
  refine Mt.of (M := qM_X6_init) rfl (by rw [sl_1 (q_is_cat f0 (Or.inr rfl)), sl_1 (q_is_cat f1 (Or.inl rfl)), sl_1 (q_is_cat f2 (Or.inl rfl)), sl_1 (q_is_cat f3 (Or.inl rfl)), sl_1 (q_is_cat f4 (Or.inl rfl)), sl_1 (q_is_cat f5 (Or.inl rfl)), sl_1 (q_is_cat f6 (Or.inl rfl)), sl_0]; decide) ?_
  rw [la_1 (q_is_cat f0 (Or.inr rfl)), la_1 (q_is_cat f1 (Or.inl rfl)), la_1 (q_is_cat f2 (Or.inl rfl)), la_1 (q_is_cat f3 (Or.inl rfl)), la_1 (q_is_cat f4 (Or.inl rfl)), la_1 (q_is_cat f5 (Or.inl rfl)), la_1 (q_is_cat f6 (Or.inl rfl)), la_0]
  obtain ⟨L, hL⟩ : ∃ L : QL, L = [(0, v0), (0 + 1, v1), (0 + 1 + 1, v2), (0 + 1 + 1 + 1, v3), (0 + 1 + 1 + 1 + 1, v4), (0 + 1 + 1 + 1 + 1 + 1, v5), (0 + 1 + 1 + 1 + 1 + 1 + 1, v6)] := ⟨_, rfl⟩
  rw [← hL]
  have l0 : q_lo L 0 = some v0 := by rw [hL]; rfl
  have l1 : q_lo L 1 = some v1 := by rw [hL]; rfl
  have l2 : q_lo L 2 = some v2 := by rw [hL]; rfl
  have l3 : q_lo L 3 = some v3 := by rw [hL]; rfl
  have l4 : q_lo L 4 = some v4 := by rw [hL]; rfl
  have l5 : q_lo L 5 = some v5 := by rw [hL]; rfl
  have l6 : q_lo L 6 = some v6 := by rw [hL]; rfl
  have hQ : Ext m0 rm → ∀ o S1, Rp S1 rm → q_out 9 o rz → (Cr 9 m0 rm rz) o S1 := fun a o S1 b e => ⟨b, a, e⟩
  unfold fm_X6_init at h
  refine go_aload_n (n := 0) (by decide +kernel) l0 f0 ?_
  refine go_oinit (x := 3) (a := 0) (b := 0) (e := 0) (by decide +kernel) (by decide +kernel) f0 (okc_ne g0) (q_sum8 _ (Nat.le_of_ble_eq_true rfl)) ?_
  refine go_aload_n (n := 0) (by decide +kernel) l0 f0 ?_
  refine go_iconst (n := 0) (z := 0) (by decide +kernel) (by decide) fun v_1 f_2 => ?_
  obtain ⟨m_3, e_4, h⟩ := up_s h
  refine go_putf (x := 9) (ci := 7) (kf := 6) (fin := 0) (zt := 0) (by decide +kernel) (by decide +kernel) (by decide) (by decide +kernel) (by decide) (Or.inl rfl) R f0 f_2 (fun hq => absurd hq (by decide)) g0 e_4 (fx_f (j := 6) R.2 g0 (by decide +kernel)) fun S_5 R_6 E_7 => ?_
  have E_9 := E_7
  refine go_aload_n (n := 0) (by decide +kernel) l0 f0 ?_
  refine go_iconst (n := (-1)) (z := (-1)) (by decide +kernel) (by decide) fun v_10 f_11 => ?_
  have g_12 := Ext.ok E_7 g0
  obtain ⟨m_13, e_14, h⟩ := up_s h
  refine go_putf (x := 15) (ci := 7) (kf := 7) (fin := 0) (zt := 0) (by decide +kernel) (by decide +kernel) (by decide) (by decide +kernel) (by decide) (Or.inl rfl) R_6 f0 f_11 (fun hq => absurd hq (by decide)) g_12 e_14 (fx_f (j := 7) R_6.2 g_12 (by decide +kernel)) fun S_15 R_16 E_17 => ?_
  have E_19 := Ext.tr E_9 E_17
  refine go_aload_n (n := 0) (by decide +kernel) l0 f0 ?_
  refine go_iconst (n := 0) (z := 0) (by decide +kernel) (by decide) fun v_20 f_21 => ?_
  have g_22 := Ext.ok E_17 g_12
  obtain ⟨m_23, e_24, h⟩ := up_s h
  refine go_putf (x := 18) (ci := 7) (kf := 8) (fin := 0) (zt := 0) (by decide +kernel) (by decide +kernel) (by decide) (by decide +kernel) (by decide) (Or.inl rfl) R_16 f0 f_21 (fun hq => absurd hq (by decide)) g_22 e_24 (fx_f (j := 8) R_16.2 g_22 (by decide +kernel)) fun S_25 R_26 E_27 => ?_
  have E_29 := Ext.tr E_19 E_27
  refine go_aload_n (n := 0) (by decide +kernel) l0 f0 ?_
  refine go_iconst (n := 0) (z := 0) (by decide +kernel) (by decide) fun v_30 f_31 => ?_
  have g_32 := Ext.ok E_27 g_22
  obtain ⟨m_33, e_34, h⟩ := up_s h
  refine go_putf (x := 21) (ci := 7) (kf := 9) (fin := 0) (zt := 0) (by decide +kernel) (by decide +kernel) (by decide) (by decide +kernel) (by decide) (Or.inl rfl) R_26 f0 f_31 (fun hq => absurd hq (by decide)) g_32 e_34 (fx_f (j := 9) R_26.2 g_32 (by decide +kernel)) fun S_35 R_36 E_37 => ?_
  have E_39 := Ext.tr E_29 E_37
  refine go_aload_n (n := 0) (by decide +kernel) l0 f0 ?_
  refine go_iconst (n := (-1)) (z := (-1)) (by decide +kernel) (by decide) fun v_40 f_41 => ?_
  have g_42 := Ext.ok E_37 g_32
  obtain ⟨m_43, e_44, h⟩ := up_s h
  refine go_putf (x := 24) (ci := 7) (kf := 10) (fin := 0) (zt := 0) (by decide +kernel) (by decide +kernel) (by decide) (by decide +kernel) (by decide) (Or.inl rfl) R_36 f0 f_41 (fun hq => absurd hq (by decide)) g_42 e_44 (fx_f (j := 10) R_36.2 g_42 (by decide +kernel)) fun S_45 R_46 E_47 => ?_
  have E_49 := Ext.tr E_39 E_47
  refine go_aload_n (n := 0) (by decide +kernel) l0 f0 ?_
  refine go_iconst (n := (-1)) (z := (-1)) (by decide +kernel) (by decide) fun v_50 f_51 => ?_
  have g_52 := Ext.ok E_47 g_42
  obtain ⟨m_53, e_54, h⟩ := up_s h
  refine go_putf (x := 27) (ci := 7) (kf := 11) (fin := 0) (zt := 0) (by decide +kernel) (by decide +kernel) (by decide) (by decide +kernel) (by decide) (Or.inl rfl) R_46 f0 f_51 (fun hq => absurd hq (by decide)) g_52 e_54 (fx_f (j := 11) R_46.2 g_52 (by decide +kernel)) fun S_55 R_56 E_57 => ?_
  have E_59 := Ext.tr E_49 E_57
  refine go_aload_n (n := 0) (by decide +kernel) l0 f0 ?_
  refine go_iconst (n := (-1)) (z := (-1)) (by decide +kernel) (by decide) fun v_60 f_61 => ?_
  have g_62 := Ext.ok E_57 g_52
  obtain ⟨m_63, e_64, h⟩ := up_s h
  refine go_putf (x := 30) (ci := 7) (kf := 12) (fin := 0) (zt := 0) (by decide +kernel) (by decide +kernel) (by decide) (by decide +kernel) (by decide) (Or.inl rfl) R_56 f0 f_61 (fun hq => absurd hq (by decide)) g_62 e_64 (fx_f (j := 12) R_56.2 g_62 (by decide +kernel)) fun S_65 R_66 E_67 => ?_
  have E_69 := Ext.tr E_59 E_67
  refine go_aload_n (n := 0) (by decide +kernel) l0 f0 ?_
  refine go_iconst (n := 0) (z := 0) (by decide +kernel) (by decide) fun v_70 f_71 => ?_
  have g_72 := Ext.ok E_67 g_62
  obtain ⟨m_73, e_74, h⟩ := up_s h
  refine go_putf (x := 33) (ci := 7) (kf := 13) (fin := 0) (zt := 0) (by decide +kernel) (by decide +kernel) (by decide) (by decide +kernel) (by decide) (Or.inl rfl) R_66 f0 f_71 (fun hq => absurd hq (by decide)) g_72 e_74 (fx_f (j := 13) R_66.2 g_72 (by decide +kernel)) fun S_75 R_76 E_77 => ?_
  have E_79 := Ext.tr E_69 E_77
  refine go_aload_n (n := 0) (by decide +kernel) l0 f0 ?_
  refine go_iconst (n := 0) (z := 0) (by decide +kernel) (by decide) fun v_80 f_81 => ?_
  have g_82 := Ext.ok E_77 g_72
  obtain ⟨m_83, e_84, h⟩ := up_s h
  refine go_putf (x := 36) (ci := 7) (kf := 14) (fin := 0) (zt := 0) (by decide +kernel) (by decide +kernel) (by decide) (by decide +kernel) (by decide) (Or.inl rfl) R_76 f0 f_81 (fun hq => absurd hq (by decide)) g_82 e_84 (fx_f (j := 14) R_76.2 g_82 (by decide +kernel)) fun S_85 R_86 E_87 => ?_
  have E_89 := Ext.tr E_79 E_87
  refine go_aload_n (n := 0) (by decide +kernel) l0 f0 ?_
  refine go_iconst (n := 0) (z := 0) (by decide +kernel) (by decide) fun v_90 f_91 => ?_
  have g_92 := Ext.ok E_87 g_82
  obtain ⟨m_93, e_94, h⟩ := up_s h
  refine go_putf (x := 39) (ci := 7) (kf := 15) (fin := 0) (zt := 0) (by decide +kernel) (by decide +kernel) (by decide) (by decide +kernel) (by decide) (Or.inl rfl) R_86 f0 f_91 (fun hq => absurd hq (by decide)) g_92 e_94 (fx_f (j := 15) R_86.2 g_92 (by decide +kernel)) fun S_95 R_96 E_97 => ?_
  have E_99 := Ext.tr E_89 E_97
  refine go_aload_n (n := 0) (by decide +kernel) l0 f0 ?_
  obtain ⟨x_100, m_101, e_102, e_103, h⟩ := nw_s h
  have g_109 := okc_nw (c := 3) R_96 e_102 e_103
  refine go_new (x := 42) (ci := 3) (n := 5) (b := 0) (by decide +kernel) (by decide +kernel) R_96 e_102 e_103 fun v_104 S_106 f_105 R_107 E_108 => ?_
  have E_112 := Ext.tr E_99 E_108
  refine go_dup (by decide +kernel) f_105 (Or.inr rfl) ?_
  obtain ⟨x_113, m_114, e_115, e_116, h⟩ := nw_s h
  have g_122 := okc_nw (c := 6) R_107 e_115 e_116
  refine go_new (x := 44) (ci := 6) (n := 3) (b := 0) (by decide +kernel) (by decide +kernel) R_107 e_115 e_116 fun v_117 S_119 f_118 R_120 E_121 => ?_
  have E_125 := Ext.tr E_112 E_121
  refine go_dup (by decide +kernel) f_118 (Or.inr rfl) ?_
  obtain ⟨x_127, m_128, hc_126, h⟩ := bd_s h
  refine go_callI (x := 46) (mi := 57) (n := 0) (b := 0) (tg := 15) (as := []) (rest := [v_117, v_104, v_104, v0]) (by decide +kernel) (by decide +kernel) (by decide) rfl rfl (q_sum8 _ (Nat.le_of_ble_eq_true rfl)) f_118 (okc_ne g_122) (om_X5_init (Nat.le_trans (by decide) hd) R_120 g_122 f_118 hc_126) (fun _ S_131 q_134 => ?_) (fun _ _ qq => kr_x qq)
  refine kr_v q_134 fun R_132 E_133 => ?_
  have E_137 := Ext.tr E_125 E_133
  have g_138 := Ext.ok (Ext.tr E_121 E_133) g_109
  obtain ⟨x_140, m_141, hc_139, h⟩ := bd_s h
  refine go_callI (x := 47) (mi := 8) (n := 1) (b := 0) (tg := 3) (as := [v_117]) (rest := [v_104, v0]) (by decide +kernel) (by decide +kernel) (by decide) rfl rfl (q_sum8 _ (Nat.le_of_ble_eq_true rfl)) f_105 (okc_ne g_138) (om_X2_init (Nat.le_trans (by decide) hd) R_132 g_138 f_105 f_118 hc_139) (fun _ S_144 q_147 => ?_) (fun _ _ qq => kr_x qq)
  refine kr_v q_147 fun R_145 E_146 => ?_
  have E_150 := Ext.tr E_137 E_146
  have g_151 := Ext.ok (Ext.tr (Ext.tr (Ext.tr (Ext.tr E_97 E_108) E_121) E_133) E_146) g_92
  obtain ⟨m_152, e_153, h⟩ := up_s h
  refine go_putf (x := 50) (ci := 7) (kf := 16) (fin := 1) (zt := 2) (by decide +kernel) (by decide +kernel) (by decide) (by decide +kernel) (by decide) (Or.inr ⟨rfl, rfl⟩) R_145 f0 f_105 (fun hq => absurd hq (by decide)) g_151 e_153 (fx_f (j := 16) R_145.2 g_151 (by decide +kernel)) fun S_154 R_155 E_156 => ?_
  have E_158 := Ext.tr E_150 E_156
  refine go_aload_n (n := 0) (by decide +kernel) l0 f0 ?_
  obtain ⟨x_159, m_160, e_161, e_162, h⟩ := nw_s h
  have g_168 := okc_nw (c := 6) R_155 e_161 e_162
  refine go_new (x := 44) (ci := 6) (n := 3) (b := 0) (by decide +kernel) (by decide +kernel) R_155 e_161 e_162 fun v_163 S_165 f_164 R_166 E_167 => ?_
  have E_171 := Ext.tr E_158 E_167
  refine go_dup (by decide +kernel) f_164 (Or.inr rfl) ?_
  obtain ⟨x_173, m_174, hc_172, h⟩ := bd_s h
  refine go_callI (x := 46) (mi := 57) (n := 0) (b := 0) (tg := 15) (as := []) (rest := [v_163, v0]) (by decide +kernel) (by decide +kernel) (by decide) rfl rfl (q_sum8 _ (Nat.le_of_ble_eq_true rfl)) f_164 (okc_ne g_168) (om_X5_init (Nat.le_trans (by decide) hd) R_166 g_168 f_164 hc_172) (fun _ S_177 q_180 => ?_) (fun _ _ qq => kr_x qq)
  refine kr_v q_180 fun R_178 E_179 => ?_
  have E_183 := Ext.tr E_171 E_179
  have g_184 := Ext.ok (Ext.tr (Ext.tr E_156 E_167) E_179) g_151
  obtain ⟨m_185, e_186, h⟩ := up_s h
  refine go_putf (x := 54) (ci := 7) (kf := 17) (fin := 1) (zt := 2) (by decide +kernel) (by decide +kernel) (by decide) (by decide +kernel) (by decide) (Or.inr ⟨rfl, rfl⟩) R_178 f0 f_164 (fun hq => absurd hq (by decide)) g_184 e_186 (fx_f (j := 17) R_178.2 g_184 (by decide +kernel)) fun S_187 R_188 E_189 => ?_
  have E_191 := Ext.tr E_183 E_189
  refine go_aload_n (n := 0) (by decide +kernel) l0 f0 ?_
  obtain ⟨x_192, m_193, e_194, e_195, h⟩ := nw_s h
  have g_201 := okc_nw (c := 6) R_188 e_194 e_195
  refine go_new (x := 44) (ci := 6) (n := 3) (b := 0) (by decide +kernel) (by decide +kernel) R_188 e_194 e_195 fun v_196 S_198 f_197 R_199 E_200 => ?_
  have E_204 := Ext.tr E_191 E_200
  refine go_dup (by decide +kernel) f_197 (Or.inr rfl) ?_
  obtain ⟨x_206, m_207, hc_205, h⟩ := bd_s h
  refine go_callI (x := 46) (mi := 57) (n := 0) (b := 0) (tg := 15) (as := []) (rest := [v_196, v0]) (by decide +kernel) (by decide +kernel) (by decide) rfl rfl (q_sum8 _ (Nat.le_of_ble_eq_true rfl)) f_197 (okc_ne g_201) (om_X5_init (Nat.le_trans (by decide) hd) R_199 g_201 f_197 hc_205) (fun _ S_210 q_213 => ?_) (fun _ _ qq => kr_x qq)
  refine kr_v q_213 fun R_211 E_212 => ?_
  have E_216 := Ext.tr E_204 E_212
  have g_217 := Ext.ok (Ext.tr (Ext.tr E_189 E_200) E_212) g_184
  obtain ⟨m_218, e_219, h⟩ := up_s h
  refine go_putf (x := 58) (ci := 7) (kf := 18) (fin := 1) (zt := 2) (by decide +kernel) (by decide +kernel) (by decide) (by decide +kernel) (by decide) (Or.inr ⟨rfl, rfl⟩) R_211 f0 f_197 (fun hq => absurd hq (by decide)) g_217 e_219 (fx_f (j := 18) R_211.2 g_217 (by decide +kernel)) fun S_220 R_221 E_222 => ?_
  have E_224 := Ext.tr E_216 E_222
  refine go_aload_n (n := 0) (by decide +kernel) l0 f0 ?_
  obtain ⟨x_225, m_226, e_227, e_228, h⟩ := nw_s h
  have g_234 := okc_nw (c := 6) R_221 e_227 e_228
  refine go_new (x := 44) (ci := 6) (n := 3) (b := 0) (by decide +kernel) (by decide +kernel) R_221 e_227 e_228 fun v_229 S_231 f_230 R_232 E_233 => ?_
  have E_237 := Ext.tr E_224 E_233
  refine go_dup (by decide +kernel) f_230 (Or.inr rfl) ?_
  obtain ⟨x_239, m_240, hc_238, h⟩ := bd_s h
  refine go_callI (x := 46) (mi := 57) (n := 0) (b := 0) (tg := 15) (as := []) (rest := [v_229, v0]) (by decide +kernel) (by decide +kernel) (by decide) rfl rfl (q_sum8 _ (Nat.le_of_ble_eq_true rfl)) f_230 (okc_ne g_234) (om_X5_init (Nat.le_trans (by decide) hd) R_232 g_234 f_230 hc_238) (fun _ S_243 q_246 => ?_) (fun _ _ qq => kr_x qq)
  refine kr_v q_246 fun R_244 E_245 => ?_
  have E_249 := Ext.tr E_237 E_245
  have g_250 := Ext.ok (Ext.tr (Ext.tr E_222 E_233) E_245) g_217
  obtain ⟨m_251, e_252, h⟩ := up_s h
  refine go_putf (x := 61) (ci := 7) (kf := 19) (fin := 1) (zt := 2) (by decide +kernel) (by decide +kernel) (by decide) (by decide +kernel) (by decide) (Or.inr ⟨rfl, rfl⟩) R_244 f0 f_230 (fun hq => absurd hq (by decide)) g_250 e_252 (fx_f (j := 19) R_244.2 g_250 (by decide +kernel)) fun S_253 R_254 E_255 => ?_
  have E_257 := Ext.tr E_249 E_255
  refine go_aload_n (n := 0) (by decide +kernel) l0 f0 ?_
  refine go_iload_n (n := 1) (by decide +kernel) l1 f1 ?_
  have g_258 := Ext.ok E_255 g_250
  obtain ⟨m_259, e_260, h⟩ := up_s h
  refine go_putf (x := 64) (ci := 7) (kf := 0) (fin := 1) (zt := 0) (by decide +kernel) (by decide +kernel) (by decide) (by decide +kernel) (by decide) (Or.inr ⟨rfl, rfl⟩) R_254 f0 f1 (fun hq => absurd hq (by decide)) g_258 e_260 (fx_f (j := 0) R_254.2 g_258 (by decide +kernel)) fun S_261 R_262 E_263 => ?_
  have E_265 := Ext.tr E_257 E_263
  refine go_aload_n (n := 0) (by decide +kernel) l0 f0 ?_
  refine go_iload_n (n := 2) (by decide +kernel) l2 f2 ?_
  have g_266 := Ext.ok E_263 g_258
  obtain ⟨m_267, e_268, h⟩ := up_s h
  refine go_putf (x := 67) (ci := 7) (kf := 1) (fin := 1) (zt := 0) (by decide +kernel) (by decide +kernel) (by decide) (by decide +kernel) (by decide) (Or.inr ⟨rfl, rfl⟩) R_262 f0 f2 (fun hq => absurd hq (by decide)) g_266 e_268 (fx_f (j := 1) R_262.2 g_266 (by decide +kernel)) fun S_269 R_270 E_271 => ?_
  have E_273 := Ext.tr E_265 E_271
  refine go_aload_n (n := 0) (by decide +kernel) l0 f0 ?_
  refine go_iload_n (n := 3) (by decide +kernel) l3 f3 ?_
  have g_274 := Ext.ok E_271 g_266
  obtain ⟨m_275, e_276, h⟩ := up_s h
  refine go_putf (x := 70) (ci := 7) (kf := 2) (fin := 1) (zt := 0) (by decide +kernel) (by decide +kernel) (by decide) (by decide +kernel) (by decide) (Or.inr ⟨rfl, rfl⟩) R_270 f0 f3 (fun hq => absurd hq (by decide)) g_274 e_276 (fx_f (j := 2) R_270.2 g_274 (by decide +kernel)) fun S_277 R_278 E_279 => ?_
  have E_281 := Ext.tr E_273 E_279
  refine go_aload_n (n := 0) (by decide +kernel) l0 f0 ?_
  refine go_iload (n := 4) (by decide +kernel) l4 f4 ?_
  have g_282 := Ext.ok E_279 g_274
  obtain ⟨m_283, e_284, h⟩ := up_s h
  refine go_putf (x := 73) (ci := 7) (kf := 3) (fin := 0) (zt := 0) (by decide +kernel) (by decide +kernel) (by decide) (by decide +kernel) (by decide) (Or.inl rfl) R_278 f0 f4 (fun hq => absurd hq (by decide)) g_282 e_284 (fx_f (j := 3) R_278.2 g_282 (by decide +kernel)) fun S_285 R_286 E_287 => ?_
  have E_289 := Ext.tr E_281 E_287
  refine go_aload_n (n := 0) (by decide +kernel) l0 f0 ?_
  refine go_iload (n := 5) (by decide +kernel) l5 f5 ?_
  have g_290 := Ext.ok E_287 g_282
  obtain ⟨m_291, e_292, h⟩ := up_s h
  refine go_putf (x := 76) (ci := 7) (kf := 4) (fin := 0) (zt := 0) (by decide +kernel) (by decide +kernel) (by decide) (by decide +kernel) (by decide) (Or.inl rfl) R_286 f0 f5 (fun hq => absurd hq (by decide)) g_290 e_292 (fx_f (j := 4) R_286.2 g_290 (by decide +kernel)) fun S_293 R_294 E_295 => ?_
  have E_297 := Ext.tr E_289 E_295
  refine go_aload_n (n := 0) (by decide +kernel) l0 f0 ?_
  refine go_iload (n := 6) (by decide +kernel) l6 f6 ?_
  have g_298 := Ext.ok E_295 g_290
  obtain ⟨m_299, e_300, h⟩ := up_s h
  refine go_putf (x := 79) (ci := 7) (kf := 5) (fin := 1) (zt := 0) (by decide +kernel) (by decide +kernel) (by decide) (by decide +kernel) (by decide) (Or.inr ⟨rfl, rfl⟩) R_294 f0 f6 (fun hq => absurd hq (by decide)) g_298 e_300 (fx_f (j := 5) R_294.2 g_298 (by decide +kernel)) fun S_301 R_302 E_303 => ?_
  have E_305 := Ext.tr E_297 E_303
  cases h
  exact go_vret (by decide +kernel) rfl (hQ E_305 _ _ R_302 q_out_n)
noncomputable def fm_X6_isAlive (p0 : Int) (m0 : MM) : Option Int := lx (m0 p0 6) fun x_4 =>
if x_4 = 0 then
some 1
else
if x_4 = 6 then
some 1
else
some 0
set_option maxHeartbeats 4000000 in
theorem om_X6_isAlive {xs : List Int32} {d : Nat} {S : QS} {m0 : MM} {p0 : Int} {v0 : Value} {rz : Int}
  (hd : 1 ≤ d) (R : Rp S m0) (g0 : okc m0 p0 7) (f0 : q_is 2 v0 p0)
  (h : fm_X6_isAlive p0 m0 = some rz) : Mt xs d 66 [v0] S (Cr 0 m0 m0 rz) := by
  obtain ⟨d, rfl⟩ : ∃ e, d = e + 1 := ⟨d - 1, by omega⟩
  have hd : 0 ≤ d := Nat.le_of_succ_le_succ hd
  refine Mt.of (M := qM_X6_isAlive) rfl (by rw [sl_1 (q_is_cat f0 (Or.inr rfl)), sl_0]; decide) ?_
  rw [la_1 (q_is_cat f0 (Or.inr rfl)), la_0]
  obtain ⟨L, hL⟩ : ∃ L : QL, L = [(0, v0)] := ⟨_, rfl⟩
  rw [← hL]
  have l0 : q_lo L 0 = some v0 := by rw [hL]; rfl
  have hQ : ∀ o S1, Rp S1 m0 → q_out 0 o rz → (Cr 0 m0 m0 rz) o S1 := fun o S1 a b => ⟨a, Ext.rf _, b⟩
  unfold fm_X6_isAlive at h
  refine go_aload_n (n := 0) (by decide +kernel) l0 f0 ?_
  obtain ⟨x_4, e_5, h⟩ := lx_s h
  refine go_getf (x := 9) (ci := 7) (kf := 6) (fin := 0) (t := 0) (by decide +kernel) (by decide +kernel) (by decide +kernel) R f0 g0 fun v_1 f_2 => ?_
  have f_3 := q_is_eq f_2 e_5
  refine go_if (c := .eq) (o := 12) (t := 16) (P := x_4 = 0) (by decide +kernel) (by decide +kernel) f_3 (Iff.rfl) (fun hp_6 => ?_) (fun hp_6 => ?_)
  · have h := it_t hp_6 h
    refine go_iconst (n := 1) (z := 1) (by decide +kernel) (by decide) fun v_7 f_8 => ?_
    refine go_goto (o := 4) (t := 21) (by decide +kernel) (by decide +kernel) ?_
    cases h
    exact go_iret (by decide +kernel) rfl (Or.inr ⟨rfl, by decide⟩) f_8 (hQ _ _ R (q_out_v (by decide) f_8))
  · have h := it_f hp_6 h
    refine go_aload_n (n := 0) (by decide +kernel) l0 f0 ?_
    refine go_getf (x := 9) (ci := 7) (kf := 6) (fin := 0) (t := 0) (by decide +kernel) (by decide +kernel) (by decide +kernel) R f0 g0 fun v_9 f_10 => ?_
    have f_11 := q_is_eq f_10 e_5
    refine go_bipush (n := 6) (z := 6) (by decide +kernel) (by decide) fun v_12 f_13 => ?_
    refine go_icmp (c := .ne) (o := 7) (t := 20) (P := ¬ (x_4 = 6)) (by decide +kernel) (by decide +kernel) f_11 f_13 (Iff.rfl) (fun hp_14 => ?_) (fun hp_14 => ?_)
    · have h := it_f hp_14 h
      refine go_iconst (n := 0) (z := 0) (by decide +kernel) (by decide) fun v_15 f_16 => ?_
      cases h
      exact go_iret (by decide +kernel) rfl (Or.inr ⟨rfl, by decide⟩) f_16 (hQ _ _ R (q_out_v (by decide) f_16))
    · have h := it_n hp_14 h
      refine go_iconst (n := 1) (z := 1) (by decide +kernel) (by decide) fun v_17 f_18 => ?_
      refine go_goto (o := 4) (t := 21) (by decide +kernel) (by decide +kernel) ?_
      cases h
      exact go_iret (by decide +kernel) rfl (Or.inr ⟨rfl, by decide⟩) f_18 (hQ _ _ R (q_out_v (by decide) f_18))
noncomputable def fm_X6_hasWork (p0 : Int) (m0 : MM) : Option Int := lx (m0 p0 6) fun x_4 =>
if x_4 = 0 then
lx (m0 p0 16) fun x_12 =>
gd (okc m0 x_12 3) <| lx (m0 x_12 2) fun x_18 =>
lx (m0 x_12 4) fun x_26 =>
if x_26 < x_18 then
some 1
else
some 0
else
some 0
set_option maxHeartbeats 4000000 in
theorem om_X6_hasWork {xs : List Int32} {d : Nat} {S : QS} {m0 : MM} {p0 : Int} {v0 : Value} {rz : Int}
  (hd : 1 ≤ d) (R : Rp S m0) (g0 : okc m0 p0 7) (f0 : q_is 2 v0 p0)
  (h : fm_X6_hasWork p0 m0 = some rz) : Mt xs d 67 [v0] S (Cr 0 m0 m0 rz) := by
  obtain ⟨d, rfl⟩ : ∃ e, d = e + 1 := ⟨d - 1, by omega⟩
  have hd : 0 ≤ d := Nat.le_of_succ_le_succ hd
  refine Mt.of (M := qM_X6_hasWork) rfl (by rw [sl_1 (q_is_cat f0 (Or.inr rfl)), sl_0]; decide) ?_
  rw [la_1 (q_is_cat f0 (Or.inr rfl)), la_0]
  obtain ⟨L, hL⟩ : ∃ L : QL, L = [(0, v0)] := ⟨_, rfl⟩
  rw [← hL]
  have l0 : q_lo L 0 = some v0 := by rw [hL]; rfl
  have hQ : ∀ o S1, Rp S1 m0 → q_out 0 o rz → (Cr 0 m0 m0 rz) o S1 := fun o S1 a b => ⟨a, Ext.rf _, b⟩
  unfold fm_X6_hasWork at h
  refine go_aload_n (n := 0) (by decide +kernel) l0 f0 ?_
  obtain ⟨x_4, e_5, h⟩ := lx_s h
  refine go_getf (x := 9) (ci := 7) (kf := 6) (fin := 0) (t := 0) (by decide +kernel) (by decide +kernel) (by decide +kernel) R f0 g0 fun v_1 f_2 => ?_
  have f_3 := q_is_eq f_2 e_5
  refine go_if (c := .ne) (o := 24) (t := 28) (P := ¬ (x_4 = 0)) (by decide +kernel) (by decide +kernel) f_3 (Iff.rfl) (fun hp_6 => ?_) (fun hp_6 => ?_)
  · have h := it_f hp_6 h
    refine go_iconst (n := 0) (z := 0) (by decide +kernel) (by decide) fun v_7 f_8 => ?_
    cases h
    exact go_iret (by decide +kernel) rfl (Or.inr ⟨rfl, by decide⟩) f_8 (hQ _ _ R (q_out_v (by decide) f_8))
  · have h := it_n hp_6 h
    refine go_aload_n (n := 0) (by decide +kernel) l0 f0 ?_
    obtain ⟨x_12, e_13, h⟩ := lx_s h
    refine go_getf (x := 50) (ci := 7) (kf := 16) (fin := 1) (t := 2) (by decide +kernel) (by decide +kernel) (by decide +kernel) R f0 g0 fun v_9 f_10 => ?_
    have f_11 := q_is_eq f_10 e_13
    obtain ⟨g_16, h⟩ := gd_s h
    obtain ⟨x_18, e_19, h⟩ := lx_s h
    refine go_getf (x := 82) (ci := 3) (kf := 2) (fin := 0) (t := 0) (by decide +kernel) (by decide +kernel) (by decide +kernel) R f_11 g_16 fun v_14 f_15 => ?_
    have f_17 := q_is_eq f_15 e_19
    refine go_aload_n (n := 0) (by decide +kernel) l0 f0 ?_
    refine go_getf (x := 50) (ci := 7) (kf := 16) (fin := 1) (t := 2) (by decide +kernel) (by decide +kernel) (by decide +kernel) R f0 g0 fun v_20 f_21 => ?_
    have f_22 := q_is_eq f_21 e_13
    obtain ⟨x_26, e_27, h⟩ := lx_s h
    refine go_getf (x := 85) (ci := 3) (kf := 4) (fin := 0) (t := 0) (by decide +kernel) (by decide +kernel) (by decide +kernel) R f_22 g_16 fun v_23 f_24 => ?_
    have f_25 := q_is_eq f_24 e_27
    refine go_icmp (c := .le) (o := 7) (t := 28) (P := ¬ (x_26 < x_18)) (by decide +kernel) (by decide +kernel) f_17 f_25 (Int.not_lt.symm) (fun hp_28 => ?_) (fun hp_28 => ?_)
    · have h := it_f hp_28 h
      refine go_iconst (n := 0) (z := 0) (by decide +kernel) (by decide) fun v_29 f_30 => ?_
      cases h
      exact go_iret (by decide +kernel) rfl (Or.inr ⟨rfl, by decide⟩) f_30 (hQ _ _ R (q_out_v (by decide) f_30))
    · have h := it_n hp_28 h
      refine go_iconst (n := 1) (z := 1) (by decide +kernel) (by decide) fun v_31 f_32 => ?_
      refine go_goto (o := 4) (t := 29) (by decide +kernel) (by decide +kernel) ?_
      cases h
      exact go_iret (by decide +kernel) rfl (Or.inr ⟨rfl, by decide⟩) f_32 (hQ _ _ R (q_out_v (by decide) f_32))
noncomputable def fm_X6_firstOrder (p0 : Int) (m0 : MM) : Option Int := lx (m0 p0 16) fun x_4 =>
gd (okc m0 x_4 3) <| bp (fm_X2_firstNew x_4 m0) fun x_11 =>
bp (fm_X2_orderOfArrival x_4 x_11 m0) fun x_20 =>
some x_20
set_option maxHeartbeats 4000000 in
theorem om_X6_firstOrder {xs : List Int32} {d : Nat} {S : QS} {m0 : MM} {p0 : Int} {v0 : Value} {rz : Int}
  (hd : 4 ≤ d) (R : Rp S m0) (g0 : okc m0 p0 7) (f0 : q_is 2 v0 p0)
  (h : fm_X6_firstOrder p0 m0 = some rz) : Mt xs d 68 [v0] S (Cr 0 m0 m0 rz) := by
  obtain ⟨d, rfl⟩ : ∃ e, d = e + 1 := ⟨d - 1, by omega⟩
  have hd : 3 ≤ d := Nat.le_of_succ_le_succ hd
  refine Mt.of (M := qM_X6_firstOrder) rfl (by rw [sl_1 (q_is_cat f0 (Or.inr rfl)), sl_0]; decide) ?_
  rw [la_1 (q_is_cat f0 (Or.inr rfl)), la_0]
  obtain ⟨L, hL⟩ : ∃ L : QL, L = [(0, v0)] := ⟨_, rfl⟩
  rw [← hL]
  have l0 : q_lo L 0 = some v0 := by rw [hL]; rfl
  have hQ : ∀ o S1, Rp S1 m0 → q_out 0 o rz → (Cr 0 m0 m0 rz) o S1 := fun o S1 a b => ⟨a, Ext.rf _, b⟩
  unfold fm_X6_firstOrder at h
  refine go_aload_n (n := 0) (by decide +kernel) l0 f0 ?_
  obtain ⟨x_4, e_5, h⟩ := lx_s h
  refine go_getf (x := 50) (ci := 7) (kf := 16) (fin := 1) (t := 2) (by decide +kernel) (by decide +kernel) (by decide +kernel) R f0 g0 fun v_1 f_2 => ?_
  have f_3 := q_is_eq f_2 e_5
  refine go_aload_n (n := 0) (by decide +kernel) l0 f0 ?_
  refine go_getf (x := 50) (ci := 7) (kf := 16) (fin := 1) (t := 2) (by decide +kernel) (by decide +kernel) (by decide +kernel) R f0 g0 fun v_6 f_7 => ?_
  have f_8 := q_is_eq f_7 e_5
  obtain ⟨g_9, h⟩ := gd_s h
  obtain ⟨x_11, hc_10, h⟩ := bp_s h
  refine go_callV (x := 88) (mi := 25) (n := 0) (ci := 3) (as := []) (rest := [v_1]) (by decide +kernel) (by decide +kernel) rfl rfl (q_sum8 _ (Nat.le_of_ble_eq_true rfl)) R f_8 g_9 (om_X2_firstNew (Nat.le_trans (by decide) hd) R g_9 f_8 hc_10) (fun _ S_15 q_18 => ?_) (fun _ _ qq => kr_x qq)
  refine kr_z (by decide) q_18 fun v_13 f_14 R_16 E_17 => ?_
  obtain ⟨x_20, hc_19, h⟩ := bp_s h
  refine go_callV (x := 92) (mi := 14) (n := 1) (ci := 3) (as := [v_13]) (rest := []) (by decide +kernel) (by decide +kernel) rfl rfl (q_sum8 _ (Nat.le_of_ble_eq_true rfl)) R_16 f_3 g_9 (om_X2_orderOfArrival (Nat.le_trans (by decide) hd) R_16 g_9 f_3 f_14 hc_19) (fun _ S_24 q_27 => ?_) (fun _ _ qq => kr_x qq)
  refine kr_z (by decide) q_27 fun v_22 f_23 R_25 E_26 => ?_
  cases h
  exact go_iret (by decide +kernel) rfl (Or.inl rfl) f_23 (hQ _ _ R_25 (q_out_v (by decide) f_23))
noncomputable def fm_X6_mark (p0 : Int) (m0 : MM) : Option Int := lx (m0 p0 9) fun x_4 =>
lx (m0 p0 16) fun x_13 =>
gd (okc m0 x_13 3) <| lx (m0 x_13 3) fun x_19 =>
lx (m0 p0 3) fun x_30 =>
some (w32 ((w32 ((w32 ((w32 (x_4 * 1000)) + x_19)) * 4)) + x_30))
set_option maxHeartbeats 4000000 in
theorem om_X6_mark {xs : List Int32} {d : Nat} {S : QS} {m0 : MM} {p0 : Int} {v0 : Value} {rz : Int}
  (hd : 1 ≤ d) (R : Rp S m0) (g0 : okc m0 p0 7) (f0 : q_is 2 v0 p0)
  (h : fm_X6_mark p0 m0 = some rz) : Mt xs d 69 [v0] S (Cr 0 m0 m0 rz) := by
  obtain ⟨d, rfl⟩ : ∃ e, d = e + 1 := ⟨d - 1, by omega⟩
  have hd : 0 ≤ d := Nat.le_of_succ_le_succ hd
  refine Mt.of (M := qM_X6_mark) rfl (by rw [sl_1 (q_is_cat f0 (Or.inr rfl)), sl_0]; decide) ?_
  rw [la_1 (q_is_cat f0 (Or.inr rfl)), la_0]
  obtain ⟨L, hL⟩ : ∃ L : QL, L = [(0, v0)] := ⟨_, rfl⟩
  rw [← hL]
  have l0 : q_lo L 0 = some v0 := by rw [hL]; rfl
  have hQ : ∀ o S1, Rp S1 m0 → q_out 0 o rz → (Cr 0 m0 m0 rz) o S1 := fun o S1 a b => ⟨a, Ext.rf _, b⟩
  unfold fm_X6_mark at h
  refine go_aload_n (n := 0) (by decide +kernel) l0 f0 ?_
  obtain ⟨x_4, e_5, h⟩ := lx_s h
  refine go_getf (x := 21) (ci := 7) (kf := 9) (fin := 0) (t := 0) (by decide +kernel) (by decide +kernel) (by decide +kernel) R f0 g0 fun v_1 f_2 => ?_
  have f_3 := q_is_eq f_2 e_5
  refine go_sipush (n := 1000) (z := 1000) (by decide +kernel) (by decide) fun v_6 f_7 => ?_
  refine go_imul (by decide +kernel) f_3 f_7 fun v_8 f_9 => ?_
  refine go_aload_n (n := 0) (by decide +kernel) l0 f0 ?_
  obtain ⟨x_13, e_14, h⟩ := lx_s h
  refine go_getf (x := 50) (ci := 7) (kf := 16) (fin := 1) (t := 2) (by decide +kernel) (by decide +kernel) (by decide +kernel) R f0 g0 fun v_10 f_11 => ?_
  have f_12 := q_is_eq f_11 e_14
  obtain ⟨g_17, h⟩ := gd_s h
  obtain ⟨x_19, e_20, h⟩ := lx_s h
  refine go_getf (x := 96) (ci := 3) (kf := 3) (fin := 0) (t := 0) (by decide +kernel) (by decide +kernel) (by decide +kernel) R f_12 g_17 fun v_15 f_16 => ?_
  have f_18 := q_is_eq f_16 e_20
  refine go_iadd (by decide +kernel) f_9 f_18 fun v_21 f_22 => ?_
  refine go_iconst (n := 4) (z := 4) (by decide +kernel) (by decide) fun v_23 f_24 => ?_
  refine go_imul (by decide +kernel) f_22 f_24 fun v_25 f_26 => ?_
  refine go_aload_n (n := 0) (by decide +kernel) l0 f0 ?_
  obtain ⟨x_30, e_31, h⟩ := lx_s h
  refine go_getf (x := 73) (ci := 7) (kf := 3) (fin := 0) (t := 0) (by decide +kernel) (by decide +kernel) (by decide +kernel) R f0 g0 fun v_27 f_28 => ?_
  have f_29 := q_is_eq f_28 e_31
  refine go_iadd (by decide +kernel) f_26 f_29 fun v_32 f_33 => ?_
  cases h
  exact go_iret (by decide +kernel) rfl (Or.inl rfl) f_33 (hQ _ _ R (q_out_v (by decide) f_33))
noncomputable def fm_X6_isKeptBy (p0 p1 : Int) (m0 : MM) : Option Int := lx (m0 p0 12) fun x_4 =>
if x_4 = p1 then
lx (m0 p0 13) fun x_12 =>
bp (fm_X6_mark p0 m0) fun x_15 =>
if x_12 = x_15 then
some 1
else
some 0
else
some 0
set_option maxHeartbeats 4000000 in
theorem om_X6_isKeptBy {xs : List Int32} {d : Nat} {S : QS} {m0 : MM} {p0 p1 : Int} {v0 : Value} {v1 : Value} {rz : Int}
  (hd : 2 ≤ d) (R : Rp S m0) (g0 : okc m0 p0 7) (f0 : q_is 2 v0 p0) (f1 : q_is 0 v1 p1)
  (h : fm_X6_isKeptBy p0 p1 m0 = some rz) : Mt xs d 70 [v0, v1] S (Cr 0 m0 m0 rz) := by
  obtain ⟨d, rfl⟩ : ∃ e, d = e + 1 := ⟨d - 1, by omega⟩
  have hd : 1 ≤ d := Nat.le_of_succ_le_succ hd
  refine Mt.of (M := qM_X6_isKeptBy) rfl (by rw [sl_1 (q_is_cat f0 (Or.inr rfl)), sl_1 (q_is_cat f1 (Or.inl rfl)), sl_0]; decide) ?_
  rw [la_1 (q_is_cat f0 (Or.inr rfl)), la_1 (q_is_cat f1 (Or.inl rfl)), la_0]
  obtain ⟨L, hL⟩ : ∃ L : QL, L = [(0, v0), (0 + 1, v1)] := ⟨_, rfl⟩
  rw [← hL]
  have l0 : q_lo L 0 = some v0 := by rw [hL]; rfl
  have l1 : q_lo L 1 = some v1 := by rw [hL]; rfl
  have hQ : ∀ o S1, Rp S1 m0 → q_out 0 o rz → (Cr 0 m0 m0 rz) o S1 := fun o S1 a b => ⟨a, Ext.rf _, b⟩
  unfold fm_X6_isKeptBy at h
  refine go_aload_n (n := 0) (by decide +kernel) l0 f0 ?_
  obtain ⟨x_4, e_5, h⟩ := lx_s h
  refine go_getf (x := 30) (ci := 7) (kf := 12) (fin := 0) (t := 0) (by decide +kernel) (by decide +kernel) (by decide +kernel) R f0 g0 fun v_1 f_2 => ?_
  have f_3 := q_is_eq f_2 e_5
  refine go_iload_n (n := 1) (by decide +kernel) l1 f1 ?_
  refine go_icmp (c := .ne) (o := 18) (t := 23) (P := ¬ (x_4 = p1)) (by decide +kernel) (by decide +kernel) f_3 f1 (Iff.rfl) (fun hp_6 => ?_) (fun hp_6 => ?_)
  · have h := it_f hp_6 h
    refine go_iconst (n := 0) (z := 0) (by decide +kernel) (by decide) fun v_7 f_8 => ?_
    cases h
    exact go_iret (by decide +kernel) rfl (Or.inr ⟨rfl, by decide⟩) f_8 (hQ _ _ R (q_out_v (by decide) f_8))
  · have h := it_n hp_6 h
    refine go_aload_n (n := 0) (by decide +kernel) l0 f0 ?_
    obtain ⟨x_12, e_13, h⟩ := lx_s h
    refine go_getf (x := 33) (ci := 7) (kf := 13) (fin := 0) (t := 0) (by decide +kernel) (by decide +kernel) (by decide +kernel) R f0 g0 fun v_9 f_10 => ?_
    have f_11 := q_is_eq f_10 e_13
    refine go_aload_n (n := 0) (by decide +kernel) l0 f0 ?_
    obtain ⟨x_15, hc_14, h⟩ := bp_s h
    refine go_callV (x := 99) (mi := 69) (n := 0) (ci := 7) (as := []) (rest := [v_9]) (by decide +kernel) (by decide +kernel) rfl rfl (q_sum8 _ (Nat.le_of_ble_eq_true rfl)) R f0 g0 (om_X6_mark (Nat.le_trans (by decide) hd) R g0 f0 hc_14) (fun _ S_19 q_22 => ?_) (fun _ _ qq => kr_x qq)
    refine kr_z (by decide) q_22 fun v_17 f_18 R_20 E_21 => ?_
    refine go_icmp (c := .ne) (o := 7) (t := 23) (P := ¬ (x_12 = x_15)) (by decide +kernel) (by decide +kernel) f_11 f_18 (Iff.rfl) (fun hp_23 => ?_) (fun hp_23 => ?_)
    · have h := it_f hp_23 h
      refine go_iconst (n := 0) (z := 0) (by decide +kernel) (by decide) fun v_24 f_25 => ?_
      cases h
      exact go_iret (by decide +kernel) rfl (Or.inr ⟨rfl, by decide⟩) f_25 (hQ _ _ R_20 (q_out_v (by decide) f_25))
    · have h := it_n hp_23 h
      refine go_iconst (n := 1) (z := 1) (by decide +kernel) (by decide) fun v_26 f_27 => ?_
      refine go_goto (o := 4) (t := 24) (by decide +kernel) (by decide +kernel) ?_
      cases h
      exact go_iret (by decide +kernel) rfl (Or.inr ⟨rfl, by decide⟩) f_27 (hQ _ _ R_20 (q_out_v (by decide) f_27))
noncomputable def fm_X6_addTimer (p0 p1 p2 : Int) (m0 : MM) : Option (Int × MM) := lx (m0 p0 17) fun x_4 =>
gd (okc m0 x_4 6) <| bd (fm_X5_add x_4 p1 m0) fun x_10 m_11 =>
lx (m_11 p0 18) fun x_25 =>
gd (okc m_11 x_25 6) <| bd (fm_X5_add x_25 p2 m_11) fun x_31 m_32 =>
some (0, m_32)
set_option maxHeartbeats 4000000 in
theorem om_X6_addTimer {xs : List Int32} {d : Nat} {S : QS} {m0 : MM} {p0 p1 p2 : Int} {v0 : Value} {v1 : Value} {v2 : Value} {rz : Int} {rm : MM}
  (hd : 2 ≤ d) (R : Rp S m0) (g0 : okc m0 p0 7) (f0 : q_is 2 v0 p0) (f1 : q_is 0 v1 p1) (f2 : q_is 0 v2 p2)
  (h : fm_X6_addTimer p0 p1 p2 m0 = some (rz, rm)) : Mt xs d 71 [v0, v1, v2] S (Cr 9 m0 rm rz) := by
  obtain ⟨d, rfl⟩ : ∃ e, d = e + 1 := ⟨d - 1, by omega⟩
  have hd : 1 ≤ d := Nat.le_of_succ_le_succ hd
  refine Mt.of (M := qM_X6_addTimer) rfl (by rw [sl_1 (q_is_cat f0 (Or.inr rfl)), sl_1 (q_is_cat f1 (Or.inl rfl)), sl_1 (q_is_cat f2 (Or.inl rfl)), sl_0]; decide) ?_
  rw [la_1 (q_is_cat f0 (Or.inr rfl)), la_1 (q_is_cat f1 (Or.inl rfl)), la_1 (q_is_cat f2 (Or.inl rfl)), la_0]
  obtain ⟨L, hL⟩ : ∃ L : QL, L = [(0, v0), (0 + 1, v1), (0 + 1 + 1, v2)] := ⟨_, rfl⟩
  rw [← hL]
  have l0 : q_lo L 0 = some v0 := by rw [hL]; rfl
  have l1 : q_lo L 1 = some v1 := by rw [hL]; rfl
  have l2 : q_lo L 2 = some v2 := by rw [hL]; rfl
  have hQ : Ext m0 rm → ∀ o S1, Rp S1 rm → q_out 9 o rz → (Cr 9 m0 rm rz) o S1 := fun a o S1 b e => ⟨b, a, e⟩
  unfold fm_X6_addTimer at h
  refine go_aload_n (n := 0) (by decide +kernel) l0 f0 ?_
  obtain ⟨x_4, e_5, h⟩ := lx_s h
  refine go_getf (x := 54) (ci := 7) (kf := 17) (fin := 1) (t := 2) (by decide +kernel) (by decide +kernel) (by decide +kernel) R f0 g0 fun v_1 f_2 => ?_
  have f_3 := q_is_eq f_2 e_5
  refine go_iload_n (n := 1) (by decide +kernel) l1 f1 ?_
  refine go_i2l (by decide +kernel) f1 fun v_6 f_7 => ?_
  obtain ⟨g_8, h⟩ := gd_s h
  obtain ⟨x_10, m_11, hc_9, h⟩ := bd_s h
  refine go_callV (x := 102) (mi := 60) (n := 1) (ci := 6) (as := [v_6]) (rest := []) (by decide +kernel) (by decide +kernel) rfl rfl (q_sum8 _ (Nat.le_of_ble_eq_true rfl)) R f_3 g_8 (om_X5_add (Nat.le_trans (by decide) hd) R g_8 f_3 f_7 hc_9) (fun _ S_14 q_17 => ?_) (fun _ _ qq => kr_x qq)
  refine kr_v q_17 fun R_15 E_16 => ?_
  have E_20 := E_16
  refine go_aload_n (n := 0) (by decide +kernel) l0 f0 ?_
  have g_23 := Ext.ok E_16 g0
  obtain ⟨x_25, e_26, h⟩ := lx_s h
  refine go_getf (x := 58) (ci := 7) (kf := 18) (fin := 1) (t := 2) (by decide +kernel) (by decide +kernel) (by decide +kernel) R_15 f0 g_23 fun v_21 f_22 => ?_
  have f_24 := q_is_eq f_22 e_26
  refine go_iload_n (n := 2) (by decide +kernel) l2 f2 ?_
  refine go_i2l (by decide +kernel) f2 fun v_27 f_28 => ?_
  obtain ⟨g_29, h⟩ := gd_s h
  obtain ⟨x_31, m_32, hc_30, h⟩ := bd_s h
  refine go_callV (x := 102) (mi := 60) (n := 1) (ci := 6) (as := [v_27]) (rest := []) (by decide +kernel) (by decide +kernel) rfl rfl (q_sum8 _ (Nat.le_of_ble_eq_true rfl)) R_15 f_24 g_29 (om_X5_add (Nat.le_trans (by decide) hd) R_15 g_29 f_24 f_28 hc_30) (fun _ S_35 q_38 => ?_) (fun _ _ qq => kr_x qq)
  refine kr_v q_38 fun R_36 E_37 => ?_
  have E_41 := Ext.tr E_20 E_37
  cases h
  exact go_vret (by decide +kernel) rfl (hQ E_41 _ _ R_36 q_out_n)
noncomputable def fl_X6_dropTimer_10 (p0 y1 : Int) : Nat → Int → MM → Option (Int × MM)
  | 0, _, _ => none
  | n + 1, y2, m => if y2 < 0 then
some (0, m)
else
lx (m p0 17) fun x_28 =>
gd (okc m x_28 6) <| bp (fm_X5_at x_28 y2 m) fun x_32 =>
if x_32 = y1 then
bd (fm_X5_removeAt x_28 y2 m) fun x_55 m_56 =>
lx (m_56 p0 18) fun x_70 =>
gd (okc m_56 x_70 6) <| bd (fm_X5_removeAt x_70 y2 m_56) fun x_74 m_75 =>
lx (w32 (y2 + (-1))) fun x_90 =>
fl_X6_dropTimer_10 p0 y1 n x_90 m_75
else
lx (w32 (y2 + (-1))) fun x_46 =>
fl_X6_dropTimer_10 p0 y1 n x_46 m
set_option maxHeartbeats 4000000 in
theorem ol_X6_dropTimer_10 {xs : List Int32} {d : Nat} {Q : QO → QS → Prop} {mb : MM} {p0 y1 : Int} {rz : Int} {rm : MM}
  (hd : 2 ≤ d) (gb : okc mb p0 7)
  (hQ : Ext mb rm → ∀ o S1, Rp S1 rm → q_out 9 o rz → Q o S1) :
  ∀ (n : Nat) {m : MM} {S : QS} {L : QL} {y2 : Int} {v0 : Value} {v1 : Value} {v2 : Value} , Ext mb m → fl_X6_dropTimer_10 p0 y1 n y2 m = some (rz, rm) → Rp S m → q_lo L 0 = some v0 → q_is 2 v0 p0 → q_lo L 1 = some v1 → q_is 0 v1 y1 → q_lo L 2 = some v2 → q_is 0 v2 y2 → Go xs d qM_X6_dropTimer 10 L [] S Q := by
  intro n
  induction n with
  | zero => intro m S L y2 v0 v1 v2; intro E h R l0 f0 l1 f1 l2 f2; cases h
  | succ n ih0 =>
    intro m S L y2 v0 v1 v2; intro E h R l0 f0 l1 f1 l2 f2
    have ih : ∀ mq : MM, Ext mb mq → ∀ {z2 : Int} {Sq : QS} {Lq : QL} {u0 : Value} {u1 : Value} {u2 : Value}, fl_X6_dropTimer_10 p0 y1 n z2 mq = some (rz, rm) → Rp Sq mq → q_lo Lq 0 = some u0 → q_is 2 u0 p0 → q_lo Lq 1 = some u1 → q_is 0 u1 y1 → q_lo Lq 2 = some u2 → q_is 0 u2 z2 → Go xs d qM_X6_dropTimer 10 Lq [] Sq Q := fun mq b => by intros; exact ih0 b ‹_› ‹_› ‹_› ‹_› ‹_› ‹_› ‹_› ‹_›
    have g0 := Ext.ok E gb
    unfold fl_X6_dropTimer_10 at h
    refine go_iload_n (n := 2) (by decide +kernel) l2 f2 ?_
    refine go_if (c := .lt) (o := 37) (t := 48) (P := y2 < 0) (by decide +kernel) (by decide +kernel) f2 (Iff.rfl) (fun hp_24 => ?_) (fun hp_24 => ?_)
    · have h := it_t hp_24 h
      cases h
      exact go_vret (by decide +kernel) rfl (hQ E _ _ R q_out_n)
    · have h := it_f hp_24 h
      refine go_aload_n (n := 0) (by decide +kernel) l0 f0 ?_
      obtain ⟨x_28, e_29, h⟩ := lx_s h
      refine go_getf (x := 54) (ci := 7) (kf := 17) (fin := 1) (t := 2) (by decide +kernel) (by decide +kernel) (by decide +kernel) R f0 g0 fun v_25 f_26 => ?_
      have f_27 := q_is_eq f_26 e_29
      refine go_iload_n (n := 2) (by decide +kernel) l2 f2 ?_
      obtain ⟨g_30, h⟩ := gd_s h
      obtain ⟨x_32, hc_31, h⟩ := bp_s h
      refine go_callV (x := 109) (mi := 59) (n := 1) (ci := 6) (as := [v2]) (rest := []) (by decide +kernel) (by decide +kernel) rfl rfl (q_sum8 _ (Nat.le_of_ble_eq_true rfl)) R f_27 g_30 (om_X5_at (Nat.le_trans (by decide) hd) R g_30 f_27 f2 hc_31) (fun _ S_36 q_39 => ?_) (fun _ _ qq => kr_x qq)
      refine kr_z (by decide) q_39 fun v_34 f_35 R_37 E_38 => ?_
      refine go_iload_n (n := 1) (by decide +kernel) l1 f1 ?_
      refine go_icmp (c := .ne) (o := 19) (t := 42) (P := ¬ (x_32 = y1)) (by decide +kernel) (by decide +kernel) f_35 f1 (Iff.rfl) (fun hp_40 => ?_) (fun hp_40 => ?_)
      · have h := it_f hp_40 h
        refine go_iinc (n := 2) (c := (-1)) (c' := (-1)) (by decide +kernel) (by decide +kernel) l2 f2 (by decide) fun L_41 v_42 f_43 l_44 kp_45 => ?_
        obtain ⟨x_46, e_47, h⟩ := lx_s h
        have f_48 := q_is_eq f_43 e_47
        have l_49 := kp_45 0 _ l0 (by decide) (Or.inl (by decide))
        have l_50 := kp_45 1 _ l1 (by decide) (Or.inr (q_is_cat f1 (Or.inl rfl)))
        refine go_goto (o := (-35)) (t := 10) (by decide +kernel) (by decide +kernel) ?_
        exact ih m E h R_37 l_49 f0 l_50 f1 l_44 f_48
      · have h := it_n hp_40 h
        refine go_aload_n (n := 0) (by decide +kernel) l0 f0 ?_
        refine go_getf (x := 54) (ci := 7) (kf := 17) (fin := 1) (t := 2) (by decide +kernel) (by decide +kernel) (by decide +kernel) R_37 f0 g0 fun v_51 f_52 => ?_
        have f_53 := q_is_eq f_52 e_29
        refine go_iload_n (n := 2) (by decide +kernel) l2 f2 ?_
        obtain ⟨x_55, m_56, hc_54, h⟩ := bd_s h
        refine go_callV (x := 112) (mi := 61) (n := 1) (ci := 6) (as := [v2]) (rest := []) (by decide +kernel) (by decide +kernel) rfl rfl (q_sum8 _ (Nat.le_of_ble_eq_true rfl)) R_37 f_53 g_30 (om_X5_removeAt (Nat.le_trans (by decide) hd) R_37 g_30 f_53 f2 hc_54) (fun _ S_59 q_62 => ?_) (fun _ _ qq => kr_x qq)
        refine kr_v q_62 fun R_60 E_61 => ?_
        have E_65 := Ext.tr E E_61
        refine go_aload_n (n := 0) (by decide +kernel) l0 f0 ?_
        have g_68 := Ext.ok E_61 g0
        obtain ⟨x_70, e_71, h⟩ := lx_s h
        refine go_getf (x := 58) (ci := 7) (kf := 18) (fin := 1) (t := 2) (by decide +kernel) (by decide +kernel) (by decide +kernel) R_60 f0 g_68 fun v_66 f_67 => ?_
        have f_69 := q_is_eq f_67 e_71
        refine go_iload_n (n := 2) (by decide +kernel) l2 f2 ?_
        obtain ⟨g_72, h⟩ := gd_s h
        obtain ⟨x_74, m_75, hc_73, h⟩ := bd_s h
        refine go_callV (x := 112) (mi := 61) (n := 1) (ci := 6) (as := [v2]) (rest := []) (by decide +kernel) (by decide +kernel) rfl rfl (q_sum8 _ (Nat.le_of_ble_eq_true rfl)) R_60 f_69 g_72 (om_X5_removeAt (Nat.le_trans (by decide) hd) R_60 g_72 f_69 f2 hc_73) (fun _ S_78 q_81 => ?_) (fun _ _ qq => kr_x qq)
        refine kr_v q_81 fun R_79 E_80 => ?_
        have E_84 := Ext.tr E_65 E_80
        refine go_iinc (n := 2) (c := (-1)) (c' := (-1)) (by decide +kernel) (by decide +kernel) l2 f2 (by decide) fun L_85 v_86 f_87 l_88 kp_89 => ?_
        obtain ⟨x_90, e_91, h⟩ := lx_s h
        have f_92 := q_is_eq f_87 e_91
        have l_93 := kp_89 0 _ l0 (by decide) (Or.inl (by decide))
        have l_94 := kp_89 1 _ l1 (by decide) (Or.inr (q_is_cat f1 (Or.inl rfl)))
        refine go_goto (o := (-35)) (t := 10) (by decide +kernel) (by decide +kernel) ?_
        exact ih m_75 E_84 h R_79 l_93 f0 l_94 f1 l_88 f_92
noncomputable def fm_X6_dropTimer (p0 p1 : Int) (m0 : MM) : Option (Int × MM) := lx (m0 p0 17) fun x_4 =>
gd (okc m0 x_4 6) <| lx (m0 x_4 2) fun x_10 =>
lx (w32 (x_10 - 1)) fun x_16 =>
fl_X6_dropTimer_10 p0 p1  BIG x_16 m0
set_option maxHeartbeats 4000000 in
theorem om_X6_dropTimer {xs : List Int32} {d : Nat} {S : QS} {m0 : MM} {p0 p1 : Int} {v0 : Value} {v1 : Value} {rz : Int} {rm : MM}
  (hd : 3 ≤ d) (R : Rp S m0) (g0 : okc m0 p0 7) (f0 : q_is 2 v0 p0) (f1 : q_is 0 v1 p1)
  (h : fm_X6_dropTimer p0 p1 m0 = some (rz, rm)) : Mt xs d 72 [v0, v1] S (Cr 9 m0 rm rz) := by
  obtain ⟨d, rfl⟩ : ∃ e, d = e + 1 := ⟨d - 1, by omega⟩
  have hd : 2 ≤ d := Nat.le_of_succ_le_succ hd
  refine Mt.of (M := qM_X6_dropTimer) rfl (by rw [sl_1 (q_is_cat f0 (Or.inr rfl)), sl_1 (q_is_cat f1 (Or.inl rfl)), sl_0]; decide) ?_
  rw [la_1 (q_is_cat f0 (Or.inr rfl)), la_1 (q_is_cat f1 (Or.inl rfl)), la_0]
  obtain ⟨L, hL⟩ : ∃ L : QL, L = [(0, v0), (0 + 1, v1)] := ⟨_, rfl⟩
  rw [← hL]
  have l0 : q_lo L 0 = some v0 := by rw [hL]; rfl
  have l1 : q_lo L 1 = some v1 := by rw [hL]; rfl
  have hQ : Ext m0 rm → ∀ o S1, Rp S1 rm → q_out 9 o rz → (Cr 9 m0 rm rz) o S1 := fun a o S1 b e => ⟨b, a, e⟩
  unfold fm_X6_dropTimer at h
  refine go_aload_n (n := 0) (by decide +kernel) l0 f0 ?_
  obtain ⟨x_4, e_5, h⟩ := lx_s h
  refine go_getf (x := 54) (ci := 7) (kf := 17) (fin := 1) (t := 2) (by decide +kernel) (by decide +kernel) (by decide +kernel) R f0 g0 fun v_1 f_2 => ?_
  have f_3 := q_is_eq f_2 e_5
  obtain ⟨g_8, h⟩ := gd_s h
  obtain ⟨x_10, e_11, h⟩ := lx_s h
  refine go_getf (x := 106) (ci := 6) (kf := 2) (fin := 0) (t := 0) (by decide +kernel) (by decide +kernel) (by decide +kernel) R f_3 g_8 fun v_6 f_7 => ?_
  have f_9 := q_is_eq f_7 e_11
  refine go_iconst (n := 1) (z := 1) (by decide +kernel) (by decide) fun v_12 f_13 => ?_
  refine go_isub (by decide +kernel) f_9 f_13 fun v_14 f_15 => ?_
  obtain ⟨x_16, e_17, h⟩ := lx_s h
  have f_18 := q_is_eq f_15 e_17
  refine go_istore_n (n := 2) (by decide +kernel) (by decide +kernel) f_18 fun L_19 l_20 kp_21 => ?_
  have l_22 := kp_21 0 _ l0 (by decide) (Or.inl (by decide))
  have l_23 := kp_21 1 _ l1 (by decide) (Or.inr (q_is_cat f1 (Or.inl rfl)))
  refine ol_X6_dropTimer_10 hd  g0  hQ BIG (Ext.rf _) h R l_22 f0 l_23 f1 l_20 f_18
noncomputable def fm_X7_init (p0 p1 p2 p3 p4 p5 : Int) (m0 : MM) : Option (Int × MM) := up m0 p0 5 0 fun m_3 =>
up m_3 p0 6 (-1) fun m_13 =>
up m_13 p0 7 0 fun m_23 =>
up m_23 p0 8 0 fun m_33 =>
up m_33 p0 0 p1 fun m_41 =>
up m_41 p0 1 p2 fun m_49 =>
up m_49 p0 2 p3 fun m_57 =>
up m_57 p0 3 p4 fun m_65 =>
up m_65 p0 4 p5 fun m_73 =>
some (0, m_73)
set_option maxHeartbeats 4000000 in
theorem om_X7_init {xs : List Int32} {d : Nat} {S : QS} {m0 : MM} {p0 p1 p2 p3 p4 p5 : Int} {v0 : Value} {v1 : Value} {v2 : Value} {v3 : Value} {v4 : Value} {v5 : Value} {rz : Int} {rm : MM}
  (hd : 1 ≤ d) (R : Rp S m0) (g0 : okc m0 p0 8) (f0 : q_is 2 v0 p0) (f1 : q_is 0 v1 p1) (f2 : q_is 0 v2 p2) (f3 : q_is 0 v3 p3) (f4 : q_is 0 v4 p4) (f5 : q_is 0 v5 p5)
  (h : fm_X7_init p0 p1 p2 p3 p4 p5 m0 = some (rz, rm)) : Mt xs d 73 [v0, v1, v2, v3, v4, v5] S (Cr 9 m0 rm rz) := by
  obtain ⟨d, rfl⟩ : ∃ e, d = e + 1 := ⟨d - 1, by omega⟩
  have hd : 0 ≤ d := Nat.le_of_succ_le_succ hd
  refine Mt.of (M := qM_X7_init) rfl (by rw [sl_1 (q_is_cat f0 (Or.inr rfl)), sl_1 (q_is_cat f1 (Or.inl rfl)), sl_1 (q_is_cat f2 (Or.inl rfl)), sl_1 (q_is_cat f3 (Or.inl rfl)), sl_1 (q_is_cat f4 (Or.inl rfl)), sl_1 (q_is_cat f5 (Or.inl rfl)), sl_0]; decide) ?_
  rw [la_1 (q_is_cat f0 (Or.inr rfl)), la_1 (q_is_cat f1 (Or.inl rfl)), la_1 (q_is_cat f2 (Or.inl rfl)), la_1 (q_is_cat f3 (Or.inl rfl)), la_1 (q_is_cat f4 (Or.inl rfl)), la_1 (q_is_cat f5 (Or.inl rfl)), la_0]
  obtain ⟨L, hL⟩ : ∃ L : QL, L = [(0, v0), (0 + 1, v1), (0 + 1 + 1, v2), (0 + 1 + 1 + 1, v3), (0 + 1 + 1 + 1 + 1, v4), (0 + 1 + 1 + 1 + 1 + 1, v5)] := ⟨_, rfl⟩
  rw [← hL]
  have l0 : q_lo L 0 = some v0 := by rw [hL]; rfl
  have l1 : q_lo L 1 = some v1 := by rw [hL]; rfl
  have l2 : q_lo L 2 = some v2 := by rw [hL]; rfl
  have l3 : q_lo L 3 = some v3 := by rw [hL]; rfl
  have l4 : q_lo L 4 = some v4 := by rw [hL]; rfl
  have l5 : q_lo L 5 = some v5 := by rw [hL]; rfl
  have hQ : Ext m0 rm → ∀ o S1, Rp S1 rm → q_out 9 o rz → (Cr 9 m0 rm rz) o S1 := fun a o S1 b e => ⟨b, a, e⟩
  unfold fm_X7_init at h
  refine go_aload_n (n := 0) (by decide +kernel) l0 f0 ?_
  refine go_oinit (x := 1) (a := 0) (b := 0) (e := 0) (by decide +kernel) (by decide +kernel) f0 (okc_ne g0) (q_sum8 _ (Nat.le_of_ble_eq_true rfl)) ?_
  refine go_aload_n (n := 0) (by decide +kernel) l0 f0 ?_
  refine go_iconst (n := 0) (z := 0) (by decide +kernel) (by decide) fun v_1 f_2 => ?_
  obtain ⟨m_3, e_4, h⟩ := up_s h
  refine go_putf (x := 7) (ci := 8) (kf := 5) (fin := 0) (zt := 1) (by decide +kernel) (by decide +kernel) (by decide) (by decide +kernel) (by decide) (Or.inl rfl) R f0 f_2 (fun _ => by decide) g0 e_4 (fx_f (j := 5) R.2 g0 (by decide +kernel)) fun S_5 R_6 E_7 => ?_
  have E_9 := E_7
  refine go_aload_n (n := 0) (by decide +kernel) l0 f0 ?_
  refine go_iconst (n := (-1)) (z := (-1)) (by decide +kernel) (by decide) fun v_10 f_11 => ?_
  have g_12 := Ext.ok E_7 g0
  obtain ⟨m_13, e_14, h⟩ := up_s h
  refine go_putf (x := 13) (ci := 8) (kf := 6) (fin := 0) (zt := 0) (by decide +kernel) (by decide +kernel) (by decide) (by decide +kernel) (by decide) (Or.inl rfl) R_6 f0 f_11 (fun hq => absurd hq (by decide)) g_12 e_14 (fx_f (j := 6) R_6.2 g_12 (by decide +kernel)) fun S_15 R_16 E_17 => ?_
  have E_19 := Ext.tr E_9 E_17
  refine go_aload_n (n := 0) (by decide +kernel) l0 f0 ?_
  refine go_iconst (n := 0) (z := 0) (by decide +kernel) (by decide) fun v_20 f_21 => ?_
  have g_22 := Ext.ok E_17 g_12
  obtain ⟨m_23, e_24, h⟩ := up_s h
  refine go_putf (x := 17) (ci := 8) (kf := 7) (fin := 0) (zt := 1) (by decide +kernel) (by decide +kernel) (by decide) (by decide +kernel) (by decide) (Or.inl rfl) R_16 f0 f_21 (fun _ => by decide) g_22 e_24 (fx_f (j := 7) R_16.2 g_22 (by decide +kernel)) fun S_25 R_26 E_27 => ?_
  have E_29 := Ext.tr E_19 E_27
  refine go_aload_n (n := 0) (by decide +kernel) l0 f0 ?_
  refine go_iconst (n := 0) (z := 0) (by decide +kernel) (by decide) fun v_30 f_31 => ?_
  have g_32 := Ext.ok E_27 g_22
  obtain ⟨m_33, e_34, h⟩ := up_s h
  refine go_putf (x := 20) (ci := 8) (kf := 8) (fin := 0) (zt := 0) (by decide +kernel) (by decide +kernel) (by decide) (by decide +kernel) (by decide) (Or.inl rfl) R_26 f0 f_31 (fun hq => absurd hq (by decide)) g_32 e_34 (fx_f (j := 8) R_26.2 g_32 (by decide +kernel)) fun S_35 R_36 E_37 => ?_
  have E_39 := Ext.tr E_29 E_37
  refine go_aload_n (n := 0) (by decide +kernel) l0 f0 ?_
  refine go_iload_n (n := 1) (by decide +kernel) l1 f1 ?_
  have g_40 := Ext.ok E_37 g_32
  obtain ⟨m_41, e_42, h⟩ := up_s h
  refine go_putf (x := 23) (ci := 8) (kf := 0) (fin := 1) (zt := 0) (by decide +kernel) (by decide +kernel) (by decide) (by decide +kernel) (by decide) (Or.inr ⟨rfl, rfl⟩) R_36 f0 f1 (fun hq => absurd hq (by decide)) g_40 e_42 (fx_f (j := 0) R_36.2 g_40 (by decide +kernel)) fun S_43 R_44 E_45 => ?_
  have E_47 := Ext.tr E_39 E_45
  refine go_aload_n (n := 0) (by decide +kernel) l0 f0 ?_
  refine go_iload_n (n := 2) (by decide +kernel) l2 f2 ?_
  have g_48 := Ext.ok E_45 g_40
  obtain ⟨m_49, e_50, h⟩ := up_s h
  refine go_putf (x := 26) (ci := 8) (kf := 1) (fin := 1) (zt := 0) (by decide +kernel) (by decide +kernel) (by decide) (by decide +kernel) (by decide) (Or.inr ⟨rfl, rfl⟩) R_44 f0 f2 (fun hq => absurd hq (by decide)) g_48 e_50 (fx_f (j := 1) R_44.2 g_48 (by decide +kernel)) fun S_51 R_52 E_53 => ?_
  have E_55 := Ext.tr E_47 E_53
  refine go_aload_n (n := 0) (by decide +kernel) l0 f0 ?_
  refine go_iload_n (n := 3) (by decide +kernel) l3 f3 ?_
  have g_56 := Ext.ok E_53 g_48
  obtain ⟨m_57, e_58, h⟩ := up_s h
  refine go_putf (x := 29) (ci := 8) (kf := 2) (fin := 1) (zt := 0) (by decide +kernel) (by decide +kernel) (by decide) (by decide +kernel) (by decide) (Or.inr ⟨rfl, rfl⟩) R_52 f0 f3 (fun hq => absurd hq (by decide)) g_56 e_58 (fx_f (j := 2) R_52.2 g_56 (by decide +kernel)) fun S_59 R_60 E_61 => ?_
  have E_63 := Ext.tr E_55 E_61
  refine go_aload_n (n := 0) (by decide +kernel) l0 f0 ?_
  refine go_iload (n := 4) (by decide +kernel) l4 f4 ?_
  have g_64 := Ext.ok E_61 g_56
  obtain ⟨m_65, e_66, h⟩ := up_s h
  refine go_putf (x := 32) (ci := 8) (kf := 3) (fin := 1) (zt := 0) (by decide +kernel) (by decide +kernel) (by decide) (by decide +kernel) (by decide) (Or.inr ⟨rfl, rfl⟩) R_60 f0 f4 (fun hq => absurd hq (by decide)) g_64 e_66 (fx_f (j := 3) R_60.2 g_64 (by decide +kernel)) fun S_67 R_68 E_69 => ?_
  have E_71 := Ext.tr E_63 E_69
  refine go_aload_n (n := 0) (by decide +kernel) l0 f0 ?_
  refine go_iload (n := 5) (by decide +kernel) l5 f5 ?_
  have g_72 := Ext.ok E_69 g_64
  obtain ⟨m_73, e_74, h⟩ := up_s h
  refine go_putf (x := 35) (ci := 8) (kf := 4) (fin := 0) (zt := 0) (by decide +kernel) (by decide +kernel) (by decide) (by decide +kernel) (by decide) (Or.inl rfl) R_68 f0 f5 (fun hq => absurd hq (by decide)) g_72 e_74 (fx_f (j := 4) R_68.2 g_72 (by decide +kernel)) fun S_75 R_76 E_77 => ?_
  have E_79 := Ext.tr E_71 E_77
  cases h
  exact go_vret (by decide +kernel) rfl (hQ E_79 _ _ R_76 q_out_n)
end DF10
