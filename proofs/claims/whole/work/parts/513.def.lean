/-! Methods as functions (written by wip/whole/dec.py), 13: X11_arrive, X11_startRun, X11_begin, X11_runAt, X11_checkName, X11_signal, X11_typeOf, X11_codeOf, X11_update, X11_cancelRun. -/
section DF13
noncomputable def fm_X11_arrive (p1 p2 p3 p4 : Int) (m0 : MM) : Option (Int × MM) := gd (okc m0 p1 7) <| lx (m0 p1 16) fun x_5 =>
lx (m0 4 14) fun x_10 =>
lx (m0 4 16) fun x_15 =>
gd (okc m0 x_5 3) <| bd (fm_X2_put x_5 p2 p3 p4 x_10 x_15 m0) fun x_19 m_20 =>
lx (m_20 4 16) fun x_31 =>
up m_20 4 16 (w32 (x_31 + 1)) fun m_37 =>
some (0, m_37)
set_option maxHeartbeats 4000000 in
theorem om_X11_arrive {xs : List Int32} {d : Nat} {S : QS} {m0 : MM} {p1 p2 p3 p4 : Int} {v0 : Value} {v1 : Value} {v2 : Value} {v3 : Value} {v4 : Value} {rz : Int} {rm : MM}
  (hd : 3 ≤ d) (R : Rp S m0) (f0 : q_is 2 v0 4) (f1 : q_is 2 v1 p1) (f2 : q_is 0 v2 p2) (f3 : q_is 0 v3 p3) (f4 : q_is 0 v4 p4)
  (h : fm_X11_arrive p1 p2 p3 p4 m0 = some (rz, rm)) : Mt xs d 152 [v0, v1, v2, v3, v4] S (Cr 9 m0 rm rz) := by
  obtain ⟨d, rfl⟩ : ∃ e, d = e + 1 := ⟨d - 1, by omega⟩
  have hd : 2 ≤ d := Nat.le_of_succ_le_succ hd
  refine Mt.of (M := qM_X11_arrive) rfl (by rw [sl_1 (q_is_cat f0 (Or.inr rfl)), sl_1 (q_is_cat f1 (Or.inr rfl)), sl_1 (q_is_cat f2 (Or.inl rfl)), sl_1 (q_is_cat f3 (Or.inl rfl)), sl_1 (q_is_cat f4 (Or.inl rfl)), sl_0]; decide) ?_
  rw [la_1 (q_is_cat f0 (Or.inr rfl)), la_1 (q_is_cat f1 (Or.inr rfl)), la_1 (q_is_cat f2 (Or.inl rfl)), la_1 (q_is_cat f3 (Or.inl rfl)), la_1 (q_is_cat f4 (Or.inl rfl)), la_0]
  obtain ⟨L, hL⟩ : ∃ L : QL, L = [(0, v0), (0 + 1, v1), (0 + 1 + 1, v2), (0 + 1 + 1 + 1, v3), (0 + 1 + 1 + 1 + 1, v4)] := ⟨_, rfl⟩
  rw [← hL]
  have l0 : q_lo L 0 = some v0 := by rw [hL]; rfl
  have l1 : q_lo L 1 = some v1 := by rw [hL]; rfl
  have l2 : q_lo L 2 = some v2 := by rw [hL]; rfl
  have l3 : q_lo L 3 = some v3 := by rw [hL]; rfl
  have l4 : q_lo L 4 = some v4 := by rw [hL]; rfl
  have hQ : Ext m0 rm → ∀ o S1, Rp S1 rm → q_out 9 o rz → (Cr 9 m0 rm rz) o S1 := fun a o S1 b e => ⟨b, a, e⟩
  unfold fm_X11_arrive at h
  refine go_aload_n (n := 1) (by decide +kernel) l1 f1 ?_
  obtain ⟨g_3, h⟩ := gd_s h
  obtain ⟨x_5, e_6, h⟩ := lx_s h
  refine go_getf (x := 195) (ci := 7) (kf := 16) (fin := 2) (t := 2) (by decide +kernel) (by decide +kernel) (by decide +kernel) R f1 g_3 fun v_1 f_2 => ?_
  have f_4 := q_is_eq f_2 e_6
  refine go_iload_n (n := 2) (by decide +kernel) l2 f2 ?_
  refine go_iload_n (n := 3) (by decide +kernel) l3 f3 ?_
  refine go_iload (n := 4) (by decide +kernel) l4 f4 ?_
  refine go_aload_n (n := 0) (by decide +kernel) l0 f0 ?_
  obtain ⟨x_10, e_11, h⟩ := lx_s h
  refine go_getf (x := 71) (ci := 12) (kf := 14) (fin := 0) (t := 0) (by decide +kernel) (by decide +kernel) (by decide +kernel) R f0 (fx_k (c := 12) R (by decide +kernel)) fun v_7 f_8 => ?_
  have f_9 := q_is_eq f_8 e_11
  refine go_aload_n (n := 0) (by decide +kernel) l0 f0 ?_
  obtain ⟨x_15, e_16, h⟩ := lx_s h
  refine go_getf (x := 77) (ci := 12) (kf := 16) (fin := 0) (t := 0) (by decide +kernel) (by decide +kernel) (by decide +kernel) R f0 (fx_k (c := 12) R (by decide +kernel)) fun v_12 f_13 => ?_
  have f_14 := q_is_eq f_13 e_16
  obtain ⟨g_17, h⟩ := gd_s h
  obtain ⟨x_19, m_20, hc_18, h⟩ := bd_s h
  refine go_callV (x := 537) (mi := 15) (n := 5) (ci := 3) (as := [v2, v3, v4, v_7, v_12]) (rest := []) (by decide +kernel) (by decide +kernel) rfl rfl (q_sum8 _ (Nat.le_of_ble_eq_true rfl)) R f_4 g_17 (om_X2_put (Nat.le_trans (by decide) hd) R g_17 f_4 f2 f3 f4 f_9 f_14 hc_18) (fun _ S_23 q_26 => ?_) (fun _ _ qq => kr_x qq)
  refine kr_v q_26 fun R_24 E_25 => ?_
  have E_27 := E_25
  refine go_aload_n (n := 0) (by decide +kernel) l0 f0 ?_
  refine go_dup (by decide +kernel) f0 (Or.inr rfl) ?_
  obtain ⟨x_31, e_32, h⟩ := lx_s h
  refine go_getf (x := 77) (ci := 12) (kf := 16) (fin := 0) (t := 0) (by decide +kernel) (by decide +kernel) (by decide +kernel) R_24 f0 (fx_k (c := 12) R_24 (by decide +kernel)) fun v_28 f_29 => ?_
  have f_30 := q_is_eq f_29 e_32
  refine go_iconst (n := 1) (z := 1) (by decide +kernel) (by decide) fun v_33 f_34 => ?_
  refine go_iadd (by decide +kernel) f_30 f_34 fun v_35 f_36 => ?_
  obtain ⟨m_37, e_38, h⟩ := up_s h
  refine go_putf (x := 77) (ci := 12) (kf := 16) (fin := 0) (zt := 0) (by decide +kernel) (by decide +kernel) (by decide) (by decide +kernel) (by decide) (Or.inl rfl) R_24 f0 f_36 (fun hq => absurd hq (by decide)) (fx_k (c := 12) R_24 (by decide +kernel)) e_38 (fx_f (j := 16) R_24.2 (fx_k (c := 12) R_24 (by decide +kernel)) (by decide +kernel)) fun S_39 R_40 E_41 => ?_
  have E_42 := Ext.tr E_27 E_41
  cases h
  exact go_vret (by decide +kernel) rfl (hQ E_42 _ _ R_40 q_out_n)
noncomputable def fm_X11_startRun (p1 p2 p3 p4 p5 : Int) (m0 : MM) : Option (Int × MM) := bp (fm_J9_floorMod_7cf53 p1 4 m0) fun x_11 =>
gd (0 ≤ x_11 ∧ x_11 < 4) <| lx (m0 5 x_11) fun x_23 =>
gd (okc m0 x_23 11) <| lx (m0 x_23 0) fun x_29 =>
gd (okc m0 x_29 0) <| bp (fm_Jx4a65c_size_8abf5 x_29 m0) fun x_33 =>
lx (w32 (x_33 - 1)) fun x_45 =>
bd (fm_X11_addRun p1 p2 x_45 p4 p5 m0) fun x_58 m_59 =>
bd (fm_X11_arrive x_58 0 p3 0 m_59) fun x_77 m_78 =>
some (x_58, m_78)
set_option maxHeartbeats 4000000 in
theorem om_X11_startRun {xs : List Int32} {d : Nat} {S : QS} {m0 : MM} {p1 p2 p3 p4 p5 : Int} {v0 : Value} {v1 : Value} {v2 : Value} {v3 : Value} {v4 : Value} {v5 : Value} {rz : Int} {rm : MM}
  (hd : 10 ≤ d) (R : Rp S m0) (f0 : q_is 2 v0 4) (f1 : q_is 0 v1 p1) (f2 : q_is 0 v2 p2) (f3 : q_is 0 v3 p3) (f4 : q_is 0 v4 p4) (f5 : q_is 0 v5 p5)
  (h : fm_X11_startRun p1 p2 p3 p4 p5 m0 = some (rz, rm)) : Mt xs d 151 [v0, v1, v2, v3, v4, v5] S (Cr 2 m0 rm rz) := by
  obtain ⟨d, rfl⟩ : ∃ e, d = e + 1 := ⟨d - 1, by omega⟩
  have hd : 9 ≤ d := Nat.le_of_succ_le_succ hd
  refine Mt.of (M := qM_X11_startRun) rfl (by rw [sl_1 (q_is_cat f0 (Or.inr rfl)), sl_1 (q_is_cat f1 (Or.inl rfl)), sl_1 (q_is_cat f2 (Or.inl rfl)), sl_1 (q_is_cat f3 (Or.inl rfl)), sl_1 (q_is_cat f4 (Or.inl rfl)), sl_1 (q_is_cat f5 (Or.inl rfl)), sl_0]; decide) ?_
  rw [la_1 (q_is_cat f0 (Or.inr rfl)), la_1 (q_is_cat f1 (Or.inl rfl)), la_1 (q_is_cat f2 (Or.inl rfl)), la_1 (q_is_cat f3 (Or.inl rfl)), la_1 (q_is_cat f4 (Or.inl rfl)), la_1 (q_is_cat f5 (Or.inl rfl)), la_0]
  obtain ⟨L, hL⟩ : ∃ L : QL, L = [(0, v0), (0 + 1, v1), (0 + 1 + 1, v2), (0 + 1 + 1 + 1, v3), (0 + 1 + 1 + 1 + 1, v4), (0 + 1 + 1 + 1 + 1 + 1, v5)] := ⟨_, rfl⟩
  rw [← hL]
  have l0 : q_lo L 0 = some v0 := by rw [hL]; rfl
  have l1 : q_lo L 1 = some v1 := by rw [hL]; rfl
  have l2 : q_lo L 2 = some v2 := by rw [hL]; rfl
  have l3 : q_lo L 3 = some v3 := by rw [hL]; rfl
  have l4 : q_lo L 4 = some v4 := by rw [hL]; rfl
  have l5 : q_lo L 5 = some v5 := by rw [hL]; rfl
  have hQ : Ext m0 rm → ∀ o S1, Rp S1 rm → q_out 2 o rz → (Cr 2 m0 rm rz) o S1 := fun a o S1 b e => ⟨b, a, e⟩
  unfold fm_X11_startRun at h
  refine go_aload_n (n := 0) (by decide +kernel) l0 f0 ?_
  refine go_getf (x := 11) (ci := 12) (kf := 0) (fin := 1) (t := 2) (by decide +kernel) (by decide +kernel) (by decide +kernel) R f0 (fx_k (c := 12) R (by decide +kernel)) fun v_1 f_2 => ?_
  have f_3 := q_is_eq (b := 5) f_2 (fx_v R (by decide +kernel)).symm
  refine go_iload_n (n := 1) (by decide +kernel) l1 f1 ?_
  refine go_aload_n (n := 0) (by decide +kernel) l0 f0 ?_
  refine go_getf (x := 11) (ci := 12) (kf := 0) (fin := 1) (t := 2) (by decide +kernel) (by decide +kernel) (by decide +kernel) R f0 (fx_k (c := 12) R (by decide +kernel)) fun v_4 f_5 => ?_
  have f_6 := q_is_eq (b := 5) f_5 (fx_v R (by decide +kernel)).symm
  refine go_alen (by decide +kernel) R f_6 (okl_of (fx_k (c := 106) R (by decide +kernel)) (by decide)) fun v_7 f_8 => ?_
  have f_9 := q_is_eq (b := 4) f_8 (by rw [fx_l R (ln := 4) (by decide +kernel)]; decide)
  obtain ⟨x_11, hc_10, h⟩ := bp_s h
  refine go_callS (x := 496) (mi := 318) (n := 2) (b := 0) (as := [v1, v_7]) (rest := [v_1]) (by decide +kernel) (by decide +kernel) rfl rfl (q_sum8 _ (Nat.le_of_ble_eq_true rfl)) (om_J9_floorMod_7cf53 (Nat.le_trans (by decide) hd) R f1 f_9 hc_10) (fun _ S_15 q_18 => ?_) (fun _ _ qq => kr_x qq)
  refine kr_z (by decide) q_18 fun v_13 f_14 R_16 E_17 => ?_
  obtain ⟨g_21, h⟩ := gd_s h
  obtain ⟨x_23, e_24, h⟩ := lx_s h
  refine go_aald (kd := 106) (by decide +kernel) (by decide) R_16 f_3 f_14 (fx_k (c := 106) R_16 (by decide +kernel)) (fx_x (a := 5) (ln := 4) R_16 (by decide +kernel) g_21) fun v_19 f_20 => ?_
  have f_22 := q_is_eq f_20 e_24
  obtain ⟨g_27, h⟩ := gd_s h
  obtain ⟨x_29, e_30, h⟩ := lx_s h
  refine go_getf (x := 124) (ci := 11) (kf := 0) (fin := 2) (t := 2) (by decide +kernel) (by decide +kernel) (by decide +kernel) R_16 f_22 g_27 fun v_25 f_26 => ?_
  have f_28 := q_is_eq f_26 e_30
  obtain ⟨g_31, h⟩ := gd_s h
  obtain ⟨x_33, hc_32, h⟩ := bp_s h
  refine go_callV (x := 127) (mi := 326) (n := 0) (ci := 0) (as := []) (rest := []) (by decide +kernel) (by decide +kernel) rfl rfl (q_sum8 _ (Nat.le_of_ble_eq_true rfl)) R_16 f_28 g_31 (om_Jx4a65c_size_8abf5 (Nat.le_trans (by decide) hd) R_16 g_31 f_28 hc_32) (fun _ S_37 q_40 => ?_) (fun _ _ qq => kr_x qq)
  refine kr_z (by decide) q_40 fun v_35 f_36 R_38 E_39 => ?_
  refine go_iconst (n := 1) (z := 1) (by decide +kernel) (by decide) fun v_41 f_42 => ?_
  refine go_isub (by decide +kernel) f_36 f_42 fun v_43 f_44 => ?_
  obtain ⟨x_45, e_46, h⟩ := lx_s h
  have f_47 := q_is_eq f_44 e_46
  refine go_istore (n := 6) (by decide +kernel) (by decide +kernel) f_47 fun L_48 l_49 kp_50 => ?_
  have l_51 := kp_50 0 _ l0 (by decide) (Or.inl (by decide))
  have l_52 := kp_50 1 _ l1 (by decide) (Or.inl (by decide))
  have l_53 := kp_50 2 _ l2 (by decide) (Or.inl (by decide))
  have l_54 := kp_50 3 _ l3 (by decide) (Or.inl (by decide))
  have l_55 := kp_50 4 _ l4 (by decide) (Or.inl (by decide))
  have l_56 := kp_50 5 _ l5 (by decide) (Or.inr (q_is_cat f5 (Or.inl rfl)))
  refine go_aload_n (n := 0) (by decide +kernel) l_51 f0 ?_
  refine go_iload_n (n := 1) (by decide +kernel) l_52 f1 ?_
  refine go_iload_n (n := 2) (by decide +kernel) l_53 f2 ?_
  refine go_iload (n := 6) (by decide +kernel) l_49 f_47 ?_
  refine go_iload (n := 4) (by decide +kernel) l_55 f4 ?_
  refine go_iload (n := 5) (by decide +kernel) l_56 f5 ?_
  obtain ⟨x_58, m_59, hc_57, h⟩ := bd_s h
  refine go_callV (x := 420) (mi := 150) (n := 5) (ci := 12) (as := [v1, v2, v_43, v4, v5]) (rest := []) (by decide +kernel) (by decide +kernel) rfl rfl (q_sum8 _ (Nat.le_of_ble_eq_true rfl)) R_38 f0 (fx_k (c := 12) R_38 (by decide +kernel)) (om_X11_addRun (Nat.le_trans (by decide) hd) R_38 f0 f1 f2 f_47 f4 f5 hc_57) (fun _ S_62 q_65 => ?_) (fun _ _ qq => kr_x qq)
  refine kr_z (by decide) q_65 fun v_60 f_61 R_63 E_64 => ?_
  have E_66 := E_64
  refine go_astore (n := 7) (by decide +kernel) (by decide +kernel) f_61 fun L_67 l_68 kp_69 => ?_
  have l_70 := kp_69 0 _ l_51 (by decide) (Or.inl (by decide))
  have l_71 := kp_69 3 _ l_54 (by decide) (Or.inl (by decide))
  refine go_aload_n (n := 0) (by decide +kernel) l_70 f0 ?_
  refine go_aload (n := 7) (by decide +kernel) l_68 f_61 ?_
  refine go_iconst (n := 0) (z := 0) (by decide +kernel) (by decide) fun v_72 f_73 => ?_
  refine go_iload_n (n := 3) (by decide +kernel) l_71 f3 ?_
  refine go_iconst (n := 0) (z := 0) (by decide +kernel) (by decide) fun v_74 f_75 => ?_
  obtain ⟨x_77, m_78, hc_76, h⟩ := bd_s h
  refine go_callV (x := 204) (mi := 152) (n := 4) (ci := 12) (as := [v_60, v_72, v3, v_74]) (rest := []) (by decide +kernel) (by decide +kernel) rfl rfl (q_sum8 _ (Nat.le_of_ble_eq_true rfl)) R_63 f0 (fx_k (c := 12) R_63 (by decide +kernel)) (om_X11_arrive (Nat.le_trans (by decide) hd) R_63 f0 f_61 f_73 f3 f_75 hc_76) (fun _ S_81 q_84 => ?_) (fun _ _ qq => kr_x qq)
  refine kr_v q_84 fun R_82 E_83 => ?_
  have E_85 := Ext.tr E_66 E_83
  refine go_aload (n := 7) (by decide +kernel) l_68 f_61 ?_
  cases h
  exact go_aret (by decide +kernel) rfl rfl f_61 (hQ E_85 _ _ R_82 (q_out_v (by decide) f_61))
noncomputable def fm_X11_begin (p1 p2 p3 : Int) (m0 : MM) : Option ((Int ⊕ Nat) × MM) := bx (fm_X11_typeAt p1 m0) (fun q_10 m_3 => some (.inr q_10, m_3)) fun x_2 m_3 =>
bx (fm_X11_checkTenant p2 m_3) (fun q_29 m_22 => some (.inr q_29, m_22)) fun x_21 m_22 =>
bx (fm_X11_checkValue p3 m_22) (fun q_41 m_34 => some (.inr q_41, m_34)) fun x_33 m_34 =>
gd (okc m_34 x_2 11) <| lx (m_34 x_2 0) fun x_48 =>
gd (okc m_34 x_48 0) <| bp (fm_Jx4a65c_isEmpty_aae02 x_48 m_34) fun x_52 =>
if x_52 = 0 then
bp (fm_Jx4a65c_size_8abf5 7 m_34) fun x_65 =>
if x_65 < 30 then
bd (fm_X11_startRun p1 p2 p3 (-1) 0 m_34) fun x_81 m_82 =>
gd (okc m_82 x_81 7) <| lx (m_82 x_81 0) fun x_94 =>
some (.inl x_94, m_82)
else
some (.inr 2, mthr m_34)
else
some (.inr 2, mthr m_34)
set_option maxHeartbeats 4000000 in
theorem om_X11_begin {xs : List Int32} {d : Nat} {S : QS} {m0 : MM} {p1 p2 p3 : Int} {v0 : Value} {v1 : Value} {v2 : Value} {v3 : Value} {rr : Int ⊕ Nat} {rm : MM}
  (hd : 11 ≤ d) (R : Rp S m0) (f0 : q_is 2 v0 4) (f1 : q_is 0 v1 p1) (f2 : q_is 0 v2 p2) (f3 : q_is 0 v3 p3)
  (h : fm_X11_begin p1 p2 p3 m0 = some (rr, rm)) : Mt xs d 104 [v0, v1, v2, v3] S (Cx 0 m0 rm rr) := by
  obtain ⟨d, rfl⟩ : ∃ e, d = e + 1 := ⟨d - 1, by omega⟩
  have hd : 10 ≤ d := Nat.le_of_succ_le_succ hd
  refine Mt.of (M := qM_X11_begin) rfl (by rw [sl_1 (q_is_cat f0 (Or.inr rfl)), sl_1 (q_is_cat f1 (Or.inl rfl)), sl_1 (q_is_cat f2 (Or.inl rfl)), sl_1 (q_is_cat f3 (Or.inl rfl)), sl_0]; decide) ?_
  rw [la_1 (q_is_cat f0 (Or.inr rfl)), la_1 (q_is_cat f1 (Or.inl rfl)), la_1 (q_is_cat f2 (Or.inl rfl)), la_1 (q_is_cat f3 (Or.inl rfl)), la_0]
  obtain ⟨L, hL⟩ : ∃ L : QL, L = [(0, v0), (0 + 1, v1), (0 + 1 + 1, v2), (0 + 1 + 1 + 1, v3)] := ⟨_, rfl⟩
  rw [← hL]
  have l0 : q_lo L 0 = some v0 := by rw [hL]; rfl
  have l1 : q_lo L 1 = some v1 := by rw [hL]; rfl
  have l2 : q_lo L 2 = some v2 := by rw [hL]; rfl
  have l3 : q_lo L 3 = some v3 := by rw [hL]; rfl
  have hQ : Ext m0 rm → ∀ o S1, Rp S1 rm → q_oux 0 o rr → (Cx 0 m0 rm rr) o S1 := fun a o S1 b e => ⟨b, a, e⟩
  unfold fm_X11_begin at h
  refine go_aload_n (n := 0) (by decide +kernel) l0 f0 ?_
  refine go_iload_n (n := 1) (by decide +kernel) l1 f1 ?_
  obtain ⟨rr5, m_3, hc_1, h⟩ := bx_s h
  rcases h with ⟨q_10, rfl, h⟩ | ⟨x_2, rfl, h⟩
  · cases h
    exact go_callV (x := 86) (mi := 137) (n := 1) (ci := 12) (as := [v1]) (rest := []) (by decide +kernel) (by decide +kernel) rfl rfl (q_sum8 _ (Nat.le_of_ble_eq_true rfl)) R f0 (fx_k (c := 12) R (by decide +kernel)) (om_X11_typeAt (Nat.le_trans (by decide) hd) R f0 f1 hc_1) (fun _ _ qq => kx_lx qq) (fun _ _ qq => by
      obtain ⟨rfl, Rq, Eq⟩ := kx_e qq
      exact Or.inl ⟨rfl, hQ Eq _ _ Rq rfl⟩)
  refine go_callV (x := 86) (mi := 137) (n := 1) (ci := 12) (as := [v1]) (rest := []) (by decide +kernel) (by decide +kernel) rfl rfl (q_sum8 _ (Nat.le_of_ble_eq_true rfl)) R f0 (fx_k (c := 12) R (by decide +kernel)) (om_X11_typeAt (Nat.le_trans (by decide) hd) R f0 f1 hc_1) (fun _ S_6 q_9 => ?_) (fun _ _ qq => kr_x (kx_l qq))
  have q_9 := kx_l q_9
  refine kr_z (by decide) q_9 fun v_4 f_5 R_7 E_8 => ?_
  have E_12 := E_8
  refine go_astore (n := 4) (by decide +kernel) (by decide +kernel) f_5 fun L_13 l_14 kp_15 => ?_
  have l_16 := kp_15 0 _ l0 (by decide) (Or.inl (by decide))
  have l_17 := kp_15 1 _ l1 (by decide) (Or.inl (by decide))
  have l_18 := kp_15 2 _ l2 (by decide) (Or.inl (by decide))
  have l_19 := kp_15 3 _ l3 (by decide) (Or.inr (q_is_cat f3 (Or.inl rfl)))
  refine go_aload_n (n := 0) (by decide +kernel) l_16 f0 ?_
  refine go_iload_n (n := 2) (by decide +kernel) l_18 f2 ?_
  obtain ⟨rr5, m_22, hc_20, h⟩ := bx_s h
  rcases h with ⟨q_29, rfl, h⟩ | ⟨x_21, rfl, h⟩
  · cases h
    exact go_callV (x := 163) (mi := 143) (n := 1) (ci := 12) (as := [v2]) (rest := []) (by decide +kernel) (by decide +kernel) rfl rfl (q_sum8 _ (Nat.le_of_ble_eq_true rfl)) R_7 f0 (fx_k (c := 12) R_7 (by decide +kernel)) (om_X11_checkTenant (Nat.le_trans (by decide) hd) R_7 f0 f2 hc_20) (fun _ _ qq => kx_lx qq) (fun _ _ qq => by
      obtain ⟨rfl, Rq, Eq⟩ := kx_e qq
      exact Or.inl ⟨rfl, hQ (Ext.tr E_12 Eq) _ _ Rq rfl⟩)
  refine go_callV (x := 163) (mi := 143) (n := 1) (ci := 12) (as := [v2]) (rest := []) (by decide +kernel) (by decide +kernel) rfl rfl (q_sum8 _ (Nat.le_of_ble_eq_true rfl)) R_7 f0 (fx_k (c := 12) R_7 (by decide +kernel)) (om_X11_checkTenant (Nat.le_trans (by decide) hd) R_7 f0 f2 hc_20) (fun _ S_25 q_28 => ?_) (fun _ _ qq => kr_x (kx_l qq))
  have q_28 := kx_l q_28
  refine kr_v q_28 fun R_26 E_27 => ?_
  have E_31 := Ext.tr E_12 E_27
  refine go_aload_n (n := 0) (by decide +kernel) l_16 f0 ?_
  refine go_iload_n (n := 3) (by decide +kernel) l_19 f3 ?_
  obtain ⟨rr5, m_34, hc_32, h⟩ := bx_s h
  rcases h with ⟨q_41, rfl, h⟩ | ⟨x_33, rfl, h⟩
  · cases h
    exact go_callV (x := 167) (mi := 147) (n := 1) (ci := 12) (as := [v3]) (rest := []) (by decide +kernel) (by decide +kernel) rfl rfl (q_sum8 _ (Nat.le_of_ble_eq_true rfl)) R_26 f0 (fx_k (c := 12) R_26 (by decide +kernel)) (om_X11_checkValue (Nat.le_trans (by decide) hd) R_26 f0 f3 hc_32) (fun _ _ qq => kx_lx qq) (fun _ _ qq => by
      obtain ⟨rfl, Rq, Eq⟩ := kx_e qq
      exact Or.inl ⟨rfl, hQ (Ext.tr E_31 Eq) _ _ Rq rfl⟩)
  refine go_callV (x := 167) (mi := 147) (n := 1) (ci := 12) (as := [v3]) (rest := []) (by decide +kernel) (by decide +kernel) rfl rfl (q_sum8 _ (Nat.le_of_ble_eq_true rfl)) R_26 f0 (fx_k (c := 12) R_26 (by decide +kernel)) (om_X11_checkValue (Nat.le_trans (by decide) hd) R_26 f0 f3 hc_32) (fun _ S_37 q_40 => ?_) (fun _ _ qq => kr_x (kx_l qq))
  have q_40 := kx_l q_40
  refine kr_v q_40 fun R_38 E_39 => ?_
  have E_43 := Ext.tr E_31 E_39
  refine go_aload (n := 4) (by decide +kernel) l_14 f_5 ?_
  obtain ⟨g_46, h⟩ := gd_s h
  obtain ⟨x_48, e_49, h⟩ := lx_s h
  refine go_getf (x := 124) (ci := 11) (kf := 0) (fin := 2) (t := 2) (by decide +kernel) (by decide +kernel) (by decide +kernel) R_38 f_5 g_46 fun v_44 f_45 => ?_
  have f_47 := q_is_eq f_45 e_49
  obtain ⟨g_50, h⟩ := gd_s h
  obtain ⟨x_52, hc_51, h⟩ := bp_s h
  refine go_callV (x := 170) (mi := 327) (n := 0) (ci := 0) (as := []) (rest := []) (by decide +kernel) (by decide +kernel) rfl rfl (q_sum8 _ (Nat.le_of_ble_eq_true rfl)) R_38 f_47 g_50 (om_Jx4a65c_isEmpty_aae02 (Nat.le_trans (by decide) hd) R_38 g_50 f_47 hc_51) (fun _ S_56 q_59 => ?_) (fun _ _ qq => kr_x qq)
  refine kr_z (by decide) q_59 fun v_54 f_55 R_57 E_58 => ?_
  refine go_if (c := .ne) (o := 15) (t := 40) (P := ¬ (x_52 = 0)) (by decide +kernel) (by decide +kernel) f_55 (Iff.rfl) (fun hp_60 => ?_) (fun hp_60 => ?_)
  · have h := it_f hp_60 h
    cases h
    exact go_thr (x := 111) (e := 2) (ic := 115) (b := 0) (by decide +kernel) (by decide +kernel) (by decide +kernel) R_57 rfl fun Sq Rq Eq => hQ (Ext.tr E_43 Eq) _ _ Rq rfl
  · have h := it_n hp_60 h
    refine go_aload_n (n := 0) (by decide +kernel) l_16 f0 ?_
    refine go_getf (x := 24) (ci := 12) (kf := 2) (fin := 1) (t := 2) (by decide +kernel) (by decide +kernel) (by decide +kernel) R_57 f0 (fx_k (c := 12) R_57 (by decide +kernel)) fun v_61 f_62 => ?_
    have f_63 := q_is_eq (b := 7) f_62 (fx_v R_57 (by decide +kernel)).symm
    obtain ⟨x_65, hc_64, h⟩ := bp_s h
    refine go_callV (x := 127) (mi := 326) (n := 0) (ci := 0) (as := []) (rest := []) (by decide +kernel) (by decide +kernel) rfl rfl (q_sum8 _ (Nat.le_of_ble_eq_true rfl)) R_57 f_63 (fx_k (c := 0) R_57 (by decide +kernel)) (om_Jx4a65c_size_8abf5 (Nat.le_trans (by decide) hd) R_57 (fx_k (c := 0) R_57 (by decide +kernel)) f_63 hc_64) (fun _ S_69 q_72 => ?_) (fun _ _ qq => kr_x qq)
    refine kr_z (by decide) q_72 fun v_67 f_68 R_70 E_71 => ?_
    refine go_bipush (n := 30) (z := 30) (by decide +kernel) (by decide) fun v_73 f_74 => ?_
    refine go_icmp (c := .lt) (o := 13) (t := 50) (P := x_65 < 30) (by decide +kernel) (by decide +kernel) f_68 f_74 (Iff.rfl) (fun hp_75 => ?_) (fun hp_75 => ?_)
    · have h := it_t hp_75 h
      refine go_aload_n (n := 0) (by decide +kernel) l_16 f0 ?_
      refine go_iload_n (n := 1) (by decide +kernel) l_17 f1 ?_
      refine go_iload_n (n := 2) (by decide +kernel) l_18 f2 ?_
      refine go_iload_n (n := 3) (by decide +kernel) l_19 f3 ?_
      refine go_iconst (n := (-1)) (z := (-1)) (by decide +kernel) (by decide) fun v_76 f_77 => ?_
      refine go_iconst (n := 0) (z := 0) (by decide +kernel) (by decide) fun v_78 f_79 => ?_
      obtain ⟨x_81, m_82, hc_80, h⟩ := bd_s h
      refine go_callV (x := 176) (mi := 151) (n := 5) (ci := 12) (as := [v1, v2, v3, v_76, v_78]) (rest := []) (by decide +kernel) (by decide +kernel) rfl rfl (q_sum8 _ (Nat.le_of_ble_eq_true rfl)) R_70 f0 (fx_k (c := 12) R_70 (by decide +kernel)) (om_X11_startRun (Nat.le_trans (by decide) hd) R_70 f0 f1 f2 f3 f_77 f_79 hc_80) (fun _ S_85 q_88 => ?_) (fun _ _ qq => kr_x qq)
      refine kr_z (by decide) q_88 fun v_83 f_84 R_86 E_87 => ?_
      have E_89 := Ext.tr E_43 E_87
      obtain ⟨g_92, h⟩ := gd_s h
      obtain ⟨x_94, e_95, h⟩ := lx_s h
      refine go_getf (x := 180) (ci := 7) (kf := 0) (fin := 2) (t := 0) (by decide +kernel) (by decide +kernel) (by decide +kernel) R_86 f_84 g_92 fun v_90 f_91 => ?_
      have f_93 := q_is_eq f_91 e_95
      cases h
      exact go_iret (by decide +kernel) rfl (Or.inl rfl) f_93 (hQ E_89 _ _ R_86 (q_out_v (by decide) f_93))
    · have h := it_f hp_75 h
      cases h
      exact go_thr (x := 111) (e := 2) (ic := 115) (b := 0) (by decide +kernel) (by decide +kernel) (by decide +kernel) R_70 rfl fun Sq Rq Eq => hQ (Ext.tr E_43 Eq) _ _ Rq rfl
noncomputable def fm_X11_runAt (p1 : Int) (m0 : MM) : Option ((Int ⊕ Nat) × MM) := if p1 < 0 then
some (.inr 0, mthr m0)
else
bp (fm_Jx4a65c_size_8abf5 7 m0) fun x_6 =>
if p1 < x_6 then
bp (fm_Jx4a65c_get_915e3 7 p1 m0) fun x_19 =>
gd (okc m0 x_19 7) <| some (.inl x_19, m0)
else
some (.inr 0, mthr m0)
set_option maxHeartbeats 4000000 in
theorem om_X11_runAt {xs : List Int32} {d : Nat} {S : QS} {m0 : MM} {p1 : Int} {v0 : Value} {v1 : Value} {rr : Int ⊕ Nat} {rm : MM}
  (hd : 4 ≤ d) (R : Rp S m0) (f0 : q_is 2 v0 4) (f1 : q_is 0 v1 p1)
  (h : fm_X11_runAt p1 m0 = some (rr, rm)) : Mt xs d 139 [v0, v1] S (Cx 2 m0 rm rr) := by
  obtain ⟨d, rfl⟩ : ∃ e, d = e + 1 := ⟨d - 1, by omega⟩
  have hd : 3 ≤ d := Nat.le_of_succ_le_succ hd
  refine Mt.of (M := qM_X11_runAt) rfl (by rw [sl_1 (q_is_cat f0 (Or.inr rfl)), sl_1 (q_is_cat f1 (Or.inl rfl)), sl_0]; decide) ?_
  rw [la_1 (q_is_cat f0 (Or.inr rfl)), la_1 (q_is_cat f1 (Or.inl rfl)), la_0]
  obtain ⟨L, hL⟩ : ∃ L : QL, L = [(0, v0), (0 + 1, v1)] := ⟨_, rfl⟩
  rw [← hL]
  have l0 : q_lo L 0 = some v0 := by rw [hL]; rfl
  have l1 : q_lo L 1 = some v1 := by rw [hL]; rfl
  have hQ : Ext m0 rm → ∀ o S1, Rp S1 rm → q_oux 2 o rr → (Cx 2 m0 rm rr) o S1 := fun a o S1 b e => ⟨b, a, e⟩
  unfold fm_X11_runAt at h
  refine go_iload_n (n := 1) (by decide +kernel) l1 f1 ?_
  refine go_if (c := .lt) (o := 14) (t := 15) (P := p1 < 0) (by decide +kernel) (by decide +kernel) f1 (Iff.rfl) (fun hp_1 => ?_) (fun hp_1 => ?_)
  · have h := it_t hp_1 h
    cases h
    exact go_thr (x := 255) (e := 0) (ic := 259) (b := 0) (by decide +kernel) (by decide +kernel) (by decide +kernel) R rfl fun Sq Rq Eq => hQ Eq _ _ Rq rfl
  · have h := it_f hp_1 h
    refine go_iload_n (n := 1) (by decide +kernel) l1 f1 ?_
    refine go_aload_n (n := 0) (by decide +kernel) l0 f0 ?_
    refine go_getf (x := 24) (ci := 12) (kf := 2) (fin := 1) (t := 2) (by decide +kernel) (by decide +kernel) (by decide +kernel) R f0 (fx_k (c := 12) R (by decide +kernel)) fun v_2 f_3 => ?_
    have f_4 := q_is_eq (b := 7) f_3 (fx_v R (by decide +kernel)).symm
    obtain ⟨x_6, hc_5, h⟩ := bp_s h
    refine go_callV (x := 127) (mi := 326) (n := 0) (ci := 0) (as := []) (rest := [v1]) (by decide +kernel) (by decide +kernel) rfl rfl (q_sum8 _ (Nat.le_of_ble_eq_true rfl)) R f_4 (fx_k (c := 0) R (by decide +kernel)) (om_Jx4a65c_size_8abf5 (Nat.le_trans (by decide) hd) R (fx_k (c := 0) R (by decide +kernel)) f_4 hc_5) (fun _ S_10 q_13 => ?_) (fun _ _ qq => kr_x qq)
    refine kr_z (by decide) q_13 fun v_8 f_9 R_11 E_12 => ?_
    refine go_icmp (c := .lt) (o := 14) (t := 26) (P := p1 < x_6) (by decide +kernel) (by decide +kernel) f1 f_9 (Iff.rfl) (fun hp_14 => ?_) (fun hp_14 => ?_)
    · have h := it_t hp_14 h
      refine go_aload_n (n := 0) (by decide +kernel) l0 f0 ?_
      refine go_getf (x := 24) (ci := 12) (kf := 2) (fin := 1) (t := 2) (by decide +kernel) (by decide +kernel) (by decide +kernel) R_11 f0 (fx_k (c := 12) R_11 (by decide +kernel)) fun v_15 f_16 => ?_
      have f_17 := q_is_eq (b := 7) f_16 (fx_v R_11 (by decide +kernel)).symm
      refine go_iload_n (n := 1) (by decide +kernel) l1 f1 ?_
      obtain ⟨x_19, hc_18, h⟩ := bp_s h
      refine go_callV (x := 305) (mi := 329) (n := 1) (ci := 0) (as := [v1]) (rest := []) (by decide +kernel) (by decide +kernel) rfl rfl (q_sum8 _ (Nat.le_of_ble_eq_true rfl)) R_11 f_17 (fx_k (c := 0) R_11 (by decide +kernel)) (om_Jx4a65c_get_915e3 (Nat.le_trans (by decide) hd) R_11 (fx_k (c := 0) R_11 (by decide +kernel)) f_17 f1 hc_18) (fun _ S_23 q_26 => ?_) (fun _ _ qq => kr_x qq)
      refine kr_z (by decide) q_26 fun v_21 f_22 R_24 E_25 => ?_
      obtain ⟨g_27, h⟩ := gd_s h
      refine go_cast (x := 181) (kd := 7) (a := 0) (b := 0) (by decide +kernel) (by decide +kernel) R_24 f_22 g_27 ?_
      cases h
      exact go_aret (by decide +kernel) rfl rfl f_22 (hQ (Ext.rf _) _ _ R_24 (q_out_v (by decide) f_22))
    · have h := it_f hp_14 h
      cases h
      exact go_thr (x := 255) (e := 0) (ic := 259) (b := 0) (by decide +kernel) (by decide +kernel) (by decide +kernel) R_11 rfl fun Sq Rq Eq => hQ Eq _ _ Rq rfl
noncomputable def fm_X11_checkName (p1 : Int) (m0 : MM) : Option ((Int ⊕ Nat) × MM) := if p1 < 0 then
some (.inr 0, mthr m0)
else
if p1 < 4 then
some (.inl 0, m0)
else
some (.inr 0, mthr m0)
set_option maxHeartbeats 4000000 in
theorem om_X11_checkName {xs : List Int32} {d : Nat} {S : QS} {m0 : MM} {p1 : Int} {v0 : Value} {v1 : Value} {rr : Int ⊕ Nat} {rm : MM}
  (hd : 1 ≤ d) (R : Rp S m0) (f0 : q_is 2 v0 4) (f1 : q_is 0 v1 p1)
  (h : fm_X11_checkName p1 m0 = some (rr, rm)) : Mt xs d 145 [v0, v1] S (Cx 9 m0 rm rr) := by
  obtain ⟨d, rfl⟩ : ∃ e, d = e + 1 := ⟨d - 1, by omega⟩
  have hd : 0 ≤ d := Nat.le_of_succ_le_succ hd
  refine Mt.of (M := qM_X11_checkName) rfl (by rw [sl_1 (q_is_cat f0 (Or.inr rfl)), sl_1 (q_is_cat f1 (Or.inl rfl)), sl_0]; decide) ?_
  rw [la_1 (q_is_cat f0 (Or.inr rfl)), la_1 (q_is_cat f1 (Or.inl rfl)), la_0]
  obtain ⟨L, hL⟩ : ∃ L : QL, L = [(0, v0), (0 + 1, v1)] := ⟨_, rfl⟩
  rw [← hL]
  have l0 : q_lo L 0 = some v0 := by rw [hL]; rfl
  have l1 : q_lo L 1 = some v1 := by rw [hL]; rfl
  have hQ : Ext m0 rm → ∀ o S1, Rp S1 rm → q_oux 9 o rr → (Cx 9 m0 rm rr) o S1 := fun a o S1 b e => ⟨b, a, e⟩
  unfold fm_X11_checkName at h
  refine go_iload_n (n := 1) (by decide +kernel) l1 f1 ?_
  refine go_if (c := .lt) (o := 8) (t := 9) (P := p1 < 0) (by decide +kernel) (by decide +kernel) f1 (Iff.rfl) (fun hp_1 => ?_) (fun hp_1 => ?_)
  · have h := it_t hp_1 h
    cases h
    exact go_thr (x := 255) (e := 0) (ic := 259) (b := 0) (by decide +kernel) (by decide +kernel) (by decide +kernel) R rfl fun Sq Rq Eq => hQ Eq _ _ Rq rfl
  · have h := it_f hp_1 h
    refine go_iload_n (n := 1) (by decide +kernel) l1 f1 ?_
    refine go_iconst (n := 4) (z := 4) (by decide +kernel) (by decide) fun v_2 f_3 => ?_
    refine go_icmp (c := .lt) (o := 14) (t := 20) (P := p1 < 4) (by decide +kernel) (by decide +kernel) f1 f_3 (Iff.rfl) (fun hp_4 => ?_) (fun hp_4 => ?_)
    · have h := it_t hp_4 h
      cases h
      exact go_vret (by decide +kernel) rfl (hQ (Ext.rf _) _ _ R q_out_n)
    · have h := it_f hp_4 h
      cases h
      exact go_thr (x := 255) (e := 0) (ic := 259) (b := 0) (by decide +kernel) (by decide +kernel) (by decide +kernel) R rfl fun Sq Rq Eq => hQ Eq _ _ Rq rfl
noncomputable def fm_X11_signal (p1 p2 p3 : Int) (m0 : MM) : Option ((Int ⊕ Nat) × MM) := bx (fm_X11_runAt p1 m0) (fun q_10 m_3 => some (.inr q_10, m_3)) fun x_2 m_3 =>
bx (fm_X11_checkName p2 m_3) (fun q_28 m_21 => some (.inr q_28, m_21)) fun x_20 m_21 =>
bx (fm_X11_checkValue p3 m_21) (fun q_40 m_33 => some (.inr q_40, m_33)) fun x_32 m_33 =>
gd (okc m_33 x_2 7) <| bp (fm_X6_isAlive x_2 m_33) fun x_45 =>
if x_45 = 0 then
some (.inr 2, mthr m_33)
else
lx (m_33 x_2 16) fun x_57 =>
gd (okc m_33 x_57 3) <| lx (m_33 x_57 1) fun x_63 =>
if x_63 < 100 then
bd (fm_X11_arrive x_2 4 p2 p3 m_33) fun x_71 m_72 =>
lx (m_72 x_2 16) fun x_84 =>
gd (okc m_72 x_84 3) <| lx (m_72 x_84 1) fun x_90 =>
some (.inl (w32 (x_90 - 1)), m_72)
else
some (.inr 2, mthr m_33)
set_option maxHeartbeats 4000000 in
theorem om_X11_signal {xs : List Int32} {d : Nat} {S : QS} {m0 : MM} {p1 p2 p3 : Int} {v0 : Value} {v1 : Value} {v2 : Value} {v3 : Value} {rr : Int ⊕ Nat} {rm : MM}
  (hd : 5 ≤ d) (R : Rp S m0) (f0 : q_is 2 v0 4) (f1 : q_is 0 v1 p1) (f2 : q_is 0 v2 p2) (f3 : q_is 0 v3 p3)
  (h : fm_X11_signal p1 p2 p3 m0 = some (rr, rm)) : Mt xs d 105 [v0, v1, v2, v3] S (Cx 0 m0 rm rr) := by
  obtain ⟨d, rfl⟩ : ∃ e, d = e + 1 := ⟨d - 1, by omega⟩
  have hd : 4 ≤ d := Nat.le_of_succ_le_succ hd
  refine Mt.of (M := qM_X11_signal) rfl (by rw [sl_1 (q_is_cat f0 (Or.inr rfl)), sl_1 (q_is_cat f1 (Or.inl rfl)), sl_1 (q_is_cat f2 (Or.inl rfl)), sl_1 (q_is_cat f3 (Or.inl rfl)), sl_0]; decide) ?_
  rw [la_1 (q_is_cat f0 (Or.inr rfl)), la_1 (q_is_cat f1 (Or.inl rfl)), la_1 (q_is_cat f2 (Or.inl rfl)), la_1 (q_is_cat f3 (Or.inl rfl)), la_0]
  obtain ⟨L, hL⟩ : ∃ L : QL, L = [(0, v0), (0 + 1, v1), (0 + 1 + 1, v2), (0 + 1 + 1 + 1, v3)] := ⟨_, rfl⟩
  rw [← hL]
  have l0 : q_lo L 0 = some v0 := by rw [hL]; rfl
  have l1 : q_lo L 1 = some v1 := by rw [hL]; rfl
  have l2 : q_lo L 2 = some v2 := by rw [hL]; rfl
  have l3 : q_lo L 3 = some v3 := by rw [hL]; rfl
  have hQ : Ext m0 rm → ∀ o S1, Rp S1 rm → q_oux 0 o rr → (Cx 0 m0 rm rr) o S1 := fun a o S1 b e => ⟨b, a, e⟩
  unfold fm_X11_signal at h
  refine go_aload_n (n := 0) (by decide +kernel) l0 f0 ?_
  refine go_iload_n (n := 1) (by decide +kernel) l1 f1 ?_
  obtain ⟨rr5, m_3, hc_1, h⟩ := bx_s h
  rcases h with ⟨q_10, rfl, h⟩ | ⟨x_2, rfl, h⟩
  · cases h
    exact go_callV (x := 185) (mi := 139) (n := 1) (ci := 12) (as := [v1]) (rest := []) (by decide +kernel) (by decide +kernel) rfl rfl (q_sum8 _ (Nat.le_of_ble_eq_true rfl)) R f0 (fx_k (c := 12) R (by decide +kernel)) (om_X11_runAt (Nat.le_trans (by decide) hd) R f0 f1 hc_1) (fun _ _ qq => kx_lx qq) (fun _ _ qq => by
      obtain ⟨rfl, Rq, Eq⟩ := kx_e qq
      exact Or.inl ⟨rfl, hQ Eq _ _ Rq rfl⟩)
  refine go_callV (x := 185) (mi := 139) (n := 1) (ci := 12) (as := [v1]) (rest := []) (by decide +kernel) (by decide +kernel) rfl rfl (q_sum8 _ (Nat.le_of_ble_eq_true rfl)) R f0 (fx_k (c := 12) R (by decide +kernel)) (om_X11_runAt (Nat.le_trans (by decide) hd) R f0 f1 hc_1) (fun _ S_6 q_9 => ?_) (fun _ _ qq => kr_x (kx_l qq))
  have q_9 := kx_l q_9
  refine kr_z (by decide) q_9 fun v_4 f_5 R_7 E_8 => ?_
  have E_12 := E_8
  refine go_astore (n := 4) (by decide +kernel) (by decide +kernel) f_5 fun L_13 l_14 kp_15 => ?_
  have l_16 := kp_15 0 _ l0 (by decide) (Or.inl (by decide))
  have l_17 := kp_15 2 _ l2 (by decide) (Or.inl (by decide))
  have l_18 := kp_15 3 _ l3 (by decide) (Or.inr (q_is_cat f3 (Or.inl rfl)))
  refine go_aload_n (n := 0) (by decide +kernel) l_16 f0 ?_
  refine go_iload_n (n := 2) (by decide +kernel) l_17 f2 ?_
  obtain ⟨rr5, m_21, hc_19, h⟩ := bx_s h
  rcases h with ⟨q_28, rfl, h⟩ | ⟨x_20, rfl, h⟩
  · cases h
    exact go_callV (x := 189) (mi := 145) (n := 1) (ci := 12) (as := [v2]) (rest := []) (by decide +kernel) (by decide +kernel) rfl rfl (q_sum8 _ (Nat.le_of_ble_eq_true rfl)) R_7 f0 (fx_k (c := 12) R_7 (by decide +kernel)) (om_X11_checkName (Nat.le_trans (by decide) hd) R_7 f0 f2 hc_19) (fun _ _ qq => kx_lx qq) (fun _ _ qq => by
      obtain ⟨rfl, Rq, Eq⟩ := kx_e qq
      exact Or.inl ⟨rfl, hQ (Ext.tr E_12 Eq) _ _ Rq rfl⟩)
  refine go_callV (x := 189) (mi := 145) (n := 1) (ci := 12) (as := [v2]) (rest := []) (by decide +kernel) (by decide +kernel) rfl rfl (q_sum8 _ (Nat.le_of_ble_eq_true rfl)) R_7 f0 (fx_k (c := 12) R_7 (by decide +kernel)) (om_X11_checkName (Nat.le_trans (by decide) hd) R_7 f0 f2 hc_19) (fun _ S_24 q_27 => ?_) (fun _ _ qq => kr_x (kx_l qq))
  have q_27 := kx_l q_27
  refine kr_v q_27 fun R_25 E_26 => ?_
  have E_30 := Ext.tr E_12 E_26
  refine go_aload_n (n := 0) (by decide +kernel) l_16 f0 ?_
  refine go_iload_n (n := 3) (by decide +kernel) l_18 f3 ?_
  obtain ⟨rr5, m_33, hc_31, h⟩ := bx_s h
  rcases h with ⟨q_40, rfl, h⟩ | ⟨x_32, rfl, h⟩
  · cases h
    exact go_callV (x := 167) (mi := 147) (n := 1) (ci := 12) (as := [v3]) (rest := []) (by decide +kernel) (by decide +kernel) rfl rfl (q_sum8 _ (Nat.le_of_ble_eq_true rfl)) R_25 f0 (fx_k (c := 12) R_25 (by decide +kernel)) (om_X11_checkValue (Nat.le_trans (by decide) hd) R_25 f0 f3 hc_31) (fun _ _ qq => kx_lx qq) (fun _ _ qq => by
      obtain ⟨rfl, Rq, Eq⟩ := kx_e qq
      exact Or.inl ⟨rfl, hQ (Ext.tr E_30 Eq) _ _ Rq rfl⟩)
  refine go_callV (x := 167) (mi := 147) (n := 1) (ci := 12) (as := [v3]) (rest := []) (by decide +kernel) (by decide +kernel) rfl rfl (q_sum8 _ (Nat.le_of_ble_eq_true rfl)) R_25 f0 (fx_k (c := 12) R_25 (by decide +kernel)) (om_X11_checkValue (Nat.le_trans (by decide) hd) R_25 f0 f3 hc_31) (fun _ S_36 q_39 => ?_) (fun _ _ qq => kr_x (kx_l qq))
  have q_39 := kx_l q_39
  refine kr_v q_39 fun R_37 E_38 => ?_
  have E_42 := Ext.tr E_30 E_38
  refine go_aload (n := 4) (by decide +kernel) l_14 f_5 ?_
  obtain ⟨g_43, h⟩ := gd_s h
  obtain ⟨x_45, hc_44, h⟩ := bp_s h
  refine go_callV (x := 192) (mi := 66) (n := 0) (ci := 7) (as := []) (rest := []) (by decide +kernel) (by decide +kernel) rfl rfl (q_sum8 _ (Nat.le_of_ble_eq_true rfl)) R_37 f_5 g_43 (om_X6_isAlive (Nat.le_trans (by decide) hd) R_37 g_43 f_5 hc_44) (fun _ S_49 q_52 => ?_) (fun _ _ qq => kr_x qq)
  refine kr_z (by decide) q_52 fun v_47 f_48 R_50 E_51 => ?_
  refine go_if (c := .eq) (o := 16) (t := 38) (P := x_45 = 0) (by decide +kernel) (by decide +kernel) f_48 (Iff.rfl) (fun hp_53 => ?_) (fun hp_53 => ?_)
  · have h := it_t hp_53 h
    cases h
    exact go_thr (x := 111) (e := 2) (ic := 115) (b := 0) (by decide +kernel) (by decide +kernel) (by decide +kernel) R_50 rfl fun Sq Rq Eq => hQ (Ext.tr E_42 Eq) _ _ Rq rfl
  · have h := it_f hp_53 h
    refine go_aload (n := 4) (by decide +kernel) l_14 f_5 ?_
    obtain ⟨x_57, e_58, h⟩ := lx_s h
    refine go_getf (x := 195) (ci := 7) (kf := 16) (fin := 2) (t := 2) (by decide +kernel) (by decide +kernel) (by decide +kernel) R_50 f_5 g_43 fun v_54 f_55 => ?_
    have f_56 := q_is_eq f_55 e_58
    obtain ⟨g_61, h⟩ := gd_s h
    obtain ⟨x_63, e_64, h⟩ := lx_s h
    refine go_getf (x := 199) (ci := 3) (kf := 1) (fin := 0) (t := 0) (by decide +kernel) (by decide +kernel) (by decide +kernel) R_50 f_56 g_61 fun v_59 f_60 => ?_
    have f_62 := q_is_eq f_60 e_64
    refine go_bipush (n := 100) (z := 100) (by decide +kernel) (by decide) fun v_65 f_66 => ?_
    refine go_icmp (c := .lt) (o := 13) (t := 48) (P := x_63 < 100) (by decide +kernel) (by decide +kernel) f_62 f_66 (Iff.rfl) (fun hp_67 => ?_) (fun hp_67 => ?_)
    · have h := it_t hp_67 h
      refine go_aload_n (n := 0) (by decide +kernel) l_16 f0 ?_
      refine go_aload (n := 4) (by decide +kernel) l_14 f_5 ?_
      refine go_iconst (n := 4) (z := 4) (by decide +kernel) (by decide) fun v_68 f_69 => ?_
      refine go_iload_n (n := 2) (by decide +kernel) l_17 f2 ?_
      refine go_iload_n (n := 3) (by decide +kernel) l_18 f3 ?_
      obtain ⟨x_71, m_72, hc_70, h⟩ := bd_s h
      refine go_callV (x := 204) (mi := 152) (n := 4) (ci := 12) (as := [v_4, v_68, v2, v3]) (rest := []) (by decide +kernel) (by decide +kernel) rfl rfl (q_sum8 _ (Nat.le_of_ble_eq_true rfl)) R_50 f0 (fx_k (c := 12) R_50 (by decide +kernel)) (om_X11_arrive (Nat.le_trans (by decide) hd) R_50 f0 f_5 f_69 f2 f3 hc_70) (fun _ S_75 q_78 => ?_) (fun _ _ qq => kr_x qq)
      refine kr_v q_78 fun R_76 E_77 => ?_
      have E_79 := Ext.tr E_42 E_77
      refine go_aload (n := 4) (by decide +kernel) l_14 f_5 ?_
      have g_82 := Ext.ok E_77 g_43
      obtain ⟨x_84, e_85, h⟩ := lx_s h
      refine go_getf (x := 195) (ci := 7) (kf := 16) (fin := 2) (t := 2) (by decide +kernel) (by decide +kernel) (by decide +kernel) R_76 f_5 g_82 fun v_80 f_81 => ?_
      have f_83 := q_is_eq f_81 e_85
      obtain ⟨g_88, h⟩ := gd_s h
      obtain ⟨x_90, e_91, h⟩ := lx_s h
      refine go_getf (x := 199) (ci := 3) (kf := 1) (fin := 0) (t := 0) (by decide +kernel) (by decide +kernel) (by decide +kernel) R_76 f_83 g_88 fun v_86 f_87 => ?_
      have f_89 := q_is_eq f_87 e_91
      refine go_iconst (n := 1) (z := 1) (by decide +kernel) (by decide) fun v_92 f_93 => ?_
      refine go_isub (by decide +kernel) f_89 f_93 fun v_94 f_95 => ?_
      cases h
      exact go_iret (by decide +kernel) rfl (Or.inl rfl) f_95 (hQ E_79 _ _ R_76 (q_out_v (by decide) f_95))
    · have h := it_f hp_67 h
      cases h
      exact go_thr (x := 111) (e := 2) (ic := 115) (b := 0) (by decide +kernel) (by decide +kernel) (by decide +kernel) R_50 rfl fun Sq Rq Eq => hQ (Ext.tr E_42 Eq) _ _ Rq rfl
noncomputable def fm_X11_typeOf (p1 : Int) (m0 : MM) : Option Int := gd (okc m0 p1 7) <| lx (m0 p1 1) fun x_8 =>
bp (fm_J9_floorMod_7cf53 x_8 4 m0) fun x_17 =>
gd (0 ≤ x_17 ∧ x_17 < 4) <| lx (m0 5 x_17) fun x_29 =>
some x_29
set_option maxHeartbeats 4000000 in
theorem om_X11_typeOf {xs : List Int32} {d : Nat} {S : QS} {m0 : MM} {p1 : Int} {v0 : Value} {v1 : Value} {rz : Int}
  (hd : 2 ≤ d) (R : Rp S m0) (f0 : q_is 2 v0 4) (f1 : q_is 2 v1 p1)
  (h : fm_X11_typeOf p1 m0 = some rz) : Mt xs d 148 [v0, v1] S (Cr 2 m0 m0 rz) := by
  obtain ⟨d, rfl⟩ : ∃ e, d = e + 1 := ⟨d - 1, by omega⟩
  have hd : 1 ≤ d := Nat.le_of_succ_le_succ hd
  refine Mt.of (M := qM_X11_typeOf) rfl (by rw [sl_1 (q_is_cat f0 (Or.inr rfl)), sl_1 (q_is_cat f1 (Or.inr rfl)), sl_0]; decide) ?_
  rw [la_1 (q_is_cat f0 (Or.inr rfl)), la_1 (q_is_cat f1 (Or.inr rfl)), la_0]
  obtain ⟨L, hL⟩ : ∃ L : QL, L = [(0, v0), (0 + 1, v1)] := ⟨_, rfl⟩
  rw [← hL]
  have l0 : q_lo L 0 = some v0 := by rw [hL]; rfl
  have l1 : q_lo L 1 = some v1 := by rw [hL]; rfl
  have hQ : ∀ o S1, Rp S1 m0 → q_out 2 o rz → (Cr 2 m0 m0 rz) o S1 := fun o S1 a b => ⟨a, Ext.rf _, b⟩
  unfold fm_X11_typeOf at h
  refine go_aload_n (n := 0) (by decide +kernel) l0 f0 ?_
  refine go_getf (x := 11) (ci := 12) (kf := 0) (fin := 1) (t := 2) (by decide +kernel) (by decide +kernel) (by decide +kernel) R f0 (fx_k (c := 12) R (by decide +kernel)) fun v_1 f_2 => ?_
  have f_3 := q_is_eq (b := 5) f_2 (fx_v R (by decide +kernel)).symm
  refine go_aload_n (n := 1) (by decide +kernel) l1 f1 ?_
  obtain ⟨g_6, h⟩ := gd_s h
  obtain ⟨x_8, e_9, h⟩ := lx_s h
  refine go_getf (x := 404) (ci := 7) (kf := 1) (fin := 2) (t := 0) (by decide +kernel) (by decide +kernel) (by decide +kernel) R f1 g_6 fun v_4 f_5 => ?_
  have f_7 := q_is_eq f_5 e_9
  refine go_aload_n (n := 0) (by decide +kernel) l0 f0 ?_
  refine go_getf (x := 11) (ci := 12) (kf := 0) (fin := 1) (t := 2) (by decide +kernel) (by decide +kernel) (by decide +kernel) R f0 (fx_k (c := 12) R (by decide +kernel)) fun v_10 f_11 => ?_
  have f_12 := q_is_eq (b := 5) f_11 (fx_v R (by decide +kernel)).symm
  refine go_alen (by decide +kernel) R f_12 (okl_of (fx_k (c := 106) R (by decide +kernel)) (by decide)) fun v_13 f_14 => ?_
  have f_15 := q_is_eq (b := 4) f_14 (by rw [fx_l R (ln := 4) (by decide +kernel)]; decide)
  obtain ⟨x_17, hc_16, h⟩ := bp_s h
  refine go_callS (x := 496) (mi := 318) (n := 2) (b := 0) (as := [v_4, v_13]) (rest := [v_1]) (by decide +kernel) (by decide +kernel) rfl rfl (q_sum8 _ (Nat.le_of_ble_eq_true rfl)) (om_J9_floorMod_7cf53 (Nat.le_trans (by decide) hd) R f_7 f_15 hc_16) (fun _ S_21 q_24 => ?_) (fun _ _ qq => kr_x qq)
  refine kr_z (by decide) q_24 fun v_19 f_20 R_22 E_23 => ?_
  obtain ⟨g_27, h⟩ := gd_s h
  obtain ⟨x_29, e_30, h⟩ := lx_s h
  refine go_aald (kd := 106) (by decide +kernel) (by decide) R_22 f_3 f_20 (fx_k (c := 106) R_22 (by decide +kernel)) (fx_x (a := 5) (ln := 4) R_22 (by decide +kernel) g_27) fun v_25 f_26 => ?_
  have f_28 := q_is_eq f_26 e_30
  cases h
  exact go_aret (by decide +kernel) rfl rfl f_28 (hQ _ _ R_22 (q_out_v (by decide) f_28))
noncomputable def fm_X11_codeOf (p1 p2 : Int) (m0 : MM) : Option Int := bp (fm_X11_typeOf p1 m0) fun x_2 =>
gd (okc m0 x_2 11) <| bp (fm_X10_code x_2 p2 m0) fun x_12 =>
some x_12
set_option maxHeartbeats 4000000 in
theorem om_X11_codeOf {xs : List Int32} {d : Nat} {S : QS} {m0 : MM} {p1 p2 : Int} {v0 : Value} {v1 : Value} {v2 : Value} {rz : Int}
  (hd : 5 ≤ d) (R : Rp S m0) (f0 : q_is 2 v0 4) (f1 : q_is 2 v1 p1) (f2 : q_is 0 v2 p2)
  (h : fm_X11_codeOf p1 p2 m0 = some rz) : Mt xs d 149 [v0, v1, v2] S (Cr 2 m0 m0 rz) := by
  obtain ⟨d, rfl⟩ : ∃ e, d = e + 1 := ⟨d - 1, by omega⟩
  have hd : 4 ≤ d := Nat.le_of_succ_le_succ hd
  refine Mt.of (M := qM_X11_codeOf) rfl (by rw [sl_1 (q_is_cat f0 (Or.inr rfl)), sl_1 (q_is_cat f1 (Or.inr rfl)), sl_1 (q_is_cat f2 (Or.inl rfl)), sl_0]; decide) ?_
  rw [la_1 (q_is_cat f0 (Or.inr rfl)), la_1 (q_is_cat f1 (Or.inr rfl)), la_1 (q_is_cat f2 (Or.inl rfl)), la_0]
  obtain ⟨L, hL⟩ : ∃ L : QL, L = [(0, v0), (0 + 1, v1), (0 + 1 + 1, v2)] := ⟨_, rfl⟩
  rw [← hL]
  have l0 : q_lo L 0 = some v0 := by rw [hL]; rfl
  have l1 : q_lo L 1 = some v1 := by rw [hL]; rfl
  have l2 : q_lo L 2 = some v2 := by rw [hL]; rfl
  have hQ : ∀ o S1, Rp S1 m0 → q_out 2 o rz → (Cr 2 m0 m0 rz) o S1 := fun o S1 a b => ⟨a, Ext.rf _, b⟩
  unfold fm_X11_codeOf at h
  refine go_aload_n (n := 0) (by decide +kernel) l0 f0 ?_
  refine go_aload_n (n := 1) (by decide +kernel) l1 f1 ?_
  obtain ⟨x_2, hc_1, h⟩ := bp_s h
  refine go_callV (x := 526) (mi := 148) (n := 1) (ci := 12) (as := [v1]) (rest := []) (by decide +kernel) (by decide +kernel) rfl rfl (q_sum8 _ (Nat.le_of_ble_eq_true rfl)) R f0 (fx_k (c := 12) R (by decide +kernel)) (om_X11_typeOf (Nat.le_trans (by decide) hd) R f0 f1 hc_1) (fun _ S_6 q_9 => ?_) (fun _ _ qq => kr_x qq)
  refine kr_z (by decide) q_9 fun v_4 f_5 R_7 E_8 => ?_
  refine go_iload_n (n := 2) (by decide +kernel) l2 f2 ?_
  obtain ⟨g_10, h⟩ := gd_s h
  obtain ⟨x_12, hc_11, h⟩ := bp_s h
  refine go_callV (x := 530) (mi := 97) (n := 1) (ci := 11) (as := [v2]) (rest := []) (by decide +kernel) (by decide +kernel) rfl rfl (q_sum8 _ (Nat.le_of_ble_eq_true rfl)) R_7 f_5 g_10 (om_X10_code (Nat.le_trans (by decide) hd) R_7 g_10 f_5 f2 hc_11) (fun _ S_16 q_19 => ?_) (fun _ _ qq => kr_x qq)
  refine kr_z (by decide) q_19 fun v_14 f_15 R_17 E_18 => ?_
  cases h
  exact go_aret (by decide +kernel) rfl rfl f_15 (hQ _ _ R_17 (q_out_v (by decide) f_15))
noncomputable def fm_X11_update (p1 p2 p3 : Int) (m0 : MM) : Option ((Int ⊕ Nat) × MM) := bx (fm_X11_runAt p1 m0) (fun q_10 m_3 => some (.inr q_10, m_3)) fun x_2 m_3 =>
bx (fm_X11_checkName p2 m_3) (fun q_28 m_21 => some (.inr q_28, m_21)) fun x_20 m_21 =>
bx (fm_X11_checkValue p3 m_21) (fun q_40 m_33 => some (.inr q_40, m_33)) fun x_32 m_33 =>
gd (okc m_33 x_2 7) <| lx (m_33 x_2 6) fun x_47 =>
if x_47 = 0 then
lx (m_33 x_2 16) fun x_53 =>
gd (okc m_33 x_53 3) <| lx (m_33 x_53 1) fun x_59 =>
if x_59 < 100 then
lx (m_33 x_2 3) fun x_70 =>
bp (fm_X11_codeOf x_2 x_70 m_33) fun x_73 =>
lx (m_33 x_53 4) fun x_87 =>
bd (fm_X4_follow x_2 x_73 x_87 0 m_33) fun x_92 m_93 =>
if x_92 = 0 then
some (.inl 0, m_93)
else
lx (m_93 x_2 16) fun x_115 =>
gd (okc m_93 x_115 3) <| bp (fm_X2_hasNewSignal x_115 p2 m_93) fun x_119 =>
if x_119 = 0 then
bp (fm_X8_waitsForSignal p2 m_93) fun x_137 =>
if x_137 = 0 then
some (.inl 0, m_93)
else
bd (fm_X11_arrive x_2 4 p2 p3 m_93) fun x_149 m_150 =>
some (.inl 1, m_150)
else
some (.inl 0, m_93)
else
some (.inr 2, mthr m_33)
else
some (.inr 2, mthr m_33)
set_option maxHeartbeats 4000000 in
theorem om_X11_update {xs : List Int32} {d : Nat} {S : QS} {m0 : MM} {p1 p2 p3 : Int} {v0 : Value} {v1 : Value} {v2 : Value} {v3 : Value} {rr : Int ⊕ Nat} {rm : MM}
  (hd : 8 ≤ d) (R : Rp S m0) (f0 : q_is 2 v0 4) (f1 : q_is 0 v1 p1) (f2 : q_is 0 v2 p2) (f3 : q_is 0 v3 p3)
  (h : fm_X11_update p1 p2 p3 m0 = some (rr, rm)) : Mt xs d 106 [v0, v1, v2, v3] S (Cx 0 m0 rm rr) := by
  obtain ⟨d, rfl⟩ : ∃ e, d = e + 1 := ⟨d - 1, by omega⟩
  have hd : 7 ≤ d := Nat.le_of_succ_le_succ hd
  refine Mt.of (M := qM_X11_update) rfl (by rw [sl_1 (q_is_cat f0 (Or.inr rfl)), sl_1 (q_is_cat f1 (Or.inl rfl)), sl_1 (q_is_cat f2 (Or.inl rfl)), sl_1 (q_is_cat f3 (Or.inl rfl)), sl_0]; decide) ?_
  rw [la_1 (q_is_cat f0 (Or.inr rfl)), la_1 (q_is_cat f1 (Or.inl rfl)), la_1 (q_is_cat f2 (Or.inl rfl)), la_1 (q_is_cat f3 (Or.inl rfl)), la_0]
  obtain ⟨L, hL⟩ : ∃ L : QL, L = [(0, v0), (0 + 1, v1), (0 + 1 + 1, v2), (0 + 1 + 1 + 1, v3)] := ⟨_, rfl⟩
  rw [← hL]
  have l0 : q_lo L 0 = some v0 := by rw [hL]; rfl
  have l1 : q_lo L 1 = some v1 := by rw [hL]; rfl
  have l2 : q_lo L 2 = some v2 := by rw [hL]; rfl
  have l3 : q_lo L 3 = some v3 := by rw [hL]; rfl
  have hQ : Ext m0 rm → ∀ o S1, Rp S1 rm → q_oux 0 o rr → (Cx 0 m0 rm rr) o S1 := fun a o S1 b e => ⟨b, a, e⟩
  unfold fm_X11_update at h
  refine go_aload_n (n := 0) (by decide +kernel) l0 f0 ?_
  refine go_iload_n (n := 1) (by decide +kernel) l1 f1 ?_
  obtain ⟨rr5, m_3, hc_1, h⟩ := bx_s h
  rcases h with ⟨q_10, rfl, h⟩ | ⟨x_2, rfl, h⟩
  · cases h
    exact go_callV (x := 185) (mi := 139) (n := 1) (ci := 12) (as := [v1]) (rest := []) (by decide +kernel) (by decide +kernel) rfl rfl (q_sum8 _ (Nat.le_of_ble_eq_true rfl)) R f0 (fx_k (c := 12) R (by decide +kernel)) (om_X11_runAt (Nat.le_trans (by decide) hd) R f0 f1 hc_1) (fun _ _ qq => kx_lx qq) (fun _ _ qq => by
      obtain ⟨rfl, Rq, Eq⟩ := kx_e qq
      exact Or.inl ⟨rfl, hQ Eq _ _ Rq rfl⟩)
  refine go_callV (x := 185) (mi := 139) (n := 1) (ci := 12) (as := [v1]) (rest := []) (by decide +kernel) (by decide +kernel) rfl rfl (q_sum8 _ (Nat.le_of_ble_eq_true rfl)) R f0 (fx_k (c := 12) R (by decide +kernel)) (om_X11_runAt (Nat.le_trans (by decide) hd) R f0 f1 hc_1) (fun _ S_6 q_9 => ?_) (fun _ _ qq => kr_x (kx_l qq))
  have q_9 := kx_l q_9
  refine kr_z (by decide) q_9 fun v_4 f_5 R_7 E_8 => ?_
  have E_12 := E_8
  refine go_astore (n := 4) (by decide +kernel) (by decide +kernel) f_5 fun L_13 l_14 kp_15 => ?_
  have l_16 := kp_15 0 _ l0 (by decide) (Or.inl (by decide))
  have l_17 := kp_15 2 _ l2 (by decide) (Or.inl (by decide))
  have l_18 := kp_15 3 _ l3 (by decide) (Or.inr (q_is_cat f3 (Or.inl rfl)))
  refine go_aload_n (n := 0) (by decide +kernel) l_16 f0 ?_
  refine go_iload_n (n := 2) (by decide +kernel) l_17 f2 ?_
  obtain ⟨rr5, m_21, hc_19, h⟩ := bx_s h
  rcases h with ⟨q_28, rfl, h⟩ | ⟨x_20, rfl, h⟩
  · cases h
    exact go_callV (x := 189) (mi := 145) (n := 1) (ci := 12) (as := [v2]) (rest := []) (by decide +kernel) (by decide +kernel) rfl rfl (q_sum8 _ (Nat.le_of_ble_eq_true rfl)) R_7 f0 (fx_k (c := 12) R_7 (by decide +kernel)) (om_X11_checkName (Nat.le_trans (by decide) hd) R_7 f0 f2 hc_19) (fun _ _ qq => kx_lx qq) (fun _ _ qq => by
      obtain ⟨rfl, Rq, Eq⟩ := kx_e qq
      exact Or.inl ⟨rfl, hQ (Ext.tr E_12 Eq) _ _ Rq rfl⟩)
  refine go_callV (x := 189) (mi := 145) (n := 1) (ci := 12) (as := [v2]) (rest := []) (by decide +kernel) (by decide +kernel) rfl rfl (q_sum8 _ (Nat.le_of_ble_eq_true rfl)) R_7 f0 (fx_k (c := 12) R_7 (by decide +kernel)) (om_X11_checkName (Nat.le_trans (by decide) hd) R_7 f0 f2 hc_19) (fun _ S_24 q_27 => ?_) (fun _ _ qq => kr_x (kx_l qq))
  have q_27 := kx_l q_27
  refine kr_v q_27 fun R_25 E_26 => ?_
  have E_30 := Ext.tr E_12 E_26
  refine go_aload_n (n := 0) (by decide +kernel) l_16 f0 ?_
  refine go_iload_n (n := 3) (by decide +kernel) l_18 f3 ?_
  obtain ⟨rr5, m_33, hc_31, h⟩ := bx_s h
  rcases h with ⟨q_40, rfl, h⟩ | ⟨x_32, rfl, h⟩
  · cases h
    exact go_callV (x := 167) (mi := 147) (n := 1) (ci := 12) (as := [v3]) (rest := []) (by decide +kernel) (by decide +kernel) rfl rfl (q_sum8 _ (Nat.le_of_ble_eq_true rfl)) R_25 f0 (fx_k (c := 12) R_25 (by decide +kernel)) (om_X11_checkValue (Nat.le_trans (by decide) hd) R_25 f0 f3 hc_31) (fun _ _ qq => kx_lx qq) (fun _ _ qq => by
      obtain ⟨rfl, Rq, Eq⟩ := kx_e qq
      exact Or.inl ⟨rfl, hQ (Ext.tr E_30 Eq) _ _ Rq rfl⟩)
  refine go_callV (x := 167) (mi := 147) (n := 1) (ci := 12) (as := [v3]) (rest := []) (by decide +kernel) (by decide +kernel) rfl rfl (q_sum8 _ (Nat.le_of_ble_eq_true rfl)) R_25 f0 (fx_k (c := 12) R_25 (by decide +kernel)) (om_X11_checkValue (Nat.le_trans (by decide) hd) R_25 f0 f3 hc_31) (fun _ S_36 q_39 => ?_) (fun _ _ qq => kr_x (kx_l qq))
  have q_39 := kx_l q_39
  refine kr_v q_39 fun R_37 E_38 => ?_
  have E_42 := Ext.tr E_30 E_38
  refine go_aload (n := 4) (by decide +kernel) l_14 f_5 ?_
  obtain ⟨g_45, h⟩ := gd_s h
  obtain ⟨x_47, e_48, h⟩ := lx_s h
  refine go_getf (x := 208) (ci := 7) (kf := 6) (fin := 0) (t := 0) (by decide +kernel) (by decide +kernel) (by decide +kernel) R_37 f_5 g_45 fun v_43 f_44 => ?_
  have f_46 := q_is_eq f_44 e_48
  refine go_if (c := .ne) (o := 16) (t := 38) (P := ¬ (x_47 = 0)) (by decide +kernel) (by decide +kernel) f_46 (Iff.rfl) (fun hp_49 => ?_) (fun hp_49 => ?_)
  · have h := it_f hp_49 h
    cases h
    exact go_thr (x := 111) (e := 2) (ic := 115) (b := 0) (by decide +kernel) (by decide +kernel) (by decide +kernel) R_37 rfl fun Sq Rq Eq => hQ (Ext.tr E_42 Eq) _ _ Rq rfl
  · have h := it_n hp_49 h
    refine go_aload (n := 4) (by decide +kernel) l_14 f_5 ?_
    obtain ⟨x_53, e_54, h⟩ := lx_s h
    refine go_getf (x := 195) (ci := 7) (kf := 16) (fin := 2) (t := 2) (by decide +kernel) (by decide +kernel) (by decide +kernel) R_37 f_5 g_45 fun v_50 f_51 => ?_
    have f_52 := q_is_eq f_51 e_54
    obtain ⟨g_57, h⟩ := gd_s h
    obtain ⟨x_59, e_60, h⟩ := lx_s h
    refine go_getf (x := 199) (ci := 3) (kf := 1) (fin := 0) (t := 0) (by decide +kernel) (by decide +kernel) (by decide +kernel) R_37 f_52 g_57 fun v_55 f_56 => ?_
    have f_58 := q_is_eq f_56 e_60
    refine go_bipush (n := 100) (z := 100) (by decide +kernel) (by decide) fun v_61 f_62 => ?_
    refine go_icmp (c := .lt) (o := 13) (t := 48) (P := x_59 < 100) (by decide +kernel) (by decide +kernel) f_58 f_62 (Iff.rfl) (fun hp_63 => ?_) (fun hp_63 => ?_)
    · have h := it_t hp_63 h
      refine go_aload_n (n := 0) (by decide +kernel) l_16 f0 ?_
      refine go_getf (x := 57) (ci := 12) (kf := 10) (fin := 1) (t := 2) (by decide +kernel) (by decide +kernel) (by decide +kernel) R_37 f0 (fx_k (c := 12) R_37 (by decide +kernel)) fun v_64 f_65 => ?_
      have f_66 := q_is_eq (b := 16) f_65 (fx_v R_37 (by decide +kernel)).symm
      refine go_aload (n := 4) (by decide +kernel) l_14 f_5 ?_
      refine go_aload_n (n := 0) (by decide +kernel) l_16 f0 ?_
      refine go_aload (n := 4) (by decide +kernel) l_14 f_5 ?_
      refine go_aload (n := 4) (by decide +kernel) l_14 f_5 ?_
      obtain ⟨x_70, e_71, h⟩ := lx_s h
      refine go_getf (x := 213) (ci := 7) (kf := 3) (fin := 0) (t := 0) (by decide +kernel) (by decide +kernel) (by decide +kernel) R_37 f_5 g_45 fun v_67 f_68 => ?_
      have f_69 := q_is_eq f_68 e_71
      obtain ⟨x_73, hc_72, h⟩ := bp_s h
      refine go_callV (x := 216) (mi := 149) (n := 2) (ci := 12) (as := [v_4, v_67]) (rest := [v_4, v_64]) (by decide +kernel) (by decide +kernel) rfl rfl (q_sum8 _ (Nat.le_of_ble_eq_true rfl)) R_37 f0 (fx_k (c := 12) R_37 (by decide +kernel)) (om_X11_codeOf (Nat.le_trans (by decide) hd) R_37 f0 f_5 f_69 hc_72) (fun _ S_77 q_80 => ?_) (fun _ _ qq => kr_x qq)
      refine kr_z (by decide) q_80 fun v_75 f_76 R_78 E_79 => ?_
      refine go_aload (n := 4) (by decide +kernel) l_14 f_5 ?_
      refine go_getf (x := 195) (ci := 7) (kf := 16) (fin := 2) (t := 2) (by decide +kernel) (by decide +kernel) (by decide +kernel) R_78 f_5 g_45 fun v_81 f_82 => ?_
      have f_83 := q_is_eq f_82 e_54
      obtain ⟨x_87, e_88, h⟩ := lx_s h
      refine go_getf (x := 220) (ci := 3) (kf := 4) (fin := 0) (t := 0) (by decide +kernel) (by decide +kernel) (by decide +kernel) R_78 f_83 g_57 fun v_84 f_85 => ?_
      have f_86 := q_is_eq f_85 e_88
      refine go_iconst (n := 0) (z := 0) (by decide +kernel) (by decide) fun v_89 f_90 => ?_
      obtain ⟨x_92, m_93, hc_91, h⟩ := bd_s h
      refine go_callV (x := 223) (mi := 30) (n := 4) (ci := 5) (as := [v_4, v_75, v_84, v_89]) (rest := []) (by decide +kernel) (by decide +kernel) rfl rfl (q_sum8 _ (Nat.le_of_ble_eq_true rfl)) R_78 f_66 (fx_k (c := 5) R_78 (by decide +kernel)) (om_X4_follow (Nat.le_trans (by decide) hd) R_78 f_66 f_5 f_76 f_86 f_90 hc_91) (fun _ S_96 q_99 => ?_) (fun _ _ qq => kr_x qq)
      refine kr_z (by decide) q_99 fun v_94 f_95 R_97 E_98 => ?_
      have E_100 := Ext.tr E_42 E_98
      refine go_istore (n := 5) (by decide +kernel) (by decide +kernel) f_95 fun L_101 l_102 kp_103 => ?_
      have l_104 := kp_103 0 _ l_16 (by decide) (Or.inl (by decide))
      have l_105 := kp_103 2 _ l_17 (by decide) (Or.inl (by decide))
      have l_106 := kp_103 3 _ l_18 (by decide) (Or.inl (by decide))
      have l_107 := kp_103 4 _ l_14 (by decide) (Or.inr (q_is_cat f_5 (Or.inr rfl)))
      refine go_iload (n := 5) (by decide +kernel) l_102 f_95 ?_
      refine go_if (c := .eq) (o := 29) (t := 110) (P := x_92 = 0) (by decide +kernel) (by decide +kernel) f_95 (Iff.rfl) (fun hp_108 => ?_) (fun hp_108 => ?_)
      · have h := it_t hp_108 h
        refine go_iconst (n := 0) (z := 0) (by decide +kernel) (by decide) fun v_109 f_110 => ?_
        cases h
        exact go_iret (by decide +kernel) rfl (Or.inr ⟨rfl, by decide⟩) f_110 (hQ E_100 _ _ R_97 (q_out_v (by decide) f_110))
      · have h := it_f hp_108 h
        refine go_aload (n := 4) (by decide +kernel) l_107 f_5 ?_
        have g_113 := Ext.ok E_98 g_45
        obtain ⟨x_115, e_116, h⟩ := lx_s h
        refine go_getf (x := 195) (ci := 7) (kf := 16) (fin := 2) (t := 2) (by decide +kernel) (by decide +kernel) (by decide +kernel) R_97 f_5 g_113 fun v_111 f_112 => ?_
        have f_114 := q_is_eq f_112 e_116
        refine go_iload_n (n := 2) (by decide +kernel) l_105 f2 ?_
        obtain ⟨g_117, h⟩ := gd_s h
        obtain ⟨x_119, hc_118, h⟩ := bp_s h
        refine go_callV (x := 227) (mi := 26) (n := 1) (ci := 3) (as := [v2]) (rest := []) (by decide +kernel) (by decide +kernel) rfl rfl (q_sum8 _ (Nat.le_of_ble_eq_true rfl)) R_97 f_114 g_117 (om_X2_hasNewSignal (Nat.le_trans (by decide) hd) R_97 g_117 f_114 f2 hc_118) (fun _ S_123 q_126 => ?_) (fun _ _ qq => kr_x qq)
        refine kr_z (by decide) q_126 fun v_121 f_122 R_124 E_125 => ?_
        refine go_if (c := .ne) (o := 17) (t := 110) (P := ¬ (x_119 = 0)) (by decide +kernel) (by decide +kernel) f_122 (Iff.rfl) (fun hp_127 => ?_) (fun hp_127 => ?_)
        · have h := it_f hp_127 h
          refine go_iconst (n := 0) (z := 0) (by decide +kernel) (by decide) fun v_128 f_129 => ?_
          cases h
          exact go_iret (by decide +kernel) rfl (Or.inr ⟨rfl, by decide⟩) f_129 (hQ E_100 _ _ R_124 (q_out_v (by decide) f_129))
        · have h := it_n hp_127 h
          refine go_aload_n (n := 0) (by decide +kernel) l_104 f0 ?_
          refine go_getf (x := 57) (ci := 12) (kf := 10) (fin := 1) (t := 2) (by decide +kernel) (by decide +kernel) (by decide +kernel) R_124 f0 (fx_k (c := 12) R_124 (by decide +kernel)) fun v_130 f_131 => ?_
          have f_132 := q_is_eq (b := 16) f_131 (fx_v R_124 (by decide +kernel)).symm
          refine go_getf (x := 231) (ci := 5) (kf := 0) (fin := 2) (t := 2) (by decide +kernel) (by decide +kernel) (by decide +kernel) R_124 f_132 (fx_k (c := 5) R_124 (by decide +kernel)) fun v_133 f_134 => ?_
          have f_135 := q_is_eq (b := 17) f_134 (fx_v R_124 (by decide +kernel)).symm
          refine go_iload_n (n := 2) (by decide +kernel) l_105 f2 ?_
          obtain ⟨x_137, hc_136, h⟩ := bp_s h
          refine go_callV (x := 235) (mi := 92) (n := 1) (ci := 9) (as := [v2]) (rest := []) (by decide +kernel) (by decide +kernel) rfl rfl (q_sum8 _ (Nat.le_of_ble_eq_true rfl)) R_124 f_135 (fx_k (c := 9) R_124 (by decide +kernel)) (om_X8_waitsForSignal (Nat.le_trans (by decide) hd) R_124 f_135 f2 hc_136) (fun _ S_141 q_144 => ?_) (fun _ _ qq => kr_x qq)
          refine kr_z (by decide) q_144 fun v_139 f_140 R_142 E_143 => ?_
          refine go_if (c := .ne) (o := 5) (t := 112) (P := ¬ (x_137 = 0)) (by decide +kernel) (by decide +kernel) f_140 (Iff.rfl) (fun hp_145 => ?_) (fun hp_145 => ?_)
          · have h := it_f hp_145 h
            refine go_aload_n (n := 0) (by decide +kernel) l_104 f0 ?_
            refine go_aload (n := 4) (by decide +kernel) l_107 f_5 ?_
            refine go_iconst (n := 4) (z := 4) (by decide +kernel) (by decide) fun v_146 f_147 => ?_
            refine go_iload_n (n := 2) (by decide +kernel) l_105 f2 ?_
            refine go_iload_n (n := 3) (by decide +kernel) l_106 f3 ?_
            obtain ⟨x_149, m_150, hc_148, h⟩ := bd_s h
            refine go_callV (x := 204) (mi := 152) (n := 4) (ci := 12) (as := [v_4, v_146, v2, v3]) (rest := []) (by decide +kernel) (by decide +kernel) rfl rfl (q_sum8 _ (Nat.le_of_ble_eq_true rfl)) R_142 f0 (fx_k (c := 12) R_142 (by decide +kernel)) (om_X11_arrive (Nat.le_trans (by decide) hd) R_142 f0 f_5 f_147 f2 f3 hc_148) (fun _ S_153 q_156 => ?_) (fun _ _ qq => kr_x qq)
            refine kr_v q_156 fun R_154 E_155 => ?_
            have E_157 := Ext.tr E_100 E_155
            refine go_iconst (n := 1) (z := 1) (by decide +kernel) (by decide) fun v_158 f_159 => ?_
            cases h
            exact go_iret (by decide +kernel) rfl (Or.inr ⟨rfl, by decide⟩) f_159 (hQ E_157 _ _ R_154 (q_out_v (by decide) f_159))
          · have h := it_n hp_145 h
            refine go_iconst (n := 0) (z := 0) (by decide +kernel) (by decide) fun v_160 f_161 => ?_
            cases h
            exact go_iret (by decide +kernel) rfl (Or.inr ⟨rfl, by decide⟩) f_161 (hQ E_100 _ _ R_142 (q_out_v (by decide) f_161))
    · have h := it_f hp_63 h
      cases h
      exact go_thr (x := 111) (e := 2) (ic := 115) (b := 0) (by decide +kernel) (by decide +kernel) (by decide +kernel) R_37 rfl fun Sq Rq Eq => hQ (Ext.tr E_42 Eq) _ _ Rq rfl
noncomputable def fm_X11_cancelRun (p1 : Int) (m0 : MM) : Option (Int × MM) := gd (okc m0 p1 7) <| lx (m0 p1 16) fun x_5 =>
gd (okc m0 x_5 3) <| bp (fm_X2_has x_5 7 m0) fun x_11 =>
if x_11 = 0 then
bd (fm_X11_arrive p1 7 0 0 m0) fun x_27 m_28 =>
some (1, m_28)
else
some (0, m0)
set_option maxHeartbeats 4000000 in
theorem om_X11_cancelRun {xs : List Int32} {d : Nat} {S : QS} {m0 : MM} {p1 : Int} {v0 : Value} {v1 : Value} {rz : Int} {rm : MM}
  (hd : 4 ≤ d) (R : Rp S m0) (f0 : q_is 2 v0 4) (f1 : q_is 2 v1 p1)
  (h : fm_X11_cancelRun p1 m0 = some (rz, rm)) : Mt xs d 153 [v0, v1] S (Cr 0 m0 rm rz) := by
  obtain ⟨d, rfl⟩ : ∃ e, d = e + 1 := ⟨d - 1, by omega⟩
  have hd : 3 ≤ d := Nat.le_of_succ_le_succ hd
  refine Mt.of (M := qM_X11_cancelRun) rfl (by rw [sl_1 (q_is_cat f0 (Or.inr rfl)), sl_1 (q_is_cat f1 (Or.inr rfl)), sl_0]; decide) ?_
  rw [la_1 (q_is_cat f0 (Or.inr rfl)), la_1 (q_is_cat f1 (Or.inr rfl)), la_0]
  obtain ⟨L, hL⟩ : ∃ L : QL, L = [(0, v0), (0 + 1, v1)] := ⟨_, rfl⟩
  rw [← hL]
  have l0 : q_lo L 0 = some v0 := by rw [hL]; rfl
  have l1 : q_lo L 1 = some v1 := by rw [hL]; rfl
  have hQ : Ext m0 rm → ∀ o S1, Rp S1 rm → q_out 0 o rz → (Cr 0 m0 rm rz) o S1 := fun a o S1 b e => ⟨b, a, e⟩
  unfold fm_X11_cancelRun at h
  refine go_aload_n (n := 1) (by decide +kernel) l1 f1 ?_
  obtain ⟨g_3, h⟩ := gd_s h
  obtain ⟨x_5, e_6, h⟩ := lx_s h
  refine go_getf (x := 195) (ci := 7) (kf := 16) (fin := 2) (t := 2) (by decide +kernel) (by decide +kernel) (by decide +kernel) R f1 g_3 fun v_1 f_2 => ?_
  have f_4 := q_is_eq f_2 e_6
  refine go_bipush (n := 7) (z := 7) (by decide +kernel) (by decide) fun v_7 f_8 => ?_
  obtain ⟨g_9, h⟩ := gd_s h
  obtain ⟨x_11, hc_10, h⟩ := bp_s h
  refine go_callV (x := 540) (mi := 19) (n := 1) (ci := 3) (as := [v_7]) (rest := []) (by decide +kernel) (by decide +kernel) rfl rfl (q_sum8 _ (Nat.le_of_ble_eq_true rfl)) R f_4 g_9 (om_X2_has (Nat.le_trans (by decide) hd) R g_9 f_4 f_8 hc_10) (fun _ S_15 q_18 => ?_) (fun _ _ qq => kr_x qq)
  refine kr_z (by decide) q_18 fun v_13 f_14 R_16 E_17 => ?_
  refine go_if (c := .eq) (o := 5) (t := 14) (P := x_11 = 0) (by decide +kernel) (by decide +kernel) f_14 (Iff.rfl) (fun hp_19 => ?_) (fun hp_19 => ?_)
  · have h := it_t hp_19 h
    refine go_aload_n (n := 0) (by decide +kernel) l0 f0 ?_
    refine go_aload_n (n := 1) (by decide +kernel) l1 f1 ?_
    refine go_bipush (n := 7) (z := 7) (by decide +kernel) (by decide) fun v_20 f_21 => ?_
    refine go_iconst (n := 0) (z := 0) (by decide +kernel) (by decide) fun v_22 f_23 => ?_
    refine go_iconst (n := 0) (z := 0) (by decide +kernel) (by decide) fun v_24 f_25 => ?_
    obtain ⟨x_27, m_28, hc_26, h⟩ := bd_s h
    refine go_callV (x := 204) (mi := 152) (n := 4) (ci := 12) (as := [v1, v_20, v_22, v_24]) (rest := []) (by decide +kernel) (by decide +kernel) rfl rfl (q_sum8 _ (Nat.le_of_ble_eq_true rfl)) R_16 f0 (fx_k (c := 12) R_16 (by decide +kernel)) (om_X11_arrive (Nat.le_trans (by decide) hd) R_16 f0 f1 f_21 f_23 f_25 hc_26) (fun _ S_31 q_34 => ?_) (fun _ _ qq => kr_x qq)
    refine kr_v q_34 fun R_32 E_33 => ?_
    have E_35 := E_33
    refine go_iconst (n := 1) (z := 1) (by decide +kernel) (by decide) fun v_36 f_37 => ?_
    cases h
    exact go_iret (by decide +kernel) rfl (Or.inr ⟨rfl, by decide⟩) f_37 (hQ E_35 _ _ R_32 (q_out_v (by decide) f_37))
  · have h := it_f hp_19 h
    refine go_iconst (n := 0) (z := 0) (by decide +kernel) (by decide) fun v_38 f_39 => ?_
    cases h
    exact go_iret (by decide +kernel) rfl (Or.inr ⟨rfl, by decide⟩) f_39 (hQ (Ext.rf _) _ _ R_16 (q_out_v (by decide) f_39))
end DF13
