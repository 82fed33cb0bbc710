/-! Methods as functions (written by wip/whole/dec.py), 13: X11_arrive, X11_startRun, X11_begin, X11_runAt, X11_checkName, X11_signal, X11_typeOf, X11_codeOf, X11_update, X11_cancelRun. -/
section DF13
noncomputable def fm_X11_arrive (p1 p2 p3 p4 : Int) (m0 : MM) : Option (Int × MM) := gd (okc m0 p1 7) <| lx (m0 p1 16) fun x_5 =>
lx (m0 4 14) fun x_10 =>
lx (m0 4 16) fun x_15 =>
gd (okc m0 x_5 3) <| bd (fm_X2_put x_5 p2 p3 p4 x_10 x_15 m0) fun x_19 m_20 =>
lx (m_20 4 16) fun x_33 =>
up m_20 4 16 (w32 (x_33 + 1)) fun m_39 =>
some (0, m_39)
set_option maxHeartbeats 4000000 in
theorem om_X11_arrive {xs : List Int32} {d : Nat} {S : QS} {m0 : MM} {p1 p2 p3 p4 : Int} {v0 : Value} {v1 : Value} {v2 : Value} {v3 : Value} {v4 : Value} {rz : Int} {rm : MM}
  (hd : 3 ≤ d) (R : Rp S m0) (f0 : q_is 2 v0 4) (f1 : q_is 2 v1 p1) (f2 : q_is 0 v2 p2) (f3 : q_is 0 v3 p3) (f4 : q_is 0 v4 p4)
  (h : fm_X11_arrive p1 p2 p3 p4 m0 = some (rz, rm)) : Mt xs d 152 [v0, v1, v2, v3, v4] S (Cr 9 m0 rm rz) := by
  obtain ⟨d, rfl⟩ : ∃ e, d = e + 1 := ⟨d - 1, by omega⟩
  have hd : 2 ≤ d := Nat.le_of_succ_le_succ hd
  refine Mt.of (M := qM_X11_arrive) rfl (by rw [sl_1 (q_is_cat f0 (Or.inr rfl)), sl_1 (q_is_cat f1 (Or.inr rfl)), sl_1 (q_is_cat f2 (Or.inl rfl)), sl_1 (q_is_cat f3 (Or.inl rfl)), sl_1 (q_is_cat f4 (Or.inl rfl)), sl_0]; decide) ?_
  rw [la_1 (q_is_cat f0 (Or.inr rfl)), la_1 (q_is_cat f1 (Or.inr rfl)), la_1 (q_is_cat f2 (Or.inl rfl)), la_1 (q_is_cat f3 (Or.inl rfl)), la_1 (q_is_cat f4 (Or.inl rfl)), la_0]
  obtain ⟨L, hL⟩ : ∃ L : QL, L = [(0, v0), (0 + 1, v1), (0 + 1 + 1, v2), (0 + 1 + 1 + 1, v3), (0 + 1 + 1 + 1 + 1, v4)] := ⟨_, rfl⟩
  rw [← hL]
  have l0 : q_lo L 0 = some v0 := by rw [hL]; rfl
  have l1 : q_lo L 1 = some v1 := by rw [hL]; rfl
  have l2 : q_lo L 2 = some v2 := by rw [hL]; rfl
  have l3 : q_lo L 3 = some v3 := by rw [hL]; rfl
  have l4 : q_lo L 4 = some v4 := by rw [hL]; rfl
  have hQ : Ext m0 rm → ∀ o S1, Rp S1 rm → q_out 9 o rz → (Cr 9 m0 rm rz) o S1 := fun a o S1 b e => ⟨b, a, e⟩
  unfold fm_X11_arrive at h
  refine go_aload_n (n := 1) (by decide +kernel) l1 f1 ?_
  obtain ⟨g_3, h⟩ := gd_s h
  obtain ⟨x_5, e_6, h⟩ := lx_s h
  refine go_getf (x := 195) (ci := 7) (kf := 16) (fin := 2) (t := 2) (by decide +kernel) (by decide +kernel) (by decide +kernel) R f1 g_3 fun v_1 f_2 => ?_
  have f_4 := q_is_eq f_2 e_6
  refine go_iload_n (n := 2) (by decide +kernel) l2 f2 ?_
  refine go_iload_n (n := 3) (by decide +kernel) l3 f3 ?_
  refine go_iload (n := 4) (by decide +kernel) l4 f4 ?_
  refine go_aload_n (n := 0) (by decide +kernel) l0 f0 ?_
  obtain ⟨x_10, e_11, h⟩ := lx_s h
  refine go_getf (x := 71) (ci := 12) (kf := 14) (fin := 0) (t := 0) (by decide +kernel) (by decide +kernel) (by decide +kernel) R f0 (fx_k (c := 12) R (by decide +kernel)) fun v_7 f_8 => ?_
  have f_9 := q_is_eq f_8 e_11
  refine go_aload_n (n := 0) (by decide +kernel) l0 f0 ?_
  obtain ⟨x_15, e_16, h⟩ := lx_s h
  refine go_getf (x := 77) (ci := 12) (kf := 16) (fin := 0) (t := 0) (by decide +kernel) (by decide +kernel) (by decide +kernel) R f0 (fx_k (c := 12) R (by decide +kernel)) fun v_12 f_13 => ?_
  have f_14 := q_is_eq f_13 e_16
  obtain ⟨g_17, h⟩ := gd_s h
  obtain ⟨x_19, m_20, hc_18, h⟩ := bd_s h
  refine go_callV (x := 537) (mi := 15) (n := 5) (ci := 3) (as := [v2, v3, v4, v_7, v_12]) (rest := []) (by decide +kernel) (by decide +kernel) rfl rfl (q_sum8 _ (Nat.le_of_ble_eq_true rfl)) R f_4 g_17 (om_X2_put (Nat.le_trans (by decide) hd) R g_17 f_4 f2 f3 f4 f_9 f_14 hc_18) (fun _ S_23 q_26 => ?_) (fun _ _ qq => kr_x qq)
  refine kr_v q_26 fun R_24 E_25 => ?_
  have E_29 := E_25
  refine go_aload_n (n := 0) (by decide +kernel) l0 f0 ?_
  refine go_dup (by decide +kernel) f0 (Or.inr rfl) ?_
  obtain ⟨x_33, e_34, h⟩ := lx_s h
  refine go_getf (x := 77) (ci := 12) (kf := 16) (fin := 0) (t := 0) (by decide +kernel) (by decide +kernel) (by decide +kernel) R_24 f0 (fx_k (c := 12) R_24 (by decide +kernel)) fun v_30 f_31 => ?_
  have f_32 := q_is_eq f_31 e_34
  refine go_iconst (n := 1) (z := 1) (by decide +kernel) (by decide) fun v_35 f_36 => ?_
  refine go_iadd (by decide +kernel) f_32 f_36 fun v_37 f_38 => ?_
  obtain ⟨m_39, e_40, h⟩ := up_s h
  refine go_putf (x := 77) (ci := 12) (kf := 16) (fin := 0) (zt := 0) (by decide +kernel) (by decide +kernel) (by decide) (by decide +kernel) (by decide) (Or.inl rfl) R_24 f0 f_38 (fun hq => absurd hq (by decide)) (fx_k (c := 12) R_24 (by decide +kernel)) e_40 (fx_f (j := 16) R_24.2 (fx_k (c := 12) R_24 (by decide +kernel)) (by decide +kernel)) fun S_41 R_42 E_43 => ?_
  have E_45 := Ext.tr E_29 E_43
  cases h
  exact go_vret (by decide +kernel) rfl (hQ E_45 _ _ R_42 q_out_n)
noncomputable def fm_X11_startRun (p1 p2 p3 p4 p5 : Int) (m0 : MM) : Option (Int × MM) := bp (fm_J9_floorMod_7cf53 p1 4 m0) fun x_11 =>
gd (0 ≤ x_11 ∧ x_11 < 4) <| lx (m0 5 x_11) fun x_23 =>
gd (okc m0 x_23 11) <| lx (m0 x_23 0) fun x_29 =>
gd (okc m0 x_29 0) <| bp (fm_Jx4a65c_size_8abf5 x_29 m0) fun x_33 =>
lx (w32 (x_33 - 1)) fun x_45 =>
bd (fm_X11_addRun p1 p2 x_45 p4 p5 m0) fun x_58 m_59 =>
bd (fm_X11_arrive x_58 0 p3 0 m_59) fun x_79 m_80 =>
some (x_58, m_80)
set_option maxHeartbeats 4000000 in
theorem om_X11_startRun {xs : List Int32} {d : Nat} {S : QS} {m0 : MM} {p1 p2 p3 p4 p5 : Int} {v0 : Value} {v1 : Value} {v2 : Value} {v3 : Value} {v4 : Value} {v5 : Value} {rz : Int} {rm : MM}
  (hd : 10 ≤ d) (R : Rp S m0) (f0 : q_is 2 v0 4) (f1 : q_is 0 v1 p1) (f2 : q_is 0 v2 p2) (f3 : q_is 0 v3 p3) (f4 : q_is 0 v4 p4) (f5 : q_is 0 v5 p5)
  (h : fm_X11_startRun p1 p2 p3 p4 p5 m0 = some (rz, rm)) : Mt xs d 151 [v0, v1, v2, v3, v4, v5] S (Cr 2 m0 rm rz) := by
  obtain ⟨d, rfl⟩ : ∃ e, d = e + 1 := ⟨d - 1, by omega⟩
  have hd : 9 ≤ d := Nat.le_of_succ_le_succ hd
  refine Mt.of (M := qM_X11_startRun) rfl (by rw [sl_1 (q_is_cat f0 (Or.inr rfl)), sl_1 (q_is_cat f1 (Or.inl rfl)), sl_1 (q_is_cat f2 (Or.inl rfl)), sl_1 (q_is_cat f3 (Or.inl rfl)), sl_1 (q_is_cat f4 (Or.inl rfl)), sl_1 (q_is_cat f5 (Or.inl rfl)), sl_0]; decide) ?_
  rw [la_1 (q_is_cat f0 (Or.inr rfl)), la_1 (q_is_cat f1 (Or.inl rfl)), la_1 (q_is_cat f2 (Or.inl rfl)), la_1 (q_is_cat f3 (Or.inl rfl)), la_1 (q_is_cat f4 (Or.inl rfl)), la_1 (q_is_cat f5 (Or.inl rfl)), la_0]
  obtain ⟨L, hL⟩ : ∃ L : QL, L = [(0, v0), (0 + 1, v1), (0 + 1 + 1, v2), (0 + 1 + 1 + 1, v3), (0 + 1 + 1 + 1 + 1, v4), (0 + 1 + 1 + 1 + 1 + 1, v5)] := ⟨_, rfl⟩
  rw [← hL]
  have l0 : q_lo L 0 = some v0 := by rw [hL]; rfl
  have l1 : q_lo L 1 = some v1 := by rw [hL]; rfl
  have l2 : q_lo L 2 = some v2 := by rw [hL]; rfl
  have l3 : q_lo L 3 = some v3 := by rw [hL]; rfl
  have l4 : q_lo L 4 = some v4 := by rw [hL]; rfl
  have l5 : q_lo L 5 = some v5 := by rw [hL]; rfl
  have hQ : Ext m0 rm → ∀ o S1, Rp S1 rm → q_out 2 o rz → (Cr 2 m0 rm rz) o S1 := fun a o S1 b e => ⟨b, a, e⟩
  unfold fm_X11_startRun at h
  refine go_aload_n (n := 0) (by decide +kernel) l0 f0 ?_
  refine go_getf (x := 11) (ci := 12) (kf := 0) (fin := 1) (t := 2) (by decide +kernel) (by decide +kernel) (by decide +kernel) R f0 (fx_k (c := 12) R (by decide +kernel)) fun v_1 f_2 => ?_
  have f_3 := q_is_eq (b := 5) f_2 (fx_v R (by decide +kernel)).symm
  refine go_iload_n (n := 1) (by decide +kernel) l1 f1 ?_
  refine go_aload_n (n := 0) (by decide +kernel) l0 f0 ?_
  refine go_getf (x := 11) (ci := 12) (kf := 0) (fin := 1) (t := 2) (by decide +kernel) (by decide +kernel) (by decide +kernel) R f0 (fx_k (c := 12) R (by decide +kernel)) fun v_4 f_5 => ?_
  have f_6 := q_is_eq (b := 5) f_5 (fx_v R (by decide +kernel)).symm
  refine go_alen (by decide +kernel) R f_6 (okl_of (fx_k (c := 106) R (by decide +kernel)) (by decide)) fun v_7 f_8 => ?_
  have f_9 := q_is_eq (b := 4) f_8 (by rw [fx_l R (ln := 4) (by decide +kernel)]; decide)
  obtain ⟨x_11, hc_10, h⟩ := bp_s h
  refine go_callS (x := 496) (mi := 318) (n := 2) (b := 0) (as := [v1, v_7]) (rest := [v_1]) (by decide +kernel) (by decide +kernel) rfl rfl (q_sum8 _ (Nat.le_of_ble_eq_true rfl)) (om_J9_floorMod_7cf53 (Nat.le_trans (by decide) hd) R f1 f_9 hc_10) (fun _ S_15 q_18 => ?_) (fun _ _ qq => kr_x qq)
  refine kr_z (by decide) q_18 fun v_13 f_14 R_16 E_17 => ?_
  obtain ⟨g_21, h⟩ := gd_s h
  obtain ⟨x_23, e_24, h⟩ := lx_s h
  refine go_aald (kd := 106) (by decide +kernel) (by decide) R_16 f_3 f_14 (fx_k (c := 106) R_16 (by decide +kernel)) (fx_x (a := 5) (ln := 4) R_16 (by decide +kernel) g_21) fun v_19 f_20 => ?_
  have f_22 := q_is_eq f_20 e_24
  obtain ⟨g_27, h⟩ := gd_s h
  obtain ⟨x_29, e_30, h⟩ := lx_s h
  refine go_getf (x := 124) (ci := 11) (kf := 0) (fin := 2) (t := 2) (by decide +kernel) (by decide +kernel) (by decide +kernel) R_16 f_22 g_27 fun v_25 f_26 => ?_
  have f_28 := q_is_eq f_26 e_30
  obtain ⟨g_31, h⟩ := gd_s h
  obtain ⟨x_33, hc_32, h⟩ := bp_s h
  refine go_callV (x := 127) (mi := 326) (n := 0) (ci := 0) (as := []) (rest := []) (by decide +kernel) (by decide +kernel) rfl rfl (q_sum8 _ (Nat.le_of_ble_eq_true rfl)) R_16 f_28 g_31 (om_Jx4a65c_size_8abf5 (Nat.le_trans (by decide) hd) R_16 g_31 f_28 hc_32) (fun _ S_37 q_40 => ?_) (fun _ _ qq => kr_x qq)
  refine kr_z (by decide) q_40 fun v_35 f_36 R_38 E_39 => ?_
  refine go_iconst (n := 1) (z := 1) (by decide +kernel) (by decide) fun v_41 f_42 => ?_
  refine go_isub (by decide +kernel) f_36 f_42 fun v_43 f_44 => ?_
  obtain ⟨x_45, e_46, h⟩ := lx_s h
  have f_47 := q_is_eq f_44 e_46
  refine go_istore (n := 6) (by decide +kernel) (by decide +kernel) f_47 fun L_48 l_49 kp_50 => ?_
  have l_51 := kp_50 0 _ l0 (by decide) (Or.inl (by decide))
  have l_52 := kp_50 1 _ l1 (by decide) (Or.inl (by decide))
  have l_53 := kp_50 2 _ l2 (by decide) (Or.inl (by decide))
  have l_54 := kp_50 3 _ l3 (by decide) (Or.inl (by decide))
  have l_55 := kp_50 4 _ l4 (by decide) (Or.inl (by decide))
  have l_56 := kp_50 5 _ l5 (by decide) (Or.inr (q_is_cat f5 (Or.inl rfl)))
  refine go_aload_n (n := 0) (by decide +kernel) l_51 f0 ?_
  refine go_iload_n (n := 1) (by decide +kernel) l_52 f1 ?_
  refine go_iload_n (n := 2) (by decide +kernel) l_53 f2 ?_
  refine go_iload (n := 6) (by decide +kernel) l_49 f_47 ?_
  refine go_iload (n := 4) (by decide +kernel) l_55 f4 ?_
  refine go_iload (n := 5) (by decide +kernel) l_56 f5 ?_
  obtain ⟨x_58, m_59, hc_57, h⟩ := bd_s h
  refine go_callV (x := 420) (mi := 150) (n := 5) (ci := 12) (as := [v1, v2, v_43, v4, v5]) (rest := []) (by decide +kernel) (by decide +kernel) rfl rfl (q_sum8 _ (Nat.le_of_ble_eq_true rfl)) R_38 f0 (fx_k (c := 12) R_38 (by decide +kernel)) (om_X11_addRun (Nat.le_trans (by decide) hd) R_38 f0 f1 f2 f_47 f4 f5 hc_57) (fun _ S_62 q_65 => ?_) (fun _ _ qq => kr_x qq)
  refine kr_z (by decide) q_65 fun v_60 f_61 R_63 E_64 => ?_
  have E_68 := E_64
  refine go_astore (n := 7) (by decide +kernel) (by decide +kernel) f_61 fun L_69 l_70 kp_71 => ?_
  have l_72 := kp_71 0 _ l_51 (by decide) (Or.inl (by decide))
  have l_73 := kp_71 3 _ l_54 (by decide) (Or.inl (by decide))
  refine go_aload_n (n := 0) (by decide +kernel) l_72 f0 ?_
  refine go_aload (n := 7) (by decide +kernel) l_70 f_61 ?_
  refine go_iconst (n := 0) (z := 0) (by decide +kernel) (by decide) fun v_74 f_75 => ?_
  refine go_iload_n (n := 3) (by decide +kernel) l_73 f3 ?_
  refine go_iconst (n := 0) (z := 0) (by decide +kernel) (by decide) fun v_76 f_77 => ?_
  obtain ⟨x_79, m_80, hc_78, h⟩ := bd_s h
  refine go_callV (x := 204) (mi := 152) (n := 4) (ci := 12) (as := [v_60, v_74, v3, v_76]) (rest := []) (by decide +kernel) (by decide +kernel) rfl rfl (q_sum8 _ (Nat.le_of_ble_eq_true rfl)) R_63 f0 (fx_k (c := 12) R_63 (by decide +kernel)) (om_X11_arrive (Nat.le_trans (by decide) hd) R_63 f0 f_61 f_75 f3 f_77 hc_78) (fun _ S_83 q_86 => ?_) (fun _ _ qq => kr_x qq)
  refine kr_v q_86 fun R_84 E_85 => ?_
  have E_89 := Ext.tr E_68 E_85
  refine go_aload (n := 7) (by decide +kernel) l_70 f_61 ?_
  cases h
  exact go_aret (by decide +kernel) rfl rfl f_61 (hQ E_89 _ _ R_84 (q_out_v (by decide) f_61))
noncomputable def fm_X11_begin (p1 p2 p3 : Int) (m0 : MM) : Option ((Int ⊕ Nat) × MM) := bx (fm_X11_typeAt p1 m0) (fun q_10 m_3 => some (.inr q_10, m_3)) fun x_2 m_3 =>
bx (fm_X11_checkTenant p2 m_3) (fun q_33 m_26 => some (.inr q_33, m_26)) fun x_25 m_26 =>
bx (fm_X11_checkValue p3 m_26) (fun q_49 m_42 => some (.inr q_49, m_42)) fun x_41 m_42 =>
gd (okc m_42 x_2 11) <| lx (m_42 x_2 0) fun x_60 =>
gd (okc m_42 x_60 0) <| bp (fm_Jx4a65c_isEmpty_aae02 x_60 m_42) fun x_64 =>
if x_64 = 0 then
bp (fm_Jx4a65c_size_8abf5 7 m_42) fun x_77 =>
if x_77 < 30 then
bd (fm_X11_startRun p1 p2 p3 (-1) 0 m_42) fun x_93 m_94 =>
gd (okc m_94 x_93 7) <| lx (m_94 x_93 0) fun x_108 =>
some (.inl x_108, m_94)
else
some (.inr 2, mthr m_42)
else
some (.inr 2, mthr m_42)
set_option maxHeartbeats 4000000 in
theorem om_X11_begin {xs : List Int32} {d : Nat} {S : QS} {m0 : MM} {p1 p2 p3 : Int} {v0 : Value} {v1 : Value} {v2 : Value} {v3 : Value} {rr : Int ⊕ Nat} {rm : MM}
  (hd : 11 ≤ d) (R : Rp S m0) (f0 : q_is 2 v0 4) (f1 : q_is 0 v1 p1) (f2 : q_is 0 v2 p2) (f3 : q_is 0 v3 p3)
  (h : fm_X11_begin p1 p2 p3 m0 = some (rr, rm)) : Mt xs d 104 [v0, v1, v2, v3] S (Cx 0 m0 rm rr) := by
  obtain ⟨d, rfl⟩ : ∃ e, d = e + 1 := ⟨d - 1, by omega⟩
  have hd : 10 ≤ d := Nat.le_of_succ_le_succ hd
  refine Mt.of (M := qM_X11_begin) rfl (by rw [sl_1 (q_is_cat f0 (Or.inr rfl)), sl_1 (q_is_cat f1 (Or.inl rfl)), sl_1 (q_is_cat f2 (Or.inl rfl)), sl_1 (q_is_cat f3 (Or.inl rfl)), sl_0]; decide) ?_
  rw [la_1 (q_is_cat f0 (Or.inr rfl)), la_1 (q_is_cat f1 (Or.inl rfl)), la_1 (q_is_cat f2 (Or.inl rfl)), la_1 (q_is_cat f3 (Or.inl rfl)), la_0]
  obtain ⟨L, hL⟩ : ∃ L : QL, L = [(0, v0), (0 + 1, v1), (0 + 1 + 1, v2), (0 + 1 + 1 + 1, v3)] := ⟨_, rfl⟩
  rw [← hL]
  have l0 : q_lo L 0 = some v0 := by rw [hL]; rfl
  have l1 : q_lo L 1 = some v1 := by rw [hL]; rfl
  have l2 : q_lo L 2 = some v2 := by rw [hL]; rfl
  have l3 : q_lo L 3 = some v3 := by rw [hL]; rfl
  have hQ : Ext m0 rm → ∀ o S1, Rp S1 rm → q_oux 0 o rr → (Cx 0 m0 rm rr) o S1 := fun a o S1 b e => ⟨b, a, e⟩
  unfold fm_X11_begin at h
  refine go_aload_n (n := 0) (by decide +kernel) l0 f0 ?_
  refine go_iload_n (n := 1) (by decide +kernel) l1 f1 ?_
  obtain ⟨rr5, m_3, hc_1, h⟩ := bx_s h
  rcases h with ⟨q_10, rfl, h⟩ | ⟨x_2, rfl, h⟩
  · cases h
    exact go_callV (x := 86) (mi := 137) (n := 1) (ci := 12) (as := [v1]) (rest := []) (by decide +kernel) (by decide +kernel) rfl rfl (q_sum8 _ (Nat.le_of_ble_eq_true rfl)) R f0 (fx_k (c := 12) R (by decide +kernel)) (om_X11_typeAt (Nat.le_trans (by decide) hd) R f0 f1 hc_1) (fun _ _ qq => kx_lx qq) (fun _ _ qq => by
      obtain ⟨rfl, Rq, Eq⟩ := kx_e qq
      exact Or.inl ⟨rfl, hQ Eq _ _ Rq rfl⟩)
  refine go_callV (x := 86) (mi := 137) (n := 1) (ci := 12) (as := [v1]) (rest := []) (by decide +kernel) (by decide +kernel) rfl rfl (q_sum8 _ (Nat.le_of_ble_eq_true rfl)) R f0 (fx_k (c := 12) R (by decide +kernel)) (om_X11_typeAt (Nat.le_trans (by decide) hd) R f0 f1 hc_1) (fun _ S_6 q_9 => ?_) (fun _ _ qq => kr_x (kx_l qq))
  have q_9 := kx_l q_9
  refine kr_z (by decide) q_9 fun v_4 f_5 R_7 E_8 => ?_
  have E_16 := E_8
  refine go_astore (n := 4) (by decide +kernel) (by decide +kernel) f_5 fun L_17 l_18 kp_19 => ?_
  have l_20 := kp_19 0 _ l0 (by decide) (Or.inl (by decide))
  have l_21 := kp_19 1 _ l1 (by decide) (Or.inl (by decide))
  have l_22 := kp_19 2 _ l2 (by decide) (Or.inl (by decide))
  have l_23 := kp_19 3 _ l3 (by decide) (Or.inr (q_is_cat f3 (Or.inl rfl)))
  refine go_aload_n (n := 0) (by decide +kernel) l_20 f0 ?_
  refine go_iload_n (n := 2) (by decide +kernel) l_22 f2 ?_
  obtain ⟨rr5, m_26, hc_24, h⟩ := bx_s h
  rcases h with ⟨q_33, rfl, h⟩ | ⟨x_25, rfl, h⟩
  · cases h
    exact go_callV (x := 163) (mi := 143) (n := 1) (ci := 12) (as := [v2]) (rest := []) (by decide +kernel) (by decide +kernel) rfl rfl (q_sum8 _ (Nat.le_of_ble_eq_true rfl)) R_7 f0 (fx_k (c := 12) R_7 (by decide +kernel)) (om_X11_checkTenant (Nat.le_trans (by decide) hd) R_7 f0 f2 hc_24) (fun _ _ qq => kx_lx qq) (fun _ _ qq => by
      obtain ⟨rfl, Rq, Eq⟩ := kx_e qq
      exact Or.inl ⟨rfl, hQ (Ext.tr E_16 Eq) _ _ Rq rfl⟩)
  refine go_callV (x := 163) (mi := 143) (n := 1) (ci := 12) (as := [v2]) (rest := []) (by decide +kernel) (by decide +kernel) rfl rfl (q_sum8 _ (Nat.le_of_ble_eq_true rfl)) R_7 f0 (fx_k (c := 12) R_7 (by decide +kernel)) (om_X11_checkTenant (Nat.le_trans (by decide) hd) R_7 f0 f2 hc_24) (fun _ S_29 q_32 => ?_) (fun _ _ qq => kr_x (kx_l qq))
  have q_32 := kx_l q_32
  refine kr_v q_32 fun R_30 E_31 => ?_
  have E_39 := Ext.tr E_16 E_31
  refine go_aload_n (n := 0) (by decide +kernel) l_20 f0 ?_
  refine go_iload_n (n := 3) (by decide +kernel) l_23 f3 ?_
  obtain ⟨rr5, m_42, hc_40, h⟩ := bx_s h
  rcases h with ⟨q_49, rfl, h⟩ | ⟨x_41, rfl, h⟩
  · cases h
    exact go_callV (x := 167) (mi := 147) (n := 1) (ci := 12) (as := [v3]) (rest := []) (by decide +kernel) (by decide +kernel) rfl rfl (q_sum8 _ (Nat.le_of_ble_eq_true rfl)) R_30 f0 (fx_k (c := 12) R_30 (by decide +kernel)) (om_X11_checkValue (Nat.le_trans (by decide) hd) R_30 f0 f3 hc_40) (fun _ _ qq => kx_lx qq) (fun _ _ qq => by
      obtain ⟨rfl, Rq, Eq⟩ := kx_e qq
      exact Or.inl ⟨rfl, hQ (Ext.tr E_39 Eq) _ _ Rq rfl⟩)
  refine go_callV (x := 167) (mi := 147) (n := 1) (ci := 12) (as := [v3]) (rest := []) (by decide +kernel) (by decide +kernel) rfl rfl (q_sum8 _ (Nat.le_of_ble_eq_true rfl)) R_30 f0 (fx_k (c := 12) R_30 (by decide +kernel)) (om_X11_checkValue (Nat.le_trans (by decide) hd) R_30 f0 f3 hc_40) (fun _ S_45 q_48 => ?_) (fun _ _ qq => kr_x (kx_l qq))
  have q_48 := kx_l q_48
  refine kr_v q_48 fun R_46 E_47 => ?_
  have E_55 := Ext.tr E_39 E_47
  refine go_aload (n := 4) (by decide +kernel) l_18 f_5 ?_
  obtain ⟨g_58, h⟩ := gd_s h
  obtain ⟨x_60, e_61, h⟩ := lx_s h
  refine go_getf (x := 124) (ci := 11) (kf := 0) (fin := 2) (t := 2) (by decide +kernel) (by decide +kernel) (by decide +kernel) R_46 f_5 g_58 fun v_56 f_57 => ?_
  have f_59 := q_is_eq f_57 e_61
  obtain ⟨g_62, h⟩ := gd_s h
  obtain ⟨x_64, hc_63, h⟩ := bp_s h
  refine go_callV (x := 170) (mi := 327) (n := 0) (ci := 0) (as := []) (rest := []) (by decide +kernel) (by decide +kernel) rfl rfl (q_sum8 _ (Nat.le_of_ble_eq_true rfl)) R_46 f_59 g_62 (om_Jx4a65c_isEmpty_aae02 (Nat.le_trans (by decide) hd) R_46 g_62 f_59 hc_63) (fun _ S_68 q_71 => ?_) (fun _ _ qq => kr_x qq)
  refine kr_z (by decide) q_71 fun v_66 f_67 R_69 E_70 => ?_
  refine go_if (c := .ne) (o := 15) (t := 40) (P := ¬ (x_64 = 0)) (by decide +kernel) (by decide +kernel) f_67 (Iff.rfl) (fun hp_72 => ?_) (fun hp_72 => ?_)
  · have h := it_f hp_72 h
    cases h
    exact go_thr (x := 111) (e := 2) (ic := 115) (b := 0) (by decide +kernel) (by decide +kernel) (by decide +kernel) R_69 rfl fun Sq Rq Eq => hQ (Ext.tr E_55 Eq) _ _ Rq rfl
  · have h := it_n hp_72 h
    refine go_aload_n (n := 0) (by decide +kernel) l_20 f0 ?_
    refine go_getf (x := 24) (ci := 12) (kf := 2) (fin := 1) (t := 2) (by decide +kernel) (by decide +kernel) (by decide +kernel) R_69 f0 (fx_k (c := 12) R_69 (by decide +kernel)) fun v_73 f_74 => ?_
    have f_75 := q_is_eq (b := 7) f_74 (fx_v R_69 (by decide +kernel)).symm
    obtain ⟨x_77, hc_76, h⟩ := bp_s h
    refine go_callV (x := 127) (mi := 326) (n := 0) (ci := 0) (as := []) (rest := []) (by decide +kernel) (by decide +kernel) rfl rfl (q_sum8 _ (Nat.le_of_ble_eq_true rfl)) R_69 f_75 (fx_k (c := 0) R_69 (by decide +kernel)) (om_Jx4a65c_size_8abf5 (Nat.le_trans (by decide) hd) R_69 (fx_k (c := 0) R_69 (by decide +kernel)) f_75 hc_76) (fun _ S_81 q_84 => ?_) (fun _ _ qq => kr_x qq)
    refine kr_z (by decide) q_84 fun v_79 f_80 R_82 E_83 => ?_
    refine go_bipush (n := 30) (z := 30) (by decide +kernel) (by decide) fun v_85 f_86 => ?_
    refine go_icmp (c := .lt) (o := 13) (t := 50) (P := x_77 < 30) (by decide +kernel) (by decide +kernel) f_80 f_86 (Iff.rfl) (fun hp_87 => ?_) (fun hp_87 => ?_)
    · have h := it_t hp_87 h
      refine go_aload_n (n := 0) (by decide +kernel) l_20 f0 ?_
      refine go_iload_n (n := 1) (by decide +kernel) l_21 f1 ?_
      refine go_iload_n (n := 2) (by decide +kernel) l_22 f2 ?_
      refine go_iload_n (n := 3) (by decide +kernel) l_23 f3 ?_
      refine go_iconst (n := (-1)) (z := (-1)) (by decide +kernel) (by decide) fun v_88 f_89 => ?_
      refine go_iconst (n := 0) (z := 0) (by decide +kernel) (by decide) fun v_90 f_91 => ?_
      obtain ⟨x_93, m_94, hc_92, h⟩ := bd_s h
      refine go_callV (x := 176) (mi := 151) (n := 5) (ci := 12) (as := [v1, v2, v3, v_88, v_90]) (rest := []) (by decide +kernel) (by decide +kernel) rfl rfl (q_sum8 _ (Nat.le_of_ble_eq_true rfl)) R_82 f0 (fx_k (c := 12) R_82 (by decide +kernel)) (om_X11_startRun (Nat.le_trans (by decide) hd) R_82 f0 f1 f2 f3 f_89 f_91 hc_92) (fun _ S_97 q_100 => ?_) (fun _ _ qq => kr_x qq)
      refine kr_z (by decide) q_100 fun v_95 f_96 R_98 E_99 => ?_
      have E_103 := Ext.tr E_55 E_99
      obtain ⟨g_106, h⟩ := gd_s h
      obtain ⟨x_108, e_109, h⟩ := lx_s h
      refine go_getf (x := 180) (ci := 7) (kf := 0) (fin := 2) (t := 0) (by decide +kernel) (by decide +kernel) (by decide +kernel) R_98 f_96 g_106 fun v_104 f_105 => ?_
      have f_107 := q_is_eq f_105 e_109
      cases h
      exact go_iret (by decide +kernel) rfl (Or.inl rfl) f_107 (hQ E_103 _ _ R_98 (q_out_v (by decide) f_107))
    · have h := it_f hp_87 h
      cases h
      exact go_thr (x := 111) (e := 2) (ic := 115) (b := 0) (by decide +kernel) (by decide +kernel) (by decide +kernel) R_82 rfl fun Sq Rq Eq => hQ (Ext.tr E_55 Eq) _ _ Rq rfl
noncomputable def fm_X11_runAt (p1 : Int) (m0 : MM) : Option ((Int ⊕ Nat) × MM) := if p1 < 0 then
some (.inr 0, mthr m0)
else
bp (fm_Jx4a65c_size_8abf5 7 m0) fun x_6 =>
if p1 < x_6 then
bp (fm_Jx4a65c_get_915e3 7 p1 m0) fun x_19 =>
gd (okc m0 x_19 7) <| some (.inl x_19, m0)
else
some (.inr 0, mthr m0)
set_option maxHeartbeats 4000000 in
theorem om_X11_runAt {xs : List Int32} {d : Nat} {S : QS} {m0 : MM} {p1 : Int} {v0 : Value} {v1 : Value} {rr : Int ⊕ Nat} {rm : MM}
  (hd : 4 ≤ d) (R : Rp S m0) (f0 : q_is 2 v0 4) (f1 : q_is 0 v1 p1)
  (h : fm_X11_runAt p1 m0 = some (rr, rm)) : Mt xs d 139 [v0, v1] S (Cx 2 m0 rm rr) := by
  obtain ⟨d, rfl⟩ : ∃ e, d = e + 1 := ⟨d - 1, by omega⟩
  have hd : 3 ≤ d := Nat.le_of_succ_le_succ hd
  refine Mt.of (M := qM_X11_runAt) rfl (by rw [sl_1 (q_is_cat f0 (Or.inr rfl)), sl_1 (q_is_cat f1 (Or.inl rfl)), sl_0]; decide) ?_
  rw [la_1 (q_is_cat f0 (Or.inr rfl)), la_1 (q_is_cat f1 (Or.inl rfl)), la_0]
  obtain ⟨L, hL⟩ : ∃ L : QL, L = [(0, v0), (0 + 1, v1)] := ⟨_, rfl⟩
  rw [← hL]
  have l0 : q_lo L 0 = some v0 := by rw [hL]; rfl
  have l1 : q_lo L 1 = some v1 := by rw [hL]; rfl
  have hQ : Ext m0 rm → ∀ o S1, Rp S1 rm → q_oux 2 o rr → (Cx 2 m0 rm rr) o S1 := fun a o S1 b e => ⟨b, a, e⟩
  unfold fm_X11_runAt at h
  refine go_iload_n (n := 1) (by decide +kernel) l1 f1 ?_
  refine go_if (c := .lt) (o := 14) (t := 15) (P := p1 < 0) (by decide +kernel) (by decide +kernel) f1 (Iff.rfl) (fun hp_1 => ?_) (fun hp_1 => ?_)
  · have h := it_t hp_1 h
    cases h
    exact go_thr (x := 255) (e := 0) (ic := 259) (b := 0) (by decide +kernel) (by decide +kernel) (by decide +kernel) R rfl fun Sq Rq Eq => hQ Eq _ _ Rq rfl
  · have h := it_f hp_1 h
    refine go_iload_n (n := 1) (by decide +kernel) l1 f1 ?_
    refine go_aload_n (n := 0) (by decide +kernel) l0 f0 ?_
    refine go_getf (x := 24) (ci := 12) (kf := 2) (fin := 1) (t := 2) (by decide +kernel) (by decide +kernel) (by decide +kernel) R f0 (fx_k (c := 12) R (by decide +kernel)) fun v_2 f_3 => ?_
    have f_4 := q_is_eq (b := 7) f_3 (fx_v R (by decide +kernel)).symm
    obtain ⟨x_6, hc_5, h⟩ := bp_s h
    refine go_callV (x := 127) (mi := 326) (n := 0) (ci := 0) (as := []) (rest := [v1]) (by decide +kernel) (by decide +kernel) rfl rfl (q_sum8 _ (Nat.le_of_ble_eq_true rfl)) R f_4 (fx_k (c := 0) R (by decide +kernel)) (om_Jx4a65c_size_8abf5 (Nat.le_trans (by decide) hd) R (fx_k (c := 0) R (by decide +kernel)) f_4 hc_5) (fun _ S_10 q_13 => ?_) (fun _ _ qq => kr_x qq)
    refine kr_z (by decide) q_13 fun v_8 f_9 R_11 E_12 => ?_
    refine go_icmp (c := .lt) (o := 14) (t := 26) (P := p1 < x_6) (by decide +kernel) (by decide +kernel) f1 f_9 (Iff.rfl) (fun hp_14 => ?_) (fun hp_14 => ?_)
    · have h := it_t hp_14 h
      refine go_aload_n (n := 0) (by decide +kernel) l0 f0 ?_
      refine go_getf (x := 24) (ci := 12) (kf := 2) (fin := 1) (t := 2) (by decide +kernel) (by decide +kernel) (by decide +kernel) R_11 f0 (fx_k (c := 12) R_11 (by decide +kernel)) fun v_15 f_16 => ?_
      have f_17 := q_is_eq (b := 7) f_16 (fx_v R_11 (by decide +kernel)).symm
      refine go_iload_n (n := 1) (by decide +kernel) l1 f1 ?_
      obtain ⟨x_19, hc_18, h⟩ := bp_s h
      refine go_callV (x := 305) (mi := 329) (n := 1) (ci := 0) (as := [v1]) (rest := []) (by decide +kernel) (by decide +kernel) rfl rfl (q_sum8 _ (Nat.le_of_ble_eq_true rfl)) R_11 f_17 (fx_k (c := 0) R_11 (by decide +kernel)) (om_Jx4a65c_get_915e3 (Nat.le_trans (by decide) hd) R_11 (fx_k (c := 0) R_11 (by decide +kernel)) f_17 f1 hc_18) (fun _ S_23 q_26 => ?_) (fun _ _ qq => kr_x qq)
      refine kr_z (by decide) q_26 fun v_21 f_22 R_24 E_25 => ?_
      obtain ⟨g_27, h⟩ := gd_s h
      refine go_cast (x := 181) (kd := 7) (a := 0) (b := 0) (by decide +kernel) (by decide +kernel) R_24 f_22 g_27 ?_
      cases h
      exact go_aret (by decide +kernel) rfl rfl f_22 (hQ (Ext.rf _) _ _ R_24 (q_out_v (by decide) f_22))
    · have h := it_f hp_14 h
      cases h
      exact go_thr (x := 255) (e := 0) (ic := 259) (b := 0) (by decide +kernel) (by decide +kernel) (by decide +kernel) R_11 rfl fun Sq Rq Eq => hQ Eq _ _ Rq rfl
noncomputable def fm_X11_checkName (p1 : Int) (m0 : MM) : Option ((Int ⊕ Nat) × MM) := if p1 < 0 then
some (.inr 0, mthr m0)
else
if p1 < 4 then
some (.inl 0, m0)
else
some (.inr 0, mthr m0)
set_option maxHeartbeats 4000000 in
theorem om_X11_checkName {xs : List Int32} {d : Nat} {S : QS} {m0 : MM} {p1 : Int} {v0 : Value} {v1 : Value} {rr : Int ⊕ Nat} {rm : MM}
  (hd : 1 ≤ d) (R : Rp S m0) (f0 : q_is 2 v0 4) (f1 : q_is 0 v1 p1)
  (h : fm_X11_checkName p1 m0 = some (rr, rm)) : Mt xs d 145 [v0, v1] S (Cx 9 m0 rm rr) := by
  obtain ⟨d, rfl⟩ : ∃ e, d = e + 1 := ⟨d - 1, by omega⟩
  have hd : 0 ≤ d := Nat.le_of_succ_le_succ hd
  refine Mt.of (M := qM_X11_checkName) rfl (by rw [sl_1 (q_is_cat f0 (Or.inr rfl)), sl_1 (q_is_cat f1 (Or.inl rfl)), sl_0]; decide) ?_
  rw [la_1 (q_is_cat f0 (Or.inr rfl)), la_1 (q_is_cat f1 (Or.inl rfl)), la_0]
  obtain ⟨L, hL⟩ : ∃ L : QL, L = [(0, v0), (0 + 1, v1)] := ⟨_, rfl⟩
  rw [← hL]
  have l0 : q_lo L 0 = some v0 := by rw [hL]; rfl
  have l1 : q_lo L 1 = some v1 := by rw [hL]; rfl
  have hQ : Ext m0 rm → ∀ o S1, Rp S1 rm → q_oux 9 o rr → (Cx 9 m0 rm rr) o S1 := fun a o S1 b e => ⟨b, a, e⟩
  unfold fm_X11_checkName at h
  refine go_iload_n (n := 1) (by decide +kernel) l1 f1 ?_
  refine go_if (c := .lt) (o := 8) (t := 9) (P := p1 < 0) (by decide +kernel) (by decide +kernel) f1 (Iff.rfl) (fun hp_1 => ?_) (fun hp_1 => ?_)
  · have h := it_t hp_1 h
    cases h
    exact go_thr (x := 255) (e := 0) (ic := 259) (b := 0) (by decide +kernel) (by decide +kernel) (by decide +kernel) R rfl fun Sq Rq Eq => hQ Eq _ _ Rq rfl
  · have h := it_f hp_1 h
    refine go_iload_n (n := 1) (by decide +kernel) l1 f1 ?_
    refine go_iconst (n := 4) (z := 4) (by decide +kernel) (by decide) fun v_2 f_3 => ?_
    refine go_icmp (c := .lt) (o := 14) (t := 20) (P := p1 < 4) (by decide +kernel) (by decide +kernel) f1 f_3 (Iff.rfl) (fun hp_4 => ?_) (fun hp_4 => ?_)
    · have h := it_t hp_4 h
      cases h
      exact go_vret (by decide +kernel) rfl (hQ (Ext.rf _) _ _ R q_out_n)
    · have h := it_f hp_4 h
      cases h
      exact go_thr (x := 255) (e := 0) (ic := 259) (b := 0) (by decide +kernel) (by decide +kernel) (by decide +kernel) R rfl fun Sq Rq Eq => hQ Eq _ _ Rq rfl
noncomputable def fm_X11_signal (p1 p2 p3 : Int) (m0 : MM) : Option ((Int ⊕ Nat) × MM) := bx (fm_X11_runAt p1 m0) (fun q_10 m_3 => some (.inr q_10, m_3)) fun x_2 m_3 =>
bx (fm_X11_checkName p2 m_3) (fun q_32 m_25 => some (.inr q_32, m_25)) fun x_24 m_25 =>
bx (fm_X11_checkValue p3 m_25) (fun q_48 m_41 => some (.inr q_48, m_41)) fun x_40 m_41 =>
gd (okc m_41 x_2 7) <| bp (fm_X6_isAlive x_2 m_41) fun x_57 =>
if x_57 = 0 then
some (.inr 2, mthr m_41)
else
lx (m_41 x_2 16) fun x_69 =>
gd (okc m_41 x_69 3) <| lx (m_41 x_69 1) fun x_75 =>
if x_75 < 100 then
bd (fm_X11_arrive x_2 4 p2 p3 m_41) fun x_83 m_84 =>
lx (m_84 x_2 16) fun x_98 =>
gd (okc m_84 x_98 3) <| lx (m_84 x_98 1) fun x_104 =>
some (.inl (w32 (x_104 - 1)), m_84)
else
some (.inr 2, mthr m_41)
set_option maxHeartbeats 4000000 in
theorem om_X11_signal {xs : List Int32} {d : Nat} {S : QS} {m0 : MM} {p1 p2 p3 : Int} {v0 : Value} {v1 : Value} {v2 : Value} {v3 : Value} {rr : Int ⊕ Nat} {rm : MM}
  (hd : 5 ≤ d) (R : Rp S m0) (f0 : q_is 2 v0 4) (f1 : q_is 0 v1 p1) (f2 : q_is 0 v2 p2) (f3 : q_is 0 v3 p3)
  (h : fm_X11_signal p1 p2 p3 m0 = some (rr, rm)) : Mt xs d 105 [v0, v1, v2, v3] S (Cx 0 m0 rm rr) := by
  obtain ⟨d, rfl⟩ : ∃ e, d = e + 1 := ⟨d - 1, by omega⟩
  have hd : 4 ≤ d := Nat.le_of_succ_le_succ hd
  refine Mt.of (M := qM_X11_signal) rfl (by rw [sl_1 (q_is_cat f0 (Or.inr rfl)), sl_1 (q_is_cat f1 (Or.inl rfl)), sl_1 (q_is_cat f2 (Or.inl rfl)), sl_1 (q_is_cat f3 (Or.inl rfl)), sl_0]; decide) ?_
  rw [la_1 (q_is_cat f0 (Or.inr rfl)), la_1 (q_is_cat f1 (Or.inl rfl)), la_1 (q_is_cat f2 (Or.inl rfl)), la_1 (q_is_cat f3 (Or.inl rfl)), la_0]
  obtain ⟨L, hL⟩ : ∃ L : QL, L = [(0, v0), (0 + 1, v1), (0 + 1 + 1, v2), (0 + 1 + 1 + 1, v3)] := ⟨_, rfl⟩
  rw [← hL]
  have l0 : q_lo L 0 = some v0 := by rw [hL]; rfl
  have l1 : q_lo L 1 = some v1 := by rw [hL]; rfl
  have l2 : q_lo L 2 = some v2 := by rw [hL]; rfl
  have l3 : q_lo L 3 = some v3 := by rw [hL]; rfl
  have hQ : Ext m0 rm → ∀ o S1, Rp S1 rm → q_oux 0 o rr → (Cx 0 m0 rm rr) o S1 := fun a o S1 b e => ⟨b, a, e⟩
  unfold fm_X11_signal at h
  refine go_aload_n (n := 0) (by decide +kernel) l0 f0 ?_
  refine go_iload_n (n := 1) (by decide +kernel) l1 f1 ?_
  obtain ⟨rr5, m_3, hc_1, h⟩ := bx_s h
  rcases h with ⟨q_10, rfl, h⟩ | ⟨x_2, rfl, h⟩
  · cases h
    exact go_callV (x := 185) (mi := 139) (n := 1) (ci := 12) (as := [v1]) (rest := []) (by decide +kernel) (by decide +kernel) rfl rfl (q_sum8 _ (Nat.le_of_ble_eq_true rfl)) R f0 (fx_k (c := 12) R (by decide +kernel)) (om_X11_runAt (Nat.le_trans (by decide) hd) R f0 f1 hc_1) (fun _ _ qq => kx_lx qq) (fun _ _ qq => by
      obtain ⟨rfl, Rq, Eq⟩ := kx_e qq
      exact Or.inl ⟨rfl, hQ Eq _ _ Rq rfl⟩)
  refine go_callV (x := 185) (mi := 139) (n := 1) (ci := 12) (as := [v1]) (rest := []) (by decide +kernel) (by decide +kernel) rfl rfl (q_sum8 _ (Nat.le_of_ble_eq_true rfl)) R f0 (fx_k (c := 12) R (by decide +kernel)) (om_X11_runAt (Nat.le_trans (by decide) hd) R f0 f1 hc_1) (fun _ S_6 q_9 => ?_) (fun _ _ qq => kr_x (kx_l qq))
  have q_9 := kx_l q_9
  refine kr_z (by decide) q_9 fun v_4 f_5 R_7 E_8 => ?_
  have E_16 := E_8
  refine go_astore (n := 4) (by decide +kernel) (by decide +kernel) f_5 fun L_17 l_18 kp_19 => ?_
  have l_20 := kp_19 0 _ l0 (by decide) (Or.inl (by decide))
  have l_21 := kp_19 2 _ l2 (by decide) (Or.inl (by decide))
  have l_22 := kp_19 3 _ l3 (by decide) (Or.inr (q_is_cat f3 (Or.inl rfl)))
  refine go_aload_n (n := 0) (by decide +kernel) l_20 f0 ?_
  refine go_iload_n (n := 2) (by decide +kernel) l_21 f2 ?_
  obtain ⟨rr5, m_25, hc_23, h⟩ := bx_s h
  rcases h with ⟨q_32, rfl, h⟩ | ⟨x_24, rfl, h⟩
  · cases h
    exact go_callV (x := 189) (mi := 145) (n := 1) (ci := 12) (as := [v2]) (rest := []) (by decide +kernel) (by decide +kernel) rfl rfl (q_sum8 _ (Nat.le_of_ble_eq_true rfl)) R_7 f0 (fx_k (c := 12) R_7 (by decide +kernel)) (om_X11_checkName (Nat.le_trans (by decide) hd) R_7 f0 f2 hc_23) (fun _ _ qq => kx_lx qq) (fun _ _ qq => by
      obtain ⟨rfl, Rq, Eq⟩ := kx_e qq
      exact Or.inl ⟨rfl, hQ (Ext.tr E_16 Eq) _ _ Rq rfl⟩)
  refine go_callV (x := 189) (mi := 145) (n := 1) (ci := 12) (as := [v2]) (rest := []) (by decide +kernel) (by decide +kernel) rfl rfl (q_sum8 _ (Nat.le_of_ble_eq_true rfl)) R_7 f0 (fx_k (c := 12) R_7 (by decide +kernel)) (om_X11_checkName (Nat.le_trans (by decide) hd) R_7 f0 f2 hc_23) (fun _ S_28 q_31 => ?_) (fun _ _ qq => kr_x (kx_l qq))
  have q_31 := kx_l q_31
  refine kr_v q_31 fun R_29 E_30 => ?_
  have E_38 := Ext.tr E_16 E_30
  refine go_aload_n (n := 0) (by decide +kernel) l_20 f0 ?_
  refine go_iload_n (n := 3) (by decide +kernel) l_22 f3 ?_
  obtain ⟨rr5, m_41, hc_39, h⟩ := bx_s h
  rcases h with ⟨q_48, rfl, h⟩ | ⟨x_40, rfl, h⟩
  · cases h
    exact go_callV (x := 167) (mi := 147) (n := 1) (ci := 12) (as := [v3]) (rest := []) (by decide +kernel) (by decide +kernel) rfl rfl (q_sum8 _ (Nat.le_of_ble_eq_true rfl)) R_29 f0 (fx_k (c := 12) R_29 (by decide +kernel)) (om_X11_checkValue (Nat.le_trans (by decide) hd) R_29 f0 f3 hc_39) (fun _ _ qq => kx_lx qq) (fun _ _ qq => by
      obtain ⟨rfl, Rq, Eq⟩ := kx_e qq
      exact Or.inl ⟨rfl, hQ (Ext.tr E_38 Eq) _ _ Rq rfl⟩)
  refine go_callV (x := 167) (mi := 147) (n := 1) (ci := 12) (as := [v3]) (rest := []) (by decide +kernel) (by decide +kernel) rfl rfl (q_sum8 _ (Nat.le_of_ble_eq_true rfl)) R_29 f0 (fx_k (c := 12) R_29 (by decide +kernel)) (om_X11_checkValue (Nat.le_trans (by decide) hd) R_29 f0 f3 hc_39) (fun _ S_44 q_47 => ?_) (fun _ _ qq => kr_x (kx_l qq))
  have q_47 := kx_l q_47
  refine kr_v q_47 fun R_45 E_46 => ?_
  have E_54 := Ext.tr E_38 E_46
  refine go_aload (n := 4) (by decide +kernel) l_18 f_5 ?_
  obtain ⟨g_55, h⟩ := gd_s h
  obtain ⟨x_57, hc_56, h⟩ := bp_s h
  refine go_callV (x := 192) (mi := 66) (n := 0) (ci := 7) (as := []) (rest := []) (by decide +kernel) (by decide +kernel) rfl rfl (q_sum8 _ (Nat.le_of_ble_eq_true rfl)) R_45 f_5 g_55 (om_X6_isAlive (Nat.le_trans (by decide) hd) R_45 g_55 f_5 hc_56) (fun _ S_61 q_64 => ?_) (fun _ _ qq => kr_x qq)
  refine kr_z (by decide) q_64 fun v_59 f_60 R_62 E_63 => ?_
  refine go_if (c := .eq) (o := 16) (t := 38) (P := x_57 = 0) (by decide +kernel) (by decide +kernel) f_60 (Iff.rfl) (fun hp_65 => ?_) (fun hp_65 => ?_)
  · have h := it_t hp_65 h
    cases h
    exact go_thr (x := 111) (e := 2) (ic := 115) (b := 0) (by decide +kernel) (by decide +kernel) (by decide +kernel) R_62 rfl fun Sq Rq Eq => hQ (Ext.tr E_54 Eq) _ _ Rq rfl
  · have h := it_f hp_65 h
    refine go_aload (n := 4) (by decide +kernel) l_18 f_5 ?_
    obtain ⟨x_69, e_70, h⟩ := lx_s h
    refine go_getf (x := 195) (ci := 7) (kf := 16) (fin := 2) (t := 2) (by decide +kernel) (by decide +kernel) (by decide +kernel) R_62 f_5 g_55 fun v_66 f_67 => ?_
    have f_68 := q_is_eq f_67 e_70
    obtain ⟨g_73, h⟩ := gd_s h
    obtain ⟨x_75, e_76, h⟩ := lx_s h
    refine go_getf (x := 199) (ci := 3) (kf := 1) (fin := 0) (t := 0) (by decide +kernel) (by decide +kernel) (by decide +kernel) R_62 f_68 g_73 fun v_71 f_72 => ?_
    have f_74 := q_is_eq f_72 e_76
    refine go_bipush (n := 100) (z := 100) (by decide +kernel) (by decide) fun v_77 f_78 => ?_
    refine go_icmp (c := .lt) (o := 13) (t := 48) (P := x_75 < 100) (by decide +kernel) (by decide +kernel) f_74 f_78 (Iff.rfl) (fun hp_79 => ?_) (fun hp_79 => ?_)
    · have h := it_t hp_79 h
      refine go_aload_n (n := 0) (by decide +kernel) l_20 f0 ?_
      refine go_aload (n := 4) (by decide +kernel) l_18 f_5 ?_
      refine go_iconst (n := 4) (z := 4) (by decide +kernel) (by decide) fun v_80 f_81 => ?_
      refine go_iload_n (n := 2) (by decide +kernel) l_21 f2 ?_
      refine go_iload_n (n := 3) (by decide +kernel) l_22 f3 ?_
      obtain ⟨x_83, m_84, hc_82, h⟩ := bd_s h
      refine go_callV (x := 204) (mi := 152) (n := 4) (ci := 12) (as := [v_4, v_80, v2, v3]) (rest := []) (by decide +kernel) (by decide +kernel) rfl rfl (q_sum8 _ (Nat.le_of_ble_eq_true rfl)) R_62 f0 (fx_k (c := 12) R_62 (by decide +kernel)) (om_X11_arrive (Nat.le_trans (by decide) hd) R_62 f0 f_5 f_81 f2 f3 hc_82) (fun _ S_87 q_90 => ?_) (fun _ _ qq => kr_x qq)
      refine kr_v q_90 fun R_88 E_89 => ?_
      have E_93 := Ext.tr E_54 E_89
      refine go_aload (n := 4) (by decide +kernel) l_18 f_5 ?_
      have g_96 := Ext.ok E_89 g_55
      obtain ⟨x_98, e_99, h⟩ := lx_s h
      refine go_getf (x := 195) (ci := 7) (kf := 16) (fin := 2) (t := 2) (by decide +kernel) (by decide +kernel) (by decide +kernel) R_88 f_5 g_96 fun v_94 f_95 => ?_
      have f_97 := q_is_eq f_95 e_99
      obtain ⟨g_102, h⟩ := gd_s h
      obtain ⟨x_104, e_105, h⟩ := lx_s h
      refine go_getf (x := 199) (ci := 3) (kf := 1) (fin := 0) (t := 0) (by decide +kernel) (by decide +kernel) (by decide +kernel) R_88 f_97 g_102 fun v_100 f_101 => ?_
      have f_103 := q_is_eq f_101 e_105
      refine go_iconst (n := 1) (z := 1) (by decide +kernel) (by decide) fun v_106 f_107 => ?_
      refine go_isub (by decide +kernel) f_103 f_107 fun v_108 f_109 => ?_
      cases h
      exact go_iret (by decide +kernel) rfl (Or.inl rfl) f_109 (hQ E_93 _ _ R_88 (q_out_v (by decide) f_109))
    · have h := it_f hp_79 h
      cases h
      exact go_thr (x := 111) (e := 2) (ic := 115) (b := 0) (by decide +kernel) (by decide +kernel) (by decide +kernel) R_62 rfl fun Sq Rq Eq => hQ (Ext.tr E_54 Eq) _ _ Rq rfl
noncomputable def fm_X11_typeOf (p1 : Int) (m0 : MM) : Option Int := gd (okc m0 p1 7) <| lx (m0 p1 1) fun x_8 =>
bp (fm_J9_floorMod_7cf53 x_8 4 m0) fun x_17 =>
gd (0 ≤ x_17 ∧ x_17 < 4) <| lx (m0 5 x_17) fun x_29 =>
some x_29
set_option maxHeartbeats 4000000 in
theorem om_X11_typeOf {xs : List Int32} {d : Nat} {S : QS} {m0 : MM} {p1 : Int} {v0 : Value} {v1 : Value} {rz : Int}
  (hd : 2 ≤ d) (R : Rp S m0) (f0 : q_is 2 v0 4) (f1 : q_is 2 v1 p1)
  (h : fm_X11_typeOf p1 m0 = some rz) : Mt xs d 148 [v0, v1] S (Cr 2 m0 m0 rz) := by
  obtain ⟨d, rfl⟩ : ∃ e, d = e + 1 := ⟨d - 1, by omega⟩
  have hd : 1 ≤ d := Nat.le_of_succ_le_succ hd
  refine Mt.of (M := qM_X11_typeOf) rfl (by rw [sl_1 (q_is_cat f0 (Or.inr rfl)), sl_1 (q_is_cat f1 (Or.inr rfl)), sl_0]; decide) ?_
  rw [la_1 (q_is_cat f0 (Or.inr rfl)), la_1 (q_is_cat f1 (Or.inr rfl)), la_0]
  obtain ⟨L, hL⟩ : ∃ L : QL, L = [(0, v0), (0 + 1, v1)] := ⟨_, rfl⟩
  rw [← hL]
  have l0 : q_lo L 0 = some v0 := by rw [hL]; rfl
  have l1 : q_lo L 1 = some v1 := by rw [hL]; rfl
  have hQ : ∀ o S1, Rp S1 m0 → q_out 2 o rz → (Cr 2 m0 m0 rz) o S1 := fun o S1 a b => ⟨a, Ext.rf _, b⟩
  unfold fm_X11_typeOf at h
  refine go_aload_n (n := 0) (by decide +kernel) l0 f0 ?_
  refine go_getf (x := 11) (ci := 12) (kf := 0) (fin := 1) (t := 2) (by decide +kernel) (by decide +kernel) (by decide +kernel) R f0 (fx_k (c := 12) R (by decide +kernel)) fun v_1 f_2 => ?_
  have f_3 := q_is_eq (b := 5) f_2 (fx_v R (by decide +kernel)).symm
  refine go_aload_n (n := 1) (by decide +kernel) l1 f1 ?_
  obtain ⟨g_6, h⟩ := gd_s h
  obtain ⟨x_8, e_9, h⟩ := lx_s h
  refine go_getf (x := 404) (ci := 7) (kf := 1) (fin := 2) (t := 0) (by decide +kernel) (by decide +kernel) (by decide +kernel) R f1 g_6 fun v_4 f_5 => ?_
  have f_7 := q_is_eq f_5 e_9
  refine go_aload_n (n := 0) (by decide +kernel) l0 f0 ?_
  refine go_getf (x := 11) (ci := 12) (kf := 0) (fin := 1) (t := 2) (by decide +kernel) (by decide +kernel) (by decide +kernel) R f0 (fx_k (c := 12) R (by decide +kernel)) fun v_10 f_11 => ?_
  have f_12 := q_is_eq (b := 5) f_11 (fx_v R (by decide +kernel)).symm
  refine go_alen (by decide +kernel) R f_12 (okl_of (fx_k (c := 106) R (by decide +kernel)) (by decide)) fun v_13 f_14 => ?_
  have f_15 := q_is_eq (b := 4) f_14 (by rw [fx_l R (ln := 4) (by decide +kernel)]; decide)
  obtain ⟨x_17, hc_16, h⟩ := bp_s h
  refine go_callS (x := 496) (mi := 318) (n := 2) (b := 0) (as := [v_4, v_13]) (rest := [v_1]) (by decide +kernel) (by decide +kernel) rfl rfl (q_sum8 _ (Nat.le_of_ble_eq_true rfl)) (om_J9_floorMod_7cf53 (Nat.le_trans (by decide) hd) R f_7 f_15 hc_16) (fun _ S_21 q_24 => ?_) (fun _ _ qq => kr_x qq)
  refine kr_z (by decide) q_24 fun v_19 f_20 R_22 E_23 => ?_
  obtain ⟨g_27, h⟩ := gd_s h
  obtain ⟨x_29, e_30, h⟩ := lx_s h
  refine go_aald (kd := 106) (by decide +kernel) (by decide) R_22 f_3 f_20 (fx_k (c := 106) R_22 (by decide +kernel)) (fx_x (a := 5) (ln := 4) R_22 (by decide +kernel) g_27) fun v_25 f_26 => ?_
  have f_28 := q_is_eq f_26 e_30
  cases h
  exact go_aret (by decide +kernel) rfl rfl f_28 (hQ _ _ R_22 (q_out_v (by decide) f_28))
noncomputable def fm_X11_codeOf (p1 p2 : Int) (m0 : MM) : Option Int := bp (fm_X11_typeOf p1 m0) fun x_2 =>
gd (okc m0 x_2 11) <| bp (fm_X10_code x_2 p2 m0) fun x_12 =>
some x_12
set_option maxHeartbeats 4000000 in
theorem om_X11_codeOf {xs : List Int32} {d : Nat} {S : QS} {m0 : MM} {p1 p2 : Int} {v0 : Value} {v1 : Value} {v2 : Value} {rz : Int}
  (hd : 5 ≤ d) (R : Rp S m0) (f0 : q_is 2 v0 4) (f1 : q_is 2 v1 p1) (f2 : q_is 0 v2 p2)
  (h : fm_X11_codeOf p1 p2 m0 = some rz) : Mt xs d 149 [v0, v1, v2] S (Cr 2 m0 m0 rz) := by
  obtain ⟨d, rfl⟩ : ∃ e, d = e + 1 := ⟨d - 1, by omega⟩
  have hd : 4 ≤ d := Nat.le_of_succ_le_succ hd
  refine Mt.of (M := qM_X11_codeOf) rfl (by rw [sl_1 (q_is_cat f0 (Or.inr rfl)), sl_1 (q_is_cat f1 (Or.inr rfl)), sl_1 (q_is_cat f2 (Or.inl rfl)), sl_0]; decide) ?_
  rw [la_1 (q_is_cat f0 (Or.inr rfl)), la_1 (q_is_cat f1 (Or.inr rfl)), la_1 (q_is_cat f2 (Or.inl rfl)), la_0]
  obtain ⟨L, hL⟩ : ∃ L : QL, L = [(0, v0), (0 + 1, v1), (0 + 1 + 1, v2)] := ⟨_, rfl⟩
  rw [← hL]
  have l0 : q_lo L 0 = some v0 := by rw [hL]; rfl
  have l1 : q_lo L 1 = some v1 := by rw [hL]; rfl
  have l2 : q_lo L 2 = some v2 := by rw [hL]; rfl
  have hQ : ∀ o S1, Rp S1 m0 → q_out 2 o rz → (Cr 2 m0 m0 rz) o S1 := fun o S1 a b => ⟨a, Ext.rf _, b⟩
  unfold fm_X11_codeOf at h
  refine go_aload_n (n := 0) (by decide +kernel) l0 f0 ?_
  refine go_aload_n (n := 1) (by decide +kernel) l1 f1 ?_
  obtain ⟨x_2, hc_1, h⟩ := bp_s h
  refine go_callV (x := 526) (mi := 148) (n := 1) (ci := 12) (as := [v1]) (rest := []) (by decide +kernel) (by decide +kernel) rfl rfl (q_sum8 _ (Nat.le_of_ble_eq_true rfl)) R f0 (fx_k (c := 12) R (by decide +kernel)) (om_X11_typeOf (Nat.le_trans (by decide) hd) R f0 f1 hc_1) (fun _ S_6 q_9 => ?_) (fun _ _ qq => kr_x qq)
  refine kr_z (by decide) q_9 fun v_4 f_5 R_7 E_8 => ?_
  refine go_iload_n (n := 2) (by decide +kernel) l2 f2 ?_
  obtain ⟨g_10, h⟩ := gd_s h
  obtain ⟨x_12, hc_11, h⟩ := bp_s h
  refine go_callV (x := 530) (mi := 97) (n := 1) (ci := 11) (as := [v2]) (rest := []) (by decide +kernel) (by decide +kernel) rfl rfl (q_sum8 _ (Nat.le_of_ble_eq_true rfl)) R_7 f_5 g_10 (om_X10_code (Nat.le_trans (by decide) hd) R_7 g_10 f_5 f2 hc_11) (fun _ S_16 q_19 => ?_) (fun _ _ qq => kr_x qq)
  refine kr_z (by decide) q_19 fun v_14 f_15 R_17 E_18 => ?_
  cases h
  exact go_aret (by decide +kernel) rfl rfl f_15 (hQ _ _ R_17 (q_out_v (by decide) f_15))
noncomputable def fm_X11_update (p1 p2 p3 : Int) (m0 : MM) : Option ((Int ⊕ Nat) × MM) := bx (fm_X11_runAt p1 m0) (fun q_10 m_3 => some (.inr q_10, m_3)) fun x_2 m_3 =>
bx (fm_X11_checkName p2 m_3) (fun q_32 m_25 => some (.inr q_32, m_25)) fun x_24 m_25 =>
bx (fm_X11_checkValue p3 m_25) (fun q_48 m_41 => some (.inr q_48, m_41)) fun x_40 m_41 =>
gd (okc m_41 x_2 7) <| lx (m_41 x_2 6) fun x_59 =>
if x_59 = 0 then
lx (m_41 x_2 16) fun x_65 =>
gd (okc m_41 x_65 3) <| lx (m_41 x_65 1) fun x_71 =>
if x_71 < 100 then
lx (m_41 x_2 3) fun x_82 =>
bp (fm_X11_codeOf x_2 x_82 m_41) fun x_85 =>
lx (m_41 x_65 4) fun x_99 =>
bd (fm_X4_follow x_2 x_85 x_99 0 m_41) fun x_104 m_105 =>
if x_104 = 0 then
some (.inl 0, m_105)
else
lx (m_105 x_2 16) fun x_129 =>
gd (okc m_105 x_129 3) <| bp (fm_X2_hasNewSignal x_129 p2 m_105) fun x_133 =>
if x_133 = 0 then
bp (fm_X8_waitsForSignal p2 m_105) fun x_151 =>
if x_151 = 0 then
some (.inl 0, m_105)
else
bd (fm_X11_arrive x_2 4 p2 p3 m_105) fun x_163 m_164 =>
some (.inl 1, m_164)
else
some (.inl 0, m_105)
else
some (.inr 2, mthr m_41)
else
some (.inr 2, mthr m_41)
set_option maxHeartbeats 4000000 in
theorem om_X11_update {xs : List Int32} {d : Nat} {S : QS} {m0 : MM} {p1 p2 p3 : Int} {v0 : Value} {v1 : Value} {v2 : Value} {v3 : Value} {rr : Int ⊕ Nat} {rm : MM}
  (hd : 8 ≤ d) (R : Rp S m0) (f0 : q_is 2 v0 4) (f1 : q_is 0 v1 p1) (f2 : q_is 0 v2 p2) (f3 : q_is 0 v3 p3)
  (h : fm_X11_update p1 p2 p3 m0 = some (rr, rm)) : Mt xs d 106 [v0, v1, v2, v3] S (Cx 0 m0 rm rr) := by
  obtain ⟨d, rfl⟩ : ∃ e, d = e + 1 := ⟨d - 1, by omega⟩
  have hd : 7 ≤ d := Nat.le_of_succ_le_succ hd
  refine Mt.of (M := qM_X11_update) rfl (by rw [sl_1 (q_is_cat f0 (Or.inr rfl)), sl_1 (q_is_cat f1 (Or.inl rfl)), sl_1 (q_is_cat f2 (Or.inl rfl)), sl_1 (q_is_cat f3 (Or.inl rfl)), sl_0]; decide) ?_
  rw [la_1 (q_is_cat f0 (Or.inr rfl)), la_1 (q_is_cat f1 (Or.inl rfl)), la_1 (q_is_cat f2 (Or.inl rfl)), la_1 (q_is_cat f3 (Or.inl rfl)), la_0]
  obtain ⟨L, hL⟩ : ∃ L : QL, L = [(0, v0), (0 + 1, v1), (0 + 1 + 1, v2), (0 + 1 + 1 + 1, v3)] := ⟨_, rfl⟩
  rw [← hL]
  have l0 : q_lo L 0 = some v0 := by rw [hL]; rfl
  have l1 : q_lo L 1 = some v1 := by rw [hL]; rfl
  have l2 : q_lo L 2 = some v2 := by rw [hL]; rfl
  have l3 : q_lo L 3 = some v3 := by rw [hL]; rfl
  have hQ : Ext m0 rm → ∀ o S1, Rp S1 rm → q_oux 0 o rr → (Cx 0 m0 rm rr) o S1 := fun a o S1 b e => ⟨b, a, e⟩
  unfold fm_X11_update at h
  refine go_aload_n (n := 0) (by decide +kernel) l0 f0 ?_
  refine go_iload_n (n := 1) (by decide +kernel) l1 f1 ?_
  obtain ⟨rr5, m_3, hc_1, h⟩ := bx_s h
  rcases h with ⟨q_10, rfl, h⟩ | ⟨x_2, rfl, h⟩
  · cases h
    exact go_callV (x := 185) (mi := 139) (n := 1) (ci := 12) (as := [v1]) (rest := []) (by decide +kernel) (by decide +kernel) rfl rfl (q_sum8 _ (Nat.le_of_ble_eq_true rfl)) R f0 (fx_k (c := 12) R (by decide +kernel)) (om_X11_runAt (Nat.le_trans (by decide) hd) R f0 f1 hc_1) (fun _ _ qq => kx_lx qq) (fun _ _ qq => by
      obtain ⟨rfl, Rq, Eq⟩ := kx_e qq
      exact Or.inl ⟨rfl, hQ Eq _ _ Rq rfl⟩)
  refine go_callV (x := 185) (mi := 139) (n := 1) (ci := 12) (as := [v1]) (rest := []) (by decide +kernel) (by decide +kernel) rfl rfl (q_sum8 _ (Nat.le_of_ble_eq_true rfl)) R f0 (fx_k (c := 12) R (by decide +kernel)) (om_X11_runAt (Nat.le_trans (by decide) hd) R f0 f1 hc_1) (fun _ S_6 q_9 => ?_) (fun _ _ qq => kr_x (kx_l qq))
  have q_9 := kx_l q_9
  refine kr_z (by decide) q_9 fun v_4 f_5 R_7 E_8 => ?_
  have E_16 := E_8
  refine go_astore (n := 4) (by decide +kernel) (by decide +kernel) f_5 fun L_17 l_18 kp_19 => ?_
  have l_20 := kp_19 0 _ l0 (by decide) (Or.inl (by decide))
  have l_21 := kp_19 2 _ l2 (by decide) (Or.inl (by decide))
  have l_22 := kp_19 3 _ l3 (by decide) (Or.inr (q_is_cat f3 (Or.inl rfl)))
  refine go_aload_n (n := 0) (by decide +kernel) l_20 f0 ?_
  refine go_iload_n (n := 2) (by decide +kernel) l_21 f2 ?_
  obtain ⟨rr5, m_25, hc_23, h⟩ := bx_s h
  rcases h with ⟨q_32, rfl, h⟩ | ⟨x_24, rfl, h⟩
  · cases h
    exact go_callV (x := 189) (mi := 145) (n := 1) (ci := 12) (as := [v2]) (rest := []) (by decide +kernel) (by decide +kernel) rfl rfl (q_sum8 _ (Nat.le_of_ble_eq_true rfl)) R_7 f0 (fx_k (c := 12) R_7 (by decide +kernel)) (om_X11_checkName (Nat.le_trans (by decide) hd) R_7 f0 f2 hc_23) (fun _ _ qq => kx_lx qq) (fun _ _ qq => by
      obtain ⟨rfl, Rq, Eq⟩ := kx_e qq
      exact Or.inl ⟨rfl, hQ (Ext.tr E_16 Eq) _ _ Rq rfl⟩)
  refine go_callV (x := 189) (mi := 145) (n := 1) (ci := 12) (as := [v2]) (rest := []) (by decide +kernel) (by decide +kernel) rfl rfl (q_sum8 _ (Nat.le_of_ble_eq_true rfl)) R_7 f0 (fx_k (c := 12) R_7 (by decide +kernel)) (om_X11_checkName (Nat.le_trans (by decide) hd) R_7 f0 f2 hc_23) (fun _ S_28 q_31 => ?_) (fun _ _ qq => kr_x (kx_l qq))
  have q_31 := kx_l q_31
  refine kr_v q_31 fun R_29 E_30 => ?_
  have E_38 := Ext.tr E_16 E_30
  refine go_aload_n (n := 0) (by decide +kernel) l_20 f0 ?_
  refine go_iload_n (n := 3) (by decide +kernel) l_22 f3 ?_
  obtain ⟨rr5, m_41, hc_39, h⟩ := bx_s h
  rcases h with ⟨q_48, rfl, h⟩ | ⟨x_40, rfl, h⟩
  · cases h
    exact go_callV (x := 167) (mi := 147) (n := 1) (ci := 12) (as := [v3]) (rest := []) (by decide +kernel) (by decide +kernel) rfl rfl (q_sum8 _ (Nat.le_of_ble_eq_true rfl)) R_29 f0 (fx_k (c := 12) R_29 (by decide +kernel)) (om_X11_checkValue (Nat.le_trans (by decide) hd) R_29 f0 f3 hc_39) (fun _ _ qq => kx_lx qq) (fun _ _ qq => by
      obtain ⟨rfl, Rq, Eq⟩ := kx_e qq
      exact Or.inl ⟨rfl, hQ (Ext.tr E_38 Eq) _ _ Rq rfl⟩)
  refine go_callV (x := 167) (mi := 147) (n := 1) (ci := 12) (as := [v3]) (rest := []) (by decide +kernel) (by decide +kernel) rfl rfl (q_sum8 _ (Nat.le_of_ble_eq_true rfl)) R_29 f0 (fx_k (c := 12) R_29 (by decide +kernel)) (om_X11_checkValue (Nat.le_trans (by decide) hd) R_29 f0 f3 hc_39) (fun _ S_44 q_47 => ?_) (fun _ _ qq => kr_x (kx_l qq))
  have q_47 := kx_l q_47
  refine kr_v q_47 fun R_45 E_46 => ?_
  have E_54 := Ext.tr E_38 E_46
  refine go_aload (n := 4) (by decide +kernel) l_18 f_5 ?_
  obtain ⟨g_57, h⟩ := gd_s h
  obtain ⟨x_59, e_60, h⟩ := lx_s h
  refine go_getf (x := 208) (ci := 7) (kf := 6) (fin := 0) (t := 0) (by decide +kernel) (by decide +kernel) (by decide +kernel) R_45 f_5 g_57 fun v_55 f_56 => ?_
  have f_58 := q_is_eq f_56 e_60
  refine go_if (c := .ne) (o := 16) (t := 38) (P := ¬ (x_59 = 0)) (by decide +kernel) (by decide +kernel) f_58 (Iff.rfl) (fun hp_61 => ?_) (fun hp_61 => ?_)
  · have h := it_f hp_61 h
    cases h
    exact go_thr (x := 111) (e := 2) (ic := 115) (b := 0) (by decide +kernel) (by decide +kernel) (by decide +kernel) R_45 rfl fun Sq Rq Eq => hQ (Ext.tr E_54 Eq) _ _ Rq rfl
  · have h := it_n hp_61 h
    refine go_aload (n := 4) (by decide +kernel) l_18 f_5 ?_
    obtain ⟨x_65, e_66, h⟩ := lx_s h
    refine go_getf (x := 195) (ci := 7) (kf := 16) (fin := 2) (t := 2) (by decide +kernel) (by decide +kernel) (by decide +kernel) R_45 f_5 g_57 fun v_62 f_63 => ?_
    have f_64 := q_is_eq f_63 e_66
    obtain ⟨g_69, h⟩ := gd_s h
    obtain ⟨x_71, e_72, h⟩ := lx_s h
    refine go_getf (x := 199) (ci := 3) (kf := 1) (fin := 0) (t := 0) (by decide +kernel) (by decide +kernel) (by decide +kernel) R_45 f_64 g_69 fun v_67 f_68 => ?_
    have f_70 := q_is_eq f_68 e_72
    refine go_bipush (n := 100) (z := 100) (by decide +kernel) (by decide) fun v_73 f_74 => ?_
    refine go_icmp (c := .lt) (o := 13) (t := 48) (P := x_71 < 100) (by decide +kernel) (by decide +kernel) f_70 f_74 (Iff.rfl) (fun hp_75 => ?_) (fun hp_75 => ?_)
    · have h := it_t hp_75 h
      refine go_aload_n (n := 0) (by decide +kernel) l_20 f0 ?_
      refine go_getf (x := 57) (ci := 12) (kf := 10) (fin := 1) (t := 2) (by decide +kernel) (by decide +kernel) (by decide +kernel) R_45 f0 (fx_k (c := 12) R_45 (by decide +kernel)) fun v_76 f_77 => ?_
      have f_78 := q_is_eq (b := 16) f_77 (fx_v R_45 (by decide +kernel)).symm
      refine go_aload (n := 4) (by decide +kernel) l_18 f_5 ?_
      refine go_aload_n (n := 0) (by decide +kernel) l_20 f0 ?_
      refine go_aload (n := 4) (by decide +kernel) l_18 f_5 ?_
      refine go_aload (n := 4) (by decide +kernel) l_18 f_5 ?_
      obtain ⟨x_82, e_83, h⟩ := lx_s h
      refine go_getf (x := 213) (ci := 7) (kf := 3) (fin := 0) (t := 0) (by decide +kernel) (by decide +kernel) (by decide +kernel) R_45 f_5 g_57 fun v_79 f_80 => ?_
      have f_81 := q_is_eq f_80 e_83
      obtain ⟨x_85, hc_84, h⟩ := bp_s h
      refine go_callV (x := 216) (mi := 149) (n := 2) (ci := 12) (as := [v_4, v_79]) (rest := [v_4, v_76]) (by decide +kernel) (by decide +kernel) rfl rfl (q_sum8 _ (Nat.le_of_ble_eq_true rfl)) R_45 f0 (fx_k (c := 12) R_45 (by decide +kernel)) (om_X11_codeOf (Nat.le_trans (by decide) hd) R_45 f0 f_5 f_81 hc_84) (fun _ S_89 q_92 => ?_) (fun _ _ qq => kr_x qq)
      refine kr_z (by decide) q_92 fun v_87 f_88 R_90 E_91 => ?_
      refine go_aload (n := 4) (by decide +kernel) l_18 f_5 ?_
      refine go_getf (x := 195) (ci := 7) (kf := 16) (fin := 2) (t := 2) (by decide +kernel) (by decide +kernel) (by decide +kernel) R_90 f_5 g_57 fun v_93 f_94 => ?_
      have f_95 := q_is_eq f_94 e_66
      obtain ⟨x_99, e_100, h⟩ := lx_s h
      refine go_getf (x := 220) (ci := 3) (kf := 4) (fin := 0) (t := 0) (by decide +kernel) (by decide +kernel) (by decide +kernel) R_90 f_95 g_69 fun v_96 f_97 => ?_
      have f_98 := q_is_eq f_97 e_100
      refine go_iconst (n := 0) (z := 0) (by decide +kernel) (by decide) fun v_101 f_102 => ?_
      obtain ⟨x_104, m_105, hc_103, h⟩ := bd_s h
      refine go_callV (x := 223) (mi := 30) (n := 4) (ci := 5) (as := [v_4, v_87, v_96, v_101]) (rest := []) (by decide +kernel) (by decide +kernel) rfl rfl (q_sum8 _ (Nat.le_of_ble_eq_true rfl)) R_90 f_78 (fx_k (c := 5) R_90 (by decide +kernel)) (om_X4_follow (Nat.le_trans (by decide) hd) R_90 f_78 f_5 f_88 f_98 f_102 hc_103) (fun _ S_108 q_111 => ?_) (fun _ _ qq => kr_x qq)
      refine kr_z (by decide) q_111 fun v_106 f_107 R_109 E_110 => ?_
      have E_114 := Ext.tr E_54 E_110
      refine go_istore (n := 5) (by decide +kernel) (by decide +kernel) f_107 fun L_115 l_116 kp_117 => ?_
      have l_118 := kp_117 0 _ l_20 (by decide) (Or.inl (by decide))
      have l_119 := kp_117 2 _ l_21 (by decide) (Or.inl (by decide))
      have l_120 := kp_117 3 _ l_22 (by decide) (Or.inl (by decide))
      have l_121 := kp_117 4 _ l_18 (by decide) (Or.inr (q_is_cat f_5 (Or.inr rfl)))
      refine go_iload (n := 5) (by decide +kernel) l_116 f_107 ?_
      refine go_if (c := .eq) (o := 29) (t := 110) (P := x_104 = 0) (by decide +kernel) (by decide +kernel) f_107 (Iff.rfl) (fun hp_122 => ?_) (fun hp_122 => ?_)
      · have h := it_t hp_122 h
        refine go_iconst (n := 0) (z := 0) (by decide +kernel) (by decide) fun v_123 f_124 => ?_
        cases h
        exact go_iret (by decide +kernel) rfl (Or.inr ⟨rfl, by decide⟩) f_124 (hQ E_114 _ _ R_109 (q_out_v (by decide) f_124))
      · have h := it_f hp_122 h
        refine go_aload (n := 4) (by decide +kernel) l_121 f_5 ?_
        have g_127 := Ext.ok E_110 g_57
        obtain ⟨x_129, e_130, h⟩ := lx_s h
        refine go_getf (x := 195) (ci := 7) (kf := 16) (fin := 2) (t := 2) (by decide +kernel) (by decide +kernel) (by decide +kernel) R_109 f_5 g_127 fun v_125 f_126 => ?_
        have f_128 := q_is_eq f_126 e_130
        refine go_iload_n (n := 2) (by decide +kernel) l_119 f2 ?_
        obtain ⟨g_131, h⟩ := gd_s h
        obtain ⟨x_133, hc_132, h⟩ := bp_s h
        refine go_callV (x := 227) (mi := 26) (n := 1) (ci := 3) (as := [v2]) (rest := []) (by decide +kernel) (by decide +kernel) rfl rfl (q_sum8 _ (Nat.le_of_ble_eq_true rfl)) R_109 f_128 g_131 (om_X2_hasNewSignal (Nat.le_trans (by decide) hd) R_109 g_131 f_128 f2 hc_132) (fun _ S_137 q_140 => ?_) (fun _ _ qq => kr_x qq)
        refine kr_z (by decide) q_140 fun v_135 f_136 R_138 E_139 => ?_
        refine go_if (c := .ne) (o := 17) (t := 110) (P := ¬ (x_133 = 0)) (by decide +kernel) (by decide +kernel) f_136 (Iff.rfl) (fun hp_141 => ?_) (fun hp_141 => ?_)
        · have h := it_f hp_141 h
          refine go_iconst (n := 0) (z := 0) (by decide +kernel) (by decide) fun v_142 f_143 => ?_
          cases h
          exact go_iret (by decide +kernel) rfl (Or.inr ⟨rfl, by decide⟩) f_143 (hQ E_114 _ _ R_138 (q_out_v (by decide) f_143))
        · have h := it_n hp_141 h
          refine go_aload_n (n := 0) (by decide +kernel) l_118 f0 ?_
          refine go_getf (x := 57) (ci := 12) (kf := 10) (fin := 1) (t := 2) (by decide +kernel) (by decide +kernel) (by decide +kernel) R_138 f0 (fx_k (c := 12) R_138 (by decide +kernel)) fun v_144 f_145 => ?_
          have f_146 := q_is_eq (b := 16) f_145 (fx_v R_138 (by decide +kernel)).symm
          refine go_getf (x := 231) (ci := 5) (kf := 0) (fin := 2) (t := 2) (by decide +kernel) (by decide +kernel) (by decide +kernel) R_138 f_146 (fx_k (c := 5) R_138 (by decide +kernel)) fun v_147 f_148 => ?_
          have f_149 := q_is_eq (b := 17) f_148 (fx_v R_138 (by decide +kernel)).symm
          refine go_iload_n (n := 2) (by decide +kernel) l_119 f2 ?_
          obtain ⟨x_151, hc_150, h⟩ := bp_s h
          refine go_callV (x := 235) (mi := 92) (n := 1) (ci := 9) (as := [v2]) (rest := []) (by decide +kernel) (by decide +kernel) rfl rfl (q_sum8 _ (Nat.le_of_ble_eq_true rfl)) R_138 f_149 (fx_k (c := 9) R_138 (by decide +kernel)) (om_X8_waitsForSignal (Nat.le_trans (by decide) hd) R_138 f_149 f2 hc_150) (fun _ S_155 q_158 => ?_) (fun _ _ qq => kr_x qq)
          refine kr_z (by decide) q_158 fun v_153 f_154 R_156 E_157 => ?_
          refine go_if (c := .ne) (o := 5) (t := 112) (P := ¬ (x_151 = 0)) (by decide +kernel) (by decide +kernel) f_154 (Iff.rfl) (fun hp_159 => ?_) (fun hp_159 => ?_)
          · have h := it_f hp_159 h
            refine go_aload_n (n := 0) (by decide +kernel) l_118 f0 ?_
            refine go_aload (n := 4) (by decide +kernel) l_121 f_5 ?_
            refine go_iconst (n := 4) (z := 4) (by decide +kernel) (by decide) fun v_160 f_161 => ?_
            refine go_iload_n (n := 2) (by decide +kernel) l_119 f2 ?_
            refine go_iload_n (n := 3) (by decide +kernel) l_120 f3 ?_
            obtain ⟨x_163, m_164, hc_162, h⟩ := bd_s h
            refine go_callV (x := 204) (mi := 152) (n := 4) (ci := 12) (as := [v_4, v_160, v2, v3]) (rest := []) (by decide +kernel) (by decide +kernel) rfl rfl (q_sum8 _ (Nat.le_of_ble_eq_true rfl)) R_156 f0 (fx_k (c := 12) R_156 (by decide +kernel)) (om_X11_arrive (Nat.le_trans (by decide) hd) R_156 f0 f_5 f_161 f2 f3 hc_162) (fun _ S_167 q_170 => ?_) (fun _ _ qq => kr_x qq)
            refine kr_v q_170 fun R_168 E_169 => ?_
            have E_173 := Ext.tr E_114 E_169
            refine go_iconst (n := 1) (z := 1) (by decide +kernel) (by decide) fun v_174 f_175 => ?_
            cases h
            exact go_iret (by decide +kernel) rfl (Or.inr ⟨rfl, by decide⟩) f_175 (hQ E_173 _ _ R_168 (q_out_v (by decide) f_175))
          · have h := it_n hp_159 h
            refine go_iconst (n := 0) (z := 0) (by decide +kernel) (by decide) fun v_176 f_177 => ?_
            cases h
            exact go_iret (by decide +kernel) rfl (Or.inr ⟨rfl, by decide⟩) f_177 (hQ E_114 _ _ R_156 (q_out_v (by decide) f_177))
    · have h := it_f hp_75 h
      cases h
      exact go_thr (x := 111) (e := 2) (ic := 115) (b := 0) (by decide +kernel) (by decide +kernel) (by decide +kernel) R_45 rfl fun Sq Rq Eq => hQ (Ext.tr E_54 Eq) _ _ Rq rfl
noncomputable def fm_X11_cancelRun (p1 : Int) (m0 : MM) : Option (Int × MM) := gd (okc m0 p1 7) <| lx (m0 p1 16) fun x_5 =>
gd (okc m0 x_5 3) <| bp (fm_X2_has x_5 7 m0) fun x_11 =>
if x_11 = 0 then
bd (fm_X11_arrive p1 7 0 0 m0) fun x_27 m_28 =>
some (1, m_28)
else
some (0, m0)
set_option maxHeartbeats 4000000 in
theorem om_X11_cancelRun {xs : List Int32} {d : Nat} {S : QS} {m0 : MM} {p1 : Int} {v0 : Value} {v1 : Value} {rz : Int} {rm : MM}
  (hd : 4 ≤ d) (R : Rp S m0) (f0 : q_is 2 v0 4) (f1 : q_is 2 v1 p1)
  (h : fm_X11_cancelRun p1 m0 = some (rz, rm)) : Mt xs d 153 [v0, v1] S (Cr 0 m0 rm rz) := by
  obtain ⟨d, rfl⟩ : ∃ e, d = e + 1 := ⟨d - 1, by omega⟩
  have hd : 3 ≤ d := Nat.le_of_succ_le_succ hd
  refine Mt.of (M := qM_X11_cancelRun) rfl (by rw [sl_1 (q_is_cat f0 (Or.inr rfl)), sl_1 (q_is_cat f1 (Or.inr rfl)), sl_0]; decide) ?_
  rw [la_1 (q_is_cat f0 (Or.inr rfl)), la_1 (q_is_cat f1 (Or.inr rfl)), la_0]
  obtain ⟨L, hL⟩ : ∃ L : QL, L = [(0, v0), (0 + 1, v1)] := ⟨_, rfl⟩
  rw [← hL]
  have l0 : q_lo L 0 = some v0 := by rw [hL]; rfl
  have l1 : q_lo L 1 = some v1 := by rw [hL]; rfl
  have hQ : Ext m0 rm → ∀ o S1, Rp S1 rm → q_out 0 o rz → (Cr 0 m0 rm rz) o S1 := fun a o S1 b e => ⟨b, a, e⟩
  unfold fm_X11_cancelRun at h
  refine go_aload_n (n := 1) (by decide +kernel) l1 f1 ?_
  obtain ⟨g_3, h⟩ := gd_s h
  obtain ⟨x_5, e_6, h⟩ := lx_s h
  refine go_getf (x := 195) (ci := 7) (kf := 16) (fin := 2) (t := 2) (by decide +kernel) (by decide +kernel) (by decide +kernel) R f1 g_3 fun v_1 f_2 => ?_
  have f_4 := q_is_eq f_2 e_6
  refine go_bipush (n := 7) (z := 7) (by decide +kernel) (by decide) fun v_7 f_8 => ?_
  obtain ⟨g_9, h⟩ := gd_s h
  obtain ⟨x_11, hc_10, h⟩ := bp_s h
  refine go_callV (x := 540) (mi := 19) (n := 1) (ci := 3) (as := [v_7]) (rest := []) (by decide +kernel) (by decide +kernel) rfl rfl (q_sum8 _ (Nat.le_of_ble_eq_true rfl)) R f_4 g_9 (om_X2_has (Nat.le_trans (by decide) hd) R g_9 f_4 f_8 hc_10) (fun _ S_15 q_18 => ?_) (fun _ _ qq => kr_x qq)
  refine kr_z (by decide) q_18 fun v_13 f_14 R_16 E_17 => ?_
  refine go_if (c := .eq) (o := 5) (t := 14) (P := x_11 = 0) (by decide +kernel) (by decide +kernel) f_14 (Iff.rfl) (fun hp_19 => ?_) (fun hp_19 => ?_)
  · have h := it_t hp_19 h
    refine go_aload_n (n := 0) (by decide +kernel) l0 f0 ?_
    refine go_aload_n (n := 1) (by decide +kernel) l1 f1 ?_
    refine go_bipush (n := 7) (z := 7) (by decide +kernel) (by decide) fun v_20 f_21 => ?_
    refine go_iconst (n := 0) (z := 0) (by decide +kernel) (by decide) fun v_22 f_23 => ?_
    refine go_iconst (n := 0) (z := 0) (by decide +kernel) (by decide) fun v_24 f_25 => ?_
    obtain ⟨x_27, m_28, hc_26, h⟩ := bd_s h
    refine go_callV (x := 204) (mi := 152) (n := 4) (ci := 12) (as := [v1, v_20, v_22, v_24]) (rest := []) (by decide +kernel) (by decide +kernel) rfl rfl (q_sum8 _ (Nat.le_of_ble_eq_true rfl)) R_16 f0 (fx_k (c := 12) R_16 (by decide +kernel)) (om_X11_arrive (Nat.le_trans (by decide) hd) R_16 f0 f1 f_21 f_23 f_25 hc_26) (fun _ S_31 q_34 => ?_) (fun _ _ qq => kr_x qq)
    refine kr_v q_34 fun R_32 E_33 => ?_
    have E_37 := E_33
    refine go_iconst (n := 1) (z := 1) (by decide +kernel) (by decide) fun v_38 f_39 => ?_
    cases h
    exact go_iret (by decide +kernel) rfl (Or.inr ⟨rfl, by decide⟩) f_39 (hQ E_37 _ _ R_32 (q_out_v (by decide) f_39))
  · have h := it_f hp_19 h
    refine go_iconst (n := 0) (z := 0) (by decide +kernel) (by decide) fun v_40 f_41 => ?_
    cases h
    exact go_iret (by decide +kernel) rfl (Or.inr ⟨rfl, by decide⟩) f_41 (hQ (Ext.rf _) _ _ R_16 (q_out_v (by decide) f_41))
end DF13
