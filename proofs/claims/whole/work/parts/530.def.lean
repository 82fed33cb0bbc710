/-! Methods as functions (written by wip/whole/dec.py), 30: X12_awaits, X12_undoes, X12_patches, X12_bares, X12_doesMore. -/
section DF30
noncomputable def fm_X12_awaits (p1 p2 p3 p4 : Int) (m0 : MM) : Option (Int × MM) := gd (0 ≤ p1 ∧ p1 < 12) <| up m0 145 p1 p2 fun m_5 =>
up m_5 146 p1 p3 fun m_15 =>
up m_15 147 p1 p4 fun m_25 =>
some (0, m_25)
set_option maxHeartbeats 4000000 in
theorem om_X12_awaits {xs : List Int32} {d : Nat} {S : QS} {m0 : MM} {p1 p2 p3 p4 : Int} {v0 : Value} {v1 : Value} {v2 : Value} {v3 : Value} {v4 : Value} {rz : Int} {rm : MM}
  (hd : 1 ≤ d) (R : Rp S m0) (f0 : q_is 2 v0 68) (f1 : q_is 0 v1 p1) (f2 : q_is 0 v2 p2) (f3 : q_is 0 v3 p3) (f4 : q_is 0 v4 p4)
  (h : fm_X12_awaits p1 p2 p3 p4 m0 = some (rz, rm)) : Mt xs d 235 [v0, v1, v2, v3, v4] S (Cr 9 m0 rm rz) := by
  obtain ⟨d, rfl⟩ : ∃ e, d = e + 1 := ⟨d - 1, by omega⟩
  have hd : 0 ≤ d := Nat.le_of_succ_le_succ hd
  refine Mt.of (M := qM_X12_awaits) rfl (by rw [sl_1 (q_is_cat f0 (Or.inr rfl)), sl_1 (q_is_cat f1 (Or.inl rfl)), sl_1 (q_is_cat f2 (Or.inl rfl)), sl_1 (q_is_cat f3 (Or.inl rfl)), sl_1 (q_is_cat f4 (Or.inl rfl)), sl_0]; decide) ?_
  rw [la_1 (q_is_cat f0 (Or.inr rfl)), la_1 (q_is_cat f1 (Or.inl rfl)), la_1 (q_is_cat f2 (Or.inl rfl)), la_1 (q_is_cat f3 (Or.inl rfl)), la_1 (q_is_cat f4 (Or.inl rfl)), la_0]
  obtain ⟨L, hL⟩ : ∃ L : QL, L = [(0, v0), (0 + 1, v1), (0 + 1 + 1, v2), (0 + 1 + 1 + 1, v3), (0 + 1 + 1 + 1 + 1, v4)] := ⟨_, rfl⟩
  rw [← hL]
  have l0 : q_lo L 0 = some v0 := by rw [hL]; rfl
  have l1 : q_lo L 1 = some v1 := by rw [hL]; rfl
  have l2 : q_lo L 2 = some v2 := by rw [hL]; rfl
  have l3 : q_lo L 3 = some v3 := by rw [hL]; rfl
  have l4 : q_lo L 4 = some v4 := by rw [hL]; rfl
  have hQ : Ext m0 rm → ∀ o S1, Rp S1 rm → q_out 9 o rz → (Cr 9 m0 rm rz) o S1 := fun a o S1 b e => ⟨b, a, e⟩
  unfold fm_X12_awaits at h
  refine go_aload_n (n := 0) (by decide +kernel) l0 f0 ?_
  refine go_getf (x := 250) (ci := 13) (kf := 95) (fin := 1) (t := 2) (by decide +kernel) (by decide +kernel) (by decide +kernel) R f0 (fx_k (c := 13) R (by decide +kernel)) fun v_1 f_2 => ?_
  have f_3 := q_is_eq (b := 145) f_2 (fx_v R (by decide +kernel)).symm
  refine go_iload_n (n := 1) (by decide +kernel) l1 f1 ?_
  refine go_iload_n (n := 2) (by decide +kernel) l2 f2 ?_
  obtain ⟨g_4, h⟩ := gd_s h
  obtain ⟨m_5, e_6, h⟩ := up_s h
  refine go_iast (kd := 100) (by decide +kernel) rfl R f_3 f1 f2 (fx_k (c := 100) R (by decide +kernel)) (fx_x (a := 145) (ln := 12) R (by decide +kernel) g_4) e_6 (fx_a R.2 (fx_k (c := 100) R (by decide +kernel)) (And.left (fx_x (a := 145) (ln := 12) R (by decide +kernel) g_4)) (by decide +kernel)) fun S_7 R_8 E_9 => ?_
  have E_11 := E_9
  refine go_aload_n (n := 0) (by decide +kernel) l0 f0 ?_
  refine go_getf (x := 253) (ci := 13) (kf := 96) (fin := 1) (t := 2) (by decide +kernel) (by decide +kernel) (by decide +kernel) R_8 f0 (fx_k (c := 13) R_8 (by decide +kernel)) fun v_12 f_13 => ?_
  have f_14 := q_is_eq (b := 146) f_13 (fx_v R_8 (by decide +kernel)).symm
  refine go_iload_n (n := 1) (by decide +kernel) l1 f1 ?_
  refine go_iload_n (n := 3) (by decide +kernel) l3 f3 ?_
  obtain ⟨m_15, e_16, h⟩ := up_s h
  refine go_iast (kd := 100) (by decide +kernel) rfl R_8 f_14 f1 f3 (fx_k (c := 100) R_8 (by decide +kernel)) (fx_x (a := 146) (ln := 12) R_8 (by decide +kernel) g_4) e_16 (fx_a R_8.2 (fx_k (c := 100) R_8 (by decide +kernel)) (And.left (fx_x (a := 146) (ln := 12) R_8 (by decide +kernel) g_4)) (by decide +kernel)) fun S_17 R_18 E_19 => ?_
  have E_21 := Ext.tr E_11 E_19
  refine go_aload_n (n := 0) (by decide +kernel) l0 f0 ?_
  refine go_getf (x := 256) (ci := 13) (kf := 97) (fin := 1) (t := 2) (by decide +kernel) (by decide +kernel) (by decide +kernel) R_18 f0 (fx_k (c := 13) R_18 (by decide +kernel)) fun v_22 f_23 => ?_
  have f_24 := q_is_eq (b := 147) f_23 (fx_v R_18 (by decide +kernel)).symm
  refine go_iload_n (n := 1) (by decide +kernel) l1 f1 ?_
  refine go_iload (n := 4) (by decide +kernel) l4 f4 ?_
  obtain ⟨m_25, e_26, h⟩ := up_s h
  refine go_iast (kd := 100) (by decide +kernel) rfl R_18 f_24 f1 f4 (fx_k (c := 100) R_18 (by decide +kernel)) (fx_x (a := 147) (ln := 12) R_18 (by decide +kernel) g_4) e_26 (fx_a R_18.2 (fx_k (c := 100) R_18 (by decide +kernel)) (And.left (fx_x (a := 147) (ln := 12) R_18 (by decide +kernel) g_4)) (by decide +kernel)) fun S_27 R_28 E_29 => ?_
  have E_31 := Ext.tr E_21 E_29
  cases h
  exact go_vret (by decide +kernel) rfl (hQ E_31 _ _ R_28 q_out_n)
noncomputable def fm_X12_undoes (p1 : Int) (m0 : MM) : Option (Int × MM) := lx (m0 68 105) fun x_4 =>
if x_4 = 0 then
gd (0 ≤ p1 ∧ p1 < 12) <| lx (m0 144 p1) fun x_94 =>
up m0 144 p1 (w32 (x_94 + 1)) fun m_100 =>
some (0, m_100)
else
up m0 68 105 (w32 (x_4 - 1)) fun m_14 =>
lx (m_14 68 105) fun x_29 =>
gd (0 ≤ x_29 ∧ x_29 < 196608) <| lx (m_14 154 x_29) fun x_35 =>
bd (fm_X12_commands 8 (Int.tmod x_35 10) (w32 (Int.tdiv x_35 10)) m_14) fun x_55 m_56 =>
bd (fm_X12_awaits p1 4 x_55 0 m_56) fun x_76 m_77 =>
some (0, m_77)
set_option maxHeartbeats 4000000 in
theorem om_X12_undoes {xs : List Int32} {d : Nat} {S : QS} {m0 : MM} {p1 : Int} {v0 : Value} {v1 : Value} {rz : Int} {rm : MM}
  (hd : 5 ≤ d) (R : Rp S m0) (f0 : q_is 2 v0 68) (f1 : q_is 0 v1 p1)
  (h : fm_X12_undoes p1 m0 = some (rz, rm)) : Mt xs d 236 [v0, v1] S (Cr 9 m0 rm rz) := by
  obtain ⟨d, rfl⟩ : ∃ e, d = e + 1 := ⟨d - 1, by omega⟩
  have hd : 4 ≤ d := Nat.le_of_succ_le_succ hd
  refine Mt.of (M := qM_X12_undoes) rfl (by rw [sl_1 (q_is_cat f0 (Or.inr rfl)), sl_1 (q_is_cat f1 (Or.inl rfl)), sl_0]; decide) ?_
  rw [la_1 (q_is_cat f0 (Or.inr rfl)), la_1 (q_is_cat f1 (Or.inl rfl)), la_0]
  obtain ⟨L, hL⟩ : ∃ L : QL, L = [(0, v0), (0 + 1, v1)] := ⟨_, rfl⟩
  rw [← hL]
  have l0 : q_lo L 0 = some v0 := by rw [hL]; rfl
  have l1 : q_lo L 1 = some v1 := by rw [hL]; rfl
  have hQ : Ext m0 rm → ∀ o S1, Rp S1 rm → q_out 9 o rz → (Cr 9 m0 rm rz) o S1 := fun a o S1 b e => ⟨b, a, e⟩
  unfold fm_X12_undoes at h
  refine go_aload_n (n := 0) (by decide +kernel) l0 f0 ?_
  obtain ⟨x_4, e_5, h⟩ := lx_s h
  refine go_getf (x := 458) (ci := 13) (kf := 105) (fin := 0) (t := 0) (by decide +kernel) (by decide +kernel) (by decide +kernel) R f0 (fx_k (c := 13) R (by decide +kernel)) fun v_1 f_2 => ?_
  have f_3 := q_is_eq f_2 e_5
  refine go_if (c := .ne) (o := 14) (t := 18) (P := ¬ (x_4 = 0)) (by decide +kernel) (by decide +kernel) f_3 (Iff.rfl) (fun hp_6 => ?_) (fun hp_6 => ?_)
  · have h := it_f hp_6 h
    refine go_aload_n (n := 0) (by decide +kernel) l0 f0 ?_
    refine go_dup (by decide +kernel) f0 (Or.inr rfl) ?_
    refine go_getf (x := 458) (ci := 13) (kf := 105) (fin := 0) (t := 0) (by decide +kernel) (by decide +kernel) (by decide +kernel) R f0 (fx_k (c := 13) R (by decide +kernel)) fun v_7 f_8 => ?_
    have f_9 := q_is_eq f_8 e_5
    refine go_iconst (n := 1) (z := 1) (by decide +kernel) (by decide) fun v_10 f_11 => ?_
    refine go_isub (by decide +kernel) f_9 f_11 fun v_12 f_13 => ?_
    obtain ⟨m_14, e_15, h⟩ := up_s h
    refine go_putf (x := 458) (ci := 13) (kf := 105) (fin := 0) (zt := 0) (by decide +kernel) (by decide +kernel) (by decide) (by decide +kernel) (by decide) (Or.inl rfl) R f0 f_13 (fun hq => absurd hq (by decide)) (fx_k (c := 13) R (by decide +kernel)) e_15 (fx_f (j := 105) R.2 (fx_k (c := 13) R (by decide +kernel)) (by decide +kernel)) fun S_16 R_17 E_18 => ?_
    have E_20 := E_18
    refine go_aload_n (n := 0) (by decide +kernel) l0 f0 ?_
    refine go_bipush (n := 8) (z := 8) (by decide +kernel) (by decide) fun v_21 f_22 => ?_
    refine go_aload_n (n := 0) (by decide +kernel) l0 f0 ?_
    refine go_getf (x := 278) (ci := 13) (kf := 106) (fin := 1) (t := 2) (by decide +kernel) (by decide +kernel) (by decide +kernel) R_17 f0 (fx_k (c := 13) R_17 (by decide +kernel)) fun v_23 f_24 => ?_
    have f_25 := q_is_eq (b := 154) f_24 (fx_v R_17 (by decide +kernel)).symm
    refine go_aload_n (n := 0) (by decide +kernel) l0 f0 ?_
    obtain ⟨x_29, e_30, h⟩ := lx_s h
    refine go_getf (x := 458) (ci := 13) (kf := 105) (fin := 0) (t := 0) (by decide +kernel) (by decide +kernel) (by decide +kernel) R_17 f0 (fx_k (c := 13) R_17 (by decide +kernel)) fun v_26 f_27 => ?_
    have f_28 := q_is_eq f_27 e_30
    obtain ⟨g_33, h⟩ := gd_s h
    obtain ⟨x_35, e_36, h⟩ := lx_s h
    refine go_iald (kd := 100) (by decide +kernel) rfl R_17 f_25 f_28 (fx_k (c := 100) R_17 (by decide +kernel)) (fx_x (a := 154) (ln := 196608) R_17 (by decide +kernel) g_33) fun v_31 f_32 => ?_
    have f_34 := q_is_eq f_32 e_36
    refine go_bipush (n := 10) (z := 10) (by decide +kernel) (by decide) fun v_37 f_38 => ?_
    refine go_irem (by decide +kernel) f_34 f_38 (by decide) fun v_39 f_40 => ?_
    refine go_aload_n (n := 0) (by decide +kernel) l0 f0 ?_
    refine go_getf (x := 278) (ci := 13) (kf := 106) (fin := 1) (t := 2) (by decide +kernel) (by decide +kernel) (by decide +kernel) R_17 f0 (fx_k (c := 13) R_17 (by decide +kernel)) fun v_41 f_42 => ?_
    have f_43 := q_is_eq (b := 154) f_42 (fx_v R_17 (by decide +kernel)).symm
    refine go_aload_n (n := 0) (by decide +kernel) l0 f0 ?_
    refine go_getf (x := 458) (ci := 13) (kf := 105) (fin := 0) (t := 0) (by decide +kernel) (by decide +kernel) (by decide +kernel) R_17 f0 (fx_k (c := 13) R_17 (by decide +kernel)) fun v_44 f_45 => ?_
    have f_46 := q_is_eq f_45 e_30
    refine go_iald (kd := 100) (by decide +kernel) rfl R_17 f_43 f_46 (fx_k (c := 100) R_17 (by decide +kernel)) (fx_x (a := 154) (ln := 196608) R_17 (by decide +kernel) g_33) fun v_47 f_48 => ?_
    have f_49 := q_is_eq f_48 e_36
    refine go_bipush (n := 10) (z := 10) (by decide +kernel) (by decide) fun v_50 f_51 => ?_
    refine go_idiv (by decide +kernel) f_49 f_51 (by decide) fun v_52 f_53 => ?_
    obtain ⟨x_55, m_56, hc_54, h⟩ := bd_s h
    refine go_callV (x := 425) (mi := 221) (n := 3) (ci := 13) (as := [v_21, v_39, v_52]) (rest := []) (by decide +kernel) (by decide +kernel) rfl rfl (q_sum8 _ (Nat.le_of_ble_eq_true rfl)) R_17 f0 (fx_k (c := 13) R_17 (by decide +kernel)) (om_X12_commands (Nat.le_trans (by decide) hd) R_17 f0 f_22 f_40 f_53 hc_54) (fun _ S_59 q_62 => ?_) (fun _ _ qq => kr_x qq)
    refine kr_z (by decide) q_62 fun v_57 f_58 R_60 E_61 => ?_
    have E_65 := Ext.tr E_20 E_61
    refine go_istore_n (n := 2) (by decide +kernel) (by decide +kernel) f_58 fun L_66 l_67 kp_68 => ?_
    have l_69 := kp_68 0 _ l0 (by decide) (Or.inl (by decide))
    have l_70 := kp_68 1 _ l1 (by decide) (Or.inr (q_is_cat f1 (Or.inl rfl)))
    refine go_aload_n (n := 0) (by decide +kernel) l_69 f0 ?_
    refine go_iload_n (n := 1) (by decide +kernel) l_70 f1 ?_
    refine go_iconst (n := 4) (z := 4) (by decide +kernel) (by decide) fun v_71 f_72 => ?_
    refine go_iload_n (n := 2) (by decide +kernel) l_67 f_58 ?_
    refine go_iconst (n := 0) (z := 0) (by decide +kernel) (by decide) fun v_73 f_74 => ?_
    obtain ⟨x_76, m_77, hc_75, h⟩ := bd_s h
    refine go_callV (x := 461) (mi := 235) (n := 4) (ci := 13) (as := [v1, v_71, v_57, v_73]) (rest := []) (by decide +kernel) (by decide +kernel) rfl rfl (q_sum8 _ (Nat.le_of_ble_eq_true rfl)) R_60 f0 (fx_k (c := 13) R_60 (by decide +kernel)) (om_X12_awaits (Nat.le_trans (by decide) hd) R_60 f0 f1 f_72 f_58 f_74 hc_75) (fun _ S_80 q_83 => ?_) (fun _ _ qq => kr_x qq)
    refine kr_v q_83 fun R_81 E_82 => ?_
    have E_86 := Ext.tr E_65 E_82
    cases h
    exact go_vret (by decide +kernel) rfl (hQ E_86 _ _ R_81 q_out_n)
  · have h := it_n hp_6 h
    refine go_aload_n (n := 0) (by decide +kernel) l0 f0 ?_
    refine go_getf (x := 247) (ci := 13) (kf := 94) (fin := 1) (t := 2) (by decide +kernel) (by decide +kernel) (by decide +kernel) R f0 (fx_k (c := 13) R (by decide +kernel)) fun v_87 f_88 => ?_
    have f_89 := q_is_eq (b := 144) f_88 (fx_v R (by decide +kernel)).symm
    refine go_iload_n (n := 1) (by decide +kernel) l1 f1 ?_
    refine go_dup2 (by decide +kernel) f1 (Or.inl rfl) f_89 (Or.inr rfl) ?_
    obtain ⟨g_92, h⟩ := gd_s h
    obtain ⟨x_94, e_95, h⟩ := lx_s h
    refine go_iald (kd := 100) (by decide +kernel) rfl R f_89 f1 (fx_k (c := 100) R (by decide +kernel)) (fx_x (a := 144) (ln := 12) R (by decide +kernel) g_92) fun v_90 f_91 => ?_
    have f_93 := q_is_eq f_91 e_95
    refine go_iconst (n := 1) (z := 1) (by decide +kernel) (by decide) fun v_96 f_97 => ?_
    refine go_iadd (by decide +kernel) f_93 f_97 fun v_98 f_99 => ?_
    obtain ⟨m_100, e_101, h⟩ := up_s h
    refine go_iast (kd := 100) (by decide +kernel) rfl R f_89 f1 f_99 (fx_k (c := 100) R (by decide +kernel)) (fx_x (a := 144) (ln := 12) R (by decide +kernel) g_92) e_101 (fx_a R.2 (fx_k (c := 100) R (by decide +kernel)) (And.left (fx_x (a := 144) (ln := 12) R (by decide +kernel) g_92)) (by decide +kernel)) fun S_102 R_103 E_104 => ?_
    have E_106 := E_104
    cases h
    exact go_vret (by decide +kernel) rfl (hQ E_106 _ _ R_103 q_out_n)
noncomputable def fj_X12_patches_116 (y1 y2 y3 : Int) (m : MM) : Option (Int × MM) := lx (m 68 110) fun x_19 =>
if iAnd (iShr x_19 y2) 1 = 1 then
gd (0 ≤ y1 ∧ y1 < 12) <| lx (m 144 y1) fun x_45 =>
up m 144 y1 (w32 (x_45 + 1)) fun m_51 =>
some (0, m_51)
else
gd (0 ≤ y1 ∧ y1 < 12) <| up m 144 y1 y3 fun m_31 =>
some (0, m_31)
set_option maxHeartbeats 4000000 in
theorem oj_X12_patches_116 {xs : List Int32} {d : Nat} {S : QS} {L : QL} {Q : QO → QS → Prop} {m : MM} {y1 y2 y3 : Int} {v0 : Value} {v1 : Value} {v2 : Value} {v3 : Value}  {rz : Int} {rm : MM}
  (hd : 4 ≤ d) (R : Rp S m) (l0 : q_lo L 0 = some v0) (f0 : q_is 2 v0 68) (l1 : q_lo L 1 = some v1) (f1 : q_is 0 v1 y1) (l2 : q_lo L 2 = some v2) (f2 : q_is 0 v2 y2) (l3 : q_lo L 3 = some v3) (f3 : q_is 0 v3 y3)
  (hQ : Ext m rm → ∀ o S1, Rp S1 rm → q_out 9 o rz → Q o S1)
  (h : fj_X12_patches_116 y1 y2 y3 m = some (rz, rm)) : Go xs d qM_X12_patches 116 L [] S Q := by
  unfold fj_X12_patches_116 at h
  refine go_aload_n (n := 0) (by decide +kernel) l0 f0 ?_
  refine go_getf (x := 247) (ci := 13) (kf := 94) (fin := 1) (t := 2) (by decide +kernel) (by decide +kernel) (by decide +kernel) R f0 (fx_k (c := 13) R (by decide +kernel)) fun v_13 f_14 => ?_
  have f_15 := q_is_eq (b := 144) f_14 (fx_v R (by decide +kernel)).symm
  refine go_iload_n (n := 1) (by decide +kernel) l1 f1 ?_
  refine go_aload_n (n := 0) (by decide +kernel) l0 f0 ?_
  obtain ⟨x_19, e_20, h⟩ := lx_s h
  refine go_getf (x := 465) (ci := 13) (kf := 110) (fin := 0) (t := 0) (by decide +kernel) (by decide +kernel) (by decide +kernel) R f0 (fx_k (c := 13) R (by decide +kernel)) fun v_16 f_17 => ?_
  have f_18 := q_is_eq f_17 e_20
  refine go_iload_n (n := 2) (by decide +kernel) l2 f2 ?_
  refine go_ishr (by decide +kernel) f_18 f2 fun v_21 f_22 => ?_
  refine go_iconst (n := 1) (z := 1) (by decide +kernel) (by decide) fun v_23 f_24 => ?_
  refine go_iand (by decide +kernel) f_22 f_24 fun v_25 f_26 => ?_
  refine go_iconst (n := 1) (z := 1) (by decide +kernel) (by decide) fun v_27 f_28 => ?_
  refine go_icmp (c := .ne) (o := 14) (t := 144) (P := ¬ (iAnd (iShr x_19 y2) 1 = 1)) (by decide +kernel) (by decide +kernel) f_26 f_28 (Iff.rfl) (fun hp_29 => ?_) (fun hp_29 => ?_)
  · have h := it_f hp_29 h
    refine go_iload_n (n := 3) (by decide +kernel) l3 f3 ?_
    obtain ⟨g_30, h⟩ := gd_s h
    obtain ⟨m_31, e_32, h⟩ := up_s h
    refine go_iast (kd := 100) (by decide +kernel) rfl R f_15 f1 f3 (fx_k (c := 100) R (by decide +kernel)) (fx_x (a := 144) (ln := 12) R (by decide +kernel) g_30) e_32 (fx_a R.2 (fx_k (c := 100) R (by decide +kernel)) (And.left (fx_x (a := 144) (ln := 12) R (by decide +kernel) g_30)) (by decide +kernel)) fun S_33 R_34 E_35 => ?_
    have E_37 := E_35
    cases h
    exact go_vret (by decide +kernel) rfl (hQ E_37 _ _ R_34 q_out_n)
  · have h := it_n hp_29 h
    refine go_aload_n (n := 0) (by decide +kernel) l0 f0 ?_
    refine go_getf (x := 247) (ci := 13) (kf := 94) (fin := 1) (t := 2) (by decide +kernel) (by decide +kernel) (by decide +kernel) R f0 (fx_k (c := 13) R (by decide +kernel)) fun v_38 f_39 => ?_
    have f_40 := q_is_eq (b := 144) f_39 (fx_v R (by decide +kernel)).symm
    refine go_iload_n (n := 1) (by decide +kernel) l1 f1 ?_
    obtain ⟨g_43, h⟩ := gd_s h
    obtain ⟨x_45, e_46, h⟩ := lx_s h
    refine go_iald (kd := 100) (by decide +kernel) rfl R f_40 f1 (fx_k (c := 100) R (by decide +kernel)) (fx_x (a := 144) (ln := 12) R (by decide +kernel) g_43) fun v_41 f_42 => ?_
    have f_44 := q_is_eq f_42 e_46
    refine go_iconst (n := 1) (z := 1) (by decide +kernel) (by decide) fun v_47 f_48 => ?_
    refine go_iadd (by decide +kernel) f_44 f_48 fun v_49 f_50 => ?_
    refine go_goto (o := 4) (t := 145) (by decide +kernel) (by decide +kernel) ?_
    obtain ⟨m_51, e_52, h⟩ := up_s h
    refine go_iast (kd := 100) (by decide +kernel) rfl R f_15 f1 f_50 (fx_k (c := 100) R (by decide +kernel)) (fx_x (a := 144) (ln := 12) R (by decide +kernel) g_43) e_52 (fx_a R.2 (fx_k (c := 100) R (by decide +kernel)) (And.left (fx_x (a := 144) (ln := 12) R (by decide +kernel) g_43)) (by decide +kernel)) fun S_53 R_54 E_55 => ?_
    have E_57 := E_55
    cases h
    exact go_vret (by decide +kernel) rfl (hQ E_57 _ _ R_54 q_out_n)
noncomputable def fj_X12_patches_95 (y1 y2 y3 : Int) (m : MM) : Option (Int × MM) := bd (fm_X12_commands 12 y2 0 m) fun x_110 m_111 =>
lx (m_111 68 110) fun x_124 =>
up m_111 68 110 (iOr x_124 (iShl 1 y2)) fun m_132 =>
fj_X12_patches_116 y1 y2 y3 m_132
set_option maxHeartbeats 4000000 in
theorem oj_X12_patches_95 {xs : List Int32} {d : Nat} {S : QS} {L : QL} {Q : QO → QS → Prop} {m : MM} {y1 y2 y3 : Int} {v0 : Value} {v1 : Value} {v2 : Value} {v3 : Value}  {rz : Int} {rm : MM}
  (hd : 4 ≤ d) (R : Rp S m) (l0 : q_lo L 0 = some v0) (f0 : q_is 2 v0 68) (l1 : q_lo L 1 = some v1) (f1 : q_is 0 v1 y1) (l2 : q_lo L 2 = some v2) (f2 : q_is 0 v2 y2) (l3 : q_lo L 3 = some v3) (f3 : q_is 0 v3 y3)
  (hQ : Ext m rm → ∀ o S1, Rp S1 rm → q_out 9 o rz → Q o S1)
  (h : fj_X12_patches_95 y1 y2 y3 m = some (rz, rm)) : Go xs d qM_X12_patches 95 L [] S Q := by
  unfold fj_X12_patches_95 at h
  refine go_aload_n (n := 0) (by decide +kernel) l0 f0 ?_
  refine go_bipush (n := 12) (z := 12) (by decide +kernel) (by decide) fun v_105 f_106 => ?_
  refine go_iload_n (n := 2) (by decide +kernel) l2 f2 ?_
  refine go_iconst (n := 0) (z := 0) (by decide +kernel) (by decide) fun v_107 f_108 => ?_
  obtain ⟨x_110, m_111, hc_109, h⟩ := bd_s h
  refine go_callV (x := 425) (mi := 221) (n := 3) (ci := 13) (as := [v_105, v2, v_107]) (rest := []) (by decide +kernel) (by decide +kernel) rfl rfl (q_sum8 _ (Nat.le_of_ble_eq_true rfl)) R f0 (fx_k (c := 13) R (by decide +kernel)) (om_X12_commands (Nat.le_trans (by decide) hd) R f0 f_106 f2 f_108 hc_109) (fun _ S_114 q_117 => ?_) (fun _ _ qq => kr_x qq)
  refine kr_z (by decide) q_117 fun v_112 f_113 R_115 E_116 => ?_
  have E_120 := E_116
  refine go_pop (by decide +kernel) f_113 (Or.inl rfl) ?_
  refine go_aload_n (n := 0) (by decide +kernel) l0 f0 ?_
  refine go_dup (by decide +kernel) f0 (Or.inr rfl) ?_
  obtain ⟨x_124, e_125, h⟩ := lx_s h
  refine go_getf (x := 465) (ci := 13) (kf := 110) (fin := 0) (t := 0) (by decide +kernel) (by decide +kernel) (by decide +kernel) R_115 f0 (fx_k (c := 13) R_115 (by decide +kernel)) fun v_121 f_122 => ?_
  have f_123 := q_is_eq f_122 e_125
  refine go_iconst (n := 1) (z := 1) (by decide +kernel) (by decide) fun v_126 f_127 => ?_
  refine go_iload_n (n := 2) (by decide +kernel) l2 f2 ?_
  refine go_ishl (by decide +kernel) f_127 f2 fun v_128 f_129 => ?_
  refine go_ior (by decide +kernel) f_123 f_129 fun v_130 f_131 => ?_
  obtain ⟨m_132, e_133, h⟩ := up_s h
  refine go_putf (x := 465) (ci := 13) (kf := 110) (fin := 0) (zt := 0) (by decide +kernel) (by decide +kernel) (by decide) (by decide +kernel) (by decide) (Or.inl rfl) R_115 f0 f_131 (fun hq => absurd hq (by decide)) (fx_k (c := 13) R_115 (by decide +kernel)) e_133 (fx_f (j := 110) R_115.2 (fx_k (c := 13) R_115 (by decide +kernel)) (by decide +kernel)) fun S_134 R_135 E_136 => ?_
  have E_138 := Ext.tr E_120 E_136
  exact oj_X12_patches_116 hd R_135 l0 f0 l1 f1 l2 f2 l3 f3 (fun b => hQ (Ext.tr E_138 b)) h
noncomputable def fj_X12_patches_72 (y1 y2 y3 y5 s0 : Int) (m : MM) : Option (Int × MM) := if s0 = 0 then
if y5 = 0 then
lx (m 68 117) fun x_143 =>
lx (m 68 119) fun x_148 =>
if x_148 < x_143 then
fj_X12_patches_95 y1 y2 y3 m
else
fj_X12_patches_116 y1 y2 y3 m
else
fj_X12_patches_116 y1 y2 y3 m
else
fj_X12_patches_95 y1 y2 y3 m
set_option maxHeartbeats 4000000 in
theorem oj_X12_patches_72 {xs : List Int32} {d : Nat} {S : QS} {L : QL} {Q : QO → QS → Prop} {m : MM} {y1 y2 y3 y5 s0 : Int} {v0 : Value} {v1 : Value} {v2 : Value} {v3 : Value} {v5 : Value} {w0 : Value}  {rz : Int} {rm : MM}
  (hd : 4 ≤ d) (R : Rp S m) (l0 : q_lo L 0 = some v0) (f0 : q_is 2 v0 68) (l1 : q_lo L 1 = some v1) (f1 : q_is 0 v1 y1) (l2 : q_lo L 2 = some v2) (f2 : q_is 0 v2 y2) (l3 : q_lo L 3 = some v3) (f3 : q_is 0 v3 y3) (l5 : q_lo L 5 = some v5) (f5 : q_is 0 v5 y5) (fs0 : q_is 0 w0 s0)
  (hQ : Ext m rm → ∀ o S1, Rp S1 rm → q_out 9 o rz → Q o S1)
  (h : fj_X12_patches_72 y1 y2 y3 y5 s0 m = some (rz, rm)) : Go xs d qM_X12_patches 72 L [w0] S Q := by
  unfold fj_X12_patches_72 at h
  refine go_istore (n := 6) (by decide +kernel) (by decide +kernel) fs0 fun L_96 l_97 kp_98 => ?_
  have l_99 := kp_98 0 _ l0 (by decide) (Or.inl (by decide))
  have l_100 := kp_98 1 _ l1 (by decide) (Or.inl (by decide))
  have l_101 := kp_98 2 _ l2 (by decide) (Or.inl (by decide))
  have l_102 := kp_98 3 _ l3 (by decide) (Or.inl (by decide))
  have l_103 := kp_98 5 _ l5 (by decide) (Or.inr (q_is_cat f5 (Or.inl rfl)))
  refine go_iload (n := 6) (by decide +kernel) l_97 fs0 ?_
  refine go_if (c := .ne) (o := 19) (t := 95) (P := ¬ (s0 = 0)) (by decide +kernel) (by decide +kernel) fs0 (Iff.rfl) (fun hp_104 => ?_) (fun hp_104 => ?_)
  · have h := it_f hp_104 h
    exact oj_X12_patches_95 hd R l_99 f0 l_100 f1 l_101 f2 l_102 f3 hQ h
  · have h := it_n hp_104 h
    refine go_iload (n := 5) (by decide +kernel) l_103 f5 ?_
    refine go_if (c := .ne) (o := 35) (t := 116) (P := ¬ (y5 = 0)) (by decide +kernel) (by decide +kernel) f5 (Iff.rfl) (fun hp_139 => ?_) (fun hp_139 => ?_)
    · have h := it_f hp_139 h
      exact oj_X12_patches_116 hd R l_99 f0 l_100 f1 l_101 f2 l_102 f3 hQ h
    · have h := it_n hp_139 h
      refine go_aload_n (n := 0) (by decide +kernel) l_99 f0 ?_
      obtain ⟨x_143, e_144, h⟩ := lx_s h
      refine go_getf (x := 404) (ci := 13) (kf := 117) (fin := 0) (t := 0) (by decide +kernel) (by decide +kernel) (by decide +kernel) R f0 (fx_k (c := 13) R (by decide +kernel)) fun v_140 f_141 => ?_
      have f_142 := q_is_eq f_141 e_144
      refine go_aload_n (n := 0) (by decide +kernel) l_99 f0 ?_
      obtain ⟨x_148, e_149, h⟩ := lx_s h
      refine go_getf (x := 407) (ci := 13) (kf := 119) (fin := 0) (t := 0) (by decide +kernel) (by decide +kernel) (by decide +kernel) R f0 (fx_k (c := 13) R (by decide +kernel)) fun v_145 f_146 => ?_
      have f_147 := q_is_eq f_146 e_149
      refine go_icmp (c := .le) (o := 24) (t := 116) (P := ¬ (x_148 < x_143)) (by decide +kernel) (by decide +kernel) f_142 f_147 (Int.not_lt.symm) (fun hp_150 => ?_) (fun hp_150 => ?_)
      · have h := it_f hp_150 h
        exact oj_X12_patches_116 hd R l_99 f0 l_100 f1 l_101 f2 l_102 f3 hQ h
      · have h := it_n hp_150 h
        exact oj_X12_patches_95 hd R l_99 f0 l_100 f1 l_101 f2 l_102 f3 hQ h
noncomputable def fj_X12_patches_31 (y1 y2 y3 y4 s0 : Int) (m : MM) : Option (Int × MM) := if s0 = 0 then
fj_X12_patches_72 y1 y2 y3 s0 0 m
else
lx (m 68 88) fun x_154 =>
bp (fm_X12_kindAt x_154 y4 m) fun x_157 =>
if x_157 = 12 then
bp (fm_X12_xAt x_154 y4 m) fun x_174 =>
if x_174 = y2 then
fj_X12_patches_72 y1 y2 y3 s0 1 m
else
fj_X12_patches_72 y1 y2 y3 s0 0 m
else
fj_X12_patches_72 y1 y2 y3 s0 0 m
set_option maxHeartbeats 4000000 in
theorem oj_X12_patches_31 {xs : List Int32} {d : Nat} {S : QS} {L : QL} {Q : QO → QS → Prop} {m : MM} {y1 y2 y3 y4 s0 : Int} {v0 : Value} {v1 : Value} {v2 : Value} {v3 : Value} {v4 : Value} {w0 : Value}  {rz : Int} {rm : MM}
  (hd : 4 ≤ d) (R : Rp S m) (l0 : q_lo L 0 = some v0) (f0 : q_is 2 v0 68) (l1 : q_lo L 1 = some v1) (f1 : q_is 0 v1 y1) (l2 : q_lo L 2 = some v2) (f2 : q_is 0 v2 y2) (l3 : q_lo L 3 = some v3) (f3 : q_is 0 v3 y3) (l4 : q_lo L 4 = some v4) (f4 : q_is 0 v4 y4) (fs0 : q_is 0 w0 s0)
  (hQ : Ext m rm → ∀ o S1, Rp S1 rm → q_out 9 o rz → Q o S1)
  (h : fj_X12_patches_31 y1 y2 y3 y4 s0 m = some (rz, rm)) : Go xs d qM_X12_patches 31 L [w0] S Q := by
  unfold fj_X12_patches_31 at h
  refine go_istore (n := 5) (by decide +kernel) (by decide +kernel) fs0 fun L_85 l_86 kp_87 => ?_
  have l_88 := kp_87 0 _ l0 (by decide) (Or.inl (by decide))
  have l_89 := kp_87 1 _ l1 (by decide) (Or.inl (by decide))
  have l_90 := kp_87 2 _ l2 (by decide) (Or.inl (by decide))
  have l_91 := kp_87 3 _ l3 (by decide) (Or.inl (by decide))
  have l_92 := kp_87 4 _ l4 (by decide) (Or.inr (q_is_cat f4 (Or.inl rfl)))
  refine go_iload (n := 5) (by decide +kernel) l_86 fs0 ?_
  refine go_if (c := .eq) (o := 36) (t := 71) (P := s0 = 0) (by decide +kernel) (by decide +kernel) fs0 (Iff.rfl) (fun hp_93 => ?_) (fun hp_93 => ?_)
  · have h := it_t hp_93 h
    refine go_iconst (n := 0) (z := 0) (by decide +kernel) (by decide) fun v_94 f_95 => ?_
    exact oj_X12_patches_72 hd R l_88 f0 l_89 f1 l_90 f2 l_91 f3 l_86 fs0 f_95 hQ h
  · have h := it_f hp_93 h
    refine go_aload_n (n := 0) (by decide +kernel) l_88 f0 ?_
    refine go_aload_n (n := 0) (by decide +kernel) l_88 f0 ?_
    obtain ⟨x_154, e_155, h⟩ := lx_s h
    refine go_getf (x := 387) (ci := 13) (kf := 88) (fin := 0) (t := 0) (by decide +kernel) (by decide +kernel) (by decide +kernel) R f0 (fx_k (c := 13) R (by decide +kernel)) fun v_151 f_152 => ?_
    have f_153 := q_is_eq f_152 e_155
    refine go_iload (n := 4) (by decide +kernel) l_92 f4 ?_
    obtain ⟨x_157, hc_156, h⟩ := bp_s h
    refine go_callV (x := 341) (mi := 204) (n := 2) (ci := 13) (as := [v_151, v4]) (rest := []) (by decide +kernel) (by decide +kernel) rfl rfl (q_sum8 _ (Nat.le_of_ble_eq_true rfl)) R f0 (fx_k (c := 13) R (by decide +kernel)) (om_X12_kindAt (Nat.le_trans (by decide) hd) R f0 f_153 f4 hc_156) (fun _ S_161 q_164 => ?_) (fun _ _ qq => kr_x qq)
    refine kr_z (by decide) q_164 fun v_159 f_160 R_162 E_163 => ?_
    refine go_bipush (n := 12) (z := 12) (by decide +kernel) (by decide) fun v_165 f_166 => ?_
    refine go_icmp (c := .ne) (o := 21) (t := 71) (P := ¬ (x_157 = 12)) (by decide +kernel) (by decide +kernel) f_160 f_166 (Iff.rfl) (fun hp_167 => ?_) (fun hp_167 => ?_)
    · have h := it_f hp_167 h
      refine go_iconst (n := 0) (z := 0) (by decide +kernel) (by decide) fun v_168 f_169 => ?_
      exact oj_X12_patches_72 hd R_162 l_88 f0 l_89 f1 l_90 f2 l_91 f3 l_86 fs0 f_169 hQ h
    · have h := it_n hp_167 h
      refine go_aload_n (n := 0) (by decide +kernel) l_88 f0 ?_
      refine go_aload_n (n := 0) (by decide +kernel) l_88 f0 ?_
      refine go_getf (x := 387) (ci := 13) (kf := 88) (fin := 0) (t := 0) (by decide +kernel) (by decide +kernel) (by decide +kernel) R_162 f0 (fx_k (c := 13) R_162 (by decide +kernel)) fun v_170 f_171 => ?_
      have f_172 := q_is_eq f_171 e_155
      refine go_iload (n := 4) (by decide +kernel) l_92 f4 ?_
      obtain ⟨x_174, hc_173, h⟩ := bp_s h
      refine go_callV (x := 344) (mi := 206) (n := 2) (ci := 13) (as := [v_170, v4]) (rest := []) (by decide +kernel) (by decide +kernel) rfl rfl (q_sum8 _ (Nat.le_of_ble_eq_true rfl)) R_162 f0 (fx_k (c := 13) R_162 (by decide +kernel)) (om_X12_xAt (Nat.le_trans (by decide) hd) R_162 f0 f_172 f4 hc_173) (fun _ S_178 q_181 => ?_) (fun _ _ qq => kr_x qq)
      refine kr_z (by decide) q_181 fun v_176 f_177 R_179 E_180 => ?_
      refine go_iload_n (n := 2) (by decide +kernel) l_90 f2 ?_
      refine go_icmp (c := .ne) (o := 7) (t := 71) (P := ¬ (x_174 = y2)) (by decide +kernel) (by decide +kernel) f_177 f2 (Iff.rfl) (fun hp_182 => ?_) (fun hp_182 => ?_)
      · have h := it_f hp_182 h
        refine go_iconst (n := 0) (z := 0) (by decide +kernel) (by decide) fun v_183 f_184 => ?_
        exact oj_X12_patches_72 hd R_179 l_88 f0 l_89 f1 l_90 f2 l_91 f3 l_86 fs0 f_184 hQ h
      · have h := it_n hp_182 h
        refine go_iconst (n := 1) (z := 1) (by decide +kernel) (by decide) fun v_185 f_186 => ?_
        refine go_goto (o := 4) (t := 72) (by decide +kernel) (by decide +kernel) ?_
        exact oj_X12_patches_72 hd R_179 l_88 f0 l_89 f1 l_90 f2 l_91 f3 l_86 fs0 f_186 hQ h
noncomputable def fm_X12_patches (p1 p2 p3 : Int) (m0 : MM) : Option (Int × MM) := lx (m0 68 110) fun x_4 =>
if iAnd (iShr x_4 p2) 1 = 0 then
bd (fm_X12_nextCommand m0) fun x_59 m_60 =>
lx (m_60 68 124) fun x_80 =>
if x_59 < x_80 then
fj_X12_patches_31 p1 p2 p3 x_59 1 m_60
else
fj_X12_patches_31 p1 p2 p3 x_59 0 m_60
else
fj_X12_patches_116 p1 p2 p3 m0
set_option maxHeartbeats 4000000 in
theorem om_X12_patches {xs : List Int32} {d : Nat} {S : QS} {m0 : MM} {p1 p2 p3 : Int} {v0 : Value} {v1 : Value} {v2 : Value} {v3 : Value} {rz : Int} {rm : MM}
  (hd : 5 ≤ d) (R : Rp S m0) (f0 : q_is 2 v0 68) (f1 : q_is 0 v1 p1) (f2 : q_is 0 v2 p2) (f3 : q_is 0 v3 p3)
  (h : fm_X12_patches p1 p2 p3 m0 = some (rz, rm)) : Mt xs d 237 [v0, v1, v2, v3] S (Cr 9 m0 rm rz) := by
  obtain ⟨d, rfl⟩ : ∃ e, d = e + 1 := ⟨d - 1, by omega⟩
  have hd : 4 ≤ d := Nat.le_of_succ_le_succ hd
  refine Mt.of (M := qM_X12_patches) rfl (by rw [sl_1 (q_is_cat f0 (Or.inr rfl)), sl_1 (q_is_cat f1 (Or.inl rfl)), sl_1 (q_is_cat f2 (Or.inl rfl)), sl_1 (q_is_cat f3 (Or.inl rfl)), sl_0]; decide) ?_
  rw [la_1 (q_is_cat f0 (Or.inr rfl)), la_1 (q_is_cat f1 (Or.inl rfl)), la_1 (q_is_cat f2 (Or.inl rfl)), la_1 (q_is_cat f3 (Or.inl rfl)), la_0]
  obtain ⟨L, hL⟩ : ∃ L : QL, L = [(0, v0), (0 + 1, v1), (0 + 1 + 1, v2), (0 + 1 + 1 + 1, v3)] := ⟨_, rfl⟩
  rw [← hL]
  have l0 : q_lo L 0 = some v0 := by rw [hL]; rfl
  have l1 : q_lo L 1 = some v1 := by rw [hL]; rfl
  have l2 : q_lo L 2 = some v2 := by rw [hL]; rfl
  have l3 : q_lo L 3 = some v3 := by rw [hL]; rfl
  have hQ : Ext m0 rm → ∀ o S1, Rp S1 rm → q_out 9 o rz → (Cr 9 m0 rm rz) o S1 := fun a o S1 b e => ⟨b, a, e⟩
  unfold fm_X12_patches at h
  refine go_aload_n (n := 0) (by decide +kernel) l0 f0 ?_
  obtain ⟨x_4, e_5, h⟩ := lx_s h
  refine go_getf (x := 465) (ci := 13) (kf := 110) (fin := 0) (t := 0) (by decide +kernel) (by decide +kernel) (by decide +kernel) R f0 (fx_k (c := 13) R (by decide +kernel)) fun v_1 f_2 => ?_
  have f_3 := q_is_eq f_2 e_5
  refine go_iload_n (n := 2) (by decide +kernel) l2 f2 ?_
  refine go_ishr (by decide +kernel) f_3 f2 fun v_6 f_7 => ?_
  refine go_iconst (n := 1) (z := 1) (by decide +kernel) (by decide) fun v_8 f_9 => ?_
  refine go_iand (by decide +kernel) f_7 f_9 fun v_10 f_11 => ?_
  refine go_if (c := .ne) (o := 108) (t := 116) (P := ¬ (iAnd (iShr x_4 p2) 1 = 0)) (by decide +kernel) (by decide +kernel) f_11 (Iff.rfl) (fun hp_12 => ?_) (fun hp_12 => ?_)
  · have h := it_f hp_12 h
    exact oj_X12_patches_116 hd R l0 f0 l1 f1 l2 f2 l3 f3 hQ h
  · have h := it_n hp_12 h
    refine go_aload_n (n := 0) (by decide +kernel) l0 f0 ?_
    obtain ⟨x_59, m_60, hc_58, h⟩ := bd_s h
    refine go_callV (x := 393) (mi := 219) (n := 0) (ci := 13) (as := []) (rest := []) (by decide +kernel) (by decide +kernel) rfl rfl (q_sum8 _ (Nat.le_of_ble_eq_true rfl)) R f0 (fx_k (c := 13) R (by decide +kernel)) (om_X12_nextCommand (Nat.le_trans (by decide) hd) R f0 hc_58) (fun _ S_63 q_66 => ?_) (fun _ _ qq => kr_x qq)
    refine kr_z (by decide) q_66 fun v_61 f_62 R_64 E_65 => ?_
    have E_69 := E_65
    refine go_istore (n := 4) (by decide +kernel) (by decide +kernel) f_62 fun L_70 l_71 kp_72 => ?_
    have l_73 := kp_72 0 _ l0 (by decide) (Or.inl (by decide))
    have l_74 := kp_72 1 _ l1 (by decide) (Or.inl (by decide))
    have l_75 := kp_72 2 _ l2 (by decide) (Or.inl (by decide))
    have l_76 := kp_72 3 _ l3 (by decide) (Or.inr (q_is_cat f3 (Or.inl rfl)))
    refine go_iload (n := 4) (by decide +kernel) l_71 f_62 ?_
    refine go_aload_n (n := 0) (by decide +kernel) l_73 f0 ?_
    obtain ⟨x_80, e_81, h⟩ := lx_s h
    refine go_getf (x := 384) (ci := 13) (kf := 124) (fin := 0) (t := 0) (by decide +kernel) (by decide +kernel) (by decide +kernel) R_64 f0 (fx_k (c := 13) R_64 (by decide +kernel)) fun v_77 f_78 => ?_
    have f_79 := q_is_eq f_78 e_81
    refine go_icmp (c := .ge) (o := 7) (t := 30) (P := ¬ (x_59 < x_80)) (by decide +kernel) (by decide +kernel) f_62 f_79 (Int.not_lt.symm) (fun hp_82 => ?_) (fun hp_82 => ?_)
    · have h := it_f hp_82 h
      refine go_iconst (n := 0) (z := 0) (by decide +kernel) (by decide) fun v_83 f_84 => ?_
      exact oj_X12_patches_31 hd R_64 l_73 f0 l_74 f1 l_75 f2 l_76 f3 l_71 f_62 f_84 (fun b => hQ (Ext.tr E_69 b)) h
    · have h := it_n hp_82 h
      refine go_iconst (n := 1) (z := 1) (by decide +kernel) (by decide) fun v_187 f_188 => ?_
      refine go_goto (o := 4) (t := 31) (by decide +kernel) (by decide +kernel) ?_
      exact oj_X12_patches_31 hd R_64 l_73 f0 l_74 f1 l_75 f2 l_76 f3 l_71 f_62 f_188 (fun b => hQ (Ext.tr E_69 b)) h
noncomputable def fj_X12_bares_31 (y1 s0 s1 s2 : Int) (m : MM) : Option (Int × MM) := gd (0 ≤ s2 ∧ s2 < 12) <| up m 150 s2 (w32 (s1 - s0)) fun m_41 =>
gd (0 ≤ y1 ∧ y1 < 12) <| lx (m_41 151 y1) fun x_55 =>
if x_55 = 0 then
some (0, m_41)
else
lx (m_41 150 y1) fun x_64 =>
if x_64 = 0 then
bd (fm_X12_cancelsBranch y1 m_41) fun x_68 m_69 =>
some (0, m_69)
else
some (0, m_41)
set_option maxHeartbeats 4000000 in
theorem oj_X12_bares_31 {xs : List Int32} {d : Nat} {S : QS} {L : QL} {Q : QO → QS → Prop} {m : MM} {y1 s0 s1 s2 : Int} {v0 : Value} {v1 : Value} {w0 : Value} {w1 : Value} {w2 : Value} {w3 : Value}  {rz : Int} {rm : MM}
  (hd : 7 ≤ d) (R : Rp S m) (l0 : q_lo L 0 = some v0) (f0 : q_is 2 v0 68) (l1 : q_lo L 1 = some v1) (f1 : q_is 0 v1 y1) (fs0 : q_is 0 w0 s0) (fs1 : q_is 0 w1 s1) (fs2 : q_is 0 w2 s2) (fs3 : q_is 2 w3 150)
  (hQ : Ext m rm → ∀ o S1, Rp S1 rm → q_out 9 o rz → Q o S1)
  (h : fj_X12_bares_31 y1 s0 s1 s2 m = some (rz, rm)) : Go xs d qM_X12_bares 31 L [w0, w1, w2, w3] S Q := by
  unfold fj_X12_bares_31 at h
  refine go_isub (by decide +kernel) fs1 fs0 fun v_38 f_39 => ?_
  obtain ⟨g_40, h⟩ := gd_s h
  obtain ⟨m_41, e_42, h⟩ := up_s h
  refine go_iast (kd := 100) (by decide +kernel) rfl R fs3 fs2 f_39 (fx_k (c := 100) R (by decide +kernel)) (fx_x (a := 150) (ln := 12) R (by decide +kernel) g_40) e_42 (fx_a R.2 (fx_k (c := 100) R (by decide +kernel)) (And.left (fx_x (a := 150) (ln := 12) R (by decide +kernel) g_40)) (by decide +kernel)) fun S_43 R_44 E_45 => ?_
  have E_47 := E_45
  refine go_aload_n (n := 0) (by decide +kernel) l0 f0 ?_
  refine go_getf (x := 268) (ci := 13) (kf := 101) (fin := 1) (t := 2) (by decide +kernel) (by decide +kernel) (by decide +kernel) R_44 f0 (fx_k (c := 13) R_44 (by decide +kernel)) fun v_48 f_49 => ?_
  have f_50 := q_is_eq (b := 151) f_49 (fx_v R_44 (by decide +kernel)).symm
  refine go_iload_n (n := 1) (by decide +kernel) l1 f1 ?_
  obtain ⟨g_53, h⟩ := gd_s h
  obtain ⟨x_55, e_56, h⟩ := lx_s h
  refine go_bald (kd := 102) (by decide +kernel) rfl R_44 f_50 f1 (fx_k (c := 102) R_44 (by decide +kernel)) (fx_x (a := 151) (ln := 12) R_44 (by decide +kernel) g_53) fun v_51 f_52 => ?_
  have f_54 := q_is_eq f_52 e_56
  refine go_if (c := .eq) (o := 17) (t := 56) (P := x_55 = 0) (by decide +kernel) (by decide +kernel) f_54 (Iff.rfl) (fun hp_57 => ?_) (fun hp_57 => ?_)
  · have h := it_t hp_57 h
    cases h
    exact go_vret (by decide +kernel) rfl (hQ E_47 _ _ R_44 q_out_n)
  · have h := it_f hp_57 h
    refine go_aload_n (n := 0) (by decide +kernel) l0 f0 ?_
    refine go_getf (x := 265) (ci := 13) (kf := 100) (fin := 1) (t := 2) (by decide +kernel) (by decide +kernel) (by decide +kernel) R_44 f0 (fx_k (c := 13) R_44 (by decide +kernel)) fun v_58 f_59 => ?_
    have f_60 := q_is_eq (b := 150) f_59 (fx_v R_44 (by decide +kernel)).symm
    refine go_iload_n (n := 1) (by decide +kernel) l1 f1 ?_
    obtain ⟨x_64, e_65, h⟩ := lx_s h
    refine go_iald (kd := 100) (by decide +kernel) rfl R_44 f_60 f1 (fx_k (c := 100) R_44 (by decide +kernel)) (fx_x (a := 150) (ln := 12) R_44 (by decide +kernel) g_53) fun v_61 f_62 => ?_
    have f_63 := q_is_eq f_62 e_65
    refine go_if (c := .ne) (o := 8) (t := 56) (P := ¬ (x_64 = 0)) (by decide +kernel) (by decide +kernel) f_63 (Iff.rfl) (fun hp_66 => ?_) (fun hp_66 => ?_)
    · have h := it_f hp_66 h
      cases h
      exact go_vret (by decide +kernel) rfl (hQ E_47 _ _ R_44 q_out_n)
    · have h := it_n hp_66 h
      refine go_aload_n (n := 0) (by decide +kernel) l0 f0 ?_
      refine go_iload_n (n := 1) (by decide +kernel) l1 f1 ?_
      obtain ⟨x_68, m_69, hc_67, h⟩ := bd_s h
      refine go_callV (x := 468) (mi := 229) (n := 1) (ci := 13) (as := [v1]) (rest := []) (by decide +kernel) (by decide +kernel) rfl rfl (q_sum8 _ (Nat.le_of_ble_eq_true rfl)) R_44 f0 (fx_k (c := 13) R_44 (by decide +kernel)) (om_X12_cancelsBranch (Nat.le_trans (by decide) hd) R_44 f0 f1 hc_67) (fun _ S_72 q_75 => ?_) (fun _ _ qq => kr_x qq)
      refine kr_v q_75 fun R_73 E_74 => ?_
      have E_78 := Ext.tr E_47 E_74
      cases h
      exact go_vret (by decide +kernel) rfl (hQ E_78 _ _ R_73 q_out_n)
noncomputable def fm_X12_bares (p1 : Int) (m0 : MM) : Option (Int × MM) := gd (0 ≤ p1 ∧ p1 < 12) <| lx (m0 144 p1) fun x_8 =>
up m0 144 p1 (w32 (x_8 + 1)) fun m_14 =>
lx (m_14 150 p1) fun x_27 =>
if 0 < x_27 then
fj_X12_bares_31 p1 1 x_27 p1 m_14
else
fj_X12_bares_31 p1 0 x_27 p1 m_14
set_option maxHeartbeats 4000000 in
theorem om_X12_bares {xs : List Int32} {d : Nat} {S : QS} {m0 : MM} {p1 : Int} {v0 : Value} {v1 : Value} {rz : Int} {rm : MM}
  (hd : 8 ≤ d) (R : Rp S m0) (f0 : q_is 2 v0 68) (f1 : q_is 0 v1 p1)
  (h : fm_X12_bares p1 m0 = some (rz, rm)) : Mt xs d 238 [v0, v1] S (Cr 9 m0 rm rz) := by
  obtain ⟨d, rfl⟩ : ∃ e, d = e + 1 := ⟨d - 1, by omega⟩
  have hd : 7 ≤ d := Nat.le_of_succ_le_succ hd
  refine Mt.of (M := qM_X12_bares) rfl (by rw [sl_1 (q_is_cat f0 (Or.inr rfl)), sl_1 (q_is_cat f1 (Or.inl rfl)), sl_0]; decide) ?_
  rw [la_1 (q_is_cat f0 (Or.inr rfl)), la_1 (q_is_cat f1 (Or.inl rfl)), la_0]
  obtain ⟨L, hL⟩ : ∃ L : QL, L = [(0, v0), (0 + 1, v1)] := ⟨_, rfl⟩
  rw [← hL]
  have l0 : q_lo L 0 = some v0 := by rw [hL]; rfl
  have l1 : q_lo L 1 = some v1 := by rw [hL]; rfl
  have hQ : Ext m0 rm → ∀ o S1, Rp S1 rm → q_out 9 o rz → (Cr 9 m0 rm rz) o S1 := fun a o S1 b e => ⟨b, a, e⟩
  unfold fm_X12_bares at h
  refine go_aload_n (n := 0) (by decide +kernel) l0 f0 ?_
  refine go_getf (x := 247) (ci := 13) (kf := 94) (fin := 1) (t := 2) (by decide +kernel) (by decide +kernel) (by decide +kernel) R f0 (fx_k (c := 13) R (by decide +kernel)) fun v_1 f_2 => ?_
  have f_3 := q_is_eq (b := 144) f_2 (fx_v R (by decide +kernel)).symm
  refine go_iload_n (n := 1) (by decide +kernel) l1 f1 ?_
  refine go_dup2 (by decide +kernel) f1 (Or.inl rfl) f_3 (Or.inr rfl) ?_
  obtain ⟨g_6, h⟩ := gd_s h
  obtain ⟨x_8, e_9, h⟩ := lx_s h
  refine go_iald (kd := 100) (by decide +kernel) rfl R f_3 f1 (fx_k (c := 100) R (by decide +kernel)) (fx_x (a := 144) (ln := 12) R (by decide +kernel) g_6) fun v_4 f_5 => ?_
  have f_7 := q_is_eq f_5 e_9
  refine go_iconst (n := 1) (z := 1) (by decide +kernel) (by decide) fun v_10 f_11 => ?_
  refine go_iadd (by decide +kernel) f_7 f_11 fun v_12 f_13 => ?_
  obtain ⟨m_14, e_15, h⟩ := up_s h
  refine go_iast (kd := 100) (by decide +kernel) rfl R f_3 f1 f_13 (fx_k (c := 100) R (by decide +kernel)) (fx_x (a := 144) (ln := 12) R (by decide +kernel) g_6) e_15 (fx_a R.2 (fx_k (c := 100) R (by decide +kernel)) (And.left (fx_x (a := 144) (ln := 12) R (by decide +kernel) g_6)) (by decide +kernel)) fun S_16 R_17 E_18 => ?_
  have E_20 := E_18
  refine go_aload_n (n := 0) (by decide +kernel) l0 f0 ?_
  refine go_getf (x := 265) (ci := 13) (kf := 100) (fin := 1) (t := 2) (by decide +kernel) (by decide +kernel) (by decide +kernel) R_17 f0 (fx_k (c := 13) R_17 (by decide +kernel)) fun v_21 f_22 => ?_
  have f_23 := q_is_eq (b := 150) f_22 (fx_v R_17 (by decide +kernel)).symm
  refine go_iload_n (n := 1) (by decide +kernel) l1 f1 ?_
  refine go_dup2 (by decide +kernel) f1 (Or.inl rfl) f_23 (Or.inr rfl) ?_
  obtain ⟨x_27, e_28, h⟩ := lx_s h
  refine go_iald (kd := 100) (by decide +kernel) rfl R_17 f_23 f1 (fx_k (c := 100) R_17 (by decide +kernel)) (fx_x (a := 150) (ln := 12) R_17 (by decide +kernel) g_6) fun v_24 f_25 => ?_
  have f_26 := q_is_eq f_25 e_28
  refine go_aload_n (n := 0) (by decide +kernel) l0 f0 ?_
  refine go_getf (x := 265) (ci := 13) (kf := 100) (fin := 1) (t := 2) (by decide +kernel) (by decide +kernel) (by decide +kernel) R_17 f0 (fx_k (c := 13) R_17 (by decide +kernel)) fun v_29 f_30 => ?_
  have f_31 := q_is_eq (b := 150) f_30 (fx_v R_17 (by decide +kernel)).symm
  refine go_iload_n (n := 1) (by decide +kernel) l1 f1 ?_
  refine go_iald (kd := 100) (by decide +kernel) rfl R_17 f_31 f1 (fx_k (c := 100) R_17 (by decide +kernel)) (fx_x (a := 150) (ln := 12) R_17 (by decide +kernel) g_6) fun v_32 f_33 => ?_
  have f_34 := q_is_eq f_33 e_28
  refine go_if (c := .le) (o := 7) (t := 30) (P := ¬ (0 < x_27)) (by decide +kernel) (by decide +kernel) f_34 (Int.not_lt.symm) (fun hp_35 => ?_) (fun hp_35 => ?_)
  · have h := it_f hp_35 h
    refine go_iconst (n := 0) (z := 0) (by decide +kernel) (by decide) fun v_36 f_37 => ?_
    exact oj_X12_bares_31 hd R_17 l0 f0 l1 f1 f_37 f_26 f1 f_23 (fun b => hQ (Ext.tr E_20 b)) h
  · have h := it_n hp_35 h
    refine go_iconst (n := 1) (z := 1) (by decide +kernel) (by decide) fun v_79 f_80 => ?_
    refine go_goto (o := 4) (t := 31) (by decide +kernel) (by decide +kernel) ?_
    exact oj_X12_bares_31 hd R_17 l0 f0 l1 f1 f_80 f_26 f1 f_23 (fun b => hQ (Ext.tr E_20 b)) h
noncomputable def fj_X12_doesMore_150 (y1 s0 s1 : Int) (m : MM) : Option (Int × MM) := gd (0 ≤ s1 ∧ s1 < 12) <| up m 148 s1 s0 fun m_129 =>
gd (0 ≤ y1 ∧ y1 < 12) <| lx (m_129 144 y1) fun x_143 =>
up m_129 144 y1 (w32 (x_143 + 1)) fun m_149 =>
some (0, m_149)
set_option maxHeartbeats 4000000 in
theorem oj_X12_doesMore_150 {xs : List Int32} {d : Nat} {S : QS} {L : QL} {Q : QO → QS → Prop} {m : MM} {y1 s0 s1 : Int} {v0 : Value} {v1 : Value} {w0 : Value} {w1 : Value} {w2 : Value}  {rz : Int} {rm : MM}
  (hd : 8 ≤ d) (R : Rp S m) (l0 : q_lo L 0 = some v0) (f0 : q_is 2 v0 68) (l1 : q_lo L 1 = some v1) (f1 : q_is 0 v1 y1) (fs0 : q_is 0 w0 s0) (fs1 : q_is 0 w1 s1) (fs2 : q_is 2 w2 148)
  (hQ : Ext m rm → ∀ o S1, Rp S1 rm → q_out 9 o rz → Q o S1)
  (h : fj_X12_doesMore_150 y1 s0 s1 m = some (rz, rm)) : Go xs d qM_X12_doesMore 150 L [w0, w1, w2] S Q := by
  unfold fj_X12_doesMore_150 at h
  obtain ⟨g_128, h⟩ := gd_s h
  obtain ⟨m_129, e_130, h⟩ := up_s h
  refine go_iast (kd := 100) (by decide +kernel) rfl R fs2 fs1 fs0 (fx_k (c := 100) R (by decide +kernel)) (fx_x (a := 148) (ln := 12) R (by decide +kernel) g_128) e_130 (fx_a R.2 (fx_k (c := 100) R (by decide +kernel)) (And.left (fx_x (a := 148) (ln := 12) R (by decide +kernel) g_128)) (by decide +kernel)) fun S_131 R_132 E_133 => ?_
  have E_135 := E_133
  refine go_aload_n (n := 0) (by decide +kernel) l0 f0 ?_
  refine go_getf (x := 247) (ci := 13) (kf := 94) (fin := 1) (t := 2) (by decide +kernel) (by decide +kernel) (by decide +kernel) R_132 f0 (fx_k (c := 13) R_132 (by decide +kernel)) fun v_136 f_137 => ?_
  have f_138 := q_is_eq (b := 144) f_137 (fx_v R_132 (by decide +kernel)).symm
  refine go_iload_n (n := 1) (by decide +kernel) l1 f1 ?_
  refine go_dup2 (by decide +kernel) f1 (Or.inl rfl) f_138 (Or.inr rfl) ?_
  obtain ⟨g_141, h⟩ := gd_s h
  obtain ⟨x_143, e_144, h⟩ := lx_s h
  refine go_iald (kd := 100) (by decide +kernel) rfl R_132 f_138 f1 (fx_k (c := 100) R_132 (by decide +kernel)) (fx_x (a := 144) (ln := 12) R_132 (by decide +kernel) g_141) fun v_139 f_140 => ?_
  have f_142 := q_is_eq f_140 e_144
  refine go_iconst (n := 1) (z := 1) (by decide +kernel) (by decide) fun v_145 f_146 => ?_
  refine go_iadd (by decide +kernel) f_142 f_146 fun v_147 f_148 => ?_
  obtain ⟨m_149, e_150, h⟩ := up_s h
  refine go_iast (kd := 100) (by decide +kernel) rfl R_132 f_138 f1 f_148 (fx_k (c := 100) R_132 (by decide +kernel)) (fx_x (a := 144) (ln := 12) R_132 (by decide +kernel) g_141) e_150 (fx_a R_132.2 (fx_k (c := 100) R_132 (by decide +kernel)) (And.left (fx_x (a := 144) (ln := 12) R_132 (by decide +kernel) g_141)) (by decide +kernel)) fun S_151 R_152 E_153 => ?_
  have E_155 := Ext.tr E_135 E_153
  refine go_goto (o := 175) (t := 336) (by decide +kernel) (by decide +kernel) ?_
  cases h
  exact go_vret (by decide +kernel) rfl (hQ E_155 _ _ R_152 q_out_n)
noncomputable def fm_X12_doesMore (p1 p2 p3 p4 : Int) (m0 : MM) : Option (Int × MM) := if p2 = 12 then
lx (m0 68 103) fun x_9 =>
gd (0 ≤ p1 ∧ p1 < 12) <| lx (m0 148 p1) fun x_20 =>
gd (0 ≤ x_9 ∧ x_9 < 196608) <| up m0 153 x_9 (w32 ((w32 (24 * (w32 (x_20 + 1)))) + p3)) fun m_31 =>
lx (m_31 68 103) fun x_44 =>
up m_31 148 p1 x_44 fun m_46 =>
lx (m_46 68 103) fun x_56 =>
up m_46 68 103 (w32 (x_56 + 1)) fun m_62 =>
lx (m_62 144 p1) fun x_75 =>
up m_62 144 p1 (w32 (x_75 + 1)) fun m_81 =>
some (0, m_81)
else if p2 = 13 then
gd (0 ≤ p1 ∧ p1 < 12) <| lx (m0 148 p1) fun x_100 =>
if x_100 = (-1) then
fj_X12_doesMore_150 p1 (-1) p1 m0
else
gd (0 ≤ x_100 ∧ x_100 < 196608) <| lx (m0 153 x_100) fun x_118 =>
fj_X12_doesMore_150 p1 (w32 ((w32 (Int.tdiv x_118 24)) - 1)) p1 m0
else if p2 = 14 then
lx (m0 68 105) fun x_166 =>
gd (0 ≤ p4 ∧ p4 < 6) <| lx (m0 142 p4) fun x_177 =>
gd (0 ≤ x_166 ∧ x_166 < 196608) <| up m0 154 x_166 (w32 ((w32 (10 * x_177)) + p3)) fun m_184 =>
lx (m_184 68 105) fun x_194 =>
up m_184 68 105 (w32 (x_194 + 1)) fun m_200 =>
gd (0 ≤ p1 ∧ p1 < 12) <| lx (m_200 144 p1) fun x_214 =>
up m_200 144 p1 (w32 (x_214 + 1)) fun m_220 =>
some (0, m_220)
else if p2 = 15 then
bd (fm_X12_undoes p1 m0) fun x_230 m_231 =>
some (0, m_231)
else if p2 = 16 then
bd (fm_X12_endsBranch p1 m0) fun x_244 m_245 =>
some (0, m_245)
else if p2 = 17 then
bd (fm_X12_failsBranch p1 m0) fun x_258 m_259 =>
some (0, m_259)
else if p2 = 18 then
gd (0 ≤ p3 ∧ p3 < 6) <| lx (m0 142 p3) fun x_280 =>
bd (fm_X12_endsRun 16 x_280 m0) fun x_283 m_284 =>
some (0, m_284)
else if p2 = 19 then
bd (fm_X12_patches p1 p3 p4 m0) fun x_297 m_298 =>
some (0, m_298)
else if p2 = 20 then
lx (m0 68 118) fun x_316 =>
gd (0 ≤ p3 ∧ p3 < 6) <| up m0 142 p3 x_316 fun m_319 =>
gd (0 ≤ p1 ∧ p1 < 12) <| lx (m_319 144 p1) fun x_333 =>
up m_319 144 p1 (w32 (x_333 + 1)) fun m_339 =>
some (0, m_339)
else if p2 = 21 then
gd (0 ≤ p1 ∧ p1 < 12) <| lx (m0 150 p1) fun x_355 =>
up m0 150 p1 (w32 (x_355 + 1)) fun m_361 =>
lx (m_361 144 p1) fun x_374 =>
up m_361 144 p1 (w32 (x_374 + 1)) fun m_380 =>
some (0, m_380)
else if p2 = 22 then
bd (fm_X12_bares p1 m0) fun x_390 m_391 =>
some (0, m_391)
else 
gd (0 ≤ p3 ∧ p3 < 6) <| lx (m0 142 p3) fun x_410 =>
bd (fm_X12_commands 13 x_410 0 m0) fun x_415 m_416 =>
gd (0 ≤ p1 ∧ p1 < 12) <| lx (m_416 144 p1) fun x_433 =>
up m_416 144 p1 (w32 (x_433 + 1)) fun m_439 =>
some (0, m_439)
set_option maxHeartbeats 4000000 in
theorem om_X12_doesMore {xs : List Int32} {d : Nat} {S : QS} {m0 : MM} {p1 p2 p3 p4 : Int} {v0 : Value} {v1 : Value} {v2 : Value} {v3 : Value} {v4 : Value} {rz : Int} {rm : MM}
  (hd : 9 ≤ d) (R : Rp S m0) (f0 : q_is 2 v0 68) (f1 : q_is 0 v1 p1) (f2 : q_is 0 v2 p2) (f3 : q_is 0 v3 p3) (f4 : q_is 0 v4 p4)
  (h : fm_X12_doesMore p1 p2 p3 p4 m0 = some (rz, rm)) : Mt xs d 240 [v0, v1, v2, v3, v4] S (Cr 9 m0 rm rz) := by
  obtain ⟨d, rfl⟩ : ∃ e, d = e + 1 := ⟨d - 1, by omega⟩
  have hd : 8 ≤ d := Nat.le_of_succ_le_succ hd
  refine Mt.of (M := qM_X12_doesMore) rfl (by rw [sl_1 (q_is_cat f0 (Or.inr rfl)), sl_1 (q_is_cat f1 (Or.inl rfl)), sl_1 (q_is_cat f2 (Or.inl rfl)), sl_1 (q_is_cat f3 (Or.inl rfl)), sl_1 (q_is_cat f4 (Or.inl rfl)), sl_0]; decide) ?_
  rw [la_1 (q_is_cat f0 (Or.inr rfl)), la_1 (q_is_cat f1 (Or.inl rfl)), la_1 (q_is_cat f2 (Or.inl rfl)), la_1 (q_is_cat f3 (Or.inl rfl)), la_1 (q_is_cat f4 (Or.inl rfl)), la_0]
  obtain ⟨L, hL⟩ : ∃ L : QL, L = [(0, v0), (0 + 1, v1), (0 + 1 + 1, v2), (0 + 1 + 1 + 1, v3), (0 + 1 + 1 + 1 + 1, v4)] := ⟨_, rfl⟩
  rw [← hL]
  have l0 : q_lo L 0 = some v0 := by rw [hL]; rfl
  have l1 : q_lo L 1 = some v1 := by rw [hL]; rfl
  have l2 : q_lo L 2 = some v2 := by rw [hL]; rfl
  have l3 : q_lo L 3 = some v3 := by rw [hL]; rfl
  have l4 : q_lo L 4 = some v4 := by rw [hL]; rfl
  have hQ : Ext m0 rm → ∀ o S1, Rp S1 rm → q_out 9 o rz → (Cr 9 m0 rm rz) o S1 := fun a o S1 b e => ⟨b, a, e⟩
  unfold fm_X12_doesMore at h
  refine go_iload_n (n := 2) (by decide +kernel) l2 f2 ?_
  by_cases hp_2 : p2 = 12
  · have h := it_t hp_2 h
    refine go_tsin (dflt := 311) (lo := 12) (hi := 22) (offs := #[59, 114, 163, 207, 215, 223, 231, 246, 257, 280, 303]) (o := 59) (t := 60) (by decide +kernel) f2 (by omega) (by omega) (by rw [hp_2]; decide) (by decide +kernel) ?_
    refine go_aload_n (n := 0) (by decide +kernel) l0 f0 ?_
    refine go_getf (x := 275) (ci := 13) (kf := 104) (fin := 1) (t := 2) (by decide +kernel) (by decide +kernel) (by decide +kernel) R f0 (fx_k (c := 13) R (by decide +kernel)) fun v_3 f_4 => ?_
    have f_5 := q_is_eq (b := 153) f_4 (fx_v R (by decide +kernel)).symm
    refine go_aload_n (n := 0) (by decide +kernel) l0 f0 ?_
    obtain ⟨x_9, e_10, h⟩ := lx_s h
    refine go_getf (x := 483) (ci := 13) (kf := 103) (fin := 0) (t := 0) (by decide +kernel) (by decide +kernel) (by decide +kernel) R f0 (fx_k (c := 13) R (by decide +kernel)) fun v_6 f_7 => ?_
    have f_8 := q_is_eq f_7 e_10
    refine go_bipush (n := 24) (z := 24) (by decide +kernel) (by decide) fun v_11 f_12 => ?_
    refine go_aload_n (n := 0) (by decide +kernel) l0 f0 ?_
    refine go_getf (x := 259) (ci := 13) (kf := 98) (fin := 1) (t := 2) (by decide +kernel) (by decide +kernel) (by decide +kernel) R f0 (fx_k (c := 13) R (by decide +kernel)) fun v_13 f_14 => ?_
    have f_15 := q_is_eq (b := 148) f_14 (fx_v R (by decide +kernel)).symm
    refine go_iload_n (n := 1) (by decide +kernel) l1 f1 ?_
    obtain ⟨g_18, h⟩ := gd_s h
    obtain ⟨x_20, e_21, h⟩ := lx_s h
    refine go_iald (kd := 100) (by decide +kernel) rfl R f_15 f1 (fx_k (c := 100) R (by decide +kernel)) (fx_x (a := 148) (ln := 12) R (by decide +kernel) g_18) fun v_16 f_17 => ?_
    have f_19 := q_is_eq f_17 e_21
    refine go_iconst (n := 1) (z := 1) (by decide +kernel) (by decide) fun v_22 f_23 => ?_
    refine go_iadd (by decide +kernel) f_19 f_23 fun v_24 f_25 => ?_
    refine go_imul (by decide +kernel) f_12 f_25 fun v_26 f_27 => ?_
    refine go_iload_n (n := 3) (by decide +kernel) l3 f3 ?_
    refine go_iadd (by decide +kernel) f_27 f3 fun v_28 f_29 => ?_
    obtain ⟨g_30, h⟩ := gd_s h
    obtain ⟨m_31, e_32, h⟩ := up_s h
    refine go_iast (kd := 100) (by decide +kernel) rfl R f_5 f_8 f_29 (fx_k (c := 100) R (by decide +kernel)) (fx_x (a := 153) (ln := 196608) R (by decide +kernel) g_30) e_32 (fx_a R.2 (fx_k (c := 100) R (by decide +kernel)) (And.left (fx_x (a := 153) (ln := 196608) R (by decide +kernel) g_30)) (by decide +kernel)) fun S_33 R_34 E_35 => ?_
    have E_37 := E_35
    refine go_aload_n (n := 0) (by decide +kernel) l0 f0 ?_
    refine go_getf (x := 259) (ci := 13) (kf := 98) (fin := 1) (t := 2) (by decide +kernel) (by decide +kernel) (by decide +kernel) R_34 f0 (fx_k (c := 13) R_34 (by decide +kernel)) fun v_38 f_39 => ?_
    have f_40 := q_is_eq (b := 148) f_39 (fx_v R_34 (by decide +kernel)).symm
    refine go_iload_n (n := 1) (by decide +kernel) l1 f1 ?_
    refine go_aload_n (n := 0) (by decide +kernel) l0 f0 ?_
    obtain ⟨x_44, e_45, h⟩ := lx_s h
    refine go_getf (x := 483) (ci := 13) (kf := 103) (fin := 0) (t := 0) (by decide +kernel) (by decide +kernel) (by decide +kernel) R_34 f0 (fx_k (c := 13) R_34 (by decide +kernel)) fun v_41 f_42 => ?_
    have f_43 := q_is_eq f_42 e_45
    obtain ⟨m_46, e_47, h⟩ := up_s h
    refine go_iast (kd := 100) (by decide +kernel) rfl R_34 f_40 f1 f_43 (fx_k (c := 100) R_34 (by decide +kernel)) (fx_x (a := 148) (ln := 12) R_34 (by decide +kernel) g_18) e_47 (fx_a R_34.2 (fx_k (c := 100) R_34 (by decide +kernel)) (And.left (fx_x (a := 148) (ln := 12) R_34 (by decide +kernel) g_18)) (by decide +kernel)) fun S_48 R_49 E_50 => ?_
    have E_52 := Ext.tr E_37 E_50
    refine go_aload_n (n := 0) (by decide +kernel) l0 f0 ?_
    refine go_dup (by decide +kernel) f0 (Or.inr rfl) ?_
    obtain ⟨x_56, e_57, h⟩ := lx_s h
    refine go_getf (x := 483) (ci := 13) (kf := 103) (fin := 0) (t := 0) (by decide +kernel) (by decide +kernel) (by decide +kernel) R_49 f0 (fx_k (c := 13) R_49 (by decide +kernel)) fun v_53 f_54 => ?_
    have f_55 := q_is_eq f_54 e_57
    refine go_iconst (n := 1) (z := 1) (by decide +kernel) (by decide) fun v_58 f_59 => ?_
    refine go_iadd (by decide +kernel) f_55 f_59 fun v_60 f_61 => ?_
    obtain ⟨m_62, e_63, h⟩ := up_s h
    refine go_putf (x := 483) (ci := 13) (kf := 103) (fin := 0) (zt := 0) (by decide +kernel) (by decide +kernel) (by decide) (by decide +kernel) (by decide) (Or.inl rfl) R_49 f0 f_61 (fun hq => absurd hq (by decide)) (fx_k (c := 13) R_49 (by decide +kernel)) e_63 (fx_f (j := 103) R_49.2 (fx_k (c := 13) R_49 (by decide +kernel)) (by decide +kernel)) fun S_64 R_65 E_66 => ?_
    have E_68 := Ext.tr E_52 E_66
    refine go_aload_n (n := 0) (by decide +kernel) l0 f0 ?_
    refine go_getf (x := 247) (ci := 13) (kf := 94) (fin := 1) (t := 2) (by decide +kernel) (by decide +kernel) (by decide +kernel) R_65 f0 (fx_k (c := 13) R_65 (by decide +kernel)) fun v_69 f_70 => ?_
    have f_71 := q_is_eq (b := 144) f_70 (fx_v R_65 (by decide +kernel)).symm
    refine go_iload_n (n := 1) (by decide +kernel) l1 f1 ?_
    refine go_dup2 (by decide +kernel) f1 (Or.inl rfl) f_71 (Or.inr rfl) ?_
    obtain ⟨x_75, e_76, h⟩ := lx_s h
    refine go_iald (kd := 100) (by decide +kernel) rfl R_65 f_71 f1 (fx_k (c := 100) R_65 (by decide +kernel)) (fx_x (a := 144) (ln := 12) R_65 (by decide +kernel) g_18) fun v_72 f_73 => ?_
    have f_74 := q_is_eq f_73 e_76
    refine go_iconst (n := 1) (z := 1) (by decide +kernel) (by decide) fun v_77 f_78 => ?_
    refine go_iadd (by decide +kernel) f_74 f_78 fun v_79 f_80 => ?_
    obtain ⟨m_81, e_82, h⟩ := up_s h
    refine go_iast (kd := 100) (by decide +kernel) rfl R_65 f_71 f1 f_80 (fx_k (c := 100) R_65 (by decide +kernel)) (fx_x (a := 144) (ln := 12) R_65 (by decide +kernel) g_18) e_82 (fx_a R_65.2 (fx_k (c := 100) R_65 (by decide +kernel)) (And.left (fx_x (a := 144) (ln := 12) R_65 (by decide +kernel) g_18)) (by decide +kernel)) fun S_83 R_84 E_85 => ?_
    have E_87 := Ext.tr E_68 E_85
    refine go_goto (o := 224) (t := 336) (by decide +kernel) (by decide +kernel) ?_
    cases h
    exact go_vret (by decide +kernel) rfl (hQ E_87 _ _ R_84 q_out_n)
  have h := it_f hp_2 h
  by_cases hp_89 : p2 = 13
  · have h := it_t hp_89 h
    refine go_tsin (dflt := 311) (lo := 12) (hi := 22) (offs := #[59, 114, 163, 207, 215, 223, 231, 246, 257, 280, 303]) (o := 114) (t := 115) (by decide +kernel) f2 (by omega) (by omega) (by rw [hp_89]; decide) (by decide +kernel) ?_
    refine go_aload_n (n := 0) (by decide +kernel) l0 f0 ?_
    refine go_getf (x := 259) (ci := 13) (kf := 98) (fin := 1) (t := 2) (by decide +kernel) (by decide +kernel) (by decide +kernel) R f0 (fx_k (c := 13) R (by decide +kernel)) fun v_90 f_91 => ?_
    have f_92 := q_is_eq (b := 148) f_91 (fx_v R (by decide +kernel)).symm
    refine go_iload_n (n := 1) (by decide +kernel) l1 f1 ?_
    refine go_aload_n (n := 0) (by decide +kernel) l0 f0 ?_
    refine go_getf (x := 259) (ci := 13) (kf := 98) (fin := 1) (t := 2) (by decide +kernel) (by decide +kernel) (by decide +kernel) R f0 (fx_k (c := 13) R (by decide +kernel)) fun v_93 f_94 => ?_
    have f_95 := q_is_eq (b := 148) f_94 (fx_v R (by decide +kernel)).symm
    refine go_iload_n (n := 1) (by decide +kernel) l1 f1 ?_
    obtain ⟨g_98, h⟩ := gd_s h
    obtain ⟨x_100, e_101, h⟩ := lx_s h
    refine go_iald (kd := 100) (by decide +kernel) rfl R f_95 f1 (fx_k (c := 100) R (by decide +kernel)) (fx_x (a := 148) (ln := 12) R (by decide +kernel) g_98) fun v_96 f_97 => ?_
    have f_99 := q_is_eq f_97 e_101
    refine go_iconst (n := (-1)) (z := (-1)) (by decide +kernel) (by decide) fun v_102 f_103 => ?_
    refine go_icmp (c := .ne) (o := 7) (t := 134) (P := ¬ (x_100 = (-1))) (by decide +kernel) (by decide +kernel) f_99 f_103 (Iff.rfl) (fun hp_104 => ?_) (fun hp_104 => ?_)
    · have h := it_f hp_104 h
      refine go_aload_n (n := 0) (by decide +kernel) l0 f0 ?_
      refine go_getf (x := 275) (ci := 13) (kf := 104) (fin := 1) (t := 2) (by decide +kernel) (by decide +kernel) (by decide +kernel) R f0 (fx_k (c := 13) R (by decide +kernel)) fun v_105 f_106 => ?_
      have f_107 := q_is_eq (b := 153) f_106 (fx_v R (by decide +kernel)).symm
      refine go_aload_n (n := 0) (by decide +kernel) l0 f0 ?_
      refine go_getf (x := 259) (ci := 13) (kf := 98) (fin := 1) (t := 2) (by decide +kernel) (by decide +kernel) (by decide +kernel) R f0 (fx_k (c := 13) R (by decide +kernel)) fun v_108 f_109 => ?_
      have f_110 := q_is_eq (b := 148) f_109 (fx_v R (by decide +kernel)).symm
      refine go_iload_n (n := 1) (by decide +kernel) l1 f1 ?_
      refine go_iald (kd := 100) (by decide +kernel) rfl R f_110 f1 (fx_k (c := 100) R (by decide +kernel)) (fx_x (a := 148) (ln := 12) R (by decide +kernel) g_98) fun v_111 f_112 => ?_
      have f_113 := q_is_eq f_112 e_101
      obtain ⟨g_116, h⟩ := gd_s h
      obtain ⟨x_118, e_119, h⟩ := lx_s h
      refine go_iald (kd := 100) (by decide +kernel) rfl R f_107 f_113 (fx_k (c := 100) R (by decide +kernel)) (fx_x (a := 153) (ln := 196608) R (by decide +kernel) g_116) fun v_114 f_115 => ?_
      have f_117 := q_is_eq f_115 e_119
      refine go_bipush (n := 24) (z := 24) (by decide +kernel) (by decide) fun v_120 f_121 => ?_
      refine go_idiv (by decide +kernel) f_117 f_121 (by decide) fun v_122 f_123 => ?_
      refine go_iconst (n := 1) (z := 1) (by decide +kernel) (by decide) fun v_124 f_125 => ?_
      refine go_isub (by decide +kernel) f_123 f_125 fun v_126 f_127 => ?_
      exact oj_X12_doesMore_150 hd R l0 f0 l1 f1 f_127 f1 f_92 hQ h
    · have h := it_n hp_104 h
      refine go_iconst (n := (-1)) (z := (-1)) (by decide +kernel) (by decide) fun v_156 f_157 => ?_
      refine go_goto (o := 19) (t := 150) (by decide +kernel) (by decide +kernel) ?_
      exact oj_X12_doesMore_150 hd R l0 f0 l1 f1 f_157 f1 f_92 hQ h
  have h := it_f hp_89 h
  by_cases hp_159 : p2 = 14
  · have h := it_t hp_159 h
    refine go_tsin (dflt := 311) (lo := 12) (hi := 22) (offs := #[59, 114, 163, 207, 215, 223, 231, 246, 257, 280, 303]) (o := 163) (t := 164) (by decide +kernel) f2 (by omega) (by omega) (by rw [hp_159]; decide) (by decide +kernel) ?_
    refine go_aload_n (n := 0) (by decide +kernel) l0 f0 ?_
    refine go_getf (x := 278) (ci := 13) (kf := 106) (fin := 1) (t := 2) (by decide +kernel) (by decide +kernel) (by decide +kernel) R f0 (fx_k (c := 13) R (by decide +kernel)) fun v_160 f_161 => ?_
    have f_162 := q_is_eq (b := 154) f_161 (fx_v R (by decide +kernel)).symm
    refine go_aload_n (n := 0) (by decide +kernel) l0 f0 ?_
    obtain ⟨x_166, e_167, h⟩ := lx_s h
    refine go_getf (x := 458) (ci := 13) (kf := 105) (fin := 0) (t := 0) (by decide +kernel) (by decide +kernel) (by decide +kernel) R f0 (fx_k (c := 13) R (by decide +kernel)) fun v_163 f_164 => ?_
    have f_165 := q_is_eq f_164 e_167
    refine go_bipush (n := 10) (z := 10) (by decide +kernel) (by decide) fun v_168 f_169 => ?_
    refine go_aload_n (n := 0) (by decide +kernel) l0 f0 ?_
    refine go_getf (x := 241) (ci := 13) (kf := 90) (fin := 1) (t := 2) (by decide +kernel) (by decide +kernel) (by decide +kernel) R f0 (fx_k (c := 13) R (by decide +kernel)) fun v_170 f_171 => ?_
    have f_172 := q_is_eq (b := 142) f_171 (fx_v R (by decide +kernel)).symm
    refine go_iload (n := 4) (by decide +kernel) l4 f4 ?_
    obtain ⟨g_175, h⟩ := gd_s h
    obtain ⟨x_177, e_178, h⟩ := lx_s h
    refine go_iald (kd := 100) (by decide +kernel) rfl R f_172 f4 (fx_k (c := 100) R (by decide +kernel)) (fx_x (a := 142) (ln := 6) R (by decide +kernel) g_175) fun v_173 f_174 => ?_
    have f_176 := q_is_eq f_174 e_178
    refine go_imul (by decide +kernel) f_169 f_176 fun v_179 f_180 => ?_
    refine go_iload_n (n := 3) (by decide +kernel) l3 f3 ?_
    refine go_iadd (by decide +kernel) f_180 f3 fun v_181 f_182 => ?_
    obtain ⟨g_183, h⟩ := gd_s h
    obtain ⟨m_184, e_185, h⟩ := up_s h
    refine go_iast (kd := 100) (by decide +kernel) rfl R f_162 f_165 f_182 (fx_k (c := 100) R (by decide +kernel)) (fx_x (a := 154) (ln := 196608) R (by decide +kernel) g_183) e_185 (fx_a R.2 (fx_k (c := 100) R (by decide +kernel)) (And.left (fx_x (a := 154) (ln := 196608) R (by decide +kernel) g_183)) (by decide +kernel)) fun S_186 R_187 E_188 => ?_
    have E_190 := E_188
    refine go_aload_n (n := 0) (by decide +kernel) l0 f0 ?_
    refine go_dup (by decide +kernel) f0 (Or.inr rfl) ?_
    obtain ⟨x_194, e_195, h⟩ := lx_s h
    refine go_getf (x := 458) (ci := 13) (kf := 105) (fin := 0) (t := 0) (by decide +kernel) (by decide +kernel) (by decide +kernel) R_187 f0 (fx_k (c := 13) R_187 (by decide +kernel)) fun v_191 f_192 => ?_
    have f_193 := q_is_eq f_192 e_195
    refine go_iconst (n := 1) (z := 1) (by decide +kernel) (by decide) fun v_196 f_197 => ?_
    refine go_iadd (by decide +kernel) f_193 f_197 fun v_198 f_199 => ?_
    obtain ⟨m_200, e_201, h⟩ := up_s h
    refine go_putf (x := 458) (ci := 13) (kf := 105) (fin := 0) (zt := 0) (by decide +kernel) (by decide +kernel) (by decide) (by decide +kernel) (by decide) (Or.inl rfl) R_187 f0 f_199 (fun hq => absurd hq (by decide)) (fx_k (c := 13) R_187 (by decide +kernel)) e_201 (fx_f (j := 105) R_187.2 (fx_k (c := 13) R_187 (by decide +kernel)) (by decide +kernel)) fun S_202 R_203 E_204 => ?_
    have E_206 := Ext.tr E_190 E_204
    refine go_aload_n (n := 0) (by decide +kernel) l0 f0 ?_
    refine go_getf (x := 247) (ci := 13) (kf := 94) (fin := 1) (t := 2) (by decide +kernel) (by decide +kernel) (by decide +kernel) R_203 f0 (fx_k (c := 13) R_203 (by decide +kernel)) fun v_207 f_208 => ?_
    have f_209 := q_is_eq (b := 144) f_208 (fx_v R_203 (by decide +kernel)).symm
    refine go_iload_n (n := 1) (by decide +kernel) l1 f1 ?_
    refine go_dup2 (by decide +kernel) f1 (Or.inl rfl) f_209 (Or.inr rfl) ?_
    obtain ⟨g_212, h⟩ := gd_s h
    obtain ⟨x_214, e_215, h⟩ := lx_s h
    refine go_iald (kd := 100) (by decide +kernel) rfl R_203 f_209 f1 (fx_k (c := 100) R_203 (by decide +kernel)) (fx_x (a := 144) (ln := 12) R_203 (by decide +kernel) g_212) fun v_210 f_211 => ?_
    have f_213 := q_is_eq f_211 e_215
    refine go_iconst (n := 1) (z := 1) (by decide +kernel) (by decide) fun v_216 f_217 => ?_
    refine go_iadd (by decide +kernel) f_213 f_217 fun v_218 f_219 => ?_
    obtain ⟨m_220, e_221, h⟩ := up_s h
    refine go_iast (kd := 100) (by decide +kernel) rfl R_203 f_209 f1 f_219 (fx_k (c := 100) R_203 (by decide +kernel)) (fx_x (a := 144) (ln := 12) R_203 (by decide +kernel) g_212) e_221 (fx_a R_203.2 (fx_k (c := 100) R_203 (by decide +kernel)) (And.left (fx_x (a := 144) (ln := 12) R_203 (by decide +kernel) g_212)) (by decide +kernel)) fun S_222 R_223 E_224 => ?_
    have E_226 := Ext.tr E_206 E_224
    refine go_goto (o := 131) (t := 336) (by decide +kernel) (by decide +kernel) ?_
    cases h
    exact go_vret (by decide +kernel) rfl (hQ E_226 _ _ R_223 q_out_n)
  have h := it_f hp_159 h
  by_cases hp_228 : p2 = 15
  · have h := it_t hp_228 h
    refine go_tsin (dflt := 311) (lo := 12) (hi := 22) (offs := #[59, 114, 163, 207, 215, 223, 231, 246, 257, 280, 303]) (o := 207) (t := 208) (by decide +kernel) f2 (by omega) (by omega) (by rw [hp_228]; decide) (by decide +kernel) ?_
    refine go_aload_n (n := 0) (by decide +kernel) l0 f0 ?_
    refine go_iload_n (n := 1) (by decide +kernel) l1 f1 ?_
    obtain ⟨x_230, m_231, hc_229, h⟩ := bd_s h
    refine go_callV (x := 486) (mi := 236) (n := 1) (ci := 13) (as := [v1]) (rest := []) (by decide +kernel) (by decide +kernel) rfl rfl (q_sum8 _ (Nat.le_of_ble_eq_true rfl)) R f0 (fx_k (c := 13) R (by decide +kernel)) (om_X12_undoes (Nat.le_trans (by decide) hd) R f0 f1 hc_229) (fun _ S_234 q_237 => ?_) (fun _ _ qq => kr_x qq)
    refine kr_v q_237 fun R_235 E_236 => ?_
    have E_240 := E_236
    refine go_goto (o := 123) (t := 336) (by decide +kernel) (by decide +kernel) ?_
    cases h
    exact go_vret (by decide +kernel) rfl (hQ E_240 _ _ R_235 q_out_n)
  have h := it_f hp_228 h
  by_cases hp_242 : p2 = 16
  · have h := it_t hp_242 h
    refine go_tsin (dflt := 311) (lo := 12) (hi := 22) (offs := #[59, 114, 163, 207, 215, 223, 231, 246, 257, 280, 303]) (o := 215) (t := 216) (by decide +kernel) f2 (by omega) (by omega) (by rw [hp_242]; decide) (by decide +kernel) ?_
    refine go_aload_n (n := 0) (by decide +kernel) l0 f0 ?_
    refine go_iload_n (n := 1) (by decide +kernel) l1 f1 ?_
    obtain ⟨x_244, m_245, hc_243, h⟩ := bd_s h
    refine go_callV (x := 489) (mi := 226) (n := 1) (ci := 13) (as := [v1]) (rest := []) (by decide +kernel) (by decide +kernel) rfl rfl (q_sum8 _ (Nat.le_of_ble_eq_true rfl)) R f0 (fx_k (c := 13) R (by decide +kernel)) (om_X12_endsBranch (Nat.le_trans (by decide) hd) R f0 f1 hc_243) (fun _ S_248 q_251 => ?_) (fun _ _ qq => kr_x qq)
    refine kr_v q_251 fun R_249 E_250 => ?_
    have E_254 := E_250
    refine go_goto (o := 115) (t := 336) (by decide +kernel) (by decide +kernel) ?_
    cases h
    exact go_vret (by decide +kernel) rfl (hQ E_254 _ _ R_249 q_out_n)
  have h := it_f hp_242 h
  by_cases hp_256 : p2 = 17
  · have h := it_t hp_256 h
    refine go_tsin (dflt := 311) (lo := 12) (hi := 22) (offs := #[59, 114, 163, 207, 215, 223, 231, 246, 257, 280, 303]) (o := 223) (t := 224) (by decide +kernel) f2 (by omega) (by omega) (by rw [hp_256]; decide) (by decide +kernel) ?_
    refine go_aload_n (n := 0) (by decide +kernel) l0 f0 ?_
    refine go_iload_n (n := 1) (by decide +kernel) l1 f1 ?_
    obtain ⟨x_258, m_259, hc_257, h⟩ := bd_s h
    refine go_callV (x := 443) (mi := 227) (n := 1) (ci := 13) (as := [v1]) (rest := []) (by decide +kernel) (by decide +kernel) rfl rfl (q_sum8 _ (Nat.le_of_ble_eq_true rfl)) R f0 (fx_k (c := 13) R (by decide +kernel)) (om_X12_failsBranch (Nat.le_trans (by decide) hd) R f0 f1 hc_257) (fun _ S_262 q_265 => ?_) (fun _ _ qq => kr_x qq)
    refine kr_v q_265 fun R_263 E_264 => ?_
    have E_268 := E_264
    refine go_goto (o := 107) (t := 336) (by decide +kernel) (by decide +kernel) ?_
    cases h
    exact go_vret (by decide +kernel) rfl (hQ E_268 _ _ R_263 q_out_n)
  have h := it_f hp_256 h
  by_cases hp_270 : p2 = 18
  · have h := it_t hp_270 h
    refine go_tsin (dflt := 311) (lo := 12) (hi := 22) (offs := #[59, 114, 163, 207, 215, 223, 231, 246, 257, 280, 303]) (o := 231) (t := 232) (by decide +kernel) f2 (by omega) (by omega) (by rw [hp_270]; decide) (by decide +kernel) ?_
    refine go_aload_n (n := 0) (by decide +kernel) l0 f0 ?_
    refine go_bipush (n := 16) (z := 16) (by decide +kernel) (by decide) fun v_271 f_272 => ?_
    refine go_aload_n (n := 0) (by decide +kernel) l0 f0 ?_
    refine go_getf (x := 241) (ci := 13) (kf := 90) (fin := 1) (t := 2) (by decide +kernel) (by decide +kernel) (by decide +kernel) R f0 (fx_k (c := 13) R (by decide +kernel)) fun v_273 f_274 => ?_
    have f_275 := q_is_eq (b := 142) f_274 (fx_v R (by decide +kernel)).symm
    refine go_iload_n (n := 3) (by decide +kernel) l3 f3 ?_
    obtain ⟨g_278, h⟩ := gd_s h
    obtain ⟨x_280, e_281, h⟩ := lx_s h
    refine go_iald (kd := 100) (by decide +kernel) rfl R f_275 f3 (fx_k (c := 100) R (by decide +kernel)) (fx_x (a := 142) (ln := 6) R (by decide +kernel) g_278) fun v_276 f_277 => ?_
    have f_279 := q_is_eq f_277 e_281
    obtain ⟨x_283, m_284, hc_282, h⟩ := bd_s h
    refine go_callV (x := 429) (mi := 225) (n := 2) (ci := 13) (as := [v_271, v_276]) (rest := []) (by decide +kernel) (by decide +kernel) rfl rfl (q_sum8 _ (Nat.le_of_ble_eq_true rfl)) R f0 (fx_k (c := 13) R (by decide +kernel)) (om_X12_endsRun (Nat.le_trans (by decide) hd) R f0 f_272 f_279 hc_282) (fun _ S_287 q_290 => ?_) (fun _ _ qq => kr_x qq)
    refine kr_v q_290 fun R_288 E_289 => ?_
    have E_293 := E_289
    refine go_goto (o := 92) (t := 336) (by decide +kernel) (by decide +kernel) ?_
    cases h
    exact go_vret (by decide +kernel) rfl (hQ E_293 _ _ R_288 q_out_n)
  have h := it_f hp_270 h
  by_cases hp_295 : p2 = 19
  · have h := it_t hp_295 h
    refine go_tsin (dflt := 311) (lo := 12) (hi := 22) (offs := #[59, 114, 163, 207, 215, 223, 231, 246, 257, 280, 303]) (o := 246) (t := 247) (by decide +kernel) f2 (by omega) (by omega) (by rw [hp_295]; decide) (by decide +kernel) ?_
    refine go_aload_n (n := 0) (by decide +kernel) l0 f0 ?_
    refine go_iload_n (n := 1) (by decide +kernel) l1 f1 ?_
    refine go_iload_n (n := 3) (by decide +kernel) l3 f3 ?_
    refine go_iload (n := 4) (by decide +kernel) l4 f4 ?_
    obtain ⟨x_297, m_298, hc_296, h⟩ := bd_s h
    refine go_callV (x := 492) (mi := 237) (n := 3) (ci := 13) (as := [v1, v3, v4]) (rest := []) (by decide +kernel) (by decide +kernel) rfl rfl (q_sum8 _ (Nat.le_of_ble_eq_true rfl)) R f0 (fx_k (c := 13) R (by decide +kernel)) (om_X12_patches (Nat.le_trans (by decide) hd) R f0 f1 f3 f4 hc_296) (fun _ S_301 q_304 => ?_) (fun _ _ qq => kr_x qq)
    refine kr_v q_304 fun R_302 E_303 => ?_
    have E_307 := E_303
    refine go_goto (o := 81) (t := 336) (by decide +kernel) (by decide +kernel) ?_
    cases h
    exact go_vret (by decide +kernel) rfl (hQ E_307 _ _ R_302 q_out_n)
  have h := it_f hp_295 h
  by_cases hp_309 : p2 = 20
  · have h := it_t hp_309 h
    refine go_tsin (dflt := 311) (lo := 12) (hi := 22) (offs := #[59, 114, 163, 207, 215, 223, 231, 246, 257, 280, 303]) (o := 257) (t := 258) (by decide +kernel) f2 (by omega) (by omega) (by rw [hp_309]; decide) (by decide +kernel) ?_
    refine go_aload_n (n := 0) (by decide +kernel) l0 f0 ?_
    refine go_getf (x := 241) (ci := 13) (kf := 90) (fin := 1) (t := 2) (by decide +kernel) (by decide +kernel) (by decide +kernel) R f0 (fx_k (c := 13) R (by decide +kernel)) fun v_310 f_311 => ?_
    have f_312 := q_is_eq (b := 142) f_311 (fx_v R (by decide +kernel)).symm
    refine go_iload_n (n := 3) (by decide +kernel) l3 f3 ?_
    refine go_aload_n (n := 0) (by decide +kernel) l0 f0 ?_
    obtain ⟨x_316, e_317, h⟩ := lx_s h
    refine go_getf (x := 494) (ci := 13) (kf := 118) (fin := 0) (t := 0) (by decide +kernel) (by decide +kernel) (by decide +kernel) R f0 (fx_k (c := 13) R (by decide +kernel)) fun v_313 f_314 => ?_
    have f_315 := q_is_eq f_314 e_317
    obtain ⟨g_318, h⟩ := gd_s h
    obtain ⟨m_319, e_320, h⟩ := up_s h
    refine go_iast (kd := 100) (by decide +kernel) rfl R f_312 f3 f_315 (fx_k (c := 100) R (by decide +kernel)) (fx_x (a := 142) (ln := 6) R (by decide +kernel) g_318) e_320 (fx_a R.2 (fx_k (c := 100) R (by decide +kernel)) (And.left (fx_x (a := 142) (ln := 6) R (by decide +kernel) g_318)) (by decide +kernel)) fun S_321 R_322 E_323 => ?_
    have E_325 := E_323
    refine go_aload_n (n := 0) (by decide +kernel) l0 f0 ?_
    refine go_getf (x := 247) (ci := 13) (kf := 94) (fin := 1) (t := 2) (by decide +kernel) (by decide +kernel) (by decide +kernel) R_322 f0 (fx_k (c := 13) R_322 (by decide +kernel)) fun v_326 f_327 => ?_
    have f_328 := q_is_eq (b := 144) f_327 (fx_v R_322 (by decide +kernel)).symm
    refine go_iload_n (n := 1) (by decide +kernel) l1 f1 ?_
    refine go_dup2 (by decide +kernel) f1 (Or.inl rfl) f_328 (Or.inr rfl) ?_
    obtain ⟨g_331, h⟩ := gd_s h
    obtain ⟨x_333, e_334, h⟩ := lx_s h
    refine go_iald (kd := 100) (by decide +kernel) rfl R_322 f_328 f1 (fx_k (c := 100) R_322 (by decide +kernel)) (fx_x (a := 144) (ln := 12) R_322 (by decide +kernel) g_331) fun v_329 f_330 => ?_
    have f_332 := q_is_eq f_330 e_334
    refine go_iconst (n := 1) (z := 1) (by decide +kernel) (by decide) fun v_335 f_336 => ?_
    refine go_iadd (by decide +kernel) f_332 f_336 fun v_337 f_338 => ?_
    obtain ⟨m_339, e_340, h⟩ := up_s h
    refine go_iast (kd := 100) (by decide +kernel) rfl R_322 f_328 f1 f_338 (fx_k (c := 100) R_322 (by decide +kernel)) (fx_x (a := 144) (ln := 12) R_322 (by decide +kernel) g_331) e_340 (fx_a R_322.2 (fx_k (c := 100) R_322 (by decide +kernel)) (And.left (fx_x (a := 144) (ln := 12) R_322 (by decide +kernel) g_331)) (by decide +kernel)) fun S_341 R_342 E_343 => ?_
    have E_345 := Ext.tr E_325 E_343
    refine go_goto (o := 58) (t := 336) (by decide +kernel) (by decide +kernel) ?_
    cases h
    exact go_vret (by decide +kernel) rfl (hQ E_345 _ _ R_342 q_out_n)
  have h := it_f hp_309 h
  by_cases hp_347 : p2 = 21
  · have h := it_t hp_347 h
    refine go_tsin (dflt := 311) (lo := 12) (hi := 22) (offs := #[59, 114, 163, 207, 215, 223, 231, 246, 257, 280, 303]) (o := 280) (t := 281) (by decide +kernel) f2 (by omega) (by omega) (by rw [hp_347]; decide) (by decide +kernel) ?_
    refine go_aload_n (n := 0) (by decide +kernel) l0 f0 ?_
    refine go_getf (x := 265) (ci := 13) (kf := 100) (fin := 1) (t := 2) (by decide +kernel) (by decide +kernel) (by decide +kernel) R f0 (fx_k (c := 13) R (by decide +kernel)) fun v_348 f_349 => ?_
    have f_350 := q_is_eq (b := 150) f_349 (fx_v R (by decide +kernel)).symm
    refine go_iload_n (n := 1) (by decide +kernel) l1 f1 ?_
    refine go_dup2 (by decide +kernel) f1 (Or.inl rfl) f_350 (Or.inr rfl) ?_
    obtain ⟨g_353, h⟩ := gd_s h
    obtain ⟨x_355, e_356, h⟩ := lx_s h
    refine go_iald (kd := 100) (by decide +kernel) rfl R f_350 f1 (fx_k (c := 100) R (by decide +kernel)) (fx_x (a := 150) (ln := 12) R (by decide +kernel) g_353) fun v_351 f_352 => ?_
    have f_354 := q_is_eq f_352 e_356
    refine go_iconst (n := 1) (z := 1) (by decide +kernel) (by decide) fun v_357 f_358 => ?_
    refine go_iadd (by decide +kernel) f_354 f_358 fun v_359 f_360 => ?_
    obtain ⟨m_361, e_362, h⟩ := up_s h
    refine go_iast (kd := 100) (by decide +kernel) rfl R f_350 f1 f_360 (fx_k (c := 100) R (by decide +kernel)) (fx_x (a := 150) (ln := 12) R (by decide +kernel) g_353) e_362 (fx_a R.2 (fx_k (c := 100) R (by decide +kernel)) (And.left (fx_x (a := 150) (ln := 12) R (by decide +kernel) g_353)) (by decide +kernel)) fun S_363 R_364 E_365 => ?_
    have E_367 := E_365
    refine go_aload_n (n := 0) (by decide +kernel) l0 f0 ?_
    refine go_getf (x := 247) (ci := 13) (kf := 94) (fin := 1) (t := 2) (by decide +kernel) (by decide +kernel) (by decide +kernel) R_364 f0 (fx_k (c := 13) R_364 (by decide +kernel)) fun v_368 f_369 => ?_
    have f_370 := q_is_eq (b := 144) f_369 (fx_v R_364 (by decide +kernel)).symm
    refine go_iload_n (n := 1) (by decide +kernel) l1 f1 ?_
    refine go_dup2 (by decide +kernel) f1 (Or.inl rfl) f_370 (Or.inr rfl) ?_
    obtain ⟨x_374, e_375, h⟩ := lx_s h
    refine go_iald (kd := 100) (by decide +kernel) rfl R_364 f_370 f1 (fx_k (c := 100) R_364 (by decide +kernel)) (fx_x (a := 144) (ln := 12) R_364 (by decide +kernel) g_353) fun v_371 f_372 => ?_
    have f_373 := q_is_eq f_372 e_375
    refine go_iconst (n := 1) (z := 1) (by decide +kernel) (by decide) fun v_376 f_377 => ?_
    refine go_iadd (by decide +kernel) f_373 f_377 fun v_378 f_379 => ?_
    obtain ⟨m_380, e_381, h⟩ := up_s h
    refine go_iast (kd := 100) (by decide +kernel) rfl R_364 f_370 f1 f_379 (fx_k (c := 100) R_364 (by decide +kernel)) (fx_x (a := 144) (ln := 12) R_364 (by decide +kernel) g_353) e_381 (fx_a R_364.2 (fx_k (c := 100) R_364 (by decide +kernel)) (And.left (fx_x (a := 144) (ln := 12) R_364 (by decide +kernel) g_353)) (by decide +kernel)) fun S_382 R_383 E_384 => ?_
    have E_386 := Ext.tr E_367 E_384
    refine go_goto (o := 35) (t := 336) (by decide +kernel) (by decide +kernel) ?_
    cases h
    exact go_vret (by decide +kernel) rfl (hQ E_386 _ _ R_383 q_out_n)
  have h := it_f hp_347 h
  by_cases hp_388 : p2 = 22
  · have h := it_t hp_388 h
    refine go_tsin (dflt := 311) (lo := 12) (hi := 22) (offs := #[59, 114, 163, 207, 215, 223, 231, 246, 257, 280, 303]) (o := 303) (t := 304) (by decide +kernel) f2 (by omega) (by omega) (by rw [hp_388]; decide) (by decide +kernel) ?_
    refine go_aload_n (n := 0) (by decide +kernel) l0 f0 ?_
    refine go_iload_n (n := 1) (by decide +kernel) l1 f1 ?_
    obtain ⟨x_390, m_391, hc_389, h⟩ := bd_s h
    refine go_callV (x := 497) (mi := 238) (n := 1) (ci := 13) (as := [v1]) (rest := []) (by decide +kernel) (by decide +kernel) rfl rfl (q_sum8 _ (Nat.le_of_ble_eq_true rfl)) R f0 (fx_k (c := 13) R (by decide +kernel)) (om_X12_bares (Nat.le_trans (by decide) hd) R f0 f1 hc_389) (fun _ S_394 q_397 => ?_) (fun _ _ qq => kr_x qq)
    refine kr_v q_397 fun R_395 E_396 => ?_
    have E_400 := E_396
    refine go_goto (o := 27) (t := 336) (by decide +kernel) (by decide +kernel) ?_
    cases h
    exact go_vret (by decide +kernel) rfl (hQ E_400 _ _ R_395 q_out_n)
  have h := it_f hp_388 h
  refine go_tsout (dflt := 311) (lo := 12) (hi := 22) (offs := #[59, 114, 163, 207, 215, 223, 231, 246, 257, 280, 303]) (t := 312) (by decide +kernel) f2 (by omega) (by decide +kernel) ?_
  refine go_aload_n (n := 0) (by decide +kernel) l0 f0 ?_
  refine go_bipush (n := 13) (z := 13) (by decide +kernel) (by decide) fun v_401 f_402 => ?_
  refine go_aload_n (n := 0) (by decide +kernel) l0 f0 ?_
  refine go_getf (x := 241) (ci := 13) (kf := 90) (fin := 1) (t := 2) (by decide +kernel) (by decide +kernel) (by decide +kernel) R f0 (fx_k (c := 13) R (by decide +kernel)) fun v_403 f_404 => ?_
  have f_405 := q_is_eq (b := 142) f_404 (fx_v R (by decide +kernel)).symm
  refine go_iload_n (n := 3) (by decide +kernel) l3 f3 ?_
  obtain ⟨g_408, h⟩ := gd_s h
  obtain ⟨x_410, e_411, h⟩ := lx_s h
  refine go_iald (kd := 100) (by decide +kernel) rfl R f_405 f3 (fx_k (c := 100) R (by decide +kernel)) (fx_x (a := 142) (ln := 6) R (by decide +kernel) g_408) fun v_406 f_407 => ?_
  have f_409 := q_is_eq f_407 e_411
  refine go_iconst (n := 0) (z := 0) (by decide +kernel) (by decide) fun v_412 f_413 => ?_
  obtain ⟨x_415, m_416, hc_414, h⟩ := bd_s h
  refine go_callV (x := 425) (mi := 221) (n := 3) (ci := 13) (as := [v_401, v_406, v_412]) (rest := []) (by decide +kernel) (by decide +kernel) rfl rfl (q_sum8 _ (Nat.le_of_ble_eq_true rfl)) R f0 (fx_k (c := 13) R (by decide +kernel)) (om_X12_commands (Nat.le_trans (by decide) hd) R f0 f_402 f_409 f_413 hc_414) (fun _ S_419 q_422 => ?_) (fun _ _ qq => kr_x qq)
  refine kr_z (by decide) q_422 fun v_417 f_418 R_420 E_421 => ?_
  have E_425 := E_421
  refine go_pop (by decide +kernel) f_418 (Or.inl rfl) ?_
  refine go_aload_n (n := 0) (by decide +kernel) l0 f0 ?_
  refine go_getf (x := 247) (ci := 13) (kf := 94) (fin := 1) (t := 2) (by decide +kernel) (by decide +kernel) (by decide +kernel) R_420 f0 (fx_k (c := 13) R_420 (by decide +kernel)) fun v_426 f_427 => ?_
  have f_428 := q_is_eq (b := 144) f_427 (fx_v R_420 (by decide +kernel)).symm
  refine go_iload_n (n := 1) (by decide +kernel) l1 f1 ?_
  refine go_dup2 (by decide +kernel) f1 (Or.inl rfl) f_428 (Or.inr rfl) ?_
  obtain ⟨g_431, h⟩ := gd_s h
  obtain ⟨x_433, e_434, h⟩ := lx_s h
  refine go_iald (kd := 100) (by decide +kernel) rfl R_420 f_428 f1 (fx_k (c := 100) R_420 (by decide +kernel)) (fx_x (a := 144) (ln := 12) R_420 (by decide +kernel) g_431) fun v_429 f_430 => ?_
  have f_432 := q_is_eq f_430 e_434
  refine go_iconst (n := 1) (z := 1) (by decide +kernel) (by decide) fun v_435 f_436 => ?_
  refine go_iadd (by decide +kernel) f_432 f_436 fun v_437 f_438 => ?_
  obtain ⟨m_439, e_440, h⟩ := up_s h
  refine go_iast (kd := 100) (by decide +kernel) rfl R_420 f_428 f1 f_438 (fx_k (c := 100) R_420 (by decide +kernel)) (fx_x (a := 144) (ln := 12) R_420 (by decide +kernel) g_431) e_440 (fx_a R_420.2 (fx_k (c := 100) R_420 (by decide +kernel)) (And.left (fx_x (a := 144) (ln := 12) R_420 (by decide +kernel) g_431)) (by decide +kernel)) fun S_441 R_442 E_443 => ?_
  have E_445 := Ext.tr E_425 E_443
  cases h
  exact go_vret (by decide +kernel) rfl (hQ E_445 _ _ R_442 q_out_n)
end DF30
