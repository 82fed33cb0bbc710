/-! Methods as functions (written by wip/whole/dec.py), 30: X12_awaits, X12_undoes, X12_patches, X12_bares, X12_doesMore. -/
section DF30
noncomputable def fm_X12_awaits (p1 p2 p3 p4 : Int) (m0 : MM) : Option (Int × MM) := gd (0 ≤ p1 ∧ p1 < 12) <| up m0 145 p1 p2 fun m_5 =>
up m_5 146 p1 p3 fun m_14 =>
up m_14 147 p1 p4 fun m_23 =>
some (0, m_23)
set_option maxHeartbeats 4000000 in
theorem om_X12_awaits {xs : List Int32} {d : Nat} {S : QS} {m0 : MM} {p1 p2 p3 p4 : Int} {v0 : Value} {v1 : Value} {v2 : Value} {v3 : Value} {v4 : Value} {rz : Int} {rm : MM}
  (hd : 1 ≤ d) (R : Rp S m0) (f0 : q_is 2 v0 68) (f1 : q_is 0 v1 p1) (f2 : q_is 0 v2 p2) (f3 : q_is 0 v3 p3) (f4 : q_is 0 v4 p4)
  (h : fm_X12_awaits p1 p2 p3 p4 m0 = some (rz, rm)) : Mt xs d 235 [v0, v1, v2, v3, v4] S (Cr 9 m0 rm rz) := by
  obtain ⟨d, rfl⟩ : ∃ e, d = e + 1 := ⟨d - 1, by omega⟩
  have hd : 0 ≤ d := Nat.le_of_succ_le_succ hd
  refine Mt.of (M := qM_X12_awaits) rfl (by rw [sl_1 (q_is_cat f0 (Or.inr rfl)), sl_1 (q_is_cat f1 (Or.inl rfl)), sl_1 (q_is_cat f2 (Or.inl rfl)), sl_1 (q_is_cat f3 (Or.inl rfl)), sl_1 (q_is_cat f4 (Or.inl rfl)), sl_0]; decide) ?_
  rw [la_1 (q_is_cat f0 (Or.inr rfl)), la_1 (q_is_cat f1 (Or.inl rfl)), la_1 (q_is_cat f2 (Or.inl rfl)), la_1 (q_is_cat f3 (Or.inl rfl)), la_1 (q_is_cat f4 (Or.inl rfl)), la_0]
  obtain ⟨L, hL⟩ : ∃ L : QL, L = [(0, v0), (0 + 1, v1), (0 + 1 + 1, v2), (0 + 1 + 1 + 1, v3), (0 + 1 + 1 + 1 + 1, v4)] := ⟨_, rfl⟩
  rw [← hL]
  have l0 : q_lo L 0 = some v0 := by rw [hL]; rfl
  have l1 : q_lo L 1 = some v1 := by rw [hL]; rfl
  have l2 : q_lo L 2 = some v2 := by rw [hL]; rfl
  have l3 : q_lo L 3 = some v3 := by rw [hL]; rfl
  have l4 : q_lo L 4 = some v4 := by rw [hL]; rfl
  have hQ : Ext m0 rm → ∀ o S1, Rp S1 rm → q_out 9 o rz → (Cr 9 m0 rm rz) o S1 := fun a o S1 b e => ⟨b, a, e⟩
  unfold fm_X12_awaits at h
  refine go_aload_n (n := 0) (by decide +kernel) l0 f0 ?_
  refine go_getf (x := 250) (ci := 13) (kf := 95) (fin := 1) (t := 2) (by decide +kernel) (by decide +kernel) (by decide +kernel) R f0 (fx_k (c := 13) R (by decide +kernel)) fun v_1 f_2 => ?_
  have f_3 := q_is_eq (b := 145) f_2 (fx_v R (by decide +kernel)).symm
  refine go_iload_n (n := 1) (by decide +kernel) l1 f1 ?_
  refine go_iload_n (n := 2) (by decide +kernel) l2 f2 ?_
  obtain ⟨g_4, h⟩ := gd_s h
  obtain ⟨m_5, e_6, h⟩ := up_s h
  refine go_iast (kd := 100) (by decide +kernel) rfl R f_3 f1 f2 (fx_k (c := 100) R (by decide +kernel)) (fx_x (a := 145) (ln := 12) R (by decide +kernel) g_4) e_6 (fx_a R.2 (fx_k (c := 100) R (by decide +kernel)) (And.left (fx_x (a := 145) (ln := 12) R (by decide +kernel) g_4)) (by decide +kernel)) fun S_7 R_8 E_9 => ?_
  have E_10 := E_9
  refine go_aload_n (n := 0) (by decide +kernel) l0 f0 ?_
  refine go_getf (x := 253) (ci := 13) (kf := 96) (fin := 1) (t := 2) (by decide +kernel) (by decide +kernel) (by decide +kernel) R_8 f0 (fx_k (c := 13) R_8 (by decide +kernel)) fun v_11 f_12 => ?_
  have f_13 := q_is_eq (b := 146) f_12 (fx_v R_8 (by decide +kernel)).symm
  refine go_iload_n (n := 1) (by decide +kernel) l1 f1 ?_
  refine go_iload_n (n := 3) (by decide +kernel) l3 f3 ?_
  obtain ⟨m_14, e_15, h⟩ := up_s h
  refine go_iast (kd := 100) (by decide +kernel) rfl R_8 f_13 f1 f3 (fx_k (c := 100) R_8 (by decide +kernel)) (fx_x (a := 146) (ln := 12) R_8 (by decide +kernel) g_4) e_15 (fx_a R_8.2 (fx_k (c := 100) R_8 (by decide +kernel)) (And.left (fx_x (a := 146) (ln := 12) R_8 (by decide +kernel) g_4)) (by decide +kernel)) fun S_16 R_17 E_18 => ?_
  have E_19 := Ext.tr E_10 E_18
  refine go_aload_n (n := 0) (by decide +kernel) l0 f0 ?_
  refine go_getf (x := 256) (ci := 13) (kf := 97) (fin := 1) (t := 2) (by decide +kernel) (by decide +kernel) (by decide +kernel) R_17 f0 (fx_k (c := 13) R_17 (by decide +kernel)) fun v_20 f_21 => ?_
  have f_22 := q_is_eq (b := 147) f_21 (fx_v R_17 (by decide +kernel)).symm
  refine go_iload_n (n := 1) (by decide +kernel) l1 f1 ?_
  refine go_iload (n := 4) (by decide +kernel) l4 f4 ?_
  obtain ⟨m_23, e_24, h⟩ := up_s h
  refine go_iast (kd := 100) (by decide +kernel) rfl R_17 f_22 f1 f4 (fx_k (c := 100) R_17 (by decide +kernel)) (fx_x (a := 147) (ln := 12) R_17 (by decide +kernel) g_4) e_24 (fx_a R_17.2 (fx_k (c := 100) R_17 (by decide +kernel)) (And.left (fx_x (a := 147) (ln := 12) R_17 (by decide +kernel) g_4)) (by decide +kernel)) fun S_25 R_26 E_27 => ?_
  have E_28 := Ext.tr E_19 E_27
  cases h
  exact go_vret (by decide +kernel) rfl (hQ E_28 _ _ R_26 q_out_n)
noncomputable def fm_X12_undoes (p1 : Int) (m0 : MM) : Option (Int × MM) := lx (m0 68 105) fun x_4 =>
if x_4 = 0 then
gd (0 ≤ p1 ∧ p1 < 12) <| lx (m0 144 p1) fun x_89 =>
up m0 144 p1 (w32 (x_89 + 1)) fun m_95 =>
some (0, m_95)
else
up m0 68 105 (w32 (x_4 - 1)) fun m_14 =>
lx (m_14 68 105) fun x_28 =>
gd (0 ≤ x_28 ∧ x_28 < 196608) <| lx (m_14 154 x_28) fun x_34 =>
bd (fm_X12_commands 8 (Int.tmod x_34 10) (w32 (Int.tdiv x_34 10)) m_14) fun x_54 m_55 =>
bd (fm_X12_awaits p1 4 x_54 0 m_55) fun x_73 m_74 =>
some (0, m_74)
set_option maxHeartbeats 4000000 in
theorem om_X12_undoes {xs : List Int32} {d : Nat} {S : QS} {m0 : MM} {p1 : Int} {v0 : Value} {v1 : Value} {rz : Int} {rm : MM}
  (hd : 5 ≤ d) (R : Rp S m0) (f0 : q_is 2 v0 68) (f1 : q_is 0 v1 p1)
  (h : fm_X12_undoes p1 m0 = some (rz, rm)) : Mt xs d 236 [v0, v1] S (Cr 9 m0 rm rz) := by
  obtain ⟨d, rfl⟩ : ∃ e, d = e + 1 := ⟨d - 1, by omega⟩
  have hd : 4 ≤ d := Nat.le_of_succ_le_succ hd
  refine Mt.of (M := qM_X12_undoes) rfl (by rw [sl_1 (q_is_cat f0 (Or.inr rfl)), sl_1 (q_is_cat f1 (Or.inl rfl)), sl_0]; decide) ?_
  rw [la_1 (q_is_cat f0 (Or.inr rfl)), la_1 (q_is_cat f1 (Or.inl rfl)), la_0]
  obtain ⟨L, hL⟩ : ∃ L : QL, L = [(0, v0), (0 + 1, v1)] := ⟨_, rfl⟩
  rw [← hL]
  have l0 : q_lo L 0 = some v0 := by rw [hL]; rfl
  have l1 : q_lo L 1 = some v1 := by rw [hL]; rfl
  have hQ : Ext m0 rm → ∀ o S1, Rp S1 rm → q_out 9 o rz → (Cr 9 m0 rm rz) o S1 := fun a o S1 b e => ⟨b, a, e⟩
  unfold fm_X12_undoes at h
  refine go_aload_n (n := 0) (by decide +kernel) l0 f0 ?_
  obtain ⟨x_4, e_5, h⟩ := lx_s h
  refine go_getf (x := 458) (ci := 13) (kf := 105) (fin := 0) (t := 0) (by decide +kernel) (by decide +kernel) (by decide +kernel) R f0 (fx_k (c := 13) R (by decide +kernel)) fun v_1 f_2 => ?_
  have f_3 := q_is_eq f_2 e_5
  refine go_if (c := .ne) (o := 14) (t := 18) (P := ¬ (x_4 = 0)) (by decide +kernel) (by decide +kernel) f_3 (Iff.rfl) (fun hp_6 => ?_) (fun hp_6 => ?_)
  · have h := it_f hp_6 h
    refine go_aload_n (n := 0) (by decide +kernel) l0 f0 ?_
    refine go_dup (by decide +kernel) f0 (Or.inr rfl) ?_
    refine go_getf (x := 458) (ci := 13) (kf := 105) (fin := 0) (t := 0) (by decide +kernel) (by decide +kernel) (by decide +kernel) R f0 (fx_k (c := 13) R (by decide +kernel)) fun v_7 f_8 => ?_
    have f_9 := q_is_eq f_8 e_5
    refine go_iconst (n := 1) (z := 1) (by decide +kernel) (by decide) fun v_10 f_11 => ?_
    refine go_isub (by decide +kernel) f_9 f_11 fun v_12 f_13 => ?_
    obtain ⟨m_14, e_15, h⟩ := up_s h
    refine go_putf (x := 458) (ci := 13) (kf := 105) (fin := 0) (zt := 0) (by decide +kernel) (by decide +kernel) (by decide) (by decide +kernel) (by decide) (Or.inl rfl) R f0 f_13 (fun hq => absurd hq (by decide)) (fx_k (c := 13) R (by decide +kernel)) e_15 (fx_f (j := 105) R.2 (fx_k (c := 13) R (by decide +kernel)) (by decide +kernel)) fun S_16 R_17 E_18 => ?_
    have E_19 := E_18
    refine go_aload_n (n := 0) (by decide +kernel) l0 f0 ?_
    refine go_bipush (n := 8) (z := 8) (by decide +kernel) (by decide) fun v_20 f_21 => ?_
    refine go_aload_n (n := 0) (by decide +kernel) l0 f0 ?_
    refine go_getf (x := 278) (ci := 13) (kf := 106) (fin := 1) (t := 2) (by decide +kernel) (by decide +kernel) (by decide +kernel) R_17 f0 (fx_k (c := 13) R_17 (by decide +kernel)) fun v_22 f_23 => ?_
    have f_24 := q_is_eq (b := 154) f_23 (fx_v R_17 (by decide +kernel)).symm
    refine go_aload_n (n := 0) (by decide +kernel) l0 f0 ?_
    obtain ⟨x_28, e_29, h⟩ := lx_s h
    refine go_getf (x := 458) (ci := 13) (kf := 105) (fin := 0) (t := 0) (by decide +kernel) (by decide +kernel) (by decide +kernel) R_17 f0 (fx_k (c := 13) R_17 (by decide +kernel)) fun v_25 f_26 => ?_
    have f_27 := q_is_eq f_26 e_29
    obtain ⟨g_32, h⟩ := gd_s h
    obtain ⟨x_34, e_35, h⟩ := lx_s h
    refine go_iald (kd := 100) (by decide +kernel) rfl R_17 f_24 f_27 (fx_k (c := 100) R_17 (by decide +kernel)) (fx_x (a := 154) (ln := 196608) R_17 (by decide +kernel) g_32) fun v_30 f_31 => ?_
    have f_33 := q_is_eq f_31 e_35
    refine go_bipush (n := 10) (z := 10) (by decide +kernel) (by decide) fun v_36 f_37 => ?_
    refine go_irem (by decide +kernel) f_33 f_37 (by decide) fun v_38 f_39 => ?_
    refine go_aload_n (n := 0) (by decide +kernel) l0 f0 ?_
    refine go_getf (x := 278) (ci := 13) (kf := 106) (fin := 1) (t := 2) (by decide +kernel) (by decide +kernel) (by decide +kernel) R_17 f0 (fx_k (c := 13) R_17 (by decide +kernel)) fun v_40 f_41 => ?_
    have f_42 := q_is_eq (b := 154) f_41 (fx_v R_17 (by decide +kernel)).symm
    refine go_aload_n (n := 0) (by decide +kernel) l0 f0 ?_
    refine go_getf (x := 458) (ci := 13) (kf := 105) (fin := 0) (t := 0) (by decide +kernel) (by decide +kernel) (by decide +kernel) R_17 f0 (fx_k (c := 13) R_17 (by decide +kernel)) fun v_43 f_44 => ?_
    have f_45 := q_is_eq f_44 e_29
    refine go_iald (kd := 100) (by decide +kernel) rfl R_17 f_42 f_45 (fx_k (c := 100) R_17 (by decide +kernel)) (fx_x (a := 154) (ln := 196608) R_17 (by decide +kernel) g_32) fun v_46 f_47 => ?_
    have f_48 := q_is_eq f_47 e_35
    refine go_bipush (n := 10) (z := 10) (by decide +kernel) (by decide) fun v_49 f_50 => ?_
    refine go_idiv (by decide +kernel) f_48 f_50 (by decide) fun v_51 f_52 => ?_
    obtain ⟨x_54, m_55, hc_53, h⟩ := bd_s h
    refine go_callV (x := 425) (mi := 221) (n := 3) (ci := 13) (as := [v_20, v_38, v_51]) (rest := []) (by decide +kernel) (by decide +kernel) rfl rfl (q_sum8 _ (Nat.le_of_ble_eq_true rfl)) R_17 f0 (fx_k (c := 13) R_17 (by decide +kernel)) (om_X12_commands (Nat.le_trans (by decide) hd) R_17 f0 f_21 f_39 f_52 hc_53) (fun _ S_58 q_61 => ?_) (fun _ _ qq => kr_x qq)
    refine kr_z (by decide) q_61 fun v_56 f_57 R_59 E_60 => ?_
    have E_62 := Ext.tr E_19 E_60
    refine go_istore_n (n := 2) (by decide +kernel) (by decide +kernel) f_57 fun L_63 l_64 kp_65 => ?_
    have l_66 := kp_65 0 _ l0 (by decide) (Or.inl (by decide))
    have l_67 := kp_65 1 _ l1 (by decide) (Or.inr (q_is_cat f1 (Or.inl rfl)))
    refine go_aload_n (n := 0) (by decide +kernel) l_66 f0 ?_
    refine go_iload_n (n := 1) (by decide +kernel) l_67 f1 ?_
    refine go_iconst (n := 4) (z := 4) (by decide +kernel) (by decide) fun v_68 f_69 => ?_
    refine go_iload_n (n := 2) (by decide +kernel) l_64 f_57 ?_
    refine go_iconst (n := 0) (z := 0) (by decide +kernel) (by decide) fun v_70 f_71 => ?_
    obtain ⟨x_73, m_74, hc_72, h⟩ := bd_s h
    refine go_callV (x := 461) (mi := 235) (n := 4) (ci := 13) (as := [v1, v_68, v_56, v_70]) (rest := []) (by decide +kernel) (by decide +kernel) rfl rfl (q_sum8 _ (Nat.le_of_ble_eq_true rfl)) R_59 f0 (fx_k (c := 13) R_59 (by decide +kernel)) (om_X12_awaits (Nat.le_trans (by decide) hd) R_59 f0 f1 f_69 f_57 f_71 hc_72) (fun _ S_77 q_80 => ?_) (fun _ _ qq => kr_x qq)
    refine kr_v q_80 fun R_78 E_79 => ?_
    have E_81 := Ext.tr E_62 E_79
    cases h
    exact go_vret (by decide +kernel) rfl (hQ E_81 _ _ R_78 q_out_n)
  · have h := it_n hp_6 h
    refine go_aload_n (n := 0) (by decide +kernel) l0 f0 ?_
    refine go_getf (x := 247) (ci := 13) (kf := 94) (fin := 1) (t := 2) (by decide +kernel) (by decide +kernel) (by decide +kernel) R f0 (fx_k (c := 13) R (by decide +kernel)) fun v_82 f_83 => ?_
    have f_84 := q_is_eq (b := 144) f_83 (fx_v R (by decide +kernel)).symm
    refine go_iload_n (n := 1) (by decide +kernel) l1 f1 ?_
    refine go_dup2 (by decide +kernel) f1 (Or.inl rfl) f_84 (Or.inr rfl) ?_
    obtain ⟨g_87, h⟩ := gd_s h
    obtain ⟨x_89, e_90, h⟩ := lx_s h
    refine go_iald (kd := 100) (by decide +kernel) rfl R f_84 f1 (fx_k (c := 100) R (by decide +kernel)) (fx_x (a := 144) (ln := 12) R (by decide +kernel) g_87) fun v_85 f_86 => ?_
    have f_88 := q_is_eq f_86 e_90
    refine go_iconst (n := 1) (z := 1) (by decide +kernel) (by decide) fun v_91 f_92 => ?_
    refine go_iadd (by decide +kernel) f_88 f_92 fun v_93 f_94 => ?_
    obtain ⟨m_95, e_96, h⟩ := up_s h
    refine go_iast (kd := 100) (by decide +kernel) rfl R f_84 f1 f_94 (fx_k (c := 100) R (by decide +kernel)) (fx_x (a := 144) (ln := 12) R (by decide +kernel) g_87) e_96 (fx_a R.2 (fx_k (c := 100) R (by decide +kernel)) (And.left (fx_x (a := 144) (ln := 12) R (by decide +kernel) g_87)) (by decide +kernel)) fun S_97 R_98 E_99 => ?_
    have E_100 := E_99
    cases h
    exact go_vret (by decide +kernel) rfl (hQ E_100 _ _ R_98 q_out_n)
noncomputable def fj_X12_patches_116 (y1 y2 y3 : Int) (m : MM) : Option (Int × MM) := lx (m 68 110) fun x_19 =>
if iAnd (iShr x_19 y2) 1 = 1 then
gd (0 ≤ y1 ∧ y1 < 12) <| lx (m 144 y1) fun x_44 =>
up m 144 y1 (w32 (x_44 + 1)) fun m_50 =>
some (0, m_50)
else
gd (0 ≤ y1 ∧ y1 < 12) <| up m 144 y1 y3 fun m_31 =>
some (0, m_31)
set_option maxHeartbeats 4000000 in
theorem oj_X12_patches_116 {xs : List Int32} {d : Nat} {S : QS} {L : QL} {Q : QO → QS → Prop} {m : MM} {y1 y2 y3 : Int} {v0 : Value} {v1 : Value} {v2 : Value} {v3 : Value}  {rz : Int} {rm : MM}
  (hd : 4 ≤ d) (R : Rp S m) (l0 : q_lo L 0 = some v0) (f0 : q_is 2 v0 68) (l1 : q_lo L 1 = some v1) (f1 : q_is 0 v1 y1) (l2 : q_lo L 2 = some v2) (f2 : q_is 0 v2 y2) (l3 : q_lo L 3 = some v3) (f3 : q_is 0 v3 y3)
  (hQ : Ext m rm → ∀ o S1, Rp S1 rm → q_out 9 o rz → Q o S1)
  (h : fj_X12_patches_116 y1 y2 y3 m = some (rz, rm)) : Go xs d qM_X12_patches 116 L [] S Q := by
  unfold fj_X12_patches_116 at h
  refine go_aload_n (n := 0) (by decide +kernel) l0 f0 ?_
  refine go_getf (x := 247) (ci := 13) (kf := 94) (fin := 1) (t := 2) (by decide +kernel) (by decide +kernel) (by decide +kernel) R f0 (fx_k (c := 13) R (by decide +kernel)) fun v_13 f_14 => ?_
  have f_15 := q_is_eq (b := 144) f_14 (fx_v R (by decide +kernel)).symm
  refine go_iload_n (n := 1) (by decide +kernel) l1 f1 ?_
  refine go_aload_n (n := 0) (by decide +kernel) l0 f0 ?_
  obtain ⟨x_19, e_20, h⟩ := lx_s h
  refine go_getf (x := 465) (ci := 13) (kf := 110) (fin := 0) (t := 0) (by decide +kernel) (by decide +kernel) (by decide +kernel) R f0 (fx_k (c := 13) R (by decide +kernel)) fun v_16 f_17 => ?_
  have f_18 := q_is_eq f_17 e_20
  refine go_iload_n (n := 2) (by decide +kernel) l2 f2 ?_
  refine go_ishr (by decide +kernel) f_18 f2 fun v_21 f_22 => ?_
  refine go_iconst (n := 1) (z := 1) (by decide +kernel) (by decide) fun v_23 f_24 => ?_
  refine go_iand (by decide +kernel) f_22 f_24 fun v_25 f_26 => ?_
  refine go_iconst (n := 1) (z := 1) (by decide +kernel) (by decide) fun v_27 f_28 => ?_
  refine go_icmp (c := .ne) (o := 14) (t := 144) (P := ¬ (iAnd (iShr x_19 y2) 1 = 1)) (by decide +kernel) (by decide +kernel) f_26 f_28 (Iff.rfl) (fun hp_29 => ?_) (fun hp_29 => ?_)
  · have h := it_f hp_29 h
    refine go_iload_n (n := 3) (by decide +kernel) l3 f3 ?_
    obtain ⟨g_30, h⟩ := gd_s h
    obtain ⟨m_31, e_32, h⟩ := up_s h
    refine go_iast (kd := 100) (by decide +kernel) rfl R f_15 f1 f3 (fx_k (c := 100) R (by decide +kernel)) (fx_x (a := 144) (ln := 12) R (by decide +kernel) g_30) e_32 (fx_a R.2 (fx_k (c := 100) R (by decide +kernel)) (And.left (fx_x (a := 144) (ln := 12) R (by decide +kernel) g_30)) (by decide +kernel)) fun S_33 R_34 E_35 => ?_
    have E_36 := E_35
    cases h
    exact go_vret (by decide +kernel) rfl (hQ E_36 _ _ R_34 q_out_n)
  · have h := it_n hp_29 h
    refine go_aload_n (n := 0) (by decide +kernel) l0 f0 ?_
    refine go_getf (x := 247) (ci := 13) (kf := 94) (fin := 1) (t := 2) (by decide +kernel) (by decide +kernel) (by decide +kernel) R f0 (fx_k (c := 13) R (by decide +kernel)) fun v_37 f_38 => ?_
    have f_39 := q_is_eq (b := 144) f_38 (fx_v R (by decide +kernel)).symm
    refine go_iload_n (n := 1) (by decide +kernel) l1 f1 ?_
    obtain ⟨g_42, h⟩ := gd_s h
    obtain ⟨x_44, e_45, h⟩ := lx_s h
    refine go_iald (kd := 100) (by decide +kernel) rfl R f_39 f1 (fx_k (c := 100) R (by decide +kernel)) (fx_x (a := 144) (ln := 12) R (by decide +kernel) g_42) fun v_40 f_41 => ?_
    have f_43 := q_is_eq f_41 e_45
    refine go_iconst (n := 1) (z := 1) (by decide +kernel) (by decide) fun v_46 f_47 => ?_
    refine go_iadd (by decide +kernel) f_43 f_47 fun v_48 f_49 => ?_
    refine go_goto (o := 4) (t := 145) (by decide +kernel) (by decide +kernel) ?_
    obtain ⟨m_50, e_51, h⟩ := up_s h
    refine go_iast (kd := 100) (by decide +kernel) rfl R f_15 f1 f_49 (fx_k (c := 100) R (by decide +kernel)) (fx_x (a := 144) (ln := 12) R (by decide +kernel) g_42) e_51 (fx_a R.2 (fx_k (c := 100) R (by decide +kernel)) (And.left (fx_x (a := 144) (ln := 12) R (by decide +kernel) g_42)) (by decide +kernel)) fun S_52 R_53 E_54 => ?_
    have E_55 := E_54
    cases h
    exact go_vret (by decide +kernel) rfl (hQ E_55 _ _ R_53 q_out_n)
noncomputable def fj_X12_patches_95 (y1 y2 y3 : Int) (m : MM) : Option (Int × MM) := bd (fm_X12_commands 12 y2 0 m) fun x_106 m_107 =>
lx (m_107 68 110) fun x_118 =>
up m_107 68 110 (iOr x_118 (iShl 1 y2)) fun m_126 =>
fj_X12_patches_116 y1 y2 y3 m_126
set_option maxHeartbeats 4000000 in
theorem oj_X12_patches_95 {xs : List Int32} {d : Nat} {S : QS} {L : QL} {Q : QO → QS → Prop} {m : MM} {y1 y2 y3 : Int} {v0 : Value} {v1 : Value} {v2 : Value} {v3 : Value}  {rz : Int} {rm : MM}
  (hd : 4 ≤ d) (R : Rp S m) (l0 : q_lo L 0 = some v0) (f0 : q_is 2 v0 68) (l1 : q_lo L 1 = some v1) (f1 : q_is 0 v1 y1) (l2 : q_lo L 2 = some v2) (f2 : q_is 0 v2 y2) (l3 : q_lo L 3 = some v3) (f3 : q_is 0 v3 y3)
  (hQ : Ext m rm → ∀ o S1, Rp S1 rm → q_out 9 o rz → Q o S1)
  (h : fj_X12_patches_95 y1 y2 y3 m = some (rz, rm)) : Go xs d qM_X12_patches 95 L [] S Q := by
  unfold fj_X12_patches_95 at h
  refine go_aload_n (n := 0) (by decide +kernel) l0 f0 ?_
  refine go_bipush (n := 12) (z := 12) (by decide +kernel) (by decide) fun v_101 f_102 => ?_
  refine go_iload_n (n := 2) (by decide +kernel) l2 f2 ?_
  refine go_iconst (n := 0) (z := 0) (by decide +kernel) (by decide) fun v_103 f_104 => ?_
  obtain ⟨x_106, m_107, hc_105, h⟩ := bd_s h
  refine go_callV (x := 425) (mi := 221) (n := 3) (ci := 13) (as := [v_101, v2, v_103]) (rest := []) (by decide +kernel) (by decide +kernel) rfl rfl (q_sum8 _ (Nat.le_of_ble_eq_true rfl)) R f0 (fx_k (c := 13) R (by decide +kernel)) (om_X12_commands (Nat.le_trans (by decide) hd) R f0 f_102 f2 f_104 hc_105) (fun _ S_110 q_113 => ?_) (fun _ _ qq => kr_x qq)
  refine kr_z (by decide) q_113 fun v_108 f_109 R_111 E_112 => ?_
  have E_114 := E_112
  refine go_pop (by decide +kernel) f_109 (Or.inl rfl) ?_
  refine go_aload_n (n := 0) (by decide +kernel) l0 f0 ?_
  refine go_dup (by decide +kernel) f0 (Or.inr rfl) ?_
  obtain ⟨x_118, e_119, h⟩ := lx_s h
  refine go_getf (x := 465) (ci := 13) (kf := 110) (fin := 0) (t := 0) (by decide +kernel) (by decide +kernel) (by decide +kernel) R_111 f0 (fx_k (c := 13) R_111 (by decide +kernel)) fun v_115 f_116 => ?_
  have f_117 := q_is_eq f_116 e_119
  refine go_iconst (n := 1) (z := 1) (by decide +kernel) (by decide) fun v_120 f_121 => ?_
  refine go_iload_n (n := 2) (by decide +kernel) l2 f2 ?_
  refine go_ishl (by decide +kernel) f_121 f2 fun v_122 f_123 => ?_
  refine go_ior (by decide +kernel) f_117 f_123 fun v_124 f_125 => ?_
  obtain ⟨m_126, e_127, h⟩ := up_s h
  refine go_putf (x := 465) (ci := 13) (kf := 110) (fin := 0) (zt := 0) (by decide +kernel) (by decide +kernel) (by decide) (by decide +kernel) (by decide) (Or.inl rfl) R_111 f0 f_125 (fun hq => absurd hq (by decide)) (fx_k (c := 13) R_111 (by decide +kernel)) e_127 (fx_f (j := 110) R_111.2 (fx_k (c := 13) R_111 (by decide +kernel)) (by decide +kernel)) fun S_128 R_129 E_130 => ?_
  have E_131 := Ext.tr E_114 E_130
  exact oj_X12_patches_116 hd R_129 l0 f0 l1 f1 l2 f2 l3 f3 (fun b => hQ (Ext.tr E_131 b)) h
noncomputable def fj_X12_patches_72 (y1 y2 y3 y5 s0 : Int) (m : MM) : Option (Int × MM) := if s0 = 0 then
if y5 = 0 then
lx (m 68 117) fun x_136 =>
lx (m 68 119) fun x_141 =>
if x_141 < x_136 then
fj_X12_patches_95 y1 y2 y3 m
else
fj_X12_patches_116 y1 y2 y3 m
else
fj_X12_patches_116 y1 y2 y3 m
else
fj_X12_patches_95 y1 y2 y3 m
set_option maxHeartbeats 4000000 in
theorem oj_X12_patches_72 {xs : List Int32} {d : Nat} {S : QS} {L : QL} {Q : QO → QS → Prop} {m : MM} {y1 y2 y3 y5 s0 : Int} {v0 : Value} {v1 : Value} {v2 : Value} {v3 : Value} {v5 : Value} {w0 : Value}  {rz : Int} {rm : MM}
  (hd : 4 ≤ d) (R : Rp S m) (l0 : q_lo L 0 = some v0) (f0 : q_is 2 v0 68) (l1 : q_lo L 1 = some v1) (f1 : q_is 0 v1 y1) (l2 : q_lo L 2 = some v2) (f2 : q_is 0 v2 y2) (l3 : q_lo L 3 = some v3) (f3 : q_is 0 v3 y3) (l5 : q_lo L 5 = some v5) (f5 : q_is 0 v5 y5) (fs0 : q_is 0 w0 s0)
  (hQ : Ext m rm → ∀ o S1, Rp S1 rm → q_out 9 o rz → Q o S1)
  (h : fj_X12_patches_72 y1 y2 y3 y5 s0 m = some (rz, rm)) : Go xs d qM_X12_patches 72 L [w0] S Q := by
  unfold fj_X12_patches_72 at h
  refine go_istore (n := 6) (by decide +kernel) (by decide +kernel) fs0 fun L_92 l_93 kp_94 => ?_
  have l_95 := kp_94 0 _ l0 (by decide) (Or.inl (by decide))
  have l_96 := kp_94 1 _ l1 (by decide) (Or.inl (by decide))
  have l_97 := kp_94 2 _ l2 (by decide) (Or.inl (by decide))
  have l_98 := kp_94 3 _ l3 (by decide) (Or.inl (by decide))
  have l_99 := kp_94 5 _ l5 (by decide) (Or.inr (q_is_cat f5 (Or.inl rfl)))
  refine go_iload (n := 6) (by decide +kernel) l_93 fs0 ?_
  refine go_if (c := .ne) (o := 19) (t := 95) (P := ¬ (s0 = 0)) (by decide +kernel) (by decide +kernel) fs0 (Iff.rfl) (fun hp_100 => ?_) (fun hp_100 => ?_)
  · have h := it_f hp_100 h
    exact oj_X12_patches_95 hd R l_95 f0 l_96 f1 l_97 f2 l_98 f3 hQ h
  · have h := it_n hp_100 h
    refine go_iload (n := 5) (by decide +kernel) l_99 f5 ?_
    refine go_if (c := .ne) (o := 35) (t := 116) (P := ¬ (y5 = 0)) (by decide +kernel) (by decide +kernel) f5 (Iff.rfl) (fun hp_132 => ?_) (fun hp_132 => ?_)
    · have h := it_f hp_132 h
      exact oj_X12_patches_116 hd R l_95 f0 l_96 f1 l_97 f2 l_98 f3 hQ h
    · have h := it_n hp_132 h
      refine go_aload_n (n := 0) (by decide +kernel) l_95 f0 ?_
      obtain ⟨x_136, e_137, h⟩ := lx_s h
      refine go_getf (x := 404) (ci := 13) (kf := 117) (fin := 0) (t := 0) (by decide +kernel) (by decide +kernel) (by decide +kernel) R f0 (fx_k (c := 13) R (by decide +kernel)) fun v_133 f_134 => ?_
      have f_135 := q_is_eq f_134 e_137
      refine go_aload_n (n := 0) (by decide +kernel) l_95 f0 ?_
      obtain ⟨x_141, e_142, h⟩ := lx_s h
      refine go_getf (x := 407) (ci := 13) (kf := 119) (fin := 0) (t := 0) (by decide +kernel) (by decide +kernel) (by decide +kernel) R f0 (fx_k (c := 13) R (by decide +kernel)) fun v_138 f_139 => ?_
      have f_140 := q_is_eq f_139 e_142
      refine go_icmp (c := .le) (o := 24) (t := 116) (P := ¬ (x_141 < x_136)) (by decide +kernel) (by decide +kernel) f_135 f_140 (Int.not_lt.symm) (fun hp_143 => ?_) (fun hp_143 => ?_)
      · have h := it_f hp_143 h
        exact oj_X12_patches_116 hd R l_95 f0 l_96 f1 l_97 f2 l_98 f3 hQ h
      · have h := it_n hp_143 h
        exact oj_X12_patches_95 hd R l_95 f0 l_96 f1 l_97 f2 l_98 f3 hQ h
noncomputable def fj_X12_patches_31 (y1 y2 y3 y4 s0 : Int) (m : MM) : Option (Int × MM) := if s0 = 0 then
fj_X12_patches_72 y1 y2 y3 s0 0 m
else
lx (m 68 88) fun x_147 =>
bp (fm_X12_kindAt x_147 y4 m) fun x_150 =>
if x_150 = 12 then
bp (fm_X12_xAt x_147 y4 m) fun x_167 =>
if x_167 = y2 then
fj_X12_patches_72 y1 y2 y3 s0 1 m
else
fj_X12_patches_72 y1 y2 y3 s0 0 m
else
fj_X12_patches_72 y1 y2 y3 s0 0 m
set_option maxHeartbeats 4000000 in
theorem oj_X12_patches_31 {xs : List Int32} {d : Nat} {S : QS} {L : QL} {Q : QO → QS → Prop} {m : MM} {y1 y2 y3 y4 s0 : Int} {v0 : Value} {v1 : Value} {v2 : Value} {v3 : Value} {v4 : Value} {w0 : Value}  {rz : Int} {rm : MM}
  (hd : 4 ≤ d) (R : Rp S m) (l0 : q_lo L 0 = some v0) (f0 : q_is 2 v0 68) (l1 : q_lo L 1 = some v1) (f1 : q_is 0 v1 y1) (l2 : q_lo L 2 = some v2) (f2 : q_is 0 v2 y2) (l3 : q_lo L 3 = some v3) (f3 : q_is 0 v3 y3) (l4 : q_lo L 4 = some v4) (f4 : q_is 0 v4 y4) (fs0 : q_is 0 w0 s0)
  (hQ : Ext m rm → ∀ o S1, Rp S1 rm → q_out 9 o rz → Q o S1)
  (h : fj_X12_patches_31 y1 y2 y3 y4 s0 m = some (rz, rm)) : Go xs d qM_X12_patches 31 L [w0] S Q := by
  unfold fj_X12_patches_31 at h
  refine go_istore (n := 5) (by decide +kernel) (by decide +kernel) fs0 fun L_81 l_82 kp_83 => ?_
  have l_84 := kp_83 0 _ l0 (by decide) (Or.inl (by decide))
  have l_85 := kp_83 1 _ l1 (by decide) (Or.inl (by decide))
  have l_86 := kp_83 2 _ l2 (by decide) (Or.inl (by decide))
  have l_87 := kp_83 3 _ l3 (by decide) (Or.inl (by decide))
  have l_88 := kp_83 4 _ l4 (by decide) (Or.inr (q_is_cat f4 (Or.inl rfl)))
  refine go_iload (n := 5) (by decide +kernel) l_82 fs0 ?_
  refine go_if (c := .eq) (o := 36) (t := 71) (P := s0 = 0) (by decide +kernel) (by decide +kernel) fs0 (Iff.rfl) (fun hp_89 => ?_) (fun hp_89 => ?_)
  · have h := it_t hp_89 h
    refine go_iconst (n := 0) (z := 0) (by decide +kernel) (by decide) fun v_90 f_91 => ?_
    exact oj_X12_patches_72 hd R l_84 f0 l_85 f1 l_86 f2 l_87 f3 l_82 fs0 f_91 hQ h
  · have h := it_f hp_89 h
    refine go_aload_n (n := 0) (by decide +kernel) l_84 f0 ?_
    refine go_aload_n (n := 0) (by decide +kernel) l_84 f0 ?_
    obtain ⟨x_147, e_148, h⟩ := lx_s h
    refine go_getf (x := 387) (ci := 13) (kf := 88) (fin := 0) (t := 0) (by decide +kernel) (by decide +kernel) (by decide +kernel) R f0 (fx_k (c := 13) R (by decide +kernel)) fun v_144 f_145 => ?_
    have f_146 := q_is_eq f_145 e_148
    refine go_iload (n := 4) (by decide +kernel) l_88 f4 ?_
    obtain ⟨x_150, hc_149, h⟩ := bp_s h
    refine go_callV (x := 341) (mi := 204) (n := 2) (ci := 13) (as := [v_144, v4]) (rest := []) (by decide +kernel) (by decide +kernel) rfl rfl (q_sum8 _ (Nat.le_of_ble_eq_true rfl)) R f0 (fx_k (c := 13) R (by decide +kernel)) (om_X12_kindAt (Nat.le_trans (by decide) hd) R f0 f_146 f4 hc_149) (fun _ S_154 q_157 => ?_) (fun _ _ qq => kr_x qq)
    refine kr_z (by decide) q_157 fun v_152 f_153 R_155 E_156 => ?_
    refine go_bipush (n := 12) (z := 12) (by decide +kernel) (by decide) fun v_158 f_159 => ?_
    refine go_icmp (c := .ne) (o := 21) (t := 71) (P := ¬ (x_150 = 12)) (by decide +kernel) (by decide +kernel) f_153 f_159 (Iff.rfl) (fun hp_160 => ?_) (fun hp_160 => ?_)
    · have h := it_f hp_160 h
      refine go_iconst (n := 0) (z := 0) (by decide +kernel) (by decide) fun v_161 f_162 => ?_
      exact oj_X12_patches_72 hd R_155 l_84 f0 l_85 f1 l_86 f2 l_87 f3 l_82 fs0 f_162 hQ h
    · have h := it_n hp_160 h
      refine go_aload_n (n := 0) (by decide +kernel) l_84 f0 ?_
      refine go_aload_n (n := 0) (by decide +kernel) l_84 f0 ?_
      refine go_getf (x := 387) (ci := 13) (kf := 88) (fin := 0) (t := 0) (by decide +kernel) (by decide +kernel) (by decide +kernel) R_155 f0 (fx_k (c := 13) R_155 (by decide +kernel)) fun v_163 f_164 => ?_
      have f_165 := q_is_eq f_164 e_148
      refine go_iload (n := 4) (by decide +kernel) l_88 f4 ?_
      obtain ⟨x_167, hc_166, h⟩ := bp_s h
      refine go_callV (x := 344) (mi := 206) (n := 2) (ci := 13) (as := [v_163, v4]) (rest := []) (by decide +kernel) (by decide +kernel) rfl rfl (q_sum8 _ (Nat.le_of_ble_eq_true rfl)) R_155 f0 (fx_k (c := 13) R_155 (by decide +kernel)) (om_X12_xAt (Nat.le_trans (by decide) hd) R_155 f0 f_165 f4 hc_166) (fun _ S_171 q_174 => ?_) (fun _ _ qq => kr_x qq)
      refine kr_z (by decide) q_174 fun v_169 f_170 R_172 E_173 => ?_
      refine go_iload_n (n := 2) (by decide +kernel) l_86 f2 ?_
      refine go_icmp (c := .ne) (o := 7) (t := 71) (P := ¬ (x_167 = y2)) (by decide +kernel) (by decide +kernel) f_170 f2 (Iff.rfl) (fun hp_175 => ?_) (fun hp_175 => ?_)
      · have h := it_f hp_175 h
        refine go_iconst (n := 0) (z := 0) (by decide +kernel) (by decide) fun v_176 f_177 => ?_
        exact oj_X12_patches_72 hd R_172 l_84 f0 l_85 f1 l_86 f2 l_87 f3 l_82 fs0 f_177 hQ h
      · have h := it_n hp_175 h
        refine go_iconst (n := 1) (z := 1) (by decide +kernel) (by decide) fun v_178 f_179 => ?_
        refine go_goto (o := 4) (t := 72) (by decide +kernel) (by decide +kernel) ?_
        exact oj_X12_patches_72 hd R_172 l_84 f0 l_85 f1 l_86 f2 l_87 f3 l_82 fs0 f_179 hQ h
noncomputable def fm_X12_patches (p1 p2 p3 : Int) (m0 : MM) : Option (Int × MM) := lx (m0 68 110) fun x_4 =>
if iAnd (iShr x_4 p2) 1 = 0 then
bd (fm_X12_nextCommand m0) fun x_57 m_58 =>
lx (m_58 68 124) fun x_76 =>
if x_57 < x_76 then
fj_X12_patches_31 p1 p2 p3 x_57 1 m_58
else
fj_X12_patches_31 p1 p2 p3 x_57 0 m_58
else
fj_X12_patches_116 p1 p2 p3 m0
set_option maxHeartbeats 4000000 in
theorem om_X12_patches {xs : List Int32} {d : Nat} {S : QS} {m0 : MM} {p1 p2 p3 : Int} {v0 : Value} {v1 : Value} {v2 : Value} {v3 : Value} {rz : Int} {rm : MM}
  (hd : 5 ≤ d) (R : Rp S m0) (f0 : q_is 2 v0 68) (f1 : q_is 0 v1 p1) (f2 : q_is 0 v2 p2) (f3 : q_is 0 v3 p3)
  (h : fm_X12_patches p1 p2 p3 m0 = some (rz, rm)) : Mt xs d 237 [v0, v1, v2, v3] S (Cr 9 m0 rm rz) := by
  obtain ⟨d, rfl⟩ : ∃ e, d = e + 1 := ⟨d - 1, by omega⟩
  have hd : 4 ≤ d := Nat.le_of_succ_le_succ hd
  refine Mt.of (M := qM_X12_patches) rfl (by rw [sl_1 (q_is_cat f0 (Or.inr rfl)), sl_1 (q_is_cat f1 (Or.inl rfl)), sl_1 (q_is_cat f2 (Or.inl rfl)), sl_1 (q_is_cat f3 (Or.inl rfl)), sl_0]; decide) ?_
  rw [la_1 (q_is_cat f0 (Or.inr rfl)), la_1 (q_is_cat f1 (Or.inl rfl)), la_1 (q_is_cat f2 (Or.inl rfl)), la_1 (q_is_cat f3 (Or.inl rfl)), la_0]
  obtain ⟨L, hL⟩ : ∃ L : QL, L = [(0, v0), (0 + 1, v1), (0 + 1 + 1, v2), (0 + 1 + 1 + 1, v3)] := ⟨_, rfl⟩
  rw [← hL]
  have l0 : q_lo L 0 = some v0 := by rw [hL]; rfl
  have l1 : q_lo L 1 = some v1 := by rw [hL]; rfl
  have l2 : q_lo L 2 = some v2 := by rw [hL]; rfl
  have l3 : q_lo L 3 = some v3 := by rw [hL]; rfl
  have hQ : Ext m0 rm → ∀ o S1, Rp S1 rm → q_out 9 o rz → (Cr 9 m0 rm rz) o S1 := fun a o S1 b e => ⟨b, a, e⟩
  unfold fm_X12_patches at h
  refine go_aload_n (n := 0) (by decide +kernel) l0 f0 ?_
  obtain ⟨x_4, e_5, h⟩ := lx_s h
  refine go_getf (x := 465) (ci := 13) (kf := 110) (fin := 0) (t := 0) (by decide +kernel) (by decide +kernel) (by decide +kernel) R f0 (fx_k (c := 13) R (by decide +kernel)) fun v_1 f_2 => ?_
  have f_3 := q_is_eq f_2 e_5
  refine go_iload_n (n := 2) (by decide +kernel) l2 f2 ?_
  refine go_ishr (by decide +kernel) f_3 f2 fun v_6 f_7 => ?_
  refine go_iconst (n := 1) (z := 1) (by decide +kernel) (by decide) fun v_8 f_9 => ?_
  refine go_iand (by decide +kernel) f_7 f_9 fun v_10 f_11 => ?_
  refine go_if (c := .ne) (o := 108) (t := 116) (P := ¬ (iAnd (iShr x_4 p2) 1 = 0)) (by decide +kernel) (by decide +kernel) f_11 (Iff.rfl) (fun hp_12 => ?_) (fun hp_12 => ?_)
  · have h := it_f hp_12 h
    exact oj_X12_patches_116 hd R l0 f0 l1 f1 l2 f2 l3 f3 hQ h
  · have h := it_n hp_12 h
    refine go_aload_n (n := 0) (by decide +kernel) l0 f0 ?_
    obtain ⟨x_57, m_58, hc_56, h⟩ := bd_s h
    refine go_callV (x := 393) (mi := 219) (n := 0) (ci := 13) (as := []) (rest := []) (by decide +kernel) (by decide +kernel) rfl rfl (q_sum8 _ (Nat.le_of_ble_eq_true rfl)) R f0 (fx_k (c := 13) R (by decide +kernel)) (om_X12_nextCommand (Nat.le_trans (by decide) hd) R f0 hc_56) (fun _ S_61 q_64 => ?_) (fun _ _ qq => kr_x qq)
    refine kr_z (by decide) q_64 fun v_59 f_60 R_62 E_63 => ?_
    have E_65 := E_63
    refine go_istore (n := 4) (by decide +kernel) (by decide +kernel) f_60 fun L_66 l_67 kp_68 => ?_
    have l_69 := kp_68 0 _ l0 (by decide) (Or.inl (by decide))
    have l_70 := kp_68 1 _ l1 (by decide) (Or.inl (by decide))
    have l_71 := kp_68 2 _ l2 (by decide) (Or.inl (by decide))
    have l_72 := kp_68 3 _ l3 (by decide) (Or.inr (q_is_cat f3 (Or.inl rfl)))
    refine go_iload (n := 4) (by decide +kernel) l_67 f_60 ?_
    refine go_aload_n (n := 0) (by decide +kernel) l_69 f0 ?_
    obtain ⟨x_76, e_77, h⟩ := lx_s h
    refine go_getf (x := 384) (ci := 13) (kf := 124) (fin := 0) (t := 0) (by decide +kernel) (by decide +kernel) (by decide +kernel) R_62 f0 (fx_k (c := 13) R_62 (by decide +kernel)) fun v_73 f_74 => ?_
    have f_75 := q_is_eq f_74 e_77
    refine go_icmp (c := .ge) (o := 7) (t := 30) (P := ¬ (x_57 < x_76)) (by decide +kernel) (by decide +kernel) f_60 f_75 (Int.not_lt.symm) (fun hp_78 => ?_) (fun hp_78 => ?_)
    · have h := it_f hp_78 h
      refine go_iconst (n := 0) (z := 0) (by decide +kernel) (by decide) fun v_79 f_80 => ?_
      exact oj_X12_patches_31 hd R_62 l_69 f0 l_70 f1 l_71 f2 l_72 f3 l_67 f_60 f_80 (fun b => hQ (Ext.tr E_65 b)) h
    · have h := it_n hp_78 h
      refine go_iconst (n := 1) (z := 1) (by decide +kernel) (by decide) fun v_180 f_181 => ?_
      refine go_goto (o := 4) (t := 31) (by decide +kernel) (by decide +kernel) ?_
      exact oj_X12_patches_31 hd R_62 l_69 f0 l_70 f1 l_71 f2 l_72 f3 l_67 f_60 f_181 (fun b => hQ (Ext.tr E_65 b)) h
noncomputable def fj_X12_bares_31 (y1 s0 s1 s2 s3 : Int) (m : MM) : Option (Int × MM) := gd (okc m s3 100) <| gd (okx m s3 s2) <| up m s3 s2 (w32 (s1 - s0)) fun m_41 =>
gd (0 ≤ y1 ∧ y1 < 12) <| lx (m_41 151 y1) fun x_54 =>
if x_54 = 0 then
some (0, m_41)
else
lx (m_41 150 y1) fun x_63 =>
if x_63 = 0 then
bd (fm_X12_cancelsBranch y1 m_41) fun x_67 m_68 =>
some (0, m_68)
else
some (0, m_41)
set_option maxHeartbeats 4000000 in
theorem oj_X12_bares_31 {xs : List Int32} {d : Nat} {S : QS} {L : QL} {Q : QO → QS → Prop} {m : MM} {y1 s0 s1 s2 s3 : Int} {v0 : Value} {v1 : Value} {w0 : Value} {w1 : Value} {w2 : Value} {w3 : Value}  {rz : Int} {rm : MM}
  (hd : 7 ≤ d) (R : Rp S m) (l0 : q_lo L 0 = some v0) (f0 : q_is 2 v0 68) (l1 : q_lo L 1 = some v1) (f1 : q_is 0 v1 y1) (fs0 : q_is 0 w0 s0) (fs1 : q_is 0 w1 s1) (fs2 : q_is 0 w2 s2) (fs3 : q_is 2 w3 s3)
  (hQ : Ext m rm → ∀ o S1, Rp S1 rm → q_out 9 o rz → Q o S1)
  (h : fj_X12_bares_31 y1 s0 s1 s2 s3 m = some (rz, rm)) : Go xs d qM_X12_bares 31 L [w0, w1, w2, w3] S Q := by
  unfold fj_X12_bares_31 at h
  refine go_isub (by decide +kernel) fs1 fs0 fun v_37 f_38 => ?_
  obtain ⟨g_39, h⟩ := gd_s h
  obtain ⟨g_40, h⟩ := gd_s h
  obtain ⟨m_41, e_42, h⟩ := up_s h
  refine go_iast (kd := 100) (by decide +kernel) rfl R fs3 fs2 f_38 g_39 g_40 e_42 (fx_a R.2 g_39 (And.left g_40) (by decide +kernel)) fun S_43 R_44 E_45 => ?_
  have E_46 := E_45
  refine go_aload_n (n := 0) (by decide +kernel) l0 f0 ?_
  refine go_getf (x := 268) (ci := 13) (kf := 101) (fin := 1) (t := 2) (by decide +kernel) (by decide +kernel) (by decide +kernel) R_44 f0 (fx_k (c := 13) R_44 (by decide +kernel)) fun v_47 f_48 => ?_
  have f_49 := q_is_eq (b := 151) f_48 (fx_v R_44 (by decide +kernel)).symm
  refine go_iload_n (n := 1) (by decide +kernel) l1 f1 ?_
  obtain ⟨g_52, h⟩ := gd_s h
  obtain ⟨x_54, e_55, h⟩ := lx_s h
  refine go_bald (kd := 102) (by decide +kernel) rfl R_44 f_49 f1 (fx_k (c := 102) R_44 (by decide +kernel)) (fx_x (a := 151) (ln := 12) R_44 (by decide +kernel) g_52) fun v_50 f_51 => ?_
  have f_53 := q_is_eq f_51 e_55
  refine go_if (c := .eq) (o := 17) (t := 56) (P := x_54 = 0) (by decide +kernel) (by decide +kernel) f_53 (Iff.rfl) (fun hp_56 => ?_) (fun hp_56 => ?_)
  · have h := it_t hp_56 h
    cases h
    exact go_vret (by decide +kernel) rfl (hQ E_46 _ _ R_44 q_out_n)
  · have h := it_f hp_56 h
    refine go_aload_n (n := 0) (by decide +kernel) l0 f0 ?_
    refine go_getf (x := 265) (ci := 13) (kf := 100) (fin := 1) (t := 2) (by decide +kernel) (by decide +kernel) (by decide +kernel) R_44 f0 (fx_k (c := 13) R_44 (by decide +kernel)) fun v_57 f_58 => ?_
    have f_59 := q_is_eq (b := 150) f_58 (fx_v R_44 (by decide +kernel)).symm
    refine go_iload_n (n := 1) (by decide +kernel) l1 f1 ?_
    obtain ⟨x_63, e_64, h⟩ := lx_s h
    refine go_iald (kd := 100) (by decide +kernel) rfl R_44 f_59 f1 (fx_k (c := 100) R_44 (by decide +kernel)) (fx_x (a := 150) (ln := 12) R_44 (by decide +kernel) g_52) fun v_60 f_61 => ?_
    have f_62 := q_is_eq f_61 e_64
    refine go_if (c := .ne) (o := 8) (t := 56) (P := ¬ (x_63 = 0)) (by decide +kernel) (by decide +kernel) f_62 (Iff.rfl) (fun hp_65 => ?_) (fun hp_65 => ?_)
    · have h := it_f hp_65 h
      cases h
      exact go_vret (by decide +kernel) rfl (hQ E_46 _ _ R_44 q_out_n)
    · have h := it_n hp_65 h
      refine go_aload_n (n := 0) (by decide +kernel) l0 f0 ?_
      refine go_iload_n (n := 1) (by decide +kernel) l1 f1 ?_
      obtain ⟨x_67, m_68, hc_66, h⟩ := bd_s h
      refine go_callV (x := 468) (mi := 229) (n := 1) (ci := 13) (as := [v1]) (rest := []) (by decide +kernel) (by decide +kernel) rfl rfl (q_sum8 _ (Nat.le_of_ble_eq_true rfl)) R_44 f0 (fx_k (c := 13) R_44 (by decide +kernel)) (om_X12_cancelsBranch (Nat.le_trans (by decide) hd) R_44 f0 f1 hc_66) (fun _ S_71 q_74 => ?_) (fun _ _ qq => kr_x qq)
      refine kr_v q_74 fun R_72 E_73 => ?_
      have E_75 := Ext.tr E_46 E_73
      cases h
      exact go_vret (by decide +kernel) rfl (hQ E_75 _ _ R_72 q_out_n)
noncomputable def fm_X12_bares (p1 : Int) (m0 : MM) : Option (Int × MM) := gd (0 ≤ p1 ∧ p1 < 12) <| lx (m0 144 p1) fun x_8 =>
up m0 144 p1 (w32 (x_8 + 1)) fun m_14 =>
lx (m_14 150 p1) fun x_26 =>
if 0 < x_26 then
fj_X12_bares_31 p1 1 x_26 p1 150 m_14
else
fj_X12_bares_31 p1 0 x_26 p1 150 m_14
set_option maxHeartbeats 4000000 in
theorem om_X12_bares {xs : List Int32} {d : Nat} {S : QS} {m0 : MM} {p1 : Int} {v0 : Value} {v1 : Value} {rz : Int} {rm : MM}
  (hd : 8 ≤ d) (R : Rp S m0) (f0 : q_is 2 v0 68) (f1 : q_is 0 v1 p1)
  (h : fm_X12_bares p1 m0 = some (rz, rm)) : Mt xs d 238 [v0, v1] S (Cr 9 m0 rm rz) := by
  obtain ⟨d, rfl⟩ : ∃ e, d = e + 1 := ⟨d - 1, by omega⟩
  have hd : 7 ≤ d := Nat.le_of_succ_le_succ hd
  refine Mt.of (M := qM_X12_bares) rfl (by rw [sl_1 (q_is_cat f0 (Or.inr rfl)), sl_1 (q_is_cat f1 (Or.inl rfl)), sl_0]; decide) ?_
  rw [la_1 (q_is_cat f0 (Or.inr rfl)), la_1 (q_is_cat f1 (Or.inl rfl)), la_0]
  obtain ⟨L, hL⟩ : ∃ L : QL, L = [(0, v0), (0 + 1, v1)] := ⟨_, rfl⟩
  rw [← hL]
  have l0 : q_lo L 0 = some v0 := by rw [hL]; rfl
  have l1 : q_lo L 1 = some v1 := by rw [hL]; rfl
  have hQ : Ext m0 rm → ∀ o S1, Rp S1 rm → q_out 9 o rz → (Cr 9 m0 rm rz) o S1 := fun a o S1 b e => ⟨b, a, e⟩
  unfold fm_X12_bares at h
  refine go_aload_n (n := 0) (by decide +kernel) l0 f0 ?_
  refine go_getf (x := 247) (ci := 13) (kf := 94) (fin := 1) (t := 2) (by decide +kernel) (by decide +kernel) (by decide +kernel) R f0 (fx_k (c := 13) R (by decide +kernel)) fun v_1 f_2 => ?_
  have f_3 := q_is_eq (b := 144) f_2 (fx_v R (by decide +kernel)).symm
  refine go_iload_n (n := 1) (by decide +kernel) l1 f1 ?_
  refine go_dup2 (by decide +kernel) f1 (Or.inl rfl) f_3 (Or.inr rfl) ?_
  obtain ⟨g_6, h⟩ := gd_s h
  obtain ⟨x_8, e_9, h⟩ := lx_s h
  refine go_iald (kd := 100) (by decide +kernel) rfl R f_3 f1 (fx_k (c := 100) R (by decide +kernel)) (fx_x (a := 144) (ln := 12) R (by decide +kernel) g_6) fun v_4 f_5 => ?_
  have f_7 := q_is_eq f_5 e_9
  refine go_iconst (n := 1) (z := 1) (by decide +kernel) (by decide) fun v_10 f_11 => ?_
  refine go_iadd (by decide +kernel) f_7 f_11 fun v_12 f_13 => ?_
  obtain ⟨m_14, e_15, h⟩ := up_s h
  refine go_iast (kd := 100) (by decide +kernel) rfl R f_3 f1 f_13 (fx_k (c := 100) R (by decide +kernel)) (fx_x (a := 144) (ln := 12) R (by decide +kernel) g_6) e_15 (fx_a R.2 (fx_k (c := 100) R (by decide +kernel)) (And.left (fx_x (a := 144) (ln := 12) R (by decide +kernel) g_6)) (by decide +kernel)) fun S_16 R_17 E_18 => ?_
  have E_19 := E_18
  refine go_aload_n (n := 0) (by decide +kernel) l0 f0 ?_
  refine go_getf (x := 265) (ci := 13) (kf := 100) (fin := 1) (t := 2) (by decide +kernel) (by decide +kernel) (by decide +kernel) R_17 f0 (fx_k (c := 13) R_17 (by decide +kernel)) fun v_20 f_21 => ?_
  have f_22 := q_is_eq (b := 150) f_21 (fx_v R_17 (by decide +kernel)).symm
  refine go_iload_n (n := 1) (by decide +kernel) l1 f1 ?_
  refine go_dup2 (by decide +kernel) f1 (Or.inl rfl) f_22 (Or.inr rfl) ?_
  obtain ⟨x_26, e_27, h⟩ := lx_s h
  refine go_iald (kd := 100) (by decide +kernel) rfl R_17 f_22 f1 (fx_k (c := 100) R_17 (by decide +kernel)) (fx_x (a := 150) (ln := 12) R_17 (by decide +kernel) g_6) fun v_23 f_24 => ?_
  have f_25 := q_is_eq f_24 e_27
  refine go_aload_n (n := 0) (by decide +kernel) l0 f0 ?_
  refine go_getf (x := 265) (ci := 13) (kf := 100) (fin := 1) (t := 2) (by decide +kernel) (by decide +kernel) (by decide +kernel) R_17 f0 (fx_k (c := 13) R_17 (by decide +kernel)) fun v_28 f_29 => ?_
  have f_30 := q_is_eq (b := 150) f_29 (fx_v R_17 (by decide +kernel)).symm
  refine go_iload_n (n := 1) (by decide +kernel) l1 f1 ?_
  refine go_iald (kd := 100) (by decide +kernel) rfl R_17 f_30 f1 (fx_k (c := 100) R_17 (by decide +kernel)) (fx_x (a := 150) (ln := 12) R_17 (by decide +kernel) g_6) fun v_31 f_32 => ?_
  have f_33 := q_is_eq f_32 e_27
  refine go_if (c := .le) (o := 7) (t := 30) (P := ¬ (0 < x_26)) (by decide +kernel) (by decide +kernel) f_33 (Int.not_lt.symm) (fun hp_34 => ?_) (fun hp_34 => ?_)
  · have h := it_f hp_34 h
    refine go_iconst (n := 0) (z := 0) (by decide +kernel) (by decide) fun v_35 f_36 => ?_
    exact oj_X12_bares_31 hd R_17 l0 f0 l1 f1 f_36 f_25 f1 f_22 (fun b => hQ (Ext.tr E_19 b)) h
  · have h := it_n hp_34 h
    refine go_iconst (n := 1) (z := 1) (by decide +kernel) (by decide) fun v_76 f_77 => ?_
    refine go_goto (o := 4) (t := 31) (by decide +kernel) (by decide +kernel) ?_
    exact oj_X12_bares_31 hd R_17 l0 f0 l1 f1 f_77 f_25 f1 f_22 (fun b => hQ (Ext.tr E_19 b)) h
noncomputable def fj_X12_doesMore_150 (y1 s0 s1 s2 : Int) (m : MM) : Option (Int × MM) := gd (okc m s2 100) <| gd (okx m s2 s1) <| up m s2 s1 s0 fun m_126 =>
gd (0 ≤ y1 ∧ y1 < 12) <| lx (m_126 144 y1) fun x_139 =>
up m_126 144 y1 (w32 (x_139 + 1)) fun m_145 =>
some (0, m_145)
set_option maxHeartbeats 4000000 in
theorem oj_X12_doesMore_150 {xs : List Int32} {d : Nat} {S : QS} {L : QL} {Q : QO → QS → Prop} {m : MM} {y1 s0 s1 s2 : Int} {v0 : Value} {v1 : Value} {w0 : Value} {w1 : Value} {w2 : Value}  {rz : Int} {rm : MM}
  (hd : 8 ≤ d) (R : Rp S m) (l0 : q_lo L 0 = some v0) (f0 : q_is 2 v0 68) (l1 : q_lo L 1 = some v1) (f1 : q_is 0 v1 y1) (fs0 : q_is 0 w0 s0) (fs1 : q_is 0 w1 s1) (fs2 : q_is 2 w2 s2)
  (hQ : Ext m rm → ∀ o S1, Rp S1 rm → q_out 9 o rz → Q o S1)
  (h : fj_X12_doesMore_150 y1 s0 s1 s2 m = some (rz, rm)) : Go xs d qM_X12_doesMore 150 L [w0, w1, w2] S Q := by
  unfold fj_X12_doesMore_150 at h
  obtain ⟨g_124, h⟩ := gd_s h
  obtain ⟨g_125, h⟩ := gd_s h
  obtain ⟨m_126, e_127, h⟩ := up_s h
  refine go_iast (kd := 100) (by decide +kernel) rfl R fs2 fs1 fs0 g_124 g_125 e_127 (fx_a R.2 g_124 (And.left g_125) (by decide +kernel)) fun S_128 R_129 E_130 => ?_
  have E_131 := E_130
  refine go_aload_n (n := 0) (by decide +kernel) l0 f0 ?_
  refine go_getf (x := 247) (ci := 13) (kf := 94) (fin := 1) (t := 2) (by decide +kernel) (by decide +kernel) (by decide +kernel) R_129 f0 (fx_k (c := 13) R_129 (by decide +kernel)) fun v_132 f_133 => ?_
  have f_134 := q_is_eq (b := 144) f_133 (fx_v R_129 (by decide +kernel)).symm
  refine go_iload_n (n := 1) (by decide +kernel) l1 f1 ?_
  refine go_dup2 (by decide +kernel) f1 (Or.inl rfl) f_134 (Or.inr rfl) ?_
  obtain ⟨g_137, h⟩ := gd_s h
  obtain ⟨x_139, e_140, h⟩ := lx_s h
  refine go_iald (kd := 100) (by decide +kernel) rfl R_129 f_134 f1 (fx_k (c := 100) R_129 (by decide +kernel)) (fx_x (a := 144) (ln := 12) R_129 (by decide +kernel) g_137) fun v_135 f_136 => ?_
  have f_138 := q_is_eq f_136 e_140
  refine go_iconst (n := 1) (z := 1) (by decide +kernel) (by decide) fun v_141 f_142 => ?_
  refine go_iadd (by decide +kernel) f_138 f_142 fun v_143 f_144 => ?_
  obtain ⟨m_145, e_146, h⟩ := up_s h
  refine go_iast (kd := 100) (by decide +kernel) rfl R_129 f_134 f1 f_144 (fx_k (c := 100) R_129 (by decide +kernel)) (fx_x (a := 144) (ln := 12) R_129 (by decide +kernel) g_137) e_146 (fx_a R_129.2 (fx_k (c := 100) R_129 (by decide +kernel)) (And.left (fx_x (a := 144) (ln := 12) R_129 (by decide +kernel) g_137)) (by decide +kernel)) fun S_147 R_148 E_149 => ?_
  have E_150 := Ext.tr E_131 E_149
  refine go_goto (o := 175) (t := 336) (by decide +kernel) (by decide +kernel) ?_
  cases h
  exact go_vret (by decide +kernel) rfl (hQ E_150 _ _ R_148 q_out_n)
noncomputable def fm_X12_doesMore (p1 p2 p3 p4 : Int) (m0 : MM) : Option (Int × MM) := if p2 = 12 then
lx (m0 68 103) fun x_9 =>
gd (0 ≤ p1 ∧ p1 < 12) <| lx (m0 148 p1) fun x_20 =>
gd (0 ≤ x_9 ∧ x_9 < 196608) <| up m0 153 x_9 (w32 ((w32 (24 * (w32 (x_20 + 1)))) + p3)) fun m_31 =>
lx (m_31 68 103) fun x_43 =>
up m_31 148 p1 x_43 fun m_45 =>
lx (m_45 68 103) fun x_54 =>
up m_45 68 103 (w32 (x_54 + 1)) fun m_60 =>
lx (m_60 144 p1) fun x_72 =>
up m_60 144 p1 (w32 (x_72 + 1)) fun m_78 =>
some (0, m_78)
else if p2 = 13 then
gd (0 ≤ p1 ∧ p1 < 12) <| lx (m0 148 p1) fun x_96 =>
if x_96 = (-1) then
fj_X12_doesMore_150 p1 (-1) p1 148 m0
else
gd (0 ≤ x_96 ∧ x_96 < 196608) <| lx (m0 153 x_96) fun x_114 =>
fj_X12_doesMore_150 p1 (w32 ((w32 (Int.tdiv x_114 24)) - 1)) p1 148 m0
else if p2 = 14 then
lx (m0 68 105) fun x_161 =>
gd (0 ≤ p4 ∧ p4 < 6) <| lx (m0 142 p4) fun x_172 =>
gd (0 ≤ x_161 ∧ x_161 < 196608) <| up m0 154 x_161 (w32 ((w32 (10 * x_172)) + p3)) fun m_179 =>
lx (m_179 68 105) fun x_188 =>
up m_179 68 105 (w32 (x_188 + 1)) fun m_194 =>
gd (0 ≤ p1 ∧ p1 < 12) <| lx (m_194 144 p1) fun x_207 =>
up m_194 144 p1 (w32 (x_207 + 1)) fun m_213 =>
some (0, m_213)
else if p2 = 15 then
bd (fm_X12_undoes p1 m0) fun x_222 m_223 =>
some (0, m_223)
else if p2 = 16 then
bd (fm_X12_endsBranch p1 m0) fun x_234 m_235 =>
some (0, m_235)
else if p2 = 17 then
bd (fm_X12_failsBranch p1 m0) fun x_246 m_247 =>
some (0, m_247)
else if p2 = 18 then
gd (0 ≤ p3 ∧ p3 < 6) <| lx (m0 142 p3) fun x_266 =>
bd (fm_X12_endsRun 16 x_266 m0) fun x_269 m_270 =>
some (0, m_270)
else if p2 = 19 then
bd (fm_X12_patches p1 p3 p4 m0) fun x_281 m_282 =>
some (0, m_282)
else if p2 = 20 then
lx (m0 68 118) fun x_298 =>
gd (0 ≤ p3 ∧ p3 < 6) <| up m0 142 p3 x_298 fun m_301 =>
gd (0 ≤ p1 ∧ p1 < 12) <| lx (m_301 144 p1) fun x_314 =>
up m_301 144 p1 (w32 (x_314 + 1)) fun m_320 =>
some (0, m_320)
else if p2 = 21 then
gd (0 ≤ p1 ∧ p1 < 12) <| lx (m0 150 p1) fun x_335 =>
up m0 150 p1 (w32 (x_335 + 1)) fun m_341 =>
lx (m_341 144 p1) fun x_353 =>
up m_341 144 p1 (w32 (x_353 + 1)) fun m_359 =>
some (0, m_359)
else if p2 = 22 then
bd (fm_X12_bares p1 m0) fun x_368 m_369 =>
some (0, m_369)
else 
gd (0 ≤ p3 ∧ p3 < 6) <| lx (m0 142 p3) fun x_386 =>
bd (fm_X12_commands 13 x_386 0 m0) fun x_391 m_392 =>
gd (0 ≤ p1 ∧ p1 < 12) <| lx (m_392 144 p1) fun x_407 =>
up m_392 144 p1 (w32 (x_407 + 1)) fun m_413 =>
some (0, m_413)
set_option maxHeartbeats 4000000 in
theorem om_X12_doesMore {xs : List Int32} {d : Nat} {S : QS} {m0 : MM} {p1 p2 p3 p4 : Int} {v0 : Value} {v1 : Value} {v2 : Value} {v3 : Value} {v4 : Value} {rz : Int} {rm : MM}
  (hd : 9 ≤ d) (R : Rp S m0) (f0 : q_is 2 v0 68) (f1 : q_is 0 v1 p1) (f2 : q_is 0 v2 p2) (f3 : q_is 0 v3 p3) (f4 : q_is 0 v4 p4)
  (h : fm_X12_doesMore p1 p2 p3 p4 m0 = some (rz, rm)) : Mt xs d 240 [v0, v1, v2, v3, v4] S (Cr 9 m0 rm rz) := by
  obtain ⟨d, rfl⟩ : ∃ e, d = e + 1 := ⟨d - 1, by omega⟩
  have hd : 8 ≤ d := Nat.le_of_succ_le_succ hd
  refine Mt.of (M := qM_X12_doesMore) rfl (by rw [sl_1 (q_is_cat f0 (Or.inr rfl)), sl_1 (q_is_cat f1 (Or.inl rfl)), sl_1 (q_is_cat f2 (Or.inl rfl)), sl_1 (q_is_cat f3 (Or.inl rfl)), sl_1 (q_is_cat f4 (Or.inl rfl)), sl_0]; decide) ?_
  rw [la_1 (q_is_cat f0 (Or.inr rfl)), la_1 (q_is_cat f1 (Or.inl rfl)), la_1 (q_is_cat f2 (Or.inl rfl)), la_1 (q_is_cat f3 (Or.inl rfl)), la_1 (q_is_cat f4 (Or.inl rfl)), la_0]
  obtain ⟨L, hL⟩ : ∃ L : QL, L = [(0, v0), (0 + 1, v1), (0 + 1 + 1, v2), (0 + 1 + 1 + 1, v3), (0 + 1 + 1 + 1 + 1, v4)] := ⟨_, rfl⟩
  rw [← hL]
  have l0 : q_lo L 0 = some v0 := by rw [hL]; rfl
  have l1 : q_lo L 1 = some v1 := by rw [hL]; rfl
  have l2 : q_lo L 2 = some v2 := by rw [hL]; rfl
  have l3 : q_lo L 3 = some v3 := by rw [hL]; rfl
  have l4 : q_lo L 4 = some v4 := by rw [hL]; rfl
  have hQ : Ext m0 rm → ∀ o S1, Rp S1 rm → q_out 9 o rz → (Cr 9 m0 rm rz) o S1 := fun a o S1 b e => ⟨b, a, e⟩
  unfold fm_X12_doesMore at h
  refine go_iload_n (n := 2) (by decide +kernel) l2 f2 ?_
  by_cases hp_2 : p2 = 12
  · have h := it_t hp_2 h
    refine go_tsin (dflt := 311) (lo := 12) (hi := 22) (offs := #[59, 114, 163, 207, 215, 223, 231, 246, 257, 280, 303]) (o := 59) (t := 60) (by decide +kernel) f2 (by omega) (by omega) (by rw [hp_2]; decide) (by decide +kernel) ?_
    refine go_aload_n (n := 0) (by decide +kernel) l0 f0 ?_
    refine go_getf (x := 275) (ci := 13) (kf := 104) (fin := 1) (t := 2) (by decide +kernel) (by decide +kernel) (by decide +kernel) R f0 (fx_k (c := 13) R (by decide +kernel)) fun v_3 f_4 => ?_
    have f_5 := q_is_eq (b := 153) f_4 (fx_v R (by decide +kernel)).symm
    refine go_aload_n (n := 0) (by decide +kernel) l0 f0 ?_
    obtain ⟨x_9, e_10, h⟩ := lx_s h
    refine go_getf (x := 483) (ci := 13) (kf := 103) (fin := 0) (t := 0) (by decide +kernel) (by decide +kernel) (by decide +kernel) R f0 (fx_k (c := 13) R (by decide +kernel)) fun v_6 f_7 => ?_
    have f_8 := q_is_eq f_7 e_10
    refine go_bipush (n := 24) (z := 24) (by decide +kernel) (by decide) fun v_11 f_12 => ?_
    refine go_aload_n (n := 0) (by decide +kernel) l0 f0 ?_
    refine go_getf (x := 259) (ci := 13) (kf := 98) (fin := 1) (t := 2) (by decide +kernel) (by decide +kernel) (by decide +kernel) R f0 (fx_k (c := 13) R (by decide +kernel)) fun v_13 f_14 => ?_
    have f_15 := q_is_eq (b := 148) f_14 (fx_v R (by decide +kernel)).symm
    refine go_iload_n (n := 1) (by decide +kernel) l1 f1 ?_
    obtain ⟨g_18, h⟩ := gd_s h
    obtain ⟨x_20, e_21, h⟩ := lx_s h
    refine go_iald (kd := 100) (by decide +kernel) rfl R f_15 f1 (fx_k (c := 100) R (by decide +kernel)) (fx_x (a := 148) (ln := 12) R (by decide +kernel) g_18) fun v_16 f_17 => ?_
    have f_19 := q_is_eq f_17 e_21
    refine go_iconst (n := 1) (z := 1) (by decide +kernel) (by decide) fun v_22 f_23 => ?_
    refine go_iadd (by decide +kernel) f_19 f_23 fun v_24 f_25 => ?_
    refine go_imul (by decide +kernel) f_12 f_25 fun v_26 f_27 => ?_
    refine go_iload_n (n := 3) (by decide +kernel) l3 f3 ?_
    refine go_iadd (by decide +kernel) f_27 f3 fun v_28 f_29 => ?_
    obtain ⟨g_30, h⟩ := gd_s h
    obtain ⟨m_31, e_32, h⟩ := up_s h
    refine go_iast (kd := 100) (by decide +kernel) rfl R f_5 f_8 f_29 (fx_k (c := 100) R (by decide +kernel)) (fx_x (a := 153) (ln := 196608) R (by decide +kernel) g_30) e_32 (fx_a R.2 (fx_k (c := 100) R (by decide +kernel)) (And.left (fx_x (a := 153) (ln := 196608) R (by decide +kernel) g_30)) (by decide +kernel)) fun S_33 R_34 E_35 => ?_
    have E_36 := E_35
    refine go_aload_n (n := 0) (by decide +kernel) l0 f0 ?_
    refine go_getf (x := 259) (ci := 13) (kf := 98) (fin := 1) (t := 2) (by decide +kernel) (by decide +kernel) (by decide +kernel) R_34 f0 (fx_k (c := 13) R_34 (by decide +kernel)) fun v_37 f_38 => ?_
    have f_39 := q_is_eq (b := 148) f_38 (fx_v R_34 (by decide +kernel)).symm
    refine go_iload_n (n := 1) (by decide +kernel) l1 f1 ?_
    refine go_aload_n (n := 0) (by decide +kernel) l0 f0 ?_
    obtain ⟨x_43, e_44, h⟩ := lx_s h
    refine go_getf (x := 483) (ci := 13) (kf := 103) (fin := 0) (t := 0) (by decide +kernel) (by decide +kernel) (by decide +kernel) R_34 f0 (fx_k (c := 13) R_34 (by decide +kernel)) fun v_40 f_41 => ?_
    have f_42 := q_is_eq f_41 e_44
    obtain ⟨m_45, e_46, h⟩ := up_s h
    refine go_iast (kd := 100) (by decide +kernel) rfl R_34 f_39 f1 f_42 (fx_k (c := 100) R_34 (by decide +kernel)) (fx_x (a := 148) (ln := 12) R_34 (by decide +kernel) g_18) e_46 (fx_a R_34.2 (fx_k (c := 100) R_34 (by decide +kernel)) (And.left (fx_x (a := 148) (ln := 12) R_34 (by decide +kernel) g_18)) (by decide +kernel)) fun S_47 R_48 E_49 => ?_
    have E_50 := Ext.tr E_36 E_49
    refine go_aload_n (n := 0) (by decide +kernel) l0 f0 ?_
    refine go_dup (by decide +kernel) f0 (Or.inr rfl) ?_
    obtain ⟨x_54, e_55, h⟩ := lx_s h
    refine go_getf (x := 483) (ci := 13) (kf := 103) (fin := 0) (t := 0) (by decide +kernel) (by decide +kernel) (by decide +kernel) R_48 f0 (fx_k (c := 13) R_48 (by decide +kernel)) fun v_51 f_52 => ?_
    have f_53 := q_is_eq f_52 e_55
    refine go_iconst (n := 1) (z := 1) (by decide +kernel) (by decide) fun v_56 f_57 => ?_
    refine go_iadd (by decide +kernel) f_53 f_57 fun v_58 f_59 => ?_
    obtain ⟨m_60, e_61, h⟩ := up_s h
    refine go_putf (x := 483) (ci := 13) (kf := 103) (fin := 0) (zt := 0) (by decide +kernel) (by decide +kernel) (by decide) (by decide +kernel) (by decide) (Or.inl rfl) R_48 f0 f_59 (fun hq => absurd hq (by decide)) (fx_k (c := 13) R_48 (by decide +kernel)) e_61 (fx_f (j := 103) R_48.2 (fx_k (c := 13) R_48 (by decide +kernel)) (by decide +kernel)) fun S_62 R_63 E_64 => ?_
    have E_65 := Ext.tr E_50 E_64
    refine go_aload_n (n := 0) (by decide +kernel) l0 f0 ?_
    refine go_getf (x := 247) (ci := 13) (kf := 94) (fin := 1) (t := 2) (by decide +kernel) (by decide +kernel) (by decide +kernel) R_63 f0 (fx_k (c := 13) R_63 (by decide +kernel)) fun v_66 f_67 => ?_
    have f_68 := q_is_eq (b := 144) f_67 (fx_v R_63 (by decide +kernel)).symm
    refine go_iload_n (n := 1) (by decide +kernel) l1 f1 ?_
    refine go_dup2 (by decide +kernel) f1 (Or.inl rfl) f_68 (Or.inr rfl) ?_
    obtain ⟨x_72, e_73, h⟩ := lx_s h
    refine go_iald (kd := 100) (by decide +kernel) rfl R_63 f_68 f1 (fx_k (c := 100) R_63 (by decide +kernel)) (fx_x (a := 144) (ln := 12) R_63 (by decide +kernel) g_18) fun v_69 f_70 => ?_
    have f_71 := q_is_eq f_70 e_73
    refine go_iconst (n := 1) (z := 1) (by decide +kernel) (by decide) fun v_74 f_75 => ?_
    refine go_iadd (by decide +kernel) f_71 f_75 fun v_76 f_77 => ?_
    obtain ⟨m_78, e_79, h⟩ := up_s h
    refine go_iast (kd := 100) (by decide +kernel) rfl R_63 f_68 f1 f_77 (fx_k (c := 100) R_63 (by decide +kernel)) (fx_x (a := 144) (ln := 12) R_63 (by decide +kernel) g_18) e_79 (fx_a R_63.2 (fx_k (c := 100) R_63 (by decide +kernel)) (And.left (fx_x (a := 144) (ln := 12) R_63 (by decide +kernel) g_18)) (by decide +kernel)) fun S_80 R_81 E_82 => ?_
    have E_83 := Ext.tr E_65 E_82
    refine go_goto (o := 224) (t := 336) (by decide +kernel) (by decide +kernel) ?_
    cases h
    exact go_vret (by decide +kernel) rfl (hQ E_83 _ _ R_81 q_out_n)
  have h := it_f hp_2 h
  by_cases hp_85 : p2 = 13
  · have h := it_t hp_85 h
    refine go_tsin (dflt := 311) (lo := 12) (hi := 22) (offs := #[59, 114, 163, 207, 215, 223, 231, 246, 257, 280, 303]) (o := 114) (t := 115) (by decide +kernel) f2 (by omega) (by omega) (by rw [hp_85]; decide) (by decide +kernel) ?_
    refine go_aload_n (n := 0) (by decide +kernel) l0 f0 ?_
    refine go_getf (x := 259) (ci := 13) (kf := 98) (fin := 1) (t := 2) (by decide +kernel) (by decide +kernel) (by decide +kernel) R f0 (fx_k (c := 13) R (by decide +kernel)) fun v_86 f_87 => ?_
    have f_88 := q_is_eq (b := 148) f_87 (fx_v R (by decide +kernel)).symm
    refine go_iload_n (n := 1) (by decide +kernel) l1 f1 ?_
    refine go_aload_n (n := 0) (by decide +kernel) l0 f0 ?_
    refine go_getf (x := 259) (ci := 13) (kf := 98) (fin := 1) (t := 2) (by decide +kernel) (by decide +kernel) (by decide +kernel) R f0 (fx_k (c := 13) R (by decide +kernel)) fun v_89 f_90 => ?_
    have f_91 := q_is_eq (b := 148) f_90 (fx_v R (by decide +kernel)).symm
    refine go_iload_n (n := 1) (by decide +kernel) l1 f1 ?_
    obtain ⟨g_94, h⟩ := gd_s h
    obtain ⟨x_96, e_97, h⟩ := lx_s h
    refine go_iald (kd := 100) (by decide +kernel) rfl R f_91 f1 (fx_k (c := 100) R (by decide +kernel)) (fx_x (a := 148) (ln := 12) R (by decide +kernel) g_94) fun v_92 f_93 => ?_
    have f_95 := q_is_eq f_93 e_97
    refine go_iconst (n := (-1)) (z := (-1)) (by decide +kernel) (by decide) fun v_98 f_99 => ?_
    refine go_icmp (c := .ne) (o := 7) (t := 134) (P := ¬ (x_96 = (-1))) (by decide +kernel) (by decide +kernel) f_95 f_99 (Iff.rfl) (fun hp_100 => ?_) (fun hp_100 => ?_)
    · have h := it_f hp_100 h
      refine go_aload_n (n := 0) (by decide +kernel) l0 f0 ?_
      refine go_getf (x := 275) (ci := 13) (kf := 104) (fin := 1) (t := 2) (by decide +kernel) (by decide +kernel) (by decide +kernel) R f0 (fx_k (c := 13) R (by decide +kernel)) fun v_101 f_102 => ?_
      have f_103 := q_is_eq (b := 153) f_102 (fx_v R (by decide +kernel)).symm
      refine go_aload_n (n := 0) (by decide +kernel) l0 f0 ?_
      refine go_getf (x := 259) (ci := 13) (kf := 98) (fin := 1) (t := 2) (by decide +kernel) (by decide +kernel) (by decide +kernel) R f0 (fx_k (c := 13) R (by decide +kernel)) fun v_104 f_105 => ?_
      have f_106 := q_is_eq (b := 148) f_105 (fx_v R (by decide +kernel)).symm
      refine go_iload_n (n := 1) (by decide +kernel) l1 f1 ?_
      refine go_iald (kd := 100) (by decide +kernel) rfl R f_106 f1 (fx_k (c := 100) R (by decide +kernel)) (fx_x (a := 148) (ln := 12) R (by decide +kernel) g_94) fun v_107 f_108 => ?_
      have f_109 := q_is_eq f_108 e_97
      obtain ⟨g_112, h⟩ := gd_s h
      obtain ⟨x_114, e_115, h⟩ := lx_s h
      refine go_iald (kd := 100) (by decide +kernel) rfl R f_103 f_109 (fx_k (c := 100) R (by decide +kernel)) (fx_x (a := 153) (ln := 196608) R (by decide +kernel) g_112) fun v_110 f_111 => ?_
      have f_113 := q_is_eq f_111 e_115
      refine go_bipush (n := 24) (z := 24) (by decide +kernel) (by decide) fun v_116 f_117 => ?_
      refine go_idiv (by decide +kernel) f_113 f_117 (by decide) fun v_118 f_119 => ?_
      refine go_iconst (n := 1) (z := 1) (by decide +kernel) (by decide) fun v_120 f_121 => ?_
      refine go_isub (by decide +kernel) f_119 f_121 fun v_122 f_123 => ?_
      exact oj_X12_doesMore_150 hd R l0 f0 l1 f1 f_123 f1 f_88 hQ h
    · have h := it_n hp_100 h
      refine go_iconst (n := (-1)) (z := (-1)) (by decide +kernel) (by decide) fun v_151 f_152 => ?_
      refine go_goto (o := 19) (t := 150) (by decide +kernel) (by decide +kernel) ?_
      exact oj_X12_doesMore_150 hd R l0 f0 l1 f1 f_152 f1 f_88 hQ h
  have h := it_f hp_85 h
  by_cases hp_154 : p2 = 14
  · have h := it_t hp_154 h
    refine go_tsin (dflt := 311) (lo := 12) (hi := 22) (offs := #[59, 114, 163, 207, 215, 223, 231, 246, 257, 280, 303]) (o := 163) (t := 164) (by decide +kernel) f2 (by omega) (by omega) (by rw [hp_154]; decide) (by decide +kernel) ?_
    refine go_aload_n (n := 0) (by decide +kernel) l0 f0 ?_
    refine go_getf (x := 278) (ci := 13) (kf := 106) (fin := 1) (t := 2) (by decide +kernel) (by decide +kernel) (by decide +kernel) R f0 (fx_k (c := 13) R (by decide +kernel)) fun v_155 f_156 => ?_
    have f_157 := q_is_eq (b := 154) f_156 (fx_v R (by decide +kernel)).symm
    refine go_aload_n (n := 0) (by decide +kernel) l0 f0 ?_
    obtain ⟨x_161, e_162, h⟩ := lx_s h
    refine go_getf (x := 458) (ci := 13) (kf := 105) (fin := 0) (t := 0) (by decide +kernel) (by decide +kernel) (by decide +kernel) R f0 (fx_k (c := 13) R (by decide +kernel)) fun v_158 f_159 => ?_
    have f_160 := q_is_eq f_159 e_162
    refine go_bipush (n := 10) (z := 10) (by decide +kernel) (by decide) fun v_163 f_164 => ?_
    refine go_aload_n (n := 0) (by decide +kernel) l0 f0 ?_
    refine go_getf (x := 241) (ci := 13) (kf := 90) (fin := 1) (t := 2) (by decide +kernel) (by decide +kernel) (by decide +kernel) R f0 (fx_k (c := 13) R (by decide +kernel)) fun v_165 f_166 => ?_
    have f_167 := q_is_eq (b := 142) f_166 (fx_v R (by decide +kernel)).symm
    refine go_iload (n := 4) (by decide +kernel) l4 f4 ?_
    obtain ⟨g_170, h⟩ := gd_s h
    obtain ⟨x_172, e_173, h⟩ := lx_s h
    refine go_iald (kd := 100) (by decide +kernel) rfl R f_167 f4 (fx_k (c := 100) R (by decide +kernel)) (fx_x (a := 142) (ln := 6) R (by decide +kernel) g_170) fun v_168 f_169 => ?_
    have f_171 := q_is_eq f_169 e_173
    refine go_imul (by decide +kernel) f_164 f_171 fun v_174 f_175 => ?_
    refine go_iload_n (n := 3) (by decide +kernel) l3 f3 ?_
    refine go_iadd (by decide +kernel) f_175 f3 fun v_176 f_177 => ?_
    obtain ⟨g_178, h⟩ := gd_s h
    obtain ⟨m_179, e_180, h⟩ := up_s h
    refine go_iast (kd := 100) (by decide +kernel) rfl R f_157 f_160 f_177 (fx_k (c := 100) R (by decide +kernel)) (fx_x (a := 154) (ln := 196608) R (by decide +kernel) g_178) e_180 (fx_a R.2 (fx_k (c := 100) R (by decide +kernel)) (And.left (fx_x (a := 154) (ln := 196608) R (by decide +kernel) g_178)) (by decide +kernel)) fun S_181 R_182 E_183 => ?_
    have E_184 := E_183
    refine go_aload_n (n := 0) (by decide +kernel) l0 f0 ?_
    refine go_dup (by decide +kernel) f0 (Or.inr rfl) ?_
    obtain ⟨x_188, e_189, h⟩ := lx_s h
    refine go_getf (x := 458) (ci := 13) (kf := 105) (fin := 0) (t := 0) (by decide +kernel) (by decide +kernel) (by decide +kernel) R_182 f0 (fx_k (c := 13) R_182 (by decide +kernel)) fun v_185 f_186 => ?_
    have f_187 := q_is_eq f_186 e_189
    refine go_iconst (n := 1) (z := 1) (by decide +kernel) (by decide) fun v_190 f_191 => ?_
    refine go_iadd (by decide +kernel) f_187 f_191 fun v_192 f_193 => ?_
    obtain ⟨m_194, e_195, h⟩ := up_s h
    refine go_putf (x := 458) (ci := 13) (kf := 105) (fin := 0) (zt := 0) (by decide +kernel) (by decide +kernel) (by decide) (by decide +kernel) (by decide) (Or.inl rfl) R_182 f0 f_193 (fun hq => absurd hq (by decide)) (fx_k (c := 13) R_182 (by decide +kernel)) e_195 (fx_f (j := 105) R_182.2 (fx_k (c := 13) R_182 (by decide +kernel)) (by decide +kernel)) fun S_196 R_197 E_198 => ?_
    have E_199 := Ext.tr E_184 E_198
    refine go_aload_n (n := 0) (by decide +kernel) l0 f0 ?_
    refine go_getf (x := 247) (ci := 13) (kf := 94) (fin := 1) (t := 2) (by decide +kernel) (by decide +kernel) (by decide +kernel) R_197 f0 (fx_k (c := 13) R_197 (by decide +kernel)) fun v_200 f_201 => ?_
    have f_202 := q_is_eq (b := 144) f_201 (fx_v R_197 (by decide +kernel)).symm
    refine go_iload_n (n := 1) (by decide +kernel) l1 f1 ?_
    refine go_dup2 (by decide +kernel) f1 (Or.inl rfl) f_202 (Or.inr rfl) ?_
    obtain ⟨g_205, h⟩ := gd_s h
    obtain ⟨x_207, e_208, h⟩ := lx_s h
    refine go_iald (kd := 100) (by decide +kernel) rfl R_197 f_202 f1 (fx_k (c := 100) R_197 (by decide +kernel)) (fx_x (a := 144) (ln := 12) R_197 (by decide +kernel) g_205) fun v_203 f_204 => ?_
    have f_206 := q_is_eq f_204 e_208
    refine go_iconst (n := 1) (z := 1) (by decide +kernel) (by decide) fun v_209 f_210 => ?_
    refine go_iadd (by decide +kernel) f_206 f_210 fun v_211 f_212 => ?_
    obtain ⟨m_213, e_214, h⟩ := up_s h
    refine go_iast (kd := 100) (by decide +kernel) rfl R_197 f_202 f1 f_212 (fx_k (c := 100) R_197 (by decide +kernel)) (fx_x (a := 144) (ln := 12) R_197 (by decide +kernel) g_205) e_214 (fx_a R_197.2 (fx_k (c := 100) R_197 (by decide +kernel)) (And.left (fx_x (a := 144) (ln := 12) R_197 (by decide +kernel) g_205)) (by decide +kernel)) fun S_215 R_216 E_217 => ?_
    have E_218 := Ext.tr E_199 E_217
    refine go_goto (o := 131) (t := 336) (by decide +kernel) (by decide +kernel) ?_
    cases h
    exact go_vret (by decide +kernel) rfl (hQ E_218 _ _ R_216 q_out_n)
  have h := it_f hp_154 h
  by_cases hp_220 : p2 = 15
  · have h := it_t hp_220 h
    refine go_tsin (dflt := 311) (lo := 12) (hi := 22) (offs := #[59, 114, 163, 207, 215, 223, 231, 246, 257, 280, 303]) (o := 207) (t := 208) (by decide +kernel) f2 (by omega) (by omega) (by rw [hp_220]; decide) (by decide +kernel) ?_
    refine go_aload_n (n := 0) (by decide +kernel) l0 f0 ?_
    refine go_iload_n (n := 1) (by decide +kernel) l1 f1 ?_
    obtain ⟨x_222, m_223, hc_221, h⟩ := bd_s h
    refine go_callV (x := 486) (mi := 236) (n := 1) (ci := 13) (as := [v1]) (rest := []) (by decide +kernel) (by decide +kernel) rfl rfl (q_sum8 _ (Nat.le_of_ble_eq_true rfl)) R f0 (fx_k (c := 13) R (by decide +kernel)) (om_X12_undoes (Nat.le_trans (by decide) hd) R f0 f1 hc_221) (fun _ S_226 q_229 => ?_) (fun _ _ qq => kr_x qq)
    refine kr_v q_229 fun R_227 E_228 => ?_
    have E_230 := E_228
    refine go_goto (o := 123) (t := 336) (by decide +kernel) (by decide +kernel) ?_
    cases h
    exact go_vret (by decide +kernel) rfl (hQ E_230 _ _ R_227 q_out_n)
  have h := it_f hp_220 h
  by_cases hp_232 : p2 = 16
  · have h := it_t hp_232 h
    refine go_tsin (dflt := 311) (lo := 12) (hi := 22) (offs := #[59, 114, 163, 207, 215, 223, 231, 246, 257, 280, 303]) (o := 215) (t := 216) (by decide +kernel) f2 (by omega) (by omega) (by rw [hp_232]; decide) (by decide +kernel) ?_
    refine go_aload_n (n := 0) (by decide +kernel) l0 f0 ?_
    refine go_iload_n (n := 1) (by decide +kernel) l1 f1 ?_
    obtain ⟨x_234, m_235, hc_233, h⟩ := bd_s h
    refine go_callV (x := 489) (mi := 226) (n := 1) (ci := 13) (as := [v1]) (rest := []) (by decide +kernel) (by decide +kernel) rfl rfl (q_sum8 _ (Nat.le_of_ble_eq_true rfl)) R f0 (fx_k (c := 13) R (by decide +kernel)) (om_X12_endsBranch (Nat.le_trans (by decide) hd) R f0 f1 hc_233) (fun _ S_238 q_241 => ?_) (fun _ _ qq => kr_x qq)
    refine kr_v q_241 fun R_239 E_240 => ?_
    have E_242 := E_240
    refine go_goto (o := 115) (t := 336) (by decide +kernel) (by decide +kernel) ?_
    cases h
    exact go_vret (by decide +kernel) rfl (hQ E_242 _ _ R_239 q_out_n)
  have h := it_f hp_232 h
  by_cases hp_244 : p2 = 17
  · have h := it_t hp_244 h
    refine go_tsin (dflt := 311) (lo := 12) (hi := 22) (offs := #[59, 114, 163, 207, 215, 223, 231, 246, 257, 280, 303]) (o := 223) (t := 224) (by decide +kernel) f2 (by omega) (by omega) (by rw [hp_244]; decide) (by decide +kernel) ?_
    refine go_aload_n (n := 0) (by decide +kernel) l0 f0 ?_
    refine go_iload_n (n := 1) (by decide +kernel) l1 f1 ?_
    obtain ⟨x_246, m_247, hc_245, h⟩ := bd_s h
    refine go_callV (x := 443) (mi := 227) (n := 1) (ci := 13) (as := [v1]) (rest := []) (by decide +kernel) (by decide +kernel) rfl rfl (q_sum8 _ (Nat.le_of_ble_eq_true rfl)) R f0 (fx_k (c := 13) R (by decide +kernel)) (om_X12_failsBranch (Nat.le_trans (by decide) hd) R f0 f1 hc_245) (fun _ S_250 q_253 => ?_) (fun _ _ qq => kr_x qq)
    refine kr_v q_253 fun R_251 E_252 => ?_
    have E_254 := E_252
    refine go_goto (o := 107) (t := 336) (by decide +kernel) (by decide +kernel) ?_
    cases h
    exact go_vret (by decide +kernel) rfl (hQ E_254 _ _ R_251 q_out_n)
  have h := it_f hp_244 h
  by_cases hp_256 : p2 = 18
  · have h := it_t hp_256 h
    refine go_tsin (dflt := 311) (lo := 12) (hi := 22) (offs := #[59, 114, 163, 207, 215, 223, 231, 246, 257, 280, 303]) (o := 231) (t := 232) (by decide +kernel) f2 (by omega) (by omega) (by rw [hp_256]; decide) (by decide +kernel) ?_
    refine go_aload_n (n := 0) (by decide +kernel) l0 f0 ?_
    refine go_bipush (n := 16) (z := 16) (by decide +kernel) (by decide) fun v_257 f_258 => ?_
    refine go_aload_n (n := 0) (by decide +kernel) l0 f0 ?_
    refine go_getf (x := 241) (ci := 13) (kf := 90) (fin := 1) (t := 2) (by decide +kernel) (by decide +kernel) (by decide +kernel) R f0 (fx_k (c := 13) R (by decide +kernel)) fun v_259 f_260 => ?_
    have f_261 := q_is_eq (b := 142) f_260 (fx_v R (by decide +kernel)).symm
    refine go_iload_n (n := 3) (by decide +kernel) l3 f3 ?_
    obtain ⟨g_264, h⟩ := gd_s h
    obtain ⟨x_266, e_267, h⟩ := lx_s h
    refine go_iald (kd := 100) (by decide +kernel) rfl R f_261 f3 (fx_k (c := 100) R (by decide +kernel)) (fx_x (a := 142) (ln := 6) R (by decide +kernel) g_264) fun v_262 f_263 => ?_
    have f_265 := q_is_eq f_263 e_267
    obtain ⟨x_269, m_270, hc_268, h⟩ := bd_s h
    refine go_callV (x := 429) (mi := 225) (n := 2) (ci := 13) (as := [v_257, v_262]) (rest := []) (by decide +kernel) (by decide +kernel) rfl rfl (q_sum8 _ (Nat.le_of_ble_eq_true rfl)) R f0 (fx_k (c := 13) R (by decide +kernel)) (om_X12_endsRun (Nat.le_trans (by decide) hd) R f0 f_258 f_265 hc_268) (fun _ S_273 q_276 => ?_) (fun _ _ qq => kr_x qq)
    refine kr_v q_276 fun R_274 E_275 => ?_
    have E_277 := E_275
    refine go_goto (o := 92) (t := 336) (by decide +kernel) (by decide +kernel) ?_
    cases h
    exact go_vret (by decide +kernel) rfl (hQ E_277 _ _ R_274 q_out_n)
  have h := it_f hp_256 h
  by_cases hp_279 : p2 = 19
  · have h := it_t hp_279 h
    refine go_tsin (dflt := 311) (lo := 12) (hi := 22) (offs := #[59, 114, 163, 207, 215, 223, 231, 246, 257, 280, 303]) (o := 246) (t := 247) (by decide +kernel) f2 (by omega) (by omega) (by rw [hp_279]; decide) (by decide +kernel) ?_
    refine go_aload_n (n := 0) (by decide +kernel) l0 f0 ?_
    refine go_iload_n (n := 1) (by decide +kernel) l1 f1 ?_
    refine go_iload_n (n := 3) (by decide +kernel) l3 f3 ?_
    refine go_iload (n := 4) (by decide +kernel) l4 f4 ?_
    obtain ⟨x_281, m_282, hc_280, h⟩ := bd_s h
    refine go_callV (x := 492) (mi := 237) (n := 3) (ci := 13) (as := [v1, v3, v4]) (rest := []) (by decide +kernel) (by decide +kernel) rfl rfl (q_sum8 _ (Nat.le_of_ble_eq_true rfl)) R f0 (fx_k (c := 13) R (by decide +kernel)) (om_X12_patches (Nat.le_trans (by decide) hd) R f0 f1 f3 f4 hc_280) (fun _ S_285 q_288 => ?_) (fun _ _ qq => kr_x qq)
    refine kr_v q_288 fun R_286 E_287 => ?_
    have E_289 := E_287
    refine go_goto (o := 81) (t := 336) (by decide +kernel) (by decide +kernel) ?_
    cases h
    exact go_vret (by decide +kernel) rfl (hQ E_289 _ _ R_286 q_out_n)
  have h := it_f hp_279 h
  by_cases hp_291 : p2 = 20
  · have h := it_t hp_291 h
    refine go_tsin (dflt := 311) (lo := 12) (hi := 22) (offs := #[59, 114, 163, 207, 215, 223, 231, 246, 257, 280, 303]) (o := 257) (t := 258) (by decide +kernel) f2 (by omega) (by omega) (by rw [hp_291]; decide) (by decide +kernel) ?_
    refine go_aload_n (n := 0) (by decide +kernel) l0 f0 ?_
    refine go_getf (x := 241) (ci := 13) (kf := 90) (fin := 1) (t := 2) (by decide +kernel) (by decide +kernel) (by decide +kernel) R f0 (fx_k (c := 13) R (by decide +kernel)) fun v_292 f_293 => ?_
    have f_294 := q_is_eq (b := 142) f_293 (fx_v R (by decide +kernel)).symm
    refine go_iload_n (n := 3) (by decide +kernel) l3 f3 ?_
    refine go_aload_n (n := 0) (by decide +kernel) l0 f0 ?_
    obtain ⟨x_298, e_299, h⟩ := lx_s h
    refine go_getf (x := 494) (ci := 13) (kf := 118) (fin := 0) (t := 0) (by decide +kernel) (by decide +kernel) (by decide +kernel) R f0 (fx_k (c := 13) R (by decide +kernel)) fun v_295 f_296 => ?_
    have f_297 := q_is_eq f_296 e_299
    obtain ⟨g_300, h⟩ := gd_s h
    obtain ⟨m_301, e_302, h⟩ := up_s h
    refine go_iast (kd := 100) (by decide +kernel) rfl R f_294 f3 f_297 (fx_k (c := 100) R (by decide +kernel)) (fx_x (a := 142) (ln := 6) R (by decide +kernel) g_300) e_302 (fx_a R.2 (fx_k (c := 100) R (by decide +kernel)) (And.left (fx_x (a := 142) (ln := 6) R (by decide +kernel) g_300)) (by decide +kernel)) fun S_303 R_304 E_305 => ?_
    have E_306 := E_305
    refine go_aload_n (n := 0) (by decide +kernel) l0 f0 ?_
    refine go_getf (x := 247) (ci := 13) (kf := 94) (fin := 1) (t := 2) (by decide +kernel) (by decide +kernel) (by decide +kernel) R_304 f0 (fx_k (c := 13) R_304 (by decide +kernel)) fun v_307 f_308 => ?_
    have f_309 := q_is_eq (b := 144) f_308 (fx_v R_304 (by decide +kernel)).symm
    refine go_iload_n (n := 1) (by decide +kernel) l1 f1 ?_
    refine go_dup2 (by decide +kernel) f1 (Or.inl rfl) f_309 (Or.inr rfl) ?_
    obtain ⟨g_312, h⟩ := gd_s h
    obtain ⟨x_314, e_315, h⟩ := lx_s h
    refine go_iald (kd := 100) (by decide +kernel) rfl R_304 f_309 f1 (fx_k (c := 100) R_304 (by decide +kernel)) (fx_x (a := 144) (ln := 12) R_304 (by decide +kernel) g_312) fun v_310 f_311 => ?_
    have f_313 := q_is_eq f_311 e_315
    refine go_iconst (n := 1) (z := 1) (by decide +kernel) (by decide) fun v_316 f_317 => ?_
    refine go_iadd (by decide +kernel) f_313 f_317 fun v_318 f_319 => ?_
    obtain ⟨m_320, e_321, h⟩ := up_s h
    refine go_iast (kd := 100) (by decide +kernel) rfl R_304 f_309 f1 f_319 (fx_k (c := 100) R_304 (by decide +kernel)) (fx_x (a := 144) (ln := 12) R_304 (by decide +kernel) g_312) e_321 (fx_a R_304.2 (fx_k (c := 100) R_304 (by decide +kernel)) (And.left (fx_x (a := 144) (ln := 12) R_304 (by decide +kernel) g_312)) (by decide +kernel)) fun S_322 R_323 E_324 => ?_
    have E_325 := Ext.tr E_306 E_324
    refine go_goto (o := 58) (t := 336) (by decide +kernel) (by decide +kernel) ?_
    cases h
    exact go_vret (by decide +kernel) rfl (hQ E_325 _ _ R_323 q_out_n)
  have h := it_f hp_291 h
  by_cases hp_327 : p2 = 21
  · have h := it_t hp_327 h
    refine go_tsin (dflt := 311) (lo := 12) (hi := 22) (offs := #[59, 114, 163, 207, 215, 223, 231, 246, 257, 280, 303]) (o := 280) (t := 281) (by decide +kernel) f2 (by omega) (by omega) (by rw [hp_327]; decide) (by decide +kernel) ?_
    refine go_aload_n (n := 0) (by decide +kernel) l0 f0 ?_
    refine go_getf (x := 265) (ci := 13) (kf := 100) (fin := 1) (t := 2) (by decide +kernel) (by decide +kernel) (by decide +kernel) R f0 (fx_k (c := 13) R (by decide +kernel)) fun v_328 f_329 => ?_
    have f_330 := q_is_eq (b := 150) f_329 (fx_v R (by decide +kernel)).symm
    refine go_iload_n (n := 1) (by decide +kernel) l1 f1 ?_
    refine go_dup2 (by decide +kernel) f1 (Or.inl rfl) f_330 (Or.inr rfl) ?_
    obtain ⟨g_333, h⟩ := gd_s h
    obtain ⟨x_335, e_336, h⟩ := lx_s h
    refine go_iald (kd := 100) (by decide +kernel) rfl R f_330 f1 (fx_k (c := 100) R (by decide +kernel)) (fx_x (a := 150) (ln := 12) R (by decide +kernel) g_333) fun v_331 f_332 => ?_
    have f_334 := q_is_eq f_332 e_336
    refine go_iconst (n := 1) (z := 1) (by decide +kernel) (by decide) fun v_337 f_338 => ?_
    refine go_iadd (by decide +kernel) f_334 f_338 fun v_339 f_340 => ?_
    obtain ⟨m_341, e_342, h⟩ := up_s h
    refine go_iast (kd := 100) (by decide +kernel) rfl R f_330 f1 f_340 (fx_k (c := 100) R (by decide +kernel)) (fx_x (a := 150) (ln := 12) R (by decide +kernel) g_333) e_342 (fx_a R.2 (fx_k (c := 100) R (by decide +kernel)) (And.left (fx_x (a := 150) (ln := 12) R (by decide +kernel) g_333)) (by decide +kernel)) fun S_343 R_344 E_345 => ?_
    have E_346 := E_345
    refine go_aload_n (n := 0) (by decide +kernel) l0 f0 ?_
    refine go_getf (x := 247) (ci := 13) (kf := 94) (fin := 1) (t := 2) (by decide +kernel) (by decide +kernel) (by decide +kernel) R_344 f0 (fx_k (c := 13) R_344 (by decide +kernel)) fun v_347 f_348 => ?_
    have f_349 := q_is_eq (b := 144) f_348 (fx_v R_344 (by decide +kernel)).symm
    refine go_iload_n (n := 1) (by decide +kernel) l1 f1 ?_
    refine go_dup2 (by decide +kernel) f1 (Or.inl rfl) f_349 (Or.inr rfl) ?_
    obtain ⟨x_353, e_354, h⟩ := lx_s h
    refine go_iald (kd := 100) (by decide +kernel) rfl R_344 f_349 f1 (fx_k (c := 100) R_344 (by decide +kernel)) (fx_x (a := 144) (ln := 12) R_344 (by decide +kernel) g_333) fun v_350 f_351 => ?_
    have f_352 := q_is_eq f_351 e_354
    refine go_iconst (n := 1) (z := 1) (by decide +kernel) (by decide) fun v_355 f_356 => ?_
    refine go_iadd (by decide +kernel) f_352 f_356 fun v_357 f_358 => ?_
    obtain ⟨m_359, e_360, h⟩ := up_s h
    refine go_iast (kd := 100) (by decide +kernel) rfl R_344 f_349 f1 f_358 (fx_k (c := 100) R_344 (by decide +kernel)) (fx_x (a := 144) (ln := 12) R_344 (by decide +kernel) g_333) e_360 (fx_a R_344.2 (fx_k (c := 100) R_344 (by decide +kernel)) (And.left (fx_x (a := 144) (ln := 12) R_344 (by decide +kernel) g_333)) (by decide +kernel)) fun S_361 R_362 E_363 => ?_
    have E_364 := Ext.tr E_346 E_363
    refine go_goto (o := 35) (t := 336) (by decide +kernel) (by decide +kernel) ?_
    cases h
    exact go_vret (by decide +kernel) rfl (hQ E_364 _ _ R_362 q_out_n)
  have h := it_f hp_327 h
  by_cases hp_366 : p2 = 22
  · have h := it_t hp_366 h
    refine go_tsin (dflt := 311) (lo := 12) (hi := 22) (offs := #[59, 114, 163, 207, 215, 223, 231, 246, 257, 280, 303]) (o := 303) (t := 304) (by decide +kernel) f2 (by omega) (by omega) (by rw [hp_366]; decide) (by decide +kernel) ?_
    refine go_aload_n (n := 0) (by decide +kernel) l0 f0 ?_
    refine go_iload_n (n := 1) (by decide +kernel) l1 f1 ?_
    obtain ⟨x_368, m_369, hc_367, h⟩ := bd_s h
    refine go_callV (x := 497) (mi := 238) (n := 1) (ci := 13) (as := [v1]) (rest := []) (by decide +kernel) (by decide +kernel) rfl rfl (q_sum8 _ (Nat.le_of_ble_eq_true rfl)) R f0 (fx_k (c := 13) R (by decide +kernel)) (om_X12_bares (Nat.le_trans (by decide) hd) R f0 f1 hc_367) (fun _ S_372 q_375 => ?_) (fun _ _ qq => kr_x qq)
    refine kr_v q_375 fun R_373 E_374 => ?_
    have E_376 := E_374
    refine go_goto (o := 27) (t := 336) (by decide +kernel) (by decide +kernel) ?_
    cases h
    exact go_vret (by decide +kernel) rfl (hQ E_376 _ _ R_373 q_out_n)
  have h := it_f hp_366 h
  refine go_tsout (dflt := 311) (lo := 12) (hi := 22) (offs := #[59, 114, 163, 207, 215, 223, 231, 246, 257, 280, 303]) (t := 312) (by decide +kernel) f2 (by omega) (by decide +kernel) ?_
  refine go_aload_n (n := 0) (by decide +kernel) l0 f0 ?_
  refine go_bipush (n := 13) (z := 13) (by decide +kernel) (by decide) fun v_377 f_378 => ?_
  refine go_aload_n (n := 0) (by decide +kernel) l0 f0 ?_
  refine go_getf (x := 241) (ci := 13) (kf := 90) (fin := 1) (t := 2) (by decide +kernel) (by decide +kernel) (by decide +kernel) R f0 (fx_k (c := 13) R (by decide +kernel)) fun v_379 f_380 => ?_
  have f_381 := q_is_eq (b := 142) f_380 (fx_v R (by decide +kernel)).symm
  refine go_iload_n (n := 3) (by decide +kernel) l3 f3 ?_
  obtain ⟨g_384, h⟩ := gd_s h
  obtain ⟨x_386, e_387, h⟩ := lx_s h
  refine go_iald (kd := 100) (by decide +kernel) rfl R f_381 f3 (fx_k (c := 100) R (by decide +kernel)) (fx_x (a := 142) (ln := 6) R (by decide +kernel) g_384) fun v_382 f_383 => ?_
  have f_385 := q_is_eq f_383 e_387
  refine go_iconst (n := 0) (z := 0) (by decide +kernel) (by decide) fun v_388 f_389 => ?_
  obtain ⟨x_391, m_392, hc_390, h⟩ := bd_s h
  refine go_callV (x := 425) (mi := 221) (n := 3) (ci := 13) (as := [v_377, v_382, v_388]) (rest := []) (by decide +kernel) (by decide +kernel) rfl rfl (q_sum8 _ (Nat.le_of_ble_eq_true rfl)) R f0 (fx_k (c := 13) R (by decide +kernel)) (om_X12_commands (Nat.le_trans (by decide) hd) R f0 f_378 f_385 f_389 hc_390) (fun _ S_395 q_398 => ?_) (fun _ _ qq => kr_x qq)
  refine kr_z (by decide) q_398 fun v_393 f_394 R_396 E_397 => ?_
  have E_399 := E_397
  refine go_pop (by decide +kernel) f_394 (Or.inl rfl) ?_
  refine go_aload_n (n := 0) (by decide +kernel) l0 f0 ?_
  refine go_getf (x := 247) (ci := 13) (kf := 94) (fin := 1) (t := 2) (by decide +kernel) (by decide +kernel) (by decide +kernel) R_396 f0 (fx_k (c := 13) R_396 (by decide +kernel)) fun v_400 f_401 => ?_
  have f_402 := q_is_eq (b := 144) f_401 (fx_v R_396 (by decide +kernel)).symm
  refine go_iload_n (n := 1) (by decide +kernel) l1 f1 ?_
  refine go_dup2 (by decide +kernel) f1 (Or.inl rfl) f_402 (Or.inr rfl) ?_
  obtain ⟨g_405, h⟩ := gd_s h
  obtain ⟨x_407, e_408, h⟩ := lx_s h
  refine go_iald (kd := 100) (by decide +kernel) rfl R_396 f_402 f1 (fx_k (c := 100) R_396 (by decide +kernel)) (fx_x (a := 144) (ln := 12) R_396 (by decide +kernel) g_405) fun v_403 f_404 => ?_
  have f_406 := q_is_eq f_404 e_408
  refine go_iconst (n := 1) (z := 1) (by decide +kernel) (by decide) fun v_409 f_410 => ?_
  refine go_iadd (by decide +kernel) f_406 f_410 fun v_411 f_412 => ?_
  obtain ⟨m_413, e_414, h⟩ := up_s h
  refine go_iast (kd := 100) (by decide +kernel) rfl R_396 f_402 f1 f_412 (fx_k (c := 100) R_396 (by decide +kernel)) (fx_x (a := 144) (ln := 12) R_396 (by decide +kernel) g_405) e_414 (fx_a R_396.2 (fx_k (c := 100) R_396 (by decide +kernel)) (And.left (fx_x (a := 144) (ln := 12) R_396 (by decide +kernel) g_405)) (by decide +kernel)) fun S_415 R_416 E_417 => ?_
  have E_418 := Ext.tr E_399 E_417
  cases h
  exact go_vret (by decide +kernel) rfl (hQ E_418 _ _ R_416 q_out_n)
end DF30
