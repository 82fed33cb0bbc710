/-! Methods as functions (written by wip/whole/dec.py), 4: X8_beginBranch, J9_floorMod_7cf53, X8_queue, X8_branchAt, X4_seen, X4_getStuck, X4_command, X8_top, X8_popped, X4_failBranch, X4_tellCancel. -/
section DF4
noncomputable def fm_X8_beginBranch (p1 p2 : Int) (m0 : MM) : Option (Int × MM) := lx (m0 17 6) fun x_4 =>
lx (m0 17 5) fun x_15 =>
if x_15 < 12 then
gd (0 ≤ x_15 ∧ x_15 < 12) <| lx (m0 19 x_15) fun x_34 =>
gd (okc m0 x_34 2) <| bd (fm_X1_start x_34 x_4 p1 p2 m0) fun x_38 m_39 =>
lx (m_39 17 5) fun x_50 =>
up m_39 17 5 (w32 (x_50 + 1)) fun m_56 =>
lx (m_56 17 6) fun x_65 =>
up m_56 17 6 (w32 (x_65 + 1)) fun m_71 =>
some (x_4, m_71)
else
some (x_4, m0)
set_option maxHeartbeats 4000000 in
theorem om_X8_beginBranch {xs : List Int32} {d : Nat} {S : QS} {m0 : MM} {p1 p2 : Int} {v0 : Value} {v1 : Value} {v2 : Value} {rz : Int} {rm : MM}
  (hd : 2 ≤ d) (R : Rp S m0) (f0 : q_is 2 v0 17) (f1 : q_is 0 v1 p1) (f2 : q_is 0 v2 p2)
  (h : fm_X8_beginBranch p1 p2 m0 = some (rz, rm)) : Mt xs d 86 [v0, v1, v2] S (Cr 0 m0 rm rz) := by
  obtain ⟨d, rfl⟩ : ∃ e, d = e + 1 := ⟨d - 1, by omega⟩
  have hd : 1 ≤ d := Nat.le_of_succ_le_succ hd
  refine Mt.of (M := qM_X8_beginBranch) rfl (by rw [sl_1 (q_is_cat f0 (Or.inr rfl)), sl_1 (q_is_cat f1 (Or.inl rfl)), sl_1 (q_is_cat f2 (Or.inl rfl)), sl_0]; decide) ?_
  rw [la_1 (q_is_cat f0 (Or.inr rfl)), la_1 (q_is_cat f1 (Or.inl rfl)), la_1 (q_is_cat f2 (Or.inl rfl)), la_0]
  obtain ⟨L, hL⟩ : ∃ L : QL, L = [(0, v0), (0 + 1, v1), (0 + 1 + 1, v2)] := ⟨_, rfl⟩
  rw [← hL]
  have l0 : q_lo L 0 = some v0 := by rw [hL]; rfl
  have l1 : q_lo L 1 = some v1 := by rw [hL]; rfl
  have l2 : q_lo L 2 = some v2 := by rw [hL]; rfl
  have hQ : Ext m0 rm → ∀ o S1, Rp S1 rm → q_out 0 o rz → (Cr 0 m0 rm rz) o S1 := fun a o S1 b e => ⟨b, a, e⟩
  unfold fm_X8_beginBranch at h
  refine go_aload_n (n := 0) (by decide +kernel) l0 f0 ?_
  obtain ⟨x_4, e_5, h⟩ := lx_s h
  refine go_getf (x := 39) (ci := 9) (kf := 6) (fin := 0) (t := 0) (by decide +kernel) (by decide +kernel) (by decide +kernel) R f0 (fx_k (c := 9) R (by decide +kernel)) fun v_1 f_2 => ?_
  have f_3 := q_is_eq f_2 e_5
  refine go_istore_n (n := 3) (by decide +kernel) (by decide +kernel) f_3 fun L_6 l_7 kp_8 => ?_
  have l_9 := kp_8 0 _ l0 (by decide) (Or.inl (by decide))
  have l_10 := kp_8 1 _ l1 (by decide) (Or.inl (by decide))
  have l_11 := kp_8 2 _ l2 (by decide) (Or.inr (q_is_cat f2 (Or.inl rfl)))
  refine go_aload_n (n := 0) (by decide +kernel) l_9 f0 ?_
  obtain ⟨x_15, e_16, h⟩ := lx_s h
  refine go_getf (x := 36) (ci := 9) (kf := 5) (fin := 0) (t := 0) (by decide +kernel) (by decide +kernel) (by decide +kernel) R f0 (fx_k (c := 9) R (by decide +kernel)) fun v_12 f_13 => ?_
  have f_14 := q_is_eq f_13 e_16
  refine go_aload_n (n := 0) (by decide +kernel) l_9 f0 ?_
  refine go_getf (x := 17) (ci := 9) (kf := 1) (fin := 1) (t := 2) (by decide +kernel) (by decide +kernel) (by decide +kernel) R f0 (fx_k (c := 9) R (by decide +kernel)) fun v_17 f_18 => ?_
  have f_19 := q_is_eq (b := 19) f_18 (fx_v R (by decide +kernel)).symm
  refine go_alen (by decide +kernel) R f_19 (okl_of (fx_k (c := 103) R (by decide +kernel)) (by decide)) fun v_20 f_21 => ?_
  have f_22 := q_is_eq (b := 12) f_21 (by rw [fx_l R (ln := 12) (by decide +kernel)]; decide)
  refine go_icmp (c := .ge) (o := 38) (t := 52) (P := ¬ (x_15 < 12)) (by decide +kernel) (by decide +kernel) f_14 f_22 (Int.not_lt.symm) (fun hp_23 => ?_) (fun hp_23 => ?_)
  · have h := it_f hp_23 h
    refine go_iload_n (n := 3) (by decide +kernel) l_7 f_3 ?_
    cases h
    exact go_iret (by decide +kernel) rfl (Or.inl rfl) f_3 (hQ (Ext.rf _) _ _ R (q_out_v (by decide) f_3))
  · have h := it_n hp_23 h
    refine go_aload_n (n := 0) (by decide +kernel) l_9 f0 ?_
    refine go_getf (x := 17) (ci := 9) (kf := 1) (fin := 1) (t := 2) (by decide +kernel) (by decide +kernel) (by decide +kernel) R f0 (fx_k (c := 9) R (by decide +kernel)) fun v_24 f_25 => ?_
    have f_26 := q_is_eq (b := 19) f_25 (fx_v R (by decide +kernel)).symm
    refine go_aload_n (n := 0) (by decide +kernel) l_9 f0 ?_
    refine go_getf (x := 36) (ci := 9) (kf := 5) (fin := 0) (t := 0) (by decide +kernel) (by decide +kernel) (by decide +kernel) R f0 (fx_k (c := 9) R (by decide +kernel)) fun v_27 f_28 => ?_
    have f_29 := q_is_eq f_28 e_16
    obtain ⟨g_32, h⟩ := gd_s h
    obtain ⟨x_34, e_35, h⟩ := lx_s h
    refine go_aald (kd := 103) (by decide +kernel) (by decide) R f_26 f_29 (fx_k (c := 103) R (by decide +kernel)) (fx_x (a := 19) (ln := 12) R (by decide +kernel) g_32) fun v_30 f_31 => ?_
    have f_33 := q_is_eq f_31 e_35
    refine go_iload_n (n := 3) (by decide +kernel) l_7 f_3 ?_
    refine go_iload_n (n := 1) (by decide +kernel) l_10 f1 ?_
    refine go_iload_n (n := 2) (by decide +kernel) l_11 f2 ?_
    obtain ⟨g_36, h⟩ := gd_s h
    obtain ⟨x_38, m_39, hc_37, h⟩ := bd_s h
    refine go_callV (x := 97) (mi := 3) (n := 3) (ci := 2) (as := [v_1, v1, v2]) (rest := []) (by decide +kernel) (by decide +kernel) rfl rfl (q_sum8 _ (Nat.le_of_ble_eq_true rfl)) R f_33 g_36 (om_X1_start (Nat.le_trans (by decide) hd) R g_36 f_33 f_3 f1 f2 hc_37) (fun _ S_42 q_45 => ?_) (fun _ _ qq => kr_x qq)
    refine kr_v q_45 fun R_43 E_44 => ?_
    have E_46 := E_44
    refine go_aload_n (n := 0) (by decide +kernel) l_9 f0 ?_
    refine go_dup (by decide +kernel) f0 (Or.inr rfl) ?_
    obtain ⟨x_50, e_51, h⟩ := lx_s h
    refine go_getf (x := 36) (ci := 9) (kf := 5) (fin := 0) (t := 0) (by decide +kernel) (by decide +kernel) (by decide +kernel) R_43 f0 (fx_k (c := 9) R_43 (by decide +kernel)) fun v_47 f_48 => ?_
    have f_49 := q_is_eq f_48 e_51
    refine go_iconst (n := 1) (z := 1) (by decide +kernel) (by decide) fun v_52 f_53 => ?_
    refine go_iadd (by decide +kernel) f_49 f_53 fun v_54 f_55 => ?_
    obtain ⟨m_56, e_57, h⟩ := up_s h
    refine go_putf (x := 36) (ci := 9) (kf := 5) (fin := 0) (zt := 0) (by decide +kernel) (by decide +kernel) (by decide) (by decide +kernel) (by decide) (Or.inl rfl) R_43 f0 f_55 (fun hq => absurd hq (by decide)) (fx_k (c := 9) R_43 (by decide +kernel)) e_57 (fx_f (j := 5) R_43.2 (fx_k (c := 9) R_43 (by decide +kernel)) (by decide +kernel)) fun S_58 R_59 E_60 => ?_
    have E_61 := Ext.tr E_46 E_60
    refine go_aload_n (n := 0) (by decide +kernel) l_9 f0 ?_
    refine go_dup (by decide +kernel) f0 (Or.inr rfl) ?_
    obtain ⟨x_65, e_66, h⟩ := lx_s h
    refine go_getf (x := 39) (ci := 9) (kf := 6) (fin := 0) (t := 0) (by decide +kernel) (by decide +kernel) (by decide +kernel) R_59 f0 (fx_k (c := 9) R_59 (by decide +kernel)) fun v_62 f_63 => ?_
    have f_64 := q_is_eq f_63 e_66
    refine go_iconst (n := 1) (z := 1) (by decide +kernel) (by decide) fun v_67 f_68 => ?_
    refine go_iadd (by decide +kernel) f_64 f_68 fun v_69 f_70 => ?_
    obtain ⟨m_71, e_72, h⟩ := up_s h
    refine go_putf (x := 39) (ci := 9) (kf := 6) (fin := 0) (zt := 0) (by decide +kernel) (by decide +kernel) (by decide) (by decide +kernel) (by decide) (Or.inl rfl) R_59 f0 f_70 (fun hq => absurd hq (by decide)) (fx_k (c := 9) R_59 (by decide +kernel)) e_72 (fx_f (j := 6) R_59.2 (fx_k (c := 9) R_59 (by decide +kernel)) (by decide +kernel)) fun S_73 R_74 E_75 => ?_
    have E_76 := Ext.tr E_61 E_75
    refine go_iload_n (n := 3) (by decide +kernel) l_7 f_3 ?_
    cases h
    exact go_iret (by decide +kernel) rfl (Or.inl rfl) f_3 (hQ E_76 _ _ R_74 (q_out_v (by decide) f_3))
noncomputable def fm_J9_floorMod_7cf53 (p0 p1 : Int) (m0 : MM) : Option Int := gd (p1 ≠ 0) <| lx (Int.tmod p0 p1) fun x_4 =>
if iXor p0 p1 < 0 then
if x_4 = 0 then
some x_4
else
some (w32 (x_4 + p1))
else
some x_4
set_option maxHeartbeats 4000000 in
theorem om_J9_floorMod_7cf53 {xs : List Int32} {d : Nat} {S : QS} {m0 : MM} {p0 p1 : Int} {v0 : Value} {v1 : Value} {rz : Int}
  (hd : 1 ≤ d) (R : Rp S m0) (f0 : q_is 0 v0 p0) (f1 : q_is 0 v1 p1)
  (h : fm_J9_floorMod_7cf53 p0 p1 m0 = some rz) : Mt xs d 318 [v0, v1] S (Cr 0 m0 m0 rz) := by
  obtain ⟨d, rfl⟩ : ∃ e, d = e + 1 := ⟨d - 1, by omega⟩
  have hd : 0 ≤ d := Nat.le_of_succ_le_succ hd
  refine Mt.of (M := qM_J9_floorMod_7cf53) rfl (by rw [sl_1 (q_is_cat f0 (Or.inl rfl)), sl_1 (q_is_cat f1 (Or.inl rfl)), sl_0]; decide) ?_
  rw [la_1 (q_is_cat f0 (Or.inl rfl)), la_1 (q_is_cat f1 (Or.inl rfl)), la_0]
  obtain ⟨L, hL⟩ : ∃ L : QL, L = [(0, v0), (0 + 1, v1)] := ⟨_, rfl⟩
  rw [← hL]
  have l0 : q_lo L 0 = some v0 := by rw [hL]; rfl
  have l1 : q_lo L 1 = some v1 := by rw [hL]; rfl
  have hQ : ∀ o S1, Rp S1 m0 → q_out 0 o rz → (Cr 0 m0 m0 rz) o S1 := fun o S1 a b => ⟨a, Ext.rf _, b⟩
  unfold fm_J9_floorMod_7cf53 at h
  refine go_iload_n (n := 0) (by decide +kernel) l0 f0 ?_
  refine go_iload_n (n := 1) (by decide +kernel) l1 f1 ?_
  obtain ⟨g_3, h⟩ := gd_s h
  refine go_irem (by decide +kernel) f0 f1 g_3 fun v_1 f_2 => ?_
  obtain ⟨x_4, e_5, h⟩ := lx_s h
  have f_6 := q_is_eq f_2 e_5
  refine go_istore_n (n := 2) (by decide +kernel) (by decide +kernel) f_6 fun L_7 l_8 kp_9 => ?_
  have l_10 := kp_9 0 _ l0 (by decide) (Or.inl (by decide))
  have l_11 := kp_9 1 _ l1 (by decide) (Or.inr (q_is_cat f1 (Or.inl rfl)))
  refine go_iload_n (n := 0) (by decide +kernel) l_10 f0 ?_
  refine go_iload_n (n := 1) (by decide +kernel) l_11 f1 ?_
  refine go_ixor (by decide +kernel) f0 f1 fun v_12 f_13 => ?_
  refine go_if (c := .ge) (o := 11) (t := 18) (P := ¬ (iXor p0 p1 < 0)) (by decide +kernel) (by decide +kernel) f_13 (Int.not_lt.symm) (fun hp_14 => ?_) (fun hp_14 => ?_)
  · have h := it_f hp_14 h
    refine go_iload_n (n := 2) (by decide +kernel) l_8 f_6 ?_
    cases h
    exact go_iret (by decide +kernel) rfl (Or.inl rfl) f_6 (hQ _ _ R (q_out_v (by decide) f_6))
  · have h := it_n hp_14 h
    refine go_iload_n (n := 2) (by decide +kernel) l_8 f_6 ?_
    refine go_if (c := .eq) (o := 7) (t := 18) (P := x_4 = 0) (by decide +kernel) (by decide +kernel) f_6 (Iff.rfl) (fun hp_15 => ?_) (fun hp_15 => ?_)
    · have h := it_t hp_15 h
      refine go_iload_n (n := 2) (by decide +kernel) l_8 f_6 ?_
      cases h
      exact go_iret (by decide +kernel) rfl (Or.inl rfl) f_6 (hQ _ _ R (q_out_v (by decide) f_6))
    · have h := it_f hp_15 h
      refine go_iload_n (n := 2) (by decide +kernel) l_8 f_6 ?_
      refine go_iload_n (n := 1) (by decide +kernel) l_11 f1 ?_
      refine go_iadd (by decide +kernel) f_6 f1 fun v_16 f_17 => ?_
      cases h
      exact go_iret (by decide +kernel) rfl (Or.inl rfl) f_17 (hQ _ _ R (q_out_v (by decide) f_17))
noncomputable def fm_X8_queue (p1 : Int) (m0 : MM) : Option Int := bp (fm_J9_floorMod_7cf53 p1 4 m0) fun x_11 =>
gd (0 ≤ x_11 ∧ x_11 < 4) <| lx (m0 20 x_11) fun x_23 =>
some x_23
set_option maxHeartbeats 4000000 in
theorem om_X8_queue {xs : List Int32} {d : Nat} {S : QS} {m0 : MM} {p1 : Int} {v0 : Value} {v1 : Value} {rz : Int}
  (hd : 2 ≤ d) (R : Rp S m0) (f0 : q_is 2 v0 17) (f1 : q_is 0 v1 p1)
  (h : fm_X8_queue p1 m0 = some rz) : Mt xs d 83 [v0, v1] S (Cr 2 m0 m0 rz) := by
  obtain ⟨d, rfl⟩ : ∃ e, d = e + 1 := ⟨d - 1, by omega⟩
  have hd : 1 ≤ d := Nat.le_of_succ_le_succ hd
  refine Mt.of (M := qM_X8_queue) rfl (by rw [sl_1 (q_is_cat f0 (Or.inr rfl)), sl_1 (q_is_cat f1 (Or.inl rfl)), sl_0]; decide) ?_
  rw [la_1 (q_is_cat f0 (Or.inr rfl)), la_1 (q_is_cat f1 (Or.inl rfl)), la_0]
  obtain ⟨L, hL⟩ : ∃ L : QL, L = [(0, v0), (0 + 1, v1)] := ⟨_, rfl⟩
  rw [← hL]
  have l0 : q_lo L 0 = some v0 := by rw [hL]; rfl
  have l1 : q_lo L 1 = some v1 := by rw [hL]; rfl
  have hQ : ∀ o S1, Rp S1 m0 → q_out 2 o rz → (Cr 2 m0 m0 rz) o S1 := fun o S1 a b => ⟨a, Ext.rf _, b⟩
  unfold fm_X8_queue at h
  refine go_aload_n (n := 0) (by decide +kernel) l0 f0 ?_
  refine go_getf (x := 23) (ci := 9) (kf := 2) (fin := 1) (t := 2) (by decide +kernel) (by decide +kernel) (by decide +kernel) R f0 (fx_k (c := 9) R (by decide +kernel)) fun v_1 f_2 => ?_
  have f_3 := q_is_eq (b := 20) f_2 (fx_v R (by decide +kernel)).symm
  refine go_iload_n (n := 1) (by decide +kernel) l1 f1 ?_
  refine go_aload_n (n := 0) (by decide +kernel) l0 f0 ?_
  refine go_getf (x := 23) (ci := 9) (kf := 2) (fin := 1) (t := 2) (by decide +kernel) (by decide +kernel) (by decide +kernel) R f0 (fx_k (c := 9) R (by decide +kernel)) fun v_4 f_5 => ?_
  have f_6 := q_is_eq (b := 20) f_5 (fx_v R (by decide +kernel)).symm
  refine go_alen (by decide +kernel) R f_6 (okl_of (fx_k (c := 105) R (by decide +kernel)) (by decide)) fun v_7 f_8 => ?_
  have f_9 := q_is_eq (b := 4) f_8 (by rw [fx_l R (ln := 4) (by decide +kernel)]; decide)
  obtain ⟨x_11, hc_10, h⟩ := bp_s h
  refine go_callS (x := 88) (mi := 318) (n := 2) (b := 0) (as := [v1, v_7]) (rest := [v_1]) (by decide +kernel) (by decide +kernel) rfl rfl (q_sum8 _ (Nat.le_of_ble_eq_true rfl)) (om_J9_floorMod_7cf53 (Nat.le_trans (by decide) hd) R f1 f_9 hc_10) (fun _ S_15 q_18 => ?_) (fun _ _ qq => kr_x qq)
  refine kr_z (by decide) q_18 fun v_13 f_14 R_16 E_17 => ?_
  obtain ⟨g_21, h⟩ := gd_s h
  obtain ⟨x_23, e_24, h⟩ := lx_s h
  refine go_aald (kd := 105) (by decide +kernel) (by decide) R_16 f_3 f_14 (fx_k (c := 105) R_16 (by decide +kernel)) (fx_x (a := 20) (ln := 4) R_16 (by decide +kernel) g_21) fun v_19 f_20 => ?_
  have f_22 := q_is_eq f_20 e_24
  cases h
  exact go_aret (by decide +kernel) rfl rfl f_22 (hQ _ _ R_16 (q_out_v (by decide) f_22))
noncomputable def fm_X8_branchAt (p1 : Int) (m0 : MM) : Option Int := if p1 < 0 then
some 0
else
lx (m0 17 5) fun x_7 =>
if p1 < x_7 then
if p1 < 12 then
gd (0 ≤ p1 ∧ p1 < 12) <| lx (m0 19 p1) fun x_28 =>
some x_28
else
some 0
else
some 0
set_option maxHeartbeats 4000000 in
theorem om_X8_branchAt {xs : List Int32} {d : Nat} {S : QS} {m0 : MM} {p1 : Int} {v0 : Value} {v1 : Value} {rz : Int}
  (hd : 1 ≤ d) (R : Rp S m0) (f0 : q_is 2 v0 17) (f1 : q_is 0 v1 p1)
  (h : fm_X8_branchAt p1 m0 = some rz) : Mt xs d 84 [v0, v1] S (Cr 2 m0 m0 rz) := by
  obtain ⟨d, rfl⟩ : ∃ e, d = e + 1 := ⟨d - 1, by omega⟩
  have hd : 0 ≤ d := Nat.le_of_succ_le_succ hd
  refine Mt.of (M := qM_X8_branchAt) rfl (by rw [sl_1 (q_is_cat f0 (Or.inr rfl)), sl_1 (q_is_cat f1 (Or.inl rfl)), sl_0]; decide) ?_
  rw [la_1 (q_is_cat f0 (Or.inr rfl)), la_1 (q_is_cat f1 (Or.inl rfl)), la_0]
  obtain ⟨L, hL⟩ : ∃ L : QL, L = [(0, v0), (0 + 1, v1)] := ⟨_, rfl⟩
  rw [← hL]
  have l0 : q_lo L 0 = some v0 := by rw [hL]; rfl
  have l1 : q_lo L 1 = some v1 := by rw [hL]; rfl
  have hQ : ∀ o S1, Rp S1 m0 → q_out 2 o rz → (Cr 2 m0 m0 rz) o S1 := fun o S1 a b => ⟨a, Ext.rf _, b⟩
  unfold fm_X8_branchAt at h
  refine go_iload_n (n := 1) (by decide +kernel) l1 f1 ?_
  refine go_if (c := .lt) (o := 29) (t := 30) (P := p1 < 0) (by decide +kernel) (by decide +kernel) f1 (Iff.rfl) (fun hp_1 => ?_) (fun hp_1 => ?_)
  · have h := it_t hp_1 h
    refine go_null (by decide +kernel) fun v_2 f_3 => ?_
    cases h
    exact go_aret (by decide +kernel) rfl rfl f_3 (hQ _ _ R (q_out_v (by decide) f_3))
  · have h := it_f hp_1 h
    refine go_iload_n (n := 1) (by decide +kernel) l1 f1 ?_
    refine go_aload_n (n := 0) (by decide +kernel) l0 f0 ?_
    obtain ⟨x_7, e_8, h⟩ := lx_s h
    refine go_getf (x := 36) (ci := 9) (kf := 5) (fin := 0) (t := 0) (by decide +kernel) (by decide +kernel) (by decide +kernel) R f0 (fx_k (c := 9) R (by decide +kernel)) fun v_4 f_5 => ?_
    have f_6 := q_is_eq f_5 e_8
    refine go_icmp (c := .ge) (o := 21) (t := 30) (P := ¬ (p1 < x_7)) (by decide +kernel) (by decide +kernel) f1 f_6 (Int.not_lt.symm) (fun hp_9 => ?_) (fun hp_9 => ?_)
    · have h := it_f hp_9 h
      refine go_null (by decide +kernel) fun v_10 f_11 => ?_
      cases h
      exact go_aret (by decide +kernel) rfl rfl f_11 (hQ _ _ R (q_out_v (by decide) f_11))
    · have h := it_n hp_9 h
      refine go_iload_n (n := 1) (by decide +kernel) l1 f1 ?_
      refine go_aload_n (n := 0) (by decide +kernel) l0 f0 ?_
      refine go_getf (x := 17) (ci := 9) (kf := 1) (fin := 1) (t := 2) (by decide +kernel) (by decide +kernel) (by decide +kernel) R f0 (fx_k (c := 9) R (by decide +kernel)) fun v_12 f_13 => ?_
      have f_14 := q_is_eq (b := 19) f_13 (fx_v R (by decide +kernel)).symm
      refine go_alen (by decide +kernel) R f_14 (okl_of (fx_k (c := 103) R (by decide +kernel)) (by decide)) fun v_15 f_16 => ?_
      have f_17 := q_is_eq (b := 12) f_16 (by rw [fx_l R (ln := 12) (by decide +kernel)]; decide)
      refine go_icmp (c := .ge) (o := 12) (t := 30) (P := ¬ (p1 < 12)) (by decide +kernel) (by decide +kernel) f1 f_17 (Int.not_lt.symm) (fun hp_18 => ?_) (fun hp_18 => ?_)
      · have h := it_f hp_18 h
        refine go_null (by decide +kernel) fun v_19 f_20 => ?_
        cases h
        exact go_aret (by decide +kernel) rfl rfl f_20 (hQ _ _ R (q_out_v (by decide) f_20))
      · have h := it_n hp_18 h
        refine go_aload_n (n := 0) (by decide +kernel) l0 f0 ?_
        refine go_getf (x := 17) (ci := 9) (kf := 1) (fin := 1) (t := 2) (by decide +kernel) (by decide +kernel) (by decide +kernel) R f0 (fx_k (c := 9) R (by decide +kernel)) fun v_21 f_22 => ?_
        have f_23 := q_is_eq (b := 19) f_22 (fx_v R (by decide +kernel)).symm
        refine go_iload_n (n := 1) (by decide +kernel) l1 f1 ?_
        obtain ⟨g_26, h⟩ := gd_s h
        obtain ⟨x_28, e_29, h⟩ := lx_s h
        refine go_aald (kd := 103) (by decide +kernel) (by decide) R f_23 f1 (fx_k (c := 103) R (by decide +kernel)) (fx_x (a := 19) (ln := 12) R (by decide +kernel) g_26) fun v_24 f_25 => ?_
        have f_27 := q_is_eq f_25 e_29
        refine go_goto (o := 4) (t := 31) (by decide +kernel) (by decide +kernel) ?_
        cases h
        exact go_aret (by decide +kernel) rfl rfl f_27 (hQ _ _ R (q_out_v (by decide) f_27))
noncomputable def fm_X4_seen (m0 : MM) : Option Int := lx (m0 17 10) fun x_7 =>
lx (m0 16 5) fun x_12 =>
if x_7 < x_12 then
lx (m0 16 6) fun x_29 =>
some x_29
else
lx (m0 16 2) fun x_18 =>
gd (okc m0 x_18 3) <| lx (m0 x_18 1) fun x_24 =>
some x_24
set_option maxHeartbeats 4000000 in
theorem om_X4_seen {xs : List Int32} {d : Nat} {S : QS} {m0 : MM} {v0 : Value} {rz : Int}
  (hd : 1 ≤ d) (R : Rp S m0) (f0 : q_is 2 v0 16)
  (h : fm_X4_seen m0 = some rz) : Mt xs d 37 [v0] S (Cr 0 m0 m0 rz) := by
  obtain ⟨d, rfl⟩ : ∃ e, d = e + 1 := ⟨d - 1, by omega⟩
  have hd : 0 ≤ d := Nat.le_of_succ_le_succ hd
  refine Mt.of (M := qM_X4_seen) rfl (by rw [sl_1 (q_is_cat f0 (Or.inr rfl)), sl_0]; decide) ?_
  rw [la_1 (q_is_cat f0 (Or.inr rfl)), la_0]
  obtain ⟨L, hL⟩ : ∃ L : QL, L = [(0, v0)] := ⟨_, rfl⟩
  rw [← hL]
  have l0 : q_lo L 0 = some v0 := by rw [hL]; rfl
  have hQ : ∀ o S1, Rp S1 m0 → q_out 0 o rz → (Cr 0 m0 m0 rz) o S1 := fun o S1 a b => ⟨a, Ext.rf _, b⟩
  unfold fm_X4_seen at h
  refine go_aload_n (n := 0) (by decide +kernel) l0 f0 ?_
  refine go_getf (x := 10) (ci := 5) (kf := 0) (fin := 1) (t := 2) (by decide +kernel) (by decide +kernel) (by decide +kernel) R f0 (fx_k (c := 5) R (by decide +kernel)) fun v_1 f_2 => ?_
  have f_3 := q_is_eq (b := 17) f_2 (fx_v R (by decide +kernel)).symm
  obtain ⟨x_7, e_8, h⟩ := lx_s h
  refine go_getf (x := 66) (ci := 9) (kf := 10) (fin := 0) (t := 0) (by decide +kernel) (by decide +kernel) (by decide +kernel) R f_3 (fx_k (c := 9) R (by decide +kernel)) fun v_4 f_5 => ?_
  have f_6 := q_is_eq f_5 e_8
  refine go_aload_n (n := 0) (by decide +kernel) l0 f0 ?_
  obtain ⟨x_12, e_13, h⟩ := lx_s h
  refine go_getf (x := 39) (ci := 5) (kf := 5) (fin := 0) (t := 0) (by decide +kernel) (by decide +kernel) (by decide +kernel) R f0 (fx_k (c := 5) R (by decide +kernel)) fun v_9 f_10 => ?_
  have f_11 := q_is_eq f_10 e_13
  refine go_icmp (c := .ge) (o := 10) (t := 21) (P := ¬ (x_7 < x_12)) (by decide +kernel) (by decide +kernel) f_6 f_11 (Int.not_lt.symm) (fun hp_14 => ?_) (fun hp_14 => ?_)
  · have h := it_f hp_14 h
    refine go_aload_n (n := 0) (by decide +kernel) l0 f0 ?_
    obtain ⟨x_18, e_19, h⟩ := lx_s h
    refine go_getf (x := 28) (ci := 5) (kf := 2) (fin := 0) (t := 2) (by decide +kernel) (by decide +kernel) (by decide +kernel) R f0 (fx_k (c := 5) R (by decide +kernel)) fun v_15 f_16 => ?_
    have f_17 := q_is_eq f_16 e_19
    obtain ⟨g_22, h⟩ := gd_s h
    obtain ⟨x_24, e_25, h⟩ := lx_s h
    refine go_getf (x := 80) (ci := 3) (kf := 1) (fin := 0) (t := 0) (by decide +kernel) (by decide +kernel) (by decide +kernel) R f_17 g_22 fun v_20 f_21 => ?_
    have f_23 := q_is_eq f_21 e_25
    cases h
    exact go_iret (by decide +kernel) rfl (Or.inl rfl) f_23 (hQ _ _ R (q_out_v (by decide) f_23))
  · have h := it_n hp_14 h
    refine go_aload_n (n := 0) (by decide +kernel) l0 f0 ?_
    obtain ⟨x_29, e_30, h⟩ := lx_s h
    refine go_getf (x := 42) (ci := 5) (kf := 6) (fin := 0) (t := 0) (by decide +kernel) (by decide +kernel) (by decide +kernel) R f0 (fx_k (c := 5) R (by decide +kernel)) fun v_26 f_27 => ?_
    have f_28 := q_is_eq f_27 e_30
    refine go_goto (o := 10) (t := 28) (by decide +kernel) (by decide +kernel) ?_
    cases h
    exact go_iret (by decide +kernel) rfl (Or.inl rfl) f_28 (hQ _ _ R (q_out_v (by decide) f_28))
noncomputable def fm_X4_getStuck (p1 : Int) (m0 : MM) : Option (Int × MM) := up m0 16 10 1 fun m_3 =>
up m_3 16 11 p1 fun m_9 =>
some (0, m_9)
set_option maxHeartbeats 4000000 in
theorem om_X4_getStuck {xs : List Int32} {d : Nat} {S : QS} {m0 : MM} {p1 : Int} {v0 : Value} {v1 : Value} {rz : Int} {rm : MM}
  (hd : 1 ≤ d) (R : Rp S m0) (f0 : q_is 2 v0 16) (f1 : q_is 0 v1 p1)
  (h : fm_X4_getStuck p1 m0 = some (rz, rm)) : Mt xs d 34 [v0, v1] S (Cr 9 m0 rm rz) := by
  obtain ⟨d, rfl⟩ : ∃ e, d = e + 1 := ⟨d - 1, by omega⟩
  have hd : 0 ≤ d := Nat.le_of_succ_le_succ hd
  refine Mt.of (M := qM_X4_getStuck) rfl (by rw [sl_1 (q_is_cat f0 (Or.inr rfl)), sl_1 (q_is_cat f1 (Or.inl rfl)), sl_0]; decide) ?_
  rw [la_1 (q_is_cat f0 (Or.inr rfl)), la_1 (q_is_cat f1 (Or.inl rfl)), la_0]
  obtain ⟨L, hL⟩ : ∃ L : QL, L = [(0, v0), (0 + 1, v1)] := ⟨_, rfl⟩
  rw [← hL]
  have l0 : q_lo L 0 = some v0 := by rw [hL]; rfl
  have l1 : q_lo L 1 = some v1 := by rw [hL]; rfl
  have hQ : Ext m0 rm → ∀ o S1, Rp S1 rm → q_out 9 o rz → (Cr 9 m0 rm rz) o S1 := fun a o S1 b e => ⟨b, a, e⟩
  unfold fm_X4_getStuck at h
  refine go_aload_n (n := 0) (by decide +kernel) l0 f0 ?_
  refine go_iconst (n := 1) (z := 1) (by decide +kernel) (by decide) fun v_1 f_2 => ?_
  obtain ⟨m_3, e_4, h⟩ := up_s h
  refine go_putf (x := 55) (ci := 5) (kf := 10) (fin := 0) (zt := 1) (by decide +kernel) (by decide +kernel) (by decide) (by decide +kernel) (by decide) (Or.inl rfl) R f0 f_2 (fun _ => by decide) (fx_k (c := 5) R (by decide +kernel)) e_4 (fx_f (j := 10) R.2 (fx_k (c := 5) R (by decide +kernel)) (by decide +kernel)) fun S_5 R_6 E_7 => ?_
  have E_8 := E_7
  refine go_aload_n (n := 0) (by decide +kernel) l0 f0 ?_
  refine go_iload_n (n := 1) (by decide +kernel) l1 f1 ?_
  obtain ⟨m_9, e_10, h⟩ := up_s h
  refine go_putf (x := 59) (ci := 5) (kf := 11) (fin := 0) (zt := 0) (by decide +kernel) (by decide +kernel) (by decide) (by decide +kernel) (by decide) (Or.inl rfl) R_6 f0 f1 (fun hq => absurd hq (by decide)) (fx_k (c := 5) R_6 (by decide +kernel)) e_10 (fx_f (j := 11) R_6.2 (fx_k (c := 5) R_6 (by decide +kernel)) (by decide +kernel)) fun S_11 R_12 E_13 => ?_
  have E_14 := Ext.tr E_8 E_13
  cases h
  exact go_vret (by decide +kernel) rfl (hQ E_14 _ _ R_12 q_out_n)
noncomputable def fj_X4_command_65 (y4 : Int) (m : MM) : Option (Int × MM) := up m 17 12 (w32 (y4 + 1)) fun m_157 =>
some (y4, m_157)
set_option maxHeartbeats 4000000 in
theorem oj_X4_command_65 {xs : List Int32} {d : Nat} {S : QS} {L : QL} {Q : QO → QS → Prop} {m : MM} {y4 : Int} {v0 : Value} {v4 : Value}  {rz : Int} {rm : MM}
  (hd : 2 ≤ d) (R : Rp S m) (l0 : q_lo L 0 = some v0) (f0 : q_is 2 v0 16) (l4 : q_lo L 4 = some v4) (f4 : q_is 0 v4 y4)
  (hQ : Ext m rm → ∀ o S1, Rp S1 rm → q_out 0 o rz → Q o S1)
  (h : fj_X4_command_65 y4 m = some (rz, rm)) : Go xs d qM_X4_command 65 L [] S Q := by
  unfold fj_X4_command_65 at h
  refine go_aload_n (n := 0) (by decide +kernel) l0 f0 ?_
  refine go_getf (x := 10) (ci := 5) (kf := 0) (fin := 1) (t := 2) (by decide +kernel) (by decide +kernel) (by decide +kernel) R f0 (fx_k (c := 5) R (by decide +kernel)) fun v_150 f_151 => ?_
  have f_152 := q_is_eq (b := 17) f_151 (fx_v R (by decide +kernel)).symm
  refine go_iload (n := 4) (by decide +kernel) l4 f4 ?_
  refine go_iconst (n := 1) (z := 1) (by decide +kernel) (by decide) fun v_153 f_154 => ?_
  refine go_iadd (by decide +kernel) f4 f_154 fun v_155 f_156 => ?_
  obtain ⟨m_157, e_158, h⟩ := up_s h
  refine go_putf (x := 114) (ci := 9) (kf := 12) (fin := 0) (zt := 0) (by decide +kernel) (by decide +kernel) (by decide) (by decide +kernel) (by decide) (Or.inl rfl) R f_152 f_156 (fun hq => absurd hq (by decide)) (fx_k (c := 9) R (by decide +kernel)) e_158 (fx_f (j := 12) R.2 (fx_k (c := 9) R (by decide +kernel)) (by decide +kernel)) fun S_159 R_160 E_161 => ?_
  have E_162 := E_161
  refine go_iload (n := 4) (by decide +kernel) l4 f4 ?_
  cases h
  exact go_iret (by decide +kernel) rfl (Or.inl rfl) f4 (hQ E_162 _ _ R_160 (q_out_v (by decide) f4))
noncomputable def fm_X4_command (p1 p2 p3 : Int) (m0 : MM) : Option (Int × MM) := lx (m0 16 2) fun x_4 =>
lx (m0 17 12) fun x_12 =>
gd (okc m0 x_4 3) <| bp (fm_X2_nextCommand x_4 x_12 m0) fun x_16 =>
up m0 17 12 x_16 fun m_34 =>
bp (fm_X4_seen m_34) fun x_41 =>
if x_16 < x_41 then
lx (m_34 16 4) fun x_145 =>
if x_145 = 1 then
fj_X4_command_65 x_16 m_34
else
lx (m_34 16 2) fun x_166 =>
gd (okc m_34 x_166 3) <| bp (fm_X2_is x_166 x_16 p1 p2 p3 m_34) fun x_170 =>
if x_170 = 0 then
bd (fm_X4_getStuck x_16 m_34) fun x_180 m_181 =>
some ((-1), m_181)
else
fj_X4_command_65 x_16 m_34
else
lx (m_34 17 10) fun x_56 =>
lx (m_34 16 2) fun x_61 =>
gd (okc m_34 x_61 3) <| lx (m_34 x_61 4) fun x_67 =>
if x_56 < x_67 then
bp (fm_X2_taskBeyond x_61 x_56 m_34) fun x_122 =>
bd (fm_X4_getStuck x_122 m_34) fun x_131 m_132 =>
some ((-1), m_132)
else
bd (fm_X2_put 43 p1 p2 p3 0 0 m_34) fun x_78 m_79 =>
lx (m_79 16 2) fun x_90 =>
gd (okc m_79 x_90 3) <| lx (m_79 x_90 1) fun x_96 =>
lx (m_79 43 1) fun x_104 =>
some (w32 ((w32 (x_96 + x_104)) - 1), m_79)
set_option maxHeartbeats 4000000 in
theorem om_X4_command {xs : List Int32} {d : Nat} {S : QS} {m0 : MM} {p1 p2 p3 : Int} {v0 : Value} {v1 : Value} {v2 : Value} {v3 : Value} {rz : Int} {rm : MM}
  (hd : 3 ≤ d) (R : Rp S m0) (f0 : q_is 2 v0 16) (f1 : q_is 0 v1 p1) (f2 : q_is 0 v2 p2) (f3 : q_is 0 v3 p3)
  (h : fm_X4_command p1 p2 p3 m0 = some (rz, rm)) : Mt xs d 44 [v0, v1, v2, v3] S (Cr 0 m0 rm rz) := by
  obtain ⟨d, rfl⟩ : ∃ e, d = e + 1 := ⟨d - 1, by omega⟩
  have hd : 2 ≤ d := Nat.le_of_succ_le_succ hd
  refine Mt.of (M := qM_X4_command) rfl (by rw [sl_1 (q_is_cat f0 (Or.inr rfl)), sl_1 (q_is_cat f1 (Or.inl rfl)), sl_1 (q_is_cat f2 (Or.inl rfl)), sl_1 (q_is_cat f3 (Or.inl rfl)), sl_0]; decide) ?_
  rw [la_1 (q_is_cat f0 (Or.inr rfl)), la_1 (q_is_cat f1 (Or.inl rfl)), la_1 (q_is_cat f2 (Or.inl rfl)), la_1 (q_is_cat f3 (Or.inl rfl)), la_0]
  obtain ⟨L, hL⟩ : ∃ L : QL, L = [(0, v0), (0 + 1, v1), (0 + 1 + 1, v2), (0 + 1 + 1 + 1, v3)] := ⟨_, rfl⟩
  rw [← hL]
  have l0 : q_lo L 0 = some v0 := by rw [hL]; rfl
  have l1 : q_lo L 1 = some v1 := by rw [hL]; rfl
  have l2 : q_lo L 2 = some v2 := by rw [hL]; rfl
  have l3 : q_lo L 3 = some v3 := by rw [hL]; rfl
  have hQ : Ext m0 rm → ∀ o S1, Rp S1 rm → q_out 0 o rz → (Cr 0 m0 rm rz) o S1 := fun a o S1 b e => ⟨b, a, e⟩
  unfold fm_X4_command at h
  refine go_aload_n (n := 0) (by decide +kernel) l0 f0 ?_
  obtain ⟨x_4, e_5, h⟩ := lx_s h
  refine go_getf (x := 28) (ci := 5) (kf := 2) (fin := 0) (t := 2) (by decide +kernel) (by decide +kernel) (by decide +kernel) R f0 (fx_k (c := 5) R (by decide +kernel)) fun v_1 f_2 => ?_
  have f_3 := q_is_eq f_2 e_5
  refine go_aload_n (n := 0) (by decide +kernel) l0 f0 ?_
  refine go_getf (x := 10) (ci := 5) (kf := 0) (fin := 1) (t := 2) (by decide +kernel) (by decide +kernel) (by decide +kernel) R f0 (fx_k (c := 5) R (by decide +kernel)) fun v_6 f_7 => ?_
  have f_8 := q_is_eq (b := 17) f_7 (fx_v R (by decide +kernel)).symm
  obtain ⟨x_12, e_13, h⟩ := lx_s h
  refine go_getf (x := 114) (ci := 9) (kf := 12) (fin := 0) (t := 0) (by decide +kernel) (by decide +kernel) (by decide +kernel) R f_8 (fx_k (c := 9) R (by decide +kernel)) fun v_9 f_10 => ?_
  have f_11 := q_is_eq f_10 e_13
  obtain ⟨g_14, h⟩ := gd_s h
  obtain ⟨x_16, hc_15, h⟩ := bp_s h
  refine go_callV (x := 123) (mi := 22) (n := 1) (ci := 3) (as := [v_9]) (rest := []) (by decide +kernel) (by decide +kernel) rfl rfl (q_sum8 _ (Nat.le_of_ble_eq_true rfl)) R f_3 g_14 (om_X2_nextCommand (Nat.le_trans (by decide) hd) R g_14 f_3 f_11 hc_15) (fun _ S_20 q_23 => ?_) (fun _ _ qq => kr_x qq)
  refine kr_z (by decide) q_23 fun v_18 f_19 R_21 E_22 => ?_
  refine go_istore (n := 4) (by decide +kernel) (by decide +kernel) f_19 fun L_24 l_25 kp_26 => ?_
  have l_27 := kp_26 0 _ l0 (by decide) (Or.inl (by decide))
  have l_28 := kp_26 1 _ l1 (by decide) (Or.inl (by decide))
  have l_29 := kp_26 2 _ l2 (by decide) (Or.inl (by decide))
  have l_30 := kp_26 3 _ l3 (by decide) (Or.inr (q_is_cat f3 (Or.inl rfl)))
  refine go_aload_n (n := 0) (by decide +kernel) l_27 f0 ?_
  refine go_getf (x := 10) (ci := 5) (kf := 0) (fin := 1) (t := 2) (by decide +kernel) (by decide +kernel) (by decide +kernel) R_21 f0 (fx_k (c := 5) R_21 (by decide +kernel)) fun v_31 f_32 => ?_
  have f_33 := q_is_eq (b := 17) f_32 (fx_v R_21 (by decide +kernel)).symm
  refine go_iload (n := 4) (by decide +kernel) l_25 f_19 ?_
  obtain ⟨m_34, e_35, h⟩ := up_s h
  refine go_putf (x := 114) (ci := 9) (kf := 12) (fin := 0) (zt := 0) (by decide +kernel) (by decide +kernel) (by decide) (by decide +kernel) (by decide) (Or.inl rfl) R_21 f_33 f_19 (fun hq => absurd hq (by decide)) (fx_k (c := 9) R_21 (by decide +kernel)) e_35 (fx_f (j := 12) R_21.2 (fx_k (c := 9) R_21 (by decide +kernel)) (by decide +kernel)) fun S_36 R_37 E_38 => ?_
  have E_39 := E_38
  refine go_iload (n := 4) (by decide +kernel) l_25 f_19 ?_
  refine go_aload_n (n := 0) (by decide +kernel) l_27 f0 ?_
  obtain ⟨x_41, hc_40, h⟩ := bp_s h
  refine go_callV (x := 220) (mi := 37) (n := 0) (ci := 5) (as := []) (rest := [v_18]) (by decide +kernel) (by decide +kernel) rfl rfl (q_sum8 _ (Nat.le_of_ble_eq_true rfl)) R_37 f0 (fx_k (c := 5) R_37 (by decide +kernel)) (om_X4_seen (Nat.le_trans (by decide) hd) R_37 f0 hc_40) (fun _ S_45 q_48 => ?_) (fun _ _ qq => kr_x qq)
  refine kr_z (by decide) q_48 fun v_43 f_44 R_46 E_47 => ?_
  refine go_icmp (c := .ge) (o := 48) (t := 79) (P := ¬ (x_16 < x_41)) (by decide +kernel) (by decide +kernel) f_19 f_44 (Int.not_lt.symm) (fun hp_49 => ?_) (fun hp_49 => ?_)
  · have h := it_f hp_49 h
    refine go_aload_n (n := 0) (by decide +kernel) l_27 f0 ?_
    refine go_getf (x := 10) (ci := 5) (kf := 0) (fin := 1) (t := 2) (by decide +kernel) (by decide +kernel) (by decide +kernel) R_46 f0 (fx_k (c := 5) R_46 (by decide +kernel)) fun v_50 f_51 => ?_
    have f_52 := q_is_eq (b := 17) f_51 (fx_v R_46 (by decide +kernel)).symm
    obtain ⟨x_56, e_57, h⟩ := lx_s h
    refine go_getf (x := 66) (ci := 9) (kf := 10) (fin := 0) (t := 0) (by decide +kernel) (by decide +kernel) (by decide +kernel) R_46 f_52 (fx_k (c := 9) R_46 (by decide +kernel)) fun v_53 f_54 => ?_
    have f_55 := q_is_eq f_54 e_57
    refine go_aload_n (n := 0) (by decide +kernel) l_27 f0 ?_
    obtain ⟨x_61, e_62, h⟩ := lx_s h
    refine go_getf (x := 28) (ci := 5) (kf := 2) (fin := 0) (t := 2) (by decide +kernel) (by decide +kernel) (by decide +kernel) R_46 f0 (fx_k (c := 5) R_46 (by decide +kernel)) fun v_58 f_59 => ?_
    have f_60 := q_is_eq f_59 e_62
    obtain ⟨g_65, h⟩ := gd_s h
    obtain ⟨x_67, e_68, h⟩ := lx_s h
    refine go_getf (x := 228) (ci := 3) (kf := 4) (fin := 0) (t := 0) (by decide +kernel) (by decide +kernel) (by decide +kernel) R_46 f_60 g_65 fun v_63 f_64 => ?_
    have f_66 := q_is_eq f_64 e_68
    refine go_icmp (c := .ge) (o := 23) (t := 116) (P := ¬ (x_56 < x_67)) (by decide +kernel) (by decide +kernel) f_55 f_66 (Int.not_lt.symm) (fun hp_69 => ?_) (fun hp_69 => ?_)
    · have h := it_f hp_69 h
      refine go_aload_n (n := 0) (by decide +kernel) l_27 f0 ?_
      refine go_getf (x := 24) (ci := 5) (kf := 1) (fin := 1) (t := 2) (by decide +kernel) (by decide +kernel) (by decide +kernel) R_46 f0 (fx_k (c := 5) R_46 (by decide +kernel)) fun v_70 f_71 => ?_
      have f_72 := q_is_eq (b := 43) f_71 (fx_v R_46 (by decide +kernel)).symm
      refine go_iload_n (n := 1) (by decide +kernel) l_28 f1 ?_
      refine go_iload_n (n := 2) (by decide +kernel) l_29 f2 ?_
      refine go_iload_n (n := 3) (by decide +kernel) l_30 f3 ?_
      refine go_iconst (n := 0) (z := 0) (by decide +kernel) (by decide) fun v_73 f_74 => ?_
      refine go_iconst (n := 0) (z := 0) (by decide +kernel) (by decide) fun v_75 f_76 => ?_
      obtain ⟨x_78, m_79, hc_77, h⟩ := bd_s h
      refine go_callV (x := 234) (mi := 15) (n := 5) (ci := 3) (as := [v1, v2, v3, v_73, v_75]) (rest := []) (by decide +kernel) (by decide +kernel) rfl rfl (q_sum8 _ (Nat.le_of_ble_eq_true rfl)) R_46 f_72 (fx_k (c := 3) R_46 (by decide +kernel)) (om_X2_put (Nat.le_trans (by decide) hd) R_46 (fx_k (c := 3) R_46 (by decide +kernel)) f_72 f1 f2 f3 f_74 f_76 hc_77) (fun _ S_82 q_85 => ?_) (fun _ _ qq => kr_x qq)
      refine kr_v q_85 fun R_83 E_84 => ?_
      have E_86 := Ext.tr E_39 E_84
      refine go_aload_n (n := 0) (by decide +kernel) l_27 f0 ?_
      obtain ⟨x_90, e_91, h⟩ := lx_s h
      refine go_getf (x := 28) (ci := 5) (kf := 2) (fin := 0) (t := 2) (by decide +kernel) (by decide +kernel) (by decide +kernel) R_83 f0 (fx_k (c := 5) R_83 (by decide +kernel)) fun v_87 f_88 => ?_
      have f_89 := q_is_eq f_88 e_91
      obtain ⟨g_94, h⟩ := gd_s h
      obtain ⟨x_96, e_97, h⟩ := lx_s h
      refine go_getf (x := 80) (ci := 3) (kf := 1) (fin := 0) (t := 0) (by decide +kernel) (by decide +kernel) (by decide +kernel) R_83 f_89 g_94 fun v_92 f_93 => ?_
      have f_95 := q_is_eq f_93 e_97
      refine go_aload_n (n := 0) (by decide +kernel) l_27 f0 ?_
      refine go_getf (x := 24) (ci := 5) (kf := 1) (fin := 1) (t := 2) (by decide +kernel) (by decide +kernel) (by decide +kernel) R_83 f0 (fx_k (c := 5) R_83 (by decide +kernel)) fun v_98 f_99 => ?_
      have f_100 := q_is_eq (b := 43) f_99 (fx_v R_83 (by decide +kernel)).symm
      obtain ⟨x_104, e_105, h⟩ := lx_s h
      refine go_getf (x := 80) (ci := 3) (kf := 1) (fin := 0) (t := 0) (by decide +kernel) (by decide +kernel) (by decide +kernel) R_83 f_100 (fx_k (c := 3) R_83 (by decide +kernel)) fun v_101 f_102 => ?_
      have f_103 := q_is_eq f_102 e_105
      refine go_iadd (by decide +kernel) f_95 f_103 fun v_106 f_107 => ?_
      refine go_iconst (n := 1) (z := 1) (by decide +kernel) (by decide) fun v_108 f_109 => ?_
      refine go_isub (by decide +kernel) f_107 f_109 fun v_110 f_111 => ?_
      cases h
      exact go_iret (by decide +kernel) rfl (Or.inl rfl) f_111 (hQ E_86 _ _ R_83 (q_out_v (by decide) f_111))
    · have h := it_n hp_69 h
      refine go_aload_n (n := 0) (by decide +kernel) l_27 f0 ?_
      refine go_aload_n (n := 0) (by decide +kernel) l_27 f0 ?_
      refine go_getf (x := 28) (ci := 5) (kf := 2) (fin := 0) (t := 2) (by decide +kernel) (by decide +kernel) (by decide +kernel) R_46 f0 (fx_k (c := 5) R_46 (by decide +kernel)) fun v_112 f_113 => ?_
      have f_114 := q_is_eq f_113 e_62
      refine go_aload_n (n := 0) (by decide +kernel) l_27 f0 ?_
      refine go_getf (x := 10) (ci := 5) (kf := 0) (fin := 1) (t := 2) (by decide +kernel) (by decide +kernel) (by decide +kernel) R_46 f0 (fx_k (c := 5) R_46 (by decide +kernel)) fun v_115 f_116 => ?_
      have f_117 := q_is_eq (b := 17) f_116 (fx_v R_46 (by decide +kernel)).symm
      refine go_getf (x := 66) (ci := 9) (kf := 10) (fin := 0) (t := 0) (by decide +kernel) (by decide +kernel) (by decide +kernel) R_46 f_117 (fx_k (c := 9) R_46 (by decide +kernel)) fun v_118 f_119 => ?_
      have f_120 := q_is_eq f_119 e_57
      obtain ⟨x_122, hc_121, h⟩ := bp_s h
      refine go_callV (x := 231) (mi := 23) (n := 1) (ci := 3) (as := [v_118]) (rest := [v0]) (by decide +kernel) (by decide +kernel) rfl rfl (q_sum8 _ (Nat.le_of_ble_eq_true rfl)) R_46 f_114 g_65 (om_X2_taskBeyond (Nat.le_trans (by decide) hd) R_46 g_65 f_114 f_120 hc_121) (fun _ S_126 q_129 => ?_) (fun _ _ qq => kr_x qq)
      refine kr_z (by decide) q_129 fun v_124 f_125 R_127 E_128 => ?_
      obtain ⟨x_131, m_132, hc_130, h⟩ := bd_s h
      refine go_callV (x := 126) (mi := 34) (n := 1) (ci := 5) (as := [v_124]) (rest := []) (by decide +kernel) (by decide +kernel) rfl rfl (q_sum8 _ (Nat.le_of_ble_eq_true rfl)) R_127 f0 (fx_k (c := 5) R_127 (by decide +kernel)) (om_X4_getStuck (Nat.le_trans (by decide) hd) R_127 f0 f_125 hc_130) (fun _ S_135 q_138 => ?_) (fun _ _ qq => kr_x qq)
      refine kr_v q_138 fun R_136 E_137 => ?_
      have E_139 := Ext.tr E_39 E_137
      refine go_iconst (n := (-1)) (z := (-1)) (by decide +kernel) (by decide) fun v_140 f_141 => ?_
      cases h
      exact go_iret (by decide +kernel) rfl (Or.inl rfl) f_141 (hQ E_139 _ _ R_136 (q_out_v (by decide) f_141))
  · have h := it_n hp_49 h
    refine go_aload_n (n := 0) (by decide +kernel) l_27 f0 ?_
    obtain ⟨x_145, e_146, h⟩ := lx_s h
    refine go_getf (x := 35) (ci := 5) (kf := 4) (fin := 0) (t := 0) (by decide +kernel) (by decide +kernel) (by decide +kernel) R_46 f0 (fx_k (c := 5) R_46 (by decide +kernel)) fun v_142 f_143 => ?_
    have f_144 := q_is_eq f_143 e_146
    refine go_iconst (n := 1) (z := 1) (by decide +kernel) (by decide) fun v_147 f_148 => ?_
    refine go_icmp (c := .eq) (o := 26) (t := 65) (P := x_145 = 1) (by decide +kernel) (by decide +kernel) f_144 f_148 (Iff.rfl) (fun hp_149 => ?_) (fun hp_149 => ?_)
    · have h := it_t hp_149 h
      exact oj_X4_command_65 hd R_46 l_27 f0 l_25 f_19 (fun b => hQ (Ext.tr E_39 b)) h
    · have h := it_f hp_149 h
      refine go_aload_n (n := 0) (by decide +kernel) l_27 f0 ?_
      obtain ⟨x_166, e_167, h⟩ := lx_s h
      refine go_getf (x := 28) (ci := 5) (kf := 2) (fin := 0) (t := 2) (by decide +kernel) (by decide +kernel) (by decide +kernel) R_46 f0 (fx_k (c := 5) R_46 (by decide +kernel)) fun v_163 f_164 => ?_
      have f_165 := q_is_eq f_164 e_167
      refine go_iload (n := 4) (by decide +kernel) l_25 f_19 ?_
      refine go_iload_n (n := 1) (by decide +kernel) l_28 f1 ?_
      refine go_iload_n (n := 2) (by decide +kernel) l_29 f2 ?_
      refine go_iload_n (n := 3) (by decide +kernel) l_30 f3 ?_
      obtain ⟨g_168, h⟩ := gd_s h
      obtain ⟨x_170, hc_169, h⟩ := bp_s h
      refine go_callV (x := 224) (mi := 20) (n := 4) (ci := 3) (as := [v_18, v1, v2, v3]) (rest := []) (by decide +kernel) (by decide +kernel) rfl rfl (q_sum8 _ (Nat.le_of_ble_eq_true rfl)) R_46 f_165 g_168 (om_X2_is (Nat.le_trans (by decide) hd) R_46 g_168 f_165 f_19 f1 f2 f3 hc_169) (fun _ S_174 q_177 => ?_) (fun _ _ qq => kr_x qq)
      refine kr_z (by decide) q_177 fun v_172 f_173 R_175 E_176 => ?_
      refine go_if (c := .ne) (o := 11) (t := 65) (P := ¬ (x_170 = 0)) (by decide +kernel) (by decide +kernel) f_173 (Iff.rfl) (fun hp_178 => ?_) (fun hp_178 => ?_)
      · have h := it_f hp_178 h
        exact oj_X4_command_65 hd R_175 l_27 f0 l_25 f_19 (fun b => hQ (Ext.tr E_39 b)) h
      · have h := it_n hp_178 h
        refine go_aload_n (n := 0) (by decide +kernel) l_27 f0 ?_
        refine go_iload (n := 4) (by decide +kernel) l_25 f_19 ?_
        obtain ⟨x_180, m_181, hc_179, h⟩ := bd_s h
        refine go_callV (x := 126) (mi := 34) (n := 1) (ci := 5) (as := [v_18]) (rest := []) (by decide +kernel) (by decide +kernel) rfl rfl (q_sum8 _ (Nat.le_of_ble_eq_true rfl)) R_175 f0 (fx_k (c := 5) R_175 (by decide +kernel)) (om_X4_getStuck (Nat.le_trans (by decide) hd) R_175 f0 f_19 hc_179) (fun _ S_184 q_187 => ?_) (fun _ _ qq => kr_x qq)
        refine kr_v q_187 fun R_185 E_186 => ?_
        have E_188 := Ext.tr E_39 E_186
        refine go_iconst (n := (-1)) (z := (-1)) (by decide +kernel) (by decide) fun v_189 f_190 => ?_
        cases h
        exact go_iret (by decide +kernel) rfl (Or.inl rfl) f_190 (hQ E_188 _ _ R_185 (q_out_v (by decide) f_190))
noncomputable def fm_X8_top (p1 : Int) (m0 : MM) : Option Int := bp (fm_X5_wide 21 (w32 (p1 - 1)) m0) fun x_9 =>
some (w32 (Int.tmod x_9 10000))
set_option maxHeartbeats 4000000 in
theorem om_X8_top {xs : List Int32} {d : Nat} {S : QS} {m0 : MM} {p1 : Int} {v0 : Value} {v1 : Value} {rz : Int}
  (hd : 2 ≤ d) (R : Rp S m0) (f0 : q_is 2 v0 17) (f1 : q_is 0 v1 p1)
  (h : fm_X8_top p1 m0 = some rz) : Mt xs d 79 [v0, v1] S (Cr 0 m0 m0 rz) := by
  obtain ⟨d, rfl⟩ : ∃ e, d = e + 1 := ⟨d - 1, by omega⟩
  have hd : 1 ≤ d := Nat.le_of_succ_le_succ hd
  refine Mt.of (M := qM_X8_top) rfl (by rw [sl_1 (q_is_cat f0 (Or.inr rfl)), sl_1 (q_is_cat f1 (Or.inl rfl)), sl_0]; decide) ?_
  rw [la_1 (q_is_cat f0 (Or.inr rfl)), la_1 (q_is_cat f1 (Or.inl rfl)), la_0]
  obtain ⟨L, hL⟩ : ∃ L : QL, L = [(0, v0), (0 + 1, v1)] := ⟨_, rfl⟩
  rw [← hL]
  have l0 : q_lo L 0 = some v0 := by rw [hL]; rfl
  have l1 : q_lo L 1 = some v1 := by rw [hL]; rfl
  have hQ : ∀ o S1, Rp S1 m0 → q_out 0 o rz → (Cr 0 m0 m0 rz) o S1 := fun o S1 a b => ⟨a, Ext.rf _, b⟩
  unfold fm_X8_top at h
  refine go_aload_n (n := 0) (by decide +kernel) l0 f0 ?_
  refine go_getf (x := 28) (ci := 9) (kf := 3) (fin := 1) (t := 2) (by decide +kernel) (by decide +kernel) (by decide +kernel) R f0 (fx_k (c := 9) R (by decide +kernel)) fun v_1 f_2 => ?_
  have f_3 := q_is_eq (b := 21) f_2 (fx_v R (by decide +kernel)).symm
  refine go_iload_n (n := 1) (by decide +kernel) l1 f1 ?_
  refine go_iconst (n := 1) (z := 1) (by decide +kernel) (by decide) fun v_4 f_5 => ?_
  refine go_isub (by decide +kernel) f1 f_5 fun v_6 f_7 => ?_
  obtain ⟨x_9, hc_8, h⟩ := bp_s h
  refine go_callV (x := 84) (mi := 58) (n := 1) (ci := 6) (as := [v_6]) (rest := []) (by decide +kernel) (by decide +kernel) rfl rfl (q_sum8 _ (Nat.le_of_ble_eq_true rfl)) R f_3 (fx_k (c := 6) R (by decide +kernel)) (om_X5_wide (Nat.le_trans (by decide) hd) R (fx_k (c := 6) R (by decide +kernel)) f_3 f_7 hc_8) (fun _ S_13 q_16 => ?_) (fun _ _ qq => kr_x qq)
  refine kr_z (by decide) q_16 fun v_11 f_12 R_14 E_15 => ?_
  refine go_ldc2_w (x := 75) (n := 10000) (a := 0) (b := 0) (z := 10000) (by decide +kernel) (by decide +kernel) (by decide +kernel) fun v_17 f_18 => ?_
  refine go_lrem (by decide +kernel) f_12 f_18 (by decide) fun v_19 f_20 => ?_
  refine go_l2i (by decide +kernel) f_20 fun v_21 f_22 => ?_
  cases h
  exact go_iret (by decide +kernel) rfl (Or.inl rfl) f_22 (hQ _ _ R_14 (q_out_v (by decide) f_22))
noncomputable def fm_X8_popped (p1 : Int) (m0 : MM) : Option Int := bp (fm_X5_wide 21 (w32 (p1 - 1)) m0) fun x_9 =>
some (w32 (w64 (Int.tdiv x_9 10000)))
set_option maxHeartbeats 4000000 in
theorem om_X8_popped {xs : List Int32} {d : Nat} {S : QS} {m0 : MM} {p1 : Int} {v0 : Value} {v1 : Value} {rz : Int}
  (hd : 2 ≤ d) (R : Rp S m0) (f0 : q_is 2 v0 17) (f1 : q_is 0 v1 p1)
  (h : fm_X8_popped p1 m0 = some rz) : Mt xs d 80 [v0, v1] S (Cr 0 m0 m0 rz) := by
  obtain ⟨d, rfl⟩ : ∃ e, d = e + 1 := ⟨d - 1, by omega⟩
  have hd : 1 ≤ d := Nat.le_of_succ_le_succ hd
  refine Mt.of (M := qM_X8_popped) rfl (by rw [sl_1 (q_is_cat f0 (Or.inr rfl)), sl_1 (q_is_cat f1 (Or.inl rfl)), sl_0]; decide) ?_
  rw [la_1 (q_is_cat f0 (Or.inr rfl)), la_1 (q_is_cat f1 (Or.inl rfl)), la_0]
  obtain ⟨L, hL⟩ : ∃ L : QL, L = [(0, v0), (0 + 1, v1)] := ⟨_, rfl⟩
  rw [← hL]
  have l0 : q_lo L 0 = some v0 := by rw [hL]; rfl
  have l1 : q_lo L 1 = some v1 := by rw [hL]; rfl
  have hQ : ∀ o S1, Rp S1 m0 → q_out 0 o rz → (Cr 0 m0 m0 rz) o S1 := fun o S1 a b => ⟨a, Ext.rf _, b⟩
  unfold fm_X8_popped at h
  refine go_aload_n (n := 0) (by decide +kernel) l0 f0 ?_
  refine go_getf (x := 28) (ci := 9) (kf := 3) (fin := 1) (t := 2) (by decide +kernel) (by decide +kernel) (by decide +kernel) R f0 (fx_k (c := 9) R (by decide +kernel)) fun v_1 f_2 => ?_
  have f_3 := q_is_eq (b := 21) f_2 (fx_v R (by decide +kernel)).symm
  refine go_iload_n (n := 1) (by decide +kernel) l1 f1 ?_
  refine go_iconst (n := 1) (z := 1) (by decide +kernel) (by decide) fun v_4 f_5 => ?_
  refine go_isub (by decide +kernel) f1 f_5 fun v_6 f_7 => ?_
  obtain ⟨x_9, hc_8, h⟩ := bp_s h
  refine go_callV (x := 84) (mi := 58) (n := 1) (ci := 6) (as := [v_6]) (rest := []) (by decide +kernel) (by decide +kernel) rfl rfl (q_sum8 _ (Nat.le_of_ble_eq_true rfl)) R f_3 (fx_k (c := 6) R (by decide +kernel)) (om_X5_wide (Nat.le_trans (by decide) hd) R (fx_k (c := 6) R (by decide +kernel)) f_3 f_7 hc_8) (fun _ S_13 q_16 => ?_) (fun _ _ qq => kr_x qq)
  refine kr_z (by decide) q_16 fun v_11 f_12 R_14 E_15 => ?_
  refine go_ldc2_w (x := 75) (n := 10000) (a := 0) (b := 0) (z := 10000) (by decide +kernel) (by decide +kernel) (by decide +kernel) fun v_17 f_18 => ?_
  refine go_ldiv (by decide +kernel) f_12 f_18 (by decide) fun v_19 f_20 => ?_
  refine go_l2i (by decide +kernel) f_20 fun v_21 f_22 => ?_
  cases h
  exact go_iret (by decide +kernel) rfl (Or.inl rfl) f_22 (hQ _ _ R_14 (q_out_v (by decide) f_22))
noncomputable def fm_X4_failBranch (p1 : Int) (m0 : MM) : Option (Int × MM) := gd (okc m0 p1 2) <| lx (m0 p1 4) fun x_5 =>
bd (fm_X1_goOnAt p1 x_5 m0) fun x_8 m_9 =>
lx (m_9 p1 10) fun x_21 =>
if 0 < x_21 then
bp (fm_X8_top x_21 m_9) fun x_59 =>
bd (fm_X1_goOnAt p1 x_59 m_9) fun x_68 m_69 =>
lx (m_69 p1 10) fun x_84 =>
bp (fm_X8_popped x_84 m_69) fun x_87 =>
up m_69 p1 10 x_87 fun m_95 =>
some (0, m_95)
else
bd (fm_X4_command 15 0 0 m_9) fun x_31 m_32 =>
if x_31 < 0 then
some (0, m_32)
else
up m_32 17 9 15 fun m_46 =>
some (0, m_46)
set_option maxHeartbeats 4000000 in
theorem om_X4_failBranch {xs : List Int32} {d : Nat} {S : QS} {m0 : MM} {p1 : Int} {v0 : Value} {v1 : Value} {rz : Int} {rm : MM}
  (hd : 4 ≤ d) (R : Rp S m0) (f0 : q_is 2 v0 16) (f1 : q_is 2 v1 p1)
  (h : fm_X4_failBranch p1 m0 = some (rz, rm)) : Mt xs d 42 [v0, v1] S (Cr 9 m0 rm rz) := by
  obtain ⟨d, rfl⟩ : ∃ e, d = e + 1 := ⟨d - 1, by omega⟩
  have hd : 3 ≤ d := Nat.le_of_succ_le_succ hd
  refine Mt.of (M := qM_X4_failBranch) rfl (by rw [sl_1 (q_is_cat f0 (Or.inr rfl)), sl_1 (q_is_cat f1 (Or.inr rfl)), sl_0]; decide) ?_
  rw [la_1 (q_is_cat f0 (Or.inr rfl)), la_1 (q_is_cat f1 (Or.inr rfl)), la_0]
  obtain ⟨L, hL⟩ : ∃ L : QL, L = [(0, v0), (0 + 1, v1)] := ⟨_, rfl⟩
  rw [← hL]
  have l0 : q_lo L 0 = some v0 := by rw [hL]; rfl
  have l1 : q_lo L 1 = some v1 := by rw [hL]; rfl
  have hQ : Ext m0 rm → ∀ o S1, Rp S1 rm → q_out 9 o rz → (Cr 9 m0 rm rz) o S1 := fun a o S1 b e => ⟨b, a, e⟩
  unfold fm_X4_failBranch at h
  refine go_aload_n (n := 1) (by decide +kernel) l1 f1 ?_
  refine go_aload_n (n := 1) (by decide +kernel) l1 f1 ?_
  obtain ⟨g_3, h⟩ := gd_s h
  obtain ⟨x_5, e_6, h⟩ := lx_s h
  refine go_getf (x := 168) (ci := 2) (kf := 4) (fin := 0) (t := 0) (by decide +kernel) (by decide +kernel) (by decide +kernel) R f1 g_3 fun v_1 f_2 => ?_
  have f_4 := q_is_eq f_2 e_6
  obtain ⟨x_8, m_9, hc_7, h⟩ := bd_s h
  refine go_callV (x := 171) (mi := 5) (n := 1) (ci := 2) (as := [v_1]) (rest := []) (by decide +kernel) (by decide +kernel) rfl rfl (q_sum8 _ (Nat.le_of_ble_eq_true rfl)) R f1 g_3 (om_X1_goOnAt (Nat.le_trans (by decide) hd) R g_3 f1 f_4 hc_7) (fun _ S_12 q_15 => ?_) (fun _ _ qq => kr_x qq)
  refine kr_v q_15 fun R_13 E_14 => ?_
  have E_16 := E_14
  refine go_aload_n (n := 1) (by decide +kernel) l1 f1 ?_
  have g_19 := Ext.ok E_14 g_3
  obtain ⟨x_21, e_22, h⟩ := lx_s h
  refine go_getf (x := 202) (ci := 2) (kf := 10) (fin := 0) (t := 0) (by decide +kernel) (by decide +kernel) (by decide +kernel) R_13 f1 g_19 fun v_17 f_18 => ?_
  have f_20 := q_is_eq f_18 e_22
  refine go_if (c := .le) (o := 36) (t := 48) (P := ¬ (0 < x_21)) (by decide +kernel) (by decide +kernel) f_20 (Int.not_lt.symm) (fun hp_23 => ?_) (fun hp_23 => ?_)
  · have h := it_f hp_23 h
    refine go_aload_n (n := 0) (by decide +kernel) l0 f0 ?_
    refine go_bipush (n := 15) (z := 15) (by decide +kernel) (by decide) fun v_24 f_25 => ?_
    refine go_iconst (n := 0) (z := 0) (by decide +kernel) (by decide) fun v_26 f_27 => ?_
    refine go_iconst (n := 0) (z := 0) (by decide +kernel) (by decide) fun v_28 f_29 => ?_
    obtain ⟨x_31, m_32, hc_30, h⟩ := bd_s h
    refine go_callV (x := 198) (mi := 44) (n := 3) (ci := 5) (as := [v_24, v_26, v_28]) (rest := []) (by decide +kernel) (by decide +kernel) rfl rfl (q_sum8 _ (Nat.le_of_ble_eq_true rfl)) R_13 f0 (fx_k (c := 5) R_13 (by decide +kernel)) (om_X4_command (Nat.le_trans (by decide) hd) R_13 f0 f_25 f_27 f_29 hc_30) (fun _ S_35 q_38 => ?_) (fun _ _ qq => kr_x qq)
    refine kr_z (by decide) q_38 fun v_33 f_34 R_36 E_37 => ?_
    have E_39 := Ext.tr E_16 E_37
    refine go_if (c := .lt) (o := 12) (t := 68) (P := x_31 < 0) (by decide +kernel) (by decide +kernel) f_34 (Iff.rfl) (fun hp_40 => ?_) (fun hp_40 => ?_)
    · have h := it_t hp_40 h
      cases h
      exact go_vret (by decide +kernel) rfl (hQ E_39 _ _ R_36 q_out_n)
    · have h := it_f hp_40 h
      refine go_aload_n (n := 0) (by decide +kernel) l0 f0 ?_
      refine go_getf (x := 10) (ci := 5) (kf := 0) (fin := 1) (t := 2) (by decide +kernel) (by decide +kernel) (by decide +kernel) R_36 f0 (fx_k (c := 5) R_36 (by decide +kernel)) fun v_41 f_42 => ?_
      have f_43 := q_is_eq (b := 17) f_42 (fx_v R_36 (by decide +kernel)).symm
      refine go_bipush (n := 15) (z := 15) (by decide +kernel) (by decide) fun v_44 f_45 => ?_
      obtain ⟨m_46, e_47, h⟩ := up_s h
      refine go_putf (x := 120) (ci := 9) (kf := 9) (fin := 0) (zt := 0) (by decide +kernel) (by decide +kernel) (by decide) (by decide +kernel) (by decide) (Or.inl rfl) R_36 f_43 f_45 (fun hq => absurd hq (by decide)) (fx_k (c := 9) R_36 (by decide +kernel)) e_47 (fx_f (j := 9) R_36.2 (fx_k (c := 9) R_36 (by decide +kernel)) (by decide +kernel)) fun S_48 R_49 E_50 => ?_
      have E_51 := Ext.tr E_39 E_50
      cases h
      exact go_vret (by decide +kernel) rfl (hQ E_51 _ _ R_49 q_out_n)
  · have h := it_n hp_23 h
    refine go_aload_n (n := 1) (by decide +kernel) l1 f1 ?_
    refine go_aload_n (n := 0) (by decide +kernel) l0 f0 ?_
    refine go_getf (x := 10) (ci := 5) (kf := 0) (fin := 1) (t := 2) (by decide +kernel) (by decide +kernel) (by decide +kernel) R_13 f0 (fx_k (c := 5) R_13 (by decide +kernel)) fun v_52 f_53 => ?_
    have f_54 := q_is_eq (b := 17) f_53 (fx_v R_13 (by decide +kernel)).symm
    refine go_aload_n (n := 1) (by decide +kernel) l1 f1 ?_
    refine go_getf (x := 202) (ci := 2) (kf := 10) (fin := 0) (t := 0) (by decide +kernel) (by decide +kernel) (by decide +kernel) R_13 f1 g_19 fun v_55 f_56 => ?_
    have f_57 := q_is_eq f_56 e_22
    obtain ⟨x_59, hc_58, h⟩ := bp_s h
    refine go_callV (x := 205) (mi := 79) (n := 1) (ci := 9) (as := [v_55]) (rest := [v1]) (by decide +kernel) (by decide +kernel) rfl rfl (q_sum8 _ (Nat.le_of_ble_eq_true rfl)) R_13 f_54 (fx_k (c := 9) R_13 (by decide +kernel)) (om_X8_top (Nat.le_trans (by decide) hd) R_13 f_54 f_57 hc_58) (fun _ S_63 q_66 => ?_) (fun _ _ qq => kr_x qq)
    refine kr_z (by decide) q_66 fun v_61 f_62 R_64 E_65 => ?_
    obtain ⟨x_68, m_69, hc_67, h⟩ := bd_s h
    refine go_callV (x := 171) (mi := 5) (n := 1) (ci := 2) (as := [v_61]) (rest := []) (by decide +kernel) (by decide +kernel) rfl rfl (q_sum8 _ (Nat.le_of_ble_eq_true rfl)) R_64 f1 g_19 (om_X1_goOnAt (Nat.le_trans (by decide) hd) R_64 g_19 f1 f_62 hc_67) (fun _ S_72 q_75 => ?_) (fun _ _ qq => kr_x qq)
    refine kr_v q_75 fun R_73 E_74 => ?_
    have E_76 := Ext.tr E_16 E_74
    refine go_aload_n (n := 1) (by decide +kernel) l1 f1 ?_
    refine go_aload_n (n := 0) (by decide +kernel) l0 f0 ?_
    refine go_getf (x := 10) (ci := 5) (kf := 0) (fin := 1) (t := 2) (by decide +kernel) (by decide +kernel) (by decide +kernel) R_73 f0 (fx_k (c := 5) R_73 (by decide +kernel)) fun v_77 f_78 => ?_
    have f_79 := q_is_eq (b := 17) f_78 (fx_v R_73 (by decide +kernel)).symm
    refine go_aload_n (n := 1) (by decide +kernel) l1 f1 ?_
    have g_82 := Ext.ok E_74 g_19
    obtain ⟨x_84, e_85, h⟩ := lx_s h
    refine go_getf (x := 202) (ci := 2) (kf := 10) (fin := 0) (t := 0) (by decide +kernel) (by decide +kernel) (by decide +kernel) R_73 f1 g_82 fun v_80 f_81 => ?_
    have f_83 := q_is_eq f_81 e_85
    obtain ⟨x_87, hc_86, h⟩ := bp_s h
    refine go_callV (x := 208) (mi := 80) (n := 1) (ci := 9) (as := [v_80]) (rest := [v1]) (by decide +kernel) (by decide +kernel) rfl rfl (q_sum8 _ (Nat.le_of_ble_eq_true rfl)) R_73 f_79 (fx_k (c := 9) R_73 (by decide +kernel)) (om_X8_popped (Nat.le_trans (by decide) hd) R_73 f_79 f_83 hc_86) (fun _ S_91 q_94 => ?_) (fun _ _ qq => kr_x qq)
    refine kr_z (by decide) q_94 fun v_89 f_90 R_92 E_93 => ?_
    obtain ⟨m_95, e_96, h⟩ := up_s h
    refine go_putf (x := 202) (ci := 2) (kf := 10) (fin := 0) (zt := 0) (by decide +kernel) (by decide +kernel) (by decide) (by decide +kernel) (by decide) (Or.inl rfl) R_92 f1 f_90 (fun hq => absurd hq (by decide)) g_82 e_96 (fx_f (j := 10) R_92.2 g_82 (by decide +kernel)) fun S_97 R_98 E_99 => ?_
    have E_100 := Ext.tr E_76 E_99
    refine go_goto (o := 23) (t := 68) (by decide +kernel) (by decide +kernel) ?_
    cases h
    exact go_vret (by decide +kernel) rfl (hQ E_100 _ _ R_98 q_out_n)
noncomputable def fj_X4_tellCancel_70 (c : Int → MM → Option (Int × MM)) (y1 y2 : Int) (m : MM) : Option (Int × MM) := bd (fm_X4_failBranch y2 m) fun x_62 m_63 =>
lx (w32 (y1 + 1)) fun x_76 =>
c x_76 m_63
set_option maxHeartbeats 4000000 in
theorem oj_X4_tellCancel_70 {xs : List Int32} {d : Nat} {S : QS} {L : QL} {Q : QO → QS → Prop} {m : MM} {y1 y2 : Int} {v0 : Value} {v1 : Value} {v2 : Value}  {rz : Int} {rm : MM} {c : Int → MM → Option (Int × MM)} 
  (hd : 4 ≤ d) (R : Rp S m) (l0 : q_lo L 0 = some v0) (f0 : q_is 2 v0 16) (l1 : q_lo L 1 = some v1) (f1 : q_is 0 v1 y1) (l2 : q_lo L 2 = some v2) (f2 : q_is 2 v2 y2)
  (hc : ∀ mq : MM, Ext m mq → ∀ {z1 : Int} {Sq : QS} {Lq : QL} {u0 : Value} {u1 : Value}, c z1 mq = some (rz, rm) → Rp Sq mq → q_lo Lq 0 = some u0 → q_is 2 u0 16 → q_lo Lq 1 = some u1 → q_is 0 u1 z1 → Go xs d qM_X4_tellCancel 2 Lq [] Sq Q)
  (hQ : Ext m rm → ∀ o S1, Rp S1 rm → q_out 9 o rz → Q o S1)
  (h : fj_X4_tellCancel_70 c y1 y2 m = some (rz, rm)) : Go xs d qM_X4_tellCancel 70 L [] S Q := by
  unfold fj_X4_tellCancel_70 at h
  refine go_aload_n (n := 0) (by decide +kernel) l0 f0 ?_
  refine go_aload_n (n := 2) (by decide +kernel) l2 f2 ?_
  obtain ⟨x_62, m_63, hc_61, h⟩ := bd_s h
  refine go_callV (x := 177) (mi := 42) (n := 1) (ci := 5) (as := [v2]) (rest := []) (by decide +kernel) (by decide +kernel) rfl rfl (q_sum8 _ (Nat.le_of_ble_eq_true rfl)) R f0 (fx_k (c := 5) R (by decide +kernel)) (om_X4_failBranch (Nat.le_trans (by decide) hd) R f0 f2 hc_61) (fun _ S_66 q_69 => ?_) (fun _ _ qq => kr_x qq)
  refine kr_v q_69 fun R_67 E_68 => ?_
  have E_70 := E_68
  refine go_iinc (n := 1) (c := 1) (c' := 1) (by decide +kernel) (by decide +kernel) l1 f1 (by decide) fun L_71 v_72 f_73 l_74 kp_75 => ?_
  obtain ⟨x_76, e_77, h⟩ := lx_s h
  have f_78 := q_is_eq f_73 e_77
  have l_79 := kp_75 0 _ l0 (by decide) (Or.inr (q_is_cat f0 (Or.inr rfl)))
  refine go_goto (o := (-76)) (t := 2) (by decide +kernel) (by decide +kernel) ?_
  exact hc m_63 E_70 h R_67 l_79 f0 l_74 f_78
noncomputable def fl_X4_tellCancel_2 : Nat → Int → MM → Option (Int × MM)
  | 0, _, _ => none
  | n + 1, y1, m => lx (m 17 5) fun x_13 =>
if y1 < x_13 then
bp (fm_X4_goes m) fun x_17 =>
if x_17 = 0 then
some (0, m)
else
bp (fm_X8_branchAt y1 m) fun x_30 =>
if x_30 = 0 then
some (0, m)
else
gd (okc m x_30 2) <| lx (m x_30 5) fun x_48 =>
if 0 < x_48 then
up m x_30 6 1 fun m_111 =>
lx (w32 (y1 + 1)) fun x_122 =>
fl_X4_tellCancel_2 n x_122 m_111
else
bp (fm_X1_waitsForEvent x_30 m) fun x_52 =>
if x_52 = 0 then
fj_X4_tellCancel_70 (fl_X4_tellCancel_2 n) y1 x_30 m
else
lx (m x_30 8) fun x_85 =>
bd (fm_X4_command 11 x_85 0 m) fun x_90 m_91 =>
if x_90 < 0 then
lx (w32 (y1 + 1)) fun x_105 =>
fl_X4_tellCancel_2 n x_105 m_91
else
fj_X4_tellCancel_70 (fl_X4_tellCancel_2 n) y1 x_30 m_91
else
some (0, m)
set_option maxHeartbeats 4000000 in
theorem ol_X4_tellCancel_2 {xs : List Int32} {d : Nat} {Q : QO → QS → Prop} {mb : MM} {rz : Int} {rm : MM}
  (hd : 4 ≤ d)
  (hQ : Ext mb rm → ∀ o S1, Rp S1 rm → q_out 9 o rz → Q o S1) :
  ∀ (n : Nat) {m : MM} {S : QS} {L : QL} {y1 : Int} {v0 : Value} {v1 : Value} , Ext mb m → fl_X4_tellCancel_2 n y1 m = some (rz, rm) → Rp S m → q_lo L 0 = some v0 → q_is 2 v0 16 → q_lo L 1 = some v1 → q_is 0 v1 y1 → Go xs d qM_X4_tellCancel 2 L [] S Q := by
  intro n
  induction n with
  | zero => intro m S L y1 v0 v1; intro E h R l0 f0 l1 f1; cases h
  | succ n ih0 =>
    intro m S L y1 v0 v1; intro E h R l0 f0 l1 f1
    have ih : ∀ mq : MM, Ext mb mq → ∀ {z1 : Int} {Sq : QS} {Lq : QL} {u0 : Value} {u1 : Value}, fl_X4_tellCancel_2 n z1 mq = some (rz, rm) → Rp Sq mq → q_lo Lq 0 = some u0 → q_is 2 u0 16 → q_lo Lq 1 = some u1 → q_is 0 u1 z1 → Go xs d qM_X4_tellCancel 2 Lq [] Sq Q := fun mq b => by intros; exact ih0 b ‹_› ‹_› ‹_› ‹_› ‹_› ‹_›
    unfold fl_X4_tellCancel_2 at h
    refine go_iload_n (n := 1) (by decide +kernel) l1 f1 ?_
    refine go_aload_n (n := 0) (by decide +kernel) l0 f0 ?_
    refine go_getf (x := 10) (ci := 5) (kf := 0) (fin := 1) (t := 2) (by decide +kernel) (by decide +kernel) (by decide +kernel) R f0 (fx_k (c := 5) R (by decide +kernel)) fun v_7 f_8 => ?_
    have f_9 := q_is_eq (b := 17) f_8 (fx_v R (by decide +kernel)).symm
    obtain ⟨x_13, e_14, h⟩ := lx_s h
    refine go_getf (x := 180) (ci := 9) (kf := 5) (fin := 0) (t := 0) (by decide +kernel) (by decide +kernel) (by decide +kernel) R f_9 (fx_k (c := 9) R (by decide +kernel)) fun v_10 f_11 => ?_
    have f_12 := q_is_eq f_11 e_14
    refine go_icmp (c := .ge) (o := 71) (t := 81) (P := ¬ (y1 < x_13)) (by decide +kernel) (by decide +kernel) f1 f_12 (Int.not_lt.symm) (fun hp_15 => ?_) (fun hp_15 => ?_)
    · have h := it_f hp_15 h
      cases h
      exact go_vret (by decide +kernel) rfl (hQ E _ _ R q_out_n)
    · have h := it_n hp_15 h
      refine go_aload_n (n := 0) (by decide +kernel) l0 f0 ?_
      obtain ⟨x_17, hc_16, h⟩ := bp_s h
      refine go_callV (x := 69) (mi := 33) (n := 0) (ci := 5) (as := []) (rest := []) (by decide +kernel) (by decide +kernel) rfl rfl (q_sum8 _ (Nat.le_of_ble_eq_true rfl)) R f0 (fx_k (c := 5) R (by decide +kernel)) (om_X4_goes (Nat.le_trans (by decide) hd) R f0 hc_16) (fun _ S_21 q_24 => ?_) (fun _ _ qq => kr_x qq)
      refine kr_z (by decide) q_24 fun v_19 f_20 R_22 E_23 => ?_
      refine go_if (c := .eq) (o := 64) (t := 81) (P := x_17 = 0) (by decide +kernel) (by decide +kernel) f_20 (Iff.rfl) (fun hp_25 => ?_) (fun hp_25 => ?_)
      · have h := it_t hp_25 h
        cases h
        exact go_vret (by decide +kernel) rfl (hQ E _ _ R_22 q_out_n)
      · have h := it_f hp_25 h
        refine go_aload_n (n := 0) (by decide +kernel) l0 f0 ?_
        refine go_getf (x := 10) (ci := 5) (kf := 0) (fin := 1) (t := 2) (by decide +kernel) (by decide +kernel) (by decide +kernel) R_22 f0 (fx_k (c := 5) R_22 (by decide +kernel)) fun v_26 f_27 => ?_
        have f_28 := q_is_eq (b := 17) f_27 (fx_v R_22 (by decide +kernel)).symm
        refine go_iload_n (n := 1) (by decide +kernel) l1 f1 ?_
        obtain ⟨x_30, hc_29, h⟩ := bp_s h
        refine go_callV (x := 183) (mi := 84) (n := 1) (ci := 9) (as := [v1]) (rest := []) (by decide +kernel) (by decide +kernel) rfl rfl (q_sum8 _ (Nat.le_of_ble_eq_true rfl)) R_22 f_28 (fx_k (c := 9) R_22 (by decide +kernel)) (om_X8_branchAt (Nat.le_trans (by decide) hd) R_22 f_28 f1 hc_29) (fun _ S_34 q_37 => ?_) (fun _ _ qq => kr_x qq)
        refine kr_z (by decide) q_37 fun v_32 f_33 R_35 E_36 => ?_
        refine go_astore_n (n := 2) (by decide +kernel) (by decide +kernel) f_33 fun L_38 l_39 kp_40 => ?_
        have l_41 := kp_40 0 _ l0 (by decide) (Or.inl (by decide))
        have l_42 := kp_40 1 _ l1 (by decide) (Or.inr (q_is_cat f1 (Or.inl rfl)))
        refine go_aload_n (n := 2) (by decide +kernel) l_39 f_33 ?_
        refine go_ifnonnull (o := 4) (t := 34) (by decide +kernel) (by decide +kernel) f_33 (fun hp_43 => ?_) (fun hp_43 => ?_)
        · have h := it_f hp_43 h
          refine go_aload_n (n := 2) (by decide +kernel) l_39 f_33 ?_
          obtain ⟨g_46, h⟩ := gd_s h
          obtain ⟨x_48, e_49, h⟩ := lx_s h
          refine go_getf (x := 186) (ci := 2) (kf := 5) (fin := 0) (t := 0) (by decide +kernel) (by decide +kernel) (by decide +kernel) R_35 f_33 g_46 fun v_44 f_45 => ?_
          have f_47 := q_is_eq f_45 e_49
          refine go_if (c := .le) (o := 11) (t := 49) (P := ¬ (0 < x_48)) (by decide +kernel) (by decide +kernel) f_47 (Int.not_lt.symm) (fun hp_50 => ?_) (fun hp_50 => ?_)
          · have h := it_f hp_50 h
            refine go_aload_n (n := 2) (by decide +kernel) l_39 f_33 ?_
            obtain ⟨x_52, hc_51, h⟩ := bp_s h
            refine go_callV (x := 192) (mi := 7) (n := 0) (ci := 2) (as := []) (rest := []) (by decide +kernel) (by decide +kernel) rfl rfl (q_sum8 _ (Nat.le_of_ble_eq_true rfl)) R_35 f_33 g_46 (om_X1_waitsForEvent (Nat.le_trans (by decide) hd) R_35 g_46 f_33 hc_51) (fun _ S_56 q_59 => ?_) (fun _ _ qq => kr_x qq)
            refine kr_z (by decide) q_59 fun v_54 f_55 R_57 E_58 => ?_
            refine go_if (c := .eq) (o := 17) (t := 70) (P := x_52 = 0) (by decide +kernel) (by decide +kernel) f_55 (Iff.rfl) (fun hp_60 => ?_) (fun hp_60 => ?_)
            · have h := it_t hp_60 h
              exact oj_X4_tellCancel_70 hd R_57 l_41 f0 l_42 f1 l_39 f_33 (fun mq b => ih mq (Ext.tr E b)) (fun b => hQ (Ext.tr E b)) h
            · have h := it_f hp_60 h
              refine go_aload_n (n := 0) (by decide +kernel) l_41 f0 ?_
              refine go_bipush (n := 11) (z := 11) (by decide +kernel) (by decide) fun v_80 f_81 => ?_
              refine go_aload_n (n := 2) (by decide +kernel) l_39 f_33 ?_
              obtain ⟨x_85, e_86, h⟩ := lx_s h
              refine go_getf (x := 195) (ci := 2) (kf := 8) (fin := 0) (t := 0) (by decide +kernel) (by decide +kernel) (by decide +kernel) R_57 f_33 g_46 fun v_82 f_83 => ?_
              have f_84 := q_is_eq f_83 e_86
              refine go_iconst (n := 0) (z := 0) (by decide +kernel) (by decide) fun v_87 f_88 => ?_
              obtain ⟨x_90, m_91, hc_89, h⟩ := bd_s h
              refine go_callV (x := 198) (mi := 44) (n := 3) (ci := 5) (as := [v_80, v_82, v_87]) (rest := []) (by decide +kernel) (by decide +kernel) rfl rfl (q_sum8 _ (Nat.le_of_ble_eq_true rfl)) R_57 f0 (fx_k (c := 5) R_57 (by decide +kernel)) (om_X4_command (Nat.le_trans (by decide) hd) R_57 f0 f_81 f_84 f_88 hc_89) (fun _ S_94 q_97 => ?_) (fun _ _ qq => kr_x qq)
              refine kr_z (by decide) q_97 fun v_92 f_93 R_95 E_96 => ?_
              have E_98 := Ext.tr E E_96
              refine go_if (c := .lt) (o := 8) (t := 75) (P := x_90 < 0) (by decide +kernel) (by decide +kernel) f_93 (Iff.rfl) (fun hp_99 => ?_) (fun hp_99 => ?_)
              · have h := it_t hp_99 h
                refine go_iinc (n := 1) (c := 1) (c' := 1) (by decide +kernel) (by decide +kernel) l_42 f1 (by decide) fun L_100 v_101 f_102 l_103 kp_104 => ?_
                obtain ⟨x_105, e_106, h⟩ := lx_s h
                have f_107 := q_is_eq f_102 e_106
                have l_108 := kp_104 0 _ l_41 (by decide) (Or.inr (q_is_cat f0 (Or.inr rfl)))
                refine go_goto (o := (-76)) (t := 2) (by decide +kernel) (by decide +kernel) ?_
                exact ih m_91 E_98 h R_95 l_108 f0 l_103 f_107
              · have h := it_f hp_99 h
                exact oj_X4_tellCancel_70 hd R_95 l_41 f0 l_42 f1 l_39 f_33 (fun mq b => ih mq (Ext.tr E_98 b)) (fun b => hQ (Ext.tr E_98 b)) h
          · have h := it_n hp_50 h
            refine go_aload_n (n := 2) (by decide +kernel) l_39 f_33 ?_
            refine go_iconst (n := 1) (z := 1) (by decide +kernel) (by decide) fun v_109 f_110 => ?_
            obtain ⟨m_111, e_112, h⟩ := up_s h
            refine go_putf (x := 189) (ci := 2) (kf := 6) (fin := 0) (zt := 1) (by decide +kernel) (by decide +kernel) (by decide) (by decide +kernel) (by decide) (Or.inl rfl) R_35 f_33 f_110 (fun _ => by decide) g_46 e_112 (fx_f (j := 6) R_35.2 g_46 (by decide +kernel)) fun S_113 R_114 E_115 => ?_
            have E_116 := Ext.tr E E_115
            refine go_goto (o := 29) (t := 75) (by decide +kernel) (by decide +kernel) ?_
            refine go_iinc (n := 1) (c := 1) (c' := 1) (by decide +kernel) (by decide +kernel) l_42 f1 (by decide) fun L_117 v_118 f_119 l_120 kp_121 => ?_
            obtain ⟨x_122, e_123, h⟩ := lx_s h
            have f_124 := q_is_eq f_119 e_123
            have l_125 := kp_121 0 _ l_41 (by decide) (Or.inr (q_is_cat f0 (Or.inr rfl)))
            refine go_goto (o := (-76)) (t := 2) (by decide +kernel) (by decide +kernel) ?_
            exact ih m_111 E_116 h R_114 l_125 f0 l_120 f_124
        · have h := it_n hp_43 h
          cases h
          exact go_vret (by decide +kernel) rfl (hQ E _ _ R_35 q_out_n)
noncomputable def fm_X4_tellCancel (m0 : MM) : Option (Int × MM) := fl_X4_tellCancel_2   BIG 0 m0
set_option maxHeartbeats 4000000 in
theorem om_X4_tellCancel {xs : List Int32} {d : Nat} {S : QS} {m0 : MM} {v0 : Value} {rz : Int} {rm : MM}
  (hd : 5 ≤ d) (R : Rp S m0) (f0 : q_is 2 v0 16)
  (h : fm_X4_tellCancel m0 = some (rz, rm)) : Mt xs d 41 [v0] S (Cr 9 m0 rm rz) := by
  obtain ⟨d, rfl⟩ : ∃ e, d = e + 1 := ⟨d - 1, by omega⟩
  have hd : 4 ≤ d := Nat.le_of_succ_le_succ hd
  refine Mt.of (M := qM_X4_tellCancel) rfl (by rw [sl_1 (q_is_cat f0 (Or.inr rfl)), sl_0]; decide) ?_
  rw [la_1 (q_is_cat f0 (Or.inr rfl)), la_0]
  obtain ⟨L, hL⟩ : ∃ L : QL, L = [(0, v0)] := ⟨_, rfl⟩
  rw [← hL]
  have l0 : q_lo L 0 = some v0 := by rw [hL]; rfl
  have hQ : Ext m0 rm → ∀ o S1, Rp S1 rm → q_out 9 o rz → (Cr 9 m0 rm rz) o S1 := fun a o S1 b e => ⟨b, a, e⟩
  unfold fm_X4_tellCancel at h
  refine go_iconst (n := 0) (z := 0) (by decide +kernel) (by decide) fun v_1 f_2 => ?_
  refine go_istore_n (n := 1) (by decide +kernel) (by decide +kernel) f_2 fun L_3 l_4 kp_5 => ?_
  have l_6 := kp_5 0 _ l0 (by decide) (Or.inr (q_is_cat f0 (Or.inr rfl)))
  refine ol_X4_tellCancel_2 hd   hQ BIG (Ext.rf _) h R l_6 f0 l_4 f_2
end DF4
