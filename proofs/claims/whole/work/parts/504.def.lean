/-! Methods as functions (written by wip/whole/dec.py), 4: X8_beginBranch, J9_floorMod_7cf53, X8_queue, X8_branchAt, X4_seen, X4_getStuck, X4_command, X8_top, X8_popped, X4_failBranch, X4_tellCancel. -/
section DF4
noncomputable def fm_X8_beginBranch (p1 p2 : Int) (m0 : MM) : Option (Int × MM) := lx (m0 17 6) fun x_4 =>
lx (m0 17 5) fun x_15 =>
if x_15 < 12 then
gd (0 ≤ x_15 ∧ x_15 < 12) <| lx (m0 19 x_15) fun x_34 =>
gd (okc m0 x_34 2) <| bd (fm_X1_start x_34 x_4 p1 p2 m0) fun x_38 m_39 =>
lx (m_39 17 5) fun x_52 =>
up m_39 17 5 (w32 (x_52 + 1)) fun m_58 =>
lx (m_58 17 6) fun x_68 =>
up m_58 17 6 (w32 (x_68 + 1)) fun m_74 =>
some (x_4, m_74)
else
some (x_4, m0)
set_option maxHeartbeats 4000000 in
theorem om_X8_beginBranch {xs : List Int32} {d : Nat} {S : QS} {m0 : MM} {p1 p2 : Int} {v0 : Value} {v1 : Value} {v2 : Value} {rz : Int} {rm : MM}
  (hd : 2 ≤ d) (R : Rp S m0) (f0 : q_is 2 v0 17) (f1 : q_is 0 v1 p1) (f2 : q_is 0 v2 p2)
  (h : fm_X8_beginBranch p1 p2 m0 = some (rz, rm)) : Mt xs d 86 [v0, v1, v2] S (Cr 0 m0 rm rz) := by
  obtain ⟨d, rfl⟩ : ∃ e, d = e + 1 := ⟨d - 1, by omega⟩
  have hd : 1 ≤ d := Nat.le_of_succ_le_succ hd
  refine Mt.of (M := qM_X8_beginBranch) rfl (by rw [sl_1 (q_is_cat f0 (Or.inr rfl)), sl_1 (q_is_cat f1 (Or.inl rfl)), sl_1 (q_is_cat f2 (Or.inl rfl)), sl_0]; decide) ?_
  rw [la_1 (q_is_cat f0 (Or.inr rfl)), la_1 (q_is_cat f1 (Or.inl rfl)), la_1 (q_is_cat f2 (Or.inl rfl)), la_0]
  obtain ⟨L, hL⟩ : ∃ L : QL, L = [(0, v0), (0 + 1, v1), (0 + 1 + 1, v2)] := ⟨_, rfl⟩
  rw [← hL]
  have l0 : q_lo L 0 = some v0 := by rw [hL]; rfl
  have l1 : q_lo L 1 = some v1 := by rw [hL]; rfl
  have l2 : q_lo L 2 = some v2 := by rw [hL]; rfl
  have hQ : Ext m0 rm → ∀ o S1, Rp S1 rm → q_out 0 o rz → (Cr 0 m0 rm rz) o S1 := fun a o S1 b e => ⟨b, a, e⟩
  unfold fm_X8_beginBranch at h
  refine go_aload_n (n := 0) (by decide +kernel) l0 f0 ?_
  obtain ⟨x_4, e_5, h⟩ := lx_s h
  refine go_getf (x := 39) (ci := 9) (kf := 6) (fin := 0) (t := 0) (by decide +kernel) (by decide +kernel) (by decide +kernel) R f0 (fx_k (c := 9) R (by decide +kernel)) fun v_1 f_2 => ?_
  have f_3 := q_is_eq f_2 e_5
  refine go_istore_n (n := 3) (by decide +kernel) (by decide +kernel) f_3 fun L_6 l_7 kp_8 => ?_
  have l_9 := kp_8 0 _ l0 (by decide) (Or.inl (by decide))
  have l_10 := kp_8 1 _ l1 (by decide) (Or.inl (by decide))
  have l_11 := kp_8 2 _ l2 (by decide) (Or.inr (q_is_cat f2 (Or.inl rfl)))
  refine go_aload_n (n := 0) (by decide +kernel) l_9 f0 ?_
  obtain ⟨x_15, e_16, h⟩ := lx_s h
  refine go_getf (x := 36) (ci := 9) (kf := 5) (fin := 0) (t := 0) (by decide +kernel) (by decide +kernel) (by decide +kernel) R f0 (fx_k (c := 9) R (by decide +kernel)) fun v_12 f_13 => ?_
  have f_14 := q_is_eq f_13 e_16
  refine go_aload_n (n := 0) (by decide +kernel) l_9 f0 ?_
  refine go_getf (x := 17) (ci := 9) (kf := 1) (fin := 1) (t := 2) (by decide +kernel) (by decide +kernel) (by decide +kernel) R f0 (fx_k (c := 9) R (by decide +kernel)) fun v_17 f_18 => ?_
  have f_19 := q_is_eq (b := 19) f_18 (fx_v R (by decide +kernel)).symm
  refine go_alen (by decide +kernel) R f_19 (okl_of (fx_k (c := 103) R (by decide +kernel)) (by decide)) fun v_20 f_21 => ?_
  have f_22 := q_is_eq (b := 12) f_21 (by rw [fx_l R (ln := 12) (by decide +kernel)]; decide)
  refine go_icmp (c := .ge) (o := 38) (t := 52) (P := ¬ (x_15 < 12)) (by decide +kernel) (by decide +kernel) f_14 f_22 (Int.not_lt.symm) (fun hp_23 => ?_) (fun hp_23 => ?_)
  · have h := it_f hp_23 h
    refine go_iload_n (n := 3) (by decide +kernel) l_7 f_3 ?_
    cases h
    exact go_iret (by decide +kernel) rfl (Or.inl rfl) f_3 (hQ (Ext.rf _) _ _ R (q_out_v (by decide) f_3))
  · have h := it_n hp_23 h
    refine go_aload_n (n := 0) (by decide +kernel) l_9 f0 ?_
    refine go_getf (x := 17) (ci := 9) (kf := 1) (fin := 1) (t := 2) (by decide +kernel) (by decide +kernel) (by decide +kernel) R f0 (fx_k (c := 9) R (by decide +kernel)) fun v_24 f_25 => ?_
    have f_26 := q_is_eq (b := 19) f_25 (fx_v R (by decide +kernel)).symm
    refine go_aload_n (n := 0) (by decide +kernel) l_9 f0 ?_
    refine go_getf (x := 36) (ci := 9) (kf := 5) (fin := 0) (t := 0) (by decide +kernel) (by decide +kernel) (by decide +kernel) R f0 (fx_k (c := 9) R (by decide +kernel)) fun v_27 f_28 => ?_
    have f_29 := q_is_eq f_28 e_16
    obtain ⟨g_32, h⟩ := gd_s h
    obtain ⟨x_34, e_35, h⟩ := lx_s h
    refine go_aald (kd := 103) (by decide +kernel) (by decide) R f_26 f_29 (fx_k (c := 103) R (by decide +kernel)) (fx_x (a := 19) (ln := 12) R (by decide +kernel) g_32) fun v_30 f_31 => ?_
    have f_33 := q_is_eq f_31 e_35
    refine go_iload_n (n := 3) (by decide +kernel) l_7 f_3 ?_
    refine go_iload_n (n := 1) (by decide +kernel) l_10 f1 ?_
    refine go_iload_n (n := 2) (by decide +kernel) l_11 f2 ?_
    obtain ⟨g_36, h⟩ := gd_s h
    obtain ⟨x_38, m_39, hc_37, h⟩ := bd_s h
    refine go_callV (x := 97) (mi := 3) (n := 3) (ci := 2) (as := [v_1, v1, v2]) (rest := []) (by decide +kernel) (by decide +kernel) rfl rfl (q_sum8 _ (Nat.le_of_ble_eq_true rfl)) R f_33 g_36 (om_X1_start (Nat.le_trans (by decide) hd) R g_36 f_33 f_3 f1 f2 hc_37) (fun _ S_42 q_45 => ?_) (fun _ _ qq => kr_x qq)
    refine kr_v q_45 fun R_43 E_44 => ?_
    have E_48 := E_44
    refine go_aload_n (n := 0) (by decide +kernel) l_9 f0 ?_
    refine go_dup (by decide +kernel) f0 (Or.inr rfl) ?_
    obtain ⟨x_52, e_53, h⟩ := lx_s h
    refine go_getf (x := 36) (ci := 9) (kf := 5) (fin := 0) (t := 0) (by decide +kernel) (by decide +kernel) (by decide +kernel) R_43 f0 (fx_k (c := 9) R_43 (by decide +kernel)) fun v_49 f_50 => ?_
    have f_51 := q_is_eq f_50 e_53
    refine go_iconst (n := 1) (z := 1) (by decide +kernel) (by decide) fun v_54 f_55 => ?_
    refine go_iadd (by decide +kernel) f_51 f_55 fun v_56 f_57 => ?_
    obtain ⟨m_58, e_59, h⟩ := up_s h
    refine go_putf (x := 36) (ci := 9) (kf := 5) (fin := 0) (zt := 0) (by decide +kernel) (by decide +kernel) (by decide) (by decide +kernel) (by decide) (Or.inl rfl) R_43 f0 f_57 (fun hq => absurd hq (by decide)) (fx_k (c := 9) R_43 (by decide +kernel)) e_59 (fx_f (j := 5) R_43.2 (fx_k (c := 9) R_43 (by decide +kernel)) (by decide +kernel)) fun S_60 R_61 E_62 => ?_
    have E_64 := Ext.tr E_48 E_62
    refine go_aload_n (n := 0) (by decide +kernel) l_9 f0 ?_
    refine go_dup (by decide +kernel) f0 (Or.inr rfl) ?_
    obtain ⟨x_68, e_69, h⟩ := lx_s h
    refine go_getf (x := 39) (ci := 9) (kf := 6) (fin := 0) (t := 0) (by decide +kernel) (by decide +kernel) (by decide +kernel) R_61 f0 (fx_k (c := 9) R_61 (by decide +kernel)) fun v_65 f_66 => ?_
    have f_67 := q_is_eq f_66 e_69
    refine go_iconst (n := 1) (z := 1) (by decide +kernel) (by decide) fun v_70 f_71 => ?_
    refine go_iadd (by decide +kernel) f_67 f_71 fun v_72 f_73 => ?_
    obtain ⟨m_74, e_75, h⟩ := up_s h
    refine go_putf (x := 39) (ci := 9) (kf := 6) (fin := 0) (zt := 0) (by decide +kernel) (by decide +kernel) (by decide) (by decide +kernel) (by decide) (Or.inl rfl) R_61 f0 f_73 (fun hq => absurd hq (by decide)) (fx_k (c := 9) R_61 (by decide +kernel)) e_75 (fx_f (j := 6) R_61.2 (fx_k (c := 9) R_61 (by decide +kernel)) (by decide +kernel)) fun S_76 R_77 E_78 => ?_
    have E_80 := Ext.tr E_64 E_78
    refine go_iload_n (n := 3) (by decide +kernel) l_7 f_3 ?_
    cases h
    exact go_iret (by decide +kernel) rfl (Or.inl rfl) f_3 (hQ E_80 _ _ R_77 (q_out_v (by decide) f_3))
noncomputable def fm_J9_floorMod_7cf53 (p0 p1 : Int) (m0 : MM) : Option Int := gd (p1 ≠ 0) <| lx (Int.tmod p0 p1) fun x_4 =>
if iXor p0 p1 < 0 then
if x_4 = 0 then
some x_4
else
some (w32 (x_4 + p1))
else
some x_4
set_option maxHeartbeats 4000000 in
theorem om_J9_floorMod_7cf53 {xs : List Int32} {d : Nat} {S : QS} {m0 : MM} {p0 p1 : Int} {v0 : Value} {v1 : Value} {rz : Int}
  (hd : 1 ≤ d) (R : Rp S m0) (f0 : q_is 0 v0 p0) (f1 : q_is 0 v1 p1)
  (h : fm_J9_floorMod_7cf53 p0 p1 m0 = some rz) : Mt xs d 318 [v0, v1] S (Cr 0 m0 m0 rz) := by
  obtain ⟨d, rfl⟩ : ∃ e, d = e + 1 := ⟨d - 1, by omega⟩
  have hd : 0 ≤ d := Nat.le_of_succ_le_succ hd
  refine Mt.of (M := qM_J9_floorMod_7cf53) rfl (by rw [sl_1 (q_is_cat f0 (Or.inl rfl)), sl_1 (q_is_cat f1 (Or.inl rfl)), sl_0]; decide) ?_
  rw [la_1 (q_is_cat f0 (Or.inl rfl)), la_1 (q_is_cat f1 (Or.inl rfl)), la_0]
  obtain ⟨L, hL⟩ : ∃ L : QL, L = [(0, v0), (0 + 1, v1)] := ⟨_, rfl⟩
  rw [← hL]
  have l0 : q_lo L 0 = some v0 := by rw [hL]; rfl
  have l1 : q_lo L 1 = some v1 := by rw [hL]; rfl
  have hQ : ∀ o S1, Rp S1 m0 → q_out 0 o rz → (Cr 0 m0 m0 rz) o S1 := fun o S1 a b => ⟨a, Ext.rf _, b⟩
  unfold fm_J9_floorMod_7cf53 at h
  refine go_iload_n (n := 0) (by decide +kernel) l0 f0 ?_
  refine go_iload_n (n := 1) (by decide +kernel) l1 f1 ?_
  obtain ⟨g_3, h⟩ := gd_s h
  refine go_irem (by decide +kernel) f0 f1 g_3 fun v_1 f_2 => ?_
  obtain ⟨x_4, e_5, h⟩ := lx_s h
  have f_6 := q_is_eq f_2 e_5
  refine go_istore_n (n := 2) (by decide +kernel) (by decide +kernel) f_6 fun L_7 l_8 kp_9 => ?_
  have l_10 := kp_9 0 _ l0 (by decide) (Or.inl (by decide))
  have l_11 := kp_9 1 _ l1 (by decide) (Or.inr (q_is_cat f1 (Or.inl rfl)))
  refine go_iload_n (n := 0) (by decide +kernel) l_10 f0 ?_
  refine go_iload_n (n := 1) (by decide +kernel) l_11 f1 ?_
  refine go_ixor (by decide +kernel) f0 f1 fun v_12 f_13 => ?_
  refine go_if (c := .ge) (o := 11) (t := 18) (P := ¬ (iXor p0 p1 < 0)) (by decide +kernel) (by decide +kernel) f_13 (Int.not_lt.symm) (fun hp_14 => ?_) (fun hp_14 => ?_)
  · have h := it_f hp_14 h
    refine go_iload_n (n := 2) (by decide +kernel) l_8 f_6 ?_
    cases h
    exact go_iret (by decide +kernel) rfl (Or.inl rfl) f_6 (hQ _ _ R (q_out_v (by decide) f_6))
  · have h := it_n hp_14 h
    refine go_iload_n (n := 2) (by decide +kernel) l_8 f_6 ?_
    refine go_if (c := .eq) (o := 7) (t := 18) (P := x_4 = 0) (by decide +kernel) (by decide +kernel) f_6 (Iff.rfl) (fun hp_15 => ?_) (fun hp_15 => ?_)
    · have h := it_t hp_15 h
      refine go_iload_n (n := 2) (by decide +kernel) l_8 f_6 ?_
      cases h
      exact go_iret (by decide +kernel) rfl (Or.inl rfl) f_6 (hQ _ _ R (q_out_v (by decide) f_6))
    · have h := it_f hp_15 h
      refine go_iload_n (n := 2) (by decide +kernel) l_8 f_6 ?_
      refine go_iload_n (n := 1) (by decide +kernel) l_11 f1 ?_
      refine go_iadd (by decide +kernel) f_6 f1 fun v_16 f_17 => ?_
      cases h
      exact go_iret (by decide +kernel) rfl (Or.inl rfl) f_17 (hQ _ _ R (q_out_v (by decide) f_17))
noncomputable def fm_X8_queue (p1 : Int) (m0 : MM) : Option Int := bp (fm_J9_floorMod_7cf53 p1 4 m0) fun x_11 =>
gd (0 ≤ x_11 ∧ x_11 < 4) <| lx (m0 20 x_11) fun x_23 =>
some x_23
set_option maxHeartbeats 4000000 in
theorem om_X8_queue {xs : List Int32} {d : Nat} {S : QS} {m0 : MM} {p1 : Int} {v0 : Value} {v1 : Value} {rz : Int}
  (hd : 2 ≤ d) (R : Rp S m0) (f0 : q_is 2 v0 17) (f1 : q_is 0 v1 p1)
  (h : fm_X8_queue p1 m0 = some rz) : Mt xs d 83 [v0, v1] S (Cr 2 m0 m0 rz) := by
  obtain ⟨d, rfl⟩ : ∃ e, d = e + 1 := ⟨d - 1, by omega⟩
  have hd : 1 ≤ d := Nat.le_of_succ_le_succ hd
  refine Mt.of (M := qM_X8_queue) rfl (by rw [sl_1 (q_is_cat f0 (Or.inr rfl)), sl_1 (q_is_cat f1 (Or.inl rfl)), sl_0]; decide) ?_
  rw [la_1 (q_is_cat f0 (Or.inr rfl)), la_1 (q_is_cat f1 (Or.inl rfl)), la_0]
  obtain ⟨L, hL⟩ : ∃ L : QL, L = [(0, v0), (0 + 1, v1)] := ⟨_, rfl⟩
  rw [← hL]
  have l0 : q_lo L 0 = some v0 := by rw [hL]; rfl
  have l1 : q_lo L 1 = some v1 := by rw [hL]; rfl
  have hQ : ∀ o S1, Rp S1 m0 → q_out 2 o rz → (Cr 2 m0 m0 rz) o S1 := fun o S1 a b => ⟨a, Ext.rf _, b⟩
  unfold fm_X8_queue at h
  refine go_aload_n (n := 0) (by decide +kernel) l0 f0 ?_
  refine go_getf (x := 23) (ci := 9) (kf := 2) (fin := 1) (t := 2) (by decide +kernel) (by decide +kernel) (by decide +kernel) R f0 (fx_k (c := 9) R (by decide +kernel)) fun v_1 f_2 => ?_
  have f_3 := q_is_eq (b := 20) f_2 (fx_v R (by decide +kernel)).symm
  refine go_iload_n (n := 1) (by decide +kernel) l1 f1 ?_
  refine go_aload_n (n := 0) (by decide +kernel) l0 f0 ?_
  refine go_getf (x := 23) (ci := 9) (kf := 2) (fin := 1) (t := 2) (by decide +kernel) (by decide +kernel) (by decide +kernel) R f0 (fx_k (c := 9) R (by decide +kernel)) fun v_4 f_5 => ?_
  have f_6 := q_is_eq (b := 20) f_5 (fx_v R (by decide +kernel)).symm
  refine go_alen (by decide +kernel) R f_6 (okl_of (fx_k (c := 105) R (by decide +kernel)) (by decide)) fun v_7 f_8 => ?_
  have f_9 := q_is_eq (b := 4) f_8 (by rw [fx_l R (ln := 4) (by decide +kernel)]; decide)
  obtain ⟨x_11, hc_10, h⟩ := bp_s h
  refine go_callS (x := 88) (mi := 318) (n := 2) (b := 0) (as := [v1, v_7]) (rest := [v_1]) (by decide +kernel) (by decide +kernel) rfl rfl (q_sum8 _ (Nat.le_of_ble_eq_true rfl)) (om_J9_floorMod_7cf53 (Nat.le_trans (by decide) hd) R f1 f_9 hc_10) (fun _ S_15 q_18 => ?_) (fun _ _ qq => kr_x qq)
  refine kr_z (by decide) q_18 fun v_13 f_14 R_16 E_17 => ?_
  obtain ⟨g_21, h⟩ := gd_s h
  obtain ⟨x_23, e_24, h⟩ := lx_s h
  refine go_aald (kd := 105) (by decide +kernel) (by decide) R_16 f_3 f_14 (fx_k (c := 105) R_16 (by decide +kernel)) (fx_x (a := 20) (ln := 4) R_16 (by decide +kernel) g_21) fun v_19 f_20 => ?_
  have f_22 := q_is_eq f_20 e_24
  cases h
  exact go_aret (by decide +kernel) rfl rfl f_22 (hQ _ _ R_16 (q_out_v (by decide) f_22))
noncomputable def fm_X8_branchAt (p1 : Int) (m0 : MM) : Option Int := if p1 < 0 then
some 0
else
lx (m0 17 5) fun x_7 =>
if p1 < x_7 then
if p1 < 12 then
gd (0 ≤ p1 ∧ p1 < 12) <| lx (m0 19 p1) fun x_28 =>
some x_28
else
some 0
else
some 0
set_option maxHeartbeats 4000000 in
theorem om_X8_branchAt {xs : List Int32} {d : Nat} {S : QS} {m0 : MM} {p1 : Int} {v0 : Value} {v1 : Value} {rz : Int}
  (hd : 1 ≤ d) (R : Rp S m0) (f0 : q_is 2 v0 17) (f1 : q_is 0 v1 p1)
  (h : fm_X8_branchAt p1 m0 = some rz) : Mt xs d 84 [v0, v1] S (Cr 2 m0 m0 rz) := by
  obtain ⟨d, rfl⟩ : ∃ e, d = e + 1 := ⟨d - 1, by omega⟩
  have hd : 0 ≤ d := Nat.le_of_succ_le_succ hd
  refine Mt.of (M := qM_X8_branchAt) rfl (by rw [sl_1 (q_is_cat f0 (Or.inr rfl)), sl_1 (q_is_cat f1 (Or.inl rfl)), sl_0]; decide) ?_
  rw [la_1 (q_is_cat f0 (Or.inr rfl)), la_1 (q_is_cat f1 (Or.inl rfl)), la_0]
  obtain ⟨L, hL⟩ : ∃ L : QL, L = [(0, v0), (0 + 1, v1)] := ⟨_, rfl⟩
  rw [← hL]
  have l0 : q_lo L 0 = some v0 := by rw [hL]; rfl
  have l1 : q_lo L 1 = some v1 := by rw [hL]; rfl
  have hQ : ∀ o S1, Rp S1 m0 → q_out 2 o rz → (Cr 2 m0 m0 rz) o S1 := fun o S1 a b => ⟨a, Ext.rf _, b⟩
  unfold fm_X8_branchAt at h
  refine go_iload_n (n := 1) (by decide +kernel) l1 f1 ?_
  refine go_if (c := .lt) (o := 29) (t := 30) (P := p1 < 0) (by decide +kernel) (by decide +kernel) f1 (Iff.rfl) (fun hp_1 => ?_) (fun hp_1 => ?_)
  · have h := it_t hp_1 h
    refine go_null (by decide +kernel) fun v_2 f_3 => ?_
    cases h
    exact go_aret (by decide +kernel) rfl rfl f_3 (hQ _ _ R (q_out_v (by decide) f_3))
  · have h := it_f hp_1 h
    refine go_iload_n (n := 1) (by decide +kernel) l1 f1 ?_
    refine go_aload_n (n := 0) (by decide +kernel) l0 f0 ?_
    obtain ⟨x_7, e_8, h⟩ := lx_s h
    refine go_getf (x := 36) (ci := 9) (kf := 5) (fin := 0) (t := 0) (by decide +kernel) (by decide +kernel) (by decide +kernel) R f0 (fx_k (c := 9) R (by decide +kernel)) fun v_4 f_5 => ?_
    have f_6 := q_is_eq f_5 e_8
    refine go_icmp (c := .ge) (o := 21) (t := 30) (P := ¬ (p1 < x_7)) (by decide +kernel) (by decide +kernel) f1 f_6 (Int.not_lt.symm) (fun hp_9 => ?_) (fun hp_9 => ?_)
    · have h := it_f hp_9 h
      refine go_null (by decide +kernel) fun v_10 f_11 => ?_
      cases h
      exact go_aret (by decide +kernel) rfl rfl f_11 (hQ _ _ R (q_out_v (by decide) f_11))
    · have h := it_n hp_9 h
      refine go_iload_n (n := 1) (by decide +kernel) l1 f1 ?_
      refine go_aload_n (n := 0) (by decide +kernel) l0 f0 ?_
      refine go_getf (x := 17) (ci := 9) (kf := 1) (fin := 1) (t := 2) (by decide +kernel) (by decide +kernel) (by decide +kernel) R f0 (fx_k (c := 9) R (by decide +kernel)) fun v_12 f_13 => ?_
      have f_14 := q_is_eq (b := 19) f_13 (fx_v R (by decide +kernel)).symm
      refine go_alen (by decide +kernel) R f_14 (okl_of (fx_k (c := 103) R (by decide +kernel)) (by decide)) fun v_15 f_16 => ?_
      have f_17 := q_is_eq (b := 12) f_16 (by rw [fx_l R (ln := 12) (by decide +kernel)]; decide)
      refine go_icmp (c := .ge) (o := 12) (t := 30) (P := ¬ (p1 < 12)) (by decide +kernel) (by decide +kernel) f1 f_17 (Int.not_lt.symm) (fun hp_18 => ?_) (fun hp_18 => ?_)
      · have h := it_f hp_18 h
        refine go_null (by decide +kernel) fun v_19 f_20 => ?_
        cases h
        exact go_aret (by decide +kernel) rfl rfl f_20 (hQ _ _ R (q_out_v (by decide) f_20))
      · have h := it_n hp_18 h
        refine go_aload_n (n := 0) (by decide +kernel) l0 f0 ?_
        refine go_getf (x := 17) (ci := 9) (kf := 1) (fin := 1) (t := 2) (by decide +kernel) (by decide +kernel) (by decide +kernel) R f0 (fx_k (c := 9) R (by decide +kernel)) fun v_21 f_22 => ?_
        have f_23 := q_is_eq (b := 19) f_22 (fx_v R (by decide +kernel)).symm
        refine go_iload_n (n := 1) (by decide +kernel) l1 f1 ?_
        obtain ⟨g_26, h⟩ := gd_s h
        obtain ⟨x_28, e_29, h⟩ := lx_s h
        refine go_aald (kd := 103) (by decide +kernel) (by decide) R f_23 f1 (fx_k (c := 103) R (by decide +kernel)) (fx_x (a := 19) (ln := 12) R (by decide +kernel) g_26) fun v_24 f_25 => ?_
        have f_27 := q_is_eq f_25 e_29
        refine go_goto (o := 4) (t := 31) (by decide +kernel) (by decide +kernel) ?_
        cases h
        exact go_aret (by decide +kernel) rfl rfl f_27 (hQ _ _ R (q_out_v (by decide) f_27))
noncomputable def fm_X4_seen (m0 : MM) : Option Int := lx (m0 17 10) fun x_7 =>
lx (m0 16 5) fun x_12 =>
if x_7 < x_12 then
lx (m0 16 6) fun x_29 =>
some x_29
else
lx (m0 16 2) fun x_18 =>
gd (okc m0 x_18 3) <| lx (m0 x_18 1) fun x_24 =>
some x_24
set_option maxHeartbeats 4000000 in
theorem om_X4_seen {xs : List Int32} {d : Nat} {S : QS} {m0 : MM} {v0 : Value} {rz : Int}
  (hd : 1 ≤ d) (R : Rp S m0) (f0 : q_is 2 v0 16)
  (h : fm_X4_seen m0 = some rz) : Mt xs d 37 [v0] S (Cr 0 m0 m0 rz) := by
  obtain ⟨d, rfl⟩ : ∃ e, d = e + 1 := ⟨d - 1, by omega⟩
  have hd : 0 ≤ d := Nat.le_of_succ_le_succ hd
  refine Mt.of (M := qM_X4_seen) rfl (by rw [sl_1 (q_is_cat f0 (Or.inr rfl)), sl_0]; decide) ?_
  rw [la_1 (q_is_cat f0 (Or.inr rfl)), la_0]
  obtain ⟨L, hL⟩ : ∃ L : QL, L = [(0, v0)] := ⟨_, rfl⟩
  rw [← hL]
  have l0 : q_lo L 0 = some v0 := by rw [hL]; rfl
  have hQ : ∀ o S1, Rp S1 m0 → q_out 0 o rz → (Cr 0 m0 m0 rz) o S1 := fun o S1 a b => ⟨a, Ext.rf _, b⟩
  unfold fm_X4_seen at h
  refine go_aload_n (n := 0) (by decide +kernel) l0 f0 ?_
  refine go_getf (x := 10) (ci := 5) (kf := 0) (fin := 1) (t := 2) (by decide +kernel) (by decide +kernel) (by decide +kernel) R f0 (fx_k (c := 5) R (by decide +kernel)) fun v_1 f_2 => ?_
  have f_3 := q_is_eq (b := 17) f_2 (fx_v R (by decide +kernel)).symm
  obtain ⟨x_7, e_8, h⟩ := lx_s h
  refine go_getf (x := 66) (ci := 9) (kf := 10) (fin := 0) (t := 0) (by decide +kernel) (by decide +kernel) (by decide +kernel) R f_3 (fx_k (c := 9) R (by decide +kernel)) fun v_4 f_5 => ?_
  have f_6 := q_is_eq f_5 e_8
  refine go_aload_n (n := 0) (by decide +kernel) l0 f0 ?_
  obtain ⟨x_12, e_13, h⟩ := lx_s h
  refine go_getf (x := 39) (ci := 5) (kf := 5) (fin := 0) (t := 0) (by decide +kernel) (by decide +kernel) (by decide +kernel) R f0 (fx_k (c := 5) R (by decide +kernel)) fun v_9 f_10 => ?_
  have f_11 := q_is_eq f_10 e_13
  refine go_icmp (c := .ge) (o := 10) (t := 21) (P := ¬ (x_7 < x_12)) (by decide +kernel) (by decide +kernel) f_6 f_11 (Int.not_lt.symm) (fun hp_14 => ?_) (fun hp_14 => ?_)
  · have h := it_f hp_14 h
    refine go_aload_n (n := 0) (by decide +kernel) l0 f0 ?_
    obtain ⟨x_18, e_19, h⟩ := lx_s h
    refine go_getf (x := 28) (ci := 5) (kf := 2) (fin := 0) (t := 2) (by decide +kernel) (by decide +kernel) (by decide +kernel) R f0 (fx_k (c := 5) R (by decide +kernel)) fun v_15 f_16 => ?_
    have f_17 := q_is_eq f_16 e_19
    obtain ⟨g_22, h⟩ := gd_s h
    obtain ⟨x_24, e_25, h⟩ := lx_s h
    refine go_getf (x := 80) (ci := 3) (kf := 1) (fin := 0) (t := 0) (by decide +kernel) (by decide +kernel) (by decide +kernel) R f_17 g_22 fun v_20 f_21 => ?_
    have f_23 := q_is_eq f_21 e_25
    cases h
    exact go_iret (by decide +kernel) rfl (Or.inl rfl) f_23 (hQ _ _ R (q_out_v (by decide) f_23))
  · have h := it_n hp_14 h
    refine go_aload_n (n := 0) (by decide +kernel) l0 f0 ?_
    obtain ⟨x_29, e_30, h⟩ := lx_s h
    refine go_getf (x := 42) (ci := 5) (kf := 6) (fin := 0) (t := 0) (by decide +kernel) (by decide +kernel) (by decide +kernel) R f0 (fx_k (c := 5) R (by decide +kernel)) fun v_26 f_27 => ?_
    have f_28 := q_is_eq f_27 e_30
    refine go_goto (o := 10) (t := 28) (by decide +kernel) (by decide +kernel) ?_
    cases h
    exact go_iret (by decide +kernel) rfl (Or.inl rfl) f_28 (hQ _ _ R (q_out_v (by decide) f_28))
noncomputable def fm_X4_getStuck (p1 : Int) (m0 : MM) : Option (Int × MM) := up m0 16 10 1 fun m_3 =>
up m_3 16 11 p1 fun m_10 =>
some (0, m_10)
set_option maxHeartbeats 4000000 in
theorem om_X4_getStuck {xs : List Int32} {d : Nat} {S : QS} {m0 : MM} {p1 : Int} {v0 : Value} {v1 : Value} {rz : Int} {rm : MM}
  (hd : 1 ≤ d) (R : Rp S m0) (f0 : q_is 2 v0 16) (f1 : q_is 0 v1 p1)
  (h : fm_X4_getStuck p1 m0 = some (rz, rm)) : Mt xs d 34 [v0, v1] S (Cr 9 m0 rm rz) := by
  obtain ⟨d, rfl⟩ : ∃ e, d = e + 1 := ⟨d - 1, by omega⟩
  have hd : 0 ≤ d := Nat.le_of_succ_le_succ hd
  refine Mt.of (M := qM_X4_getStuck) rfl (by rw [sl_1 (q_is_cat f0 (Or.inr rfl)), sl_1 (q_is_cat f1 (Or.inl rfl)), sl_0]; decide) ?_
  rw [la_1 (q_is_cat f0 (Or.inr rfl)), la_1 (q_is_cat f1 (Or.inl rfl)), la_0]
  obtain ⟨L, hL⟩ : ∃ L : QL, L = [(0, v0), (0 + 1, v1)] := ⟨_, rfl⟩
  rw [← hL]
  have l0 : q_lo L 0 = some v0 := by rw [hL]; rfl
  have l1 : q_lo L 1 = some v1 := by rw [hL]; rfl
  have hQ : Ext m0 rm → ∀ o S1, Rp S1 rm → q_out 9 o rz → (Cr 9 m0 rm rz) o S1 := fun a o S1 b e => ⟨b, a, e⟩
  unfold fm_X4_getStuck at h
  refine go_aload_n (n := 0) (by decide +kernel) l0 f0 ?_
  refine go_iconst (n := 1) (z := 1) (by decide +kernel) (by decide) fun v_1 f_2 => ?_
  obtain ⟨m_3, e_4, h⟩ := up_s h
  refine go_putf (x := 55) (ci := 5) (kf := 10) (fin := 0) (zt := 1) (by decide +kernel) (by decide +kernel) (by decide) (by decide +kernel) (by decide) (Or.inl rfl) R f0 f_2 (fun _ => by decide) (fx_k (c := 5) R (by decide +kernel)) e_4 (fx_f (j := 10) R.2 (fx_k (c := 5) R (by decide +kernel)) (by decide +kernel)) fun S_5 R_6 E_7 => ?_
  have E_9 := E_7
  refine go_aload_n (n := 0) (by decide +kernel) l0 f0 ?_
  refine go_iload_n (n := 1) (by decide +kernel) l1 f1 ?_
  obtain ⟨m_10, e_11, h⟩ := up_s h
  refine go_putf (x := 59) (ci := 5) (kf := 11) (fin := 0) (zt := 0) (by decide +kernel) (by decide +kernel) (by decide) (by decide +kernel) (by decide) (Or.inl rfl) R_6 f0 f1 (fun hq => absurd hq (by decide)) (fx_k (c := 5) R_6 (by decide +kernel)) e_11 (fx_f (j := 11) R_6.2 (fx_k (c := 5) R_6 (by decide +kernel)) (by decide +kernel)) fun S_12 R_13 E_14 => ?_
  have E_16 := Ext.tr E_9 E_14
  cases h
  exact go_vret (by decide +kernel) rfl (hQ E_16 _ _ R_13 q_out_n)
noncomputable def fj_X4_command_65 (y4 : Int) (m : MM) : Option (Int × MM) := up m 17 12 (w32 (y4 + 1)) fun m_162 =>
some (y4, m_162)
set_option maxHeartbeats 4000000 in
theorem oj_X4_command_65 {xs : List Int32} {d : Nat} {S : QS} {L : QL} {Q : QO → QS → Prop} {m : MM} {y4 : Int} {v0 : Value} {v4 : Value}  {rz : Int} {rm : MM}
  (hd : 2 ≤ d) (R : Rp S m) (l0 : q_lo L 0 = some v0) (f0 : q_is 2 v0 16) (l4 : q_lo L 4 = some v4) (f4 : q_is 0 v4 y4)
  (hQ : Ext m rm → ∀ o S1, Rp S1 rm → q_out 0 o rz → Q o S1)
  (h : fj_X4_command_65 y4 m = some (rz, rm)) : Go xs d qM_X4_command 65 L [] S Q := by
  unfold fj_X4_command_65 at h
  refine go_aload_n (n := 0) (by decide +kernel) l0 f0 ?_
  refine go_getf (x := 10) (ci := 5) (kf := 0) (fin := 1) (t := 2) (by decide +kernel) (by decide +kernel) (by decide +kernel) R f0 (fx_k (c := 5) R (by decide +kernel)) fun v_155 f_156 => ?_
  have f_157 := q_is_eq (b := 17) f_156 (fx_v R (by decide +kernel)).symm
  refine go_iload (n := 4) (by decide +kernel) l4 f4 ?_
  refine go_iconst (n := 1) (z := 1) (by decide +kernel) (by decide) fun v_158 f_159 => ?_
  refine go_iadd (by decide +kernel) f4 f_159 fun v_160 f_161 => ?_
  obtain ⟨m_162, e_163, h⟩ := up_s h
  refine go_putf (x := 114) (ci := 9) (kf := 12) (fin := 0) (zt := 0) (by decide +kernel) (by decide +kernel) (by decide) (by decide +kernel) (by decide) (Or.inl rfl) R f_157 f_161 (fun hq => absurd hq (by decide)) (fx_k (c := 9) R (by decide +kernel)) e_163 (fx_f (j := 12) R.2 (fx_k (c := 9) R (by decide +kernel)) (by decide +kernel)) fun S_164 R_165 E_166 => ?_
  have E_168 := E_166
  refine go_iload (n := 4) (by decide +kernel) l4 f4 ?_
  cases h
  exact go_iret (by decide +kernel) rfl (Or.inl rfl) f4 (hQ E_168 _ _ R_165 (q_out_v (by decide) f4))
noncomputable def fm_X4_command (p1 p2 p3 : Int) (m0 : MM) : Option (Int × MM) := lx (m0 16 2) fun x_4 =>
lx (m0 17 12) fun x_12 =>
gd (okc m0 x_4 3) <| bp (fm_X2_nextCommand x_4 x_12 m0) fun x_16 =>
up m0 17 12 x_16 fun m_34 =>
bp (fm_X4_seen m_34) fun x_42 =>
if x_16 < x_42 then
lx (m_34 16 4) fun x_150 =>
if x_150 = 1 then
fj_X4_command_65 x_16 m_34
else
lx (m_34 16 2) fun x_172 =>
gd (okc m_34 x_172 3) <| bp (fm_X2_is x_172 x_16 p1 p2 p3 m_34) fun x_176 =>
if x_176 = 0 then
bd (fm_X4_getStuck x_16 m_34) fun x_186 m_187 =>
some ((-1), m_187)
else
fj_X4_command_65 x_16 m_34
else
lx (m_34 17 10) fun x_57 =>
lx (m_34 16 2) fun x_62 =>
gd (okc m_34 x_62 3) <| lx (m_34 x_62 4) fun x_68 =>
if x_57 < x_68 then
bp (fm_X2_taskBeyond x_62 x_57 m_34) fun x_125 =>
bd (fm_X4_getStuck x_125 m_34) fun x_134 m_135 =>
some ((-1), m_135)
else
bd (fm_X2_put 43 p1 p2 p3 0 0 m_34) fun x_79 m_80 =>
lx (m_80 16 2) fun x_93 =>
gd (okc m_80 x_93 3) <| lx (m_80 x_93 1) fun x_99 =>
lx (m_80 43 1) fun x_107 =>
some (w32 ((w32 (x_99 + x_107)) - 1), m_80)
set_option maxHeartbeats 4000000 in
theorem om_X4_command {xs : List Int32} {d : Nat} {S : QS} {m0 : MM} {p1 p2 p3 : Int} {v0 : Value} {v1 : Value} {v2 : Value} {v3 : Value} {rz : Int} {rm : MM}
  (hd : 3 ≤ d) (R : Rp S m0) (f0 : q_is 2 v0 16) (f1 : q_is 0 v1 p1) (f2 : q_is 0 v2 p2) (f3 : q_is 0 v3 p3)
  (h : fm_X4_command p1 p2 p3 m0 = some (rz, rm)) : Mt xs d 44 [v0, v1, v2, v3] S (Cr 0 m0 rm rz) := by
  obtain ⟨d, rfl⟩ : ∃ e, d = e + 1 := ⟨d - 1, by omega⟩
  have hd : 2 ≤ d := Nat.le_of_succ_le_succ hd
  refine Mt.of (M := qM_X4_command) rfl (by rw [sl_1 (q_is_cat f0 (Or.inr rfl)), sl_1 (q_is_cat f1 (Or.inl rfl)), sl_1 (q_is_cat f2 (Or.inl rfl)), sl_1 (q_is_cat f3 (Or.inl rfl)), sl_0]; decide) ?_
  rw [la_1 (q_is_cat f0 (Or.inr rfl)), la_1 (q_is_cat f1 (Or.inl rfl)), la_1 (q_is_cat f2 (Or.inl rfl)), la_1 (q_is_cat f3 (Or.inl rfl)), la_0]
  obtain ⟨L, hL⟩ : ∃ L : QL, L = [(0, v0), (0 + 1, v1), (0 + 1 + 1, v2), (0 + 1 + 1 + 1, v3)] := ⟨_, rfl⟩
  rw [← hL]
  have l0 : q_lo L 0 = some v0 := by rw [hL]; rfl
  have l1 : q_lo L 1 = some v1 := by rw [hL]; rfl
  have l2 : q_lo L 2 = some v2 := by rw [hL]; rfl
  have l3 : q_lo L 3 = some v3 := by rw [hL]; rfl
  have hQ : Ext m0 rm → ∀ o S1, Rp S1 rm → q_out 0 o rz → (Cr 0 m0 rm rz) o S1 := fun a o S1 b e => ⟨b, a, e⟩
  unfold fm_X4_command at h
  refine go_aload_n (n := 0) (by decide +kernel) l0 f0 ?_
  obtain ⟨x_4, e_5, h⟩ := lx_s h
  refine go_getf (x := 28) (ci := 5) (kf := 2) (fin := 0) (t := 2) (by decide +kernel) (by decide +kernel) (by decide +kernel) R f0 (fx_k (c := 5) R (by decide +kernel)) fun v_1 f_2 => ?_
  have f_3 := q_is_eq f_2 e_5
  refine go_aload_n (n := 0) (by decide +kernel) l0 f0 ?_
  refine go_getf (x := 10) (ci := 5) (kf := 0) (fin := 1) (t := 2) (by decide +kernel) (by decide +kernel) (by decide +kernel) R f0 (fx_k (c := 5) R (by decide +kernel)) fun v_6 f_7 => ?_
  have f_8 := q_is_eq (b := 17) f_7 (fx_v R (by decide +kernel)).symm
  obtain ⟨x_12, e_13, h⟩ := lx_s h
  refine go_getf (x := 114) (ci := 9) (kf := 12) (fin := 0) (t := 0) (by decide +kernel) (by decide +kernel) (by decide +kernel) R f_8 (fx_k (c := 9) R (by decide +kernel)) fun v_9 f_10 => ?_
  have f_11 := q_is_eq f_10 e_13
  obtain ⟨g_14, h⟩ := gd_s h
  obtain ⟨x_16, hc_15, h⟩ := bp_s h
  refine go_callV (x := 123) (mi := 22) (n := 1) (ci := 3) (as := [v_9]) (rest := []) (by decide +kernel) (by decide +kernel) rfl rfl (q_sum8 _ (Nat.le_of_ble_eq_true rfl)) R f_3 g_14 (om_X2_nextCommand (Nat.le_trans (by decide) hd) R g_14 f_3 f_11 hc_15) (fun _ S_20 q_23 => ?_) (fun _ _ qq => kr_x qq)
  refine kr_z (by decide) q_23 fun v_18 f_19 R_21 E_22 => ?_
  refine go_istore (n := 4) (by decide +kernel) (by decide +kernel) f_19 fun L_24 l_25 kp_26 => ?_
  have l_27 := kp_26 0 _ l0 (by decide) (Or.inl (by decide))
  have l_28 := kp_26 1 _ l1 (by decide) (Or.inl (by decide))
  have l_29 := kp_26 2 _ l2 (by decide) (Or.inl (by decide))
  have l_30 := kp_26 3 _ l3 (by decide) (Or.inr (q_is_cat f3 (Or.inl rfl)))
  refine go_aload_n (n := 0) (by decide +kernel) l_27 f0 ?_
  refine go_getf (x := 10) (ci := 5) (kf := 0) (fin := 1) (t := 2) (by decide +kernel) (by decide +kernel) (by decide +kernel) R_21 f0 (fx_k (c := 5) R_21 (by decide +kernel)) fun v_31 f_32 => ?_
  have f_33 := q_is_eq (b := 17) f_32 (fx_v R_21 (by decide +kernel)).symm
  refine go_iload (n := 4) (by decide +kernel) l_25 f_19 ?_
  obtain ⟨m_34, e_35, h⟩ := up_s h
  refine go_putf (x := 114) (ci := 9) (kf := 12) (fin := 0) (zt := 0) (by decide +kernel) (by decide +kernel) (by decide) (by decide +kernel) (by decide) (Or.inl rfl) R_21 f_33 f_19 (fun hq => absurd hq (by decide)) (fx_k (c := 9) R_21 (by decide +kernel)) e_35 (fx_f (j := 12) R_21.2 (fx_k (c := 9) R_21 (by decide +kernel)) (by decide +kernel)) fun S_36 R_37 E_38 => ?_
  have E_40 := E_38
  refine go_iload (n := 4) (by decide +kernel) l_25 f_19 ?_
  refine go_aload_n (n := 0) (by decide +kernel) l_27 f0 ?_
  obtain ⟨x_42, hc_41, h⟩ := bp_s h
  refine go_callV (x := 220) (mi := 37) (n := 0) (ci := 5) (as := []) (rest := [v_18]) (by decide +kernel) (by decide +kernel) rfl rfl (q_sum8 _ (Nat.le_of_ble_eq_true rfl)) R_37 f0 (fx_k (c := 5) R_37 (by decide +kernel)) (om_X4_seen (Nat.le_trans (by decide) hd) R_37 f0 hc_41) (fun _ S_46 q_49 => ?_) (fun _ _ qq => kr_x qq)
  refine kr_z (by decide) q_49 fun v_44 f_45 R_47 E_48 => ?_
  refine go_icmp (c := .ge) (o := 48) (t := 79) (P := ¬ (x_16 < x_42)) (by decide +kernel) (by decide +kernel) f_19 f_45 (Int.not_lt.symm) (fun hp_50 => ?_) (fun hp_50 => ?_)
  · have h := it_f hp_50 h
    refine go_aload_n (n := 0) (by decide +kernel) l_27 f0 ?_
    refine go_getf (x := 10) (ci := 5) (kf := 0) (fin := 1) (t := 2) (by decide +kernel) (by decide +kernel) (by decide +kernel) R_47 f0 (fx_k (c := 5) R_47 (by decide +kernel)) fun v_51 f_52 => ?_
    have f_53 := q_is_eq (b := 17) f_52 (fx_v R_47 (by decide +kernel)).symm
    obtain ⟨x_57, e_58, h⟩ := lx_s h
    refine go_getf (x := 66) (ci := 9) (kf := 10) (fin := 0) (t := 0) (by decide +kernel) (by decide +kernel) (by decide +kernel) R_47 f_53 (fx_k (c := 9) R_47 (by decide +kernel)) fun v_54 f_55 => ?_
    have f_56 := q_is_eq f_55 e_58
    refine go_aload_n (n := 0) (by decide +kernel) l_27 f0 ?_
    obtain ⟨x_62, e_63, h⟩ := lx_s h
    refine go_getf (x := 28) (ci := 5) (kf := 2) (fin := 0) (t := 2) (by decide +kernel) (by decide +kernel) (by decide +kernel) R_47 f0 (fx_k (c := 5) R_47 (by decide +kernel)) fun v_59 f_60 => ?_
    have f_61 := q_is_eq f_60 e_63
    obtain ⟨g_66, h⟩ := gd_s h
    obtain ⟨x_68, e_69, h⟩ := lx_s h
    refine go_getf (x := 228) (ci := 3) (kf := 4) (fin := 0) (t := 0) (by decide +kernel) (by decide +kernel) (by decide +kernel) R_47 f_61 g_66 fun v_64 f_65 => ?_
    have f_67 := q_is_eq f_65 e_69
    refine go_icmp (c := .ge) (o := 23) (t := 116) (P := ¬ (x_57 < x_68)) (by decide +kernel) (by decide +kernel) f_56 f_67 (Int.not_lt.symm) (fun hp_70 => ?_) (fun hp_70 => ?_)
    · have h := it_f hp_70 h
      refine go_aload_n (n := 0) (by decide +kernel) l_27 f0 ?_
      refine go_getf (x := 24) (ci := 5) (kf := 1) (fin := 1) (t := 2) (by decide +kernel) (by decide +kernel) (by decide +kernel) R_47 f0 (fx_k (c := 5) R_47 (by decide +kernel)) fun v_71 f_72 => ?_
      have f_73 := q_is_eq (b := 43) f_72 (fx_v R_47 (by decide +kernel)).symm
      refine go_iload_n (n := 1) (by decide +kernel) l_28 f1 ?_
      refine go_iload_n (n := 2) (by decide +kernel) l_29 f2 ?_
      refine go_iload_n (n := 3) (by decide +kernel) l_30 f3 ?_
      refine go_iconst (n := 0) (z := 0) (by decide +kernel) (by decide) fun v_74 f_75 => ?_
      refine go_iconst (n := 0) (z := 0) (by decide +kernel) (by decide) fun v_76 f_77 => ?_
      obtain ⟨x_79, m_80, hc_78, h⟩ := bd_s h
      refine go_callV (x := 234) (mi := 15) (n := 5) (ci := 3) (as := [v1, v2, v3, v_74, v_76]) (rest := []) (by decide +kernel) (by decide +kernel) rfl rfl (q_sum8 _ (Nat.le_of_ble_eq_true rfl)) R_47 f_73 (fx_k (c := 3) R_47 (by decide +kernel)) (om_X2_put (Nat.le_trans (by decide) hd) R_47 (fx_k (c := 3) R_47 (by decide +kernel)) f_73 f1 f2 f3 f_75 f_77 hc_78) (fun _ S_83 q_86 => ?_) (fun _ _ qq => kr_x qq)
      refine kr_v q_86 fun R_84 E_85 => ?_
      have E_89 := Ext.tr E_40 E_85
      refine go_aload_n (n := 0) (by decide +kernel) l_27 f0 ?_
      obtain ⟨x_93, e_94, h⟩ := lx_s h
      refine go_getf (x := 28) (ci := 5) (kf := 2) (fin := 0) (t := 2) (by decide +kernel) (by decide +kernel) (by decide +kernel) R_84 f0 (fx_k (c := 5) R_84 (by decide +kernel)) fun v_90 f_91 => ?_
      have f_92 := q_is_eq f_91 e_94
      obtain ⟨g_97, h⟩ := gd_s h
      obtain ⟨x_99, e_100, h⟩ := lx_s h
      refine go_getf (x := 80) (ci := 3) (kf := 1) (fin := 0) (t := 0) (by decide +kernel) (by decide +kernel) (by decide +kernel) R_84 f_92 g_97 fun v_95 f_96 => ?_
      have f_98 := q_is_eq f_96 e_100
      refine go_aload_n (n := 0) (by decide +kernel) l_27 f0 ?_
      refine go_getf (x := 24) (ci := 5) (kf := 1) (fin := 1) (t := 2) (by decide +kernel) (by decide +kernel) (by decide +kernel) R_84 f0 (fx_k (c := 5) R_84 (by decide +kernel)) fun v_101 f_102 => ?_
      have f_103 := q_is_eq (b := 43) f_102 (fx_v R_84 (by decide +kernel)).symm
      obtain ⟨x_107, e_108, h⟩ := lx_s h
      refine go_getf (x := 80) (ci := 3) (kf := 1) (fin := 0) (t := 0) (by decide +kernel) (by decide +kernel) (by decide +kernel) R_84 f_103 (fx_k (c := 3) R_84 (by decide +kernel)) fun v_104 f_105 => ?_
      have f_106 := q_is_eq f_105 e_108
      refine go_iadd (by decide +kernel) f_98 f_106 fun v_109 f_110 => ?_
      refine go_iconst (n := 1) (z := 1) (by decide +kernel) (by decide) fun v_111 f_112 => ?_
      refine go_isub (by decide +kernel) f_110 f_112 fun v_113 f_114 => ?_
      cases h
      exact go_iret (by decide +kernel) rfl (Or.inl rfl) f_114 (hQ E_89 _ _ R_84 (q_out_v (by decide) f_114))
    · have h := it_n hp_70 h
      refine go_aload_n (n := 0) (by decide +kernel) l_27 f0 ?_
      refine go_aload_n (n := 0) (by decide +kernel) l_27 f0 ?_
      refine go_getf (x := 28) (ci := 5) (kf := 2) (fin := 0) (t := 2) (by decide +kernel) (by decide +kernel) (by decide +kernel) R_47 f0 (fx_k (c := 5) R_47 (by decide +kernel)) fun v_115 f_116 => ?_
      have f_117 := q_is_eq f_116 e_63
      refine go_aload_n (n := 0) (by decide +kernel) l_27 f0 ?_
      refine go_getf (x := 10) (ci := 5) (kf := 0) (fin := 1) (t := 2) (by decide +kernel) (by decide +kernel) (by decide +kernel) R_47 f0 (fx_k (c := 5) R_47 (by decide +kernel)) fun v_118 f_119 => ?_
      have f_120 := q_is_eq (b := 17) f_119 (fx_v R_47 (by decide +kernel)).symm
      refine go_getf (x := 66) (ci := 9) (kf := 10) (fin := 0) (t := 0) (by decide +kernel) (by decide +kernel) (by decide +kernel) R_47 f_120 (fx_k (c := 9) R_47 (by decide +kernel)) fun v_121 f_122 => ?_
      have f_123 := q_is_eq f_122 e_58
      obtain ⟨x_125, hc_124, h⟩ := bp_s h
      refine go_callV (x := 231) (mi := 23) (n := 1) (ci := 3) (as := [v_121]) (rest := [v0]) (by decide +kernel) (by decide +kernel) rfl rfl (q_sum8 _ (Nat.le_of_ble_eq_true rfl)) R_47 f_117 g_66 (om_X2_taskBeyond (Nat.le_trans (by decide) hd) R_47 g_66 f_117 f_123 hc_124) (fun _ S_129 q_132 => ?_) (fun _ _ qq => kr_x qq)
      refine kr_z (by decide) q_132 fun v_127 f_128 R_130 E_131 => ?_
      obtain ⟨x_134, m_135, hc_133, h⟩ := bd_s h
      refine go_callV (x := 126) (mi := 34) (n := 1) (ci := 5) (as := [v_127]) (rest := []) (by decide +kernel) (by decide +kernel) rfl rfl (q_sum8 _ (Nat.le_of_ble_eq_true rfl)) R_130 f0 (fx_k (c := 5) R_130 (by decide +kernel)) (om_X4_getStuck (Nat.le_trans (by decide) hd) R_130 f0 f_128 hc_133) (fun _ S_138 q_141 => ?_) (fun _ _ qq => kr_x qq)
      refine kr_v q_141 fun R_139 E_140 => ?_
      have E_144 := Ext.tr E_40 E_140
      refine go_iconst (n := (-1)) (z := (-1)) (by decide +kernel) (by decide) fun v_145 f_146 => ?_
      cases h
      exact go_iret (by decide +kernel) rfl (Or.inl rfl) f_146 (hQ E_144 _ _ R_139 (q_out_v (by decide) f_146))
  · have h := it_n hp_50 h
    refine go_aload_n (n := 0) (by decide +kernel) l_27 f0 ?_
    obtain ⟨x_150, e_151, h⟩ := lx_s h
    refine go_getf (x := 35) (ci := 5) (kf := 4) (fin := 0) (t := 0) (by decide +kernel) (by decide +kernel) (by decide +kernel) R_47 f0 (fx_k (c := 5) R_47 (by decide +kernel)) fun v_147 f_148 => ?_
    have f_149 := q_is_eq f_148 e_151
    refine go_iconst (n := 1) (z := 1) (by decide +kernel) (by decide) fun v_152 f_153 => ?_
    refine go_icmp (c := .eq) (o := 26) (t := 65) (P := x_150 = 1) (by decide +kernel) (by decide +kernel) f_149 f_153 (Iff.rfl) (fun hp_154 => ?_) (fun hp_154 => ?_)
    · have h := it_t hp_154 h
      exact oj_X4_command_65 hd R_47 l_27 f0 l_25 f_19 (fun b => hQ (Ext.tr E_40 b)) h
    · have h := it_f hp_154 h
      refine go_aload_n (n := 0) (by decide +kernel) l_27 f0 ?_
      obtain ⟨x_172, e_173, h⟩ := lx_s h
      refine go_getf (x := 28) (ci := 5) (kf := 2) (fin := 0) (t := 2) (by decide +kernel) (by decide +kernel) (by decide +kernel) R_47 f0 (fx_k (c := 5) R_47 (by decide +kernel)) fun v_169 f_170 => ?_
      have f_171 := q_is_eq f_170 e_173
      refine go_iload (n := 4) (by decide +kernel) l_25 f_19 ?_
      refine go_iload_n (n := 1) (by decide +kernel) l_28 f1 ?_
      refine go_iload_n (n := 2) (by decide +kernel) l_29 f2 ?_
      refine go_iload_n (n := 3) (by decide +kernel) l_30 f3 ?_
      obtain ⟨g_174, h⟩ := gd_s h
      obtain ⟨x_176, hc_175, h⟩ := bp_s h
      refine go_callV (x := 224) (mi := 20) (n := 4) (ci := 3) (as := [v_18, v1, v2, v3]) (rest := []) (by decide +kernel) (by decide +kernel) rfl rfl (q_sum8 _ (Nat.le_of_ble_eq_true rfl)) R_47 f_171 g_174 (om_X2_is (Nat.le_trans (by decide) hd) R_47 g_174 f_171 f_19 f1 f2 f3 hc_175) (fun _ S_180 q_183 => ?_) (fun _ _ qq => kr_x qq)
      refine kr_z (by decide) q_183 fun v_178 f_179 R_181 E_182 => ?_
      refine go_if (c := .ne) (o := 11) (t := 65) (P := ¬ (x_176 = 0)) (by decide +kernel) (by decide +kernel) f_179 (Iff.rfl) (fun hp_184 => ?_) (fun hp_184 => ?_)
      · have h := it_f hp_184 h
        exact oj_X4_command_65 hd R_181 l_27 f0 l_25 f_19 (fun b => hQ (Ext.tr E_40 b)) h
      · have h := it_n hp_184 h
        refine go_aload_n (n := 0) (by decide +kernel) l_27 f0 ?_
        refine go_iload (n := 4) (by decide +kernel) l_25 f_19 ?_
        obtain ⟨x_186, m_187, hc_185, h⟩ := bd_s h
        refine go_callV (x := 126) (mi := 34) (n := 1) (ci := 5) (as := [v_18]) (rest := []) (by decide +kernel) (by decide +kernel) rfl rfl (q_sum8 _ (Nat.le_of_ble_eq_true rfl)) R_181 f0 (fx_k (c := 5) R_181 (by decide +kernel)) (om_X4_getStuck (Nat.le_trans (by decide) hd) R_181 f0 f_19 hc_185) (fun _ S_190 q_193 => ?_) (fun _ _ qq => kr_x qq)
        refine kr_v q_193 fun R_191 E_192 => ?_
        have E_196 := Ext.tr E_40 E_192
        refine go_iconst (n := (-1)) (z := (-1)) (by decide +kernel) (by decide) fun v_197 f_198 => ?_
        cases h
        exact go_iret (by decide +kernel) rfl (Or.inl rfl) f_198 (hQ E_196 _ _ R_191 (q_out_v (by decide) f_198))
noncomputable def fm_X8_top (p1 : Int) (m0 : MM) : Option Int := bp (fm_X5_wide 21 (w32 (p1 - 1)) m0) fun x_9 =>
some (w32 (Int.tmod x_9 10000))
set_option maxHeartbeats 4000000 in
theorem om_X8_top {xs : List Int32} {d : Nat} {S : QS} {m0 : MM} {p1 : Int} {v0 : Value} {v1 : Value} {rz : Int}
  (hd : 2 ≤ d) (R : Rp S m0) (f0 : q_is 2 v0 17) (f1 : q_is 0 v1 p1)
  (h : fm_X8_top p1 m0 = some rz) : Mt xs d 79 [v0, v1] S (Cr 0 m0 m0 rz) := by
  obtain ⟨d, rfl⟩ : ∃ e, d = e + 1 := ⟨d - 1, by omega⟩
  have hd : 1 ≤ d := Nat.le_of_succ_le_succ hd
  refine Mt.of (M := qM_X8_top) rfl (by rw [sl_1 (q_is_cat f0 (Or.inr rfl)), sl_1 (q_is_cat f1 (Or.inl rfl)), sl_0]; decide) ?_
  rw [la_1 (q_is_cat f0 (Or.inr rfl)), la_1 (q_is_cat f1 (Or.inl rfl)), la_0]
  obtain ⟨L, hL⟩ : ∃ L : QL, L = [(0, v0), (0 + 1, v1)] := ⟨_, rfl⟩
  rw [← hL]
  have l0 : q_lo L 0 = some v0 := by rw [hL]; rfl
  have l1 : q_lo L 1 = some v1 := by rw [hL]; rfl
  have hQ : ∀ o S1, Rp S1 m0 → q_out 0 o rz → (Cr 0 m0 m0 rz) o S1 := fun o S1 a b => ⟨a, Ext.rf _, b⟩
  unfold fm_X8_top at h
  refine go_aload_n (n := 0) (by decide +kernel) l0 f0 ?_
  refine go_getf (x := 28) (ci := 9) (kf := 3) (fin := 1) (t := 2) (by decide +kernel) (by decide +kernel) (by decide +kernel) R f0 (fx_k (c := 9) R (by decide +kernel)) fun v_1 f_2 => ?_
  have f_3 := q_is_eq (b := 21) f_2 (fx_v R (by decide +kernel)).symm
  refine go_iload_n (n := 1) (by decide +kernel) l1 f1 ?_
  refine go_iconst (n := 1) (z := 1) (by decide +kernel) (by decide) fun v_4 f_5 => ?_
  refine go_isub (by decide +kernel) f1 f_5 fun v_6 f_7 => ?_
  obtain ⟨x_9, hc_8, h⟩ := bp_s h
  refine go_callV (x := 84) (mi := 58) (n := 1) (ci := 6) (as := [v_6]) (rest := []) (by decide +kernel) (by decide +kernel) rfl rfl (q_sum8 _ (Nat.le_of_ble_eq_true rfl)) R f_3 (fx_k (c := 6) R (by decide +kernel)) (om_X5_wide (Nat.le_trans (by decide) hd) R (fx_k (c := 6) R (by decide +kernel)) f_3 f_7 hc_8) (fun _ S_13 q_16 => ?_) (fun _ _ qq => kr_x qq)
  refine kr_z (by decide) q_16 fun v_11 f_12 R_14 E_15 => ?_
  refine go_ldc2_w (x := 75) (n := 10000) (a := 0) (b := 0) (z := 10000) (by decide +kernel) (by decide +kernel) (by decide +kernel) fun v_17 f_18 => ?_
  refine go_lrem (by decide +kernel) f_12 f_18 (by decide) fun v_19 f_20 => ?_
  refine go_l2i (by decide +kernel) f_20 fun v_21 f_22 => ?_
  cases h
  exact go_iret (by decide +kernel) rfl (Or.inl rfl) f_22 (hQ _ _ R_14 (q_out_v (by decide) f_22))
noncomputable def fm_X8_popped (p1 : Int) (m0 : MM) : Option Int := bp (fm_X5_wide 21 (w32 (p1 - 1)) m0) fun x_9 =>
some (w32 (w64 (Int.tdiv x_9 10000)))
set_option maxHeartbeats 4000000 in
theorem om_X8_popped {xs : List Int32} {d : Nat} {S : QS} {m0 : MM} {p1 : Int} {v0 : Value} {v1 : Value} {rz : Int}
  (hd : 2 ≤ d) (R : Rp S m0) (f0 : q_is 2 v0 17) (f1 : q_is 0 v1 p1)
  (h : fm_X8_popped p1 m0 = some rz) : Mt xs d 80 [v0, v1] S (Cr 0 m0 m0 rz) := by
  obtain ⟨d, rfl⟩ : ∃ e, d = e + 1 := ⟨d - 1, by omega⟩
  have hd : 1 ≤ d := Nat.le_of_succ_le_succ hd
  refine Mt.of (M := qM_X8_popped) rfl (by rw [sl_1 (q_is_cat f0 (Or.inr rfl)), sl_1 (q_is_cat f1 (Or.inl rfl)), sl_0]; decide) ?_
  rw [la_1 (q_is_cat f0 (Or.inr rfl)), la_1 (q_is_cat f1 (Or.inl rfl)), la_0]
  obtain ⟨L, hL⟩ : ∃ L : QL, L = [(0, v0), (0 + 1, v1)] := ⟨_, rfl⟩
  rw [← hL]
  have l0 : q_lo L 0 = some v0 := by rw [hL]; rfl
  have l1 : q_lo L 1 = some v1 := by rw [hL]; rfl
  have hQ : ∀ o S1, Rp S1 m0 → q_out 0 o rz → (Cr 0 m0 m0 rz) o S1 := fun o S1 a b => ⟨a, Ext.rf _, b⟩
  unfold fm_X8_popped at h
  refine go_aload_n (n := 0) (by decide +kernel) l0 f0 ?_
  refine go_getf (x := 28) (ci := 9) (kf := 3) (fin := 1) (t := 2) (by decide +kernel) (by decide +kernel) (by decide +kernel) R f0 (fx_k (c := 9) R (by decide +kernel)) fun v_1 f_2 => ?_
  have f_3 := q_is_eq (b := 21) f_2 (fx_v R (by decide +kernel)).symm
  refine go_iload_n (n := 1) (by decide +kernel) l1 f1 ?_
  refine go_iconst (n := 1) (z := 1) (by decide +kernel) (by decide) fun v_4 f_5 => ?_
  refine go_isub (by decide +kernel) f1 f_5 fun v_6 f_7 => ?_
  obtain ⟨x_9, hc_8, h⟩ := bp_s h
  refine go_callV (x := 84) (mi := 58) (n := 1) (ci := 6) (as := [v_6]) (rest := []) (by decide +kernel) (by decide +kernel) rfl rfl (q_sum8 _ (Nat.le_of_ble_eq_true rfl)) R f_3 (fx_k (c := 6) R (by decide +kernel)) (om_X5_wide (Nat.le_trans (by decide) hd) R (fx_k (c := 6) R (by decide +kernel)) f_3 f_7 hc_8) (fun _ S_13 q_16 => ?_) (fun _ _ qq => kr_x qq)
  refine kr_z (by decide) q_16 fun v_11 f_12 R_14 E_15 => ?_
  refine go_ldc2_w (x := 75) (n := 10000) (a := 0) (b := 0) (z := 10000) (by decide +kernel) (by decide +kernel) (by decide +kernel) fun v_17 f_18 => ?_
  refine go_ldiv (by decide +kernel) f_12 f_18 (by decide) fun v_19 f_20 => ?_
  refine go_l2i (by decide +kernel) f_20 fun v_21 f_22 => ?_
  cases h
  exact go_iret (by decide +kernel) rfl (Or.inl rfl) f_22 (hQ _ _ R_14 (q_out_v (by decide) f_22))
noncomputable def fm_X4_failBranch (p1 : Int) (m0 : MM) : Option (Int × MM) := gd (okc m0 p1 2) <| lx (m0 p1 4) fun x_5 =>
bd (fm_X1_goOnAt p1 x_5 m0) fun x_8 m_9 =>
lx (m_9 p1 10) fun x_23 =>
if 0 < x_23 then
bp (fm_X8_top x_23 m_9) fun x_64 =>
bd (fm_X1_goOnAt p1 x_64 m_9) fun x_73 m_74 =>
lx (m_74 p1 10) fun x_91 =>
bp (fm_X8_popped x_91 m_74) fun x_94 =>
up m_74 p1 10 x_94 fun m_102 =>
some (0, m_102)
else
bd (fm_X4_command 15 0 0 m_9) fun x_33 m_34 =>
if x_33 < 0 then
some (0, m_34)
else
up m_34 17 9 15 fun m_50 =>
some (0, m_50)
set_option maxHeartbeats 4000000 in
theorem om_X4_failBranch {xs : List Int32} {d : Nat} {S : QS} {m0 : MM} {p1 : Int} {v0 : Value} {v1 : Value} {rz : Int} {rm : MM}
  (hd : 4 ≤ d) (R : Rp S m0) (f0 : q_is 2 v0 16) (f1 : q_is 2 v1 p1)
  (h : fm_X4_failBranch p1 m0 = some (rz, rm)) : Mt xs d 42 [v0, v1] S (Cr 9 m0 rm rz) := by
  obtain ⟨d, rfl⟩ : ∃ e, d = e + 1 := ⟨d - 1, by omega⟩
  have hd : 3 ≤ d := Nat.le_of_succ_le_succ hd
  refine Mt.of (M := qM_X4_failBranch) rfl (by rw [sl_1 (q_is_cat f0 (Or.inr rfl)), sl_1 (q_is_cat f1 (Or.inr rfl)), sl_0]; decide) ?_
  rw [la_1 (q_is_cat f0 (Or.inr rfl)), la_1 (q_is_cat f1 (Or.inr rfl)), la_0]
  obtain ⟨L, hL⟩ : ∃ L : QL, L = [(0, v0), (0 + 1, v1)] := ⟨_, rfl⟩
  rw [← hL]
  have l0 : q_lo L 0 = some v0 := by rw [hL]; rfl
  have l1 : q_lo L 1 = some v1 := by rw [hL]; rfl
  have hQ : Ext m0 rm → ∀ o S1, Rp S1 rm → q_out 9 o rz → (Cr 9 m0 rm rz) o S1 := fun a o S1 b e => ⟨b, a, e⟩
  unfold fm_X4_failBranch at h
  refine go_aload_n (n := 1) (by decide +kernel) l1 f1 ?_
  refine go_aload_n (n := 1) (by decide +kernel) l1 f1 ?_
  obtain ⟨g_3, h⟩ := gd_s h
  obtain ⟨x_5, e_6, h⟩ := lx_s h
  refine go_getf (x := 168) (ci := 2) (kf := 4) (fin := 0) (t := 0) (by decide +kernel) (by decide +kernel) (by decide +kernel) R f1 g_3 fun v_1 f_2 => ?_
  have f_4 := q_is_eq f_2 e_6
  obtain ⟨x_8, m_9, hc_7, h⟩ := bd_s h
  refine go_callV (x := 171) (mi := 5) (n := 1) (ci := 2) (as := [v_1]) (rest := []) (by decide +kernel) (by decide +kernel) rfl rfl (q_sum8 _ (Nat.le_of_ble_eq_true rfl)) R f1 g_3 (om_X1_goOnAt (Nat.le_trans (by decide) hd) R g_3 f1 f_4 hc_7) (fun _ S_12 q_15 => ?_) (fun _ _ qq => kr_x qq)
  refine kr_v q_15 fun R_13 E_14 => ?_
  have E_18 := E_14
  refine go_aload_n (n := 1) (by decide +kernel) l1 f1 ?_
  have g_21 := Ext.ok E_14 g_3
  obtain ⟨x_23, e_24, h⟩ := lx_s h
  refine go_getf (x := 202) (ci := 2) (kf := 10) (fin := 0) (t := 0) (by decide +kernel) (by decide +kernel) (by decide +kernel) R_13 f1 g_21 fun v_19 f_20 => ?_
  have f_22 := q_is_eq f_20 e_24
  refine go_if (c := .le) (o := 36) (t := 48) (P := ¬ (0 < x_23)) (by decide +kernel) (by decide +kernel) f_22 (Int.not_lt.symm) (fun hp_25 => ?_) (fun hp_25 => ?_)
  · have h := it_f hp_25 h
    refine go_aload_n (n := 0) (by decide +kernel) l0 f0 ?_
    refine go_bipush (n := 15) (z := 15) (by decide +kernel) (by decide) fun v_26 f_27 => ?_
    refine go_iconst (n := 0) (z := 0) (by decide +kernel) (by decide) fun v_28 f_29 => ?_
    refine go_iconst (n := 0) (z := 0) (by decide +kernel) (by decide) fun v_30 f_31 => ?_
    obtain ⟨x_33, m_34, hc_32, h⟩ := bd_s h
    refine go_callV (x := 198) (mi := 44) (n := 3) (ci := 5) (as := [v_26, v_28, v_30]) (rest := []) (by decide +kernel) (by decide +kernel) rfl rfl (q_sum8 _ (Nat.le_of_ble_eq_true rfl)) R_13 f0 (fx_k (c := 5) R_13 (by decide +kernel)) (om_X4_command (Nat.le_trans (by decide) hd) R_13 f0 f_27 f_29 f_31 hc_32) (fun _ S_37 q_40 => ?_) (fun _ _ qq => kr_x qq)
    refine kr_z (by decide) q_40 fun v_35 f_36 R_38 E_39 => ?_
    have E_43 := Ext.tr E_18 E_39
    refine go_if (c := .lt) (o := 12) (t := 68) (P := x_33 < 0) (by decide +kernel) (by decide +kernel) f_36 (Iff.rfl) (fun hp_44 => ?_) (fun hp_44 => ?_)
    · have h := it_t hp_44 h
      cases h
      exact go_vret (by decide +kernel) rfl (hQ E_43 _ _ R_38 q_out_n)
    · have h := it_f hp_44 h
      refine go_aload_n (n := 0) (by decide +kernel) l0 f0 ?_
      refine go_getf (x := 10) (ci := 5) (kf := 0) (fin := 1) (t := 2) (by decide +kernel) (by decide +kernel) (by decide +kernel) R_38 f0 (fx_k (c := 5) R_38 (by decide +kernel)) fun v_45 f_46 => ?_
      have f_47 := q_is_eq (b := 17) f_46 (fx_v R_38 (by decide +kernel)).symm
      refine go_bipush (n := 15) (z := 15) (by decide +kernel) (by decide) fun v_48 f_49 => ?_
      obtain ⟨m_50, e_51, h⟩ := up_s h
      refine go_putf (x := 120) (ci := 9) (kf := 9) (fin := 0) (zt := 0) (by decide +kernel) (by decide +kernel) (by decide) (by decide +kernel) (by decide) (Or.inl rfl) R_38 f_47 f_49 (fun hq => absurd hq (by decide)) (fx_k (c := 9) R_38 (by decide +kernel)) e_51 (fx_f (j := 9) R_38.2 (fx_k (c := 9) R_38 (by decide +kernel)) (by decide +kernel)) fun S_52 R_53 E_54 => ?_
      have E_56 := Ext.tr E_43 E_54
      cases h
      exact go_vret (by decide +kernel) rfl (hQ E_56 _ _ R_53 q_out_n)
  · have h := it_n hp_25 h
    refine go_aload_n (n := 1) (by decide +kernel) l1 f1 ?_
    refine go_aload_n (n := 0) (by decide +kernel) l0 f0 ?_
    refine go_getf (x := 10) (ci := 5) (kf := 0) (fin := 1) (t := 2) (by decide +kernel) (by decide +kernel) (by decide +kernel) R_13 f0 (fx_k (c := 5) R_13 (by decide +kernel)) fun v_57 f_58 => ?_
    have f_59 := q_is_eq (b := 17) f_58 (fx_v R_13 (by decide +kernel)).symm
    refine go_aload_n (n := 1) (by decide +kernel) l1 f1 ?_
    refine go_getf (x := 202) (ci := 2) (kf := 10) (fin := 0) (t := 0) (by decide +kernel) (by decide +kernel) (by decide +kernel) R_13 f1 g_21 fun v_60 f_61 => ?_
    have f_62 := q_is_eq f_61 e_24
    obtain ⟨x_64, hc_63, h⟩ := bp_s h
    refine go_callV (x := 205) (mi := 79) (n := 1) (ci := 9) (as := [v_60]) (rest := [v1]) (by decide +kernel) (by decide +kernel) rfl rfl (q_sum8 _ (Nat.le_of_ble_eq_true rfl)) R_13 f_59 (fx_k (c := 9) R_13 (by decide +kernel)) (om_X8_top (Nat.le_trans (by decide) hd) R_13 f_59 f_62 hc_63) (fun _ S_68 q_71 => ?_) (fun _ _ qq => kr_x qq)
    refine kr_z (by decide) q_71 fun v_66 f_67 R_69 E_70 => ?_
    obtain ⟨x_73, m_74, hc_72, h⟩ := bd_s h
    refine go_callV (x := 171) (mi := 5) (n := 1) (ci := 2) (as := [v_66]) (rest := []) (by decide +kernel) (by decide +kernel) rfl rfl (q_sum8 _ (Nat.le_of_ble_eq_true rfl)) R_69 f1 g_21 (om_X1_goOnAt (Nat.le_trans (by decide) hd) R_69 g_21 f1 f_67 hc_72) (fun _ S_77 q_80 => ?_) (fun _ _ qq => kr_x qq)
    refine kr_v q_80 fun R_78 E_79 => ?_
    have E_83 := Ext.tr E_18 E_79
    refine go_aload_n (n := 1) (by decide +kernel) l1 f1 ?_
    refine go_aload_n (n := 0) (by decide +kernel) l0 f0 ?_
    refine go_getf (x := 10) (ci := 5) (kf := 0) (fin := 1) (t := 2) (by decide +kernel) (by decide +kernel) (by decide +kernel) R_78 f0 (fx_k (c := 5) R_78 (by decide +kernel)) fun v_84 f_85 => ?_
    have f_86 := q_is_eq (b := 17) f_85 (fx_v R_78 (by decide +kernel)).symm
    refine go_aload_n (n := 1) (by decide +kernel) l1 f1 ?_
    have g_89 := Ext.ok E_79 g_21
    obtain ⟨x_91, e_92, h⟩ := lx_s h
    refine go_getf (x := 202) (ci := 2) (kf := 10) (fin := 0) (t := 0) (by decide +kernel) (by decide +kernel) (by decide +kernel) R_78 f1 g_89 fun v_87 f_88 => ?_
    have f_90 := q_is_eq f_88 e_92
    obtain ⟨x_94, hc_93, h⟩ := bp_s h
    refine go_callV (x := 208) (mi := 80) (n := 1) (ci := 9) (as := [v_87]) (rest := [v1]) (by decide +kernel) (by decide +kernel) rfl rfl (q_sum8 _ (Nat.le_of_ble_eq_true rfl)) R_78 f_86 (fx_k (c := 9) R_78 (by decide +kernel)) (om_X8_popped (Nat.le_trans (by decide) hd) R_78 f_86 f_90 hc_93) (fun _ S_98 q_101 => ?_) (fun _ _ qq => kr_x qq)
    refine kr_z (by decide) q_101 fun v_96 f_97 R_99 E_100 => ?_
    obtain ⟨m_102, e_103, h⟩ := up_s h
    refine go_putf (x := 202) (ci := 2) (kf := 10) (fin := 0) (zt := 0) (by decide +kernel) (by decide +kernel) (by decide) (by decide +kernel) (by decide) (Or.inl rfl) R_99 f1 f_97 (fun hq => absurd hq (by decide)) g_89 e_103 (fx_f (j := 10) R_99.2 g_89 (by decide +kernel)) fun S_104 R_105 E_106 => ?_
    have E_108 := Ext.tr E_83 E_106
    refine go_goto (o := 23) (t := 68) (by decide +kernel) (by decide +kernel) ?_
    cases h
    exact go_vret (by decide +kernel) rfl (hQ E_108 _ _ R_105 q_out_n)
noncomputable def fj_X4_tellCancel_70 (c : Int → MM → Option (Int × MM)) (y1 y2 : Int) (m : MM) : Option (Int × MM) := bd (fm_X4_failBranch y2 m) fun x_62 m_63 =>
lx (w32 (y1 + 1)) fun x_78 =>
c x_78 m_63
set_option maxHeartbeats 4000000 in
theorem oj_X4_tellCancel_70 {xs : List Int32} {d : Nat} {S : QS} {L : QL} {Q : QO → QS → Prop} {m : MM} {y1 y2 : Int} {v0 : Value} {v1 : Value} {v2 : Value}  {rz : Int} {rm : MM} {c : Int → MM → Option (Int × MM)} 
  (hd : 4 ≤ d) (R : Rp S m) (l0 : q_lo L 0 = some v0) (f0 : q_is 2 v0 16) (l1 : q_lo L 1 = some v1) (f1 : q_is 0 v1 y1) (l2 : q_lo L 2 = some v2) (f2 : q_is 2 v2 y2)
  (hc : ∀ mq : MM, Ext m mq → ∀ {z1 : Int} {Sq : QS} {Lq : QL} {u0 : Value} {u1 : Value}, c z1 mq = some (rz, rm) → Rp Sq mq → q_lo Lq 0 = some u0 → q_is 2 u0 16 → q_lo Lq 1 = some u1 → q_is 0 u1 z1 → Go xs d qM_X4_tellCancel 2 Lq [] Sq Q)
  (hQ : Ext m rm → ∀ o S1, Rp S1 rm → q_out 9 o rz → Q o S1)
  (h : fj_X4_tellCancel_70 c y1 y2 m = some (rz, rm)) : Go xs d qM_X4_tellCancel 70 L [] S Q := by
  unfold fj_X4_tellCancel_70 at h
  refine go_aload_n (n := 0) (by decide +kernel) l0 f0 ?_
  refine go_aload_n (n := 2) (by decide +kernel) l2 f2 ?_
  obtain ⟨x_62, m_63, hc_61, h⟩ := bd_s h
  refine go_callV (x := 177) (mi := 42) (n := 1) (ci := 5) (as := [v2]) (rest := []) (by decide +kernel) (by decide +kernel) rfl rfl (q_sum8 _ (Nat.le_of_ble_eq_true rfl)) R f0 (fx_k (c := 5) R (by decide +kernel)) (om_X4_failBranch (Nat.le_trans (by decide) hd) R f0 f2 hc_61) (fun _ S_66 q_69 => ?_) (fun _ _ qq => kr_x qq)
  refine kr_v q_69 fun R_67 E_68 => ?_
  have E_72 := E_68
  refine go_iinc (n := 1) (c := 1) (c' := 1) (by decide +kernel) (by decide +kernel) l1 f1 (by decide) fun L_73 v_74 f_75 l_76 kp_77 => ?_
  obtain ⟨x_78, e_79, h⟩ := lx_s h
  have f_80 := q_is_eq f_75 e_79
  have l_81 := kp_77 0 _ l0 (by decide) (Or.inr (q_is_cat f0 (Or.inr rfl)))
  refine go_goto (o := (-76)) (t := 2) (by decide +kernel) (by decide +kernel) ?_
  exact hc m_63 E_72 h R_67 l_81 f0 l_76 f_80
noncomputable def fl_X4_tellCancel_2 : Nat → Int → MM → Option (Int × MM)
  | 0, _, _ => none
  | n + 1, y1, m => lx (m 17 5) fun x_13 =>
if y1 < x_13 then
bp (fm_X4_goes m) fun x_17 =>
if x_17 = 0 then
some (0, m)
else
bp (fm_X8_branchAt y1 m) fun x_30 =>
if x_30 = 0 then
some (0, m)
else
gd (okc m x_30 2) <| lx (m x_30 5) fun x_48 =>
if 0 < x_48 then
up m x_30 6 1 fun m_115 =>
lx (w32 (y1 + 1)) fun x_127 =>
fl_X4_tellCancel_2 n x_127 m_115
else
bp (fm_X1_waitsForEvent x_30 m) fun x_52 =>
if x_52 = 0 then
fj_X4_tellCancel_70 (fl_X4_tellCancel_2 n) y1 x_30 m
else
lx (m x_30 8) fun x_87 =>
bd (fm_X4_command 11 x_87 0 m) fun x_92 m_93 =>
if x_92 < 0 then
lx (w32 (y1 + 1)) fun x_109 =>
fl_X4_tellCancel_2 n x_109 m_93
else
fj_X4_tellCancel_70 (fl_X4_tellCancel_2 n) y1 x_30 m_93
else
some (0, m)
set_option maxHeartbeats 4000000 in
theorem ol_X4_tellCancel_2 {xs : List Int32} {d : Nat} {Q : QO → QS → Prop} {mb : MM} {rz : Int} {rm : MM}
  (hd : 4 ≤ d)
  (hQ : Ext mb rm → ∀ o S1, Rp S1 rm → q_out 9 o rz → Q o S1) :
  ∀ (n : Nat) {m : MM} {S : QS} {L : QL} {y1 : Int} {v0 : Value} {v1 : Value} , Ext mb m → fl_X4_tellCancel_2 n y1 m = some (rz, rm) → Rp S m → q_lo L 0 = some v0 → q_is 2 v0 16 → q_lo L 1 = some v1 → q_is 0 v1 y1 → Go xs d qM_X4_tellCancel 2 L [] S Q := by
  intro n
  induction n with
  | zero => intro m S L y1 v0 v1; intro E h R l0 f0 l1 f1; cases h
  | succ n ih0 =>
    intro m S L y1 v0 v1; intro E h R l0 f0 l1 f1
    have ih : ∀ mq : MM, Ext mb mq → ∀ {z1 : Int} {Sq : QS} {Lq : QL} {u0 : Value} {u1 : Value}, fl_X4_tellCancel_2 n z1 mq = some (rz, rm) → Rp Sq mq → q_lo Lq 0 = some u0 → q_is 2 u0 16 → q_lo Lq 1 = some u1 → q_is 0 u1 z1 → Go xs d qM_X4_tellCancel 2 Lq [] Sq Q := fun mq b => by intros; exact ih0 b ‹_› ‹_› ‹_› ‹_› ‹_› ‹_›
    unfold fl_X4_tellCancel_2 at h
    refine go_iload_n (n := 1) (by decide +kernel) l1 f1 ?_
    refine go_aload_n (n := 0) (by decide +kernel) l0 f0 ?_
    refine go_getf (x := 10) (ci := 5) (kf := 0) (fin := 1) (t := 2) (by decide +kernel) (by decide +kernel) (by decide +kernel) R f0 (fx_k (c := 5) R (by decide +kernel)) fun v_7 f_8 => ?_
    have f_9 := q_is_eq (b := 17) f_8 (fx_v R (by decide +kernel)).symm
    obtain ⟨x_13, e_14, h⟩ := lx_s h
    refine go_getf (x := 180) (ci := 9) (kf := 5) (fin := 0) (t := 0) (by decide +kernel) (by decide +kernel) (by decide +kernel) R f_9 (fx_k (c := 9) R (by decide +kernel)) fun v_10 f_11 => ?_
    have f_12 := q_is_eq f_11 e_14
    refine go_icmp (c := .ge) (o := 71) (t := 81) (P := ¬ (y1 < x_13)) (by decide +kernel) (by decide +kernel) f1 f_12 (Int.not_lt.symm) (fun hp_15 => ?_) (fun hp_15 => ?_)
    · have h := it_f hp_15 h
      cases h
      exact go_vret (by decide +kernel) rfl (hQ E _ _ R q_out_n)
    · have h := it_n hp_15 h
      refine go_aload_n (n := 0) (by decide +kernel) l0 f0 ?_
      obtain ⟨x_17, hc_16, h⟩ := bp_s h
      refine go_callV (x := 69) (mi := 33) (n := 0) (ci := 5) (as := []) (rest := []) (by decide +kernel) (by decide +kernel) rfl rfl (q_sum8 _ (Nat.le_of_ble_eq_true rfl)) R f0 (fx_k (c := 5) R (by decide +kernel)) (om_X4_goes (Nat.le_trans (by decide) hd) R f0 hc_16) (fun _ S_21 q_24 => ?_) (fun _ _ qq => kr_x qq)
      refine kr_z (by decide) q_24 fun v_19 f_20 R_22 E_23 => ?_
      refine go_if (c := .eq) (o := 64) (t := 81) (P := x_17 = 0) (by decide +kernel) (by decide +kernel) f_20 (Iff.rfl) (fun hp_25 => ?_) (fun hp_25 => ?_)
      · have h := it_t hp_25 h
        cases h
        exact go_vret (by decide +kernel) rfl (hQ E _ _ R_22 q_out_n)
      · have h := it_f hp_25 h
        refine go_aload_n (n := 0) (by decide +kernel) l0 f0 ?_
        refine go_getf (x := 10) (ci := 5) (kf := 0) (fin := 1) (t := 2) (by decide +kernel) (by decide +kernel) (by decide +kernel) R_22 f0 (fx_k (c := 5) R_22 (by decide +kernel)) fun v_26 f_27 => ?_
        have f_28 := q_is_eq (b := 17) f_27 (fx_v R_22 (by decide +kernel)).symm
        refine go_iload_n (n := 1) (by decide +kernel) l1 f1 ?_
        obtain ⟨x_30, hc_29, h⟩ := bp_s h
        refine go_callV (x := 183) (mi := 84) (n := 1) (ci := 9) (as := [v1]) (rest := []) (by decide +kernel) (by decide +kernel) rfl rfl (q_sum8 _ (Nat.le_of_ble_eq_true rfl)) R_22 f_28 (fx_k (c := 9) R_22 (by decide +kernel)) (om_X8_branchAt (Nat.le_trans (by decide) hd) R_22 f_28 f1 hc_29) (fun _ S_34 q_37 => ?_) (fun _ _ qq => kr_x qq)
        refine kr_z (by decide) q_37 fun v_32 f_33 R_35 E_36 => ?_
        refine go_astore_n (n := 2) (by decide +kernel) (by decide +kernel) f_33 fun L_38 l_39 kp_40 => ?_
        have l_41 := kp_40 0 _ l0 (by decide) (Or.inl (by decide))
        have l_42 := kp_40 1 _ l1 (by decide) (Or.inr (q_is_cat f1 (Or.inl rfl)))
        refine go_aload_n (n := 2) (by decide +kernel) l_39 f_33 ?_
        refine go_ifnonnull (o := 4) (t := 34) (by decide +kernel) (by decide +kernel) f_33 (fun hp_43 => ?_) (fun hp_43 => ?_)
        · have h := it_f hp_43 h
          refine go_aload_n (n := 2) (by decide +kernel) l_39 f_33 ?_
          obtain ⟨g_46, h⟩ := gd_s h
          obtain ⟨x_48, e_49, h⟩ := lx_s h
          refine go_getf (x := 186) (ci := 2) (kf := 5) (fin := 0) (t := 0) (by decide +kernel) (by decide +kernel) (by decide +kernel) R_35 f_33 g_46 fun v_44 f_45 => ?_
          have f_47 := q_is_eq f_45 e_49
          refine go_if (c := .le) (o := 11) (t := 49) (P := ¬ (0 < x_48)) (by decide +kernel) (by decide +kernel) f_47 (Int.not_lt.symm) (fun hp_50 => ?_) (fun hp_50 => ?_)
          · have h := it_f hp_50 h
            refine go_aload_n (n := 2) (by decide +kernel) l_39 f_33 ?_
            obtain ⟨x_52, hc_51, h⟩ := bp_s h
            refine go_callV (x := 192) (mi := 7) (n := 0) (ci := 2) (as := []) (rest := []) (by decide +kernel) (by decide +kernel) rfl rfl (q_sum8 _ (Nat.le_of_ble_eq_true rfl)) R_35 f_33 g_46 (om_X1_waitsForEvent (Nat.le_trans (by decide) hd) R_35 g_46 f_33 hc_51) (fun _ S_56 q_59 => ?_) (fun _ _ qq => kr_x qq)
            refine kr_z (by decide) q_59 fun v_54 f_55 R_57 E_58 => ?_
            refine go_if (c := .eq) (o := 17) (t := 70) (P := x_52 = 0) (by decide +kernel) (by decide +kernel) f_55 (Iff.rfl) (fun hp_60 => ?_) (fun hp_60 => ?_)
            · have h := it_t hp_60 h
              exact oj_X4_tellCancel_70 hd R_57 l_41 f0 l_42 f1 l_39 f_33 (fun mq b => ih mq (Ext.tr E b)) (fun b => hQ (Ext.tr E b)) h
            · have h := it_f hp_60 h
              refine go_aload_n (n := 0) (by decide +kernel) l_41 f0 ?_
              refine go_bipush (n := 11) (z := 11) (by decide +kernel) (by decide) fun v_82 f_83 => ?_
              refine go_aload_n (n := 2) (by decide +kernel) l_39 f_33 ?_
              obtain ⟨x_87, e_88, h⟩ := lx_s h
              refine go_getf (x := 195) (ci := 2) (kf := 8) (fin := 0) (t := 0) (by decide +kernel) (by decide +kernel) (by decide +kernel) R_57 f_33 g_46 fun v_84 f_85 => ?_
              have f_86 := q_is_eq f_85 e_88
              refine go_iconst (n := 0) (z := 0) (by decide +kernel) (by decide) fun v_89 f_90 => ?_
              obtain ⟨x_92, m_93, hc_91, h⟩ := bd_s h
              refine go_callV (x := 198) (mi := 44) (n := 3) (ci := 5) (as := [v_82, v_84, v_89]) (rest := []) (by decide +kernel) (by decide +kernel) rfl rfl (q_sum8 _ (Nat.le_of_ble_eq_true rfl)) R_57 f0 (fx_k (c := 5) R_57 (by decide +kernel)) (om_X4_command (Nat.le_trans (by decide) hd) R_57 f0 f_83 f_86 f_90 hc_91) (fun _ S_96 q_99 => ?_) (fun _ _ qq => kr_x qq)
              refine kr_z (by decide) q_99 fun v_94 f_95 R_97 E_98 => ?_
              have E_102 := Ext.tr E E_98
              refine go_if (c := .lt) (o := 8) (t := 75) (P := x_92 < 0) (by decide +kernel) (by decide +kernel) f_95 (Iff.rfl) (fun hp_103 => ?_) (fun hp_103 => ?_)
              · have h := it_t hp_103 h
                refine go_iinc (n := 1) (c := 1) (c' := 1) (by decide +kernel) (by decide +kernel) l_42 f1 (by decide) fun L_104 v_105 f_106 l_107 kp_108 => ?_
                obtain ⟨x_109, e_110, h⟩ := lx_s h
                have f_111 := q_is_eq f_106 e_110
                have l_112 := kp_108 0 _ l_41 (by decide) (Or.inr (q_is_cat f0 (Or.inr rfl)))
                refine go_goto (o := (-76)) (t := 2) (by decide +kernel) (by decide +kernel) ?_
                exact ih m_93 E_102 h R_97 l_112 f0 l_107 f_111
              · have h := it_f hp_103 h
                exact oj_X4_tellCancel_70 hd R_97 l_41 f0 l_42 f1 l_39 f_33 (fun mq b => ih mq (Ext.tr E_102 b)) (fun b => hQ (Ext.tr E_102 b)) h
          · have h := it_n hp_50 h
            refine go_aload_n (n := 2) (by decide +kernel) l_39 f_33 ?_
            refine go_iconst (n := 1) (z := 1) (by decide +kernel) (by decide) fun v_113 f_114 => ?_
            obtain ⟨m_115, e_116, h⟩ := up_s h
            refine go_putf (x := 189) (ci := 2) (kf := 6) (fin := 0) (zt := 1) (by decide +kernel) (by decide +kernel) (by decide) (by decide +kernel) (by decide) (Or.inl rfl) R_35 f_33 f_114 (fun _ => by decide) g_46 e_116 (fx_f (j := 6) R_35.2 g_46 (by decide +kernel)) fun S_117 R_118 E_119 => ?_
            have E_121 := Ext.tr E E_119
            refine go_goto (o := 29) (t := 75) (by decide +kernel) (by decide +kernel) ?_
            refine go_iinc (n := 1) (c := 1) (c' := 1) (by decide +kernel) (by decide +kernel) l_42 f1 (by decide) fun L_122 v_123 f_124 l_125 kp_126 => ?_
            obtain ⟨x_127, e_128, h⟩ := lx_s h
            have f_129 := q_is_eq f_124 e_128
            have l_130 := kp_126 0 _ l_41 (by decide) (Or.inr (q_is_cat f0 (Or.inr rfl)))
            refine go_goto (o := (-76)) (t := 2) (by decide +kernel) (by decide +kernel) ?_
            exact ih m_115 E_121 h R_118 l_130 f0 l_125 f_129
        · have h := it_n hp_43 h
          cases h
          exact go_vret (by decide +kernel) rfl (hQ E _ _ R_35 q_out_n)
noncomputable def fm_X4_tellCancel (m0 : MM) : Option (Int × MM) := fl_X4_tellCancel_2   BIG 0 m0
set_option maxHeartbeats 4000000 in
theorem om_X4_tellCancel {xs : List Int32} {d : Nat} {S : QS} {m0 : MM} {v0 : Value} {rz : Int} {rm : MM}
  (hd : 5 ≤ d) (R : Rp S m0) (f0 : q_is 2 v0 16)
  (h : fm_X4_tellCancel m0 = some (rz, rm)) : Mt xs d 41 [v0] S (Cr 9 m0 rm rz) := by
  obtain ⟨d, rfl⟩ : ∃ e, d = e + 1 := ⟨d - 1, by omega⟩
  have hd : 4 ≤ d := Nat.le_of_succ_le_succ hd
  refine Mt.of (M := qM_X4_tellCancel) rfl (by rw [sl_1 (q_is_cat f0 (Or.inr rfl)), sl_0]; decide) ?_
  rw [la_1 (q_is_cat f0 (Or.inr rfl)), la_0]
  obtain ⟨L, hL⟩ : ∃ L : QL, L = [(0, v0)] := ⟨_, rfl⟩
  rw [← hL]
  have l0 : q_lo L 0 = some v0 := by rw [hL]; rfl
  have hQ : Ext m0 rm → ∀ o S1, Rp S1 rm → q_out 9 o rz → (Cr 9 m0 rm rz) o S1 := fun a o S1 b e => ⟨b, a, e⟩
  unfold fm_X4_tellCancel at h
  refine go_iconst (n := 0) (z := 0) (by decide +kernel) (by decide) fun v_1 f_2 => ?_
  refine go_istore_n (n := 1) (by decide +kernel) (by decide +kernel) f_2 fun L_3 l_4 kp_5 => ?_
  have l_6 := kp_5 0 _ l0 (by decide) (Or.inr (q_is_cat f0 (Or.inr rfl)))
  refine ol_X4_tellCancel_2 hd   hQ BIG (Ext.rf _) h R l_6 f0 l_4 f_2
end DF4
