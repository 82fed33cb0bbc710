/-! Methods as functions (written by wip/whole/dec.py), 12: Jx4a65c_add_9ea2d, X10_draftBecomesVersion, X11_typeAt, X11_line, X11_deploy, X11_kindAt, X11_setKind, X11_setPolicy, X11_checkTenant, X11_checkValue, Jx4a65c_isEmpty_aae02, X11_addRun. -/
section DF12
noncomputable def fm_Jx4a65c_add_9ea2d (p0 p1 : Int) (m0 : MM) : Option (Int × MM) := lx (m0 p0 0) fun x_4 =>
up m0 p0 0 (w32 (x_4 + 1)) fun m_10 =>
lx (m_10 p0 1) fun x_21 =>
lx (m_10 p0 2) fun x_26 =>
bd (fm_Jx4a65c_add_72be8 p0 p1 x_21 x_26 m_10) fun x_29 m_30 =>
some (1, m_30)
set_option maxHeartbeats 4000000 in
theorem om_Jx4a65c_add_9ea2d {xs : List Int32} {d : Nat} {S : QS} {m0 : MM} {p0 p1 : Int} {v0 : Value} {v1 : Value} {rz : Int} {rm : MM}
  (hd : 8 ≤ d) (R : Rp S m0) (g0 : okc m0 p0 0) (f0 : q_is 2 v0 p0) (f1 : q_is 2 v1 p1)
  (h : fm_Jx4a65c_add_9ea2d p0 p1 m0 = some (rz, rm)) : Mt xs d 331 [v0, v1] S (Cr 0 m0 rm rz) := by
  obtain ⟨d, rfl⟩ : ∃ e, d = e + 1 := ⟨d - 1, by omega⟩
  have hd : 7 ≤ d := Nat.le_of_succ_le_succ hd
  refine Mt.of (M := qM_Jx4a65c_add_9ea2d) rfl (by rw [sl_1 (q_is_cat f0 (Or.inr rfl)), sl_1 (q_is_cat f1 (Or.inr rfl)), sl_0]; decide) ?_
  rw [la_1 (q_is_cat f0 (Or.inr rfl)), la_1 (q_is_cat f1 (Or.inr rfl)), la_0]
  obtain ⟨L, hL⟩ : ∃ L : QL, L = [(0, v0), (0 + 1, v1)] := ⟨_, rfl⟩
  rw [← hL]
  have l0 : q_lo L 0 = some v0 := by rw [hL]; rfl
  have l1 : q_lo L 1 = some v1 := by rw [hL]; rfl
  have hQ : Ext m0 rm → ∀ o S1, Rp S1 rm → q_out 0 o rz → (Cr 0 m0 rm rz) o S1 := fun a o S1 b e => ⟨b, a, e⟩
  unfold fm_Jx4a65c_add_9ea2d at h
  refine go_aload_n (n := 0) (by decide +kernel) l0 f0 ?_
  refine go_dup (by decide +kernel) f0 (Or.inr rfl) ?_
  obtain ⟨x_4, e_5, h⟩ := lx_s h
  refine go_getf (x := 63) (ci := 0) (kf := 0) (fin := 0) (t := 0) (by decide +kernel) (by decide +kernel) (by decide +kernel) R f0 g0 fun v_1 f_2 => ?_
  have f_3 := q_is_eq f_2 e_5
  refine go_iconst (n := 1) (z := 1) (by decide +kernel) (by decide) fun v_6 f_7 => ?_
  refine go_iadd (by decide +kernel) f_3 f_7 fun v_8 f_9 => ?_
  obtain ⟨m_10, e_11, h⟩ := up_s h
  refine go_putf (x := 63) (ci := 0) (kf := 0) (fin := 0) (zt := 0) (by decide +kernel) (by decide +kernel) (by decide) (by decide +kernel) (by decide) (Or.inl rfl) R f0 f_9 (fun hq => absurd hq (by decide)) g0 e_11 (fx_f (j := 0) R.2 g0 (by decide +kernel)) fun S_12 R_13 E_14 => ?_
  have E_16 := E_14
  refine go_aload_n (n := 0) (by decide +kernel) l0 f0 ?_
  refine go_aload_n (n := 1) (by decide +kernel) l1 f1 ?_
  refine go_aload_n (n := 0) (by decide +kernel) l0 f0 ?_
  have g_19 := Ext.ok E_14 g0
  obtain ⟨x_21, e_22, h⟩ := lx_s h
  refine go_getf (x := 9) (ci := 0) (kf := 1) (fin := 0) (t := 2) (by decide +kernel) (by decide +kernel) (by decide +kernel) R_13 f0 g_19 fun v_17 f_18 => ?_
  have f_20 := q_is_eq f_18 e_22
  refine go_aload_n (n := 0) (by decide +kernel) l0 f0 ?_
  obtain ⟨x_26, e_27, h⟩ := lx_s h
  refine go_getf (x := 48) (ci := 0) (kf := 2) (fin := 0) (t := 0) (by decide +kernel) (by decide +kernel) (by decide +kernel) R_13 f0 g_19 fun v_23 f_24 => ?_
  have f_25 := q_is_eq f_24 e_27
  obtain ⟨x_29, m_30, hc_28, h⟩ := bd_s h
  refine go_callV (x := 131) (mi := 330) (n := 3) (ci := 0) (as := [v1, v_17, v_23]) (rest := []) (by decide +kernel) (by decide +kernel) rfl rfl (q_sum8 _ (Nat.le_of_ble_eq_true rfl)) R_13 f0 g_19 (om_Jx4a65c_add_72be8 (Nat.le_trans (by decide) hd) R_13 g_19 f0 f1 f_20 f_25 hc_28) (fun _ S_33 q_36 => ?_) (fun _ _ qq => kr_x qq)
  refine kr_v q_36 fun R_34 E_35 => ?_
  have E_39 := Ext.tr E_16 E_35
  refine go_iconst (n := 1) (z := 1) (by decide +kernel) (by decide) fun v_40 f_41 => ?_
  cases h
  exact go_iret (by decide +kernel) rfl (Or.inr ⟨rfl, by decide⟩) f_41 (hQ E_39 _ _ R_34 (q_out_v (by decide) f_41))
noncomputable def fm_X10_draftBecomesVersion (p0 : Int) (m0 : MM) : Option (Int × MM) := lx (m0 p0 0) fun x_4 =>
lx (m0 p0 1) fun x_9 =>
gd (okc m0 x_4 0) <| bd (fm_Jx4a65c_add_9ea2d x_4 x_9 m0) fun x_13 m_14 =>
nw m_14 6 3 fun x_24 m_25 =>
bd (fm_X5_init x_24 m_25) fun x_38 m_39 =>
up m_39 p0 1 x_24 fun m_50 =>
some (0, m_50)
set_option maxHeartbeats 4000000 in
theorem om_X10_draftBecomesVersion {xs : List Int32} {d : Nat} {S : QS} {m0 : MM} {p0 : Int} {v0 : Value} {rz : Int} {rm : MM}
  (hd : 9 ≤ d) (R : Rp S m0) (g0 : okc m0 p0 11) (f0 : q_is 2 v0 p0)
  (h : fm_X10_draftBecomesVersion p0 m0 = some (rz, rm)) : Mt xs d 98 [v0] S (Cr 9 m0 rm rz) := by
  obtain ⟨d, rfl⟩ : ∃ e, d = e + 1 := ⟨d - 1, by omega⟩
  have hd : 8 ≤ d := Nat.le_of_succ_le_succ hd
  refine Mt.of (M := qM_X10_draftBecomesVersion) rfl (by rw [sl_1 (q_is_cat f0 (Or.inr rfl)), sl_0]; decide) ?_
  rw [la_1 (q_is_cat f0 (Or.inr rfl)), la_0]
  obtain ⟨L, hL⟩ : ∃ L : QL, L = [(0, v0)] := ⟨_, rfl⟩
  rw [← hL]
  have l0 : q_lo L 0 = some v0 := by rw [hL]; rfl
  have hQ : Ext m0 rm → ∀ o S1, Rp S1 rm → q_out 9 o rz → (Cr 9 m0 rm rz) o S1 := fun a o S1 b e => ⟨b, a, e⟩
  unfold fm_X10_draftBecomesVersion at h
  refine go_aload_n (n := 0) (by decide +kernel) l0 f0 ?_
  obtain ⟨x_4, e_5, h⟩ := lx_s h
  refine go_getf (x := 10) (ci := 11) (kf := 0) (fin := 1) (t := 2) (by decide +kernel) (by decide +kernel) (by decide +kernel) R f0 g0 fun v_1 f_2 => ?_
  have f_3 := q_is_eq f_2 e_5
  refine go_aload_n (n := 0) (by decide +kernel) l0 f0 ?_
  obtain ⟨x_9, e_10, h⟩ := lx_s h
  refine go_getf (x := 19) (ci := 11) (kf := 1) (fin := 0) (t := 2) (by decide +kernel) (by decide +kernel) (by decide +kernel) R f0 g0 fun v_6 f_7 => ?_
  have f_8 := q_is_eq f_7 e_10
  obtain ⟨g_11, h⟩ := gd_s h
  obtain ⟨x_13, m_14, hc_12, h⟩ := bd_s h
  refine go_callV (x := 36) (mi := 331) (n := 1) (ci := 0) (as := [v_6]) (rest := []) (by decide +kernel) (by decide +kernel) rfl rfl (q_sum8 _ (Nat.le_of_ble_eq_true rfl)) R f_3 g_11 (om_Jx4a65c_add_9ea2d (Nat.le_trans (by decide) hd) R g_11 f_3 f_8 hc_12) (fun _ S_17 q_20 => ?_) (fun _ _ qq => kr_x qq)
  refine kr_z (by decide) q_20 fun v_15 f_16 R_18 E_19 => ?_
  have E_23 := E_19
  refine go_pop (by decide +kernel) f_16 (Or.inl rfl) ?_
  refine go_aload_n (n := 0) (by decide +kernel) l0 f0 ?_
  obtain ⟨x_24, m_25, e_26, e_27, h⟩ := nw_s h
  have g_33 := okc_nw (c := 6) R_18 e_26 e_27
  refine go_new (x := 16) (ci := 6) (n := 3) (b := 0) (by decide +kernel) (by decide +kernel) R_18 e_26 e_27 fun v_28 S_30 f_29 R_31 E_32 => ?_
  have E_36 := Ext.tr E_23 E_32
  refine go_dup (by decide +kernel) f_29 (Or.inr rfl) ?_
  obtain ⟨x_38, m_39, hc_37, h⟩ := bd_s h
  refine go_callI (x := 18) (mi := 57) (n := 0) (b := 0) (tg := 15) (as := []) (rest := [v_28, v0]) (by decide +kernel) (by decide +kernel) (by decide) rfl rfl (q_sum8 _ (Nat.le_of_ble_eq_true rfl)) f_29 (okc_ne g_33) (om_X5_init (Nat.le_trans (by decide) hd) R_31 g_33 f_29 hc_37) (fun _ S_42 q_45 => ?_) (fun _ _ qq => kr_x qq)
  refine kr_v q_45 fun R_43 E_44 => ?_
  have E_48 := Ext.tr E_36 E_44
  have g_49 := Ext.ok (Ext.tr (Ext.tr E_19 E_32) E_44) g0
  obtain ⟨m_50, e_51, h⟩ := up_s h
  refine go_putf (x := 19) (ci := 11) (kf := 1) (fin := 0) (zt := 2) (by decide +kernel) (by decide +kernel) (by decide) (by decide +kernel) (by decide) (Or.inl rfl) R_43 f0 f_29 (fun hq => absurd hq (by decide)) g_49 e_51 (fx_f (j := 1) R_43.2 g_49 (by decide +kernel)) fun S_52 R_53 E_54 => ?_
  have E_56 := Ext.tr E_48 E_54
  cases h
  exact go_vret (by decide +kernel) rfl (hQ E_56 _ _ R_53 q_out_n)
noncomputable def fm_X11_typeAt (p1 : Int) (m0 : MM) : Option ((Int ⊕ Nat) × MM) := if p1 < 0 then
some (.inr 0, mthr m0)
else
if p1 < 4 then
gd (0 ≤ p1 ∧ p1 < 4) <| lx (m0 5 p1) fun x_16 =>
some (.inl x_16, m0)
else
some (.inr 0, mthr m0)
set_option maxHeartbeats 4000000 in
theorem om_X11_typeAt {xs : List Int32} {d : Nat} {S : QS} {m0 : MM} {p1 : Int} {v0 : Value} {v1 : Value} {rr : Int ⊕ Nat} {rm : MM}
  (hd : 1 ≤ d) (R : Rp S m0) (f0 : q_is 2 v0 4) (f1 : q_is 0 v1 p1)
  (h : fm_X11_typeAt p1 m0 = some (rr, rm)) : Mt xs d 137 [v0, v1] S (Cx 2 m0 rm rr) := by
  obtain ⟨d, rfl⟩ : ∃ e, d = e + 1 := ⟨d - 1, by omega⟩
  have hd : 0 ≤ d := Nat.le_of_succ_le_succ hd
  refine Mt.of (M := qM_X11_typeAt) rfl (by rw [sl_1 (q_is_cat f0 (Or.inr rfl)), sl_1 (q_is_cat f1 (Or.inl rfl)), sl_0]; decide) ?_
  rw [la_1 (q_is_cat f0 (Or.inr rfl)), la_1 (q_is_cat f1 (Or.inl rfl)), la_0]
  obtain ⟨L, hL⟩ : ∃ L : QL, L = [(0, v0), (0 + 1, v1)] := ⟨_, rfl⟩
  rw [← hL]
  have l0 : q_lo L 0 = some v0 := by rw [hL]; rfl
  have l1 : q_lo L 1 = some v1 := by rw [hL]; rfl
  have hQ : Ext m0 rm → ∀ o S1, Rp S1 rm → q_oux 2 o rr → (Cx 2 m0 rm rr) o S1 := fun a o S1 b e => ⟨b, a, e⟩
  unfold fm_X11_typeAt at h
  refine go_iload_n (n := 1) (by decide +kernel) l1 f1 ?_
  refine go_if (c := .lt) (o := 12) (t := 13) (P := p1 < 0) (by decide +kernel) (by decide +kernel) f1 (Iff.rfl) (fun hp_1 => ?_) (fun hp_1 => ?_)
  · have h := it_t hp_1 h
    cases h
    exact go_thr (x := 255) (e := 0) (ic := 259) (b := 0) (by decide +kernel) (by decide +kernel) (by decide +kernel) R rfl fun Sq Rq Eq => hQ Eq _ _ Rq rfl
  · have h := it_f hp_1 h
    refine go_iload_n (n := 1) (by decide +kernel) l1 f1 ?_
    refine go_aload_n (n := 0) (by decide +kernel) l0 f0 ?_
    refine go_getf (x := 11) (ci := 12) (kf := 0) (fin := 1) (t := 2) (by decide +kernel) (by decide +kernel) (by decide +kernel) R f0 (fx_k (c := 12) R (by decide +kernel)) fun v_2 f_3 => ?_
    have f_4 := q_is_eq (b := 5) f_3 (fx_v R (by decide +kernel)).symm
    refine go_alen (by decide +kernel) R f_4 (okl_of (fx_k (c := 106) R (by decide +kernel)) (by decide)) fun v_5 f_6 => ?_
    have f_7 := q_is_eq (b := 4) f_6 (by rw [fx_l R (ln := 4) (by decide +kernel)]; decide)
    refine go_icmp (c := .lt) (o := 14) (t := 24) (P := p1 < 4) (by decide +kernel) (by decide +kernel) f1 f_7 (Iff.rfl) (fun hp_8 => ?_) (fun hp_8 => ?_)
    · have h := it_t hp_8 h
      refine go_aload_n (n := 0) (by decide +kernel) l0 f0 ?_
      refine go_getf (x := 11) (ci := 12) (kf := 0) (fin := 1) (t := 2) (by decide +kernel) (by decide +kernel) (by decide +kernel) R f0 (fx_k (c := 12) R (by decide +kernel)) fun v_9 f_10 => ?_
      have f_11 := q_is_eq (b := 5) f_10 (fx_v R (by decide +kernel)).symm
      refine go_iload_n (n := 1) (by decide +kernel) l1 f1 ?_
      obtain ⟨g_14, h⟩ := gd_s h
      obtain ⟨x_16, e_17, h⟩ := lx_s h
      refine go_aald (kd := 106) (by decide +kernel) (by decide) R f_11 f1 (fx_k (c := 106) R (by decide +kernel)) (fx_x (a := 5) (ln := 4) R (by decide +kernel) g_14) fun v_12 f_13 => ?_
      have f_15 := q_is_eq f_13 e_17
      cases h
      exact go_aret (by decide +kernel) rfl rfl f_15 (hQ (Ext.rf _) _ _ R (q_out_v (by decide) f_15))
    · have h := it_f hp_8 h
      cases h
      exact go_thr (x := 255) (e := 0) (ic := 259) (b := 0) (by decide +kernel) (by decide +kernel) (by decide +kernel) R rfl fun Sq Rq Eq => hQ Eq _ _ Rq rfl
noncomputable def fj_X11_line_53 (y2 y3 y4 y5 s0 : Int) (m : MM) : Option ((Int ⊕ Nat) × MM) := if y3 < s0 then
some (.inr 1, mthr m)
else
gd (0 ≤ y2 ∧ y2 < 24) <| if tA y2 < y3 then
some (.inr 1, mthr m)
else
if y4 < 0 then
some (.inr 1, mthr m)
else
if tB y2 < y4 then
some (.inr 1, mthr m)
else
gd (okc m y5 11) <| lx (m y5 1) fun x_66 =>
gd (okc m x_66 6) <| lx (m x_66 2) fun x_72 =>
if x_72 < 24 then
bp (fm_X10_packed y2 y3 y4 m) fun x_81 =>
bd (fm_X5_add x_66 x_81 m) fun x_92 m_93 =>
lx (m_93 y5 1) fun x_107 =>
gd (okc m_93 x_107 6) <| lx (m_93 x_107 2) fun x_113 =>
some (.inl x_113, m_93)
else
some (.inr 2, mthr m)
set_option maxHeartbeats 4000000 in
theorem oj_X11_line_53 {xs : List Int32} {d : Nat} {S : QS} {L : QL} {Q : QO → QS → Prop} {m : MM} {y2 y3 y4 y5 s0 : Int} {v2 : Value} {v3 : Value} {v4 : Value} {v5 : Value} {w0 : Value}  {rr : Int ⊕ Nat} {rm : MM}
  (hd : 1 ≤ d) (R : Rp S m) (l2 : q_lo L 2 = some v2) (f2 : q_is 0 v2 y2) (l3 : q_lo L 3 = some v3) (f3 : q_is 0 v3 y3) (l4 : q_lo L 4 = some v4) (f4 : q_is 0 v4 y4) (l5 : q_lo L 5 = some v5) (f5 : q_is 2 v5 y5) (fs0 : q_is 0 w0 s0)
  (hQ : Ext m rm → ∀ o S1, Rp S1 rm → q_oux 0 o rr → Q o S1)
  (h : fj_X11_line_53 y2 y3 y4 y5 s0 m = some (rr, rm)) : Go xs d qM_X11_line 53 L [w0] S Q := by
  unfold fj_X11_line_53 at h
  refine go_istore (n := 6) (by decide +kernel) (by decide +kernel) fs0 fun L_42 l_43 kp_44 => ?_
  have l_45 := kp_44 2 _ l2 (by decide) (Or.inl (by decide))
  have l_46 := kp_44 3 _ l3 (by decide) (Or.inl (by decide))
  have l_47 := kp_44 4 _ l4 (by decide) (Or.inl (by decide))
  have l_48 := kp_44 5 _ l5 (by decide) (Or.inr (q_is_cat f5 (Or.inr rfl)))
  refine go_iload_n (n := 3) (by decide +kernel) l_46 f3 ?_
  refine go_iload (n := 6) (by decide +kernel) l_43 fs0 ?_
  refine go_icmp (c := .lt) (o := 27) (t := 85) (P := y3 < s0) (by decide +kernel) (by decide +kernel) f3 fs0 (Iff.rfl) (fun hp_49 => ?_) (fun hp_49 => ?_)
  · have h := it_t hp_49 h
    cases h
    exact go_thr (x := 96) (e := 1) (ic := 100) (b := 0) (by decide +kernel) (by decide +kernel) (by decide +kernel) R rfl fun Sq Rq Eq => hQ Eq _ _ Rq rfl
  · have h := it_f hp_49 h
    refine go_iload_n (n := 3) (by decide +kernel) l_46 f3 ?_
    refine go_getst (x := 90) (n := 2) (a := 0) (b := 0) (z := 2) (by decide +kernel) (by decide +kernel) (by decide) (by decide) fun v_50 f_51 => ?_
    refine go_iload_n (n := 2) (by decide +kernel) l_45 f2 ?_
    obtain ⟨g_54, h⟩ := gd_s h
    refine go_ialA (by decide +kernel) f_51 f2 g_54 fun v_52 f_53 => ?_
    refine go_icmp (c := .gt) (o := 18) (t := 85) (P := tA y2 < y3) (by decide +kernel) (by decide +kernel) f3 f_53 (Iff.rfl) (fun hp_55 => ?_) (fun hp_55 => ?_)
    · have h := it_t hp_55 h
      cases h
      exact go_thr (x := 96) (e := 1) (ic := 100) (b := 0) (by decide +kernel) (by decide +kernel) (by decide +kernel) R rfl fun Sq Rq Eq => hQ Eq _ _ Rq rfl
    · have h := it_f hp_55 h
      refine go_iload (n := 4) (by decide +kernel) l_47 f4 ?_
      refine go_if (c := .lt) (o := 13) (t := 85) (P := y4 < 0) (by decide +kernel) (by decide +kernel) f4 (Iff.rfl) (fun hp_56 => ?_) (fun hp_56 => ?_)
      · have h := it_t hp_56 h
        cases h
        exact go_thr (x := 96) (e := 1) (ic := 100) (b := 0) (by decide +kernel) (by decide +kernel) (by decide +kernel) R rfl fun Sq Rq Eq => hQ Eq _ _ Rq rfl
      · have h := it_f hp_56 h
        refine go_iload (n := 4) (by decide +kernel) l_47 f4 ?_
        refine go_getst (x := 93) (n := 3) (a := 0) (b := 0) (z := 3) (by decide +kernel) (by decide +kernel) (by decide) (by decide) fun v_57 f_58 => ?_
        refine go_iload_n (n := 2) (by decide +kernel) l_45 f2 ?_
        refine go_ialB (by decide +kernel) f_58 f2 g_54 fun v_59 f_60 => ?_
        refine go_icmp (c := .le) (o := 13) (t := 95) (P := ¬ (tB y2 < y4)) (by decide +kernel) (by decide +kernel) f4 f_60 (Int.not_lt.symm) (fun hp_61 => ?_) (fun hp_61 => ?_)
        · have h := it_f hp_61 h
          refine go_aload (n := 5) (by decide +kernel) l_48 f5 ?_
          obtain ⟨g_64, h⟩ := gd_s h
          obtain ⟨x_66, e_67, h⟩ := lx_s h
          refine go_getf (x := 105) (ci := 11) (kf := 1) (fin := 0) (t := 2) (by decide +kernel) (by decide +kernel) (by decide +kernel) R f5 g_64 fun v_62 f_63 => ?_
          have f_65 := q_is_eq f_63 e_67
          obtain ⟨g_70, h⟩ := gd_s h
          obtain ⟨x_72, e_73, h⟩ := lx_s h
          refine go_getf (x := 108) (ci := 6) (kf := 2) (fin := 0) (t := 0) (by decide +kernel) (by decide +kernel) (by decide +kernel) R f_65 g_70 fun v_68 f_69 => ?_
          have f_71 := q_is_eq f_69 e_73
          refine go_bipush (n := 24) (z := 24) (by decide +kernel) (by decide) fun v_74 f_75 => ?_
          refine go_icmp (c := .lt) (o := 13) (t := 118) (P := x_72 < 24) (by decide +kernel) (by decide +kernel) f_71 f_75 (Iff.rfl) (fun hp_76 => ?_) (fun hp_76 => ?_)
          · have h := it_t hp_76 h
            refine go_aload (n := 5) (by decide +kernel) l_48 f5 ?_
            refine go_getf (x := 105) (ci := 11) (kf := 1) (fin := 0) (t := 2) (by decide +kernel) (by decide +kernel) (by decide +kernel) R f5 g_64 fun v_77 f_78 => ?_
            have f_79 := q_is_eq f_78 e_67
            refine go_iload_n (n := 2) (by decide +kernel) l_45 f2 ?_
            refine go_iload_n (n := 3) (by decide +kernel) l_46 f3 ?_
            refine go_iload (n := 4) (by decide +kernel) l_47 f4 ?_
            obtain ⟨x_81, hc_80, h⟩ := bp_s h
            refine go_callS (x := 116) (mi := 96) (n := 3) (b := 0) (as := [v2, v3, v4]) (rest := [v_77]) (by decide +kernel) (by decide +kernel) rfl rfl (q_sum8 _ (Nat.le_of_ble_eq_true rfl)) (om_X10_packed (Nat.le_trans (by decide) hd) R f2 f3 f4 hc_80) (fun _ S_85 q_88 => ?_) (fun _ _ qq => kr_x qq)
            refine kr_z (by decide) q_88 fun v_83 f_84 R_86 E_87 => ?_
            refine go_i2l (by decide +kernel) f_84 fun v_89 f_90 => ?_
            obtain ⟨x_92, m_93, hc_91, h⟩ := bd_s h
            refine go_callV (x := 120) (mi := 60) (n := 1) (ci := 6) (as := [v_89]) (rest := []) (by decide +kernel) (by decide +kernel) rfl rfl (q_sum8 _ (Nat.le_of_ble_eq_true rfl)) R_86 f_79 g_70 (om_X5_add (Nat.le_trans (by decide) hd) R_86 g_70 f_79 f_90 hc_91) (fun _ S_96 q_99 => ?_) (fun _ _ qq => kr_x qq)
            refine kr_v q_99 fun R_97 E_98 => ?_
            have E_102 := E_98
            refine go_aload (n := 5) (by decide +kernel) l_48 f5 ?_
            have g_105 := Ext.ok E_98 g_64
            obtain ⟨x_107, e_108, h⟩ := lx_s h
            refine go_getf (x := 105) (ci := 11) (kf := 1) (fin := 0) (t := 2) (by decide +kernel) (by decide +kernel) (by decide +kernel) R_97 f5 g_105 fun v_103 f_104 => ?_
            have f_106 := q_is_eq f_104 e_108
            obtain ⟨g_111, h⟩ := gd_s h
            obtain ⟨x_113, e_114, h⟩ := lx_s h
            refine go_getf (x := 108) (ci := 6) (kf := 2) (fin := 0) (t := 0) (by decide +kernel) (by decide +kernel) (by decide +kernel) R_97 f_106 g_111 fun v_109 f_110 => ?_
            have f_112 := q_is_eq f_110 e_114
            cases h
            exact go_iret (by decide +kernel) rfl (Or.inl rfl) f_112 (hQ E_102 _ _ R_97 (q_out_v (by decide) f_112))
          · have h := it_f hp_76 h
            cases h
            exact go_thr (x := 111) (e := 2) (ic := 115) (b := 0) (by decide +kernel) (by decide +kernel) (by decide +kernel) R rfl fun Sq Rq Eq => hQ Eq _ _ Rq rfl
        · have h := it_n hp_61 h
          cases h
          exact go_thr (x := 96) (e := 1) (ic := 100) (b := 0) (by decide +kernel) (by decide +kernel) (by decide +kernel) R rfl fun Sq Rq Eq => hQ Eq _ _ Rq rfl
noncomputable def fm_X11_line (p1 p2 p3 p4 : Int) (m0 : MM) : Option ((Int ⊕ Nat) × MM) := bx (fm_X11_typeAt p1 m0) (fun q_10 m_3 => some (.inr q_10, m_3)) fun x_2 m_3 =>
if p2 < 0 then
some (.inr 1, mthr m_3)
else
if 23 < p2 then
some (.inr 1, mthr m_3)
else
if p2 < 24 then
if p2 < 24 then
if p2 = 3 then
fj_X11_line_53 p2 p3 p4 x_2 1 m_3
else
fj_X11_line_53 p2 p3 p4 x_2 0 m_3
else
some (.inr 1, mthr m_3)
else
some (.inr 1, mthr m_3)
set_option maxHeartbeats 4000000 in
theorem om_X11_line {xs : List Int32} {d : Nat} {S : QS} {m0 : MM} {p1 p2 p3 p4 : Int} {v0 : Value} {v1 : Value} {v2 : Value} {v3 : Value} {v4 : Value} {rr : Int ⊕ Nat} {rm : MM}
  (hd : 2 ≤ d) (R : Rp S m0) (f0 : q_is 2 v0 4) (f1 : q_is 0 v1 p1) (f2 : q_is 0 v2 p2) (f3 : q_is 0 v3 p3) (f4 : q_is 0 v4 p4)
  (h : fm_X11_line p1 p2 p3 p4 m0 = some (rr, rm)) : Mt xs d 100 [v0, v1, v2, v3, v4] S (Cx 0 m0 rm rr) := by
  obtain ⟨d, rfl⟩ : ∃ e, d = e + 1 := ⟨d - 1, by omega⟩
  have hd : 1 ≤ d := Nat.le_of_succ_le_succ hd
  refine Mt.of (M := qM_X11_line) rfl (by rw [sl_1 (q_is_cat f0 (Or.inr rfl)), sl_1 (q_is_cat f1 (Or.inl rfl)), sl_1 (q_is_cat f2 (Or.inl rfl)), sl_1 (q_is_cat f3 (Or.inl rfl)), sl_1 (q_is_cat f4 (Or.inl rfl)), sl_0]; decide) ?_
  rw [la_1 (q_is_cat f0 (Or.inr rfl)), la_1 (q_is_cat f1 (Or.inl rfl)), la_1 (q_is_cat f2 (Or.inl rfl)), la_1 (q_is_cat f3 (Or.inl rfl)), la_1 (q_is_cat f4 (Or.inl rfl)), la_0]
  obtain ⟨L, hL⟩ : ∃ L : QL, L = [(0, v0), (0 + 1, v1), (0 + 1 + 1, v2), (0 + 1 + 1 + 1, v3), (0 + 1 + 1 + 1 + 1, v4)] := ⟨_, rfl⟩
  rw [← hL]
  have l0 : q_lo L 0 = some v0 := by rw [hL]; rfl
  have l1 : q_lo L 1 = some v1 := by rw [hL]; rfl
  have l2 : q_lo L 2 = some v2 := by rw [hL]; rfl
  have l3 : q_lo L 3 = some v3 := by rw [hL]; rfl
  have l4 : q_lo L 4 = some v4 := by rw [hL]; rfl
  have hQ : Ext m0 rm → ∀ o S1, Rp S1 rm → q_oux 0 o rr → (Cx 0 m0 rm rr) o S1 := fun a o S1 b e => ⟨b, a, e⟩
  unfold fm_X11_line at h
  refine go_aload_n (n := 0) (by decide +kernel) l0 f0 ?_
  refine go_iload_n (n := 1) (by decide +kernel) l1 f1 ?_
  obtain ⟨rr5, m_3, hc_1, h⟩ := bx_s h
  rcases h with ⟨q_10, rfl, h⟩ | ⟨x_2, rfl, h⟩
  · cases h
    exact go_callV (x := 86) (mi := 137) (n := 1) (ci := 12) (as := [v1]) (rest := []) (by decide +kernel) (by decide +kernel) rfl rfl (q_sum8 _ (Nat.le_of_ble_eq_true rfl)) R f0 (fx_k (c := 12) R (by decide +kernel)) (om_X11_typeAt (Nat.le_trans (by decide) hd) R f0 f1 hc_1) (fun _ _ qq => kx_lx qq) (fun _ _ qq => by
      obtain ⟨rfl, Rq, Eq⟩ := kx_e qq
      exact Or.inl ⟨rfl, hQ Eq _ _ Rq rfl⟩)
  refine go_callV (x := 86) (mi := 137) (n := 1) (ci := 12) (as := [v1]) (rest := []) (by decide +kernel) (by decide +kernel) rfl rfl (q_sum8 _ (Nat.le_of_ble_eq_true rfl)) R f0 (fx_k (c := 12) R (by decide +kernel)) (om_X11_typeAt (Nat.le_trans (by decide) hd) R f0 f1 hc_1) (fun _ S_6 q_9 => ?_) (fun _ _ qq => kr_x (kx_l qq))
  have q_9 := kx_l q_9
  refine kr_z (by decide) q_9 fun v_4 f_5 R_7 E_8 => ?_
  have E_16 := E_8
  refine go_astore (n := 5) (by decide +kernel) (by decide +kernel) f_5 fun L_17 l_18 kp_19 => ?_
  have l_20 := kp_19 2 _ l2 (by decide) (Or.inl (by decide))
  have l_21 := kp_19 3 _ l3 (by decide) (Or.inl (by decide))
  have l_22 := kp_19 4 _ l4 (by decide) (Or.inr (q_is_cat f4 (Or.inl rfl)))
  refine go_iload_n (n := 2) (by decide +kernel) l_20 f2 ?_
  refine go_if (c := .lt) (o := 25) (t := 33) (P := p2 < 0) (by decide +kernel) (by decide +kernel) f2 (Iff.rfl) (fun hp_23 => ?_) (fun hp_23 => ?_)
  · have h := it_t hp_23 h
    cases h
    exact go_thr (x := 96) (e := 1) (ic := 100) (b := 0) (by decide +kernel) (by decide +kernel) (by decide +kernel) R_7 rfl fun Sq Rq Eq => hQ (Ext.tr E_16 Eq) _ _ Rq rfl
  · have h := it_f hp_23 h
    refine go_iload_n (n := 2) (by decide +kernel) l_20 f2 ?_
    refine go_bipush (n := 23) (z := 23) (by decide +kernel) (by decide) fun v_24 f_25 => ?_
    refine go_icmp (c := .gt) (o := 19) (t := 33) (P := 23 < p2) (by decide +kernel) (by decide +kernel) f2 f_25 (Iff.rfl) (fun hp_26 => ?_) (fun hp_26 => ?_)
    · have h := it_t hp_26 h
      cases h
      exact go_thr (x := 96) (e := 1) (ic := 100) (b := 0) (by decide +kernel) (by decide +kernel) (by decide +kernel) R_7 rfl fun Sq Rq Eq => hQ (Ext.tr E_16 Eq) _ _ Rq rfl
    · have h := it_f hp_26 h
      refine go_iload_n (n := 2) (by decide +kernel) l_20 f2 ?_
      refine go_getst (x := 90) (n := 2) (a := 0) (b := 0) (z := 2) (by decide +kernel) (by decide +kernel) (by decide) (by decide) fun v_27 f_28 => ?_
      refine go_alen23 (by decide +kernel) f_28 (by decide) fun v_29 f_30 => ?_
      refine go_icmp (c := .ge) (o := 11) (t := 33) (P := ¬ (p2 < 24)) (by decide +kernel) (by decide +kernel) f2 f_30 (Int.not_lt.symm) (fun hp_31 => ?_) (fun hp_31 => ?_)
      · have h := it_f hp_31 h
        cases h
        exact go_thr (x := 96) (e := 1) (ic := 100) (b := 0) (by decide +kernel) (by decide +kernel) (by decide +kernel) R_7 rfl fun Sq Rq Eq => hQ (Ext.tr E_16 Eq) _ _ Rq rfl
      · have h := it_n hp_31 h
        refine go_iload_n (n := 2) (by decide +kernel) l_20 f2 ?_
        refine go_getst (x := 93) (n := 3) (a := 0) (b := 0) (z := 3) (by decide +kernel) (by decide +kernel) (by decide) (by decide) fun v_32 f_33 => ?_
        refine go_alen23 (by decide +kernel) f_33 (by decide) fun v_34 f_35 => ?_
        refine go_icmp (c := .lt) (o := 13) (t := 43) (P := p2 < 24) (by decide +kernel) (by decide +kernel) f2 f_35 (Iff.rfl) (fun hp_36 => ?_) (fun hp_36 => ?_)
        · have h := it_t hp_36 h
          refine go_iload_n (n := 2) (by decide +kernel) l_20 f2 ?_
          refine go_iconst (n := 3) (z := 3) (by decide +kernel) (by decide) fun v_37 f_38 => ?_
          refine go_icmp (c := .ne) (o := 7) (t := 52) (P := ¬ (p2 = 3)) (by decide +kernel) (by decide +kernel) f2 f_38 (Iff.rfl) (fun hp_39 => ?_) (fun hp_39 => ?_)
          · have h := it_f hp_39 h
            refine go_iconst (n := 0) (z := 0) (by decide +kernel) (by decide) fun v_40 f_41 => ?_
            exact oj_X11_line_53 hd R_7 l_20 f2 l_21 f3 l_22 f4 l_18 f_5 f_41 (fun b => hQ (Ext.tr E_16 b)) h
          · have h := it_n hp_39 h
            refine go_iconst (n := 1) (z := 1) (by decide +kernel) (by decide) fun v_115 f_116 => ?_
            refine go_goto (o := 4) (t := 53) (by decide +kernel) (by decide +kernel) ?_
            exact oj_X11_line_53 hd R_7 l_20 f2 l_21 f3 l_22 f4 l_18 f_5 f_116 (fun b => hQ (Ext.tr E_16 b)) h
        · have h := it_f hp_36 h
          cases h
          exact go_thr (x := 96) (e := 1) (ic := 100) (b := 0) (by decide +kernel) (by decide +kernel) (by decide +kernel) R_7 rfl fun Sq Rq Eq => hQ (Ext.tr E_16 Eq) _ _ Rq rfl
noncomputable def fm_X11_deploy (p1 : Int) (m0 : MM) : Option ((Int ⊕ Nat) × MM) := bx (fm_X11_typeAt p1 m0) (fun q_10 m_3 => some (.inr q_10, m_3)) fun x_2 m_3 =>
gd (okc m_3 x_2 11) <| lx (m_3 x_2 1) fun x_24 =>
gd (okc m_3 x_24 6) <| lx (m_3 x_24 2) fun x_30 =>
if x_30 = 0 then
some (.inr 2, mthr m_3)
else
lx (m_3 x_2 0) fun x_36 =>
gd (okc m_3 x_36 0) <| bp (fm_Jx4a65c_size_8abf5 x_36 m_3) fun x_40 =>
if x_40 < 4 then
bd (fm_X10_draftBecomesVersion x_2 m_3) fun x_52 m_53 =>
lx (m_53 x_2 0) fun x_67 =>
gd (okc m_53 x_67 0) <| bp (fm_Jx4a65c_size_8abf5 x_67 m_53) fun x_71 =>
some (.inl (w32 (x_71 - 1)), m_53)
else
some (.inr 2, mthr m_3)
set_option maxHeartbeats 4000000 in
theorem om_X11_deploy {xs : List Int32} {d : Nat} {S : QS} {m0 : MM} {p1 : Int} {v0 : Value} {v1 : Value} {rr : Int ⊕ Nat} {rm : MM}
  (hd : 10 ≤ d) (R : Rp S m0) (f0 : q_is 2 v0 4) (f1 : q_is 0 v1 p1)
  (h : fm_X11_deploy p1 m0 = some (rr, rm)) : Mt xs d 101 [v0, v1] S (Cx 0 m0 rm rr) := by
  obtain ⟨d, rfl⟩ : ∃ e, d = e + 1 := ⟨d - 1, by omega⟩
  have hd : 9 ≤ d := Nat.le_of_succ_le_succ hd
  refine Mt.of (M := qM_X11_deploy) rfl (by rw [sl_1 (q_is_cat f0 (Or.inr rfl)), sl_1 (q_is_cat f1 (Or.inl rfl)), sl_0]; decide) ?_
  rw [la_1 (q_is_cat f0 (Or.inr rfl)), la_1 (q_is_cat f1 (Or.inl rfl)), la_0]
  obtain ⟨L, hL⟩ : ∃ L : QL, L = [(0, v0), (0 + 1, v1)] := ⟨_, rfl⟩
  rw [← hL]
  have l0 : q_lo L 0 = some v0 := by rw [hL]; rfl
  have l1 : q_lo L 1 = some v1 := by rw [hL]; rfl
  have hQ : Ext m0 rm → ∀ o S1, Rp S1 rm → q_oux 0 o rr → (Cx 0 m0 rm rr) o S1 := fun a o S1 b e => ⟨b, a, e⟩
  unfold fm_X11_deploy at h
  refine go_aload_n (n := 0) (by decide +kernel) l0 f0 ?_
  refine go_iload_n (n := 1) (by decide +kernel) l1 f1 ?_
  obtain ⟨rr5, m_3, hc_1, h⟩ := bx_s h
  rcases h with ⟨q_10, rfl, h⟩ | ⟨x_2, rfl, h⟩
  · cases h
    exact go_callV (x := 86) (mi := 137) (n := 1) (ci := 12) (as := [v1]) (rest := []) (by decide +kernel) (by decide +kernel) rfl rfl (q_sum8 _ (Nat.le_of_ble_eq_true rfl)) R f0 (fx_k (c := 12) R (by decide +kernel)) (om_X11_typeAt (Nat.le_trans (by decide) hd) R f0 f1 hc_1) (fun _ _ qq => kx_lx qq) (fun _ _ qq => by
      obtain ⟨rfl, Rq, Eq⟩ := kx_e qq
      exact Or.inl ⟨rfl, hQ Eq _ _ Rq rfl⟩)
  refine go_callV (x := 86) (mi := 137) (n := 1) (ci := 12) (as := [v1]) (rest := []) (by decide +kernel) (by decide +kernel) rfl rfl (q_sum8 _ (Nat.le_of_ble_eq_true rfl)) R f0 (fx_k (c := 12) R (by decide +kernel)) (om_X11_typeAt (Nat.le_trans (by decide) hd) R f0 f1 hc_1) (fun _ S_6 q_9 => ?_) (fun _ _ qq => kr_x (kx_l qq))
  have q_9 := kx_l q_9
  refine kr_z (by decide) q_9 fun v_4 f_5 R_7 E_8 => ?_
  have E_16 := E_8
  refine go_astore_n (n := 2) (by decide +kernel) (by decide +kernel) f_5 fun L_17 l_18 kp_19 => ?_
  refine go_aload_n (n := 2) (by decide +kernel) l_18 f_5 ?_
  obtain ⟨g_22, h⟩ := gd_s h
  obtain ⟨x_24, e_25, h⟩ := lx_s h
  refine go_getf (x := 105) (ci := 11) (kf := 1) (fin := 0) (t := 2) (by decide +kernel) (by decide +kernel) (by decide +kernel) R_7 f_5 g_22 fun v_20 f_21 => ?_
  have f_23 := q_is_eq f_21 e_25
  obtain ⟨g_28, h⟩ := gd_s h
  obtain ⟨x_30, e_31, h⟩ := lx_s h
  refine go_getf (x := 108) (ci := 6) (kf := 2) (fin := 0) (t := 0) (by decide +kernel) (by decide +kernel) (by decide +kernel) R_7 f_23 g_28 fun v_26 f_27 => ?_
  have f_29 := q_is_eq f_27 e_31
  refine go_if (c := .eq) (o := 14) (t := 27) (P := x_30 = 0) (by decide +kernel) (by decide +kernel) f_29 (Iff.rfl) (fun hp_32 => ?_) (fun hp_32 => ?_)
  · have h := it_t hp_32 h
    cases h
    exact go_thr (x := 111) (e := 2) (ic := 115) (b := 0) (by decide +kernel) (by decide +kernel) (by decide +kernel) R_7 rfl fun Sq Rq Eq => hQ (Ext.tr E_16 Eq) _ _ Rq rfl
  · have h := it_f hp_32 h
    refine go_aload_n (n := 2) (by decide +kernel) l_18 f_5 ?_
    obtain ⟨x_36, e_37, h⟩ := lx_s h
    refine go_getf (x := 124) (ci := 11) (kf := 0) (fin := 2) (t := 2) (by decide +kernel) (by decide +kernel) (by decide +kernel) R_7 f_5 g_22 fun v_33 f_34 => ?_
    have f_35 := q_is_eq f_34 e_37
    obtain ⟨g_38, h⟩ := gd_s h
    obtain ⟨x_40, hc_39, h⟩ := bp_s h
    refine go_callV (x := 127) (mi := 326) (n := 0) (ci := 0) (as := []) (rest := []) (by decide +kernel) (by decide +kernel) rfl rfl (q_sum8 _ (Nat.le_of_ble_eq_true rfl)) R_7 f_35 g_38 (om_Jx4a65c_size_8abf5 (Nat.le_trans (by decide) hd) R_7 g_38 f_35 hc_39) (fun _ S_44 q_47 => ?_) (fun _ _ qq => kr_x qq)
    refine kr_z (by decide) q_47 fun v_42 f_43 R_45 E_46 => ?_
    refine go_iconst (n := 4) (z := 4) (by decide +kernel) (by decide) fun v_48 f_49 => ?_
    refine go_icmp (c := .lt) (o := 13) (t := 37) (P := x_40 < 4) (by decide +kernel) (by decide +kernel) f_43 f_49 (Iff.rfl) (fun hp_50 => ?_) (fun hp_50 => ?_)
    · have h := it_t hp_50 h
      refine go_aload_n (n := 2) (by decide +kernel) l_18 f_5 ?_
      obtain ⟨x_52, m_53, hc_51, h⟩ := bd_s h
      refine go_callV (x := 132) (mi := 98) (n := 0) (ci := 11) (as := []) (rest := []) (by decide +kernel) (by decide +kernel) rfl rfl (q_sum8 _ (Nat.le_of_ble_eq_true rfl)) R_45 f_5 g_22 (om_X10_draftBecomesVersion (Nat.le_trans (by decide) hd) R_45 g_22 f_5 hc_51) (fun _ S_56 q_59 => ?_) (fun _ _ qq => kr_x qq)
      refine kr_v q_59 fun R_57 E_58 => ?_
      have E_62 := Ext.tr E_16 E_58
      refine go_aload_n (n := 2) (by decide +kernel) l_18 f_5 ?_
      have g_65 := Ext.ok E_58 g_22
      obtain ⟨x_67, e_68, h⟩ := lx_s h
      refine go_getf (x := 124) (ci := 11) (kf := 0) (fin := 2) (t := 2) (by decide +kernel) (by decide +kernel) (by decide +kernel) R_57 f_5 g_65 fun v_63 f_64 => ?_
      have f_66 := q_is_eq f_64 e_68
      obtain ⟨g_69, h⟩ := gd_s h
      obtain ⟨x_71, hc_70, h⟩ := bp_s h
      refine go_callV (x := 127) (mi := 326) (n := 0) (ci := 0) (as := []) (rest := []) (by decide +kernel) (by decide +kernel) rfl rfl (q_sum8 _ (Nat.le_of_ble_eq_true rfl)) R_57 f_66 g_69 (om_Jx4a65c_size_8abf5 (Nat.le_trans (by decide) hd) R_57 g_69 f_66 hc_70) (fun _ S_75 q_78 => ?_) (fun _ _ qq => kr_x qq)
      refine kr_z (by decide) q_78 fun v_73 f_74 R_76 E_77 => ?_
      refine go_iconst (n := 1) (z := 1) (by decide +kernel) (by decide) fun v_79 f_80 => ?_
      refine go_isub (by decide +kernel) f_74 f_80 fun v_81 f_82 => ?_
      cases h
      exact go_iret (by decide +kernel) rfl (Or.inl rfl) f_82 (hQ E_62 _ _ R_76 (q_out_v (by decide) f_82))
    · have h := it_f hp_50 h
      cases h
      exact go_thr (x := 111) (e := 2) (ic := 115) (b := 0) (by decide +kernel) (by decide +kernel) (by decide +kernel) R_45 rfl fun Sq Rq Eq => hQ (Ext.tr E_16 Eq) _ _ Rq rfl
noncomputable def fm_X11_kindAt (p1 : Int) (m0 : MM) : Option ((Int ⊕ Nat) × MM) := if p1 < 0 then
some (.inr 0, mthr m0)
else
if p1 < 4 then
gd (0 ≤ p1 ∧ p1 < 4) <| lx (m0 6 p1) fun x_16 =>
some (.inl x_16, m0)
else
some (.inr 0, mthr m0)
set_option maxHeartbeats 4000000 in
theorem om_X11_kindAt {xs : List Int32} {d : Nat} {S : QS} {m0 : MM} {p1 : Int} {v0 : Value} {v1 : Value} {rr : Int ⊕ Nat} {rm : MM}
  (hd : 1 ≤ d) (R : Rp S m0) (f0 : q_is 2 v0 4) (f1 : q_is 0 v1 p1)
  (h : fm_X11_kindAt p1 m0 = some (rr, rm)) : Mt xs d 138 [v0, v1] S (Cx 2 m0 rm rr) := by
  obtain ⟨d, rfl⟩ : ∃ e, d = e + 1 := ⟨d - 1, by omega⟩
  have hd : 0 ≤ d := Nat.le_of_succ_le_succ hd
  refine Mt.of (M := qM_X11_kindAt) rfl (by rw [sl_1 (q_is_cat f0 (Or.inr rfl)), sl_1 (q_is_cat f1 (Or.inl rfl)), sl_0]; decide) ?_
  rw [la_1 (q_is_cat f0 (Or.inr rfl)), la_1 (q_is_cat f1 (Or.inl rfl)), la_0]
  obtain ⟨L, hL⟩ : ∃ L : QL, L = [(0, v0), (0 + 1, v1)] := ⟨_, rfl⟩
  rw [← hL]
  have l0 : q_lo L 0 = some v0 := by rw [hL]; rfl
  have l1 : q_lo L 1 = some v1 := by rw [hL]; rfl
  have hQ : Ext m0 rm → ∀ o S1, Rp S1 rm → q_oux 2 o rr → (Cx 2 m0 rm rr) o S1 := fun a o S1 b e => ⟨b, a, e⟩
  unfold fm_X11_kindAt at h
  refine go_iload_n (n := 1) (by decide +kernel) l1 f1 ?_
  refine go_if (c := .lt) (o := 12) (t := 13) (P := p1 < 0) (by decide +kernel) (by decide +kernel) f1 (Iff.rfl) (fun hp_1 => ?_) (fun hp_1 => ?_)
  · have h := it_t hp_1 h
    cases h
    exact go_thr (x := 255) (e := 0) (ic := 259) (b := 0) (by decide +kernel) (by decide +kernel) (by decide +kernel) R rfl fun Sq Rq Eq => hQ Eq _ _ Rq rfl
  · have h := it_f hp_1 h
    refine go_iload_n (n := 1) (by decide +kernel) l1 f1 ?_
    refine go_aload_n (n := 0) (by decide +kernel) l0 f0 ?_
    refine go_getf (x := 17) (ci := 12) (kf := 1) (fin := 1) (t := 2) (by decide +kernel) (by decide +kernel) (by decide +kernel) R f0 (fx_k (c := 12) R (by decide +kernel)) fun v_2 f_3 => ?_
    have f_4 := q_is_eq (b := 6) f_3 (fx_v R (by decide +kernel)).symm
    refine go_alen (by decide +kernel) R f_4 (okl_of (fx_k (c := 104) R (by decide +kernel)) (by decide)) fun v_5 f_6 => ?_
    have f_7 := q_is_eq (b := 4) f_6 (by rw [fx_l R (ln := 4) (by decide +kernel)]; decide)
    refine go_icmp (c := .lt) (o := 14) (t := 24) (P := p1 < 4) (by decide +kernel) (by decide +kernel) f1 f_7 (Iff.rfl) (fun hp_8 => ?_) (fun hp_8 => ?_)
    · have h := it_t hp_8 h
      refine go_aload_n (n := 0) (by decide +kernel) l0 f0 ?_
      refine go_getf (x := 17) (ci := 12) (kf := 1) (fin := 1) (t := 2) (by decide +kernel) (by decide +kernel) (by decide +kernel) R f0 (fx_k (c := 12) R (by decide +kernel)) fun v_9 f_10 => ?_
      have f_11 := q_is_eq (b := 6) f_10 (fx_v R (by decide +kernel)).symm
      refine go_iload_n (n := 1) (by decide +kernel) l1 f1 ?_
      obtain ⟨g_14, h⟩ := gd_s h
      obtain ⟨x_16, e_17, h⟩ := lx_s h
      refine go_aald (kd := 104) (by decide +kernel) (by decide) R f_11 f1 (fx_k (c := 104) R (by decide +kernel)) (fx_x (a := 6) (ln := 4) R (by decide +kernel) g_14) fun v_12 f_13 => ?_
      have f_15 := q_is_eq f_13 e_17
      cases h
      exact go_aret (by decide +kernel) rfl rfl f_15 (hQ (Ext.rf _) _ _ R (q_out_v (by decide) f_15))
    · have h := it_f hp_8 h
      cases h
      exact go_thr (x := 255) (e := 0) (ic := 259) (b := 0) (by decide +kernel) (by decide +kernel) (by decide +kernel) R rfl fun Sq Rq Eq => hQ Eq _ _ Rq rfl
noncomputable def fm_X11_setKind (p1 p2 p3 p4 p5 p6 : Int) (m0 : MM) : Option ((Int ⊕ Nat) × MM) := bx (fm_X11_kindAt p1 m0) (fun q_10 m_3 => some (.inr q_10, m_3)) fun x_2 m_3 =>
if p2 < 1 then
some (.inr 1, mthr m_3)
else
if 4 < p2 then
some (.inr 1, mthr m_3)
else
if p3 < 0 then
some (.inr 1, mthr m_3)
else
if 20 < p3 then
some (.inr 1, mthr m_3)
else
if p4 < 0 then
some (.inr 1, mthr m_3)
else
if 50 < p4 then
some (.inr 1, mthr m_3)
else
if p5 < 0 then
some (.inr 1, mthr m_3)
else
if 50 < p5 then
some (.inr 1, mthr m_3)
else
if p6 < 0 then
some (.inr 1, mthr m_3)
else
if 50 < p6 then
some (.inr 1, mthr m_3)
else
gd (okc m_3 x_2 4) <| up m_3 x_2 0 p2 fun m_48 =>
up m_48 x_2 1 p3 fun m_56 =>
up m_56 x_2 2 p4 fun m_64 =>
up m_64 x_2 3 p5 fun m_72 =>
up m_72 x_2 4 p6 fun m_80 =>
some (.inl 0, m_80)
set_option maxHeartbeats 4000000 in
theorem om_X11_setKind {xs : List Int32} {d : Nat} {S : QS} {m0 : MM} {p1 p2 p3 p4 p5 p6 : Int} {v0 : Value} {v1 : Value} {v2 : Value} {v3 : Value} {v4 : Value} {v5 : Value} {v6 : Value} {rr : Int ⊕ Nat} {rm : MM}
  (hd : 2 ≤ d) (R : Rp S m0) (f0 : q_is 2 v0 4) (f1 : q_is 0 v1 p1) (f2 : q_is 0 v2 p2) (f3 : q_is 0 v3 p3) (f4 : q_is 0 v4 p4) (f5 : q_is 0 v5 p5) (f6 : q_is 0 v6 p6)
  (h : fm_X11_setKind p1 p2 p3 p4 p5 p6 m0 = some (rr, rm)) : Mt xs d 102 [v0, v1, v2, v3, v4, v5, v6] S (Cx 9 m0 rm rr) := by
  obtain ⟨d, rfl⟩ : ∃ e, d = e + 1 := ⟨d - 1, by omega⟩
  have hd : 1 ≤ d := Nat.le_of_succ_le_succ hd
  refine Mt.of (M := qM_X11_setKind) rfl (by rw [sl_1 (q_is_cat f0 (Or.inr rfl)), sl_1 (q_is_cat f1 (Or.inl rfl)), sl_1 (q_is_cat f2 (Or.inl rfl)), sl_1 (q_is_cat f3 (Or.inl rfl)), sl_1 (q_is_cat f4 (Or.inl rfl)), sl_1 (q_is_cat f5 (Or.inl rfl)), sl_1 (q_is_cat f6 (Or.inl rfl)), sl_0]; decide) ?_
  rw [la_1 (q_is_cat f0 (Or.inr rfl)), la_1 (q_is_cat f1 (Or.inl rfl)), la_1 (q_is_cat f2 (Or.inl rfl)), la_1 (q_is_cat f3 (Or.inl rfl)), la_1 (q_is_cat f4 (Or.inl rfl)), la_1 (q_is_cat f5 (Or.inl rfl)), la_1 (q_is_cat f6 (Or.inl rfl)), la_0]
  obtain ⟨L, hL⟩ : ∃ L : QL, L = [(0, v0), (0 + 1, v1), (0 + 1 + 1, v2), (0 + 1 + 1 + 1, v3), (0 + 1 + 1 + 1 + 1, v4), (0 + 1 + 1 + 1 + 1 + 1, v5), (0 + 1 + 1 + 1 + 1 + 1 + 1, v6)] := ⟨_, rfl⟩
  rw [← hL]
  have l0 : q_lo L 0 = some v0 := by rw [hL]; rfl
  have l1 : q_lo L 1 = some v1 := by rw [hL]; rfl
  have l2 : q_lo L 2 = some v2 := by rw [hL]; rfl
  have l3 : q_lo L 3 = some v3 := by rw [hL]; rfl
  have l4 : q_lo L 4 = some v4 := by rw [hL]; rfl
  have l5 : q_lo L 5 = some v5 := by rw [hL]; rfl
  have l6 : q_lo L 6 = some v6 := by rw [hL]; rfl
  have hQ : Ext m0 rm → ∀ o S1, Rp S1 rm → q_oux 9 o rr → (Cx 9 m0 rm rr) o S1 := fun a o S1 b e => ⟨b, a, e⟩
  unfold fm_X11_setKind at h
  refine go_aload_n (n := 0) (by decide +kernel) l0 f0 ?_
  refine go_iload_n (n := 1) (by decide +kernel) l1 f1 ?_
  obtain ⟨rr5, m_3, hc_1, h⟩ := bx_s h
  rcases h with ⟨q_10, rfl, h⟩ | ⟨x_2, rfl, h⟩
  · cases h
    exact go_callV (x := 135) (mi := 138) (n := 1) (ci := 12) (as := [v1]) (rest := []) (by decide +kernel) (by decide +kernel) rfl rfl (q_sum8 _ (Nat.le_of_ble_eq_true rfl)) R f0 (fx_k (c := 12) R (by decide +kernel)) (om_X11_kindAt (Nat.le_trans (by decide) hd) R f0 f1 hc_1) (fun _ _ qq => kx_lx qq) (fun _ _ qq => by
      obtain ⟨rfl, Rq, Eq⟩ := kx_e qq
      exact Or.inl ⟨rfl, hQ Eq _ _ Rq rfl⟩)
  refine go_callV (x := 135) (mi := 138) (n := 1) (ci := 12) (as := [v1]) (rest := []) (by decide +kernel) (by decide +kernel) rfl rfl (q_sum8 _ (Nat.le_of_ble_eq_true rfl)) R f0 (fx_k (c := 12) R (by decide +kernel)) (om_X11_kindAt (Nat.le_trans (by decide) hd) R f0 f1 hc_1) (fun _ S_6 q_9 => ?_) (fun _ _ qq => kr_x (kx_l qq))
  have q_9 := kx_l q_9
  refine kr_z (by decide) q_9 fun v_4 f_5 R_7 E_8 => ?_
  have E_16 := E_8
  refine go_astore (n := 7) (by decide +kernel) (by decide +kernel) f_5 fun L_17 l_18 kp_19 => ?_
  have l_20 := kp_19 2 _ l2 (by decide) (Or.inl (by decide))
  have l_21 := kp_19 3 _ l3 (by decide) (Or.inl (by decide))
  have l_22 := kp_19 4 _ l4 (by decide) (Or.inl (by decide))
  have l_23 := kp_19 5 _ l5 (by decide) (Or.inl (by decide))
  have l_24 := kp_19 6 _ l6 (by decide) (Or.inr (q_is_cat f6 (Or.inl rfl)))
  refine go_iload_n (n := 2) (by decide +kernel) l_20 f2 ?_
  refine go_iconst (n := 1) (z := 1) (by decide +kernel) (by decide) fun v_25 f_26 => ?_
  refine go_icmp (c := .lt) (o := 18) (t := 27) (P := p2 < 1) (by decide +kernel) (by decide +kernel) f2 f_26 (Iff.rfl) (fun hp_27 => ?_) (fun hp_27 => ?_)
  · have h := it_t hp_27 h
    cases h
    exact go_thr (x := 96) (e := 1) (ic := 100) (b := 0) (by decide +kernel) (by decide +kernel) (by decide +kernel) R_7 rfl fun Sq Rq Eq => hQ (Ext.tr E_16 Eq) _ _ Rq rfl
  · have h := it_f hp_27 h
    refine go_iload_n (n := 2) (by decide +kernel) l_20 f2 ?_
    refine go_iconst (n := 4) (z := 4) (by decide +kernel) (by decide) fun v_28 f_29 => ?_
    refine go_icmp (c := .gt) (o := 13) (t := 27) (P := 4 < p2) (by decide +kernel) (by decide +kernel) f2 f_29 (Iff.rfl) (fun hp_30 => ?_) (fun hp_30 => ?_)
    · have h := it_t hp_30 h
      cases h
      exact go_thr (x := 96) (e := 1) (ic := 100) (b := 0) (by decide +kernel) (by decide +kernel) (by decide +kernel) R_7 rfl fun Sq Rq Eq => hQ (Ext.tr E_16 Eq) _ _ Rq rfl
    · have h := it_f hp_30 h
      refine go_iload_n (n := 3) (by decide +kernel) l_21 f3 ?_
      refine go_if (c := .lt) (o := 9) (t := 27) (P := p3 < 0) (by decide +kernel) (by decide +kernel) f3 (Iff.rfl) (fun hp_31 => ?_) (fun hp_31 => ?_)
      · have h := it_t hp_31 h
        cases h
        exact go_thr (x := 96) (e := 1) (ic := 100) (b := 0) (by decide +kernel) (by decide +kernel) (by decide +kernel) R_7 rfl fun Sq Rq Eq => hQ (Ext.tr E_16 Eq) _ _ Rq rfl
      · have h := it_f hp_31 h
        refine go_iload_n (n := 3) (by decide +kernel) l_21 f3 ?_
        refine go_bipush (n := 20) (z := 20) (by decide +kernel) (by decide) fun v_32 f_33 => ?_
        refine go_icmp (c := .le) (o := 13) (t := 37) (P := ¬ (20 < p3)) (by decide +kernel) (by decide +kernel) f3 f_33 (Int.not_lt.symm) (fun hp_34 => ?_) (fun hp_34 => ?_)
        · have h := it_f hp_34 h
          refine go_iload (n := 4) (by decide +kernel) l_22 f4 ?_
          refine go_if (c := .lt) (o := 34) (t := 73) (P := p4 < 0) (by decide +kernel) (by decide +kernel) f4 (Iff.rfl) (fun hp_35 => ?_) (fun hp_35 => ?_)
          · have h := it_t hp_35 h
            cases h
            exact go_thr (x := 96) (e := 1) (ic := 100) (b := 0) (by decide +kernel) (by decide +kernel) (by decide +kernel) R_7 rfl fun Sq Rq Eq => hQ (Ext.tr E_16 Eq) _ _ Rq rfl
          · have h := it_f hp_35 h
            refine go_iload (n := 4) (by decide +kernel) l_22 f4 ?_
            refine go_bipush (n := 50) (z := 50) (by decide +kernel) (by decide) fun v_36 f_37 => ?_
            refine go_icmp (c := .gt) (o := 27) (t := 73) (P := 50 < p4) (by decide +kernel) (by decide +kernel) f4 f_37 (Iff.rfl) (fun hp_38 => ?_) (fun hp_38 => ?_)
            · have h := it_t hp_38 h
              cases h
              exact go_thr (x := 96) (e := 1) (ic := 100) (b := 0) (by decide +kernel) (by decide +kernel) (by decide +kernel) R_7 rfl fun Sq Rq Eq => hQ (Ext.tr E_16 Eq) _ _ Rq rfl
            · have h := it_f hp_38 h
              refine go_iload (n := 5) (by decide +kernel) l_23 f5 ?_
              refine go_if (c := .lt) (o := 22) (t := 73) (P := p5 < 0) (by decide +kernel) (by decide +kernel) f5 (Iff.rfl) (fun hp_39 => ?_) (fun hp_39 => ?_)
              · have h := it_t hp_39 h
                cases h
                exact go_thr (x := 96) (e := 1) (ic := 100) (b := 0) (by decide +kernel) (by decide +kernel) (by decide +kernel) R_7 rfl fun Sq Rq Eq => hQ (Ext.tr E_16 Eq) _ _ Rq rfl
              · have h := it_f hp_39 h
                refine go_iload (n := 5) (by decide +kernel) l_23 f5 ?_
                refine go_bipush (n := 50) (z := 50) (by decide +kernel) (by decide) fun v_40 f_41 => ?_
                refine go_icmp (c := .gt) (o := 15) (t := 73) (P := 50 < p5) (by decide +kernel) (by decide +kernel) f5 f_41 (Iff.rfl) (fun hp_42 => ?_) (fun hp_42 => ?_)
                · have h := it_t hp_42 h
                  cases h
                  exact go_thr (x := 96) (e := 1) (ic := 100) (b := 0) (by decide +kernel) (by decide +kernel) (by decide +kernel) R_7 rfl fun Sq Rq Eq => hQ (Ext.tr E_16 Eq) _ _ Rq rfl
                · have h := it_f hp_42 h
                  refine go_iload (n := 6) (by decide +kernel) l_24 f6 ?_
                  refine go_if (c := .lt) (o := 10) (t := 73) (P := p6 < 0) (by decide +kernel) (by decide +kernel) f6 (Iff.rfl) (fun hp_43 => ?_) (fun hp_43 => ?_)
                  · have h := it_t hp_43 h
                    cases h
                    exact go_thr (x := 96) (e := 1) (ic := 100) (b := 0) (by decide +kernel) (by decide +kernel) (by decide +kernel) R_7 rfl fun Sq Rq Eq => hQ (Ext.tr E_16 Eq) _ _ Rq rfl
                  · have h := it_f hp_43 h
                    refine go_iload (n := 6) (by decide +kernel) l_24 f6 ?_
                    refine go_bipush (n := 50) (z := 50) (by decide +kernel) (by decide) fun v_44 f_45 => ?_
                    refine go_icmp (c := .le) (o := 13) (t := 83) (P := ¬ (50 < p6)) (by decide +kernel) (by decide +kernel) f6 f_45 (Int.not_lt.symm) (fun hp_46 => ?_) (fun hp_46 => ?_)
                    · have h := it_f hp_46 h
                      refine go_aload (n := 7) (by decide +kernel) l_18 f_5 ?_
                      refine go_iload_n (n := 2) (by decide +kernel) l_20 f2 ?_
                      obtain ⟨g_47, h⟩ := gd_s h
                      obtain ⟨m_48, e_49, h⟩ := up_s h
                      refine go_putf (x := 143) (ci := 4) (kf := 0) (fin := 0) (zt := 0) (by decide +kernel) (by decide +kernel) (by decide) (by decide +kernel) (by decide) (Or.inl rfl) R_7 f_5 f2 (fun hq => absurd hq (by decide)) g_47 e_49 (fx_f (j := 0) R_7.2 g_47 (by decide +kernel)) fun S_50 R_51 E_52 => ?_
                      have E_54 := Ext.tr E_16 E_52
                      refine go_aload (n := 7) (by decide +kernel) l_18 f_5 ?_
                      refine go_iload_n (n := 3) (by decide +kernel) l_21 f3 ?_
                      have g_55 := Ext.ok E_52 g_47
                      obtain ⟨m_56, e_57, h⟩ := up_s h
                      refine go_putf (x := 146) (ci := 4) (kf := 1) (fin := 0) (zt := 0) (by decide +kernel) (by decide +kernel) (by decide) (by decide +kernel) (by decide) (Or.inl rfl) R_51 f_5 f3 (fun hq => absurd hq (by decide)) g_55 e_57 (fx_f (j := 1) R_51.2 g_55 (by decide +kernel)) fun S_58 R_59 E_60 => ?_
                      have E_62 := Ext.tr E_54 E_60
                      refine go_aload (n := 7) (by decide +kernel) l_18 f_5 ?_
                      refine go_iload (n := 4) (by decide +kernel) l_22 f4 ?_
                      have g_63 := Ext.ok E_60 g_55
                      obtain ⟨m_64, e_65, h⟩ := up_s h
                      refine go_putf (x := 149) (ci := 4) (kf := 2) (fin := 0) (zt := 0) (by decide +kernel) (by decide +kernel) (by decide) (by decide +kernel) (by decide) (Or.inl rfl) R_59 f_5 f4 (fun hq => absurd hq (by decide)) g_63 e_65 (fx_f (j := 2) R_59.2 g_63 (by decide +kernel)) fun S_66 R_67 E_68 => ?_
                      have E_70 := Ext.tr E_62 E_68
                      refine go_aload (n := 7) (by decide +kernel) l_18 f_5 ?_
                      refine go_iload (n := 5) (by decide +kernel) l_23 f5 ?_
                      have g_71 := Ext.ok E_68 g_63
                      obtain ⟨m_72, e_73, h⟩ := up_s h
                      refine go_putf (x := 152) (ci := 4) (kf := 3) (fin := 0) (zt := 0) (by decide +kernel) (by decide +kernel) (by decide) (by decide +kernel) (by decide) (Or.inl rfl) R_67 f_5 f5 (fun hq => absurd hq (by decide)) g_71 e_73 (fx_f (j := 3) R_67.2 g_71 (by decide +kernel)) fun S_74 R_75 E_76 => ?_
                      have E_78 := Ext.tr E_70 E_76
                      refine go_aload (n := 7) (by decide +kernel) l_18 f_5 ?_
                      refine go_iload (n := 6) (by decide +kernel) l_24 f6 ?_
                      have g_79 := Ext.ok E_76 g_71
                      obtain ⟨m_80, e_81, h⟩ := up_s h
                      refine go_putf (x := 155) (ci := 4) (kf := 4) (fin := 0) (zt := 0) (by decide +kernel) (by decide +kernel) (by decide) (by decide +kernel) (by decide) (Or.inl rfl) R_75 f_5 f6 (fun hq => absurd hq (by decide)) g_79 e_81 (fx_f (j := 4) R_75.2 g_79 (by decide +kernel)) fun S_82 R_83 E_84 => ?_
                      have E_86 := Ext.tr E_78 E_84
                      cases h
                      exact go_vret (by decide +kernel) rfl (hQ E_86 _ _ R_83 q_out_n)
                    · have h := it_n hp_46 h
                      cases h
                      exact go_thr (x := 96) (e := 1) (ic := 100) (b := 0) (by decide +kernel) (by decide +kernel) (by decide +kernel) R_7 rfl fun Sq Rq Eq => hQ (Ext.tr E_16 Eq) _ _ Rq rfl
        · have h := it_n hp_34 h
          cases h
          exact go_thr (x := 96) (e := 1) (ic := 100) (b := 0) (by decide +kernel) (by decide +kernel) (by decide +kernel) R_7 rfl fun Sq Rq Eq => hQ (Ext.tr E_16 Eq) _ _ Rq rfl
noncomputable def fm_X11_setPolicy (p1 p2 : Int) (m0 : MM) : Option ((Int ⊕ Nat) × MM) := bx (fm_X11_typeAt p1 m0) (fun q_10 m_3 => some (.inr q_10, m_3)) fun x_2 m_3 =>
if p2 < 0 then
some (.inr 1, mthr m_3)
else
if 2 < p2 then
some (.inr 1, mthr m_3)
else
gd (okc m_3 x_2 11) <| lx (m_3 x_2 2) fun x_29 =>
up m_3 x_2 2 p2 fun m_36 =>
some (.inl x_29, m_36)
set_option maxHeartbeats 4000000 in
theorem om_X11_setPolicy {xs : List Int32} {d : Nat} {S : QS} {m0 : MM} {p1 p2 : Int} {v0 : Value} {v1 : Value} {v2 : Value} {rr : Int ⊕ Nat} {rm : MM}
  (hd : 2 ≤ d) (R : Rp S m0) (f0 : q_is 2 v0 4) (f1 : q_is 0 v1 p1) (f2 : q_is 0 v2 p2)
  (h : fm_X11_setPolicy p1 p2 m0 = some (rr, rm)) : Mt xs d 103 [v0, v1, v2] S (Cx 0 m0 rm rr) := by
  obtain ⟨d, rfl⟩ : ∃ e, d = e + 1 := ⟨d - 1, by omega⟩
  have hd : 1 ≤ d := Nat.le_of_succ_le_succ hd
  refine Mt.of (M := qM_X11_setPolicy) rfl (by rw [sl_1 (q_is_cat f0 (Or.inr rfl)), sl_1 (q_is_cat f1 (Or.inl rfl)), sl_1 (q_is_cat f2 (Or.inl rfl)), sl_0]; decide) ?_
  rw [la_1 (q_is_cat f0 (Or.inr rfl)), la_1 (q_is_cat f1 (Or.inl rfl)), la_1 (q_is_cat f2 (Or.inl rfl)), la_0]
  obtain ⟨L, hL⟩ : ∃ L : QL, L = [(0, v0), (0 + 1, v1), (0 + 1 + 1, v2)] := ⟨_, rfl⟩
  rw [← hL]
  have l0 : q_lo L 0 = some v0 := by rw [hL]; rfl
  have l1 : q_lo L 1 = some v1 := by rw [hL]; rfl
  have l2 : q_lo L 2 = some v2 := by rw [hL]; rfl
  have hQ : Ext m0 rm → ∀ o S1, Rp S1 rm → q_oux 0 o rr → (Cx 0 m0 rm rr) o S1 := fun a o S1 b e => ⟨b, a, e⟩
  unfold fm_X11_setPolicy at h
  refine go_aload_n (n := 0) (by decide +kernel) l0 f0 ?_
  refine go_iload_n (n := 1) (by decide +kernel) l1 f1 ?_
  obtain ⟨rr5, m_3, hc_1, h⟩ := bx_s h
  rcases h with ⟨q_10, rfl, h⟩ | ⟨x_2, rfl, h⟩
  · cases h
    exact go_callV (x := 86) (mi := 137) (n := 1) (ci := 12) (as := [v1]) (rest := []) (by decide +kernel) (by decide +kernel) rfl rfl (q_sum8 _ (Nat.le_of_ble_eq_true rfl)) R f0 (fx_k (c := 12) R (by decide +kernel)) (om_X11_typeAt (Nat.le_trans (by decide) hd) R f0 f1 hc_1) (fun _ _ qq => kx_lx qq) (fun _ _ qq => by
      obtain ⟨rfl, Rq, Eq⟩ := kx_e qq
      exact Or.inl ⟨rfl, hQ Eq _ _ Rq rfl⟩)
  refine go_callV (x := 86) (mi := 137) (n := 1) (ci := 12) (as := [v1]) (rest := []) (by decide +kernel) (by decide +kernel) rfl rfl (q_sum8 _ (Nat.le_of_ble_eq_true rfl)) R f0 (fx_k (c := 12) R (by decide +kernel)) (om_X11_typeAt (Nat.le_trans (by decide) hd) R f0 f1 hc_1) (fun _ S_6 q_9 => ?_) (fun _ _ qq => kr_x (kx_l qq))
  have q_9 := kx_l q_9
  refine kr_z (by decide) q_9 fun v_4 f_5 R_7 E_8 => ?_
  have E_16 := E_8
  refine go_astore_n (n := 3) (by decide +kernel) (by decide +kernel) f_5 fun L_17 l_18 kp_19 => ?_
  have l_20 := kp_19 2 _ l2 (by decide) (Or.inr (q_is_cat f2 (Or.inl rfl)))
  refine go_iload_n (n := 2) (by decide +kernel) l_20 f2 ?_
  refine go_if (c := .lt) (o := 8) (t := 15) (P := p2 < 0) (by decide +kernel) (by decide +kernel) f2 (Iff.rfl) (fun hp_21 => ?_) (fun hp_21 => ?_)
  · have h := it_t hp_21 h
    cases h
    exact go_thr (x := 96) (e := 1) (ic := 100) (b := 0) (by decide +kernel) (by decide +kernel) (by decide +kernel) R_7 rfl fun Sq Rq Eq => hQ (Ext.tr E_16 Eq) _ _ Rq rfl
  · have h := it_f hp_21 h
    refine go_iload_n (n := 2) (by decide +kernel) l_20 f2 ?_
    refine go_iconst (n := 2) (z := 2) (by decide +kernel) (by decide) fun v_22 f_23 => ?_
    refine go_icmp (c := .le) (o := 13) (t := 25) (P := ¬ (2 < p2)) (by decide +kernel) (by decide +kernel) f2 f_23 (Int.not_lt.symm) (fun hp_24 => ?_) (fun hp_24 => ?_)
    · have h := it_f hp_24 h
      refine go_aload_n (n := 3) (by decide +kernel) l_18 f_5 ?_
      obtain ⟨g_27, h⟩ := gd_s h
      obtain ⟨x_29, e_30, h⟩ := lx_s h
      refine go_getf (x := 160) (ci := 11) (kf := 2) (fin := 0) (t := 0) (by decide +kernel) (by decide +kernel) (by decide +kernel) R_7 f_5 g_27 fun v_25 f_26 => ?_
      have f_28 := q_is_eq f_26 e_30
      refine go_istore (n := 4) (by decide +kernel) (by decide +kernel) f_28 fun L_31 l_32 kp_33 => ?_
      have l_34 := kp_33 2 _ l_20 (by decide) (Or.inl (by decide))
      have l_35 := kp_33 3 _ l_18 (by decide) (Or.inr (q_is_cat f_5 (Or.inr rfl)))
      refine go_aload_n (n := 3) (by decide +kernel) l_35 f_5 ?_
      refine go_iload_n (n := 2) (by decide +kernel) l_34 f2 ?_
      obtain ⟨m_36, e_37, h⟩ := up_s h
      refine go_putf (x := 160) (ci := 11) (kf := 2) (fin := 0) (zt := 0) (by decide +kernel) (by decide +kernel) (by decide) (by decide +kernel) (by decide) (Or.inl rfl) R_7 f_5 f2 (fun hq => absurd hq (by decide)) g_27 e_37 (fx_f (j := 2) R_7.2 g_27 (by decide +kernel)) fun S_38 R_39 E_40 => ?_
      have E_42 := Ext.tr E_16 E_40
      refine go_iload (n := 4) (by decide +kernel) l_32 f_28 ?_
      cases h
      exact go_iret (by decide +kernel) rfl (Or.inl rfl) f_28 (hQ E_42 _ _ R_39 (q_out_v (by decide) f_28))
    · have h := it_n hp_24 h
      cases h
      exact go_thr (x := 96) (e := 1) (ic := 100) (b := 0) (by decide +kernel) (by decide +kernel) (by decide +kernel) R_7 rfl fun Sq Rq Eq => hQ (Ext.tr E_16 Eq) _ _ Rq rfl
noncomputable def fm_X11_checkTenant (p1 : Int) (m0 : MM) : Option ((Int ⊕ Nat) × MM) := if p1 < 0 then
some (.inr 0, mthr m0)
else
if p1 < 3 then
some (.inl 0, m0)
else
some (.inr 0, mthr m0)
set_option maxHeartbeats 4000000 in
theorem om_X11_checkTenant {xs : List Int32} {d : Nat} {S : QS} {m0 : MM} {p1 : Int} {v0 : Value} {v1 : Value} {rr : Int ⊕ Nat} {rm : MM}
  (hd : 1 ≤ d) (R : Rp S m0) (f0 : q_is 2 v0 4) (f1 : q_is 0 v1 p1)
  (h : fm_X11_checkTenant p1 m0 = some (rr, rm)) : Mt xs d 143 [v0, v1] S (Cx 9 m0 rm rr) := by
  obtain ⟨d, rfl⟩ : ∃ e, d = e + 1 := ⟨d - 1, by omega⟩
  have hd : 0 ≤ d := Nat.le_of_succ_le_succ hd
  refine Mt.of (M := qM_X11_checkTenant) rfl (by rw [sl_1 (q_is_cat f0 (Or.inr rfl)), sl_1 (q_is_cat f1 (Or.inl rfl)), sl_0]; decide) ?_
  rw [la_1 (q_is_cat f0 (Or.inr rfl)), la_1 (q_is_cat f1 (Or.inl rfl)), la_0]
  obtain ⟨L, hL⟩ : ∃ L : QL, L = [(0, v0), (0 + 1, v1)] := ⟨_, rfl⟩
  rw [← hL]
  have l0 : q_lo L 0 = some v0 := by rw [hL]; rfl
  have l1 : q_lo L 1 = some v1 := by rw [hL]; rfl
  have hQ : Ext m0 rm → ∀ o S1, Rp S1 rm → q_oux 9 o rr → (Cx 9 m0 rm rr) o S1 := fun a o S1 b e => ⟨b, a, e⟩
  unfold fm_X11_checkTenant at h
  refine go_iload_n (n := 1) (by decide +kernel) l1 f1 ?_
  refine go_if (c := .lt) (o := 8) (t := 9) (P := p1 < 0) (by decide +kernel) (by decide +kernel) f1 (Iff.rfl) (fun hp_1 => ?_) (fun hp_1 => ?_)
  · have h := it_t hp_1 h
    cases h
    exact go_thr (x := 255) (e := 0) (ic := 259) (b := 0) (by decide +kernel) (by decide +kernel) (by decide +kernel) R rfl fun Sq Rq Eq => hQ Eq _ _ Rq rfl
  · have h := it_f hp_1 h
    refine go_iload_n (n := 1) (by decide +kernel) l1 f1 ?_
    refine go_iconst (n := 3) (z := 3) (by decide +kernel) (by decide) fun v_2 f_3 => ?_
    refine go_icmp (c := .lt) (o := 14) (t := 20) (P := p1 < 3) (by decide +kernel) (by decide +kernel) f1 f_3 (Iff.rfl) (fun hp_4 => ?_) (fun hp_4 => ?_)
    · have h := it_t hp_4 h
      cases h
      exact go_vret (by decide +kernel) rfl (hQ (Ext.rf _) _ _ R q_out_n)
    · have h := it_f hp_4 h
      cases h
      exact go_thr (x := 255) (e := 0) (ic := 259) (b := 0) (by decide +kernel) (by decide +kernel) (by decide +kernel) R rfl fun Sq Rq Eq => hQ Eq _ _ Rq rfl
noncomputable def fm_X11_checkValue (p1 : Int) (m0 : MM) : Option ((Int ⊕ Nat) × MM) := if p1 < 0 then
some (.inr 1, mthr m0)
else
if 999 < p1 then
some (.inr 1, mthr m0)
else
some (.inl 0, m0)
set_option maxHeartbeats 4000000 in
theorem om_X11_checkValue {xs : List Int32} {d : Nat} {S : QS} {m0 : MM} {p1 : Int} {v0 : Value} {v1 : Value} {rr : Int ⊕ Nat} {rm : MM}
  (hd : 1 ≤ d) (R : Rp S m0) (f0 : q_is 2 v0 4) (f1 : q_is 0 v1 p1)
  (h : fm_X11_checkValue p1 m0 = some (rr, rm)) : Mt xs d 147 [v0, v1] S (Cx 9 m0 rm rr) := by
  obtain ⟨d, rfl⟩ : ∃ e, d = e + 1 := ⟨d - 1, by omega⟩
  have hd : 0 ≤ d := Nat.le_of_succ_le_succ hd
  refine Mt.of (M := qM_X11_checkValue) rfl (by rw [sl_1 (q_is_cat f0 (Or.inr rfl)), sl_1 (q_is_cat f1 (Or.inl rfl)), sl_0]; decide) ?_
  rw [la_1 (q_is_cat f0 (Or.inr rfl)), la_1 (q_is_cat f1 (Or.inl rfl)), la_0]
  obtain ⟨L, hL⟩ : ∃ L : QL, L = [(0, v0), (0 + 1, v1)] := ⟨_, rfl⟩
  rw [← hL]
  have l0 : q_lo L 0 = some v0 := by rw [hL]; rfl
  have l1 : q_lo L 1 = some v1 := by rw [hL]; rfl
  have hQ : Ext m0 rm → ∀ o S1, Rp S1 rm → q_oux 9 o rr → (Cx 9 m0 rm rr) o S1 := fun a o S1 b e => ⟨b, a, e⟩
  unfold fm_X11_checkValue at h
  refine go_iload_n (n := 1) (by decide +kernel) l1 f1 ?_
  refine go_if (c := .lt) (o := 10) (t := 11) (P := p1 < 0) (by decide +kernel) (by decide +kernel) f1 (Iff.rfl) (fun hp_1 => ?_) (fun hp_1 => ?_)
  · have h := it_t hp_1 h
    cases h
    exact go_thr (x := 96) (e := 1) (ic := 100) (b := 0) (by decide +kernel) (by decide +kernel) (by decide +kernel) R rfl fun Sq Rq Eq => hQ Eq _ _ Rq rfl
  · have h := it_f hp_1 h
    refine go_iload_n (n := 1) (by decide +kernel) l1 f1 ?_
    refine go_sipush (n := 999) (z := 999) (by decide +kernel) (by decide) fun v_2 f_3 => ?_
    refine go_icmp (c := .le) (o := 14) (t := 22) (P := ¬ (999 < p1)) (by decide +kernel) (by decide +kernel) f1 f_3 (Int.not_lt.symm) (fun hp_4 => ?_) (fun hp_4 => ?_)
    · have h := it_f hp_4 h
      cases h
      exact go_vret (by decide +kernel) rfl (hQ (Ext.rf _) _ _ R q_out_n)
    · have h := it_n hp_4 h
      cases h
      exact go_thr (x := 96) (e := 1) (ic := 100) (b := 0) (by decide +kernel) (by decide +kernel) (by decide +kernel) R rfl fun Sq Rq Eq => hQ Eq _ _ Rq rfl
noncomputable def fm_Jx4a65c_isEmpty_aae02 (p0 : Int) (m0 : MM) : Option Int := lx (m0 p0 2) fun x_4 =>
if x_4 = 0 then
some 1
else
some 0
set_option maxHeartbeats 4000000 in
theorem om_Jx4a65c_isEmpty_aae02 {xs : List Int32} {d : Nat} {S : QS} {m0 : MM} {p0 : Int} {v0 : Value} {rz : Int}
  (hd : 1 ≤ d) (R : Rp S m0) (g0 : okc m0 p0 0) (f0 : q_is 2 v0 p0)
  (h : fm_Jx4a65c_isEmpty_aae02 p0 m0 = some rz) : Mt xs d 327 [v0] S (Cr 0 m0 m0 rz) := by
  obtain ⟨d, rfl⟩ : ∃ e, d = e + 1 := ⟨d - 1, by omega⟩
  have hd : 0 ≤ d := Nat.le_of_succ_le_succ hd
  refine Mt.of (M := qM_Jx4a65c_isEmpty_aae02) rfl (by rw [sl_1 (q_is_cat f0 (Or.inr rfl)), sl_0]; decide) ?_
  rw [la_1 (q_is_cat f0 (Or.inr rfl)), la_0]
  obtain ⟨L, hL⟩ : ∃ L : QL, L = [(0, v0)] := ⟨_, rfl⟩
  rw [← hL]
  have l0 : q_lo L 0 = some v0 := by rw [hL]; rfl
  have hQ : ∀ o S1, Rp S1 m0 → q_out 0 o rz → (Cr 0 m0 m0 rz) o S1 := fun o S1 a b => ⟨a, Ext.rf _, b⟩
  unfold fm_Jx4a65c_isEmpty_aae02 at h
  refine go_aload_n (n := 0) (by decide +kernel) l0 f0 ?_
  obtain ⟨x_4, e_5, h⟩ := lx_s h
  refine go_getf (x := 48) (ci := 0) (kf := 2) (fin := 0) (t := 0) (by decide +kernel) (by decide +kernel) (by decide +kernel) R f0 g0 fun v_1 f_2 => ?_
  have f_3 := q_is_eq f_2 e_5
  refine go_if (c := .ne) (o := 7) (t := 11) (P := ¬ (x_4 = 0)) (by decide +kernel) (by decide +kernel) f_3 (Iff.rfl) (fun hp_6 => ?_) (fun hp_6 => ?_)
  · have h := it_f hp_6 h
    refine go_iconst (n := 0) (z := 0) (by decide +kernel) (by decide) fun v_7 f_8 => ?_
    cases h
    exact go_iret (by decide +kernel) rfl (Or.inr ⟨rfl, by decide⟩) f_8 (hQ _ _ R (q_out_v (by decide) f_8))
  · have h := it_n hp_6 h
    refine go_iconst (n := 1) (z := 1) (by decide +kernel) (by decide) fun v_9 f_10 => ?_
    refine go_goto (o := 4) (t := 12) (by decide +kernel) (by decide +kernel) ?_
    cases h
    exact go_iret (by decide +kernel) rfl (Or.inr ⟨rfl, by decide⟩) f_10 (hQ _ _ R (q_out_v (by decide) f_10))
noncomputable def fm_X11_addRun (p1 p2 p3 p4 p5 : Int) (m0 : MM) : Option (Int × MM) := nw m0 7 20 fun x_1 m_2 =>
bp (fm_Jx4a65c_size_8abf5 7 m_2) fun x_18 =>
bd (fm_X6_init x_1 x_18 p1 p2 p3 p4 p5 m_2) fun x_27 m_28 =>
bd (fm_Jx4a65c_add_9ea2d 7 x_1 m_28) fun x_46 m_47 =>
some (x_1, m_47)
set_option maxHeartbeats 4000000 in
theorem om_X11_addRun {xs : List Int32} {d : Nat} {S : QS} {m0 : MM} {p1 p2 p3 p4 p5 : Int} {v0 : Value} {v1 : Value} {v2 : Value} {v3 : Value} {v4 : Value} {v5 : Value} {rz : Int} {rm : MM}
  (hd : 9 ≤ d) (R : Rp S m0) (f0 : q_is 2 v0 4) (f1 : q_is 0 v1 p1) (f2 : q_is 0 v2 p2) (f3 : q_is 0 v3 p3) (f4 : q_is 0 v4 p4) (f5 : q_is 0 v5 p5)
  (h : fm_X11_addRun p1 p2 p3 p4 p5 m0 = some (rz, rm)) : Mt xs d 150 [v0, v1, v2, v3, v4, v5] S (Cr 2 m0 rm rz) := by
  obtain ⟨d, rfl⟩ : ∃ e, d = e + 1 := ⟨d - 1, by omega⟩
  have hd : 8 ≤ d := Nat.le_of_succ_le_succ hd
  refine Mt.of (M := qM_X11_addRun) rfl (by rw [sl_1 (q_is_cat f0 (Or.inr rfl)), sl_1 (q_is_cat f1 (Or.inl rfl)), sl_1 (q_is_cat f2 (Or.inl rfl)), sl_1 (q_is_cat f3 (Or.inl rfl)), sl_1 (q_is_cat f4 (Or.inl rfl)), sl_1 (q_is_cat f5 (Or.inl rfl)), sl_0]; decide) ?_
  rw [la_1 (q_is_cat f0 (Or.inr rfl)), la_1 (q_is_cat f1 (Or.inl rfl)), la_1 (q_is_cat f2 (Or.inl rfl)), la_1 (q_is_cat f3 (Or.inl rfl)), la_1 (q_is_cat f4 (Or.inl rfl)), la_1 (q_is_cat f5 (Or.inl rfl)), la_0]
  obtain ⟨L, hL⟩ : ∃ L : QL, L = [(0, v0), (0 + 1, v1), (0 + 1 + 1, v2), (0 + 1 + 1 + 1, v3), (0 + 1 + 1 + 1 + 1, v4), (0 + 1 + 1 + 1 + 1 + 1, v5)] := ⟨_, rfl⟩
  rw [← hL]
  have l0 : q_lo L 0 = some v0 := by rw [hL]; rfl
  have l1 : q_lo L 1 = some v1 := by rw [hL]; rfl
  have l2 : q_lo L 2 = some v2 := by rw [hL]; rfl
  have l3 : q_lo L 3 = some v3 := by rw [hL]; rfl
  have l4 : q_lo L 4 = some v4 := by rw [hL]; rfl
  have l5 : q_lo L 5 = some v5 := by rw [hL]; rfl
  have hQ : Ext m0 rm → ∀ o S1, Rp S1 rm → q_out 2 o rz → (Cr 2 m0 rm rz) o S1 := fun a o S1 b e => ⟨b, a, e⟩
  unfold fm_X11_addRun at h
  obtain ⟨x_1, m_2, e_3, e_4, h⟩ := nw_s h
  have g_10 := okc_nw (c := 7) R e_3 e_4
  refine go_new (x := 181) (ci := 7) (n := 20) (b := 0) (by decide +kernel) (by decide +kernel) R e_3 e_4 fun v_5 S_7 f_6 R_8 E_9 => ?_
  have E_13 := E_9
  refine go_dup (by decide +kernel) f_6 (Or.inr rfl) ?_
  refine go_aload_n (n := 0) (by decide +kernel) l0 f0 ?_
  refine go_getf (x := 24) (ci := 12) (kf := 2) (fin := 1) (t := 2) (by decide +kernel) (by decide +kernel) (by decide +kernel) R_8 f0 (fx_k (c := 12) R_8 (by decide +kernel)) fun v_14 f_15 => ?_
  have f_16 := q_is_eq (b := 7) f_15 (fx_v R_8 (by decide +kernel)).symm
  obtain ⟨x_18, hc_17, h⟩ := bp_s h
  refine go_callV (x := 127) (mi := 326) (n := 0) (ci := 0) (as := []) (rest := [v_5, v_5]) (by decide +kernel) (by decide +kernel) rfl rfl (q_sum8 _ (Nat.le_of_ble_eq_true rfl)) R_8 f_16 (fx_k (c := 0) R_8 (by decide +kernel)) (om_Jx4a65c_size_8abf5 (Nat.le_trans (by decide) hd) R_8 (fx_k (c := 0) R_8 (by decide +kernel)) f_16 hc_17) (fun _ S_22 q_25 => ?_) (fun _ _ qq => kr_x qq)
  refine kr_z (by decide) q_25 fun v_20 f_21 R_23 E_24 => ?_
  refine go_iload_n (n := 1) (by decide +kernel) l1 f1 ?_
  refine go_iload_n (n := 2) (by decide +kernel) l2 f2 ?_
  refine go_iload_n (n := 3) (by decide +kernel) l3 f3 ?_
  refine go_iload (n := 4) (by decide +kernel) l4 f4 ?_
  refine go_iload (n := 5) (by decide +kernel) l5 f5 ?_
  obtain ⟨x_27, m_28, hc_26, h⟩ := bd_s h
  refine go_callI (x := 534) (mi := 65) (n := 6) (b := 0) (tg := 3) (as := [v_20, v1, v2, v3, v4, v5]) (rest := [v_5]) (by decide +kernel) (by decide +kernel) (by decide) rfl rfl (q_sum8 _ (Nat.le_of_ble_eq_true rfl)) f_6 (okc_ne g_10) (om_X6_init (Nat.le_trans (by decide) hd) R_23 g_10 f_6 f_21 f1 f2 f3 f4 f5 hc_26) (fun _ S_31 q_34 => ?_) (fun _ _ qq => kr_x qq)
  refine kr_v q_34 fun R_32 E_33 => ?_
  have E_37 := Ext.tr E_13 E_33
  refine go_astore (n := 6) (by decide +kernel) (by decide +kernel) f_6 fun L_38 l_39 kp_40 => ?_
  have l_41 := kp_40 0 _ l0 (by decide) (Or.inl (by decide))
  refine go_aload_n (n := 0) (by decide +kernel) l_41 f0 ?_
  refine go_getf (x := 24) (ci := 12) (kf := 2) (fin := 1) (t := 2) (by decide +kernel) (by decide +kernel) (by decide +kernel) R_32 f0 (fx_k (c := 12) R_32 (by decide +kernel)) fun v_42 f_43 => ?_
  have f_44 := q_is_eq (b := 7) f_43 (fx_v R_32 (by decide +kernel)).symm
  refine go_aload (n := 6) (by decide +kernel) l_39 f_6 ?_
  obtain ⟨x_46, m_47, hc_45, h⟩ := bd_s h
  refine go_callV (x := 300) (mi := 331) (n := 1) (ci := 0) (as := [v_5]) (rest := []) (by decide +kernel) (by decide +kernel) rfl rfl (q_sum8 _ (Nat.le_of_ble_eq_true rfl)) R_32 f_44 (fx_k (c := 0) R_32 (by decide +kernel)) (om_Jx4a65c_add_9ea2d (Nat.le_trans (by decide) hd) R_32 (fx_k (c := 0) R_32 (by decide +kernel)) f_44 f_6 hc_45) (fun _ S_50 q_53 => ?_) (fun _ _ qq => kr_x qq)
  refine kr_z (by decide) q_53 fun v_48 f_49 R_51 E_52 => ?_
  have E_56 := Ext.tr E_37 E_52
  refine go_pop (by decide +kernel) f_49 (Or.inl rfl) ?_
  refine go_aload (n := 6) (by decide +kernel) l_39 f_6 ?_
  cases h
  exact go_aret (by decide +kernel) rfl rfl f_6 (hQ E_56 _ _ R_51 (q_out_v (by decide) f_6))
end DF12
