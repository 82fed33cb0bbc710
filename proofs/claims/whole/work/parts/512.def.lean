/-! Methods as functions (written by wip/whole/dec.py), 12: Jx4a65c_add_9ea2d, X10_draftBecomesVersion, X11_typeAt, X11_line, X11_deploy, X11_kindAt, X11_setKind, X11_setPolicy, X11_checkTenant, X11_checkValue, Jx4a65c_isEmpty_aae02, X11_addRun. -/
section DF12
noncomputable def fm_Jx4a65c_add_9ea2d (p0 p1 : Int) (m0 : MM) : Option (Int × MM) := lx (m0 p0 0) fun x_4 =>
up m0 p0 0 (w32 (x_4 + 1)) fun m_10 =>
lx (m_10 p0 1) fun x_20 =>
lx (m_10 p0 2) fun x_25 =>
bd (fm_Jx4a65c_add_72be8 p0 p1 x_20 x_25 m_10) fun x_28 m_29 =>
some (1, m_29)
set_option maxHeartbeats 4000000 in
theorem om_Jx4a65c_add_9ea2d {xs : List Int32} {d : Nat} {S : QS} {m0 : MM} {p0 p1 : Int} {v0 : Value} {v1 : Value} {rz : Int} {rm : MM}
  (hd : 8 ≤ d) (R : Rp S m0) (g0 : okc m0 p0 0) (f0 : q_is 2 v0 p0) (f1 : q_is 2 v1 p1)
  (h : fm_Jx4a65c_add_9ea2d p0 p1 m0 = some (rz, rm)) : Mt xs d 331 [v0, v1] S (Cr 0 m0 rm rz) := by
  obtain ⟨d, rfl⟩ : ∃ e, d = e + 1 := ⟨d - 1, by omega⟩
  have hd : 7 ≤ d := Nat.le_of_succ_le_succ hd
  refine Mt.of (M := qM_Jx4a65c_add_9ea2d) rfl (by rw [sl_1 (q_is_cat f0 (Or.inr rfl)), sl_1 (q_is_cat f1 (Or.inr rfl)), sl_0]; decide) ?_
  rw [la_1 (q_is_cat f0 (Or.inr rfl)), la_1 (q_is_cat f1 (Or.inr rfl)), la_0]
  obtain ⟨L, hL⟩ : ∃ L : QL, L = [(0, v0), (0 + 1, v1)] := ⟨_, rfl⟩
  rw [← hL]
  have l0 : q_lo L 0 = some v0 := by rw [hL]; rfl
  have l1 : q_lo L 1 = some v1 := by rw [hL]; rfl
  have hQ : Ext m0 rm → ∀ o S1, Rp S1 rm → q_out 0 o rz → (Cr 0 m0 rm rz) o S1 := fun a o S1 b e => ⟨b, a, e⟩
  unfold fm_Jx4a65c_add_9ea2d at h
  refine go_aload_n (n := 0) (by decide +kernel) l0 f0 ?_
  refine go_dup (by decide +kernel) f0 (Or.inr rfl) ?_
  obtain ⟨x_4, e_5, h⟩ := lx_s h
  refine go_getf (x := 63) (ci := 0) (kf := 0) (fin := 0) (t := 0) (by decide +kernel) (by decide +kernel) (by decide +kernel) R f0 g0 fun v_1 f_2 => ?_
  have f_3 := q_is_eq f_2 e_5
  refine go_iconst (n := 1) (z := 1) (by decide +kernel) (by decide) fun v_6 f_7 => ?_
  refine go_iadd (by decide +kernel) f_3 f_7 fun v_8 f_9 => ?_
  obtain ⟨m_10, e_11, h⟩ := up_s h
  refine go_putf (x := 63) (ci := 0) (kf := 0) (fin := 0) (zt := 0) (by decide +kernel) (by decide +kernel) (by decide) (by decide +kernel) (by decide) (Or.inl rfl) R f0 f_9 (fun hq => absurd hq (by decide)) g0 e_11 (fx_f (j := 0) R.2 g0 (by decide +kernel)) fun S_12 R_13 E_14 => ?_
  have E_15 := E_14
  refine go_aload_n (n := 0) (by decide +kernel) l0 f0 ?_
  refine go_aload_n (n := 1) (by decide +kernel) l1 f1 ?_
  refine go_aload_n (n := 0) (by decide +kernel) l0 f0 ?_
  have g_18 := Ext.ok E_14 g0
  obtain ⟨x_20, e_21, h⟩ := lx_s h
  refine go_getf (x := 9) (ci := 0) (kf := 1) (fin := 0) (t := 2) (by decide +kernel) (by decide +kernel) (by decide +kernel) R_13 f0 g_18 fun v_16 f_17 => ?_
  have f_19 := q_is_eq f_17 e_21
  refine go_aload_n (n := 0) (by decide +kernel) l0 f0 ?_
  obtain ⟨x_25, e_26, h⟩ := lx_s h
  refine go_getf (x := 48) (ci := 0) (kf := 2) (fin := 0) (t := 0) (by decide +kernel) (by decide +kernel) (by decide +kernel) R_13 f0 g_18 fun v_22 f_23 => ?_
  have f_24 := q_is_eq f_23 e_26
  obtain ⟨x_28, m_29, hc_27, h⟩ := bd_s h
  refine go_callV (x := 131) (mi := 330) (n := 3) (ci := 0) (as := [v1, v_16, v_22]) (rest := []) (by decide +kernel) (by decide +kernel) rfl rfl (q_sum8 _ (Nat.le_of_ble_eq_true rfl)) R_13 f0 g_18 (om_Jx4a65c_add_72be8 (Nat.le_trans (by decide) hd) R_13 g_18 f0 f1 f_19 f_24 hc_27) (fun _ S_32 q_35 => ?_) (fun _ _ qq => kr_x qq)
  refine kr_v q_35 fun R_33 E_34 => ?_
  have E_36 := Ext.tr E_15 E_34
  refine go_iconst (n := 1) (z := 1) (by decide +kernel) (by decide) fun v_37 f_38 => ?_
  cases h
  exact go_iret (by decide +kernel) rfl (Or.inr ⟨rfl, by decide⟩) f_38 (hQ E_36 _ _ R_33 (q_out_v (by decide) f_38))
noncomputable def fm_X10_draftBecomesVersion (p0 : Int) (m0 : MM) : Option (Int × MM) := lx (m0 p0 0) fun x_4 =>
lx (m0 p0 1) fun x_9 =>
gd (okc m0 x_4 0) <| bd (fm_Jx4a65c_add_9ea2d x_4 x_9 m0) fun x_13 m_14 =>
nw m_14 6 3 fun x_22 m_23 =>
bd (fm_X5_init x_22 m_23) fun x_34 m_35 =>
up m_35 p0 1 x_22 fun m_44 =>
some (0, m_44)
set_option maxHeartbeats 4000000 in
theorem om_X10_draftBecomesVersion {xs : List Int32} {d : Nat} {S : QS} {m0 : MM} {p0 : Int} {v0 : Value} {rz : Int} {rm : MM}
  (hd : 9 ≤ d) (R : Rp S m0) (g0 : okc m0 p0 11) (f0 : q_is 2 v0 p0)
  (h : fm_X10_draftBecomesVersion p0 m0 = some (rz, rm)) : Mt xs d 98 [v0] S (Cr 9 m0 rm rz) := by
  obtain ⟨d, rfl⟩ : ∃ e, d = e + 1 := ⟨d - 1, by omega⟩
  have hd : 8 ≤ d := Nat.le_of_succ_le_succ hd
  refine Mt.of (M := qM_X10_draftBecomesVersion) rfl (by rw [sl_1 (q_is_cat f0 (Or.inr rfl)), sl_0]; decide) ?_
  rw [la_1 (q_is_cat f0 (Or.inr rfl)), la_0]
  obtain ⟨L, hL⟩ : ∃ L : QL, L = [(0, v0)] := ⟨_, rfl⟩
  rw [← hL]
  have l0 : q_lo L 0 = some v0 := by rw [hL]; rfl
  have hQ : Ext m0 rm → ∀ o S1, Rp S1 rm → q_out 9 o rz → (Cr 9 m0 rm rz) o S1 := fun a o S1 b e => ⟨b, a, e⟩
  unfold fm_X10_draftBecomesVersion at h
  refine go_aload_n (n := 0) (by decide +kernel) l0 f0 ?_
  obtain ⟨x_4, e_5, h⟩ := lx_s h
  refine go_getf (x := 10) (ci := 11) (kf := 0) (fin := 1) (t := 2) (by decide +kernel) (by decide +kernel) (by decide +kernel) R f0 g0 fun v_1 f_2 => ?_
  have f_3 := q_is_eq f_2 e_5
  refine go_aload_n (n := 0) (by decide +kernel) l0 f0 ?_
  obtain ⟨x_9, e_10, h⟩ := lx_s h
  refine go_getf (x := 19) (ci := 11) (kf := 1) (fin := 0) (t := 2) (by decide +kernel) (by decide +kernel) (by decide +kernel) R f0 g0 fun v_6 f_7 => ?_
  have f_8 := q_is_eq f_7 e_10
  obtain ⟨g_11, h⟩ := gd_s h
  obtain ⟨x_13, m_14, hc_12, h⟩ := bd_s h
  refine go_callV (x := 36) (mi := 331) (n := 1) (ci := 0) (as := [v_6]) (rest := []) (by decide +kernel) (by decide +kernel) rfl rfl (q_sum8 _ (Nat.le_of_ble_eq_true rfl)) R f_3 g_11 (om_Jx4a65c_add_9ea2d (Nat.le_trans (by decide) hd) R g_11 f_3 f_8 hc_12) (fun _ S_17 q_20 => ?_) (fun _ _ qq => kr_x qq)
  refine kr_z (by decide) q_20 fun v_15 f_16 R_18 E_19 => ?_
  have E_21 := E_19
  refine go_pop (by decide +kernel) f_16 (Or.inl rfl) ?_
  refine go_aload_n (n := 0) (by decide +kernel) l0 f0 ?_
  obtain ⟨x_22, m_23, e_24, e_25, h⟩ := nw_s h
  have g_31 := okc_nw (c := 6) R_18 e_24 e_25
  refine go_new (x := 16) (ci := 6) (n := 3) (b := 0) (by decide +kernel) (by decide +kernel) R_18 e_24 e_25 fun v_26 S_28 f_27 R_29 E_30 => ?_
  have E_32 := Ext.tr E_21 E_30
  refine go_dup (by decide +kernel) f_27 (Or.inr rfl) ?_
  obtain ⟨x_34, m_35, hc_33, h⟩ := bd_s h
  refine go_callI (x := 18) (mi := 57) (n := 0) (b := 0) (tg := 15) (as := []) (rest := [v_26, v0]) (by decide +kernel) (by decide +kernel) (by decide) rfl rfl (q_sum8 _ (Nat.le_of_ble_eq_true rfl)) f_27 (okc_ne g_31) (om_X5_init (Nat.le_trans (by decide) hd) R_29 g_31 f_27 hc_33) (fun _ S_38 q_41 => ?_) (fun _ _ qq => kr_x qq)
  refine kr_v q_41 fun R_39 E_40 => ?_
  have E_42 := Ext.tr E_32 E_40
  have g_43 := Ext.ok (Ext.tr (Ext.tr E_19 E_30) E_40) g0
  obtain ⟨m_44, e_45, h⟩ := up_s h
  refine go_putf (x := 19) (ci := 11) (kf := 1) (fin := 0) (zt := 2) (by decide +kernel) (by decide +kernel) (by decide) (by decide +kernel) (by decide) (Or.inl rfl) R_39 f0 f_27 (fun hq => absurd hq (by decide)) g_43 e_45 (fx_f (j := 1) R_39.2 g_43 (by decide +kernel)) fun S_46 R_47 E_48 => ?_
  have E_49 := Ext.tr E_42 E_48
  cases h
  exact go_vret (by decide +kernel) rfl (hQ E_49 _ _ R_47 q_out_n)
noncomputable def fm_X11_typeAt (p1 : Int) (m0 : MM) : Option ((Int ⊕ Nat) × MM) := if p1 < 0 then
some (.inr 0, mthr m0)
else
if p1 < 4 then
gd (0 ≤ p1 ∧ p1 < 4) <| lx (m0 5 p1) fun x_16 =>
some (.inl x_16, m0)
else
some (.inr 0, mthr m0)
set_option maxHeartbeats 4000000 in
theorem om_X11_typeAt {xs : List Int32} {d : Nat} {S : QS} {m0 : MM} {p1 : Int} {v0 : Value} {v1 : Value} {rr : Int ⊕ Nat} {rm : MM}
  (hd : 1 ≤ d) (R : Rp S m0) (f0 : q_is 2 v0 4) (f1 : q_is 0 v1 p1)
  (h : fm_X11_typeAt p1 m0 = some (rr, rm)) : Mt xs d 137 [v0, v1] S (Cx 2 m0 rm rr) := by
  obtain ⟨d, rfl⟩ : ∃ e, d = e + 1 := ⟨d - 1, by omega⟩
  have hd : 0 ≤ d := Nat.le_of_succ_le_succ hd
  refine Mt.of (M := qM_X11_typeAt) rfl (by rw [sl_1 (q_is_cat f0 (Or.inr rfl)), sl_1 (q_is_cat f1 (Or.inl rfl)), sl_0]; decide) ?_
  rw [la_1 (q_is_cat f0 (Or.inr rfl)), la_1 (q_is_cat f1 (Or.inl rfl)), la_0]
  obtain ⟨L, hL⟩ : ∃ L : QL, L = [(0, v0), (0 + 1, v1)] := ⟨_, rfl⟩
  rw [← hL]
  have l0 : q_lo L 0 = some v0 := by rw [hL]; rfl
  have l1 : q_lo L 1 = some v1 := by rw [hL]; rfl
  have hQ : Ext m0 rm → ∀ o S1, Rp S1 rm → q_oux 2 o rr → (Cx 2 m0 rm rr) o S1 := fun a o S1 b e => ⟨b, a, e⟩
  unfold fm_X11_typeAt at h
  refine go_iload_n (n := 1) (by decide +kernel) l1 f1 ?_
  refine go_if (c := .lt) (o := 12) (t := 13) (P := p1 < 0) (by decide +kernel) (by decide +kernel) f1 (Iff.rfl) (fun hp_1 => ?_) (fun hp_1 => ?_)
  · have h := it_t hp_1 h
    cases h
    exact go_thr (x := 255) (e := 0) (ic := 259) (b := 0) (by decide +kernel) (by decide +kernel) (by decide +kernel) R rfl fun Sq Rq Eq => hQ Eq _ _ Rq rfl
  · have h := it_f hp_1 h
    refine go_iload_n (n := 1) (by decide +kernel) l1 f1 ?_
    refine go_aload_n (n := 0) (by decide +kernel) l0 f0 ?_
    refine go_getf (x := 11) (ci := 12) (kf := 0) (fin := 1) (t := 2) (by decide +kernel) (by decide +kernel) (by decide +kernel) R f0 (fx_k (c := 12) R (by decide +kernel)) fun v_2 f_3 => ?_
    have f_4 := q_is_eq (b := 5) f_3 (fx_v R (by decide +kernel)).symm
    refine go_alen (by decide +kernel) R f_4 (okl_of (fx_k (c := 106) R (by decide +kernel)) (by decide)) fun v_5 f_6 => ?_
    have f_7 := q_is_eq (b := 4) f_6 (by rw [fx_l R (ln := 4) (by decide +kernel)]; decide)
    refine go_icmp (c := .lt) (o := 14) (t := 24) (P := p1 < 4) (by decide +kernel) (by decide +kernel) f1 f_7 (Iff.rfl) (fun hp_8 => ?_) (fun hp_8 => ?_)
    · have h := it_t hp_8 h
      refine go_aload_n (n := 0) (by decide +kernel) l0 f0 ?_
      refine go_getf (x := 11) (ci := 12) (kf := 0) (fin := 1) (t := 2) (by decide +kernel) (by decide +kernel) (by decide +kernel) R f0 (fx_k (c := 12) R (by decide +kernel)) fun v_9 f_10 => ?_
      have f_11 := q_is_eq (b := 5) f_10 (fx_v R (by decide +kernel)).symm
      refine go_iload_n (n := 1) (by decide +kernel) l1 f1 ?_
      obtain ⟨g_14, h⟩ := gd_s h
      obtain ⟨x_16, e_17, h⟩ := lx_s h
      refine go_aald (kd := 106) (by decide +kernel) (by decide) R f_11 f1 (fx_k (c := 106) R (by decide +kernel)) (fx_x (a := 5) (ln := 4) R (by decide +kernel) g_14) fun v_12 f_13 => ?_
      have f_15 := q_is_eq f_13 e_17
      cases h
      exact go_aret (by decide +kernel) rfl rfl f_15 (hQ (Ext.rf _) _ _ R (q_out_v (by decide) f_15))
    · have h := it_f hp_8 h
      cases h
      exact go_thr (x := 255) (e := 0) (ic := 259) (b := 0) (by decide +kernel) (by decide +kernel) (by decide +kernel) R rfl fun Sq Rq Eq => hQ Eq _ _ Rq rfl
noncomputable def fj_X11_line_53 (y2 y3 y4 y5 s0 : Int) (m : MM) : Option ((Int ⊕ Nat) × MM) := if y3 < s0 then
some (.inr 1, mthr m)
else
gd (0 ≤ y2 ∧ y2 < 24) <| if tA y2 < y3 then
some (.inr 1, mthr m)
else
if y4 < 0 then
some (.inr 1, mthr m)
else
if tB y2 < y4 then
some (.inr 1, mthr m)
else
gd (okc m y5 11) <| lx (m y5 1) fun x_62 =>
gd (okc m x_62 6) <| lx (m x_62 2) fun x_68 =>
if x_68 < 24 then
bp (fm_X10_packed y2 y3 y4 m) fun x_77 =>
bd (fm_X5_add x_62 x_77 m) fun x_88 m_89 =>
lx (m_89 y5 1) fun x_101 =>
gd (okc m_89 x_101 6) <| lx (m_89 x_101 2) fun x_107 =>
some (.inl x_107, m_89)
else
some (.inr 2, mthr m)
set_option maxHeartbeats 4000000 in
theorem oj_X11_line_53 {xs : List Int32} {d : Nat} {S : QS} {L : QL} {Q : QO → QS → Prop} {m : MM} {y2 y3 y4 y5 s0 : Int} {v2 : Value} {v3 : Value} {v4 : Value} {v5 : Value} {w0 : Value}  {rr : Int ⊕ Nat} {rm : MM}
  (hd : 1 ≤ d) (R : Rp S m) (l2 : q_lo L 2 = some v2) (f2 : q_is 0 v2 y2) (l3 : q_lo L 3 = some v3) (f3 : q_is 0 v3 y3) (l4 : q_lo L 4 = some v4) (f4 : q_is 0 v4 y4) (l5 : q_lo L 5 = some v5) (f5 : q_is 2 v5 y5) (fs0 : q_is 0 w0 s0)
  (hQ : Ext m rm → ∀ o S1, Rp S1 rm → q_oux 0 o rr → Q o S1)
  (h : fj_X11_line_53 y2 y3 y4 y5 s0 m = some (rr, rm)) : Go xs d qM_X11_line 53 L [w0] S Q := by
  unfold fj_X11_line_53 at h
  refine go_istore (n := 6) (by decide +kernel) (by decide +kernel) fs0 fun L_38 l_39 kp_40 => ?_
  have l_41 := kp_40 2 _ l2 (by decide) (Or.inl (by decide))
  have l_42 := kp_40 3 _ l3 (by decide) (Or.inl (by decide))
  have l_43 := kp_40 4 _ l4 (by decide) (Or.inl (by decide))
  have l_44 := kp_40 5 _ l5 (by decide) (Or.inr (q_is_cat f5 (Or.inr rfl)))
  refine go_iload_n (n := 3) (by decide +kernel) l_42 f3 ?_
  refine go_iload (n := 6) (by decide +kernel) l_39 fs0 ?_
  refine go_icmp (c := .lt) (o := 27) (t := 85) (P := y3 < s0) (by decide +kernel) (by decide +kernel) f3 fs0 (Iff.rfl) (fun hp_45 => ?_) (fun hp_45 => ?_)
  · have h := it_t hp_45 h
    cases h
    exact go_thr (x := 96) (e := 1) (ic := 100) (b := 0) (by decide +kernel) (by decide +kernel) (by decide +kernel) R rfl fun Sq Rq Eq => hQ Eq _ _ Rq rfl
  · have h := it_f hp_45 h
    refine go_iload_n (n := 3) (by decide +kernel) l_42 f3 ?_
    refine go_getst (x := 90) (n := 2) (a := 0) (b := 0) (z := 2) (by decide +kernel) (by decide +kernel) (by decide) (by decide) fun v_46 f_47 => ?_
    refine go_iload_n (n := 2) (by decide +kernel) l_41 f2 ?_
    obtain ⟨g_50, h⟩ := gd_s h
    refine go_ialA (by decide +kernel) f_47 f2 g_50 fun v_48 f_49 => ?_
    refine go_icmp (c := .gt) (o := 18) (t := 85) (P := tA y2 < y3) (by decide +kernel) (by decide +kernel) f3 f_49 (Iff.rfl) (fun hp_51 => ?_) (fun hp_51 => ?_)
    · have h := it_t hp_51 h
      cases h
      exact go_thr (x := 96) (e := 1) (ic := 100) (b := 0) (by decide +kernel) (by decide +kernel) (by decide +kernel) R rfl fun Sq Rq Eq => hQ Eq _ _ Rq rfl
    · have h := it_f hp_51 h
      refine go_iload (n := 4) (by decide +kernel) l_43 f4 ?_
      refine go_if (c := .lt) (o := 13) (t := 85) (P := y4 < 0) (by decide +kernel) (by decide +kernel) f4 (Iff.rfl) (fun hp_52 => ?_) (fun hp_52 => ?_)
      · have h := it_t hp_52 h
        cases h
        exact go_thr (x := 96) (e := 1) (ic := 100) (b := 0) (by decide +kernel) (by decide +kernel) (by decide +kernel) R rfl fun Sq Rq Eq => hQ Eq _ _ Rq rfl
      · have h := it_f hp_52 h
        refine go_iload (n := 4) (by decide +kernel) l_43 f4 ?_
        refine go_getst (x := 93) (n := 3) (a := 0) (b := 0) (z := 3) (by decide +kernel) (by decide +kernel) (by decide) (by decide) fun v_53 f_54 => ?_
        refine go_iload_n (n := 2) (by decide +kernel) l_41 f2 ?_
        refine go_ialB (by decide +kernel) f_54 f2 g_50 fun v_55 f_56 => ?_
        refine go_icmp (c := .le) (o := 13) (t := 95) (P := ¬ (tB y2 < y4)) (by decide +kernel) (by decide +kernel) f4 f_56 (Int.not_lt.symm) (fun hp_57 => ?_) (fun hp_57 => ?_)
        · have h := it_f hp_57 h
          refine go_aload (n := 5) (by decide +kernel) l_44 f5 ?_
          obtain ⟨g_60, h⟩ := gd_s h
          obtain ⟨x_62, e_63, h⟩ := lx_s h
          refine go_getf (x := 105) (ci := 11) (kf := 1) (fin := 0) (t := 2) (by decide +kernel) (by decide +kernel) (by decide +kernel) R f5 g_60 fun v_58 f_59 => ?_
          have f_61 := q_is_eq f_59 e_63
          obtain ⟨g_66, h⟩ := gd_s h
          obtain ⟨x_68, e_69, h⟩ := lx_s h
          refine go_getf (x := 108) (ci := 6) (kf := 2) (fin := 0) (t := 0) (by decide +kernel) (by decide +kernel) (by decide +kernel) R f_61 g_66 fun v_64 f_65 => ?_
          have f_67 := q_is_eq f_65 e_69
          refine go_bipush (n := 24) (z := 24) (by decide +kernel) (by decide) fun v_70 f_71 => ?_
          refine go_icmp (c := .lt) (o := 13) (t := 118) (P := x_68 < 24) (by decide +kernel) (by decide +kernel) f_67 f_71 (Iff.rfl) (fun hp_72 => ?_) (fun hp_72 => ?_)
          · have h := it_t hp_72 h
            refine go_aload (n := 5) (by decide +kernel) l_44 f5 ?_
            refine go_getf (x := 105) (ci := 11) (kf := 1) (fin := 0) (t := 2) (by decide +kernel) (by decide +kernel) (by decide +kernel) R f5 g_60 fun v_73 f_74 => ?_
            have f_75 := q_is_eq f_74 e_63
            refine go_iload_n (n := 2) (by decide +kernel) l_41 f2 ?_
            refine go_iload_n (n := 3) (by decide +kernel) l_42 f3 ?_
            refine go_iload (n := 4) (by decide +kernel) l_43 f4 ?_
            obtain ⟨x_77, hc_76, h⟩ := bp_s h
            refine go_callS (x := 116) (mi := 96) (n := 3) (b := 0) (as := [v2, v3, v4]) (rest := [v_73]) (by decide +kernel) (by decide +kernel) rfl rfl (q_sum8 _ (Nat.le_of_ble_eq_true rfl)) (om_X10_packed (Nat.le_trans (by decide) hd) R f2 f3 f4 hc_76) (fun _ S_81 q_84 => ?_) (fun _ _ qq => kr_x qq)
            refine kr_z (by decide) q_84 fun v_79 f_80 R_82 E_83 => ?_
            refine go_i2l (by decide +kernel) f_80 fun v_85 f_86 => ?_
            obtain ⟨x_88, m_89, hc_87, h⟩ := bd_s h
            refine go_callV (x := 120) (mi := 60) (n := 1) (ci := 6) (as := [v_85]) (rest := []) (by decide +kernel) (by decide +kernel) rfl rfl (q_sum8 _ (Nat.le_of_ble_eq_true rfl)) R_82 f_75 g_66 (om_X5_add (Nat.le_trans (by decide) hd) R_82 g_66 f_75 f_86 hc_87) (fun _ S_92 q_95 => ?_) (fun _ _ qq => kr_x qq)
            refine kr_v q_95 fun R_93 E_94 => ?_
            have E_96 := E_94
            refine go_aload (n := 5) (by decide +kernel) l_44 f5 ?_
            have g_99 := Ext.ok E_94 g_60
            obtain ⟨x_101, e_102, h⟩ := lx_s h
            refine go_getf (x := 105) (ci := 11) (kf := 1) (fin := 0) (t := 2) (by decide +kernel) (by decide +kernel) (by decide +kernel) R_93 f5 g_99 fun v_97 f_98 => ?_
            have f_100 := q_is_eq f_98 e_102
            obtain ⟨g_105, h⟩ := gd_s h
            obtain ⟨x_107, e_108, h⟩ := lx_s h
            refine go_getf (x := 108) (ci := 6) (kf := 2) (fin := 0) (t := 0) (by decide +kernel) (by decide +kernel) (by decide +kernel) R_93 f_100 g_105 fun v_103 f_104 => ?_
            have f_106 := q_is_eq f_104 e_108
            cases h
            exact go_iret (by decide +kernel) rfl (Or.inl rfl) f_106 (hQ E_96 _ _ R_93 (q_out_v (by decide) f_106))
          · have h := it_f hp_72 h
            cases h
            exact go_thr (x := 111) (e := 2) (ic := 115) (b := 0) (by decide +kernel) (by decide +kernel) (by decide +kernel) R rfl fun Sq Rq Eq => hQ Eq _ _ Rq rfl
        · have h := it_n hp_57 h
          cases h
          exact go_thr (x := 96) (e := 1) (ic := 100) (b := 0) (by decide +kernel) (by decide +kernel) (by decide +kernel) R rfl fun Sq Rq Eq => hQ Eq _ _ Rq rfl
noncomputable def fm_X11_line (p1 p2 p3 p4 : Int) (m0 : MM) : Option ((Int ⊕ Nat) × MM) := bx (fm_X11_typeAt p1 m0) (fun q_10 m_3 => some (.inr q_10, m_3)) fun x_2 m_3 =>
if p2 < 0 then
some (.inr 1, mthr m_3)
else
if 23 < p2 then
some (.inr 1, mthr m_3)
else
if p2 < 24 then
if p2 < 24 then
if p2 = 3 then
fj_X11_line_53 p2 p3 p4 x_2 1 m_3
else
fj_X11_line_53 p2 p3 p4 x_2 0 m_3
else
some (.inr 1, mthr m_3)
else
some (.inr 1, mthr m_3)
set_option maxHeartbeats 4000000 in
theorem om_X11_line {xs : List Int32} {d : Nat} {S : QS} {m0 : MM} {p1 p2 p3 p4 : Int} {v0 : Value} {v1 : Value} {v2 : Value} {v3 : Value} {v4 : Value} {rr : Int ⊕ Nat} {rm : MM}
  (hd : 2 ≤ d) (R : Rp S m0) (f0 : q_is 2 v0 4) (f1 : q_is 0 v1 p1) (f2 : q_is 0 v2 p2) (f3 : q_is 0 v3 p3) (f4 : q_is 0 v4 p4)
  (h : fm_X11_line p1 p2 p3 p4 m0 = some (rr, rm)) : Mt xs d 100 [v0, v1, v2, v3, v4] S (Cx 0 m0 rm rr) := by
  obtain ⟨d, rfl⟩ : ∃ e, d = e + 1 := ⟨d - 1, by omega⟩
  have hd : 1 ≤ d := Nat.le_of_succ_le_succ hd
  refine Mt.of (M := qM_X11_line) rfl (by rw [sl_1 (q_is_cat f0 (Or.inr rfl)), sl_1 (q_is_cat f1 (Or.inl rfl)), sl_1 (q_is_cat f2 (Or.inl rfl)), sl_1 (q_is_cat f3 (Or.inl rfl)), sl_1 (q_is_cat f4 (Or.inl rfl)), sl_0]; decide) ?_
  rw [la_1 (q_is_cat f0 (Or.inr rfl)), la_1 (q_is_cat f1 (Or.inl rfl)), la_1 (q_is_cat f2 (Or.inl rfl)), la_1 (q_is_cat f3 (Or.inl rfl)), la_1 (q_is_cat f4 (Or.inl rfl)), la_0]
  obtain ⟨L, hL⟩ : ∃ L : QL, L = [(0, v0), (0 + 1, v1), (0 + 1 + 1, v2), (0 + 1 + 1 + 1, v3), (0 + 1 + 1 + 1 + 1, v4)] := ⟨_, rfl⟩
  rw [← hL]
  have l0 : q_lo L 0 = some v0 := by rw [hL]; rfl
  have l1 : q_lo L 1 = some v1 := by rw [hL]; rfl
  have l2 : q_lo L 2 = some v2 := by rw [hL]; rfl
  have l3 : q_lo L 3 = some v3 := by rw [hL]; rfl
  have l4 : q_lo L 4 = some v4 := by rw [hL]; rfl
  have hQ : Ext m0 rm → ∀ o S1, Rp S1 rm → q_oux 0 o rr → (Cx 0 m0 rm rr) o S1 := fun a o S1 b e => ⟨b, a, e⟩
  unfold fm_X11_line at h
  refine go_aload_n (n := 0) (by decide +kernel) l0 f0 ?_
  refine go_iload_n (n := 1) (by decide +kernel) l1 f1 ?_
  obtain ⟨rr5, m_3, hc_1, h⟩ := bx_s h
  rcases h with ⟨q_10, rfl, h⟩ | ⟨x_2, rfl, h⟩
  · cases h
    exact go_callV (x := 86) (mi := 137) (n := 1) (ci := 12) (as := [v1]) (rest := []) (by decide +kernel) (by decide +kernel) rfl rfl (q_sum8 _ (Nat.le_of_ble_eq_true rfl)) R f0 (fx_k (c := 12) R (by decide +kernel)) (om_X11_typeAt (Nat.le_trans (by decide) hd) R f0 f1 hc_1) (fun _ _ qq => kx_lx qq) (fun _ _ qq => by
      obtain ⟨rfl, Rq, Eq⟩ := kx_e qq
      exact Or.inl ⟨rfl, hQ Eq _ _ Rq rfl⟩)
  refine go_callV (x := 86) (mi := 137) (n := 1) (ci := 12) (as := [v1]) (rest := []) (by decide +kernel) (by decide +kernel) rfl rfl (q_sum8 _ (Nat.le_of_ble_eq_true rfl)) R f0 (fx_k (c := 12) R (by decide +kernel)) (om_X11_typeAt (Nat.le_trans (by decide) hd) R f0 f1 hc_1) (fun _ S_6 q_9 => ?_) (fun _ _ qq => kr_x (kx_l qq))
  have q_9 := kx_l q_9
  refine kr_z (by decide) q_9 fun v_4 f_5 R_7 E_8 => ?_
  have E_12 := E_8
  refine go_astore (n := 5) (by decide +kernel) (by decide +kernel) f_5 fun L_13 l_14 kp_15 => ?_
  have l_16 := kp_15 2 _ l2 (by decide) (Or.inl (by decide))
  have l_17 := kp_15 3 _ l3 (by decide) (Or.inl (by decide))
  have l_18 := kp_15 4 _ l4 (by decide) (Or.inr (q_is_cat f4 (Or.inl rfl)))
  refine go_iload_n (n := 2) (by decide +kernel) l_16 f2 ?_
  refine go_if (c := .lt) (o := 25) (t := 33) (P := p2 < 0) (by decide +kernel) (by decide +kernel) f2 (Iff.rfl) (fun hp_19 => ?_) (fun hp_19 => ?_)
  · have h := it_t hp_19 h
    cases h
    exact go_thr (x := 96) (e := 1) (ic := 100) (b := 0) (by decide +kernel) (by decide +kernel) (by decide +kernel) R_7 rfl fun Sq Rq Eq => hQ (Ext.tr E_12 Eq) _ _ Rq rfl
  · have h := it_f hp_19 h
    refine go_iload_n (n := 2) (by decide +kernel) l_16 f2 ?_
    refine go_bipush (n := 23) (z := 23) (by decide +kernel) (by decide) fun v_20 f_21 => ?_
    refine go_icmp (c := .gt) (o := 19) (t := 33) (P := 23 < p2) (by decide +kernel) (by decide +kernel) f2 f_21 (Iff.rfl) (fun hp_22 => ?_) (fun hp_22 => ?_)
    · have h := it_t hp_22 h
      cases h
      exact go_thr (x := 96) (e := 1) (ic := 100) (b := 0) (by decide +kernel) (by decide +kernel) (by decide +kernel) R_7 rfl fun Sq Rq Eq => hQ (Ext.tr E_12 Eq) _ _ Rq rfl
    · have h := it_f hp_22 h
      refine go_iload_n (n := 2) (by decide +kernel) l_16 f2 ?_
      refine go_getst (x := 90) (n := 2) (a := 0) (b := 0) (z := 2) (by decide +kernel) (by decide +kernel) (by decide) (by decide) fun v_23 f_24 => ?_
      refine go_alen23 (by decide +kernel) f_24 (by decide) fun v_25 f_26 => ?_
      refine go_icmp (c := .ge) (o := 11) (t := 33) (P := ¬ (p2 < 24)) (by decide +kernel) (by decide +kernel) f2 f_26 (Int.not_lt.symm) (fun hp_27 => ?_) (fun hp_27 => ?_)
      · have h := it_f hp_27 h
        cases h
        exact go_thr (x := 96) (e := 1) (ic := 100) (b := 0) (by decide +kernel) (by decide +kernel) (by decide +kernel) R_7 rfl fun Sq Rq Eq => hQ (Ext.tr E_12 Eq) _ _ Rq rfl
      · have h := it_n hp_27 h
        refine go_iload_n (n := 2) (by decide +kernel) l_16 f2 ?_
        refine go_getst (x := 93) (n := 3) (a := 0) (b := 0) (z := 3) (by decide +kernel) (by decide +kernel) (by decide) (by decide) fun v_28 f_29 => ?_
        refine go_alen23 (by decide +kernel) f_29 (by decide) fun v_30 f_31 => ?_
        refine go_icmp (c := .lt) (o := 13) (t := 43) (P := p2 < 24) (by decide +kernel) (by decide +kernel) f2 f_31 (Iff.rfl) (fun hp_32 => ?_) (fun hp_32 => ?_)
        · have h := it_t hp_32 h
          refine go_iload_n (n := 2) (by decide +kernel) l_16 f2 ?_
          refine go_iconst (n := 3) (z := 3) (by decide +kernel) (by decide) fun v_33 f_34 => ?_
          refine go_icmp (c := .ne) (o := 7) (t := 52) (P := ¬ (p2 = 3)) (by decide +kernel) (by decide +kernel) f2 f_34 (Iff.rfl) (fun hp_35 => ?_) (fun hp_35 => ?_)
          · have h := it_f hp_35 h
            refine go_iconst (n := 0) (z := 0) (by decide +kernel) (by decide) fun v_36 f_37 => ?_
            exact oj_X11_line_53 hd R_7 l_16 f2 l_17 f3 l_18 f4 l_14 f_5 f_37 (fun b => hQ (Ext.tr E_12 b)) h
          · have h := it_n hp_35 h
            refine go_iconst (n := 1) (z := 1) (by decide +kernel) (by decide) fun v_109 f_110 => ?_
            refine go_goto (o := 4) (t := 53) (by decide +kernel) (by decide +kernel) ?_
            exact oj_X11_line_53 hd R_7 l_16 f2 l_17 f3 l_18 f4 l_14 f_5 f_110 (fun b => hQ (Ext.tr E_12 b)) h
        · have h := it_f hp_32 h
          cases h
          exact go_thr (x := 96) (e := 1) (ic := 100) (b := 0) (by decide +kernel) (by decide +kernel) (by decide +kernel) R_7 rfl fun Sq Rq Eq => hQ (Ext.tr E_12 Eq) _ _ Rq rfl
noncomputable def fm_X11_deploy (p1 : Int) (m0 : MM) : Option ((Int ⊕ Nat) × MM) := bx (fm_X11_typeAt p1 m0) (fun q_10 m_3 => some (.inr q_10, m_3)) fun x_2 m_3 =>
gd (okc m_3 x_2 11) <| lx (m_3 x_2 1) fun x_20 =>
gd (okc m_3 x_20 6) <| lx (m_3 x_20 2) fun x_26 =>
if x_26 = 0 then
some (.inr 2, mthr m_3)
else
lx (m_3 x_2 0) fun x_32 =>
gd (okc m_3 x_32 0) <| bp (fm_Jx4a65c_size_8abf5 x_32 m_3) fun x_36 =>
if x_36 < 4 then
bd (fm_X10_draftBecomesVersion x_2 m_3) fun x_48 m_49 =>
lx (m_49 x_2 0) fun x_61 =>
gd (okc m_49 x_61 0) <| bp (fm_Jx4a65c_size_8abf5 x_61 m_49) fun x_65 =>
some (.inl (w32 (x_65 - 1)), m_49)
else
some (.inr 2, mthr m_3)
set_option maxHeartbeats 4000000 in
theorem om_X11_deploy {xs : List Int32} {d : Nat} {S : QS} {m0 : MM} {p1 : Int} {v0 : Value} {v1 : Value} {rr : Int ⊕ Nat} {rm : MM}
  (hd : 10 ≤ d) (R : Rp S m0) (f0 : q_is 2 v0 4) (f1 : q_is 0 v1 p1)
  (h : fm_X11_deploy p1 m0 = some (rr, rm)) : Mt xs d 101 [v0, v1] S (Cx 0 m0 rm rr) := by
  obtain ⟨d, rfl⟩ : ∃ e, d = e + 1 := ⟨d - 1, by omega⟩
  have hd : 9 ≤ d := Nat.le_of_succ_le_succ hd
  refine Mt.of (M := qM_X11_deploy) rfl (by rw [sl_1 (q_is_cat f0 (Or.inr rfl)), sl_1 (q_is_cat f1 (Or.inl rfl)), sl_0]; decide) ?_
  rw [la_1 (q_is_cat f0 (Or.inr rfl)), la_1 (q_is_cat f1 (Or.inl rfl)), la_0]
  obtain ⟨L, hL⟩ : ∃ L : QL, L = [(0, v0), (0 + 1, v1)] := ⟨_, rfl⟩
  rw [← hL]
  have l0 : q_lo L 0 = some v0 := by rw [hL]; rfl
  have l1 : q_lo L 1 = some v1 := by rw [hL]; rfl
  have hQ : Ext m0 rm → ∀ o S1, Rp S1 rm → q_oux 0 o rr → (Cx 0 m0 rm rr) o S1 := fun a o S1 b e => ⟨b, a, e⟩
  unfold fm_X11_deploy at h
  refine go_aload_n (n := 0) (by decide +kernel) l0 f0 ?_
  refine go_iload_n (n := 1) (by decide +kernel) l1 f1 ?_
  obtain ⟨rr5, m_3, hc_1, h⟩ := bx_s h
  rcases h with ⟨q_10, rfl, h⟩ | ⟨x_2, rfl, h⟩
  · cases h
    exact go_callV (x := 86) (mi := 137) (n := 1) (ci := 12) (as := [v1]) (rest := []) (by decide +kernel) (by decide +kernel) rfl rfl (q_sum8 _ (Nat.le_of_ble_eq_true rfl)) R f0 (fx_k (c := 12) R (by decide +kernel)) (om_X11_typeAt (Nat.le_trans (by decide) hd) R f0 f1 hc_1) (fun _ _ qq => kx_lx qq) (fun _ _ qq => by
      obtain ⟨rfl, Rq, Eq⟩ := kx_e qq
      exact Or.inl ⟨rfl, hQ Eq _ _ Rq rfl⟩)
  refine go_callV (x := 86) (mi := 137) (n := 1) (ci := 12) (as := [v1]) (rest := []) (by decide +kernel) (by decide +kernel) rfl rfl (q_sum8 _ (Nat.le_of_ble_eq_true rfl)) R f0 (fx_k (c := 12) R (by decide +kernel)) (om_X11_typeAt (Nat.le_trans (by decide) hd) R f0 f1 hc_1) (fun _ S_6 q_9 => ?_) (fun _ _ qq => kr_x (kx_l qq))
  have q_9 := kx_l q_9
  refine kr_z (by decide) q_9 fun v_4 f_5 R_7 E_8 => ?_
  have E_12 := E_8
  refine go_astore_n (n := 2) (by decide +kernel) (by decide +kernel) f_5 fun L_13 l_14 kp_15 => ?_
  refine go_aload_n (n := 2) (by decide +kernel) l_14 f_5 ?_
  obtain ⟨g_18, h⟩ := gd_s h
  obtain ⟨x_20, e_21, h⟩ := lx_s h
  refine go_getf (x := 105) (ci := 11) (kf := 1) (fin := 0) (t := 2) (by decide +kernel) (by decide +kernel) (by decide +kernel) R_7 f_5 g_18 fun v_16 f_17 => ?_
  have f_19 := q_is_eq f_17 e_21
  obtain ⟨g_24, h⟩ := gd_s h
  obtain ⟨x_26, e_27, h⟩ := lx_s h
  refine go_getf (x := 108) (ci := 6) (kf := 2) (fin := 0) (t := 0) (by decide +kernel) (by decide +kernel) (by decide +kernel) R_7 f_19 g_24 fun v_22 f_23 => ?_
  have f_25 := q_is_eq f_23 e_27
  refine go_if (c := .eq) (o := 14) (t := 27) (P := x_26 = 0) (by decide +kernel) (by decide +kernel) f_25 (Iff.rfl) (fun hp_28 => ?_) (fun hp_28 => ?_)
  · have h := it_t hp_28 h
    cases h
    exact go_thr (x := 111) (e := 2) (ic := 115) (b := 0) (by decide +kernel) (by decide +kernel) (by decide +kernel) R_7 rfl fun Sq Rq Eq => hQ (Ext.tr E_12 Eq) _ _ Rq rfl
  · have h := it_f hp_28 h
    refine go_aload_n (n := 2) (by decide +kernel) l_14 f_5 ?_
    obtain ⟨x_32, e_33, h⟩ := lx_s h
    refine go_getf (x := 124) (ci := 11) (kf := 0) (fin := 2) (t := 2) (by decide +kernel) (by decide +kernel) (by decide +kernel) R_7 f_5 g_18 fun v_29 f_30 => ?_
    have f_31 := q_is_eq f_30 e_33
    obtain ⟨g_34, h⟩ := gd_s h
    obtain ⟨x_36, hc_35, h⟩ := bp_s h
    refine go_callV (x := 127) (mi := 326) (n := 0) (ci := 0) (as := []) (rest := []) (by decide +kernel) (by decide +kernel) rfl rfl (q_sum8 _ (Nat.le_of_ble_eq_true rfl)) R_7 f_31 g_34 (om_Jx4a65c_size_8abf5 (Nat.le_trans (by decide) hd) R_7 g_34 f_31 hc_35) (fun _ S_40 q_43 => ?_) (fun _ _ qq => kr_x qq)
    refine kr_z (by decide) q_43 fun v_38 f_39 R_41 E_42 => ?_
    refine go_iconst (n := 4) (z := 4) (by decide +kernel) (by decide) fun v_44 f_45 => ?_
    refine go_icmp (c := .lt) (o := 13) (t := 37) (P := x_36 < 4) (by decide +kernel) (by decide +kernel) f_39 f_45 (Iff.rfl) (fun hp_46 => ?_) (fun hp_46 => ?_)
    · have h := it_t hp_46 h
      refine go_aload_n (n := 2) (by decide +kernel) l_14 f_5 ?_
      obtain ⟨x_48, m_49, hc_47, h⟩ := bd_s h
      refine go_callV (x := 132) (mi := 98) (n := 0) (ci := 11) (as := []) (rest := []) (by decide +kernel) (by decide +kernel) rfl rfl (q_sum8 _ (Nat.le_of_ble_eq_true rfl)) R_41 f_5 g_18 (om_X10_draftBecomesVersion (Nat.le_trans (by decide) hd) R_41 g_18 f_5 hc_47) (fun _ S_52 q_55 => ?_) (fun _ _ qq => kr_x qq)
      refine kr_v q_55 fun R_53 E_54 => ?_
      have E_56 := Ext.tr E_12 E_54
      refine go_aload_n (n := 2) (by decide +kernel) l_14 f_5 ?_
      have g_59 := Ext.ok E_54 g_18
      obtain ⟨x_61, e_62, h⟩ := lx_s h
      refine go_getf (x := 124) (ci := 11) (kf := 0) (fin := 2) (t := 2) (by decide +kernel) (by decide +kernel) (by decide +kernel) R_53 f_5 g_59 fun v_57 f_58 => ?_
      have f_60 := q_is_eq f_58 e_62
      obtain ⟨g_63, h⟩ := gd_s h
      obtain ⟨x_65, hc_64, h⟩ := bp_s h
      refine go_callV (x := 127) (mi := 326) (n := 0) (ci := 0) (as := []) (rest := []) (by decide +kernel) (by decide +kernel) rfl rfl (q_sum8 _ (Nat.le_of_ble_eq_true rfl)) R_53 f_60 g_63 (om_Jx4a65c_size_8abf5 (Nat.le_trans (by decide) hd) R_53 g_63 f_60 hc_64) (fun _ S_69 q_72 => ?_) (fun _ _ qq => kr_x qq)
      refine kr_z (by decide) q_72 fun v_67 f_68 R_70 E_71 => ?_
      refine go_iconst (n := 1) (z := 1) (by decide +kernel) (by decide) fun v_73 f_74 => ?_
      refine go_isub (by decide +kernel) f_68 f_74 fun v_75 f_76 => ?_
      cases h
      exact go_iret (by decide +kernel) rfl (Or.inl rfl) f_76 (hQ E_56 _ _ R_70 (q_out_v (by decide) f_76))
    · have h := it_f hp_46 h
      cases h
      exact go_thr (x := 111) (e := 2) (ic := 115) (b := 0) (by decide +kernel) (by decide +kernel) (by decide +kernel) R_41 rfl fun Sq Rq Eq => hQ (Ext.tr E_12 Eq) _ _ Rq rfl
noncomputable def fm_X11_kindAt (p1 : Int) (m0 : MM) : Option ((Int ⊕ Nat) × MM) := if p1 < 0 then
some (.inr 0, mthr m0)
else
if p1 < 4 then
gd (0 ≤ p1 ∧ p1 < 4) <| lx (m0 6 p1) fun x_16 =>
some (.inl x_16, m0)
else
some (.inr 0, mthr m0)
set_option maxHeartbeats 4000000 in
theorem om_X11_kindAt {xs : List Int32} {d : Nat} {S : QS} {m0 : MM} {p1 : Int} {v0 : Value} {v1 : Value} {rr : Int ⊕ Nat} {rm : MM}
  (hd : 1 ≤ d) (R : Rp S m0) (f0 : q_is 2 v0 4) (f1 : q_is 0 v1 p1)
  (h : fm_X11_kindAt p1 m0 = some (rr, rm)) : Mt xs d 138 [v0, v1] S (Cx 2 m0 rm rr) := by
  obtain ⟨d, rfl⟩ : ∃ e, d = e + 1 := ⟨d - 1, by omega⟩
  have hd : 0 ≤ d := Nat.le_of_succ_le_succ hd
  refine Mt.of (M := qM_X11_kindAt) rfl (by rw [sl_1 (q_is_cat f0 (Or.inr rfl)), sl_1 (q_is_cat f1 (Or.inl rfl)), sl_0]; decide) ?_
  rw [la_1 (q_is_cat f0 (Or.inr rfl)), la_1 (q_is_cat f1 (Or.inl rfl)), la_0]
  obtain ⟨L, hL⟩ : ∃ L : QL, L = [(0, v0), (0 + 1, v1)] := ⟨_, rfl⟩
  rw [← hL]
  have l0 : q_lo L 0 = some v0 := by rw [hL]; rfl
  have l1 : q_lo L 1 = some v1 := by rw [hL]; rfl
  have hQ : Ext m0 rm → ∀ o S1, Rp S1 rm → q_oux 2 o rr → (Cx 2 m0 rm rr) o S1 := fun a o S1 b e => ⟨b, a, e⟩
  unfold fm_X11_kindAt at h
  refine go_iload_n (n := 1) (by decide +kernel) l1 f1 ?_
  refine go_if (c := .lt) (o := 12) (t := 13) (P := p1 < 0) (by decide +kernel) (by decide +kernel) f1 (Iff.rfl) (fun hp_1 => ?_) (fun hp_1 => ?_)
  · have h := it_t hp_1 h
    cases h
    exact go_thr (x := 255) (e := 0) (ic := 259) (b := 0) (by decide +kernel) (by decide +kernel) (by decide +kernel) R rfl fun Sq Rq Eq => hQ Eq _ _ Rq rfl
  · have h := it_f hp_1 h
    refine go_iload_n (n := 1) (by decide +kernel) l1 f1 ?_
    refine go_aload_n (n := 0) (by decide +kernel) l0 f0 ?_
    refine go_getf (x := 17) (ci := 12) (kf := 1) (fin := 1) (t := 2) (by decide +kernel) (by decide +kernel) (by decide +kernel) R f0 (fx_k (c := 12) R (by decide +kernel)) fun v_2 f_3 => ?_
    have f_4 := q_is_eq (b := 6) f_3 (fx_v R (by decide +kernel)).symm
    refine go_alen (by decide +kernel) R f_4 (okl_of (fx_k (c := 104) R (by decide +kernel)) (by decide)) fun v_5 f_6 => ?_
    have f_7 := q_is_eq (b := 4) f_6 (by rw [fx_l R (ln := 4) (by decide +kernel)]; decide)
    refine go_icmp (c := .lt) (o := 14) (t := 24) (P := p1 < 4) (by decide +kernel) (by decide +kernel) f1 f_7 (Iff.rfl) (fun hp_8 => ?_) (fun hp_8 => ?_)
    · have h := it_t hp_8 h
      refine go_aload_n (n := 0) (by decide +kernel) l0 f0 ?_
      refine go_getf (x := 17) (ci := 12) (kf := 1) (fin := 1) (t := 2) (by decide +kernel) (by decide +kernel) (by decide +kernel) R f0 (fx_k (c := 12) R (by decide +kernel)) fun v_9 f_10 => ?_
      have f_11 := q_is_eq (b := 6) f_10 (fx_v R (by decide +kernel)).symm
      refine go_iload_n (n := 1) (by decide +kernel) l1 f1 ?_
      obtain ⟨g_14, h⟩ := gd_s h
      obtain ⟨x_16, e_17, h⟩ := lx_s h
      refine go_aald (kd := 104) (by decide +kernel) (by decide) R f_11 f1 (fx_k (c := 104) R (by decide +kernel)) (fx_x (a := 6) (ln := 4) R (by decide +kernel) g_14) fun v_12 f_13 => ?_
      have f_15 := q_is_eq f_13 e_17
      cases h
      exact go_aret (by decide +kernel) rfl rfl f_15 (hQ (Ext.rf _) _ _ R (q_out_v (by decide) f_15))
    · have h := it_f hp_8 h
      cases h
      exact go_thr (x := 255) (e := 0) (ic := 259) (b := 0) (by decide +kernel) (by decide +kernel) (by decide +kernel) R rfl fun Sq Rq Eq => hQ Eq _ _ Rq rfl
noncomputable def fm_X11_setKind (p1 p2 p3 p4 p5 p6 : Int) (m0 : MM) : Option ((Int ⊕ Nat) × MM) := bx (fm_X11_kindAt p1 m0) (fun q_10 m_3 => some (.inr q_10, m_3)) fun x_2 m_3 =>
if p2 < 1 then
some (.inr 1, mthr m_3)
else
if 4 < p2 then
some (.inr 1, mthr m_3)
else
if p3 < 0 then
some (.inr 1, mthr m_3)
else
if 20 < p3 then
some (.inr 1, mthr m_3)
else
if p4 < 0 then
some (.inr 1, mthr m_3)
else
if 50 < p4 then
some (.inr 1, mthr m_3)
else
if p5 < 0 then
some (.inr 1, mthr m_3)
else
if 50 < p5 then
some (.inr 1, mthr m_3)
else
if p6 < 0 then
some (.inr 1, mthr m_3)
else
if 50 < p6 then
some (.inr 1, mthr m_3)
else
gd (okc m_3 x_2 4) <| up m_3 x_2 0 p2 fun m_44 =>
up m_44 x_2 1 p3 fun m_51 =>
up m_51 x_2 2 p4 fun m_58 =>
up m_58 x_2 3 p5 fun m_65 =>
up m_65 x_2 4 p6 fun m_72 =>
some (.inl 0, m_72)
set_option maxHeartbeats 4000000 in
theorem om_X11_setKind {xs : List Int32} {d : Nat} {S : QS} {m0 : MM} {p1 p2 p3 p4 p5 p6 : Int} {v0 : Value} {v1 : Value} {v2 : Value} {v3 : Value} {v4 : Value} {v5 : Value} {v6 : Value} {rr : Int ⊕ Nat} {rm : MM}
  (hd : 2 ≤ d) (R : Rp S m0) (f0 : q_is 2 v0 4) (f1 : q_is 0 v1 p1) (f2 : q_is 0 v2 p2) (f3 : q_is 0 v3 p3) (f4 : q_is 0 v4 p4) (f5 : q_is 0 v5 p5) (f6 : q_is 0 v6 p6)
  (h : fm_X11_setKind p1 p2 p3 p4 p5 p6 m0 = some (rr, rm)) : Mt xs d 102 [v0, v1, v2, v3, v4, v5, v6] S (Cx 9 m0 rm rr) := by
  obtain ⟨d, rfl⟩ : ∃ e, d = e + 1 := ⟨d - 1, by omega⟩
  have hd : 1 ≤ d := Nat.le_of_succ_le_succ hd
  refine Mt.of (M := qM_X11_setKind) rfl (by rw [sl_1 (q_is_cat f0 (Or.inr rfl)), sl_1 (q_is_cat f1 (Or.inl rfl)), sl_1 (q_is_cat f2 (Or.inl rfl)), sl_1 (q_is_cat f3 (Or.inl rfl)), sl_1 (q_is_cat f4 (Or.inl rfl)), sl_1 (q_is_cat f5 (Or.inl rfl)), sl_1 (q_is_cat f6 (Or.inl rfl)), sl_0]; decide) ?_
  rw [la_1 (q_is_cat f0 (Or.inr rfl)), la_1 (q_is_cat f1 (Or.inl rfl)), la_1 (q_is_cat f2 (Or.inl rfl)), la_1 (q_is_cat f3 (Or.inl rfl)), la_1 (q_is_cat f4 (Or.inl rfl)), la_1 (q_is_cat f5 (Or.inl rfl)), la_1 (q_is_cat f6 (Or.inl rfl)), la_0]
  obtain ⟨L, hL⟩ : ∃ L : QL, L = [(0, v0), (0 + 1, v1), (0 + 1 + 1, v2), (0 + 1 + 1 + 1, v3), (0 + 1 + 1 + 1 + 1, v4), (0 + 1 + 1 + 1 + 1 + 1, v5), (0 + 1 + 1 + 1 + 1 + 1 + 1, v6)] := ⟨_, rfl⟩
  rw [← hL]
  have l0 : q_lo L 0 = some v0 := by rw [hL]; rfl
  have l1 : q_lo L 1 = some v1 := by rw [hL]; rfl
  have l2 : q_lo L 2 = some v2 := by rw [hL]; rfl
  have l3 : q_lo L 3 = some v3 := by rw [hL]; rfl
  have l4 : q_lo L 4 = some v4 := by rw [hL]; rfl
  have l5 : q_lo L 5 = some v5 := by rw [hL]; rfl
  have l6 : q_lo L 6 = some v6 := by rw [hL]; rfl
  have hQ : Ext m0 rm → ∀ o S1, Rp S1 rm → q_oux 9 o rr → (Cx 9 m0 rm rr) o S1 := fun a o S1 b e => ⟨b, a, e⟩
  unfold fm_X11_setKind at h
  refine go_aload_n (n := 0) (by decide +kernel) l0 f0 ?_
  refine go_iload_n (n := 1) (by decide +kernel) l1 f1 ?_
  obtain ⟨rr5, m_3, hc_1, h⟩ := bx_s h
  rcases h with ⟨q_10, rfl, h⟩ | ⟨x_2, rfl, h⟩
  · cases h
    exact go_callV (x := 135) (mi := 138) (n := 1) (ci := 12) (as := [v1]) (rest := []) (by decide +kernel) (by decide +kernel) rfl rfl (q_sum8 _ (Nat.le_of_ble_eq_true rfl)) R f0 (fx_k (c := 12) R (by decide +kernel)) (om_X11_kindAt (Nat.le_trans (by decide) hd) R f0 f1 hc_1) (fun _ _ qq => kx_lx qq) (fun _ _ qq => by
      obtain ⟨rfl, Rq, Eq⟩ := kx_e qq
      exact Or.inl ⟨rfl, hQ Eq _ _ Rq rfl⟩)
  refine go_callV (x := 135) (mi := 138) (n := 1) (ci := 12) (as := [v1]) (rest := []) (by decide +kernel) (by decide +kernel) rfl rfl (q_sum8 _ (Nat.le_of_ble_eq_true rfl)) R f0 (fx_k (c := 12) R (by decide +kernel)) (om_X11_kindAt (Nat.le_trans (by decide) hd) R f0 f1 hc_1) (fun _ S_6 q_9 => ?_) (fun _ _ qq => kr_x (kx_l qq))
  have q_9 := kx_l q_9
  refine kr_z (by decide) q_9 fun v_4 f_5 R_7 E_8 => ?_
  have E_12 := E_8
  refine go_astore (n := 7) (by decide +kernel) (by decide +kernel) f_5 fun L_13 l_14 kp_15 => ?_
  have l_16 := kp_15 2 _ l2 (by decide) (Or.inl (by decide))
  have l_17 := kp_15 3 _ l3 (by decide) (Or.inl (by decide))
  have l_18 := kp_15 4 _ l4 (by decide) (Or.inl (by decide))
  have l_19 := kp_15 5 _ l5 (by decide) (Or.inl (by decide))
  have l_20 := kp_15 6 _ l6 (by decide) (Or.inr (q_is_cat f6 (Or.inl rfl)))
  refine go_iload_n (n := 2) (by decide +kernel) l_16 f2 ?_
  refine go_iconst (n := 1) (z := 1) (by decide +kernel) (by decide) fun v_21 f_22 => ?_
  refine go_icmp (c := .lt) (o := 18) (t := 27) (P := p2 < 1) (by decide +kernel) (by decide +kernel) f2 f_22 (Iff.rfl) (fun hp_23 => ?_) (fun hp_23 => ?_)
  · have h := it_t hp_23 h
    cases h
    exact go_thr (x := 96) (e := 1) (ic := 100) (b := 0) (by decide +kernel) (by decide +kernel) (by decide +kernel) R_7 rfl fun Sq Rq Eq => hQ (Ext.tr E_12 Eq) _ _ Rq rfl
  · have h := it_f hp_23 h
    refine go_iload_n (n := 2) (by decide +kernel) l_16 f2 ?_
    refine go_iconst (n := 4) (z := 4) (by decide +kernel) (by decide) fun v_24 f_25 => ?_
    refine go_icmp (c := .gt) (o := 13) (t := 27) (P := 4 < p2) (by decide +kernel) (by decide +kernel) f2 f_25 (Iff.rfl) (fun hp_26 => ?_) (fun hp_26 => ?_)
    · have h := it_t hp_26 h
      cases h
      exact go_thr (x := 96) (e := 1) (ic := 100) (b := 0) (by decide +kernel) (by decide +kernel) (by decide +kernel) R_7 rfl fun Sq Rq Eq => hQ (Ext.tr E_12 Eq) _ _ Rq rfl
    · have h := it_f hp_26 h
      refine go_iload_n (n := 3) (by decide +kernel) l_17 f3 ?_
      refine go_if (c := .lt) (o := 9) (t := 27) (P := p3 < 0) (by decide +kernel) (by decide +kernel) f3 (Iff.rfl) (fun hp_27 => ?_) (fun hp_27 => ?_)
      · have h := it_t hp_27 h
        cases h
        exact go_thr (x := 96) (e := 1) (ic := 100) (b := 0) (by decide +kernel) (by decide +kernel) (by decide +kernel) R_7 rfl fun Sq Rq Eq => hQ (Ext.tr E_12 Eq) _ _ Rq rfl
      · have h := it_f hp_27 h
        refine go_iload_n (n := 3) (by decide +kernel) l_17 f3 ?_
        refine go_bipush (n := 20) (z := 20) (by decide +kernel) (by decide) fun v_28 f_29 => ?_
        refine go_icmp (c := .le) (o := 13) (t := 37) (P := ¬ (20 < p3)) (by decide +kernel) (by decide +kernel) f3 f_29 (Int.not_lt.symm) (fun hp_30 => ?_) (fun hp_30 => ?_)
        · have h := it_f hp_30 h
          refine go_iload (n := 4) (by decide +kernel) l_18 f4 ?_
          refine go_if (c := .lt) (o := 34) (t := 73) (P := p4 < 0) (by decide +kernel) (by decide +kernel) f4 (Iff.rfl) (fun hp_31 => ?_) (fun hp_31 => ?_)
          · have h := it_t hp_31 h
            cases h
            exact go_thr (x := 96) (e := 1) (ic := 100) (b := 0) (by decide +kernel) (by decide +kernel) (by decide +kernel) R_7 rfl fun Sq Rq Eq => hQ (Ext.tr E_12 Eq) _ _ Rq rfl
          · have h := it_f hp_31 h
            refine go_iload (n := 4) (by decide +kernel) l_18 f4 ?_
            refine go_bipush (n := 50) (z := 50) (by decide +kernel) (by decide) fun v_32 f_33 => ?_
            refine go_icmp (c := .gt) (o := 27) (t := 73) (P := 50 < p4) (by decide +kernel) (by decide +kernel) f4 f_33 (Iff.rfl) (fun hp_34 => ?_) (fun hp_34 => ?_)
            · have h := it_t hp_34 h
              cases h
              exact go_thr (x := 96) (e := 1) (ic := 100) (b := 0) (by decide +kernel) (by decide +kernel) (by decide +kernel) R_7 rfl fun Sq Rq Eq => hQ (Ext.tr E_12 Eq) _ _ Rq rfl
            · have h := it_f hp_34 h
              refine go_iload (n := 5) (by decide +kernel) l_19 f5 ?_
              refine go_if (c := .lt) (o := 22) (t := 73) (P := p5 < 0) (by decide +kernel) (by decide +kernel) f5 (Iff.rfl) (fun hp_35 => ?_) (fun hp_35 => ?_)
              · have h := it_t hp_35 h
                cases h
                exact go_thr (x := 96) (e := 1) (ic := 100) (b := 0) (by decide +kernel) (by decide +kernel) (by decide +kernel) R_7 rfl fun Sq Rq Eq => hQ (Ext.tr E_12 Eq) _ _ Rq rfl
              · have h := it_f hp_35 h
                refine go_iload (n := 5) (by decide +kernel) l_19 f5 ?_
                refine go_bipush (n := 50) (z := 50) (by decide +kernel) (by decide) fun v_36 f_37 => ?_
                refine go_icmp (c := .gt) (o := 15) (t := 73) (P := 50 < p5) (by decide +kernel) (by decide +kernel) f5 f_37 (Iff.rfl) (fun hp_38 => ?_) (fun hp_38 => ?_)
                · have h := it_t hp_38 h
                  cases h
                  exact go_thr (x := 96) (e := 1) (ic := 100) (b := 0) (by decide +kernel) (by decide +kernel) (by decide +kernel) R_7 rfl fun Sq Rq Eq => hQ (Ext.tr E_12 Eq) _ _ Rq rfl
                · have h := it_f hp_38 h
                  refine go_iload (n := 6) (by decide +kernel) l_20 f6 ?_
                  refine go_if (c := .lt) (o := 10) (t := 73) (P := p6 < 0) (by decide +kernel) (by decide +kernel) f6 (Iff.rfl) (fun hp_39 => ?_) (fun hp_39 => ?_)
                  · have h := it_t hp_39 h
                    cases h
                    exact go_thr (x := 96) (e := 1) (ic := 100) (b := 0) (by decide +kernel) (by decide +kernel) (by decide +kernel) R_7 rfl fun Sq Rq Eq => hQ (Ext.tr E_12 Eq) _ _ Rq rfl
                  · have h := it_f hp_39 h
                    refine go_iload (n := 6) (by decide +kernel) l_20 f6 ?_
                    refine go_bipush (n := 50) (z := 50) (by decide +kernel) (by decide) fun v_40 f_41 => ?_
                    refine go_icmp (c := .le) (o := 13) (t := 83) (P := ¬ (50 < p6)) (by decide +kernel) (by decide +kernel) f6 f_41 (Int.not_lt.symm) (fun hp_42 => ?_) (fun hp_42 => ?_)
                    · have h := it_f hp_42 h
                      refine go_aload (n := 7) (by decide +kernel) l_14 f_5 ?_
                      refine go_iload_n (n := 2) (by decide +kernel) l_16 f2 ?_
                      obtain ⟨g_43, h⟩ := gd_s h
                      obtain ⟨m_44, e_45, h⟩ := up_s h
                      refine go_putf (x := 143) (ci := 4) (kf := 0) (fin := 0) (zt := 0) (by decide +kernel) (by decide +kernel) (by decide) (by decide +kernel) (by decide) (Or.inl rfl) R_7 f_5 f2 (fun hq => absurd hq (by decide)) g_43 e_45 (fx_f (j := 0) R_7.2 g_43 (by decide +kernel)) fun S_46 R_47 E_48 => ?_
                      have E_49 := Ext.tr E_12 E_48
                      refine go_aload (n := 7) (by decide +kernel) l_14 f_5 ?_
                      refine go_iload_n (n := 3) (by decide +kernel) l_17 f3 ?_
                      have g_50 := Ext.ok E_48 g_43
                      obtain ⟨m_51, e_52, h⟩ := up_s h
                      refine go_putf (x := 146) (ci := 4) (kf := 1) (fin := 0) (zt := 0) (by decide +kernel) (by decide +kernel) (by decide) (by decide +kernel) (by decide) (Or.inl rfl) R_47 f_5 f3 (fun hq => absurd hq (by decide)) g_50 e_52 (fx_f (j := 1) R_47.2 g_50 (by decide +kernel)) fun S_53 R_54 E_55 => ?_
                      have E_56 := Ext.tr E_49 E_55
                      refine go_aload (n := 7) (by decide +kernel) l_14 f_5 ?_
                      refine go_iload (n := 4) (by decide +kernel) l_18 f4 ?_
                      have g_57 := Ext.ok E_55 g_50
                      obtain ⟨m_58, e_59, h⟩ := up_s h
                      refine go_putf (x := 149) (ci := 4) (kf := 2) (fin := 0) (zt := 0) (by decide +kernel) (by decide +kernel) (by decide) (by decide +kernel) (by decide) (Or.inl rfl) R_54 f_5 f4 (fun hq => absurd hq (by decide)) g_57 e_59 (fx_f (j := 2) R_54.2 g_57 (by decide +kernel)) fun S_60 R_61 E_62 => ?_
                      have E_63 := Ext.tr E_56 E_62
                      refine go_aload (n := 7) (by decide +kernel) l_14 f_5 ?_
                      refine go_iload (n := 5) (by decide +kernel) l_19 f5 ?_
                      have g_64 := Ext.ok E_62 g_57
                      obtain ⟨m_65, e_66, h⟩ := up_s h
                      refine go_putf (x := 152) (ci := 4) (kf := 3) (fin := 0) (zt := 0) (by decide +kernel) (by decide +kernel) (by decide) (by decide +kernel) (by decide) (Or.inl rfl) R_61 f_5 f5 (fun hq => absurd hq (by decide)) g_64 e_66 (fx_f (j := 3) R_61.2 g_64 (by decide +kernel)) fun S_67 R_68 E_69 => ?_
                      have E_70 := Ext.tr E_63 E_69
                      refine go_aload (n := 7) (by decide +kernel) l_14 f_5 ?_
                      refine go_iload (n := 6) (by decide +kernel) l_20 f6 ?_
                      have g_71 := Ext.ok E_69 g_64
                      obtain ⟨m_72, e_73, h⟩ := up_s h
                      refine go_putf (x := 155) (ci := 4) (kf := 4) (fin := 0) (zt := 0) (by decide +kernel) (by decide +kernel) (by decide) (by decide +kernel) (by decide) (Or.inl rfl) R_68 f_5 f6 (fun hq => absurd hq (by decide)) g_71 e_73 (fx_f (j := 4) R_68.2 g_71 (by decide +kernel)) fun S_74 R_75 E_76 => ?_
                      have E_77 := Ext.tr E_70 E_76
                      cases h
                      exact go_vret (by decide +kernel) rfl (hQ E_77 _ _ R_75 q_out_n)
                    · have h := it_n hp_42 h
                      cases h
                      exact go_thr (x := 96) (e := 1) (ic := 100) (b := 0) (by decide +kernel) (by decide +kernel) (by decide +kernel) R_7 rfl fun Sq Rq Eq => hQ (Ext.tr E_12 Eq) _ _ Rq rfl
        · have h := it_n hp_30 h
          cases h
          exact go_thr (x := 96) (e := 1) (ic := 100) (b := 0) (by decide +kernel) (by decide +kernel) (by decide +kernel) R_7 rfl fun Sq Rq Eq => hQ (Ext.tr E_12 Eq) _ _ Rq rfl
noncomputable def fm_X11_setPolicy (p1 p2 : Int) (m0 : MM) : Option ((Int ⊕ Nat) × MM) := bx (fm_X11_typeAt p1 m0) (fun q_10 m_3 => some (.inr q_10, m_3)) fun x_2 m_3 =>
if p2 < 0 then
some (.inr 1, mthr m_3)
else
if 2 < p2 then
some (.inr 1, mthr m_3)
else
gd (okc m_3 x_2 11) <| lx (m_3 x_2 2) fun x_25 =>
up m_3 x_2 2 p2 fun m_32 =>
some (.inl x_25, m_32)
set_option maxHeartbeats 4000000 in
theorem om_X11_setPolicy {xs : List Int32} {d : Nat} {S : QS} {m0 : MM} {p1 p2 : Int} {v0 : Value} {v1 : Value} {v2 : Value} {rr : Int ⊕ Nat} {rm : MM}
  (hd : 2 ≤ d) (R : Rp S m0) (f0 : q_is 2 v0 4) (f1 : q_is 0 v1 p1) (f2 : q_is 0 v2 p2)
  (h : fm_X11_setPolicy p1 p2 m0 = some (rr, rm)) : Mt xs d 103 [v0, v1, v2] S (Cx 0 m0 rm rr) := by
  obtain ⟨d, rfl⟩ : ∃ e, d = e + 1 := ⟨d - 1, by omega⟩
  have hd : 1 ≤ d := Nat.le_of_succ_le_succ hd
  refine Mt.of (M := qM_X11_setPolicy) rfl (by rw [sl_1 (q_is_cat f0 (Or.inr rfl)), sl_1 (q_is_cat f1 (Or.inl rfl)), sl_1 (q_is_cat f2 (Or.inl rfl)), sl_0]; decide) ?_
  rw [la_1 (q_is_cat f0 (Or.inr rfl)), la_1 (q_is_cat f1 (Or.inl rfl)), la_1 (q_is_cat f2 (Or.inl rfl)), la_0]
  obtain ⟨L, hL⟩ : ∃ L : QL, L = [(0, v0), (0 + 1, v1), (0 + 1 + 1, v2)] := ⟨_, rfl⟩
  rw [← hL]
  have l0 : q_lo L 0 = some v0 := by rw [hL]; rfl
  have l1 : q_lo L 1 = some v1 := by rw [hL]; rfl
  have l2 : q_lo L 2 = some v2 := by rw [hL]; rfl
  have hQ : Ext m0 rm → ∀ o S1, Rp S1 rm → q_oux 0 o rr → (Cx 0 m0 rm rr) o S1 := fun a o S1 b e => ⟨b, a, e⟩
  unfold fm_X11_setPolicy at h
  refine go_aload_n (n := 0) (by decide +kernel) l0 f0 ?_
  refine go_iload_n (n := 1) (by decide +kernel) l1 f1 ?_
  obtain ⟨rr5, m_3, hc_1, h⟩ := bx_s h
  rcases h with ⟨q_10, rfl, h⟩ | ⟨x_2, rfl, h⟩
  · cases h
    exact go_callV (x := 86) (mi := 137) (n := 1) (ci := 12) (as := [v1]) (rest := []) (by decide +kernel) (by decide +kernel) rfl rfl (q_sum8 _ (Nat.le_of_ble_eq_true rfl)) R f0 (fx_k (c := 12) R (by decide +kernel)) (om_X11_typeAt (Nat.le_trans (by decide) hd) R f0 f1 hc_1) (fun _ _ qq => kx_lx qq) (fun _ _ qq => by
      obtain ⟨rfl, Rq, Eq⟩ := kx_e qq
      exact Or.inl ⟨rfl, hQ Eq _ _ Rq rfl⟩)
  refine go_callV (x := 86) (mi := 137) (n := 1) (ci := 12) (as := [v1]) (rest := []) (by decide +kernel) (by decide +kernel) rfl rfl (q_sum8 _ (Nat.le_of_ble_eq_true rfl)) R f0 (fx_k (c := 12) R (by decide +kernel)) (om_X11_typeAt (Nat.le_trans (by decide) hd) R f0 f1 hc_1) (fun _ S_6 q_9 => ?_) (fun _ _ qq => kr_x (kx_l qq))
  have q_9 := kx_l q_9
  refine kr_z (by decide) q_9 fun v_4 f_5 R_7 E_8 => ?_
  have E_12 := E_8
  refine go_astore_n (n := 3) (by decide +kernel) (by decide +kernel) f_5 fun L_13 l_14 kp_15 => ?_
  have l_16 := kp_15 2 _ l2 (by decide) (Or.inr (q_is_cat f2 (Or.inl rfl)))
  refine go_iload_n (n := 2) (by decide +kernel) l_16 f2 ?_
  refine go_if (c := .lt) (o := 8) (t := 15) (P := p2 < 0) (by decide +kernel) (by decide +kernel) f2 (Iff.rfl) (fun hp_17 => ?_) (fun hp_17 => ?_)
  · have h := it_t hp_17 h
    cases h
    exact go_thr (x := 96) (e := 1) (ic := 100) (b := 0) (by decide +kernel) (by decide +kernel) (by decide +kernel) R_7 rfl fun Sq Rq Eq => hQ (Ext.tr E_12 Eq) _ _ Rq rfl
  · have h := it_f hp_17 h
    refine go_iload_n (n := 2) (by decide +kernel) l_16 f2 ?_
    refine go_iconst (n := 2) (z := 2) (by decide +kernel) (by decide) fun v_18 f_19 => ?_
    refine go_icmp (c := .le) (o := 13) (t := 25) (P := ¬ (2 < p2)) (by decide +kernel) (by decide +kernel) f2 f_19 (Int.not_lt.symm) (fun hp_20 => ?_) (fun hp_20 => ?_)
    · have h := it_f hp_20 h
      refine go_aload_n (n := 3) (by decide +kernel) l_14 f_5 ?_
      obtain ⟨g_23, h⟩ := gd_s h
      obtain ⟨x_25, e_26, h⟩ := lx_s h
      refine go_getf (x := 160) (ci := 11) (kf := 2) (fin := 0) (t := 0) (by decide +kernel) (by decide +kernel) (by decide +kernel) R_7 f_5 g_23 fun v_21 f_22 => ?_
      have f_24 := q_is_eq f_22 e_26
      refine go_istore (n := 4) (by decide +kernel) (by decide +kernel) f_24 fun L_27 l_28 kp_29 => ?_
      have l_30 := kp_29 2 _ l_16 (by decide) (Or.inl (by decide))
      have l_31 := kp_29 3 _ l_14 (by decide) (Or.inr (q_is_cat f_5 (Or.inr rfl)))
      refine go_aload_n (n := 3) (by decide +kernel) l_31 f_5 ?_
      refine go_iload_n (n := 2) (by decide +kernel) l_30 f2 ?_
      obtain ⟨m_32, e_33, h⟩ := up_s h
      refine go_putf (x := 160) (ci := 11) (kf := 2) (fin := 0) (zt := 0) (by decide +kernel) (by decide +kernel) (by decide) (by decide +kernel) (by decide) (Or.inl rfl) R_7 f_5 f2 (fun hq => absurd hq (by decide)) g_23 e_33 (fx_f (j := 2) R_7.2 g_23 (by decide +kernel)) fun S_34 R_35 E_36 => ?_
      have E_37 := Ext.tr E_12 E_36
      refine go_iload (n := 4) (by decide +kernel) l_28 f_24 ?_
      cases h
      exact go_iret (by decide +kernel) rfl (Or.inl rfl) f_24 (hQ E_37 _ _ R_35 (q_out_v (by decide) f_24))
    · have h := it_n hp_20 h
      cases h
      exact go_thr (x := 96) (e := 1) (ic := 100) (b := 0) (by decide +kernel) (by decide +kernel) (by decide +kernel) R_7 rfl fun Sq Rq Eq => hQ (Ext.tr E_12 Eq) _ _ Rq rfl
noncomputable def fm_X11_checkTenant (p1 : Int) (m0 : MM) : Option ((Int ⊕ Nat) × MM) := if p1 < 0 then
some (.inr 0, mthr m0)
else
if p1 < 3 then
some (.inl 0, m0)
else
some (.inr 0, mthr m0)
set_option maxHeartbeats 4000000 in
theorem om_X11_checkTenant {xs : List Int32} {d : Nat} {S : QS} {m0 : MM} {p1 : Int} {v0 : Value} {v1 : Value} {rr : Int ⊕ Nat} {rm : MM}
  (hd : 1 ≤ d) (R : Rp S m0) (f0 : q_is 2 v0 4) (f1 : q_is 0 v1 p1)
  (h : fm_X11_checkTenant p1 m0 = some (rr, rm)) : Mt xs d 143 [v0, v1] S (Cx 9 m0 rm rr) := by
  obtain ⟨d, rfl⟩ : ∃ e, d = e + 1 := ⟨d - 1, by omega⟩
  have hd : 0 ≤ d := Nat.le_of_succ_le_succ hd
  refine Mt.of (M := qM_X11_checkTenant) rfl (by rw [sl_1 (q_is_cat f0 (Or.inr rfl)), sl_1 (q_is_cat f1 (Or.inl rfl)), sl_0]; decide) ?_
  rw [la_1 (q_is_cat f0 (Or.inr rfl)), la_1 (q_is_cat f1 (Or.inl rfl)), la_0]
  obtain ⟨L, hL⟩ : ∃ L : QL, L = [(0, v0), (0 + 1, v1)] := ⟨_, rfl⟩
  rw [← hL]
  have l0 : q_lo L 0 = some v0 := by rw [hL]; rfl
  have l1 : q_lo L 1 = some v1 := by rw [hL]; rfl
  have hQ : Ext m0 rm → ∀ o S1, Rp S1 rm → q_oux 9 o rr → (Cx 9 m0 rm rr) o S1 := fun a o S1 b e => ⟨b, a, e⟩
  unfold fm_X11_checkTenant at h
  refine go_iload_n (n := 1) (by decide +kernel) l1 f1 ?_
  refine go_if (c := .lt) (o := 8) (t := 9) (P := p1 < 0) (by decide +kernel) (by decide +kernel) f1 (Iff.rfl) (fun hp_1 => ?_) (fun hp_1 => ?_)
  · have h := it_t hp_1 h
    cases h
    exact go_thr (x := 255) (e := 0) (ic := 259) (b := 0) (by decide +kernel) (by decide +kernel) (by decide +kernel) R rfl fun Sq Rq Eq => hQ Eq _ _ Rq rfl
  · have h := it_f hp_1 h
    refine go_iload_n (n := 1) (by decide +kernel) l1 f1 ?_
    refine go_iconst (n := 3) (z := 3) (by decide +kernel) (by decide) fun v_2 f_3 => ?_
    refine go_icmp (c := .lt) (o := 14) (t := 20) (P := p1 < 3) (by decide +kernel) (by decide +kernel) f1 f_3 (Iff.rfl) (fun hp_4 => ?_) (fun hp_4 => ?_)
    · have h := it_t hp_4 h
      cases h
      exact go_vret (by decide +kernel) rfl (hQ (Ext.rf _) _ _ R q_out_n)
    · have h := it_f hp_4 h
      cases h
      exact go_thr (x := 255) (e := 0) (ic := 259) (b := 0) (by decide +kernel) (by decide +kernel) (by decide +kernel) R rfl fun Sq Rq Eq => hQ Eq _ _ Rq rfl
noncomputable def fm_X11_checkValue (p1 : Int) (m0 : MM) : Option ((Int ⊕ Nat) × MM) := if p1 < 0 then
some (.inr 1, mthr m0)
else
if 999 < p1 then
some (.inr 1, mthr m0)
else
some (.inl 0, m0)
set_option maxHeartbeats 4000000 in
theorem om_X11_checkValue {xs : List Int32} {d : Nat} {S : QS} {m0 : MM} {p1 : Int} {v0 : Value} {v1 : Value} {rr : Int ⊕ Nat} {rm : MM}
  (hd : 1 ≤ d) (R : Rp S m0) (f0 : q_is 2 v0 4) (f1 : q_is 0 v1 p1)
  (h : fm_X11_checkValue p1 m0 = some (rr, rm)) : Mt xs d 147 [v0, v1] S (Cx 9 m0 rm rr) := by
  obtain ⟨d, rfl⟩ : ∃ e, d = e + 1 := ⟨d - 1, by omega⟩
  have hd : 0 ≤ d := Nat.le_of_succ_le_succ hd
  refine Mt.of (M := qM_X11_checkValue) rfl (by rw [sl_1 (q_is_cat f0 (Or.inr rfl)), sl_1 (q_is_cat f1 (Or.inl rfl)), sl_0]; decide) ?_
  rw [la_1 (q_is_cat f0 (Or.inr rfl)), la_1 (q_is_cat f1 (Or.inl rfl)), la_0]
  obtain ⟨L, hL⟩ : ∃ L : QL, L = [(0, v0), (0 + 1, v1)] := ⟨_, rfl⟩
  rw [← hL]
  have l0 : q_lo L 0 = some v0 := by rw [hL]; rfl
  have l1 : q_lo L 1 = some v1 := by rw [hL]; rfl
  have hQ : Ext m0 rm → ∀ o S1, Rp S1 rm → q_oux 9 o rr → (Cx 9 m0 rm rr) o S1 := fun a o S1 b e => ⟨b, a, e⟩
  unfold fm_X11_checkValue at h
  refine go_iload_n (n := 1) (by decide +kernel) l1 f1 ?_
  refine go_if (c := .lt) (o := 10) (t := 11) (P := p1 < 0) (by decide +kernel) (by decide +kernel) f1 (Iff.rfl) (fun hp_1 => ?_) (fun hp_1 => ?_)
  · have h := it_t hp_1 h
    cases h
    exact go_thr (x := 96) (e := 1) (ic := 100) (b := 0) (by decide +kernel) (by decide +kernel) (by decide +kernel) R rfl fun Sq Rq Eq => hQ Eq _ _ Rq rfl
  · have h := it_f hp_1 h
    refine go_iload_n (n := 1) (by decide +kernel) l1 f1 ?_
    refine go_sipush (n := 999) (z := 999) (by decide +kernel) (by decide) fun v_2 f_3 => ?_
    refine go_icmp (c := .le) (o := 14) (t := 22) (P := ¬ (999 < p1)) (by decide +kernel) (by decide +kernel) f1 f_3 (Int.not_lt.symm) (fun hp_4 => ?_) (fun hp_4 => ?_)
    · have h := it_f hp_4 h
      cases h
      exact go_vret (by decide +kernel) rfl (hQ (Ext.rf _) _ _ R q_out_n)
    · have h := it_n hp_4 h
      cases h
      exact go_thr (x := 96) (e := 1) (ic := 100) (b := 0) (by decide +kernel) (by decide +kernel) (by decide +kernel) R rfl fun Sq Rq Eq => hQ Eq _ _ Rq rfl
noncomputable def fm_Jx4a65c_isEmpty_aae02 (p0 : Int) (m0 : MM) : Option Int := lx (m0 p0 2) fun x_4 =>
if x_4 = 0 then
some 1
else
some 0
set_option maxHeartbeats 4000000 in
theorem om_Jx4a65c_isEmpty_aae02 {xs : List Int32} {d : Nat} {S : QS} {m0 : MM} {p0 : Int} {v0 : Value} {rz : Int}
  (hd : 1 ≤ d) (R : Rp S m0) (g0 : okc m0 p0 0) (f0 : q_is 2 v0 p0)
  (h : fm_Jx4a65c_isEmpty_aae02 p0 m0 = some rz) : Mt xs d 327 [v0] S (Cr 0 m0 m0 rz) := by
  obtain ⟨d, rfl⟩ : ∃ e, d = e + 1 := ⟨d - 1, by omega⟩
  have hd : 0 ≤ d := Nat.le_of_succ_le_succ hd
  refine Mt.of (M := qM_Jx4a65c_isEmpty_aae02) rfl (by rw [sl_1 (q_is_cat f0 (Or.inr rfl)), sl_0]; decide) ?_
  rw [la_1 (q_is_cat f0 (Or.inr rfl)), la_0]
  obtain ⟨L, hL⟩ : ∃ L : QL, L = [(0, v0)] := ⟨_, rfl⟩
  rw [← hL]
  have l0 : q_lo L 0 = some v0 := by rw [hL]; rfl
  have hQ : ∀ o S1, Rp S1 m0 → q_out 0 o rz → (Cr 0 m0 m0 rz) o S1 := fun o S1 a b => ⟨a, Ext.rf _, b⟩
  unfold fm_Jx4a65c_isEmpty_aae02 at h
  refine go_aload_n (n := 0) (by decide +kernel) l0 f0 ?_
  obtain ⟨x_4, e_5, h⟩ := lx_s h
  refine go_getf (x := 48) (ci := 0) (kf := 2) (fin := 0) (t := 0) (by decide +kernel) (by decide +kernel) (by decide +kernel) R f0 g0 fun v_1 f_2 => ?_
  have f_3 := q_is_eq f_2 e_5
  refine go_if (c := .ne) (o := 7) (t := 11) (P := ¬ (x_4 = 0)) (by decide +kernel) (by decide +kernel) f_3 (Iff.rfl) (fun hp_6 => ?_) (fun hp_6 => ?_)
  · have h := it_f hp_6 h
    refine go_iconst (n := 0) (z := 0) (by decide +kernel) (by decide) fun v_7 f_8 => ?_
    cases h
    exact go_iret (by decide +kernel) rfl (Or.inr ⟨rfl, by decide⟩) f_8 (hQ _ _ R (q_out_v (by decide) f_8))
  · have h := it_n hp_6 h
    refine go_iconst (n := 1) (z := 1) (by decide +kernel) (by decide) fun v_9 f_10 => ?_
    refine go_goto (o := 4) (t := 12) (by decide +kernel) (by decide +kernel) ?_
    cases h
    exact go_iret (by decide +kernel) rfl (Or.inr ⟨rfl, by decide⟩) f_10 (hQ _ _ R (q_out_v (by decide) f_10))
noncomputable def fm_X11_addRun (p1 p2 p3 p4 p5 : Int) (m0 : MM) : Option (Int × MM) := nw m0 7 20 fun x_1 m_2 =>
bp (fm_Jx4a65c_size_8abf5 7 m_2) fun x_16 =>
bd (fm_X6_init x_1 x_16 p1 p2 p3 p4 p5 m_2) fun x_25 m_26 =>
bd (fm_Jx4a65c_add_9ea2d 7 x_1 m_26) fun x_42 m_43 =>
some (x_1, m_43)
set_option maxHeartbeats 4000000 in
theorem om_X11_addRun {xs : List Int32} {d : Nat} {S : QS} {m0 : MM} {p1 p2 p3 p4 p5 : Int} {v0 : Value} {v1 : Value} {v2 : Value} {v3 : Value} {v4 : Value} {v5 : Value} {rz : Int} {rm : MM}
  (hd : 9 ≤ d) (R : Rp S m0) (f0 : q_is 2 v0 4) (f1 : q_is 0 v1 p1) (f2 : q_is 0 v2 p2) (f3 : q_is 0 v3 p3) (f4 : q_is 0 v4 p4) (f5 : q_is 0 v5 p5)
  (h : fm_X11_addRun p1 p2 p3 p4 p5 m0 = some (rz, rm)) : Mt xs d 150 [v0, v1, v2, v3, v4, v5] S (Cr 2 m0 rm rz) := by
  obtain ⟨d, rfl⟩ : ∃ e, d = e + 1 := ⟨d - 1, by omega⟩
  have hd : 8 ≤ d := Nat.le_of_succ_le_succ hd
  refine Mt.of (M := qM_X11_addRun) rfl (by rw [sl_1 (q_is_cat f0 (Or.inr rfl)), sl_1 (q_is_cat f1 (Or.inl rfl)), sl_1 (q_is_cat f2 (Or.inl rfl)), sl_1 (q_is_cat f3 (Or.inl rfl)), sl_1 (q_is_cat f4 (Or.inl rfl)), sl_1 (q_is_cat f5 (Or.inl rfl)), sl_0]; decide) ?_
  rw [la_1 (q_is_cat f0 (Or.inr rfl)), la_1 (q_is_cat f1 (Or.inl rfl)), la_1 (q_is_cat f2 (Or.inl rfl)), la_1 (q_is_cat f3 (Or.inl rfl)), la_1 (q_is_cat f4 (Or.inl rfl)), la_1 (q_is_cat f5 (Or.inl rfl)), la_0]
  obtain ⟨L, hL⟩ : ∃ L : QL, L = [(0, v0), (0 + 1, v1), (0 + 1 + 1, v2), (0 + 1 + 1 + 1, v3), (0 + 1 + 1 + 1 + 1, v4), (0 + 1 + 1 + 1 + 1 + 1, v5)] := ⟨_, rfl⟩
  rw [← hL]
  have l0 : q_lo L 0 = some v0 := by rw [hL]; rfl
  have l1 : q_lo L 1 = some v1 := by rw [hL]; rfl
  have l2 : q_lo L 2 = some v2 := by rw [hL]; rfl
  have l3 : q_lo L 3 = some v3 := by rw [hL]; rfl
  have l4 : q_lo L 4 = some v4 := by rw [hL]; rfl
  have l5 : q_lo L 5 = some v5 := by rw [hL]; rfl
  have hQ : Ext m0 rm → ∀ o S1, Rp S1 rm → q_out 2 o rz → (Cr 2 m0 rm rz) o S1 := fun a o S1 b e => ⟨b, a, e⟩
  unfold fm_X11_addRun at h
  obtain ⟨x_1, m_2, e_3, e_4, h⟩ := nw_s h
  have g_10 := okc_nw (c := 7) R e_3 e_4
  refine go_new (x := 181) (ci := 7) (n := 20) (b := 0) (by decide +kernel) (by decide +kernel) R e_3 e_4 fun v_5 S_7 f_6 R_8 E_9 => ?_
  have E_11 := E_9
  refine go_dup (by decide +kernel) f_6 (Or.inr rfl) ?_
  refine go_aload_n (n := 0) (by decide +kernel) l0 f0 ?_
  refine go_getf (x := 24) (ci := 12) (kf := 2) (fin := 1) (t := 2) (by decide +kernel) (by decide +kernel) (by decide +kernel) R_8 f0 (fx_k (c := 12) R_8 (by decide +kernel)) fun v_12 f_13 => ?_
  have f_14 := q_is_eq (b := 7) f_13 (fx_v R_8 (by decide +kernel)).symm
  obtain ⟨x_16, hc_15, h⟩ := bp_s h
  refine go_callV (x := 127) (mi := 326) (n := 0) (ci := 0) (as := []) (rest := [v_5, v_5]) (by decide +kernel) (by decide +kernel) rfl rfl (q_sum8 _ (Nat.le_of_ble_eq_true rfl)) R_8 f_14 (fx_k (c := 0) R_8 (by decide +kernel)) (om_Jx4a65c_size_8abf5 (Nat.le_trans (by decide) hd) R_8 (fx_k (c := 0) R_8 (by decide +kernel)) f_14 hc_15) (fun _ S_20 q_23 => ?_) (fun _ _ qq => kr_x qq)
  refine kr_z (by decide) q_23 fun v_18 f_19 R_21 E_22 => ?_
  refine go_iload_n (n := 1) (by decide +kernel) l1 f1 ?_
  refine go_iload_n (n := 2) (by decide +kernel) l2 f2 ?_
  refine go_iload_n (n := 3) (by decide +kernel) l3 f3 ?_
  refine go_iload (n := 4) (by decide +kernel) l4 f4 ?_
  refine go_iload (n := 5) (by decide +kernel) l5 f5 ?_
  obtain ⟨x_25, m_26, hc_24, h⟩ := bd_s h
  refine go_callI (x := 534) (mi := 65) (n := 6) (b := 0) (tg := 3) (as := [v_18, v1, v2, v3, v4, v5]) (rest := [v_5]) (by decide +kernel) (by decide +kernel) (by decide) rfl rfl (q_sum8 _ (Nat.le_of_ble_eq_true rfl)) f_6 (okc_ne g_10) (om_X6_init (Nat.le_trans (by decide) hd) R_21 g_10 f_6 f_19 f1 f2 f3 f4 f5 hc_24) (fun _ S_29 q_32 => ?_) (fun _ _ qq => kr_x qq)
  refine kr_v q_32 fun R_30 E_31 => ?_
  have E_33 := Ext.tr E_11 E_31
  refine go_astore (n := 6) (by decide +kernel) (by decide +kernel) f_6 fun L_34 l_35 kp_36 => ?_
  have l_37 := kp_36 0 _ l0 (by decide) (Or.inl (by decide))
  refine go_aload_n (n := 0) (by decide +kernel) l_37 f0 ?_
  refine go_getf (x := 24) (ci := 12) (kf := 2) (fin := 1) (t := 2) (by decide +kernel) (by decide +kernel) (by decide +kernel) R_30 f0 (fx_k (c := 12) R_30 (by decide +kernel)) fun v_38 f_39 => ?_
  have f_40 := q_is_eq (b := 7) f_39 (fx_v R_30 (by decide +kernel)).symm
  refine go_aload (n := 6) (by decide +kernel) l_35 f_6 ?_
  obtain ⟨x_42, m_43, hc_41, h⟩ := bd_s h
  refine go_callV (x := 300) (mi := 331) (n := 1) (ci := 0) (as := [v_5]) (rest := []) (by decide +kernel) (by decide +kernel) rfl rfl (q_sum8 _ (Nat.le_of_ble_eq_true rfl)) R_30 f_40 (fx_k (c := 0) R_30 (by decide +kernel)) (om_Jx4a65c_add_9ea2d (Nat.le_trans (by decide) hd) R_30 (fx_k (c := 0) R_30 (by decide +kernel)) f_40 f_6 hc_41) (fun _ S_46 q_49 => ?_) (fun _ _ qq => kr_x qq)
  refine kr_z (by decide) q_49 fun v_44 f_45 R_47 E_48 => ?_
  have E_50 := Ext.tr E_33 E_48
  refine go_pop (by decide +kernel) f_45 (Or.inl rfl) ?_
  refine go_aload (n := 6) (by decide +kernel) l_35 f_6 ?_
  cases h
  exact go_aret (by decide +kernel) rfl rfl f_6 (hQ E_50 _ _ R_47 (q_out_v (by decide) f_6))
end DF12
