/-! Methods as functions (written by wip/whole/dec.py), 6: X5_removeAt, X4_awake, X8_remove, X8_value, X4_endBranch, X4_doPlainLine. -/
section DF6
noncomputable def fl_X5_removeAt_17 (p0 : Int) (k43 : MM → Option (Int × MM)) : Nat → Int → MM → Option (Int × MM)
  | 0, _, _ => none
  | n + 1, y2, m => lx (m p0 2) fun x_22 =>
if y2 < x_22 then
bp (fm_X5_wide p0 y2 m) fun x_30 =>
bd (fm_X5_put p0 (w32 (y2 - 1)) x_30 m) fun x_39 m_40 =>
lx (w32 (y2 + 1)) fun x_53 =>
fl_X5_removeAt_17 p0 k43 n x_53 m_40
else
k43 m
set_option maxHeartbeats 4000000 in
theorem ol_X5_removeAt_17 {xs : List Int32} {d : Nat} {Q : QO → QS → Prop} {mb : MM} {p0 : Int} {k43 : MM → Option (Int × MM)} {rz : Int} {rm : MM}
  (hd : 1 ≤ d) (gb : okc mb p0 6)
  (hk43 : ∀ mq : MM, Ext mb mq → ∀ {Sq : QS} {Lq : QL} {u0 : Value}, k43 mq = some (rz, rm) → Rp Sq mq → q_lo Lq 0 = some u0 → q_is 2 u0 p0 → Go xs d qM_X5_removeAt 43 Lq [] Sq Q)
  (hQ : Ext mb rm → ∀ o S1, Rp S1 rm → q_out 9 o rz → Q o S1) :
  ∀ (n : Nat) {m : MM} {S : QS} {L : QL} {y2 : Int} {v0 : Value} {v2 : Value} , Ext mb m → fl_X5_removeAt_17 p0 k43 n y2 m = some (rz, rm) → Rp S m → q_lo L 0 = some v0 → q_is 2 v0 p0 → q_lo L 2 = some v2 → q_is 0 v2 y2 → Go xs d qM_X5_removeAt 17 L [] S Q := by
  intro n
  induction n with
  | zero => intro m S L y2 v0 v2; intro E h R l0 f0 l2 f2; cases h
  | succ n ih0 =>
    intro m S L y2 v0 v2; intro E h R l0 f0 l2 f2
    have ih : ∀ mq : MM, Ext mb mq → ∀ {z2 : Int} {Sq : QS} {Lq : QL} {u0 : Value} {u2 : Value}, fl_X5_removeAt_17 p0 k43 n z2 mq = some (rz, rm) → Rp Sq mq → q_lo Lq 0 = some u0 → q_is 2 u0 p0 → q_lo Lq 2 = some u2 → q_is 0 u2 z2 → Go xs d qM_X5_removeAt 17 Lq [] Sq Q := fun mq b => by intros; exact ih0 b ‹_› ‹_› ‹_› ‹_› ‹_› ‹_›
    have g0 := Ext.ok E gb
    unfold fl_X5_removeAt_17 at h
    refine go_iload_n (n := 2) (by decide +kernel) l2 f2 ?_
    refine go_aload_n (n := 0) (by decide +kernel) l0 f0 ?_
    obtain ⟨x_22, e_23, h⟩ := lx_s h
    refine go_getf (x := 19) (ci := 6) (kf := 2) (fin := 0) (t := 0) (by decide +kernel) (by decide +kernel) (by decide +kernel) R f0 g0 fun v_19 f_20 => ?_
    have f_21 := q_is_eq f_20 e_23
    refine go_icmp (c := .ge) (o := 21) (t := 43) (P := ¬ (y2 < x_22)) (by decide +kernel) (by decide +kernel) f2 f_21 (Int.not_lt.symm) (fun hp_24 => ?_) (fun hp_24 => ?_)
    · have h := it_f hp_24 h
      exact hk43 m E h R l0 f0
    · have h := it_n hp_24 h
      refine go_aload_n (n := 0) (by decide +kernel) l0 f0 ?_
      refine go_iload_n (n := 2) (by decide +kernel) l2 f2 ?_
      refine go_iconst (n := 1) (z := 1) (by decide +kernel) (by decide) fun v_25 f_26 => ?_
      refine go_isub (by decide +kernel) f2 f_26 fun v_27 f_28 => ?_
      refine go_aload_n (n := 0) (by decide +kernel) l0 f0 ?_
      refine go_iload_n (n := 2) (by decide +kernel) l2 f2 ?_
      obtain ⟨x_30, hc_29, h⟩ := bp_s h
      refine go_callV (x := 22) (mi := 58) (n := 1) (ci := 6) (as := [v2]) (rest := [v_27, v0]) (by decide +kernel) (by decide +kernel) rfl rfl (q_sum8 _ (Nat.le_of_ble_eq_true rfl)) R f0 g0 (om_X5_wide (Nat.le_trans (by decide) hd) R g0 f0 f2 hc_29) (fun _ S_34 q_37 => ?_) (fun _ _ qq => kr_x qq)
      refine kr_z (by decide) q_37 fun v_32 f_33 R_35 E_36 => ?_
      obtain ⟨x_39, m_40, hc_38, h⟩ := bd_s h
      refine go_callV (x := 26) (mi := 62) (n := 2) (ci := 6) (as := [v_27, v_32]) (rest := []) (by decide +kernel) (by decide +kernel) rfl rfl (q_sum8 _ (Nat.le_of_ble_eq_true rfl)) R_35 f0 g0 (om_X5_put (Nat.le_trans (by decide) hd) R_35 g0 f0 f_28 f_33 hc_38) (fun _ S_43 q_46 => ?_) (fun _ _ qq => kr_x qq)
      refine kr_v q_46 fun R_44 E_45 => ?_
      have E_47 := Ext.tr E E_45
      refine go_iinc (n := 2) (c := 1) (c' := 1) (by decide +kernel) (by decide +kernel) l2 f2 (by decide) fun L_48 v_49 f_50 l_51 kp_52 => ?_
      obtain ⟨x_53, e_54, h⟩ := lx_s h
      have f_55 := q_is_eq f_50 e_54
      have l_56 := kp_52 0 _ l0 (by decide) (Or.inl (by decide))
      refine go_goto (o := (-23)) (t := 17) (by decide +kernel) (by decide +kernel) ?_
      exact ih m_40 E_47 h R_44 l_56 f0 l_51 f_55
noncomputable def fm_X5_removeAt (p0 p1 : Int) (m0 : MM) : Option (Int × MM) := if p1 < 0 then
some (0, m0)
else
lx (m0 p0 2) fun x_5 =>
if p1 < x_5 then
lx (w32 (p1 + 1)) fun x_12 =>
fl_X5_removeAt_17 p0 (fun m_63 =>
lx (m_63 p0 2) fun x_70 =>
up m_63 p0 2 (w32 (x_70 - 1)) fun m_76 =>
some (0, m_76)) BIG x_12 m0
else
some (0, m0)
set_option maxHeartbeats 4000000 in
theorem om_X5_removeAt {xs : List Int32} {d : Nat} {S : QS} {m0 : MM} {p0 p1 : Int} {v0 : Value} {v1 : Value} {rz : Int} {rm : MM}
  (hd : 2 ≤ d) (R : Rp S m0) (g0 : okc m0 p0 6) (f0 : q_is 2 v0 p0) (f1 : q_is 0 v1 p1)
  (h : fm_X5_removeAt p0 p1 m0 = some (rz, rm)) : Mt xs d 61 [v0, v1] S (Cr 9 m0 rm rz) := by
  obtain ⟨d, rfl⟩ : ∃ e, d = e + 1 := ⟨d - 1, by omega⟩
  have hd : 1 ≤ d := Nat.le_of_succ_le_succ hd
  refine Mt.of (M := qM_X5_removeAt) rfl (by rw [sl_1 (q_is_cat f0 (Or.inr rfl)), sl_1 (q_is_cat f1 (Or.inl rfl)), sl_0]; decide) ?_
  rw [la_1 (q_is_cat f0 (Or.inr rfl)), la_1 (q_is_cat f1 (Or.inl rfl)), la_0]
  obtain ⟨L, hL⟩ : ∃ L : QL, L = [(0, v0), (0 + 1, v1)] := ⟨_, rfl⟩
  rw [← hL]
  have l0 : q_lo L 0 = some v0 := by rw [hL]; rfl
  have l1 : q_lo L 1 = some v1 := by rw [hL]; rfl
  have hQ : Ext m0 rm → ∀ o S1, Rp S1 rm → q_out 9 o rz → (Cr 9 m0 rm rz) o S1 := fun a o S1 b e => ⟨b, a, e⟩
  unfold fm_X5_removeAt at h
  refine go_iload_n (n := 1) (by decide +kernel) l1 f1 ?_
  refine go_if (c := .lt) (o := 11) (t := 12) (P := p1 < 0) (by decide +kernel) (by decide +kernel) f1 (Iff.rfl) (fun hp_1 => ?_) (fun hp_1 => ?_)
  · have h := it_t hp_1 h
    cases h
    exact go_vret (by decide +kernel) rfl (hQ (Ext.rf _) _ _ R q_out_n)
  · have h := it_f hp_1 h
    refine go_iload_n (n := 1) (by decide +kernel) l1 f1 ?_
    refine go_aload_n (n := 0) (by decide +kernel) l0 f0 ?_
    obtain ⟨x_5, e_6, h⟩ := lx_s h
    refine go_getf (x := 19) (ci := 6) (kf := 2) (fin := 0) (t := 0) (by decide +kernel) (by decide +kernel) (by decide +kernel) R f0 g0 fun v_2 f_3 => ?_
    have f_4 := q_is_eq f_3 e_6
    refine go_icmp (c := .lt) (o := 4) (t := 13) (P := p1 < x_5) (by decide +kernel) (by decide +kernel) f1 f_4 (Iff.rfl) (fun hp_7 => ?_) (fun hp_7 => ?_)
    · have h := it_t hp_7 h
      refine go_iload_n (n := 1) (by decide +kernel) l1 f1 ?_
      refine go_iconst (n := 1) (z := 1) (by decide +kernel) (by decide) fun v_8 f_9 => ?_
      refine go_iadd (by decide +kernel) f1 f_9 fun v_10 f_11 => ?_
      obtain ⟨x_12, e_13, h⟩ := lx_s h
      have f_14 := q_is_eq f_11 e_13
      refine go_istore_n (n := 2) (by decide +kernel) (by decide +kernel) f_14 fun L_15 l_16 kp_17 => ?_
      have l_18 := kp_17 0 _ l0 (by decide) (Or.inl (by decide))
      refine ol_X5_removeAt_17 hd  g0 ?_ hQ BIG (Ext.rf _) h R l_18 f0 l_16 f_14
      intro m_63 E_64
      intro S_60 L_61 v_57
      intro h R_62 l_58 f_59
      have E_65 := E_64
      refine go_aload_n (n := 0) (by decide +kernel) l_58 f_59 ?_
      refine go_dup (by decide +kernel) f_59 (Or.inr rfl) ?_
      have g_68 := Ext.ok E_64 g0
      obtain ⟨x_70, e_71, h⟩ := lx_s h
      refine go_getf (x := 19) (ci := 6) (kf := 2) (fin := 0) (t := 0) (by decide +kernel) (by decide +kernel) (by decide +kernel) R_62 f_59 g_68 fun v_66 f_67 => ?_
      have f_69 := q_is_eq f_67 e_71
      refine go_iconst (n := 1) (z := 1) (by decide +kernel) (by decide) fun v_72 f_73 => ?_
      refine go_isub (by decide +kernel) f_69 f_73 fun v_74 f_75 => ?_
      obtain ⟨m_76, e_77, h⟩ := up_s h
      refine go_putf (x := 19) (ci := 6) (kf := 2) (fin := 0) (zt := 0) (by decide +kernel) (by decide +kernel) (by decide) (by decide +kernel) (by decide) (Or.inl rfl) R_62 f_59 f_75 (fun hq => absurd hq (by decide)) g_68 e_77 (fx_f (j := 2) R_62.2 g_68 (by decide +kernel)) fun S_78 R_79 E_80 => ?_
      have E_81 := Ext.tr E_65 E_80
      cases h
      exact go_vret (by decide +kernel) rfl (hQ E_81 _ _ R_79 q_out_n)
    · have h := it_f hp_7 h
      cases h
      exact go_vret (by decide +kernel) rfl (hQ (Ext.rf _) _ _ R q_out_n)
noncomputable def fj_X4_awake_52 (y1 : Int) (m : MM) : Option (Int × MM) := gd (okc m y1 2) <| lx (m y1 4) fun x_14 =>
bd (fm_X1_goOnAt y1 (w32 (x_14 + 1)) m) fun x_21 m_22 =>
some (0, m_22)
set_option maxHeartbeats 4000000 in
theorem oj_X4_awake_52 {xs : List Int32} {d : Nat} {S : QS} {L : QL} {Q : QO → QS → Prop} {m : MM} {y1 : Int} {v1 : Value}  {rz : Int} {rm : MM}
  (hd : 2 ≤ d) (R : Rp S m) (l1 : q_lo L 1 = some v1) (f1 : q_is 2 v1 y1)
  (hQ : Ext m rm → ∀ o S1, Rp S1 rm → q_out 9 o rz → Q o S1)
  (h : fj_X4_awake_52 y1 m = some (rz, rm)) : Go xs d qM_X4_awake 52 L [] S Q := by
  unfold fj_X4_awake_52 at h
  refine go_aload_n (n := 1) (by decide +kernel) l1 f1 ?_
  refine go_aload_n (n := 1) (by decide +kernel) l1 f1 ?_
  obtain ⟨g_12, h⟩ := gd_s h
  obtain ⟨x_14, e_15, h⟩ := lx_s h
  refine go_getf (x := 168) (ci := 2) (kf := 4) (fin := 0) (t := 0) (by decide +kernel) (by decide +kernel) (by decide +kernel) R f1 g_12 fun v_10 f_11 => ?_
  have f_13 := q_is_eq f_11 e_15
  refine go_iconst (n := 1) (z := 1) (by decide +kernel) (by decide) fun v_16 f_17 => ?_
  refine go_iadd (by decide +kernel) f_13 f_17 fun v_18 f_19 => ?_
  obtain ⟨x_21, m_22, hc_20, h⟩ := bd_s h
  refine go_callV (x := 171) (mi := 5) (n := 1) (ci := 2) (as := [v_18]) (rest := []) (by decide +kernel) (by decide +kernel) rfl rfl (q_sum8 _ (Nat.le_of_ble_eq_true rfl)) R f1 g_12 (om_X1_goOnAt (Nat.le_trans (by decide) hd) R g_12 f1 f_19 hc_20) (fun _ S_25 q_28 => ?_) (fun _ _ qq => kr_x qq)
  refine kr_v q_28 fun R_26 E_27 => ?_
  have E_29 := E_27
  cases h
  exact go_vret (by decide +kernel) rfl (hQ E_29 _ _ R_26 q_out_n)
noncomputable def fm_X4_awake (p1 : Int) (m0 : MM) : Option (Int × MM) := gd (okc m0 p1 2) <| lx (m0 p1 7) fun x_5 =>
if x_5 = 3 then
lx (m0 p1 8) fun x_36 =>
bp (fm_X8_queue x_36 m0) fun x_39 =>
lx (m0 16 3) fun x_58 =>
lx (m0 p1 4) fun x_63 =>
gd (okc m0 x_58 6) <| bp (fm_X5_at x_58 x_63 m0) fun x_67 =>
gd (okc m0 x_39 6) <| bp (fm_X5_at x_39 0 m0) fun x_83 =>
bd (fm_X8_set (Int.tmod x_67 1000) x_83 m0) fun x_92 m_93 =>
bd (fm_X5_removeAt x_39 0 m_93) fun x_105 m_106 =>
fj_X4_awake_52 p1 m_106
else
fj_X4_awake_52 p1 m0
set_option maxHeartbeats 4000000 in
theorem om_X4_awake {xs : List Int32} {d : Nat} {S : QS} {m0 : MM} {p1 : Int} {v0 : Value} {v1 : Value} {rz : Int} {rm : MM}
  (hd : 3 ≤ d) (R : Rp S m0) (f0 : q_is 2 v0 16) (f1 : q_is 2 v1 p1)
  (h : fm_X4_awake p1 m0 = some (rz, rm)) : Mt xs d 46 [v0, v1] S (Cr 9 m0 rm rz) := by
  obtain ⟨d, rfl⟩ : ∃ e, d = e + 1 := ⟨d - 1, by omega⟩
  have hd : 2 ≤ d := Nat.le_of_succ_le_succ hd
  refine Mt.of (M := qM_X4_awake) rfl (by rw [sl_1 (q_is_cat f0 (Or.inr rfl)), sl_1 (q_is_cat f1 (Or.inr rfl)), sl_0]; decide) ?_
  rw [la_1 (q_is_cat f0 (Or.inr rfl)), la_1 (q_is_cat f1 (Or.inr rfl)), la_0]
  obtain ⟨L, hL⟩ : ∃ L : QL, L = [(0, v0), (0 + 1, v1)] := ⟨_, rfl⟩
  rw [← hL]
  have l0 : q_lo L 0 = some v0 := by rw [hL]; rfl
  have l1 : q_lo L 1 = some v1 := by rw [hL]; rfl
  have hQ : Ext m0 rm → ∀ o S1, Rp S1 rm → q_out 9 o rz → (Cr 9 m0 rm rz) o S1 := fun a o S1 b e => ⟨b, a, e⟩
  unfold fm_X4_awake at h
  refine go_aload_n (n := 1) (by decide +kernel) l1 f1 ?_
  obtain ⟨g_3, h⟩ := gd_s h
  obtain ⟨x_5, e_6, h⟩ := lx_s h
  refine go_getf (x := 163) (ci := 2) (kf := 7) (fin := 0) (t := 0) (by decide +kernel) (by decide +kernel) (by decide +kernel) R f1 g_3 fun v_1 f_2 => ?_
  have f_4 := q_is_eq f_2 e_6
  refine go_iconst (n := 3) (z := 3) (by decide +kernel) (by decide) fun v_7 f_8 => ?_
  refine go_icmp (c := .ne) (o := 47) (t := 52) (P := ¬ (x_5 = 3)) (by decide +kernel) (by decide +kernel) f_4 f_8 (Iff.rfl) (fun hp_9 => ?_) (fun hp_9 => ?_)
  · have h := it_f hp_9 h
    exact oj_X4_awake_52 hd R l1 f1 hQ h
  · have h := it_n hp_9 h
    refine go_aload_n (n := 0) (by decide +kernel) l0 f0 ?_
    refine go_getf (x := 10) (ci := 5) (kf := 0) (fin := 1) (t := 2) (by decide +kernel) (by decide +kernel) (by decide +kernel) R f0 (fx_k (c := 5) R (by decide +kernel)) fun v_30 f_31 => ?_
    have f_32 := q_is_eq (b := 17) f_31 (fx_v R (by decide +kernel)).symm
    refine go_aload_n (n := 1) (by decide +kernel) l1 f1 ?_
    obtain ⟨x_36, e_37, h⟩ := lx_s h
    refine go_getf (x := 195) (ci := 2) (kf := 8) (fin := 0) (t := 0) (by decide +kernel) (by decide +kernel) (by decide +kernel) R f1 g_3 fun v_33 f_34 => ?_
    have f_35 := q_is_eq f_34 e_37
    obtain ⟨x_39, hc_38, h⟩ := bp_s h
    refine go_callV (x := 137) (mi := 83) (n := 1) (ci := 9) (as := [v_33]) (rest := []) (by decide +kernel) (by decide +kernel) rfl rfl (q_sum8 _ (Nat.le_of_ble_eq_true rfl)) R f_32 (fx_k (c := 9) R (by decide +kernel)) (om_X8_queue (Nat.le_trans (by decide) hd) R f_32 f_35 hc_38) (fun _ S_43 q_46 => ?_) (fun _ _ qq => kr_x qq)
    refine kr_z (by decide) q_46 fun v_41 f_42 R_44 E_45 => ?_
    refine go_astore_n (n := 2) (by decide +kernel) (by decide +kernel) f_42 fun L_47 l_48 kp_49 => ?_
    have l_50 := kp_49 0 _ l0 (by decide) (Or.inl (by decide))
    have l_51 := kp_49 1 _ l1 (by decide) (Or.inr (q_is_cat f1 (Or.inr rfl)))
    refine go_aload_n (n := 0) (by decide +kernel) l_50 f0 ?_
    refine go_getf (x := 10) (ci := 5) (kf := 0) (fin := 1) (t := 2) (by decide +kernel) (by decide +kernel) (by decide +kernel) R_44 f0 (fx_k (c := 5) R_44 (by decide +kernel)) fun v_52 f_53 => ?_
    have f_54 := q_is_eq (b := 17) f_53 (fx_v R_44 (by decide +kernel)).symm
    refine go_aload_n (n := 0) (by decide +kernel) l_50 f0 ?_
    obtain ⟨x_58, e_59, h⟩ := lx_s h
    refine go_getf (x := 31) (ci := 5) (kf := 3) (fin := 0) (t := 2) (by decide +kernel) (by decide +kernel) (by decide +kernel) R_44 f0 (fx_k (c := 5) R_44 (by decide +kernel)) fun v_55 f_56 => ?_
    have f_57 := q_is_eq f_56 e_59
    refine go_aload_n (n := 1) (by decide +kernel) l_51 f1 ?_
    obtain ⟨x_63, e_64, h⟩ := lx_s h
    refine go_getf (x := 168) (ci := 2) (kf := 4) (fin := 0) (t := 0) (by decide +kernel) (by decide +kernel) (by decide +kernel) R_44 f1 g_3 fun v_60 f_61 => ?_
    have f_62 := q_is_eq f_61 e_64
    obtain ⟨g_65, h⟩ := gd_s h
    obtain ⟨x_67, hc_66, h⟩ := bp_s h
    refine go_callV (x := 174) (mi := 59) (n := 1) (ci := 6) (as := [v_60]) (rest := [v_52]) (by decide +kernel) (by decide +kernel) rfl rfl (q_sum8 _ (Nat.le_of_ble_eq_true rfl)) R_44 f_57 g_65 (om_X5_at (Nat.le_trans (by decide) hd) R_44 g_65 f_57 f_62 hc_66) (fun _ S_71 q_74 => ?_) (fun _ _ qq => kr_x qq)
    refine kr_z (by decide) q_74 fun v_69 f_70 R_72 E_73 => ?_
    refine go_sipush (n := 1000) (z := 1000) (by decide +kernel) (by decide) fun v_75 f_76 => ?_
    refine go_irem (by decide +kernel) f_70 f_76 (by decide) fun v_77 f_78 => ?_
    refine go_aload_n (n := 2) (by decide +kernel) l_48 f_42 ?_
    refine go_iconst (n := 0) (z := 0) (by decide +kernel) (by decide) fun v_79 f_80 => ?_
    obtain ⟨g_81, h⟩ := gd_s h
    obtain ⟨x_83, hc_82, h⟩ := bp_s h
    refine go_callV (x := 174) (mi := 59) (n := 1) (ci := 6) (as := [v_79]) (rest := [v_77, v_52]) (by decide +kernel) (by decide +kernel) rfl rfl (q_sum8 _ (Nat.le_of_ble_eq_true rfl)) R_72 f_42 g_81 (om_X5_at (Nat.le_trans (by decide) hd) R_72 g_81 f_42 f_80 hc_82) (fun _ S_87 q_90 => ?_) (fun _ _ qq => kr_x qq)
    refine kr_z (by decide) q_90 fun v_85 f_86 R_88 E_89 => ?_
    obtain ⟨x_92, m_93, hc_91, h⟩ := bd_s h
    refine go_callV (x := 129) (mi := 82) (n := 2) (ci := 9) (as := [v_77, v_85]) (rest := []) (by decide +kernel) (by decide +kernel) rfl rfl (q_sum8 _ (Nat.le_of_ble_eq_true rfl)) R_88 f_54 (fx_k (c := 9) R_88 (by decide +kernel)) (om_X8_set (Nat.le_trans (by decide) hd) R_88 f_54 f_78 f_86 hc_91) (fun _ S_96 q_99 => ?_) (fun _ _ qq => kr_x qq)
    refine kr_v q_99 fun R_97 E_98 => ?_
    have E_100 := E_98
    refine go_aload_n (n := 2) (by decide +kernel) l_48 f_42 ?_
    refine go_iconst (n := 0) (z := 0) (by decide +kernel) (by decide) fun v_101 f_102 => ?_
    have g_103 := Ext.ok E_98 g_81
    obtain ⟨x_105, m_106, hc_104, h⟩ := bd_s h
    refine go_callV (x := 263) (mi := 61) (n := 1) (ci := 6) (as := [v_101]) (rest := []) (by decide +kernel) (by decide +kernel) rfl rfl (q_sum8 _ (Nat.le_of_ble_eq_true rfl)) R_97 f_42 g_103 (om_X5_removeAt (Nat.le_trans (by decide) hd) R_97 g_103 f_42 f_102 hc_104) (fun _ S_109 q_112 => ?_) (fun _ _ qq => kr_x qq)
    refine kr_v q_112 fun R_110 E_111 => ?_
    have E_113 := Ext.tr E_100 E_111
    exact oj_X4_awake_52 hd R_110 l_51 f1 (fun b => hQ (Ext.tr E_113 b)) h
noncomputable def fl_X8_remove_2 (y1 : Int) (m : MM) (k35 : Int → Option (Int × MM)) : Nat → Int → Option (Int × MM)
  | 0, _ => none
  | n + 1, y2 => lx (m 17 5) fun x_11 =>
if y2 < x_11 then
if y2 < 12 then
gd (0 ≤ y2 ∧ y2 < 12) <| lx (m 19 y2) fun x_28 =>
gd (x_28 = 0 ∨ x_28 = 1 ∨ 4 ≤ x_28) <| gd (y1 = 0 ∨ y1 = 1 ∨ 4 ≤ y1) <| if x_28 = y1 then
k35 y2
else
lx (w32 (y2 + 1)) fun x_38 =>
fl_X8_remove_2 y1 m k35 n x_38
else
k35 y2
else
k35 y2
set_option maxHeartbeats 4000000 in
theorem ol_X8_remove_2 {xs : List Int32} {d : Nat} {Q : QO → QS → Prop} {m : MM} {y1 : Int} {k35 : Int → Option (Int × MM)} {rz : Int} {rm : MM}
  (hd : 0 ≤ d)
  (hk35 : ∀ {z2 : Int} {Sq : QS} {Lq : QL} {u0 : Value} {u1 : Value} {u2 : Value}, k35 z2 = some (rz, rm) → Rp Sq m → q_lo Lq 0 = some u0 → q_is 2 u0 17 → q_lo Lq 1 = some u1 → q_is 2 u1 y1 → q_lo Lq 2 = some u2 → q_is 0 u2 z2 → Go xs d qM_X8_remove 35 Lq [] Sq Q)
  (hQ : Ext m rm → ∀ o S1, Rp S1 rm → q_out 9 o rz → Q o S1) :
  ∀ (n : Nat) {S : QS} {L : QL} {y2 : Int} {v0 : Value} {v1 : Value} {v2 : Value} , fl_X8_remove_2 y1 m k35 n y2 = some (rz, rm) → Rp S m → q_lo L 0 = some v0 → q_is 2 v0 17 → q_lo L 1 = some v1 → q_is 2 v1 y1 → q_lo L 2 = some v2 → q_is 0 v2 y2 → Go xs d qM_X8_remove 2 L [] S Q := by
  intro n
  induction n with
  | zero => intro S L y2 v0 v1 v2; intro h R l0 f0 l1 f1 l2 f2; cases h
  | succ n ih0 =>
    intro S L y2 v0 v1 v2; intro h R l0 f0 l1 f1 l2 f2
    have ih : ∀ {z2 : Int} {Sq : QS} {Lq : QL} {u0 : Value} {u1 : Value} {u2 : Value}, fl_X8_remove_2 y1 m k35 n z2 = some (rz, rm) → Rp Sq m → q_lo Lq 0 = some u0 → q_is 2 u0 17 → q_lo Lq 1 = some u1 → q_is 2 u1 y1 → q_lo Lq 2 = some u2 → q_is 0 u2 z2 → Go xs d qM_X8_remove 2 Lq [] Sq Q := by intros; exact ih0 ‹_› ‹_› ‹_› ‹_› ‹_› ‹_› ‹_› ‹_›
    unfold fl_X8_remove_2 at h
    refine go_iload_n (n := 2) (by decide +kernel) l2 f2 ?_
    refine go_aload_n (n := 0) (by decide +kernel) l0 f0 ?_
    obtain ⟨x_11, e_12, h⟩ := lx_s h
    refine go_getf (x := 36) (ci := 9) (kf := 5) (fin := 0) (t := 0) (by decide +kernel) (by decide +kernel) (by decide +kernel) R f0 (fx_k (c := 9) R (by decide +kernel)) fun v_8 f_9 => ?_
    have f_10 := q_is_eq f_9 e_12
    refine go_icmp (c := .ge) (o := 28) (t := 35) (P := ¬ (y2 < x_11)) (by decide +kernel) (by decide +kernel) f2 f_10 (Int.not_lt.symm) (fun hp_13 => ?_) (fun hp_13 => ?_)
    · have h := it_f hp_13 h
      exact hk35 h R l0 f0 l1 f1 l2 f2
    · have h := it_n hp_13 h
      refine go_iload_n (n := 2) (by decide +kernel) l2 f2 ?_
      refine go_aload_n (n := 0) (by decide +kernel) l0 f0 ?_
      refine go_getf (x := 17) (ci := 9) (kf := 1) (fin := 1) (t := 2) (by decide +kernel) (by decide +kernel) (by decide +kernel) R f0 (fx_k (c := 9) R (by decide +kernel)) fun v_14 f_15 => ?_
      have f_16 := q_is_eq (b := 19) f_15 (fx_v R (by decide +kernel)).symm
      refine go_alen (by decide +kernel) R f_16 (okl_of (fx_k (c := 103) R (by decide +kernel)) (by decide)) fun v_17 f_18 => ?_
      have f_19 := q_is_eq (b := 12) f_18 (by rw [fx_l R (ln := 12) (by decide +kernel)]; decide)
      refine go_icmp (c := .ge) (o := 19) (t := 35) (P := ¬ (y2 < 12)) (by decide +kernel) (by decide +kernel) f2 f_19 (Int.not_lt.symm) (fun hp_20 => ?_) (fun hp_20 => ?_)
      · have h := it_f hp_20 h
        exact hk35 h R l0 f0 l1 f1 l2 f2
      · have h := it_n hp_20 h
        refine go_aload_n (n := 0) (by decide +kernel) l0 f0 ?_
        refine go_getf (x := 17) (ci := 9) (kf := 1) (fin := 1) (t := 2) (by decide +kernel) (by decide +kernel) (by decide +kernel) R f0 (fx_k (c := 9) R (by decide +kernel)) fun v_21 f_22 => ?_
        have f_23 := q_is_eq (b := 19) f_22 (fx_v R (by decide +kernel)).symm
        refine go_iload_n (n := 2) (by decide +kernel) l2 f2 ?_
        obtain ⟨g_26, h⟩ := gd_s h
        obtain ⟨x_28, e_29, h⟩ := lx_s h
        refine go_aald (kd := 103) (by decide +kernel) (by decide) R f_23 f2 (fx_k (c := 103) R (by decide +kernel)) (fx_x (a := 19) (ln := 12) R (by decide +kernel) g_26) fun v_24 f_25 => ?_
        have f_27 := q_is_eq f_25 e_29
        refine go_aload_n (n := 1) (by decide +kernel) l1 f1 ?_
        obtain ⟨g_31, h⟩ := gd_s h
        obtain ⟨g_32, h⟩ := gd_s h
        refine go_acmp (c := .eq) (o := 9) (t := 35) (P := x_28 = y1) (by decide +kernel) (by decide +kernel) f_27 f1 g_31 g_32 Iff.rfl (fun hp_30 => ?_) (fun hp_30 => ?_)
        · have h := it_t hp_30 h
          exact hk35 h R l0 f0 l1 f1 l2 f2
        · have h := it_f hp_30 h
          refine go_iinc (n := 2) (c := 1) (c' := 1) (by decide +kernel) (by decide +kernel) l2 f2 (by decide) fun L_33 v_34 f_35 l_36 kp_37 => ?_
          obtain ⟨x_38, e_39, h⟩ := lx_s h
          have f_40 := q_is_eq f_35 e_39
          have l_41 := kp_37 0 _ l0 (by decide) (Or.inl (by decide))
          have l_42 := kp_37 1 _ l1 (by decide) (Or.inr (q_is_cat f1 (Or.inr rfl)))
          refine go_goto (o := (-30)) (t := 2) (by decide +kernel) (by decide +kernel) ?_
          exact ih h R l_41 f0 l_42 f1 l_36 f_40
noncomputable def fl_X8_remove_57 (y1 : Int) (k94 : MM → Option (Int × MM)) : Nat → Int → MM → Option (Int × MM)
  | 0, _, _ => none
  | n + 1, y3, m => lx (m 17 5) fun x_84 =>
if y3 < x_84 then
if y3 < 12 then
gd (0 ≤ y3 ∧ y3 < 12) <| lx (m 19 y3) fun x_108 =>
gd (0 ≤ w32 (y3 - 1) ∧ w32 (y3 - 1) < 12) <| gd (x_108 = 0 ∨ okc m x_108 2) <| up m 19 (w32 (y3 - 1)) x_108 fun m_111 =>
lx (w32 (y3 + 1)) fun x_123 =>
fl_X8_remove_57 y1 k94 n x_123 m_111
else
k94 m
else
k94 m
set_option maxHeartbeats 4000000 in
theorem ol_X8_remove_57 {xs : List Int32} {d : Nat} {Q : QO → QS → Prop} {mb : MM} {y1 : Int} {k94 : MM → Option (Int × MM)} {rz : Int} {rm : MM}
  (hd : 0 ≤ d)
  (hk94 : ∀ mq : MM, Ext mb mq → ∀ {Sq : QS} {Lq : QL} {u0 : Value} {u1 : Value}, k94 mq = some (rz, rm) → Rp Sq mq → q_lo Lq 0 = some u0 → q_is 2 u0 17 → q_lo Lq 1 = some u1 → q_is 2 u1 y1 → Go xs d qM_X8_remove 94 Lq [] Sq Q)
  (hQ : Ext mb rm → ∀ o S1, Rp S1 rm → q_out 9 o rz → Q o S1) :
  ∀ (n : Nat) {m : MM} {S : QS} {L : QL} {y3 : Int} {v0 : Value} {v1 : Value} {v3 : Value} , Ext mb m → fl_X8_remove_57 y1 k94 n y3 m = some (rz, rm) → Rp S m → q_lo L 0 = some v0 → q_is 2 v0 17 → q_lo L 1 = some v1 → q_is 2 v1 y1 → q_lo L 3 = some v3 → q_is 0 v3 y3 → Go xs d qM_X8_remove 57 L [] S Q := by
  intro n
  induction n with
  | zero => intro m S L y3 v0 v1 v3; intro E h R l0 f0 l1 f1 l3 f3; cases h
  | succ n ih0 =>
    intro m S L y3 v0 v1 v3; intro E h R l0 f0 l1 f1 l3 f3
    have ih : ∀ mq : MM, Ext mb mq → ∀ {z3 : Int} {Sq : QS} {Lq : QL} {u0 : Value} {u1 : Value} {u3 : Value}, fl_X8_remove_57 y1 k94 n z3 mq = some (rz, rm) → Rp Sq mq → q_lo Lq 0 = some u0 → q_is 2 u0 17 → q_lo Lq 1 = some u1 → q_is 2 u1 y1 → q_lo Lq 3 = some u3 → q_is 0 u3 z3 → Go xs d qM_X8_remove 57 Lq [] Sq Q := fun mq b => by intros; exact ih0 b ‹_› ‹_› ‹_› ‹_› ‹_› ‹_› ‹_› ‹_›
    unfold fl_X8_remove_57 at h
    refine go_iload_n (n := 3) (by decide +kernel) l3 f3 ?_
    refine go_aload_n (n := 0) (by decide +kernel) l0 f0 ?_
    obtain ⟨x_84, e_85, h⟩ := lx_s h
    refine go_getf (x := 36) (ci := 9) (kf := 5) (fin := 0) (t := 0) (by decide +kernel) (by decide +kernel) (by decide +kernel) R f0 (fx_k (c := 9) R (by decide +kernel)) fun v_81 f_82 => ?_
    have f_83 := q_is_eq f_82 e_85
    refine go_icmp (c := .ge) (o := 32) (t := 94) (P := ¬ (y3 < x_84)) (by decide +kernel) (by decide +kernel) f3 f_83 (Int.not_lt.symm) (fun hp_86 => ?_) (fun hp_86 => ?_)
    · have h := it_f hp_86 h
      exact hk94 m E h R l0 f0 l1 f1
    · have h := it_n hp_86 h
      refine go_iload_n (n := 3) (by decide +kernel) l3 f3 ?_
      refine go_aload_n (n := 0) (by decide +kernel) l0 f0 ?_
      refine go_getf (x := 17) (ci := 9) (kf := 1) (fin := 1) (t := 2) (by decide +kernel) (by decide +kernel) (by decide +kernel) R f0 (fx_k (c := 9) R (by decide +kernel)) fun v_87 f_88 => ?_
      have f_89 := q_is_eq (b := 19) f_88 (fx_v R (by decide +kernel)).symm
      refine go_alen (by decide +kernel) R f_89 (okl_of (fx_k (c := 103) R (by decide +kernel)) (by decide)) fun v_90 f_91 => ?_
      have f_92 := q_is_eq (b := 12) f_91 (by rw [fx_l R (ln := 12) (by decide +kernel)]; decide)
      refine go_icmp (c := .ge) (o := 23) (t := 94) (P := ¬ (y3 < 12)) (by decide +kernel) (by decide +kernel) f3 f_92 (Int.not_lt.symm) (fun hp_93 => ?_) (fun hp_93 => ?_)
      · have h := it_f hp_93 h
        exact hk94 m E h R l0 f0 l1 f1
      · have h := it_n hp_93 h
        refine go_aload_n (n := 0) (by decide +kernel) l0 f0 ?_
        refine go_getf (x := 17) (ci := 9) (kf := 1) (fin := 1) (t := 2) (by decide +kernel) (by decide +kernel) (by decide +kernel) R f0 (fx_k (c := 9) R (by decide +kernel)) fun v_94 f_95 => ?_
        have f_96 := q_is_eq (b := 19) f_95 (fx_v R (by decide +kernel)).symm
        refine go_iload_n (n := 3) (by decide +kernel) l3 f3 ?_
        refine go_iconst (n := 1) (z := 1) (by decide +kernel) (by decide) fun v_97 f_98 => ?_
        refine go_isub (by decide +kernel) f3 f_98 fun v_99 f_100 => ?_
        refine go_aload_n (n := 0) (by decide +kernel) l0 f0 ?_
        refine go_getf (x := 17) (ci := 9) (kf := 1) (fin := 1) (t := 2) (by decide +kernel) (by decide +kernel) (by decide +kernel) R f0 (fx_k (c := 9) R (by decide +kernel)) fun v_101 f_102 => ?_
        have f_103 := q_is_eq (b := 19) f_102 (fx_v R (by decide +kernel)).symm
        refine go_iload_n (n := 3) (by decide +kernel) l3 f3 ?_
        obtain ⟨g_106, h⟩ := gd_s h
        obtain ⟨x_108, e_109, h⟩ := lx_s h
        refine go_aald (kd := 103) (by decide +kernel) (by decide) R f_103 f3 (fx_k (c := 103) R (by decide +kernel)) (fx_x (a := 19) (ln := 12) R (by decide +kernel) g_106) fun v_104 f_105 => ?_
        have f_107 := q_is_eq f_105 e_109
        obtain ⟨g_110, h⟩ := gd_s h
        obtain ⟨g_116, h⟩ := gd_s h
        obtain ⟨m_111, e_112, h⟩ := up_s h
        refine go_aast (kd := 103) (vk := 2) (by decide +kernel) (by decide) R f_96 f_100 f_107 (fx_k (c := 103) R (by decide +kernel)) (fx_x (a := 19) (ln := 12) R (by decide +kernel) g_110) g_116 e_112 (fx_a R.2 (fx_k (c := 103) R (by decide +kernel)) (And.left (fx_x (a := 19) (ln := 12) R (by decide +kernel) g_110)) (by decide +kernel)) fun S_113 R_114 E_115 => ?_
        have E_117 := Ext.tr E E_115
        refine go_iinc (n := 3) (c := 1) (c' := 1) (by decide +kernel) (by decide +kernel) l3 f3 (by decide) fun L_118 v_119 f_120 l_121 kp_122 => ?_
        obtain ⟨x_123, e_124, h⟩ := lx_s h
        have f_125 := q_is_eq f_120 e_124
        have l_126 := kp_122 0 _ l0 (by decide) (Or.inl (by decide))
        have l_127 := kp_122 1 _ l1 (by decide) (Or.inl (by decide))
        refine go_goto (o := (-34)) (t := 57) (by decide +kernel) (by decide +kernel) ?_
        exact ih m_111 E_117 h R_114 l_126 f0 l_127 f1 l_121 f_125
noncomputable def fl_X8_remove_116 (y1 : Int) : Nat → Int → MM → Option (Int × MM)
  | 0, _, _ => none
  | n + 1, y3, m => lx (m 17 5) fun x_181 =>
if y3 < x_181 then
gd (0 ≤ y3 ∧ y3 < 12) <| lx (m 19 y3) fun x_191 =>
gd (okc m x_191 2) <| lx (m x_191 2) fun x_197 =>
gd (okc m y1 2) <| lx (m y1 0) fun x_203 =>
if x_197 = x_203 then
lx (m y1 2) fun x_225 =>
up m x_191 2 x_225 fun m_227 =>
lx (w32 (y3 + 1)) fun x_238 =>
fl_X8_remove_116 y1 n x_238 m_227
else
lx (w32 (y3 + 1)) fun x_211 =>
fl_X8_remove_116 y1 n x_211 m
else
some (0, m)
set_option maxHeartbeats 4000000 in
theorem ol_X8_remove_116 {xs : List Int32} {d : Nat} {Q : QO → QS → Prop} {mb : MM} {y1 : Int} {rz : Int} {rm : MM}
  (hd : 0 ≤ d)
  (hQ : Ext mb rm → ∀ o S1, Rp S1 rm → q_out 9 o rz → Q o S1) :
  ∀ (n : Nat) {m : MM} {S : QS} {L : QL} {y3 : Int} {v0 : Value} {v1 : Value} {v3 : Value} , Ext mb m → fl_X8_remove_116 y1 n y3 m = some (rz, rm) → Rp S m → q_lo L 0 = some v0 → q_is 2 v0 17 → q_lo L 1 = some v1 → q_is 2 v1 y1 → q_lo L 3 = some v3 → q_is 0 v3 y3 → Go xs d qM_X8_remove 116 L [] S Q := by
  intro n
  induction n with
  | zero => intro m S L y3 v0 v1 v3; intro E h R l0 f0 l1 f1 l3 f3; cases h
  | succ n ih0 =>
    intro m S L y3 v0 v1 v3; intro E h R l0 f0 l1 f1 l3 f3
    have ih : ∀ mq : MM, Ext mb mq → ∀ {z3 : Int} {Sq : QS} {Lq : QL} {u0 : Value} {u1 : Value} {u3 : Value}, fl_X8_remove_116 y1 n z3 mq = some (rz, rm) → Rp Sq mq → q_lo Lq 0 = some u0 → q_is 2 u0 17 → q_lo Lq 1 = some u1 → q_is 2 u1 y1 → q_lo Lq 3 = some u3 → q_is 0 u3 z3 → Go xs d qM_X8_remove 116 Lq [] Sq Q := fun mq b => by intros; exact ih0 b ‹_› ‹_› ‹_› ‹_› ‹_› ‹_› ‹_› ‹_›
    unfold fl_X8_remove_116 at h
    refine go_iload_n (n := 3) (by decide +kernel) l3 f3 ?_
    refine go_aload_n (n := 0) (by decide +kernel) l0 f0 ?_
    obtain ⟨x_181, e_182, h⟩ := lx_s h
    refine go_getf (x := 36) (ci := 9) (kf := 5) (fin := 0) (t := 0) (by decide +kernel) (by decide +kernel) (by decide +kernel) R f0 (fx_k (c := 9) R (by decide +kernel)) fun v_178 f_179 => ?_
    have f_180 := q_is_eq f_179 e_182
    refine go_icmp (c := .ge) (o := 38) (t := 159) (P := ¬ (y3 < x_181)) (by decide +kernel) (by decide +kernel) f3 f_180 (Int.not_lt.symm) (fun hp_183 => ?_) (fun hp_183 => ?_)
    · have h := it_f hp_183 h
      cases h
      exact go_vret (by decide +kernel) rfl (hQ E _ _ R q_out_n)
    · have h := it_n hp_183 h
      refine go_aload_n (n := 0) (by decide +kernel) l0 f0 ?_
      refine go_getf (x := 17) (ci := 9) (kf := 1) (fin := 1) (t := 2) (by decide +kernel) (by decide +kernel) (by decide +kernel) R f0 (fx_k (c := 9) R (by decide +kernel)) fun v_184 f_185 => ?_
      have f_186 := q_is_eq (b := 19) f_185 (fx_v R (by decide +kernel)).symm
      refine go_iload_n (n := 3) (by decide +kernel) l3 f3 ?_
      obtain ⟨g_189, h⟩ := gd_s h
      obtain ⟨x_191, e_192, h⟩ := lx_s h
      refine go_aald (kd := 103) (by decide +kernel) (by decide) R f_186 f3 (fx_k (c := 103) R (by decide +kernel)) (fx_x (a := 19) (ln := 12) R (by decide +kernel) g_189) fun v_187 f_188 => ?_
      have f_190 := q_is_eq f_188 e_192
      obtain ⟨g_195, h⟩ := gd_s h
      obtain ⟨x_197, e_198, h⟩ := lx_s h
      refine go_getf (x := 101) (ci := 2) (kf := 2) (fin := 0) (t := 0) (by decide +kernel) (by decide +kernel) (by decide +kernel) R f_190 g_195 fun v_193 f_194 => ?_
      have f_196 := q_is_eq f_194 e_198
      refine go_aload_n (n := 1) (by decide +kernel) l1 f1 ?_
      obtain ⟨g_201, h⟩ := gd_s h
      obtain ⟨x_203, e_204, h⟩ := lx_s h
      refine go_getf (x := 94) (ci := 2) (kf := 0) (fin := 0) (t := 0) (by decide +kernel) (by decide +kernel) (by decide +kernel) R f1 g_201 fun v_199 f_200 => ?_
      have f_202 := q_is_eq f_200 e_204
      refine go_icmp (c := .ne) (o := 16) (t := 153) (P := ¬ (x_197 = x_203)) (by decide +kernel) (by decide +kernel) f_196 f_202 (Iff.rfl) (fun hp_205 => ?_) (fun hp_205 => ?_)
      · have h := it_f hp_205 h
        refine go_iinc (n := 3) (c := 1) (c' := 1) (by decide +kernel) (by decide +kernel) l3 f3 (by decide) fun L_206 v_207 f_208 l_209 kp_210 => ?_
        obtain ⟨x_211, e_212, h⟩ := lx_s h
        have f_213 := q_is_eq f_208 e_212
        have l_214 := kp_210 0 _ l0 (by decide) (Or.inl (by decide))
        have l_215 := kp_210 1 _ l1 (by decide) (Or.inl (by decide))
        refine go_goto (o := (-40)) (t := 116) (by decide +kernel) (by decide +kernel) ?_
        exact ih m E h R l_214 f0 l_215 f1 l_209 f_213
      · have h := it_n hp_205 h
        refine go_aload_n (n := 0) (by decide +kernel) l0 f0 ?_
        refine go_getf (x := 17) (ci := 9) (kf := 1) (fin := 1) (t := 2) (by decide +kernel) (by decide +kernel) (by decide +kernel) R f0 (fx_k (c := 9) R (by decide +kernel)) fun v_216 f_217 => ?_
        have f_218 := q_is_eq (b := 19) f_217 (fx_v R (by decide +kernel)).symm
        refine go_iload_n (n := 3) (by decide +kernel) l3 f3 ?_
        refine go_aald (kd := 103) (by decide +kernel) (by decide) R f_218 f3 (fx_k (c := 103) R (by decide +kernel)) (fx_x (a := 19) (ln := 12) R (by decide +kernel) g_189) fun v_219 f_220 => ?_
        have f_221 := q_is_eq f_220 e_192
        refine go_aload_n (n := 1) (by decide +kernel) l1 f1 ?_
        obtain ⟨x_225, e_226, h⟩ := lx_s h
        refine go_getf (x := 101) (ci := 2) (kf := 2) (fin := 0) (t := 0) (by decide +kernel) (by decide +kernel) (by decide +kernel) R f1 g_201 fun v_222 f_223 => ?_
        have f_224 := q_is_eq f_223 e_226
        obtain ⟨m_227, e_228, h⟩ := up_s h
        refine go_putf (x := 101) (ci := 2) (kf := 2) (fin := 0) (zt := 0) (by decide +kernel) (by decide +kernel) (by decide) (by decide +kernel) (by decide) (Or.inl rfl) R f_221 f_224 (fun hq => absurd hq (by decide)) g_195 e_228 (fx_f (j := 2) R.2 g_195 (by decide +kernel)) fun S_229 R_230 E_231 => ?_
        have E_232 := Ext.tr E E_231
        refine go_iinc (n := 3) (c := 1) (c' := 1) (by decide +kernel) (by decide +kernel) l3 f3 (by decide) fun L_233 v_234 f_235 l_236 kp_237 => ?_
        obtain ⟨x_238, e_239, h⟩ := lx_s h
        have f_240 := q_is_eq f_235 e_239
        have l_241 := kp_237 0 _ l0 (by decide) (Or.inl (by decide))
        have l_242 := kp_237 1 _ l1 (by decide) (Or.inl (by decide))
        refine go_goto (o := (-40)) (t := 116) (by decide +kernel) (by decide +kernel) ?_
        exact ih m_227 E_232 h R_230 l_241 f0 l_242 f1 l_236 f_240
noncomputable def fm_X8_remove (p1 : Int) (m0 : MM) : Option (Int × MM) := fl_X8_remove_2 p1 m0 (fun x_43 =>
lx (m0 17 5) fun x_59 =>
if x_43 < x_59 then
if x_43 < 12 then
lx (w32 (x_43 + 1)) fun x_73 =>
fl_X8_remove_57 p1 (fun m_137 =>
lx (m_137 17 5) fun x_143 =>
up m_137 17 5 (w32 (x_143 - 1)) fun m_149 =>
lx (m_149 17 5) fun x_161 =>
gd (0 ≤ x_161 ∧ x_161 < 12) <| gd (p1 = 0 ∨ okc m_149 p1 2) <| up m_149 19 x_161 p1 fun m_164 =>
fl_X8_remove_116 p1  BIG 0 m_164) BIG x_73 m0
else
some (0, m0)
else
some (0, m0)) BIG 0
set_option maxHeartbeats 4000000 in
theorem om_X8_remove {xs : List Int32} {d : Nat} {S : QS} {m0 : MM} {p1 : Int} {v0 : Value} {v1 : Value} {rz : Int} {rm : MM}
  (hd : 1 ≤ d) (R : Rp S m0) (f0 : q_is 2 v0 17) (f1 : q_is 2 v1 p1)
  (h : fm_X8_remove p1 m0 = some (rz, rm)) : Mt xs d 87 [v0, v1] S (Cr 9 m0 rm rz) := by
  obtain ⟨d, rfl⟩ : ∃ e, d = e + 1 := ⟨d - 1, by omega⟩
  have hd : 0 ≤ d := Nat.le_of_succ_le_succ hd
  refine Mt.of (M := qM_X8_remove) rfl (by rw [sl_1 (q_is_cat f0 (Or.inr rfl)), sl_1 (q_is_cat f1 (Or.inr rfl)), sl_0]; decide) ?_
  rw [la_1 (q_is_cat f0 (Or.inr rfl)), la_1 (q_is_cat f1 (Or.inr rfl)), la_0]
  obtain ⟨L, hL⟩ : ∃ L : QL, L = [(0, v0), (0 + 1, v1)] := ⟨_, rfl⟩
  rw [← hL]
  have l0 : q_lo L 0 = some v0 := by rw [hL]; rfl
  have l1 : q_lo L 1 = some v1 := by rw [hL]; rfl
  have hQ : Ext m0 rm → ∀ o S1, Rp S1 rm → q_out 9 o rz → (Cr 9 m0 rm rz) o S1 := fun a o S1 b e => ⟨b, a, e⟩
  unfold fm_X8_remove at h
  refine go_iconst (n := 0) (z := 0) (by decide +kernel) (by decide) fun v_1 f_2 => ?_
  refine go_istore_n (n := 2) (by decide +kernel) (by decide +kernel) f_2 fun L_3 l_4 kp_5 => ?_
  have l_6 := kp_5 0 _ l0 (by decide) (Or.inl (by decide))
  have l_7 := kp_5 1 _ l1 (by decide) (Or.inr (q_is_cat f1 (Or.inr rfl)))
  refine ol_X8_remove_2 hd  ?_ hQ BIG h R l_6 f0 l_7 f1 l_4 f_2
  intro x_43 S_53 L_54 v_44 v_45 v_46
  intro h R_55 l_47 f_50 l_48 f_51 l_49 f_52
  refine go_iload_n (n := 2) (by decide +kernel) l_49 f_52 ?_
  refine go_aload_n (n := 0) (by decide +kernel) l_47 f_50 ?_
  obtain ⟨x_59, e_60, h⟩ := lx_s h
  refine go_getf (x := 36) (ci := 9) (kf := 5) (fin := 0) (t := 0) (by decide +kernel) (by decide +kernel) (by decide +kernel) R_55 f_50 (fx_k (c := 9) R_55 (by decide +kernel)) fun v_56 f_57 => ?_
  have f_58 := q_is_eq f_57 e_60
  refine go_icmp (c := .ge) (o := 12) (t := 52) (P := ¬ (x_43 < x_59)) (by decide +kernel) (by decide +kernel) f_52 f_58 (Int.not_lt.symm) (fun hp_61 => ?_) (fun hp_61 => ?_)
  · have h := it_f hp_61 h
    cases h
    exact go_vret (by decide +kernel) rfl (hQ (Ext.rf _) _ _ R_55 q_out_n)
  · have h := it_n hp_61 h
    refine go_iload_n (n := 2) (by decide +kernel) l_49 f_52 ?_
    refine go_aload_n (n := 0) (by decide +kernel) l_47 f_50 ?_
    refine go_getf (x := 17) (ci := 9) (kf := 1) (fin := 1) (t := 2) (by decide +kernel) (by decide +kernel) (by decide +kernel) R_55 f_50 (fx_k (c := 9) R_55 (by decide +kernel)) fun v_62 f_63 => ?_
    have f_64 := q_is_eq (b := 19) f_63 (fx_v R_55 (by decide +kernel)).symm
    refine go_alen (by decide +kernel) R_55 f_64 (okl_of (fx_k (c := 103) R_55 (by decide +kernel)) (by decide)) fun v_65 f_66 => ?_
    have f_67 := q_is_eq (b := 12) f_66 (by rw [fx_l R_55 (ln := 12) (by decide +kernel)]; decide)
    refine go_icmp (c := .lt) (o := 4) (t := 53) (P := x_43 < 12) (by decide +kernel) (by decide +kernel) f_52 f_67 (Iff.rfl) (fun hp_68 => ?_) (fun hp_68 => ?_)
    · have h := it_t hp_68 h
      refine go_iload_n (n := 2) (by decide +kernel) l_49 f_52 ?_
      refine go_iconst (n := 1) (z := 1) (by decide +kernel) (by decide) fun v_69 f_70 => ?_
      refine go_iadd (by decide +kernel) f_52 f_70 fun v_71 f_72 => ?_
      obtain ⟨x_73, e_74, h⟩ := lx_s h
      have f_75 := q_is_eq f_72 e_74
      refine go_istore_n (n := 3) (by decide +kernel) (by decide +kernel) f_75 fun L_76 l_77 kp_78 => ?_
      have l_79 := kp_78 0 _ l_47 (by decide) (Or.inl (by decide))
      have l_80 := kp_78 1 _ l_48 (by decide) (Or.inl (by decide))
      refine ol_X8_remove_57 hd  ?_ hQ BIG (Ext.rf _) h R_55 l_79 f_50 l_80 f_51 l_77 f_75
      intro m_137 E_138
      intro S_134 L_135 v_128 v_129
      intro h R_136 l_130 f_132 l_131 f_133
      have E_139 := E_138
      refine go_aload_n (n := 0) (by decide +kernel) l_130 f_132 ?_
      refine go_dup (by decide +kernel) f_132 (Or.inr rfl) ?_
      obtain ⟨x_143, e_144, h⟩ := lx_s h
      refine go_getf (x := 36) (ci := 9) (kf := 5) (fin := 0) (t := 0) (by decide +kernel) (by decide +kernel) (by decide +kernel) R_136 f_132 (fx_k (c := 9) R_136 (by decide +kernel)) fun v_140 f_141 => ?_
      have f_142 := q_is_eq f_141 e_144
      refine go_iconst (n := 1) (z := 1) (by decide +kernel) (by decide) fun v_145 f_146 => ?_
      refine go_isub (by decide +kernel) f_142 f_146 fun v_147 f_148 => ?_
      obtain ⟨m_149, e_150, h⟩ := up_s h
      refine go_putf (x := 36) (ci := 9) (kf := 5) (fin := 0) (zt := 0) (by decide +kernel) (by decide +kernel) (by decide) (by decide +kernel) (by decide) (Or.inl rfl) R_136 f_132 f_148 (fun hq => absurd hq (by decide)) (fx_k (c := 9) R_136 (by decide +kernel)) e_150 (fx_f (j := 5) R_136.2 (fx_k (c := 9) R_136 (by decide +kernel)) (by decide +kernel)) fun S_151 R_152 E_153 => ?_
      have E_154 := Ext.tr E_139 E_153
      refine go_aload_n (n := 0) (by decide +kernel) l_130 f_132 ?_
      refine go_getf (x := 17) (ci := 9) (kf := 1) (fin := 1) (t := 2) (by decide +kernel) (by decide +kernel) (by decide +kernel) R_152 f_132 (fx_k (c := 9) R_152 (by decide +kernel)) fun v_155 f_156 => ?_
      have f_157 := q_is_eq (b := 19) f_156 (fx_v R_152 (by decide +kernel)).symm
      refine go_aload_n (n := 0) (by decide +kernel) l_130 f_132 ?_
      obtain ⟨x_161, e_162, h⟩ := lx_s h
      refine go_getf (x := 36) (ci := 9) (kf := 5) (fin := 0) (t := 0) (by decide +kernel) (by decide +kernel) (by decide +kernel) R_152 f_132 (fx_k (c := 9) R_152 (by decide +kernel)) fun v_158 f_159 => ?_
      have f_160 := q_is_eq f_159 e_162
      refine go_aload_n (n := 1) (by decide +kernel) l_131 f_133 ?_
      obtain ⟨g_163, h⟩ := gd_s h
      obtain ⟨g_169, h⟩ := gd_s h
      obtain ⟨m_164, e_165, h⟩ := up_s h
      refine go_aast (kd := 103) (vk := 2) (by decide +kernel) (by decide) R_152 f_157 f_160 f_133 (fx_k (c := 103) R_152 (by decide +kernel)) (fx_x (a := 19) (ln := 12) R_152 (by decide +kernel) g_163) g_169 e_165 (fx_a R_152.2 (fx_k (c := 103) R_152 (by decide +kernel)) (And.left (fx_x (a := 19) (ln := 12) R_152 (by decide +kernel) g_163)) (by decide +kernel)) fun S_166 R_167 E_168 => ?_
      have E_170 := Ext.tr E_154 E_168
      refine go_iconst (n := 0) (z := 0) (by decide +kernel) (by decide) fun v_171 f_172 => ?_
      refine go_istore_n (n := 3) (by decide +kernel) (by decide +kernel) f_172 fun L_173 l_174 kp_175 => ?_
      have l_176 := kp_175 0 _ l_130 (by decide) (Or.inl (by decide))
      have l_177 := kp_175 1 _ l_131 (by decide) (Or.inl (by decide))
      refine ol_X8_remove_116 hd   (fun b => hQ (Ext.tr E_170 b)) BIG (Ext.rf _) h R_167 l_176 f_132 l_177 f_133 l_174 f_172
    · have h := it_f hp_68 h
      cases h
      exact go_vret (by decide +kernel) rfl (hQ (Ext.rf _) _ _ R_55 q_out_n)
noncomputable def fm_X8_value (p1 : Int) (m0 : MM) : Option Int := if p1 < 0 then
some 0
else
if p1 < 6 then
gd (0 ≤ p1 ∧ p1 < 6) <| lx (m0 18 p1) fun x_20 =>
some x_20
else
some 0
set_option maxHeartbeats 4000000 in
theorem om_X8_value {xs : List Int32} {d : Nat} {S : QS} {m0 : MM} {p1 : Int} {v0 : Value} {v1 : Value} {rz : Int}
  (hd : 1 ≤ d) (R : Rp S m0) (f0 : q_is 2 v0 17) (f1 : q_is 0 v1 p1)
  (h : fm_X8_value p1 m0 = some rz) : Mt xs d 81 [v0, v1] S (Cr 0 m0 m0 rz) := by
  obtain ⟨d, rfl⟩ : ∃ e, d = e + 1 := ⟨d - 1, by omega⟩
  have hd : 0 ≤ d := Nat.le_of_succ_le_succ hd
  refine Mt.of (M := qM_X8_value) rfl (by rw [sl_1 (q_is_cat f0 (Or.inr rfl)), sl_1 (q_is_cat f1 (Or.inl rfl)), sl_0]; decide) ?_
  rw [la_1 (q_is_cat f0 (Or.inr rfl)), la_1 (q_is_cat f1 (Or.inl rfl)), la_0]
  obtain ⟨L, hL⟩ : ∃ L : QL, L = [(0, v0), (0 + 1, v1)] := ⟨_, rfl⟩
  rw [← hL]
  have l0 : q_lo L 0 = some v0 := by rw [hL]; rfl
  have l1 : q_lo L 1 = some v1 := by rw [hL]; rfl
  have hQ : ∀ o S1, Rp S1 m0 → q_out 0 o rz → (Cr 0 m0 m0 rz) o S1 := fun o S1 a b => ⟨a, Ext.rf _, b⟩
  unfold fm_X8_value at h
  refine go_iload_n (n := 1) (by decide +kernel) l1 f1 ?_
  refine go_if (c := .lt) (o := 21) (t := 22) (P := p1 < 0) (by decide +kernel) (by decide +kernel) f1 (Iff.rfl) (fun hp_1 => ?_) (fun hp_1 => ?_)
  · have h := it_t hp_1 h
    refine go_iconst (n := 0) (z := 0) (by decide +kernel) (by decide) fun v_2 f_3 => ?_
    cases h
    exact go_iret (by decide +kernel) rfl (Or.inl rfl) f_3 (hQ _ _ R (q_out_v (by decide) f_3))
  · have h := it_f hp_1 h
    refine go_iload_n (n := 1) (by decide +kernel) l1 f1 ?_
    refine go_aload_n (n := 0) (by decide +kernel) l0 f0 ?_
    refine go_getf (x := 9) (ci := 9) (kf := 0) (fin := 1) (t := 2) (by decide +kernel) (by decide +kernel) (by decide +kernel) R f0 (fx_k (c := 9) R (by decide +kernel)) fun v_4 f_5 => ?_
    have f_6 := q_is_eq (b := 18) f_5 (fx_v R (by decide +kernel)).symm
    refine go_alen (by decide +kernel) R f_6 (okl_of (fx_k (c := 100) R (by decide +kernel)) (by decide)) fun v_7 f_8 => ?_
    have f_9 := q_is_eq (b := 6) f_8 (by rw [fx_l R (ln := 6) (by decide +kernel)]; decide)
    refine go_icmp (c := .ge) (o := 12) (t := 22) (P := ¬ (p1 < 6)) (by decide +kernel) (by decide +kernel) f1 f_9 (Int.not_lt.symm) (fun hp_10 => ?_) (fun hp_10 => ?_)
    · have h := it_f hp_10 h
      refine go_iconst (n := 0) (z := 0) (by decide +kernel) (by decide) fun v_11 f_12 => ?_
      cases h
      exact go_iret (by decide +kernel) rfl (Or.inl rfl) f_12 (hQ _ _ R (q_out_v (by decide) f_12))
    · have h := it_n hp_10 h
      refine go_aload_n (n := 0) (by decide +kernel) l0 f0 ?_
      refine go_getf (x := 9) (ci := 9) (kf := 0) (fin := 1) (t := 2) (by decide +kernel) (by decide +kernel) (by decide +kernel) R f0 (fx_k (c := 9) R (by decide +kernel)) fun v_13 f_14 => ?_
      have f_15 := q_is_eq (b := 18) f_14 (fx_v R (by decide +kernel)).symm
      refine go_iload_n (n := 1) (by decide +kernel) l1 f1 ?_
      obtain ⟨g_18, h⟩ := gd_s h
      obtain ⟨x_20, e_21, h⟩ := lx_s h
      refine go_iald (kd := 100) (by decide +kernel) rfl R f_15 f1 (fx_k (c := 100) R (by decide +kernel)) (fx_x (a := 18) (ln := 6) R (by decide +kernel) g_18) fun v_16 f_17 => ?_
      have f_19 := q_is_eq f_17 e_21
      refine go_goto (o := 4) (t := 23) (by decide +kernel) (by decide +kernel) ?_
      cases h
      exact go_iret (by decide +kernel) rfl (Or.inl rfl) f_19 (hQ _ _ R (q_out_v (by decide) f_19))
noncomputable def fm_X4_endBranch (p1 : Int) (m0 : MM) : Option (Int × MM) := gd (okc m0 p1 2) <| lx (m0 p1 0) fun x_5 =>
if x_5 = 0 then
bp (fm_X8_value 0 m0) fun x_16 =>
bd (fm_X4_command 14 x_16 0 m0) fun x_27 m_28 =>
if x_27 < 0 then
some (0, m_28)
else
up m_28 17 9 14 fun m_42 =>
some (0, m_42)
else
bd (fm_X8_remove p1 m0) fun x_52 m_53 =>
some (0, m_53)
set_option maxHeartbeats 4000000 in
theorem om_X4_endBranch {xs : List Int32} {d : Nat} {S : QS} {m0 : MM} {p1 : Int} {v0 : Value} {v1 : Value} {rz : Int} {rm : MM}
  (hd : 4 ≤ d) (R : Rp S m0) (f0 : q_is 2 v0 16) (f1 : q_is 2 v1 p1)
  (h : fm_X4_endBranch p1 m0 = some (rz, rm)) : Mt xs d 43 [v0, v1] S (Cr 9 m0 rm rz) := by
  obtain ⟨d, rfl⟩ : ∃ e, d = e + 1 := ⟨d - 1, by omega⟩
  have hd : 3 ≤ d := Nat.le_of_succ_le_succ hd
  refine Mt.of (M := qM_X4_endBranch) rfl (by rw [sl_1 (q_is_cat f0 (Or.inr rfl)), sl_1 (q_is_cat f1 (Or.inr rfl)), sl_0]; decide) ?_
  rw [la_1 (q_is_cat f0 (Or.inr rfl)), la_1 (q_is_cat f1 (Or.inr rfl)), la_0]
  obtain ⟨L, hL⟩ : ∃ L : QL, L = [(0, v0), (0 + 1, v1)] := ⟨_, rfl⟩
  rw [← hL]
  have l0 : q_lo L 0 = some v0 := by rw [hL]; rfl
  have l1 : q_lo L 1 = some v1 := by rw [hL]; rfl
  have hQ : Ext m0 rm → ∀ o S1, Rp S1 rm → q_out 9 o rz → (Cr 9 m0 rm rz) o S1 := fun a o S1 b e => ⟨b, a, e⟩
  unfold fm_X4_endBranch at h
  refine go_aload_n (n := 1) (by decide +kernel) l1 f1 ?_
  obtain ⟨g_3, h⟩ := gd_s h
  obtain ⟨x_5, e_6, h⟩ := lx_s h
  refine go_getf (x := 211) (ci := 2) (kf := 0) (fin := 0) (t := 0) (by decide +kernel) (by decide +kernel) (by decide +kernel) R f1 g_3 fun v_1 f_2 => ?_
  have f_4 := q_is_eq f_2 e_6
  refine go_if (c := .eq) (o := 14) (t := 18) (P := x_5 = 0) (by decide +kernel) (by decide +kernel) f_4 (Iff.rfl) (fun hp_7 => ?_) (fun hp_7 => ?_)
  · have h := it_t hp_7 h
    refine go_aload_n (n := 0) (by decide +kernel) l0 f0 ?_
    refine go_bipush (n := 14) (z := 14) (by decide +kernel) (by decide) fun v_8 f_9 => ?_
    refine go_aload_n (n := 0) (by decide +kernel) l0 f0 ?_
    refine go_getf (x := 10) (ci := 5) (kf := 0) (fin := 1) (t := 2) (by decide +kernel) (by decide +kernel) (by decide +kernel) R f0 (fx_k (c := 5) R (by decide +kernel)) fun v_10 f_11 => ?_
    have f_12 := q_is_eq (b := 17) f_11 (fx_v R (by decide +kernel)).symm
    refine go_iconst (n := 0) (z := 0) (by decide +kernel) (by decide) fun v_13 f_14 => ?_
    obtain ⟨x_16, hc_15, h⟩ := bp_s h
    refine go_callV (x := 217) (mi := 81) (n := 1) (ci := 9) (as := [v_13]) (rest := [v_8, v0]) (by decide +kernel) (by decide +kernel) rfl rfl (q_sum8 _ (Nat.le_of_ble_eq_true rfl)) R f_12 (fx_k (c := 9) R (by decide +kernel)) (om_X8_value (Nat.le_trans (by decide) hd) R f_12 f_14 hc_15) (fun _ S_20 q_23 => ?_) (fun _ _ qq => kr_x qq)
    refine kr_z (by decide) q_23 fun v_18 f_19 R_21 E_22 => ?_
    refine go_iconst (n := 0) (z := 0) (by decide +kernel) (by decide) fun v_24 f_25 => ?_
    obtain ⟨x_27, m_28, hc_26, h⟩ := bd_s h
    refine go_callV (x := 198) (mi := 44) (n := 3) (ci := 5) (as := [v_8, v_18, v_24]) (rest := []) (by decide +kernel) (by decide +kernel) rfl rfl (q_sum8 _ (Nat.le_of_ble_eq_true rfl)) R_21 f0 (fx_k (c := 5) R_21 (by decide +kernel)) (om_X4_command (Nat.le_trans (by decide) hd) R_21 f0 f_9 f_19 f_25 hc_26) (fun _ S_31 q_34 => ?_) (fun _ _ qq => kr_x qq)
    refine kr_z (by decide) q_34 fun v_29 f_30 R_32 E_33 => ?_
    have E_35 := E_33
    refine go_if (c := .lt) (o := 12) (t := 45) (P := x_27 < 0) (by decide +kernel) (by decide +kernel) f_30 (Iff.rfl) (fun hp_36 => ?_) (fun hp_36 => ?_)
    · have h := it_t hp_36 h
      cases h
      exact go_vret (by decide +kernel) rfl (hQ E_35 _ _ R_32 q_out_n)
    · have h := it_f hp_36 h
      refine go_aload_n (n := 0) (by decide +kernel) l0 f0 ?_
      refine go_getf (x := 10) (ci := 5) (kf := 0) (fin := 1) (t := 2) (by decide +kernel) (by decide +kernel) (by decide +kernel) R_32 f0 (fx_k (c := 5) R_32 (by decide +kernel)) fun v_37 f_38 => ?_
      have f_39 := q_is_eq (b := 17) f_38 (fx_v R_32 (by decide +kernel)).symm
      refine go_bipush (n := 14) (z := 14) (by decide +kernel) (by decide) fun v_40 f_41 => ?_
      obtain ⟨m_42, e_43, h⟩ := up_s h
      refine go_putf (x := 120) (ci := 9) (kf := 9) (fin := 0) (zt := 0) (by decide +kernel) (by decide +kernel) (by decide) (by decide +kernel) (by decide) (Or.inl rfl) R_32 f_39 f_41 (fun hq => absurd hq (by decide)) (fx_k (c := 9) R_32 (by decide +kernel)) e_43 (fx_f (j := 9) R_32.2 (fx_k (c := 9) R_32 (by decide +kernel)) (by decide +kernel)) fun S_44 R_45 E_46 => ?_
      have E_47 := Ext.tr E_35 E_46
      cases h
      exact go_vret (by decide +kernel) rfl (hQ E_47 _ _ R_45 q_out_n)
  · have h := it_f hp_7 h
    refine go_aload_n (n := 0) (by decide +kernel) l0 f0 ?_
    refine go_getf (x := 10) (ci := 5) (kf := 0) (fin := 1) (t := 2) (by decide +kernel) (by decide +kernel) (by decide +kernel) R f0 (fx_k (c := 5) R (by decide +kernel)) fun v_48 f_49 => ?_
    have f_50 := q_is_eq (b := 17) f_49 (fx_v R (by decide +kernel)).symm
    refine go_aload_n (n := 1) (by decide +kernel) l1 f1 ?_
    obtain ⟨x_52, m_53, hc_51, h⟩ := bd_s h
    refine go_callV (x := 214) (mi := 87) (n := 1) (ci := 9) (as := [v1]) (rest := []) (by decide +kernel) (by decide +kernel) rfl rfl (q_sum8 _ (Nat.le_of_ble_eq_true rfl)) R f_50 (fx_k (c := 9) R (by decide +kernel)) (om_X8_remove (Nat.le_trans (by decide) hd) R f_50 f1 hc_51) (fun _ S_56 q_59 => ?_) (fun _ _ qq => kr_x qq)
    refine kr_v q_59 fun R_57 E_58 => ?_
    have E_60 := E_58
    refine go_goto (o := 30) (t := 45) (by decide +kernel) (by decide +kernel) ?_
    cases h
    exact go_vret (by decide +kernel) rfl (hQ E_60 _ _ R_57 q_out_n)
noncomputable def fj_X4_doPlainLine_189 (y1 y5 : Int) (m : MM) : Option (Int × MM) := gd (okc m y1 2) <| bd (fm_X1_goOnAt y1 y5 m) fun x_39 m_40 =>
some (0, m_40)
set_option maxHeartbeats 4000000 in
theorem oj_X4_doPlainLine_189 {xs : List Int32} {d : Nat} {S : QS} {L : QL} {Q : QO → QS → Prop} {m : MM} {y1 y5 : Int} {v1 : Value} {v5 : Value}  {rz : Int} {rm : MM}
  (hd : 3 ≤ d) (R : Rp S m) (l1 : q_lo L 1 = some v1) (f1 : q_is 2 v1 y1) (l5 : q_lo L 5 = some v5) (f5 : q_is 0 v5 y5)
  (hQ : Ext m rm → ∀ o S1, Rp S1 rm → q_out 9 o rz → Q o S1)
  (h : fj_X4_doPlainLine_189 y1 y5 m = some (rz, rm)) : Go xs d qM_X4_doPlainLine 189 L [] S Q := by
  unfold fj_X4_doPlainLine_189 at h
  refine go_aload_n (n := 1) (by decide +kernel) l1 f1 ?_
  refine go_iload (n := 5) (by decide +kernel) l5 f5 ?_
  obtain ⟨g_37, h⟩ := gd_s h
  obtain ⟨x_39, m_40, hc_38, h⟩ := bd_s h
  refine go_callV (x := 171) (mi := 5) (n := 1) (ci := 2) (as := [v5]) (rest := []) (by decide +kernel) (by decide +kernel) rfl rfl (q_sum8 _ (Nat.le_of_ble_eq_true rfl)) R f1 g_37 (om_X1_goOnAt (Nat.le_trans (by decide) hd) R g_37 f1 f5 hc_38) (fun _ S_43 q_46 => ?_) (fun _ _ qq => kr_x qq)
  refine kr_v q_46 fun R_44 E_45 => ?_
  have E_47 := E_45
  cases h
  exact go_vret (by decide +kernel) rfl (hQ E_47 _ _ R_44 q_out_n)
noncomputable def fm_X4_doPlainLine (p1 p2 p3 p4 : Int) (m0 : MM) : Option (Int × MM) := gd (okc m0 p1 2) <| lx (m0 p1 4) fun x_5 =>
lx (w32 (x_5 + 1)) fun x_11 =>
if p2 = 0 then
bd (fm_X8_set p3 p4 m0) fun x_28 m_29 =>
fj_X4_doPlainLine_189 p1 x_11 m_29
else if p2 = 1 then
bp (fm_X8_value p3 m0) fun x_57 =>
bp (fm_X8_value p4 m0) fun x_69 =>
bd (fm_X8_set p3 (Int.tmod (w32 (x_57 + x_69)) 1000) m0) fun x_84 m_85 =>
fj_X4_doPlainLine_189 p1 x_11 m_85
else if p2 = 2 then
bp (fm_X8_value p4 m0) fun x_103 =>
bd (fm_X4_command 8 p3 x_103 m0) fun x_112 m_113 =>
bd (fm_X1_waitFor p1 1 x_112 m_113) fun x_123 m_124 =>
some (0, m_124)
else if p2 = 3 then
bd (fm_X4_command 9 p3 0 m0) fun x_141 m_142 =>
bd (fm_X1_waitFor p1 1 x_141 m_142) fun x_152 m_153 =>
some (0, m_153)
else if p2 = 4 then
bd (fm_X1_waitFor p1 3 p3 m0) fun x_166 m_167 =>
some (0, m_167)
else if p2 = 5 then
bp (fm_X8_value p4 m0) fun x_185 =>
bd (fm_X4_command 10 p3 x_185 m0) fun x_194 m_195 =>
bd (fm_X1_waitFor p1 1 x_194 m_195) fun x_205 m_206 =>
some (0, m_206)
else if p2 = 6 then
bp (fm_X8_value p3 m0) fun x_220 =>
if x_220 = 0 then
fj_X4_doPlainLine_189 p1 p4 m0
else
fj_X4_doPlainLine_189 p1 x_11 m0
else 
fj_X4_doPlainLine_189 p1 p3 m0
set_option maxHeartbeats 4000000 in
theorem om_X4_doPlainLine {xs : List Int32} {d : Nat} {S : QS} {m0 : MM} {p1 p2 p3 p4 : Int} {v0 : Value} {v1 : Value} {v2 : Value} {v3 : Value} {v4 : Value} {rz : Int} {rm : MM}
  (hd : 4 ≤ d) (R : Rp S m0) (f0 : q_is 2 v0 16) (f1 : q_is 2 v1 p1) (f2 : q_is 0 v2 p2) (f3 : q_is 0 v3 p3) (f4 : q_is 0 v4 p4)
  (h : fm_X4_doPlainLine p1 p2 p3 p4 m0 = some (rz, rm)) : Mt xs d 47 [v0, v1, v2, v3, v4] S (Cr 9 m0 rm rz) := by
  obtain ⟨d, rfl⟩ : ∃ e, d = e + 1 := ⟨d - 1, by omega⟩
  have hd : 3 ≤ d := Nat.le_of_succ_le_succ hd
  refine Mt.of (M := qM_X4_doPlainLine) rfl (by rw [sl_1 (q_is_cat f0 (Or.inr rfl)), sl_1 (q_is_cat f1 (Or.inr rfl)), sl_1 (q_is_cat f2 (Or.inl rfl)), sl_1 (q_is_cat f3 (Or.inl rfl)), sl_1 (q_is_cat f4 (Or.inl rfl)), sl_0]; decide) ?_
  rw [la_1 (q_is_cat f0 (Or.inr rfl)), la_1 (q_is_cat f1 (Or.inr rfl)), la_1 (q_is_cat f2 (Or.inl rfl)), la_1 (q_is_cat f3 (Or.inl rfl)), la_1 (q_is_cat f4 (Or.inl rfl)), la_0]
  obtain ⟨L, hL⟩ : ∃ L : QL, L = [(0, v0), (0 + 1, v1), (0 + 1 + 1, v2), (0 + 1 + 1 + 1, v3), (0 + 1 + 1 + 1 + 1, v4)] := ⟨_, rfl⟩
  rw [← hL]
  have l0 : q_lo L 0 = some v0 := by rw [hL]; rfl
  have l1 : q_lo L 1 = some v1 := by rw [hL]; rfl
  have l2 : q_lo L 2 = some v2 := by rw [hL]; rfl
  have l3 : q_lo L 3 = some v3 := by rw [hL]; rfl
  have l4 : q_lo L 4 = some v4 := by rw [hL]; rfl
  have hQ : Ext m0 rm → ∀ o S1, Rp S1 rm → q_out 9 o rz → (Cr 9 m0 rm rz) o S1 := fun a o S1 b e => ⟨b, a, e⟩
  unfold fm_X4_doPlainLine at h
  refine go_aload_n (n := 1) (by decide +kernel) l1 f1 ?_
  obtain ⟨g_3, h⟩ := gd_s h
  obtain ⟨x_5, e_6, h⟩ := lx_s h
  refine go_getf (x := 168) (ci := 2) (kf := 4) (fin := 0) (t := 0) (by decide +kernel) (by decide +kernel) (by decide +kernel) R f1 g_3 fun v_1 f_2 => ?_
  have f_4 := q_is_eq f_2 e_6
  refine go_iconst (n := 1) (z := 1) (by decide +kernel) (by decide) fun v_7 f_8 => ?_
  refine go_iadd (by decide +kernel) f_4 f_8 fun v_9 f_10 => ?_
  obtain ⟨x_11, e_12, h⟩ := lx_s h
  have f_13 := q_is_eq f_10 e_12
  refine go_istore (n := 5) (by decide +kernel) (by decide +kernel) f_13 fun L_14 l_15 kp_16 => ?_
  have l_17 := kp_16 0 _ l0 (by decide) (Or.inl (by decide))
  have l_18 := kp_16 1 _ l1 (by decide) (Or.inl (by decide))
  have l_19 := kp_16 2 _ l2 (by decide) (Or.inl (by decide))
  have l_20 := kp_16 3 _ l3 (by decide) (Or.inl (by decide))
  have l_21 := kp_16 4 _ l4 (by decide) (Or.inr (q_is_cat f4 (Or.inl rfl)))
  refine go_iload_n (n := 2) (by decide +kernel) l_19 f2 ?_
  by_cases hp_23 : p2 = 0
  · have h := it_t hp_23 h
    refine go_tsin (dflt := 177) (lo := 0) (hi := 6) (offs := #[43, 56, 89, 111, 125, 132, 154]) (o := 43) (t := 52) (by decide +kernel) f2 (by omega) (by omega) (by rw [hp_23]; decide) (by decide +kernel) ?_
    refine go_aload_n (n := 0) (by decide +kernel) l_17 f0 ?_
    refine go_getf (x := 10) (ci := 5) (kf := 0) (fin := 1) (t := 2) (by decide +kernel) (by decide +kernel) (by decide +kernel) R f0 (fx_k (c := 5) R (by decide +kernel)) fun v_24 f_25 => ?_
    have f_26 := q_is_eq (b := 17) f_25 (fx_v R (by decide +kernel)).symm
    refine go_iload_n (n := 3) (by decide +kernel) l_20 f3 ?_
    refine go_iload (n := 4) (by decide +kernel) l_21 f4 ?_
    obtain ⟨x_28, m_29, hc_27, h⟩ := bd_s h
    refine go_callV (x := 129) (mi := 82) (n := 2) (ci := 9) (as := [v3, v4]) (rest := []) (by decide +kernel) (by decide +kernel) rfl rfl (q_sum8 _ (Nat.le_of_ble_eq_true rfl)) R f_26 (fx_k (c := 9) R (by decide +kernel)) (om_X8_set (Nat.le_trans (by decide) hd) R f_26 f3 f4 hc_27) (fun _ S_32 q_35 => ?_) (fun _ _ qq => kr_x qq)
    refine kr_v q_35 fun R_33 E_34 => ?_
    have E_36 := E_34
    refine go_goto (o := 127) (t := 189) (by decide +kernel) (by decide +kernel) ?_
    exact oj_X4_doPlainLine_189 hd R_33 l_18 f1 l_15 f_13 (fun b => hQ (Ext.tr E_36 b)) h
  have h := it_f hp_23 h
  by_cases hp_49 : p2 = 1
  · have h := it_t hp_49 h
    refine go_tsin (dflt := 177) (lo := 0) (hi := 6) (offs := #[43, 56, 89, 111, 125, 132, 154]) (o := 56) (t := 65) (by decide +kernel) f2 (by omega) (by omega) (by rw [hp_49]; decide) (by decide +kernel) ?_
    refine go_aload_n (n := 0) (by decide +kernel) l_17 f0 ?_
    refine go_getf (x := 10) (ci := 5) (kf := 0) (fin := 1) (t := 2) (by decide +kernel) (by decide +kernel) (by decide +kernel) R f0 (fx_k (c := 5) R (by decide +kernel)) fun v_50 f_51 => ?_
    have f_52 := q_is_eq (b := 17) f_51 (fx_v R (by decide +kernel)).symm
    refine go_iload_n (n := 3) (by decide +kernel) l_20 f3 ?_
    refine go_aload_n (n := 0) (by decide +kernel) l_17 f0 ?_
    refine go_getf (x := 10) (ci := 5) (kf := 0) (fin := 1) (t := 2) (by decide +kernel) (by decide +kernel) (by decide +kernel) R f0 (fx_k (c := 5) R (by decide +kernel)) fun v_53 f_54 => ?_
    have f_55 := q_is_eq (b := 17) f_54 (fx_v R (by decide +kernel)).symm
    refine go_iload_n (n := 3) (by decide +kernel) l_20 f3 ?_
    obtain ⟨x_57, hc_56, h⟩ := bp_s h
    refine go_callV (x := 217) (mi := 81) (n := 1) (ci := 9) (as := [v3]) (rest := [v3, v_50]) (by decide +kernel) (by decide +kernel) rfl rfl (q_sum8 _ (Nat.le_of_ble_eq_true rfl)) R f_55 (fx_k (c := 9) R (by decide +kernel)) (om_X8_value (Nat.le_trans (by decide) hd) R f_55 f3 hc_56) (fun _ S_61 q_64 => ?_) (fun _ _ qq => kr_x qq)
    refine kr_z (by decide) q_64 fun v_59 f_60 R_62 E_63 => ?_
    refine go_aload_n (n := 0) (by decide +kernel) l_17 f0 ?_
    refine go_getf (x := 10) (ci := 5) (kf := 0) (fin := 1) (t := 2) (by decide +kernel) (by decide +kernel) (by decide +kernel) R_62 f0 (fx_k (c := 5) R_62 (by decide +kernel)) fun v_65 f_66 => ?_
    have f_67 := q_is_eq (b := 17) f_66 (fx_v R_62 (by decide +kernel)).symm
    refine go_iload (n := 4) (by decide +kernel) l_21 f4 ?_
    obtain ⟨x_69, hc_68, h⟩ := bp_s h
    refine go_callV (x := 217) (mi := 81) (n := 1) (ci := 9) (as := [v4]) (rest := [v_59, v3, v_50]) (by decide +kernel) (by decide +kernel) rfl rfl (q_sum8 _ (Nat.le_of_ble_eq_true rfl)) R_62 f_67 (fx_k (c := 9) R_62 (by decide +kernel)) (om_X8_value (Nat.le_trans (by decide) hd) R_62 f_67 f4 hc_68) (fun _ S_73 q_76 => ?_) (fun _ _ qq => kr_x qq)
    refine kr_z (by decide) q_76 fun v_71 f_72 R_74 E_75 => ?_
    refine go_iadd (by decide +kernel) f_60 f_72 fun v_77 f_78 => ?_
    refine go_sipush (n := 1000) (z := 1000) (by decide +kernel) (by decide) fun v_79 f_80 => ?_
    refine go_irem (by decide +kernel) f_78 f_80 (by decide) fun v_81 f_82 => ?_
    obtain ⟨x_84, m_85, hc_83, h⟩ := bd_s h
    refine go_callV (x := 129) (mi := 82) (n := 2) (ci := 9) (as := [v3, v_81]) (rest := []) (by decide +kernel) (by decide +kernel) rfl rfl (q_sum8 _ (Nat.le_of_ble_eq_true rfl)) R_74 f_52 (fx_k (c := 9) R_74 (by decide +kernel)) (om_X8_set (Nat.le_trans (by decide) hd) R_74 f_52 f3 f_82 hc_83) (fun _ S_88 q_91 => ?_) (fun _ _ qq => kr_x qq)
    refine kr_v q_91 fun R_89 E_90 => ?_
    have E_92 := E_90
    refine go_goto (o := 94) (t := 189) (by decide +kernel) (by decide +kernel) ?_
    exact oj_X4_doPlainLine_189 hd R_89 l_18 f1 l_15 f_13 (fun b => hQ (Ext.tr E_92 b)) h
  have h := it_f hp_49 h
  by_cases hp_94 : p2 = 2
  · have h := it_t hp_94 h
    refine go_tsin (dflt := 177) (lo := 0) (hi := 6) (offs := #[43, 56, 89, 111, 125, 132, 154]) (o := 89) (t := 98) (by decide +kernel) f2 (by omega) (by omega) (by rw [hp_94]; decide) (by decide +kernel) ?_
    refine go_aload_n (n := 1) (by decide +kernel) l_18 f1 ?_
    refine go_iconst (n := 1) (z := 1) (by decide +kernel) (by decide) fun v_95 f_96 => ?_
    refine go_aload_n (n := 0) (by decide +kernel) l_17 f0 ?_
    refine go_bipush (n := 8) (z := 8) (by decide +kernel) (by decide) fun v_97 f_98 => ?_
    refine go_iload_n (n := 3) (by decide +kernel) l_20 f3 ?_
    refine go_aload_n (n := 0) (by decide +kernel) l_17 f0 ?_
    refine go_getf (x := 10) (ci := 5) (kf := 0) (fin := 1) (t := 2) (by decide +kernel) (by decide +kernel) (by decide +kernel) R f0 (fx_k (c := 5) R (by decide +kernel)) fun v_99 f_100 => ?_
    have f_101 := q_is_eq (b := 17) f_100 (fx_v R (by decide +kernel)).symm
    refine go_iload (n := 4) (by decide +kernel) l_21 f4 ?_
    obtain ⟨x_103, hc_102, h⟩ := bp_s h
    refine go_callV (x := 217) (mi := 81) (n := 1) (ci := 9) (as := [v4]) (rest := [v3, v_97, v0, v_95, v1]) (by decide +kernel) (by decide +kernel) rfl rfl (by simp only [List.map_cons, List.map_nil, List.sum_cons, List.sum_nil]; rw [q_is_cat f3 (Or.inl rfl), q_is_cat f_98 (Or.inl rfl), q_is_cat f0 (Or.inr rfl), q_is_cat f_96 (Or.inl rfl), q_is_cat f1 (Or.inr rfl)]; decide) R f_101 (fx_k (c := 9) R (by decide +kernel)) (om_X8_value (Nat.le_trans (by decide) hd) R f_101 f4 hc_102) (fun _ S_107 q_110 => ?_) (fun _ _ qq => kr_x qq)
    refine kr_z (by decide) q_110 fun v_105 f_106 R_108 E_109 => ?_
    obtain ⟨x_112, m_113, hc_111, h⟩ := bd_s h
    refine go_callV (x := 198) (mi := 44) (n := 3) (ci := 5) (as := [v_97, v3, v_105]) (rest := [v_95, v1]) (by decide +kernel) (by decide +kernel) rfl rfl (q_sum8 _ (Nat.le_of_ble_eq_true rfl)) R_108 f0 (fx_k (c := 5) R_108 (by decide +kernel)) (om_X4_command (Nat.le_trans (by decide) hd) R_108 f0 f_98 f3 f_106 hc_111) (fun _ S_116 q_119 => ?_) (fun _ _ qq => kr_x qq)
    refine kr_z (by decide) q_119 fun v_114 f_115 R_117 E_118 => ?_
    have E_120 := E_118
    have g_121 := Ext.ok E_118 g_3
    obtain ⟨x_123, m_124, hc_122, h⟩ := bd_s h
    refine go_callV (x := 266) (mi := 4) (n := 2) (ci := 2) (as := [v_95, v_114]) (rest := []) (by decide +kernel) (by decide +kernel) rfl rfl (q_sum8 _ (Nat.le_of_ble_eq_true rfl)) R_117 f1 g_121 (om_X1_waitFor (Nat.le_trans (by decide) hd) R_117 g_121 f1 f_96 f_115 hc_122) (fun _ S_127 q_130 => ?_) (fun _ _ qq => kr_x qq)
    refine kr_v q_130 fun R_128 E_129 => ?_
    have E_131 := Ext.tr E_120 E_129
    cases h
    exact go_vret (by decide +kernel) rfl (hQ E_131 _ _ R_128 q_out_n)
  have h := it_f hp_94 h
  by_cases hp_133 : p2 = 3
  · have h := it_t hp_133 h
    refine go_tsin (dflt := 177) (lo := 0) (hi := 6) (offs := #[43, 56, 89, 111, 125, 132, 154]) (o := 111) (t := 120) (by decide +kernel) f2 (by omega) (by omega) (by rw [hp_133]; decide) (by decide +kernel) ?_
    refine go_aload_n (n := 1) (by decide +kernel) l_18 f1 ?_
    refine go_iconst (n := 1) (z := 1) (by decide +kernel) (by decide) fun v_134 f_135 => ?_
    refine go_aload_n (n := 0) (by decide +kernel) l_17 f0 ?_
    refine go_bipush (n := 9) (z := 9) (by decide +kernel) (by decide) fun v_136 f_137 => ?_
    refine go_iload_n (n := 3) (by decide +kernel) l_20 f3 ?_
    refine go_iconst (n := 0) (z := 0) (by decide +kernel) (by decide) fun v_138 f_139 => ?_
    obtain ⟨x_141, m_142, hc_140, h⟩ := bd_s h
    refine go_callV (x := 198) (mi := 44) (n := 3) (ci := 5) (as := [v_136, v3, v_138]) (rest := [v_134, v1]) (by decide +kernel) (by decide +kernel) rfl rfl (q_sum8 _ (Nat.le_of_ble_eq_true rfl)) R f0 (fx_k (c := 5) R (by decide +kernel)) (om_X4_command (Nat.le_trans (by decide) hd) R f0 f_137 f3 f_139 hc_140) (fun _ S_145 q_148 => ?_) (fun _ _ qq => kr_x qq)
    refine kr_z (by decide) q_148 fun v_143 f_144 R_146 E_147 => ?_
    have E_149 := E_147
    have g_150 := Ext.ok E_147 g_3
    obtain ⟨x_152, m_153, hc_151, h⟩ := bd_s h
    refine go_callV (x := 266) (mi := 4) (n := 2) (ci := 2) (as := [v_134, v_143]) (rest := []) (by decide +kernel) (by decide +kernel) rfl rfl (q_sum8 _ (Nat.le_of_ble_eq_true rfl)) R_146 f1 g_150 (om_X1_waitFor (Nat.le_trans (by decide) hd) R_146 g_150 f1 f_135 f_144 hc_151) (fun _ S_156 q_159 => ?_) (fun _ _ qq => kr_x qq)
    refine kr_v q_159 fun R_157 E_158 => ?_
    have E_160 := Ext.tr E_149 E_158
    cases h
    exact go_vret (by decide +kernel) rfl (hQ E_160 _ _ R_157 q_out_n)
  have h := it_f hp_133 h
  by_cases hp_162 : p2 = 4
  · have h := it_t hp_162 h
    refine go_tsin (dflt := 177) (lo := 0) (hi := 6) (offs := #[43, 56, 89, 111, 125, 132, 154]) (o := 125) (t := 134) (by decide +kernel) f2 (by omega) (by omega) (by rw [hp_162]; decide) (by decide +kernel) ?_
    refine go_aload_n (n := 1) (by decide +kernel) l_18 f1 ?_
    refine go_iconst (n := 3) (z := 3) (by decide +kernel) (by decide) fun v_163 f_164 => ?_
    refine go_iload_n (n := 3) (by decide +kernel) l_20 f3 ?_
    obtain ⟨x_166, m_167, hc_165, h⟩ := bd_s h
    refine go_callV (x := 266) (mi := 4) (n := 2) (ci := 2) (as := [v_163, v3]) (rest := []) (by decide +kernel) (by decide +kernel) rfl rfl (q_sum8 _ (Nat.le_of_ble_eq_true rfl)) R f1 g_3 (om_X1_waitFor (Nat.le_trans (by decide) hd) R g_3 f1 f_164 f3 hc_165) (fun _ S_170 q_173 => ?_) (fun _ _ qq => kr_x qq)
    refine kr_v q_173 fun R_171 E_172 => ?_
    have E_174 := E_172
    cases h
    exact go_vret (by decide +kernel) rfl (hQ E_174 _ _ R_171 q_out_n)
  have h := it_f hp_162 h
  by_cases hp_176 : p2 = 5
  · have h := it_t hp_176 h
    refine go_tsin (dflt := 177) (lo := 0) (hi := 6) (offs := #[43, 56, 89, 111, 125, 132, 154]) (o := 132) (t := 141) (by decide +kernel) f2 (by omega) (by omega) (by rw [hp_176]; decide) (by decide +kernel) ?_
    refine go_aload_n (n := 1) (by decide +kernel) l_18 f1 ?_
    refine go_iconst (n := 1) (z := 1) (by decide +kernel) (by decide) fun v_177 f_178 => ?_
    refine go_aload_n (n := 0) (by decide +kernel) l_17 f0 ?_
    refine go_bipush (n := 10) (z := 10) (by decide +kernel) (by decide) fun v_179 f_180 => ?_
    refine go_iload_n (n := 3) (by decide +kernel) l_20 f3 ?_
    refine go_aload_n (n := 0) (by decide +kernel) l_17 f0 ?_
    refine go_getf (x := 10) (ci := 5) (kf := 0) (fin := 1) (t := 2) (by decide +kernel) (by decide +kernel) (by decide +kernel) R f0 (fx_k (c := 5) R (by decide +kernel)) fun v_181 f_182 => ?_
    have f_183 := q_is_eq (b := 17) f_182 (fx_v R (by decide +kernel)).symm
    refine go_iload (n := 4) (by decide +kernel) l_21 f4 ?_
    obtain ⟨x_185, hc_184, h⟩ := bp_s h
    refine go_callV (x := 217) (mi := 81) (n := 1) (ci := 9) (as := [v4]) (rest := [v3, v_179, v0, v_177, v1]) (by decide +kernel) (by decide +kernel) rfl rfl (by simp only [List.map_cons, List.map_nil, List.sum_cons, List.sum_nil]; rw [q_is_cat f3 (Or.inl rfl), q_is_cat f_180 (Or.inl rfl), q_is_cat f0 (Or.inr rfl), q_is_cat f_178 (Or.inl rfl), q_is_cat f1 (Or.inr rfl)]; decide) R f_183 (fx_k (c := 9) R (by decide +kernel)) (om_X8_value (Nat.le_trans (by decide) hd) R f_183 f4 hc_184) (fun _ S_189 q_192 => ?_) (fun _ _ qq => kr_x qq)
    refine kr_z (by decide) q_192 fun v_187 f_188 R_190 E_191 => ?_
    obtain ⟨x_194, m_195, hc_193, h⟩ := bd_s h
    refine go_callV (x := 198) (mi := 44) (n := 3) (ci := 5) (as := [v_179, v3, v_187]) (rest := [v_177, v1]) (by decide +kernel) (by decide +kernel) rfl rfl (q_sum8 _ (Nat.le_of_ble_eq_true rfl)) R_190 f0 (fx_k (c := 5) R_190 (by decide +kernel)) (om_X4_command (Nat.le_trans (by decide) hd) R_190 f0 f_180 f3 f_188 hc_193) (fun _ S_198 q_201 => ?_) (fun _ _ qq => kr_x qq)
    refine kr_z (by decide) q_201 fun v_196 f_197 R_199 E_200 => ?_
    have E_202 := E_200
    have g_203 := Ext.ok E_200 g_3
    obtain ⟨x_205, m_206, hc_204, h⟩ := bd_s h
    refine go_callV (x := 266) (mi := 4) (n := 2) (ci := 2) (as := [v_177, v_196]) (rest := []) (by decide +kernel) (by decide +kernel) rfl rfl (q_sum8 _ (Nat.le_of_ble_eq_true rfl)) R_199 f1 g_203 (om_X1_waitFor (Nat.le_trans (by decide) hd) R_199 g_203 f1 f_178 f_197 hc_204) (fun _ S_209 q_212 => ?_) (fun _ _ qq => kr_x qq)
    refine kr_v q_212 fun R_210 E_211 => ?_
    have E_213 := Ext.tr E_202 E_211
    cases h
    exact go_vret (by decide +kernel) rfl (hQ E_213 _ _ R_210 q_out_n)
  have h := it_f hp_176 h
  by_cases hp_215 : p2 = 6
  · have h := it_t hp_215 h
    refine go_tsin (dflt := 177) (lo := 0) (hi := 6) (offs := #[43, 56, 89, 111, 125, 132, 154]) (o := 154) (t := 163) (by decide +kernel) f2 (by omega) (by omega) (by rw [hp_215]; decide) (by decide +kernel) ?_
    refine go_aload_n (n := 0) (by decide +kernel) l_17 f0 ?_
    refine go_getf (x := 10) (ci := 5) (kf := 0) (fin := 1) (t := 2) (by decide +kernel) (by decide +kernel) (by decide +kernel) R f0 (fx_k (c := 5) R (by decide +kernel)) fun v_216 f_217 => ?_
    have f_218 := q_is_eq (b := 17) f_217 (fx_v R (by decide +kernel)).symm
    refine go_iload_n (n := 3) (by decide +kernel) l_20 f3 ?_
    obtain ⟨x_220, hc_219, h⟩ := bp_s h
    refine go_callV (x := 217) (mi := 81) (n := 1) (ci := 9) (as := [v3]) (rest := []) (by decide +kernel) (by decide +kernel) rfl rfl (q_sum8 _ (Nat.le_of_ble_eq_true rfl)) R f_218 (fx_k (c := 9) R (by decide +kernel)) (om_X8_value (Nat.le_trans (by decide) hd) R f_218 f3 hc_219) (fun _ S_224 q_227 => ?_) (fun _ _ qq => kr_x qq)
    refine kr_z (by decide) q_227 fun v_222 f_223 R_225 E_226 => ?_
    refine go_if (c := .ne) (o := 8) (t := 179) (P := ¬ (x_220 = 0)) (by decide +kernel) (by decide +kernel) f_223 (Iff.rfl) (fun hp_228 => ?_) (fun hp_228 => ?_)
    · have h := it_f hp_228 h
      refine go_iload (n := 5) (by decide +kernel) l_15 f_13 ?_
      refine go_istore (n := 5) (by decide +kernel) (by decide +kernel) f_13 fun L_229 l_230 kp_231 => ?_
      have l_232 := kp_231 1 _ l_18 (by decide) (Or.inl (by decide))
      refine go_goto (o := 6) (t := 189) (by decide +kernel) (by decide +kernel) ?_
      exact oj_X4_doPlainLine_189 hd R_225 l_232 f1 l_230 f_13 hQ h
    · have h := it_n hp_228 h
      refine go_iload (n := 4) (by decide +kernel) l_21 f4 ?_
      refine go_goto (o := 5) (t := 181) (by decide +kernel) (by decide +kernel) ?_
      refine go_istore (n := 5) (by decide +kernel) (by decide +kernel) f4 fun L_233 l_234 kp_235 => ?_
      have l_236 := kp_235 1 _ l_18 (by decide) (Or.inl (by decide))
      refine go_goto (o := 6) (t := 189) (by decide +kernel) (by decide +kernel) ?_
      exact oj_X4_doPlainLine_189 hd R_225 l_236 f1 l_234 f4 hQ h
  have h := it_f hp_215 h
  refine go_tsout (dflt := 177) (lo := 0) (hi := 6) (offs := #[43, 56, 89, 111, 125, 132, 154]) (t := 186) (by decide +kernel) f2 (by omega) (by decide +kernel) ?_
  refine go_iload_n (n := 3) (by decide +kernel) l_20 f3 ?_
  refine go_istore (n := 5) (by decide +kernel) (by decide +kernel) f3 fun L_237 l_238 kp_239 => ?_
  have l_240 := kp_239 1 _ l_18 (by decide) (Or.inl (by decide))
  exact oj_X4_doPlainLine_189 hd R l_240 f1 l_238 f3 hQ h
end DF6
