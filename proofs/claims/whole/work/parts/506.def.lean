/-! Methods as functions (written by wip/whole/dec.py), 6: X5_removeAt, X4_awake, X8_remove, X8_value, X4_endBranch, X4_doPlainLine. -/
section DF6
noncomputable def fl_X5_removeAt_17 (p0 : Int) (k43 : MM → Option (Int × MM)) : Nat → Int → MM → Option (Int × MM)
  | 0, _, _ => none
  | n + 1, y2, m => lx (m p0 2) fun x_22 =>
if y2 < x_22 then
bp (fm_X5_wide p0 y2 m) fun x_30 =>
bd (fm_X5_put p0 (w32 (y2 - 1)) x_30 m) fun x_39 m_40 =>
lx (w32 (y2 + 1)) fun x_55 =>
fl_X5_removeAt_17 p0 k43 n x_55 m_40
else
k43 m
set_option maxHeartbeats 4000000 in
theorem ol_X5_removeAt_17 {xs : List Int32} {d : Nat} {Q : QO → QS → Prop} {mb : MM} {p0 : Int} {k43 : MM → Option (Int × MM)} {rz : Int} {rm : MM}
  (hd : 1 ≤ d) (gb : okc mb p0 6)
  (hk43 : ∀ mq : MM, Ext mb mq → ∀ {Sq : QS} {Lq : QL} {u0 : Value}, k43 mq = some (rz, rm) → Rp Sq mq → q_lo Lq 0 = some u0 → q_is 2 u0 p0 → Go xs d qM_X5_removeAt 43 Lq [] Sq Q)
  (hQ : Ext mb rm → ∀ o S1, Rp S1 rm → q_out 9 o rz → Q o S1) :
  ∀ (n : Nat) {m : MM} {S : QS} {L : QL} {y2 : Int} {v0 : Value} {v2 : Value} , Ext mb m → fl_X5_removeAt_17 p0 k43 n y2 m = some (rz, rm) → Rp S m → q_lo L 0 = some v0 → q_is 2 v0 p0 → q_lo L 2 = some v2 → q_is 0 v2 y2 → Go xs d qM_X5_removeAt 17 L [] S Q := by
  intro n
  induction n with
  | zero => intro m S L y2 v0 v2; intro E h R l0 f0 l2 f2; cases h
  | succ n ih0 =>
    intro m S L y2 v0 v2; intro E h R l0 f0 l2 f2
    have ih : ∀ mq : MM, Ext mb mq → ∀ {z2 : Int} {Sq : QS} {Lq : QL} {u0 : Value} {u2 : Value}, fl_X5_removeAt_17 p0 k43 n z2 mq = some (rz, rm) → Rp Sq mq → q_lo Lq 0 = some u0 → q_is 2 u0 p0 → q_lo Lq 2 = some u2 → q_is 0 u2 z2 → Go xs d qM_X5_removeAt 17 Lq [] Sq Q := fun mq b => by intros; exact ih0 b ‹_› ‹_› ‹_› ‹_› ‹_› ‹_›
    have g0 := Ext.ok E gb
    unfold fl_X5_removeAt_17 at h
    refine go_iload_n (n := 2) (by decide +kernel) l2 f2 ?_
    refine go_aload_n (n := 0) (by decide +kernel) l0 f0 ?_
    obtain ⟨x_22, e_23, h⟩ := lx_s h
    refine go_getf (x := 19) (ci := 6) (kf := 2) (fin := 0) (t := 0) (by decide +kernel) (by decide +kernel) (by decide +kernel) R f0 g0 fun v_19 f_20 => ?_
    have f_21 := q_is_eq f_20 e_23
    refine go_icmp (c := .ge) (o := 21) (t := 43) (P := ¬ (y2 < x_22)) (by decide +kernel) (by decide +kernel) f2 f_21 (Int.not_lt.symm) (fun hp_24 => ?_) (fun hp_24 => ?_)
    · have h := it_f hp_24 h
      exact hk43 m E h R l0 f0
    · have h := it_n hp_24 h
      refine go_aload_n (n := 0) (by decide +kernel) l0 f0 ?_
      refine go_iload_n (n := 2) (by decide +kernel) l2 f2 ?_
      refine go_iconst (n := 1) (z := 1) (by decide +kernel) (by decide) fun v_25 f_26 => ?_
      refine go_isub (by decide +kernel) f2 f_26 fun v_27 f_28 => ?_
      refine go_aload_n (n := 0) (by decide +kernel) l0 f0 ?_
      refine go_iload_n (n := 2) (by decide +kernel) l2 f2 ?_
      obtain ⟨x_30, hc_29, h⟩ := bp_s h
      refine go_callV (x := 22) (mi := 58) (n := 1) (ci := 6) (as := [v2]) (rest := [v_27, v0]) (by decide +kernel) (by decide +kernel) rfl rfl (q_sum8 _ (Nat.le_of_ble_eq_true rfl)) R f0 g0 (om_X5_wide (Nat.le_trans (by decide) hd) R g0 f0 f2 hc_29) (fun _ S_34 q_37 => ?_) (fun _ _ qq => kr_x qq)
      refine kr_z (by decide) q_37 fun v_32 f_33 R_35 E_36 => ?_
      obtain ⟨x_39, m_40, hc_38, h⟩ := bd_s h
      refine go_callV (x := 26) (mi := 62) (n := 2) (ci := 6) (as := [v_27, v_32]) (rest := []) (by decide +kernel) (by decide +kernel) rfl rfl (q_sum8 _ (Nat.le_of_ble_eq_true rfl)) R_35 f0 g0 (om_X5_put (Nat.le_trans (by decide) hd) R_35 g0 f0 f_28 f_33 hc_38) (fun _ S_43 q_46 => ?_) (fun _ _ qq => kr_x qq)
      refine kr_v q_46 fun R_44 E_45 => ?_
      have E_49 := Ext.tr E E_45
      refine go_iinc (n := 2) (c := 1) (c' := 1) (by decide +kernel) (by decide +kernel) l2 f2 (by decide) fun L_50 v_51 f_52 l_53 kp_54 => ?_
      obtain ⟨x_55, e_56, h⟩ := lx_s h
      have f_57 := q_is_eq f_52 e_56
      have l_58 := kp_54 0 _ l0 (by decide) (Or.inl (by decide))
      refine go_goto (o := (-23)) (t := 17) (by decide +kernel) (by decide +kernel) ?_
      exact ih m_40 E_49 h R_44 l_58 f0 l_53 f_57
noncomputable def fm_X5_removeAt (p0 p1 : Int) (m0 : MM) : Option (Int × MM) := if p1 < 0 then
some (0, m0)
else
lx (m0 p0 2) fun x_5 =>
if p1 < x_5 then
lx (w32 (p1 + 1)) fun x_12 =>
fl_X5_removeAt_17 p0 (fun m_65 =>
lx (m_65 p0 2) fun x_74 =>
up m_65 p0 2 (w32 (x_74 - 1)) fun m_80 =>
some (0, m_80)) BIG x_12 m0
else
some (0, m0)
set_option maxHeartbeats 4000000 in
theorem om_X5_removeAt {xs : List Int32} {d : Nat} {S : QS} {m0 : MM} {p0 p1 : Int} {v0 : Value} {v1 : Value} {rz : Int} {rm : MM}
  (hd : 2 ≤ d) (R : Rp S m0) (g0 : okc m0 p0 6) (f0 : q_is 2 v0 p0) (f1 : q_is 0 v1 p1)
  (h : fm_X5_removeAt p0 p1 m0 = some (rz, rm)) : Mt xs d 61 [v0, v1] S (Cr 9 m0 rm rz) := by
  obtain ⟨d, rfl⟩ : ∃ e, d = e + 1 := ⟨d - 1, by omega⟩
  have hd : 1 ≤ d := Nat.le_of_succ_le_succ hd
  refine Mt.of (M := qM_X5_removeAt) rfl (by rw [sl_1 (q_is_cat f0 (Or.inr rfl)), sl_1 (q_is_cat f1 (Or.inl rfl)), sl_0]; decide) ?_
  rw [la_1 (q_is_cat f0 (Or.inr rfl)), la_1 (q_is_cat f1 (Or.inl rfl)), la_0]
  obtain ⟨L, hL⟩ : ∃ L : QL, L = [(0, v0), (0 + 1, v1)] := ⟨_, rfl⟩
  rw [← hL]
  have l0 : q_lo L 0 = some v0 := by rw [hL]; rfl
  have l1 : q_lo L 1 = some v1 := by rw [hL]; rfl
  have hQ : Ext m0 rm → ∀ o S1, Rp S1 rm → q_out 9 o rz → (Cr 9 m0 rm rz) o S1 := fun a o S1 b e => ⟨b, a, e⟩
  unfold fm_X5_removeAt at h
  refine go_iload_n (n := 1) (by decide +kernel) l1 f1 ?_
  refine go_if (c := .lt) (o := 11) (t := 12) (P := p1 < 0) (by decide +kernel) (by decide +kernel) f1 (Iff.rfl) (fun hp_1 => ?_) (fun hp_1 => ?_)
  · have h := it_t hp_1 h
    cases h
    exact go_vret (by decide +kernel) rfl (hQ (Ext.rf _) _ _ R q_out_n)
  · have h := it_f hp_1 h
    refine go_iload_n (n := 1) (by decide +kernel) l1 f1 ?_
    refine go_aload_n (n := 0) (by decide +kernel) l0 f0 ?_
    obtain ⟨x_5, e_6, h⟩ := lx_s h
    refine go_getf (x := 19) (ci := 6) (kf := 2) (fin := 0) (t := 0) (by decide +kernel) (by decide +kernel) (by decide +kernel) R f0 g0 fun v_2 f_3 => ?_
    have f_4 := q_is_eq f_3 e_6
    refine go_icmp (c := .lt) (o := 4) (t := 13) (P := p1 < x_5) (by decide +kernel) (by decide +kernel) f1 f_4 (Iff.rfl) (fun hp_7 => ?_) (fun hp_7 => ?_)
    · have h := it_t hp_7 h
      refine go_iload_n (n := 1) (by decide +kernel) l1 f1 ?_
      refine go_iconst (n := 1) (z := 1) (by decide +kernel) (by decide) fun v_8 f_9 => ?_
      refine go_iadd (by decide +kernel) f1 f_9 fun v_10 f_11 => ?_
      obtain ⟨x_12, e_13, h⟩ := lx_s h
      have f_14 := q_is_eq f_11 e_13
      refine go_istore_n (n := 2) (by decide +kernel) (by decide +kernel) f_14 fun L_15 l_16 kp_17 => ?_
      have l_18 := kp_17 0 _ l0 (by decide) (Or.inl (by decide))
      refine ol_X5_removeAt_17 hd  g0 ?_ hQ BIG (Ext.rf _) h R l_18 f0 l_16 f_14
      intro m_65 E_66
      intro S_62 L_63 v_59
      intro h R_64 l_60 f_61
      have E_67 := E_66
      refine go_aload_n (n := 0) (by decide +kernel) l_60 f_61 ?_
      refine go_dup (by decide +kernel) f_61 (Or.inr rfl) ?_
      have g_72 := Ext.ok E_66 g0
      obtain ⟨x_74, e_75, h⟩ := lx_s h
      refine go_getf (x := 19) (ci := 6) (kf := 2) (fin := 0) (t := 0) (by decide +kernel) (by decide +kernel) (by decide +kernel) R_64 f_61 g_72 fun v_70 f_71 => ?_
      have f_73 := q_is_eq f_71 e_75
      refine go_iconst (n := 1) (z := 1) (by decide +kernel) (by decide) fun v_76 f_77 => ?_
      refine go_isub (by decide +kernel) f_73 f_77 fun v_78 f_79 => ?_
      obtain ⟨m_80, e_81, h⟩ := up_s h
      refine go_putf (x := 19) (ci := 6) (kf := 2) (fin := 0) (zt := 0) (by decide +kernel) (by decide +kernel) (by decide) (by decide +kernel) (by decide) (Or.inl rfl) R_64 f_61 f_79 (fun hq => absurd hq (by decide)) g_72 e_81 (fx_f (j := 2) R_64.2 g_72 (by decide +kernel)) fun S_82 R_83 E_84 => ?_
      have E_86 := Ext.tr E_67 E_84
      cases h
      exact go_vret (by decide +kernel) rfl (hQ E_86 _ _ R_83 q_out_n)
    · have h := it_f hp_7 h
      cases h
      exact go_vret (by decide +kernel) rfl (hQ (Ext.rf _) _ _ R q_out_n)
noncomputable def fj_X4_awake_52 (y1 : Int) (m : MM) : Option (Int × MM) := gd (okc m y1 2) <| lx (m y1 4) fun x_14 =>
bd (fm_X1_goOnAt y1 (w32 (x_14 + 1)) m) fun x_21 m_22 =>
some (0, m_22)
set_option maxHeartbeats 4000000 in
theorem oj_X4_awake_52 {xs : List Int32} {d : Nat} {S : QS} {L : QL} {Q : QO → QS → Prop} {m : MM} {y1 : Int} {v1 : Value}  {rz : Int} {rm : MM}
  (hd : 2 ≤ d) (R : Rp S m) (l1 : q_lo L 1 = some v1) (f1 : q_is 2 v1 y1)
  (hQ : Ext m rm → ∀ o S1, Rp S1 rm → q_out 9 o rz → Q o S1)
  (h : fj_X4_awake_52 y1 m = some (rz, rm)) : Go xs d qM_X4_awake 52 L [] S Q := by
  unfold fj_X4_awake_52 at h
  refine go_aload_n (n := 1) (by decide +kernel) l1 f1 ?_
  refine go_aload_n (n := 1) (by decide +kernel) l1 f1 ?_
  obtain ⟨g_12, h⟩ := gd_s h
  obtain ⟨x_14, e_15, h⟩ := lx_s h
  refine go_getf (x := 168) (ci := 2) (kf := 4) (fin := 0) (t := 0) (by decide +kernel) (by decide +kernel) (by decide +kernel) R f1 g_12 fun v_10 f_11 => ?_
  have f_13 := q_is_eq f_11 e_15
  refine go_iconst (n := 1) (z := 1) (by decide +kernel) (by decide) fun v_16 f_17 => ?_
  refine go_iadd (by decide +kernel) f_13 f_17 fun v_18 f_19 => ?_
  obtain ⟨x_21, m_22, hc_20, h⟩ := bd_s h
  refine go_callV (x := 171) (mi := 5) (n := 1) (ci := 2) (as := [v_18]) (rest := []) (by decide +kernel) (by decide +kernel) rfl rfl (q_sum8 _ (Nat.le_of_ble_eq_true rfl)) R f1 g_12 (om_X1_goOnAt (Nat.le_trans (by decide) hd) R g_12 f1 f_19 hc_20) (fun _ S_25 q_28 => ?_) (fun _ _ qq => kr_x qq)
  refine kr_v q_28 fun R_26 E_27 => ?_
  have E_31 := E_27
  cases h
  exact go_vret (by decide +kernel) rfl (hQ E_31 _ _ R_26 q_out_n)
noncomputable def fm_X4_awake (p1 : Int) (m0 : MM) : Option (Int × MM) := gd (okc m0 p1 2) <| lx (m0 p1 7) fun x_5 =>
if x_5 = 3 then
lx (m0 p1 8) fun x_38 =>
bp (fm_X8_queue x_38 m0) fun x_41 =>
lx (m0 16 3) fun x_60 =>
lx (m0 p1 4) fun x_65 =>
gd (okc m0 x_60 6) <| bp (fm_X5_at x_60 x_65 m0) fun x_69 =>
gd (okc m0 x_41 6) <| bp (fm_X5_at x_41 0 m0) fun x_85 =>
bd (fm_X8_set (Int.tmod x_69 1000) x_85 m0) fun x_94 m_95 =>
bd (fm_X5_removeAt x_41 0 m_95) fun x_109 m_110 =>
fj_X4_awake_52 p1 m_110
else
fj_X4_awake_52 p1 m0
set_option maxHeartbeats 4000000 in
theorem om_X4_awake {xs : List Int32} {d : Nat} {S : QS} {m0 : MM} {p1 : Int} {v0 : Value} {v1 : Value} {rz : Int} {rm : MM}
  (hd : 3 ≤ d) (R : Rp S m0) (f0 : q_is 2 v0 16) (f1 : q_is 2 v1 p1)
  (h : fm_X4_awake p1 m0 = some (rz, rm)) : Mt xs d 46 [v0, v1] S (Cr 9 m0 rm rz) := by
  obtain ⟨d, rfl⟩ : ∃ e, d = e + 1 := ⟨d - 1, by omega⟩
  have hd : 2 ≤ d := Nat.le_of_succ_le_succ hd
  refine Mt.of (M := qM_X4_awake) rfl (by rw [sl_1 (q_is_cat f0 (Or.inr rfl)), sl_1 (q_is_cat f1 (Or.inr rfl)), sl_0]; decide) ?_
  rw [la_1 (q_is_cat f0 (Or.inr rfl)), la_1 (q_is_cat f1 (Or.inr rfl)), la_0]
  obtain ⟨L, hL⟩ : ∃ L : QL, L = [(0, v0), (0 + 1, v1)] := ⟨_, rfl⟩
  rw [← hL]
  have l0 : q_lo L 0 = some v0 := by rw [hL]; rfl
  have l1 : q_lo L 1 = some v1 := by rw [hL]; rfl
  have hQ : Ext m0 rm → ∀ o S1, Rp S1 rm → q_out 9 o rz → (Cr 9 m0 rm rz) o S1 := fun a o S1 b e => ⟨b, a, e⟩
  unfold fm_X4_awake at h
  refine go_aload_n (n := 1) (by decide +kernel) l1 f1 ?_
  obtain ⟨g_3, h⟩ := gd_s h
  obtain ⟨x_5, e_6, h⟩ := lx_s h
  refine go_getf (x := 163) (ci := 2) (kf := 7) (fin := 0) (t := 0) (by decide +kernel) (by decide +kernel) (by decide +kernel) R f1 g_3 fun v_1 f_2 => ?_
  have f_4 := q_is_eq f_2 e_6
  refine go_iconst (n := 3) (z := 3) (by decide +kernel) (by decide) fun v_7 f_8 => ?_
  refine go_icmp (c := .ne) (o := 47) (t := 52) (P := ¬ (x_5 = 3)) (by decide +kernel) (by decide +kernel) f_4 f_8 (Iff.rfl) (fun hp_9 => ?_) (fun hp_9 => ?_)
  · have h := it_f hp_9 h
    exact oj_X4_awake_52 hd R l1 f1 hQ h
  · have h := it_n hp_9 h
    refine go_aload_n (n := 0) (by decide +kernel) l0 f0 ?_
    refine go_getf (x := 10) (ci := 5) (kf := 0) (fin := 1) (t := 2) (by decide +kernel) (by decide +kernel) (by decide +kernel) R f0 (fx_k (c := 5) R (by decide +kernel)) fun v_32 f_33 => ?_
    have f_34 := q_is_eq (b := 17) f_33 (fx_v R (by decide +kernel)).symm
    refine go_aload_n (n := 1) (by decide +kernel) l1 f1 ?_
    obtain ⟨x_38, e_39, h⟩ := lx_s h
    refine go_getf (x := 195) (ci := 2) (kf := 8) (fin := 0) (t := 0) (by decide +kernel) (by decide +kernel) (by decide +kernel) R f1 g_3 fun v_35 f_36 => ?_
    have f_37 := q_is_eq f_36 e_39
    obtain ⟨x_41, hc_40, h⟩ := bp_s h
    refine go_callV (x := 137) (mi := 83) (n := 1) (ci := 9) (as := [v_35]) (rest := []) (by decide +kernel) (by decide +kernel) rfl rfl (q_sum8 _ (Nat.le_of_ble_eq_true rfl)) R f_34 (fx_k (c := 9) R (by decide +kernel)) (om_X8_queue (Nat.le_trans (by decide) hd) R f_34 f_37 hc_40) (fun _ S_45 q_48 => ?_) (fun _ _ qq => kr_x qq)
    refine kr_z (by decide) q_48 fun v_43 f_44 R_46 E_47 => ?_
    refine go_astore_n (n := 2) (by decide +kernel) (by decide +kernel) f_44 fun L_49 l_50 kp_51 => ?_
    have l_52 := kp_51 0 _ l0 (by decide) (Or.inl (by decide))
    have l_53 := kp_51 1 _ l1 (by decide) (Or.inr (q_is_cat f1 (Or.inr rfl)))
    refine go_aload_n (n := 0) (by decide +kernel) l_52 f0 ?_
    refine go_getf (x := 10) (ci := 5) (kf := 0) (fin := 1) (t := 2) (by decide +kernel) (by decide +kernel) (by decide +kernel) R_46 f0 (fx_k (c := 5) R_46 (by decide +kernel)) fun v_54 f_55 => ?_
    have f_56 := q_is_eq (b := 17) f_55 (fx_v R_46 (by decide +kernel)).symm
    refine go_aload_n (n := 0) (by decide +kernel) l_52 f0 ?_
    obtain ⟨x_60, e_61, h⟩ := lx_s h
    refine go_getf (x := 31) (ci := 5) (kf := 3) (fin := 0) (t := 2) (by decide +kernel) (by decide +kernel) (by decide +kernel) R_46 f0 (fx_k (c := 5) R_46 (by decide +kernel)) fun v_57 f_58 => ?_
    have f_59 := q_is_eq f_58 e_61
    refine go_aload_n (n := 1) (by decide +kernel) l_53 f1 ?_
    obtain ⟨x_65, e_66, h⟩ := lx_s h
    refine go_getf (x := 168) (ci := 2) (kf := 4) (fin := 0) (t := 0) (by decide +kernel) (by decide +kernel) (by decide +kernel) R_46 f1 g_3 fun v_62 f_63 => ?_
    have f_64 := q_is_eq f_63 e_66
    obtain ⟨g_67, h⟩ := gd_s h
    obtain ⟨x_69, hc_68, h⟩ := bp_s h
    refine go_callV (x := 174) (mi := 59) (n := 1) (ci := 6) (as := [v_62]) (rest := [v_54]) (by decide +kernel) (by decide +kernel) rfl rfl (q_sum8 _ (Nat.le_of_ble_eq_true rfl)) R_46 f_59 g_67 (om_X5_at (Nat.le_trans (by decide) hd) R_46 g_67 f_59 f_64 hc_68) (fun _ S_73 q_76 => ?_) (fun _ _ qq => kr_x qq)
    refine kr_z (by decide) q_76 fun v_71 f_72 R_74 E_75 => ?_
    refine go_sipush (n := 1000) (z := 1000) (by decide +kernel) (by decide) fun v_77 f_78 => ?_
    refine go_irem (by decide +kernel) f_72 f_78 (by decide) fun v_79 f_80 => ?_
    refine go_aload_n (n := 2) (by decide +kernel) l_50 f_44 ?_
    refine go_iconst (n := 0) (z := 0) (by decide +kernel) (by decide) fun v_81 f_82 => ?_
    obtain ⟨g_83, h⟩ := gd_s h
    obtain ⟨x_85, hc_84, h⟩ := bp_s h
    refine go_callV (x := 174) (mi := 59) (n := 1) (ci := 6) (as := [v_81]) (rest := [v_79, v_54]) (by decide +kernel) (by decide +kernel) rfl rfl (q_sum8 _ (Nat.le_of_ble_eq_true rfl)) R_74 f_44 g_83 (om_X5_at (Nat.le_trans (by decide) hd) R_74 g_83 f_44 f_82 hc_84) (fun _ S_89 q_92 => ?_) (fun _ _ qq => kr_x qq)
    refine kr_z (by decide) q_92 fun v_87 f_88 R_90 E_91 => ?_
    obtain ⟨x_94, m_95, hc_93, h⟩ := bd_s h
    refine go_callV (x := 129) (mi := 82) (n := 2) (ci := 9) (as := [v_79, v_87]) (rest := []) (by decide +kernel) (by decide +kernel) rfl rfl (q_sum8 _ (Nat.le_of_ble_eq_true rfl)) R_90 f_56 (fx_k (c := 9) R_90 (by decide +kernel)) (om_X8_set (Nat.le_trans (by decide) hd) R_90 f_56 f_80 f_88 hc_93) (fun _ S_98 q_101 => ?_) (fun _ _ qq => kr_x qq)
    refine kr_v q_101 fun R_99 E_100 => ?_
    have E_104 := E_100
    refine go_aload_n (n := 2) (by decide +kernel) l_50 f_44 ?_
    refine go_iconst (n := 0) (z := 0) (by decide +kernel) (by decide) fun v_105 f_106 => ?_
    have g_107 := Ext.ok E_100 g_83
    obtain ⟨x_109, m_110, hc_108, h⟩ := bd_s h
    refine go_callV (x := 263) (mi := 61) (n := 1) (ci := 6) (as := [v_105]) (rest := []) (by decide +kernel) (by decide +kernel) rfl rfl (q_sum8 _ (Nat.le_of_ble_eq_true rfl)) R_99 f_44 g_107 (om_X5_removeAt (Nat.le_trans (by decide) hd) R_99 g_107 f_44 f_106 hc_108) (fun _ S_113 q_116 => ?_) (fun _ _ qq => kr_x qq)
    refine kr_v q_116 fun R_114 E_115 => ?_
    have E_119 := Ext.tr E_104 E_115
    exact oj_X4_awake_52 hd R_114 l_53 f1 (fun b => hQ (Ext.tr E_119 b)) h
noncomputable def fl_X8_remove_2 (y1 : Int) (m : MM) (k35 : Int → Option (Int × MM)) : Nat → Int → Option (Int × MM)
  | 0, _ => none
  | n + 1, y2 => lx (m 17 5) fun x_11 =>
if y2 < x_11 then
if y2 < 12 then
gd (0 ≤ y2 ∧ y2 < 12) <| lx (m 19 y2) fun x_28 =>
gd (x_28 = 0 ∨ x_28 = 1 ∨ 4 ≤ x_28) <| gd (y1 = 0 ∨ y1 = 1 ∨ 4 ≤ y1) <| if x_28 = y1 then
k35 y2
else
lx (w32 (y2 + 1)) fun x_38 =>
fl_X8_remove_2 y1 m k35 n x_38
else
k35 y2
else
k35 y2
set_option maxHeartbeats 4000000 in
theorem ol_X8_remove_2 {xs : List Int32} {d : Nat} {Q : QO → QS → Prop} {m : MM} {y1 : Int} {k35 : Int → Option (Int × MM)} {rz : Int} {rm : MM}
  (hd : 0 ≤ d)
  (hk35 : ∀ {z2 : Int} {Sq : QS} {Lq : QL} {u0 : Value} {u1 : Value} {u2 : Value}, k35 z2 = some (rz, rm) → Rp Sq m → q_lo Lq 0 = some u0 → q_is 2 u0 17 → q_lo Lq 1 = some u1 → q_is 2 u1 y1 → q_lo Lq 2 = some u2 → q_is 0 u2 z2 → Go xs d qM_X8_remove 35 Lq [] Sq Q)
  (hQ : Ext m rm → ∀ o S1, Rp S1 rm → q_out 9 o rz → Q o S1) :
  ∀ (n : Nat) {S : QS} {L : QL} {y2 : Int} {v0 : Value} {v1 : Value} {v2 : Value} , fl_X8_remove_2 y1 m k35 n y2 = some (rz, rm) → Rp S m → q_lo L 0 = some v0 → q_is 2 v0 17 → q_lo L 1 = some v1 → q_is 2 v1 y1 → q_lo L 2 = some v2 → q_is 0 v2 y2 → Go xs d qM_X8_remove 2 L [] S Q := by
  intro n
  induction n with
  | zero => intro S L y2 v0 v1 v2; intro h R l0 f0 l1 f1 l2 f2; cases h
  | succ n ih0 =>
    intro S L y2 v0 v1 v2; intro h R l0 f0 l1 f1 l2 f2
    have ih : ∀ {z2 : Int} {Sq : QS} {Lq : QL} {u0 : Value} {u1 : Value} {u2 : Value}, fl_X8_remove_2 y1 m k35 n z2 = some (rz, rm) → Rp Sq m → q_lo Lq 0 = some u0 → q_is 2 u0 17 → q_lo Lq 1 = some u1 → q_is 2 u1 y1 → q_lo Lq 2 = some u2 → q_is 0 u2 z2 → Go xs d qM_X8_remove 2 Lq [] Sq Q := by intros; exact ih0 ‹_› ‹_› ‹_› ‹_› ‹_› ‹_› ‹_› ‹_›
    unfold fl_X8_remove_2 at h
    refine go_iload_n (n := 2) (by decide +kernel) l2 f2 ?_
    refine go_aload_n (n := 0) (by decide +kernel) l0 f0 ?_
    obtain ⟨x_11, e_12, h⟩ := lx_s h
    refine go_getf (x := 36) (ci := 9) (kf := 5) (fin := 0) (t := 0) (by decide +kernel) (by decide +kernel) (by decide +kernel) R f0 (fx_k (c := 9) R (by decide +kernel)) fun v_8 f_9 => ?_
    have f_10 := q_is_eq f_9 e_12
    refine go_icmp (c := .ge) (o := 28) (t := 35) (P := ¬ (y2 < x_11)) (by decide +kernel) (by decide +kernel) f2 f_10 (Int.not_lt.symm) (fun hp_13 => ?_) (fun hp_13 => ?_)
    · have h := it_f hp_13 h
      exact hk35 h R l0 f0 l1 f1 l2 f2
    · have h := it_n hp_13 h
      refine go_iload_n (n := 2) (by decide +kernel) l2 f2 ?_
      refine go_aload_n (n := 0) (by decide +kernel) l0 f0 ?_
      refine go_getf (x := 17) (ci := 9) (kf := 1) (fin := 1) (t := 2) (by decide +kernel) (by decide +kernel) (by decide +kernel) R f0 (fx_k (c := 9) R (by decide +kernel)) fun v_14 f_15 => ?_
      have f_16 := q_is_eq (b := 19) f_15 (fx_v R (by decide +kernel)).symm
      refine go_alen (by decide +kernel) R f_16 (okl_of (fx_k (c := 103) R (by decide +kernel)) (by decide)) fun v_17 f_18 => ?_
      have f_19 := q_is_eq (b := 12) f_18 (by rw [fx_l R (ln := 12) (by decide +kernel)]; decide)
      refine go_icmp (c := .ge) (o := 19) (t := 35) (P := ¬ (y2 < 12)) (by decide +kernel) (by decide +kernel) f2 f_19 (Int.not_lt.symm) (fun hp_20 => ?_) (fun hp_20 => ?_)
      · have h := it_f hp_20 h
        exact hk35 h R l0 f0 l1 f1 l2 f2
      · have h := it_n hp_20 h
        refine go_aload_n (n := 0) (by decide +kernel) l0 f0 ?_
        refine go_getf (x := 17) (ci := 9) (kf := 1) (fin := 1) (t := 2) (by decide +kernel) (by decide +kernel) (by decide +kernel) R f0 (fx_k (c := 9) R (by decide +kernel)) fun v_21 f_22 => ?_
        have f_23 := q_is_eq (b := 19) f_22 (fx_v R (by decide +kernel)).symm
        refine go_iload_n (n := 2) (by decide +kernel) l2 f2 ?_
        obtain ⟨g_26, h⟩ := gd_s h
        obtain ⟨x_28, e_29, h⟩ := lx_s h
        refine go_aald (kd := 103) (by decide +kernel) (by decide) R f_23 f2 (fx_k (c := 103) R (by decide +kernel)) (fx_x (a := 19) (ln := 12) R (by decide +kernel) g_26) fun v_24 f_25 => ?_
        have f_27 := q_is_eq f_25 e_29
        refine go_aload_n (n := 1) (by decide +kernel) l1 f1 ?_
        obtain ⟨g_31, h⟩ := gd_s h
        obtain ⟨g_32, h⟩ := gd_s h
        refine go_acmp (c := .eq) (o := 9) (t := 35) (P := x_28 = y1) (by decide +kernel) (by decide +kernel) f_27 f1 g_31 g_32 Iff.rfl (fun hp_30 => ?_) (fun hp_30 => ?_)
        · have h := it_t hp_30 h
          exact hk35 h R l0 f0 l1 f1 l2 f2
        · have h := it_f hp_30 h
          refine go_iinc (n := 2) (c := 1) (c' := 1) (by decide +kernel) (by decide +kernel) l2 f2 (by decide) fun L_33 v_34 f_35 l_36 kp_37 => ?_
          obtain ⟨x_38, e_39, h⟩ := lx_s h
          have f_40 := q_is_eq f_35 e_39
          have l_41 := kp_37 0 _ l0 (by decide) (Or.inl (by decide))
          have l_42 := kp_37 1 _ l1 (by decide) (Or.inr (q_is_cat f1 (Or.inr rfl)))
          refine go_goto (o := (-30)) (t := 2) (by decide +kernel) (by decide +kernel) ?_
          exact ih h R l_41 f0 l_42 f1 l_36 f_40
noncomputable def fl_X8_remove_57 (y1 : Int) (k94 : MM → Option (Int × MM)) : Nat → Int → MM → Option (Int × MM)
  | 0, _, _ => none
  | n + 1, y3, m => lx (m 17 5) fun x_84 =>
if y3 < x_84 then
if y3 < 12 then
gd (0 ≤ y3 ∧ y3 < 12) <| lx (m 19 y3) fun x_108 =>
gd (0 ≤ w32 (y3 - 1) ∧ w32 (y3 - 1) < 12) <| gd (x_108 = 0 ∨ okc m x_108 2) <| up m 19 (w32 (y3 - 1)) x_108 fun m_111 =>
lx (w32 (y3 + 1)) fun x_124 =>
fl_X8_remove_57 y1 k94 n x_124 m_111
else
k94 m
else
k94 m
set_option maxHeartbeats 4000000 in
theorem ol_X8_remove_57 {xs : List Int32} {d : Nat} {Q : QO → QS → Prop} {mb : MM} {y1 : Int} {k94 : MM → Option (Int × MM)} {rz : Int} {rm : MM}
  (hd : 0 ≤ d)
  (hk94 : ∀ mq : MM, Ext mb mq → ∀ {Sq : QS} {Lq : QL} {u0 : Value} {u1 : Value}, k94 mq = some (rz, rm) → Rp Sq mq → q_lo Lq 0 = some u0 → q_is 2 u0 17 → q_lo Lq 1 = some u1 → q_is 2 u1 y1 → Go xs d qM_X8_remove 94 Lq [] Sq Q)
  (hQ : Ext mb rm → ∀ o S1, Rp S1 rm → q_out 9 o rz → Q o S1) :
  ∀ (n : Nat) {m : MM} {S : QS} {L : QL} {y3 : Int} {v0 : Value} {v1 : Value} {v3 : Value} , Ext mb m → fl_X8_remove_57 y1 k94 n y3 m = some (rz, rm) → Rp S m → q_lo L 0 = some v0 → q_is 2 v0 17 → q_lo L 1 = some v1 → q_is 2 v1 y1 → q_lo L 3 = some v3 → q_is 0 v3 y3 → Go xs d qM_X8_remove 57 L [] S Q := by
  intro n
  induction n with
  | zero => intro m S L y3 v0 v1 v3; intro E h R l0 f0 l1 f1 l3 f3; cases h
  | succ n ih0 =>
    intro m S L y3 v0 v1 v3; intro E h R l0 f0 l1 f1 l3 f3
    have ih : ∀ mq : MM, Ext mb mq → ∀ {z3 : Int} {Sq : QS} {Lq : QL} {u0 : Value} {u1 : Value} {u3 : Value}, fl_X8_remove_57 y1 k94 n z3 mq = some (rz, rm) → Rp Sq mq → q_lo Lq 0 = some u0 → q_is 2 u0 17 → q_lo Lq 1 = some u1 → q_is 2 u1 y1 → q_lo Lq 3 = some u3 → q_is 0 u3 z3 → Go xs d qM_X8_remove 57 Lq [] Sq Q := fun mq b => by intros; exact ih0 b ‹_› ‹_› ‹_› ‹_› ‹_› ‹_› ‹_› ‹_›
    unfold fl_X8_remove_57 at h
    refine go_iload_n (n := 3) (by decide +kernel) l3 f3 ?_
    refine go_aload_n (n := 0) (by decide +kernel) l0 f0 ?_
    obtain ⟨x_84, e_85, h⟩ := lx_s h
    refine go_getf (x := 36) (ci := 9) (kf := 5) (fin := 0) (t := 0) (by decide +kernel) (by decide +kernel) (by decide +kernel) R f0 (fx_k (c := 9) R (by decide +kernel)) fun v_81 f_82 => ?_
    have f_83 := q_is_eq f_82 e_85
    refine go_icmp (c := .ge) (o := 32) (t := 94) (P := ¬ (y3 < x_84)) (by decide +kernel) (by decide +kernel) f3 f_83 (Int.not_lt.symm) (fun hp_86 => ?_) (fun hp_86 => ?_)
    · have h := it_f hp_86 h
      exact hk94 m E h R l0 f0 l1 f1
    · have h := it_n hp_86 h
      refine go_iload_n (n := 3) (by decide +kernel) l3 f3 ?_
      refine go_aload_n (n := 0) (by decide +kernel) l0 f0 ?_
      refine go_getf (x := 17) (ci := 9) (kf := 1) (fin := 1) (t := 2) (by decide +kernel) (by decide +kernel) (by decide +kernel) R f0 (fx_k (c := 9) R (by decide +kernel)) fun v_87 f_88 => ?_
      have f_89 := q_is_eq (b := 19) f_88 (fx_v R (by decide +kernel)).symm
      refine go_alen (by decide +kernel) R f_89 (okl_of (fx_k (c := 103) R (by decide +kernel)) (by decide)) fun v_90 f_91 => ?_
      have f_92 := q_is_eq (b := 12) f_91 (by rw [fx_l R (ln := 12) (by decide +kernel)]; decide)
      refine go_icmp (c := .ge) (o := 23) (t := 94) (P := ¬ (y3 < 12)) (by decide +kernel) (by decide +kernel) f3 f_92 (Int.not_lt.symm) (fun hp_93 => ?_) (fun hp_93 => ?_)
      · have h := it_f hp_93 h
        exact hk94 m E h R l0 f0 l1 f1
      · have h := it_n hp_93 h
        refine go_aload_n (n := 0) (by decide +kernel) l0 f0 ?_
        refine go_getf (x := 17) (ci := 9) (kf := 1) (fin := 1) (t := 2) (by decide +kernel) (by decide +kernel) (by decide +kernel) R f0 (fx_k (c := 9) R (by decide +kernel)) fun v_94 f_95 => ?_
        have f_96 := q_is_eq (b := 19) f_95 (fx_v R (by decide +kernel)).symm
        refine go_iload_n (n := 3) (by decide +kernel) l3 f3 ?_
        refine go_iconst (n := 1) (z := 1) (by decide +kernel) (by decide) fun v_97 f_98 => ?_
        refine go_isub (by decide +kernel) f3 f_98 fun v_99 f_100 => ?_
        refine go_aload_n (n := 0) (by decide +kernel) l0 f0 ?_
        refine go_getf (x := 17) (ci := 9) (kf := 1) (fin := 1) (t := 2) (by decide +kernel) (by decide +kernel) (by decide +kernel) R f0 (fx_k (c := 9) R (by decide +kernel)) fun v_101 f_102 => ?_
        have f_103 := q_is_eq (b := 19) f_102 (fx_v R (by decide +kernel)).symm
        refine go_iload_n (n := 3) (by decide +kernel) l3 f3 ?_
        obtain ⟨g_106, h⟩ := gd_s h
        obtain ⟨x_108, e_109, h⟩ := lx_s h
        refine go_aald (kd := 103) (by decide +kernel) (by decide) R f_103 f3 (fx_k (c := 103) R (by decide +kernel)) (fx_x (a := 19) (ln := 12) R (by decide +kernel) g_106) fun v_104 f_105 => ?_
        have f_107 := q_is_eq f_105 e_109
        obtain ⟨g_110, h⟩ := gd_s h
        obtain ⟨g_116, h⟩ := gd_s h
        obtain ⟨m_111, e_112, h⟩ := up_s h
        refine go_aast (kd := 103) (vk := 2) (by decide +kernel) (by decide) R f_96 f_100 f_107 (fx_k (c := 103) R (by decide +kernel)) (fx_x (a := 19) (ln := 12) R (by decide +kernel) g_110) g_116 e_112 (fx_a R.2 (fx_k (c := 103) R (by decide +kernel)) (And.left (fx_x (a := 19) (ln := 12) R (by decide +kernel) g_110)) (by decide +kernel)) fun S_113 R_114 E_115 => ?_
        have E_118 := Ext.tr E E_115
        refine go_iinc (n := 3) (c := 1) (c' := 1) (by decide +kernel) (by decide +kernel) l3 f3 (by decide) fun L_119 v_120 f_121 l_122 kp_123 => ?_
        obtain ⟨x_124, e_125, h⟩ := lx_s h
        have f_126 := q_is_eq f_121 e_125
        have l_127 := kp_123 0 _ l0 (by decide) (Or.inl (by decide))
        have l_128 := kp_123 1 _ l1 (by decide) (Or.inl (by decide))
        refine go_goto (o := (-34)) (t := 57) (by decide +kernel) (by decide +kernel) ?_
        exact ih m_111 E_118 h R_114 l_127 f0 l_128 f1 l_122 f_126
noncomputable def fl_X8_remove_116 (y1 : Int) : Nat → Int → MM → Option (Int × MM)
  | 0, _, _ => none
  | n + 1, y3, m => lx (m 17 5) fun x_186 =>
if y3 < x_186 then
gd (0 ≤ y3 ∧ y3 < 12) <| lx (m 19 y3) fun x_196 =>
gd (okc m x_196 2) <| lx (m x_196 2) fun x_202 =>
gd (okc m y1 2) <| lx (m y1 0) fun x_208 =>
if x_202 = x_208 then
lx (m y1 2) fun x_230 =>
up m x_196 2 x_230 fun m_232 =>
lx (w32 (y3 + 1)) fun x_244 =>
fl_X8_remove_116 y1 n x_244 m_232
else
lx (w32 (y3 + 1)) fun x_216 =>
fl_X8_remove_116 y1 n x_216 m
else
some (0, m)
set_option maxHeartbeats 4000000 in
theorem ol_X8_remove_116 {xs : List Int32} {d : Nat} {Q : QO → QS → Prop} {mb : MM} {y1 : Int} {rz : Int} {rm : MM}
  (hd : 0 ≤ d)
  (hQ : Ext mb rm → ∀ o S1, Rp S1 rm → q_out 9 o rz → Q o S1) :
  ∀ (n : Nat) {m : MM} {S : QS} {L : QL} {y3 : Int} {v0 : Value} {v1 : Value} {v3 : Value} , Ext mb m → fl_X8_remove_116 y1 n y3 m = some (rz, rm) → Rp S m → q_lo L 0 = some v0 → q_is 2 v0 17 → q_lo L 1 = some v1 → q_is 2 v1 y1 → q_lo L 3 = some v3 → q_is 0 v3 y3 → Go xs d qM_X8_remove 116 L [] S Q := by
  intro n
  induction n with
  | zero => intro m S L y3 v0 v1 v3; intro E h R l0 f0 l1 f1 l3 f3; cases h
  | succ n ih0 =>
    intro m S L y3 v0 v1 v3; intro E h R l0 f0 l1 f1 l3 f3
    have ih : ∀ mq : MM, Ext mb mq → ∀ {z3 : Int} {Sq : QS} {Lq : QL} {u0 : Value} {u1 : Value} {u3 : Value}, fl_X8_remove_116 y1 n z3 mq = some (rz, rm) → Rp Sq mq → q_lo Lq 0 = some u0 → q_is 2 u0 17 → q_lo Lq 1 = some u1 → q_is 2 u1 y1 → q_lo Lq 3 = some u3 → q_is 0 u3 z3 → Go xs d qM_X8_remove 116 Lq [] Sq Q := fun mq b => by intros; exact ih0 b ‹_› ‹_› ‹_› ‹_› ‹_› ‹_› ‹_› ‹_›
    unfold fl_X8_remove_116 at h
    refine go_iload_n (n := 3) (by decide +kernel) l3 f3 ?_
    refine go_aload_n (n := 0) (by decide +kernel) l0 f0 ?_
    obtain ⟨x_186, e_187, h⟩ := lx_s h
    refine go_getf (x := 36) (ci := 9) (kf := 5) (fin := 0) (t := 0) (by decide +kernel) (by decide +kernel) (by decide +kernel) R f0 (fx_k (c := 9) R (by decide +kernel)) fun v_183 f_184 => ?_
    have f_185 := q_is_eq f_184 e_187
    refine go_icmp (c := .ge) (o := 38) (t := 159) (P := ¬ (y3 < x_186)) (by decide +kernel) (by decide +kernel) f3 f_185 (Int.not_lt.symm) (fun hp_188 => ?_) (fun hp_188 => ?_)
    · have h := it_f hp_188 h
      cases h
      exact go_vret (by decide +kernel) rfl (hQ E _ _ R q_out_n)
    · have h := it_n hp_188 h
      refine go_aload_n (n := 0) (by decide +kernel) l0 f0 ?_
      refine go_getf (x := 17) (ci := 9) (kf := 1) (fin := 1) (t := 2) (by decide +kernel) (by decide +kernel) (by decide +kernel) R f0 (fx_k (c := 9) R (by decide +kernel)) fun v_189 f_190 => ?_
      have f_191 := q_is_eq (b := 19) f_190 (fx_v R (by decide +kernel)).symm
      refine go_iload_n (n := 3) (by decide +kernel) l3 f3 ?_
      obtain ⟨g_194, h⟩ := gd_s h
      obtain ⟨x_196, e_197, h⟩ := lx_s h
      refine go_aald (kd := 103) (by decide +kernel) (by decide) R f_191 f3 (fx_k (c := 103) R (by decide +kernel)) (fx_x (a := 19) (ln := 12) R (by decide +kernel) g_194) fun v_192 f_193 => ?_
      have f_195 := q_is_eq f_193 e_197
      obtain ⟨g_200, h⟩ := gd_s h
      obtain ⟨x_202, e_203, h⟩ := lx_s h
      refine go_getf (x := 101) (ci := 2) (kf := 2) (fin := 0) (t := 0) (by decide +kernel) (by decide +kernel) (by decide +kernel) R f_195 g_200 fun v_198 f_199 => ?_
      have f_201 := q_is_eq f_199 e_203
      refine go_aload_n (n := 1) (by decide +kernel) l1 f1 ?_
      obtain ⟨g_206, h⟩ := gd_s h
      obtain ⟨x_208, e_209, h⟩ := lx_s h
      refine go_getf (x := 94) (ci := 2) (kf := 0) (fin := 0) (t := 0) (by decide +kernel) (by decide +kernel) (by decide +kernel) R f1 g_206 fun v_204 f_205 => ?_
      have f_207 := q_is_eq f_205 e_209
      refine go_icmp (c := .ne) (o := 16) (t := 153) (P := ¬ (x_202 = x_208)) (by decide +kernel) (by decide +kernel) f_201 f_207 (Iff.rfl) (fun hp_210 => ?_) (fun hp_210 => ?_)
      · have h := it_f hp_210 h
        refine go_iinc (n := 3) (c := 1) (c' := 1) (by decide +kernel) (by decide +kernel) l3 f3 (by decide) fun L_211 v_212 f_213 l_214 kp_215 => ?_
        obtain ⟨x_216, e_217, h⟩ := lx_s h
        have f_218 := q_is_eq f_213 e_217
        have l_219 := kp_215 0 _ l0 (by decide) (Or.inl (by decide))
        have l_220 := kp_215 1 _ l1 (by decide) (Or.inl (by decide))
        refine go_goto (o := (-40)) (t := 116) (by decide +kernel) (by decide +kernel) ?_
        exact ih m E h R l_219 f0 l_220 f1 l_214 f_218
      · have h := it_n hp_210 h
        refine go_aload_n (n := 0) (by decide +kernel) l0 f0 ?_
        refine go_getf (x := 17) (ci := 9) (kf := 1) (fin := 1) (t := 2) (by decide +kernel) (by decide +kernel) (by decide +kernel) R f0 (fx_k (c := 9) R (by decide +kernel)) fun v_221 f_222 => ?_
        have f_223 := q_is_eq (b := 19) f_222 (fx_v R (by decide +kernel)).symm
        refine go_iload_n (n := 3) (by decide +kernel) l3 f3 ?_
        refine go_aald (kd := 103) (by decide +kernel) (by decide) R f_223 f3 (fx_k (c := 103) R (by decide +kernel)) (fx_x (a := 19) (ln := 12) R (by decide +kernel) g_194) fun v_224 f_225 => ?_
        have f_226 := q_is_eq f_225 e_197
        refine go_aload_n (n := 1) (by decide +kernel) l1 f1 ?_
        obtain ⟨x_230, e_231, h⟩ := lx_s h
        refine go_getf (x := 101) (ci := 2) (kf := 2) (fin := 0) (t := 0) (by decide +kernel) (by decide +kernel) (by decide +kernel) R f1 g_206 fun v_227 f_228 => ?_
        have f_229 := q_is_eq f_228 e_231
        obtain ⟨m_232, e_233, h⟩ := up_s h
        refine go_putf (x := 101) (ci := 2) (kf := 2) (fin := 0) (zt := 0) (by decide +kernel) (by decide +kernel) (by decide) (by decide +kernel) (by decide) (Or.inl rfl) R f_226 f_229 (fun hq => absurd hq (by decide)) g_200 e_233 (fx_f (j := 2) R.2 g_200 (by decide +kernel)) fun S_234 R_235 E_236 => ?_
        have E_238 := Ext.tr E E_236
        refine go_iinc (n := 3) (c := 1) (c' := 1) (by decide +kernel) (by decide +kernel) l3 f3 (by decide) fun L_239 v_240 f_241 l_242 kp_243 => ?_
        obtain ⟨x_244, e_245, h⟩ := lx_s h
        have f_246 := q_is_eq f_241 e_245
        have l_247 := kp_243 0 _ l0 (by decide) (Or.inl (by decide))
        have l_248 := kp_243 1 _ l1 (by decide) (Or.inl (by decide))
        refine go_goto (o := (-40)) (t := 116) (by decide +kernel) (by decide +kernel) ?_
        exact ih m_232 E_238 h R_235 l_247 f0 l_248 f1 l_242 f_246
noncomputable def fm_X8_remove (p1 : Int) (m0 : MM) : Option (Int × MM) := fl_X8_remove_2 p1 m0 (fun x_43 =>
lx (m0 17 5) fun x_59 =>
if x_43 < x_59 then
if x_43 < 12 then
lx (w32 (x_43 + 1)) fun x_73 =>
fl_X8_remove_57 p1 (fun m_138 =>
lx (m_138 17 5) fun x_146 =>
up m_138 17 5 (w32 (x_146 - 1)) fun m_152 =>
lx (m_152 17 5) fun x_165 =>
gd (0 ≤ x_165 ∧ x_165 < 12) <| gd (p1 = 0 ∨ okc m_152 p1 2) <| up m_152 19 x_165 p1 fun m_168 =>
fl_X8_remove_116 p1  BIG 0 m_168) BIG x_73 m0
else
some (0, m0)
else
some (0, m0)) BIG 0
set_option maxHeartbeats 4000000 in
theorem om_X8_remove {xs : List Int32} {d : Nat} {S : QS} {m0 : MM} {p1 : Int} {v0 : Value} {v1 : Value} {rz : Int} {rm : MM}
  (hd : 1 ≤ d) (R : Rp S m0) (f0 : q_is 2 v0 17) (f1 : q_is 2 v1 p1)
  (h : fm_X8_remove p1 m0 = some (rz, rm)) : Mt xs d 87 [v0, v1] S (Cr 9 m0 rm rz) := by
  obtain ⟨d, rfl⟩ : ∃ e, d = e + 1 := ⟨d - 1, by omega⟩
  have hd : 0 ≤ d := Nat.le_of_succ_le_succ hd
  refine Mt.of (M := qM_X8_remove) rfl (by rw [sl_1 (q_is_cat f0 (Or.inr rfl)), sl_1 (q_is_cat f1 (Or.inr rfl)), sl_0]; decide) ?_
  rw [la_1 (q_is_cat f0 (Or.inr rfl)), la_1 (q_is_cat f1 (Or.inr rfl)), la_0]
  obtain ⟨L, hL⟩ : ∃ L : QL, L = [(0, v0), (0 + 1, v1)] := ⟨_, rfl⟩
  rw [← hL]
  have l0 : q_lo L 0 = some v0 := by rw [hL]; rfl
  have l1 : q_lo L 1 = some v1 := by rw [hL]; rfl
  have hQ : Ext m0 rm → ∀ o S1, Rp S1 rm → q_out 9 o rz → (Cr 9 m0 rm rz) o S1 := fun a o S1 b e => ⟨b, a, e⟩
  unfold fm_X8_remove at h
  refine go_iconst (n := 0) (z := 0) (by decide +kernel) (by decide) fun v_1 f_2 => ?_
  refine go_istore_n (n := 2) (by decide +kernel) (by decide +kernel) f_2 fun L_3 l_4 kp_5 => ?_
  have l_6 := kp_5 0 _ l0 (by decide) (Or.inl (by decide))
  have l_7 := kp_5 1 _ l1 (by decide) (Or.inr (q_is_cat f1 (Or.inr rfl)))
  refine ol_X8_remove_2 hd  ?_ hQ BIG h R l_6 f0 l_7 f1 l_4 f_2
  intro x_43 S_53 L_54 v_44 v_45 v_46
  intro h R_55 l_47 f_50 l_48 f_51 l_49 f_52
  refine go_iload_n (n := 2) (by decide +kernel) l_49 f_52 ?_
  refine go_aload_n (n := 0) (by decide +kernel) l_47 f_50 ?_
  obtain ⟨x_59, e_60, h⟩ := lx_s h
  refine go_getf (x := 36) (ci := 9) (kf := 5) (fin := 0) (t := 0) (by decide +kernel) (by decide +kernel) (by decide +kernel) R_55 f_50 (fx_k (c := 9) R_55 (by decide +kernel)) fun v_56 f_57 => ?_
  have f_58 := q_is_eq f_57 e_60
  refine go_icmp (c := .ge) (o := 12) (t := 52) (P := ¬ (x_43 < x_59)) (by decide +kernel) (by decide +kernel) f_52 f_58 (Int.not_lt.symm) (fun hp_61 => ?_) (fun hp_61 => ?_)
  · have h := it_f hp_61 h
    cases h
    exact go_vret (by decide +kernel) rfl (hQ (Ext.rf _) _ _ R_55 q_out_n)
  · have h := it_n hp_61 h
    refine go_iload_n (n := 2) (by decide +kernel) l_49 f_52 ?_
    refine go_aload_n (n := 0) (by decide +kernel) l_47 f_50 ?_
    refine go_getf (x := 17) (ci := 9) (kf := 1) (fin := 1) (t := 2) (by decide +kernel) (by decide +kernel) (by decide +kernel) R_55 f_50 (fx_k (c := 9) R_55 (by decide +kernel)) fun v_62 f_63 => ?_
    have f_64 := q_is_eq (b := 19) f_63 (fx_v R_55 (by decide +kernel)).symm
    refine go_alen (by decide +kernel) R_55 f_64 (okl_of (fx_k (c := 103) R_55 (by decide +kernel)) (by decide)) fun v_65 f_66 => ?_
    have f_67 := q_is_eq (b := 12) f_66 (by rw [fx_l R_55 (ln := 12) (by decide +kernel)]; decide)
    refine go_icmp (c := .lt) (o := 4) (t := 53) (P := x_43 < 12) (by decide +kernel) (by decide +kernel) f_52 f_67 (Iff.rfl) (fun hp_68 => ?_) (fun hp_68 => ?_)
    · have h := it_t hp_68 h
      refine go_iload_n (n := 2) (by decide +kernel) l_49 f_52 ?_
      refine go_iconst (n := 1) (z := 1) (by decide +kernel) (by decide) fun v_69 f_70 => ?_
      refine go_iadd (by decide +kernel) f_52 f_70 fun v_71 f_72 => ?_
      obtain ⟨x_73, e_74, h⟩ := lx_s h
      have f_75 := q_is_eq f_72 e_74
      refine go_istore_n (n := 3) (by decide +kernel) (by decide +kernel) f_75 fun L_76 l_77 kp_78 => ?_
      have l_79 := kp_78 0 _ l_47 (by decide) (Or.inl (by decide))
      have l_80 := kp_78 1 _ l_48 (by decide) (Or.inl (by decide))
      refine ol_X8_remove_57 hd  ?_ hQ BIG (Ext.rf _) h R_55 l_79 f_50 l_80 f_51 l_77 f_75
      intro m_138 E_139
      intro S_135 L_136 v_129 v_130
      intro h R_137 l_131 f_133 l_132 f_134
      have E_140 := E_139
      refine go_aload_n (n := 0) (by decide +kernel) l_131 f_133 ?_
      refine go_dup (by decide +kernel) f_133 (Or.inr rfl) ?_
      obtain ⟨x_146, e_147, h⟩ := lx_s h
      refine go_getf (x := 36) (ci := 9) (kf := 5) (fin := 0) (t := 0) (by decide +kernel) (by decide +kernel) (by decide +kernel) R_137 f_133 (fx_k (c := 9) R_137 (by decide +kernel)) fun v_143 f_144 => ?_
      have f_145 := q_is_eq f_144 e_147
      refine go_iconst (n := 1) (z := 1) (by decide +kernel) (by decide) fun v_148 f_149 => ?_
      refine go_isub (by decide +kernel) f_145 f_149 fun v_150 f_151 => ?_
      obtain ⟨m_152, e_153, h⟩ := up_s h
      refine go_putf (x := 36) (ci := 9) (kf := 5) (fin := 0) (zt := 0) (by decide +kernel) (by decide +kernel) (by decide) (by decide +kernel) (by decide) (Or.inl rfl) R_137 f_133 f_151 (fun hq => absurd hq (by decide)) (fx_k (c := 9) R_137 (by decide +kernel)) e_153 (fx_f (j := 5) R_137.2 (fx_k (c := 9) R_137 (by decide +kernel)) (by decide +kernel)) fun S_154 R_155 E_156 => ?_
      have E_158 := Ext.tr E_140 E_156
      refine go_aload_n (n := 0) (by decide +kernel) l_131 f_133 ?_
      refine go_getf (x := 17) (ci := 9) (kf := 1) (fin := 1) (t := 2) (by decide +kernel) (by decide +kernel) (by decide +kernel) R_155 f_133 (fx_k (c := 9) R_155 (by decide +kernel)) fun v_159 f_160 => ?_
      have f_161 := q_is_eq (b := 19) f_160 (fx_v R_155 (by decide +kernel)).symm
      refine go_aload_n (n := 0) (by decide +kernel) l_131 f_133 ?_
      obtain ⟨x_165, e_166, h⟩ := lx_s h
      refine go_getf (x := 36) (ci := 9) (kf := 5) (fin := 0) (t := 0) (by decide +kernel) (by decide +kernel) (by decide +kernel) R_155 f_133 (fx_k (c := 9) R_155 (by decide +kernel)) fun v_162 f_163 => ?_
      have f_164 := q_is_eq f_163 e_166
      refine go_aload_n (n := 1) (by decide +kernel) l_132 f_134 ?_
      obtain ⟨g_167, h⟩ := gd_s h
      obtain ⟨g_173, h⟩ := gd_s h
      obtain ⟨m_168, e_169, h⟩ := up_s h
      refine go_aast (kd := 103) (vk := 2) (by decide +kernel) (by decide) R_155 f_161 f_164 f_134 (fx_k (c := 103) R_155 (by decide +kernel)) (fx_x (a := 19) (ln := 12) R_155 (by decide +kernel) g_167) g_173 e_169 (fx_a R_155.2 (fx_k (c := 103) R_155 (by decide +kernel)) (And.left (fx_x (a := 19) (ln := 12) R_155 (by decide +kernel) g_167)) (by decide +kernel)) fun S_170 R_171 E_172 => ?_
      have E_175 := Ext.tr E_158 E_172
      refine go_iconst (n := 0) (z := 0) (by decide +kernel) (by decide) fun v_176 f_177 => ?_
      refine go_istore_n (n := 3) (by decide +kernel) (by decide +kernel) f_177 fun L_178 l_179 kp_180 => ?_
      have l_181 := kp_180 0 _ l_131 (by decide) (Or.inl (by decide))
      have l_182 := kp_180 1 _ l_132 (by decide) (Or.inl (by decide))
      refine ol_X8_remove_116 hd   (fun b => hQ (Ext.tr E_175 b)) BIG (Ext.rf _) h R_171 l_181 f_133 l_182 f_134 l_179 f_177
    · have h := it_f hp_68 h
      cases h
      exact go_vret (by decide +kernel) rfl (hQ (Ext.rf _) _ _ R_55 q_out_n)
noncomputable def fm_X8_value (p1 : Int) (m0 : MM) : Option Int := if p1 < 0 then
some 0
else
if p1 < 6 then
gd (0 ≤ p1 ∧ p1 < 6) <| lx (m0 18 p1) fun x_20 =>
some x_20
else
some 0
set_option maxHeartbeats 4000000 in
theorem om_X8_value {xs : List Int32} {d : Nat} {S : QS} {m0 : MM} {p1 : Int} {v0 : Value} {v1 : Value} {rz : Int}
  (hd : 1 ≤ d) (R : Rp S m0) (f0 : q_is 2 v0 17) (f1 : q_is 0 v1 p1)
  (h : fm_X8_value p1 m0 = some rz) : Mt xs d 81 [v0, v1] S (Cr 0 m0 m0 rz) := by
  obtain ⟨d, rfl⟩ : ∃ e, d = e + 1 := ⟨d - 1, by omega⟩
  have hd : 0 ≤ d := Nat.le_of_succ_le_succ hd
  refine Mt.of (M := qM_X8_value) rfl (by rw [sl_1 (q_is_cat f0 (Or.inr rfl)), sl_1 (q_is_cat f1 (Or.inl rfl)), sl_0]; decide) ?_
  rw [la_1 (q_is_cat f0 (Or.inr rfl)), la_1 (q_is_cat f1 (Or.inl rfl)), la_0]
  obtain ⟨L, hL⟩ : ∃ L : QL, L = [(0, v0), (0 + 1, v1)] := ⟨_, rfl⟩
  rw [← hL]
  have l0 : q_lo L 0 = some v0 := by rw [hL]; rfl
  have l1 : q_lo L 1 = some v1 := by rw [hL]; rfl
  have hQ : ∀ o S1, Rp S1 m0 → q_out 0 o rz → (Cr 0 m0 m0 rz) o S1 := fun o S1 a b => ⟨a, Ext.rf _, b⟩
  unfold fm_X8_value at h
  refine go_iload_n (n := 1) (by decide +kernel) l1 f1 ?_
  refine go_if (c := .lt) (o := 21) (t := 22) (P := p1 < 0) (by decide +kernel) (by decide +kernel) f1 (Iff.rfl) (fun hp_1 => ?_) (fun hp_1 => ?_)
  · have h := it_t hp_1 h
    refine go_iconst (n := 0) (z := 0) (by decide +kernel) (by decide) fun v_2 f_3 => ?_
    cases h
    exact go_iret (by decide +kernel) rfl (Or.inl rfl) f_3 (hQ _ _ R (q_out_v (by decide) f_3))
  · have h := it_f hp_1 h
    refine go_iload_n (n := 1) (by decide +kernel) l1 f1 ?_
    refine go_aload_n (n := 0) (by decide +kernel) l0 f0 ?_
    refine go_getf (x := 9) (ci := 9) (kf := 0) (fin := 1) (t := 2) (by decide +kernel) (by decide +kernel) (by decide +kernel) R f0 (fx_k (c := 9) R (by decide +kernel)) fun v_4 f_5 => ?_
    have f_6 := q_is_eq (b := 18) f_5 (fx_v R (by decide +kernel)).symm
    refine go_alen (by decide +kernel) R f_6 (okl_of (fx_k (c := 100) R (by decide +kernel)) (by decide)) fun v_7 f_8 => ?_
    have f_9 := q_is_eq (b := 6) f_8 (by rw [fx_l R (ln := 6) (by decide +kernel)]; decide)
    refine go_icmp (c := .ge) (o := 12) (t := 22) (P := ¬ (p1 < 6)) (by decide +kernel) (by decide +kernel) f1 f_9 (Int.not_lt.symm) (fun hp_10 => ?_) (fun hp_10 => ?_)
    · have h := it_f hp_10 h
      refine go_iconst (n := 0) (z := 0) (by decide +kernel) (by decide) fun v_11 f_12 => ?_
      cases h
      exact go_iret (by decide +kernel) rfl (Or.inl rfl) f_12 (hQ _ _ R (q_out_v (by decide) f_12))
    · have h := it_n hp_10 h
      refine go_aload_n (n := 0) (by decide +kernel) l0 f0 ?_
      refine go_getf (x := 9) (ci := 9) (kf := 0) (fin := 1) (t := 2) (by decide +kernel) (by decide +kernel) (by decide +kernel) R f0 (fx_k (c := 9) R (by decide +kernel)) fun v_13 f_14 => ?_
      have f_15 := q_is_eq (b := 18) f_14 (fx_v R (by decide +kernel)).symm
      refine go_iload_n (n := 1) (by decide +kernel) l1 f1 ?_
      obtain ⟨g_18, h⟩ := gd_s h
      obtain ⟨x_20, e_21, h⟩ := lx_s h
      refine go_iald (kd := 100) (by decide +kernel) rfl R f_15 f1 (fx_k (c := 100) R (by decide +kernel)) (fx_x (a := 18) (ln := 6) R (by decide +kernel) g_18) fun v_16 f_17 => ?_
      have f_19 := q_is_eq f_17 e_21
      refine go_goto (o := 4) (t := 23) (by decide +kernel) (by decide +kernel) ?_
      cases h
      exact go_iret (by decide +kernel) rfl (Or.inl rfl) f_19 (hQ _ _ R (q_out_v (by decide) f_19))
noncomputable def fm_X4_endBranch (p1 : Int) (m0 : MM) : Option (Int × MM) := gd (okc m0 p1 2) <| lx (m0 p1 0) fun x_5 =>
if x_5 = 0 then
bp (fm_X8_value 0 m0) fun x_16 =>
bd (fm_X4_command 14 x_16 0 m0) fun x_27 m_28 =>
if x_27 < 0 then
some (0, m_28)
else
up m_28 17 9 14 fun m_44 =>
some (0, m_44)
else
bd (fm_X8_remove p1 m0) fun x_55 m_56 =>
some (0, m_56)
set_option maxHeartbeats 4000000 in
theorem om_X4_endBranch {xs : List Int32} {d : Nat} {S : QS} {m0 : MM} {p1 : Int} {v0 : Value} {v1 : Value} {rz : Int} {rm : MM}
  (hd : 4 ≤ d) (R : Rp S m0) (f0 : q_is 2 v0 16) (f1 : q_is 2 v1 p1)
  (h : fm_X4_endBranch p1 m0 = some (rz, rm)) : Mt xs d 43 [v0, v1] S (Cr 9 m0 rm rz) := by
  obtain ⟨d, rfl⟩ : ∃ e, d = e + 1 := ⟨d - 1, by omega⟩
  have hd : 3 ≤ d := Nat.le_of_succ_le_succ hd
  refine Mt.of (M := qM_X4_endBranch) rfl (by rw [sl_1 (q_is_cat f0 (Or.inr rfl)), sl_1 (q_is_cat f1 (Or.inr rfl)), sl_0]; decide) ?_
  rw [la_1 (q_is_cat f0 (Or.inr rfl)), la_1 (q_is_cat f1 (Or.inr rfl)), la_0]
  obtain ⟨L, hL⟩ : ∃ L : QL, L = [(0, v0), (0 + 1, v1)] := ⟨_, rfl⟩
  rw [← hL]
  have l0 : q_lo L 0 = some v0 := by rw [hL]; rfl
  have l1 : q_lo L 1 = some v1 := by rw [hL]; rfl
  have hQ : Ext m0 rm → ∀ o S1, Rp S1 rm → q_out 9 o rz → (Cr 9 m0 rm rz) o S1 := fun a o S1 b e => ⟨b, a, e⟩
  unfold fm_X4_endBranch at h
  refine go_aload_n (n := 1) (by decide +kernel) l1 f1 ?_
  obtain ⟨g_3, h⟩ := gd_s h
  obtain ⟨x_5, e_6, h⟩ := lx_s h
  refine go_getf (x := 211) (ci := 2) (kf := 0) (fin := 0) (t := 0) (by decide +kernel) (by decide +kernel) (by decide +kernel) R f1 g_3 fun v_1 f_2 => ?_
  have f_4 := q_is_eq f_2 e_6
  refine go_if (c := .eq) (o := 14) (t := 18) (P := x_5 = 0) (by decide +kernel) (by decide +kernel) f_4 (Iff.rfl) (fun hp_7 => ?_) (fun hp_7 => ?_)
  · have h := it_t hp_7 h
    refine go_aload_n (n := 0) (by decide +kernel) l0 f0 ?_
    refine go_bipush (n := 14) (z := 14) (by decide +kernel) (by decide) fun v_8 f_9 => ?_
    refine go_aload_n (n := 0) (by decide +kernel) l0 f0 ?_
    refine go_getf (x := 10) (ci := 5) (kf := 0) (fin := 1) (t := 2) (by decide +kernel) (by decide +kernel) (by decide +kernel) R f0 (fx_k (c := 5) R (by decide +kernel)) fun v_10 f_11 => ?_
    have f_12 := q_is_eq (b := 17) f_11 (fx_v R (by decide +kernel)).symm
    refine go_iconst (n := 0) (z := 0) (by decide +kernel) (by decide) fun v_13 f_14 => ?_
    obtain ⟨x_16, hc_15, h⟩ := bp_s h
    refine go_callV (x := 217) (mi := 81) (n := 1) (ci := 9) (as := [v_13]) (rest := [v_8, v0]) (by decide +kernel) (by decide +kernel) rfl rfl (q_sum8 _ (Nat.le_of_ble_eq_true rfl)) R f_12 (fx_k (c := 9) R (by decide +kernel)) (om_X8_value (Nat.le_trans (by decide) hd) R f_12 f_14 hc_15) (fun _ S_20 q_23 => ?_) (fun _ _ qq => kr_x qq)
    refine kr_z (by decide) q_23 fun v_18 f_19 R_21 E_22 => ?_
    refine go_iconst (n := 0) (z := 0) (by decide +kernel) (by decide) fun v_24 f_25 => ?_
    obtain ⟨x_27, m_28, hc_26, h⟩ := bd_s h
    refine go_callV (x := 198) (mi := 44) (n := 3) (ci := 5) (as := [v_8, v_18, v_24]) (rest := []) (by decide +kernel) (by decide +kernel) rfl rfl (q_sum8 _ (Nat.le_of_ble_eq_true rfl)) R_21 f0 (fx_k (c := 5) R_21 (by decide +kernel)) (om_X4_command (Nat.le_trans (by decide) hd) R_21 f0 f_9 f_19 f_25 hc_26) (fun _ S_31 q_34 => ?_) (fun _ _ qq => kr_x qq)
    refine kr_z (by decide) q_34 fun v_29 f_30 R_32 E_33 => ?_
    have E_37 := E_33
    refine go_if (c := .lt) (o := 12) (t := 45) (P := x_27 < 0) (by decide +kernel) (by decide +kernel) f_30 (Iff.rfl) (fun hp_38 => ?_) (fun hp_38 => ?_)
    · have h := it_t hp_38 h
      cases h
      exact go_vret (by decide +kernel) rfl (hQ E_37 _ _ R_32 q_out_n)
    · have h := it_f hp_38 h
      refine go_aload_n (n := 0) (by decide +kernel) l0 f0 ?_
      refine go_getf (x := 10) (ci := 5) (kf := 0) (fin := 1) (t := 2) (by decide +kernel) (by decide +kernel) (by decide +kernel) R_32 f0 (fx_k (c := 5) R_32 (by decide +kernel)) fun v_39 f_40 => ?_
      have f_41 := q_is_eq (b := 17) f_40 (fx_v R_32 (by decide +kernel)).symm
      refine go_bipush (n := 14) (z := 14) (by decide +kernel) (by decide) fun v_42 f_43 => ?_
      obtain ⟨m_44, e_45, h⟩ := up_s h
      refine go_putf (x := 120) (ci := 9) (kf := 9) (fin := 0) (zt := 0) (by decide +kernel) (by decide +kernel) (by decide) (by decide +kernel) (by decide) (Or.inl rfl) R_32 f_41 f_43 (fun hq => absurd hq (by decide)) (fx_k (c := 9) R_32 (by decide +kernel)) e_45 (fx_f (j := 9) R_32.2 (fx_k (c := 9) R_32 (by decide +kernel)) (by decide +kernel)) fun S_46 R_47 E_48 => ?_
      have E_50 := Ext.tr E_37 E_48
      cases h
      exact go_vret (by decide +kernel) rfl (hQ E_50 _ _ R_47 q_out_n)
  · have h := it_f hp_7 h
    refine go_aload_n (n := 0) (by decide +kernel) l0 f0 ?_
    refine go_getf (x := 10) (ci := 5) (kf := 0) (fin := 1) (t := 2) (by decide +kernel) (by decide +kernel) (by decide +kernel) R f0 (fx_k (c := 5) R (by decide +kernel)) fun v_51 f_52 => ?_
    have f_53 := q_is_eq (b := 17) f_52 (fx_v R (by decide +kernel)).symm
    refine go_aload_n (n := 1) (by decide +kernel) l1 f1 ?_
    obtain ⟨x_55, m_56, hc_54, h⟩ := bd_s h
    refine go_callV (x := 214) (mi := 87) (n := 1) (ci := 9) (as := [v1]) (rest := []) (by decide +kernel) (by decide +kernel) rfl rfl (q_sum8 _ (Nat.le_of_ble_eq_true rfl)) R f_53 (fx_k (c := 9) R (by decide +kernel)) (om_X8_remove (Nat.le_trans (by decide) hd) R f_53 f1 hc_54) (fun _ S_59 q_62 => ?_) (fun _ _ qq => kr_x qq)
    refine kr_v q_62 fun R_60 E_61 => ?_
    have E_65 := E_61
    refine go_goto (o := 30) (t := 45) (by decide +kernel) (by decide +kernel) ?_
    cases h
    exact go_vret (by decide +kernel) rfl (hQ E_65 _ _ R_60 q_out_n)
noncomputable def fj_X4_doPlainLine_189 (y1 y5 : Int) (m : MM) : Option (Int × MM) := gd (okc m y1 2) <| bd (fm_X1_goOnAt y1 y5 m) fun x_41 m_42 =>
some (0, m_42)
set_option maxHeartbeats 4000000 in
theorem oj_X4_doPlainLine_189 {xs : List Int32} {d : Nat} {S : QS} {L : QL} {Q : QO → QS → Prop} {m : MM} {y1 y5 : Int} {v1 : Value} {v5 : Value}  {rz : Int} {rm : MM}
  (hd : 3 ≤ d) (R : Rp S m) (l1 : q_lo L 1 = some v1) (f1 : q_is 2 v1 y1) (l5 : q_lo L 5 = some v5) (f5 : q_is 0 v5 y5)
  (hQ : Ext m rm → ∀ o S1, Rp S1 rm → q_out 9 o rz → Q o S1)
  (h : fj_X4_doPlainLine_189 y1 y5 m = some (rz, rm)) : Go xs d qM_X4_doPlainLine 189 L [] S Q := by
  unfold fj_X4_doPlainLine_189 at h
  refine go_aload_n (n := 1) (by decide +kernel) l1 f1 ?_
  refine go_iload (n := 5) (by decide +kernel) l5 f5 ?_
  obtain ⟨g_39, h⟩ := gd_s h
  obtain ⟨x_41, m_42, hc_40, h⟩ := bd_s h
  refine go_callV (x := 171) (mi := 5) (n := 1) (ci := 2) (as := [v5]) (rest := []) (by decide +kernel) (by decide +kernel) rfl rfl (q_sum8 _ (Nat.le_of_ble_eq_true rfl)) R f1 g_39 (om_X1_goOnAt (Nat.le_trans (by decide) hd) R g_39 f1 f5 hc_40) (fun _ S_45 q_48 => ?_) (fun _ _ qq => kr_x qq)
  refine kr_v q_48 fun R_46 E_47 => ?_
  have E_51 := E_47
  cases h
  exact go_vret (by decide +kernel) rfl (hQ E_51 _ _ R_46 q_out_n)
noncomputable def fm_X4_doPlainLine (p1 p2 p3 p4 : Int) (m0 : MM) : Option (Int × MM) := gd (okc m0 p1 2) <| lx (m0 p1 4) fun x_5 =>
lx (w32 (x_5 + 1)) fun x_11 =>
if p2 = 0 then
bd (fm_X8_set p3 p4 m0) fun x_28 m_29 =>
fj_X4_doPlainLine_189 p1 x_11 m_29
else if p2 = 1 then
bp (fm_X8_value p3 m0) fun x_61 =>
bp (fm_X8_value p4 m0) fun x_73 =>
bd (fm_X8_set p3 (Int.tmod (w32 (x_61 + x_73)) 1000) m0) fun x_88 m_89 =>
fj_X4_doPlainLine_189 p1 x_11 m_89
else if p2 = 2 then
bp (fm_X8_value p4 m0) fun x_109 =>
bd (fm_X4_command 8 p3 x_109 m0) fun x_118 m_119 =>
bd (fm_X1_waitFor p1 1 x_118 m_119) fun x_131 m_132 =>
some (0, m_132)
else if p2 = 3 then
bd (fm_X4_command 9 p3 0 m0) fun x_151 m_152 =>
bd (fm_X1_waitFor p1 1 x_151 m_152) fun x_164 m_165 =>
some (0, m_165)
else if p2 = 4 then
bd (fm_X1_waitFor p1 3 p3 m0) fun x_180 m_181 =>
some (0, m_181)
else if p2 = 5 then
bp (fm_X8_value p4 m0) fun x_201 =>
bd (fm_X4_command 10 p3 x_201 m0) fun x_210 m_211 =>
bd (fm_X1_waitFor p1 1 x_210 m_211) fun x_223 m_224 =>
some (0, m_224)
else if p2 = 6 then
bp (fm_X8_value p3 m0) fun x_240 =>
if x_240 = 0 then
fj_X4_doPlainLine_189 p1 p4 m0
else
fj_X4_doPlainLine_189 p1 x_11 m0
else 
fj_X4_doPlainLine_189 p1 p3 m0
set_option maxHeartbeats 4000000 in
theorem om_X4_doPlainLine {xs : List Int32} {d : Nat} {S : QS} {m0 : MM} {p1 p2 p3 p4 : Int} {v0 : Value} {v1 : Value} {v2 : Value} {v3 : Value} {v4 : Value} {rz : Int} {rm : MM}
  (hd : 4 ≤ d) (R : Rp S m0) (f0 : q_is 2 v0 16) (f1 : q_is 2 v1 p1) (f2 : q_is 0 v2 p2) (f3 : q_is 0 v3 p3) (f4 : q_is 0 v4 p4)
  (h : fm_X4_doPlainLine p1 p2 p3 p4 m0 = some (rz, rm)) : Mt xs d 47 [v0, v1, v2, v3, v4] S (Cr 9 m0 rm rz) := by
  obtain ⟨d, rfl⟩ : ∃ e, d = e + 1 := ⟨d - 1, by omega⟩
  have hd : 3 ≤ d := Nat.le_of_succ_le_succ hd
  refine Mt.of (M := qM_X4_doPlainLine) rfl (by rw [sl_1 (q_is_cat f0 (Or.inr rfl)), sl_1 (q_is_cat f1 (Or.inr rfl)), sl_1 (q_is_cat f2 (Or.inl rfl)), sl_1 (q_is_cat f3 (Or.inl rfl)), sl_1 (q_is_cat f4 (Or.inl rfl)), sl_0]; decide) ?_
  rw [la_1 (q_is_cat f0 (Or.inr rfl)), la_1 (q_is_cat f1 (Or.inr rfl)), la_1 (q_is_cat f2 (Or.inl rfl)), la_1 (q_is_cat f3 (Or.inl rfl)), la_1 (q_is_cat f4 (Or.inl rfl)), la_0]
  obtain ⟨L, hL⟩ : ∃ L : QL, L = [(0, v0), (0 + 1, v1), (0 + 1 + 1, v2), (0 + 1 + 1 + 1, v3), (0 + 1 + 1 + 1 + 1, v4)] := ⟨_, rfl⟩
  rw [← hL]
  have l0 : q_lo L 0 = some v0 := by rw [hL]; rfl
  have l1 : q_lo L 1 = some v1 := by rw [hL]; rfl
  have l2 : q_lo L 2 = some v2 := by rw [hL]; rfl
  have l3 : q_lo L 3 = some v3 := by rw [hL]; rfl
  have l4 : q_lo L 4 = some v4 := by rw [hL]; rfl
  have hQ : Ext m0 rm → ∀ o S1, Rp S1 rm → q_out 9 o rz → (Cr 9 m0 rm rz) o S1 := fun a o S1 b e => ⟨b, a, e⟩
  unfold fm_X4_doPlainLine at h
  refine go_aload_n (n := 1) (by decide +kernel) l1 f1 ?_
  obtain ⟨g_3, h⟩ := gd_s h
  obtain ⟨x_5, e_6, h⟩ := lx_s h
  refine go_getf (x := 168) (ci := 2) (kf := 4) (fin := 0) (t := 0) (by decide +kernel) (by decide +kernel) (by decide +kernel) R f1 g_3 fun v_1 f_2 => ?_
  have f_4 := q_is_eq f_2 e_6
  refine go_iconst (n := 1) (z := 1) (by decide +kernel) (by decide) fun v_7 f_8 => ?_
  refine go_iadd (by decide +kernel) f_4 f_8 fun v_9 f_10 => ?_
  obtain ⟨x_11, e_12, h⟩ := lx_s h
  have f_13 := q_is_eq f_10 e_12
  refine go_istore (n := 5) (by decide +kernel) (by decide +kernel) f_13 fun L_14 l_15 kp_16 => ?_
  have l_17 := kp_16 0 _ l0 (by decide) (Or.inl (by decide))
  have l_18 := kp_16 1 _ l1 (by decide) (Or.inl (by decide))
  have l_19 := kp_16 2 _ l2 (by decide) (Or.inl (by decide))
  have l_20 := kp_16 3 _ l3 (by decide) (Or.inl (by decide))
  have l_21 := kp_16 4 _ l4 (by decide) (Or.inr (q_is_cat f4 (Or.inl rfl)))
  refine go_iload_n (n := 2) (by decide +kernel) l_19 f2 ?_
  by_cases hp_23 : p2 = 0
  · have h := it_t hp_23 h
    refine go_tsin (dflt := 177) (lo := 0) (hi := 6) (offs := #[43, 56, 89, 111, 125, 132, 154]) (o := 43) (t := 52) (by decide +kernel) f2 (by omega) (by omega) (by rw [hp_23]; decide) (by decide +kernel) ?_
    refine go_aload_n (n := 0) (by decide +kernel) l_17 f0 ?_
    refine go_getf (x := 10) (ci := 5) (kf := 0) (fin := 1) (t := 2) (by decide +kernel) (by decide +kernel) (by decide +kernel) R f0 (fx_k (c := 5) R (by decide +kernel)) fun v_24 f_25 => ?_
    have f_26 := q_is_eq (b := 17) f_25 (fx_v R (by decide +kernel)).symm
    refine go_iload_n (n := 3) (by decide +kernel) l_20 f3 ?_
    refine go_iload (n := 4) (by decide +kernel) l_21 f4 ?_
    obtain ⟨x_28, m_29, hc_27, h⟩ := bd_s h
    refine go_callV (x := 129) (mi := 82) (n := 2) (ci := 9) (as := [v3, v4]) (rest := []) (by decide +kernel) (by decide +kernel) rfl rfl (q_sum8 _ (Nat.le_of_ble_eq_true rfl)) R f_26 (fx_k (c := 9) R (by decide +kernel)) (om_X8_set (Nat.le_trans (by decide) hd) R f_26 f3 f4 hc_27) (fun _ S_32 q_35 => ?_) (fun _ _ qq => kr_x qq)
    refine kr_v q_35 fun R_33 E_34 => ?_
    have E_38 := E_34
    refine go_goto (o := 127) (t := 189) (by decide +kernel) (by decide +kernel) ?_
    exact oj_X4_doPlainLine_189 hd R_33 l_18 f1 l_15 f_13 (fun b => hQ (Ext.tr E_38 b)) h
  have h := it_f hp_23 h
  by_cases hp_53 : p2 = 1
  · have h := it_t hp_53 h
    refine go_tsin (dflt := 177) (lo := 0) (hi := 6) (offs := #[43, 56, 89, 111, 125, 132, 154]) (o := 56) (t := 65) (by decide +kernel) f2 (by omega) (by omega) (by rw [hp_53]; decide) (by decide +kernel) ?_
    refine go_aload_n (n := 0) (by decide +kernel) l_17 f0 ?_
    refine go_getf (x := 10) (ci := 5) (kf := 0) (fin := 1) (t := 2) (by decide +kernel) (by decide +kernel) (by decide +kernel) R f0 (fx_k (c := 5) R (by decide +kernel)) fun v_54 f_55 => ?_
    have f_56 := q_is_eq (b := 17) f_55 (fx_v R (by decide +kernel)).symm
    refine go_iload_n (n := 3) (by decide +kernel) l_20 f3 ?_
    refine go_aload_n (n := 0) (by decide +kernel) l_17 f0 ?_
    refine go_getf (x := 10) (ci := 5) (kf := 0) (fin := 1) (t := 2) (by decide +kernel) (by decide +kernel) (by decide +kernel) R f0 (fx_k (c := 5) R (by decide +kernel)) fun v_57 f_58 => ?_
    have f_59 := q_is_eq (b := 17) f_58 (fx_v R (by decide +kernel)).symm
    refine go_iload_n (n := 3) (by decide +kernel) l_20 f3 ?_
    obtain ⟨x_61, hc_60, h⟩ := bp_s h
    refine go_callV (x := 217) (mi := 81) (n := 1) (ci := 9) (as := [v3]) (rest := [v3, v_54]) (by decide +kernel) (by decide +kernel) rfl rfl (q_sum8 _ (Nat.le_of_ble_eq_true rfl)) R f_59 (fx_k (c := 9) R (by decide +kernel)) (om_X8_value (Nat.le_trans (by decide) hd) R f_59 f3 hc_60) (fun _ S_65 q_68 => ?_) (fun _ _ qq => kr_x qq)
    refine kr_z (by decide) q_68 fun v_63 f_64 R_66 E_67 => ?_
    refine go_aload_n (n := 0) (by decide +kernel) l_17 f0 ?_
    refine go_getf (x := 10) (ci := 5) (kf := 0) (fin := 1) (t := 2) (by decide +kernel) (by decide +kernel) (by decide +kernel) R_66 f0 (fx_k (c := 5) R_66 (by decide +kernel)) fun v_69 f_70 => ?_
    have f_71 := q_is_eq (b := 17) f_70 (fx_v R_66 (by decide +kernel)).symm
    refine go_iload (n := 4) (by decide +kernel) l_21 f4 ?_
    obtain ⟨x_73, hc_72, h⟩ := bp_s h
    refine go_callV (x := 217) (mi := 81) (n := 1) (ci := 9) (as := [v4]) (rest := [v_63, v3, v_54]) (by decide +kernel) (by decide +kernel) rfl rfl (q_sum8 _ (Nat.le_of_ble_eq_true rfl)) R_66 f_71 (fx_k (c := 9) R_66 (by decide +kernel)) (om_X8_value (Nat.le_trans (by decide) hd) R_66 f_71 f4 hc_72) (fun _ S_77 q_80 => ?_) (fun _ _ qq => kr_x qq)
    refine kr_z (by decide) q_80 fun v_75 f_76 R_78 E_79 => ?_
    refine go_iadd (by decide +kernel) f_64 f_76 fun v_81 f_82 => ?_
    refine go_sipush (n := 1000) (z := 1000) (by decide +kernel) (by decide) fun v_83 f_84 => ?_
    refine go_irem (by decide +kernel) f_82 f_84 (by decide) fun v_85 f_86 => ?_
    obtain ⟨x_88, m_89, hc_87, h⟩ := bd_s h
    refine go_callV (x := 129) (mi := 82) (n := 2) (ci := 9) (as := [v3, v_85]) (rest := []) (by decide +kernel) (by decide +kernel) rfl rfl (q_sum8 _ (Nat.le_of_ble_eq_true rfl)) R_78 f_56 (fx_k (c := 9) R_78 (by decide +kernel)) (om_X8_set (Nat.le_trans (by decide) hd) R_78 f_56 f3 f_86 hc_87) (fun _ S_92 q_95 => ?_) (fun _ _ qq => kr_x qq)
    refine kr_v q_95 fun R_93 E_94 => ?_
    have E_98 := E_94
    refine go_goto (o := 94) (t := 189) (by decide +kernel) (by decide +kernel) ?_
    exact oj_X4_doPlainLine_189 hd R_93 l_18 f1 l_15 f_13 (fun b => hQ (Ext.tr E_98 b)) h
  have h := it_f hp_53 h
  by_cases hp_100 : p2 = 2
  · have h := it_t hp_100 h
    refine go_tsin (dflt := 177) (lo := 0) (hi := 6) (offs := #[43, 56, 89, 111, 125, 132, 154]) (o := 89) (t := 98) (by decide +kernel) f2 (by omega) (by omega) (by rw [hp_100]; decide) (by decide +kernel) ?_
    refine go_aload_n (n := 1) (by decide +kernel) l_18 f1 ?_
    refine go_iconst (n := 1) (z := 1) (by decide +kernel) (by decide) fun v_101 f_102 => ?_
    refine go_aload_n (n := 0) (by decide +kernel) l_17 f0 ?_
    refine go_bipush (n := 8) (z := 8) (by decide +kernel) (by decide) fun v_103 f_104 => ?_
    refine go_iload_n (n := 3) (by decide +kernel) l_20 f3 ?_
    refine go_aload_n (n := 0) (by decide +kernel) l_17 f0 ?_
    refine go_getf (x := 10) (ci := 5) (kf := 0) (fin := 1) (t := 2) (by decide +kernel) (by decide +kernel) (by decide +kernel) R f0 (fx_k (c := 5) R (by decide +kernel)) fun v_105 f_106 => ?_
    have f_107 := q_is_eq (b := 17) f_106 (fx_v R (by decide +kernel)).symm
    refine go_iload (n := 4) (by decide +kernel) l_21 f4 ?_
    obtain ⟨x_109, hc_108, h⟩ := bp_s h
    refine go_callV (x := 217) (mi := 81) (n := 1) (ci := 9) (as := [v4]) (rest := [v3, v_103, v0, v_101, v1]) (by decide +kernel) (by decide +kernel) rfl rfl (by simp only [List.map_cons, List.map_nil, List.sum_cons, List.sum_nil]; rw [q_is_cat f3 (Or.inl rfl), q_is_cat f_104 (Or.inl rfl), q_is_cat f0 (Or.inr rfl), q_is_cat f_102 (Or.inl rfl), q_is_cat f1 (Or.inr rfl)]; decide) R f_107 (fx_k (c := 9) R (by decide +kernel)) (om_X8_value (Nat.le_trans (by decide) hd) R f_107 f4 hc_108) (fun _ S_113 q_116 => ?_) (fun _ _ qq => kr_x qq)
    refine kr_z (by decide) q_116 fun v_111 f_112 R_114 E_115 => ?_
    obtain ⟨x_118, m_119, hc_117, h⟩ := bd_s h
    refine go_callV (x := 198) (mi := 44) (n := 3) (ci := 5) (as := [v_103, v3, v_111]) (rest := [v_101, v1]) (by decide +kernel) (by decide +kernel) rfl rfl (q_sum8 _ (Nat.le_of_ble_eq_true rfl)) R_114 f0 (fx_k (c := 5) R_114 (by decide +kernel)) (om_X4_command (Nat.le_trans (by decide) hd) R_114 f0 f_104 f3 f_112 hc_117) (fun _ S_122 q_125 => ?_) (fun _ _ qq => kr_x qq)
    refine kr_z (by decide) q_125 fun v_120 f_121 R_123 E_124 => ?_
    have E_128 := E_124
    have g_129 := Ext.ok E_124 g_3
    obtain ⟨x_131, m_132, hc_130, h⟩ := bd_s h
    refine go_callV (x := 266) (mi := 4) (n := 2) (ci := 2) (as := [v_101, v_120]) (rest := []) (by decide +kernel) (by decide +kernel) rfl rfl (q_sum8 _ (Nat.le_of_ble_eq_true rfl)) R_123 f1 g_129 (om_X1_waitFor (Nat.le_trans (by decide) hd) R_123 g_129 f1 f_102 f_121 hc_130) (fun _ S_135 q_138 => ?_) (fun _ _ qq => kr_x qq)
    refine kr_v q_138 fun R_136 E_137 => ?_
    have E_141 := Ext.tr E_128 E_137
    cases h
    exact go_vret (by decide +kernel) rfl (hQ E_141 _ _ R_136 q_out_n)
  have h := it_f hp_100 h
  by_cases hp_143 : p2 = 3
  · have h := it_t hp_143 h
    refine go_tsin (dflt := 177) (lo := 0) (hi := 6) (offs := #[43, 56, 89, 111, 125, 132, 154]) (o := 111) (t := 120) (by decide +kernel) f2 (by omega) (by omega) (by rw [hp_143]; decide) (by decide +kernel) ?_
    refine go_aload_n (n := 1) (by decide +kernel) l_18 f1 ?_
    refine go_iconst (n := 1) (z := 1) (by decide +kernel) (by decide) fun v_144 f_145 => ?_
    refine go_aload_n (n := 0) (by decide +kernel) l_17 f0 ?_
    refine go_bipush (n := 9) (z := 9) (by decide +kernel) (by decide) fun v_146 f_147 => ?_
    refine go_iload_n (n := 3) (by decide +kernel) l_20 f3 ?_
    refine go_iconst (n := 0) (z := 0) (by decide +kernel) (by decide) fun v_148 f_149 => ?_
    obtain ⟨x_151, m_152, hc_150, h⟩ := bd_s h
    refine go_callV (x := 198) (mi := 44) (n := 3) (ci := 5) (as := [v_146, v3, v_148]) (rest := [v_144, v1]) (by decide +kernel) (by decide +kernel) rfl rfl (q_sum8 _ (Nat.le_of_ble_eq_true rfl)) R f0 (fx_k (c := 5) R (by decide +kernel)) (om_X4_command (Nat.le_trans (by decide) hd) R f0 f_147 f3 f_149 hc_150) (fun _ S_155 q_158 => ?_) (fun _ _ qq => kr_x qq)
    refine kr_z (by decide) q_158 fun v_153 f_154 R_156 E_157 => ?_
    have E_161 := E_157
    have g_162 := Ext.ok E_157 g_3
    obtain ⟨x_164, m_165, hc_163, h⟩ := bd_s h
    refine go_callV (x := 266) (mi := 4) (n := 2) (ci := 2) (as := [v_144, v_153]) (rest := []) (by decide +kernel) (by decide +kernel) rfl rfl (q_sum8 _ (Nat.le_of_ble_eq_true rfl)) R_156 f1 g_162 (om_X1_waitFor (Nat.le_trans (by decide) hd) R_156 g_162 f1 f_145 f_154 hc_163) (fun _ S_168 q_171 => ?_) (fun _ _ qq => kr_x qq)
    refine kr_v q_171 fun R_169 E_170 => ?_
    have E_174 := Ext.tr E_161 E_170
    cases h
    exact go_vret (by decide +kernel) rfl (hQ E_174 _ _ R_169 q_out_n)
  have h := it_f hp_143 h
  by_cases hp_176 : p2 = 4
  · have h := it_t hp_176 h
    refine go_tsin (dflt := 177) (lo := 0) (hi := 6) (offs := #[43, 56, 89, 111, 125, 132, 154]) (o := 125) (t := 134) (by decide +kernel) f2 (by omega) (by omega) (by rw [hp_176]; decide) (by decide +kernel) ?_
    refine go_aload_n (n := 1) (by decide +kernel) l_18 f1 ?_
    refine go_iconst (n := 3) (z := 3) (by decide +kernel) (by decide) fun v_177 f_178 => ?_
    refine go_iload_n (n := 3) (by decide +kernel) l_20 f3 ?_
    obtain ⟨x_180, m_181, hc_179, h⟩ := bd_s h
    refine go_callV (x := 266) (mi := 4) (n := 2) (ci := 2) (as := [v_177, v3]) (rest := []) (by decide +kernel) (by decide +kernel) rfl rfl (q_sum8 _ (Nat.le_of_ble_eq_true rfl)) R f1 g_3 (om_X1_waitFor (Nat.le_trans (by decide) hd) R g_3 f1 f_178 f3 hc_179) (fun _ S_184 q_187 => ?_) (fun _ _ qq => kr_x qq)
    refine kr_v q_187 fun R_185 E_186 => ?_
    have E_190 := E_186
    cases h
    exact go_vret (by decide +kernel) rfl (hQ E_190 _ _ R_185 q_out_n)
  have h := it_f hp_176 h
  by_cases hp_192 : p2 = 5
  · have h := it_t hp_192 h
    refine go_tsin (dflt := 177) (lo := 0) (hi := 6) (offs := #[43, 56, 89, 111, 125, 132, 154]) (o := 132) (t := 141) (by decide +kernel) f2 (by omega) (by omega) (by rw [hp_192]; decide) (by decide +kernel) ?_
    refine go_aload_n (n := 1) (by decide +kernel) l_18 f1 ?_
    refine go_iconst (n := 1) (z := 1) (by decide +kernel) (by decide) fun v_193 f_194 => ?_
    refine go_aload_n (n := 0) (by decide +kernel) l_17 f0 ?_
    refine go_bipush (n := 10) (z := 10) (by decide +kernel) (by decide) fun v_195 f_196 => ?_
    refine go_iload_n (n := 3) (by decide +kernel) l_20 f3 ?_
    refine go_aload_n (n := 0) (by decide +kernel) l_17 f0 ?_
    refine go_getf (x := 10) (ci := 5) (kf := 0) (fin := 1) (t := 2) (by decide +kernel) (by decide +kernel) (by decide +kernel) R f0 (fx_k (c := 5) R (by decide +kernel)) fun v_197 f_198 => ?_
    have f_199 := q_is_eq (b := 17) f_198 (fx_v R (by decide +kernel)).symm
    refine go_iload (n := 4) (by decide +kernel) l_21 f4 ?_
    obtain ⟨x_201, hc_200, h⟩ := bp_s h
    refine go_callV (x := 217) (mi := 81) (n := 1) (ci := 9) (as := [v4]) (rest := [v3, v_195, v0, v_193, v1]) (by decide +kernel) (by decide +kernel) rfl rfl (by simp only [List.map_cons, List.map_nil, List.sum_cons, List.sum_nil]; rw [q_is_cat f3 (Or.inl rfl), q_is_cat f_196 (Or.inl rfl), q_is_cat f0 (Or.inr rfl), q_is_cat f_194 (Or.inl rfl), q_is_cat f1 (Or.inr rfl)]; decide) R f_199 (fx_k (c := 9) R (by decide +kernel)) (om_X8_value (Nat.le_trans (by decide) hd) R f_199 f4 hc_200) (fun _ S_205 q_208 => ?_) (fun _ _ qq => kr_x qq)
    refine kr_z (by decide) q_208 fun v_203 f_204 R_206 E_207 => ?_
    obtain ⟨x_210, m_211, hc_209, h⟩ := bd_s h
    refine go_callV (x := 198) (mi := 44) (n := 3) (ci := 5) (as := [v_195, v3, v_203]) (rest := [v_193, v1]) (by decide +kernel) (by decide +kernel) rfl rfl (q_sum8 _ (Nat.le_of_ble_eq_true rfl)) R_206 f0 (fx_k (c := 5) R_206 (by decide +kernel)) (om_X4_command (Nat.le_trans (by decide) hd) R_206 f0 f_196 f3 f_204 hc_209) (fun _ S_214 q_217 => ?_) (fun _ _ qq => kr_x qq)
    refine kr_z (by decide) q_217 fun v_212 f_213 R_215 E_216 => ?_
    have E_220 := E_216
    have g_221 := Ext.ok E_216 g_3
    obtain ⟨x_223, m_224, hc_222, h⟩ := bd_s h
    refine go_callV (x := 266) (mi := 4) (n := 2) (ci := 2) (as := [v_193, v_212]) (rest := []) (by decide +kernel) (by decide +kernel) rfl rfl (q_sum8 _ (Nat.le_of_ble_eq_true rfl)) R_215 f1 g_221 (om_X1_waitFor (Nat.le_trans (by decide) hd) R_215 g_221 f1 f_194 f_213 hc_222) (fun _ S_227 q_230 => ?_) (fun _ _ qq => kr_x qq)
    refine kr_v q_230 fun R_228 E_229 => ?_
    have E_233 := Ext.tr E_220 E_229
    cases h
    exact go_vret (by decide +kernel) rfl (hQ E_233 _ _ R_228 q_out_n)
  have h := it_f hp_192 h
  by_cases hp_235 : p2 = 6
  · have h := it_t hp_235 h
    refine go_tsin (dflt := 177) (lo := 0) (hi := 6) (offs := #[43, 56, 89, 111, 125, 132, 154]) (o := 154) (t := 163) (by decide +kernel) f2 (by omega) (by omega) (by rw [hp_235]; decide) (by decide +kernel) ?_
    refine go_aload_n (n := 0) (by decide +kernel) l_17 f0 ?_
    refine go_getf (x := 10) (ci := 5) (kf := 0) (fin := 1) (t := 2) (by decide +kernel) (by decide +kernel) (by decide +kernel) R f0 (fx_k (c := 5) R (by decide +kernel)) fun v_236 f_237 => ?_
    have f_238 := q_is_eq (b := 17) f_237 (fx_v R (by decide +kernel)).symm
    refine go_iload_n (n := 3) (by decide +kernel) l_20 f3 ?_
    obtain ⟨x_240, hc_239, h⟩ := bp_s h
    refine go_callV (x := 217) (mi := 81) (n := 1) (ci := 9) (as := [v3]) (rest := []) (by decide +kernel) (by decide +kernel) rfl rfl (q_sum8 _ (Nat.le_of_ble_eq_true rfl)) R f_238 (fx_k (c := 9) R (by decide +kernel)) (om_X8_value (Nat.le_trans (by decide) hd) R f_238 f3 hc_239) (fun _ S_244 q_247 => ?_) (fun _ _ qq => kr_x qq)
    refine kr_z (by decide) q_247 fun v_242 f_243 R_245 E_246 => ?_
    refine go_if (c := .ne) (o := 8) (t := 179) (P := ¬ (x_240 = 0)) (by decide +kernel) (by decide +kernel) f_243 (Iff.rfl) (fun hp_248 => ?_) (fun hp_248 => ?_)
    · have h := it_f hp_248 h
      refine go_iload (n := 5) (by decide +kernel) l_15 f_13 ?_
      refine go_istore (n := 5) (by decide +kernel) (by decide +kernel) f_13 fun L_249 l_250 kp_251 => ?_
      have l_252 := kp_251 1 _ l_18 (by decide) (Or.inl (by decide))
      refine go_goto (o := 6) (t := 189) (by decide +kernel) (by decide +kernel) ?_
      exact oj_X4_doPlainLine_189 hd R_245 l_252 f1 l_250 f_13 hQ h
    · have h := it_n hp_248 h
      refine go_iload (n := 4) (by decide +kernel) l_21 f4 ?_
      refine go_goto (o := 5) (t := 181) (by decide +kernel) (by decide +kernel) ?_
      refine go_istore (n := 5) (by decide +kernel) (by decide +kernel) f4 fun L_253 l_254 kp_255 => ?_
      have l_256 := kp_255 1 _ l_18 (by decide) (Or.inl (by decide))
      refine go_goto (o := 6) (t := 189) (by decide +kernel) (by decide +kernel) ?_
      exact oj_X4_doPlainLine_189 hd R_245 l_256 f1 l_254 f4 hQ h
  have h := it_f hp_235 h
  refine go_tsout (dflt := 177) (lo := 0) (hi := 6) (offs := #[43, 56, 89, 111, 125, 132, 154]) (t := 186) (by decide +kernel) f2 (by omega) (by decide +kernel) ?_
  refine go_iload_n (n := 3) (by decide +kernel) l_20 f3 ?_
  refine go_istore (n := 5) (by decide +kernel) (by decide +kernel) f3 fun L_257 l_258 kp_259 => ?_
  have l_260 := kp_259 1 _ l_18 (by decide) (Or.inl (by decide))
  exact oj_X4_doPlainLine_189 hd R l_260 f1 l_258 f3 hQ h
end DF6
