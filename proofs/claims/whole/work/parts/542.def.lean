/-! Methods as functions (written by wip/whole/dec.py), 42: X12_activity, X12_fires, X12_looksAtActivities. -/
section DF42
noncomputable def fj_X12_activity_14 (y1 s0 : Int) (m : MM) : Option (Int × MM) := bd (fm_X12_fails s0 m) fun x_14 m_15 =>
if x_14 = 0 then
gd (0 ≤ y1 ∧ y1 < 60) <| lx (m_15 98 y1) fun x_33 =>
lx (m_15 103 y1) fun x_45 =>
lx (m_15 102 y1) fun x_57 =>
some (w32 ((w32 ((w32 (100 * x_33)) + (w32 (10 * x_45)))) + x_57), m_15)
else
some (0, m_15)
set_option maxHeartbeats 4000000 in
theorem oj_X12_activity_14 {xs : List Int32} {d : Nat} {S : QS} {L : QL} {Q : QO → QS → Prop} {m : MM} {y1 s0 : Int} {v0 : Value} {v1 : Value} {w0 : Value} {w1 : Value}  {rz : Int} {rm : MM}
  (hd : 2 ≤ d) (R : Rp S m) (l0 : q_lo L 0 = some v0) (f0 : q_is 2 v0 68) (l1 : q_lo L 1 = some v1) (f1 : q_is 0 v1 y1) (fs0 : q_is 0 w0 s0) (fs1 : q_is 2 w1 68)
  (hQ : Ext m rm → ∀ o S1, Rp S1 rm → q_out 0 o rz → Q o S1)
  (h : fj_X12_activity_14 y1 s0 m = some (rz, rm)) : Go xs d qM_X12_activity 14 L [w0, w1] S Q := by
  unfold fj_X12_activity_14 at h
  obtain ⟨x_14, m_15, hc_13, h⟩ := bd_s h
  refine go_callV (x := 324) (mi := 186) (n := 1) (ci := 13) (as := [w0]) (rest := []) (by decide +kernel) (by decide +kernel) rfl rfl (q_sum8 _ (Nat.le_of_ble_eq_true rfl)) R fs1 (fx_k (c := 13) R (by decide +kernel)) (om_X12_fails (Nat.le_trans (by decide) hd) R fs1 fs0 hc_13) (fun _ S_18 q_21 => ?_) (fun _ _ qq => kr_x qq)
  refine kr_z (by decide) q_21 fun v_16 f_17 R_19 E_20 => ?_
  have E_22 := E_20
  refine go_if (c := .eq) (o := 7) (t := 24) (P := x_14 = 0) (by decide +kernel) (by decide +kernel) f_17 (Iff.rfl) (fun hp_23 => ?_) (fun hp_23 => ?_)
  · have h := it_t hp_23 h
    refine go_bipush (n := 100) (z := 100) (by decide +kernel) (by decide) fun v_24 f_25 => ?_
    refine go_aload_n (n := 0) (by decide +kernel) l0 f0 ?_
    refine go_getf (x := 104) (ci := 13) (kf := 35) (fin := 1) (t := 2) (by decide +kernel) (by decide +kernel) (by decide +kernel) R_19 f0 (fx_k (c := 13) R_19 (by decide +kernel)) fun v_26 f_27 => ?_
    have f_28 := q_is_eq (b := 98) f_27 (fx_v R_19 (by decide +kernel)).symm
    refine go_iload_n (n := 1) (by decide +kernel) l1 f1 ?_
    obtain ⟨g_31, h⟩ := gd_s h
    obtain ⟨x_33, e_34, h⟩ := lx_s h
    refine go_iald (kd := 100) (by decide +kernel) rfl R_19 f_28 f1 (fx_k (c := 100) R_19 (by decide +kernel)) (fx_x (a := 98) (ln := 60) R_19 (by decide +kernel) g_31) fun v_29 f_30 => ?_
    have f_32 := q_is_eq f_30 e_34
    refine go_imul (by decide +kernel) f_25 f_32 fun v_35 f_36 => ?_
    refine go_bipush (n := 10) (z := 10) (by decide +kernel) (by decide) fun v_37 f_38 => ?_
    refine go_aload_n (n := 0) (by decide +kernel) l0 f0 ?_
    refine go_getf (x := 119) (ci := 13) (kf := 40) (fin := 1) (t := 2) (by decide +kernel) (by decide +kernel) (by decide +kernel) R_19 f0 (fx_k (c := 13) R_19 (by decide +kernel)) fun v_39 f_40 => ?_
    have f_41 := q_is_eq (b := 103) f_40 (fx_v R_19 (by decide +kernel)).symm
    refine go_iload_n (n := 1) (by decide +kernel) l1 f1 ?_
    obtain ⟨x_45, e_46, h⟩ := lx_s h
    refine go_iald (kd := 100) (by decide +kernel) rfl R_19 f_41 f1 (fx_k (c := 100) R_19 (by decide +kernel)) (fx_x (a := 103) (ln := 60) R_19 (by decide +kernel) g_31) fun v_42 f_43 => ?_
    have f_44 := q_is_eq f_43 e_46
    refine go_imul (by decide +kernel) f_38 f_44 fun v_47 f_48 => ?_
    refine go_iadd (by decide +kernel) f_36 f_48 fun v_49 f_50 => ?_
    refine go_aload_n (n := 0) (by decide +kernel) l0 f0 ?_
    refine go_getf (x := 116) (ci := 13) (kf := 39) (fin := 1) (t := 2) (by decide +kernel) (by decide +kernel) (by decide +kernel) R_19 f0 (fx_k (c := 13) R_19 (by decide +kernel)) fun v_51 f_52 => ?_
    have f_53 := q_is_eq (b := 102) f_52 (fx_v R_19 (by decide +kernel)).symm
    refine go_iload_n (n := 1) (by decide +kernel) l1 f1 ?_
    obtain ⟨x_57, e_58, h⟩ := lx_s h
    refine go_iald (kd := 100) (by decide +kernel) rfl R_19 f_53 f1 (fx_k (c := 100) R_19 (by decide +kernel)) (fx_x (a := 102) (ln := 60) R_19 (by decide +kernel) g_31) fun v_54 f_55 => ?_
    have f_56 := q_is_eq f_55 e_58
    refine go_iadd (by decide +kernel) f_50 f_56 fun v_59 f_60 => ?_
    cases h
    exact go_iret (by decide +kernel) rfl (Or.inl rfl) f_60 (hQ E_22 _ _ R_19 (q_out_v (by decide) f_60))
  · have h := it_f hp_23 h
    refine go_iconst (n := 0) (z := 0) (by decide +kernel) (by decide) fun v_61 f_62 => ?_
    refine go_goto (o := 29) (t := 50) (by decide +kernel) (by decide +kernel) ?_
    cases h
    exact go_iret (by decide +kernel) rfl (Or.inl rfl) f_62 (hQ E_22 _ _ R_19 (q_out_v (by decide) f_62))
noncomputable def fm_X12_activity (p1 : Int) (m0 : MM) : Option (Int × MM) := bp (fm_X12_isActivity p1 m0) fun x_2 =>
if x_2 = 0 then
fj_X12_activity_14 p1 1 m0
else
fj_X12_activity_14 p1 0 m0
set_option maxHeartbeats 4000000 in
theorem om_X12_activity {xs : List Int32} {d : Nat} {S : QS} {m0 : MM} {p1 : Int} {v0 : Value} {v1 : Value} {rz : Int} {rm : MM}
  (hd : 3 ≤ d) (R : Rp S m0) (f0 : q_is 2 v0 68) (f1 : q_is 0 v1 p1)
  (h : fm_X12_activity p1 m0 = some (rz, rm)) : Mt xs d 290 [v0, v1] S (Cr 0 m0 rm rz) := by
  obtain ⟨d, rfl⟩ : ∃ e, d = e + 1 := ⟨d - 1, by omega⟩
  have hd : 2 ≤ d := Nat.le_of_succ_le_succ hd
  refine Mt.of (M := qM_X12_activity) rfl (by rw [sl_1 (q_is_cat f0 (Or.inr rfl)), sl_1 (q_is_cat f1 (Or.inl rfl)), sl_0]; decide) ?_
  rw [la_1 (q_is_cat f0 (Or.inr rfl)), la_1 (q_is_cat f1 (Or.inl rfl)), la_0]
  obtain ⟨L, hL⟩ : ∃ L : QL, L = [(0, v0), (0 + 1, v1)] := ⟨_, rfl⟩
  rw [← hL]
  have l0 : q_lo L 0 = some v0 := by rw [hL]; rfl
  have l1 : q_lo L 1 = some v1 := by rw [hL]; rfl
  have hQ : Ext m0 rm → ∀ o S1, Rp S1 rm → q_out 0 o rz → (Cr 0 m0 rm rz) o S1 := fun a o S1 b e => ⟨b, a, e⟩
  unfold fm_X12_activity at h
  refine go_aload_n (n := 0) (by decide +kernel) l0 f0 ?_
  refine go_aload_n (n := 0) (by decide +kernel) l0 f0 ?_
  refine go_iload_n (n := 1) (by decide +kernel) l1 f1 ?_
  obtain ⟨x_2, hc_1, h⟩ := bp_s h
  refine go_callV (x := 642) (mi := 285) (n := 1) (ci := 13) (as := [v1]) (rest := [v0]) (by decide +kernel) (by decide +kernel) rfl rfl (q_sum8 _ (Nat.le_of_ble_eq_true rfl)) R f0 (fx_k (c := 13) R (by decide +kernel)) (om_X12_isActivity (Nat.le_trans (by decide) hd) R f0 f1 hc_1) (fun _ S_6 q_9 => ?_) (fun _ _ qq => kr_x qq)
  refine kr_z (by decide) q_9 fun v_4 f_5 R_7 E_8 => ?_
  refine go_if (c := .eq) (o := 7) (t := 13) (P := x_2 = 0) (by decide +kernel) (by decide +kernel) f_5 (Iff.rfl) (fun hp_10 => ?_) (fun hp_10 => ?_)
  · have h := it_t hp_10 h
    refine go_iconst (n := 1) (z := 1) (by decide +kernel) (by decide) fun v_11 f_12 => ?_
    exact oj_X12_activity_14 hd R_7 l0 f0 l1 f1 f_12 f0 hQ h
  · have h := it_f hp_10 h
    refine go_iconst (n := 0) (z := 0) (by decide +kernel) (by decide) fun v_63 f_64 => ?_
    refine go_goto (o := 4) (t := 14) (by decide +kernel) (by decide +kernel) ?_
    exact oj_X12_activity_14 hd R_7 l0 f0 l1 f1 f_64 f0 hQ h
noncomputable def fj_X12_fires_73 (c : Int → Int → Option (Int × MM)) (k105 : Int → Option (Int × MM)) (y2 y3 s0 : Int) (m : MM) : Option (Int × MM) := gd (0 ≤ y3 ∧ y3 < 512) <| lx (m 111 y3) fun x_45 =>
lx (m 68 0) fun x_50 =>
if x_50 < x_45 then
lx (w32 (y3 + 1)) fun x_63 =>
c y2 x_63
else
if s0 = 0 then
lx (w32 (y3 + 1)) fun x_79 =>
c y2 x_79
else
lx (w32 (y3 + 1)) fun x_94 =>
c y3 x_94
set_option maxHeartbeats 4000000 in
theorem oj_X12_fires_73 {xs : List Int32} {d : Nat} {S : QS} {L : QL} {Q : QO → QS → Prop} {m : MM} {y2 y3 s0 : Int} {v0 : Value} {v2 : Value} {v3 : Value} {w0 : Value}  {rz : Int} {rm : MM} {c : Int → Int → Option (Int × MM)} {k105 : Int → Option (Int × MM)} 
  (hd : 3 ≤ d) (R : Rp S m) (l0 : q_lo L 0 = some v0) (f0 : q_is 2 v0 68) (l2 : q_lo L 2 = some v2) (f2 : q_is 0 v2 y2) (l3 : q_lo L 3 = some v3) (f3 : q_is 0 v3 y3) (fs0 : q_is 0 w0 s0)
  (hc : ∀ {z2 : Int} {z3 : Int} {Sq : QS} {Lq : QL} {u0 : Value} {u2 : Value} {u3 : Value}, c z2 z3 = some (rz, rm) → Rp Sq m → q_lo Lq 0 = some u0 → q_is 2 u0 68 → q_lo Lq 2 = some u2 → q_is 0 u2 z2 → q_lo Lq 3 = some u3 → q_is 0 u3 z3 → Go xs d qM_X12_fires 10 Lq [] Sq Q)
  (hk105 : ∀ {z2 : Int} {Sq : QS} {Lq : QL} {u0 : Value} {u2 : Value}, k105 z2 = some (rz, rm) → Rp Sq m → q_lo Lq 0 = some u0 → q_is 2 u0 68 → q_lo Lq 2 = some u2 → q_is 0 u2 z2 → Go xs d qM_X12_fires 105 Lq [] Sq Q)
  (hQ : Ext m rm → ∀ o S1, Rp S1 rm → q_out 9 o rz → Q o S1)
  (h : fj_X12_fires_73 c k105 y2 y3 s0 m = some (rz, rm)) : Go xs d qM_X12_fires 73 L [w0] S Q := by
  unfold fj_X12_fires_73 at h
  refine go_istore (n := 4) (by decide +kernel) (by decide +kernel) fs0 fun L_32 l_33 kp_34 => ?_
  have l_35 := kp_34 0 _ l0 (by decide) (Or.inl (by decide))
  have l_36 := kp_34 2 _ l2 (by decide) (Or.inl (by decide))
  have l_37 := kp_34 3 _ l3 (by decide) (Or.inr (q_is_cat f3 (Or.inl rfl)))
  refine go_aload_n (n := 0) (by decide +kernel) l_35 f0 ?_
  refine go_getf (x := 143) (ci := 13) (kf := 49) (fin := 1) (t := 2) (by decide +kernel) (by decide +kernel) (by decide +kernel) R f0 (fx_k (c := 13) R (by decide +kernel)) fun v_38 f_39 => ?_
  have f_40 := q_is_eq (b := 111) f_39 (fx_v R (by decide +kernel)).symm
  refine go_iload_n (n := 3) (by decide +kernel) l_37 f3 ?_
  obtain ⟨g_43, h⟩ := gd_s h
  obtain ⟨x_45, e_46, h⟩ := lx_s h
  refine go_iald (kd := 100) (by decide +kernel) rfl R f_40 f3 (fx_k (c := 100) R (by decide +kernel)) (fx_x (a := 111) (ln := 512) R (by decide +kernel) g_43) fun v_41 f_42 => ?_
  have f_44 := q_is_eq f_42 e_46
  refine go_aload_n (n := 0) (by decide +kernel) l_35 f0 ?_
  obtain ⟨x_50, e_51, h⟩ := lx_s h
  refine go_getf (x := 357) (ci := 13) (kf := 0) (fin := 0) (t := 0) (by decide +kernel) (by decide +kernel) (by decide +kernel) R f0 (fx_k (c := 13) R (by decide +kernel)) fun v_47 f_48 => ?_
  have f_49 := q_is_eq f_48 e_51
  refine go_icmp (c := .gt) (o := 12) (t := 97) (P := x_50 < x_45) (by decide +kernel) (by decide +kernel) f_44 f_49 (Iff.rfl) (fun hp_52 => ?_) (fun hp_52 => ?_)
  · have h := it_t hp_52 h
    refine go_iload_n (n := 2) (by decide +kernel) l_36 f2 ?_
    refine go_istore_n (n := 2) (by decide +kernel) (by decide +kernel) f2 fun L_53 l_54 kp_55 => ?_
    have l_56 := kp_55 0 _ l_35 (by decide) (Or.inl (by decide))
    have l_57 := kp_55 3 _ l_37 (by decide) (Or.inl (by decide))
    refine go_iinc (n := 3) (c := 1) (c' := 1) (by decide +kernel) (by decide +kernel) l_57 f3 (by decide) fun L_58 v_59 f_60 l_61 kp_62 => ?_
    obtain ⟨x_63, e_64, h⟩ := lx_s h
    have f_65 := q_is_eq f_60 e_64
    have l_66 := kp_62 0 _ l_56 (by decide) (Or.inl (by decide))
    have l_67 := kp_62 2 _ l_54 (by decide) (Or.inr (q_is_cat f2 (Or.inl rfl)))
    refine go_goto (o := (-92)) (t := 10) (by decide +kernel) (by decide +kernel) ?_
    exact hc h R l_66 f0 l_67 f2 l_61 f_65
  · have h := it_f hp_52 h
    refine go_iload (n := 4) (by decide +kernel) l_33 fs0 ?_
    refine go_if (c := .eq) (o := 7) (t := 97) (P := s0 = 0) (by decide +kernel) (by decide +kernel) fs0 (Iff.rfl) (fun hp_68 => ?_) (fun hp_68 => ?_)
    · have h := it_t hp_68 h
      refine go_iload_n (n := 2) (by decide +kernel) l_36 f2 ?_
      refine go_istore_n (n := 2) (by decide +kernel) (by decide +kernel) f2 fun L_69 l_70 kp_71 => ?_
      have l_72 := kp_71 0 _ l_35 (by decide) (Or.inl (by decide))
      have l_73 := kp_71 3 _ l_37 (by decide) (Or.inl (by decide))
      refine go_iinc (n := 3) (c := 1) (c' := 1) (by decide +kernel) (by decide +kernel) l_73 f3 (by decide) fun L_74 v_75 f_76 l_77 kp_78 => ?_
      obtain ⟨x_79, e_80, h⟩ := lx_s h
      have f_81 := q_is_eq f_76 e_80
      have l_82 := kp_78 0 _ l_72 (by decide) (Or.inl (by decide))
      have l_83 := kp_78 2 _ l_70 (by decide) (Or.inr (q_is_cat f2 (Or.inl rfl)))
      refine go_goto (o := (-92)) (t := 10) (by decide +kernel) (by decide +kernel) ?_
      exact hc h R l_82 f0 l_83 f2 l_77 f_81
    · have h := it_f hp_68 h
      refine go_iload_n (n := 3) (by decide +kernel) l_37 f3 ?_
      refine go_goto (o := 4) (t := 98) (by decide +kernel) (by decide +kernel) ?_
      refine go_istore_n (n := 2) (by decide +kernel) (by decide +kernel) f3 fun L_84 l_85 kp_86 => ?_
      have l_87 := kp_86 0 _ l_35 (by decide) (Or.inl (by decide))
      have l_88 := kp_86 3 _ l_37 (by decide) (Or.inl (by decide))
      refine go_iinc (n := 3) (c := 1) (c' := 1) (by decide +kernel) (by decide +kernel) l_88 f3 (by decide) fun L_89 v_90 f_91 l_92 kp_93 => ?_
      obtain ⟨x_94, e_95, h⟩ := lx_s h
      have f_96 := q_is_eq f_91 e_95
      have l_97 := kp_93 0 _ l_87 (by decide) (Or.inl (by decide))
      have l_98 := kp_93 2 _ l_85 (by decide) (Or.inr (q_is_cat f3 (Or.inl rfl)))
      refine go_goto (o := (-92)) (t := 10) (by decide +kernel) (by decide +kernel) ?_
      exact hc h R l_97 f0 l_98 f3 l_92 f_96
noncomputable def fl_X12_fires_10 (m : MM) (k105 : Int → Option (Int × MM)) : Nat → Int → Int → Option (Int × MM)
  | 0, _, _ => none
  | n + 1, y2, y3 => lx (m 68 46) fun x_24 =>
if y3 < x_24 then
if y2 = (-1) then
fj_X12_fires_73 (fl_X12_fires_10 m k105 n) k105 y2 y3 1 m
else
gd (0 ≤ y3 ∧ y3 < 512) <| lx (m 109 y3) fun x_106 =>
gd (0 ≤ y2 ∧ y2 < 512) <| lx (m 109 y2) fun x_115 =>
if x_106 < x_115 then
fj_X12_fires_73 (fl_X12_fires_10 m k105 n) k105 y2 y3 1 m
else
if x_106 = x_115 then
lx (m 110 y3) fun x_141 =>
lx (m 110 y2) fun x_149 =>
if x_141 < x_149 then
fj_X12_fires_73 (fl_X12_fires_10 m k105 n) k105 y2 y3 1 m
else
fj_X12_fires_73 (fl_X12_fires_10 m k105 n) k105 y2 y3 0 m
else
fj_X12_fires_73 (fl_X12_fires_10 m k105 n) k105 y2 y3 0 m
else
k105 y2
set_option maxHeartbeats 4000000 in
theorem ol_X12_fires_10 {xs : List Int32} {d : Nat} {Q : QO → QS → Prop} {m : MM} {k105 : Int → Option (Int × MM)} {rz : Int} {rm : MM}
  (hd : 3 ≤ d)
  (hk105 : ∀ {z2 : Int} {Sq : QS} {Lq : QL} {u0 : Value} {u2 : Value}, k105 z2 = some (rz, rm) → Rp Sq m → q_lo Lq 0 = some u0 → q_is 2 u0 68 → q_lo Lq 2 = some u2 → q_is 0 u2 z2 → Go xs d qM_X12_fires 105 Lq [] Sq Q)
  (hQ : Ext m rm → ∀ o S1, Rp S1 rm → q_out 9 o rz → Q o S1) :
  ∀ (n : Nat) {S : QS} {L : QL} {y2 y3 : Int} {v0 : Value} {v2 : Value} {v3 : Value} , fl_X12_fires_10 m k105 n y2 y3 = some (rz, rm) → Rp S m → q_lo L 0 = some v0 → q_is 2 v0 68 → q_lo L 2 = some v2 → q_is 0 v2 y2 → q_lo L 3 = some v3 → q_is 0 v3 y3 → Go xs d qM_X12_fires 10 L [] S Q := by
  intro n
  induction n with
  | zero => intro S L y2 y3 v0 v2 v3; intro h R l0 f0 l2 f2 l3 f3; cases h
  | succ n ih0 =>
    intro S L y2 y3 v0 v2 v3; intro h R l0 f0 l2 f2 l3 f3
    have ih : ∀ {z2 : Int} {z3 : Int} {Sq : QS} {Lq : QL} {u0 : Value} {u2 : Value} {u3 : Value}, fl_X12_fires_10 m k105 n z2 z3 = some (rz, rm) → Rp Sq m → q_lo Lq 0 = some u0 → q_is 2 u0 68 → q_lo Lq 2 = some u2 → q_is 0 u2 z2 → q_lo Lq 3 = some u3 → q_is 0 u3 z3 → Go xs d qM_X12_fires 10 Lq [] Sq Q := by intros; exact ih0 ‹_› ‹_› ‹_› ‹_› ‹_› ‹_› ‹_› ‹_›
    unfold fl_X12_fires_10 at h
    refine go_iload_n (n := 3) (by decide +kernel) l3 f3 ?_
    refine go_aload_n (n := 0) (by decide +kernel) l0 f0 ?_
    obtain ⟨x_24, e_25, h⟩ := lx_s h
    refine go_getf (x := 552) (ci := 13) (kf := 46) (fin := 0) (t := 0) (by decide +kernel) (by decide +kernel) (by decide +kernel) R f0 (fx_k (c := 13) R (by decide +kernel)) fun v_21 f_22 => ?_
    have f_23 := q_is_eq f_22 e_25
    refine go_icmp (c := .ge) (o := 90) (t := 105) (P := ¬ (y3 < x_24)) (by decide +kernel) (by decide +kernel) f3 f_23 (Int.not_lt.symm) (fun hp_26 => ?_) (fun hp_26 => ?_)
    · have h := it_f hp_26 h
      exact hk105 h R l0 f0 l2 f2
    · have h := it_n hp_26 h
      refine go_iload_n (n := 2) (by decide +kernel) l2 f2 ?_
      refine go_iconst (n := (-1)) (z := (-1)) (by decide +kernel) (by decide) fun v_27 f_28 => ?_
      refine go_icmp (c := .eq) (o := 48) (t := 68) (P := y2 = (-1)) (by decide +kernel) (by decide +kernel) f2 f_28 (Iff.rfl) (fun hp_29 => ?_) (fun hp_29 => ?_)
      · have h := it_t hp_29 h
        refine go_iconst (n := 1) (z := 1) (by decide +kernel) (by decide) fun v_30 f_31 => ?_
        refine go_goto (o := 4) (t := 73) (by decide +kernel) (by decide +kernel) ?_
        exact oj_X12_fires_73 hd R l0 f0 l2 f2 l3 f3 f_31 ih hk105 hQ h
      · have h := it_f hp_29 h
        refine go_aload_n (n := 0) (by decide +kernel) l0 f0 ?_
        refine go_getf (x := 137) (ci := 13) (kf := 47) (fin := 1) (t := 2) (by decide +kernel) (by decide +kernel) (by decide +kernel) R f0 (fx_k (c := 13) R (by decide +kernel)) fun v_99 f_100 => ?_
        have f_101 := q_is_eq (b := 109) f_100 (fx_v R (by decide +kernel)).symm
        refine go_iload_n (n := 3) (by decide +kernel) l3 f3 ?_
        obtain ⟨g_104, h⟩ := gd_s h
        obtain ⟨x_106, e_107, h⟩ := lx_s h
        refine go_iald (kd := 100) (by decide +kernel) rfl R f_101 f3 (fx_k (c := 100) R (by decide +kernel)) (fx_x (a := 109) (ln := 512) R (by decide +kernel) g_104) fun v_102 f_103 => ?_
        have f_105 := q_is_eq f_103 e_107
        refine go_aload_n (n := 0) (by decide +kernel) l0 f0 ?_
        refine go_getf (x := 137) (ci := 13) (kf := 47) (fin := 1) (t := 2) (by decide +kernel) (by decide +kernel) (by decide +kernel) R f0 (fx_k (c := 13) R (by decide +kernel)) fun v_108 f_109 => ?_
        have f_110 := q_is_eq (b := 109) f_109 (fx_v R (by decide +kernel)).symm
        refine go_iload_n (n := 2) (by decide +kernel) l2 f2 ?_
        obtain ⟨g_113, h⟩ := gd_s h
        obtain ⟨x_115, e_116, h⟩ := lx_s h
        refine go_iald (kd := 100) (by decide +kernel) rfl R f_110 f2 (fx_k (c := 100) R (by decide +kernel)) (fx_x (a := 109) (ln := 512) R (by decide +kernel) g_113) fun v_111 f_112 => ?_
        have f_114 := q_is_eq f_112 e_116
        refine go_icmp (c := .lt) (o := 33) (t := 68) (P := x_106 < x_115) (by decide +kernel) (by decide +kernel) f_105 f_114 (Iff.rfl) (fun hp_117 => ?_) (fun hp_117 => ?_)
        · have h := it_t hp_117 h
          refine go_iconst (n := 1) (z := 1) (by decide +kernel) (by decide) fun v_118 f_119 => ?_
          refine go_goto (o := 4) (t := 73) (by decide +kernel) (by decide +kernel) ?_
          exact oj_X12_fires_73 hd R l0 f0 l2 f2 l3 f3 f_119 ih hk105 hQ h
        · have h := it_f hp_117 h
          refine go_aload_n (n := 0) (by decide +kernel) l0 f0 ?_
          refine go_getf (x := 137) (ci := 13) (kf := 47) (fin := 1) (t := 2) (by decide +kernel) (by decide +kernel) (by decide +kernel) R f0 (fx_k (c := 13) R (by decide +kernel)) fun v_120 f_121 => ?_
          have f_122 := q_is_eq (b := 109) f_121 (fx_v R (by decide +kernel)).symm
          refine go_iload_n (n := 3) (by decide +kernel) l3 f3 ?_
          refine go_iald (kd := 100) (by decide +kernel) rfl R f_122 f3 (fx_k (c := 100) R (by decide +kernel)) (fx_x (a := 109) (ln := 512) R (by decide +kernel) g_104) fun v_123 f_124 => ?_
          have f_125 := q_is_eq f_124 e_107
          refine go_aload_n (n := 0) (by decide +kernel) l0 f0 ?_
          refine go_getf (x := 137) (ci := 13) (kf := 47) (fin := 1) (t := 2) (by decide +kernel) (by decide +kernel) (by decide +kernel) R f0 (fx_k (c := 13) R (by decide +kernel)) fun v_126 f_127 => ?_
          have f_128 := q_is_eq (b := 109) f_127 (fx_v R (by decide +kernel)).symm
          refine go_iload_n (n := 2) (by decide +kernel) l2 f2 ?_
          refine go_iald (kd := 100) (by decide +kernel) rfl R f_128 f2 (fx_k (c := 100) R (by decide +kernel)) (fx_x (a := 109) (ln := 512) R (by decide +kernel) g_113) fun v_129 f_130 => ?_
          have f_131 := q_is_eq f_130 e_116
          refine go_icmp (c := .ne) (o := 22) (t := 72) (P := ¬ (x_106 = x_115)) (by decide +kernel) (by decide +kernel) f_125 f_131 (Iff.rfl) (fun hp_132 => ?_) (fun hp_132 => ?_)
          · have h := it_f hp_132 h
            refine go_iconst (n := 0) (z := 0) (by decide +kernel) (by decide) fun v_133 f_134 => ?_
            exact oj_X12_fires_73 hd R l0 f0 l2 f2 l3 f3 f_134 ih hk105 hQ h
          · have h := it_n hp_132 h
            refine go_aload_n (n := 0) (by decide +kernel) l0 f0 ?_
            refine go_getf (x := 140) (ci := 13) (kf := 48) (fin := 1) (t := 2) (by decide +kernel) (by decide +kernel) (by decide +kernel) R f0 (fx_k (c := 13) R (by decide +kernel)) fun v_135 f_136 => ?_
            have f_137 := q_is_eq (b := 110) f_136 (fx_v R (by decide +kernel)).symm
            refine go_iload_n (n := 3) (by decide +kernel) l3 f3 ?_
            obtain ⟨x_141, e_142, h⟩ := lx_s h
            refine go_iald (kd := 100) (by decide +kernel) rfl R f_137 f3 (fx_k (c := 100) R (by decide +kernel)) (fx_x (a := 110) (ln := 512) R (by decide +kernel) g_104) fun v_138 f_139 => ?_
            have f_140 := q_is_eq f_139 e_142
            refine go_aload_n (n := 0) (by decide +kernel) l0 f0 ?_
            refine go_getf (x := 140) (ci := 13) (kf := 48) (fin := 1) (t := 2) (by decide +kernel) (by decide +kernel) (by decide +kernel) R f0 (fx_k (c := 13) R (by decide +kernel)) fun v_143 f_144 => ?_
            have f_145 := q_is_eq (b := 110) f_144 (fx_v R (by decide +kernel)).symm
            refine go_iload_n (n := 2) (by decide +kernel) l2 f2 ?_
            obtain ⟨x_149, e_150, h⟩ := lx_s h
            refine go_iald (kd := 100) (by decide +kernel) rfl R f_145 f2 (fx_k (c := 100) R (by decide +kernel)) (fx_x (a := 110) (ln := 512) R (by decide +kernel) g_113) fun v_146 f_147 => ?_
            have f_148 := q_is_eq f_147 e_150
            refine go_icmp (c := .ge) (o := 7) (t := 72) (P := ¬ (x_141 < x_149)) (by decide +kernel) (by decide +kernel) f_140 f_148 (Int.not_lt.symm) (fun hp_151 => ?_) (fun hp_151 => ?_)
            · have h := it_f hp_151 h
              refine go_iconst (n := 0) (z := 0) (by decide +kernel) (by decide) fun v_152 f_153 => ?_
              exact oj_X12_fires_73 hd R l0 f0 l2 f2 l3 f3 f_153 ih hk105 hQ h
            · have h := it_n hp_151 h
              refine go_iconst (n := 1) (z := 1) (by decide +kernel) (by decide) fun v_154 f_155 => ?_
              refine go_goto (o := 4) (t := 73) (by decide +kernel) (by decide +kernel) ?_
              exact oj_X12_fires_73 hd R l0 f0 l2 f2 l3 f3 f_155 ih hk105 hQ h
noncomputable def fj_X12_fires_115 (c : Int → MM → Option (Int × MM)) (y2 s0 : Int) (m : MM) : Option (Int × MM) := if s0 = 0 then
c s0 m
else
gd (0 ≤ y2 ∧ y2 < 512) <| lx (m 109 y2) fun x_184 =>
lx (m 110 y2) fun x_194 =>
bd (fm_X12_puts x_184 3 x_194 0 m) fun x_199 m_200 =>
bd (fm_X12_removesTimer y2 m_200) fun x_209 m_210 =>
c s0 m_210
set_option maxHeartbeats 4000000 in
theorem oj_X12_fires_115 {xs : List Int32} {d : Nat} {S : QS} {L : QL} {Q : QO → QS → Prop} {m : MM} {y2 s0 : Int} {v0 : Value} {v2 : Value} {w0 : Value}  {rz : Int} {rm : MM} {c : Int → MM → Option (Int × MM)} 
  (hd : 3 ≤ d) (R : Rp S m) (l0 : q_lo L 0 = some v0) (f0 : q_is 2 v0 68) (l2 : q_lo L 2 = some v2) (f2 : q_is 0 v2 y2) (fs0 : q_is 0 w0 s0)
  (hc : ∀ mq : MM, Ext m mq → ∀ {z1 : Int} {Sq : QS} {Lq : QL} {u0 : Value} {u1 : Value}, c z1 mq = some (rz, rm) → Rp Sq mq → q_lo Lq 0 = some u0 → q_is 2 u0 68 → q_lo Lq 1 = some u1 → q_is 0 u1 z1 → Go xs d qM_X12_fires 2 Lq [] Sq Q)
  (hQ : Ext m rm → ∀ o S1, Rp S1 rm → q_out 9 o rz → Q o S1)
  (h : fj_X12_fires_115 c y2 s0 m = some (rz, rm)) : Go xs d qM_X12_fires 115 L [w0] S Q := by
  unfold fj_X12_fires_115 at h
  refine go_istore_n (n := 1) (by decide +kernel) (by decide +kernel) fs0 fun L_171 l_172 kp_173 => ?_
  have l_174 := kp_173 0 _ l0 (by decide) (Or.inr (q_is_cat f0 (Or.inr rfl)))
  have l_175 := kp_173 2 _ l2 (by decide) (Or.inl (by decide))
  refine go_iload_n (n := 1) (by decide +kernel) l_172 fs0 ?_
  refine go_if (c := .eq) (o := 27) (t := 144) (P := s0 = 0) (by decide +kernel) (by decide +kernel) fs0 (Iff.rfl) (fun hp_176 => ?_) (fun hp_176 => ?_)
  · have h := it_t hp_176 h
    refine go_goto (o := (-142)) (t := 2) (by decide +kernel) (by decide +kernel) ?_
    exact hc m (Ext.rf _) h R l_174 f0 l_172 fs0
  · have h := it_f hp_176 h
    refine go_aload_n (n := 0) (by decide +kernel) l_174 f0 ?_
    refine go_aload_n (n := 0) (by decide +kernel) l_174 f0 ?_
    refine go_getf (x := 137) (ci := 13) (kf := 47) (fin := 1) (t := 2) (by decide +kernel) (by decide +kernel) (by decide +kernel) R f0 (fx_k (c := 13) R (by decide +kernel)) fun v_177 f_178 => ?_
    have f_179 := q_is_eq (b := 109) f_178 (fx_v R (by decide +kernel)).symm
    refine go_iload_n (n := 2) (by decide +kernel) l_175 f2 ?_
    obtain ⟨g_182, h⟩ := gd_s h
    obtain ⟨x_184, e_185, h⟩ := lx_s h
    refine go_iald (kd := 100) (by decide +kernel) rfl R f_179 f2 (fx_k (c := 100) R (by decide +kernel)) (fx_x (a := 109) (ln := 512) R (by decide +kernel) g_182) fun v_180 f_181 => ?_
    have f_183 := q_is_eq f_181 e_185
    refine go_iconst (n := 3) (z := 3) (by decide +kernel) (by decide) fun v_186 f_187 => ?_
    refine go_aload_n (n := 0) (by decide +kernel) l_174 f0 ?_
    refine go_getf (x := 140) (ci := 13) (kf := 48) (fin := 1) (t := 2) (by decide +kernel) (by decide +kernel) (by decide +kernel) R f0 (fx_k (c := 13) R (by decide +kernel)) fun v_188 f_189 => ?_
    have f_190 := q_is_eq (b := 110) f_189 (fx_v R (by decide +kernel)).symm
    refine go_iload_n (n := 2) (by decide +kernel) l_175 f2 ?_
    obtain ⟨x_194, e_195, h⟩ := lx_s h
    refine go_iald (kd := 100) (by decide +kernel) rfl R f_190 f2 (fx_k (c := 100) R (by decide +kernel)) (fx_x (a := 110) (ln := 512) R (by decide +kernel) g_182) fun v_191 f_192 => ?_
    have f_193 := q_is_eq f_192 e_195
    refine go_iconst (n := 0) (z := 0) (by decide +kernel) (by decide) fun v_196 f_197 => ?_
    obtain ⟨x_199, m_200, hc_198, h⟩ := bd_s h
    refine go_callV (x := 360) (mi := 210) (n := 4) (ci := 13) (as := [v_180, v_186, v_191, v_196]) (rest := []) (by decide +kernel) (by decide +kernel) rfl rfl (q_sum8 _ (Nat.le_of_ble_eq_true rfl)) R f0 (fx_k (c := 13) R (by decide +kernel)) (om_X12_puts (Nat.le_trans (by decide) hd) R f0 f_183 f_187 f_193 f_197 hc_198) (fun _ S_203 q_206 => ?_) (fun _ _ qq => kr_x qq)
    refine kr_z (by decide) q_206 fun v_201 f_202 R_204 E_205 => ?_
    have E_207 := E_205
    refine go_pop (by decide +kernel) f_202 (Or.inl rfl) ?_
    refine go_aload_n (n := 0) (by decide +kernel) l_174 f0 ?_
    refine go_iload_n (n := 2) (by decide +kernel) l_175 f2 ?_
    obtain ⟨x_209, m_210, hc_208, h⟩ := bd_s h
    refine go_callV (x := 555) (mi := 253) (n := 1) (ci := 13) (as := [v2]) (rest := []) (by decide +kernel) (by decide +kernel) rfl rfl (q_sum8 _ (Nat.le_of_ble_eq_true rfl)) R_204 f0 (fx_k (c := 13) R_204 (by decide +kernel)) (om_X12_removesTimer (Nat.le_trans (by decide) hd) R_204 f0 f2 hc_208) (fun _ S_213 q_216 => ?_) (fun _ _ qq => kr_x qq)
    refine kr_v q_216 fun R_214 E_215 => ?_
    have E_217 := Ext.tr E_207 E_215
    refine go_goto (o := (-142)) (t := 2) (by decide +kernel) (by decide +kernel) ?_
    exact hc m_210 E_217 h R_214 l_174 f0 l_172 fs0
noncomputable def fl_X12_fires_2 : Nat → Int → MM → Option (Int × MM)
  | 0, _, _ => none
  | n + 1, y1, m => if y1 = 0 then
some (0, m)
else
fl_X12_fires_10 m (fun x_156 =>
if x_156 = (-1) then
fj_X12_fires_115 (fl_X12_fires_2 n) x_156 0 m
else
fj_X12_fires_115 (fl_X12_fires_2 n) x_156 1 m) BIG (-1) 0
set_option maxHeartbeats 4000000 in
theorem ol_X12_fires_2 {xs : List Int32} {d : Nat} {Q : QO → QS → Prop} {mb : MM} {rz : Int} {rm : MM}
  (hd : 3 ≤ d)
  (hQ : Ext mb rm → ∀ o S1, Rp S1 rm → q_out 9 o rz → Q o S1) :
  ∀ (n : Nat) {m : MM} {S : QS} {L : QL} {y1 : Int} {v0 : Value} {v1 : Value} , Ext mb m → fl_X12_fires_2 n y1 m = some (rz, rm) → Rp S m → q_lo L 0 = some v0 → q_is 2 v0 68 → q_lo L 1 = some v1 → q_is 0 v1 y1 → Go xs d qM_X12_fires 2 L [] S Q := by
  intro n
  induction n with
  | zero => intro m S L y1 v0 v1; intro E h R l0 f0 l1 f1; cases h
  | succ n ih0 =>
    intro m S L y1 v0 v1; intro E h R l0 f0 l1 f1
    have ih : ∀ mq : MM, Ext mb mq → ∀ {z1 : Int} {Sq : QS} {Lq : QL} {u0 : Value} {u1 : Value}, fl_X12_fires_2 n z1 mq = some (rz, rm) → Rp Sq mq → q_lo Lq 0 = some u0 → q_is 2 u0 68 → q_lo Lq 1 = some u1 → q_is 0 u1 z1 → Go xs d qM_X12_fires 2 Lq [] Sq Q := fun mq b => by intros; exact ih0 b ‹_› ‹_› ‹_› ‹_› ‹_› ‹_›
    unfold fl_X12_fires_2 at h
    refine go_iload_n (n := 1) (by decide +kernel) l1 f1 ?_
    refine go_if (c := .eq) (o := 144) (t := 147) (P := y1 = 0) (by decide +kernel) (by decide +kernel) f1 (Iff.rfl) (fun hp_7 => ?_) (fun hp_7 => ?_)
    · have h := it_t hp_7 h
      cases h
      exact go_vret (by decide +kernel) rfl (hQ E _ _ R q_out_n)
    · have h := it_f hp_7 h
      refine go_iconst (n := (-1)) (z := (-1)) (by decide +kernel) (by decide) fun v_8 f_9 => ?_
      refine go_istore_n (n := 2) (by decide +kernel) (by decide +kernel) f_9 fun L_10 l_11 kp_12 => ?_
      have l_13 := kp_12 0 _ l0 (by decide) (Or.inl (by decide))
      refine go_iconst (n := 0) (z := 0) (by decide +kernel) (by decide) fun v_14 f_15 => ?_
      refine go_istore_n (n := 3) (by decide +kernel) (by decide +kernel) f_15 fun L_16 l_17 kp_18 => ?_
      have l_19 := kp_18 0 _ l_13 (by decide) (Or.inl (by decide))
      have l_20 := kp_18 2 _ l_11 (by decide) (Or.inr (q_is_cat f_9 (Or.inl rfl)))
      refine ol_X12_fires_10 hd  ?_ (fun b => hQ (Ext.tr E b)) BIG h R l_19 f0 l_20 f_9 l_17 f_15
      intro x_156 S_163 L_164 v_157 v_158
      intro h R_165 l_159 f_161 l_160 f_162
      refine go_iload_n (n := 2) (by decide +kernel) l_160 f_162 ?_
      refine go_iconst (n := (-1)) (z := (-1)) (by decide +kernel) (by decide) fun v_166 f_167 => ?_
      refine go_icmp (c := .eq) (o := 7) (t := 114) (P := x_156 = (-1)) (by decide +kernel) (by decide +kernel) f_162 f_167 (Iff.rfl) (fun hp_168 => ?_) (fun hp_168 => ?_)
      · have h := it_t hp_168 h
        refine go_iconst (n := 0) (z := 0) (by decide +kernel) (by decide) fun v_169 f_170 => ?_
        exact oj_X12_fires_115 hd R_165 l_159 f_161 l_160 f_162 f_170 (fun mq b => ih mq (Ext.tr E b)) (fun b => hQ (Ext.tr E b)) h
      · have h := it_f hp_168 h
        refine go_iconst (n := 1) (z := 1) (by decide +kernel) (by decide) fun v_218 f_219 => ?_
        refine go_goto (o := 4) (t := 115) (by decide +kernel) (by decide +kernel) ?_
        exact oj_X12_fires_115 hd R_165 l_159 f_161 l_160 f_162 f_219 (fun mq b => ih mq (Ext.tr E b)) (fun b => hQ (Ext.tr E b)) h
noncomputable def fm_X12_fires (m0 : MM) : Option (Int × MM) := fl_X12_fires_2   BIG 1 m0
set_option maxHeartbeats 4000000 in
theorem om_X12_fires {xs : List Int32} {d : Nat} {S : QS} {m0 : MM} {v0 : Value} {rz : Int} {rm : MM}
  (hd : 4 ≤ d) (R : Rp S m0) (f0 : q_is 2 v0 68)
  (h : fm_X12_fires m0 = some (rz, rm)) : Mt xs d 291 [v0] S (Cr 9 m0 rm rz) := by
  obtain ⟨d, rfl⟩ : ∃ e, d = e + 1 := ⟨d - 1, by omega⟩
  have hd : 3 ≤ d := Nat.le_of_succ_le_succ hd
  refine Mt.of (M := qM_X12_fires) rfl (by rw [sl_1 (q_is_cat f0 (Or.inr rfl)), sl_0]; decide) ?_
  rw [la_1 (q_is_cat f0 (Or.inr rfl)), la_0]
  obtain ⟨L, hL⟩ : ∃ L : QL, L = [(0, v0)] := ⟨_, rfl⟩
  rw [← hL]
  have l0 : q_lo L 0 = some v0 := by rw [hL]; rfl
  have hQ : Ext m0 rm → ∀ o S1, Rp S1 rm → q_out 9 o rz → (Cr 9 m0 rm rz) o S1 := fun a o S1 b e => ⟨b, a, e⟩
  unfold fm_X12_fires at h
  refine go_iconst (n := 1) (z := 1) (by decide +kernel) (by decide) fun v_1 f_2 => ?_
  refine go_istore_n (n := 1) (by decide +kernel) (by decide +kernel) f_2 fun L_3 l_4 kp_5 => ?_
  have l_6 := kp_5 0 _ l0 (by decide) (Or.inr (q_is_cat f0 (Or.inr rfl)))
  refine ol_X12_fires_2 hd   hQ BIG (Ext.rf _) h R l_6 f0 l_4 f_2
noncomputable def fj_X12_looksAtActivities_205 (c : Int → MM → Option (Int × MM)) (y1 : Int) (m : MM) : Option (Int × MM) := bd (fm_X12_misses y1 0 m) fun x_91 m_92 =>
lx (w32 (y1 + 1)) fun x_105 =>
c x_105 m_92
set_option maxHeartbeats 4000000 in
theorem oj_X12_looksAtActivities_205 {xs : List Int32} {d : Nat} {S : QS} {L : QL} {Q : QO → QS → Prop} {m : MM} {y1 : Int} {v0 : Value} {v1 : Value}  {rz : Int} {rm : MM} {c : Int → MM → Option (Int × MM)} 
  (hd : 4 ≤ d) (R : Rp S m) (l0 : q_lo L 0 = some v0) (f0 : q_is 2 v0 68) (l1 : q_lo L 1 = some v1) (f1 : q_is 0 v1 y1)
  (hc : ∀ mq : MM, Ext m mq → ∀ {z1 : Int} {Sq : QS} {Lq : QL} {u0 : Value} {u1 : Value}, c z1 mq = some (rz, rm) → Rp Sq mq → q_lo Lq 0 = some u0 → q_is 2 u0 68 → q_lo Lq 1 = some u1 → q_is 0 u1 z1 → Go xs d qM_X12_looksAtActivities 2 Lq [] Sq Q)
  (hQ : Ext m rm → ∀ o S1, Rp S1 rm → q_out 9 o rz → Q o S1)
  (h : fj_X12_looksAtActivities_205 c y1 m = some (rz, rm)) : Go xs d qM_X12_looksAtActivities 205 L [] S Q := by
  unfold fj_X12_looksAtActivities_205 at h
  refine go_aload_n (n := 0) (by decide +kernel) l0 f0 ?_
  refine go_iload_n (n := 1) (by decide +kernel) l1 f1 ?_
  refine go_iconst (n := 0) (z := 0) (by decide +kernel) (by decide) fun v_88 f_89 => ?_
  obtain ⟨x_91, m_92, hc_90, h⟩ := bd_s h
  refine go_callV (x := 645) (mi := 287) (n := 2) (ci := 13) (as := [v1, v_88]) (rest := []) (by decide +kernel) (by decide +kernel) rfl rfl (q_sum8 _ (Nat.le_of_ble_eq_true rfl)) R f0 (fx_k (c := 13) R (by decide +kernel)) (om_X12_misses (Nat.le_trans (by decide) hd) R f0 f1 f_89 hc_90) (fun _ S_95 q_98 => ?_) (fun _ _ qq => kr_x qq)
  refine kr_v q_98 fun R_96 E_97 => ?_
  have E_99 := E_97
  refine go_iinc (n := 1) (c := 1) (c' := 1) (by decide +kernel) (by decide +kernel) l1 f1 (by decide) fun L_100 v_101 f_102 l_103 kp_104 => ?_
  obtain ⟨x_105, e_106, h⟩ := lx_s h
  have f_107 := q_is_eq f_102 e_106
  have l_108 := kp_104 0 _ l0 (by decide) (Or.inr (q_is_cat f0 (Or.inr rfl)))
  refine go_goto (o := (-212)) (t := 2) (by decide +kernel) (by decide +kernel) ?_
  exact hc m_92 E_99 h R_96 l_108 f0 l_103 f_107
noncomputable def fj_X12_looksAtActivities_160 (c : Int → MM → Option (Int × MM)) (y1 y3 y4 s0 : Int) (m : MM) : Option (Int × MM) := if y3 = 0 then
if y4 = 0 then
if s0 = 0 then
lx (w32 (y1 + 1)) fun x_115 =>
c x_115 m
else
fj_X12_looksAtActivities_205 c y1 m
else
fj_X12_looksAtActivities_205 c y1 m
else
gd (0 ≤ y1 ∧ y1 < 60) <| up m 102 y1 2 fun m_125 =>
lx (m_125 98 y1) fun x_137 =>
lx (m_125 99 y1) fun x_147 =>
bd (fm_X12_puts x_137 2 x_147 0 m_125) fun x_152 m_153 =>
lx (w32 (y1 + 1)) fun x_166 =>
c x_166 m_153
set_option maxHeartbeats 4000000 in
theorem oj_X12_looksAtActivities_160 {xs : List Int32} {d : Nat} {S : QS} {L : QL} {Q : QO → QS → Prop} {m : MM} {y1 y3 y4 s0 : Int} {v0 : Value} {v1 : Value} {v3 : Value} {v4 : Value} {w0 : Value}  {rz : Int} {rm : MM} {c : Int → MM → Option (Int × MM)} 
  (hd : 4 ≤ d) (R : Rp S m) (l0 : q_lo L 0 = some v0) (f0 : q_is 2 v0 68) (l1 : q_lo L 1 = some v1) (f1 : q_is 0 v1 y1) (l3 : q_lo L 3 = some v3) (f3 : q_is 0 v3 y3) (l4 : q_lo L 4 = some v4) (f4 : q_is 0 v4 y4) (fs0 : q_is 0 w0 s0)
  (hc : ∀ mq : MM, Ext m mq → ∀ {z1 : Int} {Sq : QS} {Lq : QL} {u0 : Value} {u1 : Value}, c z1 mq = some (rz, rm) → Rp Sq mq → q_lo Lq 0 = some u0 → q_is 2 u0 68 → q_lo Lq 1 = some u1 → q_is 0 u1 z1 → Go xs d qM_X12_looksAtActivities 2 Lq [] Sq Q)
  (hQ : Ext m rm → ∀ o S1, Rp S1 rm → q_out 9 o rz → Q o S1)
  (h : fj_X12_looksAtActivities_160 c y1 y3 y4 s0 m = some (rz, rm)) : Go xs d qM_X12_looksAtActivities 160 L [w0] S Q := by
  unfold fj_X12_looksAtActivities_160 at h
  refine go_istore (n := 5) (by decide +kernel) (by decide +kernel) fs0 fun L_79 l_80 kp_81 => ?_
  have l_82 := kp_81 0 _ l0 (by decide) (Or.inl (by decide))
  have l_83 := kp_81 1 _ l1 (by decide) (Or.inl (by decide))
  have l_84 := kp_81 3 _ l3 (by decide) (Or.inl (by decide))
  have l_85 := kp_81 4 _ l4 (by decide) (Or.inr (q_is_cat f4 (Or.inl rfl)))
  refine go_iload_n (n := 3) (by decide +kernel) l_84 f3 ?_
  refine go_if (c := .eq) (o := 32) (t := 195) (P := y3 = 0) (by decide +kernel) (by decide +kernel) f3 (Iff.rfl) (fun hp_86 => ?_) (fun hp_86 => ?_)
  · have h := it_t hp_86 h
    refine go_iload (n := 4) (by decide +kernel) l_85 f4 ?_
    refine go_if (c := .ne) (o := 8) (t := 205) (P := ¬ (y4 = 0)) (by decide +kernel) (by decide +kernel) f4 (Iff.rfl) (fun hp_87 => ?_) (fun hp_87 => ?_)
    · have h := it_f hp_87 h
      exact oj_X12_looksAtActivities_205 hd R l_82 f0 l_83 f1 hc hQ h
    · have h := it_n hp_87 h
      refine go_iload (n := 5) (by decide +kernel) l_80 fs0 ?_
      refine go_if (c := .eq) (o := 9) (t := 211) (P := s0 = 0) (by decide +kernel) (by decide +kernel) fs0 (Iff.rfl) (fun hp_109 => ?_) (fun hp_109 => ?_)
      · have h := it_t hp_109 h
        refine go_iinc (n := 1) (c := 1) (c' := 1) (by decide +kernel) (by decide +kernel) l_83 f1 (by decide) fun L_110 v_111 f_112 l_113 kp_114 => ?_
        obtain ⟨x_115, e_116, h⟩ := lx_s h
        have f_117 := q_is_eq f_112 e_116
        have l_118 := kp_114 0 _ l_82 (by decide) (Or.inr (q_is_cat f0 (Or.inr rfl)))
        refine go_goto (o := (-212)) (t := 2) (by decide +kernel) (by decide +kernel) ?_
        exact hc m (Ext.rf _) h R l_118 f0 l_113 f_117
      · have h := it_f hp_109 h
        exact oj_X12_looksAtActivities_205 hd R l_82 f0 l_83 f1 hc hQ h
  · have h := it_f hp_86 h
    refine go_aload_n (n := 0) (by decide +kernel) l_82 f0 ?_
    refine go_getf (x := 116) (ci := 13) (kf := 39) (fin := 1) (t := 2) (by decide +kernel) (by decide +kernel) (by decide +kernel) R f0 (fx_k (c := 13) R (by decide +kernel)) fun v_119 f_120 => ?_
    have f_121 := q_is_eq (b := 102) f_120 (fx_v R (by decide +kernel)).symm
    refine go_iload_n (n := 1) (by decide +kernel) l_83 f1 ?_
    refine go_iconst (n := 2) (z := 2) (by decide +kernel) (by decide) fun v_122 f_123 => ?_
    obtain ⟨g_124, h⟩ := gd_s h
    obtain ⟨m_125, e_126, h⟩ := up_s h
    refine go_iast (kd := 100) (by decide +kernel) rfl R f_121 f1 f_123 (fx_k (c := 100) R (by decide +kernel)) (fx_x (a := 102) (ln := 60) R (by decide +kernel) g_124) e_126 (fx_a R.2 (fx_k (c := 100) R (by decide +kernel)) (And.left (fx_x (a := 102) (ln := 60) R (by decide +kernel) g_124)) (by decide +kernel)) fun S_127 R_128 E_129 => ?_
    have E_130 := E_129
    refine go_aload_n (n := 0) (by decide +kernel) l_82 f0 ?_
    refine go_aload_n (n := 0) (by decide +kernel) l_82 f0 ?_
    refine go_getf (x := 104) (ci := 13) (kf := 35) (fin := 1) (t := 2) (by decide +kernel) (by decide +kernel) (by decide +kernel) R_128 f0 (fx_k (c := 13) R_128 (by decide +kernel)) fun v_131 f_132 => ?_
    have f_133 := q_is_eq (b := 98) f_132 (fx_v R_128 (by decide +kernel)).symm
    refine go_iload_n (n := 1) (by decide +kernel) l_83 f1 ?_
    obtain ⟨x_137, e_138, h⟩ := lx_s h
    refine go_iald (kd := 100) (by decide +kernel) rfl R_128 f_133 f1 (fx_k (c := 100) R_128 (by decide +kernel)) (fx_x (a := 98) (ln := 60) R_128 (by decide +kernel) g_124) fun v_134 f_135 => ?_
    have f_136 := q_is_eq f_135 e_138
    refine go_iconst (n := 2) (z := 2) (by decide +kernel) (by decide) fun v_139 f_140 => ?_
    refine go_aload_n (n := 0) (by decide +kernel) l_82 f0 ?_
    refine go_getf (x := 107) (ci := 13) (kf := 36) (fin := 1) (t := 2) (by decide +kernel) (by decide +kernel) (by decide +kernel) R_128 f0 (fx_k (c := 13) R_128 (by decide +kernel)) fun v_141 f_142 => ?_
    have f_143 := q_is_eq (b := 99) f_142 (fx_v R_128 (by decide +kernel)).symm
    refine go_iload_n (n := 1) (by decide +kernel) l_83 f1 ?_
    obtain ⟨x_147, e_148, h⟩ := lx_s h
    refine go_iald (kd := 100) (by decide +kernel) rfl R_128 f_143 f1 (fx_k (c := 100) R_128 (by decide +kernel)) (fx_x (a := 99) (ln := 60) R_128 (by decide +kernel) g_124) fun v_144 f_145 => ?_
    have f_146 := q_is_eq f_145 e_148
    refine go_iconst (n := 0) (z := 0) (by decide +kernel) (by decide) fun v_149 f_150 => ?_
    obtain ⟨x_152, m_153, hc_151, h⟩ := bd_s h
    refine go_callV (x := 360) (mi := 210) (n := 4) (ci := 13) (as := [v_134, v_139, v_144, v_149]) (rest := []) (by decide +kernel) (by decide +kernel) rfl rfl (q_sum8 _ (Nat.le_of_ble_eq_true rfl)) R_128 f0 (fx_k (c := 13) R_128 (by decide +kernel)) (om_X12_puts (Nat.le_trans (by decide) hd) R_128 f0 f_136 f_140 f_146 f_150 hc_151) (fun _ S_156 q_159 => ?_) (fun _ _ qq => kr_x qq)
    refine kr_z (by decide) q_159 fun v_154 f_155 R_157 E_158 => ?_
    have E_160 := Ext.tr E_130 E_158
    refine go_pop (by decide +kernel) f_155 (Or.inl rfl) ?_
    refine go_goto (o := 19) (t := 211) (by decide +kernel) (by decide +kernel) ?_
    refine go_iinc (n := 1) (c := 1) (c' := 1) (by decide +kernel) (by decide +kernel) l_83 f1 (by decide) fun L_161 v_162 f_163 l_164 kp_165 => ?_
    obtain ⟨x_166, e_167, h⟩ := lx_s h
    have f_168 := q_is_eq f_163 e_167
    have l_169 := kp_165 0 _ l_82 (by decide) (Or.inr (q_is_cat f0 (Or.inr rfl)))
    refine go_goto (o := (-212)) (t := 2) (by decide +kernel) (by decide +kernel) ?_
    exact hc m_153 E_160 h R_157 l_169 f0 l_164 f_168
noncomputable def fj_X12_looksAtActivities_114 (c : Int → MM → Option (Int × MM)) (y1 y2 y3 s0 : Int) (m : MM) : Option (Int × MM) := gd (0 ≤ y1 ∧ y1 < 60) <| lx (m 102 y1) fun x_72 =>
if x_72 = 1 then
gd (0 ≤ y2 ∧ y2 < 4) <| lx (m 78 y2) fun x_177 =>
if 0 < x_177 then
lx (m 68 0) fun x_185 =>
lx (m 107 y1) fun x_193 =>
if w32 (x_185 - x_193) < x_177 then
fj_X12_looksAtActivities_160 c y1 y3 s0 0 m
else
fj_X12_looksAtActivities_160 c y1 y3 s0 1 m
else
fj_X12_looksAtActivities_160 c y1 y3 s0 0 m
else
fj_X12_looksAtActivities_160 c y1 y3 s0 0 m
set_option maxHeartbeats 4000000 in
theorem oj_X12_looksAtActivities_114 {xs : List Int32} {d : Nat} {S : QS} {L : QL} {Q : QO → QS → Prop} {m : MM} {y1 y2 y3 s0 : Int} {v0 : Value} {v1 : Value} {v2 : Value} {v3 : Value} {w0 : Value}  {rz : Int} {rm : MM} {c : Int → MM → Option (Int × MM)} 
  (hd : 4 ≤ d) (R : Rp S m) (l0 : q_lo L 0 = some v0) (f0 : q_is 2 v0 68) (l1 : q_lo L 1 = some v1) (f1 : q_is 0 v1 y1) (l2 : q_lo L 2 = some v2) (f2 : q_is 0 v2 y2) (l3 : q_lo L 3 = some v3) (f3 : q_is 0 v3 y3) (fs0 : q_is 0 w0 s0)
  (hc : ∀ mq : MM, Ext m mq → ∀ {z1 : Int} {Sq : QS} {Lq : QL} {u0 : Value} {u1 : Value}, c z1 mq = some (rz, rm) → Rp Sq mq → q_lo Lq 0 = some u0 → q_is 2 u0 68 → q_lo Lq 1 = some u1 → q_is 0 u1 z1 → Go xs d qM_X12_looksAtActivities 2 Lq [] Sq Q)
  (hQ : Ext m rm → ∀ o S1, Rp S1 rm → q_out 9 o rz → Q o S1)
  (h : fj_X12_looksAtActivities_114 c y1 y2 y3 s0 m = some (rz, rm)) : Go xs d qM_X12_looksAtActivities 114 L [w0] S Q := by
  unfold fj_X12_looksAtActivities_114 at h
  refine go_istore (n := 4) (by decide +kernel) (by decide +kernel) fs0 fun L_58 l_59 kp_60 => ?_
  have l_61 := kp_60 0 _ l0 (by decide) (Or.inl (by decide))
  have l_62 := kp_60 1 _ l1 (by decide) (Or.inl (by decide))
  have l_63 := kp_60 2 _ l2 (by decide) (Or.inl (by decide))
  have l_64 := kp_60 3 _ l3 (by decide) (Or.inr (q_is_cat f3 (Or.inl rfl)))
  refine go_aload_n (n := 0) (by decide +kernel) l_61 f0 ?_
  refine go_getf (x := 116) (ci := 13) (kf := 39) (fin := 1) (t := 2) (by decide +kernel) (by decide +kernel) (by decide +kernel) R f0 (fx_k (c := 13) R (by decide +kernel)) fun v_65 f_66 => ?_
  have f_67 := q_is_eq (b := 102) f_66 (fx_v R (by decide +kernel)).symm
  refine go_iload_n (n := 1) (by decide +kernel) l_62 f1 ?_
  obtain ⟨g_70, h⟩ := gd_s h
  obtain ⟨x_72, e_73, h⟩ := lx_s h
  refine go_iald (kd := 100) (by decide +kernel) rfl R f_67 f1 (fx_k (c := 100) R (by decide +kernel)) (fx_x (a := 102) (ln := 60) R (by decide +kernel) g_70) fun v_68 f_69 => ?_
  have f_71 := q_is_eq f_69 e_73
  refine go_iconst (n := 1) (z := 1) (by decide +kernel) (by decide) fun v_74 f_75 => ?_
  refine go_icmp (c := .ne) (o := 36) (t := 159) (P := ¬ (x_72 = 1)) (by decide +kernel) (by decide +kernel) f_71 f_75 (Iff.rfl) (fun hp_76 => ?_) (fun hp_76 => ?_)
  · have h := it_f hp_76 h
    refine go_iconst (n := 0) (z := 0) (by decide +kernel) (by decide) fun v_77 f_78 => ?_
    exact oj_X12_looksAtActivities_160 hd R l_61 f0 l_62 f1 l_64 f3 l_59 fs0 f_78 hc hQ h
  · have h := it_n hp_76 h
    refine go_aload_n (n := 0) (by decide +kernel) l_61 f0 ?_
    refine go_getf (x := 37) (ci := 13) (kf := 10) (fin := 1) (t := 2) (by decide +kernel) (by decide +kernel) (by decide +kernel) R f0 (fx_k (c := 13) R (by decide +kernel)) fun v_170 f_171 => ?_
    have f_172 := q_is_eq (b := 78) f_171 (fx_v R (by decide +kernel)).symm
    refine go_iload_n (n := 2) (by decide +kernel) l_63 f2 ?_
    obtain ⟨g_175, h⟩ := gd_s h
    obtain ⟨x_177, e_178, h⟩ := lx_s h
    refine go_iald (kd := 100) (by decide +kernel) rfl R f_172 f2 (fx_k (c := 100) R (by decide +kernel)) (fx_x (a := 78) (ln := 4) R (by decide +kernel) g_175) fun v_173 f_174 => ?_
    have f_176 := q_is_eq f_174 e_178
    refine go_if (c := .le) (o := 27) (t := 159) (P := ¬ (0 < x_177)) (by decide +kernel) (by decide +kernel) f_176 (Int.not_lt.symm) (fun hp_179 => ?_) (fun hp_179 => ?_)
    · have h := it_f hp_179 h
      refine go_iconst (n := 0) (z := 0) (by decide +kernel) (by decide) fun v_180 f_181 => ?_
      exact oj_X12_looksAtActivities_160 hd R l_61 f0 l_62 f1 l_64 f3 l_59 fs0 f_181 hc hQ h
    · have h := it_n hp_179 h
      refine go_aload_n (n := 0) (by decide +kernel) l_61 f0 ?_
      obtain ⟨x_185, e_186, h⟩ := lx_s h
      refine go_getf (x := 357) (ci := 13) (kf := 0) (fin := 0) (t := 0) (by decide +kernel) (by decide +kernel) (by decide +kernel) R f0 (fx_k (c := 13) R (by decide +kernel)) fun v_182 f_183 => ?_
      have f_184 := q_is_eq f_183 e_186
      refine go_aload_n (n := 0) (by decide +kernel) l_61 f0 ?_
      refine go_getf (x := 131) (ci := 13) (kf := 44) (fin := 1) (t := 2) (by decide +kernel) (by decide +kernel) (by decide +kernel) R f0 (fx_k (c := 13) R (by decide +kernel)) fun v_187 f_188 => ?_
      have f_189 := q_is_eq (b := 107) f_188 (fx_v R (by decide +kernel)).symm
      refine go_iload_n (n := 1) (by decide +kernel) l_62 f1 ?_
      obtain ⟨x_193, e_194, h⟩ := lx_s h
      refine go_iald (kd := 100) (by decide +kernel) rfl R f_189 f1 (fx_k (c := 100) R (by decide +kernel)) (fx_x (a := 107) (ln := 60) R (by decide +kernel) g_70) fun v_190 f_191 => ?_
      have f_192 := q_is_eq f_191 e_194
      refine go_isub (by decide +kernel) f_184 f_192 fun v_195 f_196 => ?_
      refine go_aload_n (n := 0) (by decide +kernel) l_61 f0 ?_
      refine go_getf (x := 37) (ci := 13) (kf := 10) (fin := 1) (t := 2) (by decide +kernel) (by decide +kernel) (by decide +kernel) R f0 (fx_k (c := 13) R (by decide +kernel)) fun v_197 f_198 => ?_
      have f_199 := q_is_eq (b := 78) f_198 (fx_v R (by decide +kernel)).symm
      refine go_iload_n (n := 2) (by decide +kernel) l_63 f2 ?_
      refine go_iald (kd := 100) (by decide +kernel) rfl R f_199 f2 (fx_k (c := 100) R (by decide +kernel)) (fx_x (a := 78) (ln := 4) R (by decide +kernel) g_175) fun v_200 f_201 => ?_
      have f_202 := q_is_eq f_201 e_178
      refine go_icmp (c := .lt) (o := 7) (t := 159) (P := w32 (x_185 - x_193) < x_177) (by decide +kernel) (by decide +kernel) f_196 f_202 (Iff.rfl) (fun hp_203 => ?_) (fun hp_203 => ?_)
      · have h := it_t hp_203 h
        refine go_iconst (n := 0) (z := 0) (by decide +kernel) (by decide) fun v_204 f_205 => ?_
        exact oj_X12_looksAtActivities_160 hd R l_61 f0 l_62 f1 l_64 f3 l_59 fs0 f_205 hc hQ h
      · have h := it_f hp_203 h
        refine go_iconst (n := 1) (z := 1) (by decide +kernel) (by decide) fun v_206 f_207 => ?_
        refine go_goto (o := 4) (t := 160) (by decide +kernel) (by decide +kernel) ?_
        exact oj_X12_looksAtActivities_160 hd R l_61 f0 l_62 f1 l_64 f3 l_59 fs0 f_207 hc hQ h
noncomputable def fj_X12_looksAtActivities_69 (c : Int → MM → Option (Int × MM)) (y1 y2 s0 : Int) (m : MM) : Option (Int × MM) := gd (0 ≤ y1 ∧ y1 < 60) <| lx (m 102 y1) fun x_51 =>
if x_51 = 1 then
gd (0 ≤ y2 ∧ y2 < 4) <| lx (m 77 y2) fun x_215 =>
if 0 < x_215 then
lx (m 68 0) fun x_223 =>
lx (m 106 y1) fun x_231 =>
if w32 (x_223 - x_231) < x_215 then
fj_X12_looksAtActivities_114 c y1 y2 s0 0 m
else
fj_X12_looksAtActivities_114 c y1 y2 s0 1 m
else
fj_X12_looksAtActivities_114 c y1 y2 s0 0 m
else
fj_X12_looksAtActivities_114 c y1 y2 s0 0 m
set_option maxHeartbeats 4000000 in
theorem oj_X12_looksAtActivities_69 {xs : List Int32} {d : Nat} {S : QS} {L : QL} {Q : QO → QS → Prop} {m : MM} {y1 y2 s0 : Int} {v0 : Value} {v1 : Value} {v2 : Value} {w0 : Value}  {rz : Int} {rm : MM} {c : Int → MM → Option (Int × MM)} 
  (hd : 4 ≤ d) (R : Rp S m) (l0 : q_lo L 0 = some v0) (f0 : q_is 2 v0 68) (l1 : q_lo L 1 = some v1) (f1 : q_is 0 v1 y1) (l2 : q_lo L 2 = some v2) (f2 : q_is 0 v2 y2) (fs0 : q_is 0 w0 s0)
  (hc : ∀ mq : MM, Ext m mq → ∀ {z1 : Int} {Sq : QS} {Lq : QL} {u0 : Value} {u1 : Value}, c z1 mq = some (rz, rm) → Rp Sq mq → q_lo Lq 0 = some u0 → q_is 2 u0 68 → q_lo Lq 1 = some u1 → q_is 0 u1 z1 → Go xs d qM_X12_looksAtActivities 2 Lq [] Sq Q)
  (hQ : Ext m rm → ∀ o S1, Rp S1 rm → q_out 9 o rz → Q o S1)
  (h : fj_X12_looksAtActivities_69 c y1 y2 s0 m = some (rz, rm)) : Go xs d qM_X12_looksAtActivities 69 L [w0] S Q := by
  unfold fj_X12_looksAtActivities_69 at h
  refine go_istore_n (n := 3) (by decide +kernel) (by decide +kernel) fs0 fun L_38 l_39 kp_40 => ?_
  have l_41 := kp_40 0 _ l0 (by decide) (Or.inl (by decide))
  have l_42 := kp_40 1 _ l1 (by decide) (Or.inl (by decide))
  have l_43 := kp_40 2 _ l2 (by decide) (Or.inr (q_is_cat f2 (Or.inl rfl)))
  refine go_aload_n (n := 0) (by decide +kernel) l_41 f0 ?_
  refine go_getf (x := 116) (ci := 13) (kf := 39) (fin := 1) (t := 2) (by decide +kernel) (by decide +kernel) (by decide +kernel) R f0 (fx_k (c := 13) R (by decide +kernel)) fun v_44 f_45 => ?_
  have f_46 := q_is_eq (b := 102) f_45 (fx_v R (by decide +kernel)).symm
  refine go_iload_n (n := 1) (by decide +kernel) l_42 f1 ?_
  obtain ⟨g_49, h⟩ := gd_s h
  obtain ⟨x_51, e_52, h⟩ := lx_s h
  refine go_iald (kd := 100) (by decide +kernel) rfl R f_46 f1 (fx_k (c := 100) R (by decide +kernel)) (fx_x (a := 102) (ln := 60) R (by decide +kernel) g_49) fun v_47 f_48 => ?_
  have f_50 := q_is_eq f_48 e_52
  refine go_iconst (n := 1) (z := 1) (by decide +kernel) (by decide) fun v_53 f_54 => ?_
  refine go_icmp (c := .ne) (o := 36) (t := 113) (P := ¬ (x_51 = 1)) (by decide +kernel) (by decide +kernel) f_50 f_54 (Iff.rfl) (fun hp_55 => ?_) (fun hp_55 => ?_)
  · have h := it_f hp_55 h
    refine go_iconst (n := 0) (z := 0) (by decide +kernel) (by decide) fun v_56 f_57 => ?_
    exact oj_X12_looksAtActivities_114 hd R l_41 f0 l_42 f1 l_43 f2 l_39 fs0 f_57 hc hQ h
  · have h := it_n hp_55 h
    refine go_aload_n (n := 0) (by decide +kernel) l_41 f0 ?_
    refine go_getf (x := 34) (ci := 13) (kf := 9) (fin := 1) (t := 2) (by decide +kernel) (by decide +kernel) (by decide +kernel) R f0 (fx_k (c := 13) R (by decide +kernel)) fun v_208 f_209 => ?_
    have f_210 := q_is_eq (b := 77) f_209 (fx_v R (by decide +kernel)).symm
    refine go_iload_n (n := 2) (by decide +kernel) l_43 f2 ?_
    obtain ⟨g_213, h⟩ := gd_s h
    obtain ⟨x_215, e_216, h⟩ := lx_s h
    refine go_iald (kd := 100) (by decide +kernel) rfl R f_210 f2 (fx_k (c := 100) R (by decide +kernel)) (fx_x (a := 77) (ln := 4) R (by decide +kernel) g_213) fun v_211 f_212 => ?_
    have f_214 := q_is_eq f_212 e_216
    refine go_if (c := .le) (o := 27) (t := 113) (P := ¬ (0 < x_215)) (by decide +kernel) (by decide +kernel) f_214 (Int.not_lt.symm) (fun hp_217 => ?_) (fun hp_217 => ?_)
    · have h := it_f hp_217 h
      refine go_iconst (n := 0) (z := 0) (by decide +kernel) (by decide) fun v_218 f_219 => ?_
      exact oj_X12_looksAtActivities_114 hd R l_41 f0 l_42 f1 l_43 f2 l_39 fs0 f_219 hc hQ h
    · have h := it_n hp_217 h
      refine go_aload_n (n := 0) (by decide +kernel) l_41 f0 ?_
      obtain ⟨x_223, e_224, h⟩ := lx_s h
      refine go_getf (x := 357) (ci := 13) (kf := 0) (fin := 0) (t := 0) (by decide +kernel) (by decide +kernel) (by decide +kernel) R f0 (fx_k (c := 13) R (by decide +kernel)) fun v_220 f_221 => ?_
      have f_222 := q_is_eq f_221 e_224
      refine go_aload_n (n := 0) (by decide +kernel) l_41 f0 ?_
      refine go_getf (x := 128) (ci := 13) (kf := 43) (fin := 1) (t := 2) (by decide +kernel) (by decide +kernel) (by decide +kernel) R f0 (fx_k (c := 13) R (by decide +kernel)) fun v_225 f_226 => ?_
      have f_227 := q_is_eq (b := 106) f_226 (fx_v R (by decide +kernel)).symm
      refine go_iload_n (n := 1) (by decide +kernel) l_42 f1 ?_
      obtain ⟨x_231, e_232, h⟩ := lx_s h
      refine go_iald (kd := 100) (by decide +kernel) rfl R f_227 f1 (fx_k (c := 100) R (by decide +kernel)) (fx_x (a := 106) (ln := 60) R (by decide +kernel) g_49) fun v_228 f_229 => ?_
      have f_230 := q_is_eq f_229 e_232
      refine go_isub (by decide +kernel) f_222 f_230 fun v_233 f_234 => ?_
      refine go_aload_n (n := 0) (by decide +kernel) l_41 f0 ?_
      refine go_getf (x := 34) (ci := 13) (kf := 9) (fin := 1) (t := 2) (by decide +kernel) (by decide +kernel) (by decide +kernel) R f0 (fx_k (c := 13) R (by decide +kernel)) fun v_235 f_236 => ?_
      have f_237 := q_is_eq (b := 77) f_236 (fx_v R (by decide +kernel)).symm
      refine go_iload_n (n := 2) (by decide +kernel) l_43 f2 ?_
      refine go_iald (kd := 100) (by decide +kernel) rfl R f_237 f2 (fx_k (c := 100) R (by decide +kernel)) (fx_x (a := 77) (ln := 4) R (by decide +kernel) g_213) fun v_238 f_239 => ?_
      have f_240 := q_is_eq f_239 e_216
      refine go_icmp (c := .lt) (o := 7) (t := 113) (P := w32 (x_223 - x_231) < x_215) (by decide +kernel) (by decide +kernel) f_234 f_240 (Iff.rfl) (fun hp_241 => ?_) (fun hp_241 => ?_)
      · have h := it_t hp_241 h
        refine go_iconst (n := 0) (z := 0) (by decide +kernel) (by decide) fun v_242 f_243 => ?_
        exact oj_X12_looksAtActivities_114 hd R l_41 f0 l_42 f1 l_43 f2 l_39 fs0 f_243 hc hQ h
      · have h := it_f hp_241 h
        refine go_iconst (n := 1) (z := 1) (by decide +kernel) (by decide) fun v_244 f_245 => ?_
        refine go_goto (o := 4) (t := 114) (by decide +kernel) (by decide +kernel) ?_
        exact oj_X12_looksAtActivities_114 hd R l_41 f0 l_42 f1 l_43 f2 l_39 fs0 f_245 hc hQ h
noncomputable def fl_X12_looksAtActivities_2 : Nat → Int → MM → Option (Int × MM)
  | 0, _, _ => none
  | n + 1, y1, m => lx (m 68 34) fun x_10 =>
if y1 < x_10 then
gd (0 ≤ y1 ∧ y1 < 60) <| lx (m 100 y1) fun x_20 =>
lx (m 102 y1) fun x_33 =>
if x_33 = 0 then
lx (m 103 y1) fun x_252 =>
if x_252 = 0 then
gd (0 ≤ x_20 ∧ x_20 < 4) <| lx (m 76 x_20) fun x_264 =>
if 0 < x_264 then
lx (m 68 0) fun x_272 =>
lx (m 104 y1) fun x_280 =>
if w32 (x_272 - x_280) < x_264 then
fj_X12_looksAtActivities_69 (fl_X12_looksAtActivities_2 n) y1 x_20 0 m
else
fj_X12_looksAtActivities_69 (fl_X12_looksAtActivities_2 n) y1 x_20 1 m
else
fj_X12_looksAtActivities_69 (fl_X12_looksAtActivities_2 n) y1 x_20 0 m
else
fj_X12_looksAtActivities_69 (fl_X12_looksAtActivities_2 n) y1 x_20 0 m
else
fj_X12_looksAtActivities_69 (fl_X12_looksAtActivities_2 n) y1 x_20 0 m
else
some (0, m)
set_option maxHeartbeats 4000000 in
theorem ol_X12_looksAtActivities_2 {xs : List Int32} {d : Nat} {Q : QO → QS → Prop} {mb : MM} {rz : Int} {rm : MM}
  (hd : 4 ≤ d)
  (hQ : Ext mb rm → ∀ o S1, Rp S1 rm → q_out 9 o rz → Q o S1) :
  ∀ (n : Nat) {m : MM} {S : QS} {L : QL} {y1 : Int} {v0 : Value} {v1 : Value} , Ext mb m → fl_X12_looksAtActivities_2 n y1 m = some (rz, rm) → Rp S m → q_lo L 0 = some v0 → q_is 2 v0 68 → q_lo L 1 = some v1 → q_is 0 v1 y1 → Go xs d qM_X12_looksAtActivities 2 L [] S Q := by
  intro n
  induction n with
  | zero => intro m S L y1 v0 v1; intro E h R l0 f0 l1 f1; cases h
  | succ n ih0 =>
    intro m S L y1 v0 v1; intro E h R l0 f0 l1 f1
    have ih : ∀ mq : MM, Ext mb mq → ∀ {z1 : Int} {Sq : QS} {Lq : QL} {u0 : Value} {u1 : Value}, fl_X12_looksAtActivities_2 n z1 mq = some (rz, rm) → Rp Sq mq → q_lo Lq 0 = some u0 → q_is 2 u0 68 → q_lo Lq 1 = some u1 → q_is 0 u1 z1 → Go xs d qM_X12_looksAtActivities 2 Lq [] Sq Q := fun mq b => by intros; exact ih0 b ‹_› ‹_› ‹_› ‹_› ‹_› ‹_›
    unfold fl_X12_looksAtActivities_2 at h
    refine go_iload_n (n := 1) (by decide +kernel) l1 f1 ?_
    refine go_aload_n (n := 0) (by decide +kernel) l0 f0 ?_
    obtain ⟨x_10, e_11, h⟩ := lx_s h
    refine go_getf (x := 549) (ci := 13) (kf := 34) (fin := 0) (t := 0) (by decide +kernel) (by decide +kernel) (by decide +kernel) R f0 (fx_k (c := 13) R (by decide +kernel)) fun v_7 f_8 => ?_
    have f_9 := q_is_eq f_8 e_11
    refine go_icmp (c := .ge) (o := 210) (t := 217) (P := ¬ (y1 < x_10)) (by decide +kernel) (by decide +kernel) f1 f_9 (Int.not_lt.symm) (fun hp_12 => ?_) (fun hp_12 => ?_)
    · have h := it_f hp_12 h
      cases h
      exact go_vret (by decide +kernel) rfl (hQ E _ _ R q_out_n)
    · have h := it_n hp_12 h
      refine go_aload_n (n := 0) (by decide +kernel) l0 f0 ?_
      refine go_getf (x := 110) (ci := 13) (kf := 37) (fin := 1) (t := 2) (by decide +kernel) (by decide +kernel) (by decide +kernel) R f0 (fx_k (c := 13) R (by decide +kernel)) fun v_13 f_14 => ?_
      have f_15 := q_is_eq (b := 100) f_14 (fx_v R (by decide +kernel)).symm
      refine go_iload_n (n := 1) (by decide +kernel) l1 f1 ?_
      obtain ⟨g_18, h⟩ := gd_s h
      obtain ⟨x_20, e_21, h⟩ := lx_s h
      refine go_iald (kd := 100) (by decide +kernel) rfl R f_15 f1 (fx_k (c := 100) R (by decide +kernel)) (fx_x (a := 100) (ln := 60) R (by decide +kernel) g_18) fun v_16 f_17 => ?_
      have f_19 := q_is_eq f_17 e_21
      refine go_istore_n (n := 2) (by decide +kernel) (by decide +kernel) f_19 fun L_22 l_23 kp_24 => ?_
      have l_25 := kp_24 0 _ l0 (by decide) (Or.inl (by decide))
      have l_26 := kp_24 1 _ l1 (by decide) (Or.inr (q_is_cat f1 (Or.inl rfl)))
      refine go_aload_n (n := 0) (by decide +kernel) l_25 f0 ?_
      refine go_getf (x := 116) (ci := 13) (kf := 39) (fin := 1) (t := 2) (by decide +kernel) (by decide +kernel) (by decide +kernel) R f0 (fx_k (c := 13) R (by decide +kernel)) fun v_27 f_28 => ?_
      have f_29 := q_is_eq (b := 102) f_28 (fx_v R (by decide +kernel)).symm
      refine go_iload_n (n := 1) (by decide +kernel) l_26 f1 ?_
      obtain ⟨x_33, e_34, h⟩ := lx_s h
      refine go_iald (kd := 100) (by decide +kernel) rfl R f_29 f1 (fx_k (c := 100) R (by decide +kernel)) (fx_x (a := 102) (ln := 60) R (by decide +kernel) g_18) fun v_30 f_31 => ?_
      have f_32 := q_is_eq f_31 e_34
      refine go_if (c := .ne) (o := 45) (t := 68) (P := ¬ (x_33 = 0)) (by decide +kernel) (by decide +kernel) f_32 (Iff.rfl) (fun hp_35 => ?_) (fun hp_35 => ?_)
      · have h := it_f hp_35 h
        refine go_iconst (n := 0) (z := 0) (by decide +kernel) (by decide) fun v_36 f_37 => ?_
        exact oj_X12_looksAtActivities_69 hd R l_25 f0 l_26 f1 l_23 f_19 f_37 (fun mq b => ih mq (Ext.tr E b)) (fun b => hQ (Ext.tr E b)) h
      · have h := it_n hp_35 h
        refine go_aload_n (n := 0) (by decide +kernel) l_25 f0 ?_
        refine go_getf (x := 119) (ci := 13) (kf := 40) (fin := 1) (t := 2) (by decide +kernel) (by decide +kernel) (by decide +kernel) R f0 (fx_k (c := 13) R (by decide +kernel)) fun v_246 f_247 => ?_
        have f_248 := q_is_eq (b := 103) f_247 (fx_v R (by decide +kernel)).symm
        refine go_iload_n (n := 1) (by decide +kernel) l_26 f1 ?_
        obtain ⟨x_252, e_253, h⟩ := lx_s h
        refine go_iald (kd := 100) (by decide +kernel) rfl R f_248 f1 (fx_k (c := 100) R (by decide +kernel)) (fx_x (a := 103) (ln := 60) R (by decide +kernel) g_18) fun v_249 f_250 => ?_
        have f_251 := q_is_eq f_250 e_253
        refine go_if (c := .ne) (o := 36) (t := 68) (P := ¬ (x_252 = 0)) (by decide +kernel) (by decide +kernel) f_251 (Iff.rfl) (fun hp_254 => ?_) (fun hp_254 => ?_)
        · have h := it_f hp_254 h
          refine go_iconst (n := 0) (z := 0) (by decide +kernel) (by decide) fun v_255 f_256 => ?_
          exact oj_X12_looksAtActivities_69 hd R l_25 f0 l_26 f1 l_23 f_19 f_256 (fun mq b => ih mq (Ext.tr E b)) (fun b => hQ (Ext.tr E b)) h
        · have h := it_n hp_254 h
          refine go_aload_n (n := 0) (by decide +kernel) l_25 f0 ?_
          refine go_getf (x := 31) (ci := 13) (kf := 8) (fin := 1) (t := 2) (by decide +kernel) (by decide +kernel) (by decide +kernel) R f0 (fx_k (c := 13) R (by decide +kernel)) fun v_257 f_258 => ?_
          have f_259 := q_is_eq (b := 76) f_258 (fx_v R (by decide +kernel)).symm
          refine go_iload_n (n := 2) (by decide +kernel) l_23 f_19 ?_
          obtain ⟨g_262, h⟩ := gd_s h
          obtain ⟨x_264, e_265, h⟩ := lx_s h
          refine go_iald (kd := 100) (by decide +kernel) rfl R f_259 f_19 (fx_k (c := 100) R (by decide +kernel)) (fx_x (a := 76) (ln := 4) R (by decide +kernel) g_262) fun v_260 f_261 => ?_
          have f_263 := q_is_eq f_261 e_265
          refine go_if (c := .le) (o := 27) (t := 68) (P := ¬ (0 < x_264)) (by decide +kernel) (by decide +kernel) f_263 (Int.not_lt.symm) (fun hp_266 => ?_) (fun hp_266 => ?_)
          · have h := it_f hp_266 h
            refine go_iconst (n := 0) (z := 0) (by decide +kernel) (by decide) fun v_267 f_268 => ?_
            exact oj_X12_looksAtActivities_69 hd R l_25 f0 l_26 f1 l_23 f_19 f_268 (fun mq b => ih mq (Ext.tr E b)) (fun b => hQ (Ext.tr E b)) h
          · have h := it_n hp_266 h
            refine go_aload_n (n := 0) (by decide +kernel) l_25 f0 ?_
            obtain ⟨x_272, e_273, h⟩ := lx_s h
            refine go_getf (x := 357) (ci := 13) (kf := 0) (fin := 0) (t := 0) (by decide +kernel) (by decide +kernel) (by decide +kernel) R f0 (fx_k (c := 13) R (by decide +kernel)) fun v_269 f_270 => ?_
            have f_271 := q_is_eq f_270 e_273
            refine go_aload_n (n := 0) (by decide +kernel) l_25 f0 ?_
            refine go_getf (x := 122) (ci := 13) (kf := 41) (fin := 1) (t := 2) (by decide +kernel) (by decide +kernel) (by decide +kernel) R f0 (fx_k (c := 13) R (by decide +kernel)) fun v_274 f_275 => ?_
            have f_276 := q_is_eq (b := 104) f_275 (fx_v R (by decide +kernel)).symm
            refine go_iload_n (n := 1) (by decide +kernel) l_26 f1 ?_
            obtain ⟨x_280, e_281, h⟩ := lx_s h
            refine go_iald (kd := 100) (by decide +kernel) rfl R f_276 f1 (fx_k (c := 100) R (by decide +kernel)) (fx_x (a := 104) (ln := 60) R (by decide +kernel) g_18) fun v_277 f_278 => ?_
            have f_279 := q_is_eq f_278 e_281
            refine go_isub (by decide +kernel) f_271 f_279 fun v_282 f_283 => ?_
            refine go_aload_n (n := 0) (by decide +kernel) l_25 f0 ?_
            refine go_getf (x := 31) (ci := 13) (kf := 8) (fin := 1) (t := 2) (by decide +kernel) (by decide +kernel) (by decide +kernel) R f0 (fx_k (c := 13) R (by decide +kernel)) fun v_284 f_285 => ?_
            have f_286 := q_is_eq (b := 76) f_285 (fx_v R (by decide +kernel)).symm
            refine go_iload_n (n := 2) (by decide +kernel) l_23 f_19 ?_
            refine go_iald (kd := 100) (by decide +kernel) rfl R f_286 f_19 (fx_k (c := 100) R (by decide +kernel)) (fx_x (a := 76) (ln := 4) R (by decide +kernel) g_262) fun v_287 f_288 => ?_
            have f_289 := q_is_eq f_288 e_265
            refine go_icmp (c := .lt) (o := 7) (t := 68) (P := w32 (x_272 - x_280) < x_264) (by decide +kernel) (by decide +kernel) f_283 f_289 (Iff.rfl) (fun hp_290 => ?_) (fun hp_290 => ?_)
            · have h := it_t hp_290 h
              refine go_iconst (n := 0) (z := 0) (by decide +kernel) (by decide) fun v_291 f_292 => ?_
              exact oj_X12_looksAtActivities_69 hd R l_25 f0 l_26 f1 l_23 f_19 f_292 (fun mq b => ih mq (Ext.tr E b)) (fun b => hQ (Ext.tr E b)) h
            · have h := it_f hp_290 h
              refine go_iconst (n := 1) (z := 1) (by decide +kernel) (by decide) fun v_293 f_294 => ?_
              refine go_goto (o := 4) (t := 69) (by decide +kernel) (by decide +kernel) ?_
              exact oj_X12_looksAtActivities_69 hd R l_25 f0 l_26 f1 l_23 f_19 f_294 (fun mq b => ih mq (Ext.tr E b)) (fun b => hQ (Ext.tr E b)) h
noncomputable def fm_X12_looksAtActivities (m0 : MM) : Option (Int × MM) := fl_X12_looksAtActivities_2   BIG 0 m0
set_option maxHeartbeats 4000000 in
theorem om_X12_looksAtActivities {xs : List Int32} {d : Nat} {S : QS} {m0 : MM} {v0 : Value} {rz : Int} {rm : MM}
  (hd : 5 ≤ d) (R : Rp S m0) (f0 : q_is 2 v0 68)
  (h : fm_X12_looksAtActivities m0 = some (rz, rm)) : Mt xs d 292 [v0] S (Cr 9 m0 rm rz) := by
  obtain ⟨d, rfl⟩ : ∃ e, d = e + 1 := ⟨d - 1, by omega⟩
  have hd : 4 ≤ d := Nat.le_of_succ_le_succ hd
  refine Mt.of (M := qM_X12_looksAtActivities) rfl (by rw [sl_1 (q_is_cat f0 (Or.inr rfl)), sl_0]; decide) ?_
  rw [la_1 (q_is_cat f0 (Or.inr rfl)), la_0]
  obtain ⟨L, hL⟩ : ∃ L : QL, L = [(0, v0)] := ⟨_, rfl⟩
  rw [← hL]
  have l0 : q_lo L 0 = some v0 := by rw [hL]; rfl
  have hQ : Ext m0 rm → ∀ o S1, Rp S1 rm → q_out 9 o rz → (Cr 9 m0 rm rz) o S1 := fun a o S1 b e => ⟨b, a, e⟩
  unfold fm_X12_looksAtActivities at h
  refine go_iconst (n := 0) (z := 0) (by decide +kernel) (by decide) fun v_1 f_2 => ?_
  refine go_istore_n (n := 1) (by decide +kernel) (by decide +kernel) f_2 fun L_3 l_4 kp_5 => ?_
  have l_6 := kp_5 0 _ l0 (by decide) (Or.inr (q_is_cat f0 (Or.inr rfl)))
  refine ol_X12_looksAtActivities_2 hd   hQ BIG (Ext.rf _) h R l_6 f0 l_4 f_2
end DF42
