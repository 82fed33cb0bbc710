/-! Methods as functions (written by wip/whole/dec.py), 42: X12_activity, X12_fires, X12_looksAtActivities. -/
section DF42
noncomputable def fj_X12_activity_14 (y1 s0 : Int) (m : MM) : Option (Int × MM) := bd (fm_X12_fails s0 m) fun x_14 m_15 =>
if x_14 = 0 then
gd (0 ≤ y1 ∧ y1 < 60) <| lx (m_15 98 y1) fun x_35 =>
lx (m_15 103 y1) fun x_47 =>
lx (m_15 102 y1) fun x_59 =>
some (w32 ((w32 ((w32 (100 * x_35)) + (w32 (10 * x_47)))) + x_59), m_15)
else
some (0, m_15)
set_option maxHeartbeats 4000000 in
theorem oj_X12_activity_14 {xs : List Int32} {d : Nat} {S : QS} {L : QL} {Q : QO → QS → Prop} {m : MM} {y1 s0 : Int} {v0 : Value} {v1 : Value} {w0 : Value} {w1 : Value}  {rz : Int} {rm : MM}
  (hd : 2 ≤ d) (R : Rp S m) (l0 : q_lo L 0 = some v0) (f0 : q_is 2 v0 68) (l1 : q_lo L 1 = some v1) (f1 : q_is 0 v1 y1) (fs0 : q_is 0 w0 s0) (fs1 : q_is 2 w1 68)
  (hQ : Ext m rm → ∀ o S1, Rp S1 rm → q_out 0 o rz → Q o S1)
  (h : fj_X12_activity_14 y1 s0 m = some (rz, rm)) : Go xs d qM_X12_activity 14 L [w0, w1] S Q := by
  unfold fj_X12_activity_14 at h
  obtain ⟨x_14, m_15, hc_13, h⟩ := bd_s h
  refine go_callV (x := 324) (mi := 186) (n := 1) (ci := 13) (as := [w0]) (rest := []) (by decide +kernel) (by decide +kernel) rfl rfl (q_sum8 _ (Nat.le_of_ble_eq_true rfl)) R fs1 (fx_k (c := 13) R (by decide +kernel)) (om_X12_fails (Nat.le_trans (by decide) hd) R fs1 fs0 hc_13) (fun _ S_18 q_21 => ?_) (fun _ _ qq => kr_x qq)
  refine kr_z (by decide) q_21 fun v_16 f_17 R_19 E_20 => ?_
  have E_24 := E_20
  refine go_if (c := .eq) (o := 7) (t := 24) (P := x_14 = 0) (by decide +kernel) (by decide +kernel) f_17 (Iff.rfl) (fun hp_25 => ?_) (fun hp_25 => ?_)
  · have h := it_t hp_25 h
    refine go_bipush (n := 100) (z := 100) (by decide +kernel) (by decide) fun v_26 f_27 => ?_
    refine go_aload_n (n := 0) (by decide +kernel) l0 f0 ?_
    refine go_getf (x := 104) (ci := 13) (kf := 35) (fin := 1) (t := 2) (by decide +kernel) (by decide +kernel) (by decide +kernel) R_19 f0 (fx_k (c := 13) R_19 (by decide +kernel)) fun v_28 f_29 => ?_
    have f_30 := q_is_eq (b := 98) f_29 (fx_v R_19 (by decide +kernel)).symm
    refine go_iload_n (n := 1) (by decide +kernel) l1 f1 ?_
    obtain ⟨g_33, h⟩ := gd_s h
    obtain ⟨x_35, e_36, h⟩ := lx_s h
    refine go_iald (kd := 100) (by decide +kernel) rfl R_19 f_30 f1 (fx_k (c := 100) R_19 (by decide +kernel)) (fx_x (a := 98) (ln := 60) R_19 (by decide +kernel) g_33) fun v_31 f_32 => ?_
    have f_34 := q_is_eq f_32 e_36
    refine go_imul (by decide +kernel) f_27 f_34 fun v_37 f_38 => ?_
    refine go_bipush (n := 10) (z := 10) (by decide +kernel) (by decide) fun v_39 f_40 => ?_
    refine go_aload_n (n := 0) (by decide +kernel) l0 f0 ?_
    refine go_getf (x := 119) (ci := 13) (kf := 40) (fin := 1) (t := 2) (by decide +kernel) (by decide +kernel) (by decide +kernel) R_19 f0 (fx_k (c := 13) R_19 (by decide +kernel)) fun v_41 f_42 => ?_
    have f_43 := q_is_eq (b := 103) f_42 (fx_v R_19 (by decide +kernel)).symm
    refine go_iload_n (n := 1) (by decide +kernel) l1 f1 ?_
    obtain ⟨x_47, e_48, h⟩ := lx_s h
    refine go_iald (kd := 100) (by decide +kernel) rfl R_19 f_43 f1 (fx_k (c := 100) R_19 (by decide +kernel)) (fx_x (a := 103) (ln := 60) R_19 (by decide +kernel) g_33) fun v_44 f_45 => ?_
    have f_46 := q_is_eq f_45 e_48
    refine go_imul (by decide +kernel) f_40 f_46 fun v_49 f_50 => ?_
    refine go_iadd (by decide +kernel) f_38 f_50 fun v_51 f_52 => ?_
    refine go_aload_n (n := 0) (by decide +kernel) l0 f0 ?_
    refine go_getf (x := 116) (ci := 13) (kf := 39) (fin := 1) (t := 2) (by decide +kernel) (by decide +kernel) (by decide +kernel) R_19 f0 (fx_k (c := 13) R_19 (by decide +kernel)) fun v_53 f_54 => ?_
    have f_55 := q_is_eq (b := 102) f_54 (fx_v R_19 (by decide +kernel)).symm
    refine go_iload_n (n := 1) (by decide +kernel) l1 f1 ?_
    obtain ⟨x_59, e_60, h⟩ := lx_s h
    refine go_iald (kd := 100) (by decide +kernel) rfl R_19 f_55 f1 (fx_k (c := 100) R_19 (by decide +kernel)) (fx_x (a := 102) (ln := 60) R_19 (by decide +kernel) g_33) fun v_56 f_57 => ?_
    have f_58 := q_is_eq f_57 e_60
    refine go_iadd (by decide +kernel) f_52 f_58 fun v_61 f_62 => ?_
    cases h
    exact go_iret (by decide +kernel) rfl (Or.inl rfl) f_62 (hQ E_24 _ _ R_19 (q_out_v (by decide) f_62))
  · have h := it_f hp_25 h
    refine go_iconst (n := 0) (z := 0) (by decide +kernel) (by decide) fun v_63 f_64 => ?_
    refine go_goto (o := 29) (t := 50) (by decide +kernel) (by decide +kernel) ?_
    cases h
    exact go_iret (by decide +kernel) rfl (Or.inl rfl) f_64 (hQ E_24 _ _ R_19 (q_out_v (by decide) f_64))
noncomputable def fm_X12_activity (p1 : Int) (m0 : MM) : Option (Int × MM) := bp (fm_X12_isActivity p1 m0) fun x_2 =>
if x_2 = 0 then
fj_X12_activity_14 p1 1 m0
else
fj_X12_activity_14 p1 0 m0
set_option maxHeartbeats 4000000 in
theorem om_X12_activity {xs : List Int32} {d : Nat} {S : QS} {m0 : MM} {p1 : Int} {v0 : Value} {v1 : Value} {rz : Int} {rm : MM}
  (hd : 3 ≤ d) (R : Rp S m0) (f0 : q_is 2 v0 68) (f1 : q_is 0 v1 p1)
  (h : fm_X12_activity p1 m0 = some (rz, rm)) : Mt xs d 290 [v0, v1] S (Cr 0 m0 rm rz) := by
  obtain ⟨d, rfl⟩ : ∃ e, d = e + 1 := ⟨d - 1, by omega⟩
  have hd : 2 ≤ d := Nat.le_of_succ_le_succ hd
  refine Mt.of (M := qM_X12_activity) rfl (by rw [sl_1 (q_is_cat f0 (Or.inr rfl)), sl_1 (q_is_cat f1 (Or.inl rfl)), sl_0]; decide) ?_
  rw [la_1 (q_is_cat f0 (Or.inr rfl)), la_1 (q_is_cat f1 (Or.inl rfl)), la_0]
  obtain ⟨L, hL⟩ : ∃ L : QL, L = [(0, v0), (0 + 1, v1)] := ⟨_, rfl⟩
  rw [← hL]
  have l0 : q_lo L 0 = some v0 := by rw [hL]; rfl
  have l1 : q_lo L 1 = some v1 := by rw [hL]; rfl
  have hQ : Ext m0 rm → ∀ o S1, Rp S1 rm → q_out 0 o rz → (Cr 0 m0 rm rz) o S1 := fun a o S1 b e => ⟨b, a, e⟩
  unfold fm_X12_activity at h
  refine go_aload_n (n := 0) (by decide +kernel) l0 f0 ?_
  refine go_aload_n (n := 0) (by decide +kernel) l0 f0 ?_
  refine go_iload_n (n := 1) (by decide +kernel) l1 f1 ?_
  obtain ⟨x_2, hc_1, h⟩ := bp_s h
  refine go_callV (x := 642) (mi := 285) (n := 1) (ci := 13) (as := [v1]) (rest := [v0]) (by decide +kernel) (by decide +kernel) rfl rfl (q_sum8 _ (Nat.le_of_ble_eq_true rfl)) R f0 (fx_k (c := 13) R (by decide +kernel)) (om_X12_isActivity (Nat.le_trans (by decide) hd) R f0 f1 hc_1) (fun _ S_6 q_9 => ?_) (fun _ _ qq => kr_x qq)
  refine kr_z (by decide) q_9 fun v_4 f_5 R_7 E_8 => ?_
  refine go_if (c := .eq) (o := 7) (t := 13) (P := x_2 = 0) (by decide +kernel) (by decide +kernel) f_5 (Iff.rfl) (fun hp_10 => ?_) (fun hp_10 => ?_)
  · have h := it_t hp_10 h
    refine go_iconst (n := 1) (z := 1) (by decide +kernel) (by decide) fun v_11 f_12 => ?_
    exact oj_X12_activity_14 hd R_7 l0 f0 l1 f1 f_12 f0 hQ h
  · have h := it_f hp_10 h
    refine go_iconst (n := 0) (z := 0) (by decide +kernel) (by decide) fun v_65 f_66 => ?_
    refine go_goto (o := 4) (t := 14) (by decide +kernel) (by decide +kernel) ?_
    exact oj_X12_activity_14 hd R_7 l0 f0 l1 f1 f_66 f0 hQ h
noncomputable def fj_X12_fires_73 (c : Int → Int → Option (Int × MM)) (k105 : Int → Option (Int × MM)) (y2 y3 s0 : Int) (m : MM) : Option (Int × MM) := gd (0 ≤ y3 ∧ y3 < 512) <| lx (m 111 y3) fun x_45 =>
lx (m 68 0) fun x_50 =>
if x_50 < x_45 then
lx (w32 (y3 + 1)) fun x_63 =>
c y2 x_63
else
if s0 = 0 then
lx (w32 (y3 + 1)) fun x_79 =>
c y2 x_79
else
lx (w32 (y3 + 1)) fun x_94 =>
c y3 x_94
set_option maxHeartbeats 4000000 in
theorem oj_X12_fires_73 {xs : List Int32} {d : Nat} {S : QS} {L : QL} {Q : QO → QS → Prop} {m : MM} {y2 y3 s0 : Int} {v0 : Value} {v2 : Value} {v3 : Value} {w0 : Value}  {rz : Int} {rm : MM} {c : Int → Int → Option (Int × MM)} {k105 : Int → Option (Int × MM)} 
  (hd : 3 ≤ d) (R : Rp S m) (l0 : q_lo L 0 = some v0) (f0 : q_is 2 v0 68) (l2 : q_lo L 2 = some v2) (f2 : q_is 0 v2 y2) (l3 : q_lo L 3 = some v3) (f3 : q_is 0 v3 y3) (fs0 : q_is 0 w0 s0)
  (hc : ∀ {z2 : Int} {z3 : Int} {Sq : QS} {Lq : QL} {u0 : Value} {u2 : Value} {u3 : Value}, c z2 z3 = some (rz, rm) → Rp Sq m → q_lo Lq 0 = some u0 → q_is 2 u0 68 → q_lo Lq 2 = some u2 → q_is 0 u2 z2 → q_lo Lq 3 = some u3 → q_is 0 u3 z3 → Go xs d qM_X12_fires 10 Lq [] Sq Q)
  (hk105 : ∀ {z2 : Int} {Sq : QS} {Lq : QL} {u0 : Value} {u2 : Value}, k105 z2 = some (rz, rm) → Rp Sq m → q_lo Lq 0 = some u0 → q_is 2 u0 68 → q_lo Lq 2 = some u2 → q_is 0 u2 z2 → Go xs d qM_X12_fires 105 Lq [] Sq Q)
  (hQ : Ext m rm → ∀ o S1, Rp S1 rm → q_out 9 o rz → Q o S1)
  (h : fj_X12_fires_73 c k105 y2 y3 s0 m = some (rz, rm)) : Go xs d qM_X12_fires 73 L [w0] S Q := by
  unfold fj_X12_fires_73 at h
  refine go_istore (n := 4) (by decide +kernel) (by decide +kernel) fs0 fun L_32 l_33 kp_34 => ?_
  have l_35 := kp_34 0 _ l0 (by decide) (Or.inl (by decide))
  have l_36 := kp_34 2 _ l2 (by decide) (Or.inl (by decide))
  have l_37 := kp_34 3 _ l3 (by decide) (Or.inr (q_is_cat f3 (Or.inl rfl)))
  refine go_aload_n (n := 0) (by decide +kernel) l_35 f0 ?_
  refine go_getf (x := 143) (ci := 13) (kf := 49) (fin := 1) (t := 2) (by decide +kernel) (by decide +kernel) (by decide +kernel) R f0 (fx_k (c := 13) R (by decide +kernel)) fun v_38 f_39 => ?_
  have f_40 := q_is_eq (b := 111) f_39 (fx_v R (by decide +kernel)).symm
  refine go_iload_n (n := 3) (by decide +kernel) l_37 f3 ?_
  obtain ⟨g_43, h⟩ := gd_s h
  obtain ⟨x_45, e_46, h⟩ := lx_s h
  refine go_iald (kd := 100) (by decide +kernel) rfl R f_40 f3 (fx_k (c := 100) R (by decide +kernel)) (fx_x (a := 111) (ln := 512) R (by decide +kernel) g_43) fun v_41 f_42 => ?_
  have f_44 := q_is_eq f_42 e_46
  refine go_aload_n (n := 0) (by decide +kernel) l_35 f0 ?_
  obtain ⟨x_50, e_51, h⟩ := lx_s h
  refine go_getf (x := 357) (ci := 13) (kf := 0) (fin := 0) (t := 0) (by decide +kernel) (by decide +kernel) (by decide +kernel) R f0 (fx_k (c := 13) R (by decide +kernel)) fun v_47 f_48 => ?_
  have f_49 := q_is_eq f_48 e_51
  refine go_icmp (c := .gt) (o := 12) (t := 97) (P := x_50 < x_45) (by decide +kernel) (by decide +kernel) f_44 f_49 (Iff.rfl) (fun hp_52 => ?_) (fun hp_52 => ?_)
  · have h := it_t hp_52 h
    refine go_iload_n (n := 2) (by decide +kernel) l_36 f2 ?_
    refine go_istore_n (n := 2) (by decide +kernel) (by decide +kernel) f2 fun L_53 l_54 kp_55 => ?_
    have l_56 := kp_55 0 _ l_35 (by decide) (Or.inl (by decide))
    have l_57 := kp_55 3 _ l_37 (by decide) (Or.inl (by decide))
    refine go_iinc (n := 3) (c := 1) (c' := 1) (by decide +kernel) (by decide +kernel) l_57 f3 (by decide) fun L_58 v_59 f_60 l_61 kp_62 => ?_
    obtain ⟨x_63, e_64, h⟩ := lx_s h
    have f_65 := q_is_eq f_60 e_64
    have l_66 := kp_62 0 _ l_56 (by decide) (Or.inl (by decide))
    have l_67 := kp_62 2 _ l_54 (by decide) (Or.inr (q_is_cat f2 (Or.inl rfl)))
    refine go_goto (o := (-92)) (t := 10) (by decide +kernel) (by decide +kernel) ?_
    exact hc h R l_66 f0 l_67 f2 l_61 f_65
  · have h := it_f hp_52 h
    refine go_iload (n := 4) (by decide +kernel) l_33 fs0 ?_
    refine go_if (c := .eq) (o := 7) (t := 97) (P := s0 = 0) (by decide +kernel) (by decide +kernel) fs0 (Iff.rfl) (fun hp_68 => ?_) (fun hp_68 => ?_)
    · have h := it_t hp_68 h
      refine go_iload_n (n := 2) (by decide +kernel) l_36 f2 ?_
      refine go_istore_n (n := 2) (by decide +kernel) (by decide +kernel) f2 fun L_69 l_70 kp_71 => ?_
      have l_72 := kp_71 0 _ l_35 (by decide) (Or.inl (by decide))
      have l_73 := kp_71 3 _ l_37 (by decide) (Or.inl (by decide))
      refine go_iinc (n := 3) (c := 1) (c' := 1) (by decide +kernel) (by decide +kernel) l_73 f3 (by decide) fun L_74 v_75 f_76 l_77 kp_78 => ?_
      obtain ⟨x_79, e_80, h⟩ := lx_s h
      have f_81 := q_is_eq f_76 e_80
      have l_82 := kp_78 0 _ l_72 (by decide) (Or.inl (by decide))
      have l_83 := kp_78 2 _ l_70 (by decide) (Or.inr (q_is_cat f2 (Or.inl rfl)))
      refine go_goto (o := (-92)) (t := 10) (by decide +kernel) (by decide +kernel) ?_
      exact hc h R l_82 f0 l_83 f2 l_77 f_81
    · have h := it_f hp_68 h
      refine go_iload_n (n := 3) (by decide +kernel) l_37 f3 ?_
      refine go_goto (o := 4) (t := 98) (by decide +kernel) (by decide +kernel) ?_
      refine go_istore_n (n := 2) (by decide +kernel) (by decide +kernel) f3 fun L_84 l_85 kp_86 => ?_
      have l_87 := kp_86 0 _ l_35 (by decide) (Or.inl (by decide))
      have l_88 := kp_86 3 _ l_37 (by decide) (Or.inl (by decide))
      refine go_iinc (n := 3) (c := 1) (c' := 1) (by decide +kernel) (by decide +kernel) l_88 f3 (by decide) fun L_89 v_90 f_91 l_92 kp_93 => ?_
      obtain ⟨x_94, e_95, h⟩ := lx_s h
      have f_96 := q_is_eq f_91 e_95
      have l_97 := kp_93 0 _ l_87 (by decide) (Or.inl (by decide))
      have l_98 := kp_93 2 _ l_85 (by decide) (Or.inr (q_is_cat f3 (Or.inl rfl)))
      refine go_goto (o := (-92)) (t := 10) (by decide +kernel) (by decide +kernel) ?_
      exact hc h R l_97 f0 l_98 f3 l_92 f_96
noncomputable def fl_X12_fires_10 (m : MM) (k105 : Int → Option (Int × MM)) : Nat → Int → Int → Option (Int × MM)
  | 0, _, _ => none
  | n + 1, y2, y3 => lx (m 68 46) fun x_24 =>
if y3 < x_24 then
if y2 = (-1) then
fj_X12_fires_73 (fl_X12_fires_10 m k105 n) k105 y2 y3 1 m
else
gd (0 ≤ y3 ∧ y3 < 512) <| lx (m 109 y3) fun x_106 =>
gd (0 ≤ y2 ∧ y2 < 512) <| lx (m 109 y2) fun x_115 =>
if x_106 < x_115 then
fj_X12_fires_73 (fl_X12_fires_10 m k105 n) k105 y2 y3 1 m
else
if x_106 = x_115 then
lx (m 110 y3) fun x_141 =>
lx (m 110 y2) fun x_149 =>
if x_141 < x_149 then
fj_X12_fires_73 (fl_X12_fires_10 m k105 n) k105 y2 y3 1 m
else
fj_X12_fires_73 (fl_X12_fires_10 m k105 n) k105 y2 y3 0 m
else
fj_X12_fires_73 (fl_X12_fires_10 m k105 n) k105 y2 y3 0 m
else
k105 y2
set_option maxHeartbeats 4000000 in
theorem ol_X12_fires_10 {xs : List Int32} {d : Nat} {Q : QO → QS → Prop} {m : MM} {k105 : Int → Option (Int × MM)} {rz : Int} {rm : MM}
  (hd : 3 ≤ d)
  (hk105 : ∀ {z2 : Int} {Sq : QS} {Lq : QL} {u0 : Value} {u2 : Value}, k105 z2 = some (rz, rm) → Rp Sq m → q_lo Lq 0 = some u0 → q_is 2 u0 68 → q_lo Lq 2 = some u2 → q_is 0 u2 z2 → Go xs d qM_X12_fires 105 Lq [] Sq Q)
  (hQ : Ext m rm → ∀ o S1, Rp S1 rm → q_out 9 o rz → Q o S1) :
  ∀ (n : Nat) {S : QS} {L : QL} {y2 y3 : Int} {v0 : Value} {v2 : Value} {v3 : Value} , fl_X12_fires_10 m k105 n y2 y3 = some (rz, rm) → Rp S m → q_lo L 0 = some v0 → q_is 2 v0 68 → q_lo L 2 = some v2 → q_is 0 v2 y2 → q_lo L 3 = some v3 → q_is 0 v3 y3 → Go xs d qM_X12_fires 10 L [] S Q := by
  intro n
  induction n with
  | zero => intro S L y2 y3 v0 v2 v3; intro h R l0 f0 l2 f2 l3 f3; cases h
  | succ n ih0 =>
    intro S L y2 y3 v0 v2 v3; intro h R l0 f0 l2 f2 l3 f3
    have ih : ∀ {z2 : Int} {z3 : Int} {Sq : QS} {Lq : QL} {u0 : Value} {u2 : Value} {u3 : Value}, fl_X12_fires_10 m k105 n z2 z3 = some (rz, rm) → Rp Sq m → q_lo Lq 0 = some u0 → q_is 2 u0 68 → q_lo Lq 2 = some u2 → q_is 0 u2 z2 → q_lo Lq 3 = some u3 → q_is 0 u3 z3 → Go xs d qM_X12_fires 10 Lq [] Sq Q := by intros; exact ih0 ‹_› ‹_› ‹_› ‹_› ‹_› ‹_› ‹_› ‹_›
    unfold fl_X12_fires_10 at h
    refine go_iload_n (n := 3) (by decide +kernel) l3 f3 ?_
    refine go_aload_n (n := 0) (by decide +kernel) l0 f0 ?_
    obtain ⟨x_24, e_25, h⟩ := lx_s h
    refine go_getf (x := 552) (ci := 13) (kf := 46) (fin := 0) (t := 0) (by decide +kernel) (by decide +kernel) (by decide +kernel) R f0 (fx_k (c := 13) R (by decide +kernel)) fun v_21 f_22 => ?_
    have f_23 := q_is_eq f_22 e_25
    refine go_icmp (c := .ge) (o := 90) (t := 105) (P := ¬ (y3 < x_24)) (by decide +kernel) (by decide +kernel) f3 f_23 (Int.not_lt.symm) (fun hp_26 => ?_) (fun hp_26 => ?_)
    · have h := it_f hp_26 h
      exact hk105 h R l0 f0 l2 f2
    · have h := it_n hp_26 h
      refine go_iload_n (n := 2) (by decide +kernel) l2 f2 ?_
      refine go_iconst (n := (-1)) (z := (-1)) (by decide +kernel) (by decide) fun v_27 f_28 => ?_
      refine go_icmp (c := .eq) (o := 48) (t := 68) (P := y2 = (-1)) (by decide +kernel) (by decide +kernel) f2 f_28 (Iff.rfl) (fun hp_29 => ?_) (fun hp_29 => ?_)
      · have h := it_t hp_29 h
        refine go_iconst (n := 1) (z := 1) (by decide +kernel) (by decide) fun v_30 f_31 => ?_
        refine go_goto (o := 4) (t := 73) (by decide +kernel) (by decide +kernel) ?_
        exact oj_X12_fires_73 hd R l0 f0 l2 f2 l3 f3 f_31 ih hk105 hQ h
      · have h := it_f hp_29 h
        refine go_aload_n (n := 0) (by decide +kernel) l0 f0 ?_
        refine go_getf (x := 137) (ci := 13) (kf := 47) (fin := 1) (t := 2) (by decide +kernel) (by decide +kernel) (by decide +kernel) R f0 (fx_k (c := 13) R (by decide +kernel)) fun v_99 f_100 => ?_
        have f_101 := q_is_eq (b := 109) f_100 (fx_v R (by decide +kernel)).symm
        refine go_iload_n (n := 3) (by decide +kernel) l3 f3 ?_
        obtain ⟨g_104, h⟩ := gd_s h
        obtain ⟨x_106, e_107, h⟩ := lx_s h
        refine go_iald (kd := 100) (by decide +kernel) rfl R f_101 f3 (fx_k (c := 100) R (by decide +kernel)) (fx_x (a := 109) (ln := 512) R (by decide +kernel) g_104) fun v_102 f_103 => ?_
        have f_105 := q_is_eq f_103 e_107
        refine go_aload_n (n := 0) (by decide +kernel) l0 f0 ?_
        refine go_getf (x := 137) (ci := 13) (kf := 47) (fin := 1) (t := 2) (by decide +kernel) (by decide +kernel) (by decide +kernel) R f0 (fx_k (c := 13) R (by decide +kernel)) fun v_108 f_109 => ?_
        have f_110 := q_is_eq (b := 109) f_109 (fx_v R (by decide +kernel)).symm
        refine go_iload_n (n := 2) (by decide +kernel) l2 f2 ?_
        obtain ⟨g_113, h⟩ := gd_s h
        obtain ⟨x_115, e_116, h⟩ := lx_s h
        refine go_iald (kd := 100) (by decide +kernel) rfl R f_110 f2 (fx_k (c := 100) R (by decide +kernel)) (fx_x (a := 109) (ln := 512) R (by decide +kernel) g_113) fun v_111 f_112 => ?_
        have f_114 := q_is_eq f_112 e_116
        refine go_icmp (c := .lt) (o := 33) (t := 68) (P := x_106 < x_115) (by decide +kernel) (by decide +kernel) f_105 f_114 (Iff.rfl) (fun hp_117 => ?_) (fun hp_117 => ?_)
        · have h := it_t hp_117 h
          refine go_iconst (n := 1) (z := 1) (by decide +kernel) (by decide) fun v_118 f_119 => ?_
          refine go_goto (o := 4) (t := 73) (by decide +kernel) (by decide +kernel) ?_
          exact oj_X12_fires_73 hd R l0 f0 l2 f2 l3 f3 f_119 ih hk105 hQ h
        · have h := it_f hp_117 h
          refine go_aload_n (n := 0) (by decide +kernel) l0 f0 ?_
          refine go_getf (x := 137) (ci := 13) (kf := 47) (fin := 1) (t := 2) (by decide +kernel) (by decide +kernel) (by decide +kernel) R f0 (fx_k (c := 13) R (by decide +kernel)) fun v_120 f_121 => ?_
          have f_122 := q_is_eq (b := 109) f_121 (fx_v R (by decide +kernel)).symm
          refine go_iload_n (n := 3) (by decide +kernel) l3 f3 ?_
          refine go_iald (kd := 100) (by decide +kernel) rfl R f_122 f3 (fx_k (c := 100) R (by decide +kernel)) (fx_x (a := 109) (ln := 512) R (by decide +kernel) g_104) fun v_123 f_124 => ?_
          have f_125 := q_is_eq f_124 e_107
          refine go_aload_n (n := 0) (by decide +kernel) l0 f0 ?_
          refine go_getf (x := 137) (ci := 13) (kf := 47) (fin := 1) (t := 2) (by decide +kernel) (by decide +kernel) (by decide +kernel) R f0 (fx_k (c := 13) R (by decide +kernel)) fun v_126 f_127 => ?_
          have f_128 := q_is_eq (b := 109) f_127 (fx_v R (by decide +kernel)).symm
          refine go_iload_n (n := 2) (by decide +kernel) l2 f2 ?_
          refine go_iald (kd := 100) (by decide +kernel) rfl R f_128 f2 (fx_k (c := 100) R (by decide +kernel)) (fx_x (a := 109) (ln := 512) R (by decide +kernel) g_113) fun v_129 f_130 => ?_
          have f_131 := q_is_eq f_130 e_116
          refine go_icmp (c := .ne) (o := 22) (t := 72) (P := ¬ (x_106 = x_115)) (by decide +kernel) (by decide +kernel) f_125 f_131 (Iff.rfl) (fun hp_132 => ?_) (fun hp_132 => ?_)
          · have h := it_f hp_132 h
            refine go_iconst (n := 0) (z := 0) (by decide +kernel) (by decide) fun v_133 f_134 => ?_
            exact oj_X12_fires_73 hd R l0 f0 l2 f2 l3 f3 f_134 ih hk105 hQ h
          · have h := it_n hp_132 h
            refine go_aload_n (n := 0) (by decide +kernel) l0 f0 ?_
            refine go_getf (x := 140) (ci := 13) (kf := 48) (fin := 1) (t := 2) (by decide +kernel) (by decide +kernel) (by decide +kernel) R f0 (fx_k (c := 13) R (by decide +kernel)) fun v_135 f_136 => ?_
            have f_137 := q_is_eq (b := 110) f_136 (fx_v R (by decide +kernel)).symm
            refine go_iload_n (n := 3) (by decide +kernel) l3 f3 ?_
            obtain ⟨x_141, e_142, h⟩ := lx_s h
            refine go_iald (kd := 100) (by decide +kernel) rfl R f_137 f3 (fx_k (c := 100) R (by decide +kernel)) (fx_x (a := 110) (ln := 512) R (by decide +kernel) g_104) fun v_138 f_139 => ?_
            have f_140 := q_is_eq f_139 e_142
            refine go_aload_n (n := 0) (by decide +kernel) l0 f0 ?_
            refine go_getf (x := 140) (ci := 13) (kf := 48) (fin := 1) (t := 2) (by decide +kernel) (by decide +kernel) (by decide +kernel) R f0 (fx_k (c := 13) R (by decide +kernel)) fun v_143 f_144 => ?_
            have f_145 := q_is_eq (b := 110) f_144 (fx_v R (by decide +kernel)).symm
            refine go_iload_n (n := 2) (by decide +kernel) l2 f2 ?_
            obtain ⟨x_149, e_150, h⟩ := lx_s h
            refine go_iald (kd := 100) (by decide +kernel) rfl R f_145 f2 (fx_k (c := 100) R (by decide +kernel)) (fx_x (a := 110) (ln := 512) R (by decide +kernel) g_113) fun v_146 f_147 => ?_
            have f_148 := q_is_eq f_147 e_150
            refine go_icmp (c := .ge) (o := 7) (t := 72) (P := ¬ (x_141 < x_149)) (by decide +kernel) (by decide +kernel) f_140 f_148 (Int.not_lt.symm) (fun hp_151 => ?_) (fun hp_151 => ?_)
            · have h := it_f hp_151 h
              refine go_iconst (n := 0) (z := 0) (by decide +kernel) (by decide) fun v_152 f_153 => ?_
              exact oj_X12_fires_73 hd R l0 f0 l2 f2 l3 f3 f_153 ih hk105 hQ h
            · have h := it_n hp_151 h
              refine go_iconst (n := 1) (z := 1) (by decide +kernel) (by decide) fun v_154 f_155 => ?_
              refine go_goto (o := 4) (t := 73) (by decide +kernel) (by decide +kernel) ?_
              exact oj_X12_fires_73 hd R l0 f0 l2 f2 l3 f3 f_155 ih hk105 hQ h
noncomputable def fj_X12_fires_115 (c : Int → MM → Option (Int × MM)) (y2 s0 : Int) (m : MM) : Option (Int × MM) := if s0 = 0 then
c s0 m
else
gd (0 ≤ y2 ∧ y2 < 512) <| lx (m 109 y2) fun x_184 =>
lx (m 110 y2) fun x_194 =>
bd (fm_X12_puts x_184 3 x_194 0 m) fun x_199 m_200 =>
bd (fm_X12_removesTimer y2 m_200) fun x_211 m_212 =>
c s0 m_212
set_option maxHeartbeats 4000000 in
theorem oj_X12_fires_115 {xs : List Int32} {d : Nat} {S : QS} {L : QL} {Q : QO → QS → Prop} {m : MM} {y2 s0 : Int} {v0 : Value} {v2 : Value} {w0 : Value}  {rz : Int} {rm : MM} {c : Int → MM → Option (Int × MM)} 
  (hd : 3 ≤ d) (R : Rp S m) (l0 : q_lo L 0 = some v0) (f0 : q_is 2 v0 68) (l2 : q_lo L 2 = some v2) (f2 : q_is 0 v2 y2) (fs0 : q_is 0 w0 s0)
  (hc : ∀ mq : MM, Ext m mq → ∀ {z1 : Int} {Sq : QS} {Lq : QL} {u0 : Value} {u1 : Value}, c z1 mq = some (rz, rm) → Rp Sq mq → q_lo Lq 0 = some u0 → q_is 2 u0 68 → q_lo Lq 1 = some u1 → q_is 0 u1 z1 → Go xs d qM_X12_fires 2 Lq [] Sq Q)
  (hQ : Ext m rm → ∀ o S1, Rp S1 rm → q_out 9 o rz → Q o S1)
  (h : fj_X12_fires_115 c y2 s0 m = some (rz, rm)) : Go xs d qM_X12_fires 115 L [w0] S Q := by
  unfold fj_X12_fires_115 at h
  refine go_istore_n (n := 1) (by decide +kernel) (by decide +kernel) fs0 fun L_171 l_172 kp_173 => ?_
  have l_174 := kp_173 0 _ l0 (by decide) (Or.inr (q_is_cat f0 (Or.inr rfl)))
  have l_175 := kp_173 2 _ l2 (by decide) (Or.inl (by decide))
  refine go_iload_n (n := 1) (by decide +kernel) l_172 fs0 ?_
  refine go_if (c := .eq) (o := 27) (t := 144) (P := s0 = 0) (by decide +kernel) (by decide +kernel) fs0 (Iff.rfl) (fun hp_176 => ?_) (fun hp_176 => ?_)
  · have h := it_t hp_176 h
    refine go_goto (o := (-142)) (t := 2) (by decide +kernel) (by decide +kernel) ?_
    exact hc m (Ext.rf _) h R l_174 f0 l_172 fs0
  · have h := it_f hp_176 h
    refine go_aload_n (n := 0) (by decide +kernel) l_174 f0 ?_
    refine go_aload_n (n := 0) (by decide +kernel) l_174 f0 ?_
    refine go_getf (x := 137) (ci := 13) (kf := 47) (fin := 1) (t := 2) (by decide +kernel) (by decide +kernel) (by decide +kernel) R f0 (fx_k (c := 13) R (by decide +kernel)) fun v_177 f_178 => ?_
    have f_179 := q_is_eq (b := 109) f_178 (fx_v R (by decide +kernel)).symm
    refine go_iload_n (n := 2) (by decide +kernel) l_175 f2 ?_
    obtain ⟨g_182, h⟩ := gd_s h
    obtain ⟨x_184, e_185, h⟩ := lx_s h
    refine go_iald (kd := 100) (by decide +kernel) rfl R f_179 f2 (fx_k (c := 100) R (by decide +kernel)) (fx_x (a := 109) (ln := 512) R (by decide +kernel) g_182) fun v_180 f_181 => ?_
    have f_183 := q_is_eq f_181 e_185
    refine go_iconst (n := 3) (z := 3) (by decide +kernel) (by decide) fun v_186 f_187 => ?_
    refine go_aload_n (n := 0) (by decide +kernel) l_174 f0 ?_
    refine go_getf (x := 140) (ci := 13) (kf := 48) (fin := 1) (t := 2) (by decide +kernel) (by decide +kernel) (by decide +kernel) R f0 (fx_k (c := 13) R (by decide +kernel)) fun v_188 f_189 => ?_
    have f_190 := q_is_eq (b := 110) f_189 (fx_v R (by decide +kernel)).symm
    refine go_iload_n (n := 2) (by decide +kernel) l_175 f2 ?_
    obtain ⟨x_194, e_195, h⟩ := lx_s h
    refine go_iald (kd := 100) (by decide +kernel) rfl R f_190 f2 (fx_k (c := 100) R (by decide +kernel)) (fx_x (a := 110) (ln := 512) R (by decide +kernel) g_182) fun v_191 f_192 => ?_
    have f_193 := q_is_eq f_192 e_195
    refine go_iconst (n := 0) (z := 0) (by decide +kernel) (by decide) fun v_196 f_197 => ?_
    obtain ⟨x_199, m_200, hc_198, h⟩ := bd_s h
    refine go_callV (x := 360) (mi := 210) (n := 4) (ci := 13) (as := [v_180, v_186, v_191, v_196]) (rest := []) (by decide +kernel) (by decide +kernel) rfl rfl (q_sum8 _ (Nat.le_of_ble_eq_true rfl)) R f0 (fx_k (c := 13) R (by decide +kernel)) (om_X12_puts (Nat.le_trans (by decide) hd) R f0 f_183 f_187 f_193 f_197 hc_198) (fun _ S_203 q_206 => ?_) (fun _ _ qq => kr_x qq)
    refine kr_z (by decide) q_206 fun v_201 f_202 R_204 E_205 => ?_
    have E_209 := E_205
    refine go_pop (by decide +kernel) f_202 (Or.inl rfl) ?_
    refine go_aload_n (n := 0) (by decide +kernel) l_174 f0 ?_
    refine go_iload_n (n := 2) (by decide +kernel) l_175 f2 ?_
    obtain ⟨x_211, m_212, hc_210, h⟩ := bd_s h
    refine go_callV (x := 555) (mi := 253) (n := 1) (ci := 13) (as := [v2]) (rest := []) (by decide +kernel) (by decide +kernel) rfl rfl (q_sum8 _ (Nat.le_of_ble_eq_true rfl)) R_204 f0 (fx_k (c := 13) R_204 (by decide +kernel)) (om_X12_removesTimer (Nat.le_trans (by decide) hd) R_204 f0 f2 hc_210) (fun _ S_215 q_218 => ?_) (fun _ _ qq => kr_x qq)
    refine kr_v q_218 fun R_216 E_217 => ?_
    have E_221 := Ext.tr E_209 E_217
    refine go_goto (o := (-142)) (t := 2) (by decide +kernel) (by decide +kernel) ?_
    exact hc m_212 E_221 h R_216 l_174 f0 l_172 fs0
noncomputable def fl_X12_fires_2 : Nat → Int → MM → Option (Int × MM)
  | 0, _, _ => none
  | n + 1, y1, m => if y1 = 0 then
some (0, m)
else
fl_X12_fires_10 m (fun x_156 =>
if x_156 = (-1) then
fj_X12_fires_115 (fl_X12_fires_2 n) x_156 0 m
else
fj_X12_fires_115 (fl_X12_fires_2 n) x_156 1 m) BIG (-1) 0
set_option maxHeartbeats 4000000 in
theorem ol_X12_fires_2 {xs : List Int32} {d : Nat} {Q : QO → QS → Prop} {mb : MM} {rz : Int} {rm : MM}
  (hd : 3 ≤ d)
  (hQ : Ext mb rm → ∀ o S1, Rp S1 rm → q_out 9 o rz → Q o S1) :
  ∀ (n : Nat) {m : MM} {S : QS} {L : QL} {y1 : Int} {v0 : Value} {v1 : Value} , Ext mb m → fl_X12_fires_2 n y1 m = some (rz, rm) → Rp S m → q_lo L 0 = some v0 → q_is 2 v0 68 → q_lo L 1 = some v1 → q_is 0 v1 y1 → Go xs d qM_X12_fires 2 L [] S Q := by
  intro n
  induction n with
  | zero => intro m S L y1 v0 v1; intro E h R l0 f0 l1 f1; cases h
  | succ n ih0 =>
    intro m S L y1 v0 v1; intro E h R l0 f0 l1 f1
    have ih : ∀ mq : MM, Ext mb mq → ∀ {z1 : Int} {Sq : QS} {Lq : QL} {u0 : Value} {u1 : Value}, fl_X12_fires_2 n z1 mq = some (rz, rm) → Rp Sq mq → q_lo Lq 0 = some u0 → q_is 2 u0 68 → q_lo Lq 1 = some u1 → q_is 0 u1 z1 → Go xs d qM_X12_fires 2 Lq [] Sq Q := fun mq b => by intros; exact ih0 b ‹_› ‹_› ‹_› ‹_› ‹_› ‹_›
    unfold fl_X12_fires_2 at h
    refine go_iload_n (n := 1) (by decide +kernel) l1 f1 ?_
    refine go_if (c := .eq) (o := 144) (t := 147) (P := y1 = 0) (by decide +kernel) (by decide +kernel) f1 (Iff.rfl) (fun hp_7 => ?_) (fun hp_7 => ?_)
    · have h := it_t hp_7 h
      cases h
      exact go_vret (by decide +kernel) rfl (hQ E _ _ R q_out_n)
    · have h := it_f hp_7 h
      refine go_iconst (n := (-1)) (z := (-1)) (by decide +kernel) (by decide) fun v_8 f_9 => ?_
      refine go_istore_n (n := 2) (by decide +kernel) (by decide +kernel) f_9 fun L_10 l_11 kp_12 => ?_
      have l_13 := kp_12 0 _ l0 (by decide) (Or.inl (by decide))
      refine go_iconst (n := 0) (z := 0) (by decide +kernel) (by decide) fun v_14 f_15 => ?_
      refine go_istore_n (n := 3) (by decide +kernel) (by decide +kernel) f_15 fun L_16 l_17 kp_18 => ?_
      have l_19 := kp_18 0 _ l_13 (by decide) (Or.inl (by decide))
      have l_20 := kp_18 2 _ l_11 (by decide) (Or.inr (q_is_cat f_9 (Or.inl rfl)))
      refine ol_X12_fires_10 hd  ?_ (fun b => hQ (Ext.tr E b)) BIG h R l_19 f0 l_20 f_9 l_17 f_15
      intro x_156 S_163 L_164 v_157 v_158
      intro h R_165 l_159 f_161 l_160 f_162
      refine go_iload_n (n := 2) (by decide +kernel) l_160 f_162 ?_
      refine go_iconst (n := (-1)) (z := (-1)) (by decide +kernel) (by decide) fun v_166 f_167 => ?_
      refine go_icmp (c := .eq) (o := 7) (t := 114) (P := x_156 = (-1)) (by decide +kernel) (by decide +kernel) f_162 f_167 (Iff.rfl) (fun hp_168 => ?_) (fun hp_168 => ?_)
      · have h := it_t hp_168 h
        refine go_iconst (n := 0) (z := 0) (by decide +kernel) (by decide) fun v_169 f_170 => ?_
        exact oj_X12_fires_115 hd R_165 l_159 f_161 l_160 f_162 f_170 (fun mq b => ih mq (Ext.tr E b)) (fun b => hQ (Ext.tr E b)) h
      · have h := it_f hp_168 h
        refine go_iconst (n := 1) (z := 1) (by decide +kernel) (by decide) fun v_222 f_223 => ?_
        refine go_goto (o := 4) (t := 115) (by decide +kernel) (by decide +kernel) ?_
        exact oj_X12_fires_115 hd R_165 l_159 f_161 l_160 f_162 f_223 (fun mq b => ih mq (Ext.tr E b)) (fun b => hQ (Ext.tr E b)) h
noncomputable def fm_X12_fires (m0 : MM) : Option (Int × MM) := fl_X12_fires_2   BIG 1 m0
set_option maxHeartbeats 4000000 in
theorem om_X12_fires {xs : List Int32} {d : Nat} {S : QS} {m0 : MM} {v0 : Value} {rz : Int} {rm : MM}
  (hd : 4 ≤ d) (R : Rp S m0) (f0 : q_is 2 v0 68)
  (h : fm_X12_fires m0 = some (rz, rm)) : Mt xs d 291 [v0] S (Cr 9 m0 rm rz) := by
  obtain ⟨d, rfl⟩ : ∃ e, d = e + 1 := ⟨d - 1, by omega⟩
  have hd : 3 ≤ d := Nat.le_of_succ_le_succ hd
  refine Mt.of (M := qM_X12_fires) rfl (by rw [sl_1 (q_is_cat f0 (Or.inr rfl)), sl_0]; decide) ?_
  rw [la_1 (q_is_cat f0 (Or.inr rfl)), la_0]
  obtain ⟨L, hL⟩ : ∃ L : QL, L = [(0, v0)] := ⟨_, rfl⟩
  rw [← hL]
  have l0 : q_lo L 0 = some v0 := by rw [hL]; rfl
  have hQ : Ext m0 rm → ∀ o S1, Rp S1 rm → q_out 9 o rz → (Cr 9 m0 rm rz) o S1 := fun a o S1 b e => ⟨b, a, e⟩
  unfold fm_X12_fires at h
  refine go_iconst (n := 1) (z := 1) (by decide +kernel) (by decide) fun v_1 f_2 => ?_
  refine go_istore_n (n := 1) (by decide +kernel) (by decide +kernel) f_2 fun L_3 l_4 kp_5 => ?_
  have l_6 := kp_5 0 _ l0 (by decide) (Or.inr (q_is_cat f0 (Or.inr rfl)))
  refine ol_X12_fires_2 hd   hQ BIG (Ext.rf _) h R l_6 f0 l_4 f_2
noncomputable def fj_X12_looksAtActivities_205 (c : Int → MM → Option (Int × MM)) (y1 : Int) (m : MM) : Option (Int × MM) := bd (fm_X12_misses y1 0 m) fun x_91 m_92 =>
lx (w32 (y1 + 1)) fun x_107 =>
c x_107 m_92
set_option maxHeartbeats 4000000 in
theorem oj_X12_looksAtActivities_205 {xs : List Int32} {d : Nat} {S : QS} {L : QL} {Q : QO → QS → Prop} {m : MM} {y1 : Int} {v0 : Value} {v1 : Value}  {rz : Int} {rm : MM} {c : Int → MM → Option (Int × MM)} 
  (hd : 4 ≤ d) (R : Rp S m) (l0 : q_lo L 0 = some v0) (f0 : q_is 2 v0 68) (l1 : q_lo L 1 = some v1) (f1 : q_is 0 v1 y1)
  (hc : ∀ mq : MM, Ext m mq → ∀ {z1 : Int} {Sq : QS} {Lq : QL} {u0 : Value} {u1 : Value}, c z1 mq = some (rz, rm) → Rp Sq mq → q_lo Lq 0 = some u0 → q_is 2 u0 68 → q_lo Lq 1 = some u1 → q_is 0 u1 z1 → Go xs d qM_X12_looksAtActivities 2 Lq [] Sq Q)
  (hQ : Ext m rm → ∀ o S1, Rp S1 rm → q_out 9 o rz → Q o S1)
  (h : fj_X12_looksAtActivities_205 c y1 m = some (rz, rm)) : Go xs d qM_X12_looksAtActivities 205 L [] S Q := by
  unfold fj_X12_looksAtActivities_205 at h
  refine go_aload_n (n := 0) (by decide +kernel) l0 f0 ?_
  refine go_iload_n (n := 1) (by decide +kernel) l1 f1 ?_
  refine go_iconst (n := 0) (z := 0) (by decide +kernel) (by decide) fun v_88 f_89 => ?_
  obtain ⟨x_91, m_92, hc_90, h⟩ := bd_s h
  refine go_callV (x := 645) (mi := 287) (n := 2) (ci := 13) (as := [v1, v_88]) (rest := []) (by decide +kernel) (by decide +kernel) rfl rfl (q_sum8 _ (Nat.le_of_ble_eq_true rfl)) R f0 (fx_k (c := 13) R (by decide +kernel)) (om_X12_misses (Nat.le_trans (by decide) hd) R f0 f1 f_89 hc_90) (fun _ S_95 q_98 => ?_) (fun _ _ qq => kr_x qq)
  refine kr_v q_98 fun R_96 E_97 => ?_
  have E_101 := E_97
  refine go_iinc (n := 1) (c := 1) (c' := 1) (by decide +kernel) (by decide +kernel) l1 f1 (by decide) fun L_102 v_103 f_104 l_105 kp_106 => ?_
  obtain ⟨x_107, e_108, h⟩ := lx_s h
  have f_109 := q_is_eq f_104 e_108
  have l_110 := kp_106 0 _ l0 (by decide) (Or.inr (q_is_cat f0 (Or.inr rfl)))
  refine go_goto (o := (-212)) (t := 2) (by decide +kernel) (by decide +kernel) ?_
  exact hc m_92 E_101 h R_96 l_110 f0 l_105 f_109
noncomputable def fj_X12_looksAtActivities_160 (c : Int → MM → Option (Int × MM)) (y1 y3 y4 s0 : Int) (m : MM) : Option (Int × MM) := if y3 = 0 then
if y4 = 0 then
if s0 = 0 then
lx (w32 (y1 + 1)) fun x_117 =>
c x_117 m
else
fj_X12_looksAtActivities_205 c y1 m
else
fj_X12_looksAtActivities_205 c y1 m
else
gd (0 ≤ y1 ∧ y1 < 60) <| up m 102 y1 2 fun m_127 =>
lx (m_127 98 y1) fun x_140 =>
lx (m_127 99 y1) fun x_150 =>
bd (fm_X12_puts x_140 2 x_150 0 m_127) fun x_155 m_156 =>
lx (w32 (y1 + 1)) fun x_171 =>
c x_171 m_156
set_option maxHeartbeats 4000000 in
theorem oj_X12_looksAtActivities_160 {xs : List Int32} {d : Nat} {S : QS} {L : QL} {Q : QO → QS → Prop} {m : MM} {y1 y3 y4 s0 : Int} {v0 : Value} {v1 : Value} {v3 : Value} {v4 : Value} {w0 : Value}  {rz : Int} {rm : MM} {c : Int → MM → Option (Int × MM)} 
  (hd : 4 ≤ d) (R : Rp S m) (l0 : q_lo L 0 = some v0) (f0 : q_is 2 v0 68) (l1 : q_lo L 1 = some v1) (f1 : q_is 0 v1 y1) (l3 : q_lo L 3 = some v3) (f3 : q_is 0 v3 y3) (l4 : q_lo L 4 = some v4) (f4 : q_is 0 v4 y4) (fs0 : q_is 0 w0 s0)
  (hc : ∀ mq : MM, Ext m mq → ∀ {z1 : Int} {Sq : QS} {Lq : QL} {u0 : Value} {u1 : Value}, c z1 mq = some (rz, rm) → Rp Sq mq → q_lo Lq 0 = some u0 → q_is 2 u0 68 → q_lo Lq 1 = some u1 → q_is 0 u1 z1 → Go xs d qM_X12_looksAtActivities 2 Lq [] Sq Q)
  (hQ : Ext m rm → ∀ o S1, Rp S1 rm → q_out 9 o rz → Q o S1)
  (h : fj_X12_looksAtActivities_160 c y1 y3 y4 s0 m = some (rz, rm)) : Go xs d qM_X12_looksAtActivities 160 L [w0] S Q := by
  unfold fj_X12_looksAtActivities_160 at h
  refine go_istore (n := 5) (by decide +kernel) (by decide +kernel) fs0 fun L_79 l_80 kp_81 => ?_
  have l_82 := kp_81 0 _ l0 (by decide) (Or.inl (by decide))
  have l_83 := kp_81 1 _ l1 (by decide) (Or.inl (by decide))
  have l_84 := kp_81 3 _ l3 (by decide) (Or.inl (by decide))
  have l_85 := kp_81 4 _ l4 (by decide) (Or.inr (q_is_cat f4 (Or.inl rfl)))
  refine go_iload_n (n := 3) (by decide +kernel) l_84 f3 ?_
  refine go_if (c := .eq) (o := 32) (t := 195) (P := y3 = 0) (by decide +kernel) (by decide +kernel) f3 (Iff.rfl) (fun hp_86 => ?_) (fun hp_86 => ?_)
  · have h := it_t hp_86 h
    refine go_iload (n := 4) (by decide +kernel) l_85 f4 ?_
    refine go_if (c := .ne) (o := 8) (t := 205) (P := ¬ (y4 = 0)) (by decide +kernel) (by decide +kernel) f4 (Iff.rfl) (fun hp_87 => ?_) (fun hp_87 => ?_)
    · have h := it_f hp_87 h
      exact oj_X12_looksAtActivities_205 hd R l_82 f0 l_83 f1 hc hQ h
    · have h := it_n hp_87 h
      refine go_iload (n := 5) (by decide +kernel) l_80 fs0 ?_
      refine go_if (c := .eq) (o := 9) (t := 211) (P := s0 = 0) (by decide +kernel) (by decide +kernel) fs0 (Iff.rfl) (fun hp_111 => ?_) (fun hp_111 => ?_)
      · have h := it_t hp_111 h
        refine go_iinc (n := 1) (c := 1) (c' := 1) (by decide +kernel) (by decide +kernel) l_83 f1 (by decide) fun L_112 v_113 f_114 l_115 kp_116 => ?_
        obtain ⟨x_117, e_118, h⟩ := lx_s h
        have f_119 := q_is_eq f_114 e_118
        have l_120 := kp_116 0 _ l_82 (by decide) (Or.inr (q_is_cat f0 (Or.inr rfl)))
        refine go_goto (o := (-212)) (t := 2) (by decide +kernel) (by decide +kernel) ?_
        exact hc m (Ext.rf _) h R l_120 f0 l_115 f_119
      · have h := it_f hp_111 h
        exact oj_X12_looksAtActivities_205 hd R l_82 f0 l_83 f1 hc hQ h
  · have h := it_f hp_86 h
    refine go_aload_n (n := 0) (by decide +kernel) l_82 f0 ?_
    refine go_getf (x := 116) (ci := 13) (kf := 39) (fin := 1) (t := 2) (by decide +kernel) (by decide +kernel) (by decide +kernel) R f0 (fx_k (c := 13) R (by decide +kernel)) fun v_121 f_122 => ?_
    have f_123 := q_is_eq (b := 102) f_122 (fx_v R (by decide +kernel)).symm
    refine go_iload_n (n := 1) (by decide +kernel) l_83 f1 ?_
    refine go_iconst (n := 2) (z := 2) (by decide +kernel) (by decide) fun v_124 f_125 => ?_
    obtain ⟨g_126, h⟩ := gd_s h
    obtain ⟨m_127, e_128, h⟩ := up_s h
    refine go_iast (kd := 100) (by decide +kernel) rfl R f_123 f1 f_125 (fx_k (c := 100) R (by decide +kernel)) (fx_x (a := 102) (ln := 60) R (by decide +kernel) g_126) e_128 (fx_a R.2 (fx_k (c := 100) R (by decide +kernel)) (And.left (fx_x (a := 102) (ln := 60) R (by decide +kernel) g_126)) (by decide +kernel)) fun S_129 R_130 E_131 => ?_
    have E_133 := E_131
    refine go_aload_n (n := 0) (by decide +kernel) l_82 f0 ?_
    refine go_aload_n (n := 0) (by decide +kernel) l_82 f0 ?_
    refine go_getf (x := 104) (ci := 13) (kf := 35) (fin := 1) (t := 2) (by decide +kernel) (by decide +kernel) (by decide +kernel) R_130 f0 (fx_k (c := 13) R_130 (by decide +kernel)) fun v_134 f_135 => ?_
    have f_136 := q_is_eq (b := 98) f_135 (fx_v R_130 (by decide +kernel)).symm
    refine go_iload_n (n := 1) (by decide +kernel) l_83 f1 ?_
    obtain ⟨x_140, e_141, h⟩ := lx_s h
    refine go_iald (kd := 100) (by decide +kernel) rfl R_130 f_136 f1 (fx_k (c := 100) R_130 (by decide +kernel)) (fx_x (a := 98) (ln := 60) R_130 (by decide +kernel) g_126) fun v_137 f_138 => ?_
    have f_139 := q_is_eq f_138 e_141
    refine go_iconst (n := 2) (z := 2) (by decide +kernel) (by decide) fun v_142 f_143 => ?_
    refine go_aload_n (n := 0) (by decide +kernel) l_82 f0 ?_
    refine go_getf (x := 107) (ci := 13) (kf := 36) (fin := 1) (t := 2) (by decide +kernel) (by decide +kernel) (by decide +kernel) R_130 f0 (fx_k (c := 13) R_130 (by decide +kernel)) fun v_144 f_145 => ?_
    have f_146 := q_is_eq (b := 99) f_145 (fx_v R_130 (by decide +kernel)).symm
    refine go_iload_n (n := 1) (by decide +kernel) l_83 f1 ?_
    obtain ⟨x_150, e_151, h⟩ := lx_s h
    refine go_iald (kd := 100) (by decide +kernel) rfl R_130 f_146 f1 (fx_k (c := 100) R_130 (by decide +kernel)) (fx_x (a := 99) (ln := 60) R_130 (by decide +kernel) g_126) fun v_147 f_148 => ?_
    have f_149 := q_is_eq f_148 e_151
    refine go_iconst (n := 0) (z := 0) (by decide +kernel) (by decide) fun v_152 f_153 => ?_
    obtain ⟨x_155, m_156, hc_154, h⟩ := bd_s h
    refine go_callV (x := 360) (mi := 210) (n := 4) (ci := 13) (as := [v_137, v_142, v_147, v_152]) (rest := []) (by decide +kernel) (by decide +kernel) rfl rfl (q_sum8 _ (Nat.le_of_ble_eq_true rfl)) R_130 f0 (fx_k (c := 13) R_130 (by decide +kernel)) (om_X12_puts (Nat.le_trans (by decide) hd) R_130 f0 f_139 f_143 f_149 f_153 hc_154) (fun _ S_159 q_162 => ?_) (fun _ _ qq => kr_x qq)
    refine kr_z (by decide) q_162 fun v_157 f_158 R_160 E_161 => ?_
    have E_165 := Ext.tr E_133 E_161
    refine go_pop (by decide +kernel) f_158 (Or.inl rfl) ?_
    refine go_goto (o := 19) (t := 211) (by decide +kernel) (by decide +kernel) ?_
    refine go_iinc (n := 1) (c := 1) (c' := 1) (by decide +kernel) (by decide +kernel) l_83 f1 (by decide) fun L_166 v_167 f_168 l_169 kp_170 => ?_
    obtain ⟨x_171, e_172, h⟩ := lx_s h
    have f_173 := q_is_eq f_168 e_172
    have l_174 := kp_170 0 _ l_82 (by decide) (Or.inr (q_is_cat f0 (Or.inr rfl)))
    refine go_goto (o := (-212)) (t := 2) (by decide +kernel) (by decide +kernel) ?_
    exact hc m_156 E_165 h R_160 l_174 f0 l_169 f_173
noncomputable def fj_X12_looksAtActivities_114 (c : Int → MM → Option (Int × MM)) (y1 y2 y3 s0 : Int) (m : MM) : Option (Int × MM) := gd (0 ≤ y1 ∧ y1 < 60) <| lx (m 102 y1) fun x_72 =>
if x_72 = 1 then
gd (0 ≤ y2 ∧ y2 < 4) <| lx (m 78 y2) fun x_182 =>
if 0 < x_182 then
lx (m 68 0) fun x_190 =>
lx (m 107 y1) fun x_198 =>
if w32 (x_190 - x_198) < x_182 then
fj_X12_looksAtActivities_160 c y1 y3 s0 0 m
else
fj_X12_looksAtActivities_160 c y1 y3 s0 1 m
else
fj_X12_looksAtActivities_160 c y1 y3 s0 0 m
else
fj_X12_looksAtActivities_160 c y1 y3 s0 0 m
set_option maxHeartbeats 4000000 in
theorem oj_X12_looksAtActivities_114 {xs : List Int32} {d : Nat} {S : QS} {L : QL} {Q : QO → QS → Prop} {m : MM} {y1 y2 y3 s0 : Int} {v0 : Value} {v1 : Value} {v2 : Value} {v3 : Value} {w0 : Value}  {rz : Int} {rm : MM} {c : Int → MM → Option (Int × MM)} 
  (hd : 4 ≤ d) (R : Rp S m) (l0 : q_lo L 0 = some v0) (f0 : q_is 2 v0 68) (l1 : q_lo L 1 = some v1) (f1 : q_is 0 v1 y1) (l2 : q_lo L 2 = some v2) (f2 : q_is 0 v2 y2) (l3 : q_lo L 3 = some v3) (f3 : q_is 0 v3 y3) (fs0 : q_is 0 w0 s0)
  (hc : ∀ mq : MM, Ext m mq → ∀ {z1 : Int} {Sq : QS} {Lq : QL} {u0 : Value} {u1 : Value}, c z1 mq = some (rz, rm) → Rp Sq mq → q_lo Lq 0 = some u0 → q_is 2 u0 68 → q_lo Lq 1 = some u1 → q_is 0 u1 z1 → Go xs d qM_X12_looksAtActivities 2 Lq [] Sq Q)
  (hQ : Ext m rm → ∀ o S1, Rp S1 rm → q_out 9 o rz → Q o S1)
  (h : fj_X12_looksAtActivities_114 c y1 y2 y3 s0 m = some (rz, rm)) : Go xs d qM_X12_looksAtActivities 114 L [w0] S Q := by
  unfold fj_X12_looksAtActivities_114 at h
  refine go_istore (n := 4) (by decide +kernel) (by decide +kernel) fs0 fun L_58 l_59 kp_60 => ?_
  have l_61 := kp_60 0 _ l0 (by decide) (Or.inl (by decide))
  have l_62 := kp_60 1 _ l1 (by decide) (Or.inl (by decide))
  have l_63 := kp_60 2 _ l2 (by decide) (Or.inl (by decide))
  have l_64 := kp_60 3 _ l3 (by decide) (Or.inr (q_is_cat f3 (Or.inl rfl)))
  refine go_aload_n (n := 0) (by decide +kernel) l_61 f0 ?_
  refine go_getf (x := 116) (ci := 13) (kf := 39) (fin := 1) (t := 2) (by decide +kernel) (by decide +kernel) (by decide +kernel) R f0 (fx_k (c := 13) R (by decide +kernel)) fun v_65 f_66 => ?_
  have f_67 := q_is_eq (b := 102) f_66 (fx_v R (by decide +kernel)).symm
  refine go_iload_n (n := 1) (by decide +kernel) l_62 f1 ?_
  obtain ⟨g_70, h⟩ := gd_s h
  obtain ⟨x_72, e_73, h⟩ := lx_s h
  refine go_iald (kd := 100) (by decide +kernel) rfl R f_67 f1 (fx_k (c := 100) R (by decide +kernel)) (fx_x (a := 102) (ln := 60) R (by decide +kernel) g_70) fun v_68 f_69 => ?_
  have f_71 := q_is_eq f_69 e_73
  refine go_iconst (n := 1) (z := 1) (by decide +kernel) (by decide) fun v_74 f_75 => ?_
  refine go_icmp (c := .ne) (o := 36) (t := 159) (P := ¬ (x_72 = 1)) (by decide +kernel) (by decide +kernel) f_71 f_75 (Iff.rfl) (fun hp_76 => ?_) (fun hp_76 => ?_)
  · have h := it_f hp_76 h
    refine go_iconst (n := 0) (z := 0) (by decide +kernel) (by decide) fun v_77 f_78 => ?_
    exact oj_X12_looksAtActivities_160 hd R l_61 f0 l_62 f1 l_64 f3 l_59 fs0 f_78 hc hQ h
  · have h := it_n hp_76 h
    refine go_aload_n (n := 0) (by decide +kernel) l_61 f0 ?_
    refine go_getf (x := 37) (ci := 13) (kf := 10) (fin := 1) (t := 2) (by decide +kernel) (by decide +kernel) (by decide +kernel) R f0 (fx_k (c := 13) R (by decide +kernel)) fun v_175 f_176 => ?_
    have f_177 := q_is_eq (b := 78) f_176 (fx_v R (by decide +kernel)).symm
    refine go_iload_n (n := 2) (by decide +kernel) l_63 f2 ?_
    obtain ⟨g_180, h⟩ := gd_s h
    obtain ⟨x_182, e_183, h⟩ := lx_s h
    refine go_iald (kd := 100) (by decide +kernel) rfl R f_177 f2 (fx_k (c := 100) R (by decide +kernel)) (fx_x (a := 78) (ln := 4) R (by decide +kernel) g_180) fun v_178 f_179 => ?_
    have f_181 := q_is_eq f_179 e_183
    refine go_if (c := .le) (o := 27) (t := 159) (P := ¬ (0 < x_182)) (by decide +kernel) (by decide +kernel) f_181 (Int.not_lt.symm) (fun hp_184 => ?_) (fun hp_184 => ?_)
    · have h := it_f hp_184 h
      refine go_iconst (n := 0) (z := 0) (by decide +kernel) (by decide) fun v_185 f_186 => ?_
      exact oj_X12_looksAtActivities_160 hd R l_61 f0 l_62 f1 l_64 f3 l_59 fs0 f_186 hc hQ h
    · have h := it_n hp_184 h
      refine go_aload_n (n := 0) (by decide +kernel) l_61 f0 ?_
      obtain ⟨x_190, e_191, h⟩ := lx_s h
      refine go_getf (x := 357) (ci := 13) (kf := 0) (fin := 0) (t := 0) (by decide +kernel) (by decide +kernel) (by decide +kernel) R f0 (fx_k (c := 13) R (by decide +kernel)) fun v_187 f_188 => ?_
      have f_189 := q_is_eq f_188 e_191
      refine go_aload_n (n := 0) (by decide +kernel) l_61 f0 ?_
      refine go_getf (x := 131) (ci := 13) (kf := 44) (fin := 1) (t := 2) (by decide +kernel) (by decide +kernel) (by decide +kernel) R f0 (fx_k (c := 13) R (by decide +kernel)) fun v_192 f_193 => ?_
      have f_194 := q_is_eq (b := 107) f_193 (fx_v R (by decide +kernel)).symm
      refine go_iload_n (n := 1) (by decide +kernel) l_62 f1 ?_
      obtain ⟨x_198, e_199, h⟩ := lx_s h
      refine go_iald (kd := 100) (by decide +kernel) rfl R f_194 f1 (fx_k (c := 100) R (by decide +kernel)) (fx_x (a := 107) (ln := 60) R (by decide +kernel) g_70) fun v_195 f_196 => ?_
      have f_197 := q_is_eq f_196 e_199
      refine go_isub (by decide +kernel) f_189 f_197 fun v_200 f_201 => ?_
      refine go_aload_n (n := 0) (by decide +kernel) l_61 f0 ?_
      refine go_getf (x := 37) (ci := 13) (kf := 10) (fin := 1) (t := 2) (by decide +kernel) (by decide +kernel) (by decide +kernel) R f0 (fx_k (c := 13) R (by decide +kernel)) fun v_202 f_203 => ?_
      have f_204 := q_is_eq (b := 78) f_203 (fx_v R (by decide +kernel)).symm
      refine go_iload_n (n := 2) (by decide +kernel) l_63 f2 ?_
      refine go_iald (kd := 100) (by decide +kernel) rfl R f_204 f2 (fx_k (c := 100) R (by decide +kernel)) (fx_x (a := 78) (ln := 4) R (by decide +kernel) g_180) fun v_205 f_206 => ?_
      have f_207 := q_is_eq f_206 e_183
      refine go_icmp (c := .lt) (o := 7) (t := 159) (P := w32 (x_190 - x_198) < x_182) (by decide +kernel) (by decide +kernel) f_201 f_207 (Iff.rfl) (fun hp_208 => ?_) (fun hp_208 => ?_)
      · have h := it_t hp_208 h
        refine go_iconst (n := 0) (z := 0) (by decide +kernel) (by decide) fun v_209 f_210 => ?_
        exact oj_X12_looksAtActivities_160 hd R l_61 f0 l_62 f1 l_64 f3 l_59 fs0 f_210 hc hQ h
      · have h := it_f hp_208 h
        refine go_iconst (n := 1) (z := 1) (by decide +kernel) (by decide) fun v_211 f_212 => ?_
        refine go_goto (o := 4) (t := 160) (by decide +kernel) (by decide +kernel) ?_
        exact oj_X12_looksAtActivities_160 hd R l_61 f0 l_62 f1 l_64 f3 l_59 fs0 f_212 hc hQ h
noncomputable def fj_X12_looksAtActivities_69 (c : Int → MM → Option (Int × MM)) (y1 y2 s0 : Int) (m : MM) : Option (Int × MM) := gd (0 ≤ y1 ∧ y1 < 60) <| lx (m 102 y1) fun x_51 =>
if x_51 = 1 then
gd (0 ≤ y2 ∧ y2 < 4) <| lx (m 77 y2) fun x_220 =>
if 0 < x_220 then
lx (m 68 0) fun x_228 =>
lx (m 106 y1) fun x_236 =>
if w32 (x_228 - x_236) < x_220 then
fj_X12_looksAtActivities_114 c y1 y2 s0 0 m
else
fj_X12_looksAtActivities_114 c y1 y2 s0 1 m
else
fj_X12_looksAtActivities_114 c y1 y2 s0 0 m
else
fj_X12_looksAtActivities_114 c y1 y2 s0 0 m
set_option maxHeartbeats 4000000 in
theorem oj_X12_looksAtActivities_69 {xs : List Int32} {d : Nat} {S : QS} {L : QL} {Q : QO → QS → Prop} {m : MM} {y1 y2 s0 : Int} {v0 : Value} {v1 : Value} {v2 : Value} {w0 : Value}  {rz : Int} {rm : MM} {c : Int → MM → Option (Int × MM)} 
  (hd : 4 ≤ d) (R : Rp S m) (l0 : q_lo L 0 = some v0) (f0 : q_is 2 v0 68) (l1 : q_lo L 1 = some v1) (f1 : q_is 0 v1 y1) (l2 : q_lo L 2 = some v2) (f2 : q_is 0 v2 y2) (fs0 : q_is 0 w0 s0)
  (hc : ∀ mq : MM, Ext m mq → ∀ {z1 : Int} {Sq : QS} {Lq : QL} {u0 : Value} {u1 : Value}, c z1 mq = some (rz, rm) → Rp Sq mq → q_lo Lq 0 = some u0 → q_is 2 u0 68 → q_lo Lq 1 = some u1 → q_is 0 u1 z1 → Go xs d qM_X12_looksAtActivities 2 Lq [] Sq Q)
  (hQ : Ext m rm → ∀ o S1, Rp S1 rm → q_out 9 o rz → Q o S1)
  (h : fj_X12_looksAtActivities_69 c y1 y2 s0 m = some (rz, rm)) : Go xs d qM_X12_looksAtActivities 69 L [w0] S Q := by
  unfold fj_X12_looksAtActivities_69 at h
  refine go_istore_n (n := 3) (by decide +kernel) (by decide +kernel) fs0 fun L_38 l_39 kp_40 => ?_
  have l_41 := kp_40 0 _ l0 (by decide) (Or.inl (by decide))
  have l_42 := kp_40 1 _ l1 (by decide) (Or.inl (by decide))
  have l_43 := kp_40 2 _ l2 (by decide) (Or.inr (q_is_cat f2 (Or.inl rfl)))
  refine go_aload_n (n := 0) (by decide +kernel) l_41 f0 ?_
  refine go_getf (x := 116) (ci := 13) (kf := 39) (fin := 1) (t := 2) (by decide +kernel) (by decide +kernel) (by decide +kernel) R f0 (fx_k (c := 13) R (by decide +kernel)) fun v_44 f_45 => ?_
  have f_46 := q_is_eq (b := 102) f_45 (fx_v R (by decide +kernel)).symm
  refine go_iload_n (n := 1) (by decide +kernel) l_42 f1 ?_
  obtain ⟨g_49, h⟩ := gd_s h
  obtain ⟨x_51, e_52, h⟩ := lx_s h
  refine go_iald (kd := 100) (by decide +kernel) rfl R f_46 f1 (fx_k (c := 100) R (by decide +kernel)) (fx_x (a := 102) (ln := 60) R (by decide +kernel) g_49) fun v_47 f_48 => ?_
  have f_50 := q_is_eq f_48 e_52
  refine go_iconst (n := 1) (z := 1) (by decide +kernel) (by decide) fun v_53 f_54 => ?_
  refine go_icmp (c := .ne) (o := 36) (t := 113) (P := ¬ (x_51 = 1)) (by decide +kernel) (by decide +kernel) f_50 f_54 (Iff.rfl) (fun hp_55 => ?_) (fun hp_55 => ?_)
  · have h := it_f hp_55 h
    refine go_iconst (n := 0) (z := 0) (by decide +kernel) (by decide) fun v_56 f_57 => ?_
    exact oj_X12_looksAtActivities_114 hd R l_41 f0 l_42 f1 l_43 f2 l_39 fs0 f_57 hc hQ h
  · have h := it_n hp_55 h
    refine go_aload_n (n := 0) (by decide +kernel) l_41 f0 ?_
    refine go_getf (x := 34) (ci := 13) (kf := 9) (fin := 1) (t := 2) (by decide +kernel) (by decide +kernel) (by decide +kernel) R f0 (fx_k (c := 13) R (by decide +kernel)) fun v_213 f_214 => ?_
    have f_215 := q_is_eq (b := 77) f_214 (fx_v R (by decide +kernel)).symm
    refine go_iload_n (n := 2) (by decide +kernel) l_43 f2 ?_
    obtain ⟨g_218, h⟩ := gd_s h
    obtain ⟨x_220, e_221, h⟩ := lx_s h
    refine go_iald (kd := 100) (by decide +kernel) rfl R f_215 f2 (fx_k (c := 100) R (by decide +kernel)) (fx_x (a := 77) (ln := 4) R (by decide +kernel) g_218) fun v_216 f_217 => ?_
    have f_219 := q_is_eq f_217 e_221
    refine go_if (c := .le) (o := 27) (t := 113) (P := ¬ (0 < x_220)) (by decide +kernel) (by decide +kernel) f_219 (Int.not_lt.symm) (fun hp_222 => ?_) (fun hp_222 => ?_)
    · have h := it_f hp_222 h
      refine go_iconst (n := 0) (z := 0) (by decide +kernel) (by decide) fun v_223 f_224 => ?_
      exact oj_X12_looksAtActivities_114 hd R l_41 f0 l_42 f1 l_43 f2 l_39 fs0 f_224 hc hQ h
    · have h := it_n hp_222 h
      refine go_aload_n (n := 0) (by decide +kernel) l_41 f0 ?_
      obtain ⟨x_228, e_229, h⟩ := lx_s h
      refine go_getf (x := 357) (ci := 13) (kf := 0) (fin := 0) (t := 0) (by decide +kernel) (by decide +kernel) (by decide +kernel) R f0 (fx_k (c := 13) R (by decide +kernel)) fun v_225 f_226 => ?_
      have f_227 := q_is_eq f_226 e_229
      refine go_aload_n (n := 0) (by decide +kernel) l_41 f0 ?_
      refine go_getf (x := 128) (ci := 13) (kf := 43) (fin := 1) (t := 2) (by decide +kernel) (by decide +kernel) (by decide +kernel) R f0 (fx_k (c := 13) R (by decide +kernel)) fun v_230 f_231 => ?_
      have f_232 := q_is_eq (b := 106) f_231 (fx_v R (by decide +kernel)).symm
      refine go_iload_n (n := 1) (by decide +kernel) l_42 f1 ?_
      obtain ⟨x_236, e_237, h⟩ := lx_s h
      refine go_iald (kd := 100) (by decide +kernel) rfl R f_232 f1 (fx_k (c := 100) R (by decide +kernel)) (fx_x (a := 106) (ln := 60) R (by decide +kernel) g_49) fun v_233 f_234 => ?_
      have f_235 := q_is_eq f_234 e_237
      refine go_isub (by decide +kernel) f_227 f_235 fun v_238 f_239 => ?_
      refine go_aload_n (n := 0) (by decide +kernel) l_41 f0 ?_
      refine go_getf (x := 34) (ci := 13) (kf := 9) (fin := 1) (t := 2) (by decide +kernel) (by decide +kernel) (by decide +kernel) R f0 (fx_k (c := 13) R (by decide +kernel)) fun v_240 f_241 => ?_
      have f_242 := q_is_eq (b := 77) f_241 (fx_v R (by decide +kernel)).symm
      refine go_iload_n (n := 2) (by decide +kernel) l_43 f2 ?_
      refine go_iald (kd := 100) (by decide +kernel) rfl R f_242 f2 (fx_k (c := 100) R (by decide +kernel)) (fx_x (a := 77) (ln := 4) R (by decide +kernel) g_218) fun v_243 f_244 => ?_
      have f_245 := q_is_eq f_244 e_221
      refine go_icmp (c := .lt) (o := 7) (t := 113) (P := w32 (x_228 - x_236) < x_220) (by decide +kernel) (by decide +kernel) f_239 f_245 (Iff.rfl) (fun hp_246 => ?_) (fun hp_246 => ?_)
      · have h := it_t hp_246 h
        refine go_iconst (n := 0) (z := 0) (by decide +kernel) (by decide) fun v_247 f_248 => ?_
        exact oj_X12_looksAtActivities_114 hd R l_41 f0 l_42 f1 l_43 f2 l_39 fs0 f_248 hc hQ h
      · have h := it_f hp_246 h
        refine go_iconst (n := 1) (z := 1) (by decide +kernel) (by decide) fun v_249 f_250 => ?_
        refine go_goto (o := 4) (t := 114) (by decide +kernel) (by decide +kernel) ?_
        exact oj_X12_looksAtActivities_114 hd R l_41 f0 l_42 f1 l_43 f2 l_39 fs0 f_250 hc hQ h
noncomputable def fl_X12_looksAtActivities_2 : Nat → Int → MM → Option (Int × MM)
  | 0, _, _ => none
  | n + 1, y1, m => lx (m 68 34) fun x_10 =>
if y1 < x_10 then
gd (0 ≤ y1 ∧ y1 < 60) <| lx (m 100 y1) fun x_20 =>
lx (m 102 y1) fun x_33 =>
if x_33 = 0 then
lx (m 103 y1) fun x_257 =>
if x_257 = 0 then
gd (0 ≤ x_20 ∧ x_20 < 4) <| lx (m 76 x_20) fun x_269 =>
if 0 < x_269 then
lx (m 68 0) fun x_277 =>
lx (m 104 y1) fun x_285 =>
if w32 (x_277 - x_285) < x_269 then
fj_X12_looksAtActivities_69 (fl_X12_looksAtActivities_2 n) y1 x_20 0 m
else
fj_X12_looksAtActivities_69 (fl_X12_looksAtActivities_2 n) y1 x_20 1 m
else
fj_X12_looksAtActivities_69 (fl_X12_looksAtActivities_2 n) y1 x_20 0 m
else
fj_X12_looksAtActivities_69 (fl_X12_looksAtActivities_2 n) y1 x_20 0 m
else
fj_X12_looksAtActivities_69 (fl_X12_looksAtActivities_2 n) y1 x_20 0 m
else
some (0, m)
set_option maxHeartbeats 4000000 in
theorem ol_X12_looksAtActivities_2 {xs : List Int32} {d : Nat} {Q : QO → QS → Prop} {mb : MM} {rz : Int} {rm : MM}
  (hd : 4 ≤ d)
  (hQ : Ext mb rm → ∀ o S1, Rp S1 rm → q_out 9 o rz → Q o S1) :
  ∀ (n : Nat) {m : MM} {S : QS} {L : QL} {y1 : Int} {v0 : Value} {v1 : Value} , Ext mb m → fl_X12_looksAtActivities_2 n y1 m = some (rz, rm) → Rp S m → q_lo L 0 = some v0 → q_is 2 v0 68 → q_lo L 1 = some v1 → q_is 0 v1 y1 → Go xs d qM_X12_looksAtActivities 2 L [] S Q := by
  intro n
  induction n with
  | zero => intro m S L y1 v0 v1; intro E h R l0 f0 l1 f1; cases h
  | succ n ih0 =>
    intro m S L y1 v0 v1; intro E h R l0 f0 l1 f1
    have ih : ∀ mq : MM, Ext mb mq → ∀ {z1 : Int} {Sq : QS} {Lq : QL} {u0 : Value} {u1 : Value}, fl_X12_looksAtActivities_2 n z1 mq = some (rz, rm) → Rp Sq mq → q_lo Lq 0 = some u0 → q_is 2 u0 68 → q_lo Lq 1 = some u1 → q_is 0 u1 z1 → Go xs d qM_X12_looksAtActivities 2 Lq [] Sq Q := fun mq b => by intros; exact ih0 b ‹_› ‹_› ‹_› ‹_› ‹_› ‹_›
    unfold fl_X12_looksAtActivities_2 at h
    refine go_iload_n (n := 1) (by decide +kernel) l1 f1 ?_
    refine go_aload_n (n := 0) (by decide +kernel) l0 f0 ?_
    obtain ⟨x_10, e_11, h⟩ := lx_s h
    refine go_getf (x := 549) (ci := 13) (kf := 34) (fin := 0) (t := 0) (by decide +kernel) (by decide +kernel) (by decide +kernel) R f0 (fx_k (c := 13) R (by decide +kernel)) fun v_7 f_8 => ?_
    have f_9 := q_is_eq f_8 e_11
    refine go_icmp (c := .ge) (o := 210) (t := 217) (P := ¬ (y1 < x_10)) (by decide +kernel) (by decide +kernel) f1 f_9 (Int.not_lt.symm) (fun hp_12 => ?_) (fun hp_12 => ?_)
    · have h := it_f hp_12 h
      cases h
      exact go_vret (by decide +kernel) rfl (hQ E _ _ R q_out_n)
    · have h := it_n hp_12 h
      refine go_aload_n (n := 0) (by decide +kernel) l0 f0 ?_
      refine go_getf (x := 110) (ci := 13) (kf := 37) (fin := 1) (t := 2) (by decide +kernel) (by decide +kernel) (by decide +kernel) R f0 (fx_k (c := 13) R (by decide +kernel)) fun v_13 f_14 => ?_
      have f_15 := q_is_eq (b := 100) f_14 (fx_v R (by decide +kernel)).symm
      refine go_iload_n (n := 1) (by decide +kernel) l1 f1 ?_
      obtain ⟨g_18, h⟩ := gd_s h
      obtain ⟨x_20, e_21, h⟩ := lx_s h
      refine go_iald (kd := 100) (by decide +kernel) rfl R f_15 f1 (fx_k (c := 100) R (by decide +kernel)) (fx_x (a := 100) (ln := 60) R (by decide +kernel) g_18) fun v_16 f_17 => ?_
      have f_19 := q_is_eq f_17 e_21
      refine go_istore_n (n := 2) (by decide +kernel) (by decide +kernel) f_19 fun L_22 l_23 kp_24 => ?_
      have l_25 := kp_24 0 _ l0 (by decide) (Or.inl (by decide))
      have l_26 := kp_24 1 _ l1 (by decide) (Or.inr (q_is_cat f1 (Or.inl rfl)))
      refine go_aload_n (n := 0) (by decide +kernel) l_25 f0 ?_
      refine go_getf (x := 116) (ci := 13) (kf := 39) (fin := 1) (t := 2) (by decide +kernel) (by decide +kernel) (by decide +kernel) R f0 (fx_k (c := 13) R (by decide +kernel)) fun v_27 f_28 => ?_
      have f_29 := q_is_eq (b := 102) f_28 (fx_v R (by decide +kernel)).symm
      refine go_iload_n (n := 1) (by decide +kernel) l_26 f1 ?_
      obtain ⟨x_33, e_34, h⟩ := lx_s h
      refine go_iald (kd := 100) (by decide +kernel) rfl R f_29 f1 (fx_k (c := 100) R (by decide +kernel)) (fx_x (a := 102) (ln := 60) R (by decide +kernel) g_18) fun v_30 f_31 => ?_
      have f_32 := q_is_eq f_31 e_34
      refine go_if (c := .ne) (o := 45) (t := 68) (P := ¬ (x_33 = 0)) (by decide +kernel) (by decide +kernel) f_32 (Iff.rfl) (fun hp_35 => ?_) (fun hp_35 => ?_)
      · have h := it_f hp_35 h
        refine go_iconst (n := 0) (z := 0) (by decide +kernel) (by decide) fun v_36 f_37 => ?_
        exact oj_X12_looksAtActivities_69 hd R l_25 f0 l_26 f1 l_23 f_19 f_37 (fun mq b => ih mq (Ext.tr E b)) (fun b => hQ (Ext.tr E b)) h
      · have h := it_n hp_35 h
        refine go_aload_n (n := 0) (by decide +kernel) l_25 f0 ?_
        refine go_getf (x := 119) (ci := 13) (kf := 40) (fin := 1) (t := 2) (by decide +kernel) (by decide +kernel) (by decide +kernel) R f0 (fx_k (c := 13) R (by decide +kernel)) fun v_251 f_252 => ?_
        have f_253 := q_is_eq (b := 103) f_252 (fx_v R (by decide +kernel)).symm
        refine go_iload_n (n := 1) (by decide +kernel) l_26 f1 ?_
        obtain ⟨x_257, e_258, h⟩ := lx_s h
        refine go_iald (kd := 100) (by decide +kernel) rfl R f_253 f1 (fx_k (c := 100) R (by decide +kernel)) (fx_x (a := 103) (ln := 60) R (by decide +kernel) g_18) fun v_254 f_255 => ?_
        have f_256 := q_is_eq f_255 e_258
        refine go_if (c := .ne) (o := 36) (t := 68) (P := ¬ (x_257 = 0)) (by decide +kernel) (by decide +kernel) f_256 (Iff.rfl) (fun hp_259 => ?_) (fun hp_259 => ?_)
        · have h := it_f hp_259 h
          refine go_iconst (n := 0) (z := 0) (by decide +kernel) (by decide) fun v_260 f_261 => ?_
          exact oj_X12_looksAtActivities_69 hd R l_25 f0 l_26 f1 l_23 f_19 f_261 (fun mq b => ih mq (Ext.tr E b)) (fun b => hQ (Ext.tr E b)) h
        · have h := it_n hp_259 h
          refine go_aload_n (n := 0) (by decide +kernel) l_25 f0 ?_
          refine go_getf (x := 31) (ci := 13) (kf := 8) (fin := 1) (t := 2) (by decide +kernel) (by decide +kernel) (by decide +kernel) R f0 (fx_k (c := 13) R (by decide +kernel)) fun v_262 f_263 => ?_
          have f_264 := q_is_eq (b := 76) f_263 (fx_v R (by decide +kernel)).symm
          refine go_iload_n (n := 2) (by decide +kernel) l_23 f_19 ?_
          obtain ⟨g_267, h⟩ := gd_s h
          obtain ⟨x_269, e_270, h⟩ := lx_s h
          refine go_iald (kd := 100) (by decide +kernel) rfl R f_264 f_19 (fx_k (c := 100) R (by decide +kernel)) (fx_x (a := 76) (ln := 4) R (by decide +kernel) g_267) fun v_265 f_266 => ?_
          have f_268 := q_is_eq f_266 e_270
          refine go_if (c := .le) (o := 27) (t := 68) (P := ¬ (0 < x_269)) (by decide +kernel) (by decide +kernel) f_268 (Int.not_lt.symm) (fun hp_271 => ?_) (fun hp_271 => ?_)
          · have h := it_f hp_271 h
            refine go_iconst (n := 0) (z := 0) (by decide +kernel) (by decide) fun v_272 f_273 => ?_
            exact oj_X12_looksAtActivities_69 hd R l_25 f0 l_26 f1 l_23 f_19 f_273 (fun mq b => ih mq (Ext.tr E b)) (fun b => hQ (Ext.tr E b)) h
          · have h := it_n hp_271 h
            refine go_aload_n (n := 0) (by decide +kernel) l_25 f0 ?_
            obtain ⟨x_277, e_278, h⟩ := lx_s h
            refine go_getf (x := 357) (ci := 13) (kf := 0) (fin := 0) (t := 0) (by decide +kernel) (by decide +kernel) (by decide +kernel) R f0 (fx_k (c := 13) R (by decide +kernel)) fun v_274 f_275 => ?_
            have f_276 := q_is_eq f_275 e_278
            refine go_aload_n (n := 0) (by decide +kernel) l_25 f0 ?_
            refine go_getf (x := 122) (ci := 13) (kf := 41) (fin := 1) (t := 2) (by decide +kernel) (by decide +kernel) (by decide +kernel) R f0 (fx_k (c := 13) R (by decide +kernel)) fun v_279 f_280 => ?_
            have f_281 := q_is_eq (b := 104) f_280 (fx_v R (by decide +kernel)).symm
            refine go_iload_n (n := 1) (by decide +kernel) l_26 f1 ?_
            obtain ⟨x_285, e_286, h⟩ := lx_s h
            refine go_iald (kd := 100) (by decide +kernel) rfl R f_281 f1 (fx_k (c := 100) R (by decide +kernel)) (fx_x (a := 104) (ln := 60) R (by decide +kernel) g_18) fun v_282 f_283 => ?_
            have f_284 := q_is_eq f_283 e_286
            refine go_isub (by decide +kernel) f_276 f_284 fun v_287 f_288 => ?_
            refine go_aload_n (n := 0) (by decide +kernel) l_25 f0 ?_
            refine go_getf (x := 31) (ci := 13) (kf := 8) (fin := 1) (t := 2) (by decide +kernel) (by decide +kernel) (by decide +kernel) R f0 (fx_k (c := 13) R (by decide +kernel)) fun v_289 f_290 => ?_
            have f_291 := q_is_eq (b := 76) f_290 (fx_v R (by decide +kernel)).symm
            refine go_iload_n (n := 2) (by decide +kernel) l_23 f_19 ?_
            refine go_iald (kd := 100) (by decide +kernel) rfl R f_291 f_19 (fx_k (c := 100) R (by decide +kernel)) (fx_x (a := 76) (ln := 4) R (by decide +kernel) g_267) fun v_292 f_293 => ?_
            have f_294 := q_is_eq f_293 e_270
            refine go_icmp (c := .lt) (o := 7) (t := 68) (P := w32 (x_277 - x_285) < x_269) (by decide +kernel) (by decide +kernel) f_288 f_294 (Iff.rfl) (fun hp_295 => ?_) (fun hp_295 => ?_)
            · have h := it_t hp_295 h
              refine go_iconst (n := 0) (z := 0) (by decide +kernel) (by decide) fun v_296 f_297 => ?_
              exact oj_X12_looksAtActivities_69 hd R l_25 f0 l_26 f1 l_23 f_19 f_297 (fun mq b => ih mq (Ext.tr E b)) (fun b => hQ (Ext.tr E b)) h
            · have h := it_f hp_295 h
              refine go_iconst (n := 1) (z := 1) (by decide +kernel) (by decide) fun v_298 f_299 => ?_
              refine go_goto (o := 4) (t := 69) (by decide +kernel) (by decide +kernel) ?_
              exact oj_X12_looksAtActivities_69 hd R l_25 f0 l_26 f1 l_23 f_19 f_299 (fun mq b => ih mq (Ext.tr E b)) (fun b => hQ (Ext.tr E b)) h
noncomputable def fm_X12_looksAtActivities (m0 : MM) : Option (Int × MM) := fl_X12_looksAtActivities_2   BIG 0 m0
set_option maxHeartbeats 4000000 in
theorem om_X12_looksAtActivities {xs : List Int32} {d : Nat} {S : QS} {m0 : MM} {v0 : Value} {rz : Int} {rm : MM}
  (hd : 5 ≤ d) (R : Rp S m0) (f0 : q_is 2 v0 68)
  (h : fm_X12_looksAtActivities m0 = some (rz, rm)) : Mt xs d 292 [v0] S (Cr 9 m0 rm rz) := by
  obtain ⟨d, rfl⟩ : ∃ e, d = e + 1 := ⟨d - 1, by omega⟩
  have hd : 4 ≤ d := Nat.le_of_succ_le_succ hd
  refine Mt.of (M := qM_X12_looksAtActivities) rfl (by rw [sl_1 (q_is_cat f0 (Or.inr rfl)), sl_0]; decide) ?_
  rw [la_1 (q_is_cat f0 (Or.inr rfl)), la_0]
  obtain ⟨L, hL⟩ : ∃ L : QL, L = [(0, v0)] := ⟨_, rfl⟩
  rw [← hL]
  have l0 : q_lo L 0 = some v0 := by rw [hL]; rfl
  have hQ : Ext m0 rm → ∀ o S1, Rp S1 rm → q_out 9 o rz → (Cr 9 m0 rm rz) o S1 := fun a o S1 b e => ⟨b, a, e⟩
  unfold fm_X12_looksAtActivities at h
  refine go_iconst (n := 0) (z := 0) (by decide +kernel) (by decide) fun v_1 f_2 => ?_
  refine go_istore_n (n := 1) (by decide +kernel) (by decide +kernel) f_2 fun L_3 l_4 kp_5 => ?_
  have l_6 := kp_5 0 _ l0 (by decide) (Or.inr (q_is_cat f0 (Or.inr rfl)))
  refine ol_X12_looksAtActivities_2 hd   hQ BIG (Ext.rf _) h R l_6 f0 l_4 f_2
end DF42
