/-! Methods as functions (written by wip/whole/dec.py), 35: X12_tellsParent, X12_closes, X12_begin, X12_isName, X12_signal. -/
section DF35
noncomputable def fj_X12_tellsParent_59 ( s0 s1 s2 s3 : Int) (m : MM) : Option (Int × MM) := bd (fm_X12_puts s3 s2 s1 s0 m) fun x_65 m_66 =>
some (0, m_66)
set_option maxHeartbeats 4000000 in
theorem oj_X12_tellsParent_59 {xs : List Int32} {d : Nat} {S : QS} {L : QL} {Q : QO → QS → Prop} {m : MM} {s0 s1 s2 s3 : Int} {w0 : Value} {w1 : Value} {w2 : Value} {w3 : Value} {w4 : Value}  {rz : Int} {rm : MM}
  (hd : 3 ≤ d) (R : Rp S m) (fs0 : q_is 0 w0 s0) (fs1 : q_is 0 w1 s1) (fs2 : q_is 0 w2 s2) (fs3 : q_is 0 w3 s3) (fs4 : q_is 2 w4 68)
  (hQ : Ext m rm → ∀ o S1, Rp S1 rm → q_out 9 o rz → Q o S1)
  (h : fj_X12_tellsParent_59 s0 s1 s2 s3 m = some (rz, rm)) : Go xs d qM_X12_tellsParent 59 L [w0, w1, w2, w3, w4] S Q := by
  unfold fj_X12_tellsParent_59 at h
  obtain ⟨x_65, m_66, hc_64, h⟩ := bd_s h
  refine go_callV (x := 360) (mi := 210) (n := 4) (ci := 13) (as := [w3, w2, w1, w0]) (rest := []) (by decide +kernel) (by decide +kernel) rfl rfl (q_sum8 _ (Nat.le_of_ble_eq_true rfl)) R fs4 (fx_k (c := 13) R (by decide +kernel)) (om_X12_puts (Nat.le_trans (by decide) hd) R fs4 fs3 fs2 fs1 fs0 hc_64) (fun _ S_69 q_72 => ?_) (fun _ _ qq => kr_x qq)
  refine kr_z (by decide) q_72 fun v_67 f_68 R_70 E_71 => ?_
  have E_75 := E_71
  refine go_pop (by decide +kernel) f_68 (Or.inl rfl) ?_
  cases h
  exact go_vret (by decide +kernel) rfl (hQ E_75 _ _ R_70 q_out_n)
noncomputable def fj_X12_tellsParent_38 (y1 y2 s0 s1 : Int) (m : MM) : Option (Int × MM) := gd (0 ≤ y1 ∧ y1 < 30) <| lx (m 85 y1) fun x_49 =>
lx (m 83 y1) fun x_57 =>
if x_57 = 1 then
fj_X12_tellsParent_59 y2 x_49 s0 s1 m
else
fj_X12_tellsParent_59 0 x_49 s0 s1 m
set_option maxHeartbeats 4000000 in
theorem oj_X12_tellsParent_38 {xs : List Int32} {d : Nat} {S : QS} {L : QL} {Q : QO → QS → Prop} {m : MM} {y1 y2 s0 s1 : Int} {v0 : Value} {v1 : Value} {v2 : Value} {w0 : Value} {w1 : Value} {w2 : Value}  {rz : Int} {rm : MM}
  (hd : 3 ≤ d) (R : Rp S m) (l0 : q_lo L 0 = some v0) (f0 : q_is 2 v0 68) (l1 : q_lo L 1 = some v1) (f1 : q_is 0 v1 y1) (l2 : q_lo L 2 = some v2) (f2 : q_is 0 v2 y2) (fs0 : q_is 0 w0 s0) (fs1 : q_is 0 w1 s1) (fs2 : q_is 2 w2 68)
  (hQ : Ext m rm → ∀ o S1, Rp S1 rm → q_out 9 o rz → Q o S1)
  (h : fj_X12_tellsParent_38 y1 y2 s0 s1 m = some (rz, rm)) : Go xs d qM_X12_tellsParent 38 L [w0, w1, w2] S Q := by
  unfold fj_X12_tellsParent_38 at h
  refine go_aload_n (n := 0) (by decide +kernel) l0 f0 ?_
  refine go_getf (x := 58) (ci := 13) (kf := 18) (fin := 1) (t := 2) (by decide +kernel) (by decide +kernel) (by decide +kernel) R f0 (fx_k (c := 13) R (by decide +kernel)) fun v_42 f_43 => ?_
  have f_44 := q_is_eq (b := 85) f_43 (fx_v R (by decide +kernel)).symm
  refine go_iload_n (n := 1) (by decide +kernel) l1 f1 ?_
  obtain ⟨g_47, h⟩ := gd_s h
  obtain ⟨x_49, e_50, h⟩ := lx_s h
  refine go_iald (kd := 100) (by decide +kernel) rfl R f_44 f1 (fx_k (c := 100) R (by decide +kernel)) (fx_x (a := 85) (ln := 30) R (by decide +kernel) g_47) fun v_45 f_46 => ?_
  have f_48 := q_is_eq f_46 e_50
  refine go_aload_n (n := 0) (by decide +kernel) l0 f0 ?_
  refine go_getf (x := 52) (ci := 13) (kf := 16) (fin := 1) (t := 2) (by decide +kernel) (by decide +kernel) (by decide +kernel) R f0 (fx_k (c := 13) R (by decide +kernel)) fun v_51 f_52 => ?_
  have f_53 := q_is_eq (b := 83) f_52 (fx_v R (by decide +kernel)).symm
  refine go_iload_n (n := 1) (by decide +kernel) l1 f1 ?_
  obtain ⟨x_57, e_58, h⟩ := lx_s h
  refine go_iald (kd := 100) (by decide +kernel) rfl R f_53 f1 (fx_k (c := 100) R (by decide +kernel)) (fx_x (a := 83) (ln := 30) R (by decide +kernel) g_47) fun v_54 f_55 => ?_
  have f_56 := q_is_eq f_55 e_58
  refine go_iconst (n := 1) (z := 1) (by decide +kernel) (by decide) fun v_59 f_60 => ?_
  refine go_icmp (c := .ne) (o := 7) (t := 58) (P := ¬ (x_57 = 1)) (by decide +kernel) (by decide +kernel) f_56 f_60 (Iff.rfl) (fun hp_61 => ?_) (fun hp_61 => ?_)
  · have h := it_f hp_61 h
    refine go_iconst (n := 0) (z := 0) (by decide +kernel) (by decide) fun v_62 f_63 => ?_
    exact oj_X12_tellsParent_59 hd R f_63 f_48 fs0 fs1 fs2 hQ h
  · have h := it_n hp_61 h
    refine go_iload_n (n := 2) (by decide +kernel) l2 f2 ?_
    refine go_goto (o := 4) (t := 59) (by decide +kernel) (by decide +kernel) ?_
    exact oj_X12_tellsParent_59 hd R f2 f_48 fs0 fs1 fs2 hQ h
noncomputable def fm_X12_tellsParent (p1 p2 : Int) (m0 : MM) : Option (Int × MM) := gd (0 ≤ p1 ∧ p1 < 30) <| lx (m0 84 p1) fun x_8 =>
if x_8 = (-1) then
some (0, m0)
else
bp (fm_X12_isAlive x_8 m0) fun x_20 =>
if x_20 = 0 then
some (0, m0)
else
lx (m0 83 p1) fun x_35 =>
if x_35 = 1 then
fj_X12_tellsParent_38 p1 p2 5 x_8 m0
else
fj_X12_tellsParent_38 p1 p2 6 x_8 m0
set_option maxHeartbeats 4000000 in
theorem om_X12_tellsParent {xs : List Int32} {d : Nat} {S : QS} {m0 : MM} {p1 p2 : Int} {v0 : Value} {v1 : Value} {v2 : Value} {rz : Int} {rm : MM}
  (hd : 4 ≤ d) (R : Rp S m0) (f0 : q_is 2 v0 68) (f1 : q_is 0 v1 p1) (f2 : q_is 0 v2 p2)
  (h : fm_X12_tellsParent p1 p2 m0 = some (rz, rm)) : Mt xs d 256 [v0, v1, v2] S (Cr 9 m0 rm rz) := by
  obtain ⟨d, rfl⟩ : ∃ e, d = e + 1 := ⟨d - 1, by omega⟩
  have hd : 3 ≤ d := Nat.le_of_succ_le_succ hd
  refine Mt.of (M := qM_X12_tellsParent) rfl (by rw [sl_1 (q_is_cat f0 (Or.inr rfl)), sl_1 (q_is_cat f1 (Or.inl rfl)), sl_1 (q_is_cat f2 (Or.inl rfl)), sl_0]; decide) ?_
  rw [la_1 (q_is_cat f0 (Or.inr rfl)), la_1 (q_is_cat f1 (Or.inl rfl)), la_1 (q_is_cat f2 (Or.inl rfl)), la_0]
  obtain ⟨L, hL⟩ : ∃ L : QL, L = [(0, v0), (0 + 1, v1), (0 + 1 + 1, v2)] := ⟨_, rfl⟩
  rw [← hL]
  have l0 : q_lo L 0 = some v0 := by rw [hL]; rfl
  have l1 : q_lo L 1 = some v1 := by rw [hL]; rfl
  have l2 : q_lo L 2 = some v2 := by rw [hL]; rfl
  have hQ : Ext m0 rm → ∀ o S1, Rp S1 rm → q_out 9 o rz → (Cr 9 m0 rm rz) o S1 := fun a o S1 b e => ⟨b, a, e⟩
  unfold fm_X12_tellsParent at h
  refine go_aload_n (n := 0) (by decide +kernel) l0 f0 ?_
  refine go_getf (x := 55) (ci := 13) (kf := 17) (fin := 1) (t := 2) (by decide +kernel) (by decide +kernel) (by decide +kernel) R f0 (fx_k (c := 13) R (by decide +kernel)) fun v_1 f_2 => ?_
  have f_3 := q_is_eq (b := 84) f_2 (fx_v R (by decide +kernel)).symm
  refine go_iload_n (n := 1) (by decide +kernel) l1 f1 ?_
  obtain ⟨g_6, h⟩ := gd_s h
  obtain ⟨x_8, e_9, h⟩ := lx_s h
  refine go_iald (kd := 100) (by decide +kernel) rfl R f_3 f1 (fx_k (c := 100) R (by decide +kernel)) (fx_x (a := 84) (ln := 30) R (by decide +kernel) g_6) fun v_4 f_5 => ?_
  have f_7 := q_is_eq f_5 e_9
  refine go_istore_n (n := 3) (by decide +kernel) (by decide +kernel) f_7 fun L_10 l_11 kp_12 => ?_
  have l_13 := kp_12 0 _ l0 (by decide) (Or.inl (by decide))
  have l_14 := kp_12 1 _ l1 (by decide) (Or.inl (by decide))
  have l_15 := kp_12 2 _ l2 (by decide) (Or.inr (q_is_cat f2 (Or.inl rfl)))
  refine go_iload_n (n := 3) (by decide +kernel) l_11 f_7 ?_
  refine go_iconst (n := (-1)) (z := (-1)) (by decide +kernel) (by decide) fun v_16 f_17 => ?_
  refine go_icmp (c := .eq) (o := 54) (t := 63) (P := x_8 = (-1)) (by decide +kernel) (by decide +kernel) f_7 f_17 (Iff.rfl) (fun hp_18 => ?_) (fun hp_18 => ?_)
  · have h := it_t hp_18 h
    cases h
    exact go_vret (by decide +kernel) rfl (hQ (Ext.rf _) _ _ R q_out_n)
  · have h := it_f hp_18 h
    refine go_aload_n (n := 0) (by decide +kernel) l_13 f0 ?_
    refine go_iload_n (n := 3) (by decide +kernel) l_11 f_7 ?_
    obtain ⟨x_20, hc_19, h⟩ := bp_s h
    refine go_callV (x := 561) (mi := 213) (n := 1) (ci := 13) (as := [v_4]) (rest := []) (by decide +kernel) (by decide +kernel) rfl rfl (q_sum8 _ (Nat.le_of_ble_eq_true rfl)) R f0 (fx_k (c := 13) R (by decide +kernel)) (om_X12_isAlive (Nat.le_trans (by decide) hd) R f0 f_7 hc_19) (fun _ S_24 q_27 => ?_) (fun _ _ qq => kr_x qq)
    refine kr_z (by decide) q_27 fun v_22 f_23 R_25 E_26 => ?_
    refine go_if (c := .eq) (o := 46) (t := 63) (P := x_20 = 0) (by decide +kernel) (by decide +kernel) f_23 (Iff.rfl) (fun hp_28 => ?_) (fun hp_28 => ?_)
    · have h := it_t hp_28 h
      cases h
      exact go_vret (by decide +kernel) rfl (hQ (Ext.rf _) _ _ R_25 q_out_n)
    · have h := it_f hp_28 h
      refine go_aload_n (n := 0) (by decide +kernel) l_13 f0 ?_
      refine go_iload_n (n := 3) (by decide +kernel) l_11 f_7 ?_
      refine go_aload_n (n := 0) (by decide +kernel) l_13 f0 ?_
      refine go_getf (x := 52) (ci := 13) (kf := 16) (fin := 1) (t := 2) (by decide +kernel) (by decide +kernel) (by decide +kernel) R_25 f0 (fx_k (c := 13) R_25 (by decide +kernel)) fun v_29 f_30 => ?_
      have f_31 := q_is_eq (b := 83) f_30 (fx_v R_25 (by decide +kernel)).symm
      refine go_iload_n (n := 1) (by decide +kernel) l_14 f1 ?_
      obtain ⟨x_35, e_36, h⟩ := lx_s h
      refine go_iald (kd := 100) (by decide +kernel) rfl R_25 f_31 f1 (fx_k (c := 100) R_25 (by decide +kernel)) (fx_x (a := 83) (ln := 30) R_25 (by decide +kernel) g_6) fun v_32 f_33 => ?_
      have f_34 := q_is_eq f_33 e_36
      refine go_iconst (n := 1) (z := 1) (by decide +kernel) (by decide) fun v_37 f_38 => ?_
      refine go_icmp (c := .ne) (o := 7) (t := 36) (P := ¬ (x_35 = 1)) (by decide +kernel) (by decide +kernel) f_34 f_38 (Iff.rfl) (fun hp_39 => ?_) (fun hp_39 => ?_)
      · have h := it_f hp_39 h
        refine go_bipush (n := 6) (z := 6) (by decide +kernel) (by decide) fun v_40 f_41 => ?_
        exact oj_X12_tellsParent_38 hd R_25 l_13 f0 l_14 f1 l_15 f2 f_41 f_7 f0 hQ h
      · have h := it_n hp_39 h
        refine go_iconst (n := 5) (z := 5) (by decide +kernel) (by decide) fun v_76 f_77 => ?_
        refine go_goto (o := 5) (t := 38) (by decide +kernel) (by decide +kernel) ?_
        exact oj_X12_tellsParent_38 hd R_25 l_13 f0 l_14 f1 l_15 f2 f_77 f_7 f0 hQ h
noncomputable def fl_X12_closes_45 (y2 y3 y4 y5 : Int) (m : MM) (k82 : Int → Option (Int × MM)) : Nat → Int → Option (Int × MM)
  | 0, _ => none
  | n + 1, y6 => lx (m 68 12) fun x_84 =>
if y6 < x_84 then
gd (0 ≤ y6 ∧ y6 < 30) <| lx (m 84 y6) fun x_94 =>
if x_94 = y5 then
lx (m 83 y6) fun x_116 =>
if x_116 = 0 then
k82 y6
else
lx (w32 (y6 + 1)) fun x_124 =>
fl_X12_closes_45 y2 y3 y4 y5 m k82 n x_124
else
lx (w32 (y6 + 1)) fun x_102 =>
fl_X12_closes_45 y2 y3 y4 y5 m k82 n x_102
else
k82 y6
set_option maxHeartbeats 4000000 in
theorem ol_X12_closes_45 {xs : List Int32} {d : Nat} {Q : QO → QS → Prop} {m : MM} {y2 y3 y4 y5 : Int} {k82 : Int → Option (Int × MM)} {rz : Int} {rm : MM}
  (hd : 4 ≤ d)
  (hk82 : ∀ {z6 : Int} {Sq : QS} {Lq : QL} {u0 : Value} {u2 : Value} {u3 : Value} {u4 : Value} {u5 : Value} {u6 : Value}, k82 z6 = some (rz, rm) → Rp Sq m → q_lo Lq 0 = some u0 → q_is 2 u0 68 → q_lo Lq 2 = some u2 → q_is 0 u2 y2 → q_lo Lq 3 = some u3 → q_is 0 u3 y3 → q_lo Lq 4 = some u4 → q_is 0 u4 y4 → q_lo Lq 5 = some u5 → q_is 0 u5 y5 → q_lo Lq 6 = some u6 → q_is 0 u6 z6 → Go xs d qM_X12_closes 82 Lq [] Sq Q)
  (hQ : Ext m rm → ∀ o S1, Rp S1 rm → q_out 9 o rz → Q o S1) :
  ∀ (n : Nat) {S : QS} {L : QL} {y6 : Int} {v0 : Value} {v2 : Value} {v3 : Value} {v4 : Value} {v5 : Value} {v6 : Value} , fl_X12_closes_45 y2 y3 y4 y5 m k82 n y6 = some (rz, rm) → Rp S m → q_lo L 0 = some v0 → q_is 2 v0 68 → q_lo L 2 = some v2 → q_is 0 v2 y2 → q_lo L 3 = some v3 → q_is 0 v3 y3 → q_lo L 4 = some v4 → q_is 0 v4 y4 → q_lo L 5 = some v5 → q_is 0 v5 y5 → q_lo L 6 = some v6 → q_is 0 v6 y6 → Go xs d qM_X12_closes 45 L [] S Q := by
  intro n
  induction n with
  | zero => intro S L y6 v0 v2 v3 v4 v5 v6; intro h R l0 f0 l2 f2 l3 f3 l4 f4 l5 f5 l6 f6; cases h
  | succ n ih0 =>
    intro S L y6 v0 v2 v3 v4 v5 v6; intro h R l0 f0 l2 f2 l3 f3 l4 f4 l5 f5 l6 f6
    have ih : ∀ {z6 : Int} {Sq : QS} {Lq : QL} {u0 : Value} {u2 : Value} {u3 : Value} {u4 : Value} {u5 : Value} {u6 : Value}, fl_X12_closes_45 y2 y3 y4 y5 m k82 n z6 = some (rz, rm) → Rp Sq m → q_lo Lq 0 = some u0 → q_is 2 u0 68 → q_lo Lq 2 = some u2 → q_is 0 u2 y2 → q_lo Lq 3 = some u3 → q_is 0 u3 y3 → q_lo Lq 4 = some u4 → q_is 0 u4 y4 → q_lo Lq 5 = some u5 → q_is 0 u5 y5 → q_lo Lq 6 = some u6 → q_is 0 u6 z6 → Go xs d qM_X12_closes 45 Lq [] Sq Q := by intros; exact ih0 ‹_› ‹_› ‹_› ‹_› ‹_› ‹_› ‹_› ‹_› ‹_› ‹_› ‹_› ‹_› ‹_› ‹_›
    unfold fl_X12_closes_45 at h
    refine go_iload (n := 6) (by decide +kernel) l6 f6 ?_
    refine go_aload_n (n := 0) (by decide +kernel) l0 f0 ?_
    obtain ⟨x_84, e_85, h⟩ := lx_s h
    refine go_getf (x := 310) (ci := 13) (kf := 12) (fin := 0) (t := 0) (by decide +kernel) (by decide +kernel) (by decide +kernel) R f0 (fx_k (c := 13) R (by decide +kernel)) fun v_81 f_82 => ?_
    have f_83 := q_is_eq f_82 e_85
    refine go_icmp (c := .ge) (o := 31) (t := 82) (P := ¬ (y6 < x_84)) (by decide +kernel) (by decide +kernel) f6 f_83 (Int.not_lt.symm) (fun hp_86 => ?_) (fun hp_86 => ?_)
    · have h := it_f hp_86 h
      exact hk82 h R l0 f0 l2 f2 l3 f3 l4 f4 l5 f5 l6 f6
    · have h := it_n hp_86 h
      refine go_aload_n (n := 0) (by decide +kernel) l0 f0 ?_
      refine go_getf (x := 55) (ci := 13) (kf := 17) (fin := 1) (t := 2) (by decide +kernel) (by decide +kernel) (by decide +kernel) R f0 (fx_k (c := 13) R (by decide +kernel)) fun v_87 f_88 => ?_
      have f_89 := q_is_eq (b := 84) f_88 (fx_v R (by decide +kernel)).symm
      refine go_iload (n := 6) (by decide +kernel) l6 f6 ?_
      obtain ⟨g_92, h⟩ := gd_s h
      obtain ⟨x_94, e_95, h⟩ := lx_s h
      refine go_iald (kd := 100) (by decide +kernel) rfl R f_89 f6 (fx_k (c := 100) R (by decide +kernel)) (fx_x (a := 84) (ln := 30) R (by decide +kernel) g_92) fun v_90 f_91 => ?_
      have f_93 := q_is_eq f_91 e_95
      refine go_iload (n := 5) (by decide +kernel) l5 f5 ?_
      refine go_icmp (c := .ne) (o := 13) (t := 76) (P := ¬ (x_94 = y5)) (by decide +kernel) (by decide +kernel) f_93 f5 (Iff.rfl) (fun hp_96 => ?_) (fun hp_96 => ?_)
      · have h := it_f hp_96 h
        refine go_iinc (n := 6) (c := 1) (c' := 1) (by decide +kernel) (by decide +kernel) l6 f6 (by decide) fun L_97 v_98 f_99 l_100 kp_101 => ?_
        obtain ⟨x_102, e_103, h⟩ := lx_s h
        have f_104 := q_is_eq f_99 e_103
        have l_105 := kp_101 0 _ l0 (by decide) (Or.inl (by decide))
        have l_106 := kp_101 2 _ l2 (by decide) (Or.inl (by decide))
        have l_107 := kp_101 3 _ l3 (by decide) (Or.inl (by decide))
        have l_108 := kp_101 4 _ l4 (by decide) (Or.inl (by decide))
        have l_109 := kp_101 5 _ l5 (by decide) (Or.inr (q_is_cat f5 (Or.inl rfl)))
        refine go_goto (o := (-34)) (t := 45) (by decide +kernel) (by decide +kernel) ?_
        exact ih h R l_105 f0 l_106 f2 l_107 f3 l_108 f4 l_109 f5 l_100 f_104
      · have h := it_n hp_96 h
        refine go_aload_n (n := 0) (by decide +kernel) l0 f0 ?_
        refine go_getf (x := 52) (ci := 13) (kf := 16) (fin := 1) (t := 2) (by decide +kernel) (by decide +kernel) (by decide +kernel) R f0 (fx_k (c := 13) R (by decide +kernel)) fun v_110 f_111 => ?_
        have f_112 := q_is_eq (b := 83) f_111 (fx_v R (by decide +kernel)).symm
        refine go_iload (n := 6) (by decide +kernel) l6 f6 ?_
        obtain ⟨x_116, e_117, h⟩ := lx_s h
        refine go_iald (kd := 100) (by decide +kernel) rfl R f_112 f6 (fx_k (c := 100) R (by decide +kernel)) (fx_x (a := 83) (ln := 30) R (by decide +kernel) g_92) fun v_113 f_114 => ?_
        have f_115 := q_is_eq f_114 e_117
        refine go_if (c := .eq) (o := 9) (t := 82) (P := x_116 = 0) (by decide +kernel) (by decide +kernel) f_115 (Iff.rfl) (fun hp_118 => ?_) (fun hp_118 => ?_)
        · have h := it_t hp_118 h
          exact hk82 h R l0 f0 l2 f2 l3 f3 l4 f4 l5 f5 l6 f6
        · have h := it_f hp_118 h
          refine go_iinc (n := 6) (c := 1) (c' := 1) (by decide +kernel) (by decide +kernel) l6 f6 (by decide) fun L_119 v_120 f_121 l_122 kp_123 => ?_
          obtain ⟨x_124, e_125, h⟩ := lx_s h
          have f_126 := q_is_eq f_121 e_125
          have l_127 := kp_123 0 _ l0 (by decide) (Or.inl (by decide))
          have l_128 := kp_123 2 _ l2 (by decide) (Or.inl (by decide))
          have l_129 := kp_123 3 _ l3 (by decide) (Or.inl (by decide))
          have l_130 := kp_123 4 _ l4 (by decide) (Or.inl (by decide))
          have l_131 := kp_123 5 _ l5 (by decide) (Or.inr (q_is_cat f5 (Or.inl rfl)))
          refine go_goto (o := (-34)) (t := 45) (by decide +kernel) (by decide +kernel) ?_
          exact ih h R l_127 f0 l_128 f2 l_129 f3 l_130 f4 l_131 f5 l_122 f_126
noncomputable def fj_X12_closes_111 (c : Int → MM → Option (Int × MM)) (y2 y3 y4 y5 : Int) (m : MM) : Option (Int × MM) := bd (fm_X12_tellsParent y5 y3 m) fun x_283 m_284 =>
lx (w32 (y4 + (-1))) fun x_299 =>
c x_299 m_284
set_option maxHeartbeats 4000000 in
theorem oj_X12_closes_111 {xs : List Int32} {d : Nat} {S : QS} {L : QL} {Q : QO → QS → Prop} {m : MM} {y2 y3 y4 y5 : Int} {v0 : Value} {v2 : Value} {v3 : Value} {v4 : Value} {v5 : Value}  {rz : Int} {rm : MM} {c : Int → MM → Option (Int × MM)} 
  (hd : 4 ≤ d) (R : Rp S m) (l0 : q_lo L 0 = some v0) (f0 : q_is 2 v0 68) (l2 : q_lo L 2 = some v2) (f2 : q_is 0 v2 y2) (l3 : q_lo L 3 = some v3) (f3 : q_is 0 v3 y3) (l4 : q_lo L 4 = some v4) (f4 : q_is 0 v4 y4) (l5 : q_lo L 5 = some v5) (f5 : q_is 0 v5 y5)
  (hc : ∀ mq : MM, Ext m mq → ∀ {z4 : Int} {Sq : QS} {Lq : QL} {u0 : Value} {u2 : Value} {u3 : Value} {u4 : Value}, c z4 mq = some (rz, rm) → Rp Sq mq → q_lo Lq 0 = some u0 → q_is 2 u0 68 → q_lo Lq 2 = some u2 → q_is 0 u2 y2 → q_lo Lq 3 = some u3 → q_is 0 u3 y3 → q_lo Lq 4 = some u4 → q_is 0 u4 z4 → Go xs d qM_X12_closes 22 Lq [] Sq Q)
  (hQ : Ext m rm → ∀ o S1, Rp S1 rm → q_out 9 o rz → Q o S1)
  (h : fj_X12_closes_111 c y2 y3 y4 y5 m = some (rz, rm)) : Go xs d qM_X12_closes 111 L [] S Q := by
  unfold fj_X12_closes_111 at h
  refine go_aload_n (n := 0) (by decide +kernel) l0 f0 ?_
  refine go_iload (n := 5) (by decide +kernel) l5 f5 ?_
  refine go_iload_n (n := 3) (by decide +kernel) l3 f3 ?_
  obtain ⟨x_283, m_284, hc_282, h⟩ := bd_s h
  refine go_callV (x := 567) (mi := 256) (n := 2) (ci := 13) (as := [v5, v3]) (rest := []) (by decide +kernel) (by decide +kernel) rfl rfl (q_sum8 _ (Nat.le_of_ble_eq_true rfl)) R f0 (fx_k (c := 13) R (by decide +kernel)) (om_X12_tellsParent (Nat.le_trans (by decide) hd) R f0 f5 f3 hc_282) (fun _ S_287 q_290 => ?_) (fun _ _ qq => kr_x qq)
  refine kr_v q_290 fun R_288 E_289 => ?_
  have E_293 := E_289
  refine go_iinc (n := 4) (c := (-1)) (c' := (-1)) (by decide +kernel) (by decide +kernel) l4 f4 (by decide) fun L_294 v_295 f_296 l_297 kp_298 => ?_
  obtain ⟨x_299, e_300, h⟩ := lx_s h
  have f_301 := q_is_eq f_296 e_300
  have l_302 := kp_298 0 _ l0 (by decide) (Or.inl (by decide))
  have l_303 := kp_298 2 _ l2 (by decide) (Or.inl (by decide))
  have l_304 := kp_298 3 _ l3 (by decide) (Or.inr (q_is_cat f3 (Or.inl rfl)))
  refine go_goto (o := 79) (t := 200) (by decide +kernel) (by decide +kernel) ?_
  refine go_goto (o := (-178)) (t := 22) (by decide +kernel) (by decide +kernel) ?_
  exact hc m_284 E_293 h R_288 l_302 f0 l_303 f2 l_304 f3 l_297 f_301
noncomputable def fl_X12_closes_22 (y2 y3 : Int) : Nat → Int → MM → Option (Int × MM)
  | 0, _, _ => none
  | n + 1, y4, m => if y4 < 0 then
some (0, m)
else
gd (0 ≤ y4 ∧ y4 < 31) <| lx (m 160 y4) fun x_56 =>
lx (m 161 y4) fun x_71 =>
fl_X12_closes_45 y2 y3 y4 x_56 m (fun x_132 =>
up m 161 y4 (w32 (x_132 + 1)) fun m_161 =>
lx (m_161 68 12) fun x_171 =>
if x_132 < x_171 then
gd (0 ≤ x_132 ∧ x_132 < 30) <| lx (m_161 80 x_132) fun x_184 =>
gd (0 ≤ x_184 ∧ x_184 < 4) <| lx (m_161 79 x_184) fun x_190 =>
if x_190 = 1 then
bd (fm_X12_cancels x_132 m_161) fun x_270 m_271 =>
fl_X12_closes_22 y2 y3 n y4 m_271
else
if x_190 = 2 then
up m_161 83 x_132 5 fun m_215 =>
bd (fm_X12_stops x_132 m_215) fun x_223 m_224 =>
lx (w32 (y4 + 1)) fun x_239 =>
gd (0 ≤ x_239 ∧ x_239 < 31) <| up m_224 160 x_239 x_132 fun m_250 =>
up m_250 161 x_239 0 fun m_262 =>
fl_X12_closes_22 y2 y3 n x_239 m_262
else
fl_X12_closes_22 y2 y3 n y4 m_161
else
if 0 < y4 then
fj_X12_closes_111 (fl_X12_closes_22 y2 y3 n) y2 y3 y4 x_56 m_161
else
if y2 = 0 then
lx (w32 (y4 + (-1))) fun x_311 =>
fl_X12_closes_22 y2 y3 n x_311 m_161
else
fj_X12_closes_111 (fl_X12_closes_22 y2 y3 n) y2 y3 y4 x_56 m_161) BIG x_71
set_option maxHeartbeats 4000000 in
theorem ol_X12_closes_22 {xs : List Int32} {d : Nat} {Q : QO → QS → Prop} {mb : MM} {y2 y3 : Int} {rz : Int} {rm : MM}
  (hd : 4 ≤ d)
  (hQ : Ext mb rm → ∀ o S1, Rp S1 rm → q_out 9 o rz → Q o S1) :
  ∀ (n : Nat) {m : MM} {S : QS} {L : QL} {y4 : Int} {v0 : Value} {v2 : Value} {v3 : Value} {v4 : Value} , Ext mb m → fl_X12_closes_22 y2 y3 n y4 m = some (rz, rm) → Rp S m → q_lo L 0 = some v0 → q_is 2 v0 68 → q_lo L 2 = some v2 → q_is 0 v2 y2 → q_lo L 3 = some v3 → q_is 0 v3 y3 → q_lo L 4 = some v4 → q_is 0 v4 y4 → Go xs d qM_X12_closes 22 L [] S Q := by
  intro n
  induction n with
  | zero => intro m S L y4 v0 v2 v3 v4; intro E h R l0 f0 l2 f2 l3 f3 l4 f4; cases h
  | succ n ih0 =>
    intro m S L y4 v0 v2 v3 v4; intro E h R l0 f0 l2 f2 l3 f3 l4 f4
    have ih : ∀ mq : MM, Ext mb mq → ∀ {z4 : Int} {Sq : QS} {Lq : QL} {u0 : Value} {u2 : Value} {u3 : Value} {u4 : Value}, fl_X12_closes_22 y2 y3 n z4 mq = some (rz, rm) → Rp Sq mq → q_lo Lq 0 = some u0 → q_is 2 u0 68 → q_lo Lq 2 = some u2 → q_is 0 u2 y2 → q_lo Lq 3 = some u3 → q_is 0 u3 y3 → q_lo Lq 4 = some u4 → q_is 0 u4 z4 → Go xs d qM_X12_closes 22 Lq [] Sq Q := fun mq b => by intros; exact ih0 b ‹_› ‹_› ‹_› ‹_› ‹_› ‹_› ‹_› ‹_› ‹_› ‹_›
    unfold fl_X12_closes_22 at h
    refine go_iload (n := 4) (by decide +kernel) l4 f4 ?_
    refine go_if (c := .lt) (o := 179) (t := 203) (P := y4 < 0) (by decide +kernel) (by decide +kernel) f4 (Iff.rfl) (fun hp_48 => ?_) (fun hp_48 => ?_)
    · have h := it_t hp_48 h
      cases h
      exact go_vret (by decide +kernel) rfl (hQ E _ _ R q_out_n)
    · have h := it_f hp_48 h
      refine go_aload_n (n := 0) (by decide +kernel) l0 f0 ?_
      refine go_getf (x := 297) (ci := 13) (kf := 127) (fin := 1) (t := 2) (by decide +kernel) (by decide +kernel) (by decide +kernel) R f0 (fx_k (c := 13) R (by decide +kernel)) fun v_49 f_50 => ?_
      have f_51 := q_is_eq (b := 160) f_50 (fx_v R (by decide +kernel)).symm
      refine go_iload (n := 4) (by decide +kernel) l4 f4 ?_
      obtain ⟨g_54, h⟩ := gd_s h
      obtain ⟨x_56, e_57, h⟩ := lx_s h
      refine go_iald (kd := 100) (by decide +kernel) rfl R f_51 f4 (fx_k (c := 100) R (by decide +kernel)) (fx_x (a := 160) (ln := 31) R (by decide +kernel) g_54) fun v_52 f_53 => ?_
      have f_55 := q_is_eq f_53 e_57
      refine go_istore (n := 5) (by decide +kernel) (by decide +kernel) f_55 fun L_58 l_59 kp_60 => ?_
      have l_61 := kp_60 0 _ l0 (by decide) (Or.inl (by decide))
      have l_62 := kp_60 2 _ l2 (by decide) (Or.inl (by decide))
      have l_63 := kp_60 3 _ l3 (by decide) (Or.inl (by decide))
      have l_64 := kp_60 4 _ l4 (by decide) (Or.inr (q_is_cat f4 (Or.inl rfl)))
      refine go_aload_n (n := 0) (by decide +kernel) l_61 f0 ?_
      refine go_getf (x := 300) (ci := 13) (kf := 128) (fin := 1) (t := 2) (by decide +kernel) (by decide +kernel) (by decide +kernel) R f0 (fx_k (c := 13) R (by decide +kernel)) fun v_65 f_66 => ?_
      have f_67 := q_is_eq (b := 161) f_66 (fx_v R (by decide +kernel)).symm
      refine go_iload (n := 4) (by decide +kernel) l_64 f4 ?_
      obtain ⟨x_71, e_72, h⟩ := lx_s h
      refine go_iald (kd := 100) (by decide +kernel) rfl R f_67 f4 (fx_k (c := 100) R (by decide +kernel)) (fx_x (a := 161) (ln := 31) R (by decide +kernel) g_54) fun v_68 f_69 => ?_
      have f_70 := q_is_eq f_69 e_72
      refine go_istore (n := 6) (by decide +kernel) (by decide +kernel) f_70 fun L_73 l_74 kp_75 => ?_
      have l_76 := kp_75 0 _ l_61 (by decide) (Or.inl (by decide))
      have l_77 := kp_75 2 _ l_62 (by decide) (Or.inl (by decide))
      have l_78 := kp_75 3 _ l_63 (by decide) (Or.inl (by decide))
      have l_79 := kp_75 4 _ l_64 (by decide) (Or.inl (by decide))
      have l_80 := kp_75 5 _ l_59 (by decide) (Or.inr (q_is_cat f_55 (Or.inl rfl)))
      refine ol_X12_closes_45 hd  ?_ (fun b => hQ (Ext.tr E b)) BIG h R l_76 f0 l_77 f2 l_78 f3 l_79 f4 l_80 f_55 l_74 f_70
      intro x_132 S_151 L_152 v_133 v_134 v_135 v_136 v_137 v_138
      intro h R_153 l_139 f_145 l_140 f_146 l_141 f_147 l_142 f_148 l_143 f_149 l_144 f_150
      refine go_aload_n (n := 0) (by decide +kernel) l_139 f_145 ?_
      refine go_getf (x := 300) (ci := 13) (kf := 128) (fin := 1) (t := 2) (by decide +kernel) (by decide +kernel) (by decide +kernel) R_153 f_145 (fx_k (c := 13) R_153 (by decide +kernel)) fun v_154 f_155 => ?_
      have f_156 := q_is_eq (b := 161) f_155 (fx_v R_153 (by decide +kernel)).symm
      refine go_iload (n := 4) (by decide +kernel) l_142 f_148 ?_
      refine go_iload (n := 6) (by decide +kernel) l_144 f_150 ?_
      refine go_iconst (n := 1) (z := 1) (by decide +kernel) (by decide) fun v_157 f_158 => ?_
      refine go_iadd (by decide +kernel) f_150 f_158 fun v_159 f_160 => ?_
      obtain ⟨m_161, e_162, h⟩ := up_s h
      refine go_iast (kd := 100) (by decide +kernel) rfl R_153 f_156 f_148 f_160 (fx_k (c := 100) R_153 (by decide +kernel)) (fx_x (a := 161) (ln := 31) R_153 (by decide +kernel) g_54) e_162 (fx_a R_153.2 (fx_k (c := 100) R_153 (by decide +kernel)) (And.left (fx_x (a := 161) (ln := 31) R_153 (by decide +kernel) g_54)) (by decide +kernel)) fun S_163 R_164 E_165 => ?_
      have E_167 := Ext.tr E E_165
      refine go_iload (n := 6) (by decide +kernel) l_144 f_150 ?_
      refine go_aload_n (n := 0) (by decide +kernel) l_139 f_145 ?_
      obtain ⟨x_171, e_172, h⟩ := lx_s h
      refine go_getf (x := 310) (ci := 13) (kf := 12) (fin := 0) (t := 0) (by decide +kernel) (by decide +kernel) (by decide +kernel) R_164 f_145 (fx_k (c := 13) R_164 (by decide +kernel)) fun v_168 f_169 => ?_
      have f_170 := q_is_eq f_169 e_172
      refine go_icmp (c := .lt) (o := 25) (t := 124) (P := x_132 < x_171) (by decide +kernel) (by decide +kernel) f_150 f_170 (Iff.rfl) (fun hp_173 => ?_) (fun hp_173 => ?_)
      · have h := it_t hp_173 h
        refine go_aload_n (n := 0) (by decide +kernel) l_139 f_145 ?_
        refine go_getf (x := 40) (ci := 13) (kf := 11) (fin := 1) (t := 2) (by decide +kernel) (by decide +kernel) (by decide +kernel) R_164 f_145 (fx_k (c := 13) R_164 (by decide +kernel)) fun v_174 f_175 => ?_
        have f_176 := q_is_eq (b := 79) f_175 (fx_v R_164 (by decide +kernel)).symm
        refine go_aload_n (n := 0) (by decide +kernel) l_139 f_145 ?_
        refine go_getf (x := 43) (ci := 13) (kf := 13) (fin := 1) (t := 2) (by decide +kernel) (by decide +kernel) (by decide +kernel) R_164 f_145 (fx_k (c := 13) R_164 (by decide +kernel)) fun v_177 f_178 => ?_
        have f_179 := q_is_eq (b := 80) f_178 (fx_v R_164 (by decide +kernel)).symm
        refine go_iload (n := 6) (by decide +kernel) l_144 f_150 ?_
        obtain ⟨g_182, h⟩ := gd_s h
        obtain ⟨x_184, e_185, h⟩ := lx_s h
        refine go_iald (kd := 100) (by decide +kernel) rfl R_164 f_179 f_150 (fx_k (c := 100) R_164 (by decide +kernel)) (fx_x (a := 80) (ln := 30) R_164 (by decide +kernel) g_182) fun v_180 f_181 => ?_
        have f_183 := q_is_eq f_181 e_185
        obtain ⟨g_188, h⟩ := gd_s h
        obtain ⟨x_190, e_191, h⟩ := lx_s h
        refine go_iald (kd := 100) (by decide +kernel) rfl R_164 f_176 f_183 (fx_k (c := 100) R_164 (by decide +kernel)) (fx_x (a := 79) (ln := 4) R_164 (by decide +kernel) g_188) fun v_186 f_187 => ?_
        have f_189 := q_is_eq f_187 e_191
        refine go_iconst (n := 1) (z := 1) (by decide +kernel) (by decide) fun v_192 f_193 => ?_
        refine go_icmp (c := .ne) (o := 13) (t := 150) (P := ¬ (x_190 = 1)) (by decide +kernel) (by decide +kernel) f_189 f_193 (Iff.rfl) (fun hp_194 => ?_) (fun hp_194 => ?_)
        · have h := it_f hp_194 h
          refine go_aload_n (n := 0) (by decide +kernel) l_139 f_145 ?_
          refine go_getf (x := 40) (ci := 13) (kf := 11) (fin := 1) (t := 2) (by decide +kernel) (by decide +kernel) (by decide +kernel) R_164 f_145 (fx_k (c := 13) R_164 (by decide +kernel)) fun v_195 f_196 => ?_
          have f_197 := q_is_eq (b := 79) f_196 (fx_v R_164 (by decide +kernel)).symm
          refine go_aload_n (n := 0) (by decide +kernel) l_139 f_145 ?_
          refine go_getf (x := 43) (ci := 13) (kf := 13) (fin := 1) (t := 2) (by decide +kernel) (by decide +kernel) (by decide +kernel) R_164 f_145 (fx_k (c := 13) R_164 (by decide +kernel)) fun v_198 f_199 => ?_
          have f_200 := q_is_eq (b := 80) f_199 (fx_v R_164 (by decide +kernel)).symm
          refine go_iload (n := 6) (by decide +kernel) l_144 f_150 ?_
          refine go_iald (kd := 100) (by decide +kernel) rfl R_164 f_200 f_150 (fx_k (c := 100) R_164 (by decide +kernel)) (fx_x (a := 80) (ln := 30) R_164 (by decide +kernel) g_182) fun v_201 f_202 => ?_
          have f_203 := q_is_eq f_202 e_185
          refine go_iald (kd := 100) (by decide +kernel) rfl R_164 f_197 f_203 (fx_k (c := 100) R_164 (by decide +kernel)) (fx_x (a := 79) (ln := 4) R_164 (by decide +kernel) g_188) fun v_204 f_205 => ?_
          have f_206 := q_is_eq f_205 e_191
          refine go_iconst (n := 2) (z := 2) (by decide +kernel) (by decide) fun v_207 f_208 => ?_
          refine go_icmp (c := .ne) (o := 37) (t := 200) (P := ¬ (x_190 = 2)) (by decide +kernel) (by decide +kernel) f_206 f_208 (Iff.rfl) (fun hp_209 => ?_) (fun hp_209 => ?_)
          · have h := it_f hp_209 h
            refine go_goto (o := (-178)) (t := 22) (by decide +kernel) (by decide +kernel) ?_
            exact ih m_161 E_167 h R_164 l_139 f_145 l_140 f_146 l_141 f_147 l_142 f_148
          · have h := it_n hp_209 h
            refine go_aload_n (n := 0) (by decide +kernel) l_139 f_145 ?_
            refine go_getf (x := 52) (ci := 13) (kf := 16) (fin := 1) (t := 2) (by decide +kernel) (by decide +kernel) (by decide +kernel) R_164 f_145 (fx_k (c := 13) R_164 (by decide +kernel)) fun v_210 f_211 => ?_
            have f_212 := q_is_eq (b := 83) f_211 (fx_v R_164 (by decide +kernel)).symm
            refine go_iload (n := 6) (by decide +kernel) l_144 f_150 ?_
            refine go_iconst (n := 5) (z := 5) (by decide +kernel) (by decide) fun v_213 f_214 => ?_
            obtain ⟨m_215, e_216, h⟩ := up_s h
            refine go_iast (kd := 100) (by decide +kernel) rfl R_164 f_212 f_150 f_214 (fx_k (c := 100) R_164 (by decide +kernel)) (fx_x (a := 83) (ln := 30) R_164 (by decide +kernel) g_182) e_216 (fx_a R_164.2 (fx_k (c := 100) R_164 (by decide +kernel)) (And.left (fx_x (a := 83) (ln := 30) R_164 (by decide +kernel) g_182)) (by decide +kernel)) fun S_217 R_218 E_219 => ?_
            have E_221 := Ext.tr E_167 E_219
            refine go_aload_n (n := 0) (by decide +kernel) l_139 f_145 ?_
            refine go_iload (n := 6) (by decide +kernel) l_144 f_150 ?_
            obtain ⟨x_223, m_224, hc_222, h⟩ := bd_s h
            refine go_callV (x := 564) (mi := 254) (n := 1) (ci := 13) (as := [v_138]) (rest := []) (by decide +kernel) (by decide +kernel) rfl rfl (q_sum8 _ (Nat.le_of_ble_eq_true rfl)) R_218 f_145 (fx_k (c := 13) R_218 (by decide +kernel)) (om_X12_stops (Nat.le_trans (by decide) hd) R_218 f_145 f_150 hc_222) (fun _ S_227 q_230 => ?_) (fun _ _ qq => kr_x qq)
            refine kr_v q_230 fun R_228 E_229 => ?_
            have E_233 := Ext.tr E_221 E_229
            refine go_iinc (n := 4) (c := 1) (c' := 1) (by decide +kernel) (by decide +kernel) l_142 f_148 (by decide) fun L_234 v_235 f_236 l_237 kp_238 => ?_
            obtain ⟨x_239, e_240, h⟩ := lx_s h
            have f_241 := q_is_eq f_236 e_240
            have l_242 := kp_238 0 _ l_139 (by decide) (Or.inl (by decide))
            have l_243 := kp_238 2 _ l_140 (by decide) (Or.inl (by decide))
            have l_244 := kp_238 3 _ l_141 (by decide) (Or.inr (q_is_cat f_147 (Or.inl rfl)))
            have l_245 := kp_238 6 _ l_144 (by decide) (Or.inl (by decide))
            refine go_aload_n (n := 0) (by decide +kernel) l_242 f_145 ?_
            refine go_getf (x := 297) (ci := 13) (kf := 127) (fin := 1) (t := 2) (by decide +kernel) (by decide +kernel) (by decide +kernel) R_228 f_145 (fx_k (c := 13) R_228 (by decide +kernel)) fun v_246 f_247 => ?_
            have f_248 := q_is_eq (b := 160) f_247 (fx_v R_228 (by decide +kernel)).symm
            refine go_iload (n := 4) (by decide +kernel) l_237 f_241 ?_
            refine go_iload (n := 6) (by decide +kernel) l_245 f_150 ?_
            obtain ⟨g_249, h⟩ := gd_s h
            obtain ⟨m_250, e_251, h⟩ := up_s h
            refine go_iast (kd := 100) (by decide +kernel) rfl R_228 f_248 f_241 f_150 (fx_k (c := 100) R_228 (by decide +kernel)) (fx_x (a := 160) (ln := 31) R_228 (by decide +kernel) g_249) e_251 (fx_a R_228.2 (fx_k (c := 100) R_228 (by decide +kernel)) (And.left (fx_x (a := 160) (ln := 31) R_228 (by decide +kernel) g_249)) (by decide +kernel)) fun S_252 R_253 E_254 => ?_
            have E_256 := Ext.tr E_233 E_254
            refine go_aload_n (n := 0) (by decide +kernel) l_242 f_145 ?_
            refine go_getf (x := 300) (ci := 13) (kf := 128) (fin := 1) (t := 2) (by decide +kernel) (by decide +kernel) (by decide +kernel) R_253 f_145 (fx_k (c := 13) R_253 (by decide +kernel)) fun v_257 f_258 => ?_
            have f_259 := q_is_eq (b := 161) f_258 (fx_v R_253 (by decide +kernel)).symm
            refine go_iload (n := 4) (by decide +kernel) l_237 f_241 ?_
            refine go_iconst (n := 0) (z := 0) (by decide +kernel) (by decide) fun v_260 f_261 => ?_
            obtain ⟨m_262, e_263, h⟩ := up_s h
            refine go_iast (kd := 100) (by decide +kernel) rfl R_253 f_259 f_241 f_261 (fx_k (c := 100) R_253 (by decide +kernel)) (fx_x (a := 161) (ln := 31) R_253 (by decide +kernel) g_249) e_263 (fx_a R_253.2 (fx_k (c := 100) R_253 (by decide +kernel)) (And.left (fx_x (a := 161) (ln := 31) R_253 (by decide +kernel) g_249)) (by decide +kernel)) fun S_264 R_265 E_266 => ?_
            have E_268 := Ext.tr E_256 E_266
            refine go_goto (o := (-178)) (t := 22) (by decide +kernel) (by decide +kernel) ?_
            exact ih m_262 E_268 h R_265 l_242 f_145 l_243 f_146 l_244 f_147 l_237 f_241
        · have h := it_n hp_194 h
          refine go_aload_n (n := 0) (by decide +kernel) l_139 f_145 ?_
          refine go_iload (n := 6) (by decide +kernel) l_144 f_150 ?_
          obtain ⟨x_270, m_271, hc_269, h⟩ := bd_s h
          refine go_callV (x := 558) (mi := 214) (n := 1) (ci := 13) (as := [v_138]) (rest := []) (by decide +kernel) (by decide +kernel) rfl rfl (q_sum8 _ (Nat.le_of_ble_eq_true rfl)) R_164 f_145 (fx_k (c := 13) R_164 (by decide +kernel)) (om_X12_cancels (Nat.le_trans (by decide) hd) R_164 f_145 f_150 hc_269) (fun _ S_274 q_277 => ?_) (fun _ _ qq => kr_x qq)
          refine kr_z (by decide) q_277 fun v_272 f_273 R_275 E_276 => ?_
          have E_280 := Ext.tr E_167 E_276
          refine go_pop (by decide +kernel) f_273 (Or.inl rfl) ?_
          refine go_goto (o := 53) (t := 200) (by decide +kernel) (by decide +kernel) ?_
          refine go_goto (o := (-178)) (t := 22) (by decide +kernel) (by decide +kernel) ?_
          exact ih m_271 E_280 h R_275 l_139 f_145 l_140 f_146 l_141 f_147 l_142 f_148
      · have h := it_f hp_173 h
        refine go_iload (n := 4) (by decide +kernel) l_142 f_148 ?_
        refine go_if (c := .gt) (o := 7) (t := 111) (P := 0 < y4) (by decide +kernel) (by decide +kernel) f_148 (Iff.rfl) (fun hp_281 => ?_) (fun hp_281 => ?_)
        · have h := it_t hp_281 h
          exact oj_X12_closes_111 hd R_164 l_139 f_145 l_140 f_146 l_141 f_147 l_142 f_148 l_143 f_149 (fun mq b => ih mq (Ext.tr E_167 b)) (fun b => hQ (Ext.tr E_167 b)) h
        · have h := it_f hp_281 h
          refine go_iload_n (n := 2) (by decide +kernel) l_140 f_146 ?_
          refine go_if (c := .eq) (o := 10) (t := 118) (P := y2 = 0) (by decide +kernel) (by decide +kernel) f_146 (Iff.rfl) (fun hp_305 => ?_) (fun hp_305 => ?_)
          · have h := it_t hp_305 h
            refine go_iinc (n := 4) (c := (-1)) (c' := (-1)) (by decide +kernel) (by decide +kernel) l_142 f_148 (by decide) fun L_306 v_307 f_308 l_309 kp_310 => ?_
            obtain ⟨x_311, e_312, h⟩ := lx_s h
            have f_313 := q_is_eq f_308 e_312
            have l_314 := kp_310 0 _ l_139 (by decide) (Or.inl (by decide))
            have l_315 := kp_310 2 _ l_140 (by decide) (Or.inl (by decide))
            have l_316 := kp_310 3 _ l_141 (by decide) (Or.inr (q_is_cat f_147 (Or.inl rfl)))
            refine go_goto (o := 79) (t := 200) (by decide +kernel) (by decide +kernel) ?_
            refine go_goto (o := (-178)) (t := 22) (by decide +kernel) (by decide +kernel) ?_
            exact ih m_161 E_167 h R_164 l_314 f_145 l_315 f_146 l_316 f_147 l_309 f_313
          · have h := it_f hp_305 h
            exact oj_X12_closes_111 hd R_164 l_139 f_145 l_140 f_146 l_141 f_147 l_142 f_148 l_143 f_149 (fun mq b => ih mq (Ext.tr E_167 b)) (fun b => hQ (Ext.tr E_167 b)) h
noncomputable def fm_X12_closes (p1 p2 p3 : Int) (m0 : MM) : Option (Int × MM) := up m0 160 0 p1 fun m_15 =>
up m_15 161 0 0 fun m_29 =>
bd (fm_X12_stops p1 m_29) fun x_37 m_38 =>
fl_X12_closes_22 p2 p3  BIG 0 m_38
set_option maxHeartbeats 4000000 in
theorem om_X12_closes {xs : List Int32} {d : Nat} {S : QS} {m0 : MM} {p1 p2 p3 : Int} {v0 : Value} {v1 : Value} {v2 : Value} {v3 : Value} {rz : Int} {rm : MM}
  (hd : 5 ≤ d) (R : Rp S m0) (f0 : q_is 2 v0 68) (f1 : q_is 0 v1 p1) (f2 : q_is 0 v2 p2) (f3 : q_is 0 v3 p3)
  (h : fm_X12_closes p1 p2 p3 m0 = some (rz, rm)) : Mt xs d 257 [v0, v1, v2, v3] S (Cr 9 m0 rm rz) := by
  obtain ⟨d, rfl⟩ : ∃ e, d = e + 1 := ⟨d - 1, by omega⟩
  have hd : 4 ≤ d := Nat.le_of_succ_le_succ hd
  refine Mt.of (M := qM_X12_closes) rfl (by rw [sl_1 (q_is_cat f0 (Or.inr rfl)), sl_1 (q_is_cat f1 (Or.inl rfl)), sl_1 (q_is_cat f2 (Or.inl rfl)), sl_1 (q_is_cat f3 (Or.inl rfl)), sl_0]; decide) ?_
  rw [la_1 (q_is_cat f0 (Or.inr rfl)), la_1 (q_is_cat f1 (Or.inl rfl)), la_1 (q_is_cat f2 (Or.inl rfl)), la_1 (q_is_cat f3 (Or.inl rfl)), la_0]
  obtain ⟨L, hL⟩ : ∃ L : QL, L = [(0, v0), (0 + 1, v1), (0 + 1 + 1, v2), (0 + 1 + 1 + 1, v3)] := ⟨_, rfl⟩
  rw [← hL]
  have l0 : q_lo L 0 = some v0 := by rw [hL]; rfl
  have l1 : q_lo L 1 = some v1 := by rw [hL]; rfl
  have l2 : q_lo L 2 = some v2 := by rw [hL]; rfl
  have l3 : q_lo L 3 = some v3 := by rw [hL]; rfl
  have hQ : Ext m0 rm → ∀ o S1, Rp S1 rm → q_out 9 o rz → (Cr 9 m0 rm rz) o S1 := fun a o S1 b e => ⟨b, a, e⟩
  unfold fm_X12_closes at h
  refine go_iconst (n := 0) (z := 0) (by decide +kernel) (by decide) fun v_1 f_2 => ?_
  refine go_istore (n := 4) (by decide +kernel) (by decide +kernel) f_2 fun L_3 l_4 kp_5 => ?_
  have l_6 := kp_5 0 _ l0 (by decide) (Or.inl (by decide))
  have l_7 := kp_5 1 _ l1 (by decide) (Or.inl (by decide))
  have l_8 := kp_5 2 _ l2 (by decide) (Or.inl (by decide))
  have l_9 := kp_5 3 _ l3 (by decide) (Or.inr (q_is_cat f3 (Or.inl rfl)))
  refine go_aload_n (n := 0) (by decide +kernel) l_6 f0 ?_
  refine go_getf (x := 297) (ci := 13) (kf := 127) (fin := 1) (t := 2) (by decide +kernel) (by decide +kernel) (by decide +kernel) R f0 (fx_k (c := 13) R (by decide +kernel)) fun v_10 f_11 => ?_
  have f_12 := q_is_eq (b := 160) f_11 (fx_v R (by decide +kernel)).symm
  refine go_iconst (n := 0) (z := 0) (by decide +kernel) (by decide) fun v_13 f_14 => ?_
  refine go_iload_n (n := 1) (by decide +kernel) l_7 f1 ?_
  obtain ⟨m_15, e_16, h⟩ := up_s h
  refine go_iast (kd := 100) (by decide +kernel) rfl R f_12 f_14 f1 (fx_k (c := 100) R (by decide +kernel)) (fx_x (a := 160) (ln := 31) R (by decide +kernel) (by decide)) e_16 (fx_a R.2 (fx_k (c := 100) R (by decide +kernel)) (And.left (fx_x (a := 160) (ln := 31) R (by decide +kernel) (by decide))) (by decide +kernel)) fun S_17 R_18 E_19 => ?_
  have E_21 := E_19
  refine go_aload_n (n := 0) (by decide +kernel) l_6 f0 ?_
  refine go_getf (x := 300) (ci := 13) (kf := 128) (fin := 1) (t := 2) (by decide +kernel) (by decide +kernel) (by decide +kernel) R_18 f0 (fx_k (c := 13) R_18 (by decide +kernel)) fun v_22 f_23 => ?_
  have f_24 := q_is_eq (b := 161) f_23 (fx_v R_18 (by decide +kernel)).symm
  refine go_iconst (n := 0) (z := 0) (by decide +kernel) (by decide) fun v_25 f_26 => ?_
  refine go_iconst (n := 0) (z := 0) (by decide +kernel) (by decide) fun v_27 f_28 => ?_
  obtain ⟨m_29, e_30, h⟩ := up_s h
  refine go_iast (kd := 100) (by decide +kernel) rfl R_18 f_24 f_26 f_28 (fx_k (c := 100) R_18 (by decide +kernel)) (fx_x (a := 161) (ln := 31) R_18 (by decide +kernel) (by decide)) e_30 (fx_a R_18.2 (fx_k (c := 100) R_18 (by decide +kernel)) (And.left (fx_x (a := 161) (ln := 31) R_18 (by decide +kernel) (by decide))) (by decide +kernel)) fun S_31 R_32 E_33 => ?_
  have E_35 := Ext.tr E_21 E_33
  refine go_aload_n (n := 0) (by decide +kernel) l_6 f0 ?_
  refine go_iload_n (n := 1) (by decide +kernel) l_7 f1 ?_
  obtain ⟨x_37, m_38, hc_36, h⟩ := bd_s h
  refine go_callV (x := 564) (mi := 254) (n := 1) (ci := 13) (as := [v1]) (rest := []) (by decide +kernel) (by decide +kernel) rfl rfl (q_sum8 _ (Nat.le_of_ble_eq_true rfl)) R_32 f0 (fx_k (c := 13) R_32 (by decide +kernel)) (om_X12_stops (Nat.le_trans (by decide) hd) R_32 f0 f1 hc_36) (fun _ S_41 q_44 => ?_) (fun _ _ qq => kr_x qq)
  refine kr_v q_44 fun R_42 E_43 => ?_
  have E_47 := Ext.tr E_35 E_43
  refine ol_X12_closes_22 hd   (fun b => hQ (Ext.tr E_47 b)) BIG (Ext.rf _) h R_42 l_6 f0 l_8 f2 l_9 f3 l_4 f_2
noncomputable def fj_X12_begin_65 (y1 y2 y3 s0 : Int) (m : MM) : Option (Int × MM) := bd (fm_X12_fails s0 m) fun x_44 m_45 =>
if x_44 = 0 then
gd (0 ≤ y1 ∧ y1 < 4) <| lx (m_45 69 y1) fun x_63 =>
bd (fm_X12_makes y1 y2 (w32 (x_63 - 1)) y3 (-1) (-1) m_45) fun x_74 m_75 =>
some (x_74, m_75)
else
some (0, m_45)
set_option maxHeartbeats 4000000 in
theorem oj_X12_begin_65 {xs : List Int32} {d : Nat} {S : QS} {L : QL} {Q : QO → QS → Prop} {m : MM} {y1 y2 y3 s0 : Int} {v0 : Value} {v1 : Value} {v2 : Value} {v3 : Value} {w0 : Value} {w1 : Value}  {rz : Int} {rm : MM}
  (hd : 4 ≤ d) (R : Rp S m) (l0 : q_lo L 0 = some v0) (f0 : q_is 2 v0 68) (l1 : q_lo L 1 = some v1) (f1 : q_is 0 v1 y1) (l2 : q_lo L 2 = some v2) (f2 : q_is 0 v2 y2) (l3 : q_lo L 3 = some v3) (f3 : q_is 0 v3 y3) (fs0 : q_is 0 w0 s0) (fs1 : q_is 2 w1 68)
  (hQ : Ext m rm → ∀ o S1, Rp S1 rm → q_out 0 o rz → Q o S1)
  (h : fj_X12_begin_65 y1 y2 y3 s0 m = some (rz, rm)) : Go xs d qM_X12_begin 65 L [w0, w1] S Q := by
  unfold fj_X12_begin_65 at h
  obtain ⟨x_44, m_45, hc_43, h⟩ := bd_s h
  refine go_callV (x := 324) (mi := 186) (n := 1) (ci := 13) (as := [w0]) (rest := []) (by decide +kernel) (by decide +kernel) rfl rfl (q_sum8 _ (Nat.le_of_ble_eq_true rfl)) R fs1 (fx_k (c := 13) R (by decide +kernel)) (om_X12_fails (Nat.le_trans (by decide) hd) R fs1 fs0 hc_43) (fun _ S_48 q_51 => ?_) (fun _ _ qq => kr_x qq)
  refine kr_z (by decide) q_51 fun v_46 f_47 R_49 E_50 => ?_
  have E_54 := E_50
  refine go_if (c := .eq) (o := 5) (t := 73) (P := x_44 = 0) (by decide +kernel) (by decide +kernel) f_47 (Iff.rfl) (fun hp_55 => ?_) (fun hp_55 => ?_)
  · have h := it_t hp_55 h
    refine go_aload_n (n := 0) (by decide +kernel) l0 f0 ?_
    refine go_iload_n (n := 1) (by decide +kernel) l1 f1 ?_
    refine go_iload_n (n := 2) (by decide +kernel) l2 f2 ?_
    refine go_aload_n (n := 0) (by decide +kernel) l0 f0 ?_
    refine go_getf (x := 7) (ci := 13) (kf := 1) (fin := 1) (t := 2) (by decide +kernel) (by decide +kernel) (by decide +kernel) R_49 f0 (fx_k (c := 13) R_49 (by decide +kernel)) fun v_56 f_57 => ?_
    have f_58 := q_is_eq (b := 69) f_57 (fx_v R_49 (by decide +kernel)).symm
    refine go_iload_n (n := 1) (by decide +kernel) l1 f1 ?_
    obtain ⟨g_61, h⟩ := gd_s h
    obtain ⟨x_63, e_64, h⟩ := lx_s h
    refine go_iald (kd := 100) (by decide +kernel) rfl R_49 f_58 f1 (fx_k (c := 100) R_49 (by decide +kernel)) (fx_x (a := 69) (ln := 4) R_49 (by decide +kernel) g_61) fun v_59 f_60 => ?_
    have f_62 := q_is_eq f_60 e_64
    refine go_iconst (n := 1) (z := 1) (by decide +kernel) (by decide) fun v_65 f_66 => ?_
    refine go_isub (by decide +kernel) f_62 f_66 fun v_67 f_68 => ?_
    refine go_iload_n (n := 3) (by decide +kernel) l3 f3 ?_
    refine go_iconst (n := (-1)) (z := (-1)) (by decide +kernel) (by decide) fun v_69 f_70 => ?_
    refine go_iconst (n := (-1)) (z := (-1)) (by decide +kernel) (by decide) fun v_71 f_72 => ?_
    obtain ⟨x_74, m_75, hc_73, h⟩ := bd_s h
    refine go_callV (x := 576) (mi := 212) (n := 6) (ci := 13) (as := [v1, v2, v_67, v3, v_69, v_71]) (rest := []) (by decide +kernel) (by decide +kernel) rfl rfl (q_sum8 _ (Nat.le_of_ble_eq_true rfl)) R_49 f0 (fx_k (c := 13) R_49 (by decide +kernel)) (om_X12_makes (Nat.le_trans (by decide) hd) R_49 f0 f1 f2 f_68 f3 f_70 f_72 hc_73) (fun _ S_78 q_81 => ?_) (fun _ _ qq => kr_x qq)
    refine kr_z (by decide) q_81 fun v_76 f_77 R_79 E_80 => ?_
    have E_84 := Ext.tr E_54 E_80
    cases h
    exact go_iret (by decide +kernel) rfl (Or.inl rfl) f_77 (hQ E_84 _ _ R_79 (q_out_v (by decide) f_77))
  · have h := it_f hp_55 h
    refine go_iconst (n := 0) (z := 0) (by decide +kernel) (by decide) fun v_85 f_86 => ?_
    cases h
    exact go_iret (by decide +kernel) rfl (Or.inl rfl) f_86 (hQ E_54 _ _ R_49 (q_out_v (by decide) f_86))
noncomputable def fj_X12_begin_19 (y1 y2 y3 s0 : Int) (m : MM) : Option (Int × MM) := if s0 = 0 then
fj_X12_begin_65 y1 y2 y3 1 m
else
bp (fm_X12_isValue y3 m) fun x_22 =>
if x_22 = 0 then
fj_X12_begin_65 y1 y2 y3 2 m
else
gd (0 ≤ y1 ∧ y1 < 4) <| lx (m 69 y1) fun x_38 =>
if x_38 = 0 then
fj_X12_begin_65 y1 y2 y3 3 m
else
lx (m 68 12) fun x_90 =>
if x_90 = 30 then
fj_X12_begin_65 y1 y2 y3 3 m
else
fj_X12_begin_65 y1 y2 y3 0 m
set_option maxHeartbeats 4000000 in
theorem oj_X12_begin_19 {xs : List Int32} {d : Nat} {S : QS} {L : QL} {Q : QO → QS → Prop} {m : MM} {y1 y2 y3 s0 : Int} {v0 : Value} {v1 : Value} {v2 : Value} {v3 : Value} {w0 : Value}  {rz : Int} {rm : MM}
  (hd : 4 ≤ d) (R : Rp S m) (l0 : q_lo L 0 = some v0) (f0 : q_is 2 v0 68) (l1 : q_lo L 1 = some v1) (f1 : q_is 0 v1 y1) (l2 : q_lo L 2 = some v2) (f2 : q_is 0 v2 y2) (l3 : q_lo L 3 = some v3) (f3 : q_is 0 v3 y3) (fs0 : q_is 0 w0 s0)
  (hQ : Ext m rm → ∀ o S1, Rp S1 rm → q_out 0 o rz → Q o S1)
  (h : fj_X12_begin_19 y1 y2 y3 s0 m = some (rz, rm)) : Go xs d qM_X12_begin 19 L [w0] S Q := by
  unfold fj_X12_begin_19 at h
  refine go_istore (n := 4) (by decide +kernel) (by decide +kernel) fs0 fun L_13 l_14 kp_15 => ?_
  have l_16 := kp_15 0 _ l0 (by decide) (Or.inl (by decide))
  have l_17 := kp_15 1 _ l1 (by decide) (Or.inl (by decide))
  have l_18 := kp_15 2 _ l2 (by decide) (Or.inl (by decide))
  have l_19 := kp_15 3 _ l3 (by decide) (Or.inr (q_is_cat f3 (Or.inl rfl)))
  refine go_aload_n (n := 0) (by decide +kernel) l_16 f0 ?_
  refine go_iload (n := 4) (by decide +kernel) l_14 fs0 ?_
  refine go_if (c := .ne) (o := 7) (t := 31) (P := ¬ (s0 = 0)) (by decide +kernel) (by decide +kernel) fs0 (Iff.rfl) (fun hp_20 => ?_) (fun hp_20 => ?_)
  · have h := it_f hp_20 h
    refine go_iload_n (n := 3) (by decide +kernel) l_19 f3 ?_
    obtain ⟨x_22, hc_21, h⟩ := bp_s h
    refine go_callS (x := 573) (mi := 194) (n := 1) (b := 0) (as := [v3]) (rest := [v0]) (by decide +kernel) (by decide +kernel) rfl rfl (q_sum8 _ (Nat.le_of_ble_eq_true rfl)) (om_X12_isValue (Nat.le_trans (by decide) hd) R f3 hc_21) (fun _ S_26 q_29 => ?_) (fun _ _ qq => kr_x qq)
    refine kr_z (by decide) q_29 fun v_24 f_25 R_27 E_28 => ?_
    refine go_if (c := .ne) (o := 7) (t := 42) (P := ¬ (x_22 = 0)) (by decide +kernel) (by decide +kernel) f_25 (Iff.rfl) (fun hp_30 => ?_) (fun hp_30 => ?_)
    · have h := it_f hp_30 h
      refine go_aload_n (n := 0) (by decide +kernel) l_16 f0 ?_
      refine go_getf (x := 7) (ci := 13) (kf := 1) (fin := 1) (t := 2) (by decide +kernel) (by decide +kernel) (by decide +kernel) R_27 f0 (fx_k (c := 13) R_27 (by decide +kernel)) fun v_31 f_32 => ?_
      have f_33 := q_is_eq (b := 69) f_32 (fx_v R_27 (by decide +kernel)).symm
      refine go_iload_n (n := 1) (by decide +kernel) l_17 f1 ?_
      obtain ⟨g_36, h⟩ := gd_s h
      obtain ⟨x_38, e_39, h⟩ := lx_s h
      refine go_iald (kd := 100) (by decide +kernel) rfl R_27 f_33 f1 (fx_k (c := 100) R_27 (by decide +kernel)) (fx_x (a := 69) (ln := 4) R_27 (by decide +kernel) g_36) fun v_34 f_35 => ?_
      have f_37 := q_is_eq f_35 e_39
      refine go_if (c := .eq) (o := 12) (t := 60) (P := x_38 = 0) (by decide +kernel) (by decide +kernel) f_37 (Iff.rfl) (fun hp_40 => ?_) (fun hp_40 => ?_)
      · have h := it_t hp_40 h
        refine go_iconst (n := 3) (z := 3) (by decide +kernel) (by decide) fun v_41 f_42 => ?_
        refine go_goto (o := 4) (t := 65) (by decide +kernel) (by decide +kernel) ?_
        exact oj_X12_begin_65 hd R_27 l_16 f0 l_17 f1 l_18 f2 l_19 f3 f_42 f0 hQ h
      · have h := it_f hp_40 h
        refine go_aload_n (n := 0) (by decide +kernel) l_16 f0 ?_
        obtain ⟨x_90, e_91, h⟩ := lx_s h
        refine go_getf (x := 310) (ci := 13) (kf := 12) (fin := 0) (t := 0) (by decide +kernel) (by decide +kernel) (by decide +kernel) R_27 f0 (fx_k (c := 13) R_27 (by decide +kernel)) fun v_87 f_88 => ?_
        have f_89 := q_is_eq f_88 e_91
        refine go_bipush (n := 30) (z := 30) (by decide +kernel) (by decide) fun v_92 f_93 => ?_
        refine go_icmp (c := .ne) (o := 7) (t := 64) (P := ¬ (x_90 = 30)) (by decide +kernel) (by decide +kernel) f_89 f_93 (Iff.rfl) (fun hp_94 => ?_) (fun hp_94 => ?_)
        · have h := it_f hp_94 h
          refine go_iconst (n := 0) (z := 0) (by decide +kernel) (by decide) fun v_95 f_96 => ?_
          exact oj_X12_begin_65 hd R_27 l_16 f0 l_17 f1 l_18 f2 l_19 f3 f_96 f0 hQ h
        · have h := it_n hp_94 h
          refine go_iconst (n := 3) (z := 3) (by decide +kernel) (by decide) fun v_97 f_98 => ?_
          refine go_goto (o := 4) (t := 65) (by decide +kernel) (by decide +kernel) ?_
          exact oj_X12_begin_65 hd R_27 l_16 f0 l_17 f1 l_18 f2 l_19 f3 f_98 f0 hQ h
    · have h := it_n hp_30 h
      refine go_iconst (n := 2) (z := 2) (by decide +kernel) (by decide) fun v_99 f_100 => ?_
      refine go_goto (o := 26) (t := 65) (by decide +kernel) (by decide +kernel) ?_
      exact oj_X12_begin_65 hd R_27 l_16 f0 l_17 f1 l_18 f2 l_19 f3 f_100 f0 hQ h
  · have h := it_n hp_20 h
    refine go_iconst (n := 1) (z := 1) (by decide +kernel) (by decide) fun v_101 f_102 => ?_
    refine go_goto (o := 37) (t := 65) (by decide +kernel) (by decide +kernel) ?_
    exact oj_X12_begin_65 hd R l_16 f0 l_17 f1 l_18 f2 l_19 f3 f_102 f0 hQ h
noncomputable def fm_X12_begin (p1 p2 p3 : Int) (m0 : MM) : Option (Int × MM) := bp (fm_X12_isType p1 m0) fun x_2 =>
if x_2 = 0 then
fj_X12_begin_19 p1 p2 p3 0 m0
else
bp (fm_X12_isTenant p2 m0) fun x_104 =>
if x_104 = 0 then
fj_X12_begin_19 p1 p2 p3 0 m0
else
fj_X12_begin_19 p1 p2 p3 1 m0
set_option maxHeartbeats 4000000 in
theorem om_X12_begin {xs : List Int32} {d : Nat} {S : QS} {m0 : MM} {p1 p2 p3 : Int} {v0 : Value} {v1 : Value} {v2 : Value} {v3 : Value} {rz : Int} {rm : MM}
  (hd : 5 ≤ d) (R : Rp S m0) (f0 : q_is 2 v0 68) (f1 : q_is 0 v1 p1) (f2 : q_is 0 v2 p2) (f3 : q_is 0 v3 p3)
  (h : fm_X12_begin p1 p2 p3 m0 = some (rz, rm)) : Mt xs d 258 [v0, v1, v2, v3] S (Cr 0 m0 rm rz) := by
  obtain ⟨d, rfl⟩ : ∃ e, d = e + 1 := ⟨d - 1, by omega⟩
  have hd : 4 ≤ d := Nat.le_of_succ_le_succ hd
  refine Mt.of (M := qM_X12_begin) rfl (by rw [sl_1 (q_is_cat f0 (Or.inr rfl)), sl_1 (q_is_cat f1 (Or.inl rfl)), sl_1 (q_is_cat f2 (Or.inl rfl)), sl_1 (q_is_cat f3 (Or.inl rfl)), sl_0]; decide) ?_
  rw [la_1 (q_is_cat f0 (Or.inr rfl)), la_1 (q_is_cat f1 (Or.inl rfl)), la_1 (q_is_cat f2 (Or.inl rfl)), la_1 (q_is_cat f3 (Or.inl rfl)), la_0]
  obtain ⟨L, hL⟩ : ∃ L : QL, L = [(0, v0), (0 + 1, v1), (0 + 1 + 1, v2), (0 + 1 + 1 + 1, v3)] := ⟨_, rfl⟩
  rw [← hL]
  have l0 : q_lo L 0 = some v0 := by rw [hL]; rfl
  have l1 : q_lo L 1 = some v1 := by rw [hL]; rfl
  have l2 : q_lo L 2 = some v2 := by rw [hL]; rfl
  have l3 : q_lo L 3 = some v3 := by rw [hL]; rfl
  have hQ : Ext m0 rm → ∀ o S1, Rp S1 rm → q_out 0 o rz → (Cr 0 m0 rm rz) o S1 := fun a o S1 b e => ⟨b, a, e⟩
  unfold fm_X12_begin at h
  refine go_iload_n (n := 1) (by decide +kernel) l1 f1 ?_
  obtain ⟨x_2, hc_1, h⟩ := bp_s h
  refine go_callS (x := 313) (mi := 191) (n := 1) (b := 0) (as := [v1]) (rest := []) (by decide +kernel) (by decide +kernel) rfl rfl (q_sum8 _ (Nat.le_of_ble_eq_true rfl)) (om_X12_isType (Nat.le_trans (by decide) hd) R f1 hc_1) (fun _ S_6 q_9 => ?_) (fun _ _ qq => kr_x qq)
  refine kr_z (by decide) q_9 fun v_4 f_5 R_7 E_8 => ?_
  refine go_if (c := .eq) (o := 14) (t := 18) (P := x_2 = 0) (by decide +kernel) (by decide +kernel) f_5 (Iff.rfl) (fun hp_10 => ?_) (fun hp_10 => ?_)
  · have h := it_t hp_10 h
    refine go_iconst (n := 0) (z := 0) (by decide +kernel) (by decide) fun v_11 f_12 => ?_
    exact oj_X12_begin_19 hd R_7 l0 f0 l1 f1 l2 f2 l3 f3 f_12 hQ h
  · have h := it_f hp_10 h
    refine go_iload_n (n := 2) (by decide +kernel) l2 f2 ?_
    obtain ⟨x_104, hc_103, h⟩ := bp_s h
    refine go_callS (x := 570) (mi := 192) (n := 1) (b := 0) (as := [v2]) (rest := []) (by decide +kernel) (by decide +kernel) rfl rfl (q_sum8 _ (Nat.le_of_ble_eq_true rfl)) (om_X12_isTenant (Nat.le_trans (by decide) hd) R_7 f2 hc_103) (fun _ S_108 q_111 => ?_) (fun _ _ qq => kr_x qq)
    refine kr_z (by decide) q_111 fun v_106 f_107 R_109 E_110 => ?_
    refine go_if (c := .eq) (o := 7) (t := 18) (P := x_104 = 0) (by decide +kernel) (by decide +kernel) f_107 (Iff.rfl) (fun hp_112 => ?_) (fun hp_112 => ?_)
    · have h := it_t hp_112 h
      refine go_iconst (n := 0) (z := 0) (by decide +kernel) (by decide) fun v_113 f_114 => ?_
      exact oj_X12_begin_19 hd R_109 l0 f0 l1 f1 l2 f2 l3 f3 f_114 hQ h
    · have h := it_f hp_112 h
      refine go_iconst (n := 1) (z := 1) (by decide +kernel) (by decide) fun v_115 f_116 => ?_
      refine go_goto (o := 4) (t := 19) (by decide +kernel) (by decide +kernel) ?_
      exact oj_X12_begin_19 hd R_109 l0 f0 l1 f1 l2 f2 l3 f3 f_116 hQ h
noncomputable def fm_X12_isName (p0 : Int) (m0 : MM) : Option Int := bp (fm_X12_isIn p0 0 3 m0) fun x_6 =>
gd (x_6 = 0 ∨ x_6 = 1) <| some x_6
set_option maxHeartbeats 4000000 in
theorem om_X12_isName {xs : List Int32} {d : Nat} {S : QS} {m0 : MM} {p0 : Int} {v0 : Value} {rz : Int}
  (hd : 2 ≤ d) (R : Rp S m0) (f0 : q_is 0 v0 p0)
  (h : fm_X12_isName p0 m0 = some rz) : Mt xs d 259 [v0] S (Cr 0 m0 m0 rz) := by
  obtain ⟨d, rfl⟩ : ∃ e, d = e + 1 := ⟨d - 1, by omega⟩
  have hd : 1 ≤ d := Nat.le_of_succ_le_succ hd
  refine Mt.of (M := qM_X12_isName) rfl (by rw [sl_1 (q_is_cat f0 (Or.inl rfl)), sl_0]; decide) ?_
  rw [la_1 (q_is_cat f0 (Or.inl rfl)), la_0]
  obtain ⟨L, hL⟩ : ∃ L : QL, L = [(0, v0)] := ⟨_, rfl⟩
  rw [← hL]
  have l0 : q_lo L 0 = some v0 := by rw [hL]; rfl
  have hQ : ∀ o S1, Rp S1 m0 → q_out 0 o rz → (Cr 0 m0 m0 rz) o S1 := fun o S1 a b => ⟨a, Ext.rf _, b⟩
  unfold fm_X12_isName at h
  refine go_iload_n (n := 0) (by decide +kernel) l0 f0 ?_
  refine go_iconst (n := 0) (z := 0) (by decide +kernel) (by decide) fun v_1 f_2 => ?_
  refine go_iconst (n := 3) (z := 3) (by decide +kernel) (by decide) fun v_3 f_4 => ?_
  obtain ⟨x_6, hc_5, h⟩ := bp_s h
  refine go_callS (x := 306) (mi := 188) (n := 3) (b := 0) (as := [v0, v_1, v_3]) (rest := []) (by decide +kernel) (by decide +kernel) rfl rfl (q_sum8 _ (Nat.le_of_ble_eq_true rfl)) (om_X12_isIn (Nat.le_trans (by decide) hd) R f0 f_2 f_4 hc_5) (fun _ S_10 q_13 => ?_) (fun _ _ qq => kr_x qq)
  refine kr_z (by decide) q_13 fun v_8 f_9 R_11 E_12 => ?_
  obtain ⟨g_14, h⟩ := gd_s h
  cases h
  exact go_iret (by decide +kernel) rfl (Or.inr ⟨rfl, g_14⟩) f_9 (hQ _ _ R_11 (q_out_v (by decide) f_9))
noncomputable def fj_X12_signal_67 (y1 y2 y3 s0 : Int) (m : MM) : Option (Int × MM) := bd (fm_X12_fails s0 m) fun x_44 m_45 =>
if x_44 = 0 then
bd (fm_X12_puts y1 4 y2 y3 m_45) fun x_59 m_60 =>
some (x_59, m_60)
else
some (0, m_45)
set_option maxHeartbeats 4000000 in
theorem oj_X12_signal_67 {xs : List Int32} {d : Nat} {S : QS} {L : QL} {Q : QO → QS → Prop} {m : MM} {y1 y2 y3 s0 : Int} {v0 : Value} {v1 : Value} {v2 : Value} {v3 : Value} {w0 : Value} {w1 : Value}  {rz : Int} {rm : MM}
  (hd : 3 ≤ d) (R : Rp S m) (l0 : q_lo L 0 = some v0) (f0 : q_is 2 v0 68) (l1 : q_lo L 1 = some v1) (f1 : q_is 0 v1 y1) (l2 : q_lo L 2 = some v2) (f2 : q_is 0 v2 y2) (l3 : q_lo L 3 = some v3) (f3 : q_is 0 v3 y3) (fs0 : q_is 0 w0 s0) (fs1 : q_is 2 w1 68)
  (hQ : Ext m rm → ∀ o S1, Rp S1 rm → q_out 0 o rz → Q o S1)
  (h : fj_X12_signal_67 y1 y2 y3 s0 m = some (rz, rm)) : Go xs d qM_X12_signal 67 L [w0, w1] S Q := by
  unfold fj_X12_signal_67 at h
  obtain ⟨x_44, m_45, hc_43, h⟩ := bd_s h
  refine go_callV (x := 324) (mi := 186) (n := 1) (ci := 13) (as := [w0]) (rest := []) (by decide +kernel) (by decide +kernel) rfl rfl (q_sum8 _ (Nat.le_of_ble_eq_true rfl)) R fs1 (fx_k (c := 13) R (by decide +kernel)) (om_X12_fails (Nat.le_trans (by decide) hd) R fs1 fs0 hc_43) (fun _ S_48 q_51 => ?_) (fun _ _ qq => kr_x qq)
  refine kr_z (by decide) q_51 fun v_46 f_47 R_49 E_50 => ?_
  have E_54 := E_50
  refine go_if (c := .eq) (o := 5) (t := 75) (P := x_44 = 0) (by decide +kernel) (by decide +kernel) f_47 (Iff.rfl) (fun hp_55 => ?_) (fun hp_55 => ?_)
  · have h := it_t hp_55 h
    refine go_aload_n (n := 0) (by decide +kernel) l0 f0 ?_
    refine go_iload_n (n := 1) (by decide +kernel) l1 f1 ?_
    refine go_iconst (n := 4) (z := 4) (by decide +kernel) (by decide) fun v_56 f_57 => ?_
    refine go_iload_n (n := 2) (by decide +kernel) l2 f2 ?_
    refine go_iload_n (n := 3) (by decide +kernel) l3 f3 ?_
    obtain ⟨x_59, m_60, hc_58, h⟩ := bd_s h
    refine go_callV (x := 360) (mi := 210) (n := 4) (ci := 13) (as := [v1, v_56, v2, v3]) (rest := []) (by decide +kernel) (by decide +kernel) rfl rfl (q_sum8 _ (Nat.le_of_ble_eq_true rfl)) R_49 f0 (fx_k (c := 13) R_49 (by decide +kernel)) (om_X12_puts (Nat.le_trans (by decide) hd) R_49 f0 f1 f_57 f2 f3 hc_58) (fun _ S_63 q_66 => ?_) (fun _ _ qq => kr_x qq)
    refine kr_z (by decide) q_66 fun v_61 f_62 R_64 E_65 => ?_
    have E_69 := Ext.tr E_54 E_65
    cases h
    exact go_iret (by decide +kernel) rfl (Or.inl rfl) f_62 (hQ E_69 _ _ R_64 (q_out_v (by decide) f_62))
  · have h := it_f hp_55 h
    refine go_iconst (n := 0) (z := 0) (by decide +kernel) (by decide) fun v_70 f_71 => ?_
    cases h
    exact go_iret (by decide +kernel) rfl (Or.inl rfl) f_71 (hQ E_54 _ _ R_49 (q_out_v (by decide) f_71))
noncomputable def fj_X12_signal_20 (y1 y2 y3 s0 : Int) (m : MM) : Option (Int × MM) := if s0 = 0 then
fj_X12_signal_67 y1 y2 y3 1 m
else
bp (fm_X12_isValue y3 m) fun x_22 =>
if x_22 = 0 then
fj_X12_signal_67 y1 y2 y3 2 m
else
bp (fm_X12_isAlive y1 m) fun x_32 =>
if x_32 = 0 then
fj_X12_signal_67 y1 y2 y3 3 m
else
gd (0 ≤ y1 ∧ y1 < 30) <| lx (m 86 y1) fun x_79 =>
if x_79 < 100 then
fj_X12_signal_67 y1 y2 y3 0 m
else
fj_X12_signal_67 y1 y2 y3 3 m
set_option maxHeartbeats 4000000 in
theorem oj_X12_signal_20 {xs : List Int32} {d : Nat} {S : QS} {L : QL} {Q : QO → QS → Prop} {m : MM} {y1 y2 y3 s0 : Int} {v0 : Value} {v1 : Value} {v2 : Value} {v3 : Value} {w0 : Value}  {rz : Int} {rm : MM}
  (hd : 3 ≤ d) (R : Rp S m) (l0 : q_lo L 0 = some v0) (f0 : q_is 2 v0 68) (l1 : q_lo L 1 = some v1) (f1 : q_is 0 v1 y1) (l2 : q_lo L 2 = some v2) (f2 : q_is 0 v2 y2) (l3 : q_lo L 3 = some v3) (f3 : q_is 0 v3 y3) (fs0 : q_is 0 w0 s0)
  (hQ : Ext m rm → ∀ o S1, Rp S1 rm → q_out 0 o rz → Q o S1)
  (h : fj_X12_signal_20 y1 y2 y3 s0 m = some (rz, rm)) : Go xs d qM_X12_signal 20 L [w0] S Q := by
  unfold fj_X12_signal_20 at h
  refine go_istore (n := 4) (by decide +kernel) (by decide +kernel) fs0 fun L_13 l_14 kp_15 => ?_
  have l_16 := kp_15 0 _ l0 (by decide) (Or.inl (by decide))
  have l_17 := kp_15 1 _ l1 (by decide) (Or.inl (by decide))
  have l_18 := kp_15 2 _ l2 (by decide) (Or.inl (by decide))
  have l_19 := kp_15 3 _ l3 (by decide) (Or.inr (q_is_cat f3 (Or.inl rfl)))
  refine go_aload_n (n := 0) (by decide +kernel) l_16 f0 ?_
  refine go_iload (n := 4) (by decide +kernel) l_14 fs0 ?_
  refine go_if (c := .ne) (o := 7) (t := 32) (P := ¬ (s0 = 0)) (by decide +kernel) (by decide +kernel) fs0 (Iff.rfl) (fun hp_20 => ?_) (fun hp_20 => ?_)
  · have h := it_f hp_20 h
    refine go_iload_n (n := 3) (by decide +kernel) l_19 f3 ?_
    obtain ⟨x_22, hc_21, h⟩ := bp_s h
    refine go_callS (x := 573) (mi := 194) (n := 1) (b := 0) (as := [v3]) (rest := [v0]) (by decide +kernel) (by decide +kernel) rfl rfl (q_sum8 _ (Nat.le_of_ble_eq_true rfl)) (om_X12_isValue (Nat.le_trans (by decide) hd) R f3 hc_21) (fun _ S_26 q_29 => ?_) (fun _ _ qq => kr_x qq)
    refine kr_z (by decide) q_29 fun v_24 f_25 R_27 E_28 => ?_
    refine go_if (c := .ne) (o := 7) (t := 43) (P := ¬ (x_22 = 0)) (by decide +kernel) (by decide +kernel) f_25 (Iff.rfl) (fun hp_30 => ?_) (fun hp_30 => ?_)
    · have h := it_f hp_30 h
      refine go_aload_n (n := 0) (by decide +kernel) l_16 f0 ?_
      refine go_iload_n (n := 1) (by decide +kernel) l_17 f1 ?_
      obtain ⟨x_32, hc_31, h⟩ := bp_s h
      refine go_callV (x := 561) (mi := 213) (n := 1) (ci := 13) (as := [v1]) (rest := [v0]) (by decide +kernel) (by decide +kernel) rfl rfl (q_sum8 _ (Nat.le_of_ble_eq_true rfl)) R_27 f0 (fx_k (c := 13) R_27 (by decide +kernel)) (om_X12_isAlive (Nat.le_trans (by decide) hd) R_27 f0 f1 hc_31) (fun _ S_36 q_39 => ?_) (fun _ _ qq => kr_x qq)
      refine kr_z (by decide) q_39 fun v_34 f_35 R_37 E_38 => ?_
      refine go_if (c := .eq) (o := 14) (t := 62) (P := x_32 = 0) (by decide +kernel) (by decide +kernel) f_35 (Iff.rfl) (fun hp_40 => ?_) (fun hp_40 => ?_)
      · have h := it_t hp_40 h
        refine go_iconst (n := 3) (z := 3) (by decide +kernel) (by decide) fun v_41 f_42 => ?_
        refine go_goto (o := 4) (t := 67) (by decide +kernel) (by decide +kernel) ?_
        exact oj_X12_signal_67 hd R_37 l_16 f0 l_17 f1 l_18 f2 l_19 f3 f_42 f0 hQ h
      · have h := it_f hp_40 h
        refine go_aload_n (n := 0) (by decide +kernel) l_16 f0 ?_
        refine go_getf (x := 61) (ci := 13) (kf := 19) (fin := 1) (t := 2) (by decide +kernel) (by decide +kernel) (by decide +kernel) R_37 f0 (fx_k (c := 13) R_37 (by decide +kernel)) fun v_72 f_73 => ?_
        have f_74 := q_is_eq (b := 86) f_73 (fx_v R_37 (by decide +kernel)).symm
        refine go_iload_n (n := 1) (by decide +kernel) l_17 f1 ?_
        obtain ⟨g_77, h⟩ := gd_s h
        obtain ⟨x_79, e_80, h⟩ := lx_s h
        refine go_iald (kd := 100) (by decide +kernel) rfl R_37 f_74 f1 (fx_k (c := 100) R_37 (by decide +kernel)) (fx_x (a := 86) (ln := 30) R_37 (by decide +kernel) g_77) fun v_75 f_76 => ?_
        have f_78 := q_is_eq f_76 e_80
        refine go_bipush (n := 100) (z := 100) (by decide +kernel) (by decide) fun v_81 f_82 => ?_
        refine go_icmp (c := .lt) (o := 7) (t := 66) (P := x_79 < 100) (by decide +kernel) (by decide +kernel) f_78 f_82 (Iff.rfl) (fun hp_83 => ?_) (fun hp_83 => ?_)
        · have h := it_t hp_83 h
          refine go_iconst (n := 0) (z := 0) (by decide +kernel) (by decide) fun v_84 f_85 => ?_
          exact oj_X12_signal_67 hd R_37 l_16 f0 l_17 f1 l_18 f2 l_19 f3 f_85 f0 hQ h
        · have h := it_f hp_83 h
          refine go_iconst (n := 3) (z := 3) (by decide +kernel) (by decide) fun v_86 f_87 => ?_
          refine go_goto (o := 4) (t := 67) (by decide +kernel) (by decide +kernel) ?_
          exact oj_X12_signal_67 hd R_37 l_16 f0 l_17 f1 l_18 f2 l_19 f3 f_87 f0 hQ h
    · have h := it_n hp_30 h
      refine go_iconst (n := 2) (z := 2) (by decide +kernel) (by decide) fun v_88 f_89 => ?_
      refine go_goto (o := 27) (t := 67) (by decide +kernel) (by decide +kernel) ?_
      exact oj_X12_signal_67 hd R_27 l_16 f0 l_17 f1 l_18 f2 l_19 f3 f_89 f0 hQ h
  · have h := it_n hp_20 h
    refine go_iconst (n := 1) (z := 1) (by decide +kernel) (by decide) fun v_90 f_91 => ?_
    refine go_goto (o := 38) (t := 67) (by decide +kernel) (by decide +kernel) ?_
    exact oj_X12_signal_67 hd R l_16 f0 l_17 f1 l_18 f2 l_19 f3 f_91 f0 hQ h
noncomputable def fm_X12_signal (p1 p2 p3 : Int) (m0 : MM) : Option (Int × MM) := bp (fm_X12_isRun p1 m0) fun x_2 =>
if x_2 = 0 then
fj_X12_signal_20 p1 p2 p3 0 m0
else
bp (fm_X12_isName p2 m0) fun x_93 =>
if x_93 = 0 then
fj_X12_signal_20 p1 p2 p3 0 m0
else
fj_X12_signal_20 p1 p2 p3 1 m0
set_option maxHeartbeats 4000000 in
theorem om_X12_signal {xs : List Int32} {d : Nat} {S : QS} {m0 : MM} {p1 p2 p3 : Int} {v0 : Value} {v1 : Value} {v2 : Value} {v3 : Value} {rz : Int} {rm : MM}
  (hd : 4 ≤ d) (R : Rp S m0) (f0 : q_is 2 v0 68) (f1 : q_is 0 v1 p1) (f2 : q_is 0 v2 p2) (f3 : q_is 0 v3 p3)
  (h : fm_X12_signal p1 p2 p3 m0 = some (rz, rm)) : Mt xs d 260 [v0, v1, v2, v3] S (Cr 0 m0 rm rz) := by
  obtain ⟨d, rfl⟩ : ∃ e, d = e + 1 := ⟨d - 1, by omega⟩
  have hd : 3 ≤ d := Nat.le_of_succ_le_succ hd
  refine Mt.of (M := qM_X12_signal) rfl (by rw [sl_1 (q_is_cat f0 (Or.inr rfl)), sl_1 (q_is_cat f1 (Or.inl rfl)), sl_1 (q_is_cat f2 (Or.inl rfl)), sl_1 (q_is_cat f3 (Or.inl rfl)), sl_0]; decide) ?_
  rw [la_1 (q_is_cat f0 (Or.inr rfl)), la_1 (q_is_cat f1 (Or.inl rfl)), la_1 (q_is_cat f2 (Or.inl rfl)), la_1 (q_is_cat f3 (Or.inl rfl)), la_0]
  obtain ⟨L, hL⟩ : ∃ L : QL, L = [(0, v0), (0 + 1, v1), (0 + 1 + 1, v2), (0 + 1 + 1 + 1, v3)] := ⟨_, rfl⟩
  rw [← hL]
  have l0 : q_lo L 0 = some v0 := by rw [hL]; rfl
  have l1 : q_lo L 1 = some v1 := by rw [hL]; rfl
  have l2 : q_lo L 2 = some v2 := by rw [hL]; rfl
  have l3 : q_lo L 3 = some v3 := by rw [hL]; rfl
  have hQ : Ext m0 rm → ∀ o S1, Rp S1 rm → q_out 0 o rz → (Cr 0 m0 rm rz) o S1 := fun a o S1 b e => ⟨b, a, e⟩
  unfold fm_X12_signal at h
  refine go_aload_n (n := 0) (by decide +kernel) l0 f0 ?_
  refine go_iload_n (n := 1) (by decide +kernel) l1 f1 ?_
  obtain ⟨x_2, hc_1, h⟩ := bp_s h
  refine go_callV (x := 580) (mi := 193) (n := 1) (ci := 13) (as := [v1]) (rest := []) (by decide +kernel) (by decide +kernel) rfl rfl (q_sum8 _ (Nat.le_of_ble_eq_true rfl)) R f0 (fx_k (c := 13) R (by decide +kernel)) (om_X12_isRun (Nat.le_trans (by decide) hd) R f0 f1 hc_1) (fun _ S_6 q_9 => ?_) (fun _ _ qq => kr_x qq)
  refine kr_z (by decide) q_9 fun v_4 f_5 R_7 E_8 => ?_
  refine go_if (c := .eq) (o := 14) (t := 19) (P := x_2 = 0) (by decide +kernel) (by decide +kernel) f_5 (Iff.rfl) (fun hp_10 => ?_) (fun hp_10 => ?_)
  · have h := it_t hp_10 h
    refine go_iconst (n := 0) (z := 0) (by decide +kernel) (by decide) fun v_11 f_12 => ?_
    exact oj_X12_signal_20 hd R_7 l0 f0 l1 f1 l2 f2 l3 f3 f_12 hQ h
  · have h := it_f hp_10 h
    refine go_iload_n (n := 2) (by decide +kernel) l2 f2 ?_
    obtain ⟨x_93, hc_92, h⟩ := bp_s h
    refine go_callS (x := 583) (mi := 259) (n := 1) (b := 0) (as := [v2]) (rest := []) (by decide +kernel) (by decide +kernel) rfl rfl (q_sum8 _ (Nat.le_of_ble_eq_true rfl)) (om_X12_isName (Nat.le_trans (by decide) hd) R_7 f2 hc_92) (fun _ S_97 q_100 => ?_) (fun _ _ qq => kr_x qq)
    refine kr_z (by decide) q_100 fun v_95 f_96 R_98 E_99 => ?_
    refine go_if (c := .eq) (o := 7) (t := 19) (P := x_93 = 0) (by decide +kernel) (by decide +kernel) f_96 (Iff.rfl) (fun hp_101 => ?_) (fun hp_101 => ?_)
    · have h := it_t hp_101 h
      refine go_iconst (n := 0) (z := 0) (by decide +kernel) (by decide) fun v_102 f_103 => ?_
      exact oj_X12_signal_20 hd R_98 l0 f0 l1 f1 l2 f2 l3 f3 f_103 hQ h
    · have h := it_f hp_101 h
      refine go_iconst (n := 1) (z := 1) (by decide +kernel) (by decide) fun v_104 f_105 => ?_
      refine go_goto (o := 4) (t := 20) (by decide +kernel) (by decide +kernel) ?_
      exact oj_X12_signal_20 hd R_98 l0 f0 l1 f1 l2 f2 l3 f3 f_105 hQ h
end DF35
