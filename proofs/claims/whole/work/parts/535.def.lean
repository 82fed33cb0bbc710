/-! Methods as functions (written by wip/whole/dec.py), 35: X12_tellsParent, X12_closes, X12_begin, X12_isName, X12_signal. -/
section DF35
noncomputable def fj_X12_tellsParent_59 ( s0 s1 s2 s3 : Int) (m : MM) : Option (Int × MM) := bd (fm_X12_puts s3 s2 s1 s0 m) fun x_65 m_66 =>
some (0, m_66)
set_option maxHeartbeats 4000000 in
theorem oj_X12_tellsParent_59 {xs : List Int32} {d : Nat} {S : QS} {L : QL} {Q : QO → QS → Prop} {m : MM} {s0 s1 s2 s3 : Int} {w0 : Value} {w1 : Value} {w2 : Value} {w3 : Value} {w4 : Value}  {rz : Int} {rm : MM}
  (hd : 3 ≤ d) (R : Rp S m) (fs0 : q_is 0 w0 s0) (fs1 : q_is 0 w1 s1) (fs2 : q_is 0 w2 s2) (fs3 : q_is 0 w3 s3) (fs4 : q_is 2 w4 68)
  (hQ : Ext m rm → ∀ o S1, Rp S1 rm → q_out 9 o rz → Q o S1)
  (h : fj_X12_tellsParent_59 s0 s1 s2 s3 m = some (rz, rm)) : Go xs d qM_X12_tellsParent 59 L [w0, w1, w2, w3, w4] S Q := by
  unfold fj_X12_tellsParent_59 at h
  obtain ⟨x_65, m_66, hc_64, h⟩ := bd_s h
  refine go_callV (x := 360) (mi := 210) (n := 4) (ci := 13) (as := [w3, w2, w1, w0]) (rest := []) (by decide +kernel) (by decide +kernel) rfl rfl (q_sum8 _ (Nat.le_of_ble_eq_true rfl)) R fs4 (fx_k (c := 13) R (by decide +kernel)) (om_X12_puts (Nat.le_trans (by decide) hd) R fs4 fs3 fs2 fs1 fs0 hc_64) (fun _ S_69 q_72 => ?_) (fun _ _ qq => kr_x qq)
  refine kr_z (by decide) q_72 fun v_67 f_68 R_70 E_71 => ?_
  have E_73 := E_71
  refine go_pop (by decide +kernel) f_68 (Or.inl rfl) ?_
  cases h
  exact go_vret (by decide +kernel) rfl (hQ E_73 _ _ R_70 q_out_n)
noncomputable def fj_X12_tellsParent_38 (y1 y2 s0 s1 : Int) (m : MM) : Option (Int × MM) := gd (0 ≤ y1 ∧ y1 < 30) <| lx (m 85 y1) fun x_49 =>
lx (m 83 y1) fun x_57 =>
if x_57 = 1 then
fj_X12_tellsParent_59 y2 x_49 s0 s1 m
else
fj_X12_tellsParent_59 0 x_49 s0 s1 m
set_option maxHeartbeats 4000000 in
theorem oj_X12_tellsParent_38 {xs : List Int32} {d : Nat} {S : QS} {L : QL} {Q : QO → QS → Prop} {m : MM} {y1 y2 s0 s1 : Int} {v0 : Value} {v1 : Value} {v2 : Value} {w0 : Value} {w1 : Value} {w2 : Value}  {rz : Int} {rm : MM}
  (hd : 3 ≤ d) (R : Rp S m) (l0 : q_lo L 0 = some v0) (f0 : q_is 2 v0 68) (l1 : q_lo L 1 = some v1) (f1 : q_is 0 v1 y1) (l2 : q_lo L 2 = some v2) (f2 : q_is 0 v2 y2) (fs0 : q_is 0 w0 s0) (fs1 : q_is 0 w1 s1) (fs2 : q_is 2 w2 68)
  (hQ : Ext m rm → ∀ o S1, Rp S1 rm → q_out 9 o rz → Q o S1)
  (h : fj_X12_tellsParent_38 y1 y2 s0 s1 m = some (rz, rm)) : Go xs d qM_X12_tellsParent 38 L [w0, w1, w2] S Q := by
  unfold fj_X12_tellsParent_38 at h
  refine go_aload_n (n := 0) (by decide +kernel) l0 f0 ?_
  refine go_getf (x := 58) (ci := 13) (kf := 18) (fin := 1) (t := 2) (by decide +kernel) (by decide +kernel) (by decide +kernel) R f0 (fx_k (c := 13) R (by decide +kernel)) fun v_42 f_43 => ?_
  have f_44 := q_is_eq (b := 85) f_43 (fx_v R (by decide +kernel)).symm
  refine go_iload_n (n := 1) (by decide +kernel) l1 f1 ?_
  obtain ⟨g_47, h⟩ := gd_s h
  obtain ⟨x_49, e_50, h⟩ := lx_s h
  refine go_iald (kd := 100) (by decide +kernel) rfl R f_44 f1 (fx_k (c := 100) R (by decide +kernel)) (fx_x (a := 85) (ln := 30) R (by decide +kernel) g_47) fun v_45 f_46 => ?_
  have f_48 := q_is_eq f_46 e_50
  refine go_aload_n (n := 0) (by decide +kernel) l0 f0 ?_
  refine go_getf (x := 52) (ci := 13) (kf := 16) (fin := 1) (t := 2) (by decide +kernel) (by decide +kernel) (by decide +kernel) R f0 (fx_k (c := 13) R (by decide +kernel)) fun v_51 f_52 => ?_
  have f_53 := q_is_eq (b := 83) f_52 (fx_v R (by decide +kernel)).symm
  refine go_iload_n (n := 1) (by decide +kernel) l1 f1 ?_
  obtain ⟨x_57, e_58, h⟩ := lx_s h
  refine go_iald (kd := 100) (by decide +kernel) rfl R f_53 f1 (fx_k (c := 100) R (by decide +kernel)) (fx_x (a := 83) (ln := 30) R (by decide +kernel) g_47) fun v_54 f_55 => ?_
  have f_56 := q_is_eq f_55 e_58
  refine go_iconst (n := 1) (z := 1) (by decide +kernel) (by decide) fun v_59 f_60 => ?_
  refine go_icmp (c := .ne) (o := 7) (t := 58) (P := ¬ (x_57 = 1)) (by decide +kernel) (by decide +kernel) f_56 f_60 (Iff.rfl) (fun hp_61 => ?_) (fun hp_61 => ?_)
  · have h := it_f hp_61 h
    refine go_iconst (n := 0) (z := 0) (by decide +kernel) (by decide) fun v_62 f_63 => ?_
    exact oj_X12_tellsParent_59 hd R f_63 f_48 fs0 fs1 fs2 hQ h
  · have h := it_n hp_61 h
    refine go_iload_n (n := 2) (by decide +kernel) l2 f2 ?_
    refine go_goto (o := 4) (t := 59) (by decide +kernel) (by decide +kernel) ?_
    exact oj_X12_tellsParent_59 hd R f2 f_48 fs0 fs1 fs2 hQ h
noncomputable def fm_X12_tellsParent (p1 p2 : Int) (m0 : MM) : Option (Int × MM) := gd (0 ≤ p1 ∧ p1 < 30) <| lx (m0 84 p1) fun x_8 =>
if x_8 = (-1) then
some (0, m0)
else
bp (fm_X12_isAlive x_8 m0) fun x_20 =>
if x_20 = 0 then
some (0, m0)
else
lx (m0 83 p1) fun x_35 =>
if x_35 = 1 then
fj_X12_tellsParent_38 p1 p2 5 x_8 m0
else
fj_X12_tellsParent_38 p1 p2 6 x_8 m0
set_option maxHeartbeats 4000000 in
theorem om_X12_tellsParent {xs : List Int32} {d : Nat} {S : QS} {m0 : MM} {p1 p2 : Int} {v0 : Value} {v1 : Value} {v2 : Value} {rz : Int} {rm : MM}
  (hd : 4 ≤ d) (R : Rp S m0) (f0 : q_is 2 v0 68) (f1 : q_is 0 v1 p1) (f2 : q_is 0 v2 p2)
  (h : fm_X12_tellsParent p1 p2 m0 = some (rz, rm)) : Mt xs d 256 [v0, v1, v2] S (Cr 9 m0 rm rz) := by
  obtain ⟨d, rfl⟩ : ∃ e, d = e + 1 := ⟨d - 1, by omega⟩
  have hd : 3 ≤ d := Nat.le_of_succ_le_succ hd
  refine Mt.of (M := qM_X12_tellsParent) rfl (by rw [sl_1 (q_is_cat f0 (Or.inr rfl)), sl_1 (q_is_cat f1 (Or.inl rfl)), sl_1 (q_is_cat f2 (Or.inl rfl)), sl_0]; decide) ?_
  rw [la_1 (q_is_cat f0 (Or.inr rfl)), la_1 (q_is_cat f1 (Or.inl rfl)), la_1 (q_is_cat f2 (Or.inl rfl)), la_0]
  obtain ⟨L, hL⟩ : ∃ L : QL, L = [(0, v0), (0 + 1, v1), (0 + 1 + 1, v2)] := ⟨_, rfl⟩
  rw [← hL]
  have l0 : q_lo L 0 = some v0 := by rw [hL]; rfl
  have l1 : q_lo L 1 = some v1 := by rw [hL]; rfl
  have l2 : q_lo L 2 = some v2 := by rw [hL]; rfl
  have hQ : Ext m0 rm → ∀ o S1, Rp S1 rm → q_out 9 o rz → (Cr 9 m0 rm rz) o S1 := fun a o S1 b e => ⟨b, a, e⟩
  unfold fm_X12_tellsParent at h
  refine go_aload_n (n := 0) (by decide +kernel) l0 f0 ?_
  refine go_getf (x := 55) (ci := 13) (kf := 17) (fin := 1) (t := 2) (by decide +kernel) (by decide +kernel) (by decide +kernel) R f0 (fx_k (c := 13) R (by decide +kernel)) fun v_1 f_2 => ?_
  have f_3 := q_is_eq (b := 84) f_2 (fx_v R (by decide +kernel)).symm
  refine go_iload_n (n := 1) (by decide +kernel) l1 f1 ?_
  obtain ⟨g_6, h⟩ := gd_s h
  obtain ⟨x_8, e_9, h⟩ := lx_s h
  refine go_iald (kd := 100) (by decide +kernel) rfl R f_3 f1 (fx_k (c := 100) R (by decide +kernel)) (fx_x (a := 84) (ln := 30) R (by decide +kernel) g_6) fun v_4 f_5 => ?_
  have f_7 := q_is_eq f_5 e_9
  refine go_istore_n (n := 3) (by decide +kernel) (by decide +kernel) f_7 fun L_10 l_11 kp_12 => ?_
  have l_13 := kp_12 0 _ l0 (by decide) (Or.inl (by decide))
  have l_14 := kp_12 1 _ l1 (by decide) (Or.inl (by decide))
  have l_15 := kp_12 2 _ l2 (by decide) (Or.inr (q_is_cat f2 (Or.inl rfl)))
  refine go_iload_n (n := 3) (by decide +kernel) l_11 f_7 ?_
  refine go_iconst (n := (-1)) (z := (-1)) (by decide +kernel) (by decide) fun v_16 f_17 => ?_
  refine go_icmp (c := .eq) (o := 54) (t := 63) (P := x_8 = (-1)) (by decide +kernel) (by decide +kernel) f_7 f_17 (Iff.rfl) (fun hp_18 => ?_) (fun hp_18 => ?_)
  · have h := it_t hp_18 h
    cases h
    exact go_vret (by decide +kernel) rfl (hQ (Ext.rf _) _ _ R q_out_n)
  · have h := it_f hp_18 h
    refine go_aload_n (n := 0) (by decide +kernel) l_13 f0 ?_
    refine go_iload_n (n := 3) (by decide +kernel) l_11 f_7 ?_
    obtain ⟨x_20, hc_19, h⟩ := bp_s h
    refine go_callV (x := 561) (mi := 213) (n := 1) (ci := 13) (as := [v_4]) (rest := []) (by decide +kernel) (by decide +kernel) rfl rfl (q_sum8 _ (Nat.le_of_ble_eq_true rfl)) R f0 (fx_k (c := 13) R (by decide +kernel)) (om_X12_isAlive (Nat.le_trans (by decide) hd) R f0 f_7 hc_19) (fun _ S_24 q_27 => ?_) (fun _ _ qq => kr_x qq)
    refine kr_z (by decide) q_27 fun v_22 f_23 R_25 E_26 => ?_
    refine go_if (c := .eq) (o := 46) (t := 63) (P := x_20 = 0) (by decide +kernel) (by decide +kernel) f_23 (Iff.rfl) (fun hp_28 => ?_) (fun hp_28 => ?_)
    · have h := it_t hp_28 h
      cases h
      exact go_vret (by decide +kernel) rfl (hQ (Ext.rf _) _ _ R_25 q_out_n)
    · have h := it_f hp_28 h
      refine go_aload_n (n := 0) (by decide +kernel) l_13 f0 ?_
      refine go_iload_n (n := 3) (by decide +kernel) l_11 f_7 ?_
      refine go_aload_n (n := 0) (by decide +kernel) l_13 f0 ?_
      refine go_getf (x := 52) (ci := 13) (kf := 16) (fin := 1) (t := 2) (by decide +kernel) (by decide +kernel) (by decide +kernel) R_25 f0 (fx_k (c := 13) R_25 (by decide +kernel)) fun v_29 f_30 => ?_
      have f_31 := q_is_eq (b := 83) f_30 (fx_v R_25 (by decide +kernel)).symm
      refine go_iload_n (n := 1) (by decide +kernel) l_14 f1 ?_
      obtain ⟨x_35, e_36, h⟩ := lx_s h
      refine go_iald (kd := 100) (by decide +kernel) rfl R_25 f_31 f1 (fx_k (c := 100) R_25 (by decide +kernel)) (fx_x (a := 83) (ln := 30) R_25 (by decide +kernel) g_6) fun v_32 f_33 => ?_
      have f_34 := q_is_eq f_33 e_36
      refine go_iconst (n := 1) (z := 1) (by decide +kernel) (by decide) fun v_37 f_38 => ?_
      refine go_icmp (c := .ne) (o := 7) (t := 36) (P := ¬ (x_35 = 1)) (by decide +kernel) (by decide +kernel) f_34 f_38 (Iff.rfl) (fun hp_39 => ?_) (fun hp_39 => ?_)
      · have h := it_f hp_39 h
        refine go_bipush (n := 6) (z := 6) (by decide +kernel) (by decide) fun v_40 f_41 => ?_
        exact oj_X12_tellsParent_38 hd R_25 l_13 f0 l_14 f1 l_15 f2 f_41 f_7 f0 hQ h
      · have h := it_n hp_39 h
        refine go_iconst (n := 5) (z := 5) (by decide +kernel) (by decide) fun v_74 f_75 => ?_
        refine go_goto (o := 5) (t := 38) (by decide +kernel) (by decide +kernel) ?_
        exact oj_X12_tellsParent_38 hd R_25 l_13 f0 l_14 f1 l_15 f2 f_75 f_7 f0 hQ h
noncomputable def fl_X12_closes_45 (y2 y3 y4 y5 : Int) (m : MM) (k82 : Int → Option (Int × MM)) : Nat → Int → Option (Int × MM)
  | 0, _ => none
  | n + 1, y6 => lx (m 68 12) fun x_80 =>
if y6 < x_80 then
gd (0 ≤ y6 ∧ y6 < 30) <| lx (m 84 y6) fun x_90 =>
if x_90 = y5 then
lx (m 83 y6) fun x_112 =>
if x_112 = 0 then
k82 y6
else
lx (w32 (y6 + 1)) fun x_120 =>
fl_X12_closes_45 y2 y3 y4 y5 m k82 n x_120
else
lx (w32 (y6 + 1)) fun x_98 =>
fl_X12_closes_45 y2 y3 y4 y5 m k82 n x_98
else
k82 y6
set_option maxHeartbeats 4000000 in
theorem ol_X12_closes_45 {xs : List Int32} {d : Nat} {Q : QO → QS → Prop} {m : MM} {y2 y3 y4 y5 : Int} {k82 : Int → Option (Int × MM)} {rz : Int} {rm : MM}
  (hd : 4 ≤ d)
  (hk82 : ∀ {z6 : Int} {Sq : QS} {Lq : QL} {u0 : Value} {u2 : Value} {u3 : Value} {u4 : Value} {u5 : Value} {u6 : Value}, k82 z6 = some (rz, rm) → Rp Sq m → q_lo Lq 0 = some u0 → q_is 2 u0 68 → q_lo Lq 2 = some u2 → q_is 0 u2 y2 → q_lo Lq 3 = some u3 → q_is 0 u3 y3 → q_lo Lq 4 = some u4 → q_is 0 u4 y4 → q_lo Lq 5 = some u5 → q_is 0 u5 y5 → q_lo Lq 6 = some u6 → q_is 0 u6 z6 → Go xs d qM_X12_closes 82 Lq [] Sq Q)
  (hQ : Ext m rm → ∀ o S1, Rp S1 rm → q_out 9 o rz → Q o S1) :
  ∀ (n : Nat) {S : QS} {L : QL} {y6 : Int} {v0 : Value} {v2 : Value} {v3 : Value} {v4 : Value} {v5 : Value} {v6 : Value} , fl_X12_closes_45 y2 y3 y4 y5 m k82 n y6 = some (rz, rm) → Rp S m → q_lo L 0 = some v0 → q_is 2 v0 68 → q_lo L 2 = some v2 → q_is 0 v2 y2 → q_lo L 3 = some v3 → q_is 0 v3 y3 → q_lo L 4 = some v4 → q_is 0 v4 y4 → q_lo L 5 = some v5 → q_is 0 v5 y5 → q_lo L 6 = some v6 → q_is 0 v6 y6 → Go xs d qM_X12_closes 45 L [] S Q := by
  intro n
  induction n with
  | zero => intro S L y6 v0 v2 v3 v4 v5 v6; intro h R l0 f0 l2 f2 l3 f3 l4 f4 l5 f5 l6 f6; cases h
  | succ n ih0 =>
    intro S L y6 v0 v2 v3 v4 v5 v6; intro h R l0 f0 l2 f2 l3 f3 l4 f4 l5 f5 l6 f6
    have ih : ∀ {z6 : Int} {Sq : QS} {Lq : QL} {u0 : Value} {u2 : Value} {u3 : Value} {u4 : Value} {u5 : Value} {u6 : Value}, fl_X12_closes_45 y2 y3 y4 y5 m k82 n z6 = some (rz, rm) → Rp Sq m → q_lo Lq 0 = some u0 → q_is 2 u0 68 → q_lo Lq 2 = some u2 → q_is 0 u2 y2 → q_lo Lq 3 = some u3 → q_is 0 u3 y3 → q_lo Lq 4 = some u4 → q_is 0 u4 y4 → q_lo Lq 5 = some u5 → q_is 0 u5 y5 → q_lo Lq 6 = some u6 → q_is 0 u6 z6 → Go xs d qM_X12_closes 45 Lq [] Sq Q := by intros; exact ih0 ‹_› ‹_› ‹_› ‹_› ‹_› ‹_› ‹_› ‹_› ‹_› ‹_› ‹_› ‹_› ‹_› ‹_›
    unfold fl_X12_closes_45 at h
    refine go_iload (n := 6) (by decide +kernel) l6 f6 ?_
    refine go_aload_n (n := 0) (by decide +kernel) l0 f0 ?_
    obtain ⟨x_80, e_81, h⟩ := lx_s h
    refine go_getf (x := 310) (ci := 13) (kf := 12) (fin := 0) (t := 0) (by decide +kernel) (by decide +kernel) (by decide +kernel) R f0 (fx_k (c := 13) R (by decide +kernel)) fun v_77 f_78 => ?_
    have f_79 := q_is_eq f_78 e_81
    refine go_icmp (c := .ge) (o := 31) (t := 82) (P := ¬ (y6 < x_80)) (by decide +kernel) (by decide +kernel) f6 f_79 (Int.not_lt.symm) (fun hp_82 => ?_) (fun hp_82 => ?_)
    · have h := it_f hp_82 h
      exact hk82 h R l0 f0 l2 f2 l3 f3 l4 f4 l5 f5 l6 f6
    · have h := it_n hp_82 h
      refine go_aload_n (n := 0) (by decide +kernel) l0 f0 ?_
      refine go_getf (x := 55) (ci := 13) (kf := 17) (fin := 1) (t := 2) (by decide +kernel) (by decide +kernel) (by decide +kernel) R f0 (fx_k (c := 13) R (by decide +kernel)) fun v_83 f_84 => ?_
      have f_85 := q_is_eq (b := 84) f_84 (fx_v R (by decide +kernel)).symm
      refine go_iload (n := 6) (by decide +kernel) l6 f6 ?_
      obtain ⟨g_88, h⟩ := gd_s h
      obtain ⟨x_90, e_91, h⟩ := lx_s h
      refine go_iald (kd := 100) (by decide +kernel) rfl R f_85 f6 (fx_k (c := 100) R (by decide +kernel)) (fx_x (a := 84) (ln := 30) R (by decide +kernel) g_88) fun v_86 f_87 => ?_
      have f_89 := q_is_eq f_87 e_91
      refine go_iload (n := 5) (by decide +kernel) l5 f5 ?_
      refine go_icmp (c := .ne) (o := 13) (t := 76) (P := ¬ (x_90 = y5)) (by decide +kernel) (by decide +kernel) f_89 f5 (Iff.rfl) (fun hp_92 => ?_) (fun hp_92 => ?_)
      · have h := it_f hp_92 h
        refine go_iinc (n := 6) (c := 1) (c' := 1) (by decide +kernel) (by decide +kernel) l6 f6 (by decide) fun L_93 v_94 f_95 l_96 kp_97 => ?_
        obtain ⟨x_98, e_99, h⟩ := lx_s h
        have f_100 := q_is_eq f_95 e_99
        have l_101 := kp_97 0 _ l0 (by decide) (Or.inl (by decide))
        have l_102 := kp_97 2 _ l2 (by decide) (Or.inl (by decide))
        have l_103 := kp_97 3 _ l3 (by decide) (Or.inl (by decide))
        have l_104 := kp_97 4 _ l4 (by decide) (Or.inl (by decide))
        have l_105 := kp_97 5 _ l5 (by decide) (Or.inr (q_is_cat f5 (Or.inl rfl)))
        refine go_goto (o := (-34)) (t := 45) (by decide +kernel) (by decide +kernel) ?_
        exact ih h R l_101 f0 l_102 f2 l_103 f3 l_104 f4 l_105 f5 l_96 f_100
      · have h := it_n hp_92 h
        refine go_aload_n (n := 0) (by decide +kernel) l0 f0 ?_
        refine go_getf (x := 52) (ci := 13) (kf := 16) (fin := 1) (t := 2) (by decide +kernel) (by decide +kernel) (by decide +kernel) R f0 (fx_k (c := 13) R (by decide +kernel)) fun v_106 f_107 => ?_
        have f_108 := q_is_eq (b := 83) f_107 (fx_v R (by decide +kernel)).symm
        refine go_iload (n := 6) (by decide +kernel) l6 f6 ?_
        obtain ⟨x_112, e_113, h⟩ := lx_s h
        refine go_iald (kd := 100) (by decide +kernel) rfl R f_108 f6 (fx_k (c := 100) R (by decide +kernel)) (fx_x (a := 83) (ln := 30) R (by decide +kernel) g_88) fun v_109 f_110 => ?_
        have f_111 := q_is_eq f_110 e_113
        refine go_if (c := .eq) (o := 9) (t := 82) (P := x_112 = 0) (by decide +kernel) (by decide +kernel) f_111 (Iff.rfl) (fun hp_114 => ?_) (fun hp_114 => ?_)
        · have h := it_t hp_114 h
          exact hk82 h R l0 f0 l2 f2 l3 f3 l4 f4 l5 f5 l6 f6
        · have h := it_f hp_114 h
          refine go_iinc (n := 6) (c := 1) (c' := 1) (by decide +kernel) (by decide +kernel) l6 f6 (by decide) fun L_115 v_116 f_117 l_118 kp_119 => ?_
          obtain ⟨x_120, e_121, h⟩ := lx_s h
          have f_122 := q_is_eq f_117 e_121
          have l_123 := kp_119 0 _ l0 (by decide) (Or.inl (by decide))
          have l_124 := kp_119 2 _ l2 (by decide) (Or.inl (by decide))
          have l_125 := kp_119 3 _ l3 (by decide) (Or.inl (by decide))
          have l_126 := kp_119 4 _ l4 (by decide) (Or.inl (by decide))
          have l_127 := kp_119 5 _ l5 (by decide) (Or.inr (q_is_cat f5 (Or.inl rfl)))
          refine go_goto (o := (-34)) (t := 45) (by decide +kernel) (by decide +kernel) ?_
          exact ih h R l_123 f0 l_124 f2 l_125 f3 l_126 f4 l_127 f5 l_118 f_122
noncomputable def fj_X12_closes_111 (c : Int → MM → Option (Int × MM)) (y2 y3 y4 y5 : Int) (m : MM) : Option (Int × MM) := bd (fm_X12_tellsParent y5 y3 m) fun x_271 m_272 =>
lx (w32 (y4 + (-1))) fun x_285 =>
c x_285 m_272
set_option maxHeartbeats 4000000 in
theorem oj_X12_closes_111 {xs : List Int32} {d : Nat} {S : QS} {L : QL} {Q : QO → QS → Prop} {m : MM} {y2 y3 y4 y5 : Int} {v0 : Value} {v2 : Value} {v3 : Value} {v4 : Value} {v5 : Value}  {rz : Int} {rm : MM} {c : Int → MM → Option (Int × MM)} 
  (hd : 4 ≤ d) (R : Rp S m) (l0 : q_lo L 0 = some v0) (f0 : q_is 2 v0 68) (l2 : q_lo L 2 = some v2) (f2 : q_is 0 v2 y2) (l3 : q_lo L 3 = some v3) (f3 : q_is 0 v3 y3) (l4 : q_lo L 4 = some v4) (f4 : q_is 0 v4 y4) (l5 : q_lo L 5 = some v5) (f5 : q_is 0 v5 y5)
  (hc : ∀ mq : MM, Ext m mq → ∀ {z4 : Int} {Sq : QS} {Lq : QL} {u0 : Value} {u2 : Value} {u3 : Value} {u4 : Value}, c z4 mq = some (rz, rm) → Rp Sq mq → q_lo Lq 0 = some u0 → q_is 2 u0 68 → q_lo Lq 2 = some u2 → q_is 0 u2 y2 → q_lo Lq 3 = some u3 → q_is 0 u3 y3 → q_lo Lq 4 = some u4 → q_is 0 u4 z4 → Go xs d qM_X12_closes 22 Lq [] Sq Q)
  (hQ : Ext m rm → ∀ o S1, Rp S1 rm → q_out 9 o rz → Q o S1)
  (h : fj_X12_closes_111 c y2 y3 y4 y5 m = some (rz, rm)) : Go xs d qM_X12_closes 111 L [] S Q := by
  unfold fj_X12_closes_111 at h
  refine go_aload_n (n := 0) (by decide +kernel) l0 f0 ?_
  refine go_iload (n := 5) (by decide +kernel) l5 f5 ?_
  refine go_iload_n (n := 3) (by decide +kernel) l3 f3 ?_
  obtain ⟨x_271, m_272, hc_270, h⟩ := bd_s h
  refine go_callV (x := 567) (mi := 256) (n := 2) (ci := 13) (as := [v5, v3]) (rest := []) (by decide +kernel) (by decide +kernel) rfl rfl (q_sum8 _ (Nat.le_of_ble_eq_true rfl)) R f0 (fx_k (c := 13) R (by decide +kernel)) (om_X12_tellsParent (Nat.le_trans (by decide) hd) R f0 f5 f3 hc_270) (fun _ S_275 q_278 => ?_) (fun _ _ qq => kr_x qq)
  refine kr_v q_278 fun R_276 E_277 => ?_
  have E_279 := E_277
  refine go_iinc (n := 4) (c := (-1)) (c' := (-1)) (by decide +kernel) (by decide +kernel) l4 f4 (by decide) fun L_280 v_281 f_282 l_283 kp_284 => ?_
  obtain ⟨x_285, e_286, h⟩ := lx_s h
  have f_287 := q_is_eq f_282 e_286
  have l_288 := kp_284 0 _ l0 (by decide) (Or.inl (by decide))
  have l_289 := kp_284 2 _ l2 (by decide) (Or.inl (by decide))
  have l_290 := kp_284 3 _ l3 (by decide) (Or.inr (q_is_cat f3 (Or.inl rfl)))
  refine go_goto (o := 79) (t := 200) (by decide +kernel) (by decide +kernel) ?_
  refine go_goto (o := (-178)) (t := 22) (by decide +kernel) (by decide +kernel) ?_
  exact hc m_272 E_279 h R_276 l_288 f0 l_289 f2 l_290 f3 l_283 f_287
noncomputable def fl_X12_closes_22 (y2 y3 : Int) : Nat → Int → MM → Option (Int × MM)
  | 0, _, _ => none
  | n + 1, y4, m => if y4 < 0 then
some (0, m)
else
gd (0 ≤ y4 ∧ y4 < 31) <| lx (m 160 y4) fun x_52 =>
lx (m 161 y4) fun x_67 =>
fl_X12_closes_45 y2 y3 y4 x_52 m (fun x_128 =>
up m 161 y4 (w32 (x_128 + 1)) fun m_157 =>
lx (m_157 68 12) fun x_166 =>
if x_128 < x_166 then
gd (0 ≤ x_128 ∧ x_128 < 30) <| lx (m_157 80 x_128) fun x_179 =>
gd (0 ≤ x_179 ∧ x_179 < 4) <| lx (m_157 79 x_179) fun x_185 =>
if x_185 = 1 then
bd (fm_X12_cancels x_128 m_157) fun x_260 m_261 =>
fl_X12_closes_22 y2 y3 n y4 m_261
else
if x_185 = 2 then
up m_157 83 x_128 5 fun m_210 =>
bd (fm_X12_stops x_128 m_210) fun x_217 m_218 =>
lx (w32 (y4 + 1)) fun x_231 =>
gd (0 ≤ x_231 ∧ x_231 < 31) <| up m_218 160 x_231 x_128 fun m_242 =>
up m_242 161 x_231 0 fun m_253 =>
fl_X12_closes_22 y2 y3 n x_231 m_253
else
fl_X12_closes_22 y2 y3 n y4 m_157
else
if 0 < y4 then
fj_X12_closes_111 (fl_X12_closes_22 y2 y3 n) y2 y3 y4 x_52 m_157
else
if y2 = 0 then
lx (w32 (y4 + (-1))) fun x_297 =>
fl_X12_closes_22 y2 y3 n x_297 m_157
else
fj_X12_closes_111 (fl_X12_closes_22 y2 y3 n) y2 y3 y4 x_52 m_157) BIG x_67
set_option maxHeartbeats 4000000 in
theorem ol_X12_closes_22 {xs : List Int32} {d : Nat} {Q : QO → QS → Prop} {mb : MM} {y2 y3 : Int} {rz : Int} {rm : MM}
  (hd : 4 ≤ d)
  (hQ : Ext mb rm → ∀ o S1, Rp S1 rm → q_out 9 o rz → Q o S1) :
  ∀ (n : Nat) {m : MM} {S : QS} {L : QL} {y4 : Int} {v0 : Value} {v2 : Value} {v3 : Value} {v4 : Value} , Ext mb m → fl_X12_closes_22 y2 y3 n y4 m = some (rz, rm) → Rp S m → q_lo L 0 = some v0 → q_is 2 v0 68 → q_lo L 2 = some v2 → q_is 0 v2 y2 → q_lo L 3 = some v3 → q_is 0 v3 y3 → q_lo L 4 = some v4 → q_is 0 v4 y4 → Go xs d qM_X12_closes 22 L [] S Q := by
  intro n
  induction n with
  | zero => intro m S L y4 v0 v2 v3 v4; intro E h R l0 f0 l2 f2 l3 f3 l4 f4; cases h
  | succ n ih0 =>
    intro m S L y4 v0 v2 v3 v4; intro E h R l0 f0 l2 f2 l3 f3 l4 f4
    have ih : ∀ mq : MM, Ext mb mq → ∀ {z4 : Int} {Sq : QS} {Lq : QL} {u0 : Value} {u2 : Value} {u3 : Value} {u4 : Value}, fl_X12_closes_22 y2 y3 n z4 mq = some (rz, rm) → Rp Sq mq → q_lo Lq 0 = some u0 → q_is 2 u0 68 → q_lo Lq 2 = some u2 → q_is 0 u2 y2 → q_lo Lq 3 = some u3 → q_is 0 u3 y3 → q_lo Lq 4 = some u4 → q_is 0 u4 z4 → Go xs d qM_X12_closes 22 Lq [] Sq Q := fun mq b => by intros; exact ih0 b ‹_› ‹_› ‹_› ‹_› ‹_› ‹_› ‹_› ‹_› ‹_› ‹_›
    unfold fl_X12_closes_22 at h
    refine go_iload (n := 4) (by decide +kernel) l4 f4 ?_
    refine go_if (c := .lt) (o := 179) (t := 203) (P := y4 < 0) (by decide +kernel) (by decide +kernel) f4 (Iff.rfl) (fun hp_44 => ?_) (fun hp_44 => ?_)
    · have h := it_t hp_44 h
      cases h
      exact go_vret (by decide +kernel) rfl (hQ E _ _ R q_out_n)
    · have h := it_f hp_44 h
      refine go_aload_n (n := 0) (by decide +kernel) l0 f0 ?_
      refine go_getf (x := 297) (ci := 13) (kf := 127) (fin := 1) (t := 2) (by decide +kernel) (by decide +kernel) (by decide +kernel) R f0 (fx_k (c := 13) R (by decide +kernel)) fun v_45 f_46 => ?_
      have f_47 := q_is_eq (b := 160) f_46 (fx_v R (by decide +kernel)).symm
      refine go_iload (n := 4) (by decide +kernel) l4 f4 ?_
      obtain ⟨g_50, h⟩ := gd_s h
      obtain ⟨x_52, e_53, h⟩ := lx_s h
      refine go_iald (kd := 100) (by decide +kernel) rfl R f_47 f4 (fx_k (c := 100) R (by decide +kernel)) (fx_x (a := 160) (ln := 31) R (by decide +kernel) g_50) fun v_48 f_49 => ?_
      have f_51 := q_is_eq f_49 e_53
      refine go_istore (n := 5) (by decide +kernel) (by decide +kernel) f_51 fun L_54 l_55 kp_56 => ?_
      have l_57 := kp_56 0 _ l0 (by decide) (Or.inl (by decide))
      have l_58 := kp_56 2 _ l2 (by decide) (Or.inl (by decide))
      have l_59 := kp_56 3 _ l3 (by decide) (Or.inl (by decide))
      have l_60 := kp_56 4 _ l4 (by decide) (Or.inr (q_is_cat f4 (Or.inl rfl)))
      refine go_aload_n (n := 0) (by decide +kernel) l_57 f0 ?_
      refine go_getf (x := 300) (ci := 13) (kf := 128) (fin := 1) (t := 2) (by decide +kernel) (by decide +kernel) (by decide +kernel) R f0 (fx_k (c := 13) R (by decide +kernel)) fun v_61 f_62 => ?_
      have f_63 := q_is_eq (b := 161) f_62 (fx_v R (by decide +kernel)).symm
      refine go_iload (n := 4) (by decide +kernel) l_60 f4 ?_
      obtain ⟨x_67, e_68, h⟩ := lx_s h
      refine go_iald (kd := 100) (by decide +kernel) rfl R f_63 f4 (fx_k (c := 100) R (by decide +kernel)) (fx_x (a := 161) (ln := 31) R (by decide +kernel) g_50) fun v_64 f_65 => ?_
      have f_66 := q_is_eq f_65 e_68
      refine go_istore (n := 6) (by decide +kernel) (by decide +kernel) f_66 fun L_69 l_70 kp_71 => ?_
      have l_72 := kp_71 0 _ l_57 (by decide) (Or.inl (by decide))
      have l_73 := kp_71 2 _ l_58 (by decide) (Or.inl (by decide))
      have l_74 := kp_71 3 _ l_59 (by decide) (Or.inl (by decide))
      have l_75 := kp_71 4 _ l_60 (by decide) (Or.inl (by decide))
      have l_76 := kp_71 5 _ l_55 (by decide) (Or.inr (q_is_cat f_51 (Or.inl rfl)))
      refine ol_X12_closes_45 hd  ?_ (fun b => hQ (Ext.tr E b)) BIG h R l_72 f0 l_73 f2 l_74 f3 l_75 f4 l_76 f_51 l_70 f_66
      intro x_128 S_147 L_148 v_129 v_130 v_131 v_132 v_133 v_134
      intro h R_149 l_135 f_141 l_136 f_142 l_137 f_143 l_138 f_144 l_139 f_145 l_140 f_146
      refine go_aload_n (n := 0) (by decide +kernel) l_135 f_141 ?_
      refine go_getf (x := 300) (ci := 13) (kf := 128) (fin := 1) (t := 2) (by decide +kernel) (by decide +kernel) (by decide +kernel) R_149 f_141 (fx_k (c := 13) R_149 (by decide +kernel)) fun v_150 f_151 => ?_
      have f_152 := q_is_eq (b := 161) f_151 (fx_v R_149 (by decide +kernel)).symm
      refine go_iload (n := 4) (by decide +kernel) l_138 f_144 ?_
      refine go_iload (n := 6) (by decide +kernel) l_140 f_146 ?_
      refine go_iconst (n := 1) (z := 1) (by decide +kernel) (by decide) fun v_153 f_154 => ?_
      refine go_iadd (by decide +kernel) f_146 f_154 fun v_155 f_156 => ?_
      obtain ⟨m_157, e_158, h⟩ := up_s h
      refine go_iast (kd := 100) (by decide +kernel) rfl R_149 f_152 f_144 f_156 (fx_k (c := 100) R_149 (by decide +kernel)) (fx_x (a := 161) (ln := 31) R_149 (by decide +kernel) g_50) e_158 (fx_a R_149.2 (fx_k (c := 100) R_149 (by decide +kernel)) (And.left (fx_x (a := 161) (ln := 31) R_149 (by decide +kernel) g_50)) (by decide +kernel)) fun S_159 R_160 E_161 => ?_
      have E_162 := Ext.tr E E_161
      refine go_iload (n := 6) (by decide +kernel) l_140 f_146 ?_
      refine go_aload_n (n := 0) (by decide +kernel) l_135 f_141 ?_
      obtain ⟨x_166, e_167, h⟩ := lx_s h
      refine go_getf (x := 310) (ci := 13) (kf := 12) (fin := 0) (t := 0) (by decide +kernel) (by decide +kernel) (by decide +kernel) R_160 f_141 (fx_k (c := 13) R_160 (by decide +kernel)) fun v_163 f_164 => ?_
      have f_165 := q_is_eq f_164 e_167
      refine go_icmp (c := .lt) (o := 25) (t := 124) (P := x_128 < x_166) (by decide +kernel) (by decide +kernel) f_146 f_165 (Iff.rfl) (fun hp_168 => ?_) (fun hp_168 => ?_)
      · have h := it_t hp_168 h
        refine go_aload_n (n := 0) (by decide +kernel) l_135 f_141 ?_
        refine go_getf (x := 40) (ci := 13) (kf := 11) (fin := 1) (t := 2) (by decide +kernel) (by decide +kernel) (by decide +kernel) R_160 f_141 (fx_k (c := 13) R_160 (by decide +kernel)) fun v_169 f_170 => ?_
        have f_171 := q_is_eq (b := 79) f_170 (fx_v R_160 (by decide +kernel)).symm
        refine go_aload_n (n := 0) (by decide +kernel) l_135 f_141 ?_
        refine go_getf (x := 43) (ci := 13) (kf := 13) (fin := 1) (t := 2) (by decide +kernel) (by decide +kernel) (by decide +kernel) R_160 f_141 (fx_k (c := 13) R_160 (by decide +kernel)) fun v_172 f_173 => ?_
        have f_174 := q_is_eq (b := 80) f_173 (fx_v R_160 (by decide +kernel)).symm
        refine go_iload (n := 6) (by decide +kernel) l_140 f_146 ?_
        obtain ⟨g_177, h⟩ := gd_s h
        obtain ⟨x_179, e_180, h⟩ := lx_s h
        refine go_iald (kd := 100) (by decide +kernel) rfl R_160 f_174 f_146 (fx_k (c := 100) R_160 (by decide +kernel)) (fx_x (a := 80) (ln := 30) R_160 (by decide +kernel) g_177) fun v_175 f_176 => ?_
        have f_178 := q_is_eq f_176 e_180
        obtain ⟨g_183, h⟩ := gd_s h
        obtain ⟨x_185, e_186, h⟩ := lx_s h
        refine go_iald (kd := 100) (by decide +kernel) rfl R_160 f_171 f_178 (fx_k (c := 100) R_160 (by decide +kernel)) (fx_x (a := 79) (ln := 4) R_160 (by decide +kernel) g_183) fun v_181 f_182 => ?_
        have f_184 := q_is_eq f_182 e_186
        refine go_iconst (n := 1) (z := 1) (by decide +kernel) (by decide) fun v_187 f_188 => ?_
        refine go_icmp (c := .ne) (o := 13) (t := 150) (P := ¬ (x_185 = 1)) (by decide +kernel) (by decide +kernel) f_184 f_188 (Iff.rfl) (fun hp_189 => ?_) (fun hp_189 => ?_)
        · have h := it_f hp_189 h
          refine go_aload_n (n := 0) (by decide +kernel) l_135 f_141 ?_
          refine go_getf (x := 40) (ci := 13) (kf := 11) (fin := 1) (t := 2) (by decide +kernel) (by decide +kernel) (by decide +kernel) R_160 f_141 (fx_k (c := 13) R_160 (by decide +kernel)) fun v_190 f_191 => ?_
          have f_192 := q_is_eq (b := 79) f_191 (fx_v R_160 (by decide +kernel)).symm
          refine go_aload_n (n := 0) (by decide +kernel) l_135 f_141 ?_
          refine go_getf (x := 43) (ci := 13) (kf := 13) (fin := 1) (t := 2) (by decide +kernel) (by decide +kernel) (by decide +kernel) R_160 f_141 (fx_k (c := 13) R_160 (by decide +kernel)) fun v_193 f_194 => ?_
          have f_195 := q_is_eq (b := 80) f_194 (fx_v R_160 (by decide +kernel)).symm
          refine go_iload (n := 6) (by decide +kernel) l_140 f_146 ?_
          refine go_iald (kd := 100) (by decide +kernel) rfl R_160 f_195 f_146 (fx_k (c := 100) R_160 (by decide +kernel)) (fx_x (a := 80) (ln := 30) R_160 (by decide +kernel) g_177) fun v_196 f_197 => ?_
          have f_198 := q_is_eq f_197 e_180
          refine go_iald (kd := 100) (by decide +kernel) rfl R_160 f_192 f_198 (fx_k (c := 100) R_160 (by decide +kernel)) (fx_x (a := 79) (ln := 4) R_160 (by decide +kernel) g_183) fun v_199 f_200 => ?_
          have f_201 := q_is_eq f_200 e_186
          refine go_iconst (n := 2) (z := 2) (by decide +kernel) (by decide) fun v_202 f_203 => ?_
          refine go_icmp (c := .ne) (o := 37) (t := 200) (P := ¬ (x_185 = 2)) (by decide +kernel) (by decide +kernel) f_201 f_203 (Iff.rfl) (fun hp_204 => ?_) (fun hp_204 => ?_)
          · have h := it_f hp_204 h
            refine go_goto (o := (-178)) (t := 22) (by decide +kernel) (by decide +kernel) ?_
            exact ih m_157 E_162 h R_160 l_135 f_141 l_136 f_142 l_137 f_143 l_138 f_144
          · have h := it_n hp_204 h
            refine go_aload_n (n := 0) (by decide +kernel) l_135 f_141 ?_
            refine go_getf (x := 52) (ci := 13) (kf := 16) (fin := 1) (t := 2) (by decide +kernel) (by decide +kernel) (by decide +kernel) R_160 f_141 (fx_k (c := 13) R_160 (by decide +kernel)) fun v_205 f_206 => ?_
            have f_207 := q_is_eq (b := 83) f_206 (fx_v R_160 (by decide +kernel)).symm
            refine go_iload (n := 6) (by decide +kernel) l_140 f_146 ?_
            refine go_iconst (n := 5) (z := 5) (by decide +kernel) (by decide) fun v_208 f_209 => ?_
            obtain ⟨m_210, e_211, h⟩ := up_s h
            refine go_iast (kd := 100) (by decide +kernel) rfl R_160 f_207 f_146 f_209 (fx_k (c := 100) R_160 (by decide +kernel)) (fx_x (a := 83) (ln := 30) R_160 (by decide +kernel) g_177) e_211 (fx_a R_160.2 (fx_k (c := 100) R_160 (by decide +kernel)) (And.left (fx_x (a := 83) (ln := 30) R_160 (by decide +kernel) g_177)) (by decide +kernel)) fun S_212 R_213 E_214 => ?_
            have E_215 := Ext.tr E_162 E_214
            refine go_aload_n (n := 0) (by decide +kernel) l_135 f_141 ?_
            refine go_iload (n := 6) (by decide +kernel) l_140 f_146 ?_
            obtain ⟨x_217, m_218, hc_216, h⟩ := bd_s h
            refine go_callV (x := 564) (mi := 254) (n := 1) (ci := 13) (as := [v_134]) (rest := []) (by decide +kernel) (by decide +kernel) rfl rfl (q_sum8 _ (Nat.le_of_ble_eq_true rfl)) R_213 f_141 (fx_k (c := 13) R_213 (by decide +kernel)) (om_X12_stops (Nat.le_trans (by decide) hd) R_213 f_141 f_146 hc_216) (fun _ S_221 q_224 => ?_) (fun _ _ qq => kr_x qq)
            refine kr_v q_224 fun R_222 E_223 => ?_
            have E_225 := Ext.tr E_215 E_223
            refine go_iinc (n := 4) (c := 1) (c' := 1) (by decide +kernel) (by decide +kernel) l_138 f_144 (by decide) fun L_226 v_227 f_228 l_229 kp_230 => ?_
            obtain ⟨x_231, e_232, h⟩ := lx_s h
            have f_233 := q_is_eq f_228 e_232
            have l_234 := kp_230 0 _ l_135 (by decide) (Or.inl (by decide))
            have l_235 := kp_230 2 _ l_136 (by decide) (Or.inl (by decide))
            have l_236 := kp_230 3 _ l_137 (by decide) (Or.inr (q_is_cat f_143 (Or.inl rfl)))
            have l_237 := kp_230 6 _ l_140 (by decide) (Or.inl (by decide))
            refine go_aload_n (n := 0) (by decide +kernel) l_234 f_141 ?_
            refine go_getf (x := 297) (ci := 13) (kf := 127) (fin := 1) (t := 2) (by decide +kernel) (by decide +kernel) (by decide +kernel) R_222 f_141 (fx_k (c := 13) R_222 (by decide +kernel)) fun v_238 f_239 => ?_
            have f_240 := q_is_eq (b := 160) f_239 (fx_v R_222 (by decide +kernel)).symm
            refine go_iload (n := 4) (by decide +kernel) l_229 f_233 ?_
            refine go_iload (n := 6) (by decide +kernel) l_237 f_146 ?_
            obtain ⟨g_241, h⟩ := gd_s h
            obtain ⟨m_242, e_243, h⟩ := up_s h
            refine go_iast (kd := 100) (by decide +kernel) rfl R_222 f_240 f_233 f_146 (fx_k (c := 100) R_222 (by decide +kernel)) (fx_x (a := 160) (ln := 31) R_222 (by decide +kernel) g_241) e_243 (fx_a R_222.2 (fx_k (c := 100) R_222 (by decide +kernel)) (And.left (fx_x (a := 160) (ln := 31) R_222 (by decide +kernel) g_241)) (by decide +kernel)) fun S_244 R_245 E_246 => ?_
            have E_247 := Ext.tr E_225 E_246
            refine go_aload_n (n := 0) (by decide +kernel) l_234 f_141 ?_
            refine go_getf (x := 300) (ci := 13) (kf := 128) (fin := 1) (t := 2) (by decide +kernel) (by decide +kernel) (by decide +kernel) R_245 f_141 (fx_k (c := 13) R_245 (by decide +kernel)) fun v_248 f_249 => ?_
            have f_250 := q_is_eq (b := 161) f_249 (fx_v R_245 (by decide +kernel)).symm
            refine go_iload (n := 4) (by decide +kernel) l_229 f_233 ?_
            refine go_iconst (n := 0) (z := 0) (by decide +kernel) (by decide) fun v_251 f_252 => ?_
            obtain ⟨m_253, e_254, h⟩ := up_s h
            refine go_iast (kd := 100) (by decide +kernel) rfl R_245 f_250 f_233 f_252 (fx_k (c := 100) R_245 (by decide +kernel)) (fx_x (a := 161) (ln := 31) R_245 (by decide +kernel) g_241) e_254 (fx_a R_245.2 (fx_k (c := 100) R_245 (by decide +kernel)) (And.left (fx_x (a := 161) (ln := 31) R_245 (by decide +kernel) g_241)) (by decide +kernel)) fun S_255 R_256 E_257 => ?_
            have E_258 := Ext.tr E_247 E_257
            refine go_goto (o := (-178)) (t := 22) (by decide +kernel) (by decide +kernel) ?_
            exact ih m_253 E_258 h R_256 l_234 f_141 l_235 f_142 l_236 f_143 l_229 f_233
        · have h := it_n hp_189 h
          refine go_aload_n (n := 0) (by decide +kernel) l_135 f_141 ?_
          refine go_iload (n := 6) (by decide +kernel) l_140 f_146 ?_
          obtain ⟨x_260, m_261, hc_259, h⟩ := bd_s h
          refine go_callV (x := 558) (mi := 214) (n := 1) (ci := 13) (as := [v_134]) (rest := []) (by decide +kernel) (by decide +kernel) rfl rfl (q_sum8 _ (Nat.le_of_ble_eq_true rfl)) R_160 f_141 (fx_k (c := 13) R_160 (by decide +kernel)) (om_X12_cancels (Nat.le_trans (by decide) hd) R_160 f_141 f_146 hc_259) (fun _ S_264 q_267 => ?_) (fun _ _ qq => kr_x qq)
          refine kr_z (by decide) q_267 fun v_262 f_263 R_265 E_266 => ?_
          have E_268 := Ext.tr E_162 E_266
          refine go_pop (by decide +kernel) f_263 (Or.inl rfl) ?_
          refine go_goto (o := 53) (t := 200) (by decide +kernel) (by decide +kernel) ?_
          refine go_goto (o := (-178)) (t := 22) (by decide +kernel) (by decide +kernel) ?_
          exact ih m_261 E_268 h R_265 l_135 f_141 l_136 f_142 l_137 f_143 l_138 f_144
      · have h := it_f hp_168 h
        refine go_iload (n := 4) (by decide +kernel) l_138 f_144 ?_
        refine go_if (c := .gt) (o := 7) (t := 111) (P := 0 < y4) (by decide +kernel) (by decide +kernel) f_144 (Iff.rfl) (fun hp_269 => ?_) (fun hp_269 => ?_)
        · have h := it_t hp_269 h
          exact oj_X12_closes_111 hd R_160 l_135 f_141 l_136 f_142 l_137 f_143 l_138 f_144 l_139 f_145 (fun mq b => ih mq (Ext.tr E_162 b)) (fun b => hQ (Ext.tr E_162 b)) h
        · have h := it_f hp_269 h
          refine go_iload_n (n := 2) (by decide +kernel) l_136 f_142 ?_
          refine go_if (c := .eq) (o := 10) (t := 118) (P := y2 = 0) (by decide +kernel) (by decide +kernel) f_142 (Iff.rfl) (fun hp_291 => ?_) (fun hp_291 => ?_)
          · have h := it_t hp_291 h
            refine go_iinc (n := 4) (c := (-1)) (c' := (-1)) (by decide +kernel) (by decide +kernel) l_138 f_144 (by decide) fun L_292 v_293 f_294 l_295 kp_296 => ?_
            obtain ⟨x_297, e_298, h⟩ := lx_s h
            have f_299 := q_is_eq f_294 e_298
            have l_300 := kp_296 0 _ l_135 (by decide) (Or.inl (by decide))
            have l_301 := kp_296 2 _ l_136 (by decide) (Or.inl (by decide))
            have l_302 := kp_296 3 _ l_137 (by decide) (Or.inr (q_is_cat f_143 (Or.inl rfl)))
            refine go_goto (o := 79) (t := 200) (by decide +kernel) (by decide +kernel) ?_
            refine go_goto (o := (-178)) (t := 22) (by decide +kernel) (by decide +kernel) ?_
            exact ih m_157 E_162 h R_160 l_300 f_141 l_301 f_142 l_302 f_143 l_295 f_299
          · have h := it_f hp_291 h
            exact oj_X12_closes_111 hd R_160 l_135 f_141 l_136 f_142 l_137 f_143 l_138 f_144 l_139 f_145 (fun mq b => ih mq (Ext.tr E_162 b)) (fun b => hQ (Ext.tr E_162 b)) h
noncomputable def fm_X12_closes (p1 p2 p3 : Int) (m0 : MM) : Option (Int × MM) := up m0 160 0 p1 fun m_15 =>
up m_15 161 0 0 fun m_28 =>
bd (fm_X12_stops p1 m_28) fun x_35 m_36 =>
fl_X12_closes_22 p2 p3  BIG 0 m_36
set_option maxHeartbeats 4000000 in
theorem om_X12_closes {xs : List Int32} {d : Nat} {S : QS} {m0 : MM} {p1 p2 p3 : Int} {v0 : Value} {v1 : Value} {v2 : Value} {v3 : Value} {rz : Int} {rm : MM}
  (hd : 5 ≤ d) (R : Rp S m0) (f0 : q_is 2 v0 68) (f1 : q_is 0 v1 p1) (f2 : q_is 0 v2 p2) (f3 : q_is 0 v3 p3)
  (h : fm_X12_closes p1 p2 p3 m0 = some (rz, rm)) : Mt xs d 257 [v0, v1, v2, v3] S (Cr 9 m0 rm rz) := by
  obtain ⟨d, rfl⟩ : ∃ e, d = e + 1 := ⟨d - 1, by omega⟩
  have hd : 4 ≤ d := Nat.le_of_succ_le_succ hd
  refine Mt.of (M := qM_X12_closes) rfl (by rw [sl_1 (q_is_cat f0 (Or.inr rfl)), sl_1 (q_is_cat f1 (Or.inl rfl)), sl_1 (q_is_cat f2 (Or.inl rfl)), sl_1 (q_is_cat f3 (Or.inl rfl)), sl_0]; decide) ?_
  rw [la_1 (q_is_cat f0 (Or.inr rfl)), la_1 (q_is_cat f1 (Or.inl rfl)), la_1 (q_is_cat f2 (Or.inl rfl)), la_1 (q_is_cat f3 (Or.inl rfl)), la_0]
  obtain ⟨L, hL⟩ : ∃ L : QL, L = [(0, v0), (0 + 1, v1), (0 + 1 + 1, v2), (0 + 1 + 1 + 1, v3)] := ⟨_, rfl⟩
  rw [← hL]
  have l0 : q_lo L 0 = some v0 := by rw [hL]; rfl
  have l1 : q_lo L 1 = some v1 := by rw [hL]; rfl
  have l2 : q_lo L 2 = some v2 := by rw [hL]; rfl
  have l3 : q_lo L 3 = some v3 := by rw [hL]; rfl
  have hQ : Ext m0 rm → ∀ o S1, Rp S1 rm → q_out 9 o rz → (Cr 9 m0 rm rz) o S1 := fun a o S1 b e => ⟨b, a, e⟩
  unfold fm_X12_closes at h
  refine go_iconst (n := 0) (z := 0) (by decide +kernel) (by decide) fun v_1 f_2 => ?_
  refine go_istore (n := 4) (by decide +kernel) (by decide +kernel) f_2 fun L_3 l_4 kp_5 => ?_
  have l_6 := kp_5 0 _ l0 (by decide) (Or.inl (by decide))
  have l_7 := kp_5 1 _ l1 (by decide) (Or.inl (by decide))
  have l_8 := kp_5 2 _ l2 (by decide) (Or.inl (by decide))
  have l_9 := kp_5 3 _ l3 (by decide) (Or.inr (q_is_cat f3 (Or.inl rfl)))
  refine go_aload_n (n := 0) (by decide +kernel) l_6 f0 ?_
  refine go_getf (x := 297) (ci := 13) (kf := 127) (fin := 1) (t := 2) (by decide +kernel) (by decide +kernel) (by decide +kernel) R f0 (fx_k (c := 13) R (by decide +kernel)) fun v_10 f_11 => ?_
  have f_12 := q_is_eq (b := 160) f_11 (fx_v R (by decide +kernel)).symm
  refine go_iconst (n := 0) (z := 0) (by decide +kernel) (by decide) fun v_13 f_14 => ?_
  refine go_iload_n (n := 1) (by decide +kernel) l_7 f1 ?_
  obtain ⟨m_15, e_16, h⟩ := up_s h
  refine go_iast (kd := 100) (by decide +kernel) rfl R f_12 f_14 f1 (fx_k (c := 100) R (by decide +kernel)) (fx_x (a := 160) (ln := 31) R (by decide +kernel) (by decide)) e_16 (fx_a R.2 (fx_k (c := 100) R (by decide +kernel)) (And.left (fx_x (a := 160) (ln := 31) R (by decide +kernel) (by decide))) (by decide +kernel)) fun S_17 R_18 E_19 => ?_
  have E_20 := E_19
  refine go_aload_n (n := 0) (by decide +kernel) l_6 f0 ?_
  refine go_getf (x := 300) (ci := 13) (kf := 128) (fin := 1) (t := 2) (by decide +kernel) (by decide +kernel) (by decide +kernel) R_18 f0 (fx_k (c := 13) R_18 (by decide +kernel)) fun v_21 f_22 => ?_
  have f_23 := q_is_eq (b := 161) f_22 (fx_v R_18 (by decide +kernel)).symm
  refine go_iconst (n := 0) (z := 0) (by decide +kernel) (by decide) fun v_24 f_25 => ?_
  refine go_iconst (n := 0) (z := 0) (by decide +kernel) (by decide) fun v_26 f_27 => ?_
  obtain ⟨m_28, e_29, h⟩ := up_s h
  refine go_iast (kd := 100) (by decide +kernel) rfl R_18 f_23 f_25 f_27 (fx_k (c := 100) R_18 (by decide +kernel)) (fx_x (a := 161) (ln := 31) R_18 (by decide +kernel) (by decide)) e_29 (fx_a R_18.2 (fx_k (c := 100) R_18 (by decide +kernel)) (And.left (fx_x (a := 161) (ln := 31) R_18 (by decide +kernel) (by decide))) (by decide +kernel)) fun S_30 R_31 E_32 => ?_
  have E_33 := Ext.tr E_20 E_32
  refine go_aload_n (n := 0) (by decide +kernel) l_6 f0 ?_
  refine go_iload_n (n := 1) (by decide +kernel) l_7 f1 ?_
  obtain ⟨x_35, m_36, hc_34, h⟩ := bd_s h
  refine go_callV (x := 564) (mi := 254) (n := 1) (ci := 13) (as := [v1]) (rest := []) (by decide +kernel) (by decide +kernel) rfl rfl (q_sum8 _ (Nat.le_of_ble_eq_true rfl)) R_31 f0 (fx_k (c := 13) R_31 (by decide +kernel)) (om_X12_stops (Nat.le_trans (by decide) hd) R_31 f0 f1 hc_34) (fun _ S_39 q_42 => ?_) (fun _ _ qq => kr_x qq)
  refine kr_v q_42 fun R_40 E_41 => ?_
  have E_43 := Ext.tr E_33 E_41
  refine ol_X12_closes_22 hd   (fun b => hQ (Ext.tr E_43 b)) BIG (Ext.rf _) h R_40 l_6 f0 l_8 f2 l_9 f3 l_4 f_2
noncomputable def fj_X12_begin_65 (y1 y2 y3 s0 : Int) (m : MM) : Option (Int × MM) := bd (fm_X12_fails s0 m) fun x_44 m_45 =>
if x_44 = 0 then
gd (0 ≤ y1 ∧ y1 < 4) <| lx (m_45 69 y1) fun x_61 =>
bd (fm_X12_makes y1 y2 (w32 (x_61 - 1)) y3 (-1) (-1) m_45) fun x_72 m_73 =>
some (x_72, m_73)
else
some (0, m_45)
set_option maxHeartbeats 4000000 in
theorem oj_X12_begin_65 {xs : List Int32} {d : Nat} {S : QS} {L : QL} {Q : QO → QS → Prop} {m : MM} {y1 y2 y3 s0 : Int} {v0 : Value} {v1 : Value} {v2 : Value} {v3 : Value} {w0 : Value} {w1 : Value}  {rz : Int} {rm : MM}
  (hd : 4 ≤ d) (R : Rp S m) (l0 : q_lo L 0 = some v0) (f0 : q_is 2 v0 68) (l1 : q_lo L 1 = some v1) (f1 : q_is 0 v1 y1) (l2 : q_lo L 2 = some v2) (f2 : q_is 0 v2 y2) (l3 : q_lo L 3 = some v3) (f3 : q_is 0 v3 y3) (fs0 : q_is 0 w0 s0) (fs1 : q_is 2 w1 68)
  (hQ : Ext m rm → ∀ o S1, Rp S1 rm → q_out 0 o rz → Q o S1)
  (h : fj_X12_begin_65 y1 y2 y3 s0 m = some (rz, rm)) : Go xs d qM_X12_begin 65 L [w0, w1] S Q := by
  unfold fj_X12_begin_65 at h
  obtain ⟨x_44, m_45, hc_43, h⟩ := bd_s h
  refine go_callV (x := 324) (mi := 186) (n := 1) (ci := 13) (as := [w0]) (rest := []) (by decide +kernel) (by decide +kernel) rfl rfl (q_sum8 _ (Nat.le_of_ble_eq_true rfl)) R fs1 (fx_k (c := 13) R (by decide +kernel)) (om_X12_fails (Nat.le_trans (by decide) hd) R fs1 fs0 hc_43) (fun _ S_48 q_51 => ?_) (fun _ _ qq => kr_x qq)
  refine kr_z (by decide) q_51 fun v_46 f_47 R_49 E_50 => ?_
  have E_52 := E_50
  refine go_if (c := .eq) (o := 5) (t := 73) (P := x_44 = 0) (by decide +kernel) (by decide +kernel) f_47 (Iff.rfl) (fun hp_53 => ?_) (fun hp_53 => ?_)
  · have h := it_t hp_53 h
    refine go_aload_n (n := 0) (by decide +kernel) l0 f0 ?_
    refine go_iload_n (n := 1) (by decide +kernel) l1 f1 ?_
    refine go_iload_n (n := 2) (by decide +kernel) l2 f2 ?_
    refine go_aload_n (n := 0) (by decide +kernel) l0 f0 ?_
    refine go_getf (x := 7) (ci := 13) (kf := 1) (fin := 1) (t := 2) (by decide +kernel) (by decide +kernel) (by decide +kernel) R_49 f0 (fx_k (c := 13) R_49 (by decide +kernel)) fun v_54 f_55 => ?_
    have f_56 := q_is_eq (b := 69) f_55 (fx_v R_49 (by decide +kernel)).symm
    refine go_iload_n (n := 1) (by decide +kernel) l1 f1 ?_
    obtain ⟨g_59, h⟩ := gd_s h
    obtain ⟨x_61, e_62, h⟩ := lx_s h
    refine go_iald (kd := 100) (by decide +kernel) rfl R_49 f_56 f1 (fx_k (c := 100) R_49 (by decide +kernel)) (fx_x (a := 69) (ln := 4) R_49 (by decide +kernel) g_59) fun v_57 f_58 => ?_
    have f_60 := q_is_eq f_58 e_62
    refine go_iconst (n := 1) (z := 1) (by decide +kernel) (by decide) fun v_63 f_64 => ?_
    refine go_isub (by decide +kernel) f_60 f_64 fun v_65 f_66 => ?_
    refine go_iload_n (n := 3) (by decide +kernel) l3 f3 ?_
    refine go_iconst (n := (-1)) (z := (-1)) (by decide +kernel) (by decide) fun v_67 f_68 => ?_
    refine go_iconst (n := (-1)) (z := (-1)) (by decide +kernel) (by decide) fun v_69 f_70 => ?_
    obtain ⟨x_72, m_73, hc_71, h⟩ := bd_s h
    refine go_callV (x := 576) (mi := 212) (n := 6) (ci := 13) (as := [v1, v2, v_65, v3, v_67, v_69]) (rest := []) (by decide +kernel) (by decide +kernel) rfl rfl (q_sum8 _ (Nat.le_of_ble_eq_true rfl)) R_49 f0 (fx_k (c := 13) R_49 (by decide +kernel)) (om_X12_makes (Nat.le_trans (by decide) hd) R_49 f0 f1 f2 f_66 f3 f_68 f_70 hc_71) (fun _ S_76 q_79 => ?_) (fun _ _ qq => kr_x qq)
    refine kr_z (by decide) q_79 fun v_74 f_75 R_77 E_78 => ?_
    have E_80 := Ext.tr E_52 E_78
    cases h
    exact go_iret (by decide +kernel) rfl (Or.inl rfl) f_75 (hQ E_80 _ _ R_77 (q_out_v (by decide) f_75))
  · have h := it_f hp_53 h
    refine go_iconst (n := 0) (z := 0) (by decide +kernel) (by decide) fun v_81 f_82 => ?_
    cases h
    exact go_iret (by decide +kernel) rfl (Or.inl rfl) f_82 (hQ E_52 _ _ R_49 (q_out_v (by decide) f_82))
noncomputable def fj_X12_begin_19 (y1 y2 y3 s0 : Int) (m : MM) : Option (Int × MM) := if s0 = 0 then
fj_X12_begin_65 y1 y2 y3 1 m
else
bp (fm_X12_isValue y3 m) fun x_22 =>
if x_22 = 0 then
fj_X12_begin_65 y1 y2 y3 2 m
else
gd (0 ≤ y1 ∧ y1 < 4) <| lx (m 69 y1) fun x_38 =>
if x_38 = 0 then
fj_X12_begin_65 y1 y2 y3 3 m
else
lx (m 68 12) fun x_86 =>
if x_86 = 30 then
fj_X12_begin_65 y1 y2 y3 3 m
else
fj_X12_begin_65 y1 y2 y3 0 m
set_option maxHeartbeats 4000000 in
theorem oj_X12_begin_19 {xs : List Int32} {d : Nat} {S : QS} {L : QL} {Q : QO → QS → Prop} {m : MM} {y1 y2 y3 s0 : Int} {v0 : Value} {v1 : Value} {v2 : Value} {v3 : Value} {w0 : Value}  {rz : Int} {rm : MM}
  (hd : 4 ≤ d) (R : Rp S m) (l0 : q_lo L 0 = some v0) (f0 : q_is 2 v0 68) (l1 : q_lo L 1 = some v1) (f1 : q_is 0 v1 y1) (l2 : q_lo L 2 = some v2) (f2 : q_is 0 v2 y2) (l3 : q_lo L 3 = some v3) (f3 : q_is 0 v3 y3) (fs0 : q_is 0 w0 s0)
  (hQ : Ext m rm → ∀ o S1, Rp S1 rm → q_out 0 o rz → Q o S1)
  (h : fj_X12_begin_19 y1 y2 y3 s0 m = some (rz, rm)) : Go xs d qM_X12_begin 19 L [w0] S Q := by
  unfold fj_X12_begin_19 at h
  refine go_istore (n := 4) (by decide +kernel) (by decide +kernel) fs0 fun L_13 l_14 kp_15 => ?_
  have l_16 := kp_15 0 _ l0 (by decide) (Or.inl (by decide))
  have l_17 := kp_15 1 _ l1 (by decide) (Or.inl (by decide))
  have l_18 := kp_15 2 _ l2 (by decide) (Or.inl (by decide))
  have l_19 := kp_15 3 _ l3 (by decide) (Or.inr (q_is_cat f3 (Or.inl rfl)))
  refine go_aload_n (n := 0) (by decide +kernel) l_16 f0 ?_
  refine go_iload (n := 4) (by decide +kernel) l_14 fs0 ?_
  refine go_if (c := .ne) (o := 7) (t := 31) (P := ¬ (s0 = 0)) (by decide +kernel) (by decide +kernel) fs0 (Iff.rfl) (fun hp_20 => ?_) (fun hp_20 => ?_)
  · have h := it_f hp_20 h
    refine go_iload_n (n := 3) (by decide +kernel) l_19 f3 ?_
    obtain ⟨x_22, hc_21, h⟩ := bp_s h
    refine go_callS (x := 573) (mi := 194) (n := 1) (b := 0) (as := [v3]) (rest := [v0]) (by decide +kernel) (by decide +kernel) rfl rfl (q_sum8 _ (Nat.le_of_ble_eq_true rfl)) (om_X12_isValue (Nat.le_trans (by decide) hd) R f3 hc_21) (fun _ S_26 q_29 => ?_) (fun _ _ qq => kr_x qq)
    refine kr_z (by decide) q_29 fun v_24 f_25 R_27 E_28 => ?_
    refine go_if (c := .ne) (o := 7) (t := 42) (P := ¬ (x_22 = 0)) (by decide +kernel) (by decide +kernel) f_25 (Iff.rfl) (fun hp_30 => ?_) (fun hp_30 => ?_)
    · have h := it_f hp_30 h
      refine go_aload_n (n := 0) (by decide +kernel) l_16 f0 ?_
      refine go_getf (x := 7) (ci := 13) (kf := 1) (fin := 1) (t := 2) (by decide +kernel) (by decide +kernel) (by decide +kernel) R_27 f0 (fx_k (c := 13) R_27 (by decide +kernel)) fun v_31 f_32 => ?_
      have f_33 := q_is_eq (b := 69) f_32 (fx_v R_27 (by decide +kernel)).symm
      refine go_iload_n (n := 1) (by decide +kernel) l_17 f1 ?_
      obtain ⟨g_36, h⟩ := gd_s h
      obtain ⟨x_38, e_39, h⟩ := lx_s h
      refine go_iald (kd := 100) (by decide +kernel) rfl R_27 f_33 f1 (fx_k (c := 100) R_27 (by decide +kernel)) (fx_x (a := 69) (ln := 4) R_27 (by decide +kernel) g_36) fun v_34 f_35 => ?_
      have f_37 := q_is_eq f_35 e_39
      refine go_if (c := .eq) (o := 12) (t := 60) (P := x_38 = 0) (by decide +kernel) (by decide +kernel) f_37 (Iff.rfl) (fun hp_40 => ?_) (fun hp_40 => ?_)
      · have h := it_t hp_40 h
        refine go_iconst (n := 3) (z := 3) (by decide +kernel) (by decide) fun v_41 f_42 => ?_
        refine go_goto (o := 4) (t := 65) (by decide +kernel) (by decide +kernel) ?_
        exact oj_X12_begin_65 hd R_27 l_16 f0 l_17 f1 l_18 f2 l_19 f3 f_42 f0 hQ h
      · have h := it_f hp_40 h
        refine go_aload_n (n := 0) (by decide +kernel) l_16 f0 ?_
        obtain ⟨x_86, e_87, h⟩ := lx_s h
        refine go_getf (x := 310) (ci := 13) (kf := 12) (fin := 0) (t := 0) (by decide +kernel) (by decide +kernel) (by decide +kernel) R_27 f0 (fx_k (c := 13) R_27 (by decide +kernel)) fun v_83 f_84 => ?_
        have f_85 := q_is_eq f_84 e_87
        refine go_bipush (n := 30) (z := 30) (by decide +kernel) (by decide) fun v_88 f_89 => ?_
        refine go_icmp (c := .ne) (o := 7) (t := 64) (P := ¬ (x_86 = 30)) (by decide +kernel) (by decide +kernel) f_85 f_89 (Iff.rfl) (fun hp_90 => ?_) (fun hp_90 => ?_)
        · have h := it_f hp_90 h
          refine go_iconst (n := 0) (z := 0) (by decide +kernel) (by decide) fun v_91 f_92 => ?_
          exact oj_X12_begin_65 hd R_27 l_16 f0 l_17 f1 l_18 f2 l_19 f3 f_92 f0 hQ h
        · have h := it_n hp_90 h
          refine go_iconst (n := 3) (z := 3) (by decide +kernel) (by decide) fun v_93 f_94 => ?_
          refine go_goto (o := 4) (t := 65) (by decide +kernel) (by decide +kernel) ?_
          exact oj_X12_begin_65 hd R_27 l_16 f0 l_17 f1 l_18 f2 l_19 f3 f_94 f0 hQ h
    · have h := it_n hp_30 h
      refine go_iconst (n := 2) (z := 2) (by decide +kernel) (by decide) fun v_95 f_96 => ?_
      refine go_goto (o := 26) (t := 65) (by decide +kernel) (by decide +kernel) ?_
      exact oj_X12_begin_65 hd R_27 l_16 f0 l_17 f1 l_18 f2 l_19 f3 f_96 f0 hQ h
  · have h := it_n hp_20 h
    refine go_iconst (n := 1) (z := 1) (by decide +kernel) (by decide) fun v_97 f_98 => ?_
    refine go_goto (o := 37) (t := 65) (by decide +kernel) (by decide +kernel) ?_
    exact oj_X12_begin_65 hd R l_16 f0 l_17 f1 l_18 f2 l_19 f3 f_98 f0 hQ h
noncomputable def fm_X12_begin (p1 p2 p3 : Int) (m0 : MM) : Option (Int × MM) := bp (fm_X12_isType p1 m0) fun x_2 =>
if x_2 = 0 then
fj_X12_begin_19 p1 p2 p3 0 m0
else
bp (fm_X12_isTenant p2 m0) fun x_100 =>
if x_100 = 0 then
fj_X12_begin_19 p1 p2 p3 0 m0
else
fj_X12_begin_19 p1 p2 p3 1 m0
set_option maxHeartbeats 4000000 in
theorem om_X12_begin {xs : List Int32} {d : Nat} {S : QS} {m0 : MM} {p1 p2 p3 : Int} {v0 : Value} {v1 : Value} {v2 : Value} {v3 : Value} {rz : Int} {rm : MM}
  (hd : 5 ≤ d) (R : Rp S m0) (f0 : q_is 2 v0 68) (f1 : q_is 0 v1 p1) (f2 : q_is 0 v2 p2) (f3 : q_is 0 v3 p3)
  (h : fm_X12_begin p1 p2 p3 m0 = some (rz, rm)) : Mt xs d 258 [v0, v1, v2, v3] S (Cr 0 m0 rm rz) := by
  obtain ⟨d, rfl⟩ : ∃ e, d = e + 1 := ⟨d - 1, by omega⟩
  have hd : 4 ≤ d := Nat.le_of_succ_le_succ hd
  refine Mt.of (M := qM_X12_begin) rfl (by rw [sl_1 (q_is_cat f0 (Or.inr rfl)), sl_1 (q_is_cat f1 (Or.inl rfl)), sl_1 (q_is_cat f2 (Or.inl rfl)), sl_1 (q_is_cat f3 (Or.inl rfl)), sl_0]; decide) ?_
  rw [la_1 (q_is_cat f0 (Or.inr rfl)), la_1 (q_is_cat f1 (Or.inl rfl)), la_1 (q_is_cat f2 (Or.inl rfl)), la_1 (q_is_cat f3 (Or.inl rfl)), la_0]
  obtain ⟨L, hL⟩ : ∃ L : QL, L = [(0, v0), (0 + 1, v1), (0 + 1 + 1, v2), (0 + 1 + 1 + 1, v3)] := ⟨_, rfl⟩
  rw [← hL]
  have l0 : q_lo L 0 = some v0 := by rw [hL]; rfl
  have l1 : q_lo L 1 = some v1 := by rw [hL]; rfl
  have l2 : q_lo L 2 = some v2 := by rw [hL]; rfl
  have l3 : q_lo L 3 = some v3 := by rw [hL]; rfl
  have hQ : Ext m0 rm → ∀ o S1, Rp S1 rm → q_out 0 o rz → (Cr 0 m0 rm rz) o S1 := fun a o S1 b e => ⟨b, a, e⟩
  unfold fm_X12_begin at h
  refine go_iload_n (n := 1) (by decide +kernel) l1 f1 ?_
  obtain ⟨x_2, hc_1, h⟩ := bp_s h
  refine go_callS (x := 313) (mi := 191) (n := 1) (b := 0) (as := [v1]) (rest := []) (by decide +kernel) (by decide +kernel) rfl rfl (q_sum8 _ (Nat.le_of_ble_eq_true rfl)) (om_X12_isType (Nat.le_trans (by decide) hd) R f1 hc_1) (fun _ S_6 q_9 => ?_) (fun _ _ qq => kr_x qq)
  refine kr_z (by decide) q_9 fun v_4 f_5 R_7 E_8 => ?_
  refine go_if (c := .eq) (o := 14) (t := 18) (P := x_2 = 0) (by decide +kernel) (by decide +kernel) f_5 (Iff.rfl) (fun hp_10 => ?_) (fun hp_10 => ?_)
  · have h := it_t hp_10 h
    refine go_iconst (n := 0) (z := 0) (by decide +kernel) (by decide) fun v_11 f_12 => ?_
    exact oj_X12_begin_19 hd R_7 l0 f0 l1 f1 l2 f2 l3 f3 f_12 hQ h
  · have h := it_f hp_10 h
    refine go_iload_n (n := 2) (by decide +kernel) l2 f2 ?_
    obtain ⟨x_100, hc_99, h⟩ := bp_s h
    refine go_callS (x := 570) (mi := 192) (n := 1) (b := 0) (as := [v2]) (rest := []) (by decide +kernel) (by decide +kernel) rfl rfl (q_sum8 _ (Nat.le_of_ble_eq_true rfl)) (om_X12_isTenant (Nat.le_trans (by decide) hd) R_7 f2 hc_99) (fun _ S_104 q_107 => ?_) (fun _ _ qq => kr_x qq)
    refine kr_z (by decide) q_107 fun v_102 f_103 R_105 E_106 => ?_
    refine go_if (c := .eq) (o := 7) (t := 18) (P := x_100 = 0) (by decide +kernel) (by decide +kernel) f_103 (Iff.rfl) (fun hp_108 => ?_) (fun hp_108 => ?_)
    · have h := it_t hp_108 h
      refine go_iconst (n := 0) (z := 0) (by decide +kernel) (by decide) fun v_109 f_110 => ?_
      exact oj_X12_begin_19 hd R_105 l0 f0 l1 f1 l2 f2 l3 f3 f_110 hQ h
    · have h := it_f hp_108 h
      refine go_iconst (n := 1) (z := 1) (by decide +kernel) (by decide) fun v_111 f_112 => ?_
      refine go_goto (o := 4) (t := 19) (by decide +kernel) (by decide +kernel) ?_
      exact oj_X12_begin_19 hd R_105 l0 f0 l1 f1 l2 f2 l3 f3 f_112 hQ h
noncomputable def fm_X12_isName (p0 : Int) (m0 : MM) : Option Int := bp (fm_X12_isIn p0 0 3 m0) fun x_6 =>
gd (x_6 = 0 ∨ x_6 = 1) <| some x_6
set_option maxHeartbeats 4000000 in
theorem om_X12_isName {xs : List Int32} {d : Nat} {S : QS} {m0 : MM} {p0 : Int} {v0 : Value} {rz : Int}
  (hd : 2 ≤ d) (R : Rp S m0) (f0 : q_is 0 v0 p0)
  (h : fm_X12_isName p0 m0 = some rz) : Mt xs d 259 [v0] S (Cr 0 m0 m0 rz) := by
  obtain ⟨d, rfl⟩ : ∃ e, d = e + 1 := ⟨d - 1, by omega⟩
  have hd : 1 ≤ d := Nat.le_of_succ_le_succ hd
  refine Mt.of (M := qM_X12_isName) rfl (by rw [sl_1 (q_is_cat f0 (Or.inl rfl)), sl_0]; decide) ?_
  rw [la_1 (q_is_cat f0 (Or.inl rfl)), la_0]
  obtain ⟨L, hL⟩ : ∃ L : QL, L = [(0, v0)] := ⟨_, rfl⟩
  rw [← hL]
  have l0 : q_lo L 0 = some v0 := by rw [hL]; rfl
  have hQ : ∀ o S1, Rp S1 m0 → q_out 0 o rz → (Cr 0 m0 m0 rz) o S1 := fun o S1 a b => ⟨a, Ext.rf _, b⟩
  unfold fm_X12_isName at h
  refine go_iload_n (n := 0) (by decide +kernel) l0 f0 ?_
  refine go_iconst (n := 0) (z := 0) (by decide +kernel) (by decide) fun v_1 f_2 => ?_
  refine go_iconst (n := 3) (z := 3) (by decide +kernel) (by decide) fun v_3 f_4 => ?_
  obtain ⟨x_6, hc_5, h⟩ := bp_s h
  refine go_callS (x := 306) (mi := 188) (n := 3) (b := 0) (as := [v0, v_1, v_3]) (rest := []) (by decide +kernel) (by decide +kernel) rfl rfl (q_sum8 _ (Nat.le_of_ble_eq_true rfl)) (om_X12_isIn (Nat.le_trans (by decide) hd) R f0 f_2 f_4 hc_5) (fun _ S_10 q_13 => ?_) (fun _ _ qq => kr_x qq)
  refine kr_z (by decide) q_13 fun v_8 f_9 R_11 E_12 => ?_
  obtain ⟨g_14, h⟩ := gd_s h
  cases h
  exact go_iret (by decide +kernel) rfl (Or.inr ⟨rfl, g_14⟩) f_9 (hQ _ _ R_11 (q_out_v (by decide) f_9))
noncomputable def fj_X12_signal_67 (y1 y2 y3 s0 : Int) (m : MM) : Option (Int × MM) := bd (fm_X12_fails s0 m) fun x_44 m_45 =>
if x_44 = 0 then
bd (fm_X12_puts y1 4 y2 y3 m_45) fun x_57 m_58 =>
some (x_57, m_58)
else
some (0, m_45)
set_option maxHeartbeats 4000000 in
theorem oj_X12_signal_67 {xs : List Int32} {d : Nat} {S : QS} {L : QL} {Q : QO → QS → Prop} {m : MM} {y1 y2 y3 s0 : Int} {v0 : Value} {v1 : Value} {v2 : Value} {v3 : Value} {w0 : Value} {w1 : Value}  {rz : Int} {rm : MM}
  (hd : 3 ≤ d) (R : Rp S m) (l0 : q_lo L 0 = some v0) (f0 : q_is 2 v0 68) (l1 : q_lo L 1 = some v1) (f1 : q_is 0 v1 y1) (l2 : q_lo L 2 = some v2) (f2 : q_is 0 v2 y2) (l3 : q_lo L 3 = some v3) (f3 : q_is 0 v3 y3) (fs0 : q_is 0 w0 s0) (fs1 : q_is 2 w1 68)
  (hQ : Ext m rm → ∀ o S1, Rp S1 rm → q_out 0 o rz → Q o S1)
  (h : fj_X12_signal_67 y1 y2 y3 s0 m = some (rz, rm)) : Go xs d qM_X12_signal 67 L [w0, w1] S Q := by
  unfold fj_X12_signal_67 at h
  obtain ⟨x_44, m_45, hc_43, h⟩ := bd_s h
  refine go_callV (x := 324) (mi := 186) (n := 1) (ci := 13) (as := [w0]) (rest := []) (by decide +kernel) (by decide +kernel) rfl rfl (q_sum8 _ (Nat.le_of_ble_eq_true rfl)) R fs1 (fx_k (c := 13) R (by decide +kernel)) (om_X12_fails (Nat.le_trans (by decide) hd) R fs1 fs0 hc_43) (fun _ S_48 q_51 => ?_) (fun _ _ qq => kr_x qq)
  refine kr_z (by decide) q_51 fun v_46 f_47 R_49 E_50 => ?_
  have E_52 := E_50
  refine go_if (c := .eq) (o := 5) (t := 75) (P := x_44 = 0) (by decide +kernel) (by decide +kernel) f_47 (Iff.rfl) (fun hp_53 => ?_) (fun hp_53 => ?_)
  · have h := it_t hp_53 h
    refine go_aload_n (n := 0) (by decide +kernel) l0 f0 ?_
    refine go_iload_n (n := 1) (by decide +kernel) l1 f1 ?_
    refine go_iconst (n := 4) (z := 4) (by decide +kernel) (by decide) fun v_54 f_55 => ?_
    refine go_iload_n (n := 2) (by decide +kernel) l2 f2 ?_
    refine go_iload_n (n := 3) (by decide +kernel) l3 f3 ?_
    obtain ⟨x_57, m_58, hc_56, h⟩ := bd_s h
    refine go_callV (x := 360) (mi := 210) (n := 4) (ci := 13) (as := [v1, v_54, v2, v3]) (rest := []) (by decide +kernel) (by decide +kernel) rfl rfl (q_sum8 _ (Nat.le_of_ble_eq_true rfl)) R_49 f0 (fx_k (c := 13) R_49 (by decide +kernel)) (om_X12_puts (Nat.le_trans (by decide) hd) R_49 f0 f1 f_55 f2 f3 hc_56) (fun _ S_61 q_64 => ?_) (fun _ _ qq => kr_x qq)
    refine kr_z (by decide) q_64 fun v_59 f_60 R_62 E_63 => ?_
    have E_65 := Ext.tr E_52 E_63
    cases h
    exact go_iret (by decide +kernel) rfl (Or.inl rfl) f_60 (hQ E_65 _ _ R_62 (q_out_v (by decide) f_60))
  · have h := it_f hp_53 h
    refine go_iconst (n := 0) (z := 0) (by decide +kernel) (by decide) fun v_66 f_67 => ?_
    cases h
    exact go_iret (by decide +kernel) rfl (Or.inl rfl) f_67 (hQ E_52 _ _ R_49 (q_out_v (by decide) f_67))
noncomputable def fj_X12_signal_20 (y1 y2 y3 s0 : Int) (m : MM) : Option (Int × MM) := if s0 = 0 then
fj_X12_signal_67 y1 y2 y3 1 m
else
bp (fm_X12_isValue y3 m) fun x_22 =>
if x_22 = 0 then
fj_X12_signal_67 y1 y2 y3 2 m
else
bp (fm_X12_isAlive y1 m) fun x_32 =>
if x_32 = 0 then
fj_X12_signal_67 y1 y2 y3 3 m
else
gd (0 ≤ y1 ∧ y1 < 30) <| lx (m 86 y1) fun x_75 =>
if x_75 < 100 then
fj_X12_signal_67 y1 y2 y3 0 m
else
fj_X12_signal_67 y1 y2 y3 3 m
set_option maxHeartbeats 4000000 in
theorem oj_X12_signal_20 {xs : List Int32} {d : Nat} {S : QS} {L : QL} {Q : QO → QS → Prop} {m : MM} {y1 y2 y3 s0 : Int} {v0 : Value} {v1 : Value} {v2 : Value} {v3 : Value} {w0 : Value}  {rz : Int} {rm : MM}
  (hd : 3 ≤ d) (R : Rp S m) (l0 : q_lo L 0 = some v0) (f0 : q_is 2 v0 68) (l1 : q_lo L 1 = some v1) (f1 : q_is 0 v1 y1) (l2 : q_lo L 2 = some v2) (f2 : q_is 0 v2 y2) (l3 : q_lo L 3 = some v3) (f3 : q_is 0 v3 y3) (fs0 : q_is 0 w0 s0)
  (hQ : Ext m rm → ∀ o S1, Rp S1 rm → q_out 0 o rz → Q o S1)
  (h : fj_X12_signal_20 y1 y2 y3 s0 m = some (rz, rm)) : Go xs d qM_X12_signal 20 L [w0] S Q := by
  unfold fj_X12_signal_20 at h
  refine go_istore (n := 4) (by decide +kernel) (by decide +kernel) fs0 fun L_13 l_14 kp_15 => ?_
  have l_16 := kp_15 0 _ l0 (by decide) (Or.inl (by decide))
  have l_17 := kp_15 1 _ l1 (by decide) (Or.inl (by decide))
  have l_18 := kp_15 2 _ l2 (by decide) (Or.inl (by decide))
  have l_19 := kp_15 3 _ l3 (by decide) (Or.inr (q_is_cat f3 (Or.inl rfl)))
  refine go_aload_n (n := 0) (by decide +kernel) l_16 f0 ?_
  refine go_iload (n := 4) (by decide +kernel) l_14 fs0 ?_
  refine go_if (c := .ne) (o := 7) (t := 32) (P := ¬ (s0 = 0)) (by decide +kernel) (by decide +kernel) fs0 (Iff.rfl) (fun hp_20 => ?_) (fun hp_20 => ?_)
  · have h := it_f hp_20 h
    refine go_iload_n (n := 3) (by decide +kernel) l_19 f3 ?_
    obtain ⟨x_22, hc_21, h⟩ := bp_s h
    refine go_callS (x := 573) (mi := 194) (n := 1) (b := 0) (as := [v3]) (rest := [v0]) (by decide +kernel) (by decide +kernel) rfl rfl (q_sum8 _ (Nat.le_of_ble_eq_true rfl)) (om_X12_isValue (Nat.le_trans (by decide) hd) R f3 hc_21) (fun _ S_26 q_29 => ?_) (fun _ _ qq => kr_x qq)
    refine kr_z (by decide) q_29 fun v_24 f_25 R_27 E_28 => ?_
    refine go_if (c := .ne) (o := 7) (t := 43) (P := ¬ (x_22 = 0)) (by decide +kernel) (by decide +kernel) f_25 (Iff.rfl) (fun hp_30 => ?_) (fun hp_30 => ?_)
    · have h := it_f hp_30 h
      refine go_aload_n (n := 0) (by decide +kernel) l_16 f0 ?_
      refine go_iload_n (n := 1) (by decide +kernel) l_17 f1 ?_
      obtain ⟨x_32, hc_31, h⟩ := bp_s h
      refine go_callV (x := 561) (mi := 213) (n := 1) (ci := 13) (as := [v1]) (rest := [v0]) (by decide +kernel) (by decide +kernel) rfl rfl (q_sum8 _ (Nat.le_of_ble_eq_true rfl)) R_27 f0 (fx_k (c := 13) R_27 (by decide +kernel)) (om_X12_isAlive (Nat.le_trans (by decide) hd) R_27 f0 f1 hc_31) (fun _ S_36 q_39 => ?_) (fun _ _ qq => kr_x qq)
      refine kr_z (by decide) q_39 fun v_34 f_35 R_37 E_38 => ?_
      refine go_if (c := .eq) (o := 14) (t := 62) (P := x_32 = 0) (by decide +kernel) (by decide +kernel) f_35 (Iff.rfl) (fun hp_40 => ?_) (fun hp_40 => ?_)
      · have h := it_t hp_40 h
        refine go_iconst (n := 3) (z := 3) (by decide +kernel) (by decide) fun v_41 f_42 => ?_
        refine go_goto (o := 4) (t := 67) (by decide +kernel) (by decide +kernel) ?_
        exact oj_X12_signal_67 hd R_37 l_16 f0 l_17 f1 l_18 f2 l_19 f3 f_42 f0 hQ h
      · have h := it_f hp_40 h
        refine go_aload_n (n := 0) (by decide +kernel) l_16 f0 ?_
        refine go_getf (x := 61) (ci := 13) (kf := 19) (fin := 1) (t := 2) (by decide +kernel) (by decide +kernel) (by decide +kernel) R_37 f0 (fx_k (c := 13) R_37 (by decide +kernel)) fun v_68 f_69 => ?_
        have f_70 := q_is_eq (b := 86) f_69 (fx_v R_37 (by decide +kernel)).symm
        refine go_iload_n (n := 1) (by decide +kernel) l_17 f1 ?_
        obtain ⟨g_73, h⟩ := gd_s h
        obtain ⟨x_75, e_76, h⟩ := lx_s h
        refine go_iald (kd := 100) (by decide +kernel) rfl R_37 f_70 f1 (fx_k (c := 100) R_37 (by decide +kernel)) (fx_x (a := 86) (ln := 30) R_37 (by decide +kernel) g_73) fun v_71 f_72 => ?_
        have f_74 := q_is_eq f_72 e_76
        refine go_bipush (n := 100) (z := 100) (by decide +kernel) (by decide) fun v_77 f_78 => ?_
        refine go_icmp (c := .lt) (o := 7) (t := 66) (P := x_75 < 100) (by decide +kernel) (by decide +kernel) f_74 f_78 (Iff.rfl) (fun hp_79 => ?_) (fun hp_79 => ?_)
        · have h := it_t hp_79 h
          refine go_iconst (n := 0) (z := 0) (by decide +kernel) (by decide) fun v_80 f_81 => ?_
          exact oj_X12_signal_67 hd R_37 l_16 f0 l_17 f1 l_18 f2 l_19 f3 f_81 f0 hQ h
        · have h := it_f hp_79 h
          refine go_iconst (n := 3) (z := 3) (by decide +kernel) (by decide) fun v_82 f_83 => ?_
          refine go_goto (o := 4) (t := 67) (by decide +kernel) (by decide +kernel) ?_
          exact oj_X12_signal_67 hd R_37 l_16 f0 l_17 f1 l_18 f2 l_19 f3 f_83 f0 hQ h
    · have h := it_n hp_30 h
      refine go_iconst (n := 2) (z := 2) (by decide +kernel) (by decide) fun v_84 f_85 => ?_
      refine go_goto (o := 27) (t := 67) (by decide +kernel) (by decide +kernel) ?_
      exact oj_X12_signal_67 hd R_27 l_16 f0 l_17 f1 l_18 f2 l_19 f3 f_85 f0 hQ h
  · have h := it_n hp_20 h
    refine go_iconst (n := 1) (z := 1) (by decide +kernel) (by decide) fun v_86 f_87 => ?_
    refine go_goto (o := 38) (t := 67) (by decide +kernel) (by decide +kernel) ?_
    exact oj_X12_signal_67 hd R l_16 f0 l_17 f1 l_18 f2 l_19 f3 f_87 f0 hQ h
noncomputable def fm_X12_signal (p1 p2 p3 : Int) (m0 : MM) : Option (Int × MM) := bp (fm_X12_isRun p1 m0) fun x_2 =>
if x_2 = 0 then
fj_X12_signal_20 p1 p2 p3 0 m0
else
bp (fm_X12_isName p2 m0) fun x_89 =>
if x_89 = 0 then
fj_X12_signal_20 p1 p2 p3 0 m0
else
fj_X12_signal_20 p1 p2 p3 1 m0
set_option maxHeartbeats 4000000 in
theorem om_X12_signal {xs : List Int32} {d : Nat} {S : QS} {m0 : MM} {p1 p2 p3 : Int} {v0 : Value} {v1 : Value} {v2 : Value} {v3 : Value} {rz : Int} {rm : MM}
  (hd : 4 ≤ d) (R : Rp S m0) (f0 : q_is 2 v0 68) (f1 : q_is 0 v1 p1) (f2 : q_is 0 v2 p2) (f3 : q_is 0 v3 p3)
  (h : fm_X12_signal p1 p2 p3 m0 = some (rz, rm)) : Mt xs d 260 [v0, v1, v2, v3] S (Cr 0 m0 rm rz) := by
  obtain ⟨d, rfl⟩ : ∃ e, d = e + 1 := ⟨d - 1, by omega⟩
  have hd : 3 ≤ d := Nat.le_of_succ_le_succ hd
  refine Mt.of (M := qM_X12_signal) rfl (by rw [sl_1 (q_is_cat f0 (Or.inr rfl)), sl_1 (q_is_cat f1 (Or.inl rfl)), sl_1 (q_is_cat f2 (Or.inl rfl)), sl_1 (q_is_cat f3 (Or.inl rfl)), sl_0]; decide) ?_
  rw [la_1 (q_is_cat f0 (Or.inr rfl)), la_1 (q_is_cat f1 (Or.inl rfl)), la_1 (q_is_cat f2 (Or.inl rfl)), la_1 (q_is_cat f3 (Or.inl rfl)), la_0]
  obtain ⟨L, hL⟩ : ∃ L : QL, L = [(0, v0), (0 + 1, v1), (0 + 1 + 1, v2), (0 + 1 + 1 + 1, v3)] := ⟨_, rfl⟩
  rw [← hL]
  have l0 : q_lo L 0 = some v0 := by rw [hL]; rfl
  have l1 : q_lo L 1 = some v1 := by rw [hL]; rfl
  have l2 : q_lo L 2 = some v2 := by rw [hL]; rfl
  have l3 : q_lo L 3 = some v3 := by rw [hL]; rfl
  have hQ : Ext m0 rm → ∀ o S1, Rp S1 rm → q_out 0 o rz → (Cr 0 m0 rm rz) o S1 := fun a o S1 b e => ⟨b, a, e⟩
  unfold fm_X12_signal at h
  refine go_aload_n (n := 0) (by decide +kernel) l0 f0 ?_
  refine go_iload_n (n := 1) (by decide +kernel) l1 f1 ?_
  obtain ⟨x_2, hc_1, h⟩ := bp_s h
  refine go_callV (x := 580) (mi := 193) (n := 1) (ci := 13) (as := [v1]) (rest := []) (by decide +kernel) (by decide +kernel) rfl rfl (q_sum8 _ (Nat.le_of_ble_eq_true rfl)) R f0 (fx_k (c := 13) R (by decide +kernel)) (om_X12_isRun (Nat.le_trans (by decide) hd) R f0 f1 hc_1) (fun _ S_6 q_9 => ?_) (fun _ _ qq => kr_x qq)
  refine kr_z (by decide) q_9 fun v_4 f_5 R_7 E_8 => ?_
  refine go_if (c := .eq) (o := 14) (t := 19) (P := x_2 = 0) (by decide +kernel) (by decide +kernel) f_5 (Iff.rfl) (fun hp_10 => ?_) (fun hp_10 => ?_)
  · have h := it_t hp_10 h
    refine go_iconst (n := 0) (z := 0) (by decide +kernel) (by decide) fun v_11 f_12 => ?_
    exact oj_X12_signal_20 hd R_7 l0 f0 l1 f1 l2 f2 l3 f3 f_12 hQ h
  · have h := it_f hp_10 h
    refine go_iload_n (n := 2) (by decide +kernel) l2 f2 ?_
    obtain ⟨x_89, hc_88, h⟩ := bp_s h
    refine go_callS (x := 583) (mi := 259) (n := 1) (b := 0) (as := [v2]) (rest := []) (by decide +kernel) (by decide +kernel) rfl rfl (q_sum8 _ (Nat.le_of_ble_eq_true rfl)) (om_X12_isName (Nat.le_trans (by decide) hd) R_7 f2 hc_88) (fun _ S_93 q_96 => ?_) (fun _ _ qq => kr_x qq)
    refine kr_z (by decide) q_96 fun v_91 f_92 R_94 E_95 => ?_
    refine go_if (c := .eq) (o := 7) (t := 19) (P := x_89 = 0) (by decide +kernel) (by decide +kernel) f_92 (Iff.rfl) (fun hp_97 => ?_) (fun hp_97 => ?_)
    · have h := it_t hp_97 h
      refine go_iconst (n := 0) (z := 0) (by decide +kernel) (by decide) fun v_98 f_99 => ?_
      exact oj_X12_signal_20 hd R_94 l0 f0 l1 f1 l2 f2 l3 f3 f_99 hQ h
    · have h := it_f hp_97 h
      refine go_iconst (n := 1) (z := 1) (by decide +kernel) (by decide) fun v_100 f_101 => ?_
      refine go_goto (o := 4) (t := 20) (by decide +kernel) (by decide +kernel) ?_
      exact oj_X12_signal_20 hd R_94 l0 f0 l1 f1 l2 f2 l3 f3 f_101 hQ h
end DF35
