/-! Methods as functions (written by wip/whole/dec.py), 41: X12_replays, X12_take, X12_isActivity, X12_answer, X12_misses, X12_fail, X12_beat. -/
section DF41
noncomputable def fj_X12_replays_13 (y1 s0 : Int) (m : MM) : Option (Int × MM) := bd (fm_X12_fails s0 m) fun x_14 m_15 =>
if x_14 = 0 then
gd (0 ≤ y1 ∧ y1 < 3) <| lx (m_15 122 y1) fun x_31 =>
some (x_31, m_15)
else
some (0, m_15)
set_option maxHeartbeats 4000000 in
theorem oj_X12_replays_13 {xs : List Int32} {d : Nat} {S : QS} {L : QL} {Q : QO → QS → Prop} {m : MM} {y1 s0 : Int} {v0 : Value} {v1 : Value} {w0 : Value} {w1 : Value}  {rz : Int} {rm : MM}
  (hd : 2 ≤ d) (R : Rp S m) (l0 : q_lo L 0 = some v0) (f0 : q_is 2 v0 68) (l1 : q_lo L 1 = some v1) (f1 : q_is 0 v1 y1) (fs0 : q_is 0 w0 s0) (fs1 : q_is 2 w1 68)
  (hQ : Ext m rm → ∀ o S1, Rp S1 rm → q_out 0 o rz → Q o S1)
  (h : fj_X12_replays_13 y1 s0 m = some (rz, rm)) : Go xs d qM_X12_replays 13 L [w0, w1] S Q := by
  unfold fj_X12_replays_13 at h
  obtain ⟨x_14, m_15, hc_13, h⟩ := bd_s h
  refine go_callV (x := 324) (mi := 186) (n := 1) (ci := 13) (as := [w0]) (rest := []) (by decide +kernel) (by decide +kernel) rfl rfl (q_sum8 _ (Nat.le_of_ble_eq_true rfl)) R fs1 (fx_k (c := 13) R (by decide +kernel)) (om_X12_fails (Nat.le_trans (by decide) hd) R fs1 fs0 hc_13) (fun _ S_18 q_21 => ?_) (fun _ _ qq => kr_x qq)
  refine kr_z (by decide) q_21 fun v_16 f_17 R_19 E_20 => ?_
  have E_22 := E_20
  refine go_if (c := .eq) (o := 7) (t := 23) (P := x_14 = 0) (by decide +kernel) (by decide +kernel) f_17 (Iff.rfl) (fun hp_23 => ?_) (fun hp_23 => ?_)
  · have h := it_t hp_23 h
    refine go_aload_n (n := 0) (by decide +kernel) l0 f0 ?_
    refine go_getf (x := 180) (ci := 13) (kf := 62) (fin := 1) (t := 2) (by decide +kernel) (by decide +kernel) (by decide +kernel) R_19 f0 (fx_k (c := 13) R_19 (by decide +kernel)) fun v_24 f_25 => ?_
    have f_26 := q_is_eq (b := 122) f_25 (fx_v R_19 (by decide +kernel)).symm
    refine go_iload_n (n := 1) (by decide +kernel) l1 f1 ?_
    obtain ⟨g_29, h⟩ := gd_s h
    obtain ⟨x_31, e_32, h⟩ := lx_s h
    refine go_iald (kd := 100) (by decide +kernel) rfl R_19 f_26 f1 (fx_k (c := 100) R_19 (by decide +kernel)) (fx_x (a := 122) (ln := 3) R_19 (by decide +kernel) g_29) fun v_27 f_28 => ?_
    have f_30 := q_is_eq f_28 e_32
    cases h
    exact go_iret (by decide +kernel) rfl (Or.inl rfl) f_30 (hQ E_22 _ _ R_19 (q_out_v (by decide) f_30))
  · have h := it_f hp_23 h
    refine go_iconst (n := 0) (z := 0) (by decide +kernel) (by decide) fun v_33 f_34 => ?_
    refine go_goto (o := 9) (t := 29) (by decide +kernel) (by decide +kernel) ?_
    cases h
    exact go_iret (by decide +kernel) rfl (Or.inl rfl) f_34 (hQ E_22 _ _ R_19 (q_out_v (by decide) f_34))
noncomputable def fm_X12_replays (p1 : Int) (m0 : MM) : Option (Int × MM) := bp (fm_X12_isWorker p1 m0) fun x_2 =>
if x_2 = 0 then
fj_X12_replays_13 p1 1 m0
else
fj_X12_replays_13 p1 0 m0
set_option maxHeartbeats 4000000 in
theorem om_X12_replays {xs : List Int32} {d : Nat} {S : QS} {m0 : MM} {p1 : Int} {v0 : Value} {v1 : Value} {rz : Int} {rm : MM}
  (hd : 3 ≤ d) (R : Rp S m0) (f0 : q_is 2 v0 68) (f1 : q_is 0 v1 p1)
  (h : fm_X12_replays p1 m0 = some (rz, rm)) : Mt xs d 283 [v0, v1] S (Cr 0 m0 rm rz) := by
  obtain ⟨d, rfl⟩ : ∃ e, d = e + 1 := ⟨d - 1, by omega⟩
  have hd : 2 ≤ d := Nat.le_of_succ_le_succ hd
  refine Mt.of (M := qM_X12_replays) rfl (by rw [sl_1 (q_is_cat f0 (Or.inr rfl)), sl_1 (q_is_cat f1 (Or.inl rfl)), sl_0]; decide) ?_
  rw [la_1 (q_is_cat f0 (Or.inr rfl)), la_1 (q_is_cat f1 (Or.inl rfl)), la_0]
  obtain ⟨L, hL⟩ : ∃ L : QL, L = [(0, v0), (0 + 1, v1)] := ⟨_, rfl⟩
  rw [← hL]
  have l0 : q_lo L 0 = some v0 := by rw [hL]; rfl
  have l1 : q_lo L 1 = some v1 := by rw [hL]; rfl
  have hQ : Ext m0 rm → ∀ o S1, Rp S1 rm → q_out 0 o rz → (Cr 0 m0 rm rz) o S1 := fun a o S1 b e => ⟨b, a, e⟩
  unfold fm_X12_replays at h
  refine go_aload_n (n := 0) (by decide +kernel) l0 f0 ?_
  refine go_iload_n (n := 1) (by decide +kernel) l1 f1 ?_
  obtain ⟨x_2, hc_1, h⟩ := bp_s h
  refine go_callS (x := 605) (mi := 275) (n := 1) (b := 0) (as := [v1]) (rest := [v0]) (by decide +kernel) (by decide +kernel) rfl rfl (q_sum8 _ (Nat.le_of_ble_eq_true rfl)) (om_X12_isWorker (Nat.le_trans (by decide) hd) R f1 hc_1) (fun _ S_6 q_9 => ?_) (fun _ _ qq => kr_x qq)
  refine kr_z (by decide) q_9 fun v_4 f_5 R_7 E_8 => ?_
  refine go_if (c := .eq) (o := 7) (t := 12) (P := x_2 = 0) (by decide +kernel) (by decide +kernel) f_5 (Iff.rfl) (fun hp_10 => ?_) (fun hp_10 => ?_)
  · have h := it_t hp_10 h
    refine go_iconst (n := 1) (z := 1) (by decide +kernel) (by decide) fun v_11 f_12 => ?_
    exact oj_X12_replays_13 hd R_7 l0 f0 l1 f1 f_12 f0 hQ h
  · have h := it_f hp_10 h
    refine go_iconst (n := 0) (z := 0) (by decide +kernel) (by decide) fun v_35 f_36 => ?_
    refine go_goto (o := 4) (t := 13) (by decide +kernel) (by decide +kernel) ?_
    exact oj_X12_replays_13 hd R_7 l0 f0 l1 f1 f_36 f0 hQ h
noncomputable def fl_X12_take_25 (y1 : Int) (m : MM) (k65 : Int → Option (Int × MM)) : Nat → Int → Option (Int × MM)
  | 0, _ => none
  | n + 1, y2 => lx (m 68 34) fun x_38 =>
if y2 < x_38 then
gd (0 ≤ y2 ∧ y2 < 60) <| lx (m 100 y2) fun x_50 =>
if x_50 = y1 then
lx (m 102 y2) fun x_69 =>
if x_69 = 0 then
lx (m 105 y2) fun x_88 =>
lx (m 68 0) fun x_93 =>
if x_93 < x_88 then
lx (w32 (y2 + 1)) fun x_101 =>
fl_X12_take_25 y1 m k65 n x_101
else
k65 y2
else
lx (w32 (y2 + 1)) fun x_77 =>
fl_X12_take_25 y1 m k65 n x_77
else
lx (w32 (y2 + 1)) fun x_58 =>
fl_X12_take_25 y1 m k65 n x_58
else
some ((-1), m)
set_option maxHeartbeats 4000000 in
theorem ol_X12_take_25 {xs : List Int32} {d : Nat} {Q : QO → QS → Prop} {m : MM} {y1 : Int} {k65 : Int → Option (Int × MM)} {rz : Int} {rm : MM}
  (hd : 1 ≤ d)
  (hk65 : ∀ {z2 : Int} {Sq : QS} {Lq : QL} {u0 : Value} {u2 : Value}, k65 z2 = some (rz, rm) → Rp Sq m → q_lo Lq 0 = some u0 → q_is 2 u0 68 → q_lo Lq 2 = some u2 → q_is 0 u2 z2 → Go xs d qM_X12_take 65 Lq [] Sq Q)
  (hQ : Ext m rm → ∀ o S1, Rp S1 rm → q_out 0 o rz → Q o S1) :
  ∀ (n : Nat) {S : QS} {L : QL} {y2 : Int} {v0 : Value} {v1 : Value} {v2 : Value} , fl_X12_take_25 y1 m k65 n y2 = some (rz, rm) → Rp S m → q_lo L 0 = some v0 → q_is 2 v0 68 → q_lo L 1 = some v1 → q_is 0 v1 y1 → q_lo L 2 = some v2 → q_is 0 v2 y2 → Go xs d qM_X12_take 25 L [] S Q := by
  intro n
  induction n with
  | zero => intro S L y2 v0 v1 v2; intro h R l0 f0 l1 f1 l2 f2; cases h
  | succ n ih0 =>
    intro S L y2 v0 v1 v2; intro h R l0 f0 l1 f1 l2 f2
    have ih : ∀ {z2 : Int} {Sq : QS} {Lq : QL} {u0 : Value} {u1 : Value} {u2 : Value}, fl_X12_take_25 y1 m k65 n z2 = some (rz, rm) → Rp Sq m → q_lo Lq 0 = some u0 → q_is 2 u0 68 → q_lo Lq 1 = some u1 → q_is 0 u1 y1 → q_lo Lq 2 = some u2 → q_is 0 u2 z2 → Go xs d qM_X12_take 25 Lq [] Sq Q := by intros; exact ih0 ‹_› ‹_› ‹_› ‹_› ‹_› ‹_› ‹_› ‹_›
    unfold fl_X12_take_25 at h
    refine go_iload_n (n := 2) (by decide +kernel) l2 f2 ?_
    refine go_aload_n (n := 0) (by decide +kernel) l0 f0 ?_
    obtain ⟨x_38, e_39, h⟩ := lx_s h
    refine go_getf (x := 549) (ci := 13) (kf := 34) (fin := 0) (t := 0) (by decide +kernel) (by decide +kernel) (by decide +kernel) R f0 (fx_k (c := 13) R (by decide +kernel)) fun v_35 f_36 => ?_
    have f_37 := q_is_eq f_36 e_39
    refine go_icmp (c := .ge) (o := 91) (t := 121) (P := ¬ (y2 < x_38)) (by decide +kernel) (by decide +kernel) f2 f_37 (Int.not_lt.symm) (fun hp_40 => ?_) (fun hp_40 => ?_)
    · have h := it_f hp_40 h
      refine go_iconst (n := (-1)) (z := (-1)) (by decide +kernel) (by decide) fun v_41 f_42 => ?_
      cases h
      exact go_iret (by decide +kernel) rfl (Or.inl rfl) f_42 (hQ (Ext.rf _) _ _ R (q_out_v (by decide) f_42))
    · have h := it_n hp_40 h
      refine go_aload_n (n := 0) (by decide +kernel) l0 f0 ?_
      refine go_getf (x := 110) (ci := 13) (kf := 37) (fin := 1) (t := 2) (by decide +kernel) (by decide +kernel) (by decide +kernel) R f0 (fx_k (c := 13) R (by decide +kernel)) fun v_43 f_44 => ?_
      have f_45 := q_is_eq (b := 100) f_44 (fx_v R (by decide +kernel)).symm
      refine go_iload_n (n := 2) (by decide +kernel) l2 f2 ?_
      obtain ⟨g_48, h⟩ := gd_s h
      obtain ⟨x_50, e_51, h⟩ := lx_s h
      refine go_iald (kd := 100) (by decide +kernel) rfl R f_45 f2 (fx_k (c := 100) R (by decide +kernel)) (fx_x (a := 100) (ln := 60) R (by decide +kernel) g_48) fun v_46 f_47 => ?_
      have f_49 := q_is_eq f_47 e_51
      refine go_iload_n (n := 1) (by decide +kernel) l1 f1 ?_
      refine go_icmp (c := .ne) (o := 75) (t := 115) (P := ¬ (x_50 = y1)) (by decide +kernel) (by decide +kernel) f_49 f1 (Iff.rfl) (fun hp_52 => ?_) (fun hp_52 => ?_)
      · have h := it_f hp_52 h
        refine go_iinc (n := 2) (c := 1) (c' := 1) (by decide +kernel) (by decide +kernel) l2 f2 (by decide) fun L_53 v_54 f_55 l_56 kp_57 => ?_
        obtain ⟨x_58, e_59, h⟩ := lx_s h
        have f_60 := q_is_eq f_55 e_59
        have l_61 := kp_57 0 _ l0 (by decide) (Or.inl (by decide))
        have l_62 := kp_57 1 _ l1 (by decide) (Or.inr (q_is_cat f1 (Or.inl rfl)))
        refine go_goto (o := (-93)) (t := 25) (by decide +kernel) (by decide +kernel) ?_
        exact ih h R l_61 f0 l_62 f1 l_56 f_60
      · have h := it_n hp_52 h
        refine go_aload_n (n := 0) (by decide +kernel) l0 f0 ?_
        refine go_getf (x := 116) (ci := 13) (kf := 39) (fin := 1) (t := 2) (by decide +kernel) (by decide +kernel) (by decide +kernel) R f0 (fx_k (c := 13) R (by decide +kernel)) fun v_63 f_64 => ?_
        have f_65 := q_is_eq (b := 102) f_64 (fx_v R (by decide +kernel)).symm
        refine go_iload_n (n := 2) (by decide +kernel) l2 f2 ?_
        obtain ⟨x_69, e_70, h⟩ := lx_s h
        refine go_iald (kd := 100) (by decide +kernel) rfl R f_65 f2 (fx_k (c := 100) R (by decide +kernel)) (fx_x (a := 102) (ln := 60) R (by decide +kernel) g_48) fun v_66 f_67 => ?_
        have f_68 := q_is_eq f_67 e_70
        refine go_if (c := .ne) (o := 66) (t := 115) (P := ¬ (x_69 = 0)) (by decide +kernel) (by decide +kernel) f_68 (Iff.rfl) (fun hp_71 => ?_) (fun hp_71 => ?_)
        · have h := it_f hp_71 h
          refine go_iinc (n := 2) (c := 1) (c' := 1) (by decide +kernel) (by decide +kernel) l2 f2 (by decide) fun L_72 v_73 f_74 l_75 kp_76 => ?_
          obtain ⟨x_77, e_78, h⟩ := lx_s h
          have f_79 := q_is_eq f_74 e_78
          have l_80 := kp_76 0 _ l0 (by decide) (Or.inl (by decide))
          have l_81 := kp_76 1 _ l1 (by decide) (Or.inr (q_is_cat f1 (Or.inl rfl)))
          refine go_goto (o := (-93)) (t := 25) (by decide +kernel) (by decide +kernel) ?_
          exact ih h R l_80 f0 l_81 f1 l_75 f_79
        · have h := it_n hp_71 h
          refine go_aload_n (n := 0) (by decide +kernel) l0 f0 ?_
          refine go_getf (x := 125) (ci := 13) (kf := 42) (fin := 1) (t := 2) (by decide +kernel) (by decide +kernel) (by decide +kernel) R f0 (fx_k (c := 13) R (by decide +kernel)) fun v_82 f_83 => ?_
          have f_84 := q_is_eq (b := 105) f_83 (fx_v R (by decide +kernel)).symm
          refine go_iload_n (n := 2) (by decide +kernel) l2 f2 ?_
          obtain ⟨x_88, e_89, h⟩ := lx_s h
          refine go_iald (kd := 100) (by decide +kernel) rfl R f_84 f2 (fx_k (c := 100) R (by decide +kernel)) (fx_x (a := 105) (ln := 60) R (by decide +kernel) g_48) fun v_85 f_86 => ?_
          have f_87 := q_is_eq f_86 e_89
          refine go_aload_n (n := 0) (by decide +kernel) l0 f0 ?_
          obtain ⟨x_93, e_94, h⟩ := lx_s h
          refine go_getf (x := 357) (ci := 13) (kf := 0) (fin := 0) (t := 0) (by decide +kernel) (by decide +kernel) (by decide +kernel) R f0 (fx_k (c := 13) R (by decide +kernel)) fun v_90 f_91 => ?_
          have f_92 := q_is_eq f_91 e_94
          refine go_icmp (c := .gt) (o := 53) (t := 115) (P := x_93 < x_88) (by decide +kernel) (by decide +kernel) f_87 f_92 (Iff.rfl) (fun hp_95 => ?_) (fun hp_95 => ?_)
          · have h := it_t hp_95 h
            refine go_iinc (n := 2) (c := 1) (c' := 1) (by decide +kernel) (by decide +kernel) l2 f2 (by decide) fun L_96 v_97 f_98 l_99 kp_100 => ?_
            obtain ⟨x_101, e_102, h⟩ := lx_s h
            have f_103 := q_is_eq f_98 e_102
            have l_104 := kp_100 0 _ l0 (by decide) (Or.inl (by decide))
            have l_105 := kp_100 1 _ l1 (by decide) (Or.inr (q_is_cat f1 (Or.inl rfl)))
            refine go_goto (o := (-93)) (t := 25) (by decide +kernel) (by decide +kernel) ?_
            exact ih h R l_104 f0 l_105 f1 l_99 f_103
          · have h := it_f hp_95 h
            exact hk65 h R l0 f0 l2 f2
noncomputable def fj_X12_take_15 (y1 s0 : Int) (m : MM) : Option (Int × MM) := bd (fm_X12_fails s0 m) fun x_18 m_19 =>
if x_18 = 0 then
fl_X12_take_25 y1 m_19 (fun x_106 =>
gd (0 ≤ x_106 ∧ x_106 < 60) <| up m_19 102 x_106 1 fun m_122 =>
lx (m_122 103 x_106) fun x_134 =>
up m_122 103 x_106 (w32 (x_134 + 1)) fun m_140 =>
lx (m_140 68 0) fun x_152 =>
up m_140 106 x_106 x_152 fun m_154 =>
lx (m_154 68 0) fun x_166 =>
up m_154 107 x_106 x_166 fun m_168 =>
lx (m_168 101 x_106) fun x_184 =>
some (w32 ((w32 (1000 * x_106)) + x_184), m_168)) BIG 0
else
some (0, m_19)
set_option maxHeartbeats 4000000 in
theorem oj_X12_take_15 {xs : List Int32} {d : Nat} {S : QS} {L : QL} {Q : QO → QS → Prop} {m : MM} {y1 s0 : Int} {v0 : Value} {v1 : Value} {w0 : Value} {w1 : Value}  {rz : Int} {rm : MM}
  (hd : 1 ≤ d) (R : Rp S m) (l0 : q_lo L 0 = some v0) (f0 : q_is 2 v0 68) (l1 : q_lo L 1 = some v1) (f1 : q_is 0 v1 y1) (fs0 : q_is 0 w0 s0) (fs1 : q_is 2 w1 68)
  (hQ : Ext m rm → ∀ o S1, Rp S1 rm → q_out 0 o rz → Q o S1)
  (h : fj_X12_take_15 y1 s0 m = some (rz, rm)) : Go xs d qM_X12_take 15 L [w0, w1] S Q := by
  unfold fj_X12_take_15 at h
  obtain ⟨x_18, m_19, hc_17, h⟩ := bd_s h
  refine go_callV (x := 324) (mi := 186) (n := 1) (ci := 13) (as := [w0]) (rest := []) (by decide +kernel) (by decide +kernel) rfl rfl (q_sum8 _ (Nat.le_of_ble_eq_true rfl)) R fs1 (fx_k (c := 13) R (by decide +kernel)) (om_X12_fails (Nat.le_trans (by decide) hd) R fs1 fs0 hc_17) (fun _ S_22 q_25 => ?_) (fun _ _ qq => kr_x qq)
  refine kr_z (by decide) q_25 fun v_20 f_21 R_23 E_24 => ?_
  have E_26 := E_24
  refine go_if (c := .eq) (o := 5) (t := 23) (P := x_18 = 0) (by decide +kernel) (by decide +kernel) f_21 (Iff.rfl) (fun hp_27 => ?_) (fun hp_27 => ?_)
  · have h := it_t hp_27 h
    refine go_iconst (n := 0) (z := 0) (by decide +kernel) (by decide) fun v_28 f_29 => ?_
    refine go_istore_n (n := 2) (by decide +kernel) (by decide +kernel) f_29 fun L_30 l_31 kp_32 => ?_
    have l_33 := kp_32 0 _ l0 (by decide) (Or.inl (by decide))
    have l_34 := kp_32 1 _ l1 (by decide) (Or.inr (q_is_cat f1 (Or.inl rfl)))
    refine ol_X12_take_25 hd  ?_ (fun b => hQ (Ext.tr E_26 b)) BIG h R_23 l_33 f0 l_34 f1 l_31 f_29
    intro x_106 S_113 L_114 v_107 v_108
    intro h R_115 l_109 f_111 l_110 f_112
    refine go_aload_n (n := 0) (by decide +kernel) l_109 f_111 ?_
    refine go_getf (x := 116) (ci := 13) (kf := 39) (fin := 1) (t := 2) (by decide +kernel) (by decide +kernel) (by decide +kernel) R_115 f_111 (fx_k (c := 13) R_115 (by decide +kernel)) fun v_116 f_117 => ?_
    have f_118 := q_is_eq (b := 102) f_117 (fx_v R_115 (by decide +kernel)).symm
    refine go_iload_n (n := 2) (by decide +kernel) l_110 f_112 ?_
    refine go_iconst (n := 1) (z := 1) (by decide +kernel) (by decide) fun v_119 f_120 => ?_
    obtain ⟨g_121, h⟩ := gd_s h
    obtain ⟨m_122, e_123, h⟩ := up_s h
    refine go_iast (kd := 100) (by decide +kernel) rfl R_115 f_118 f_112 f_120 (fx_k (c := 100) R_115 (by decide +kernel)) (fx_x (a := 102) (ln := 60) R_115 (by decide +kernel) g_121) e_123 (fx_a R_115.2 (fx_k (c := 100) R_115 (by decide +kernel)) (And.left (fx_x (a := 102) (ln := 60) R_115 (by decide +kernel) g_121)) (by decide +kernel)) fun S_124 R_125 E_126 => ?_
    have E_127 := Ext.tr E_26 E_126
    refine go_aload_n (n := 0) (by decide +kernel) l_109 f_111 ?_
    refine go_getf (x := 119) (ci := 13) (kf := 40) (fin := 1) (t := 2) (by decide +kernel) (by decide +kernel) (by decide +kernel) R_125 f_111 (fx_k (c := 13) R_125 (by decide +kernel)) fun v_128 f_129 => ?_
    have f_130 := q_is_eq (b := 103) f_129 (fx_v R_125 (by decide +kernel)).symm
    refine go_iload_n (n := 2) (by decide +kernel) l_110 f_112 ?_
    refine go_dup2 (by decide +kernel) f_112 (Or.inl rfl) f_130 (Or.inr rfl) ?_
    obtain ⟨x_134, e_135, h⟩ := lx_s h
    refine go_iald (kd := 100) (by decide +kernel) rfl R_125 f_130 f_112 (fx_k (c := 100) R_125 (by decide +kernel)) (fx_x (a := 103) (ln := 60) R_125 (by decide +kernel) g_121) fun v_131 f_132 => ?_
    have f_133 := q_is_eq f_132 e_135
    refine go_iconst (n := 1) (z := 1) (by decide +kernel) (by decide) fun v_136 f_137 => ?_
    refine go_iadd (by decide +kernel) f_133 f_137 fun v_138 f_139 => ?_
    obtain ⟨m_140, e_141, h⟩ := up_s h
    refine go_iast (kd := 100) (by decide +kernel) rfl R_125 f_130 f_112 f_139 (fx_k (c := 100) R_125 (by decide +kernel)) (fx_x (a := 103) (ln := 60) R_125 (by decide +kernel) g_121) e_141 (fx_a R_125.2 (fx_k (c := 100) R_125 (by decide +kernel)) (And.left (fx_x (a := 103) (ln := 60) R_125 (by decide +kernel) g_121)) (by decide +kernel)) fun S_142 R_143 E_144 => ?_
    have E_145 := Ext.tr E_127 E_144
    refine go_aload_n (n := 0) (by decide +kernel) l_109 f_111 ?_
    refine go_getf (x := 128) (ci := 13) (kf := 43) (fin := 1) (t := 2) (by decide +kernel) (by decide +kernel) (by decide +kernel) R_143 f_111 (fx_k (c := 13) R_143 (by decide +kernel)) fun v_146 f_147 => ?_
    have f_148 := q_is_eq (b := 106) f_147 (fx_v R_143 (by decide +kernel)).symm
    refine go_iload_n (n := 2) (by decide +kernel) l_110 f_112 ?_
    refine go_aload_n (n := 0) (by decide +kernel) l_109 f_111 ?_
    obtain ⟨x_152, e_153, h⟩ := lx_s h
    refine go_getf (x := 357) (ci := 13) (kf := 0) (fin := 0) (t := 0) (by decide +kernel) (by decide +kernel) (by decide +kernel) R_143 f_111 (fx_k (c := 13) R_143 (by decide +kernel)) fun v_149 f_150 => ?_
    have f_151 := q_is_eq f_150 e_153
    obtain ⟨m_154, e_155, h⟩ := up_s h
    refine go_iast (kd := 100) (by decide +kernel) rfl R_143 f_148 f_112 f_151 (fx_k (c := 100) R_143 (by decide +kernel)) (fx_x (a := 106) (ln := 60) R_143 (by decide +kernel) g_121) e_155 (fx_a R_143.2 (fx_k (c := 100) R_143 (by decide +kernel)) (And.left (fx_x (a := 106) (ln := 60) R_143 (by decide +kernel) g_121)) (by decide +kernel)) fun S_156 R_157 E_158 => ?_
    have E_159 := Ext.tr E_145 E_158
    refine go_aload_n (n := 0) (by decide +kernel) l_109 f_111 ?_
    refine go_getf (x := 131) (ci := 13) (kf := 44) (fin := 1) (t := 2) (by decide +kernel) (by decide +kernel) (by decide +kernel) R_157 f_111 (fx_k (c := 13) R_157 (by decide +kernel)) fun v_160 f_161 => ?_
    have f_162 := q_is_eq (b := 107) f_161 (fx_v R_157 (by decide +kernel)).symm
    refine go_iload_n (n := 2) (by decide +kernel) l_110 f_112 ?_
    refine go_aload_n (n := 0) (by decide +kernel) l_109 f_111 ?_
    obtain ⟨x_166, e_167, h⟩ := lx_s h
    refine go_getf (x := 357) (ci := 13) (kf := 0) (fin := 0) (t := 0) (by decide +kernel) (by decide +kernel) (by decide +kernel) R_157 f_111 (fx_k (c := 13) R_157 (by decide +kernel)) fun v_163 f_164 => ?_
    have f_165 := q_is_eq f_164 e_167
    obtain ⟨m_168, e_169, h⟩ := up_s h
    refine go_iast (kd := 100) (by decide +kernel) rfl R_157 f_162 f_112 f_165 (fx_k (c := 100) R_157 (by decide +kernel)) (fx_x (a := 107) (ln := 60) R_157 (by decide +kernel) g_121) e_169 (fx_a R_157.2 (fx_k (c := 100) R_157 (by decide +kernel)) (And.left (fx_x (a := 107) (ln := 60) R_157 (by decide +kernel) g_121)) (by decide +kernel)) fun S_170 R_171 E_172 => ?_
    have E_173 := Ext.tr E_159 E_172
    refine go_sipush (n := 1000) (z := 1000) (by decide +kernel) (by decide) fun v_174 f_175 => ?_
    refine go_iload_n (n := 2) (by decide +kernel) l_110 f_112 ?_
    refine go_imul (by decide +kernel) f_175 f_112 fun v_176 f_177 => ?_
    refine go_aload_n (n := 0) (by decide +kernel) l_109 f_111 ?_
    refine go_getf (x := 113) (ci := 13) (kf := 38) (fin := 1) (t := 2) (by decide +kernel) (by decide +kernel) (by decide +kernel) R_171 f_111 (fx_k (c := 13) R_171 (by decide +kernel)) fun v_178 f_179 => ?_
    have f_180 := q_is_eq (b := 101) f_179 (fx_v R_171 (by decide +kernel)).symm
    refine go_iload_n (n := 2) (by decide +kernel) l_110 f_112 ?_
    obtain ⟨x_184, e_185, h⟩ := lx_s h
    refine go_iald (kd := 100) (by decide +kernel) rfl R_171 f_180 f_112 (fx_k (c := 100) R_171 (by decide +kernel)) (fx_x (a := 101) (ln := 60) R_171 (by decide +kernel) g_121) fun v_181 f_182 => ?_
    have f_183 := q_is_eq f_182 e_185
    refine go_iadd (by decide +kernel) f_177 f_183 fun v_186 f_187 => ?_
    cases h
    exact go_iret (by decide +kernel) rfl (Or.inl rfl) f_187 (hQ E_173 _ _ R_171 (q_out_v (by decide) f_187))
  · have h := it_f hp_27 h
    refine go_iconst (n := 0) (z := 0) (by decide +kernel) (by decide) fun v_188 f_189 => ?_
    cases h
    exact go_iret (by decide +kernel) rfl (Or.inl rfl) f_189 (hQ E_26 _ _ R_23 (q_out_v (by decide) f_189))
noncomputable def fm_X12_take (p1 : Int) (m0 : MM) : Option (Int × MM) := bp (fm_X12_isIn p1 0 3 m0) fun x_6 =>
if x_6 = 0 then
fj_X12_take_15 p1 1 m0
else
fj_X12_take_15 p1 0 m0
set_option maxHeartbeats 4000000 in
theorem om_X12_take {xs : List Int32} {d : Nat} {S : QS} {m0 : MM} {p1 : Int} {v0 : Value} {v1 : Value} {rz : Int} {rm : MM}
  (hd : 2 ≤ d) (R : Rp S m0) (f0 : q_is 2 v0 68) (f1 : q_is 0 v1 p1)
  (h : fm_X12_take p1 m0 = some (rz, rm)) : Mt xs d 284 [v0, v1] S (Cr 0 m0 rm rz) := by
  obtain ⟨d, rfl⟩ : ∃ e, d = e + 1 := ⟨d - 1, by omega⟩
  have hd : 1 ≤ d := Nat.le_of_succ_le_succ hd
  refine Mt.of (M := qM_X12_take) rfl (by rw [sl_1 (q_is_cat f0 (Or.inr rfl)), sl_1 (q_is_cat f1 (Or.inl rfl)), sl_0]; decide) ?_
  rw [la_1 (q_is_cat f0 (Or.inr rfl)), la_1 (q_is_cat f1 (Or.inl rfl)), la_0]
  obtain ⟨L, hL⟩ : ∃ L : QL, L = [(0, v0), (0 + 1, v1)] := ⟨_, rfl⟩
  rw [← hL]
  have l0 : q_lo L 0 = some v0 := by rw [hL]; rfl
  have l1 : q_lo L 1 = some v1 := by rw [hL]; rfl
  have hQ : Ext m0 rm → ∀ o S1, Rp S1 rm → q_out 0 o rz → (Cr 0 m0 rm rz) o S1 := fun a o S1 b e => ⟨b, a, e⟩
  unfold fm_X12_take at h
  refine go_aload_n (n := 0) (by decide +kernel) l0 f0 ?_
  refine go_iload_n (n := 1) (by decide +kernel) l1 f1 ?_
  refine go_iconst (n := 0) (z := 0) (by decide +kernel) (by decide) fun v_1 f_2 => ?_
  refine go_iconst (n := 3) (z := 3) (by decide +kernel) (by decide) fun v_3 f_4 => ?_
  obtain ⟨x_6, hc_5, h⟩ := bp_s h
  refine go_callS (x := 306) (mi := 188) (n := 3) (b := 0) (as := [v1, v_1, v_3]) (rest := [v0]) (by decide +kernel) (by decide +kernel) rfl rfl (q_sum8 _ (Nat.le_of_ble_eq_true rfl)) (om_X12_isIn (Nat.le_trans (by decide) hd) R f1 f_2 f_4 hc_5) (fun _ S_10 q_13 => ?_) (fun _ _ qq => kr_x qq)
  refine kr_z (by decide) q_13 fun v_8 f_9 R_11 E_12 => ?_
  refine go_if (c := .eq) (o := 7) (t := 14) (P := x_6 = 0) (by decide +kernel) (by decide +kernel) f_9 (Iff.rfl) (fun hp_14 => ?_) (fun hp_14 => ?_)
  · have h := it_t hp_14 h
    refine go_iconst (n := 1) (z := 1) (by decide +kernel) (by decide) fun v_15 f_16 => ?_
    exact oj_X12_take_15 hd R_11 l0 f0 l1 f1 f_16 f0 hQ h
  · have h := it_f hp_14 h
    refine go_iconst (n := 0) (z := 0) (by decide +kernel) (by decide) fun v_190 f_191 => ?_
    refine go_goto (o := 4) (t := 15) (by decide +kernel) (by decide +kernel) ?_
    exact oj_X12_take_15 hd R_11 l0 f0 l1 f1 f_191 f0 hQ h
noncomputable def fm_X12_isActivity (p1 : Int) (m0 : MM) : Option Int := lx (m0 68 34) fun x_6 =>
bp (fm_X12_isIn p1 0 (w32 (x_6 - 1)) m0) fun x_13 =>
gd (x_13 = 0 ∨ x_13 = 1) <| some x_13
set_option maxHeartbeats 4000000 in
theorem om_X12_isActivity {xs : List Int32} {d : Nat} {S : QS} {m0 : MM} {p1 : Int} {v0 : Value} {v1 : Value} {rz : Int}
  (hd : 2 ≤ d) (R : Rp S m0) (f0 : q_is 2 v0 68) (f1 : q_is 0 v1 p1)
  (h : fm_X12_isActivity p1 m0 = some rz) : Mt xs d 285 [v0, v1] S (Cr 0 m0 m0 rz) := by
  obtain ⟨d, rfl⟩ : ∃ e, d = e + 1 := ⟨d - 1, by omega⟩
  have hd : 1 ≤ d := Nat.le_of_succ_le_succ hd
  refine Mt.of (M := qM_X12_isActivity) rfl (by rw [sl_1 (q_is_cat f0 (Or.inr rfl)), sl_1 (q_is_cat f1 (Or.inl rfl)), sl_0]; decide) ?_
  rw [la_1 (q_is_cat f0 (Or.inr rfl)), la_1 (q_is_cat f1 (Or.inl rfl)), la_0]
  obtain ⟨L, hL⟩ : ∃ L : QL, L = [(0, v0), (0 + 1, v1)] := ⟨_, rfl⟩
  rw [← hL]
  have l0 : q_lo L 0 = some v0 := by rw [hL]; rfl
  have l1 : q_lo L 1 = some v1 := by rw [hL]; rfl
  have hQ : ∀ o S1, Rp S1 m0 → q_out 0 o rz → (Cr 0 m0 m0 rz) o S1 := fun o S1 a b => ⟨a, Ext.rf _, b⟩
  unfold fm_X12_isActivity at h
  refine go_iload_n (n := 1) (by decide +kernel) l1 f1 ?_
  refine go_iconst (n := 0) (z := 0) (by decide +kernel) (by decide) fun v_1 f_2 => ?_
  refine go_aload_n (n := 0) (by decide +kernel) l0 f0 ?_
  obtain ⟨x_6, e_7, h⟩ := lx_s h
  refine go_getf (x := 549) (ci := 13) (kf := 34) (fin := 0) (t := 0) (by decide +kernel) (by decide +kernel) (by decide +kernel) R f0 (fx_k (c := 13) R (by decide +kernel)) fun v_3 f_4 => ?_
  have f_5 := q_is_eq f_4 e_7
  refine go_iconst (n := 1) (z := 1) (by decide +kernel) (by decide) fun v_8 f_9 => ?_
  refine go_isub (by decide +kernel) f_5 f_9 fun v_10 f_11 => ?_
  obtain ⟨x_13, hc_12, h⟩ := bp_s h
  refine go_callS (x := 306) (mi := 188) (n := 3) (b := 0) (as := [v1, v_1, v_10]) (rest := []) (by decide +kernel) (by decide +kernel) rfl rfl (q_sum8 _ (Nat.le_of_ble_eq_true rfl)) (om_X12_isIn (Nat.le_trans (by decide) hd) R f1 f_2 f_11 hc_12) (fun _ S_17 q_20 => ?_) (fun _ _ qq => kr_x qq)
  refine kr_z (by decide) q_20 fun v_15 f_16 R_18 E_19 => ?_
  obtain ⟨g_21, h⟩ := gd_s h
  cases h
  exact go_iret (by decide +kernel) rfl (Or.inr ⟨rfl, g_21⟩) f_16 (hQ _ _ R_18 (q_out_v (by decide) f_16))
noncomputable def fj_X12_answer_27 (y1 y2 s0 : Int) (m : MM) : Option (Int × MM) := bd (fm_X12_fails s0 m) fun x_30 m_31 =>
if x_30 = 0 then
gd (0 ≤ y1 ∧ y1 < 60) <| lx (m_31 102 y1) fun x_49 =>
if x_49 = 1 then
up m_31 102 y1 2 fun m_59 =>
lx (m_59 98 y1) fun x_71 =>
lx (m_59 99 y1) fun x_81 =>
bd (fm_X12_puts x_71 1 x_81 y2 m_59) fun x_84 m_85 =>
some (1, m_85)
else
some (0, m_31)
else
some (0, m_31)
set_option maxHeartbeats 4000000 in
theorem oj_X12_answer_27 {xs : List Int32} {d : Nat} {S : QS} {L : QL} {Q : QO → QS → Prop} {m : MM} {y1 y2 s0 : Int} {v0 : Value} {v1 : Value} {v2 : Value} {w0 : Value} {w1 : Value}  {rz : Int} {rm : MM}
  (hd : 3 ≤ d) (R : Rp S m) (l0 : q_lo L 0 = some v0) (f0 : q_is 2 v0 68) (l1 : q_lo L 1 = some v1) (f1 : q_is 0 v1 y1) (l2 : q_lo L 2 = some v2) (f2 : q_is 0 v2 y2) (fs0 : q_is 0 w0 s0) (fs1 : q_is 2 w1 68)
  (hQ : Ext m rm → ∀ o S1, Rp S1 rm → q_out 0 o rz → Q o S1)
  (h : fj_X12_answer_27 y1 y2 s0 m = some (rz, rm)) : Go xs d qM_X12_answer 27 L [w0, w1] S Q := by
  unfold fj_X12_answer_27 at h
  obtain ⟨x_30, m_31, hc_29, h⟩ := bd_s h
  refine go_callV (x := 324) (mi := 186) (n := 1) (ci := 13) (as := [w0]) (rest := []) (by decide +kernel) (by decide +kernel) rfl rfl (q_sum8 _ (Nat.le_of_ble_eq_true rfl)) R fs1 (fx_k (c := 13) R (by decide +kernel)) (om_X12_fails (Nat.le_trans (by decide) hd) R fs1 fs0 hc_29) (fun _ S_34 q_37 => ?_) (fun _ _ qq => kr_x qq)
  refine kr_z (by decide) q_37 fun v_32 f_33 R_35 E_36 => ?_
  have E_38 := E_36
  refine go_if (c := .ne) (o := 13) (t := 43) (P := ¬ (x_30 = 0)) (by decide +kernel) (by decide +kernel) f_33 (Iff.rfl) (fun hp_39 => ?_) (fun hp_39 => ?_)
  · have h := it_f hp_39 h
    refine go_iconst (n := 0) (z := 0) (by decide +kernel) (by decide) fun v_40 f_41 => ?_
    cases h
    exact go_iret (by decide +kernel) rfl (Or.inr ⟨rfl, by decide⟩) f_41 (hQ E_38 _ _ R_35 (q_out_v (by decide) f_41))
  · have h := it_n hp_39 h
    refine go_aload_n (n := 0) (by decide +kernel) l0 f0 ?_
    refine go_getf (x := 116) (ci := 13) (kf := 39) (fin := 1) (t := 2) (by decide +kernel) (by decide +kernel) (by decide +kernel) R_35 f0 (fx_k (c := 13) R_35 (by decide +kernel)) fun v_42 f_43 => ?_
    have f_44 := q_is_eq (b := 102) f_43 (fx_v R_35 (by decide +kernel)).symm
    refine go_iload_n (n := 1) (by decide +kernel) l1 f1 ?_
    obtain ⟨g_47, h⟩ := gd_s h
    obtain ⟨x_49, e_50, h⟩ := lx_s h
    refine go_iald (kd := 100) (by decide +kernel) rfl R_35 f_44 f1 (fx_k (c := 100) R_35 (by decide +kernel)) (fx_x (a := 102) (ln := 60) R_35 (by decide +kernel) g_47) fun v_45 f_46 => ?_
    have f_48 := q_is_eq f_46 e_50
    refine go_iconst (n := 1) (z := 1) (by decide +kernel) (by decide) fun v_51 f_52 => ?_
    refine go_icmp (c := .eq) (o := 5) (t := 45) (P := x_49 = 1) (by decide +kernel) (by decide +kernel) f_48 f_52 (Iff.rfl) (fun hp_53 => ?_) (fun hp_53 => ?_)
    · have h := it_t hp_53 h
      refine go_aload_n (n := 0) (by decide +kernel) l0 f0 ?_
      refine go_getf (x := 116) (ci := 13) (kf := 39) (fin := 1) (t := 2) (by decide +kernel) (by decide +kernel) (by decide +kernel) R_35 f0 (fx_k (c := 13) R_35 (by decide +kernel)) fun v_54 f_55 => ?_
      have f_56 := q_is_eq (b := 102) f_55 (fx_v R_35 (by decide +kernel)).symm
      refine go_iload_n (n := 1) (by decide +kernel) l1 f1 ?_
      refine go_iconst (n := 2) (z := 2) (by decide +kernel) (by decide) fun v_57 f_58 => ?_
      obtain ⟨m_59, e_60, h⟩ := up_s h
      refine go_iast (kd := 100) (by decide +kernel) rfl R_35 f_56 f1 f_58 (fx_k (c := 100) R_35 (by decide +kernel)) (fx_x (a := 102) (ln := 60) R_35 (by decide +kernel) g_47) e_60 (fx_a R_35.2 (fx_k (c := 100) R_35 (by decide +kernel)) (And.left (fx_x (a := 102) (ln := 60) R_35 (by decide +kernel) g_47)) (by decide +kernel)) fun S_61 R_62 E_63 => ?_
      have E_64 := Ext.tr E_38 E_63
      refine go_aload_n (n := 0) (by decide +kernel) l0 f0 ?_
      refine go_aload_n (n := 0) (by decide +kernel) l0 f0 ?_
      refine go_getf (x := 104) (ci := 13) (kf := 35) (fin := 1) (t := 2) (by decide +kernel) (by decide +kernel) (by decide +kernel) R_62 f0 (fx_k (c := 13) R_62 (by decide +kernel)) fun v_65 f_66 => ?_
      have f_67 := q_is_eq (b := 98) f_66 (fx_v R_62 (by decide +kernel)).symm
      refine go_iload_n (n := 1) (by decide +kernel) l1 f1 ?_
      obtain ⟨x_71, e_72, h⟩ := lx_s h
      refine go_iald (kd := 100) (by decide +kernel) rfl R_62 f_67 f1 (fx_k (c := 100) R_62 (by decide +kernel)) (fx_x (a := 98) (ln := 60) R_62 (by decide +kernel) g_47) fun v_68 f_69 => ?_
      have f_70 := q_is_eq f_69 e_72
      refine go_iconst (n := 1) (z := 1) (by decide +kernel) (by decide) fun v_73 f_74 => ?_
      refine go_aload_n (n := 0) (by decide +kernel) l0 f0 ?_
      refine go_getf (x := 107) (ci := 13) (kf := 36) (fin := 1) (t := 2) (by decide +kernel) (by decide +kernel) (by decide +kernel) R_62 f0 (fx_k (c := 13) R_62 (by decide +kernel)) fun v_75 f_76 => ?_
      have f_77 := q_is_eq (b := 99) f_76 (fx_v R_62 (by decide +kernel)).symm
      refine go_iload_n (n := 1) (by decide +kernel) l1 f1 ?_
      obtain ⟨x_81, e_82, h⟩ := lx_s h
      refine go_iald (kd := 100) (by decide +kernel) rfl R_62 f_77 f1 (fx_k (c := 100) R_62 (by decide +kernel)) (fx_x (a := 99) (ln := 60) R_62 (by decide +kernel) g_47) fun v_78 f_79 => ?_
      have f_80 := q_is_eq f_79 e_82
      refine go_iload_n (n := 2) (by decide +kernel) l2 f2 ?_
      obtain ⟨x_84, m_85, hc_83, h⟩ := bd_s h
      refine go_callV (x := 360) (mi := 210) (n := 4) (ci := 13) (as := [v_68, v_73, v_78, v2]) (rest := []) (by decide +kernel) (by decide +kernel) rfl rfl (q_sum8 _ (Nat.le_of_ble_eq_true rfl)) R_62 f0 (fx_k (c := 13) R_62 (by decide +kernel)) (om_X12_puts (Nat.le_trans (by decide) hd) R_62 f0 f_70 f_74 f_80 f2 hc_83) (fun _ S_88 q_91 => ?_) (fun _ _ qq => kr_x qq)
      refine kr_z (by decide) q_91 fun v_86 f_87 R_89 E_90 => ?_
      have E_92 := Ext.tr E_64 E_90
      refine go_pop (by decide +kernel) f_87 (Or.inl rfl) ?_
      refine go_iconst (n := 1) (z := 1) (by decide +kernel) (by decide) fun v_93 f_94 => ?_
      cases h
      exact go_iret (by decide +kernel) rfl (Or.inr ⟨rfl, by decide⟩) f_94 (hQ E_92 _ _ R_89 (q_out_v (by decide) f_94))
    · have h := it_f hp_53 h
      refine go_iconst (n := 0) (z := 0) (by decide +kernel) (by decide) fun v_95 f_96 => ?_
      cases h
      exact go_iret (by decide +kernel) rfl (Or.inr ⟨rfl, by decide⟩) f_96 (hQ E_38 _ _ R_35 (q_out_v (by decide) f_96))
noncomputable def fm_X12_answer (p1 p2 : Int) (m0 : MM) : Option (Int × MM) := bp (fm_X12_isActivity p1 m0) fun x_2 =>
if x_2 = 0 then
fj_X12_answer_27 p1 p2 1 m0
else
bp (fm_X12_isValue p2 m0) fun x_18 =>
if x_18 = 0 then
fj_X12_answer_27 p1 p2 2 m0
else
fj_X12_answer_27 p1 p2 0 m0
set_option maxHeartbeats 4000000 in
theorem om_X12_answer {xs : List Int32} {d : Nat} {S : QS} {m0 : MM} {p1 p2 : Int} {v0 : Value} {v1 : Value} {v2 : Value} {rz : Int} {rm : MM}
  (hd : 4 ≤ d) (R : Rp S m0) (f0 : q_is 2 v0 68) (f1 : q_is 0 v1 p1) (f2 : q_is 0 v2 p2)
  (h : fm_X12_answer p1 p2 m0 = some (rz, rm)) : Mt xs d 286 [v0, v1, v2] S (Cr 0 m0 rm rz) := by
  obtain ⟨d, rfl⟩ : ∃ e, d = e + 1 := ⟨d - 1, by omega⟩
  have hd : 3 ≤ d := Nat.le_of_succ_le_succ hd
  refine Mt.of (M := qM_X12_answer) rfl (by rw [sl_1 (q_is_cat f0 (Or.inr rfl)), sl_1 (q_is_cat f1 (Or.inl rfl)), sl_1 (q_is_cat f2 (Or.inl rfl)), sl_0]; decide) ?_
  rw [la_1 (q_is_cat f0 (Or.inr rfl)), la_1 (q_is_cat f1 (Or.inl rfl)), la_1 (q_is_cat f2 (Or.inl rfl)), la_0]
  obtain ⟨L, hL⟩ : ∃ L : QL, L = [(0, v0), (0 + 1, v1), (0 + 1 + 1, v2)] := ⟨_, rfl⟩
  rw [← hL]
  have l0 : q_lo L 0 = some v0 := by rw [hL]; rfl
  have l1 : q_lo L 1 = some v1 := by rw [hL]; rfl
  have l2 : q_lo L 2 = some v2 := by rw [hL]; rfl
  have hQ : Ext m0 rm → ∀ o S1, Rp S1 rm → q_out 0 o rz → (Cr 0 m0 rm rz) o S1 := fun a o S1 b e => ⟨b, a, e⟩
  unfold fm_X12_answer at h
  refine go_aload_n (n := 0) (by decide +kernel) l0 f0 ?_
  refine go_iload_n (n := 1) (by decide +kernel) l1 f1 ?_
  obtain ⟨x_2, hc_1, h⟩ := bp_s h
  refine go_callV (x := 642) (mi := 285) (n := 1) (ci := 13) (as := [v1]) (rest := []) (by decide +kernel) (by decide +kernel) rfl rfl (q_sum8 _ (Nat.le_of_ble_eq_true rfl)) R f0 (fx_k (c := 13) R (by decide +kernel)) (om_X12_isActivity (Nat.le_trans (by decide) hd) R f0 f1 hc_1) (fun _ S_6 q_9 => ?_) (fun _ _ qq => kr_x qq)
  refine kr_z (by decide) q_9 fun v_4 f_5 R_7 E_8 => ?_
  refine go_istore_n (n := 3) (by decide +kernel) (by decide +kernel) f_5 fun L_10 l_11 kp_12 => ?_
  have l_13 := kp_12 0 _ l0 (by decide) (Or.inl (by decide))
  have l_14 := kp_12 1 _ l1 (by decide) (Or.inl (by decide))
  have l_15 := kp_12 2 _ l2 (by decide) (Or.inr (q_is_cat f2 (Or.inl rfl)))
  refine go_aload_n (n := 0) (by decide +kernel) l_13 f0 ?_
  refine go_iload_n (n := 3) (by decide +kernel) l_11 f_5 ?_
  refine go_if (c := .ne) (o := 7) (t := 15) (P := ¬ (x_2 = 0)) (by decide +kernel) (by decide +kernel) f_5 (Iff.rfl) (fun hp_16 => ?_) (fun hp_16 => ?_)
  · have h := it_f hp_16 h
    refine go_iload_n (n := 2) (by decide +kernel) l_15 f2 ?_
    obtain ⟨x_18, hc_17, h⟩ := bp_s h
    refine go_callS (x := 573) (mi := 194) (n := 1) (b := 0) (as := [v2]) (rest := [v0]) (by decide +kernel) (by decide +kernel) rfl rfl (q_sum8 _ (Nat.le_of_ble_eq_true rfl)) (om_X12_isValue (Nat.le_trans (by decide) hd) R_7 f2 hc_17) (fun _ S_22 q_25 => ?_) (fun _ _ qq => kr_x qq)
    refine kr_z (by decide) q_25 fun v_20 f_21 R_23 E_24 => ?_
    refine go_if (c := .eq) (o := 7) (t := 26) (P := x_18 = 0) (by decide +kernel) (by decide +kernel) f_21 (Iff.rfl) (fun hp_26 => ?_) (fun hp_26 => ?_)
    · have h := it_t hp_26 h
      refine go_iconst (n := 2) (z := 2) (by decide +kernel) (by decide) fun v_27 f_28 => ?_
      exact oj_X12_answer_27 hd R_23 l_13 f0 l_14 f1 l_15 f2 f_28 f0 hQ h
    · have h := it_f hp_26 h
      refine go_iconst (n := 0) (z := 0) (by decide +kernel) (by decide) fun v_97 f_98 => ?_
      refine go_goto (o := 4) (t := 27) (by decide +kernel) (by decide +kernel) ?_
      exact oj_X12_answer_27 hd R_23 l_13 f0 l_14 f1 l_15 f2 f_98 f0 hQ h
  · have h := it_n hp_16 h
    refine go_iconst (n := 1) (z := 1) (by decide +kernel) (by decide) fun v_99 f_100 => ?_
    refine go_goto (o := 15) (t := 27) (by decide +kernel) (by decide +kernel) ?_
    exact oj_X12_answer_27 hd R_7 l_13 f0 l_14 f1 l_15 f2 f_100 f0 hQ h
noncomputable def fj_X12_misses_56 (y1 : Int) (m : MM) : Option (Int × MM) := gd (0 ≤ y1 ∧ y1 < 60) <| up m 102 y1 2 fun m_8 =>
lx (m_8 98 y1) fun x_20 =>
lx (m_8 99 y1) fun x_30 =>
bd (fm_X12_puts x_20 2 x_30 0 m_8) fun x_35 m_36 =>
some (0, m_36)
set_option maxHeartbeats 4000000 in
theorem oj_X12_misses_56 {xs : List Int32} {d : Nat} {S : QS} {L : QL} {Q : QO → QS → Prop} {m : MM} {y1 : Int} {v0 : Value} {v1 : Value}  {rz : Int} {rm : MM}
  (hd : 3 ≤ d) (R : Rp S m) (l0 : q_lo L 0 = some v0) (f0 : q_is 2 v0 68) (l1 : q_lo L 1 = some v1) (f1 : q_is 0 v1 y1)
  (hQ : Ext m rm → ∀ o S1, Rp S1 rm → q_out 9 o rz → Q o S1)
  (h : fj_X12_misses_56 y1 m = some (rz, rm)) : Go xs d qM_X12_misses 56 L [] S Q := by
  unfold fj_X12_misses_56 at h
  refine go_aload_n (n := 0) (by decide +kernel) l0 f0 ?_
  refine go_getf (x := 116) (ci := 13) (kf := 39) (fin := 1) (t := 2) (by decide +kernel) (by decide +kernel) (by decide +kernel) R f0 (fx_k (c := 13) R (by decide +kernel)) fun v_2 f_3 => ?_
  have f_4 := q_is_eq (b := 102) f_3 (fx_v R (by decide +kernel)).symm
  refine go_iload_n (n := 1) (by decide +kernel) l1 f1 ?_
  refine go_iconst (n := 2) (z := 2) (by decide +kernel) (by decide) fun v_5 f_6 => ?_
  obtain ⟨g_7, h⟩ := gd_s h
  obtain ⟨m_8, e_9, h⟩ := up_s h
  refine go_iast (kd := 100) (by decide +kernel) rfl R f_4 f1 f_6 (fx_k (c := 100) R (by decide +kernel)) (fx_x (a := 102) (ln := 60) R (by decide +kernel) g_7) e_9 (fx_a R.2 (fx_k (c := 100) R (by decide +kernel)) (And.left (fx_x (a := 102) (ln := 60) R (by decide +kernel) g_7)) (by decide +kernel)) fun S_10 R_11 E_12 => ?_
  have E_13 := E_12
  refine go_aload_n (n := 0) (by decide +kernel) l0 f0 ?_
  refine go_aload_n (n := 0) (by decide +kernel) l0 f0 ?_
  refine go_getf (x := 104) (ci := 13) (kf := 35) (fin := 1) (t := 2) (by decide +kernel) (by decide +kernel) (by decide +kernel) R_11 f0 (fx_k (c := 13) R_11 (by decide +kernel)) fun v_14 f_15 => ?_
  have f_16 := q_is_eq (b := 98) f_15 (fx_v R_11 (by decide +kernel)).symm
  refine go_iload_n (n := 1) (by decide +kernel) l1 f1 ?_
  obtain ⟨x_20, e_21, h⟩ := lx_s h
  refine go_iald (kd := 100) (by decide +kernel) rfl R_11 f_16 f1 (fx_k (c := 100) R_11 (by decide +kernel)) (fx_x (a := 98) (ln := 60) R_11 (by decide +kernel) g_7) fun v_17 f_18 => ?_
  have f_19 := q_is_eq f_18 e_21
  refine go_iconst (n := 2) (z := 2) (by decide +kernel) (by decide) fun v_22 f_23 => ?_
  refine go_aload_n (n := 0) (by decide +kernel) l0 f0 ?_
  refine go_getf (x := 107) (ci := 13) (kf := 36) (fin := 1) (t := 2) (by decide +kernel) (by decide +kernel) (by decide +kernel) R_11 f0 (fx_k (c := 13) R_11 (by decide +kernel)) fun v_24 f_25 => ?_
  have f_26 := q_is_eq (b := 99) f_25 (fx_v R_11 (by decide +kernel)).symm
  refine go_iload_n (n := 1) (by decide +kernel) l1 f1 ?_
  obtain ⟨x_30, e_31, h⟩ := lx_s h
  refine go_iald (kd := 100) (by decide +kernel) rfl R_11 f_26 f1 (fx_k (c := 100) R_11 (by decide +kernel)) (fx_x (a := 99) (ln := 60) R_11 (by decide +kernel) g_7) fun v_27 f_28 => ?_
  have f_29 := q_is_eq f_28 e_31
  refine go_iconst (n := 0) (z := 0) (by decide +kernel) (by decide) fun v_32 f_33 => ?_
  obtain ⟨x_35, m_36, hc_34, h⟩ := bd_s h
  refine go_callV (x := 360) (mi := 210) (n := 4) (ci := 13) (as := [v_17, v_22, v_27, v_32]) (rest := []) (by decide +kernel) (by decide +kernel) rfl rfl (q_sum8 _ (Nat.le_of_ble_eq_true rfl)) R_11 f0 (fx_k (c := 13) R_11 (by decide +kernel)) (om_X12_puts (Nat.le_trans (by decide) hd) R_11 f0 f_19 f_23 f_29 f_33 hc_34) (fun _ S_39 q_42 => ?_) (fun _ _ qq => kr_x qq)
  refine kr_z (by decide) q_42 fun v_37 f_38 R_40 E_41 => ?_
  have E_43 := Ext.tr E_13 E_41
  refine go_pop (by decide +kernel) f_38 (Or.inl rfl) ?_
  cases h
  exact go_vret (by decide +kernel) rfl (hQ E_43 _ _ R_40 q_out_n)
noncomputable def fm_X12_misses (p1 p2 : Int) (m0 : MM) : Option (Int × MM) := if p2 = 0 then
gd (0 ≤ p1 ∧ p1 < 60) <| lx (m0 103 p1) fun x_51 =>
lx (m0 100 p1) fun x_62 =>
gd (0 ≤ x_62 ∧ x_62 < 4) <| lx (m0 74 x_62) fun x_68 =>
if x_51 < x_68 then
up m0 102 p1 0 fun m_76 =>
lx (m_76 68 0) fun x_88 =>
lx (m_76 100 p1) fun x_99 =>
gd (0 ≤ x_99 ∧ x_99 < 4) <| lx (m_76 75 x_99) fun x_105 =>
up m_76 105 p1 (w32 (x_88 + x_105)) fun m_109 =>
some (0, m_109)
else
fj_X12_misses_56 p1 m0
else
fj_X12_misses_56 p1 m0
set_option maxHeartbeats 4000000 in
theorem om_X12_misses {xs : List Int32} {d : Nat} {S : QS} {m0 : MM} {p1 p2 : Int} {v0 : Value} {v1 : Value} {v2 : Value} {rz : Int} {rm : MM}
  (hd : 4 ≤ d) (R : Rp S m0) (f0 : q_is 2 v0 68) (f1 : q_is 0 v1 p1) (f2 : q_is 0 v2 p2)
  (h : fm_X12_misses p1 p2 m0 = some (rz, rm)) : Mt xs d 287 [v0, v1, v2] S (Cr 9 m0 rm rz) := by
  obtain ⟨d, rfl⟩ : ∃ e, d = e + 1 := ⟨d - 1, by omega⟩
  have hd : 3 ≤ d := Nat.le_of_succ_le_succ hd
  refine Mt.of (M := qM_X12_misses) rfl (by rw [sl_1 (q_is_cat f0 (Or.inr rfl)), sl_1 (q_is_cat f1 (Or.inl rfl)), sl_1 (q_is_cat f2 (Or.inl rfl)), sl_0]; decide) ?_
  rw [la_1 (q_is_cat f0 (Or.inr rfl)), la_1 (q_is_cat f1 (Or.inl rfl)), la_1 (q_is_cat f2 (Or.inl rfl)), la_0]
  obtain ⟨L, hL⟩ : ∃ L : QL, L = [(0, v0), (0 + 1, v1), (0 + 1 + 1, v2)] := ⟨_, rfl⟩
  rw [← hL]
  have l0 : q_lo L 0 = some v0 := by rw [hL]; rfl
  have l1 : q_lo L 1 = some v1 := by rw [hL]; rfl
  have l2 : q_lo L 2 = some v2 := by rw [hL]; rfl
  have hQ : Ext m0 rm → ∀ o S1, Rp S1 rm → q_out 9 o rz → (Cr 9 m0 rm rz) o S1 := fun a o S1 b e => ⟨b, a, e⟩
  unfold fm_X12_misses at h
  refine go_iload_n (n := 2) (by decide +kernel) l2 f2 ?_
  refine go_if (c := .ne) (o := 55) (t := 56) (P := ¬ (p2 = 0)) (by decide +kernel) (by decide +kernel) f2 (Iff.rfl) (fun hp_1 => ?_) (fun hp_1 => ?_)
  · have h := it_f hp_1 h
    exact oj_X12_misses_56 hd R l0 f0 l1 f1 hQ h
  · have h := it_n hp_1 h
    refine go_aload_n (n := 0) (by decide +kernel) l0 f0 ?_
    refine go_getf (x := 119) (ci := 13) (kf := 40) (fin := 1) (t := 2) (by decide +kernel) (by decide +kernel) (by decide +kernel) R f0 (fx_k (c := 13) R (by decide +kernel)) fun v_44 f_45 => ?_
    have f_46 := q_is_eq (b := 103) f_45 (fx_v R (by decide +kernel)).symm
    refine go_iload_n (n := 1) (by decide +kernel) l1 f1 ?_
    obtain ⟨g_49, h⟩ := gd_s h
    obtain ⟨x_51, e_52, h⟩ := lx_s h
    refine go_iald (kd := 100) (by decide +kernel) rfl R f_46 f1 (fx_k (c := 100) R (by decide +kernel)) (fx_x (a := 103) (ln := 60) R (by decide +kernel) g_49) fun v_47 f_48 => ?_
    have f_50 := q_is_eq f_48 e_52
    refine go_aload_n (n := 0) (by decide +kernel) l0 f0 ?_
    refine go_getf (x := 25) (ci := 13) (kf := 6) (fin := 1) (t := 2) (by decide +kernel) (by decide +kernel) (by decide +kernel) R f0 (fx_k (c := 13) R (by decide +kernel)) fun v_53 f_54 => ?_
    have f_55 := q_is_eq (b := 74) f_54 (fx_v R (by decide +kernel)).symm
    refine go_aload_n (n := 0) (by decide +kernel) l0 f0 ?_
    refine go_getf (x := 110) (ci := 13) (kf := 37) (fin := 1) (t := 2) (by decide +kernel) (by decide +kernel) (by decide +kernel) R f0 (fx_k (c := 13) R (by decide +kernel)) fun v_56 f_57 => ?_
    have f_58 := q_is_eq (b := 100) f_57 (fx_v R (by decide +kernel)).symm
    refine go_iload_n (n := 1) (by decide +kernel) l1 f1 ?_
    obtain ⟨x_62, e_63, h⟩ := lx_s h
    refine go_iald (kd := 100) (by decide +kernel) rfl R f_58 f1 (fx_k (c := 100) R (by decide +kernel)) (fx_x (a := 100) (ln := 60) R (by decide +kernel) g_49) fun v_59 f_60 => ?_
    have f_61 := q_is_eq f_60 e_63
    obtain ⟨g_66, h⟩ := gd_s h
    obtain ⟨x_68, e_69, h⟩ := lx_s h
    refine go_iald (kd := 100) (by decide +kernel) rfl R f_55 f_61 (fx_k (c := 100) R (by decide +kernel)) (fx_x (a := 74) (ln := 4) R (by decide +kernel) g_66) fun v_64 f_65 => ?_
    have f_67 := q_is_eq f_65 e_69
    refine go_icmp (c := .ge) (o := 35) (t := 56) (P := ¬ (x_51 < x_68)) (by decide +kernel) (by decide +kernel) f_50 f_67 (Int.not_lt.symm) (fun hp_70 => ?_) (fun hp_70 => ?_)
    · have h := it_f hp_70 h
      exact oj_X12_misses_56 hd R l0 f0 l1 f1 hQ h
    · have h := it_n hp_70 h
      refine go_aload_n (n := 0) (by decide +kernel) l0 f0 ?_
      refine go_getf (x := 116) (ci := 13) (kf := 39) (fin := 1) (t := 2) (by decide +kernel) (by decide +kernel) (by decide +kernel) R f0 (fx_k (c := 13) R (by decide +kernel)) fun v_71 f_72 => ?_
      have f_73 := q_is_eq (b := 102) f_72 (fx_v R (by decide +kernel)).symm
      refine go_iload_n (n := 1) (by decide +kernel) l1 f1 ?_
      refine go_iconst (n := 0) (z := 0) (by decide +kernel) (by decide) fun v_74 f_75 => ?_
      obtain ⟨m_76, e_77, h⟩ := up_s h
      refine go_iast (kd := 100) (by decide +kernel) rfl R f_73 f1 f_75 (fx_k (c := 100) R (by decide +kernel)) (fx_x (a := 102) (ln := 60) R (by decide +kernel) g_49) e_77 (fx_a R.2 (fx_k (c := 100) R (by decide +kernel)) (And.left (fx_x (a := 102) (ln := 60) R (by decide +kernel) g_49)) (by decide +kernel)) fun S_78 R_79 E_80 => ?_
      have E_81 := E_80
      refine go_aload_n (n := 0) (by decide +kernel) l0 f0 ?_
      refine go_getf (x := 125) (ci := 13) (kf := 42) (fin := 1) (t := 2) (by decide +kernel) (by decide +kernel) (by decide +kernel) R_79 f0 (fx_k (c := 13) R_79 (by decide +kernel)) fun v_82 f_83 => ?_
      have f_84 := q_is_eq (b := 105) f_83 (fx_v R_79 (by decide +kernel)).symm
      refine go_iload_n (n := 1) (by decide +kernel) l1 f1 ?_
      refine go_aload_n (n := 0) (by decide +kernel) l0 f0 ?_
      obtain ⟨x_88, e_89, h⟩ := lx_s h
      refine go_getf (x := 357) (ci := 13) (kf := 0) (fin := 0) (t := 0) (by decide +kernel) (by decide +kernel) (by decide +kernel) R_79 f0 (fx_k (c := 13) R_79 (by decide +kernel)) fun v_85 f_86 => ?_
      have f_87 := q_is_eq f_86 e_89
      refine go_aload_n (n := 0) (by decide +kernel) l0 f0 ?_
      refine go_getf (x := 28) (ci := 13) (kf := 7) (fin := 1) (t := 2) (by decide +kernel) (by decide +kernel) (by decide +kernel) R_79 f0 (fx_k (c := 13) R_79 (by decide +kernel)) fun v_90 f_91 => ?_
      have f_92 := q_is_eq (b := 75) f_91 (fx_v R_79 (by decide +kernel)).symm
      refine go_aload_n (n := 0) (by decide +kernel) l0 f0 ?_
      refine go_getf (x := 110) (ci := 13) (kf := 37) (fin := 1) (t := 2) (by decide +kernel) (by decide +kernel) (by decide +kernel) R_79 f0 (fx_k (c := 13) R_79 (by decide +kernel)) fun v_93 f_94 => ?_
      have f_95 := q_is_eq (b := 100) f_94 (fx_v R_79 (by decide +kernel)).symm
      refine go_iload_n (n := 1) (by decide +kernel) l1 f1 ?_
      obtain ⟨x_99, e_100, h⟩ := lx_s h
      refine go_iald (kd := 100) (by decide +kernel) rfl R_79 f_95 f1 (fx_k (c := 100) R_79 (by decide +kernel)) (fx_x (a := 100) (ln := 60) R_79 (by decide +kernel) g_49) fun v_96 f_97 => ?_
      have f_98 := q_is_eq f_97 e_100
      obtain ⟨g_103, h⟩ := gd_s h
      obtain ⟨x_105, e_106, h⟩ := lx_s h
      refine go_iald (kd := 100) (by decide +kernel) rfl R_79 f_92 f_98 (fx_k (c := 100) R_79 (by decide +kernel)) (fx_x (a := 75) (ln := 4) R_79 (by decide +kernel) g_103) fun v_101 f_102 => ?_
      have f_104 := q_is_eq f_102 e_106
      refine go_iadd (by decide +kernel) f_87 f_104 fun v_107 f_108 => ?_
      obtain ⟨m_109, e_110, h⟩ := up_s h
      refine go_iast (kd := 100) (by decide +kernel) rfl R_79 f_84 f1 f_108 (fx_k (c := 100) R_79 (by decide +kernel)) (fx_x (a := 105) (ln := 60) R_79 (by decide +kernel) g_49) e_110 (fx_a R_79.2 (fx_k (c := 100) R_79 (by decide +kernel)) (And.left (fx_x (a := 105) (ln := 60) R_79 (by decide +kernel) g_49)) (by decide +kernel)) fun S_111 R_112 E_113 => ?_
      have E_114 := Ext.tr E_81 E_113
      refine go_goto (o := 29) (t := 82) (by decide +kernel) (by decide +kernel) ?_
      cases h
      exact go_vret (by decide +kernel) rfl (hQ E_114 _ _ R_112 q_out_n)
noncomputable def fj_X12_fail_14 (y1 y2 s0 : Int) (m : MM) : Option (Int × MM) := bd (fm_X12_fails s0 m) fun x_14 m_15 =>
if x_14 = 0 then
gd (0 ≤ y1 ∧ y1 < 60) <| lx (m_15 102 y1) fun x_33 =>
if x_33 = 1 then
bd (fm_X12_misses y1 y2 m_15) fun x_39 m_40 =>
some (1, m_40)
else
some (0, m_15)
else
some (0, m_15)
set_option maxHeartbeats 4000000 in
theorem oj_X12_fail_14 {xs : List Int32} {d : Nat} {S : QS} {L : QL} {Q : QO → QS → Prop} {m : MM} {y1 y2 s0 : Int} {v0 : Value} {v1 : Value} {v2 : Value} {w0 : Value} {w1 : Value}  {rz : Int} {rm : MM}
  (hd : 4 ≤ d) (R : Rp S m) (l0 : q_lo L 0 = some v0) (f0 : q_is 2 v0 68) (l1 : q_lo L 1 = some v1) (f1 : q_is 0 v1 y1) (l2 : q_lo L 2 = some v2) (f2 : q_is 0 v2 y2) (fs0 : q_is 0 w0 s0) (fs1 : q_is 2 w1 68)
  (hQ : Ext m rm → ∀ o S1, Rp S1 rm → q_out 0 o rz → Q o S1)
  (h : fj_X12_fail_14 y1 y2 s0 m = some (rz, rm)) : Go xs d qM_X12_fail 14 L [w0, w1] S Q := by
  unfold fj_X12_fail_14 at h
  obtain ⟨x_14, m_15, hc_13, h⟩ := bd_s h
  refine go_callV (x := 324) (mi := 186) (n := 1) (ci := 13) (as := [w0]) (rest := []) (by decide +kernel) (by decide +kernel) rfl rfl (q_sum8 _ (Nat.le_of_ble_eq_true rfl)) R fs1 (fx_k (c := 13) R (by decide +kernel)) (om_X12_fails (Nat.le_trans (by decide) hd) R fs1 fs0 hc_13) (fun _ S_18 q_21 => ?_) (fun _ _ qq => kr_x qq)
  refine kr_z (by decide) q_21 fun v_16 f_17 R_19 E_20 => ?_
  have E_22 := E_20
  refine go_if (c := .ne) (o := 13) (t := 30) (P := ¬ (x_14 = 0)) (by decide +kernel) (by decide +kernel) f_17 (Iff.rfl) (fun hp_23 => ?_) (fun hp_23 => ?_)
  · have h := it_f hp_23 h
    refine go_iconst (n := 0) (z := 0) (by decide +kernel) (by decide) fun v_24 f_25 => ?_
    cases h
    exact go_iret (by decide +kernel) rfl (Or.inr ⟨rfl, by decide⟩) f_25 (hQ E_22 _ _ R_19 (q_out_v (by decide) f_25))
  · have h := it_n hp_23 h
    refine go_aload_n (n := 0) (by decide +kernel) l0 f0 ?_
    refine go_getf (x := 116) (ci := 13) (kf := 39) (fin := 1) (t := 2) (by decide +kernel) (by decide +kernel) (by decide +kernel) R_19 f0 (fx_k (c := 13) R_19 (by decide +kernel)) fun v_26 f_27 => ?_
    have f_28 := q_is_eq (b := 102) f_27 (fx_v R_19 (by decide +kernel)).symm
    refine go_iload_n (n := 1) (by decide +kernel) l1 f1 ?_
    obtain ⟨g_31, h⟩ := gd_s h
    obtain ⟨x_33, e_34, h⟩ := lx_s h
    refine go_iald (kd := 100) (by decide +kernel) rfl R_19 f_28 f1 (fx_k (c := 100) R_19 (by decide +kernel)) (fx_x (a := 102) (ln := 60) R_19 (by decide +kernel) g_31) fun v_29 f_30 => ?_
    have f_32 := q_is_eq f_30 e_34
    refine go_iconst (n := 1) (z := 1) (by decide +kernel) (by decide) fun v_35 f_36 => ?_
    refine go_icmp (c := .eq) (o := 5) (t := 32) (P := x_33 = 1) (by decide +kernel) (by decide +kernel) f_32 f_36 (Iff.rfl) (fun hp_37 => ?_) (fun hp_37 => ?_)
    · have h := it_t hp_37 h
      refine go_aload_n (n := 0) (by decide +kernel) l0 f0 ?_
      refine go_iload_n (n := 1) (by decide +kernel) l1 f1 ?_
      refine go_iload_n (n := 2) (by decide +kernel) l2 f2 ?_
      obtain ⟨x_39, m_40, hc_38, h⟩ := bd_s h
      refine go_callV (x := 645) (mi := 287) (n := 2) (ci := 13) (as := [v1, v2]) (rest := []) (by decide +kernel) (by decide +kernel) rfl rfl (q_sum8 _ (Nat.le_of_ble_eq_true rfl)) R_19 f0 (fx_k (c := 13) R_19 (by decide +kernel)) (om_X12_misses (Nat.le_trans (by decide) hd) R_19 f0 f1 f2 hc_38) (fun _ S_43 q_46 => ?_) (fun _ _ qq => kr_x qq)
      refine kr_v q_46 fun R_44 E_45 => ?_
      have E_47 := Ext.tr E_22 E_45
      refine go_iconst (n := 1) (z := 1) (by decide +kernel) (by decide) fun v_48 f_49 => ?_
      cases h
      exact go_iret (by decide +kernel) rfl (Or.inr ⟨rfl, by decide⟩) f_49 (hQ E_47 _ _ R_44 (q_out_v (by decide) f_49))
    · have h := it_f hp_37 h
      refine go_iconst (n := 0) (z := 0) (by decide +kernel) (by decide) fun v_50 f_51 => ?_
      cases h
      exact go_iret (by decide +kernel) rfl (Or.inr ⟨rfl, by decide⟩) f_51 (hQ E_22 _ _ R_19 (q_out_v (by decide) f_51))
noncomputable def fm_X12_fail (p1 p2 : Int) (m0 : MM) : Option (Int × MM) := bp (fm_X12_isActivity p1 m0) fun x_2 =>
if x_2 = 0 then
fj_X12_fail_14 p1 p2 1 m0
else
fj_X12_fail_14 p1 p2 0 m0
set_option maxHeartbeats 4000000 in
theorem om_X12_fail {xs : List Int32} {d : Nat} {S : QS} {m0 : MM} {p1 p2 : Int} {v0 : Value} {v1 : Value} {v2 : Value} {rz : Int} {rm : MM}
  (hd : 5 ≤ d) (R : Rp S m0) (f0 : q_is 2 v0 68) (f1 : q_is 0 v1 p1) (f2 : q_is 0 v2 p2)
  (h : fm_X12_fail p1 p2 m0 = some (rz, rm)) : Mt xs d 288 [v0, v1, v2] S (Cr 0 m0 rm rz) := by
  obtain ⟨d, rfl⟩ : ∃ e, d = e + 1 := ⟨d - 1, by omega⟩
  have hd : 4 ≤ d := Nat.le_of_succ_le_succ hd
  refine Mt.of (M := qM_X12_fail) rfl (by rw [sl_1 (q_is_cat f0 (Or.inr rfl)), sl_1 (q_is_cat f1 (Or.inl rfl)), sl_1 (q_is_cat f2 (Or.inl rfl)), sl_0]; decide) ?_
  rw [la_1 (q_is_cat f0 (Or.inr rfl)), la_1 (q_is_cat f1 (Or.inl rfl)), la_1 (q_is_cat f2 (Or.inl rfl)), la_0]
  obtain ⟨L, hL⟩ : ∃ L : QL, L = [(0, v0), (0 + 1, v1), (0 + 1 + 1, v2)] := ⟨_, rfl⟩
  rw [← hL]
  have l0 : q_lo L 0 = some v0 := by rw [hL]; rfl
  have l1 : q_lo L 1 = some v1 := by rw [hL]; rfl
  have l2 : q_lo L 2 = some v2 := by rw [hL]; rfl
  have hQ : Ext m0 rm → ∀ o S1, Rp S1 rm → q_out 0 o rz → (Cr 0 m0 rm rz) o S1 := fun a o S1 b e => ⟨b, a, e⟩
  unfold fm_X12_fail at h
  refine go_aload_n (n := 0) (by decide +kernel) l0 f0 ?_
  refine go_aload_n (n := 0) (by decide +kernel) l0 f0 ?_
  refine go_iload_n (n := 1) (by decide +kernel) l1 f1 ?_
  obtain ⟨x_2, hc_1, h⟩ := bp_s h
  refine go_callV (x := 642) (mi := 285) (n := 1) (ci := 13) (as := [v1]) (rest := [v0]) (by decide +kernel) (by decide +kernel) rfl rfl (q_sum8 _ (Nat.le_of_ble_eq_true rfl)) R f0 (fx_k (c := 13) R (by decide +kernel)) (om_X12_isActivity (Nat.le_trans (by decide) hd) R f0 f1 hc_1) (fun _ S_6 q_9 => ?_) (fun _ _ qq => kr_x qq)
  refine kr_z (by decide) q_9 fun v_4 f_5 R_7 E_8 => ?_
  refine go_if (c := .eq) (o := 7) (t := 13) (P := x_2 = 0) (by decide +kernel) (by decide +kernel) f_5 (Iff.rfl) (fun hp_10 => ?_) (fun hp_10 => ?_)
  · have h := it_t hp_10 h
    refine go_iconst (n := 1) (z := 1) (by decide +kernel) (by decide) fun v_11 f_12 => ?_
    exact oj_X12_fail_14 hd R_7 l0 f0 l1 f1 l2 f2 f_12 f0 hQ h
  · have h := it_f hp_10 h
    refine go_iconst (n := 0) (z := 0) (by decide +kernel) (by decide) fun v_52 f_53 => ?_
    refine go_goto (o := 4) (t := 14) (by decide +kernel) (by decide +kernel) ?_
    exact oj_X12_fail_14 hd R_7 l0 f0 l1 f1 l2 f2 f_53 f0 hQ h
noncomputable def fj_X12_beat_27 (y1 y2 s0 : Int) (m : MM) : Option (Int × MM) := bd (fm_X12_fails s0 m) fun x_30 m_31 =>
if x_30 = 0 then
gd (0 ≤ y1 ∧ y1 < 60) <| lx (m_31 102 y1) fun x_47 =>
if x_47 = 1 then
lx (m_31 108 y1) fun x_58 =>
up m_31 108 y1 y2 fun m_69 =>
lx (m_69 68 0) fun x_81 =>
up m_69 107 y1 x_81 fun m_83 =>
some (x_58, m_83)
else
some ((-1), m_31)
else
some (0, m_31)
set_option maxHeartbeats 4000000 in
theorem oj_X12_beat_27 {xs : List Int32} {d : Nat} {S : QS} {L : QL} {Q : QO → QS → Prop} {m : MM} {y1 y2 s0 : Int} {v0 : Value} {v1 : Value} {v2 : Value} {w0 : Value} {w1 : Value}  {rz : Int} {rm : MM}
  (hd : 2 ≤ d) (R : Rp S m) (l0 : q_lo L 0 = some v0) (f0 : q_is 2 v0 68) (l1 : q_lo L 1 = some v1) (f1 : q_is 0 v1 y1) (l2 : q_lo L 2 = some v2) (f2 : q_is 0 v2 y2) (fs0 : q_is 0 w0 s0) (fs1 : q_is 2 w1 68)
  (hQ : Ext m rm → ∀ o S1, Rp S1 rm → q_out 0 o rz → Q o S1)
  (h : fj_X12_beat_27 y1 y2 s0 m = some (rz, rm)) : Go xs d qM_X12_beat 27 L [w0, w1] S Q := by
  unfold fj_X12_beat_27 at h
  obtain ⟨x_30, m_31, hc_29, h⟩ := bd_s h
  refine go_callV (x := 324) (mi := 186) (n := 1) (ci := 13) (as := [w0]) (rest := []) (by decide +kernel) (by decide +kernel) rfl rfl (q_sum8 _ (Nat.le_of_ble_eq_true rfl)) R fs1 (fx_k (c := 13) R (by decide +kernel)) (om_X12_fails (Nat.le_trans (by decide) hd) R fs1 fs0 hc_29) (fun _ S_34 q_37 => ?_) (fun _ _ qq => kr_x qq)
  refine kr_z (by decide) q_37 fun v_32 f_33 R_35 E_36 => ?_
  have E_38 := E_36
  refine go_if (c := .eq) (o := 5) (t := 35) (P := x_30 = 0) (by decide +kernel) (by decide +kernel) f_33 (Iff.rfl) (fun hp_39 => ?_) (fun hp_39 => ?_)
  · have h := it_t hp_39 h
    refine go_aload_n (n := 0) (by decide +kernel) l0 f0 ?_
    refine go_getf (x := 116) (ci := 13) (kf := 39) (fin := 1) (t := 2) (by decide +kernel) (by decide +kernel) (by decide +kernel) R_35 f0 (fx_k (c := 13) R_35 (by decide +kernel)) fun v_40 f_41 => ?_
    have f_42 := q_is_eq (b := 102) f_41 (fx_v R_35 (by decide +kernel)).symm
    refine go_iload_n (n := 1) (by decide +kernel) l1 f1 ?_
    obtain ⟨g_45, h⟩ := gd_s h
    obtain ⟨x_47, e_48, h⟩ := lx_s h
    refine go_iald (kd := 100) (by decide +kernel) rfl R_35 f_42 f1 (fx_k (c := 100) R_35 (by decide +kernel)) (fx_x (a := 102) (ln := 60) R_35 (by decide +kernel) g_45) fun v_43 f_44 => ?_
    have f_46 := q_is_eq f_44 e_48
    refine go_iconst (n := 1) (z := 1) (by decide +kernel) (by decide) fun v_49 f_50 => ?_
    refine go_icmp (c := .eq) (o := 5) (t := 47) (P := x_47 = 1) (by decide +kernel) (by decide +kernel) f_46 f_50 (Iff.rfl) (fun hp_51 => ?_) (fun hp_51 => ?_)
    · have h := it_t hp_51 h
      refine go_aload_n (n := 0) (by decide +kernel) l0 f0 ?_
      refine go_getf (x := 134) (ci := 13) (kf := 45) (fin := 1) (t := 2) (by decide +kernel) (by decide +kernel) (by decide +kernel) R_35 f0 (fx_k (c := 13) R_35 (by decide +kernel)) fun v_52 f_53 => ?_
      have f_54 := q_is_eq (b := 108) f_53 (fx_v R_35 (by decide +kernel)).symm
      refine go_iload_n (n := 1) (by decide +kernel) l1 f1 ?_
      obtain ⟨x_58, e_59, h⟩ := lx_s h
      refine go_iald (kd := 100) (by decide +kernel) rfl R_35 f_54 f1 (fx_k (c := 100) R_35 (by decide +kernel)) (fx_x (a := 108) (ln := 60) R_35 (by decide +kernel) g_45) fun v_55 f_56 => ?_
      have f_57 := q_is_eq f_56 e_59
      refine go_istore (n := 4) (by decide +kernel) (by decide +kernel) f_57 fun L_60 l_61 kp_62 => ?_
      have l_63 := kp_62 0 _ l0 (by decide) (Or.inl (by decide))
      have l_64 := kp_62 1 _ l1 (by decide) (Or.inl (by decide))
      have l_65 := kp_62 2 _ l2 (by decide) (Or.inl (by decide))
      refine go_aload_n (n := 0) (by decide +kernel) l_63 f0 ?_
      refine go_getf (x := 134) (ci := 13) (kf := 45) (fin := 1) (t := 2) (by decide +kernel) (by decide +kernel) (by decide +kernel) R_35 f0 (fx_k (c := 13) R_35 (by decide +kernel)) fun v_66 f_67 => ?_
      have f_68 := q_is_eq (b := 108) f_67 (fx_v R_35 (by decide +kernel)).symm
      refine go_iload_n (n := 1) (by decide +kernel) l_64 f1 ?_
      refine go_iload_n (n := 2) (by decide +kernel) l_65 f2 ?_
      obtain ⟨m_69, e_70, h⟩ := up_s h
      refine go_iast (kd := 100) (by decide +kernel) rfl R_35 f_68 f1 f2 (fx_k (c := 100) R_35 (by decide +kernel)) (fx_x (a := 108) (ln := 60) R_35 (by decide +kernel) g_45) e_70 (fx_a R_35.2 (fx_k (c := 100) R_35 (by decide +kernel)) (And.left (fx_x (a := 108) (ln := 60) R_35 (by decide +kernel) g_45)) (by decide +kernel)) fun S_71 R_72 E_73 => ?_
      have E_74 := Ext.tr E_38 E_73
      refine go_aload_n (n := 0) (by decide +kernel) l_63 f0 ?_
      refine go_getf (x := 131) (ci := 13) (kf := 44) (fin := 1) (t := 2) (by decide +kernel) (by decide +kernel) (by decide +kernel) R_72 f0 (fx_k (c := 13) R_72 (by decide +kernel)) fun v_75 f_76 => ?_
      have f_77 := q_is_eq (b := 107) f_76 (fx_v R_72 (by decide +kernel)).symm
      refine go_iload_n (n := 1) (by decide +kernel) l_64 f1 ?_
      refine go_aload_n (n := 0) (by decide +kernel) l_63 f0 ?_
      obtain ⟨x_81, e_82, h⟩ := lx_s h
      refine go_getf (x := 357) (ci := 13) (kf := 0) (fin := 0) (t := 0) (by decide +kernel) (by decide +kernel) (by decide +kernel) R_72 f0 (fx_k (c := 13) R_72 (by decide +kernel)) fun v_78 f_79 => ?_
      have f_80 := q_is_eq f_79 e_82
      obtain ⟨m_83, e_84, h⟩ := up_s h
      refine go_iast (kd := 100) (by decide +kernel) rfl R_72 f_77 f1 f_80 (fx_k (c := 100) R_72 (by decide +kernel)) (fx_x (a := 107) (ln := 60) R_72 (by decide +kernel) g_45) e_84 (fx_a R_72.2 (fx_k (c := 100) R_72 (by decide +kernel)) (And.left (fx_x (a := 107) (ln := 60) R_72 (by decide +kernel) g_45)) (by decide +kernel)) fun S_85 R_86 E_87 => ?_
      have E_88 := Ext.tr E_74 E_87
      refine go_iload (n := 4) (by decide +kernel) l_61 f_57 ?_
      cases h
      exact go_iret (by decide +kernel) rfl (Or.inl rfl) f_57 (hQ E_88 _ _ R_86 (q_out_v (by decide) f_57))
    · have h := it_f hp_51 h
      refine go_iconst (n := (-1)) (z := (-1)) (by decide +kernel) (by decide) fun v_89 f_90 => ?_
      cases h
      exact go_iret (by decide +kernel) rfl (Or.inl rfl) f_90 (hQ E_38 _ _ R_35 (q_out_v (by decide) f_90))
  · have h := it_f hp_39 h
    refine go_iconst (n := 0) (z := 0) (by decide +kernel) (by decide) fun v_91 f_92 => ?_
    cases h
    exact go_iret (by decide +kernel) rfl (Or.inl rfl) f_92 (hQ E_38 _ _ R_35 (q_out_v (by decide) f_92))
noncomputable def fm_X12_beat (p1 p2 : Int) (m0 : MM) : Option (Int × MM) := bp (fm_X12_isActivity p1 m0) fun x_2 =>
if x_2 = 0 then
fj_X12_beat_27 p1 p2 1 m0
else
bp (fm_X12_isValue p2 m0) fun x_18 =>
if x_18 = 0 then
fj_X12_beat_27 p1 p2 2 m0
else
fj_X12_beat_27 p1 p2 0 m0
set_option maxHeartbeats 4000000 in
theorem om_X12_beat {xs : List Int32} {d : Nat} {S : QS} {m0 : MM} {p1 p2 : Int} {v0 : Value} {v1 : Value} {v2 : Value} {rz : Int} {rm : MM}
  (hd : 3 ≤ d) (R : Rp S m0) (f0 : q_is 2 v0 68) (f1 : q_is 0 v1 p1) (f2 : q_is 0 v2 p2)
  (h : fm_X12_beat p1 p2 m0 = some (rz, rm)) : Mt xs d 289 [v0, v1, v2] S (Cr 0 m0 rm rz) := by
  obtain ⟨d, rfl⟩ : ∃ e, d = e + 1 := ⟨d - 1, by omega⟩
  have hd : 2 ≤ d := Nat.le_of_succ_le_succ hd
  refine Mt.of (M := qM_X12_beat) rfl (by rw [sl_1 (q_is_cat f0 (Or.inr rfl)), sl_1 (q_is_cat f1 (Or.inl rfl)), sl_1 (q_is_cat f2 (Or.inl rfl)), sl_0]; decide) ?_
  rw [la_1 (q_is_cat f0 (Or.inr rfl)), la_1 (q_is_cat f1 (Or.inl rfl)), la_1 (q_is_cat f2 (Or.inl rfl)), la_0]
  obtain ⟨L, hL⟩ : ∃ L : QL, L = [(0, v0), (0 + 1, v1), (0 + 1 + 1, v2)] := ⟨_, rfl⟩
  rw [← hL]
  have l0 : q_lo L 0 = some v0 := by rw [hL]; rfl
  have l1 : q_lo L 1 = some v1 := by rw [hL]; rfl
  have l2 : q_lo L 2 = some v2 := by rw [hL]; rfl
  have hQ : Ext m0 rm → ∀ o S1, Rp S1 rm → q_out 0 o rz → (Cr 0 m0 rm rz) o S1 := fun a o S1 b e => ⟨b, a, e⟩
  unfold fm_X12_beat at h
  refine go_aload_n (n := 0) (by decide +kernel) l0 f0 ?_
  refine go_iload_n (n := 1) (by decide +kernel) l1 f1 ?_
  obtain ⟨x_2, hc_1, h⟩ := bp_s h
  refine go_callV (x := 642) (mi := 285) (n := 1) (ci := 13) (as := [v1]) (rest := []) (by decide +kernel) (by decide +kernel) rfl rfl (q_sum8 _ (Nat.le_of_ble_eq_true rfl)) R f0 (fx_k (c := 13) R (by decide +kernel)) (om_X12_isActivity (Nat.le_trans (by decide) hd) R f0 f1 hc_1) (fun _ S_6 q_9 => ?_) (fun _ _ qq => kr_x qq)
  refine kr_z (by decide) q_9 fun v_4 f_5 R_7 E_8 => ?_
  refine go_istore_n (n := 3) (by decide +kernel) (by decide +kernel) f_5 fun L_10 l_11 kp_12 => ?_
  have l_13 := kp_12 0 _ l0 (by decide) (Or.inl (by decide))
  have l_14 := kp_12 1 _ l1 (by decide) (Or.inl (by decide))
  have l_15 := kp_12 2 _ l2 (by decide) (Or.inr (q_is_cat f2 (Or.inl rfl)))
  refine go_aload_n (n := 0) (by decide +kernel) l_13 f0 ?_
  refine go_iload_n (n := 3) (by decide +kernel) l_11 f_5 ?_
  refine go_if (c := .ne) (o := 7) (t := 15) (P := ¬ (x_2 = 0)) (by decide +kernel) (by decide +kernel) f_5 (Iff.rfl) (fun hp_16 => ?_) (fun hp_16 => ?_)
  · have h := it_f hp_16 h
    refine go_iload_n (n := 2) (by decide +kernel) l_15 f2 ?_
    obtain ⟨x_18, hc_17, h⟩ := bp_s h
    refine go_callS (x := 573) (mi := 194) (n := 1) (b := 0) (as := [v2]) (rest := [v0]) (by decide +kernel) (by decide +kernel) rfl rfl (q_sum8 _ (Nat.le_of_ble_eq_true rfl)) (om_X12_isValue (Nat.le_trans (by decide) hd) R_7 f2 hc_17) (fun _ S_22 q_25 => ?_) (fun _ _ qq => kr_x qq)
    refine kr_z (by decide) q_25 fun v_20 f_21 R_23 E_24 => ?_
    refine go_if (c := .eq) (o := 7) (t := 26) (P := x_18 = 0) (by decide +kernel) (by decide +kernel) f_21 (Iff.rfl) (fun hp_26 => ?_) (fun hp_26 => ?_)
    · have h := it_t hp_26 h
      refine go_iconst (n := 2) (z := 2) (by decide +kernel) (by decide) fun v_27 f_28 => ?_
      exact oj_X12_beat_27 hd R_23 l_13 f0 l_14 f1 l_15 f2 f_28 f0 hQ h
    · have h := it_f hp_26 h
      refine go_iconst (n := 0) (z := 0) (by decide +kernel) (by decide) fun v_93 f_94 => ?_
      refine go_goto (o := 4) (t := 27) (by decide +kernel) (by decide +kernel) ?_
      exact oj_X12_beat_27 hd R_23 l_13 f0 l_14 f1 l_15 f2 f_94 f0 hQ h
  · have h := it_n hp_16 h
    refine go_iconst (n := 1) (z := 1) (by decide +kernel) (by decide) fun v_95 f_96 => ?_
    refine go_goto (o := 15) (t := 27) (by decide +kernel) (by decide +kernel) ?_
    exact oj_X12_beat_27 hd R_7 l_13 f0 l_14 f1 l_15 f2 f_96 f0 hQ h
end DF41
