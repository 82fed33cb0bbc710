/-! Methods as functions (written by wip/whole/dec.py), 41: X12_replays, X12_take, X12_isActivity, X12_answer, X12_misses, X12_fail, X12_beat. -/
section DF41
noncomputable def fj_X12_replays_13 (y1 s0 : Int) (m : MM) : Option (Int × MM) := bd (fm_X12_fails s0 m) fun x_14 m_15 =>
if x_14 = 0 then
gd (0 ≤ y1 ∧ y1 < 3) <| lx (m_15 122 y1) fun x_33 =>
some (x_33, m_15)
else
some (0, m_15)
set_option maxHeartbeats 4000000 in
theorem oj_X12_replays_13 {xs : List Int32} {d : Nat} {S : QS} {L : QL} {Q : QO → QS → Prop} {m : MM} {y1 s0 : Int} {v0 : Value} {v1 : Value} {w0 : Value} {w1 : Value}  {rz : Int} {rm : MM}
  (hd : 2 ≤ d) (R : Rp S m) (l0 : q_lo L 0 = some v0) (f0 : q_is 2 v0 68) (l1 : q_lo L 1 = some v1) (f1 : q_is 0 v1 y1) (fs0 : q_is 0 w0 s0) (fs1 : q_is 2 w1 68)
  (hQ : Ext m rm → ∀ o S1, Rp S1 rm → q_out 0 o rz → Q o S1)
  (h : fj_X12_replays_13 y1 s0 m = some (rz, rm)) : Go xs d qM_X12_replays 13 L [w0, w1] S Q := by
  unfold fj_X12_replays_13 at h
  obtain ⟨x_14, m_15, hc_13, h⟩ := bd_s h
  refine go_callV (x := 324) (mi := 186) (n := 1) (ci := 13) (as := [w0]) (rest := []) (by decide +kernel) (by decide +kernel) rfl rfl (q_sum8 _ (Nat.le_of_ble_eq_true rfl)) R fs1 (fx_k (c := 13) R (by decide +kernel)) (om_X12_fails (Nat.le_trans (by decide) hd) R fs1 fs0 hc_13) (fun _ S_18 q_21 => ?_) (fun _ _ qq => kr_x qq)
  refine kr_z (by decide) q_21 fun v_16 f_17 R_19 E_20 => ?_
  have E_24 := E_20
  refine go_if (c := .eq) (o := 7) (t := 23) (P := x_14 = 0) (by decide +kernel) (by decide +kernel) f_17 (Iff.rfl) (fun hp_25 => ?_) (fun hp_25 => ?_)
  · have h := it_t hp_25 h
    refine go_aload_n (n := 0) (by decide +kernel) l0 f0 ?_
    refine go_getf (x := 180) (ci := 13) (kf := 62) (fin := 1) (t := 2) (by decide +kernel) (by decide +kernel) (by decide +kernel) R_19 f0 (fx_k (c := 13) R_19 (by decide +kernel)) fun v_26 f_27 => ?_
    have f_28 := q_is_eq (b := 122) f_27 (fx_v R_19 (by decide +kernel)).symm
    refine go_iload_n (n := 1) (by decide +kernel) l1 f1 ?_
    obtain ⟨g_31, h⟩ := gd_s h
    obtain ⟨x_33, e_34, h⟩ := lx_s h
    refine go_iald (kd := 100) (by decide +kernel) rfl R_19 f_28 f1 (fx_k (c := 100) R_19 (by decide +kernel)) (fx_x (a := 122) (ln := 3) R_19 (by decide +kernel) g_31) fun v_29 f_30 => ?_
    have f_32 := q_is_eq f_30 e_34
    cases h
    exact go_iret (by decide +kernel) rfl (Or.inl rfl) f_32 (hQ E_24 _ _ R_19 (q_out_v (by decide) f_32))
  · have h := it_f hp_25 h
    refine go_iconst (n := 0) (z := 0) (by decide +kernel) (by decide) fun v_35 f_36 => ?_
    refine go_goto (o := 9) (t := 29) (by decide +kernel) (by decide +kernel) ?_
    cases h
    exact go_iret (by decide +kernel) rfl (Or.inl rfl) f_36 (hQ E_24 _ _ R_19 (q_out_v (by decide) f_36))
noncomputable def fm_X12_replays (p1 : Int) (m0 : MM) : Option (Int × MM) := bp (fm_X12_isWorker p1 m0) fun x_2 =>
if x_2 = 0 then
fj_X12_replays_13 p1 1 m0
else
fj_X12_replays_13 p1 0 m0
set_option maxHeartbeats 4000000 in
theorem om_X12_replays {xs : List Int32} {d : Nat} {S : QS} {m0 : MM} {p1 : Int} {v0 : Value} {v1 : Value} {rz : Int} {rm : MM}
  (hd : 3 ≤ d) (R : Rp S m0) (f0 : q_is 2 v0 68) (f1 : q_is 0 v1 p1)
  (h : fm_X12_replays p1 m0 = some (rz, rm)) : Mt xs d 283 [v0, v1] S (Cr 0 m0 rm rz) := by
  obtain ⟨d, rfl⟩ : ∃ e, d = e + 1 := ⟨d - 1, by omega⟩
  have hd : 2 ≤ d := Nat.le_of_succ_le_succ hd
  refine Mt.of (M := qM_X12_replays) rfl (by rw [sl_1 (q_is_cat f0 (Or.inr rfl)), sl_1 (q_is_cat f1 (Or.inl rfl)), sl_0]; decide) ?_
  rw [la_1 (q_is_cat f0 (Or.inr rfl)), la_1 (q_is_cat f1 (Or.inl rfl)), la_0]
  obtain ⟨L, hL⟩ : ∃ L : QL, L = [(0, v0), (0 + 1, v1)] := ⟨_, rfl⟩
  rw [← hL]
  have l0 : q_lo L 0 = some v0 := by rw [hL]; rfl
  have l1 : q_lo L 1 = some v1 := by rw [hL]; rfl
  have hQ : Ext m0 rm → ∀ o S1, Rp S1 rm → q_out 0 o rz → (Cr 0 m0 rm rz) o S1 := fun a o S1 b e => ⟨b, a, e⟩
  unfold fm_X12_replays at h
  refine go_aload_n (n := 0) (by decide +kernel) l0 f0 ?_
  refine go_iload_n (n := 1) (by decide +kernel) l1 f1 ?_
  obtain ⟨x_2, hc_1, h⟩ := bp_s h
  refine go_callS (x := 605) (mi := 275) (n := 1) (b := 0) (as := [v1]) (rest := [v0]) (by decide +kernel) (by decide +kernel) rfl rfl (q_sum8 _ (Nat.le_of_ble_eq_true rfl)) (om_X12_isWorker (Nat.le_trans (by decide) hd) R f1 hc_1) (fun _ S_6 q_9 => ?_) (fun _ _ qq => kr_x qq)
  refine kr_z (by decide) q_9 fun v_4 f_5 R_7 E_8 => ?_
  refine go_if (c := .eq) (o := 7) (t := 12) (P := x_2 = 0) (by decide +kernel) (by decide +kernel) f_5 (Iff.rfl) (fun hp_10 => ?_) (fun hp_10 => ?_)
  · have h := it_t hp_10 h
    refine go_iconst (n := 1) (z := 1) (by decide +kernel) (by decide) fun v_11 f_12 => ?_
    exact oj_X12_replays_13 hd R_7 l0 f0 l1 f1 f_12 f0 hQ h
  · have h := it_f hp_10 h
    refine go_iconst (n := 0) (z := 0) (by decide +kernel) (by decide) fun v_37 f_38 => ?_
    refine go_goto (o := 4) (t := 13) (by decide +kernel) (by decide +kernel) ?_
    exact oj_X12_replays_13 hd R_7 l0 f0 l1 f1 f_38 f0 hQ h
noncomputable def fl_X12_take_25 (y1 : Int) (m : MM) (k65 : Int → Option (Int × MM)) : Nat → Int → Option (Int × MM)
  | 0, _ => none
  | n + 1, y2 => lx (m 68 34) fun x_40 =>
if y2 < x_40 then
gd (0 ≤ y2 ∧ y2 < 60) <| lx (m 100 y2) fun x_52 =>
if x_52 = y1 then
lx (m 102 y2) fun x_71 =>
if x_71 = 0 then
lx (m 105 y2) fun x_90 =>
lx (m 68 0) fun x_95 =>
if x_95 < x_90 then
lx (w32 (y2 + 1)) fun x_103 =>
fl_X12_take_25 y1 m k65 n x_103
else
k65 y2
else
lx (w32 (y2 + 1)) fun x_79 =>
fl_X12_take_25 y1 m k65 n x_79
else
lx (w32 (y2 + 1)) fun x_60 =>
fl_X12_take_25 y1 m k65 n x_60
else
some ((-1), m)
set_option maxHeartbeats 4000000 in
theorem ol_X12_take_25 {xs : List Int32} {d : Nat} {Q : QO → QS → Prop} {m : MM} {y1 : Int} {k65 : Int → Option (Int × MM)} {rz : Int} {rm : MM}
  (hd : 1 ≤ d)
  (hk65 : ∀ {z2 : Int} {Sq : QS} {Lq : QL} {u0 : Value} {u2 : Value}, k65 z2 = some (rz, rm) → Rp Sq m → q_lo Lq 0 = some u0 → q_is 2 u0 68 → q_lo Lq 2 = some u2 → q_is 0 u2 z2 → Go xs d qM_X12_take 65 Lq [] Sq Q)
  (hQ : Ext m rm → ∀ o S1, Rp S1 rm → q_out 0 o rz → Q o S1) :
  ∀ (n : Nat) {S : QS} {L : QL} {y2 : Int} {v0 : Value} {v1 : Value} {v2 : Value} , fl_X12_take_25 y1 m k65 n y2 = some (rz, rm) → Rp S m → q_lo L 0 = some v0 → q_is 2 v0 68 → q_lo L 1 = some v1 → q_is 0 v1 y1 → q_lo L 2 = some v2 → q_is 0 v2 y2 → Go xs d qM_X12_take 25 L [] S Q := by
  intro n
  induction n with
  | zero => intro S L y2 v0 v1 v2; intro h R l0 f0 l1 f1 l2 f2; cases h
  | succ n ih0 =>
    intro S L y2 v0 v1 v2; intro h R l0 f0 l1 f1 l2 f2
    have ih : ∀ {z2 : Int} {Sq : QS} {Lq : QL} {u0 : Value} {u1 : Value} {u2 : Value}, fl_X12_take_25 y1 m k65 n z2 = some (rz, rm) → Rp Sq m → q_lo Lq 0 = some u0 → q_is 2 u0 68 → q_lo Lq 1 = some u1 → q_is 0 u1 y1 → q_lo Lq 2 = some u2 → q_is 0 u2 z2 → Go xs d qM_X12_take 25 Lq [] Sq Q := by intros; exact ih0 ‹_› ‹_› ‹_› ‹_› ‹_› ‹_› ‹_› ‹_›
    unfold fl_X12_take_25 at h
    refine go_iload_n (n := 2) (by decide +kernel) l2 f2 ?_
    refine go_aload_n (n := 0) (by decide +kernel) l0 f0 ?_
    obtain ⟨x_40, e_41, h⟩ := lx_s h
    refine go_getf (x := 549) (ci := 13) (kf := 34) (fin := 0) (t := 0) (by decide +kernel) (by decide +kernel) (by decide +kernel) R f0 (fx_k (c := 13) R (by decide +kernel)) fun v_37 f_38 => ?_
    have f_39 := q_is_eq f_38 e_41
    refine go_icmp (c := .ge) (o := 91) (t := 121) (P := ¬ (y2 < x_40)) (by decide +kernel) (by decide +kernel) f2 f_39 (Int.not_lt.symm) (fun hp_42 => ?_) (fun hp_42 => ?_)
    · have h := it_f hp_42 h
      refine go_iconst (n := (-1)) (z := (-1)) (by decide +kernel) (by decide) fun v_43 f_44 => ?_
      cases h
      exact go_iret (by decide +kernel) rfl (Or.inl rfl) f_44 (hQ (Ext.rf _) _ _ R (q_out_v (by decide) f_44))
    · have h := it_n hp_42 h
      refine go_aload_n (n := 0) (by decide +kernel) l0 f0 ?_
      refine go_getf (x := 110) (ci := 13) (kf := 37) (fin := 1) (t := 2) (by decide +kernel) (by decide +kernel) (by decide +kernel) R f0 (fx_k (c := 13) R (by decide +kernel)) fun v_45 f_46 => ?_
      have f_47 := q_is_eq (b := 100) f_46 (fx_v R (by decide +kernel)).symm
      refine go_iload_n (n := 2) (by decide +kernel) l2 f2 ?_
      obtain ⟨g_50, h⟩ := gd_s h
      obtain ⟨x_52, e_53, h⟩ := lx_s h
      refine go_iald (kd := 100) (by decide +kernel) rfl R f_47 f2 (fx_k (c := 100) R (by decide +kernel)) (fx_x (a := 100) (ln := 60) R (by decide +kernel) g_50) fun v_48 f_49 => ?_
      have f_51 := q_is_eq f_49 e_53
      refine go_iload_n (n := 1) (by decide +kernel) l1 f1 ?_
      refine go_icmp (c := .ne) (o := 75) (t := 115) (P := ¬ (x_52 = y1)) (by decide +kernel) (by decide +kernel) f_51 f1 (Iff.rfl) (fun hp_54 => ?_) (fun hp_54 => ?_)
      · have h := it_f hp_54 h
        refine go_iinc (n := 2) (c := 1) (c' := 1) (by decide +kernel) (by decide +kernel) l2 f2 (by decide) fun L_55 v_56 f_57 l_58 kp_59 => ?_
        obtain ⟨x_60, e_61, h⟩ := lx_s h
        have f_62 := q_is_eq f_57 e_61
        have l_63 := kp_59 0 _ l0 (by decide) (Or.inl (by decide))
        have l_64 := kp_59 1 _ l1 (by decide) (Or.inr (q_is_cat f1 (Or.inl rfl)))
        refine go_goto (o := (-93)) (t := 25) (by decide +kernel) (by decide +kernel) ?_
        exact ih h R l_63 f0 l_64 f1 l_58 f_62
      · have h := it_n hp_54 h
        refine go_aload_n (n := 0) (by decide +kernel) l0 f0 ?_
        refine go_getf (x := 116) (ci := 13) (kf := 39) (fin := 1) (t := 2) (by decide +kernel) (by decide +kernel) (by decide +kernel) R f0 (fx_k (c := 13) R (by decide +kernel)) fun v_65 f_66 => ?_
        have f_67 := q_is_eq (b := 102) f_66 (fx_v R (by decide +kernel)).symm
        refine go_iload_n (n := 2) (by decide +kernel) l2 f2 ?_
        obtain ⟨x_71, e_72, h⟩ := lx_s h
        refine go_iald (kd := 100) (by decide +kernel) rfl R f_67 f2 (fx_k (c := 100) R (by decide +kernel)) (fx_x (a := 102) (ln := 60) R (by decide +kernel) g_50) fun v_68 f_69 => ?_
        have f_70 := q_is_eq f_69 e_72
        refine go_if (c := .ne) (o := 66) (t := 115) (P := ¬ (x_71 = 0)) (by decide +kernel) (by decide +kernel) f_70 (Iff.rfl) (fun hp_73 => ?_) (fun hp_73 => ?_)
        · have h := it_f hp_73 h
          refine go_iinc (n := 2) (c := 1) (c' := 1) (by decide +kernel) (by decide +kernel) l2 f2 (by decide) fun L_74 v_75 f_76 l_77 kp_78 => ?_
          obtain ⟨x_79, e_80, h⟩ := lx_s h
          have f_81 := q_is_eq f_76 e_80
          have l_82 := kp_78 0 _ l0 (by decide) (Or.inl (by decide))
          have l_83 := kp_78 1 _ l1 (by decide) (Or.inr (q_is_cat f1 (Or.inl rfl)))
          refine go_goto (o := (-93)) (t := 25) (by decide +kernel) (by decide +kernel) ?_
          exact ih h R l_82 f0 l_83 f1 l_77 f_81
        · have h := it_n hp_73 h
          refine go_aload_n (n := 0) (by decide +kernel) l0 f0 ?_
          refine go_getf (x := 125) (ci := 13) (kf := 42) (fin := 1) (t := 2) (by decide +kernel) (by decide +kernel) (by decide +kernel) R f0 (fx_k (c := 13) R (by decide +kernel)) fun v_84 f_85 => ?_
          have f_86 := q_is_eq (b := 105) f_85 (fx_v R (by decide +kernel)).symm
          refine go_iload_n (n := 2) (by decide +kernel) l2 f2 ?_
          obtain ⟨x_90, e_91, h⟩ := lx_s h
          refine go_iald (kd := 100) (by decide +kernel) rfl R f_86 f2 (fx_k (c := 100) R (by decide +kernel)) (fx_x (a := 105) (ln := 60) R (by decide +kernel) g_50) fun v_87 f_88 => ?_
          have f_89 := q_is_eq f_88 e_91
          refine go_aload_n (n := 0) (by decide +kernel) l0 f0 ?_
          obtain ⟨x_95, e_96, h⟩ := lx_s h
          refine go_getf (x := 357) (ci := 13) (kf := 0) (fin := 0) (t := 0) (by decide +kernel) (by decide +kernel) (by decide +kernel) R f0 (fx_k (c := 13) R (by decide +kernel)) fun v_92 f_93 => ?_
          have f_94 := q_is_eq f_93 e_96
          refine go_icmp (c := .gt) (o := 53) (t := 115) (P := x_95 < x_90) (by decide +kernel) (by decide +kernel) f_89 f_94 (Iff.rfl) (fun hp_97 => ?_) (fun hp_97 => ?_)
          · have h := it_t hp_97 h
            refine go_iinc (n := 2) (c := 1) (c' := 1) (by decide +kernel) (by decide +kernel) l2 f2 (by decide) fun L_98 v_99 f_100 l_101 kp_102 => ?_
            obtain ⟨x_103, e_104, h⟩ := lx_s h
            have f_105 := q_is_eq f_100 e_104
            have l_106 := kp_102 0 _ l0 (by decide) (Or.inl (by decide))
            have l_107 := kp_102 1 _ l1 (by decide) (Or.inr (q_is_cat f1 (Or.inl rfl)))
            refine go_goto (o := (-93)) (t := 25) (by decide +kernel) (by decide +kernel) ?_
            exact ih h R l_106 f0 l_107 f1 l_101 f_105
          · have h := it_f hp_97 h
            exact hk65 h R l0 f0 l2 f2
noncomputable def fj_X12_take_15 (y1 s0 : Int) (m : MM) : Option (Int × MM) := bd (fm_X12_fails s0 m) fun x_18 m_19 =>
if x_18 = 0 then
fl_X12_take_25 y1 m_19 (fun x_108 =>
gd (0 ≤ x_108 ∧ x_108 < 60) <| up m_19 102 x_108 1 fun m_124 =>
lx (m_124 103 x_108) fun x_137 =>
up m_124 103 x_108 (w32 (x_137 + 1)) fun m_143 =>
lx (m_143 68 0) fun x_156 =>
up m_143 106 x_108 x_156 fun m_158 =>
lx (m_158 68 0) fun x_171 =>
up m_158 107 x_108 x_171 fun m_173 =>
lx (m_173 101 x_108) fun x_190 =>
some (w32 ((w32 (1000 * x_108)) + x_190), m_173)) BIG 0
else
some (0, m_19)
set_option maxHeartbeats 4000000 in
theorem oj_X12_take_15 {xs : List Int32} {d : Nat} {S : QS} {L : QL} {Q : QO → QS → Prop} {m : MM} {y1 s0 : Int} {v0 : Value} {v1 : Value} {w0 : Value} {w1 : Value}  {rz : Int} {rm : MM}
  (hd : 1 ≤ d) (R : Rp S m) (l0 : q_lo L 0 = some v0) (f0 : q_is 2 v0 68) (l1 : q_lo L 1 = some v1) (f1 : q_is 0 v1 y1) (fs0 : q_is 0 w0 s0) (fs1 : q_is 2 w1 68)
  (hQ : Ext m rm → ∀ o S1, Rp S1 rm → q_out 0 o rz → Q o S1)
  (h : fj_X12_take_15 y1 s0 m = some (rz, rm)) : Go xs d qM_X12_take 15 L [w0, w1] S Q := by
  unfold fj_X12_take_15 at h
  obtain ⟨x_18, m_19, hc_17, h⟩ := bd_s h
  refine go_callV (x := 324) (mi := 186) (n := 1) (ci := 13) (as := [w0]) (rest := []) (by decide +kernel) (by decide +kernel) rfl rfl (q_sum8 _ (Nat.le_of_ble_eq_true rfl)) R fs1 (fx_k (c := 13) R (by decide +kernel)) (om_X12_fails (Nat.le_trans (by decide) hd) R fs1 fs0 hc_17) (fun _ S_22 q_25 => ?_) (fun _ _ qq => kr_x qq)
  refine kr_z (by decide) q_25 fun v_20 f_21 R_23 E_24 => ?_
  have E_28 := E_24
  refine go_if (c := .eq) (o := 5) (t := 23) (P := x_18 = 0) (by decide +kernel) (by decide +kernel) f_21 (Iff.rfl) (fun hp_29 => ?_) (fun hp_29 => ?_)
  · have h := it_t hp_29 h
    refine go_iconst (n := 0) (z := 0) (by decide +kernel) (by decide) fun v_30 f_31 => ?_
    refine go_istore_n (n := 2) (by decide +kernel) (by decide +kernel) f_31 fun L_32 l_33 kp_34 => ?_
    have l_35 := kp_34 0 _ l0 (by decide) (Or.inl (by decide))
    have l_36 := kp_34 1 _ l1 (by decide) (Or.inr (q_is_cat f1 (Or.inl rfl)))
    refine ol_X12_take_25 hd  ?_ (fun b => hQ (Ext.tr E_28 b)) BIG h R_23 l_35 f0 l_36 f1 l_33 f_31
    intro x_108 S_115 L_116 v_109 v_110
    intro h R_117 l_111 f_113 l_112 f_114
    refine go_aload_n (n := 0) (by decide +kernel) l_111 f_113 ?_
    refine go_getf (x := 116) (ci := 13) (kf := 39) (fin := 1) (t := 2) (by decide +kernel) (by decide +kernel) (by decide +kernel) R_117 f_113 (fx_k (c := 13) R_117 (by decide +kernel)) fun v_118 f_119 => ?_
    have f_120 := q_is_eq (b := 102) f_119 (fx_v R_117 (by decide +kernel)).symm
    refine go_iload_n (n := 2) (by decide +kernel) l_112 f_114 ?_
    refine go_iconst (n := 1) (z := 1) (by decide +kernel) (by decide) fun v_121 f_122 => ?_
    obtain ⟨g_123, h⟩ := gd_s h
    obtain ⟨m_124, e_125, h⟩ := up_s h
    refine go_iast (kd := 100) (by decide +kernel) rfl R_117 f_120 f_114 f_122 (fx_k (c := 100) R_117 (by decide +kernel)) (fx_x (a := 102) (ln := 60) R_117 (by decide +kernel) g_123) e_125 (fx_a R_117.2 (fx_k (c := 100) R_117 (by decide +kernel)) (And.left (fx_x (a := 102) (ln := 60) R_117 (by decide +kernel) g_123)) (by decide +kernel)) fun S_126 R_127 E_128 => ?_
    have E_130 := Ext.tr E_28 E_128
    refine go_aload_n (n := 0) (by decide +kernel) l_111 f_113 ?_
    refine go_getf (x := 119) (ci := 13) (kf := 40) (fin := 1) (t := 2) (by decide +kernel) (by decide +kernel) (by decide +kernel) R_127 f_113 (fx_k (c := 13) R_127 (by decide +kernel)) fun v_131 f_132 => ?_
    have f_133 := q_is_eq (b := 103) f_132 (fx_v R_127 (by decide +kernel)).symm
    refine go_iload_n (n := 2) (by decide +kernel) l_112 f_114 ?_
    refine go_dup2 (by decide +kernel) f_114 (Or.inl rfl) f_133 (Or.inr rfl) ?_
    obtain ⟨x_137, e_138, h⟩ := lx_s h
    refine go_iald (kd := 100) (by decide +kernel) rfl R_127 f_133 f_114 (fx_k (c := 100) R_127 (by decide +kernel)) (fx_x (a := 103) (ln := 60) R_127 (by decide +kernel) g_123) fun v_134 f_135 => ?_
    have f_136 := q_is_eq f_135 e_138
    refine go_iconst (n := 1) (z := 1) (by decide +kernel) (by decide) fun v_139 f_140 => ?_
    refine go_iadd (by decide +kernel) f_136 f_140 fun v_141 f_142 => ?_
    obtain ⟨m_143, e_144, h⟩ := up_s h
    refine go_iast (kd := 100) (by decide +kernel) rfl R_127 f_133 f_114 f_142 (fx_k (c := 100) R_127 (by decide +kernel)) (fx_x (a := 103) (ln := 60) R_127 (by decide +kernel) g_123) e_144 (fx_a R_127.2 (fx_k (c := 100) R_127 (by decide +kernel)) (And.left (fx_x (a := 103) (ln := 60) R_127 (by decide +kernel) g_123)) (by decide +kernel)) fun S_145 R_146 E_147 => ?_
    have E_149 := Ext.tr E_130 E_147
    refine go_aload_n (n := 0) (by decide +kernel) l_111 f_113 ?_
    refine go_getf (x := 128) (ci := 13) (kf := 43) (fin := 1) (t := 2) (by decide +kernel) (by decide +kernel) (by decide +kernel) R_146 f_113 (fx_k (c := 13) R_146 (by decide +kernel)) fun v_150 f_151 => ?_
    have f_152 := q_is_eq (b := 106) f_151 (fx_v R_146 (by decide +kernel)).symm
    refine go_iload_n (n := 2) (by decide +kernel) l_112 f_114 ?_
    refine go_aload_n (n := 0) (by decide +kernel) l_111 f_113 ?_
    obtain ⟨x_156, e_157, h⟩ := lx_s h
    refine go_getf (x := 357) (ci := 13) (kf := 0) (fin := 0) (t := 0) (by decide +kernel) (by decide +kernel) (by decide +kernel) R_146 f_113 (fx_k (c := 13) R_146 (by decide +kernel)) fun v_153 f_154 => ?_
    have f_155 := q_is_eq f_154 e_157
    obtain ⟨m_158, e_159, h⟩ := up_s h
    refine go_iast (kd := 100) (by decide +kernel) rfl R_146 f_152 f_114 f_155 (fx_k (c := 100) R_146 (by decide +kernel)) (fx_x (a := 106) (ln := 60) R_146 (by decide +kernel) g_123) e_159 (fx_a R_146.2 (fx_k (c := 100) R_146 (by decide +kernel)) (And.left (fx_x (a := 106) (ln := 60) R_146 (by decide +kernel) g_123)) (by decide +kernel)) fun S_160 R_161 E_162 => ?_
    have E_164 := Ext.tr E_149 E_162
    refine go_aload_n (n := 0) (by decide +kernel) l_111 f_113 ?_
    refine go_getf (x := 131) (ci := 13) (kf := 44) (fin := 1) (t := 2) (by decide +kernel) (by decide +kernel) (by decide +kernel) R_161 f_113 (fx_k (c := 13) R_161 (by decide +kernel)) fun v_165 f_166 => ?_
    have f_167 := q_is_eq (b := 107) f_166 (fx_v R_161 (by decide +kernel)).symm
    refine go_iload_n (n := 2) (by decide +kernel) l_112 f_114 ?_
    refine go_aload_n (n := 0) (by decide +kernel) l_111 f_113 ?_
    obtain ⟨x_171, e_172, h⟩ := lx_s h
    refine go_getf (x := 357) (ci := 13) (kf := 0) (fin := 0) (t := 0) (by decide +kernel) (by decide +kernel) (by decide +kernel) R_161 f_113 (fx_k (c := 13) R_161 (by decide +kernel)) fun v_168 f_169 => ?_
    have f_170 := q_is_eq f_169 e_172
    obtain ⟨m_173, e_174, h⟩ := up_s h
    refine go_iast (kd := 100) (by decide +kernel) rfl R_161 f_167 f_114 f_170 (fx_k (c := 100) R_161 (by decide +kernel)) (fx_x (a := 107) (ln := 60) R_161 (by decide +kernel) g_123) e_174 (fx_a R_161.2 (fx_k (c := 100) R_161 (by decide +kernel)) (And.left (fx_x (a := 107) (ln := 60) R_161 (by decide +kernel) g_123)) (by decide +kernel)) fun S_175 R_176 E_177 => ?_
    have E_179 := Ext.tr E_164 E_177
    refine go_sipush (n := 1000) (z := 1000) (by decide +kernel) (by decide) fun v_180 f_181 => ?_
    refine go_iload_n (n := 2) (by decide +kernel) l_112 f_114 ?_
    refine go_imul (by decide +kernel) f_181 f_114 fun v_182 f_183 => ?_
    refine go_aload_n (n := 0) (by decide +kernel) l_111 f_113 ?_
    refine go_getf (x := 113) (ci := 13) (kf := 38) (fin := 1) (t := 2) (by decide +kernel) (by decide +kernel) (by decide +kernel) R_176 f_113 (fx_k (c := 13) R_176 (by decide +kernel)) fun v_184 f_185 => ?_
    have f_186 := q_is_eq (b := 101) f_185 (fx_v R_176 (by decide +kernel)).symm
    refine go_iload_n (n := 2) (by decide +kernel) l_112 f_114 ?_
    obtain ⟨x_190, e_191, h⟩ := lx_s h
    refine go_iald (kd := 100) (by decide +kernel) rfl R_176 f_186 f_114 (fx_k (c := 100) R_176 (by decide +kernel)) (fx_x (a := 101) (ln := 60) R_176 (by decide +kernel) g_123) fun v_187 f_188 => ?_
    have f_189 := q_is_eq f_188 e_191
    refine go_iadd (by decide +kernel) f_183 f_189 fun v_192 f_193 => ?_
    cases h
    exact go_iret (by decide +kernel) rfl (Or.inl rfl) f_193 (hQ E_179 _ _ R_176 (q_out_v (by decide) f_193))
  · have h := it_f hp_29 h
    refine go_iconst (n := 0) (z := 0) (by decide +kernel) (by decide) fun v_194 f_195 => ?_
    cases h
    exact go_iret (by decide +kernel) rfl (Or.inl rfl) f_195 (hQ E_28 _ _ R_23 (q_out_v (by decide) f_195))
noncomputable def fm_X12_take (p1 : Int) (m0 : MM) : Option (Int × MM) := bp (fm_X12_isIn p1 0 3 m0) fun x_6 =>
if x_6 = 0 then
fj_X12_take_15 p1 1 m0
else
fj_X12_take_15 p1 0 m0
set_option maxHeartbeats 4000000 in
theorem om_X12_take {xs : List Int32} {d : Nat} {S : QS} {m0 : MM} {p1 : Int} {v0 : Value} {v1 : Value} {rz : Int} {rm : MM}
  (hd : 2 ≤ d) (R : Rp S m0) (f0 : q_is 2 v0 68) (f1 : q_is 0 v1 p1)
  (h : fm_X12_take p1 m0 = some (rz, rm)) : Mt xs d 284 [v0, v1] S (Cr 0 m0 rm rz) := by
  obtain ⟨d, rfl⟩ : ∃ e, d = e + 1 := ⟨d - 1, by omega⟩
  have hd : 1 ≤ d := Nat.le_of_succ_le_succ hd
  refine Mt.of (M := qM_X12_take) rfl (by rw [sl_1 (q_is_cat f0 (Or.inr rfl)), sl_1 (q_is_cat f1 (Or.inl rfl)), sl_0]; decide) ?_
  rw [la_1 (q_is_cat f0 (Or.inr rfl)), la_1 (q_is_cat f1 (Or.inl rfl)), la_0]
  obtain ⟨L, hL⟩ : ∃ L : QL, L = [(0, v0), (0 + 1, v1)] := ⟨_, rfl⟩
  rw [← hL]
  have l0 : q_lo L 0 = some v0 := by rw [hL]; rfl
  have l1 : q_lo L 1 = some v1 := by rw [hL]; rfl
  have hQ : Ext m0 rm → ∀ o S1, Rp S1 rm → q_out 0 o rz → (Cr 0 m0 rm rz) o S1 := fun a o S1 b e => ⟨b, a, e⟩
  unfold fm_X12_take at h
  refine go_aload_n (n := 0) (by decide +kernel) l0 f0 ?_
  refine go_iload_n (n := 1) (by decide +kernel) l1 f1 ?_
  refine go_iconst (n := 0) (z := 0) (by decide +kernel) (by decide) fun v_1 f_2 => ?_
  refine go_iconst (n := 3) (z := 3) (by decide +kernel) (by decide) fun v_3 f_4 => ?_
  obtain ⟨x_6, hc_5, h⟩ := bp_s h
  refine go_callS (x := 306) (mi := 188) (n := 3) (b := 0) (as := [v1, v_1, v_3]) (rest := [v0]) (by decide +kernel) (by decide +kernel) rfl rfl (q_sum8 _ (Nat.le_of_ble_eq_true rfl)) (om_X12_isIn (Nat.le_trans (by decide) hd) R f1 f_2 f_4 hc_5) (fun _ S_10 q_13 => ?_) (fun _ _ qq => kr_x qq)
  refine kr_z (by decide) q_13 fun v_8 f_9 R_11 E_12 => ?_
  refine go_if (c := .eq) (o := 7) (t := 14) (P := x_6 = 0) (by decide +kernel) (by decide +kernel) f_9 (Iff.rfl) (fun hp_14 => ?_) (fun hp_14 => ?_)
  · have h := it_t hp_14 h
    refine go_iconst (n := 1) (z := 1) (by decide +kernel) (by decide) fun v_15 f_16 => ?_
    exact oj_X12_take_15 hd R_11 l0 f0 l1 f1 f_16 f0 hQ h
  · have h := it_f hp_14 h
    refine go_iconst (n := 0) (z := 0) (by decide +kernel) (by decide) fun v_196 f_197 => ?_
    refine go_goto (o := 4) (t := 15) (by decide +kernel) (by decide +kernel) ?_
    exact oj_X12_take_15 hd R_11 l0 f0 l1 f1 f_197 f0 hQ h
noncomputable def fm_X12_isActivity (p1 : Int) (m0 : MM) : Option Int := lx (m0 68 34) fun x_6 =>
bp (fm_X12_isIn p1 0 (w32 (x_6 - 1)) m0) fun x_13 =>
gd (x_13 = 0 ∨ x_13 = 1) <| some x_13
set_option maxHeartbeats 4000000 in
theorem om_X12_isActivity {xs : List Int32} {d : Nat} {S : QS} {m0 : MM} {p1 : Int} {v0 : Value} {v1 : Value} {rz : Int}
  (hd : 2 ≤ d) (R : Rp S m0) (f0 : q_is 2 v0 68) (f1 : q_is 0 v1 p1)
  (h : fm_X12_isActivity p1 m0 = some rz) : Mt xs d 285 [v0, v1] S (Cr 0 m0 m0 rz) := by
  obtain ⟨d, rfl⟩ : ∃ e, d = e + 1 := ⟨d - 1, by omega⟩
  have hd : 1 ≤ d := Nat.le_of_succ_le_succ hd
  refine Mt.of (M := qM_X12_isActivity) rfl (by rw [sl_1 (q_is_cat f0 (Or.inr rfl)), sl_1 (q_is_cat f1 (Or.inl rfl)), sl_0]; decide) ?_
  rw [la_1 (q_is_cat f0 (Or.inr rfl)), la_1 (q_is_cat f1 (Or.inl rfl)), la_0]
  obtain ⟨L, hL⟩ : ∃ L : QL, L = [(0, v0), (0 + 1, v1)] := ⟨_, rfl⟩
  rw [← hL]
  have l0 : q_lo L 0 = some v0 := by rw [hL]; rfl
  have l1 : q_lo L 1 = some v1 := by rw [hL]; rfl
  have hQ : ∀ o S1, Rp S1 m0 → q_out 0 o rz → (Cr 0 m0 m0 rz) o S1 := fun o S1 a b => ⟨a, Ext.rf _, b⟩
  unfold fm_X12_isActivity at h
  refine go_iload_n (n := 1) (by decide +kernel) l1 f1 ?_
  refine go_iconst (n := 0) (z := 0) (by decide +kernel) (by decide) fun v_1 f_2 => ?_
  refine go_aload_n (n := 0) (by decide +kernel) l0 f0 ?_
  obtain ⟨x_6, e_7, h⟩ := lx_s h
  refine go_getf (x := 549) (ci := 13) (kf := 34) (fin := 0) (t := 0) (by decide +kernel) (by decide +kernel) (by decide +kernel) R f0 (fx_k (c := 13) R (by decide +kernel)) fun v_3 f_4 => ?_
  have f_5 := q_is_eq f_4 e_7
  refine go_iconst (n := 1) (z := 1) (by decide +kernel) (by decide) fun v_8 f_9 => ?_
  refine go_isub (by decide +kernel) f_5 f_9 fun v_10 f_11 => ?_
  obtain ⟨x_13, hc_12, h⟩ := bp_s h
  refine go_callS (x := 306) (mi := 188) (n := 3) (b := 0) (as := [v1, v_1, v_10]) (rest := []) (by decide +kernel) (by decide +kernel) rfl rfl (q_sum8 _ (Nat.le_of_ble_eq_true rfl)) (om_X12_isIn (Nat.le_trans (by decide) hd) R f1 f_2 f_11 hc_12) (fun _ S_17 q_20 => ?_) (fun _ _ qq => kr_x qq)
  refine kr_z (by decide) q_20 fun v_15 f_16 R_18 E_19 => ?_
  obtain ⟨g_21, h⟩ := gd_s h
  cases h
  exact go_iret (by decide +kernel) rfl (Or.inr ⟨rfl, g_21⟩) f_16 (hQ _ _ R_18 (q_out_v (by decide) f_16))
noncomputable def fj_X12_answer_27 (y1 y2 s0 : Int) (m : MM) : Option (Int × MM) := bd (fm_X12_fails s0 m) fun x_30 m_31 =>
if x_30 = 0 then
gd (0 ≤ y1 ∧ y1 < 60) <| lx (m_31 102 y1) fun x_51 =>
if x_51 = 1 then
up m_31 102 y1 2 fun m_61 =>
lx (m_61 98 y1) fun x_74 =>
lx (m_61 99 y1) fun x_84 =>
bd (fm_X12_puts x_74 1 x_84 y2 m_61) fun x_87 m_88 =>
some (1, m_88)
else
some (0, m_31)
else
some (0, m_31)
set_option maxHeartbeats 4000000 in
theorem oj_X12_answer_27 {xs : List Int32} {d : Nat} {S : QS} {L : QL} {Q : QO → QS → Prop} {m : MM} {y1 y2 s0 : Int} {v0 : Value} {v1 : Value} {v2 : Value} {w0 : Value} {w1 : Value}  {rz : Int} {rm : MM}
  (hd : 3 ≤ d) (R : Rp S m) (l0 : q_lo L 0 = some v0) (f0 : q_is 2 v0 68) (l1 : q_lo L 1 = some v1) (f1 : q_is 0 v1 y1) (l2 : q_lo L 2 = some v2) (f2 : q_is 0 v2 y2) (fs0 : q_is 0 w0 s0) (fs1 : q_is 2 w1 68)
  (hQ : Ext m rm → ∀ o S1, Rp S1 rm → q_out 0 o rz → Q o S1)
  (h : fj_X12_answer_27 y1 y2 s0 m = some (rz, rm)) : Go xs d qM_X12_answer 27 L [w0, w1] S Q := by
  unfold fj_X12_answer_27 at h
  obtain ⟨x_30, m_31, hc_29, h⟩ := bd_s h
  refine go_callV (x := 324) (mi := 186) (n := 1) (ci := 13) (as := [w0]) (rest := []) (by decide +kernel) (by decide +kernel) rfl rfl (q_sum8 _ (Nat.le_of_ble_eq_true rfl)) R fs1 (fx_k (c := 13) R (by decide +kernel)) (om_X12_fails (Nat.le_trans (by decide) hd) R fs1 fs0 hc_29) (fun _ S_34 q_37 => ?_) (fun _ _ qq => kr_x qq)
  refine kr_z (by decide) q_37 fun v_32 f_33 R_35 E_36 => ?_
  have E_40 := E_36
  refine go_if (c := .ne) (o := 13) (t := 43) (P := ¬ (x_30 = 0)) (by decide +kernel) (by decide +kernel) f_33 (Iff.rfl) (fun hp_41 => ?_) (fun hp_41 => ?_)
  · have h := it_f hp_41 h
    refine go_iconst (n := 0) (z := 0) (by decide +kernel) (by decide) fun v_42 f_43 => ?_
    cases h
    exact go_iret (by decide +kernel) rfl (Or.inr ⟨rfl, by decide⟩) f_43 (hQ E_40 _ _ R_35 (q_out_v (by decide) f_43))
  · have h := it_n hp_41 h
    refine go_aload_n (n := 0) (by decide +kernel) l0 f0 ?_
    refine go_getf (x := 116) (ci := 13) (kf := 39) (fin := 1) (t := 2) (by decide +kernel) (by decide +kernel) (by decide +kernel) R_35 f0 (fx_k (c := 13) R_35 (by decide +kernel)) fun v_44 f_45 => ?_
    have f_46 := q_is_eq (b := 102) f_45 (fx_v R_35 (by decide +kernel)).symm
    refine go_iload_n (n := 1) (by decide +kernel) l1 f1 ?_
    obtain ⟨g_49, h⟩ := gd_s h
    obtain ⟨x_51, e_52, h⟩ := lx_s h
    refine go_iald (kd := 100) (by decide +kernel) rfl R_35 f_46 f1 (fx_k (c := 100) R_35 (by decide +kernel)) (fx_x (a := 102) (ln := 60) R_35 (by decide +kernel) g_49) fun v_47 f_48 => ?_
    have f_50 := q_is_eq f_48 e_52
    refine go_iconst (n := 1) (z := 1) (by decide +kernel) (by decide) fun v_53 f_54 => ?_
    refine go_icmp (c := .eq) (o := 5) (t := 45) (P := x_51 = 1) (by decide +kernel) (by decide +kernel) f_50 f_54 (Iff.rfl) (fun hp_55 => ?_) (fun hp_55 => ?_)
    · have h := it_t hp_55 h
      refine go_aload_n (n := 0) (by decide +kernel) l0 f0 ?_
      refine go_getf (x := 116) (ci := 13) (kf := 39) (fin := 1) (t := 2) (by decide +kernel) (by decide +kernel) (by decide +kernel) R_35 f0 (fx_k (c := 13) R_35 (by decide +kernel)) fun v_56 f_57 => ?_
      have f_58 := q_is_eq (b := 102) f_57 (fx_v R_35 (by decide +kernel)).symm
      refine go_iload_n (n := 1) (by decide +kernel) l1 f1 ?_
      refine go_iconst (n := 2) (z := 2) (by decide +kernel) (by decide) fun v_59 f_60 => ?_
      obtain ⟨m_61, e_62, h⟩ := up_s h
      refine go_iast (kd := 100) (by decide +kernel) rfl R_35 f_58 f1 f_60 (fx_k (c := 100) R_35 (by decide +kernel)) (fx_x (a := 102) (ln := 60) R_35 (by decide +kernel) g_49) e_62 (fx_a R_35.2 (fx_k (c := 100) R_35 (by decide +kernel)) (And.left (fx_x (a := 102) (ln := 60) R_35 (by decide +kernel) g_49)) (by decide +kernel)) fun S_63 R_64 E_65 => ?_
      have E_67 := Ext.tr E_40 E_65
      refine go_aload_n (n := 0) (by decide +kernel) l0 f0 ?_
      refine go_aload_n (n := 0) (by decide +kernel) l0 f0 ?_
      refine go_getf (x := 104) (ci := 13) (kf := 35) (fin := 1) (t := 2) (by decide +kernel) (by decide +kernel) (by decide +kernel) R_64 f0 (fx_k (c := 13) R_64 (by decide +kernel)) fun v_68 f_69 => ?_
      have f_70 := q_is_eq (b := 98) f_69 (fx_v R_64 (by decide +kernel)).symm
      refine go_iload_n (n := 1) (by decide +kernel) l1 f1 ?_
      obtain ⟨x_74, e_75, h⟩ := lx_s h
      refine go_iald (kd := 100) (by decide +kernel) rfl R_64 f_70 f1 (fx_k (c := 100) R_64 (by decide +kernel)) (fx_x (a := 98) (ln := 60) R_64 (by decide +kernel) g_49) fun v_71 f_72 => ?_
      have f_73 := q_is_eq f_72 e_75
      refine go_iconst (n := 1) (z := 1) (by decide +kernel) (by decide) fun v_76 f_77 => ?_
      refine go_aload_n (n := 0) (by decide +kernel) l0 f0 ?_
      refine go_getf (x := 107) (ci := 13) (kf := 36) (fin := 1) (t := 2) (by decide +kernel) (by decide +kernel) (by decide +kernel) R_64 f0 (fx_k (c := 13) R_64 (by decide +kernel)) fun v_78 f_79 => ?_
      have f_80 := q_is_eq (b := 99) f_79 (fx_v R_64 (by decide +kernel)).symm
      refine go_iload_n (n := 1) (by decide +kernel) l1 f1 ?_
      obtain ⟨x_84, e_85, h⟩ := lx_s h
      refine go_iald (kd := 100) (by decide +kernel) rfl R_64 f_80 f1 (fx_k (c := 100) R_64 (by decide +kernel)) (fx_x (a := 99) (ln := 60) R_64 (by decide +kernel) g_49) fun v_81 f_82 => ?_
      have f_83 := q_is_eq f_82 e_85
      refine go_iload_n (n := 2) (by decide +kernel) l2 f2 ?_
      obtain ⟨x_87, m_88, hc_86, h⟩ := bd_s h
      refine go_callV (x := 360) (mi := 210) (n := 4) (ci := 13) (as := [v_71, v_76, v_81, v2]) (rest := []) (by decide +kernel) (by decide +kernel) rfl rfl (q_sum8 _ (Nat.le_of_ble_eq_true rfl)) R_64 f0 (fx_k (c := 13) R_64 (by decide +kernel)) (om_X12_puts (Nat.le_trans (by decide) hd) R_64 f0 f_73 f_77 f_83 f2 hc_86) (fun _ S_91 q_94 => ?_) (fun _ _ qq => kr_x qq)
      refine kr_z (by decide) q_94 fun v_89 f_90 R_92 E_93 => ?_
      have E_97 := Ext.tr E_67 E_93
      refine go_pop (by decide +kernel) f_90 (Or.inl rfl) ?_
      refine go_iconst (n := 1) (z := 1) (by decide +kernel) (by decide) fun v_98 f_99 => ?_
      cases h
      exact go_iret (by decide +kernel) rfl (Or.inr ⟨rfl, by decide⟩) f_99 (hQ E_97 _ _ R_92 (q_out_v (by decide) f_99))
    · have h := it_f hp_55 h
      refine go_iconst (n := 0) (z := 0) (by decide +kernel) (by decide) fun v_100 f_101 => ?_
      cases h
      exact go_iret (by decide +kernel) rfl (Or.inr ⟨rfl, by decide⟩) f_101 (hQ E_40 _ _ R_35 (q_out_v (by decide) f_101))
noncomputable def fm_X12_answer (p1 p2 : Int) (m0 : MM) : Option (Int × MM) := bp (fm_X12_isActivity p1 m0) fun x_2 =>
if x_2 = 0 then
fj_X12_answer_27 p1 p2 1 m0
else
bp (fm_X12_isValue p2 m0) fun x_18 =>
if x_18 = 0 then
fj_X12_answer_27 p1 p2 2 m0
else
fj_X12_answer_27 p1 p2 0 m0
set_option maxHeartbeats 4000000 in
theorem om_X12_answer {xs : List Int32} {d : Nat} {S : QS} {m0 : MM} {p1 p2 : Int} {v0 : Value} {v1 : Value} {v2 : Value} {rz : Int} {rm : MM}
  (hd : 4 ≤ d) (R : Rp S m0) (f0 : q_is 2 v0 68) (f1 : q_is 0 v1 p1) (f2 : q_is 0 v2 p2)
  (h : fm_X12_answer p1 p2 m0 = some (rz, rm)) : Mt xs d 286 [v0, v1, v2] S (Cr 0 m0 rm rz) := by
  obtain ⟨d, rfl⟩ : ∃ e, d = e + 1 := ⟨d - 1, by omega⟩
  have hd : 3 ≤ d := Nat.le_of_succ_le_succ hd
  refine Mt.of (M := qM_X12_answer) rfl (by rw [sl_1 (q_is_cat f0 (Or.inr rfl)), sl_1 (q_is_cat f1 (Or.inl rfl)), sl_1 (q_is_cat f2 (Or.inl rfl)), sl_0]; decide) ?_
  rw [la_1 (q_is_cat f0 (Or.inr rfl)), la_1 (q_is_cat f1 (Or.inl rfl)), la_1 (q_is_cat f2 (Or.inl rfl)), la_0]
  obtain ⟨L, hL⟩ : ∃ L : QL, L = [(0, v0), (0 + 1, v1), (0 + 1 + 1, v2)] := ⟨_, rfl⟩
  rw [← hL]
  have l0 : q_lo L 0 = some v0 := by rw [hL]; rfl
  have l1 : q_lo L 1 = some v1 := by rw [hL]; rfl
  have l2 : q_lo L 2 = some v2 := by rw [hL]; rfl
  have hQ : Ext m0 rm → ∀ o S1, Rp S1 rm → q_out 0 o rz → (Cr 0 m0 rm rz) o S1 := fun a o S1 b e => ⟨b, a, e⟩
  unfold fm_X12_answer at h
  refine go_aload_n (n := 0) (by decide +kernel) l0 f0 ?_
  refine go_iload_n (n := 1) (by decide +kernel) l1 f1 ?_
  obtain ⟨x_2, hc_1, h⟩ := bp_s h
  refine go_callV (x := 642) (mi := 285) (n := 1) (ci := 13) (as := [v1]) (rest := []) (by decide +kernel) (by decide +kernel) rfl rfl (q_sum8 _ (Nat.le_of_ble_eq_true rfl)) R f0 (fx_k (c := 13) R (by decide +kernel)) (om_X12_isActivity (Nat.le_trans (by decide) hd) R f0 f1 hc_1) (fun _ S_6 q_9 => ?_) (fun _ _ qq => kr_x qq)
  refine kr_z (by decide) q_9 fun v_4 f_5 R_7 E_8 => ?_
  refine go_istore_n (n := 3) (by decide +kernel) (by decide +kernel) f_5 fun L_10 l_11 kp_12 => ?_
  have l_13 := kp_12 0 _ l0 (by decide) (Or.inl (by decide))
  have l_14 := kp_12 1 _ l1 (by decide) (Or.inl (by decide))
  have l_15 := kp_12 2 _ l2 (by decide) (Or.inr (q_is_cat f2 (Or.inl rfl)))
  refine go_aload_n (n := 0) (by decide +kernel) l_13 f0 ?_
  refine go_iload_n (n := 3) (by decide +kernel) l_11 f_5 ?_
  refine go_if (c := .ne) (o := 7) (t := 15) (P := ¬ (x_2 = 0)) (by decide +kernel) (by decide +kernel) f_5 (Iff.rfl) (fun hp_16 => ?_) (fun hp_16 => ?_)
  · have h := it_f hp_16 h
    refine go_iload_n (n := 2) (by decide +kernel) l_15 f2 ?_
    obtain ⟨x_18, hc_17, h⟩ := bp_s h
    refine go_callS (x := 573) (mi := 194) (n := 1) (b := 0) (as := [v2]) (rest := [v0]) (by decide +kernel) (by decide +kernel) rfl rfl (q_sum8 _ (Nat.le_of_ble_eq_true rfl)) (om_X12_isValue (Nat.le_trans (by decide) hd) R_7 f2 hc_17) (fun _ S_22 q_25 => ?_) (fun _ _ qq => kr_x qq)
    refine kr_z (by decide) q_25 fun v_20 f_21 R_23 E_24 => ?_
    refine go_if (c := .eq) (o := 7) (t := 26) (P := x_18 = 0) (by decide +kernel) (by decide +kernel) f_21 (Iff.rfl) (fun hp_26 => ?_) (fun hp_26 => ?_)
    · have h := it_t hp_26 h
      refine go_iconst (n := 2) (z := 2) (by decide +kernel) (by decide) fun v_27 f_28 => ?_
      exact oj_X12_answer_27 hd R_23 l_13 f0 l_14 f1 l_15 f2 f_28 f0 hQ h
    · have h := it_f hp_26 h
      refine go_iconst (n := 0) (z := 0) (by decide +kernel) (by decide) fun v_102 f_103 => ?_
      refine go_goto (o := 4) (t := 27) (by decide +kernel) (by decide +kernel) ?_
      exact oj_X12_answer_27 hd R_23 l_13 f0 l_14 f1 l_15 f2 f_103 f0 hQ h
  · have h := it_n hp_16 h
    refine go_iconst (n := 1) (z := 1) (by decide +kernel) (by decide) fun v_104 f_105 => ?_
    refine go_goto (o := 15) (t := 27) (by decide +kernel) (by decide +kernel) ?_
    exact oj_X12_answer_27 hd R_7 l_13 f0 l_14 f1 l_15 f2 f_105 f0 hQ h
noncomputable def fj_X12_misses_56 (y1 : Int) (m : MM) : Option (Int × MM) := gd (0 ≤ y1 ∧ y1 < 60) <| up m 102 y1 2 fun m_8 =>
lx (m_8 98 y1) fun x_21 =>
lx (m_8 99 y1) fun x_31 =>
bd (fm_X12_puts x_21 2 x_31 0 m_8) fun x_36 m_37 =>
some (0, m_37)
set_option maxHeartbeats 4000000 in
theorem oj_X12_misses_56 {xs : List Int32} {d : Nat} {S : QS} {L : QL} {Q : QO → QS → Prop} {m : MM} {y1 : Int} {v0 : Value} {v1 : Value}  {rz : Int} {rm : MM}
  (hd : 3 ≤ d) (R : Rp S m) (l0 : q_lo L 0 = some v0) (f0 : q_is 2 v0 68) (l1 : q_lo L 1 = some v1) (f1 : q_is 0 v1 y1)
  (hQ : Ext m rm → ∀ o S1, Rp S1 rm → q_out 9 o rz → Q o S1)
  (h : fj_X12_misses_56 y1 m = some (rz, rm)) : Go xs d qM_X12_misses 56 L [] S Q := by
  unfold fj_X12_misses_56 at h
  refine go_aload_n (n := 0) (by decide +kernel) l0 f0 ?_
  refine go_getf (x := 116) (ci := 13) (kf := 39) (fin := 1) (t := 2) (by decide +kernel) (by decide +kernel) (by decide +kernel) R f0 (fx_k (c := 13) R (by decide +kernel)) fun v_2 f_3 => ?_
  have f_4 := q_is_eq (b := 102) f_3 (fx_v R (by decide +kernel)).symm
  refine go_iload_n (n := 1) (by decide +kernel) l1 f1 ?_
  refine go_iconst (n := 2) (z := 2) (by decide +kernel) (by decide) fun v_5 f_6 => ?_
  obtain ⟨g_7, h⟩ := gd_s h
  obtain ⟨m_8, e_9, h⟩ := up_s h
  refine go_iast (kd := 100) (by decide +kernel) rfl R f_4 f1 f_6 (fx_k (c := 100) R (by decide +kernel)) (fx_x (a := 102) (ln := 60) R (by decide +kernel) g_7) e_9 (fx_a R.2 (fx_k (c := 100) R (by decide +kernel)) (And.left (fx_x (a := 102) (ln := 60) R (by decide +kernel) g_7)) (by decide +kernel)) fun S_10 R_11 E_12 => ?_
  have E_14 := E_12
  refine go_aload_n (n := 0) (by decide +kernel) l0 f0 ?_
  refine go_aload_n (n := 0) (by decide +kernel) l0 f0 ?_
  refine go_getf (x := 104) (ci := 13) (kf := 35) (fin := 1) (t := 2) (by decide +kernel) (by decide +kernel) (by decide +kernel) R_11 f0 (fx_k (c := 13) R_11 (by decide +kernel)) fun v_15 f_16 => ?_
  have f_17 := q_is_eq (b := 98) f_16 (fx_v R_11 (by decide +kernel)).symm
  refine go_iload_n (n := 1) (by decide +kernel) l1 f1 ?_
  obtain ⟨x_21, e_22, h⟩ := lx_s h
  refine go_iald (kd := 100) (by decide +kernel) rfl R_11 f_17 f1 (fx_k (c := 100) R_11 (by decide +kernel)) (fx_x (a := 98) (ln := 60) R_11 (by decide +kernel) g_7) fun v_18 f_19 => ?_
  have f_20 := q_is_eq f_19 e_22
  refine go_iconst (n := 2) (z := 2) (by decide +kernel) (by decide) fun v_23 f_24 => ?_
  refine go_aload_n (n := 0) (by decide +kernel) l0 f0 ?_
  refine go_getf (x := 107) (ci := 13) (kf := 36) (fin := 1) (t := 2) (by decide +kernel) (by decide +kernel) (by decide +kernel) R_11 f0 (fx_k (c := 13) R_11 (by decide +kernel)) fun v_25 f_26 => ?_
  have f_27 := q_is_eq (b := 99) f_26 (fx_v R_11 (by decide +kernel)).symm
  refine go_iload_n (n := 1) (by decide +kernel) l1 f1 ?_
  obtain ⟨x_31, e_32, h⟩ := lx_s h
  refine go_iald (kd := 100) (by decide +kernel) rfl R_11 f_27 f1 (fx_k (c := 100) R_11 (by decide +kernel)) (fx_x (a := 99) (ln := 60) R_11 (by decide +kernel) g_7) fun v_28 f_29 => ?_
  have f_30 := q_is_eq f_29 e_32
  refine go_iconst (n := 0) (z := 0) (by decide +kernel) (by decide) fun v_33 f_34 => ?_
  obtain ⟨x_36, m_37, hc_35, h⟩ := bd_s h
  refine go_callV (x := 360) (mi := 210) (n := 4) (ci := 13) (as := [v_18, v_23, v_28, v_33]) (rest := []) (by decide +kernel) (by decide +kernel) rfl rfl (q_sum8 _ (Nat.le_of_ble_eq_true rfl)) R_11 f0 (fx_k (c := 13) R_11 (by decide +kernel)) (om_X12_puts (Nat.le_trans (by decide) hd) R_11 f0 f_20 f_24 f_30 f_34 hc_35) (fun _ S_40 q_43 => ?_) (fun _ _ qq => kr_x qq)
  refine kr_z (by decide) q_43 fun v_38 f_39 R_41 E_42 => ?_
  have E_46 := Ext.tr E_14 E_42
  refine go_pop (by decide +kernel) f_39 (Or.inl rfl) ?_
  cases h
  exact go_vret (by decide +kernel) rfl (hQ E_46 _ _ R_41 q_out_n)
noncomputable def fm_X12_misses (p1 p2 : Int) (m0 : MM) : Option (Int × MM) := if p2 = 0 then
gd (0 ≤ p1 ∧ p1 < 60) <| lx (m0 103 p1) fun x_54 =>
lx (m0 100 p1) fun x_65 =>
gd (0 ≤ x_65 ∧ x_65 < 4) <| lx (m0 74 x_65) fun x_71 =>
if x_54 < x_71 then
up m0 102 p1 0 fun m_79 =>
lx (m_79 68 0) fun x_92 =>
lx (m_79 100 p1) fun x_103 =>
gd (0 ≤ x_103 ∧ x_103 < 4) <| lx (m_79 75 x_103) fun x_109 =>
up m_79 105 p1 (w32 (x_92 + x_109)) fun m_113 =>
some (0, m_113)
else
fj_X12_misses_56 p1 m0
else
fj_X12_misses_56 p1 m0
set_option maxHeartbeats 4000000 in
theorem om_X12_misses {xs : List Int32} {d : Nat} {S : QS} {m0 : MM} {p1 p2 : Int} {v0 : Value} {v1 : Value} {v2 : Value} {rz : Int} {rm : MM}
  (hd : 4 ≤ d) (R : Rp S m0) (f0 : q_is 2 v0 68) (f1 : q_is 0 v1 p1) (f2 : q_is 0 v2 p2)
  (h : fm_X12_misses p1 p2 m0 = some (rz, rm)) : Mt xs d 287 [v0, v1, v2] S (Cr 9 m0 rm rz) := by
  obtain ⟨d, rfl⟩ : ∃ e, d = e + 1 := ⟨d - 1, by omega⟩
  have hd : 3 ≤ d := Nat.le_of_succ_le_succ hd
  refine Mt.of (M := qM_X12_misses) rfl (by rw [sl_1 (q_is_cat f0 (Or.inr rfl)), sl_1 (q_is_cat f1 (Or.inl rfl)), sl_1 (q_is_cat f2 (Or.inl rfl)), sl_0]; decide) ?_
  rw [la_1 (q_is_cat f0 (Or.inr rfl)), la_1 (q_is_cat f1 (Or.inl rfl)), la_1 (q_is_cat f2 (Or.inl rfl)), la_0]
  obtain ⟨L, hL⟩ : ∃ L : QL, L = [(0, v0), (0 + 1, v1), (0 + 1 + 1, v2)] := ⟨_, rfl⟩
  rw [← hL]
  have l0 : q_lo L 0 = some v0 := by rw [hL]; rfl
  have l1 : q_lo L 1 = some v1 := by rw [hL]; rfl
  have l2 : q_lo L 2 = some v2 := by rw [hL]; rfl
  have hQ : Ext m0 rm → ∀ o S1, Rp S1 rm → q_out 9 o rz → (Cr 9 m0 rm rz) o S1 := fun a o S1 b e => ⟨b, a, e⟩
  unfold fm_X12_misses at h
  refine go_iload_n (n := 2) (by decide +kernel) l2 f2 ?_
  refine go_if (c := .ne) (o := 55) (t := 56) (P := ¬ (p2 = 0)) (by decide +kernel) (by decide +kernel) f2 (Iff.rfl) (fun hp_1 => ?_) (fun hp_1 => ?_)
  · have h := it_f hp_1 h
    exact oj_X12_misses_56 hd R l0 f0 l1 f1 hQ h
  · have h := it_n hp_1 h
    refine go_aload_n (n := 0) (by decide +kernel) l0 f0 ?_
    refine go_getf (x := 119) (ci := 13) (kf := 40) (fin := 1) (t := 2) (by decide +kernel) (by decide +kernel) (by decide +kernel) R f0 (fx_k (c := 13) R (by decide +kernel)) fun v_47 f_48 => ?_
    have f_49 := q_is_eq (b := 103) f_48 (fx_v R (by decide +kernel)).symm
    refine go_iload_n (n := 1) (by decide +kernel) l1 f1 ?_
    obtain ⟨g_52, h⟩ := gd_s h
    obtain ⟨x_54, e_55, h⟩ := lx_s h
    refine go_iald (kd := 100) (by decide +kernel) rfl R f_49 f1 (fx_k (c := 100) R (by decide +kernel)) (fx_x (a := 103) (ln := 60) R (by decide +kernel) g_52) fun v_50 f_51 => ?_
    have f_53 := q_is_eq f_51 e_55
    refine go_aload_n (n := 0) (by decide +kernel) l0 f0 ?_
    refine go_getf (x := 25) (ci := 13) (kf := 6) (fin := 1) (t := 2) (by decide +kernel) (by decide +kernel) (by decide +kernel) R f0 (fx_k (c := 13) R (by decide +kernel)) fun v_56 f_57 => ?_
    have f_58 := q_is_eq (b := 74) f_57 (fx_v R (by decide +kernel)).symm
    refine go_aload_n (n := 0) (by decide +kernel) l0 f0 ?_
    refine go_getf (x := 110) (ci := 13) (kf := 37) (fin := 1) (t := 2) (by decide +kernel) (by decide +kernel) (by decide +kernel) R f0 (fx_k (c := 13) R (by decide +kernel)) fun v_59 f_60 => ?_
    have f_61 := q_is_eq (b := 100) f_60 (fx_v R (by decide +kernel)).symm
    refine go_iload_n (n := 1) (by decide +kernel) l1 f1 ?_
    obtain ⟨x_65, e_66, h⟩ := lx_s h
    refine go_iald (kd := 100) (by decide +kernel) rfl R f_61 f1 (fx_k (c := 100) R (by decide +kernel)) (fx_x (a := 100) (ln := 60) R (by decide +kernel) g_52) fun v_62 f_63 => ?_
    have f_64 := q_is_eq f_63 e_66
    obtain ⟨g_69, h⟩ := gd_s h
    obtain ⟨x_71, e_72, h⟩ := lx_s h
    refine go_iald (kd := 100) (by decide +kernel) rfl R f_58 f_64 (fx_k (c := 100) R (by decide +kernel)) (fx_x (a := 74) (ln := 4) R (by decide +kernel) g_69) fun v_67 f_68 => ?_
    have f_70 := q_is_eq f_68 e_72
    refine go_icmp (c := .ge) (o := 35) (t := 56) (P := ¬ (x_54 < x_71)) (by decide +kernel) (by decide +kernel) f_53 f_70 (Int.not_lt.symm) (fun hp_73 => ?_) (fun hp_73 => ?_)
    · have h := it_f hp_73 h
      exact oj_X12_misses_56 hd R l0 f0 l1 f1 hQ h
    · have h := it_n hp_73 h
      refine go_aload_n (n := 0) (by decide +kernel) l0 f0 ?_
      refine go_getf (x := 116) (ci := 13) (kf := 39) (fin := 1) (t := 2) (by decide +kernel) (by decide +kernel) (by decide +kernel) R f0 (fx_k (c := 13) R (by decide +kernel)) fun v_74 f_75 => ?_
      have f_76 := q_is_eq (b := 102) f_75 (fx_v R (by decide +kernel)).symm
      refine go_iload_n (n := 1) (by decide +kernel) l1 f1 ?_
      refine go_iconst (n := 0) (z := 0) (by decide +kernel) (by decide) fun v_77 f_78 => ?_
      obtain ⟨m_79, e_80, h⟩ := up_s h
      refine go_iast (kd := 100) (by decide +kernel) rfl R f_76 f1 f_78 (fx_k (c := 100) R (by decide +kernel)) (fx_x (a := 102) (ln := 60) R (by decide +kernel) g_52) e_80 (fx_a R.2 (fx_k (c := 100) R (by decide +kernel)) (And.left (fx_x (a := 102) (ln := 60) R (by decide +kernel) g_52)) (by decide +kernel)) fun S_81 R_82 E_83 => ?_
      have E_85 := E_83
      refine go_aload_n (n := 0) (by decide +kernel) l0 f0 ?_
      refine go_getf (x := 125) (ci := 13) (kf := 42) (fin := 1) (t := 2) (by decide +kernel) (by decide +kernel) (by decide +kernel) R_82 f0 (fx_k (c := 13) R_82 (by decide +kernel)) fun v_86 f_87 => ?_
      have f_88 := q_is_eq (b := 105) f_87 (fx_v R_82 (by decide +kernel)).symm
      refine go_iload_n (n := 1) (by decide +kernel) l1 f1 ?_
      refine go_aload_n (n := 0) (by decide +kernel) l0 f0 ?_
      obtain ⟨x_92, e_93, h⟩ := lx_s h
      refine go_getf (x := 357) (ci := 13) (kf := 0) (fin := 0) (t := 0) (by decide +kernel) (by decide +kernel) (by decide +kernel) R_82 f0 (fx_k (c := 13) R_82 (by decide +kernel)) fun v_89 f_90 => ?_
      have f_91 := q_is_eq f_90 e_93
      refine go_aload_n (n := 0) (by decide +kernel) l0 f0 ?_
      refine go_getf (x := 28) (ci := 13) (kf := 7) (fin := 1) (t := 2) (by decide +kernel) (by decide +kernel) (by decide +kernel) R_82 f0 (fx_k (c := 13) R_82 (by decide +kernel)) fun v_94 f_95 => ?_
      have f_96 := q_is_eq (b := 75) f_95 (fx_v R_82 (by decide +kernel)).symm
      refine go_aload_n (n := 0) (by decide +kernel) l0 f0 ?_
      refine go_getf (x := 110) (ci := 13) (kf := 37) (fin := 1) (t := 2) (by decide +kernel) (by decide +kernel) (by decide +kernel) R_82 f0 (fx_k (c := 13) R_82 (by decide +kernel)) fun v_97 f_98 => ?_
      have f_99 := q_is_eq (b := 100) f_98 (fx_v R_82 (by decide +kernel)).symm
      refine go_iload_n (n := 1) (by decide +kernel) l1 f1 ?_
      obtain ⟨x_103, e_104, h⟩ := lx_s h
      refine go_iald (kd := 100) (by decide +kernel) rfl R_82 f_99 f1 (fx_k (c := 100) R_82 (by decide +kernel)) (fx_x (a := 100) (ln := 60) R_82 (by decide +kernel) g_52) fun v_100 f_101 => ?_
      have f_102 := q_is_eq f_101 e_104
      obtain ⟨g_107, h⟩ := gd_s h
      obtain ⟨x_109, e_110, h⟩ := lx_s h
      refine go_iald (kd := 100) (by decide +kernel) rfl R_82 f_96 f_102 (fx_k (c := 100) R_82 (by decide +kernel)) (fx_x (a := 75) (ln := 4) R_82 (by decide +kernel) g_107) fun v_105 f_106 => ?_
      have f_108 := q_is_eq f_106 e_110
      refine go_iadd (by decide +kernel) f_91 f_108 fun v_111 f_112 => ?_
      obtain ⟨m_113, e_114, h⟩ := up_s h
      refine go_iast (kd := 100) (by decide +kernel) rfl R_82 f_88 f1 f_112 (fx_k (c := 100) R_82 (by decide +kernel)) (fx_x (a := 105) (ln := 60) R_82 (by decide +kernel) g_52) e_114 (fx_a R_82.2 (fx_k (c := 100) R_82 (by decide +kernel)) (And.left (fx_x (a := 105) (ln := 60) R_82 (by decide +kernel) g_52)) (by decide +kernel)) fun S_115 R_116 E_117 => ?_
      have E_119 := Ext.tr E_85 E_117
      refine go_goto (o := 29) (t := 82) (by decide +kernel) (by decide +kernel) ?_
      cases h
      exact go_vret (by decide +kernel) rfl (hQ E_119 _ _ R_116 q_out_n)
noncomputable def fj_X12_fail_14 (y1 y2 s0 : Int) (m : MM) : Option (Int × MM) := bd (fm_X12_fails s0 m) fun x_14 m_15 =>
if x_14 = 0 then
gd (0 ≤ y1 ∧ y1 < 60) <| lx (m_15 102 y1) fun x_35 =>
if x_35 = 1 then
bd (fm_X12_misses y1 y2 m_15) fun x_41 m_42 =>
some (1, m_42)
else
some (0, m_15)
else
some (0, m_15)
set_option maxHeartbeats 4000000 in
theorem oj_X12_fail_14 {xs : List Int32} {d : Nat} {S : QS} {L : QL} {Q : QO → QS → Prop} {m : MM} {y1 y2 s0 : Int} {v0 : Value} {v1 : Value} {v2 : Value} {w0 : Value} {w1 : Value}  {rz : Int} {rm : MM}
  (hd : 4 ≤ d) (R : Rp S m) (l0 : q_lo L 0 = some v0) (f0 : q_is 2 v0 68) (l1 : q_lo L 1 = some v1) (f1 : q_is 0 v1 y1) (l2 : q_lo L 2 = some v2) (f2 : q_is 0 v2 y2) (fs0 : q_is 0 w0 s0) (fs1 : q_is 2 w1 68)
  (hQ : Ext m rm → ∀ o S1, Rp S1 rm → q_out 0 o rz → Q o S1)
  (h : fj_X12_fail_14 y1 y2 s0 m = some (rz, rm)) : Go xs d qM_X12_fail 14 L [w0, w1] S Q := by
  unfold fj_X12_fail_14 at h
  obtain ⟨x_14, m_15, hc_13, h⟩ := bd_s h
  refine go_callV (x := 324) (mi := 186) (n := 1) (ci := 13) (as := [w0]) (rest := []) (by decide +kernel) (by decide +kernel) rfl rfl (q_sum8 _ (Nat.le_of_ble_eq_true rfl)) R fs1 (fx_k (c := 13) R (by decide +kernel)) (om_X12_fails (Nat.le_trans (by decide) hd) R fs1 fs0 hc_13) (fun _ S_18 q_21 => ?_) (fun _ _ qq => kr_x qq)
  refine kr_z (by decide) q_21 fun v_16 f_17 R_19 E_20 => ?_
  have E_24 := E_20
  refine go_if (c := .ne) (o := 13) (t := 30) (P := ¬ (x_14 = 0)) (by decide +kernel) (by decide +kernel) f_17 (Iff.rfl) (fun hp_25 => ?_) (fun hp_25 => ?_)
  · have h := it_f hp_25 h
    refine go_iconst (n := 0) (z := 0) (by decide +kernel) (by decide) fun v_26 f_27 => ?_
    cases h
    exact go_iret (by decide +kernel) rfl (Or.inr ⟨rfl, by decide⟩) f_27 (hQ E_24 _ _ R_19 (q_out_v (by decide) f_27))
  · have h := it_n hp_25 h
    refine go_aload_n (n := 0) (by decide +kernel) l0 f0 ?_
    refine go_getf (x := 116) (ci := 13) (kf := 39) (fin := 1) (t := 2) (by decide +kernel) (by decide +kernel) (by decide +kernel) R_19 f0 (fx_k (c := 13) R_19 (by decide +kernel)) fun v_28 f_29 => ?_
    have f_30 := q_is_eq (b := 102) f_29 (fx_v R_19 (by decide +kernel)).symm
    refine go_iload_n (n := 1) (by decide +kernel) l1 f1 ?_
    obtain ⟨g_33, h⟩ := gd_s h
    obtain ⟨x_35, e_36, h⟩ := lx_s h
    refine go_iald (kd := 100) (by decide +kernel) rfl R_19 f_30 f1 (fx_k (c := 100) R_19 (by decide +kernel)) (fx_x (a := 102) (ln := 60) R_19 (by decide +kernel) g_33) fun v_31 f_32 => ?_
    have f_34 := q_is_eq f_32 e_36
    refine go_iconst (n := 1) (z := 1) (by decide +kernel) (by decide) fun v_37 f_38 => ?_
    refine go_icmp (c := .eq) (o := 5) (t := 32) (P := x_35 = 1) (by decide +kernel) (by decide +kernel) f_34 f_38 (Iff.rfl) (fun hp_39 => ?_) (fun hp_39 => ?_)
    · have h := it_t hp_39 h
      refine go_aload_n (n := 0) (by decide +kernel) l0 f0 ?_
      refine go_iload_n (n := 1) (by decide +kernel) l1 f1 ?_
      refine go_iload_n (n := 2) (by decide +kernel) l2 f2 ?_
      obtain ⟨x_41, m_42, hc_40, h⟩ := bd_s h
      refine go_callV (x := 645) (mi := 287) (n := 2) (ci := 13) (as := [v1, v2]) (rest := []) (by decide +kernel) (by decide +kernel) rfl rfl (q_sum8 _ (Nat.le_of_ble_eq_true rfl)) R_19 f0 (fx_k (c := 13) R_19 (by decide +kernel)) (om_X12_misses (Nat.le_trans (by decide) hd) R_19 f0 f1 f2 hc_40) (fun _ S_45 q_48 => ?_) (fun _ _ qq => kr_x qq)
      refine kr_v q_48 fun R_46 E_47 => ?_
      have E_51 := Ext.tr E_24 E_47
      refine go_iconst (n := 1) (z := 1) (by decide +kernel) (by decide) fun v_52 f_53 => ?_
      cases h
      exact go_iret (by decide +kernel) rfl (Or.inr ⟨rfl, by decide⟩) f_53 (hQ E_51 _ _ R_46 (q_out_v (by decide) f_53))
    · have h := it_f hp_39 h
      refine go_iconst (n := 0) (z := 0) (by decide +kernel) (by decide) fun v_54 f_55 => ?_
      cases h
      exact go_iret (by decide +kernel) rfl (Or.inr ⟨rfl, by decide⟩) f_55 (hQ E_24 _ _ R_19 (q_out_v (by decide) f_55))
noncomputable def fm_X12_fail (p1 p2 : Int) (m0 : MM) : Option (Int × MM) := bp (fm_X12_isActivity p1 m0) fun x_2 =>
if x_2 = 0 then
fj_X12_fail_14 p1 p2 1 m0
else
fj_X12_fail_14 p1 p2 0 m0
set_option maxHeartbeats 4000000 in
theorem om_X12_fail {xs : List Int32} {d : Nat} {S : QS} {m0 : MM} {p1 p2 : Int} {v0 : Value} {v1 : Value} {v2 : Value} {rz : Int} {rm : MM}
  (hd : 5 ≤ d) (R : Rp S m0) (f0 : q_is 2 v0 68) (f1 : q_is 0 v1 p1) (f2 : q_is 0 v2 p2)
  (h : fm_X12_fail p1 p2 m0 = some (rz, rm)) : Mt xs d 288 [v0, v1, v2] S (Cr 0 m0 rm rz) := by
  obtain ⟨d, rfl⟩ : ∃ e, d = e + 1 := ⟨d - 1, by omega⟩
  have hd : 4 ≤ d := Nat.le_of_succ_le_succ hd
  refine Mt.of (M := qM_X12_fail) rfl (by rw [sl_1 (q_is_cat f0 (Or.inr rfl)), sl_1 (q_is_cat f1 (Or.inl rfl)), sl_1 (q_is_cat f2 (Or.inl rfl)), sl_0]; decide) ?_
  rw [la_1 (q_is_cat f0 (Or.inr rfl)), la_1 (q_is_cat f1 (Or.inl rfl)), la_1 (q_is_cat f2 (Or.inl rfl)), la_0]
  obtain ⟨L, hL⟩ : ∃ L : QL, L = [(0, v0), (0 + 1, v1), (0 + 1 + 1, v2)] := ⟨_, rfl⟩
  rw [← hL]
  have l0 : q_lo L 0 = some v0 := by rw [hL]; rfl
  have l1 : q_lo L 1 = some v1 := by rw [hL]; rfl
  have l2 : q_lo L 2 = some v2 := by rw [hL]; rfl
  have hQ : Ext m0 rm → ∀ o S1, Rp S1 rm → q_out 0 o rz → (Cr 0 m0 rm rz) o S1 := fun a o S1 b e => ⟨b, a, e⟩
  unfold fm_X12_fail at h
  refine go_aload_n (n := 0) (by decide +kernel) l0 f0 ?_
  refine go_aload_n (n := 0) (by decide +kernel) l0 f0 ?_
  refine go_iload_n (n := 1) (by decide +kernel) l1 f1 ?_
  obtain ⟨x_2, hc_1, h⟩ := bp_s h
  refine go_callV (x := 642) (mi := 285) (n := 1) (ci := 13) (as := [v1]) (rest := [v0]) (by decide +kernel) (by decide +kernel) rfl rfl (q_sum8 _ (Nat.le_of_ble_eq_true rfl)) R f0 (fx_k (c := 13) R (by decide +kernel)) (om_X12_isActivity (Nat.le_trans (by decide) hd) R f0 f1 hc_1) (fun _ S_6 q_9 => ?_) (fun _ _ qq => kr_x qq)
  refine kr_z (by decide) q_9 fun v_4 f_5 R_7 E_8 => ?_
  refine go_if (c := .eq) (o := 7) (t := 13) (P := x_2 = 0) (by decide +kernel) (by decide +kernel) f_5 (Iff.rfl) (fun hp_10 => ?_) (fun hp_10 => ?_)
  · have h := it_t hp_10 h
    refine go_iconst (n := 1) (z := 1) (by decide +kernel) (by decide) fun v_11 f_12 => ?_
    exact oj_X12_fail_14 hd R_7 l0 f0 l1 f1 l2 f2 f_12 f0 hQ h
  · have h := it_f hp_10 h
    refine go_iconst (n := 0) (z := 0) (by decide +kernel) (by decide) fun v_56 f_57 => ?_
    refine go_goto (o := 4) (t := 14) (by decide +kernel) (by decide +kernel) ?_
    exact oj_X12_fail_14 hd R_7 l0 f0 l1 f1 l2 f2 f_57 f0 hQ h
noncomputable def fj_X12_beat_27 (y1 y2 s0 : Int) (m : MM) : Option (Int × MM) := bd (fm_X12_fails s0 m) fun x_30 m_31 =>
if x_30 = 0 then
gd (0 ≤ y1 ∧ y1 < 60) <| lx (m_31 102 y1) fun x_49 =>
if x_49 = 1 then
lx (m_31 108 y1) fun x_60 =>
up m_31 108 y1 y2 fun m_71 =>
lx (m_71 68 0) fun x_84 =>
up m_71 107 y1 x_84 fun m_86 =>
some (x_60, m_86)
else
some ((-1), m_31)
else
some (0, m_31)
set_option maxHeartbeats 4000000 in
theorem oj_X12_beat_27 {xs : List Int32} {d : Nat} {S : QS} {L : QL} {Q : QO → QS → Prop} {m : MM} {y1 y2 s0 : Int} {v0 : Value} {v1 : Value} {v2 : Value} {w0 : Value} {w1 : Value}  {rz : Int} {rm : MM}
  (hd : 2 ≤ d) (R : Rp S m) (l0 : q_lo L 0 = some v0) (f0 : q_is 2 v0 68) (l1 : q_lo L 1 = some v1) (f1 : q_is 0 v1 y1) (l2 : q_lo L 2 = some v2) (f2 : q_is 0 v2 y2) (fs0 : q_is 0 w0 s0) (fs1 : q_is 2 w1 68)
  (hQ : Ext m rm → ∀ o S1, Rp S1 rm → q_out 0 o rz → Q o S1)
  (h : fj_X12_beat_27 y1 y2 s0 m = some (rz, rm)) : Go xs d qM_X12_beat 27 L [w0, w1] S Q := by
  unfold fj_X12_beat_27 at h
  obtain ⟨x_30, m_31, hc_29, h⟩ := bd_s h
  refine go_callV (x := 324) (mi := 186) (n := 1) (ci := 13) (as := [w0]) (rest := []) (by decide +kernel) (by decide +kernel) rfl rfl (q_sum8 _ (Nat.le_of_ble_eq_true rfl)) R fs1 (fx_k (c := 13) R (by decide +kernel)) (om_X12_fails (Nat.le_trans (by decide) hd) R fs1 fs0 hc_29) (fun _ S_34 q_37 => ?_) (fun _ _ qq => kr_x qq)
  refine kr_z (by decide) q_37 fun v_32 f_33 R_35 E_36 => ?_
  have E_40 := E_36
  refine go_if (c := .eq) (o := 5) (t := 35) (P := x_30 = 0) (by decide +kernel) (by decide +kernel) f_33 (Iff.rfl) (fun hp_41 => ?_) (fun hp_41 => ?_)
  · have h := it_t hp_41 h
    refine go_aload_n (n := 0) (by decide +kernel) l0 f0 ?_
    refine go_getf (x := 116) (ci := 13) (kf := 39) (fin := 1) (t := 2) (by decide +kernel) (by decide +kernel) (by decide +kernel) R_35 f0 (fx_k (c := 13) R_35 (by decide +kernel)) fun v_42 f_43 => ?_
    have f_44 := q_is_eq (b := 102) f_43 (fx_v R_35 (by decide +kernel)).symm
    refine go_iload_n (n := 1) (by decide +kernel) l1 f1 ?_
    obtain ⟨g_47, h⟩ := gd_s h
    obtain ⟨x_49, e_50, h⟩ := lx_s h
    refine go_iald (kd := 100) (by decide +kernel) rfl R_35 f_44 f1 (fx_k (c := 100) R_35 (by decide +kernel)) (fx_x (a := 102) (ln := 60) R_35 (by decide +kernel) g_47) fun v_45 f_46 => ?_
    have f_48 := q_is_eq f_46 e_50
    refine go_iconst (n := 1) (z := 1) (by decide +kernel) (by decide) fun v_51 f_52 => ?_
    refine go_icmp (c := .eq) (o := 5) (t := 47) (P := x_49 = 1) (by decide +kernel) (by decide +kernel) f_48 f_52 (Iff.rfl) (fun hp_53 => ?_) (fun hp_53 => ?_)
    · have h := it_t hp_53 h
      refine go_aload_n (n := 0) (by decide +kernel) l0 f0 ?_
      refine go_getf (x := 134) (ci := 13) (kf := 45) (fin := 1) (t := 2) (by decide +kernel) (by decide +kernel) (by decide +kernel) R_35 f0 (fx_k (c := 13) R_35 (by decide +kernel)) fun v_54 f_55 => ?_
      have f_56 := q_is_eq (b := 108) f_55 (fx_v R_35 (by decide +kernel)).symm
      refine go_iload_n (n := 1) (by decide +kernel) l1 f1 ?_
      obtain ⟨x_60, e_61, h⟩ := lx_s h
      refine go_iald (kd := 100) (by decide +kernel) rfl R_35 f_56 f1 (fx_k (c := 100) R_35 (by decide +kernel)) (fx_x (a := 108) (ln := 60) R_35 (by decide +kernel) g_47) fun v_57 f_58 => ?_
      have f_59 := q_is_eq f_58 e_61
      refine go_istore (n := 4) (by decide +kernel) (by decide +kernel) f_59 fun L_62 l_63 kp_64 => ?_
      have l_65 := kp_64 0 _ l0 (by decide) (Or.inl (by decide))
      have l_66 := kp_64 1 _ l1 (by decide) (Or.inl (by decide))
      have l_67 := kp_64 2 _ l2 (by decide) (Or.inl (by decide))
      refine go_aload_n (n := 0) (by decide +kernel) l_65 f0 ?_
      refine go_getf (x := 134) (ci := 13) (kf := 45) (fin := 1) (t := 2) (by decide +kernel) (by decide +kernel) (by decide +kernel) R_35 f0 (fx_k (c := 13) R_35 (by decide +kernel)) fun v_68 f_69 => ?_
      have f_70 := q_is_eq (b := 108) f_69 (fx_v R_35 (by decide +kernel)).symm
      refine go_iload_n (n := 1) (by decide +kernel) l_66 f1 ?_
      refine go_iload_n (n := 2) (by decide +kernel) l_67 f2 ?_
      obtain ⟨m_71, e_72, h⟩ := up_s h
      refine go_iast (kd := 100) (by decide +kernel) rfl R_35 f_70 f1 f2 (fx_k (c := 100) R_35 (by decide +kernel)) (fx_x (a := 108) (ln := 60) R_35 (by decide +kernel) g_47) e_72 (fx_a R_35.2 (fx_k (c := 100) R_35 (by decide +kernel)) (And.left (fx_x (a := 108) (ln := 60) R_35 (by decide +kernel) g_47)) (by decide +kernel)) fun S_73 R_74 E_75 => ?_
      have E_77 := Ext.tr E_40 E_75
      refine go_aload_n (n := 0) (by decide +kernel) l_65 f0 ?_
      refine go_getf (x := 131) (ci := 13) (kf := 44) (fin := 1) (t := 2) (by decide +kernel) (by decide +kernel) (by decide +kernel) R_74 f0 (fx_k (c := 13) R_74 (by decide +kernel)) fun v_78 f_79 => ?_
      have f_80 := q_is_eq (b := 107) f_79 (fx_v R_74 (by decide +kernel)).symm
      refine go_iload_n (n := 1) (by decide +kernel) l_66 f1 ?_
      refine go_aload_n (n := 0) (by decide +kernel) l_65 f0 ?_
      obtain ⟨x_84, e_85, h⟩ := lx_s h
      refine go_getf (x := 357) (ci := 13) (kf := 0) (fin := 0) (t := 0) (by decide +kernel) (by decide +kernel) (by decide +kernel) R_74 f0 (fx_k (c := 13) R_74 (by decide +kernel)) fun v_81 f_82 => ?_
      have f_83 := q_is_eq f_82 e_85
      obtain ⟨m_86, e_87, h⟩ := up_s h
      refine go_iast (kd := 100) (by decide +kernel) rfl R_74 f_80 f1 f_83 (fx_k (c := 100) R_74 (by decide +kernel)) (fx_x (a := 107) (ln := 60) R_74 (by decide +kernel) g_47) e_87 (fx_a R_74.2 (fx_k (c := 100) R_74 (by decide +kernel)) (And.left (fx_x (a := 107) (ln := 60) R_74 (by decide +kernel) g_47)) (by decide +kernel)) fun S_88 R_89 E_90 => ?_
      have E_92 := Ext.tr E_77 E_90
      refine go_iload (n := 4) (by decide +kernel) l_63 f_59 ?_
      cases h
      exact go_iret (by decide +kernel) rfl (Or.inl rfl) f_59 (hQ E_92 _ _ R_89 (q_out_v (by decide) f_59))
    · have h := it_f hp_53 h
      refine go_iconst (n := (-1)) (z := (-1)) (by decide +kernel) (by decide) fun v_93 f_94 => ?_
      cases h
      exact go_iret (by decide +kernel) rfl (Or.inl rfl) f_94 (hQ E_40 _ _ R_35 (q_out_v (by decide) f_94))
  · have h := it_f hp_41 h
    refine go_iconst (n := 0) (z := 0) (by decide +kernel) (by decide) fun v_95 f_96 => ?_
    cases h
    exact go_iret (by decide +kernel) rfl (Or.inl rfl) f_96 (hQ E_40 _ _ R_35 (q_out_v (by decide) f_96))
noncomputable def fm_X12_beat (p1 p2 : Int) (m0 : MM) : Option (Int × MM) := bp (fm_X12_isActivity p1 m0) fun x_2 =>
if x_2 = 0 then
fj_X12_beat_27 p1 p2 1 m0
else
bp (fm_X12_isValue p2 m0) fun x_18 =>
if x_18 = 0 then
fj_X12_beat_27 p1 p2 2 m0
else
fj_X12_beat_27 p1 p2 0 m0
set_option maxHeartbeats 4000000 in
theorem om_X12_beat {xs : List Int32} {d : Nat} {S : QS} {m0 : MM} {p1 p2 : Int} {v0 : Value} {v1 : Value} {v2 : Value} {rz : Int} {rm : MM}
  (hd : 3 ≤ d) (R : Rp S m0) (f0 : q_is 2 v0 68) (f1 : q_is 0 v1 p1) (f2 : q_is 0 v2 p2)
  (h : fm_X12_beat p1 p2 m0 = some (rz, rm)) : Mt xs d 289 [v0, v1, v2] S (Cr 0 m0 rm rz) := by
  obtain ⟨d, rfl⟩ : ∃ e, d = e + 1 := ⟨d - 1, by omega⟩
  have hd : 2 ≤ d := Nat.le_of_succ_le_succ hd
  refine Mt.of (M := qM_X12_beat) rfl (by rw [sl_1 (q_is_cat f0 (Or.inr rfl)), sl_1 (q_is_cat f1 (Or.inl rfl)), sl_1 (q_is_cat f2 (Or.inl rfl)), sl_0]; decide) ?_
  rw [la_1 (q_is_cat f0 (Or.inr rfl)), la_1 (q_is_cat f1 (Or.inl rfl)), la_1 (q_is_cat f2 (Or.inl rfl)), la_0]
  obtain ⟨L, hL⟩ : ∃ L : QL, L = [(0, v0), (0 + 1, v1), (0 + 1 + 1, v2)] := ⟨_, rfl⟩
  rw [← hL]
  have l0 : q_lo L 0 = some v0 := by rw [hL]; rfl
  have l1 : q_lo L 1 = some v1 := by rw [hL]; rfl
  have l2 : q_lo L 2 = some v2 := by rw [hL]; rfl
  have hQ : Ext m0 rm → ∀ o S1, Rp S1 rm → q_out 0 o rz → (Cr 0 m0 rm rz) o S1 := fun a o S1 b e => ⟨b, a, e⟩
  unfold fm_X12_beat at h
  refine go_aload_n (n := 0) (by decide +kernel) l0 f0 ?_
  refine go_iload_n (n := 1) (by decide +kernel) l1 f1 ?_
  obtain ⟨x_2, hc_1, h⟩ := bp_s h
  refine go_callV (x := 642) (mi := 285) (n := 1) (ci := 13) (as := [v1]) (rest := []) (by decide +kernel) (by decide +kernel) rfl rfl (q_sum8 _ (Nat.le_of_ble_eq_true rfl)) R f0 (fx_k (c := 13) R (by decide +kernel)) (om_X12_isActivity (Nat.le_trans (by decide) hd) R f0 f1 hc_1) (fun _ S_6 q_9 => ?_) (fun _ _ qq => kr_x qq)
  refine kr_z (by decide) q_9 fun v_4 f_5 R_7 E_8 => ?_
  refine go_istore_n (n := 3) (by decide +kernel) (by decide +kernel) f_5 fun L_10 l_11 kp_12 => ?_
  have l_13 := kp_12 0 _ l0 (by decide) (Or.inl (by decide))
  have l_14 := kp_12 1 _ l1 (by decide) (Or.inl (by decide))
  have l_15 := kp_12 2 _ l2 (by decide) (Or.inr (q_is_cat f2 (Or.inl rfl)))
  refine go_aload_n (n := 0) (by decide +kernel) l_13 f0 ?_
  refine go_iload_n (n := 3) (by decide +kernel) l_11 f_5 ?_
  refine go_if (c := .ne) (o := 7) (t := 15) (P := ¬ (x_2 = 0)) (by decide +kernel) (by decide +kernel) f_5 (Iff.rfl) (fun hp_16 => ?_) (fun hp_16 => ?_)
  · have h := it_f hp_16 h
    refine go_iload_n (n := 2) (by decide +kernel) l_15 f2 ?_
    obtain ⟨x_18, hc_17, h⟩ := bp_s h
    refine go_callS (x := 573) (mi := 194) (n := 1) (b := 0) (as := [v2]) (rest := [v0]) (by decide +kernel) (by decide +kernel) rfl rfl (q_sum8 _ (Nat.le_of_ble_eq_true rfl)) (om_X12_isValue (Nat.le_trans (by decide) hd) R_7 f2 hc_17) (fun _ S_22 q_25 => ?_) (fun _ _ qq => kr_x qq)
    refine kr_z (by decide) q_25 fun v_20 f_21 R_23 E_24 => ?_
    refine go_if (c := .eq) (o := 7) (t := 26) (P := x_18 = 0) (by decide +kernel) (by decide +kernel) f_21 (Iff.rfl) (fun hp_26 => ?_) (fun hp_26 => ?_)
    · have h := it_t hp_26 h
      refine go_iconst (n := 2) (z := 2) (by decide +kernel) (by decide) fun v_27 f_28 => ?_
      exact oj_X12_beat_27 hd R_23 l_13 f0 l_14 f1 l_15 f2 f_28 f0 hQ h
    · have h := it_f hp_26 h
      refine go_iconst (n := 0) (z := 0) (by decide +kernel) (by decide) fun v_97 f_98 => ?_
      refine go_goto (o := 4) (t := 27) (by decide +kernel) (by decide +kernel) ?_
      exact oj_X12_beat_27 hd R_23 l_13 f0 l_14 f1 l_15 f2 f_98 f0 hQ h
  · have h := it_n hp_16 h
    refine go_iconst (n := 1) (z := 1) (by decide +kernel) (by decide) fun v_99 f_100 => ?_
    refine go_goto (o := 15) (t := 27) (by decide +kernel) (by decide +kernel) ?_
    exact oj_X12_beat_27 hd R_7 l_13 f0 l_14 f1 l_15 f2 f_100 f0 hQ h
end DF41
