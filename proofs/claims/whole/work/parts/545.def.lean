/-! Methods as functions (written by wip/whole/dec.py), 45: X12_taskAt, X12_setBack, X12_copy, X12_cutsRun. -/
section DF45
noncomputable def fl_X12_taskAt_5 (y1 y2 : Int) (m0 : MM) : Nat → Int → Int → Option Int
  | 0, _, _ => none
  | n + 1, y3, y4 => gd (0 ≤ y1 ∧ y1 < 30) <| lx (m0 86 y1) fun x_23 =>
if y4 < x_23 then
if y2 < 0 then
some (-1)
else
bp (fm_X12_kindAt y1 y4 m0) fun x_32 =>
if x_32 = 17 then
if y3 = 0 then
some y4
else
lx (w32 (y3 + (-1))) fun x_61 =>
lx (w32 (y4 + 1)) fun x_73 =>
fl_X12_taskAt_5 y1 y2 m0 n x_61 x_73
else
lx (w32 (y4 + 1)) fun x_48 =>
fl_X12_taskAt_5 y1 y2 m0 n y3 x_48
else
some (-1)
set_option maxHeartbeats 4000000 in
theorem ol_X12_taskAt_5 {xs : List Int32} {d : Nat} {Q : QO → QS → Prop} {m0 : MM} {y1 y2 : Int} {rz : Int}
  (hd : 2 ≤ d)
  (hQ : ∀ o S1, Rp S1 m0 → q_out 0 o rz → Q o S1) :
  ∀ (n : Nat) {S : QS} {L : QL} {y3 y4 : Int} {v0 : Value} {v1 : Value} {v2 : Value} {v3 : Value} {v4 : Value} , fl_X12_taskAt_5 y1 y2 m0 n y3 y4 = some rz → Rp S m0 → q_lo L 0 = some v0 → q_is 2 v0 68 → q_lo L 1 = some v1 → q_is 0 v1 y1 → q_lo L 2 = some v2 → q_is 0 v2 y2 → q_lo L 3 = some v3 → q_is 0 v3 y3 → q_lo L 4 = some v4 → q_is 0 v4 y4 → Go xs d qM_X12_taskAt 5 L [] S Q := by
  intro n
  induction n with
  | zero => intro S L y3 y4 v0 v1 v2 v3 v4; intro h R l0 f0 l1 f1 l2 f2 l3 f3 l4 f4; cases h
  | succ n ih0 =>
    intro S L y3 y4 v0 v1 v2 v3 v4; intro h R l0 f0 l1 f1 l2 f2 l3 f3 l4 f4
    have ih : ∀ {z3 : Int} {z4 : Int} {Sq : QS} {Lq : QL} {u0 : Value} {u1 : Value} {u2 : Value} {u3 : Value} {u4 : Value}, fl_X12_taskAt_5 y1 y2 m0 n z3 z4 = some rz → Rp Sq m0 → q_lo Lq 0 = some u0 → q_is 2 u0 68 → q_lo Lq 1 = some u1 → q_is 0 u1 y1 → q_lo Lq 2 = some u2 → q_is 0 u2 y2 → q_lo Lq 3 = some u3 → q_is 0 u3 z3 → q_lo Lq 4 = some u4 → q_is 0 u4 z4 → Go xs d qM_X12_taskAt 5 Lq [] Sq Q := by intros; exact ih0 ‹_› ‹_› ‹_› ‹_› ‹_› ‹_› ‹_› ‹_› ‹_› ‹_› ‹_› ‹_›
    unfold fl_X12_taskAt_5 at h
    refine go_iload (n := 4) (by decide +kernel) l4 f4 ?_
    refine go_aload_n (n := 0) (by decide +kernel) l0 f0 ?_
    refine go_getf (x := 61) (ci := 13) (kf := 19) (fin := 1) (t := 2) (by decide +kernel) (by decide +kernel) (by decide +kernel) R f0 (fx_k (c := 13) R (by decide +kernel)) fun v_16 f_17 => ?_
    have f_18 := q_is_eq (b := 86) f_17 (fx_v R (by decide +kernel)).symm
    refine go_iload_n (n := 1) (by decide +kernel) l1 f1 ?_
    obtain ⟨g_21, h⟩ := gd_s h
    obtain ⟨x_23, e_24, h⟩ := lx_s h
    refine go_iald (kd := 100) (by decide +kernel) rfl R f_18 f1 (fx_k (c := 100) R (by decide +kernel)) (fx_x (a := 86) (ln := 30) R (by decide +kernel) g_21) fun v_19 f_20 => ?_
    have f_22 := q_is_eq f_20 e_24
    refine go_icmp (c := .ge) (o := 35) (t := 48) (P := ¬ (y4 < x_23)) (by decide +kernel) (by decide +kernel) f4 f_22 (Int.not_lt.symm) (fun hp_25 => ?_) (fun hp_25 => ?_)
    · have h := it_f hp_25 h
      refine go_iconst (n := (-1)) (z := (-1)) (by decide +kernel) (by decide) fun v_26 f_27 => ?_
      cases h
      exact go_iret (by decide +kernel) rfl (Or.inl rfl) f_27 (hQ _ _ R (q_out_v (by decide) f_27))
    · have h := it_n hp_25 h
      refine go_iload_n (n := 2) (by decide +kernel) l2 f2 ?_
      refine go_if (c := .lt) (o := 31) (t := 48) (P := y2 < 0) (by decide +kernel) (by decide +kernel) f2 (Iff.rfl) (fun hp_28 => ?_) (fun hp_28 => ?_)
      · have h := it_t hp_28 h
        refine go_iconst (n := (-1)) (z := (-1)) (by decide +kernel) (by decide) fun v_29 f_30 => ?_
        cases h
        exact go_iret (by decide +kernel) rfl (Or.inl rfl) f_30 (hQ _ _ R (q_out_v (by decide) f_30))
      · have h := it_f hp_28 h
        refine go_aload_n (n := 0) (by decide +kernel) l0 f0 ?_
        refine go_iload_n (n := 1) (by decide +kernel) l1 f1 ?_
        refine go_iload (n := 4) (by decide +kernel) l4 f4 ?_
        obtain ⟨x_32, hc_31, h⟩ := bp_s h
        refine go_callV (x := 341) (mi := 204) (n := 2) (ci := 13) (as := [v1, v4]) (rest := []) (by decide +kernel) (by decide +kernel) rfl rfl (q_sum8 _ (Nat.le_of_ble_eq_true rfl)) R f0 (fx_k (c := 13) R (by decide +kernel)) (om_X12_kindAt (Nat.le_trans (by decide) hd) R f0 f1 f4 hc_31) (fun _ S_36 q_39 => ?_) (fun _ _ qq => kr_x qq)
        refine kr_z (by decide) q_39 fun v_34 f_35 R_37 E_38 => ?_
        refine go_bipush (n := 17) (z := 17) (by decide +kernel) (by decide) fun v_40 f_41 => ?_
        refine go_icmp (c := .ne) (o := 13) (t := 42) (P := ¬ (x_32 = 17)) (by decide +kernel) (by decide +kernel) f_35 f_41 (Iff.rfl) (fun hp_42 => ?_) (fun hp_42 => ?_)
        · have h := it_f hp_42 h
          refine go_iinc (n := 4) (c := 1) (c' := 1) (by decide +kernel) (by decide +kernel) l4 f4 (by decide) fun L_43 v_44 f_45 l_46 kp_47 => ?_
          obtain ⟨x_48, e_49, h⟩ := lx_s h
          have f_50 := q_is_eq f_45 e_49
          have l_51 := kp_47 0 _ l0 (by decide) (Or.inl (by decide))
          have l_52 := kp_47 1 _ l1 (by decide) (Or.inl (by decide))
          have l_53 := kp_47 2 _ l2 (by decide) (Or.inl (by decide))
          have l_54 := kp_47 3 _ l3 (by decide) (Or.inr (q_is_cat f3 (Or.inl rfl)))
          refine go_goto (o := (-40)) (t := 5) (by decide +kernel) (by decide +kernel) ?_
          exact ih h R_37 l_51 f0 l_52 f1 l_53 f2 l_54 f3 l_46 f_50
        · have h := it_n hp_42 h
          refine go_iload_n (n := 3) (by decide +kernel) l3 f3 ?_
          refine go_if (c := .ne) (o := 6) (t := 39) (P := ¬ (y3 = 0)) (by decide +kernel) (by decide +kernel) f3 (Iff.rfl) (fun hp_55 => ?_) (fun hp_55 => ?_)
          · have h := it_f hp_55 h
            refine go_iinc (n := 3) (c := (-1)) (c' := (-1)) (by decide +kernel) (by decide +kernel) l3 f3 (by decide) fun L_56 v_57 f_58 l_59 kp_60 => ?_
            obtain ⟨x_61, e_62, h⟩ := lx_s h
            have f_63 := q_is_eq f_58 e_62
            have l_64 := kp_60 0 _ l0 (by decide) (Or.inl (by decide))
            have l_65 := kp_60 1 _ l1 (by decide) (Or.inl (by decide))
            have l_66 := kp_60 2 _ l2 (by decide) (Or.inr (q_is_cat f2 (Or.inl rfl)))
            have l_67 := kp_60 4 _ l4 (by decide) (Or.inl (by decide))
            refine go_iinc (n := 4) (c := 1) (c' := 1) (by decide +kernel) (by decide +kernel) l_67 f4 (by decide) fun L_68 v_69 f_70 l_71 kp_72 => ?_
            obtain ⟨x_73, e_74, h⟩ := lx_s h
            have f_75 := q_is_eq f_70 e_74
            have l_76 := kp_72 0 _ l_64 (by decide) (Or.inl (by decide))
            have l_77 := kp_72 1 _ l_65 (by decide) (Or.inl (by decide))
            have l_78 := kp_72 2 _ l_66 (by decide) (Or.inl (by decide))
            have l_79 := kp_72 3 _ l_59 (by decide) (Or.inr (q_is_cat f_63 (Or.inl rfl)))
            refine go_goto (o := (-40)) (t := 5) (by decide +kernel) (by decide +kernel) ?_
            exact ih h R_37 l_76 f0 l_77 f1 l_78 f2 l_79 f_63 l_71 f_75
          · have h := it_n hp_55 h
            refine go_iload (n := 4) (by decide +kernel) l4 f4 ?_
            cases h
            exact go_iret (by decide +kernel) rfl (Or.inl rfl) f4 (hQ _ _ R_37 (q_out_v (by decide) f4))
noncomputable def fm_X12_taskAt (p1 p2 : Int) (m0 : MM) : Option Int := fl_X12_taskAt_5 p1 p2 m0  BIG p2 0
set_option maxHeartbeats 4000000 in
theorem om_X12_taskAt {xs : List Int32} {d : Nat} {S : QS} {m0 : MM} {p1 p2 : Int} {v0 : Value} {v1 : Value} {v2 : Value} {rz : Int}
  (hd : 3 ≤ d) (R : Rp S m0) (f0 : q_is 2 v0 68) (f1 : q_is 0 v1 p1) (f2 : q_is 0 v2 p2)
  (h : fm_X12_taskAt p1 p2 m0 = some rz) : Mt xs d 300 [v0, v1, v2] S (Cr 0 m0 m0 rz) := by
  obtain ⟨d, rfl⟩ : ∃ e, d = e + 1 := ⟨d - 1, by omega⟩
  have hd : 2 ≤ d := Nat.le_of_succ_le_succ hd
  refine Mt.of (M := qM_X12_taskAt) rfl (by rw [sl_1 (q_is_cat f0 (Or.inr rfl)), sl_1 (q_is_cat f1 (Or.inl rfl)), sl_1 (q_is_cat f2 (Or.inl rfl)), sl_0]; decide) ?_
  rw [la_1 (q_is_cat f0 (Or.inr rfl)), la_1 (q_is_cat f1 (Or.inl rfl)), la_1 (q_is_cat f2 (Or.inl rfl)), la_0]
  obtain ⟨L, hL⟩ : ∃ L : QL, L = [(0, v0), (0 + 1, v1), (0 + 1 + 1, v2)] := ⟨_, rfl⟩
  rw [← hL]
  have l0 : q_lo L 0 = some v0 := by rw [hL]; rfl
  have l1 : q_lo L 1 = some v1 := by rw [hL]; rfl
  have l2 : q_lo L 2 = some v2 := by rw [hL]; rfl
  have hQ : ∀ o S1, Rp S1 m0 → q_out 0 o rz → (Cr 0 m0 m0 rz) o S1 := fun o S1 a b => ⟨a, Ext.rf _, b⟩
  unfold fm_X12_taskAt at h
  refine go_iload_n (n := 2) (by decide +kernel) l2 f2 ?_
  refine go_istore_n (n := 3) (by decide +kernel) (by decide +kernel) f2 fun L_1 l_2 kp_3 => ?_
  have l_4 := kp_3 0 _ l0 (by decide) (Or.inl (by decide))
  have l_5 := kp_3 1 _ l1 (by decide) (Or.inl (by decide))
  have l_6 := kp_3 2 _ l2 (by decide) (Or.inr (q_is_cat f2 (Or.inl rfl)))
  refine go_iconst (n := 0) (z := 0) (by decide +kernel) (by decide) fun v_7 f_8 => ?_
  refine go_istore (n := 4) (by decide +kernel) (by decide +kernel) f_8 fun L_9 l_10 kp_11 => ?_
  have l_12 := kp_11 0 _ l_4 (by decide) (Or.inl (by decide))
  have l_13 := kp_11 1 _ l_5 (by decide) (Or.inl (by decide))
  have l_14 := kp_11 2 _ l_6 (by decide) (Or.inl (by decide))
  have l_15 := kp_11 3 _ l_2 (by decide) (Or.inr (q_is_cat f2 (Or.inl rfl)))
  refine ol_X12_taskAt_5 hd   hQ BIG h R l_12 f0 l_13 f1 l_14 f2 l_15 f2 l_10 f_8
noncomputable def fl_X12_setBack_86 (y1 y4 : Int) (k130 : MM → Option (Int × MM)) : Nat → Int → MM → Option (Int × MM)
  | 0, _, _ => none
  | n + 1, y5, m => lx (m 68 12) fun x_90 =>
if y5 < x_90 then
gd (0 ≤ y5 ∧ y5 < 30) <| lx (m 84 y5) fun x_103 =>
if x_103 = y1 then
up m 84 y5 (-1) fun m_131 =>
lx (w32 (y5 + 1)) fun x_142 =>
fl_X12_setBack_86 y1 y4 k130 n x_142 m_131
else
up m 84 y5 x_103 fun m_112 =>
lx (w32 (y5 + 1)) fun x_123 =>
fl_X12_setBack_86 y1 y4 k130 n x_123 m_112
else
k130 m
set_option maxHeartbeats 4000000 in
theorem ol_X12_setBack_86 {xs : List Int32} {d : Nat} {Q : QO → QS → Prop} {mb : MM} {y1 y4 : Int} {k130 : MM → Option (Int × MM)} {rz : Int} {rm : MM}
  (hd : 5 ≤ d)
  (hk130 : ∀ mq : MM, Ext mb mq → ∀ {Sq : QS} {Lq : QL} {u0 : Value} {u1 : Value} {u4 : Value}, k130 mq = some (rz, rm) → Rp Sq mq → q_lo Lq 0 = some u0 → q_is 2 u0 68 → q_lo Lq 1 = some u1 → q_is 0 u1 y1 → q_lo Lq 4 = some u4 → q_is 0 u4 y4 → Go xs d qM_X12_setBack 130 Lq [] Sq Q)
  (hQ : Ext mb rm → ∀ o S1, Rp S1 rm → q_out 0 o rz → Q o S1) :
  ∀ (n : Nat) {m : MM} {S : QS} {L : QL} {y5 : Int} {v0 : Value} {v1 : Value} {v4 : Value} {v5 : Value} , Ext mb m → fl_X12_setBack_86 y1 y4 k130 n y5 m = some (rz, rm) → Rp S m → q_lo L 0 = some v0 → q_is 2 v0 68 → q_lo L 1 = some v1 → q_is 0 v1 y1 → q_lo L 4 = some v4 → q_is 0 v4 y4 → q_lo L 5 = some v5 → q_is 0 v5 y5 → Go xs d qM_X12_setBack 86 L [] S Q := by
  intro n
  induction n with
  | zero => intro m S L y5 v0 v1 v4 v5; intro E h R l0 f0 l1 f1 l4 f4 l5 f5; cases h
  | succ n ih0 =>
    intro m S L y5 v0 v1 v4 v5; intro E h R l0 f0 l1 f1 l4 f4 l5 f5
    have ih : ∀ mq : MM, Ext mb mq → ∀ {z5 : Int} {Sq : QS} {Lq : QL} {u0 : Value} {u1 : Value} {u4 : Value} {u5 : Value}, fl_X12_setBack_86 y1 y4 k130 n z5 mq = some (rz, rm) → Rp Sq mq → q_lo Lq 0 = some u0 → q_is 2 u0 68 → q_lo Lq 1 = some u1 → q_is 0 u1 y1 → q_lo Lq 4 = some u4 → q_is 0 u4 y4 → q_lo Lq 5 = some u5 → q_is 0 u5 z5 → Go xs d qM_X12_setBack 86 Lq [] Sq Q := fun mq b => by intros; exact ih0 b ‹_› ‹_› ‹_› ‹_› ‹_› ‹_› ‹_› ‹_› ‹_› ‹_›
    unfold fl_X12_setBack_86 at h
    refine go_iload (n := 5) (by decide +kernel) l5 f5 ?_
    refine go_aload_n (n := 0) (by decide +kernel) l0 f0 ?_
    obtain ⟨x_90, e_91, h⟩ := lx_s h
    refine go_getf (x := 310) (ci := 13) (kf := 12) (fin := 0) (t := 0) (by decide +kernel) (by decide +kernel) (by decide +kernel) R f0 (fx_k (c := 13) R (by decide +kernel)) fun v_87 f_88 => ?_
    have f_89 := q_is_eq f_88 e_91
    refine go_icmp (c := .ge) (o := 38) (t := 130) (P := ¬ (y5 < x_90)) (by decide +kernel) (by decide +kernel) f5 f_89 (Int.not_lt.symm) (fun hp_92 => ?_) (fun hp_92 => ?_)
    · have h := it_f hp_92 h
      exact hk130 m E h R l0 f0 l1 f1 l4 f4
    · have h := it_n hp_92 h
      refine go_aload_n (n := 0) (by decide +kernel) l0 f0 ?_
      refine go_getf (x := 55) (ci := 13) (kf := 17) (fin := 1) (t := 2) (by decide +kernel) (by decide +kernel) (by decide +kernel) R f0 (fx_k (c := 13) R (by decide +kernel)) fun v_93 f_94 => ?_
      have f_95 := q_is_eq (b := 84) f_94 (fx_v R (by decide +kernel)).symm
      refine go_iload (n := 5) (by decide +kernel) l5 f5 ?_
      refine go_aload_n (n := 0) (by decide +kernel) l0 f0 ?_
      refine go_getf (x := 55) (ci := 13) (kf := 17) (fin := 1) (t := 2) (by decide +kernel) (by decide +kernel) (by decide +kernel) R f0 (fx_k (c := 13) R (by decide +kernel)) fun v_96 f_97 => ?_
      have f_98 := q_is_eq (b := 84) f_97 (fx_v R (by decide +kernel)).symm
      refine go_iload (n := 5) (by decide +kernel) l5 f5 ?_
      obtain ⟨g_101, h⟩ := gd_s h
      obtain ⟨x_103, e_104, h⟩ := lx_s h
      refine go_iald (kd := 100) (by decide +kernel) rfl R f_98 f5 (fx_k (c := 100) R (by decide +kernel)) (fx_x (a := 84) (ln := 30) R (by decide +kernel) g_101) fun v_99 f_100 => ?_
      have f_102 := q_is_eq f_100 e_104
      refine go_iload_n (n := 1) (by decide +kernel) l1 f1 ?_
      refine go_icmp (c := .ne) (o := 7) (t := 116) (P := ¬ (x_103 = y1)) (by decide +kernel) (by decide +kernel) f_102 f1 (Iff.rfl) (fun hp_105 => ?_) (fun hp_105 => ?_)
      · have h := it_f hp_105 h
        refine go_aload_n (n := 0) (by decide +kernel) l0 f0 ?_
        refine go_getf (x := 55) (ci := 13) (kf := 17) (fin := 1) (t := 2) (by decide +kernel) (by decide +kernel) (by decide +kernel) R f0 (fx_k (c := 13) R (by decide +kernel)) fun v_106 f_107 => ?_
        have f_108 := q_is_eq (b := 84) f_107 (fx_v R (by decide +kernel)).symm
        refine go_iload (n := 5) (by decide +kernel) l5 f5 ?_
        refine go_iald (kd := 100) (by decide +kernel) rfl R f_108 f5 (fx_k (c := 100) R (by decide +kernel)) (fx_x (a := 84) (ln := 30) R (by decide +kernel) g_101) fun v_109 f_110 => ?_
        have f_111 := q_is_eq f_110 e_104
        obtain ⟨m_112, e_113, h⟩ := up_s h
        refine go_iast (kd := 100) (by decide +kernel) rfl R f_95 f5 f_111 (fx_k (c := 100) R (by decide +kernel)) (fx_x (a := 84) (ln := 30) R (by decide +kernel) g_101) e_113 (fx_a R.2 (fx_k (c := 100) R (by decide +kernel)) (And.left (fx_x (a := 84) (ln := 30) R (by decide +kernel) g_101)) (by decide +kernel)) fun S_114 R_115 E_116 => ?_
        have E_117 := Ext.tr E E_116
        refine go_iinc (n := 5) (c := 1) (c' := 1) (by decide +kernel) (by decide +kernel) l5 f5 (by decide) fun L_118 v_119 f_120 l_121 kp_122 => ?_
        obtain ⟨x_123, e_124, h⟩ := lx_s h
        have f_125 := q_is_eq f_120 e_124
        have l_126 := kp_122 0 _ l0 (by decide) (Or.inl (by decide))
        have l_127 := kp_122 1 _ l1 (by decide) (Or.inl (by decide))
        have l_128 := kp_122 4 _ l4 (by decide) (Or.inr (q_is_cat f4 (Or.inl rfl)))
        refine go_goto (o := (-41)) (t := 86) (by decide +kernel) (by decide +kernel) ?_
        exact ih m_112 E_117 h R_115 l_126 f0 l_127 f1 l_128 f4 l_121 f_125
      · have h := it_n hp_105 h
        refine go_iconst (n := (-1)) (z := (-1)) (by decide +kernel) (by decide) fun v_129 f_130 => ?_
        refine go_goto (o := 10) (t := 123) (by decide +kernel) (by decide +kernel) ?_
        obtain ⟨m_131, e_132, h⟩ := up_s h
        refine go_iast (kd := 100) (by decide +kernel) rfl R f_95 f5 f_130 (fx_k (c := 100) R (by decide +kernel)) (fx_x (a := 84) (ln := 30) R (by decide +kernel) g_101) e_132 (fx_a R.2 (fx_k (c := 100) R (by decide +kernel)) (And.left (fx_x (a := 84) (ln := 30) R (by decide +kernel) g_101)) (by decide +kernel)) fun S_133 R_134 E_135 => ?_
        have E_136 := Ext.tr E E_135
        refine go_iinc (n := 5) (c := 1) (c' := 1) (by decide +kernel) (by decide +kernel) l5 f5 (by decide) fun L_137 v_138 f_139 l_140 kp_141 => ?_
        obtain ⟨x_142, e_143, h⟩ := lx_s h
        have f_144 := q_is_eq f_139 e_143
        have l_145 := kp_141 0 _ l0 (by decide) (Or.inl (by decide))
        have l_146 := kp_141 1 _ l1 (by decide) (Or.inl (by decide))
        have l_147 := kp_141 4 _ l4 (by decide) (Or.inr (q_is_cat f4 (Or.inl rfl)))
        refine go_goto (o := (-41)) (t := 86) (by decide +kernel) (by decide +kernel) ?_
        exact ih m_131 E_136 h R_134 l_145 f0 l_146 f1 l_147 f4 l_140 f_144
noncomputable def fl_X12_setBack_215 (y1 y5 : Int) : Nat → Int → MM → Option (Int × MM)
  | 0, _, _ => none
  | n + 1, y6, m => gd (0 ≤ y1 ∧ y1 < 30) <| lx (m 86 y1) fun x_297 =>
if y6 < x_297 then
bp (fm_X12_kindAt y1 y6 m) fun x_301 =>
if x_301 = 4 then
bp (fm_X12_xAt y1 y6 m) fun x_326 =>
bp (fm_X12_yAt y1 y6 m) fun x_335 =>
bd (fm_X12_puts y5 4 x_326 x_335 m) fun x_344 m_345 =>
lx (w32 (y6 + 1)) fun x_358 =>
fl_X12_setBack_215 y1 y5 n x_358 m_345
else
lx (w32 (y6 + 1)) fun x_317 =>
fl_X12_setBack_215 y1 y5 n x_317 m
else
some (y5, m)
set_option maxHeartbeats 4000000 in
theorem ol_X12_setBack_215 {xs : List Int32} {d : Nat} {Q : QO → QS → Prop} {mb : MM} {y1 y5 : Int} {rz : Int} {rm : MM}
  (hd : 5 ≤ d)
  (hQ : Ext mb rm → ∀ o S1, Rp S1 rm → q_out 0 o rz → Q o S1) :
  ∀ (n : Nat) {m : MM} {S : QS} {L : QL} {y6 : Int} {v0 : Value} {v1 : Value} {v5 : Value} {v6 : Value} , Ext mb m → fl_X12_setBack_215 y1 y5 n y6 m = some (rz, rm) → Rp S m → q_lo L 0 = some v0 → q_is 2 v0 68 → q_lo L 1 = some v1 → q_is 0 v1 y1 → q_lo L 5 = some v5 → q_is 0 v5 y5 → q_lo L 6 = some v6 → q_is 0 v6 y6 → Go xs d qM_X12_setBack 215 L [] S Q := by
  intro n
  induction n with
  | zero => intro m S L y6 v0 v1 v5 v6; intro E h R l0 f0 l1 f1 l5 f5 l6 f6; cases h
  | succ n ih0 =>
    intro m S L y6 v0 v1 v5 v6; intro E h R l0 f0 l1 f1 l5 f5 l6 f6
    have ih : ∀ mq : MM, Ext mb mq → ∀ {z6 : Int} {Sq : QS} {Lq : QL} {u0 : Value} {u1 : Value} {u5 : Value} {u6 : Value}, fl_X12_setBack_215 y1 y5 n z6 mq = some (rz, rm) → Rp Sq mq → q_lo Lq 0 = some u0 → q_is 2 u0 68 → q_lo Lq 1 = some u1 → q_is 0 u1 y1 → q_lo Lq 5 = some u5 → q_is 0 u5 y5 → q_lo Lq 6 = some u6 → q_is 0 u6 z6 → Go xs d qM_X12_setBack 215 Lq [] Sq Q := fun mq b => by intros; exact ih0 b ‹_› ‹_› ‹_› ‹_› ‹_› ‹_› ‹_› ‹_› ‹_› ‹_›
    unfold fl_X12_setBack_215 at h
    refine go_iload (n := 6) (by decide +kernel) l6 f6 ?_
    refine go_aload_n (n := 0) (by decide +kernel) l0 f0 ?_
    refine go_getf (x := 61) (ci := 13) (kf := 19) (fin := 1) (t := 2) (by decide +kernel) (by decide +kernel) (by decide +kernel) R f0 (fx_k (c := 13) R (by decide +kernel)) fun v_290 f_291 => ?_
    have f_292 := q_is_eq (b := 86) f_291 (fx_v R (by decide +kernel)).symm
    refine go_iload_n (n := 1) (by decide +kernel) l1 f1 ?_
    obtain ⟨g_295, h⟩ := gd_s h
    obtain ⟨x_297, e_298, h⟩ := lx_s h
    refine go_iald (kd := 100) (by decide +kernel) rfl R f_292 f1 (fx_k (c := 100) R (by decide +kernel)) (fx_x (a := 86) (ln := 30) R (by decide +kernel) g_295) fun v_293 f_294 => ?_
    have f_296 := q_is_eq f_294 e_298
    refine go_icmp (c := .ge) (o := 42) (t := 265) (P := ¬ (y6 < x_297)) (by decide +kernel) (by decide +kernel) f6 f_296 (Int.not_lt.symm) (fun hp_299 => ?_) (fun hp_299 => ?_)
    · have h := it_f hp_299 h
      refine go_iload (n := 5) (by decide +kernel) l5 f5 ?_
      cases h
      exact go_iret (by decide +kernel) rfl (Or.inl rfl) f5 (hQ E _ _ R (q_out_v (by decide) f5))
    · have h := it_n hp_299 h
      refine go_aload_n (n := 0) (by decide +kernel) l0 f0 ?_
      refine go_iload_n (n := 1) (by decide +kernel) l1 f1 ?_
      refine go_iload (n := 6) (by decide +kernel) l6 f6 ?_
      obtain ⟨x_301, hc_300, h⟩ := bp_s h
      refine go_callV (x := 341) (mi := 204) (n := 2) (ci := 13) (as := [v1, v6]) (rest := []) (by decide +kernel) (by decide +kernel) rfl rfl (q_sum8 _ (Nat.le_of_ble_eq_true rfl)) R f0 (fx_k (c := 13) R (by decide +kernel)) (om_X12_kindAt (Nat.le_trans (by decide) hd) R f0 f1 f6 hc_300) (fun _ S_305 q_308 => ?_) (fun _ _ qq => kr_x qq)
      refine kr_z (by decide) q_308 fun v_303 f_304 R_306 E_307 => ?_
      refine go_iconst (n := 4) (z := 4) (by decide +kernel) (by decide) fun v_309 f_310 => ?_
      refine go_icmp (c := .ne) (o := 25) (t := 259) (P := ¬ (x_301 = 4)) (by decide +kernel) (by decide +kernel) f_304 f_310 (Iff.rfl) (fun hp_311 => ?_) (fun hp_311 => ?_)
      · have h := it_f hp_311 h
        refine go_iinc (n := 6) (c := 1) (c' := 1) (by decide +kernel) (by decide +kernel) l6 f6 (by decide) fun L_312 v_313 f_314 l_315 kp_316 => ?_
        obtain ⟨x_317, e_318, h⟩ := lx_s h
        have f_319 := q_is_eq f_314 e_318
        have l_320 := kp_316 0 _ l0 (by decide) (Or.inl (by decide))
        have l_321 := kp_316 1 _ l1 (by decide) (Or.inl (by decide))
        have l_322 := kp_316 5 _ l5 (by decide) (Or.inr (q_is_cat f5 (Or.inl rfl)))
        refine go_goto (o := (-47)) (t := 215) (by decide +kernel) (by decide +kernel) ?_
        exact ih m E h R_306 l_320 f0 l_321 f1 l_322 f5 l_315 f_319
      · have h := it_n hp_311 h
        refine go_aload_n (n := 0) (by decide +kernel) l0 f0 ?_
        refine go_iload (n := 5) (by decide +kernel) l5 f5 ?_
        refine go_iconst (n := 4) (z := 4) (by decide +kernel) (by decide) fun v_323 f_324 => ?_
        refine go_aload_n (n := 0) (by decide +kernel) l0 f0 ?_
        refine go_iload_n (n := 1) (by decide +kernel) l1 f1 ?_
        refine go_iload (n := 6) (by decide +kernel) l6 f6 ?_
        obtain ⟨x_326, hc_325, h⟩ := bp_s h
        refine go_callV (x := 344) (mi := 206) (n := 2) (ci := 13) (as := [v1, v6]) (rest := [v_323, v5, v0]) (by decide +kernel) (by decide +kernel) rfl rfl (q_sum8 _ (Nat.le_of_ble_eq_true rfl)) R_306 f0 (fx_k (c := 13) R_306 (by decide +kernel)) (om_X12_xAt (Nat.le_trans (by decide) hd) R_306 f0 f1 f6 hc_325) (fun _ S_330 q_333 => ?_) (fun _ _ qq => kr_x qq)
        refine kr_z (by decide) q_333 fun v_328 f_329 R_331 E_332 => ?_
        refine go_aload_n (n := 0) (by decide +kernel) l0 f0 ?_
        refine go_iload_n (n := 1) (by decide +kernel) l1 f1 ?_
        refine go_iload (n := 6) (by decide +kernel) l6 f6 ?_
        obtain ⟨x_335, hc_334, h⟩ := bp_s h
        refine go_callV (x := 397) (mi := 205) (n := 2) (ci := 13) (as := [v1, v6]) (rest := [v_328, v_323, v5, v0]) (by decide +kernel) (by decide +kernel) rfl rfl (q_sum8 _ (Nat.le_of_ble_eq_true rfl)) R_331 f0 (fx_k (c := 13) R_331 (by decide +kernel)) (om_X12_yAt (Nat.le_trans (by decide) hd) R_331 f0 f1 f6 hc_334) (fun _ S_339 q_342 => ?_) (fun _ _ qq => kr_x qq)
        refine kr_z (by decide) q_342 fun v_337 f_338 R_340 E_341 => ?_
        obtain ⟨x_344, m_345, hc_343, h⟩ := bd_s h
        refine go_callV (x := 360) (mi := 210) (n := 4) (ci := 13) (as := [v5, v_323, v_328, v_337]) (rest := []) (by decide +kernel) (by decide +kernel) rfl rfl (q_sum8 _ (Nat.le_of_ble_eq_true rfl)) R_340 f0 (fx_k (c := 13) R_340 (by decide +kernel)) (om_X12_puts (Nat.le_trans (by decide) hd) R_340 f0 f5 f_324 f_329 f_338 hc_343) (fun _ S_348 q_351 => ?_) (fun _ _ qq => kr_x qq)
        refine kr_z (by decide) q_351 fun v_346 f_347 R_349 E_350 => ?_
        have E_352 := Ext.tr E E_350
        refine go_pop (by decide +kernel) f_347 (Or.inl rfl) ?_
        refine go_iinc (n := 6) (c := 1) (c' := 1) (by decide +kernel) (by decide +kernel) l6 f6 (by decide) fun L_353 v_354 f_355 l_356 kp_357 => ?_
        obtain ⟨x_358, e_359, h⟩ := lx_s h
        have f_360 := q_is_eq f_355 e_359
        have l_361 := kp_357 0 _ l0 (by decide) (Or.inl (by decide))
        have l_362 := kp_357 1 _ l1 (by decide) (Or.inl (by decide))
        have l_363 := kp_357 5 _ l5 (by decide) (Or.inr (q_is_cat f5 (Or.inl rfl)))
        refine go_goto (o := (-47)) (t := 215) (by decide +kernel) (by decide +kernel) ?_
        exact ih m_345 E_352 h R_349 l_361 f0 l_362 f1 l_363 f5 l_356 f_360
noncomputable def fj_X12_setBack_55 (y1 y2 s0 : Int) (m : MM) : Option (Int × MM) := bd (fm_X12_fails s0 m) fun x_33 m_34 =>
if x_33 = 0 then
bp (fm_X12_taskAt y1 y2 m_34) fun x_44 =>
gd (0 ≤ y1 ∧ y1 < 30) <| up m_34 83 y1 5 fun m_63 =>
bd (fm_X12_stops y1 m_63) fun x_70 m_71 =>
fl_X12_setBack_86 y1 x_44 (fun m_160 =>
lx (m_160 80 y1) fun x_169 =>
lx (m_160 81 y1) fun x_177 =>
lx (m_160 82 y1) fun x_185 =>
lx (m_160 84 y1) fun x_195 =>
lx (m_160 85 y1) fun x_203 =>
bd (fm_X12_makes x_169 x_177 x_185 (-1) x_195 x_203 m_160) fun x_206 m_207 =>
gd (0 ≤ x_206 ∧ x_206 < 30) <| up m_207 87 x_206 y1 fun m_225 =>
up m_225 88 x_206 (w32 (x_44 + 1)) fun m_238 =>
up m_238 86 x_206 (w32 (x_44 + 1)) fun m_251 =>
bd (fm_X12_recounts x_206 m_251) fun x_258 m_259 =>
bd (fm_X12_beginsAnew x_206 m_259) fun x_268 m_269 =>
lx (w32 (x_44 + 1)) fun x_281 =>
fl_X12_setBack_215 y1 x_206  BIG x_281 m_269) BIG 0 m_71
else
some (0, m_34)
set_option maxHeartbeats 4000000 in
theorem oj_X12_setBack_55 {xs : List Int32} {d : Nat} {S : QS} {L : QL} {Q : QO → QS → Prop} {m : MM} {y1 y2 s0 : Int} {v0 : Value} {v1 : Value} {v2 : Value} {w0 : Value} {w1 : Value}  {rz : Int} {rm : MM}
  (hd : 5 ≤ d) (R : Rp S m) (l0 : q_lo L 0 = some v0) (f0 : q_is 2 v0 68) (l1 : q_lo L 1 = some v1) (f1 : q_is 0 v1 y1) (l2 : q_lo L 2 = some v2) (f2 : q_is 0 v2 y2) (fs0 : q_is 0 w0 s0) (fs1 : q_is 2 w1 68)
  (hQ : Ext m rm → ∀ o S1, Rp S1 rm → q_out 0 o rz → Q o S1)
  (h : fj_X12_setBack_55 y1 y2 s0 m = some (rz, rm)) : Go xs d qM_X12_setBack 55 L [w0, w1] S Q := by
  unfold fj_X12_setBack_55 at h
  obtain ⟨x_33, m_34, hc_32, h⟩ := bd_s h
  refine go_callV (x := 324) (mi := 186) (n := 1) (ci := 13) (as := [w0]) (rest := []) (by decide +kernel) (by decide +kernel) rfl rfl (q_sum8 _ (Nat.le_of_ble_eq_true rfl)) R fs1 (fx_k (c := 13) R (by decide +kernel)) (om_X12_fails (Nat.le_trans (by decide) hd) R fs1 fs0 hc_32) (fun _ S_37 q_40 => ?_) (fun _ _ qq => kr_x qq)
  refine kr_z (by decide) q_40 fun v_35 f_36 R_38 E_39 => ?_
  have E_41 := E_39
  refine go_if (c := .eq) (o := 5) (t := 63) (P := x_33 = 0) (by decide +kernel) (by decide +kernel) f_36 (Iff.rfl) (fun hp_42 => ?_) (fun hp_42 => ?_)
  · have h := it_t hp_42 h
    refine go_aload_n (n := 0) (by decide +kernel) l0 f0 ?_
    refine go_iload_n (n := 1) (by decide +kernel) l1 f1 ?_
    refine go_iload_n (n := 2) (by decide +kernel) l2 f2 ?_
    obtain ⟨x_44, hc_43, h⟩ := bp_s h
    refine go_callV (x := 670) (mi := 300) (n := 2) (ci := 13) (as := [v1, v2]) (rest := []) (by decide +kernel) (by decide +kernel) rfl rfl (q_sum8 _ (Nat.le_of_ble_eq_true rfl)) R_38 f0 (fx_k (c := 13) R_38 (by decide +kernel)) (om_X12_taskAt (Nat.le_trans (by decide) hd) R_38 f0 f1 f2 hc_43) (fun _ S_48 q_51 => ?_) (fun _ _ qq => kr_x qq)
    refine kr_z (by decide) q_51 fun v_46 f_47 R_49 E_50 => ?_
    refine go_istore (n := 4) (by decide +kernel) (by decide +kernel) f_47 fun L_52 l_53 kp_54 => ?_
    have l_55 := kp_54 0 _ l0 (by decide) (Or.inl (by decide))
    have l_56 := kp_54 1 _ l1 (by decide) (Or.inl (by decide))
    refine go_aload_n (n := 0) (by decide +kernel) l_55 f0 ?_
    refine go_getf (x := 52) (ci := 13) (kf := 16) (fin := 1) (t := 2) (by decide +kernel) (by decide +kernel) (by decide +kernel) R_49 f0 (fx_k (c := 13) R_49 (by decide +kernel)) fun v_57 f_58 => ?_
    have f_59 := q_is_eq (b := 83) f_58 (fx_v R_49 (by decide +kernel)).symm
    refine go_iload_n (n := 1) (by decide +kernel) l_56 f1 ?_
    refine go_iconst (n := 5) (z := 5) (by decide +kernel) (by decide) fun v_60 f_61 => ?_
    obtain ⟨g_62, h⟩ := gd_s h
    obtain ⟨m_63, e_64, h⟩ := up_s h
    refine go_iast (kd := 100) (by decide +kernel) rfl R_49 f_59 f1 f_61 (fx_k (c := 100) R_49 (by decide +kernel)) (fx_x (a := 83) (ln := 30) R_49 (by decide +kernel) g_62) e_64 (fx_a R_49.2 (fx_k (c := 100) R_49 (by decide +kernel)) (And.left (fx_x (a := 83) (ln := 30) R_49 (by decide +kernel) g_62)) (by decide +kernel)) fun S_65 R_66 E_67 => ?_
    have E_68 := Ext.tr E_41 E_67
    refine go_aload_n (n := 0) (by decide +kernel) l_55 f0 ?_
    refine go_iload_n (n := 1) (by decide +kernel) l_56 f1 ?_
    obtain ⟨x_70, m_71, hc_69, h⟩ := bd_s h
    refine go_callV (x := 564) (mi := 254) (n := 1) (ci := 13) (as := [v1]) (rest := []) (by decide +kernel) (by decide +kernel) rfl rfl (q_sum8 _ (Nat.le_of_ble_eq_true rfl)) R_66 f0 (fx_k (c := 13) R_66 (by decide +kernel)) (om_X12_stops (Nat.le_trans (by decide) hd) R_66 f0 f1 hc_69) (fun _ S_74 q_77 => ?_) (fun _ _ qq => kr_x qq)
    refine kr_v q_77 fun R_75 E_76 => ?_
    have E_78 := Ext.tr E_68 E_76
    refine go_iconst (n := 0) (z := 0) (by decide +kernel) (by decide) fun v_79 f_80 => ?_
    refine go_istore (n := 5) (by decide +kernel) (by decide +kernel) f_80 fun L_81 l_82 kp_83 => ?_
    have l_84 := kp_83 0 _ l_55 (by decide) (Or.inl (by decide))
    have l_85 := kp_83 1 _ l_56 (by decide) (Or.inl (by decide))
    have l_86 := kp_83 4 _ l_53 (by decide) (Or.inr (q_is_cat f_47 (Or.inl rfl)))
    refine ol_X12_setBack_86 hd  ?_ (fun b => hQ (Ext.tr E_78 b)) BIG (Ext.rf _) h R_75 l_84 f0 l_85 f1 l_86 f_47 l_82 f_80
    intro m_160 E_161
    intro S_157 L_158 v_148 v_149 v_150
    intro h R_159 l_151 f_154 l_152 f_155 l_153 f_156
    have E_162 := Ext.tr E_78 E_161
    refine go_aload_n (n := 0) (by decide +kernel) l_151 f_154 ?_
    refine go_aload_n (n := 0) (by decide +kernel) l_151 f_154 ?_
    refine go_getf (x := 43) (ci := 13) (kf := 13) (fin := 1) (t := 2) (by decide +kernel) (by decide +kernel) (by decide +kernel) R_159 f_154 (fx_k (c := 13) R_159 (by decide +kernel)) fun v_163 f_164 => ?_
    have f_165 := q_is_eq (b := 80) f_164 (fx_v R_159 (by decide +kernel)).symm
    refine go_iload_n (n := 1) (by decide +kernel) l_152 f_155 ?_
    obtain ⟨x_169, e_170, h⟩ := lx_s h
    refine go_iald (kd := 100) (by decide +kernel) rfl R_159 f_165 f_155 (fx_k (c := 100) R_159 (by decide +kernel)) (fx_x (a := 80) (ln := 30) R_159 (by decide +kernel) g_62) fun v_166 f_167 => ?_
    have f_168 := q_is_eq f_167 e_170
    refine go_aload_n (n := 0) (by decide +kernel) l_151 f_154 ?_
    refine go_getf (x := 46) (ci := 13) (kf := 14) (fin := 1) (t := 2) (by decide +kernel) (by decide +kernel) (by decide +kernel) R_159 f_154 (fx_k (c := 13) R_159 (by decide +kernel)) fun v_171 f_172 => ?_
    have f_173 := q_is_eq (b := 81) f_172 (fx_v R_159 (by decide +kernel)).symm
    refine go_iload_n (n := 1) (by decide +kernel) l_152 f_155 ?_
    obtain ⟨x_177, e_178, h⟩ := lx_s h
    refine go_iald (kd := 100) (by decide +kernel) rfl R_159 f_173 f_155 (fx_k (c := 100) R_159 (by decide +kernel)) (fx_x (a := 81) (ln := 30) R_159 (by decide +kernel) g_62) fun v_174 f_175 => ?_
    have f_176 := q_is_eq f_175 e_178
    refine go_aload_n (n := 0) (by decide +kernel) l_151 f_154 ?_
    refine go_getf (x := 49) (ci := 13) (kf := 15) (fin := 1) (t := 2) (by decide +kernel) (by decide +kernel) (by decide +kernel) R_159 f_154 (fx_k (c := 13) R_159 (by decide +kernel)) fun v_179 f_180 => ?_
    have f_181 := q_is_eq (b := 82) f_180 (fx_v R_159 (by decide +kernel)).symm
    refine go_iload_n (n := 1) (by decide +kernel) l_152 f_155 ?_
    obtain ⟨x_185, e_186, h⟩ := lx_s h
    refine go_iald (kd := 100) (by decide +kernel) rfl R_159 f_181 f_155 (fx_k (c := 100) R_159 (by decide +kernel)) (fx_x (a := 82) (ln := 30) R_159 (by decide +kernel) g_62) fun v_182 f_183 => ?_
    have f_184 := q_is_eq f_183 e_186
    refine go_iconst (n := (-1)) (z := (-1)) (by decide +kernel) (by decide) fun v_187 f_188 => ?_
    refine go_aload_n (n := 0) (by decide +kernel) l_151 f_154 ?_
    refine go_getf (x := 55) (ci := 13) (kf := 17) (fin := 1) (t := 2) (by decide +kernel) (by decide +kernel) (by decide +kernel) R_159 f_154 (fx_k (c := 13) R_159 (by decide +kernel)) fun v_189 f_190 => ?_
    have f_191 := q_is_eq (b := 84) f_190 (fx_v R_159 (by decide +kernel)).symm
    refine go_iload_n (n := 1) (by decide +kernel) l_152 f_155 ?_
    obtain ⟨x_195, e_196, h⟩ := lx_s h
    refine go_iald (kd := 100) (by decide +kernel) rfl R_159 f_191 f_155 (fx_k (c := 100) R_159 (by decide +kernel)) (fx_x (a := 84) (ln := 30) R_159 (by decide +kernel) g_62) fun v_192 f_193 => ?_
    have f_194 := q_is_eq f_193 e_196
    refine go_aload_n (n := 0) (by decide +kernel) l_151 f_154 ?_
    refine go_getf (x := 58) (ci := 13) (kf := 18) (fin := 1) (t := 2) (by decide +kernel) (by decide +kernel) (by decide +kernel) R_159 f_154 (fx_k (c := 13) R_159 (by decide +kernel)) fun v_197 f_198 => ?_
    have f_199 := q_is_eq (b := 85) f_198 (fx_v R_159 (by decide +kernel)).symm
    refine go_iload_n (n := 1) (by decide +kernel) l_152 f_155 ?_
    obtain ⟨x_203, e_204, h⟩ := lx_s h
    refine go_iald (kd := 100) (by decide +kernel) rfl R_159 f_199 f_155 (fx_k (c := 100) R_159 (by decide +kernel)) (fx_x (a := 85) (ln := 30) R_159 (by decide +kernel) g_62) fun v_200 f_201 => ?_
    have f_202 := q_is_eq f_201 e_204
    obtain ⟨x_206, m_207, hc_205, h⟩ := bd_s h
    refine go_callV (x := 576) (mi := 212) (n := 6) (ci := 13) (as := [v_166, v_174, v_182, v_187, v_192, v_200]) (rest := []) (by decide +kernel) (by decide +kernel) rfl rfl (q_sum8 _ (Nat.le_of_ble_eq_true rfl)) R_159 f_154 (fx_k (c := 13) R_159 (by decide +kernel)) (om_X12_makes (Nat.le_trans (by decide) hd) R_159 f_154 f_168 f_176 f_184 f_188 f_194 f_202 hc_205) (fun _ S_210 q_213 => ?_) (fun _ _ qq => kr_x qq)
    refine kr_z (by decide) q_213 fun v_208 f_209 R_211 E_212 => ?_
    have E_214 := Ext.tr E_162 E_212
    refine go_istore (n := 5) (by decide +kernel) (by decide +kernel) f_209 fun L_215 l_216 kp_217 => ?_
    have l_218 := kp_217 0 _ l_151 (by decide) (Or.inl (by decide))
    have l_219 := kp_217 1 _ l_152 (by decide) (Or.inl (by decide))
    have l_220 := kp_217 4 _ l_153 (by decide) (Or.inr (q_is_cat f_156 (Or.inl rfl)))
    refine go_aload_n (n := 0) (by decide +kernel) l_218 f_154 ?_
    refine go_getf (x := 64) (ci := 13) (kf := 20) (fin := 1) (t := 2) (by decide +kernel) (by decide +kernel) (by decide +kernel) R_211 f_154 (fx_k (c := 13) R_211 (by decide +kernel)) fun v_221 f_222 => ?_
    have f_223 := q_is_eq (b := 87) f_222 (fx_v R_211 (by decide +kernel)).symm
    refine go_iload (n := 5) (by decide +kernel) l_216 f_209 ?_
    refine go_iload_n (n := 1) (by decide +kernel) l_219 f_155 ?_
    obtain ⟨g_224, h⟩ := gd_s h
    obtain ⟨m_225, e_226, h⟩ := up_s h
    refine go_iast (kd := 100) (by decide +kernel) rfl R_211 f_223 f_209 f_155 (fx_k (c := 100) R_211 (by decide +kernel)) (fx_x (a := 87) (ln := 30) R_211 (by decide +kernel) g_224) e_226 (fx_a R_211.2 (fx_k (c := 100) R_211 (by decide +kernel)) (And.left (fx_x (a := 87) (ln := 30) R_211 (by decide +kernel) g_224)) (by decide +kernel)) fun S_227 R_228 E_229 => ?_
    have E_230 := Ext.tr E_214 E_229
    refine go_aload_n (n := 0) (by decide +kernel) l_218 f_154 ?_
    refine go_getf (x := 67) (ci := 13) (kf := 21) (fin := 1) (t := 2) (by decide +kernel) (by decide +kernel) (by decide +kernel) R_228 f_154 (fx_k (c := 13) R_228 (by decide +kernel)) fun v_231 f_232 => ?_
    have f_233 := q_is_eq (b := 88) f_232 (fx_v R_228 (by decide +kernel)).symm
    refine go_iload (n := 5) (by decide +kernel) l_216 f_209 ?_
    refine go_iload (n := 4) (by decide +kernel) l_220 f_156 ?_
    refine go_iconst (n := 1) (z := 1) (by decide +kernel) (by decide) fun v_234 f_235 => ?_
    refine go_iadd (by decide +kernel) f_156 f_235 fun v_236 f_237 => ?_
    obtain ⟨m_238, e_239, h⟩ := up_s h
    refine go_iast (kd := 100) (by decide +kernel) rfl R_228 f_233 f_209 f_237 (fx_k (c := 100) R_228 (by decide +kernel)) (fx_x (a := 88) (ln := 30) R_228 (by decide +kernel) g_224) e_239 (fx_a R_228.2 (fx_k (c := 100) R_228 (by decide +kernel)) (And.left (fx_x (a := 88) (ln := 30) R_228 (by decide +kernel) g_224)) (by decide +kernel)) fun S_240 R_241 E_242 => ?_
    have E_243 := Ext.tr E_230 E_242
    refine go_aload_n (n := 0) (by decide +kernel) l_218 f_154 ?_
    refine go_getf (x := 61) (ci := 13) (kf := 19) (fin := 1) (t := 2) (by decide +kernel) (by decide +kernel) (by decide +kernel) R_241 f_154 (fx_k (c := 13) R_241 (by decide +kernel)) fun v_244 f_245 => ?_
    have f_246 := q_is_eq (b := 86) f_245 (fx_v R_241 (by decide +kernel)).symm
    refine go_iload (n := 5) (by decide +kernel) l_216 f_209 ?_
    refine go_iload (n := 4) (by decide +kernel) l_220 f_156 ?_
    refine go_iconst (n := 1) (z := 1) (by decide +kernel) (by decide) fun v_247 f_248 => ?_
    refine go_iadd (by decide +kernel) f_156 f_248 fun v_249 f_250 => ?_
    obtain ⟨m_251, e_252, h⟩ := up_s h
    refine go_iast (kd := 100) (by decide +kernel) rfl R_241 f_246 f_209 f_250 (fx_k (c := 100) R_241 (by decide +kernel)) (fx_x (a := 86) (ln := 30) R_241 (by decide +kernel) g_224) e_252 (fx_a R_241.2 (fx_k (c := 100) R_241 (by decide +kernel)) (And.left (fx_x (a := 86) (ln := 30) R_241 (by decide +kernel) g_224)) (by decide +kernel)) fun S_253 R_254 E_255 => ?_
    have E_256 := Ext.tr E_243 E_255
    refine go_aload_n (n := 0) (by decide +kernel) l_218 f_154 ?_
    refine go_iload (n := 5) (by decide +kernel) l_216 f_209 ?_
    obtain ⟨x_258, m_259, hc_257, h⟩ := bd_s h
    refine go_callV (x := 673) (mi := 209) (n := 1) (ci := 13) (as := [v_208]) (rest := []) (by decide +kernel) (by decide +kernel) rfl rfl (q_sum8 _ (Nat.le_of_ble_eq_true rfl)) R_254 f_154 (fx_k (c := 13) R_254 (by decide +kernel)) (om_X12_recounts (Nat.le_trans (by decide) hd) R_254 f_154 f_209 hc_257) (fun _ S_262 q_265 => ?_) (fun _ _ qq => kr_x qq)
    refine kr_v q_265 fun R_263 E_264 => ?_
    have E_266 := Ext.tr E_256 E_264
    refine go_aload_n (n := 0) (by decide +kernel) l_218 f_154 ?_
    refine go_iload (n := 5) (by decide +kernel) l_216 f_209 ?_
    obtain ⟨x_268, m_269, hc_267, h⟩ := bd_s h
    refine go_callV (x := 676) (mi := 299) (n := 1) (ci := 13) (as := [v_208]) (rest := []) (by decide +kernel) (by decide +kernel) rfl rfl (q_sum8 _ (Nat.le_of_ble_eq_true rfl)) R_263 f_154 (fx_k (c := 13) R_263 (by decide +kernel)) (om_X12_beginsAnew (Nat.le_trans (by decide) hd) R_263 f_154 f_209 hc_267) (fun _ S_272 q_275 => ?_) (fun _ _ qq => kr_x qq)
    refine kr_v q_275 fun R_273 E_274 => ?_
    have E_276 := Ext.tr E_266 E_274
    refine go_iload (n := 4) (by decide +kernel) l_220 f_156 ?_
    refine go_iconst (n := 1) (z := 1) (by decide +kernel) (by decide) fun v_277 f_278 => ?_
    refine go_iadd (by decide +kernel) f_156 f_278 fun v_279 f_280 => ?_
    obtain ⟨x_281, e_282, h⟩ := lx_s h
    have f_283 := q_is_eq f_280 e_282
    refine go_istore (n := 6) (by decide +kernel) (by decide +kernel) f_283 fun L_284 l_285 kp_286 => ?_
    have l_287 := kp_286 0 _ l_218 (by decide) (Or.inl (by decide))
    have l_288 := kp_286 1 _ l_219 (by decide) (Or.inl (by decide))
    have l_289 := kp_286 5 _ l_216 (by decide) (Or.inr (q_is_cat f_209 (Or.inl rfl)))
    refine ol_X12_setBack_215 hd   (fun b => hQ (Ext.tr E_276 b)) BIG (Ext.rf _) h R_273 l_287 f_154 l_288 f_155 l_289 f_209 l_285 f_283
  · have h := it_f hp_42 h
    refine go_iconst (n := 0) (z := 0) (by decide +kernel) (by decide) fun v_364 f_365 => ?_
    cases h
    exact go_iret (by decide +kernel) rfl (Or.inl rfl) f_365 (hQ E_41 _ _ R_38 (q_out_v (by decide) f_365))
noncomputable def fj_X12_setBack_23 (y1 y2 s0 : Int) (m : MM) : Option (Int × MM) := if s0 = 0 then
fj_X12_setBack_55 y1 y2 1 m
else
bp (fm_X12_isAlive y1 m) fun x_21 =>
if x_21 = 0 then
fj_X12_setBack_55 y1 y2 2 m
else
lx (m 68 12) fun x_369 =>
if x_369 < 30 then
fj_X12_setBack_55 y1 y2 0 m
else
fj_X12_setBack_55 y1 y2 2 m
set_option maxHeartbeats 4000000 in
theorem oj_X12_setBack_23 {xs : List Int32} {d : Nat} {S : QS} {L : QL} {Q : QO → QS → Prop} {m : MM} {y1 y2 s0 : Int} {v0 : Value} {v1 : Value} {v2 : Value} {w0 : Value}  {rz : Int} {rm : MM}
  (hd : 5 ≤ d) (R : Rp S m) (l0 : q_lo L 0 = some v0) (f0 : q_is 2 v0 68) (l1 : q_lo L 1 = some v1) (f1 : q_is 0 v1 y1) (l2 : q_lo L 2 = some v2) (f2 : q_is 0 v2 y2) (fs0 : q_is 0 w0 s0)
  (hQ : Ext m rm → ∀ o S1, Rp S1 rm → q_out 0 o rz → Q o S1)
  (h : fj_X12_setBack_23 y1 y2 s0 m = some (rz, rm)) : Go xs d qM_X12_setBack 23 L [w0] S Q := by
  unfold fj_X12_setBack_23 at h
  refine go_istore_n (n := 3) (by decide +kernel) (by decide +kernel) fs0 fun L_13 l_14 kp_15 => ?_
  have l_16 := kp_15 0 _ l0 (by decide) (Or.inl (by decide))
  have l_17 := kp_15 1 _ l1 (by decide) (Or.inl (by decide))
  have l_18 := kp_15 2 _ l2 (by decide) (Or.inr (q_is_cat f2 (Or.inl rfl)))
  refine go_aload_n (n := 0) (by decide +kernel) l_16 f0 ?_
  refine go_iload_n (n := 3) (by decide +kernel) l_14 fs0 ?_
  refine go_if (c := .ne) (o := 7) (t := 33) (P := ¬ (s0 = 0)) (by decide +kernel) (by decide +kernel) fs0 (Iff.rfl) (fun hp_19 => ?_) (fun hp_19 => ?_)
  · have h := it_f hp_19 h
    refine go_aload_n (n := 0) (by decide +kernel) l_16 f0 ?_
    refine go_iload_n (n := 1) (by decide +kernel) l_17 f1 ?_
    obtain ⟨x_21, hc_20, h⟩ := bp_s h
    refine go_callV (x := 561) (mi := 213) (n := 1) (ci := 13) (as := [v1]) (rest := [v0]) (by decide +kernel) (by decide +kernel) rfl rfl (q_sum8 _ (Nat.le_of_ble_eq_true rfl)) R f0 (fx_k (c := 13) R (by decide +kernel)) (om_X12_isAlive (Nat.le_trans (by decide) hd) R f0 f1 hc_20) (fun _ S_25 q_28 => ?_) (fun _ _ qq => kr_x qq)
    refine kr_z (by decide) q_28 fun v_23 f_24 R_26 E_27 => ?_
    refine go_if (c := .eq) (o := 16) (t := 54) (P := x_21 = 0) (by decide +kernel) (by decide +kernel) f_24 (Iff.rfl) (fun hp_29 => ?_) (fun hp_29 => ?_)
    · have h := it_t hp_29 h
      refine go_iconst (n := 2) (z := 2) (by decide +kernel) (by decide) fun v_30 f_31 => ?_
      exact oj_X12_setBack_55 hd R_26 l_16 f0 l_17 f1 l_18 f2 f_31 f0 hQ h
    · have h := it_f hp_29 h
      refine go_aload_n (n := 0) (by decide +kernel) l_16 f0 ?_
      obtain ⟨x_369, e_370, h⟩ := lx_s h
      refine go_getf (x := 310) (ci := 13) (kf := 12) (fin := 0) (t := 0) (by decide +kernel) (by decide +kernel) (by decide +kernel) R_26 f0 (fx_k (c := 13) R_26 (by decide +kernel)) fun v_366 f_367 => ?_
      have f_368 := q_is_eq f_367 e_370
      refine go_bipush (n := 30) (z := 30) (by decide +kernel) (by decide) fun v_371 f_372 => ?_
      refine go_icmp (c := .ge) (o := 7) (t := 54) (P := ¬ (x_369 < 30)) (by decide +kernel) (by decide +kernel) f_368 f_372 (Int.not_lt.symm) (fun hp_373 => ?_) (fun hp_373 => ?_)
      · have h := it_f hp_373 h
        refine go_iconst (n := 2) (z := 2) (by decide +kernel) (by decide) fun v_374 f_375 => ?_
        exact oj_X12_setBack_55 hd R_26 l_16 f0 l_17 f1 l_18 f2 f_375 f0 hQ h
      · have h := it_n hp_373 h
        refine go_iconst (n := 0) (z := 0) (by decide +kernel) (by decide) fun v_376 f_377 => ?_
        refine go_goto (o := 4) (t := 55) (by decide +kernel) (by decide +kernel) ?_
        exact oj_X12_setBack_55 hd R_26 l_16 f0 l_17 f1 l_18 f2 f_377 f0 hQ h
  · have h := it_n hp_19 h
    refine go_iconst (n := 1) (z := 1) (by decide +kernel) (by decide) fun v_378 f_379 => ?_
    refine go_goto (o := 25) (t := 55) (by decide +kernel) (by decide +kernel) ?_
    exact oj_X12_setBack_55 hd R l_16 f0 l_17 f1 l_18 f2 f_379 f0 hQ h
noncomputable def fm_X12_setBack (p1 p2 : Int) (m0 : MM) : Option (Int × MM) := bp (fm_X12_isRun p1 m0) fun x_2 =>
if x_2 = 0 then
fj_X12_setBack_23 p1 p2 0 m0
else
bp (fm_X12_taskAt p1 p2 m0) fun x_381 =>
if x_381 = (-1) then
fj_X12_setBack_23 p1 p2 0 m0
else
fj_X12_setBack_23 p1 p2 1 m0
set_option maxHeartbeats 4000000 in
theorem om_X12_setBack {xs : List Int32} {d : Nat} {S : QS} {m0 : MM} {p1 p2 : Int} {v0 : Value} {v1 : Value} {v2 : Value} {rz : Int} {rm : MM}
  (hd : 6 ≤ d) (R : Rp S m0) (f0 : q_is 2 v0 68) (f1 : q_is 0 v1 p1) (f2 : q_is 0 v2 p2)
  (h : fm_X12_setBack p1 p2 m0 = some (rz, rm)) : Mt xs d 301 [v0, v1, v2] S (Cr 0 m0 rm rz) := by
  obtain ⟨d, rfl⟩ : ∃ e, d = e + 1 := ⟨d - 1, by omega⟩
  have hd : 5 ≤ d := Nat.le_of_succ_le_succ hd
  refine Mt.of (M := qM_X12_setBack) rfl (by rw [sl_1 (q_is_cat f0 (Or.inr rfl)), sl_1 (q_is_cat f1 (Or.inl rfl)), sl_1 (q_is_cat f2 (Or.inl rfl)), sl_0]; decide) ?_
  rw [la_1 (q_is_cat f0 (Or.inr rfl)), la_1 (q_is_cat f1 (Or.inl rfl)), la_1 (q_is_cat f2 (Or.inl rfl)), la_0]
  obtain ⟨L, hL⟩ : ∃ L : QL, L = [(0, v0), (0 + 1, v1), (0 + 1 + 1, v2)] := ⟨_, rfl⟩
  rw [← hL]
  have l0 : q_lo L 0 = some v0 := by rw [hL]; rfl
  have l1 : q_lo L 1 = some v1 := by rw [hL]; rfl
  have l2 : q_lo L 2 = some v2 := by rw [hL]; rfl
  have hQ : Ext m0 rm → ∀ o S1, Rp S1 rm → q_out 0 o rz → (Cr 0 m0 rm rz) o S1 := fun a o S1 b e => ⟨b, a, e⟩
  unfold fm_X12_setBack at h
  refine go_aload_n (n := 0) (by decide +kernel) l0 f0 ?_
  refine go_iload_n (n := 1) (by decide +kernel) l1 f1 ?_
  obtain ⟨x_2, hc_1, h⟩ := bp_s h
  refine go_callV (x := 580) (mi := 193) (n := 1) (ci := 13) (as := [v1]) (rest := []) (by decide +kernel) (by decide +kernel) rfl rfl (q_sum8 _ (Nat.le_of_ble_eq_true rfl)) R f0 (fx_k (c := 13) R (by decide +kernel)) (om_X12_isRun (Nat.le_trans (by decide) hd) R f0 f1 hc_1) (fun _ S_6 q_9 => ?_) (fun _ _ qq => kr_x qq)
  refine kr_z (by decide) q_9 fun v_4 f_5 R_7 E_8 => ?_
  refine go_if (c := .eq) (o := 17) (t := 22) (P := x_2 = 0) (by decide +kernel) (by decide +kernel) f_5 (Iff.rfl) (fun hp_10 => ?_) (fun hp_10 => ?_)
  · have h := it_t hp_10 h
    refine go_iconst (n := 0) (z := 0) (by decide +kernel) (by decide) fun v_11 f_12 => ?_
    exact oj_X12_setBack_23 hd R_7 l0 f0 l1 f1 l2 f2 f_12 hQ h
  · have h := it_f hp_10 h
    refine go_aload_n (n := 0) (by decide +kernel) l0 f0 ?_
    refine go_iload_n (n := 1) (by decide +kernel) l1 f1 ?_
    refine go_iload_n (n := 2) (by decide +kernel) l2 f2 ?_
    obtain ⟨x_381, hc_380, h⟩ := bp_s h
    refine go_callV (x := 670) (mi := 300) (n := 2) (ci := 13) (as := [v1, v2]) (rest := []) (by decide +kernel) (by decide +kernel) rfl rfl (q_sum8 _ (Nat.le_of_ble_eq_true rfl)) R_7 f0 (fx_k (c := 13) R_7 (by decide +kernel)) (om_X12_taskAt (Nat.le_trans (by decide) hd) R_7 f0 f1 f2 hc_380) (fun _ S_385 q_388 => ?_) (fun _ _ qq => kr_x qq)
    refine kr_z (by decide) q_388 fun v_383 f_384 R_386 E_387 => ?_
    refine go_iconst (n := (-1)) (z := (-1)) (by decide +kernel) (by decide) fun v_389 f_390 => ?_
    refine go_icmp (c := .eq) (o := 7) (t := 22) (P := x_381 = (-1)) (by decide +kernel) (by decide +kernel) f_384 f_390 (Iff.rfl) (fun hp_391 => ?_) (fun hp_391 => ?_)
    · have h := it_t hp_391 h
      refine go_iconst (n := 0) (z := 0) (by decide +kernel) (by decide) fun v_392 f_393 => ?_
      exact oj_X12_setBack_23 hd R_386 l0 f0 l1 f1 l2 f2 f_393 hQ h
    · have h := it_f hp_391 h
      refine go_iconst (n := 1) (z := 1) (by decide +kernel) (by decide) fun v_394 f_395 => ?_
      refine go_goto (o := 4) (t := 23) (by decide +kernel) (by decide +kernel) ?_
      exact oj_X12_setBack_23 hd R_386 l0 f0 l1 f1 l2 f2 f_395 hQ h
noncomputable def fj_X12_copy_28 (y1 y2 s0 : Int) (m : MM) : Option (Int × MM) := bd (fm_X12_fails s0 m) fun x_28 m_29 =>
if x_28 = 0 then
gd (0 ≤ y1 ∧ y1 < 30) <| lx (m_29 92 y1) fun x_48 =>
lx (m_29 86 y1) fun x_58 =>
bp (fm_X12_least (w32 (x_48 + y2)) x_58 m_29) fun x_61 =>
up m_29 92 y1 x_61 fun m_69 =>
lx (m_69 92 y1) fun x_81 =>
some (x_81, m_69)
else
some (0, m_29)
set_option maxHeartbeats 4000000 in
theorem oj_X12_copy_28 {xs : List Int32} {d : Nat} {S : QS} {L : QL} {Q : QO → QS → Prop} {m : MM} {y1 y2 s0 : Int} {v0 : Value} {v1 : Value} {v2 : Value} {w0 : Value} {w1 : Value}  {rz : Int} {rm : MM}
  (hd : 2 ≤ d) (R : Rp S m) (l0 : q_lo L 0 = some v0) (f0 : q_is 2 v0 68) (l1 : q_lo L 1 = some v1) (f1 : q_is 0 v1 y1) (l2 : q_lo L 2 = some v2) (f2 : q_is 0 v2 y2) (fs0 : q_is 0 w0 s0) (fs1 : q_is 2 w1 68)
  (hQ : Ext m rm → ∀ o S1, Rp S1 rm → q_out 0 o rz → Q o S1)
  (h : fj_X12_copy_28 y1 y2 s0 m = some (rz, rm)) : Go xs d qM_X12_copy 28 L [w0, w1] S Q := by
  unfold fj_X12_copy_28 at h
  obtain ⟨x_28, m_29, hc_27, h⟩ := bd_s h
  refine go_callV (x := 324) (mi := 186) (n := 1) (ci := 13) (as := [w0]) (rest := []) (by decide +kernel) (by decide +kernel) rfl rfl (q_sum8 _ (Nat.le_of_ble_eq_true rfl)) R fs1 (fx_k (c := 13) R (by decide +kernel)) (om_X12_fails (Nat.le_trans (by decide) hd) R fs1 fs0 hc_27) (fun _ S_32 q_35 => ?_) (fun _ _ qq => kr_x qq)
  refine kr_z (by decide) q_35 fun v_30 f_31 R_33 E_34 => ?_
  have E_36 := E_34
  refine go_if (c := .eq) (o := 5) (t := 36) (P := x_28 = 0) (by decide +kernel) (by decide +kernel) f_31 (Iff.rfl) (fun hp_37 => ?_) (fun hp_37 => ?_)
  · have h := it_t hp_37 h
    refine go_aload_n (n := 0) (by decide +kernel) l0 f0 ?_
    refine go_getf (x := 79) (ci := 13) (kf := 25) (fin := 1) (t := 2) (by decide +kernel) (by decide +kernel) (by decide +kernel) R_33 f0 (fx_k (c := 13) R_33 (by decide +kernel)) fun v_38 f_39 => ?_
    have f_40 := q_is_eq (b := 92) f_39 (fx_v R_33 (by decide +kernel)).symm
    refine go_iload_n (n := 1) (by decide +kernel) l1 f1 ?_
    refine go_aload_n (n := 0) (by decide +kernel) l0 f0 ?_
    refine go_getf (x := 79) (ci := 13) (kf := 25) (fin := 1) (t := 2) (by decide +kernel) (by decide +kernel) (by decide +kernel) R_33 f0 (fx_k (c := 13) R_33 (by decide +kernel)) fun v_41 f_42 => ?_
    have f_43 := q_is_eq (b := 92) f_42 (fx_v R_33 (by decide +kernel)).symm
    refine go_iload_n (n := 1) (by decide +kernel) l1 f1 ?_
    obtain ⟨g_46, h⟩ := gd_s h
    obtain ⟨x_48, e_49, h⟩ := lx_s h
    refine go_iald (kd := 100) (by decide +kernel) rfl R_33 f_43 f1 (fx_k (c := 100) R_33 (by decide +kernel)) (fx_x (a := 92) (ln := 30) R_33 (by decide +kernel) g_46) fun v_44 f_45 => ?_
    have f_47 := q_is_eq f_45 e_49
    refine go_iload_n (n := 2) (by decide +kernel) l2 f2 ?_
    refine go_iadd (by decide +kernel) f_47 f2 fun v_50 f_51 => ?_
    refine go_aload_n (n := 0) (by decide +kernel) l0 f0 ?_
    refine go_getf (x := 61) (ci := 13) (kf := 19) (fin := 1) (t := 2) (by decide +kernel) (by decide +kernel) (by decide +kernel) R_33 f0 (fx_k (c := 13) R_33 (by decide +kernel)) fun v_52 f_53 => ?_
    have f_54 := q_is_eq (b := 86) f_53 (fx_v R_33 (by decide +kernel)).symm
    refine go_iload_n (n := 1) (by decide +kernel) l1 f1 ?_
    obtain ⟨x_58, e_59, h⟩ := lx_s h
    refine go_iald (kd := 100) (by decide +kernel) rfl R_33 f_54 f1 (fx_k (c := 100) R_33 (by decide +kernel)) (fx_x (a := 86) (ln := 30) R_33 (by decide +kernel) g_46) fun v_55 f_56 => ?_
    have f_57 := q_is_eq f_56 e_59
    obtain ⟨x_61, hc_60, h⟩ := bp_s h
    refine go_callS (x := 679) (mi := 189) (n := 2) (b := 0) (as := [v_50, v_55]) (rest := [v1, v_38]) (by decide +kernel) (by decide +kernel) rfl rfl (q_sum8 _ (Nat.le_of_ble_eq_true rfl)) (om_X12_least (Nat.le_trans (by decide) hd) R_33 f_51 f_57 hc_60) (fun _ S_65 q_68 => ?_) (fun _ _ qq => kr_x qq)
    refine kr_z (by decide) q_68 fun v_63 f_64 R_66 E_67 => ?_
    obtain ⟨m_69, e_70, h⟩ := up_s h
    refine go_iast (kd := 100) (by decide +kernel) rfl R_66 f_40 f1 f_64 (fx_k (c := 100) R_66 (by decide +kernel)) (fx_x (a := 92) (ln := 30) R_66 (by decide +kernel) g_46) e_70 (fx_a R_66.2 (fx_k (c := 100) R_66 (by decide +kernel)) (And.left (fx_x (a := 92) (ln := 30) R_66 (by decide +kernel) g_46)) (by decide +kernel)) fun S_71 R_72 E_73 => ?_
    have E_74 := Ext.tr E_36 E_73
    refine go_aload_n (n := 0) (by decide +kernel) l0 f0 ?_
    refine go_getf (x := 79) (ci := 13) (kf := 25) (fin := 1) (t := 2) (by decide +kernel) (by decide +kernel) (by decide +kernel) R_72 f0 (fx_k (c := 13) R_72 (by decide +kernel)) fun v_75 f_76 => ?_
    have f_77 := q_is_eq (b := 92) f_76 (fx_v R_72 (by decide +kernel)).symm
    refine go_iload_n (n := 1) (by decide +kernel) l1 f1 ?_
    obtain ⟨x_81, e_82, h⟩ := lx_s h
    refine go_iald (kd := 100) (by decide +kernel) rfl R_72 f_77 f1 (fx_k (c := 100) R_72 (by decide +kernel)) (fx_x (a := 92) (ln := 30) R_72 (by decide +kernel) g_46) fun v_78 f_79 => ?_
    have f_80 := q_is_eq f_79 e_82
    cases h
    exact go_iret (by decide +kernel) rfl (Or.inl rfl) f_80 (hQ E_74 _ _ R_72 (q_out_v (by decide) f_80))
  · have h := it_f hp_37 h
    refine go_iconst (n := 0) (z := 0) (by decide +kernel) (by decide) fun v_83 f_84 => ?_
    cases h
    exact go_iret (by decide +kernel) rfl (Or.inl rfl) f_84 (hQ E_36 _ _ R_33 (q_out_v (by decide) f_84))
noncomputable def fm_X12_copy (p1 p2 : Int) (m0 : MM) : Option (Int × MM) := bp (fm_X12_isRun p1 m0) fun x_2 =>
if x_2 = 0 then
fj_X12_copy_28 p1 p2 1 m0
else
bp (fm_X12_isIn p2 1 100 m0) fun x_16 =>
if x_16 = 0 then
fj_X12_copy_28 p1 p2 2 m0
else
fj_X12_copy_28 p1 p2 0 m0
set_option maxHeartbeats 4000000 in
theorem om_X12_copy {xs : List Int32} {d : Nat} {S : QS} {m0 : MM} {p1 p2 : Int} {v0 : Value} {v1 : Value} {v2 : Value} {rz : Int} {rm : MM}
  (hd : 3 ≤ d) (R : Rp S m0) (f0 : q_is 2 v0 68) (f1 : q_is 0 v1 p1) (f2 : q_is 0 v2 p2)
  (h : fm_X12_copy p1 p2 m0 = some (rz, rm)) : Mt xs d 302 [v0, v1, v2] S (Cr 0 m0 rm rz) := by
  obtain ⟨d, rfl⟩ : ∃ e, d = e + 1 := ⟨d - 1, by omega⟩
  have hd : 2 ≤ d := Nat.le_of_succ_le_succ hd
  refine Mt.of (M := qM_X12_copy) rfl (by rw [sl_1 (q_is_cat f0 (Or.inr rfl)), sl_1 (q_is_cat f1 (Or.inl rfl)), sl_1 (q_is_cat f2 (Or.inl rfl)), sl_0]; decide) ?_
  rw [la_1 (q_is_cat f0 (Or.inr rfl)), la_1 (q_is_cat f1 (Or.inl rfl)), la_1 (q_is_cat f2 (Or.inl rfl)), la_0]
  obtain ⟨L, hL⟩ : ∃ L : QL, L = [(0, v0), (0 + 1, v1), (0 + 1 + 1, v2)] := ⟨_, rfl⟩
  rw [← hL]
  have l0 : q_lo L 0 = some v0 := by rw [hL]; rfl
  have l1 : q_lo L 1 = some v1 := by rw [hL]; rfl
  have l2 : q_lo L 2 = some v2 := by rw [hL]; rfl
  have hQ : Ext m0 rm → ∀ o S1, Rp S1 rm → q_out 0 o rz → (Cr 0 m0 rm rz) o S1 := fun a o S1 b e => ⟨b, a, e⟩
  unfold fm_X12_copy at h
  refine go_aload_n (n := 0) (by decide +kernel) l0 f0 ?_
  refine go_aload_n (n := 0) (by decide +kernel) l0 f0 ?_
  refine go_iload_n (n := 1) (by decide +kernel) l1 f1 ?_
  obtain ⟨x_2, hc_1, h⟩ := bp_s h
  refine go_callV (x := 580) (mi := 193) (n := 1) (ci := 13) (as := [v1]) (rest := [v0]) (by decide +kernel) (by decide +kernel) rfl rfl (q_sum8 _ (Nat.le_of_ble_eq_true rfl)) R f0 (fx_k (c := 13) R (by decide +kernel)) (om_X12_isRun (Nat.le_trans (by decide) hd) R f0 f1 hc_1) (fun _ S_6 q_9 => ?_) (fun _ _ qq => kr_x qq)
  refine kr_z (by decide) q_9 fun v_4 f_5 R_7 E_8 => ?_
  refine go_if (c := .ne) (o := 7) (t := 13) (P := ¬ (x_2 = 0)) (by decide +kernel) (by decide +kernel) f_5 (Iff.rfl) (fun hp_10 => ?_) (fun hp_10 => ?_)
  · have h := it_f hp_10 h
    refine go_iload_n (n := 2) (by decide +kernel) l2 f2 ?_
    refine go_iconst (n := 1) (z := 1) (by decide +kernel) (by decide) fun v_11 f_12 => ?_
    refine go_bipush (n := 100) (z := 100) (by decide +kernel) (by decide) fun v_13 f_14 => ?_
    obtain ⟨x_16, hc_15, h⟩ := bp_s h
    refine go_callS (x := 306) (mi := 188) (n := 3) (b := 0) (as := [v2, v_11, v_13]) (rest := [v0]) (by decide +kernel) (by decide +kernel) rfl rfl (q_sum8 _ (Nat.le_of_ble_eq_true rfl)) (om_X12_isIn (Nat.le_trans (by decide) hd) R_7 f2 f_12 f_14 hc_15) (fun _ S_20 q_23 => ?_) (fun _ _ qq => kr_x qq)
    refine kr_z (by decide) q_23 fun v_18 f_19 R_21 E_22 => ?_
    refine go_if (c := .eq) (o := 7) (t := 27) (P := x_16 = 0) (by decide +kernel) (by decide +kernel) f_19 (Iff.rfl) (fun hp_24 => ?_) (fun hp_24 => ?_)
    · have h := it_t hp_24 h
      refine go_iconst (n := 2) (z := 2) (by decide +kernel) (by decide) fun v_25 f_26 => ?_
      exact oj_X12_copy_28 hd R_21 l0 f0 l1 f1 l2 f2 f_26 f0 hQ h
    · have h := it_f hp_24 h
      refine go_iconst (n := 0) (z := 0) (by decide +kernel) (by decide) fun v_85 f_86 => ?_
      refine go_goto (o := 4) (t := 28) (by decide +kernel) (by decide +kernel) ?_
      exact oj_X12_copy_28 hd R_21 l0 f0 l1 f1 l2 f2 f_86 f0 hQ h
  · have h := it_n hp_10 h
    refine go_iconst (n := 1) (z := 1) (by decide +kernel) (by decide) fun v_87 f_88 => ?_
    refine go_goto (o := 18) (t := 28) (by decide +kernel) (by decide +kernel) ?_
    exact oj_X12_copy_28 hd R_7 l0 f0 l1 f1 l2 f2 f_88 f0 hQ h
noncomputable def fl_X12_cutsRun_21 (y1 y2 : Int) (k97 : MM → Option (Int × MM)) : Nat → Int → MM → Option (Int × MM)
  | 0, _, _ => none
  | n + 1, y3, m => gd (0 ≤ y1 ∧ y1 < 30) <| lx (m 86 y1) fun x_47 =>
if y3 < x_47 then
bp (fm_X12_kindAt y1 y3 m) fun x_51 =>
if x_51 = 4 then
lx (m 68 84) fun x_79 =>
gd (0 ≤ x_79 ∧ x_79 < 4096) <| up m 139 x_79 y1 fun m_82 =>
lx (m_82 68 84) fun x_94 =>
bp (fm_X12_xAt y1 y3 m_82) fun x_97 =>
gd (0 ≤ x_94 ∧ x_94 < 4096) <| up m_82 140 x_94 x_97 fun m_106 =>
lx (m_106 68 84) fun x_118 =>
bp (fm_X12_yAt y1 y3 m_106) fun x_121 =>
gd (0 ≤ x_118 ∧ x_118 < 4096) <| up m_106 141 x_118 x_121 fun m_130 =>
lx (m_130 68 84) fun x_139 =>
up m_130 68 84 (w32 (x_139 + 1)) fun m_145 =>
lx (w32 (y3 + 1)) fun x_156 =>
fl_X12_cutsRun_21 y1 y2 k97 n x_156 m_145
else
lx (w32 (y3 + 1)) fun x_67 =>
fl_X12_cutsRun_21 y1 y2 k97 n x_67 m
else
k97 m
set_option maxHeartbeats 4000000 in
theorem ol_X12_cutsRun_21 {xs : List Int32} {d : Nat} {Q : QO → QS → Prop} {mb : MM} {y1 y2 : Int} {k97 : MM → Option (Int × MM)} {rz : Int} {rm : MM}
  (hd : 3 ≤ d)
  (hk97 : ∀ mq : MM, Ext mb mq → ∀ {Sq : QS} {Lq : QL} {u0 : Value} {u1 : Value} {u2 : Value}, k97 mq = some (rz, rm) → Rp Sq mq → q_lo Lq 0 = some u0 → q_is 2 u0 68 → q_lo Lq 1 = some u1 → q_is 0 u1 y1 → q_lo Lq 2 = some u2 → q_is 0 u2 y2 → Go xs d qM_X12_cutsRun 97 Lq [] Sq Q)
  (hQ : Ext mb rm → ∀ o S1, Rp S1 rm → q_out 0 o rz → Q o S1) :
  ∀ (n : Nat) {m : MM} {S : QS} {L : QL} {y3 : Int} {v0 : Value} {v1 : Value} {v2 : Value} {v3 : Value} , Ext mb m → fl_X12_cutsRun_21 y1 y2 k97 n y3 m = some (rz, rm) → Rp S m → q_lo L 0 = some v0 → q_is 2 v0 68 → q_lo L 1 = some v1 → q_is 0 v1 y1 → q_lo L 2 = some v2 → q_is 0 v2 y2 → q_lo L 3 = some v3 → q_is 0 v3 y3 → Go xs d qM_X12_cutsRun 21 L [] S Q := by
  intro n
  induction n with
  | zero => intro m S L y3 v0 v1 v2 v3; intro E h R l0 f0 l1 f1 l2 f2 l3 f3; cases h
  | succ n ih0 =>
    intro m S L y3 v0 v1 v2 v3; intro E h R l0 f0 l1 f1 l2 f2 l3 f3
    have ih : ∀ mq : MM, Ext mb mq → ∀ {z3 : Int} {Sq : QS} {Lq : QL} {u0 : Value} {u1 : Value} {u2 : Value} {u3 : Value}, fl_X12_cutsRun_21 y1 y2 k97 n z3 mq = some (rz, rm) → Rp Sq mq → q_lo Lq 0 = some u0 → q_is 2 u0 68 → q_lo Lq 1 = some u1 → q_is 0 u1 y1 → q_lo Lq 2 = some u2 → q_is 0 u2 y2 → q_lo Lq 3 = some u3 → q_is 0 u3 z3 → Go xs d qM_X12_cutsRun 21 Lq [] Sq Q := fun mq b => by intros; exact ih0 b ‹_› ‹_› ‹_› ‹_› ‹_› ‹_› ‹_› ‹_› ‹_› ‹_›
    unfold fl_X12_cutsRun_21 at h
    refine go_iload_n (n := 3) (by decide +kernel) l3 f3 ?_
    refine go_aload_n (n := 0) (by decide +kernel) l0 f0 ?_
    refine go_getf (x := 61) (ci := 13) (kf := 19) (fin := 1) (t := 2) (by decide +kernel) (by decide +kernel) (by decide +kernel) R f0 (fx_k (c := 13) R (by decide +kernel)) fun v_40 f_41 => ?_
    have f_42 := q_is_eq (b := 86) f_41 (fx_v R (by decide +kernel)).symm
    refine go_iload_n (n := 1) (by decide +kernel) l1 f1 ?_
    obtain ⟨g_45, h⟩ := gd_s h
    obtain ⟨x_47, e_48, h⟩ := lx_s h
    refine go_iald (kd := 100) (by decide +kernel) rfl R f_42 f1 (fx_k (c := 100) R (by decide +kernel)) (fx_x (a := 86) (ln := 30) R (by decide +kernel) g_45) fun v_43 f_44 => ?_
    have f_46 := q_is_eq f_44 e_48
    refine go_icmp (c := .ge) (o := 69) (t := 97) (P := ¬ (y3 < x_47)) (by decide +kernel) (by decide +kernel) f3 f_46 (Int.not_lt.symm) (fun hp_49 => ?_) (fun hp_49 => ?_)
    · have h := it_f hp_49 h
      exact hk97 m E h R l0 f0 l1 f1 l2 f2
    · have h := it_n hp_49 h
      refine go_aload_n (n := 0) (by decide +kernel) l0 f0 ?_
      refine go_iload_n (n := 1) (by decide +kernel) l1 f1 ?_
      refine go_iload_n (n := 3) (by decide +kernel) l3 f3 ?_
      obtain ⟨x_51, hc_50, h⟩ := bp_s h
      refine go_callV (x := 341) (mi := 204) (n := 2) (ci := 13) (as := [v1, v3]) (rest := []) (by decide +kernel) (by decide +kernel) rfl rfl (q_sum8 _ (Nat.le_of_ble_eq_true rfl)) R f0 (fx_k (c := 13) R (by decide +kernel)) (om_X12_kindAt (Nat.le_trans (by decide) hd) R f0 f1 f3 hc_50) (fun _ S_55 q_58 => ?_) (fun _ _ qq => kr_x qq)
      refine kr_z (by decide) q_58 fun v_53 f_54 R_56 E_57 => ?_
      refine go_iconst (n := 4) (z := 4) (by decide +kernel) (by decide) fun v_59 f_60 => ?_
      refine go_icmp (c := .ne) (o := 53) (t := 91) (P := ¬ (x_51 = 4)) (by decide +kernel) (by decide +kernel) f_54 f_60 (Iff.rfl) (fun hp_61 => ?_) (fun hp_61 => ?_)
      · have h := it_f hp_61 h
        refine go_iinc (n := 3) (c := 1) (c' := 1) (by decide +kernel) (by decide +kernel) l3 f3 (by decide) fun L_62 v_63 f_64 l_65 kp_66 => ?_
        obtain ⟨x_67, e_68, h⟩ := lx_s h
        have f_69 := q_is_eq f_64 e_68
        have l_70 := kp_66 0 _ l0 (by decide) (Or.inl (by decide))
        have l_71 := kp_66 1 _ l1 (by decide) (Or.inl (by decide))
        have l_72 := kp_66 2 _ l2 (by decide) (Or.inr (q_is_cat f2 (Or.inl rfl)))
        refine go_goto (o := (-73)) (t := 21) (by decide +kernel) (by decide +kernel) ?_
        exact ih m E h R_56 l_70 f0 l_71 f1 l_72 f2 l_65 f_69
      · have h := it_n hp_61 h
        refine go_aload_n (n := 0) (by decide +kernel) l0 f0 ?_
        refine go_getf (x := 232) (ci := 13) (kf := 85) (fin := 1) (t := 2) (by decide +kernel) (by decide +kernel) (by decide +kernel) R_56 f0 (fx_k (c := 13) R_56 (by decide +kernel)) fun v_73 f_74 => ?_
        have f_75 := q_is_eq (b := 139) f_74 (fx_v R_56 (by decide +kernel)).symm
        refine go_aload_n (n := 0) (by decide +kernel) l0 f0 ?_
        obtain ⟨x_79, e_80, h⟩ := lx_s h
        refine go_getf (x := 682) (ci := 13) (kf := 84) (fin := 0) (t := 0) (by decide +kernel) (by decide +kernel) (by decide +kernel) R_56 f0 (fx_k (c := 13) R_56 (by decide +kernel)) fun v_76 f_77 => ?_
        have f_78 := q_is_eq f_77 e_80
        refine go_iload_n (n := 1) (by decide +kernel) l1 f1 ?_
        obtain ⟨g_81, h⟩ := gd_s h
        obtain ⟨m_82, e_83, h⟩ := up_s h
        refine go_iast (kd := 100) (by decide +kernel) rfl R_56 f_75 f_78 f1 (fx_k (c := 100) R_56 (by decide +kernel)) (fx_x (a := 139) (ln := 4096) R_56 (by decide +kernel) g_81) e_83 (fx_a R_56.2 (fx_k (c := 100) R_56 (by decide +kernel)) (And.left (fx_x (a := 139) (ln := 4096) R_56 (by decide +kernel) g_81)) (by decide +kernel)) fun S_84 R_85 E_86 => ?_
        have E_87 := Ext.tr E E_86
        refine go_aload_n (n := 0) (by decide +kernel) l0 f0 ?_
        refine go_getf (x := 235) (ci := 13) (kf := 86) (fin := 1) (t := 2) (by decide +kernel) (by decide +kernel) (by decide +kernel) R_85 f0 (fx_k (c := 13) R_85 (by decide +kernel)) fun v_88 f_89 => ?_
        have f_90 := q_is_eq (b := 140) f_89 (fx_v R_85 (by decide +kernel)).symm
        refine go_aload_n (n := 0) (by decide +kernel) l0 f0 ?_
        obtain ⟨x_94, e_95, h⟩ := lx_s h
        refine go_getf (x := 682) (ci := 13) (kf := 84) (fin := 0) (t := 0) (by decide +kernel) (by decide +kernel) (by decide +kernel) R_85 f0 (fx_k (c := 13) R_85 (by decide +kernel)) fun v_91 f_92 => ?_
        have f_93 := q_is_eq f_92 e_95
        refine go_aload_n (n := 0) (by decide +kernel) l0 f0 ?_
        refine go_iload_n (n := 1) (by decide +kernel) l1 f1 ?_
        refine go_iload_n (n := 3) (by decide +kernel) l3 f3 ?_
        obtain ⟨x_97, hc_96, h⟩ := bp_s h
        refine go_callV (x := 344) (mi := 206) (n := 2) (ci := 13) (as := [v1, v3]) (rest := [v_91, v_88]) (by decide +kernel) (by decide +kernel) rfl rfl (q_sum8 _ (Nat.le_of_ble_eq_true rfl)) R_85 f0 (fx_k (c := 13) R_85 (by decide +kernel)) (om_X12_xAt (Nat.le_trans (by decide) hd) R_85 f0 f1 f3 hc_96) (fun _ S_101 q_104 => ?_) (fun _ _ qq => kr_x qq)
        refine kr_z (by decide) q_104 fun v_99 f_100 R_102 E_103 => ?_
        obtain ⟨g_105, h⟩ := gd_s h
        obtain ⟨m_106, e_107, h⟩ := up_s h
        refine go_iast (kd := 100) (by decide +kernel) rfl R_102 f_90 f_93 f_100 (fx_k (c := 100) R_102 (by decide +kernel)) (fx_x (a := 140) (ln := 4096) R_102 (by decide +kernel) g_105) e_107 (fx_a R_102.2 (fx_k (c := 100) R_102 (by decide +kernel)) (And.left (fx_x (a := 140) (ln := 4096) R_102 (by decide +kernel) g_105)) (by decide +kernel)) fun S_108 R_109 E_110 => ?_
        have E_111 := Ext.tr E_87 E_110
        refine go_aload_n (n := 0) (by decide +kernel) l0 f0 ?_
        refine go_getf (x := 238) (ci := 13) (kf := 87) (fin := 1) (t := 2) (by decide +kernel) (by decide +kernel) (by decide +kernel) R_109 f0 (fx_k (c := 13) R_109 (by decide +kernel)) fun v_112 f_113 => ?_
        have f_114 := q_is_eq (b := 141) f_113 (fx_v R_109 (by decide +kernel)).symm
        refine go_aload_n (n := 0) (by decide +kernel) l0 f0 ?_
        obtain ⟨x_118, e_119, h⟩ := lx_s h
        refine go_getf (x := 682) (ci := 13) (kf := 84) (fin := 0) (t := 0) (by decide +kernel) (by decide +kernel) (by decide +kernel) R_109 f0 (fx_k (c := 13) R_109 (by decide +kernel)) fun v_115 f_116 => ?_
        have f_117 := q_is_eq f_116 e_119
        refine go_aload_n (n := 0) (by decide +kernel) l0 f0 ?_
        refine go_iload_n (n := 1) (by decide +kernel) l1 f1 ?_
        refine go_iload_n (n := 3) (by decide +kernel) l3 f3 ?_
        obtain ⟨x_121, hc_120, h⟩ := bp_s h
        refine go_callV (x := 397) (mi := 205) (n := 2) (ci := 13) (as := [v1, v3]) (rest := [v_115, v_112]) (by decide +kernel) (by decide +kernel) rfl rfl (q_sum8 _ (Nat.le_of_ble_eq_true rfl)) R_109 f0 (fx_k (c := 13) R_109 (by decide +kernel)) (om_X12_yAt (Nat.le_trans (by decide) hd) R_109 f0 f1 f3 hc_120) (fun _ S_125 q_128 => ?_) (fun _ _ qq => kr_x qq)
        refine kr_z (by decide) q_128 fun v_123 f_124 R_126 E_127 => ?_
        obtain ⟨g_129, h⟩ := gd_s h
        obtain ⟨m_130, e_131, h⟩ := up_s h
        refine go_iast (kd := 100) (by decide +kernel) rfl R_126 f_114 f_117 f_124 (fx_k (c := 100) R_126 (by decide +kernel)) (fx_x (a := 141) (ln := 4096) R_126 (by decide +kernel) g_129) e_131 (fx_a R_126.2 (fx_k (c := 100) R_126 (by decide +kernel)) (And.left (fx_x (a := 141) (ln := 4096) R_126 (by decide +kernel) g_129)) (by decide +kernel)) fun S_132 R_133 E_134 => ?_
        have E_135 := Ext.tr E_111 E_134
        refine go_aload_n (n := 0) (by decide +kernel) l0 f0 ?_
        refine go_dup (by decide +kernel) f0 (Or.inr rfl) ?_
        obtain ⟨x_139, e_140, h⟩ := lx_s h
        refine go_getf (x := 682) (ci := 13) (kf := 84) (fin := 0) (t := 0) (by decide +kernel) (by decide +kernel) (by decide +kernel) R_133 f0 (fx_k (c := 13) R_133 (by decide +kernel)) fun v_136 f_137 => ?_
        have f_138 := q_is_eq f_137 e_140
        refine go_iconst (n := 1) (z := 1) (by decide +kernel) (by decide) fun v_141 f_142 => ?_
        refine go_iadd (by decide +kernel) f_138 f_142 fun v_143 f_144 => ?_
        obtain ⟨m_145, e_146, h⟩ := up_s h
        refine go_putf (x := 682) (ci := 13) (kf := 84) (fin := 0) (zt := 0) (by decide +kernel) (by decide +kernel) (by decide) (by decide +kernel) (by decide) (Or.inl rfl) R_133 f0 f_144 (fun hq => absurd hq (by decide)) (fx_k (c := 13) R_133 (by decide +kernel)) e_146 (fx_f (j := 84) R_133.2 (fx_k (c := 13) R_133 (by decide +kernel)) (by decide +kernel)) fun S_147 R_148 E_149 => ?_
        have E_150 := Ext.tr E_135 E_149
        refine go_iinc (n := 3) (c := 1) (c' := 1) (by decide +kernel) (by decide +kernel) l3 f3 (by decide) fun L_151 v_152 f_153 l_154 kp_155 => ?_
        obtain ⟨x_156, e_157, h⟩ := lx_s h
        have f_158 := q_is_eq f_153 e_157
        have l_159 := kp_155 0 _ l0 (by decide) (Or.inl (by decide))
        have l_160 := kp_155 1 _ l1 (by decide) (Or.inl (by decide))
        have l_161 := kp_155 2 _ l2 (by decide) (Or.inr (q_is_cat f2 (Or.inl rfl)))
        refine go_goto (o := (-73)) (t := 21) (by decide +kernel) (by decide +kernel) ?_
        exact ih m_145 E_150 h R_148 l_159 f0 l_160 f1 l_161 f2 l_154 f_158
noncomputable def fl_X12_cutsRun_160 (y1 y2 : Int) : Nat → Int → MM → Option (Int × MM)
  | 0, _, _ => none
  | n + 1, y3, m => lx (m 68 12) fun x_280 =>
if y3 < x_280 then
gd (0 ≤ y3 ∧ y3 < 30) <| lx (m 84 y3) fun x_293 =>
if x_293 = y1 then
lx (m 85 y3) fun x_325 =>
gd (0 ≤ y1 ∧ y1 < 30) <| lx (m 86 y1) fun x_334 =>
if x_325 < x_334 then
up m 84 y3 x_293 fun m_343 =>
lx (w32 (y3 + 1)) fun x_354 =>
fl_X12_cutsRun_160 y1 y2 n x_354 m_343
else
up m 84 y3 (-1) fun m_362 =>
lx (w32 (y3 + 1)) fun x_373 =>
fl_X12_cutsRun_160 y1 y2 n x_373 m_362
else
up m 84 y3 x_293 fun m_302 =>
lx (w32 (y3 + 1)) fun x_313 =>
fl_X12_cutsRun_160 y1 y2 n x_313 m_302
else
some (y2, m)
set_option maxHeartbeats 4000000 in
theorem ol_X12_cutsRun_160 {xs : List Int32} {d : Nat} {Q : QO → QS → Prop} {mb : MM} {y1 y2 : Int} {rz : Int} {rm : MM}
  (hd : 3 ≤ d)
  (hQ : Ext mb rm → ∀ o S1, Rp S1 rm → q_out 0 o rz → Q o S1) :
  ∀ (n : Nat) {m : MM} {S : QS} {L : QL} {y3 : Int} {v0 : Value} {v1 : Value} {v2 : Value} {v3 : Value} , Ext mb m → fl_X12_cutsRun_160 y1 y2 n y3 m = some (rz, rm) → Rp S m → q_lo L 0 = some v0 → q_is 2 v0 68 → q_lo L 1 = some v1 → q_is 0 v1 y1 → q_lo L 2 = some v2 → q_is 0 v2 y2 → q_lo L 3 = some v3 → q_is 0 v3 y3 → Go xs d qM_X12_cutsRun 160 L [] S Q := by
  intro n
  induction n with
  | zero => intro m S L y3 v0 v1 v2 v3; intro E h R l0 f0 l1 f1 l2 f2 l3 f3; cases h
  | succ n ih0 =>
    intro m S L y3 v0 v1 v2 v3; intro E h R l0 f0 l1 f1 l2 f2 l3 f3
    have ih : ∀ mq : MM, Ext mb mq → ∀ {z3 : Int} {Sq : QS} {Lq : QL} {u0 : Value} {u1 : Value} {u2 : Value} {u3 : Value}, fl_X12_cutsRun_160 y1 y2 n z3 mq = some (rz, rm) → Rp Sq mq → q_lo Lq 0 = some u0 → q_is 2 u0 68 → q_lo Lq 1 = some u1 → q_is 0 u1 y1 → q_lo Lq 2 = some u2 → q_is 0 u2 y2 → q_lo Lq 3 = some u3 → q_is 0 u3 z3 → Go xs d qM_X12_cutsRun 160 Lq [] Sq Q := fun mq b => by intros; exact ih0 b ‹_› ‹_› ‹_› ‹_› ‹_› ‹_› ‹_› ‹_› ‹_› ‹_›
    unfold fl_X12_cutsRun_160 at h
    refine go_iload_n (n := 3) (by decide +kernel) l3 f3 ?_
    refine go_aload_n (n := 0) (by decide +kernel) l0 f0 ?_
    obtain ⟨x_280, e_281, h⟩ := lx_s h
    refine go_getf (x := 310) (ci := 13) (kf := 12) (fin := 0) (t := 0) (by decide +kernel) (by decide +kernel) (by decide +kernel) R f0 (fx_k (c := 13) R (by decide +kernel)) fun v_277 f_278 => ?_
    have f_279 := q_is_eq f_278 e_281
    refine go_icmp (c := .ge) (o := 50) (t := 215) (P := ¬ (y3 < x_280)) (by decide +kernel) (by decide +kernel) f3 f_279 (Int.not_lt.symm) (fun hp_282 => ?_) (fun hp_282 => ?_)
    · have h := it_f hp_282 h
      refine go_iload_n (n := 2) (by decide +kernel) l2 f2 ?_
      cases h
      exact go_iret (by decide +kernel) rfl (Or.inl rfl) f2 (hQ E _ _ R (q_out_v (by decide) f2))
    · have h := it_n hp_282 h
      refine go_aload_n (n := 0) (by decide +kernel) l0 f0 ?_
      refine go_getf (x := 55) (ci := 13) (kf := 17) (fin := 1) (t := 2) (by decide +kernel) (by decide +kernel) (by decide +kernel) R f0 (fx_k (c := 13) R (by decide +kernel)) fun v_283 f_284 => ?_
      have f_285 := q_is_eq (b := 84) f_284 (fx_v R (by decide +kernel)).symm
      refine go_iload_n (n := 3) (by decide +kernel) l3 f3 ?_
      refine go_aload_n (n := 0) (by decide +kernel) l0 f0 ?_
      refine go_getf (x := 55) (ci := 13) (kf := 17) (fin := 1) (t := 2) (by decide +kernel) (by decide +kernel) (by decide +kernel) R f0 (fx_k (c := 13) R (by decide +kernel)) fun v_286 f_287 => ?_
      have f_288 := q_is_eq (b := 84) f_287 (fx_v R (by decide +kernel)).symm
      refine go_iload_n (n := 3) (by decide +kernel) l3 f3 ?_
      obtain ⟨g_291, h⟩ := gd_s h
      obtain ⟨x_293, e_294, h⟩ := lx_s h
      refine go_iald (kd := 100) (by decide +kernel) rfl R f_288 f3 (fx_k (c := 100) R (by decide +kernel)) (fx_x (a := 84) (ln := 30) R (by decide +kernel) g_291) fun v_289 f_290 => ?_
      have f_292 := q_is_eq f_290 e_294
      refine go_iload_n (n := 1) (by decide +kernel) l1 f1 ?_
      refine go_icmp (c := .ne) (o := 22) (t := 202) (P := ¬ (x_293 = y1)) (by decide +kernel) (by decide +kernel) f_292 f1 (Iff.rfl) (fun hp_295 => ?_) (fun hp_295 => ?_)
      · have h := it_f hp_295 h
        refine go_aload_n (n := 0) (by decide +kernel) l0 f0 ?_
        refine go_getf (x := 55) (ci := 13) (kf := 17) (fin := 1) (t := 2) (by decide +kernel) (by decide +kernel) (by decide +kernel) R f0 (fx_k (c := 13) R (by decide +kernel)) fun v_296 f_297 => ?_
        have f_298 := q_is_eq (b := 84) f_297 (fx_v R (by decide +kernel)).symm
        refine go_iload_n (n := 3) (by decide +kernel) l3 f3 ?_
        refine go_iald (kd := 100) (by decide +kernel) rfl R f_298 f3 (fx_k (c := 100) R (by decide +kernel)) (fx_x (a := 84) (ln := 30) R (by decide +kernel) g_291) fun v_299 f_300 => ?_
        have f_301 := q_is_eq f_300 e_294
        obtain ⟨m_302, e_303, h⟩ := up_s h
        refine go_iast (kd := 100) (by decide +kernel) rfl R f_285 f3 f_301 (fx_k (c := 100) R (by decide +kernel)) (fx_x (a := 84) (ln := 30) R (by decide +kernel) g_291) e_303 (fx_a R.2 (fx_k (c := 100) R (by decide +kernel)) (And.left (fx_x (a := 84) (ln := 30) R (by decide +kernel) g_291)) (by decide +kernel)) fun S_304 R_305 E_306 => ?_
        have E_307 := Ext.tr E E_306
        refine go_iinc (n := 3) (c := 1) (c' := 1) (by decide +kernel) (by decide +kernel) l3 f3 (by decide) fun L_308 v_309 f_310 l_311 kp_312 => ?_
        obtain ⟨x_313, e_314, h⟩ := lx_s h
        have f_315 := q_is_eq f_310 e_314
        have l_316 := kp_312 0 _ l0 (by decide) (Or.inl (by decide))
        have l_317 := kp_312 1 _ l1 (by decide) (Or.inl (by decide))
        have l_318 := kp_312 2 _ l2 (by decide) (Or.inr (q_is_cat f2 (Or.inl rfl)))
        refine go_goto (o := (-52)) (t := 160) (by decide +kernel) (by decide +kernel) ?_
        exact ih m_302 E_307 h R_305 l_316 f0 l_317 f1 l_318 f2 l_311 f_315
      · have h := it_n hp_295 h
        refine go_aload_n (n := 0) (by decide +kernel) l0 f0 ?_
        refine go_getf (x := 58) (ci := 13) (kf := 18) (fin := 1) (t := 2) (by decide +kernel) (by decide +kernel) (by decide +kernel) R f0 (fx_k (c := 13) R (by decide +kernel)) fun v_319 f_320 => ?_
        have f_321 := q_is_eq (b := 85) f_320 (fx_v R (by decide +kernel)).symm
        refine go_iload_n (n := 3) (by decide +kernel) l3 f3 ?_
        obtain ⟨x_325, e_326, h⟩ := lx_s h
        refine go_iald (kd := 100) (by decide +kernel) rfl R f_321 f3 (fx_k (c := 100) R (by decide +kernel)) (fx_x (a := 85) (ln := 30) R (by decide +kernel) g_291) fun v_322 f_323 => ?_
        have f_324 := q_is_eq f_323 e_326
        refine go_aload_n (n := 0) (by decide +kernel) l0 f0 ?_
        refine go_getf (x := 61) (ci := 13) (kf := 19) (fin := 1) (t := 2) (by decide +kernel) (by decide +kernel) (by decide +kernel) R f0 (fx_k (c := 13) R (by decide +kernel)) fun v_327 f_328 => ?_
        have f_329 := q_is_eq (b := 86) f_328 (fx_v R (by decide +kernel)).symm
        refine go_iload_n (n := 1) (by decide +kernel) l1 f1 ?_
        obtain ⟨g_332, h⟩ := gd_s h
        obtain ⟨x_334, e_335, h⟩ := lx_s h
        refine go_iald (kd := 100) (by decide +kernel) rfl R f_329 f1 (fx_k (c := 100) R (by decide +kernel)) (fx_x (a := 86) (ln := 30) R (by decide +kernel) g_332) fun v_330 f_331 => ?_
        have f_333 := q_is_eq f_331 e_335
        refine go_icmp (c := .lt) (o := 7) (t := 202) (P := x_325 < x_334) (by decide +kernel) (by decide +kernel) f_324 f_333 (Iff.rfl) (fun hp_336 => ?_) (fun hp_336 => ?_)
        · have h := it_t hp_336 h
          refine go_aload_n (n := 0) (by decide +kernel) l0 f0 ?_
          refine go_getf (x := 55) (ci := 13) (kf := 17) (fin := 1) (t := 2) (by decide +kernel) (by decide +kernel) (by decide +kernel) R f0 (fx_k (c := 13) R (by decide +kernel)) fun v_337 f_338 => ?_
          have f_339 := q_is_eq (b := 84) f_338 (fx_v R (by decide +kernel)).symm
          refine go_iload_n (n := 3) (by decide +kernel) l3 f3 ?_
          refine go_iald (kd := 100) (by decide +kernel) rfl R f_339 f3 (fx_k (c := 100) R (by decide +kernel)) (fx_x (a := 84) (ln := 30) R (by decide +kernel) g_291) fun v_340 f_341 => ?_
          have f_342 := q_is_eq f_341 e_294
          obtain ⟨m_343, e_344, h⟩ := up_s h
          refine go_iast (kd := 100) (by decide +kernel) rfl R f_285 f3 f_342 (fx_k (c := 100) R (by decide +kernel)) (fx_x (a := 84) (ln := 30) R (by decide +kernel) g_291) e_344 (fx_a R.2 (fx_k (c := 100) R (by decide +kernel)) (And.left (fx_x (a := 84) (ln := 30) R (by decide +kernel) g_291)) (by decide +kernel)) fun S_345 R_346 E_347 => ?_
          have E_348 := Ext.tr E E_347
          refine go_iinc (n := 3) (c := 1) (c' := 1) (by decide +kernel) (by decide +kernel) l3 f3 (by decide) fun L_349 v_350 f_351 l_352 kp_353 => ?_
          obtain ⟨x_354, e_355, h⟩ := lx_s h
          have f_356 := q_is_eq f_351 e_355
          have l_357 := kp_353 0 _ l0 (by decide) (Or.inl (by decide))
          have l_358 := kp_353 1 _ l1 (by decide) (Or.inl (by decide))
          have l_359 := kp_353 2 _ l2 (by decide) (Or.inr (q_is_cat f2 (Or.inl rfl)))
          refine go_goto (o := (-52)) (t := 160) (by decide +kernel) (by decide +kernel) ?_
          exact ih m_343 E_348 h R_346 l_357 f0 l_358 f1 l_359 f2 l_352 f_356
        · have h := it_f hp_336 h
          refine go_iconst (n := (-1)) (z := (-1)) (by decide +kernel) (by decide) fun v_360 f_361 => ?_
          refine go_goto (o := 9) (t := 208) (by decide +kernel) (by decide +kernel) ?_
          obtain ⟨m_362, e_363, h⟩ := up_s h
          refine go_iast (kd := 100) (by decide +kernel) rfl R f_285 f3 f_361 (fx_k (c := 100) R (by decide +kernel)) (fx_x (a := 84) (ln := 30) R (by decide +kernel) g_291) e_363 (fx_a R.2 (fx_k (c := 100) R (by decide +kernel)) (And.left (fx_x (a := 84) (ln := 30) R (by decide +kernel) g_291)) (by decide +kernel)) fun S_364 R_365 E_366 => ?_
          have E_367 := Ext.tr E E_366
          refine go_iinc (n := 3) (c := 1) (c' := 1) (by decide +kernel) (by decide +kernel) l3 f3 (by decide) fun L_368 v_369 f_370 l_371 kp_372 => ?_
          obtain ⟨x_373, e_374, h⟩ := lx_s h
          have f_375 := q_is_eq f_370 e_374
          have l_376 := kp_372 0 _ l0 (by decide) (Or.inl (by decide))
          have l_377 := kp_372 1 _ l1 (by decide) (Or.inl (by decide))
          have l_378 := kp_372 2 _ l2 (by decide) (Or.inr (q_is_cat f2 (Or.inl rfl)))
          refine go_goto (o := (-52)) (t := 160) (by decide +kernel) (by decide +kernel) ?_
          exact ih m_362 E_367 h R_365 l_376 f0 l_377 f1 l_378 f2 l_371 f_375
noncomputable def fj_X12_cutsRun_151 (y1 y2 s0 s1 s2 s3 : Int) (m : MM) : Option (Int × MM) := gd (okc m s3 100) <| gd (okx m s3 s2) <| up m s3 s2 (w32 (s1 + s0)) fun m_253 =>
bd (fm_X12_stops y1 m_253) fun x_260 m_261 =>
fl_X12_cutsRun_160 y1 y2  BIG 0 m_261
set_option maxHeartbeats 4000000 in
theorem oj_X12_cutsRun_151 {xs : List Int32} {d : Nat} {S : QS} {L : QL} {Q : QO → QS → Prop} {m : MM} {y1 y2 s0 s1 s2 s3 : Int} {v0 : Value} {v1 : Value} {v2 : Value} {w0 : Value} {w1 : Value} {w2 : Value} {w3 : Value}  {rz : Int} {rm : MM}
  (hd : 3 ≤ d) (R : Rp S m) (l0 : q_lo L 0 = some v0) (f0 : q_is 2 v0 68) (l1 : q_lo L 1 = some v1) (f1 : q_is 0 v1 y1) (l2 : q_lo L 2 = some v2) (f2 : q_is 0 v2 y2) (fs0 : q_is 0 w0 s0) (fs1 : q_is 0 w1 s1) (fs2 : q_is 0 w2 s2) (fs3 : q_is 2 w3 s3)
  (hQ : Ext m rm → ∀ o S1, Rp S1 rm → q_out 0 o rz → Q o S1)
  (h : fj_X12_cutsRun_151 y1 y2 s0 s1 s2 s3 m = some (rz, rm)) : Go xs d qM_X12_cutsRun 151 L [w0, w1, w2, w3] S Q := by
  unfold fj_X12_cutsRun_151 at h
  refine go_iadd (by decide +kernel) fs1 fs0 fun v_249 f_250 => ?_
  obtain ⟨g_251, h⟩ := gd_s h
  obtain ⟨g_252, h⟩ := gd_s h
  obtain ⟨m_253, e_254, h⟩ := up_s h
  refine go_iast (kd := 100) (by decide +kernel) rfl R fs3 fs2 f_250 g_251 g_252 e_254 (fx_a R.2 g_251 (And.left g_252) (by decide +kernel)) fun S_255 R_256 E_257 => ?_
  have E_258 := E_257
  refine go_aload_n (n := 0) (by decide +kernel) l0 f0 ?_
  refine go_iload_n (n := 1) (by decide +kernel) l1 f1 ?_
  obtain ⟨x_260, m_261, hc_259, h⟩ := bd_s h
  refine go_callV (x := 564) (mi := 254) (n := 1) (ci := 13) (as := [v1]) (rest := []) (by decide +kernel) (by decide +kernel) rfl rfl (q_sum8 _ (Nat.le_of_ble_eq_true rfl)) R_256 f0 (fx_k (c := 13) R_256 (by decide +kernel)) (om_X12_stops (Nat.le_trans (by decide) hd) R_256 f0 f1 hc_259) (fun _ S_264 q_267 => ?_) (fun _ _ qq => kr_x qq)
  refine kr_v q_267 fun R_265 E_266 => ?_
  have E_268 := Ext.tr E_258 E_266
  refine go_iconst (n := 0) (z := 0) (by decide +kernel) (by decide) fun v_269 f_270 => ?_
  refine go_istore_n (n := 3) (by decide +kernel) (by decide +kernel) f_270 fun L_271 l_272 kp_273 => ?_
  have l_274 := kp_273 0 _ l0 (by decide) (Or.inl (by decide))
  have l_275 := kp_273 1 _ l1 (by decide) (Or.inl (by decide))
  have l_276 := kp_273 2 _ l2 (by decide) (Or.inr (q_is_cat f2 (Or.inl rfl)))
  refine ol_X12_cutsRun_160 hd   (fun b => hQ (Ext.tr E_268 b)) BIG (Ext.rf _) h R_265 l_274 f0 l_275 f1 l_276 f2 l_272 f_270
noncomputable def fm_X12_cutsRun (p1 : Int) (m0 : MM) : Option (Int × MM) := gd (0 ≤ p1 ∧ p1 < 30) <| lx (m0 86 p1) fun x_8 =>
lx (m0 92 p1) fun x_16 =>
lx (w32 (x_8 - x_16)) fun x_20 =>
fl_X12_cutsRun_21 p1 x_20 (fun m_174 =>
lx (m_174 92 p1) fun x_186 =>
up m_174 86 p1 x_186 fun m_188 =>
lx (m_188 88 p1) fun x_203 =>
lx (m_188 86 p1) fun x_211 =>
bp (fm_X12_least x_203 x_211 m_188) fun x_214 =>
up m_188 88 p1 x_214 fun m_222 =>
bd (fm_X12_recounts p1 m_222) fun x_229 m_230 =>
lx (m_230 93 p1) fun x_244 =>
if 0 < x_20 then
fj_X12_cutsRun_151 p1 x_20 1 x_244 p1 93 m_230
else
fj_X12_cutsRun_151 p1 x_20 0 x_244 p1 93 m_230) BIG x_16 m0
set_option maxHeartbeats 4000000 in
theorem om_X12_cutsRun {xs : List Int32} {d : Nat} {S : QS} {m0 : MM} {p1 : Int} {v0 : Value} {v1 : Value} {rz : Int} {rm : MM}
  (hd : 4 ≤ d) (R : Rp S m0) (f0 : q_is 2 v0 68) (f1 : q_is 0 v1 p1)
  (h : fm_X12_cutsRun p1 m0 = some (rz, rm)) : Mt xs d 303 [v0, v1] S (Cr 0 m0 rm rz) := by
  obtain ⟨d, rfl⟩ : ∃ e, d = e + 1 := ⟨d - 1, by omega⟩
  have hd : 3 ≤ d := Nat.le_of_succ_le_succ hd
  refine Mt.of (M := qM_X12_cutsRun) rfl (by rw [sl_1 (q_is_cat f0 (Or.inr rfl)), sl_1 (q_is_cat f1 (Or.inl rfl)), sl_0]; decide) ?_
  rw [la_1 (q_is_cat f0 (Or.inr rfl)), la_1 (q_is_cat f1 (Or.inl rfl)), la_0]
  obtain ⟨L, hL⟩ : ∃ L : QL, L = [(0, v0), (0 + 1, v1)] := ⟨_, rfl⟩
  rw [← hL]
  have l0 : q_lo L 0 = some v0 := by rw [hL]; rfl
  have l1 : q_lo L 1 = some v1 := by rw [hL]; rfl
  have hQ : Ext m0 rm → ∀ o S1, Rp S1 rm → q_out 0 o rz → (Cr 0 m0 rm rz) o S1 := fun a o S1 b e => ⟨b, a, e⟩
  unfold fm_X12_cutsRun at h
  refine go_aload_n (n := 0) (by decide +kernel) l0 f0 ?_
  refine go_getf (x := 61) (ci := 13) (kf := 19) (fin := 1) (t := 2) (by decide +kernel) (by decide +kernel) (by decide +kernel) R f0 (fx_k (c := 13) R (by decide +kernel)) fun v_1 f_2 => ?_
  have f_3 := q_is_eq (b := 86) f_2 (fx_v R (by decide +kernel)).symm
  refine go_iload_n (n := 1) (by decide +kernel) l1 f1 ?_
  obtain ⟨g_6, h⟩ := gd_s h
  obtain ⟨x_8, e_9, h⟩ := lx_s h
  refine go_iald (kd := 100) (by decide +kernel) rfl R f_3 f1 (fx_k (c := 100) R (by decide +kernel)) (fx_x (a := 86) (ln := 30) R (by decide +kernel) g_6) fun v_4 f_5 => ?_
  have f_7 := q_is_eq f_5 e_9
  refine go_aload_n (n := 0) (by decide +kernel) l0 f0 ?_
  refine go_getf (x := 79) (ci := 13) (kf := 25) (fin := 1) (t := 2) (by decide +kernel) (by decide +kernel) (by decide +kernel) R f0 (fx_k (c := 13) R (by decide +kernel)) fun v_10 f_11 => ?_
  have f_12 := q_is_eq (b := 92) f_11 (fx_v R (by decide +kernel)).symm
  refine go_iload_n (n := 1) (by decide +kernel) l1 f1 ?_
  obtain ⟨x_16, e_17, h⟩ := lx_s h
  refine go_iald (kd := 100) (by decide +kernel) rfl R f_12 f1 (fx_k (c := 100) R (by decide +kernel)) (fx_x (a := 92) (ln := 30) R (by decide +kernel) g_6) fun v_13 f_14 => ?_
  have f_15 := q_is_eq f_14 e_17
  refine go_isub (by decide +kernel) f_7 f_15 fun v_18 f_19 => ?_
  obtain ⟨x_20, e_21, h⟩ := lx_s h
  have f_22 := q_is_eq f_19 e_21
  refine go_istore_n (n := 2) (by decide +kernel) (by decide +kernel) f_22 fun L_23 l_24 kp_25 => ?_
  have l_26 := kp_25 0 _ l0 (by decide) (Or.inl (by decide))
  have l_27 := kp_25 1 _ l1 (by decide) (Or.inr (q_is_cat f1 (Or.inl rfl)))
  refine go_aload_n (n := 0) (by decide +kernel) l_26 f0 ?_
  refine go_getf (x := 79) (ci := 13) (kf := 25) (fin := 1) (t := 2) (by decide +kernel) (by decide +kernel) (by decide +kernel) R f0 (fx_k (c := 13) R (by decide +kernel)) fun v_28 f_29 => ?_
  have f_30 := q_is_eq (b := 92) f_29 (fx_v R (by decide +kernel)).symm
  refine go_iload_n (n := 1) (by decide +kernel) l_27 f1 ?_
  refine go_iald (kd := 100) (by decide +kernel) rfl R f_30 f1 (fx_k (c := 100) R (by decide +kernel)) (fx_x (a := 92) (ln := 30) R (by decide +kernel) g_6) fun v_31 f_32 => ?_
  have f_33 := q_is_eq f_32 e_17
  refine go_istore_n (n := 3) (by decide +kernel) (by decide +kernel) f_33 fun L_34 l_35 kp_36 => ?_
  have l_37 := kp_36 0 _ l_26 (by decide) (Or.inl (by decide))
  have l_38 := kp_36 1 _ l_27 (by decide) (Or.inl (by decide))
  have l_39 := kp_36 2 _ l_24 (by decide) (Or.inr (q_is_cat f_22 (Or.inl rfl)))
  refine ol_X12_cutsRun_21 hd  ?_ hQ BIG (Ext.rf _) h R l_37 f0 l_38 f1 l_39 f_22 l_35 f_33
  intro m_174 E_175
  intro S_171 L_172 v_162 v_163 v_164
  intro h R_173 l_165 f_168 l_166 f_169 l_167 f_170
  have E_176 := E_175
  refine go_aload_n (n := 0) (by decide +kernel) l_165 f_168 ?_
  refine go_getf (x := 61) (ci := 13) (kf := 19) (fin := 1) (t := 2) (by decide +kernel) (by decide +kernel) (by decide +kernel) R_173 f_168 (fx_k (c := 13) R_173 (by decide +kernel)) fun v_177 f_178 => ?_
  have f_179 := q_is_eq (b := 86) f_178 (fx_v R_173 (by decide +kernel)).symm
  refine go_iload_n (n := 1) (by decide +kernel) l_166 f_169 ?_
  refine go_aload_n (n := 0) (by decide +kernel) l_165 f_168 ?_
  refine go_getf (x := 79) (ci := 13) (kf := 25) (fin := 1) (t := 2) (by decide +kernel) (by decide +kernel) (by decide +kernel) R_173 f_168 (fx_k (c := 13) R_173 (by decide +kernel)) fun v_180 f_181 => ?_
  have f_182 := q_is_eq (b := 92) f_181 (fx_v R_173 (by decide +kernel)).symm
  refine go_iload_n (n := 1) (by decide +kernel) l_166 f_169 ?_
  obtain ⟨x_186, e_187, h⟩ := lx_s h
  refine go_iald (kd := 100) (by decide +kernel) rfl R_173 f_182 f_169 (fx_k (c := 100) R_173 (by decide +kernel)) (fx_x (a := 92) (ln := 30) R_173 (by decide +kernel) g_6) fun v_183 f_184 => ?_
  have f_185 := q_is_eq f_184 e_187
  obtain ⟨m_188, e_189, h⟩ := up_s h
  refine go_iast (kd := 100) (by decide +kernel) rfl R_173 f_179 f_169 f_185 (fx_k (c := 100) R_173 (by decide +kernel)) (fx_x (a := 86) (ln := 30) R_173 (by decide +kernel) g_6) e_189 (fx_a R_173.2 (fx_k (c := 100) R_173 (by decide +kernel)) (And.left (fx_x (a := 86) (ln := 30) R_173 (by decide +kernel) g_6)) (by decide +kernel)) fun S_190 R_191 E_192 => ?_
  have E_193 := Ext.tr E_176 E_192
  refine go_aload_n (n := 0) (by decide +kernel) l_165 f_168 ?_
  refine go_getf (x := 67) (ci := 13) (kf := 21) (fin := 1) (t := 2) (by decide +kernel) (by decide +kernel) (by decide +kernel) R_191 f_168 (fx_k (c := 13) R_191 (by decide +kernel)) fun v_194 f_195 => ?_
  have f_196 := q_is_eq (b := 88) f_195 (fx_v R_191 (by decide +kernel)).symm
  refine go_iload_n (n := 1) (by decide +kernel) l_166 f_169 ?_
  refine go_aload_n (n := 0) (by decide +kernel) l_165 f_168 ?_
  refine go_getf (x := 67) (ci := 13) (kf := 21) (fin := 1) (t := 2) (by decide +kernel) (by decide +kernel) (by decide +kernel) R_191 f_168 (fx_k (c := 13) R_191 (by decide +kernel)) fun v_197 f_198 => ?_
  have f_199 := q_is_eq (b := 88) f_198 (fx_v R_191 (by decide +kernel)).symm
  refine go_iload_n (n := 1) (by decide +kernel) l_166 f_169 ?_
  obtain ⟨x_203, e_204, h⟩ := lx_s h
  refine go_iald (kd := 100) (by decide +kernel) rfl R_191 f_199 f_169 (fx_k (c := 100) R_191 (by decide +kernel)) (fx_x (a := 88) (ln := 30) R_191 (by decide +kernel) g_6) fun v_200 f_201 => ?_
  have f_202 := q_is_eq f_201 e_204
  refine go_aload_n (n := 0) (by decide +kernel) l_165 f_168 ?_
  refine go_getf (x := 61) (ci := 13) (kf := 19) (fin := 1) (t := 2) (by decide +kernel) (by decide +kernel) (by decide +kernel) R_191 f_168 (fx_k (c := 13) R_191 (by decide +kernel)) fun v_205 f_206 => ?_
  have f_207 := q_is_eq (b := 86) f_206 (fx_v R_191 (by decide +kernel)).symm
  refine go_iload_n (n := 1) (by decide +kernel) l_166 f_169 ?_
  obtain ⟨x_211, e_212, h⟩ := lx_s h
  refine go_iald (kd := 100) (by decide +kernel) rfl R_191 f_207 f_169 (fx_k (c := 100) R_191 (by decide +kernel)) (fx_x (a := 86) (ln := 30) R_191 (by decide +kernel) g_6) fun v_208 f_209 => ?_
  have f_210 := q_is_eq f_209 e_212
  obtain ⟨x_214, hc_213, h⟩ := bp_s h
  refine go_callS (x := 679) (mi := 189) (n := 2) (b := 0) (as := [v_200, v_208]) (rest := [v_163, v_194]) (by decide +kernel) (by decide +kernel) rfl rfl (q_sum8 _ (Nat.le_of_ble_eq_true rfl)) (om_X12_least (Nat.le_trans (by decide) hd) R_191 f_202 f_210 hc_213) (fun _ S_218 q_221 => ?_) (fun _ _ qq => kr_x qq)
  refine kr_z (by decide) q_221 fun v_216 f_217 R_219 E_220 => ?_
  obtain ⟨m_222, e_223, h⟩ := up_s h
  refine go_iast (kd := 100) (by decide +kernel) rfl R_219 f_196 f_169 f_217 (fx_k (c := 100) R_219 (by decide +kernel)) (fx_x (a := 88) (ln := 30) R_219 (by decide +kernel) g_6) e_223 (fx_a R_219.2 (fx_k (c := 100) R_219 (by decide +kernel)) (And.left (fx_x (a := 88) (ln := 30) R_219 (by decide +kernel) g_6)) (by decide +kernel)) fun S_224 R_225 E_226 => ?_
  have E_227 := Ext.tr E_193 E_226
  refine go_aload_n (n := 0) (by decide +kernel) l_165 f_168 ?_
  refine go_iload_n (n := 1) (by decide +kernel) l_166 f_169 ?_
  obtain ⟨x_229, m_230, hc_228, h⟩ := bd_s h
  refine go_callV (x := 673) (mi := 209) (n := 1) (ci := 13) (as := [v_163]) (rest := []) (by decide +kernel) (by decide +kernel) rfl rfl (q_sum8 _ (Nat.le_of_ble_eq_true rfl)) R_225 f_168 (fx_k (c := 13) R_225 (by decide +kernel)) (om_X12_recounts (Nat.le_trans (by decide) hd) R_225 f_168 f_169 hc_228) (fun _ S_233 q_236 => ?_) (fun _ _ qq => kr_x qq)
  refine kr_v q_236 fun R_234 E_235 => ?_
  have E_237 := Ext.tr E_227 E_235
  refine go_aload_n (n := 0) (by decide +kernel) l_165 f_168 ?_
  refine go_getf (x := 82) (ci := 13) (kf := 26) (fin := 1) (t := 2) (by decide +kernel) (by decide +kernel) (by decide +kernel) R_234 f_168 (fx_k (c := 13) R_234 (by decide +kernel)) fun v_238 f_239 => ?_
  have f_240 := q_is_eq (b := 93) f_239 (fx_v R_234 (by decide +kernel)).symm
  refine go_iload_n (n := 1) (by decide +kernel) l_166 f_169 ?_
  refine go_dup2 (by decide +kernel) f_169 (Or.inl rfl) f_240 (Or.inr rfl) ?_
  obtain ⟨x_244, e_245, h⟩ := lx_s h
  refine go_iald (kd := 100) (by decide +kernel) rfl R_234 f_240 f_169 (fx_k (c := 100) R_234 (by decide +kernel)) (fx_x (a := 93) (ln := 30) R_234 (by decide +kernel) g_6) fun v_241 f_242 => ?_
  have f_243 := q_is_eq f_242 e_245
  refine go_iload_n (n := 2) (by decide +kernel) l_167 f_170 ?_
  refine go_if (c := .le) (o := 7) (t := 150) (P := ¬ (0 < x_20)) (by decide +kernel) (by decide +kernel) f_170 (Int.not_lt.symm) (fun hp_246 => ?_) (fun hp_246 => ?_)
  · have h := it_f hp_246 h
    refine go_iconst (n := 0) (z := 0) (by decide +kernel) (by decide) fun v_247 f_248 => ?_
    exact oj_X12_cutsRun_151 hd R_234 l_165 f_168 l_166 f_169 l_167 f_170 f_248 f_243 f_169 f_240 (fun b => hQ (Ext.tr E_237 b)) h
  · have h := it_n hp_246 h
    refine go_iconst (n := 1) (z := 1) (by decide +kernel) (by decide) fun v_379 f_380 => ?_
    refine go_goto (o := 4) (t := 151) (by decide +kernel) (by decide +kernel) ?_
    exact oj_X12_cutsRun_151 hd R_234 l_165 f_168 l_166 f_169 l_167 f_170 f_380 f_243 f_169 f_240 (fun b => hQ (Ext.tr E_237 b)) h
end DF45
