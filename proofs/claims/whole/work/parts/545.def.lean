/-! Methods as functions (written by wip/whole/dec.py), 45: X12_taskAt, X12_setBack, X12_copy, X12_cutsRun. -/
section DF45
noncomputable def fl_X12_taskAt_5 (y1 y2 : Int) (m0 : MM) : Nat → Int → Int → Option Int
  | 0, _, _ => none
  | n + 1, y3, y4 => gd (0 ≤ y1 ∧ y1 < 30) <| lx (m0 86 y1) fun x_23 =>
if y4 < x_23 then
if y2 < 0 then
some (-1)
else
bp (fm_X12_kindAt y1 y4 m0) fun x_32 =>
if x_32 = 17 then
if y3 = 0 then
some y4
else
lx (w32 (y3 + (-1))) fun x_61 =>
lx (w32 (y4 + 1)) fun x_73 =>
fl_X12_taskAt_5 y1 y2 m0 n x_61 x_73
else
lx (w32 (y4 + 1)) fun x_48 =>
fl_X12_taskAt_5 y1 y2 m0 n y3 x_48
else
some (-1)
set_option maxHeartbeats 4000000 in
theorem ol_X12_taskAt_5 {xs : List Int32} {d : Nat} {Q : QO → QS → Prop} {m0 : MM} {y1 y2 : Int} {rz : Int}
  (hd : 2 ≤ d)
  (hQ : ∀ o S1, Rp S1 m0 → q_out 0 o rz → Q o S1) :
  ∀ (n : Nat) {S : QS} {L : QL} {y3 y4 : Int} {v0 : Value} {v1 : Value} {v2 : Value} {v3 : Value} {v4 : Value} , fl_X12_taskAt_5 y1 y2 m0 n y3 y4 = some rz → Rp S m0 → q_lo L 0 = some v0 → q_is 2 v0 68 → q_lo L 1 = some v1 → q_is 0 v1 y1 → q_lo L 2 = some v2 → q_is 0 v2 y2 → q_lo L 3 = some v3 → q_is 0 v3 y3 → q_lo L 4 = some v4 → q_is 0 v4 y4 → Go xs d qM_X12_taskAt 5 L [] S Q := by
  intro n
  induction n with
  | zero => intro S L y3 y4 v0 v1 v2 v3 v4; intro h R l0 f0 l1 f1 l2 f2 l3 f3 l4 f4; cases h
  | succ n ih0 =>
    intro S L y3 y4 v0 v1 v2 v3 v4; intro h R l0 f0 l1 f1 l2 f2 l3 f3 l4 f4
    have ih : ∀ {z3 : Int} {z4 : Int} {Sq : QS} {Lq : QL} {u0 : Value} {u1 : Value} {u2 : Value} {u3 : Value} {u4 : Value}, fl_X12_taskAt_5 y1 y2 m0 n z3 z4 = some rz → Rp Sq m0 → q_lo Lq 0 = some u0 → q_is 2 u0 68 → q_lo Lq 1 = some u1 → q_is 0 u1 y1 → q_lo Lq 2 = some u2 → q_is 0 u2 y2 → q_lo Lq 3 = some u3 → q_is 0 u3 z3 → q_lo Lq 4 = some u4 → q_is 0 u4 z4 → Go xs d qM_X12_taskAt 5 Lq [] Sq Q := by intros; exact ih0 ‹_› ‹_› ‹_› ‹_› ‹_› ‹_› ‹_› ‹_› ‹_› ‹_› ‹_› ‹_›
    unfold fl_X12_taskAt_5 at h
    refine go_iload (n := 4) (by decide +kernel) l4 f4 ?_
    refine go_aload_n (n := 0) (by decide +kernel) l0 f0 ?_
    refine go_getf (x := 61) (ci := 13) (kf := 19) (fin := 1) (t := 2) (by decide +kernel) (by decide +kernel) (by decide +kernel) R f0 (fx_k (c := 13) R (by decide +kernel)) fun v_16 f_17 => ?_
    have f_18 := q_is_eq (b := 86) f_17 (fx_v R (by decide +kernel)).symm
    refine go_iload_n (n := 1) (by decide +kernel) l1 f1 ?_
    obtain ⟨g_21, h⟩ := gd_s h
    obtain ⟨x_23, e_24, h⟩ := lx_s h
    refine go_iald (kd := 100) (by decide +kernel) rfl R f_18 f1 (fx_k (c := 100) R (by decide +kernel)) (fx_x (a := 86) (ln := 30) R (by decide +kernel) g_21) fun v_19 f_20 => ?_
    have f_22 := q_is_eq f_20 e_24
    refine go_icmp (c := .ge) (o := 35) (t := 48) (P := ¬ (y4 < x_23)) (by decide +kernel) (by decide +kernel) f4 f_22 (Int.not_lt.symm) (fun hp_25 => ?_) (fun hp_25 => ?_)
    · have h := it_f hp_25 h
      refine go_iconst (n := (-1)) (z := (-1)) (by decide +kernel) (by decide) fun v_26 f_27 => ?_
      cases h
      exact go_iret (by decide +kernel) rfl (Or.inl rfl) f_27 (hQ _ _ R (q_out_v (by decide) f_27))
    · have h := it_n hp_25 h
      refine go_iload_n (n := 2) (by decide +kernel) l2 f2 ?_
      refine go_if (c := .lt) (o := 31) (t := 48) (P := y2 < 0) (by decide +kernel) (by decide +kernel) f2 (Iff.rfl) (fun hp_28 => ?_) (fun hp_28 => ?_)
      · have h := it_t hp_28 h
        refine go_iconst (n := (-1)) (z := (-1)) (by decide +kernel) (by decide) fun v_29 f_30 => ?_
        cases h
        exact go_iret (by decide +kernel) rfl (Or.inl rfl) f_30 (hQ _ _ R (q_out_v (by decide) f_30))
      · have h := it_f hp_28 h
        refine go_aload_n (n := 0) (by decide +kernel) l0 f0 ?_
        refine go_iload_n (n := 1) (by decide +kernel) l1 f1 ?_
        refine go_iload (n := 4) (by decide +kernel) l4 f4 ?_
        obtain ⟨x_32, hc_31, h⟩ := bp_s h
        refine go_callV (x := 341) (mi := 204) (n := 2) (ci := 13) (as := [v1, v4]) (rest := []) (by decide +kernel) (by decide +kernel) rfl rfl (q_sum8 _ (Nat.le_of_ble_eq_true rfl)) R f0 (fx_k (c := 13) R (by decide +kernel)) (om_X12_kindAt (Nat.le_trans (by decide) hd) R f0 f1 f4 hc_31) (fun _ S_36 q_39 => ?_) (fun _ _ qq => kr_x qq)
        refine kr_z (by decide) q_39 fun v_34 f_35 R_37 E_38 => ?_
        refine go_bipush (n := 17) (z := 17) (by decide +kernel) (by decide) fun v_40 f_41 => ?_
        refine go_icmp (c := .ne) (o := 13) (t := 42) (P := ¬ (x_32 = 17)) (by decide +kernel) (by decide +kernel) f_35 f_41 (Iff.rfl) (fun hp_42 => ?_) (fun hp_42 => ?_)
        · have h := it_f hp_42 h
          refine go_iinc (n := 4) (c := 1) (c' := 1) (by decide +kernel) (by decide +kernel) l4 f4 (by decide) fun L_43 v_44 f_45 l_46 kp_47 => ?_
          obtain ⟨x_48, e_49, h⟩ := lx_s h
          have f_50 := q_is_eq f_45 e_49
          have l_51 := kp_47 0 _ l0 (by decide) (Or.inl (by decide))
          have l_52 := kp_47 1 _ l1 (by decide) (Or.inl (by decide))
          have l_53 := kp_47 2 _ l2 (by decide) (Or.inl (by decide))
          have l_54 := kp_47 3 _ l3 (by decide) (Or.inr (q_is_cat f3 (Or.inl rfl)))
          refine go_goto (o := (-40)) (t := 5) (by decide +kernel) (by decide +kernel) ?_
          exact ih h R_37 l_51 f0 l_52 f1 l_53 f2 l_54 f3 l_46 f_50
        · have h := it_n hp_42 h
          refine go_iload_n (n := 3) (by decide +kernel) l3 f3 ?_
          refine go_if (c := .ne) (o := 6) (t := 39) (P := ¬ (y3 = 0)) (by decide +kernel) (by decide +kernel) f3 (Iff.rfl) (fun hp_55 => ?_) (fun hp_55 => ?_)
          · have h := it_f hp_55 h
            refine go_iinc (n := 3) (c := (-1)) (c' := (-1)) (by decide +kernel) (by decide +kernel) l3 f3 (by decide) fun L_56 v_57 f_58 l_59 kp_60 => ?_
            obtain ⟨x_61, e_62, h⟩ := lx_s h
            have f_63 := q_is_eq f_58 e_62
            have l_64 := kp_60 0 _ l0 (by decide) (Or.inl (by decide))
            have l_65 := kp_60 1 _ l1 (by decide) (Or.inl (by decide))
            have l_66 := kp_60 2 _ l2 (by decide) (Or.inr (q_is_cat f2 (Or.inl rfl)))
            have l_67 := kp_60 4 _ l4 (by decide) (Or.inl (by decide))
            refine go_iinc (n := 4) (c := 1) (c' := 1) (by decide +kernel) (by decide +kernel) l_67 f4 (by decide) fun L_68 v_69 f_70 l_71 kp_72 => ?_
            obtain ⟨x_73, e_74, h⟩ := lx_s h
            have f_75 := q_is_eq f_70 e_74
            have l_76 := kp_72 0 _ l_64 (by decide) (Or.inl (by decide))
            have l_77 := kp_72 1 _ l_65 (by decide) (Or.inl (by decide))
            have l_78 := kp_72 2 _ l_66 (by decide) (Or.inl (by decide))
            have l_79 := kp_72 3 _ l_59 (by decide) (Or.inr (q_is_cat f_63 (Or.inl rfl)))
            refine go_goto (o := (-40)) (t := 5) (by decide +kernel) (by decide +kernel) ?_
            exact ih h R_37 l_76 f0 l_77 f1 l_78 f2 l_79 f_63 l_71 f_75
          · have h := it_n hp_55 h
            refine go_iload (n := 4) (by decide +kernel) l4 f4 ?_
            cases h
            exact go_iret (by decide +kernel) rfl (Or.inl rfl) f4 (hQ _ _ R_37 (q_out_v (by decide) f4))
noncomputable def fm_X12_taskAt (p1 p2 : Int) (m0 : MM) : Option Int := fl_X12_taskAt_5 p1 p2 m0  BIG p2 0
set_option maxHeartbeats 4000000 in
theorem om_X12_taskAt {xs : List Int32} {d : Nat} {S : QS} {m0 : MM} {p1 p2 : Int} {v0 : Value} {v1 : Value} {v2 : Value} {rz : Int}
  (hd : 3 ≤ d) (R : Rp S m0) (f0 : q_is 2 v0 68) (f1 : q_is 0 v1 p1) (f2 : q_is 0 v2 p2)
  (h : fm_X12_taskAt p1 p2 m0 = some rz) : Mt xs d 300 [v0, v1, v2] S (Cr 0 m0 m0 rz) := by
  obtain ⟨d, rfl⟩ : ∃ e, d = e + 1 := ⟨d - 1, by omega⟩
  have hd : 2 ≤ d := Nat.le_of_succ_le_succ hd
  refine Mt.of (M := qM_X12_taskAt) rfl (by rw [sl_1 (q_is_cat f0 (Or.inr rfl)), sl_1 (q_is_cat f1 (Or.inl rfl)), sl_1 (q_is_cat f2 (Or.inl rfl)), sl_0]; decide) ?_
  rw [la_1 (q_is_cat f0 (Or.inr rfl)), la_1 (q_is_cat f1 (Or.inl rfl)), la_1 (q_is_cat f2 (Or.inl rfl)), la_0]
  obtain ⟨L, hL⟩ : ∃ L : QL, L = [(0, v0), (0 + 1, v1), (0 + 1 + 1, v2)] := ⟨_, rfl⟩
  rw [← hL]
  have l0 : q_lo L 0 = some v0 := by rw [hL]; rfl
  have l1 : q_lo L 1 = some v1 := by rw [hL]; rfl
  have l2 : q_lo L 2 = some v2 := by rw [hL]; rfl
  have hQ : ∀ o S1, Rp S1 m0 → q_out 0 o rz → (Cr 0 m0 m0 rz) o S1 := fun o S1 a b => ⟨a, Ext.rf _, b⟩
  unfold fm_X12_taskAt at h
  refine go_iload_n (n := 2) (by decide +kernel) l2 f2 ?_
  refine go_istore_n (n := 3) (by decide +kernel) (by decide +kernel) f2 fun L_1 l_2 kp_3 => ?_
  have l_4 := kp_3 0 _ l0 (by decide) (Or.inl (by decide))
  have l_5 := kp_3 1 _ l1 (by decide) (Or.inl (by decide))
  have l_6 := kp_3 2 _ l2 (by decide) (Or.inr (q_is_cat f2 (Or.inl rfl)))
  refine go_iconst (n := 0) (z := 0) (by decide +kernel) (by decide) fun v_7 f_8 => ?_
  refine go_istore (n := 4) (by decide +kernel) (by decide +kernel) f_8 fun L_9 l_10 kp_11 => ?_
  have l_12 := kp_11 0 _ l_4 (by decide) (Or.inl (by decide))
  have l_13 := kp_11 1 _ l_5 (by decide) (Or.inl (by decide))
  have l_14 := kp_11 2 _ l_6 (by decide) (Or.inl (by decide))
  have l_15 := kp_11 3 _ l_2 (by decide) (Or.inr (q_is_cat f2 (Or.inl rfl)))
  refine ol_X12_taskAt_5 hd   hQ BIG h R l_12 f0 l_13 f1 l_14 f2 l_15 f2 l_10 f_8
noncomputable def fl_X12_setBack_86 (y1 y4 : Int) (k130 : MM → Option (Int × MM)) : Nat → Int → MM → Option (Int × MM)
  | 0, _, _ => none
  | n + 1, y5, m => lx (m 68 12) fun x_95 =>
if y5 < x_95 then
gd (0 ≤ y5 ∧ y5 < 30) <| lx (m 84 y5) fun x_108 =>
if x_108 = y1 then
up m 84 y5 (-1) fun m_137 =>
lx (w32 (y5 + 1)) fun x_149 =>
fl_X12_setBack_86 y1 y4 k130 n x_149 m_137
else
up m 84 y5 x_108 fun m_117 =>
lx (w32 (y5 + 1)) fun x_129 =>
fl_X12_setBack_86 y1 y4 k130 n x_129 m_117
else
k130 m
set_option maxHeartbeats 4000000 in
theorem ol_X12_setBack_86 {xs : List Int32} {d : Nat} {Q : QO → QS → Prop} {mb : MM} {y1 y4 : Int} {k130 : MM → Option (Int × MM)} {rz : Int} {rm : MM}
  (hd : 5 ≤ d)
  (hk130 : ∀ mq : MM, Ext mb mq → ∀ {Sq : QS} {Lq : QL} {u0 : Value} {u1 : Value} {u4 : Value}, k130 mq = some (rz, rm) → Rp Sq mq → q_lo Lq 0 = some u0 → q_is 2 u0 68 → q_lo Lq 1 = some u1 → q_is 0 u1 y1 → q_lo Lq 4 = some u4 → q_is 0 u4 y4 → Go xs d qM_X12_setBack 130 Lq [] Sq Q)
  (hQ : Ext mb rm → ∀ o S1, Rp S1 rm → q_out 0 o rz → Q o S1) :
  ∀ (n : Nat) {m : MM} {S : QS} {L : QL} {y5 : Int} {v0 : Value} {v1 : Value} {v4 : Value} {v5 : Value} , Ext mb m → fl_X12_setBack_86 y1 y4 k130 n y5 m = some (rz, rm) → Rp S m → q_lo L 0 = some v0 → q_is 2 v0 68 → q_lo L 1 = some v1 → q_is 0 v1 y1 → q_lo L 4 = some v4 → q_is 0 v4 y4 → q_lo L 5 = some v5 → q_is 0 v5 y5 → Go xs d qM_X12_setBack 86 L [] S Q := by
  intro n
  induction n with
  | zero => intro m S L y5 v0 v1 v4 v5; intro E h R l0 f0 l1 f1 l4 f4 l5 f5; cases h
  | succ n ih0 =>
    intro m S L y5 v0 v1 v4 v5; intro E h R l0 f0 l1 f1 l4 f4 l5 f5
    have ih : ∀ mq : MM, Ext mb mq → ∀ {z5 : Int} {Sq : QS} {Lq : QL} {u0 : Value} {u1 : Value} {u4 : Value} {u5 : Value}, fl_X12_setBack_86 y1 y4 k130 n z5 mq = some (rz, rm) → Rp Sq mq → q_lo Lq 0 = some u0 → q_is 2 u0 68 → q_lo Lq 1 = some u1 → q_is 0 u1 y1 → q_lo Lq 4 = some u4 → q_is 0 u4 y4 → q_lo Lq 5 = some u5 → q_is 0 u5 z5 → Go xs d qM_X12_setBack 86 Lq [] Sq Q := fun mq b => by intros; exact ih0 b ‹_› ‹_› ‹_› ‹_› ‹_› ‹_› ‹_› ‹_› ‹_› ‹_›
    unfold fl_X12_setBack_86 at h
    refine go_iload (n := 5) (by decide +kernel) l5 f5 ?_
    refine go_aload_n (n := 0) (by decide +kernel) l0 f0 ?_
    obtain ⟨x_95, e_96, h⟩ := lx_s h
    refine go_getf (x := 310) (ci := 13) (kf := 12) (fin := 0) (t := 0) (by decide +kernel) (by decide +kernel) (by decide +kernel) R f0 (fx_k (c := 13) R (by decide +kernel)) fun v_92 f_93 => ?_
    have f_94 := q_is_eq f_93 e_96
    refine go_icmp (c := .ge) (o := 38) (t := 130) (P := ¬ (y5 < x_95)) (by decide +kernel) (by decide +kernel) f5 f_94 (Int.not_lt.symm) (fun hp_97 => ?_) (fun hp_97 => ?_)
    · have h := it_f hp_97 h
      exact hk130 m E h R l0 f0 l1 f1 l4 f4
    · have h := it_n hp_97 h
      refine go_aload_n (n := 0) (by decide +kernel) l0 f0 ?_
      refine go_getf (x := 55) (ci := 13) (kf := 17) (fin := 1) (t := 2) (by decide +kernel) (by decide +kernel) (by decide +kernel) R f0 (fx_k (c := 13) R (by decide +kernel)) fun v_98 f_99 => ?_
      have f_100 := q_is_eq (b := 84) f_99 (fx_v R (by decide +kernel)).symm
      refine go_iload (n := 5) (by decide +kernel) l5 f5 ?_
      refine go_aload_n (n := 0) (by decide +kernel) l0 f0 ?_
      refine go_getf (x := 55) (ci := 13) (kf := 17) (fin := 1) (t := 2) (by decide +kernel) (by decide +kernel) (by decide +kernel) R f0 (fx_k (c := 13) R (by decide +kernel)) fun v_101 f_102 => ?_
      have f_103 := q_is_eq (b := 84) f_102 (fx_v R (by decide +kernel)).symm
      refine go_iload (n := 5) (by decide +kernel) l5 f5 ?_
      obtain ⟨g_106, h⟩ := gd_s h
      obtain ⟨x_108, e_109, h⟩ := lx_s h
      refine go_iald (kd := 100) (by decide +kernel) rfl R f_103 f5 (fx_k (c := 100) R (by decide +kernel)) (fx_x (a := 84) (ln := 30) R (by decide +kernel) g_106) fun v_104 f_105 => ?_
      have f_107 := q_is_eq f_105 e_109
      refine go_iload_n (n := 1) (by decide +kernel) l1 f1 ?_
      refine go_icmp (c := .ne) (o := 7) (t := 116) (P := ¬ (x_108 = y1)) (by decide +kernel) (by decide +kernel) f_107 f1 (Iff.rfl) (fun hp_110 => ?_) (fun hp_110 => ?_)
      · have h := it_f hp_110 h
        refine go_aload_n (n := 0) (by decide +kernel) l0 f0 ?_
        refine go_getf (x := 55) (ci := 13) (kf := 17) (fin := 1) (t := 2) (by decide +kernel) (by decide +kernel) (by decide +kernel) R f0 (fx_k (c := 13) R (by decide +kernel)) fun v_111 f_112 => ?_
        have f_113 := q_is_eq (b := 84) f_112 (fx_v R (by decide +kernel)).symm
        refine go_iload (n := 5) (by decide +kernel) l5 f5 ?_
        refine go_iald (kd := 100) (by decide +kernel) rfl R f_113 f5 (fx_k (c := 100) R (by decide +kernel)) (fx_x (a := 84) (ln := 30) R (by decide +kernel) g_106) fun v_114 f_115 => ?_
        have f_116 := q_is_eq f_115 e_109
        obtain ⟨m_117, e_118, h⟩ := up_s h
        refine go_iast (kd := 100) (by decide +kernel) rfl R f_100 f5 f_116 (fx_k (c := 100) R (by decide +kernel)) (fx_x (a := 84) (ln := 30) R (by decide +kernel) g_106) e_118 (fx_a R.2 (fx_k (c := 100) R (by decide +kernel)) (And.left (fx_x (a := 84) (ln := 30) R (by decide +kernel) g_106)) (by decide +kernel)) fun S_119 R_120 E_121 => ?_
        have E_123 := Ext.tr E E_121
        refine go_iinc (n := 5) (c := 1) (c' := 1) (by decide +kernel) (by decide +kernel) l5 f5 (by decide) fun L_124 v_125 f_126 l_127 kp_128 => ?_
        obtain ⟨x_129, e_130, h⟩ := lx_s h
        have f_131 := q_is_eq f_126 e_130
        have l_132 := kp_128 0 _ l0 (by decide) (Or.inl (by decide))
        have l_133 := kp_128 1 _ l1 (by decide) (Or.inl (by decide))
        have l_134 := kp_128 4 _ l4 (by decide) (Or.inr (q_is_cat f4 (Or.inl rfl)))
        refine go_goto (o := (-41)) (t := 86) (by decide +kernel) (by decide +kernel) ?_
        exact ih m_117 E_123 h R_120 l_132 f0 l_133 f1 l_134 f4 l_127 f_131
      · have h := it_n hp_110 h
        refine go_iconst (n := (-1)) (z := (-1)) (by decide +kernel) (by decide) fun v_135 f_136 => ?_
        refine go_goto (o := 10) (t := 123) (by decide +kernel) (by decide +kernel) ?_
        obtain ⟨m_137, e_138, h⟩ := up_s h
        refine go_iast (kd := 100) (by decide +kernel) rfl R f_100 f5 f_136 (fx_k (c := 100) R (by decide +kernel)) (fx_x (a := 84) (ln := 30) R (by decide +kernel) g_106) e_138 (fx_a R.2 (fx_k (c := 100) R (by decide +kernel)) (And.left (fx_x (a := 84) (ln := 30) R (by decide +kernel) g_106)) (by decide +kernel)) fun S_139 R_140 E_141 => ?_
        have E_143 := Ext.tr E E_141
        refine go_iinc (n := 5) (c := 1) (c' := 1) (by decide +kernel) (by decide +kernel) l5 f5 (by decide) fun L_144 v_145 f_146 l_147 kp_148 => ?_
        obtain ⟨x_149, e_150, h⟩ := lx_s h
        have f_151 := q_is_eq f_146 e_150
        have l_152 := kp_148 0 _ l0 (by decide) (Or.inl (by decide))
        have l_153 := kp_148 1 _ l1 (by decide) (Or.inl (by decide))
        have l_154 := kp_148 4 _ l4 (by decide) (Or.inr (q_is_cat f4 (Or.inl rfl)))
        refine go_goto (o := (-41)) (t := 86) (by decide +kernel) (by decide +kernel) ?_
        exact ih m_137 E_143 h R_140 l_152 f0 l_153 f1 l_154 f4 l_147 f_151
noncomputable def fl_X12_setBack_215 (y1 y5 : Int) : Nat → Int → MM → Option (Int × MM)
  | 0, _, _ => none
  | n + 1, y6, m => gd (0 ≤ y1 ∧ y1 < 30) <| lx (m 86 y1) fun x_315 =>
if y6 < x_315 then
bp (fm_X12_kindAt y1 y6 m) fun x_319 =>
if x_319 = 4 then
bp (fm_X12_xAt y1 y6 m) fun x_344 =>
bp (fm_X12_yAt y1 y6 m) fun x_353 =>
bd (fm_X12_puts y5 4 x_344 x_353 m) fun x_362 m_363 =>
lx (w32 (y6 + 1)) fun x_378 =>
fl_X12_setBack_215 y1 y5 n x_378 m_363
else
lx (w32 (y6 + 1)) fun x_335 =>
fl_X12_setBack_215 y1 y5 n x_335 m
else
some (y5, m)
set_option maxHeartbeats 4000000 in
theorem ol_X12_setBack_215 {xs : List Int32} {d : Nat} {Q : QO → QS → Prop} {mb : MM} {y1 y5 : Int} {rz : Int} {rm : MM}
  (hd : 5 ≤ d)
  (hQ : Ext mb rm → ∀ o S1, Rp S1 rm → q_out 0 o rz → Q o S1) :
  ∀ (n : Nat) {m : MM} {S : QS} {L : QL} {y6 : Int} {v0 : Value} {v1 : Value} {v5 : Value} {v6 : Value} , Ext mb m → fl_X12_setBack_215 y1 y5 n y6 m = some (rz, rm) → Rp S m → q_lo L 0 = some v0 → q_is 2 v0 68 → q_lo L 1 = some v1 → q_is 0 v1 y1 → q_lo L 5 = some v5 → q_is 0 v5 y5 → q_lo L 6 = some v6 → q_is 0 v6 y6 → Go xs d qM_X12_setBack 215 L [] S Q := by
  intro n
  induction n with
  | zero => intro m S L y6 v0 v1 v5 v6; intro E h R l0 f0 l1 f1 l5 f5 l6 f6; cases h
  | succ n ih0 =>
    intro m S L y6 v0 v1 v5 v6; intro E h R l0 f0 l1 f1 l5 f5 l6 f6
    have ih : ∀ mq : MM, Ext mb mq → ∀ {z6 : Int} {Sq : QS} {Lq : QL} {u0 : Value} {u1 : Value} {u5 : Value} {u6 : Value}, fl_X12_setBack_215 y1 y5 n z6 mq = some (rz, rm) → Rp Sq mq → q_lo Lq 0 = some u0 → q_is 2 u0 68 → q_lo Lq 1 = some u1 → q_is 0 u1 y1 → q_lo Lq 5 = some u5 → q_is 0 u5 y5 → q_lo Lq 6 = some u6 → q_is 0 u6 z6 → Go xs d qM_X12_setBack 215 Lq [] Sq Q := fun mq b => by intros; exact ih0 b ‹_› ‹_› ‹_› ‹_› ‹_› ‹_› ‹_› ‹_› ‹_› ‹_›
    unfold fl_X12_setBack_215 at h
    refine go_iload (n := 6) (by decide +kernel) l6 f6 ?_
    refine go_aload_n (n := 0) (by decide +kernel) l0 f0 ?_
    refine go_getf (x := 61) (ci := 13) (kf := 19) (fin := 1) (t := 2) (by decide +kernel) (by decide +kernel) (by decide +kernel) R f0 (fx_k (c := 13) R (by decide +kernel)) fun v_308 f_309 => ?_
    have f_310 := q_is_eq (b := 86) f_309 (fx_v R (by decide +kernel)).symm
    refine go_iload_n (n := 1) (by decide +kernel) l1 f1 ?_
    obtain ⟨g_313, h⟩ := gd_s h
    obtain ⟨x_315, e_316, h⟩ := lx_s h
    refine go_iald (kd := 100) (by decide +kernel) rfl R f_310 f1 (fx_k (c := 100) R (by decide +kernel)) (fx_x (a := 86) (ln := 30) R (by decide +kernel) g_313) fun v_311 f_312 => ?_
    have f_314 := q_is_eq f_312 e_316
    refine go_icmp (c := .ge) (o := 42) (t := 265) (P := ¬ (y6 < x_315)) (by decide +kernel) (by decide +kernel) f6 f_314 (Int.not_lt.symm) (fun hp_317 => ?_) (fun hp_317 => ?_)
    · have h := it_f hp_317 h
      refine go_iload (n := 5) (by decide +kernel) l5 f5 ?_
      cases h
      exact go_iret (by decide +kernel) rfl (Or.inl rfl) f5 (hQ E _ _ R (q_out_v (by decide) f5))
    · have h := it_n hp_317 h
      refine go_aload_n (n := 0) (by decide +kernel) l0 f0 ?_
      refine go_iload_n (n := 1) (by decide +kernel) l1 f1 ?_
      refine go_iload (n := 6) (by decide +kernel) l6 f6 ?_
      obtain ⟨x_319, hc_318, h⟩ := bp_s h
      refine go_callV (x := 341) (mi := 204) (n := 2) (ci := 13) (as := [v1, v6]) (rest := []) (by decide +kernel) (by decide +kernel) rfl rfl (q_sum8 _ (Nat.le_of_ble_eq_true rfl)) R f0 (fx_k (c := 13) R (by decide +kernel)) (om_X12_kindAt (Nat.le_trans (by decide) hd) R f0 f1 f6 hc_318) (fun _ S_323 q_326 => ?_) (fun _ _ qq => kr_x qq)
      refine kr_z (by decide) q_326 fun v_321 f_322 R_324 E_325 => ?_
      refine go_iconst (n := 4) (z := 4) (by decide +kernel) (by decide) fun v_327 f_328 => ?_
      refine go_icmp (c := .ne) (o := 25) (t := 259) (P := ¬ (x_319 = 4)) (by decide +kernel) (by decide +kernel) f_322 f_328 (Iff.rfl) (fun hp_329 => ?_) (fun hp_329 => ?_)
      · have h := it_f hp_329 h
        refine go_iinc (n := 6) (c := 1) (c' := 1) (by decide +kernel) (by decide +kernel) l6 f6 (by decide) fun L_330 v_331 f_332 l_333 kp_334 => ?_
        obtain ⟨x_335, e_336, h⟩ := lx_s h
        have f_337 := q_is_eq f_332 e_336
        have l_338 := kp_334 0 _ l0 (by decide) (Or.inl (by decide))
        have l_339 := kp_334 1 _ l1 (by decide) (Or.inl (by decide))
        have l_340 := kp_334 5 _ l5 (by decide) (Or.inr (q_is_cat f5 (Or.inl rfl)))
        refine go_goto (o := (-47)) (t := 215) (by decide +kernel) (by decide +kernel) ?_
        exact ih m E h R_324 l_338 f0 l_339 f1 l_340 f5 l_333 f_337
      · have h := it_n hp_329 h
        refine go_aload_n (n := 0) (by decide +kernel) l0 f0 ?_
        refine go_iload (n := 5) (by decide +kernel) l5 f5 ?_
        refine go_iconst (n := 4) (z := 4) (by decide +kernel) (by decide) fun v_341 f_342 => ?_
        refine go_aload_n (n := 0) (by decide +kernel) l0 f0 ?_
        refine go_iload_n (n := 1) (by decide +kernel) l1 f1 ?_
        refine go_iload (n := 6) (by decide +kernel) l6 f6 ?_
        obtain ⟨x_344, hc_343, h⟩ := bp_s h
        refine go_callV (x := 344) (mi := 206) (n := 2) (ci := 13) (as := [v1, v6]) (rest := [v_341, v5, v0]) (by decide +kernel) (by decide +kernel) rfl rfl (q_sum8 _ (Nat.le_of_ble_eq_true rfl)) R_324 f0 (fx_k (c := 13) R_324 (by decide +kernel)) (om_X12_xAt (Nat.le_trans (by decide) hd) R_324 f0 f1 f6 hc_343) (fun _ S_348 q_351 => ?_) (fun _ _ qq => kr_x qq)
        refine kr_z (by decide) q_351 fun v_346 f_347 R_349 E_350 => ?_
        refine go_aload_n (n := 0) (by decide +kernel) l0 f0 ?_
        refine go_iload_n (n := 1) (by decide +kernel) l1 f1 ?_
        refine go_iload (n := 6) (by decide +kernel) l6 f6 ?_
        obtain ⟨x_353, hc_352, h⟩ := bp_s h
        refine go_callV (x := 397) (mi := 205) (n := 2) (ci := 13) (as := [v1, v6]) (rest := [v_346, v_341, v5, v0]) (by decide +kernel) (by decide +kernel) rfl rfl (q_sum8 _ (Nat.le_of_ble_eq_true rfl)) R_349 f0 (fx_k (c := 13) R_349 (by decide +kernel)) (om_X12_yAt (Nat.le_trans (by decide) hd) R_349 f0 f1 f6 hc_352) (fun _ S_357 q_360 => ?_) (fun _ _ qq => kr_x qq)
        refine kr_z (by decide) q_360 fun v_355 f_356 R_358 E_359 => ?_
        obtain ⟨x_362, m_363, hc_361, h⟩ := bd_s h
        refine go_callV (x := 360) (mi := 210) (n := 4) (ci := 13) (as := [v5, v_341, v_346, v_355]) (rest := []) (by decide +kernel) (by decide +kernel) rfl rfl (q_sum8 _ (Nat.le_of_ble_eq_true rfl)) R_358 f0 (fx_k (c := 13) R_358 (by decide +kernel)) (om_X12_puts (Nat.le_trans (by decide) hd) R_358 f0 f5 f_342 f_347 f_356 hc_361) (fun _ S_366 q_369 => ?_) (fun _ _ qq => kr_x qq)
        refine kr_z (by decide) q_369 fun v_364 f_365 R_367 E_368 => ?_
        have E_372 := Ext.tr E E_368
        refine go_pop (by decide +kernel) f_365 (Or.inl rfl) ?_
        refine go_iinc (n := 6) (c := 1) (c' := 1) (by decide +kernel) (by decide +kernel) l6 f6 (by decide) fun L_373 v_374 f_375 l_376 kp_377 => ?_
        obtain ⟨x_378, e_379, h⟩ := lx_s h
        have f_380 := q_is_eq f_375 e_379
        have l_381 := kp_377 0 _ l0 (by decide) (Or.inl (by decide))
        have l_382 := kp_377 1 _ l1 (by decide) (Or.inl (by decide))
        have l_383 := kp_377 5 _ l5 (by decide) (Or.inr (q_is_cat f5 (Or.inl rfl)))
        refine go_goto (o := (-47)) (t := 215) (by decide +kernel) (by decide +kernel) ?_
        exact ih m_363 E_372 h R_367 l_381 f0 l_382 f1 l_383 f5 l_376 f_380
noncomputable def fj_X12_setBack_55 (y1 y2 s0 : Int) (m : MM) : Option (Int × MM) := bd (fm_X12_fails s0 m) fun x_33 m_34 =>
if x_33 = 0 then
bp (fm_X12_taskAt y1 y2 m_34) fun x_46 =>
gd (0 ≤ y1 ∧ y1 < 30) <| up m_34 83 y1 5 fun m_65 =>
bd (fm_X12_stops y1 m_65) fun x_73 m_74 =>
fl_X12_setBack_86 y1 x_46 (fun m_167 =>
lx (m_167 80 y1) fun x_178 =>
lx (m_167 81 y1) fun x_186 =>
lx (m_167 82 y1) fun x_194 =>
lx (m_167 84 y1) fun x_204 =>
lx (m_167 85 y1) fun x_212 =>
bd (fm_X12_makes x_178 x_186 x_194 (-1) x_204 x_212 m_167) fun x_215 m_216 =>
gd (0 ≤ x_215 ∧ x_215 < 30) <| up m_216 87 x_215 y1 fun m_236 =>
up m_236 88 x_215 (w32 (x_46 + 1)) fun m_250 =>
up m_250 86 x_215 (w32 (x_46 + 1)) fun m_264 =>
bd (fm_X12_recounts x_215 m_264) fun x_272 m_273 =>
bd (fm_X12_beginsAnew x_215 m_273) fun x_284 m_285 =>
lx (w32 (x_46 + 1)) fun x_299 =>
fl_X12_setBack_215 y1 x_215  BIG x_299 m_285) BIG 0 m_74
else
some (0, m_34)
set_option maxHeartbeats 4000000 in
theorem oj_X12_setBack_55 {xs : List Int32} {d : Nat} {S : QS} {L : QL} {Q : QO → QS → Prop} {m : MM} {y1 y2 s0 : Int} {v0 : Value} {v1 : Value} {v2 : Value} {w0 : Value} {w1 : Value}  {rz : Int} {rm : MM}
  (hd : 5 ≤ d) (R : Rp S m) (l0 : q_lo L 0 = some v0) (f0 : q_is 2 v0 68) (l1 : q_lo L 1 = some v1) (f1 : q_is 0 v1 y1) (l2 : q_lo L 2 = some v2) (f2 : q_is 0 v2 y2) (fs0 : q_is 0 w0 s0) (fs1 : q_is 2 w1 68)
  (hQ : Ext m rm → ∀ o S1, Rp S1 rm → q_out 0 o rz → Q o S1)
  (h : fj_X12_setBack_55 y1 y2 s0 m = some (rz, rm)) : Go xs d qM_X12_setBack 55 L [w0, w1] S Q := by
  unfold fj_X12_setBack_55 at h
  obtain ⟨x_33, m_34, hc_32, h⟩ := bd_s h
  refine go_callV (x := 324) (mi := 186) (n := 1) (ci := 13) (as := [w0]) (rest := []) (by decide +kernel) (by decide +kernel) rfl rfl (q_sum8 _ (Nat.le_of_ble_eq_true rfl)) R fs1 (fx_k (c := 13) R (by decide +kernel)) (om_X12_fails (Nat.le_trans (by decide) hd) R fs1 fs0 hc_32) (fun _ S_37 q_40 => ?_) (fun _ _ qq => kr_x qq)
  refine kr_z (by decide) q_40 fun v_35 f_36 R_38 E_39 => ?_
  have E_43 := E_39
  refine go_if (c := .eq) (o := 5) (t := 63) (P := x_33 = 0) (by decide +kernel) (by decide +kernel) f_36 (Iff.rfl) (fun hp_44 => ?_) (fun hp_44 => ?_)
  · have h := it_t hp_44 h
    refine go_aload_n (n := 0) (by decide +kernel) l0 f0 ?_
    refine go_iload_n (n := 1) (by decide +kernel) l1 f1 ?_
    refine go_iload_n (n := 2) (by decide +kernel) l2 f2 ?_
    obtain ⟨x_46, hc_45, h⟩ := bp_s h
    refine go_callV (x := 670) (mi := 300) (n := 2) (ci := 13) (as := [v1, v2]) (rest := []) (by decide +kernel) (by decide +kernel) rfl rfl (q_sum8 _ (Nat.le_of_ble_eq_true rfl)) R_38 f0 (fx_k (c := 13) R_38 (by decide +kernel)) (om_X12_taskAt (Nat.le_trans (by decide) hd) R_38 f0 f1 f2 hc_45) (fun _ S_50 q_53 => ?_) (fun _ _ qq => kr_x qq)
    refine kr_z (by decide) q_53 fun v_48 f_49 R_51 E_52 => ?_
    refine go_istore (n := 4) (by decide +kernel) (by decide +kernel) f_49 fun L_54 l_55 kp_56 => ?_
    have l_57 := kp_56 0 _ l0 (by decide) (Or.inl (by decide))
    have l_58 := kp_56 1 _ l1 (by decide) (Or.inl (by decide))
    refine go_aload_n (n := 0) (by decide +kernel) l_57 f0 ?_
    refine go_getf (x := 52) (ci := 13) (kf := 16) (fin := 1) (t := 2) (by decide +kernel) (by decide +kernel) (by decide +kernel) R_51 f0 (fx_k (c := 13) R_51 (by decide +kernel)) fun v_59 f_60 => ?_
    have f_61 := q_is_eq (b := 83) f_60 (fx_v R_51 (by decide +kernel)).symm
    refine go_iload_n (n := 1) (by decide +kernel) l_58 f1 ?_
    refine go_iconst (n := 5) (z := 5) (by decide +kernel) (by decide) fun v_62 f_63 => ?_
    obtain ⟨g_64, h⟩ := gd_s h
    obtain ⟨m_65, e_66, h⟩ := up_s h
    refine go_iast (kd := 100) (by decide +kernel) rfl R_51 f_61 f1 f_63 (fx_k (c := 100) R_51 (by decide +kernel)) (fx_x (a := 83) (ln := 30) R_51 (by decide +kernel) g_64) e_66 (fx_a R_51.2 (fx_k (c := 100) R_51 (by decide +kernel)) (And.left (fx_x (a := 83) (ln := 30) R_51 (by decide +kernel) g_64)) (by decide +kernel)) fun S_67 R_68 E_69 => ?_
    have E_71 := Ext.tr E_43 E_69
    refine go_aload_n (n := 0) (by decide +kernel) l_57 f0 ?_
    refine go_iload_n (n := 1) (by decide +kernel) l_58 f1 ?_
    obtain ⟨x_73, m_74, hc_72, h⟩ := bd_s h
    refine go_callV (x := 564) (mi := 254) (n := 1) (ci := 13) (as := [v1]) (rest := []) (by decide +kernel) (by decide +kernel) rfl rfl (q_sum8 _ (Nat.le_of_ble_eq_true rfl)) R_68 f0 (fx_k (c := 13) R_68 (by decide +kernel)) (om_X12_stops (Nat.le_trans (by decide) hd) R_68 f0 f1 hc_72) (fun _ S_77 q_80 => ?_) (fun _ _ qq => kr_x qq)
    refine kr_v q_80 fun R_78 E_79 => ?_
    have E_83 := Ext.tr E_71 E_79
    refine go_iconst (n := 0) (z := 0) (by decide +kernel) (by decide) fun v_84 f_85 => ?_
    refine go_istore (n := 5) (by decide +kernel) (by decide +kernel) f_85 fun L_86 l_87 kp_88 => ?_
    have l_89 := kp_88 0 _ l_57 (by decide) (Or.inl (by decide))
    have l_90 := kp_88 1 _ l_58 (by decide) (Or.inl (by decide))
    have l_91 := kp_88 4 _ l_55 (by decide) (Or.inr (q_is_cat f_49 (Or.inl rfl)))
    refine ol_X12_setBack_86 hd  ?_ (fun b => hQ (Ext.tr E_83 b)) BIG (Ext.rf _) h R_78 l_89 f0 l_90 f1 l_91 f_49 l_87 f_85
    intro m_167 E_168
    intro S_164 L_165 v_155 v_156 v_157
    intro h R_166 l_158 f_161 l_159 f_162 l_160 f_163
    have E_169 := Ext.tr E_83 E_168
    refine go_aload_n (n := 0) (by decide +kernel) l_158 f_161 ?_
    refine go_aload_n (n := 0) (by decide +kernel) l_158 f_161 ?_
    refine go_getf (x := 43) (ci := 13) (kf := 13) (fin := 1) (t := 2) (by decide +kernel) (by decide +kernel) (by decide +kernel) R_166 f_161 (fx_k (c := 13) R_166 (by decide +kernel)) fun v_172 f_173 => ?_
    have f_174 := q_is_eq (b := 80) f_173 (fx_v R_166 (by decide +kernel)).symm
    refine go_iload_n (n := 1) (by decide +kernel) l_159 f_162 ?_
    obtain ⟨x_178, e_179, h⟩ := lx_s h
    refine go_iald (kd := 100) (by decide +kernel) rfl R_166 f_174 f_162 (fx_k (c := 100) R_166 (by decide +kernel)) (fx_x (a := 80) (ln := 30) R_166 (by decide +kernel) g_64) fun v_175 f_176 => ?_
    have f_177 := q_is_eq f_176 e_179
    refine go_aload_n (n := 0) (by decide +kernel) l_158 f_161 ?_
    refine go_getf (x := 46) (ci := 13) (kf := 14) (fin := 1) (t := 2) (by decide +kernel) (by decide +kernel) (by decide +kernel) R_166 f_161 (fx_k (c := 13) R_166 (by decide +kernel)) fun v_180 f_181 => ?_
    have f_182 := q_is_eq (b := 81) f_181 (fx_v R_166 (by decide +kernel)).symm
    refine go_iload_n (n := 1) (by decide +kernel) l_159 f_162 ?_
    obtain ⟨x_186, e_187, h⟩ := lx_s h
    refine go_iald (kd := 100) (by decide +kernel) rfl R_166 f_182 f_162 (fx_k (c := 100) R_166 (by decide +kernel)) (fx_x (a := 81) (ln := 30) R_166 (by decide +kernel) g_64) fun v_183 f_184 => ?_
    have f_185 := q_is_eq f_184 e_187
    refine go_aload_n (n := 0) (by decide +kernel) l_158 f_161 ?_
    refine go_getf (x := 49) (ci := 13) (kf := 15) (fin := 1) (t := 2) (by decide +kernel) (by decide +kernel) (by decide +kernel) R_166 f_161 (fx_k (c := 13) R_166 (by decide +kernel)) fun v_188 f_189 => ?_
    have f_190 := q_is_eq (b := 82) f_189 (fx_v R_166 (by decide +kernel)).symm
    refine go_iload_n (n := 1) (by decide +kernel) l_159 f_162 ?_
    obtain ⟨x_194, e_195, h⟩ := lx_s h
    refine go_iald (kd := 100) (by decide +kernel) rfl R_166 f_190 f_162 (fx_k (c := 100) R_166 (by decide +kernel)) (fx_x (a := 82) (ln := 30) R_166 (by decide +kernel) g_64) fun v_191 f_192 => ?_
    have f_193 := q_is_eq f_192 e_195
    refine go_iconst (n := (-1)) (z := (-1)) (by decide +kernel) (by decide) fun v_196 f_197 => ?_
    refine go_aload_n (n := 0) (by decide +kernel) l_158 f_161 ?_
    refine go_getf (x := 55) (ci := 13) (kf := 17) (fin := 1) (t := 2) (by decide +kernel) (by decide +kernel) (by decide +kernel) R_166 f_161 (fx_k (c := 13) R_166 (by decide +kernel)) fun v_198 f_199 => ?_
    have f_200 := q_is_eq (b := 84) f_199 (fx_v R_166 (by decide +kernel)).symm
    refine go_iload_n (n := 1) (by decide +kernel) l_159 f_162 ?_
    obtain ⟨x_204, e_205, h⟩ := lx_s h
    refine go_iald (kd := 100) (by decide +kernel) rfl R_166 f_200 f_162 (fx_k (c := 100) R_166 (by decide +kernel)) (fx_x (a := 84) (ln := 30) R_166 (by decide +kernel) g_64) fun v_201 f_202 => ?_
    have f_203 := q_is_eq f_202 e_205
    refine go_aload_n (n := 0) (by decide +kernel) l_158 f_161 ?_
    refine go_getf (x := 58) (ci := 13) (kf := 18) (fin := 1) (t := 2) (by decide +kernel) (by decide +kernel) (by decide +kernel) R_166 f_161 (fx_k (c := 13) R_166 (by decide +kernel)) fun v_206 f_207 => ?_
    have f_208 := q_is_eq (b := 85) f_207 (fx_v R_166 (by decide +kernel)).symm
    refine go_iload_n (n := 1) (by decide +kernel) l_159 f_162 ?_
    obtain ⟨x_212, e_213, h⟩ := lx_s h
    refine go_iald (kd := 100) (by decide +kernel) rfl R_166 f_208 f_162 (fx_k (c := 100) R_166 (by decide +kernel)) (fx_x (a := 85) (ln := 30) R_166 (by decide +kernel) g_64) fun v_209 f_210 => ?_
    have f_211 := q_is_eq f_210 e_213
    obtain ⟨x_215, m_216, hc_214, h⟩ := bd_s h
    refine go_callV (x := 576) (mi := 212) (n := 6) (ci := 13) (as := [v_175, v_183, v_191, v_196, v_201, v_209]) (rest := []) (by decide +kernel) (by decide +kernel) rfl rfl (q_sum8 _ (Nat.le_of_ble_eq_true rfl)) R_166 f_161 (fx_k (c := 13) R_166 (by decide +kernel)) (om_X12_makes (Nat.le_trans (by decide) hd) R_166 f_161 f_177 f_185 f_193 f_197 f_203 f_211 hc_214) (fun _ S_219 q_222 => ?_) (fun _ _ qq => kr_x qq)
    refine kr_z (by decide) q_222 fun v_217 f_218 R_220 E_221 => ?_
    have E_225 := Ext.tr E_169 E_221
    refine go_istore (n := 5) (by decide +kernel) (by decide +kernel) f_218 fun L_226 l_227 kp_228 => ?_
    have l_229 := kp_228 0 _ l_158 (by decide) (Or.inl (by decide))
    have l_230 := kp_228 1 _ l_159 (by decide) (Or.inl (by decide))
    have l_231 := kp_228 4 _ l_160 (by decide) (Or.inr (q_is_cat f_163 (Or.inl rfl)))
    refine go_aload_n (n := 0) (by decide +kernel) l_229 f_161 ?_
    refine go_getf (x := 64) (ci := 13) (kf := 20) (fin := 1) (t := 2) (by decide +kernel) (by decide +kernel) (by decide +kernel) R_220 f_161 (fx_k (c := 13) R_220 (by decide +kernel)) fun v_232 f_233 => ?_
    have f_234 := q_is_eq (b := 87) f_233 (fx_v R_220 (by decide +kernel)).symm
    refine go_iload (n := 5) (by decide +kernel) l_227 f_218 ?_
    refine go_iload_n (n := 1) (by decide +kernel) l_230 f_162 ?_
    obtain ⟨g_235, h⟩ := gd_s h
    obtain ⟨m_236, e_237, h⟩ := up_s h
    refine go_iast (kd := 100) (by decide +kernel) rfl R_220 f_234 f_218 f_162 (fx_k (c := 100) R_220 (by decide +kernel)) (fx_x (a := 87) (ln := 30) R_220 (by decide +kernel) g_235) e_237 (fx_a R_220.2 (fx_k (c := 100) R_220 (by decide +kernel)) (And.left (fx_x (a := 87) (ln := 30) R_220 (by decide +kernel) g_235)) (by decide +kernel)) fun S_238 R_239 E_240 => ?_
    have E_242 := Ext.tr E_225 E_240
    refine go_aload_n (n := 0) (by decide +kernel) l_229 f_161 ?_
    refine go_getf (x := 67) (ci := 13) (kf := 21) (fin := 1) (t := 2) (by decide +kernel) (by decide +kernel) (by decide +kernel) R_239 f_161 (fx_k (c := 13) R_239 (by decide +kernel)) fun v_243 f_244 => ?_
    have f_245 := q_is_eq (b := 88) f_244 (fx_v R_239 (by decide +kernel)).symm
    refine go_iload (n := 5) (by decide +kernel) l_227 f_218 ?_
    refine go_iload (n := 4) (by decide +kernel) l_231 f_163 ?_
    refine go_iconst (n := 1) (z := 1) (by decide +kernel) (by decide) fun v_246 f_247 => ?_
    refine go_iadd (by decide +kernel) f_163 f_247 fun v_248 f_249 => ?_
    obtain ⟨m_250, e_251, h⟩ := up_s h
    refine go_iast (kd := 100) (by decide +kernel) rfl R_239 f_245 f_218 f_249 (fx_k (c := 100) R_239 (by decide +kernel)) (fx_x (a := 88) (ln := 30) R_239 (by decide +kernel) g_235) e_251 (fx_a R_239.2 (fx_k (c := 100) R_239 (by decide +kernel)) (And.left (fx_x (a := 88) (ln := 30) R_239 (by decide +kernel) g_235)) (by decide +kernel)) fun S_252 R_253 E_254 => ?_
    have E_256 := Ext.tr E_242 E_254
    refine go_aload_n (n := 0) (by decide +kernel) l_229 f_161 ?_
    refine go_getf (x := 61) (ci := 13) (kf := 19) (fin := 1) (t := 2) (by decide +kernel) (by decide +kernel) (by decide +kernel) R_253 f_161 (fx_k (c := 13) R_253 (by decide +kernel)) fun v_257 f_258 => ?_
    have f_259 := q_is_eq (b := 86) f_258 (fx_v R_253 (by decide +kernel)).symm
    refine go_iload (n := 5) (by decide +kernel) l_227 f_218 ?_
    refine go_iload (n := 4) (by decide +kernel) l_231 f_163 ?_
    refine go_iconst (n := 1) (z := 1) (by decide +kernel) (by decide) fun v_260 f_261 => ?_
    refine go_iadd (by decide +kernel) f_163 f_261 fun v_262 f_263 => ?_
    obtain ⟨m_264, e_265, h⟩ := up_s h
    refine go_iast (kd := 100) (by decide +kernel) rfl R_253 f_259 f_218 f_263 (fx_k (c := 100) R_253 (by decide +kernel)) (fx_x (a := 86) (ln := 30) R_253 (by decide +kernel) g_235) e_265 (fx_a R_253.2 (fx_k (c := 100) R_253 (by decide +kernel)) (And.left (fx_x (a := 86) (ln := 30) R_253 (by decide +kernel) g_235)) (by decide +kernel)) fun S_266 R_267 E_268 => ?_
    have E_270 := Ext.tr E_256 E_268
    refine go_aload_n (n := 0) (by decide +kernel) l_229 f_161 ?_
    refine go_iload (n := 5) (by decide +kernel) l_227 f_218 ?_
    obtain ⟨x_272, m_273, hc_271, h⟩ := bd_s h
    refine go_callV (x := 673) (mi := 209) (n := 1) (ci := 13) (as := [v_217]) (rest := []) (by decide +kernel) (by decide +kernel) rfl rfl (q_sum8 _ (Nat.le_of_ble_eq_true rfl)) R_267 f_161 (fx_k (c := 13) R_267 (by decide +kernel)) (om_X12_recounts (Nat.le_trans (by decide) hd) R_267 f_161 f_218 hc_271) (fun _ S_276 q_279 => ?_) (fun _ _ qq => kr_x qq)
    refine kr_v q_279 fun R_277 E_278 => ?_
    have E_282 := Ext.tr E_270 E_278
    refine go_aload_n (n := 0) (by decide +kernel) l_229 f_161 ?_
    refine go_iload (n := 5) (by decide +kernel) l_227 f_218 ?_
    obtain ⟨x_284, m_285, hc_283, h⟩ := bd_s h
    refine go_callV (x := 676) (mi := 299) (n := 1) (ci := 13) (as := [v_217]) (rest := []) (by decide +kernel) (by decide +kernel) rfl rfl (q_sum8 _ (Nat.le_of_ble_eq_true rfl)) R_277 f_161 (fx_k (c := 13) R_277 (by decide +kernel)) (om_X12_beginsAnew (Nat.le_trans (by decide) hd) R_277 f_161 f_218 hc_283) (fun _ S_288 q_291 => ?_) (fun _ _ qq => kr_x qq)
    refine kr_v q_291 fun R_289 E_290 => ?_
    have E_294 := Ext.tr E_282 E_290
    refine go_iload (n := 4) (by decide +kernel) l_231 f_163 ?_
    refine go_iconst (n := 1) (z := 1) (by decide +kernel) (by decide) fun v_295 f_296 => ?_
    refine go_iadd (by decide +kernel) f_163 f_296 fun v_297 f_298 => ?_
    obtain ⟨x_299, e_300, h⟩ := lx_s h
    have f_301 := q_is_eq f_298 e_300
    refine go_istore (n := 6) (by decide +kernel) (by decide +kernel) f_301 fun L_302 l_303 kp_304 => ?_
    have l_305 := kp_304 0 _ l_229 (by decide) (Or.inl (by decide))
    have l_306 := kp_304 1 _ l_230 (by decide) (Or.inl (by decide))
    have l_307 := kp_304 5 _ l_227 (by decide) (Or.inr (q_is_cat f_218 (Or.inl rfl)))
    refine ol_X12_setBack_215 hd   (fun b => hQ (Ext.tr E_294 b)) BIG (Ext.rf _) h R_289 l_305 f_161 l_306 f_162 l_307 f_218 l_303 f_301
  · have h := it_f hp_44 h
    refine go_iconst (n := 0) (z := 0) (by decide +kernel) (by decide) fun v_384 f_385 => ?_
    cases h
    exact go_iret (by decide +kernel) rfl (Or.inl rfl) f_385 (hQ E_43 _ _ R_38 (q_out_v (by decide) f_385))
noncomputable def fj_X12_setBack_23 (y1 y2 s0 : Int) (m : MM) : Option (Int × MM) := if s0 = 0 then
fj_X12_setBack_55 y1 y2 1 m
else
bp (fm_X12_isAlive y1 m) fun x_21 =>
if x_21 = 0 then
fj_X12_setBack_55 y1 y2 2 m
else
lx (m 68 12) fun x_389 =>
if x_389 < 30 then
fj_X12_setBack_55 y1 y2 0 m
else
fj_X12_setBack_55 y1 y2 2 m
set_option maxHeartbeats 4000000 in
theorem oj_X12_setBack_23 {xs : List Int32} {d : Nat} {S : QS} {L : QL} {Q : QO → QS → Prop} {m : MM} {y1 y2 s0 : Int} {v0 : Value} {v1 : Value} {v2 : Value} {w0 : Value}  {rz : Int} {rm : MM}
  (hd : 5 ≤ d) (R : Rp S m) (l0 : q_lo L 0 = some v0) (f0 : q_is 2 v0 68) (l1 : q_lo L 1 = some v1) (f1 : q_is 0 v1 y1) (l2 : q_lo L 2 = some v2) (f2 : q_is 0 v2 y2) (fs0 : q_is 0 w0 s0)
  (hQ : Ext m rm → ∀ o S1, Rp S1 rm → q_out 0 o rz → Q o S1)
  (h : fj_X12_setBack_23 y1 y2 s0 m = some (rz, rm)) : Go xs d qM_X12_setBack 23 L [w0] S Q := by
  unfold fj_X12_setBack_23 at h
  refine go_istore_n (n := 3) (by decide +kernel) (by decide +kernel) fs0 fun L_13 l_14 kp_15 => ?_
  have l_16 := kp_15 0 _ l0 (by decide) (Or.inl (by decide))
  have l_17 := kp_15 1 _ l1 (by decide) (Or.inl (by decide))
  have l_18 := kp_15 2 _ l2 (by decide) (Or.inr (q_is_cat f2 (Or.inl rfl)))
  refine go_aload_n (n := 0) (by decide +kernel) l_16 f0 ?_
  refine go_iload_n (n := 3) (by decide +kernel) l_14 fs0 ?_
  refine go_if (c := .ne) (o := 7) (t := 33) (P := ¬ (s0 = 0)) (by decide +kernel) (by decide +kernel) fs0 (Iff.rfl) (fun hp_19 => ?_) (fun hp_19 => ?_)
  · have h := it_f hp_19 h
    refine go_aload_n (n := 0) (by decide +kernel) l_16 f0 ?_
    refine go_iload_n (n := 1) (by decide +kernel) l_17 f1 ?_
    obtain ⟨x_21, hc_20, h⟩ := bp_s h
    refine go_callV (x := 561) (mi := 213) (n := 1) (ci := 13) (as := [v1]) (rest := [v0]) (by decide +kernel) (by decide +kernel) rfl rfl (q_sum8 _ (Nat.le_of_ble_eq_true rfl)) R f0 (fx_k (c := 13) R (by decide +kernel)) (om_X12_isAlive (Nat.le_trans (by decide) hd) R f0 f1 hc_20) (fun _ S_25 q_28 => ?_) (fun _ _ qq => kr_x qq)
    refine kr_z (by decide) q_28 fun v_23 f_24 R_26 E_27 => ?_
    refine go_if (c := .eq) (o := 16) (t := 54) (P := x_21 = 0) (by decide +kernel) (by decide +kernel) f_24 (Iff.rfl) (fun hp_29 => ?_) (fun hp_29 => ?_)
    · have h := it_t hp_29 h
      refine go_iconst (n := 2) (z := 2) (by decide +kernel) (by decide) fun v_30 f_31 => ?_
      exact oj_X12_setBack_55 hd R_26 l_16 f0 l_17 f1 l_18 f2 f_31 f0 hQ h
    · have h := it_f hp_29 h
      refine go_aload_n (n := 0) (by decide +kernel) l_16 f0 ?_
      obtain ⟨x_389, e_390, h⟩ := lx_s h
      refine go_getf (x := 310) (ci := 13) (kf := 12) (fin := 0) (t := 0) (by decide +kernel) (by decide +kernel) (by decide +kernel) R_26 f0 (fx_k (c := 13) R_26 (by decide +kernel)) fun v_386 f_387 => ?_
      have f_388 := q_is_eq f_387 e_390
      refine go_bipush (n := 30) (z := 30) (by decide +kernel) (by decide) fun v_391 f_392 => ?_
      refine go_icmp (c := .ge) (o := 7) (t := 54) (P := ¬ (x_389 < 30)) (by decide +kernel) (by decide +kernel) f_388 f_392 (Int.not_lt.symm) (fun hp_393 => ?_) (fun hp_393 => ?_)
      · have h := it_f hp_393 h
        refine go_iconst (n := 2) (z := 2) (by decide +kernel) (by decide) fun v_394 f_395 => ?_
        exact oj_X12_setBack_55 hd R_26 l_16 f0 l_17 f1 l_18 f2 f_395 f0 hQ h
      · have h := it_n hp_393 h
        refine go_iconst (n := 0) (z := 0) (by decide +kernel) (by decide) fun v_396 f_397 => ?_
        refine go_goto (o := 4) (t := 55) (by decide +kernel) (by decide +kernel) ?_
        exact oj_X12_setBack_55 hd R_26 l_16 f0 l_17 f1 l_18 f2 f_397 f0 hQ h
  · have h := it_n hp_19 h
    refine go_iconst (n := 1) (z := 1) (by decide +kernel) (by decide) fun v_398 f_399 => ?_
    refine go_goto (o := 25) (t := 55) (by decide +kernel) (by decide +kernel) ?_
    exact oj_X12_setBack_55 hd R l_16 f0 l_17 f1 l_18 f2 f_399 f0 hQ h
noncomputable def fm_X12_setBack (p1 p2 : Int) (m0 : MM) : Option (Int × MM) := bp (fm_X12_isRun p1 m0) fun x_2 =>
if x_2 = 0 then
fj_X12_setBack_23 p1 p2 0 m0
else
bp (fm_X12_taskAt p1 p2 m0) fun x_401 =>
if x_401 = (-1) then
fj_X12_setBack_23 p1 p2 0 m0
else
fj_X12_setBack_23 p1 p2 1 m0
set_option maxHeartbeats 4000000 in
theorem om_X12_setBack {xs : List Int32} {d : Nat} {S : QS} {m0 : MM} {p1 p2 : Int} {v0 : Value} {v1 : Value} {v2 : Value} {rz : Int} {rm : MM}
  (hd : 6 ≤ d) (R : Rp S m0) (f0 : q_is 2 v0 68) (f1 : q_is 0 v1 p1) (f2 : q_is 0 v2 p2)
  (h : fm_X12_setBack p1 p2 m0 = some (rz, rm)) : Mt xs d 301 [v0, v1, v2] S (Cr 0 m0 rm rz) := by
  obtain ⟨d, rfl⟩ : ∃ e, d = e + 1 := ⟨d - 1, by omega⟩
  have hd : 5 ≤ d := Nat.le_of_succ_le_succ hd
  refine Mt.of (M := qM_X12_setBack) rfl (by rw [sl_1 (q_is_cat f0 (Or.inr rfl)), sl_1 (q_is_cat f1 (Or.inl rfl)), sl_1 (q_is_cat f2 (Or.inl rfl)), sl_0]; decide) ?_
  rw [la_1 (q_is_cat f0 (Or.inr rfl)), la_1 (q_is_cat f1 (Or.inl rfl)), la_1 (q_is_cat f2 (Or.inl rfl)), la_0]
  obtain ⟨L, hL⟩ : ∃ L : QL, L = [(0, v0), (0 + 1, v1), (0 + 1 + 1, v2)] := ⟨_, rfl⟩
  rw [← hL]
  have l0 : q_lo L 0 = some v0 := by rw [hL]; rfl
  have l1 : q_lo L 1 = some v1 := by rw [hL]; rfl
  have l2 : q_lo L 2 = some v2 := by rw [hL]; rfl
  have hQ : Ext m0 rm → ∀ o S1, Rp S1 rm → q_out 0 o rz → (Cr 0 m0 rm rz) o S1 := fun a o S1 b e => ⟨b, a, e⟩
  unfold fm_X12_setBack at h
  refine go_aload_n (n := 0) (by decide +kernel) l0 f0 ?_
  refine go_iload_n (n := 1) (by decide +kernel) l1 f1 ?_
  obtain ⟨x_2, hc_1, h⟩ := bp_s h
  refine go_callV (x := 580) (mi := 193) (n := 1) (ci := 13) (as := [v1]) (rest := []) (by decide +kernel) (by decide +kernel) rfl rfl (q_sum8 _ (Nat.le_of_ble_eq_true rfl)) R f0 (fx_k (c := 13) R (by decide +kernel)) (om_X12_isRun (Nat.le_trans (by decide) hd) R f0 f1 hc_1) (fun _ S_6 q_9 => ?_) (fun _ _ qq => kr_x qq)
  refine kr_z (by decide) q_9 fun v_4 f_5 R_7 E_8 => ?_
  refine go_if (c := .eq) (o := 17) (t := 22) (P := x_2 = 0) (by decide +kernel) (by decide +kernel) f_5 (Iff.rfl) (fun hp_10 => ?_) (fun hp_10 => ?_)
  · have h := it_t hp_10 h
    refine go_iconst (n := 0) (z := 0) (by decide +kernel) (by decide) fun v_11 f_12 => ?_
    exact oj_X12_setBack_23 hd R_7 l0 f0 l1 f1 l2 f2 f_12 hQ h
  · have h := it_f hp_10 h
    refine go_aload_n (n := 0) (by decide +kernel) l0 f0 ?_
    refine go_iload_n (n := 1) (by decide +kernel) l1 f1 ?_
    refine go_iload_n (n := 2) (by decide +kernel) l2 f2 ?_
    obtain ⟨x_401, hc_400, h⟩ := bp_s h
    refine go_callV (x := 670) (mi := 300) (n := 2) (ci := 13) (as := [v1, v2]) (rest := []) (by decide +kernel) (by decide +kernel) rfl rfl (q_sum8 _ (Nat.le_of_ble_eq_true rfl)) R_7 f0 (fx_k (c := 13) R_7 (by decide +kernel)) (om_X12_taskAt (Nat.le_trans (by decide) hd) R_7 f0 f1 f2 hc_400) (fun _ S_405 q_408 => ?_) (fun _ _ qq => kr_x qq)
    refine kr_z (by decide) q_408 fun v_403 f_404 R_406 E_407 => ?_
    refine go_iconst (n := (-1)) (z := (-1)) (by decide +kernel) (by decide) fun v_409 f_410 => ?_
    refine go_icmp (c := .eq) (o := 7) (t := 22) (P := x_401 = (-1)) (by decide +kernel) (by decide +kernel) f_404 f_410 (Iff.rfl) (fun hp_411 => ?_) (fun hp_411 => ?_)
    · have h := it_t hp_411 h
      refine go_iconst (n := 0) (z := 0) (by decide +kernel) (by decide) fun v_412 f_413 => ?_
      exact oj_X12_setBack_23 hd R_406 l0 f0 l1 f1 l2 f2 f_413 hQ h
    · have h := it_f hp_411 h
      refine go_iconst (n := 1) (z := 1) (by decide +kernel) (by decide) fun v_414 f_415 => ?_
      refine go_goto (o := 4) (t := 23) (by decide +kernel) (by decide +kernel) ?_
      exact oj_X12_setBack_23 hd R_406 l0 f0 l1 f1 l2 f2 f_415 hQ h
noncomputable def fj_X12_copy_28 (y1 y2 s0 : Int) (m : MM) : Option (Int × MM) := bd (fm_X12_fails s0 m) fun x_28 m_29 =>
if x_28 = 0 then
gd (0 ≤ y1 ∧ y1 < 30) <| lx (m_29 92 y1) fun x_50 =>
lx (m_29 86 y1) fun x_60 =>
bp (fm_X12_least (w32 (x_50 + y2)) x_60 m_29) fun x_63 =>
up m_29 92 y1 x_63 fun m_71 =>
lx (m_71 92 y1) fun x_84 =>
some (x_84, m_71)
else
some (0, m_29)
set_option maxHeartbeats 4000000 in
theorem oj_X12_copy_28 {xs : List Int32} {d : Nat} {S : QS} {L : QL} {Q : QO → QS → Prop} {m : MM} {y1 y2 s0 : Int} {v0 : Value} {v1 : Value} {v2 : Value} {w0 : Value} {w1 : Value}  {rz : Int} {rm : MM}
  (hd : 2 ≤ d) (R : Rp S m) (l0 : q_lo L 0 = some v0) (f0 : q_is 2 v0 68) (l1 : q_lo L 1 = some v1) (f1 : q_is 0 v1 y1) (l2 : q_lo L 2 = some v2) (f2 : q_is 0 v2 y2) (fs0 : q_is 0 w0 s0) (fs1 : q_is 2 w1 68)
  (hQ : Ext m rm → ∀ o S1, Rp S1 rm → q_out 0 o rz → Q o S1)
  (h : fj_X12_copy_28 y1 y2 s0 m = some (rz, rm)) : Go xs d qM_X12_copy 28 L [w0, w1] S Q := by
  unfold fj_X12_copy_28 at h
  obtain ⟨x_28, m_29, hc_27, h⟩ := bd_s h
  refine go_callV (x := 324) (mi := 186) (n := 1) (ci := 13) (as := [w0]) (rest := []) (by decide +kernel) (by decide +kernel) rfl rfl (q_sum8 _ (Nat.le_of_ble_eq_true rfl)) R fs1 (fx_k (c := 13) R (by decide +kernel)) (om_X12_fails (Nat.le_trans (by decide) hd) R fs1 fs0 hc_27) (fun _ S_32 q_35 => ?_) (fun _ _ qq => kr_x qq)
  refine kr_z (by decide) q_35 fun v_30 f_31 R_33 E_34 => ?_
  have E_38 := E_34
  refine go_if (c := .eq) (o := 5) (t := 36) (P := x_28 = 0) (by decide +kernel) (by decide +kernel) f_31 (Iff.rfl) (fun hp_39 => ?_) (fun hp_39 => ?_)
  · have h := it_t hp_39 h
    refine go_aload_n (n := 0) (by decide +kernel) l0 f0 ?_
    refine go_getf (x := 79) (ci := 13) (kf := 25) (fin := 1) (t := 2) (by decide +kernel) (by decide +kernel) (by decide +kernel) R_33 f0 (fx_k (c := 13) R_33 (by decide +kernel)) fun v_40 f_41 => ?_
    have f_42 := q_is_eq (b := 92) f_41 (fx_v R_33 (by decide +kernel)).symm
    refine go_iload_n (n := 1) (by decide +kernel) l1 f1 ?_
    refine go_aload_n (n := 0) (by decide +kernel) l0 f0 ?_
    refine go_getf (x := 79) (ci := 13) (kf := 25) (fin := 1) (t := 2) (by decide +kernel) (by decide +kernel) (by decide +kernel) R_33 f0 (fx_k (c := 13) R_33 (by decide +kernel)) fun v_43 f_44 => ?_
    have f_45 := q_is_eq (b := 92) f_44 (fx_v R_33 (by decide +kernel)).symm
    refine go_iload_n (n := 1) (by decide +kernel) l1 f1 ?_
    obtain ⟨g_48, h⟩ := gd_s h
    obtain ⟨x_50, e_51, h⟩ := lx_s h
    refine go_iald (kd := 100) (by decide +kernel) rfl R_33 f_45 f1 (fx_k (c := 100) R_33 (by decide +kernel)) (fx_x (a := 92) (ln := 30) R_33 (by decide +kernel) g_48) fun v_46 f_47 => ?_
    have f_49 := q_is_eq f_47 e_51
    refine go_iload_n (n := 2) (by decide +kernel) l2 f2 ?_
    refine go_iadd (by decide +kernel) f_49 f2 fun v_52 f_53 => ?_
    refine go_aload_n (n := 0) (by decide +kernel) l0 f0 ?_
    refine go_getf (x := 61) (ci := 13) (kf := 19) (fin := 1) (t := 2) (by decide +kernel) (by decide +kernel) (by decide +kernel) R_33 f0 (fx_k (c := 13) R_33 (by decide +kernel)) fun v_54 f_55 => ?_
    have f_56 := q_is_eq (b := 86) f_55 (fx_v R_33 (by decide +kernel)).symm
    refine go_iload_n (n := 1) (by decide +kernel) l1 f1 ?_
    obtain ⟨x_60, e_61, h⟩ := lx_s h
    refine go_iald (kd := 100) (by decide +kernel) rfl R_33 f_56 f1 (fx_k (c := 100) R_33 (by decide +kernel)) (fx_x (a := 86) (ln := 30) R_33 (by decide +kernel) g_48) fun v_57 f_58 => ?_
    have f_59 := q_is_eq f_58 e_61
    obtain ⟨x_63, hc_62, h⟩ := bp_s h
    refine go_callS (x := 679) (mi := 189) (n := 2) (b := 0) (as := [v_52, v_57]) (rest := [v1, v_40]) (by decide +kernel) (by decide +kernel) rfl rfl (q_sum8 _ (Nat.le_of_ble_eq_true rfl)) (om_X12_least (Nat.le_trans (by decide) hd) R_33 f_53 f_59 hc_62) (fun _ S_67 q_70 => ?_) (fun _ _ qq => kr_x qq)
    refine kr_z (by decide) q_70 fun v_65 f_66 R_68 E_69 => ?_
    obtain ⟨m_71, e_72, h⟩ := up_s h
    refine go_iast (kd := 100) (by decide +kernel) rfl R_68 f_42 f1 f_66 (fx_k (c := 100) R_68 (by decide +kernel)) (fx_x (a := 92) (ln := 30) R_68 (by decide +kernel) g_48) e_72 (fx_a R_68.2 (fx_k (c := 100) R_68 (by decide +kernel)) (And.left (fx_x (a := 92) (ln := 30) R_68 (by decide +kernel) g_48)) (by decide +kernel)) fun S_73 R_74 E_75 => ?_
    have E_77 := Ext.tr E_38 E_75
    refine go_aload_n (n := 0) (by decide +kernel) l0 f0 ?_
    refine go_getf (x := 79) (ci := 13) (kf := 25) (fin := 1) (t := 2) (by decide +kernel) (by decide +kernel) (by decide +kernel) R_74 f0 (fx_k (c := 13) R_74 (by decide +kernel)) fun v_78 f_79 => ?_
    have f_80 := q_is_eq (b := 92) f_79 (fx_v R_74 (by decide +kernel)).symm
    refine go_iload_n (n := 1) (by decide +kernel) l1 f1 ?_
    obtain ⟨x_84, e_85, h⟩ := lx_s h
    refine go_iald (kd := 100) (by decide +kernel) rfl R_74 f_80 f1 (fx_k (c := 100) R_74 (by decide +kernel)) (fx_x (a := 92) (ln := 30) R_74 (by decide +kernel) g_48) fun v_81 f_82 => ?_
    have f_83 := q_is_eq f_82 e_85
    cases h
    exact go_iret (by decide +kernel) rfl (Or.inl rfl) f_83 (hQ E_77 _ _ R_74 (q_out_v (by decide) f_83))
  · have h := it_f hp_39 h
    refine go_iconst (n := 0) (z := 0) (by decide +kernel) (by decide) fun v_86 f_87 => ?_
    cases h
    exact go_iret (by decide +kernel) rfl (Or.inl rfl) f_87 (hQ E_38 _ _ R_33 (q_out_v (by decide) f_87))
noncomputable def fm_X12_copy (p1 p2 : Int) (m0 : MM) : Option (Int × MM) := bp (fm_X12_isRun p1 m0) fun x_2 =>
if x_2 = 0 then
fj_X12_copy_28 p1 p2 1 m0
else
bp (fm_X12_isIn p2 1 100 m0) fun x_16 =>
if x_16 = 0 then
fj_X12_copy_28 p1 p2 2 m0
else
fj_X12_copy_28 p1 p2 0 m0
set_option maxHeartbeats 4000000 in
theorem om_X12_copy {xs : List Int32} {d : Nat} {S : QS} {m0 : MM} {p1 p2 : Int} {v0 : Value} {v1 : Value} {v2 : Value} {rz : Int} {rm : MM}
  (hd : 3 ≤ d) (R : Rp S m0) (f0 : q_is 2 v0 68) (f1 : q_is 0 v1 p1) (f2 : q_is 0 v2 p2)
  (h : fm_X12_copy p1 p2 m0 = some (rz, rm)) : Mt xs d 302 [v0, v1, v2] S (Cr 0 m0 rm rz) := by
  obtain ⟨d, rfl⟩ : ∃ e, d = e + 1 := ⟨d - 1, by omega⟩
  have hd : 2 ≤ d := Nat.le_of_succ_le_succ hd
  refine Mt.of (M := qM_X12_copy) rfl (by rw [sl_1 (q_is_cat f0 (Or.inr rfl)), sl_1 (q_is_cat f1 (Or.inl rfl)), sl_1 (q_is_cat f2 (Or.inl rfl)), sl_0]; decide) ?_
  rw [la_1 (q_is_cat f0 (Or.inr rfl)), la_1 (q_is_cat f1 (Or.inl rfl)), la_1 (q_is_cat f2 (Or.inl rfl)), la_0]
  obtain ⟨L, hL⟩ : ∃ L : QL, L = [(0, v0), (0 + 1, v1), (0 + 1 + 1, v2)] := ⟨_, rfl⟩
  rw [← hL]
  have l0 : q_lo L 0 = some v0 := by rw [hL]; rfl
  have l1 : q_lo L 1 = some v1 := by rw [hL]; rfl
  have l2 : q_lo L 2 = some v2 := by rw [hL]; rfl
  have hQ : Ext m0 rm → ∀ o S1, Rp S1 rm → q_out 0 o rz → (Cr 0 m0 rm rz) o S1 := fun a o S1 b e => ⟨b, a, e⟩
  unfold fm_X12_copy at h
  refine go_aload_n (n := 0) (by decide +kernel) l0 f0 ?_
  refine go_aload_n (n := 0) (by decide +kernel) l0 f0 ?_
  refine go_iload_n (n := 1) (by decide +kernel) l1 f1 ?_
  obtain ⟨x_2, hc_1, h⟩ := bp_s h
  refine go_callV (x := 580) (mi := 193) (n := 1) (ci := 13) (as := [v1]) (rest := [v0]) (by decide +kernel) (by decide +kernel) rfl rfl (q_sum8 _ (Nat.le_of_ble_eq_true rfl)) R f0 (fx_k (c := 13) R (by decide +kernel)) (om_X12_isRun (Nat.le_trans (by decide) hd) R f0 f1 hc_1) (fun _ S_6 q_9 => ?_) (fun _ _ qq => kr_x qq)
  refine kr_z (by decide) q_9 fun v_4 f_5 R_7 E_8 => ?_
  refine go_if (c := .ne) (o := 7) (t := 13) (P := ¬ (x_2 = 0)) (by decide +kernel) (by decide +kernel) f_5 (Iff.rfl) (fun hp_10 => ?_) (fun hp_10 => ?_)
  · have h := it_f hp_10 h
    refine go_iload_n (n := 2) (by decide +kernel) l2 f2 ?_
    refine go_iconst (n := 1) (z := 1) (by decide +kernel) (by decide) fun v_11 f_12 => ?_
    refine go_bipush (n := 100) (z := 100) (by decide +kernel) (by decide) fun v_13 f_14 => ?_
    obtain ⟨x_16, hc_15, h⟩ := bp_s h
    refine go_callS (x := 306) (mi := 188) (n := 3) (b := 0) (as := [v2, v_11, v_13]) (rest := [v0]) (by decide +kernel) (by decide +kernel) rfl rfl (q_sum8 _ (Nat.le_of_ble_eq_true rfl)) (om_X12_isIn (Nat.le_trans (by decide) hd) R_7 f2 f_12 f_14 hc_15) (fun _ S_20 q_23 => ?_) (fun _ _ qq => kr_x qq)
    refine kr_z (by decide) q_23 fun v_18 f_19 R_21 E_22 => ?_
    refine go_if (c := .eq) (o := 7) (t := 27) (P := x_16 = 0) (by decide +kernel) (by decide +kernel) f_19 (Iff.rfl) (fun hp_24 => ?_) (fun hp_24 => ?_)
    · have h := it_t hp_24 h
      refine go_iconst (n := 2) (z := 2) (by decide +kernel) (by decide) fun v_25 f_26 => ?_
      exact oj_X12_copy_28 hd R_21 l0 f0 l1 f1 l2 f2 f_26 f0 hQ h
    · have h := it_f hp_24 h
      refine go_iconst (n := 0) (z := 0) (by decide +kernel) (by decide) fun v_88 f_89 => ?_
      refine go_goto (o := 4) (t := 28) (by decide +kernel) (by decide +kernel) ?_
      exact oj_X12_copy_28 hd R_21 l0 f0 l1 f1 l2 f2 f_89 f0 hQ h
  · have h := it_n hp_10 h
    refine go_iconst (n := 1) (z := 1) (by decide +kernel) (by decide) fun v_90 f_91 => ?_
    refine go_goto (o := 18) (t := 28) (by decide +kernel) (by decide +kernel) ?_
    exact oj_X12_copy_28 hd R_7 l0 f0 l1 f1 l2 f2 f_91 f0 hQ h
noncomputable def fl_X12_cutsRun_21 (y1 y2 : Int) (k97 : MM → Option (Int × MM)) : Nat → Int → MM → Option (Int × MM)
  | 0, _, _ => none
  | n + 1, y3, m => gd (0 ≤ y1 ∧ y1 < 30) <| lx (m 86 y1) fun x_47 =>
if y3 < x_47 then
bp (fm_X12_kindAt y1 y3 m) fun x_51 =>
if x_51 = 4 then
lx (m 68 84) fun x_79 =>
gd (0 ≤ x_79 ∧ x_79 < 4096) <| up m 139 x_79 y1 fun m_82 =>
lx (m_82 68 84) fun x_95 =>
bp (fm_X12_xAt y1 y3 m_82) fun x_98 =>
gd (0 ≤ x_95 ∧ x_95 < 4096) <| up m_82 140 x_95 x_98 fun m_107 =>
lx (m_107 68 84) fun x_120 =>
bp (fm_X12_yAt y1 y3 m_107) fun x_123 =>
gd (0 ≤ x_120 ∧ x_120 < 4096) <| up m_107 141 x_120 x_123 fun m_132 =>
lx (m_132 68 84) fun x_142 =>
up m_132 68 84 (w32 (x_142 + 1)) fun m_148 =>
lx (w32 (y3 + 1)) fun x_160 =>
fl_X12_cutsRun_21 y1 y2 k97 n x_160 m_148
else
lx (w32 (y3 + 1)) fun x_67 =>
fl_X12_cutsRun_21 y1 y2 k97 n x_67 m
else
k97 m
set_option maxHeartbeats 4000000 in
theorem ol_X12_cutsRun_21 {xs : List Int32} {d : Nat} {Q : QO → QS → Prop} {mb : MM} {y1 y2 : Int} {k97 : MM → Option (Int × MM)} {rz : Int} {rm : MM}
  (hd : 3 ≤ d)
  (hk97 : ∀ mq : MM, Ext mb mq → ∀ {Sq : QS} {Lq : QL} {u0 : Value} {u1 : Value} {u2 : Value}, k97 mq = some (rz, rm) → Rp Sq mq → q_lo Lq 0 = some u0 → q_is 2 u0 68 → q_lo Lq 1 = some u1 → q_is 0 u1 y1 → q_lo Lq 2 = some u2 → q_is 0 u2 y2 → Go xs d qM_X12_cutsRun 97 Lq [] Sq Q)
  (hQ : Ext mb rm → ∀ o S1, Rp S1 rm → q_out 0 o rz → Q o S1) :
  ∀ (n : Nat) {m : MM} {S : QS} {L : QL} {y3 : Int} {v0 : Value} {v1 : Value} {v2 : Value} {v3 : Value} , Ext mb m → fl_X12_cutsRun_21 y1 y2 k97 n y3 m = some (rz, rm) → Rp S m → q_lo L 0 = some v0 → q_is 2 v0 68 → q_lo L 1 = some v1 → q_is 0 v1 y1 → q_lo L 2 = some v2 → q_is 0 v2 y2 → q_lo L 3 = some v3 → q_is 0 v3 y3 → Go xs d qM_X12_cutsRun 21 L [] S Q := by
  intro n
  induction n with
  | zero => intro m S L y3 v0 v1 v2 v3; intro E h R l0 f0 l1 f1 l2 f2 l3 f3; cases h
  | succ n ih0 =>
    intro m S L y3 v0 v1 v2 v3; intro E h R l0 f0 l1 f1 l2 f2 l3 f3
    have ih : ∀ mq : MM, Ext mb mq → ∀ {z3 : Int} {Sq : QS} {Lq : QL} {u0 : Value} {u1 : Value} {u2 : Value} {u3 : Value}, fl_X12_cutsRun_21 y1 y2 k97 n z3 mq = some (rz, rm) → Rp Sq mq → q_lo Lq 0 = some u0 → q_is 2 u0 68 → q_lo Lq 1 = some u1 → q_is 0 u1 y1 → q_lo Lq 2 = some u2 → q_is 0 u2 y2 → q_lo Lq 3 = some u3 → q_is 0 u3 z3 → Go xs d qM_X12_cutsRun 21 Lq [] Sq Q := fun mq b => by intros; exact ih0 b ‹_› ‹_› ‹_› ‹_› ‹_› ‹_› ‹_› ‹_› ‹_› ‹_›
    unfold fl_X12_cutsRun_21 at h
    refine go_iload_n (n := 3) (by decide +kernel) l3 f3 ?_
    refine go_aload_n (n := 0) (by decide +kernel) l0 f0 ?_
    refine go_getf (x := 61) (ci := 13) (kf := 19) (fin := 1) (t := 2) (by decide +kernel) (by decide +kernel) (by decide +kernel) R f0 (fx_k (c := 13) R (by decide +kernel)) fun v_40 f_41 => ?_
    have f_42 := q_is_eq (b := 86) f_41 (fx_v R (by decide +kernel)).symm
    refine go_iload_n (n := 1) (by decide +kernel) l1 f1 ?_
    obtain ⟨g_45, h⟩ := gd_s h
    obtain ⟨x_47, e_48, h⟩ := lx_s h
    refine go_iald (kd := 100) (by decide +kernel) rfl R f_42 f1 (fx_k (c := 100) R (by decide +kernel)) (fx_x (a := 86) (ln := 30) R (by decide +kernel) g_45) fun v_43 f_44 => ?_
    have f_46 := q_is_eq f_44 e_48
    refine go_icmp (c := .ge) (o := 69) (t := 97) (P := ¬ (y3 < x_47)) (by decide +kernel) (by decide +kernel) f3 f_46 (Int.not_lt.symm) (fun hp_49 => ?_) (fun hp_49 => ?_)
    · have h := it_f hp_49 h
      exact hk97 m E h R l0 f0 l1 f1 l2 f2
    · have h := it_n hp_49 h
      refine go_aload_n (n := 0) (by decide +kernel) l0 f0 ?_
      refine go_iload_n (n := 1) (by decide +kernel) l1 f1 ?_
      refine go_iload_n (n := 3) (by decide +kernel) l3 f3 ?_
      obtain ⟨x_51, hc_50, h⟩ := bp_s h
      refine go_callV (x := 341) (mi := 204) (n := 2) (ci := 13) (as := [v1, v3]) (rest := []) (by decide +kernel) (by decide +kernel) rfl rfl (q_sum8 _ (Nat.le_of_ble_eq_true rfl)) R f0 (fx_k (c := 13) R (by decide +kernel)) (om_X12_kindAt (Nat.le_trans (by decide) hd) R f0 f1 f3 hc_50) (fun _ S_55 q_58 => ?_) (fun _ _ qq => kr_x qq)
      refine kr_z (by decide) q_58 fun v_53 f_54 R_56 E_57 => ?_
      refine go_iconst (n := 4) (z := 4) (by decide +kernel) (by decide) fun v_59 f_60 => ?_
      refine go_icmp (c := .ne) (o := 53) (t := 91) (P := ¬ (x_51 = 4)) (by decide +kernel) (by decide +kernel) f_54 f_60 (Iff.rfl) (fun hp_61 => ?_) (fun hp_61 => ?_)
      · have h := it_f hp_61 h
        refine go_iinc (n := 3) (c := 1) (c' := 1) (by decide +kernel) (by decide +kernel) l3 f3 (by decide) fun L_62 v_63 f_64 l_65 kp_66 => ?_
        obtain ⟨x_67, e_68, h⟩ := lx_s h
        have f_69 := q_is_eq f_64 e_68
        have l_70 := kp_66 0 _ l0 (by decide) (Or.inl (by decide))
        have l_71 := kp_66 1 _ l1 (by decide) (Or.inl (by decide))
        have l_72 := kp_66 2 _ l2 (by decide) (Or.inr (q_is_cat f2 (Or.inl rfl)))
        refine go_goto (o := (-73)) (t := 21) (by decide +kernel) (by decide +kernel) ?_
        exact ih m E h R_56 l_70 f0 l_71 f1 l_72 f2 l_65 f_69
      · have h := it_n hp_61 h
        refine go_aload_n (n := 0) (by decide +kernel) l0 f0 ?_
        refine go_getf (x := 232) (ci := 13) (kf := 85) (fin := 1) (t := 2) (by decide +kernel) (by decide +kernel) (by decide +kernel) R_56 f0 (fx_k (c := 13) R_56 (by decide +kernel)) fun v_73 f_74 => ?_
        have f_75 := q_is_eq (b := 139) f_74 (fx_v R_56 (by decide +kernel)).symm
        refine go_aload_n (n := 0) (by decide +kernel) l0 f0 ?_
        obtain ⟨x_79, e_80, h⟩ := lx_s h
        refine go_getf (x := 682) (ci := 13) (kf := 84) (fin := 0) (t := 0) (by decide +kernel) (by decide +kernel) (by decide +kernel) R_56 f0 (fx_k (c := 13) R_56 (by decide +kernel)) fun v_76 f_77 => ?_
        have f_78 := q_is_eq f_77 e_80
        refine go_iload_n (n := 1) (by decide +kernel) l1 f1 ?_
        obtain ⟨g_81, h⟩ := gd_s h
        obtain ⟨m_82, e_83, h⟩ := up_s h
        refine go_iast (kd := 100) (by decide +kernel) rfl R_56 f_75 f_78 f1 (fx_k (c := 100) R_56 (by decide +kernel)) (fx_x (a := 139) (ln := 4096) R_56 (by decide +kernel) g_81) e_83 (fx_a R_56.2 (fx_k (c := 100) R_56 (by decide +kernel)) (And.left (fx_x (a := 139) (ln := 4096) R_56 (by decide +kernel) g_81)) (by decide +kernel)) fun S_84 R_85 E_86 => ?_
        have E_88 := Ext.tr E E_86
        refine go_aload_n (n := 0) (by decide +kernel) l0 f0 ?_
        refine go_getf (x := 235) (ci := 13) (kf := 86) (fin := 1) (t := 2) (by decide +kernel) (by decide +kernel) (by decide +kernel) R_85 f0 (fx_k (c := 13) R_85 (by decide +kernel)) fun v_89 f_90 => ?_
        have f_91 := q_is_eq (b := 140) f_90 (fx_v R_85 (by decide +kernel)).symm
        refine go_aload_n (n := 0) (by decide +kernel) l0 f0 ?_
        obtain ⟨x_95, e_96, h⟩ := lx_s h
        refine go_getf (x := 682) (ci := 13) (kf := 84) (fin := 0) (t := 0) (by decide +kernel) (by decide +kernel) (by decide +kernel) R_85 f0 (fx_k (c := 13) R_85 (by decide +kernel)) fun v_92 f_93 => ?_
        have f_94 := q_is_eq f_93 e_96
        refine go_aload_n (n := 0) (by decide +kernel) l0 f0 ?_
        refine go_iload_n (n := 1) (by decide +kernel) l1 f1 ?_
        refine go_iload_n (n := 3) (by decide +kernel) l3 f3 ?_
        obtain ⟨x_98, hc_97, h⟩ := bp_s h
        refine go_callV (x := 344) (mi := 206) (n := 2) (ci := 13) (as := [v1, v3]) (rest := [v_92, v_89]) (by decide +kernel) (by decide +kernel) rfl rfl (q_sum8 _ (Nat.le_of_ble_eq_true rfl)) R_85 f0 (fx_k (c := 13) R_85 (by decide +kernel)) (om_X12_xAt (Nat.le_trans (by decide) hd) R_85 f0 f1 f3 hc_97) (fun _ S_102 q_105 => ?_) (fun _ _ qq => kr_x qq)
        refine kr_z (by decide) q_105 fun v_100 f_101 R_103 E_104 => ?_
        obtain ⟨g_106, h⟩ := gd_s h
        obtain ⟨m_107, e_108, h⟩ := up_s h
        refine go_iast (kd := 100) (by decide +kernel) rfl R_103 f_91 f_94 f_101 (fx_k (c := 100) R_103 (by decide +kernel)) (fx_x (a := 140) (ln := 4096) R_103 (by decide +kernel) g_106) e_108 (fx_a R_103.2 (fx_k (c := 100) R_103 (by decide +kernel)) (And.left (fx_x (a := 140) (ln := 4096) R_103 (by decide +kernel) g_106)) (by decide +kernel)) fun S_109 R_110 E_111 => ?_
        have E_113 := Ext.tr E_88 E_111
        refine go_aload_n (n := 0) (by decide +kernel) l0 f0 ?_
        refine go_getf (x := 238) (ci := 13) (kf := 87) (fin := 1) (t := 2) (by decide +kernel) (by decide +kernel) (by decide +kernel) R_110 f0 (fx_k (c := 13) R_110 (by decide +kernel)) fun v_114 f_115 => ?_
        have f_116 := q_is_eq (b := 141) f_115 (fx_v R_110 (by decide +kernel)).symm
        refine go_aload_n (n := 0) (by decide +kernel) l0 f0 ?_
        obtain ⟨x_120, e_121, h⟩ := lx_s h
        refine go_getf (x := 682) (ci := 13) (kf := 84) (fin := 0) (t := 0) (by decide +kernel) (by decide +kernel) (by decide +kernel) R_110 f0 (fx_k (c := 13) R_110 (by decide +kernel)) fun v_117 f_118 => ?_
        have f_119 := q_is_eq f_118 e_121
        refine go_aload_n (n := 0) (by decide +kernel) l0 f0 ?_
        refine go_iload_n (n := 1) (by decide +kernel) l1 f1 ?_
        refine go_iload_n (n := 3) (by decide +kernel) l3 f3 ?_
        obtain ⟨x_123, hc_122, h⟩ := bp_s h
        refine go_callV (x := 397) (mi := 205) (n := 2) (ci := 13) (as := [v1, v3]) (rest := [v_117, v_114]) (by decide +kernel) (by decide +kernel) rfl rfl (q_sum8 _ (Nat.le_of_ble_eq_true rfl)) R_110 f0 (fx_k (c := 13) R_110 (by decide +kernel)) (om_X12_yAt (Nat.le_trans (by decide) hd) R_110 f0 f1 f3 hc_122) (fun _ S_127 q_130 => ?_) (fun _ _ qq => kr_x qq)
        refine kr_z (by decide) q_130 fun v_125 f_126 R_128 E_129 => ?_
        obtain ⟨g_131, h⟩ := gd_s h
        obtain ⟨m_132, e_133, h⟩ := up_s h
        refine go_iast (kd := 100) (by decide +kernel) rfl R_128 f_116 f_119 f_126 (fx_k (c := 100) R_128 (by decide +kernel)) (fx_x (a := 141) (ln := 4096) R_128 (by decide +kernel) g_131) e_133 (fx_a R_128.2 (fx_k (c := 100) R_128 (by decide +kernel)) (And.left (fx_x (a := 141) (ln := 4096) R_128 (by decide +kernel) g_131)) (by decide +kernel)) fun S_134 R_135 E_136 => ?_
        have E_138 := Ext.tr E_113 E_136
        refine go_aload_n (n := 0) (by decide +kernel) l0 f0 ?_
        refine go_dup (by decide +kernel) f0 (Or.inr rfl) ?_
        obtain ⟨x_142, e_143, h⟩ := lx_s h
        refine go_getf (x := 682) (ci := 13) (kf := 84) (fin := 0) (t := 0) (by decide +kernel) (by decide +kernel) (by decide +kernel) R_135 f0 (fx_k (c := 13) R_135 (by decide +kernel)) fun v_139 f_140 => ?_
        have f_141 := q_is_eq f_140 e_143
        refine go_iconst (n := 1) (z := 1) (by decide +kernel) (by decide) fun v_144 f_145 => ?_
        refine go_iadd (by decide +kernel) f_141 f_145 fun v_146 f_147 => ?_
        obtain ⟨m_148, e_149, h⟩ := up_s h
        refine go_putf (x := 682) (ci := 13) (kf := 84) (fin := 0) (zt := 0) (by decide +kernel) (by decide +kernel) (by decide) (by decide +kernel) (by decide) (Or.inl rfl) R_135 f0 f_147 (fun hq => absurd hq (by decide)) (fx_k (c := 13) R_135 (by decide +kernel)) e_149 (fx_f (j := 84) R_135.2 (fx_k (c := 13) R_135 (by decide +kernel)) (by decide +kernel)) fun S_150 R_151 E_152 => ?_
        have E_154 := Ext.tr E_138 E_152
        refine go_iinc (n := 3) (c := 1) (c' := 1) (by decide +kernel) (by decide +kernel) l3 f3 (by decide) fun L_155 v_156 f_157 l_158 kp_159 => ?_
        obtain ⟨x_160, e_161, h⟩ := lx_s h
        have f_162 := q_is_eq f_157 e_161
        have l_163 := kp_159 0 _ l0 (by decide) (Or.inl (by decide))
        have l_164 := kp_159 1 _ l1 (by decide) (Or.inl (by decide))
        have l_165 := kp_159 2 _ l2 (by decide) (Or.inr (q_is_cat f2 (Or.inl rfl)))
        refine go_goto (o := (-73)) (t := 21) (by decide +kernel) (by decide +kernel) ?_
        exact ih m_148 E_154 h R_151 l_163 f0 l_164 f1 l_165 f2 l_158 f_162
noncomputable def fl_X12_cutsRun_160 (y1 y2 : Int) : Nat → Int → MM → Option (Int × MM)
  | 0, _, _ => none
  | n + 1, y3, m => lx (m 68 12) fun x_292 =>
if y3 < x_292 then
gd (0 ≤ y3 ∧ y3 < 30) <| lx (m 84 y3) fun x_305 =>
if x_305 = y1 then
lx (m 85 y3) fun x_338 =>
gd (0 ≤ y1 ∧ y1 < 30) <| lx (m 86 y1) fun x_347 =>
if x_338 < x_347 then
up m 84 y3 x_305 fun m_356 =>
lx (w32 (y3 + 1)) fun x_368 =>
fl_X12_cutsRun_160 y1 y2 n x_368 m_356
else
up m 84 y3 (-1) fun m_376 =>
lx (w32 (y3 + 1)) fun x_388 =>
fl_X12_cutsRun_160 y1 y2 n x_388 m_376
else
up m 84 y3 x_305 fun m_314 =>
lx (w32 (y3 + 1)) fun x_326 =>
fl_X12_cutsRun_160 y1 y2 n x_326 m_314
else
some (y2, m)
set_option maxHeartbeats 4000000 in
theorem ol_X12_cutsRun_160 {xs : List Int32} {d : Nat} {Q : QO → QS → Prop} {mb : MM} {y1 y2 : Int} {rz : Int} {rm : MM}
  (hd : 3 ≤ d)
  (hQ : Ext mb rm → ∀ o S1, Rp S1 rm → q_out 0 o rz → Q o S1) :
  ∀ (n : Nat) {m : MM} {S : QS} {L : QL} {y3 : Int} {v0 : Value} {v1 : Value} {v2 : Value} {v3 : Value} , Ext mb m → fl_X12_cutsRun_160 y1 y2 n y3 m = some (rz, rm) → Rp S m → q_lo L 0 = some v0 → q_is 2 v0 68 → q_lo L 1 = some v1 → q_is 0 v1 y1 → q_lo L 2 = some v2 → q_is 0 v2 y2 → q_lo L 3 = some v3 → q_is 0 v3 y3 → Go xs d qM_X12_cutsRun 160 L [] S Q := by
  intro n
  induction n with
  | zero => intro m S L y3 v0 v1 v2 v3; intro E h R l0 f0 l1 f1 l2 f2 l3 f3; cases h
  | succ n ih0 =>
    intro m S L y3 v0 v1 v2 v3; intro E h R l0 f0 l1 f1 l2 f2 l3 f3
    have ih : ∀ mq : MM, Ext mb mq → ∀ {z3 : Int} {Sq : QS} {Lq : QL} {u0 : Value} {u1 : Value} {u2 : Value} {u3 : Value}, fl_X12_cutsRun_160 y1 y2 n z3 mq = some (rz, rm) → Rp Sq mq → q_lo Lq 0 = some u0 → q_is 2 u0 68 → q_lo Lq 1 = some u1 → q_is 0 u1 y1 → q_lo Lq 2 = some u2 → q_is 0 u2 y2 → q_lo Lq 3 = some u3 → q_is 0 u3 z3 → Go xs d qM_X12_cutsRun 160 Lq [] Sq Q := fun mq b => by intros; exact ih0 b ‹_› ‹_› ‹_› ‹_› ‹_› ‹_› ‹_› ‹_› ‹_› ‹_›
    unfold fl_X12_cutsRun_160 at h
    refine go_iload_n (n := 3) (by decide +kernel) l3 f3 ?_
    refine go_aload_n (n := 0) (by decide +kernel) l0 f0 ?_
    obtain ⟨x_292, e_293, h⟩ := lx_s h
    refine go_getf (x := 310) (ci := 13) (kf := 12) (fin := 0) (t := 0) (by decide +kernel) (by decide +kernel) (by decide +kernel) R f0 (fx_k (c := 13) R (by decide +kernel)) fun v_289 f_290 => ?_
    have f_291 := q_is_eq f_290 e_293
    refine go_icmp (c := .ge) (o := 50) (t := 215) (P := ¬ (y3 < x_292)) (by decide +kernel) (by decide +kernel) f3 f_291 (Int.not_lt.symm) (fun hp_294 => ?_) (fun hp_294 => ?_)
    · have h := it_f hp_294 h
      refine go_iload_n (n := 2) (by decide +kernel) l2 f2 ?_
      cases h
      exact go_iret (by decide +kernel) rfl (Or.inl rfl) f2 (hQ E _ _ R (q_out_v (by decide) f2))
    · have h := it_n hp_294 h
      refine go_aload_n (n := 0) (by decide +kernel) l0 f0 ?_
      refine go_getf (x := 55) (ci := 13) (kf := 17) (fin := 1) (t := 2) (by decide +kernel) (by decide +kernel) (by decide +kernel) R f0 (fx_k (c := 13) R (by decide +kernel)) fun v_295 f_296 => ?_
      have f_297 := q_is_eq (b := 84) f_296 (fx_v R (by decide +kernel)).symm
      refine go_iload_n (n := 3) (by decide +kernel) l3 f3 ?_
      refine go_aload_n (n := 0) (by decide +kernel) l0 f0 ?_
      refine go_getf (x := 55) (ci := 13) (kf := 17) (fin := 1) (t := 2) (by decide +kernel) (by decide +kernel) (by decide +kernel) R f0 (fx_k (c := 13) R (by decide +kernel)) fun v_298 f_299 => ?_
      have f_300 := q_is_eq (b := 84) f_299 (fx_v R (by decide +kernel)).symm
      refine go_iload_n (n := 3) (by decide +kernel) l3 f3 ?_
      obtain ⟨g_303, h⟩ := gd_s h
      obtain ⟨x_305, e_306, h⟩ := lx_s h
      refine go_iald (kd := 100) (by decide +kernel) rfl R f_300 f3 (fx_k (c := 100) R (by decide +kernel)) (fx_x (a := 84) (ln := 30) R (by decide +kernel) g_303) fun v_301 f_302 => ?_
      have f_304 := q_is_eq f_302 e_306
      refine go_iload_n (n := 1) (by decide +kernel) l1 f1 ?_
      refine go_icmp (c := .ne) (o := 22) (t := 202) (P := ¬ (x_305 = y1)) (by decide +kernel) (by decide +kernel) f_304 f1 (Iff.rfl) (fun hp_307 => ?_) (fun hp_307 => ?_)
      · have h := it_f hp_307 h
        refine go_aload_n (n := 0) (by decide +kernel) l0 f0 ?_
        refine go_getf (x := 55) (ci := 13) (kf := 17) (fin := 1) (t := 2) (by decide +kernel) (by decide +kernel) (by decide +kernel) R f0 (fx_k (c := 13) R (by decide +kernel)) fun v_308 f_309 => ?_
        have f_310 := q_is_eq (b := 84) f_309 (fx_v R (by decide +kernel)).symm
        refine go_iload_n (n := 3) (by decide +kernel) l3 f3 ?_
        refine go_iald (kd := 100) (by decide +kernel) rfl R f_310 f3 (fx_k (c := 100) R (by decide +kernel)) (fx_x (a := 84) (ln := 30) R (by decide +kernel) g_303) fun v_311 f_312 => ?_
        have f_313 := q_is_eq f_312 e_306
        obtain ⟨m_314, e_315, h⟩ := up_s h
        refine go_iast (kd := 100) (by decide +kernel) rfl R f_297 f3 f_313 (fx_k (c := 100) R (by decide +kernel)) (fx_x (a := 84) (ln := 30) R (by decide +kernel) g_303) e_315 (fx_a R.2 (fx_k (c := 100) R (by decide +kernel)) (And.left (fx_x (a := 84) (ln := 30) R (by decide +kernel) g_303)) (by decide +kernel)) fun S_316 R_317 E_318 => ?_
        have E_320 := Ext.tr E E_318
        refine go_iinc (n := 3) (c := 1) (c' := 1) (by decide +kernel) (by decide +kernel) l3 f3 (by decide) fun L_321 v_322 f_323 l_324 kp_325 => ?_
        obtain ⟨x_326, e_327, h⟩ := lx_s h
        have f_328 := q_is_eq f_323 e_327
        have l_329 := kp_325 0 _ l0 (by decide) (Or.inl (by decide))
        have l_330 := kp_325 1 _ l1 (by decide) (Or.inl (by decide))
        have l_331 := kp_325 2 _ l2 (by decide) (Or.inr (q_is_cat f2 (Or.inl rfl)))
        refine go_goto (o := (-52)) (t := 160) (by decide +kernel) (by decide +kernel) ?_
        exact ih m_314 E_320 h R_317 l_329 f0 l_330 f1 l_331 f2 l_324 f_328
      · have h := it_n hp_307 h
        refine go_aload_n (n := 0) (by decide +kernel) l0 f0 ?_
        refine go_getf (x := 58) (ci := 13) (kf := 18) (fin := 1) (t := 2) (by decide +kernel) (by decide +kernel) (by decide +kernel) R f0 (fx_k (c := 13) R (by decide +kernel)) fun v_332 f_333 => ?_
        have f_334 := q_is_eq (b := 85) f_333 (fx_v R (by decide +kernel)).symm
        refine go_iload_n (n := 3) (by decide +kernel) l3 f3 ?_
        obtain ⟨x_338, e_339, h⟩ := lx_s h
        refine go_iald (kd := 100) (by decide +kernel) rfl R f_334 f3 (fx_k (c := 100) R (by decide +kernel)) (fx_x (a := 85) (ln := 30) R (by decide +kernel) g_303) fun v_335 f_336 => ?_
        have f_337 := q_is_eq f_336 e_339
        refine go_aload_n (n := 0) (by decide +kernel) l0 f0 ?_
        refine go_getf (x := 61) (ci := 13) (kf := 19) (fin := 1) (t := 2) (by decide +kernel) (by decide +kernel) (by decide +kernel) R f0 (fx_k (c := 13) R (by decide +kernel)) fun v_340 f_341 => ?_
        have f_342 := q_is_eq (b := 86) f_341 (fx_v R (by decide +kernel)).symm
        refine go_iload_n (n := 1) (by decide +kernel) l1 f1 ?_
        obtain ⟨g_345, h⟩ := gd_s h
        obtain ⟨x_347, e_348, h⟩ := lx_s h
        refine go_iald (kd := 100) (by decide +kernel) rfl R f_342 f1 (fx_k (c := 100) R (by decide +kernel)) (fx_x (a := 86) (ln := 30) R (by decide +kernel) g_345) fun v_343 f_344 => ?_
        have f_346 := q_is_eq f_344 e_348
        refine go_icmp (c := .lt) (o := 7) (t := 202) (P := x_338 < x_347) (by decide +kernel) (by decide +kernel) f_337 f_346 (Iff.rfl) (fun hp_349 => ?_) (fun hp_349 => ?_)
        · have h := it_t hp_349 h
          refine go_aload_n (n := 0) (by decide +kernel) l0 f0 ?_
          refine go_getf (x := 55) (ci := 13) (kf := 17) (fin := 1) (t := 2) (by decide +kernel) (by decide +kernel) (by decide +kernel) R f0 (fx_k (c := 13) R (by decide +kernel)) fun v_350 f_351 => ?_
          have f_352 := q_is_eq (b := 84) f_351 (fx_v R (by decide +kernel)).symm
          refine go_iload_n (n := 3) (by decide +kernel) l3 f3 ?_
          refine go_iald (kd := 100) (by decide +kernel) rfl R f_352 f3 (fx_k (c := 100) R (by decide +kernel)) (fx_x (a := 84) (ln := 30) R (by decide +kernel) g_303) fun v_353 f_354 => ?_
          have f_355 := q_is_eq f_354 e_306
          obtain ⟨m_356, e_357, h⟩ := up_s h
          refine go_iast (kd := 100) (by decide +kernel) rfl R f_297 f3 f_355 (fx_k (c := 100) R (by decide +kernel)) (fx_x (a := 84) (ln := 30) R (by decide +kernel) g_303) e_357 (fx_a R.2 (fx_k (c := 100) R (by decide +kernel)) (And.left (fx_x (a := 84) (ln := 30) R (by decide +kernel) g_303)) (by decide +kernel)) fun S_358 R_359 E_360 => ?_
          have E_362 := Ext.tr E E_360
          refine go_iinc (n := 3) (c := 1) (c' := 1) (by decide +kernel) (by decide +kernel) l3 f3 (by decide) fun L_363 v_364 f_365 l_366 kp_367 => ?_
          obtain ⟨x_368, e_369, h⟩ := lx_s h
          have f_370 := q_is_eq f_365 e_369
          have l_371 := kp_367 0 _ l0 (by decide) (Or.inl (by decide))
          have l_372 := kp_367 1 _ l1 (by decide) (Or.inl (by decide))
          have l_373 := kp_367 2 _ l2 (by decide) (Or.inr (q_is_cat f2 (Or.inl rfl)))
          refine go_goto (o := (-52)) (t := 160) (by decide +kernel) (by decide +kernel) ?_
          exact ih m_356 E_362 h R_359 l_371 f0 l_372 f1 l_373 f2 l_366 f_370
        · have h := it_f hp_349 h
          refine go_iconst (n := (-1)) (z := (-1)) (by decide +kernel) (by decide) fun v_374 f_375 => ?_
          refine go_goto (o := 9) (t := 208) (by decide +kernel) (by decide +kernel) ?_
          obtain ⟨m_376, e_377, h⟩ := up_s h
          refine go_iast (kd := 100) (by decide +kernel) rfl R f_297 f3 f_375 (fx_k (c := 100) R (by decide +kernel)) (fx_x (a := 84) (ln := 30) R (by decide +kernel) g_303) e_377 (fx_a R.2 (fx_k (c := 100) R (by decide +kernel)) (And.left (fx_x (a := 84) (ln := 30) R (by decide +kernel) g_303)) (by decide +kernel)) fun S_378 R_379 E_380 => ?_
          have E_382 := Ext.tr E E_380
          refine go_iinc (n := 3) (c := 1) (c' := 1) (by decide +kernel) (by decide +kernel) l3 f3 (by decide) fun L_383 v_384 f_385 l_386 kp_387 => ?_
          obtain ⟨x_388, e_389, h⟩ := lx_s h
          have f_390 := q_is_eq f_385 e_389
          have l_391 := kp_387 0 _ l0 (by decide) (Or.inl (by decide))
          have l_392 := kp_387 1 _ l1 (by decide) (Or.inl (by decide))
          have l_393 := kp_387 2 _ l2 (by decide) (Or.inr (q_is_cat f2 (Or.inl rfl)))
          refine go_goto (o := (-52)) (t := 160) (by decide +kernel) (by decide +kernel) ?_
          exact ih m_376 E_382 h R_379 l_391 f0 l_392 f1 l_393 f2 l_386 f_390
noncomputable def fj_X12_cutsRun_151 (y1 y2 s0 s1 s2 : Int) (m : MM) : Option (Int × MM) := gd (0 ≤ s2 ∧ s2 < 30) <| up m 93 s2 (w32 (s1 + s0)) fun m_262 =>
bd (fm_X12_stops y1 m_262) fun x_270 m_271 =>
fl_X12_cutsRun_160 y1 y2  BIG 0 m_271
set_option maxHeartbeats 4000000 in
theorem oj_X12_cutsRun_151 {xs : List Int32} {d : Nat} {S : QS} {L : QL} {Q : QO → QS → Prop} {m : MM} {y1 y2 s0 s1 s2 : Int} {v0 : Value} {v1 : Value} {v2 : Value} {w0 : Value} {w1 : Value} {w2 : Value} {w3 : Value}  {rz : Int} {rm : MM}
  (hd : 3 ≤ d) (R : Rp S m) (l0 : q_lo L 0 = some v0) (f0 : q_is 2 v0 68) (l1 : q_lo L 1 = some v1) (f1 : q_is 0 v1 y1) (l2 : q_lo L 2 = some v2) (f2 : q_is 0 v2 y2) (fs0 : q_is 0 w0 s0) (fs1 : q_is 0 w1 s1) (fs2 : q_is 0 w2 s2) (fs3 : q_is 2 w3 93)
  (hQ : Ext m rm → ∀ o S1, Rp S1 rm → q_out 0 o rz → Q o S1)
  (h : fj_X12_cutsRun_151 y1 y2 s0 s1 s2 m = some (rz, rm)) : Go xs d qM_X12_cutsRun 151 L [w0, w1, w2, w3] S Q := by
  unfold fj_X12_cutsRun_151 at h
  refine go_iadd (by decide +kernel) fs1 fs0 fun v_259 f_260 => ?_
  obtain ⟨g_261, h⟩ := gd_s h
  obtain ⟨m_262, e_263, h⟩ := up_s h
  refine go_iast (kd := 100) (by decide +kernel) rfl R fs3 fs2 f_260 (fx_k (c := 100) R (by decide +kernel)) (fx_x (a := 93) (ln := 30) R (by decide +kernel) g_261) e_263 (fx_a R.2 (fx_k (c := 100) R (by decide +kernel)) (And.left (fx_x (a := 93) (ln := 30) R (by decide +kernel) g_261)) (by decide +kernel)) fun S_264 R_265 E_266 => ?_
  have E_268 := E_266
  refine go_aload_n (n := 0) (by decide +kernel) l0 f0 ?_
  refine go_iload_n (n := 1) (by decide +kernel) l1 f1 ?_
  obtain ⟨x_270, m_271, hc_269, h⟩ := bd_s h
  refine go_callV (x := 564) (mi := 254) (n := 1) (ci := 13) (as := [v1]) (rest := []) (by decide +kernel) (by decide +kernel) rfl rfl (q_sum8 _ (Nat.le_of_ble_eq_true rfl)) R_265 f0 (fx_k (c := 13) R_265 (by decide +kernel)) (om_X12_stops (Nat.le_trans (by decide) hd) R_265 f0 f1 hc_269) (fun _ S_274 q_277 => ?_) (fun _ _ qq => kr_x qq)
  refine kr_v q_277 fun R_275 E_276 => ?_
  have E_280 := Ext.tr E_268 E_276
  refine go_iconst (n := 0) (z := 0) (by decide +kernel) (by decide) fun v_281 f_282 => ?_
  refine go_istore_n (n := 3) (by decide +kernel) (by decide +kernel) f_282 fun L_283 l_284 kp_285 => ?_
  have l_286 := kp_285 0 _ l0 (by decide) (Or.inl (by decide))
  have l_287 := kp_285 1 _ l1 (by decide) (Or.inl (by decide))
  have l_288 := kp_285 2 _ l2 (by decide) (Or.inr (q_is_cat f2 (Or.inl rfl)))
  refine ol_X12_cutsRun_160 hd   (fun b => hQ (Ext.tr E_280 b)) BIG (Ext.rf _) h R_275 l_286 f0 l_287 f1 l_288 f2 l_284 f_282
noncomputable def fm_X12_cutsRun (p1 : Int) (m0 : MM) : Option (Int × MM) := gd (0 ≤ p1 ∧ p1 < 30) <| lx (m0 86 p1) fun x_8 =>
lx (m0 92 p1) fun x_16 =>
lx (w32 (x_8 - x_16)) fun x_20 =>
fl_X12_cutsRun_21 p1 x_20 (fun m_178 =>
lx (m_178 92 p1) fun x_192 =>
up m_178 86 p1 x_192 fun m_194 =>
lx (m_194 88 p1) fun x_210 =>
lx (m_194 86 p1) fun x_218 =>
bp (fm_X12_least x_210 x_218 m_194) fun x_221 =>
up m_194 88 p1 x_221 fun m_229 =>
bd (fm_X12_recounts p1 m_229) fun x_237 m_238 =>
lx (m_238 93 p1) fun x_254 =>
if 0 < x_20 then
fj_X12_cutsRun_151 p1 x_20 1 x_254 p1 m_238
else
fj_X12_cutsRun_151 p1 x_20 0 x_254 p1 m_238) BIG x_16 m0
set_option maxHeartbeats 4000000 in
theorem om_X12_cutsRun {xs : List Int32} {d : Nat} {S : QS} {m0 : MM} {p1 : Int} {v0 : Value} {v1 : Value} {rz : Int} {rm : MM}
  (hd : 4 ≤ d) (R : Rp S m0) (f0 : q_is 2 v0 68) (f1 : q_is 0 v1 p1)
  (h : fm_X12_cutsRun p1 m0 = some (rz, rm)) : Mt xs d 303 [v0, v1] S (Cr 0 m0 rm rz) := by
  obtain ⟨d, rfl⟩ : ∃ e, d = e + 1 := ⟨d - 1, by omega⟩
  have hd : 3 ≤ d := Nat.le_of_succ_le_succ hd
  refine Mt.of (M := qM_X12_cutsRun) rfl (by rw [sl_1 (q_is_cat f0 (Or.inr rfl)), sl_1 (q_is_cat f1 (Or.inl rfl)), sl_0]; decide) ?_
  rw [la_1 (q_is_cat f0 (Or.inr rfl)), la_1 (q_is_cat f1 (Or.inl rfl)), la_0]
  obtain ⟨L, hL⟩ : ∃ L : QL, L = [(0, v0), (0 + 1, v1)] := ⟨_, rfl⟩
  rw [← hL]
  have l0 : q_lo L 0 = some v0 := by rw [hL]; rfl
  have l1 : q_lo L 1 = some v1 := by rw [hL]; rfl
  have hQ : Ext m0 rm → ∀ o S1, Rp S1 rm → q_out 0 o rz → (Cr 0 m0 rm rz) o S1 := fun a o S1 b e => ⟨b, a, e⟩
  unfold fm_X12_cutsRun at h
  refine go_aload_n (n := 0) (by decide +kernel) l0 f0 ?_
  refine go_getf (x := 61) (ci := 13) (kf := 19) (fin := 1) (t := 2) (by decide +kernel) (by decide +kernel) (by decide +kernel) R f0 (fx_k (c := 13) R (by decide +kernel)) fun v_1 f_2 => ?_
  have f_3 := q_is_eq (b := 86) f_2 (fx_v R (by decide +kernel)).symm
  refine go_iload_n (n := 1) (by decide +kernel) l1 f1 ?_
  obtain ⟨g_6, h⟩ := gd_s h
  obtain ⟨x_8, e_9, h⟩ := lx_s h
  refine go_iald (kd := 100) (by decide +kernel) rfl R f_3 f1 (fx_k (c := 100) R (by decide +kernel)) (fx_x (a := 86) (ln := 30) R (by decide +kernel) g_6) fun v_4 f_5 => ?_
  have f_7 := q_is_eq f_5 e_9
  refine go_aload_n (n := 0) (by decide +kernel) l0 f0 ?_
  refine go_getf (x := 79) (ci := 13) (kf := 25) (fin := 1) (t := 2) (by decide +kernel) (by decide +kernel) (by decide +kernel) R f0 (fx_k (c := 13) R (by decide +kernel)) fun v_10 f_11 => ?_
  have f_12 := q_is_eq (b := 92) f_11 (fx_v R (by decide +kernel)).symm
  refine go_iload_n (n := 1) (by decide +kernel) l1 f1 ?_
  obtain ⟨x_16, e_17, h⟩ := lx_s h
  refine go_iald (kd := 100) (by decide +kernel) rfl R f_12 f1 (fx_k (c := 100) R (by decide +kernel)) (fx_x (a := 92) (ln := 30) R (by decide +kernel) g_6) fun v_13 f_14 => ?_
  have f_15 := q_is_eq f_14 e_17
  refine go_isub (by decide +kernel) f_7 f_15 fun v_18 f_19 => ?_
  obtain ⟨x_20, e_21, h⟩ := lx_s h
  have f_22 := q_is_eq f_19 e_21
  refine go_istore_n (n := 2) (by decide +kernel) (by decide +kernel) f_22 fun L_23 l_24 kp_25 => ?_
  have l_26 := kp_25 0 _ l0 (by decide) (Or.inl (by decide))
  have l_27 := kp_25 1 _ l1 (by decide) (Or.inr (q_is_cat f1 (Or.inl rfl)))
  refine go_aload_n (n := 0) (by decide +kernel) l_26 f0 ?_
  refine go_getf (x := 79) (ci := 13) (kf := 25) (fin := 1) (t := 2) (by decide +kernel) (by decide +kernel) (by decide +kernel) R f0 (fx_k (c := 13) R (by decide +kernel)) fun v_28 f_29 => ?_
  have f_30 := q_is_eq (b := 92) f_29 (fx_v R (by decide +kernel)).symm
  refine go_iload_n (n := 1) (by decide +kernel) l_27 f1 ?_
  refine go_iald (kd := 100) (by decide +kernel) rfl R f_30 f1 (fx_k (c := 100) R (by decide +kernel)) (fx_x (a := 92) (ln := 30) R (by decide +kernel) g_6) fun v_31 f_32 => ?_
  have f_33 := q_is_eq f_32 e_17
  refine go_istore_n (n := 3) (by decide +kernel) (by decide +kernel) f_33 fun L_34 l_35 kp_36 => ?_
  have l_37 := kp_36 0 _ l_26 (by decide) (Or.inl (by decide))
  have l_38 := kp_36 1 _ l_27 (by decide) (Or.inl (by decide))
  have l_39 := kp_36 2 _ l_24 (by decide) (Or.inr (q_is_cat f_22 (Or.inl rfl)))
  refine ol_X12_cutsRun_21 hd  ?_ hQ BIG (Ext.rf _) h R l_37 f0 l_38 f1 l_39 f_22 l_35 f_33
  intro m_178 E_179
  intro S_175 L_176 v_166 v_167 v_168
  intro h R_177 l_169 f_172 l_170 f_173 l_171 f_174
  have E_180 := E_179
  refine go_aload_n (n := 0) (by decide +kernel) l_169 f_172 ?_
  refine go_getf (x := 61) (ci := 13) (kf := 19) (fin := 1) (t := 2) (by decide +kernel) (by decide +kernel) (by decide +kernel) R_177 f_172 (fx_k (c := 13) R_177 (by decide +kernel)) fun v_183 f_184 => ?_
  have f_185 := q_is_eq (b := 86) f_184 (fx_v R_177 (by decide +kernel)).symm
  refine go_iload_n (n := 1) (by decide +kernel) l_170 f_173 ?_
  refine go_aload_n (n := 0) (by decide +kernel) l_169 f_172 ?_
  refine go_getf (x := 79) (ci := 13) (kf := 25) (fin := 1) (t := 2) (by decide +kernel) (by decide +kernel) (by decide +kernel) R_177 f_172 (fx_k (c := 13) R_177 (by decide +kernel)) fun v_186 f_187 => ?_
  have f_188 := q_is_eq (b := 92) f_187 (fx_v R_177 (by decide +kernel)).symm
  refine go_iload_n (n := 1) (by decide +kernel) l_170 f_173 ?_
  obtain ⟨x_192, e_193, h⟩ := lx_s h
  refine go_iald (kd := 100) (by decide +kernel) rfl R_177 f_188 f_173 (fx_k (c := 100) R_177 (by decide +kernel)) (fx_x (a := 92) (ln := 30) R_177 (by decide +kernel) g_6) fun v_189 f_190 => ?_
  have f_191 := q_is_eq f_190 e_193
  obtain ⟨m_194, e_195, h⟩ := up_s h
  refine go_iast (kd := 100) (by decide +kernel) rfl R_177 f_185 f_173 f_191 (fx_k (c := 100) R_177 (by decide +kernel)) (fx_x (a := 86) (ln := 30) R_177 (by decide +kernel) g_6) e_195 (fx_a R_177.2 (fx_k (c := 100) R_177 (by decide +kernel)) (And.left (fx_x (a := 86) (ln := 30) R_177 (by decide +kernel) g_6)) (by decide +kernel)) fun S_196 R_197 E_198 => ?_
  have E_200 := Ext.tr E_180 E_198
  refine go_aload_n (n := 0) (by decide +kernel) l_169 f_172 ?_
  refine go_getf (x := 67) (ci := 13) (kf := 21) (fin := 1) (t := 2) (by decide +kernel) (by decide +kernel) (by decide +kernel) R_197 f_172 (fx_k (c := 13) R_197 (by decide +kernel)) fun v_201 f_202 => ?_
  have f_203 := q_is_eq (b := 88) f_202 (fx_v R_197 (by decide +kernel)).symm
  refine go_iload_n (n := 1) (by decide +kernel) l_170 f_173 ?_
  refine go_aload_n (n := 0) (by decide +kernel) l_169 f_172 ?_
  refine go_getf (x := 67) (ci := 13) (kf := 21) (fin := 1) (t := 2) (by decide +kernel) (by decide +kernel) (by decide +kernel) R_197 f_172 (fx_k (c := 13) R_197 (by decide +kernel)) fun v_204 f_205 => ?_
  have f_206 := q_is_eq (b := 88) f_205 (fx_v R_197 (by decide +kernel)).symm
  refine go_iload_n (n := 1) (by decide +kernel) l_170 f_173 ?_
  obtain ⟨x_210, e_211, h⟩ := lx_s h
  refine go_iald (kd := 100) (by decide +kernel) rfl R_197 f_206 f_173 (fx_k (c := 100) R_197 (by decide +kernel)) (fx_x (a := 88) (ln := 30) R_197 (by decide +kernel) g_6) fun v_207 f_208 => ?_
  have f_209 := q_is_eq f_208 e_211
  refine go_aload_n (n := 0) (by decide +kernel) l_169 f_172 ?_
  refine go_getf (x := 61) (ci := 13) (kf := 19) (fin := 1) (t := 2) (by decide +kernel) (by decide +kernel) (by decide +kernel) R_197 f_172 (fx_k (c := 13) R_197 (by decide +kernel)) fun v_212 f_213 => ?_
  have f_214 := q_is_eq (b := 86) f_213 (fx_v R_197 (by decide +kernel)).symm
  refine go_iload_n (n := 1) (by decide +kernel) l_170 f_173 ?_
  obtain ⟨x_218, e_219, h⟩ := lx_s h
  refine go_iald (kd := 100) (by decide +kernel) rfl R_197 f_214 f_173 (fx_k (c := 100) R_197 (by decide +kernel)) (fx_x (a := 86) (ln := 30) R_197 (by decide +kernel) g_6) fun v_215 f_216 => ?_
  have f_217 := q_is_eq f_216 e_219
  obtain ⟨x_221, hc_220, h⟩ := bp_s h
  refine go_callS (x := 679) (mi := 189) (n := 2) (b := 0) (as := [v_207, v_215]) (rest := [v_167, v_201]) (by decide +kernel) (by decide +kernel) rfl rfl (q_sum8 _ (Nat.le_of_ble_eq_true rfl)) (om_X12_least (Nat.le_trans (by decide) hd) R_197 f_209 f_217 hc_220) (fun _ S_225 q_228 => ?_) (fun _ _ qq => kr_x qq)
  refine kr_z (by decide) q_228 fun v_223 f_224 R_226 E_227 => ?_
  obtain ⟨m_229, e_230, h⟩ := up_s h
  refine go_iast (kd := 100) (by decide +kernel) rfl R_226 f_203 f_173 f_224 (fx_k (c := 100) R_226 (by decide +kernel)) (fx_x (a := 88) (ln := 30) R_226 (by decide +kernel) g_6) e_230 (fx_a R_226.2 (fx_k (c := 100) R_226 (by decide +kernel)) (And.left (fx_x (a := 88) (ln := 30) R_226 (by decide +kernel) g_6)) (by decide +kernel)) fun S_231 R_232 E_233 => ?_
  have E_235 := Ext.tr E_200 E_233
  refine go_aload_n (n := 0) (by decide +kernel) l_169 f_172 ?_
  refine go_iload_n (n := 1) (by decide +kernel) l_170 f_173 ?_
  obtain ⟨x_237, m_238, hc_236, h⟩ := bd_s h
  refine go_callV (x := 673) (mi := 209) (n := 1) (ci := 13) (as := [v_167]) (rest := []) (by decide +kernel) (by decide +kernel) rfl rfl (q_sum8 _ (Nat.le_of_ble_eq_true rfl)) R_232 f_172 (fx_k (c := 13) R_232 (by decide +kernel)) (om_X12_recounts (Nat.le_trans (by decide) hd) R_232 f_172 f_173 hc_236) (fun _ S_241 q_244 => ?_) (fun _ _ qq => kr_x qq)
  refine kr_v q_244 fun R_242 E_243 => ?_
  have E_247 := Ext.tr E_235 E_243
  refine go_aload_n (n := 0) (by decide +kernel) l_169 f_172 ?_
  refine go_getf (x := 82) (ci := 13) (kf := 26) (fin := 1) (t := 2) (by decide +kernel) (by decide +kernel) (by decide +kernel) R_242 f_172 (fx_k (c := 13) R_242 (by decide +kernel)) fun v_248 f_249 => ?_
  have f_250 := q_is_eq (b := 93) f_249 (fx_v R_242 (by decide +kernel)).symm
  refine go_iload_n (n := 1) (by decide +kernel) l_170 f_173 ?_
  refine go_dup2 (by decide +kernel) f_173 (Or.inl rfl) f_250 (Or.inr rfl) ?_
  obtain ⟨x_254, e_255, h⟩ := lx_s h
  refine go_iald (kd := 100) (by decide +kernel) rfl R_242 f_250 f_173 (fx_k (c := 100) R_242 (by decide +kernel)) (fx_x (a := 93) (ln := 30) R_242 (by decide +kernel) g_6) fun v_251 f_252 => ?_
  have f_253 := q_is_eq f_252 e_255
  refine go_iload_n (n := 2) (by decide +kernel) l_171 f_174 ?_
  refine go_if (c := .le) (o := 7) (t := 150) (P := ¬ (0 < x_20)) (by decide +kernel) (by decide +kernel) f_174 (Int.not_lt.symm) (fun hp_256 => ?_) (fun hp_256 => ?_)
  · have h := it_f hp_256 h
    refine go_iconst (n := 0) (z := 0) (by decide +kernel) (by decide) fun v_257 f_258 => ?_
    exact oj_X12_cutsRun_151 hd R_242 l_169 f_172 l_170 f_173 l_171 f_174 f_258 f_253 f_173 f_250 (fun b => hQ (Ext.tr E_247 b)) h
  · have h := it_n hp_256 h
    refine go_iconst (n := 1) (z := 1) (by decide +kernel) (by decide) fun v_394 f_395 => ?_
    refine go_goto (o := 4) (t := 151) (by decide +kernel) (by decide +kernel) ?_
    exact oj_X12_cutsRun_151 hd R_242 l_169 f_172 l_170 f_173 l_171 f_174 f_395 f_253 f_173 f_250 (fun b => hQ (Ext.tr E_247 b)) h
end DF45
