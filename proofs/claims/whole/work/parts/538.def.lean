/-! Methods as functions (written by wip/whole/dec.py), 38: X12_isWorker, X12_poll. -/
section DF38
noncomputable def fm_X12_isWorker (p0 : Int) (m0 : MM) : Option Int := bp (fm_X12_isIn p0 0 2 m0) fun x_6 =>
gd (x_6 = 0 ∨ x_6 = 1) <| some x_6
set_option maxHeartbeats 4000000 in
theorem om_X12_isWorker {xs : List Int32} {d : Nat} {S : QS} {m0 : MM} {p0 : Int} {v0 : Value} {rz : Int}
  (hd : 2 ≤ d) (R : Rp S m0) (f0 : q_is 0 v0 p0)
  (h : fm_X12_isWorker p0 m0 = some rz) : Mt xs d 275 [v0] S (Cr 0 m0 m0 rz) := by
  obtain ⟨d, rfl⟩ : ∃ e, d = e + 1 := ⟨d - 1, by omega⟩
  have hd : 1 ≤ d := Nat.le_of_succ_le_succ hd
  refine Mt.of (M := qM_X12_isWorker) rfl (by rw [sl_1 (q_is_cat f0 (Or.inl rfl)), sl_0]; decide) ?_
  rw [la_1 (q_is_cat f0 (Or.inl rfl)), la_0]
  obtain ⟨L, hL⟩ : ∃ L : QL, L = [(0, v0)] := ⟨_, rfl⟩
  rw [← hL]
  have l0 : q_lo L 0 = some v0 := by rw [hL]; rfl
  have hQ : ∀ o S1, Rp S1 m0 → q_out 0 o rz → (Cr 0 m0 m0 rz) o S1 := fun o S1 a b => ⟨a, Ext.rf _, b⟩
  unfold fm_X12_isWorker at h
  refine go_iload_n (n := 0) (by decide +kernel) l0 f0 ?_
  refine go_iconst (n := 0) (z := 0) (by decide +kernel) (by decide) fun v_1 f_2 => ?_
  refine go_iconst (n := 2) (z := 2) (by decide +kernel) (by decide) fun v_3 f_4 => ?_
  obtain ⟨x_6, hc_5, h⟩ := bp_s h
  refine go_callS (x := 306) (mi := 188) (n := 3) (b := 0) (as := [v0, v_1, v_3]) (rest := []) (by decide +kernel) (by decide +kernel) rfl rfl (q_sum8 _ (Nat.le_of_ble_eq_true rfl)) (om_X12_isIn (Nat.le_trans (by decide) hd) R f0 f_2 f_4 hc_5) (fun _ S_10 q_13 => ?_) (fun _ _ qq => kr_x qq)
  refine kr_z (by decide) q_13 fun v_8 f_9 R_11 E_12 => ?_
  obtain ⟨g_14, h⟩ := gd_s h
  cases h
  exact go_iret (by decide +kernel) rfl (Or.inr ⟨rfl, g_14⟩) f_9 (hQ _ _ R_11 (q_out_v (by decide) f_9))
noncomputable def fj_X12_poll_123 (c : Int → Int → Option (Int × MM)) (k143 : Int → Option (Int × MM)) (y1 y2 y3 y4 s0 : Int) (m : MM) : Option (Int × MM) := if s0 = 0 then
lx (w32 (y3 + 1)) fun x_109 =>
c y2 x_109
else
lx (w32 (y3 + 1)) fun x_126 =>
c y4 x_126
set_option maxHeartbeats 4000000 in
theorem oj_X12_poll_123 {xs : List Int32} {d : Nat} {S : QS} {L : QL} {Q : QO → QS → Prop} {m : MM} {y1 y2 y3 y4 s0 : Int} {v0 : Value} {v1 : Value} {v2 : Value} {v3 : Value} {v4 : Value} {w0 : Value}  {rz : Int} {rm : MM} {c : Int → Int → Option (Int × MM)} {k143 : Int → Option (Int × MM)} 
  (hd : 3 ≤ d) (R : Rp S m) (l0 : q_lo L 0 = some v0) (f0 : q_is 2 v0 68) (l1 : q_lo L 1 = some v1) (f1 : q_is 0 v1 y1) (l2 : q_lo L 2 = some v2) (f2 : q_is 0 v2 y2) (l3 : q_lo L 3 = some v3) (f3 : q_is 0 v3 y3) (l4 : q_lo L 4 = some v4) (f4 : q_is 0 v4 y4) (fs0 : q_is 0 w0 s0)
  (hc : ∀ {z2 : Int} {z3 : Int} {Sq : QS} {Lq : QL} {u0 : Value} {u1 : Value} {u2 : Value} {u3 : Value}, c z2 z3 = some (rz, rm) → Rp Sq m → q_lo Lq 0 = some u0 → q_is 2 u0 68 → q_lo Lq 1 = some u1 → q_is 0 u1 y1 → q_lo Lq 2 = some u2 → q_is 0 u2 z2 → q_lo Lq 3 = some u3 → q_is 0 u3 z3 → Go xs d qM_X12_poll 25 Lq [] Sq Q)
  (hk143 : ∀ {z2 : Int} {Sq : QS} {Lq : QL} {u0 : Value} {u1 : Value} {u2 : Value}, k143 z2 = some (rz, rm) → Rp Sq m → q_lo Lq 0 = some u0 → q_is 2 u0 68 → q_lo Lq 1 = some u1 → q_is 0 u1 y1 → q_lo Lq 2 = some u2 → q_is 0 u2 z2 → Go xs d qM_X12_poll 143 Lq [] Sq Q)
  (hQ : Ext m rm → ∀ o S1, Rp S1 rm → q_out 0 o rz → Q o S1)
  (h : fj_X12_poll_123 c k143 y1 y2 y3 y4 s0 m = some (rz, rm)) : Go xs d qM_X12_poll 123 L [w0] S Q := by
  unfold fj_X12_poll_123 at h
  refine go_istore (n := 6) (by decide +kernel) (by decide +kernel) fs0 fun L_89 l_90 kp_91 => ?_
  have l_92 := kp_91 0 _ l0 (by decide) (Or.inl (by decide))
  have l_93 := kp_91 1 _ l1 (by decide) (Or.inl (by decide))
  have l_94 := kp_91 2 _ l2 (by decide) (Or.inl (by decide))
  have l_95 := kp_91 3 _ l3 (by decide) (Or.inl (by decide))
  have l_96 := kp_91 4 _ l4 (by decide) (Or.inl (by decide))
  refine go_iload (n := 6) (by decide +kernel) l_90 fs0 ?_
  refine go_if (c := .eq) (o := 8) (t := 135) (P := s0 = 0) (by decide +kernel) (by decide +kernel) fs0 (Iff.rfl) (fun hp_97 => ?_) (fun hp_97 => ?_)
  · have h := it_t hp_97 h
    refine go_iload_n (n := 2) (by decide +kernel) l_94 f2 ?_
    refine go_istore_n (n := 2) (by decide +kernel) (by decide +kernel) f2 fun L_98 l_99 kp_100 => ?_
    have l_101 := kp_100 0 _ l_92 (by decide) (Or.inl (by decide))
    have l_102 := kp_100 1 _ l_93 (by decide) (Or.inr (q_is_cat f1 (Or.inl rfl)))
    have l_103 := kp_100 3 _ l_95 (by decide) (Or.inl (by decide))
    refine go_iinc (n := 3) (c := 1) (c' := 1) (by decide +kernel) (by decide +kernel) l_103 f3 (by decide) fun L_104 v_105 f_106 l_107 kp_108 => ?_
    obtain ⟨x_109, e_110, h⟩ := lx_s h
    have f_111 := q_is_eq f_106 e_110
    have l_112 := kp_108 0 _ l_101 (by decide) (Or.inl (by decide))
    have l_113 := kp_108 1 _ l_102 (by decide) (Or.inl (by decide))
    have l_114 := kp_108 2 _ l_99 (by decide) (Or.inr (q_is_cat f2 (Or.inl rfl)))
    refine go_goto (o := (-115)) (t := 25) (by decide +kernel) (by decide +kernel) ?_
    exact hc h R l_112 f0 l_113 f1 l_114 f2 l_107 f_111
  · have h := it_f hp_97 h
    refine go_iload (n := 4) (by decide +kernel) l_96 f4 ?_
    refine go_goto (o := 4) (t := 136) (by decide +kernel) (by decide +kernel) ?_
    refine go_istore_n (n := 2) (by decide +kernel) (by decide +kernel) f4 fun L_115 l_116 kp_117 => ?_
    have l_118 := kp_117 0 _ l_92 (by decide) (Or.inl (by decide))
    have l_119 := kp_117 1 _ l_93 (by decide) (Or.inr (q_is_cat f1 (Or.inl rfl)))
    have l_120 := kp_117 3 _ l_95 (by decide) (Or.inl (by decide))
    refine go_iinc (n := 3) (c := 1) (c' := 1) (by decide +kernel) (by decide +kernel) l_120 f3 (by decide) fun L_121 v_122 f_123 l_124 kp_125 => ?_
    obtain ⟨x_126, e_127, h⟩ := lx_s h
    have f_128 := q_is_eq f_123 e_127
    have l_129 := kp_125 0 _ l_118 (by decide) (Or.inl (by decide))
    have l_130 := kp_125 1 _ l_119 (by decide) (Or.inl (by decide))
    have l_131 := kp_125 2 _ l_116 (by decide) (Or.inr (q_is_cat f4 (Or.inl rfl)))
    refine go_goto (o := (-115)) (t := 25) (by decide +kernel) (by decide +kernel) ?_
    exact hc h R l_129 f0 l_130 f1 l_131 f4 l_124 f_128
noncomputable def fj_X12_poll_68 (c : Int → Int → Option (Int × MM)) (k143 : Int → Option (Int × MM)) (y1 y2 y3 y4 s0 : Int) (m : MM) : Option (Int × MM) := if s0 = 0 then
fj_X12_poll_123 c k143 y1 y2 y3 y4 0 m
else
if y2 = (-1) then
fj_X12_poll_123 c k143 y1 y2 y3 y4 1 m
else
gd (0 ≤ y4 ∧ y4 < 3) <| lx (m 121 y4) fun x_144 =>
gd (0 ≤ y2 ∧ y2 < 3) <| lx (m 121 y2) fun x_153 =>
if x_144 < x_153 then
fj_X12_poll_123 c k143 y1 y2 y3 y4 1 m
else
if x_144 = x_153 then
if y4 < y2 then
fj_X12_poll_123 c k143 y1 y2 y3 y4 1 m
else
fj_X12_poll_123 c k143 y1 y2 y3 y4 0 m
else
fj_X12_poll_123 c k143 y1 y2 y3 y4 0 m
set_option maxHeartbeats 4000000 in
theorem oj_X12_poll_68 {xs : List Int32} {d : Nat} {S : QS} {L : QL} {Q : QO → QS → Prop} {m : MM} {y1 y2 y3 y4 s0 : Int} {v0 : Value} {v1 : Value} {v2 : Value} {v3 : Value} {v4 : Value} {w0 : Value}  {rz : Int} {rm : MM} {c : Int → Int → Option (Int × MM)} {k143 : Int → Option (Int × MM)} 
  (hd : 3 ≤ d) (R : Rp S m) (l0 : q_lo L 0 = some v0) (f0 : q_is 2 v0 68) (l1 : q_lo L 1 = some v1) (f1 : q_is 0 v1 y1) (l2 : q_lo L 2 = some v2) (f2 : q_is 0 v2 y2) (l3 : q_lo L 3 = some v3) (f3 : q_is 0 v3 y3) (l4 : q_lo L 4 = some v4) (f4 : q_is 0 v4 y4) (fs0 : q_is 0 w0 s0)
  (hc : ∀ {z2 : Int} {z3 : Int} {Sq : QS} {Lq : QL} {u0 : Value} {u1 : Value} {u2 : Value} {u3 : Value}, c z2 z3 = some (rz, rm) → Rp Sq m → q_lo Lq 0 = some u0 → q_is 2 u0 68 → q_lo Lq 1 = some u1 → q_is 0 u1 y1 → q_lo Lq 2 = some u2 → q_is 0 u2 z2 → q_lo Lq 3 = some u3 → q_is 0 u3 z3 → Go xs d qM_X12_poll 25 Lq [] Sq Q)
  (hk143 : ∀ {z2 : Int} {Sq : QS} {Lq : QL} {u0 : Value} {u1 : Value} {u2 : Value}, k143 z2 = some (rz, rm) → Rp Sq m → q_lo Lq 0 = some u0 → q_is 2 u0 68 → q_lo Lq 1 = some u1 → q_is 0 u1 y1 → q_lo Lq 2 = some u2 → q_is 0 u2 z2 → Go xs d qM_X12_poll 143 Lq [] Sq Q)
  (hQ : Ext m rm → ∀ o S1, Rp S1 rm → q_out 0 o rz → Q o S1)
  (h : fj_X12_poll_68 c k143 y1 y2 y3 y4 s0 m = some (rz, rm)) : Go xs d qM_X12_poll 68 L [w0] S Q := by
  unfold fj_X12_poll_68 at h
  refine go_istore (n := 5) (by decide +kernel) (by decide +kernel) fs0 fun L_78 l_79 kp_80 => ?_
  have l_81 := kp_80 0 _ l0 (by decide) (Or.inl (by decide))
  have l_82 := kp_80 1 _ l1 (by decide) (Or.inl (by decide))
  have l_83 := kp_80 2 _ l2 (by decide) (Or.inl (by decide))
  have l_84 := kp_80 3 _ l3 (by decide) (Or.inl (by decide))
  have l_85 := kp_80 4 _ l4 (by decide) (Or.inr (q_is_cat f4 (Or.inl rfl)))
  refine go_iload (n := 5) (by decide +kernel) l_79 fs0 ?_
  refine go_if (c := .eq) (o := 50) (t := 122) (P := s0 = 0) (by decide +kernel) (by decide +kernel) fs0 (Iff.rfl) (fun hp_86 => ?_) (fun hp_86 => ?_)
  · have h := it_t hp_86 h
    refine go_iconst (n := 0) (z := 0) (by decide +kernel) (by decide) fun v_87 f_88 => ?_
    exact oj_X12_poll_123 hd R l_81 f0 l_82 f1 l_83 f2 l_84 f3 l_85 f4 f_88 hc hk143 hQ h
  · have h := it_f hp_86 h
    refine go_iload_n (n := 2) (by decide +kernel) l_83 f2 ?_
    refine go_iconst (n := (-1)) (z := (-1)) (by decide +kernel) (by decide) fun v_132 f_133 => ?_
    refine go_icmp (c := .eq) (o := 41) (t := 118) (P := y2 = (-1)) (by decide +kernel) (by decide +kernel) f2 f_133 (Iff.rfl) (fun hp_134 => ?_) (fun hp_134 => ?_)
    · have h := it_t hp_134 h
      refine go_iconst (n := 1) (z := 1) (by decide +kernel) (by decide) fun v_135 f_136 => ?_
      refine go_goto (o := 4) (t := 123) (by decide +kernel) (by decide +kernel) ?_
      exact oj_X12_poll_123 hd R l_81 f0 l_82 f1 l_83 f2 l_84 f3 l_85 f4 f_136 hc hk143 hQ h
    · have h := it_f hp_134 h
      refine go_aload_n (n := 0) (by decide +kernel) l_81 f0 ?_
      refine go_getf (x := 177) (ci := 13) (kf := 61) (fin := 1) (t := 2) (by decide +kernel) (by decide +kernel) (by decide +kernel) R f0 (fx_k (c := 13) R (by decide +kernel)) fun v_137 f_138 => ?_
      have f_139 := q_is_eq (b := 121) f_138 (fx_v R (by decide +kernel)).symm
      refine go_iload (n := 4) (by decide +kernel) l_85 f4 ?_
      obtain ⟨g_142, h⟩ := gd_s h
      obtain ⟨x_144, e_145, h⟩ := lx_s h
      refine go_iald (kd := 100) (by decide +kernel) rfl R f_139 f4 (fx_k (c := 100) R (by decide +kernel)) (fx_x (a := 121) (ln := 3) R (by decide +kernel) g_142) fun v_140 f_141 => ?_
      have f_143 := q_is_eq f_141 e_145
      refine go_aload_n (n := 0) (by decide +kernel) l_81 f0 ?_
      refine go_getf (x := 177) (ci := 13) (kf := 61) (fin := 1) (t := 2) (by decide +kernel) (by decide +kernel) (by decide +kernel) R f0 (fx_k (c := 13) R (by decide +kernel)) fun v_146 f_147 => ?_
      have f_148 := q_is_eq (b := 121) f_147 (fx_v R (by decide +kernel)).symm
      refine go_iload_n (n := 2) (by decide +kernel) l_83 f2 ?_
      obtain ⟨g_151, h⟩ := gd_s h
      obtain ⟨x_153, e_154, h⟩ := lx_s h
      refine go_iald (kd := 100) (by decide +kernel) rfl R f_148 f2 (fx_k (c := 100) R (by decide +kernel)) (fx_x (a := 121) (ln := 3) R (by decide +kernel) g_151) fun v_149 f_150 => ?_
      have f_152 := q_is_eq f_150 e_154
      refine go_icmp (c := .lt) (o := 25) (t := 118) (P := x_144 < x_153) (by decide +kernel) (by decide +kernel) f_143 f_152 (Iff.rfl) (fun hp_155 => ?_) (fun hp_155 => ?_)
      · have h := it_t hp_155 h
        refine go_iconst (n := 1) (z := 1) (by decide +kernel) (by decide) fun v_156 f_157 => ?_
        refine go_goto (o := 4) (t := 123) (by decide +kernel) (by decide +kernel) ?_
        exact oj_X12_poll_123 hd R l_81 f0 l_82 f1 l_83 f2 l_84 f3 l_85 f4 f_157 hc hk143 hQ h
      · have h := it_f hp_155 h
        refine go_aload_n (n := 0) (by decide +kernel) l_81 f0 ?_
        refine go_getf (x := 177) (ci := 13) (kf := 61) (fin := 1) (t := 2) (by decide +kernel) (by decide +kernel) (by decide +kernel) R f0 (fx_k (c := 13) R (by decide +kernel)) fun v_158 f_159 => ?_
        have f_160 := q_is_eq (b := 121) f_159 (fx_v R (by decide +kernel)).symm
        refine go_iload (n := 4) (by decide +kernel) l_85 f4 ?_
        refine go_iald (kd := 100) (by decide +kernel) rfl R f_160 f4 (fx_k (c := 100) R (by decide +kernel)) (fx_x (a := 121) (ln := 3) R (by decide +kernel) g_142) fun v_161 f_162 => ?_
        have f_163 := q_is_eq f_162 e_145
        refine go_aload_n (n := 0) (by decide +kernel) l_81 f0 ?_
        refine go_getf (x := 177) (ci := 13) (kf := 61) (fin := 1) (t := 2) (by decide +kernel) (by decide +kernel) (by decide +kernel) R f0 (fx_k (c := 13) R (by decide +kernel)) fun v_164 f_165 => ?_
        have f_166 := q_is_eq (b := 121) f_165 (fx_v R (by decide +kernel)).symm
        refine go_iload_n (n := 2) (by decide +kernel) l_83 f2 ?_
        refine go_iald (kd := 100) (by decide +kernel) rfl R f_166 f2 (fx_k (c := 100) R (by decide +kernel)) (fx_x (a := 121) (ln := 3) R (by decide +kernel) g_151) fun v_167 f_168 => ?_
        have f_169 := q_is_eq f_168 e_154
        refine go_icmp (c := .ne) (o := 13) (t := 122) (P := ¬ (x_144 = x_153)) (by decide +kernel) (by decide +kernel) f_163 f_169 (Iff.rfl) (fun hp_170 => ?_) (fun hp_170 => ?_)
        · have h := it_f hp_170 h
          refine go_iconst (n := 0) (z := 0) (by decide +kernel) (by decide) fun v_171 f_172 => ?_
          exact oj_X12_poll_123 hd R l_81 f0 l_82 f1 l_83 f2 l_84 f3 l_85 f4 f_172 hc hk143 hQ h
        · have h := it_n hp_170 h
          refine go_iload (n := 4) (by decide +kernel) l_85 f4 ?_
          refine go_iload_n (n := 2) (by decide +kernel) l_83 f2 ?_
          refine go_icmp (c := .ge) (o := 7) (t := 122) (P := ¬ (y4 < y2)) (by decide +kernel) (by decide +kernel) f4 f2 (Int.not_lt.symm) (fun hp_173 => ?_) (fun hp_173 => ?_)
          · have h := it_f hp_173 h
            refine go_iconst (n := 0) (z := 0) (by decide +kernel) (by decide) fun v_174 f_175 => ?_
            exact oj_X12_poll_123 hd R l_81 f0 l_82 f1 l_83 f2 l_84 f3 l_85 f4 f_175 hc hk143 hQ h
          · have h := it_n hp_173 h
            refine go_iconst (n := 1) (z := 1) (by decide +kernel) (by decide) fun v_176 f_177 => ?_
            refine go_goto (o := 4) (t := 123) (by decide +kernel) (by decide +kernel) ?_
            exact oj_X12_poll_123 hd R l_81 f0 l_82 f1 l_83 f2 l_84 f3 l_85 f4 f_177 hc hk143 hQ h
noncomputable def fl_X12_poll_25 (y1 : Int) (m : MM) (k143 : Int → Option (Int × MM)) : Nat → Int → Int → Option (Int × MM)
  | 0, _, _ => none
  | n + 1, y2, y3 => lx (m 68 12) fun x_42 =>
if y3 < x_42 then
gd (0 ≤ y3 ∧ y3 < 30) <| lx (m 81 y3) fun x_52 =>
gd (0 ≤ x_52 ∧ x_52 < 3) <| lx (m 120 x_52) fun x_68 =>
lx (m 68 50) fun x_73 =>
if x_68 < x_73 then
bp (fm_X12_isReady y3 m) fun x_179 =>
if x_179 = 0 then
fj_X12_poll_68 (fl_X12_poll_25 y1 m k143 n) k143 y1 y2 y3 x_52 0 m
else
fj_X12_poll_68 (fl_X12_poll_25 y1 m k143 n) k143 y1 y2 y3 x_52 1 m
else
fj_X12_poll_68 (fl_X12_poll_25 y1 m k143 n) k143 y1 y2 y3 x_52 0 m
else
k143 y2
set_option maxHeartbeats 4000000 in
theorem ol_X12_poll_25 {xs : List Int32} {d : Nat} {Q : QO → QS → Prop} {m : MM} {y1 : Int} {k143 : Int → Option (Int × MM)} {rz : Int} {rm : MM}
  (hd : 3 ≤ d)
  (hk143 : ∀ {z2 : Int} {Sq : QS} {Lq : QL} {u0 : Value} {u1 : Value} {u2 : Value}, k143 z2 = some (rz, rm) → Rp Sq m → q_lo Lq 0 = some u0 → q_is 2 u0 68 → q_lo Lq 1 = some u1 → q_is 0 u1 y1 → q_lo Lq 2 = some u2 → q_is 0 u2 z2 → Go xs d qM_X12_poll 143 Lq [] Sq Q)
  (hQ : Ext m rm → ∀ o S1, Rp S1 rm → q_out 0 o rz → Q o S1) :
  ∀ (n : Nat) {S : QS} {L : QL} {y2 y3 : Int} {v0 : Value} {v1 : Value} {v2 : Value} {v3 : Value} , fl_X12_poll_25 y1 m k143 n y2 y3 = some (rz, rm) → Rp S m → q_lo L 0 = some v0 → q_is 2 v0 68 → q_lo L 1 = some v1 → q_is 0 v1 y1 → q_lo L 2 = some v2 → q_is 0 v2 y2 → q_lo L 3 = some v3 → q_is 0 v3 y3 → Go xs d qM_X12_poll 25 L [] S Q := by
  intro n
  induction n with
  | zero => intro S L y2 y3 v0 v1 v2 v3; intro h R l0 f0 l1 f1 l2 f2 l3 f3; cases h
  | succ n ih0 =>
    intro S L y2 y3 v0 v1 v2 v3; intro h R l0 f0 l1 f1 l2 f2 l3 f3
    have ih : ∀ {z2 : Int} {z3 : Int} {Sq : QS} {Lq : QL} {u0 : Value} {u1 : Value} {u2 : Value} {u3 : Value}, fl_X12_poll_25 y1 m k143 n z2 z3 = some (rz, rm) → Rp Sq m → q_lo Lq 0 = some u0 → q_is 2 u0 68 → q_lo Lq 1 = some u1 → q_is 0 u1 y1 → q_lo Lq 2 = some u2 → q_is 0 u2 z2 → q_lo Lq 3 = some u3 → q_is 0 u3 z3 → Go xs d qM_X12_poll 25 Lq [] Sq Q := by intros; exact ih0 ‹_› ‹_› ‹_› ‹_› ‹_› ‹_› ‹_› ‹_› ‹_› ‹_›
    unfold fl_X12_poll_25 at h
    refine go_iload_n (n := 3) (by decide +kernel) l3 f3 ?_
    refine go_aload_n (n := 0) (by decide +kernel) l0 f0 ?_
    obtain ⟨x_42, e_43, h⟩ := lx_s h
    refine go_getf (x := 310) (ci := 13) (kf := 12) (fin := 0) (t := 0) (by decide +kernel) (by decide +kernel) (by decide +kernel) R f0 (fx_k (c := 13) R (by decide +kernel)) fun v_39 f_40 => ?_
    have f_41 := q_is_eq f_40 e_43
    refine go_icmp (c := .ge) (o := 113) (t := 143) (P := ¬ (y3 < x_42)) (by decide +kernel) (by decide +kernel) f3 f_41 (Int.not_lt.symm) (fun hp_44 => ?_) (fun hp_44 => ?_)
    · have h := it_f hp_44 h
      exact hk143 h R l0 f0 l1 f1 l2 f2
    · have h := it_n hp_44 h
      refine go_aload_n (n := 0) (by decide +kernel) l0 f0 ?_
      refine go_getf (x := 46) (ci := 13) (kf := 14) (fin := 1) (t := 2) (by decide +kernel) (by decide +kernel) (by decide +kernel) R f0 (fx_k (c := 13) R (by decide +kernel)) fun v_45 f_46 => ?_
      have f_47 := q_is_eq (b := 81) f_46 (fx_v R (by decide +kernel)).symm
      refine go_iload_n (n := 3) (by decide +kernel) l3 f3 ?_
      obtain ⟨g_50, h⟩ := gd_s h
      obtain ⟨x_52, e_53, h⟩ := lx_s h
      refine go_iald (kd := 100) (by decide +kernel) rfl R f_47 f3 (fx_k (c := 100) R (by decide +kernel)) (fx_x (a := 81) (ln := 30) R (by decide +kernel) g_50) fun v_48 f_49 => ?_
      have f_51 := q_is_eq f_49 e_53
      refine go_istore (n := 4) (by decide +kernel) (by decide +kernel) f_51 fun L_54 l_55 kp_56 => ?_
      have l_57 := kp_56 0 _ l0 (by decide) (Or.inl (by decide))
      have l_58 := kp_56 1 _ l1 (by decide) (Or.inl (by decide))
      have l_59 := kp_56 2 _ l2 (by decide) (Or.inl (by decide))
      have l_60 := kp_56 3 _ l3 (by decide) (Or.inr (q_is_cat f3 (Or.inl rfl)))
      refine go_aload_n (n := 0) (by decide +kernel) l_57 f0 ?_
      refine go_getf (x := 174) (ci := 13) (kf := 60) (fin := 1) (t := 2) (by decide +kernel) (by decide +kernel) (by decide +kernel) R f0 (fx_k (c := 13) R (by decide +kernel)) fun v_61 f_62 => ?_
      have f_63 := q_is_eq (b := 120) f_62 (fx_v R (by decide +kernel)).symm
      refine go_iload (n := 4) (by decide +kernel) l_55 f_51 ?_
      obtain ⟨g_66, h⟩ := gd_s h
      obtain ⟨x_68, e_69, h⟩ := lx_s h
      refine go_iald (kd := 100) (by decide +kernel) rfl R f_63 f_51 (fx_k (c := 100) R (by decide +kernel)) (fx_x (a := 120) (ln := 3) R (by decide +kernel) g_66) fun v_64 f_65 => ?_
      have f_67 := q_is_eq f_65 e_69
      refine go_aload_n (n := 0) (by decide +kernel) l_57 f0 ?_
      obtain ⟨x_73, e_74, h⟩ := lx_s h
      refine go_getf (x := 146) (ci := 13) (kf := 50) (fin := 0) (t := 0) (by decide +kernel) (by decide +kernel) (by decide +kernel) R f0 (fx_k (c := 13) R (by decide +kernel)) fun v_70 f_71 => ?_
      have f_72 := q_is_eq f_71 e_74
      refine go_icmp (c := .ge) (o := 15) (t := 67) (P := ¬ (x_68 < x_73)) (by decide +kernel) (by decide +kernel) f_67 f_72 (Int.not_lt.symm) (fun hp_75 => ?_) (fun hp_75 => ?_)
      · have h := it_f hp_75 h
        refine go_iconst (n := 0) (z := 0) (by decide +kernel) (by decide) fun v_76 f_77 => ?_
        exact oj_X12_poll_68 hd R l_57 f0 l_58 f1 l_59 f2 l_60 f3 l_55 f_51 f_77 ih hk143 hQ h
      · have h := it_n hp_75 h
        refine go_aload_n (n := 0) (by decide +kernel) l_57 f0 ?_
        refine go_iload_n (n := 3) (by decide +kernel) l_60 f3 ?_
        obtain ⟨x_179, hc_178, h⟩ := bp_s h
        refine go_callV (x := 608) (mi := 273) (n := 1) (ci := 13) (as := [v3]) (rest := []) (by decide +kernel) (by decide +kernel) rfl rfl (q_sum8 _ (Nat.le_of_ble_eq_true rfl)) R f0 (fx_k (c := 13) R (by decide +kernel)) (om_X12_isReady (Nat.le_trans (by decide) hd) R f0 f3 hc_178) (fun _ S_183 q_186 => ?_) (fun _ _ qq => kr_x qq)
        refine kr_z (by decide) q_186 fun v_181 f_182 R_184 E_185 => ?_
        refine go_if (c := .eq) (o := 7) (t := 67) (P := x_179 = 0) (by decide +kernel) (by decide +kernel) f_182 (Iff.rfl) (fun hp_187 => ?_) (fun hp_187 => ?_)
        · have h := it_t hp_187 h
          refine go_iconst (n := 0) (z := 0) (by decide +kernel) (by decide) fun v_188 f_189 => ?_
          exact oj_X12_poll_68 hd R_184 l_57 f0 l_58 f1 l_59 f2 l_60 f3 l_55 f_51 f_189 ih hk143 hQ h
        · have h := it_f hp_187 h
          refine go_iconst (n := 1) (z := 1) (by decide +kernel) (by decide) fun v_190 f_191 => ?_
          refine go_goto (o := 4) (t := 68) (by decide +kernel) (by decide +kernel) ?_
          exact oj_X12_poll_68 hd R_184 l_57 f0 l_58 f1 l_59 f2 l_60 f3 l_55 f_51 f_191 ih hk143 hQ h
noncomputable def fj_X12_poll_187 (c : Int → Int → Option (Int × MM)) (k226 : Int → Option (Int × MM)) (y1 y2 y3 y4 s0 : Int) (m : MM) : Option (Int × MM) := if s0 = 0 then
lx (w32 (y4 + 1)) fun x_264 =>
c y3 x_264
else
if y3 = (-1) then
lx (w32 (y4 + 1)) fun x_286 =>
c y4 x_286
else
bp (fm_X12_firstOrder y4 m) fun x_294 =>
bp (fm_X12_firstOrder y3 m) fun x_303 =>
if x_294 < x_303 then
lx (w32 (y4 + 1)) fun x_343 =>
c y4 x_343
else
lx (w32 (y4 + 1)) fun x_324 =>
c y3 x_324
set_option maxHeartbeats 4000000 in
theorem oj_X12_poll_187 {xs : List Int32} {d : Nat} {S : QS} {L : QL} {Q : QO → QS → Prop} {m : MM} {y1 y2 y3 y4 s0 : Int} {v0 : Value} {v1 : Value} {v2 : Value} {v3 : Value} {v4 : Value} {w0 : Value}  {rz : Int} {rm : MM} {c : Int → Int → Option (Int × MM)} {k226 : Int → Option (Int × MM)} 
  (hd : 3 ≤ d) (R : Rp S m) (l0 : q_lo L 0 = some v0) (f0 : q_is 2 v0 68) (l1 : q_lo L 1 = some v1) (f1 : q_is 0 v1 y1) (l2 : q_lo L 2 = some v2) (f2 : q_is 0 v2 y2) (l3 : q_lo L 3 = some v3) (f3 : q_is 0 v3 y3) (l4 : q_lo L 4 = some v4) (f4 : q_is 0 v4 y4) (fs0 : q_is 0 w0 s0)
  (hc : ∀ {z3 : Int} {z4 : Int} {Sq : QS} {Lq : QL} {u0 : Value} {u1 : Value} {u2 : Value} {u3 : Value} {u4 : Value}, c z3 z4 = some (rz, rm) → Rp Sq m → q_lo Lq 0 = some u0 → q_is 2 u0 68 → q_lo Lq 1 = some u1 → q_is 0 u1 y1 → q_lo Lq 2 = some u2 → q_is 0 u2 y2 → q_lo Lq 3 = some u3 → q_is 0 u3 z3 → q_lo Lq 4 = some u4 → q_is 0 u4 z4 → Go xs d qM_X12_poll 148 Lq [] Sq Q)
  (hk226 : ∀ {z3 : Int} {Sq : QS} {Lq : QL} {u0 : Value} {u1 : Value} {u2 : Value} {u3 : Value}, k226 z3 = some (rz, rm) → Rp Sq m → q_lo Lq 0 = some u0 → q_is 2 u0 68 → q_lo Lq 1 = some u1 → q_is 0 u1 y1 → q_lo Lq 2 = some u2 → q_is 0 u2 y2 → q_lo Lq 3 = some u3 → q_is 0 u3 z3 → Go xs d qM_X12_poll 226 Lq [] Sq Q)
  (hQ : Ext m rm → ∀ o S1, Rp S1 rm → q_out 0 o rz → Q o S1)
  (h : fj_X12_poll_187 c k226 y1 y2 y3 y4 s0 m = some (rz, rm)) : Go xs d qM_X12_poll 187 L [w0] S Q := by
  unfold fj_X12_poll_187 at h
  refine go_istore (n := 5) (by decide +kernel) (by decide +kernel) fs0 fun L_243 l_244 kp_245 => ?_
  have l_246 := kp_245 0 _ l0 (by decide) (Or.inl (by decide))
  have l_247 := kp_245 1 _ l1 (by decide) (Or.inl (by decide))
  have l_248 := kp_245 2 _ l2 (by decide) (Or.inl (by decide))
  have l_249 := kp_245 3 _ l3 (by decide) (Or.inl (by decide))
  have l_250 := kp_245 4 _ l4 (by decide) (Or.inr (q_is_cat f4 (Or.inl rfl)))
  refine go_iload (n := 5) (by decide +kernel) l_244 fs0 ?_
  refine go_if (c := .eq) (o := 27) (t := 218) (P := s0 = 0) (by decide +kernel) (by decide +kernel) fs0 (Iff.rfl) (fun hp_251 => ?_) (fun hp_251 => ?_)
  · have h := it_t hp_251 h
    refine go_iload_n (n := 3) (by decide +kernel) l_249 f3 ?_
    refine go_istore_n (n := 3) (by decide +kernel) (by decide +kernel) f3 fun L_252 l_253 kp_254 => ?_
    have l_255 := kp_254 0 _ l_246 (by decide) (Or.inl (by decide))
    have l_256 := kp_254 1 _ l_247 (by decide) (Or.inl (by decide))
    have l_257 := kp_254 2 _ l_248 (by decide) (Or.inr (q_is_cat f2 (Or.inl rfl)))
    have l_258 := kp_254 4 _ l_250 (by decide) (Or.inl (by decide))
    refine go_iinc (n := 4) (c := 1) (c' := 1) (by decide +kernel) (by decide +kernel) l_258 f4 (by decide) fun L_259 v_260 f_261 l_262 kp_263 => ?_
    obtain ⟨x_264, e_265, h⟩ := lx_s h
    have f_266 := q_is_eq f_261 e_265
    have l_267 := kp_263 0 _ l_255 (by decide) (Or.inl (by decide))
    have l_268 := kp_263 1 _ l_256 (by decide) (Or.inl (by decide))
    have l_269 := kp_263 2 _ l_257 (by decide) (Or.inl (by decide))
    have l_270 := kp_263 3 _ l_253 (by decide) (Or.inr (q_is_cat f3 (Or.inl rfl)))
    refine go_goto (o := (-75)) (t := 148) (by decide +kernel) (by decide +kernel) ?_
    exact hc h R l_267 f0 l_268 f1 l_269 f2 l_270 f3 l_262 f_266
  · have h := it_f hp_251 h
    refine go_iload_n (n := 3) (by decide +kernel) l_249 f3 ?_
    refine go_iconst (n := (-1)) (z := (-1)) (by decide +kernel) (by decide) fun v_271 f_272 => ?_
    refine go_icmp (c := .eq) (o := 17) (t := 213) (P := y3 = (-1)) (by decide +kernel) (by decide +kernel) f3 f_272 (Iff.rfl) (fun hp_273 => ?_) (fun hp_273 => ?_)
    · have h := it_t hp_273 h
      refine go_iload (n := 4) (by decide +kernel) l_250 f4 ?_
      refine go_goto (o := 4) (t := 219) (by decide +kernel) (by decide +kernel) ?_
      refine go_istore_n (n := 3) (by decide +kernel) (by decide +kernel) f4 fun L_274 l_275 kp_276 => ?_
      have l_277 := kp_276 0 _ l_246 (by decide) (Or.inl (by decide))
      have l_278 := kp_276 1 _ l_247 (by decide) (Or.inl (by decide))
      have l_279 := kp_276 2 _ l_248 (by decide) (Or.inr (q_is_cat f2 (Or.inl rfl)))
      have l_280 := kp_276 4 _ l_250 (by decide) (Or.inl (by decide))
      refine go_iinc (n := 4) (c := 1) (c' := 1) (by decide +kernel) (by decide +kernel) l_280 f4 (by decide) fun L_281 v_282 f_283 l_284 kp_285 => ?_
      obtain ⟨x_286, e_287, h⟩ := lx_s h
      have f_288 := q_is_eq f_283 e_287
      have l_289 := kp_285 0 _ l_277 (by decide) (Or.inl (by decide))
      have l_290 := kp_285 1 _ l_278 (by decide) (Or.inl (by decide))
      have l_291 := kp_285 2 _ l_279 (by decide) (Or.inl (by decide))
      have l_292 := kp_285 3 _ l_275 (by decide) (Or.inr (q_is_cat f4 (Or.inl rfl)))
      refine go_goto (o := (-75)) (t := 148) (by decide +kernel) (by decide +kernel) ?_
      exact hc h R l_289 f0 l_290 f1 l_291 f2 l_292 f4 l_284 f_288
    · have h := it_f hp_273 h
      refine go_aload_n (n := 0) (by decide +kernel) l_246 f0 ?_
      refine go_iload (n := 4) (by decide +kernel) l_250 f4 ?_
      obtain ⟨x_294, hc_293, h⟩ := bp_s h
      refine go_callV (x := 611) (mi := 274) (n := 1) (ci := 13) (as := [v4]) (rest := []) (by decide +kernel) (by decide +kernel) rfl rfl (q_sum8 _ (Nat.le_of_ble_eq_true rfl)) R f0 (fx_k (c := 13) R (by decide +kernel)) (om_X12_firstOrder (Nat.le_trans (by decide) hd) R f0 f4 hc_293) (fun _ S_298 q_301 => ?_) (fun _ _ qq => kr_x qq)
      refine kr_z (by decide) q_301 fun v_296 f_297 R_299 E_300 => ?_
      refine go_aload_n (n := 0) (by decide +kernel) l_246 f0 ?_
      refine go_iload_n (n := 3) (by decide +kernel) l_249 f3 ?_
      obtain ⟨x_303, hc_302, h⟩ := bp_s h
      refine go_callV (x := 611) (mi := 274) (n := 1) (ci := 13) (as := [v3]) (rest := [v_296]) (by decide +kernel) (by decide +kernel) rfl rfl (q_sum8 _ (Nat.le_of_ble_eq_true rfl)) R_299 f0 (fx_k (c := 13) R_299 (by decide +kernel)) (om_X12_firstOrder (Nat.le_trans (by decide) hd) R_299 f0 f3 hc_302) (fun _ S_307 q_310 => ?_) (fun _ _ qq => kr_x qq)
      refine kr_z (by decide) q_310 fun v_305 f_306 R_308 E_309 => ?_
      refine go_icmp (c := .ge) (o := 8) (t := 218) (P := ¬ (x_294 < x_303)) (by decide +kernel) (by decide +kernel) f_297 f_306 (Int.not_lt.symm) (fun hp_311 => ?_) (fun hp_311 => ?_)
      · have h := it_f hp_311 h
        refine go_iload_n (n := 3) (by decide +kernel) l_249 f3 ?_
        refine go_istore_n (n := 3) (by decide +kernel) (by decide +kernel) f3 fun L_312 l_313 kp_314 => ?_
        have l_315 := kp_314 0 _ l_246 (by decide) (Or.inl (by decide))
        have l_316 := kp_314 1 _ l_247 (by decide) (Or.inl (by decide))
        have l_317 := kp_314 2 _ l_248 (by decide) (Or.inr (q_is_cat f2 (Or.inl rfl)))
        have l_318 := kp_314 4 _ l_250 (by decide) (Or.inl (by decide))
        refine go_iinc (n := 4) (c := 1) (c' := 1) (by decide +kernel) (by decide +kernel) l_318 f4 (by decide) fun L_319 v_320 f_321 l_322 kp_323 => ?_
        obtain ⟨x_324, e_325, h⟩ := lx_s h
        have f_326 := q_is_eq f_321 e_325
        have l_327 := kp_323 0 _ l_315 (by decide) (Or.inl (by decide))
        have l_328 := kp_323 1 _ l_316 (by decide) (Or.inl (by decide))
        have l_329 := kp_323 2 _ l_317 (by decide) (Or.inl (by decide))
        have l_330 := kp_323 3 _ l_313 (by decide) (Or.inr (q_is_cat f3 (Or.inl rfl)))
        refine go_goto (o := (-75)) (t := 148) (by decide +kernel) (by decide +kernel) ?_
        exact hc h R_308 l_327 f0 l_328 f1 l_329 f2 l_330 f3 l_322 f_326
      · have h := it_n hp_311 h
        refine go_iload (n := 4) (by decide +kernel) l_250 f4 ?_
        refine go_goto (o := 4) (t := 219) (by decide +kernel) (by decide +kernel) ?_
        refine go_istore_n (n := 3) (by decide +kernel) (by decide +kernel) f4 fun L_331 l_332 kp_333 => ?_
        have l_334 := kp_333 0 _ l_246 (by decide) (Or.inl (by decide))
        have l_335 := kp_333 1 _ l_247 (by decide) (Or.inl (by decide))
        have l_336 := kp_333 2 _ l_248 (by decide) (Or.inr (q_is_cat f2 (Or.inl rfl)))
        have l_337 := kp_333 4 _ l_250 (by decide) (Or.inl (by decide))
        refine go_iinc (n := 4) (c := 1) (c' := 1) (by decide +kernel) (by decide +kernel) l_337 f4 (by decide) fun L_338 v_339 f_340 l_341 kp_342 => ?_
        obtain ⟨x_343, e_344, h⟩ := lx_s h
        have f_345 := q_is_eq f_340 e_344
        have l_346 := kp_342 0 _ l_334 (by decide) (Or.inl (by decide))
        have l_347 := kp_342 1 _ l_335 (by decide) (Or.inl (by decide))
        have l_348 := kp_342 2 _ l_336 (by decide) (Or.inl (by decide))
        have l_349 := kp_342 3 _ l_332 (by decide) (Or.inr (q_is_cat f4 (Or.inl rfl)))
        refine go_goto (o := (-75)) (t := 148) (by decide +kernel) (by decide +kernel) ?_
        exact hc h R_308 l_346 f0 l_347 f1 l_348 f2 l_349 f4 l_341 f_345
noncomputable def fl_X12_poll_148 (y1 y2 : Int) (m : MM) (k226 : Int → Option (Int × MM)) : Nat → Int → Int → Option (Int × MM)
  | 0, _, _ => none
  | n + 1, y3, y4 => lx (m 68 12) fun x_225 =>
if y4 < x_225 then
if y2 = (-1) then
k226 y3
else
gd (0 ≤ y4 ∧ y4 < 30) <| lx (m 81 y4) fun x_238 =>
if x_238 = y2 then
bp (fm_X12_isReady y4 m) fun x_351 =>
if x_351 = 0 then
fj_X12_poll_187 (fl_X12_poll_148 y1 y2 m k226 n) k226 y1 y2 y3 y4 0 m
else
fj_X12_poll_187 (fl_X12_poll_148 y1 y2 m k226 n) k226 y1 y2 y3 y4 1 m
else
fj_X12_poll_187 (fl_X12_poll_148 y1 y2 m k226 n) k226 y1 y2 y3 y4 0 m
else
k226 y3
set_option maxHeartbeats 4000000 in
theorem ol_X12_poll_148 {xs : List Int32} {d : Nat} {Q : QO → QS → Prop} {m : MM} {y1 y2 : Int} {k226 : Int → Option (Int × MM)} {rz : Int} {rm : MM}
  (hd : 3 ≤ d)
  (hk226 : ∀ {z3 : Int} {Sq : QS} {Lq : QL} {u0 : Value} {u1 : Value} {u2 : Value} {u3 : Value}, k226 z3 = some (rz, rm) → Rp Sq m → q_lo Lq 0 = some u0 → q_is 2 u0 68 → q_lo Lq 1 = some u1 → q_is 0 u1 y1 → q_lo Lq 2 = some u2 → q_is 0 u2 y2 → q_lo Lq 3 = some u3 → q_is 0 u3 z3 → Go xs d qM_X12_poll 226 Lq [] Sq Q)
  (hQ : Ext m rm → ∀ o S1, Rp S1 rm → q_out 0 o rz → Q o S1) :
  ∀ (n : Nat) {S : QS} {L : QL} {y3 y4 : Int} {v0 : Value} {v1 : Value} {v2 : Value} {v3 : Value} {v4 : Value} , fl_X12_poll_148 y1 y2 m k226 n y3 y4 = some (rz, rm) → Rp S m → q_lo L 0 = some v0 → q_is 2 v0 68 → q_lo L 1 = some v1 → q_is 0 v1 y1 → q_lo L 2 = some v2 → q_is 0 v2 y2 → q_lo L 3 = some v3 → q_is 0 v3 y3 → q_lo L 4 = some v4 → q_is 0 v4 y4 → Go xs d qM_X12_poll 148 L [] S Q := by
  intro n
  induction n with
  | zero => intro S L y3 y4 v0 v1 v2 v3 v4; intro h R l0 f0 l1 f1 l2 f2 l3 f3 l4 f4; cases h
  | succ n ih0 =>
    intro S L y3 y4 v0 v1 v2 v3 v4; intro h R l0 f0 l1 f1 l2 f2 l3 f3 l4 f4
    have ih : ∀ {z3 : Int} {z4 : Int} {Sq : QS} {Lq : QL} {u0 : Value} {u1 : Value} {u2 : Value} {u3 : Value} {u4 : Value}, fl_X12_poll_148 y1 y2 m k226 n z3 z4 = some (rz, rm) → Rp Sq m → q_lo Lq 0 = some u0 → q_is 2 u0 68 → q_lo Lq 1 = some u1 → q_is 0 u1 y1 → q_lo Lq 2 = some u2 → q_is 0 u2 y2 → q_lo Lq 3 = some u3 → q_is 0 u3 z3 → q_lo Lq 4 = some u4 → q_is 0 u4 z4 → Go xs d qM_X12_poll 148 Lq [] Sq Q := by intros; exact ih0 ‹_› ‹_› ‹_› ‹_› ‹_› ‹_› ‹_› ‹_› ‹_› ‹_› ‹_› ‹_›
    unfold fl_X12_poll_148 at h
    refine go_iload (n := 4) (by decide +kernel) l4 f4 ?_
    refine go_aload_n (n := 0) (by decide +kernel) l0 f0 ?_
    obtain ⟨x_225, e_226, h⟩ := lx_s h
    refine go_getf (x := 310) (ci := 13) (kf := 12) (fin := 0) (t := 0) (by decide +kernel) (by decide +kernel) (by decide +kernel) R f0 (fx_k (c := 13) R (by decide +kernel)) fun v_222 f_223 => ?_
    have f_224 := q_is_eq f_223 e_226
    refine go_icmp (c := .ge) (o := 72) (t := 226) (P := ¬ (y4 < x_225)) (by decide +kernel) (by decide +kernel) f4 f_224 (Int.not_lt.symm) (fun hp_227 => ?_) (fun hp_227 => ?_)
    · have h := it_f hp_227 h
      exact hk226 h R l0 f0 l1 f1 l2 f2 l3 f3
    · have h := it_n hp_227 h
      refine go_iload_n (n := 2) (by decide +kernel) l2 f2 ?_
      refine go_iconst (n := (-1)) (z := (-1)) (by decide +kernel) (by decide) fun v_228 f_229 => ?_
      refine go_icmp (c := .eq) (o := 67) (t := 226) (P := y2 = (-1)) (by decide +kernel) (by decide +kernel) f2 f_229 (Iff.rfl) (fun hp_230 => ?_) (fun hp_230 => ?_)
      · have h := it_t hp_230 h
        exact hk226 h R l0 f0 l1 f1 l2 f2 l3 f3
      · have h := it_f hp_230 h
        refine go_aload_n (n := 0) (by decide +kernel) l0 f0 ?_
        refine go_getf (x := 46) (ci := 13) (kf := 14) (fin := 1) (t := 2) (by decide +kernel) (by decide +kernel) (by decide +kernel) R f0 (fx_k (c := 13) R (by decide +kernel)) fun v_231 f_232 => ?_
        have f_233 := q_is_eq (b := 81) f_232 (fx_v R (by decide +kernel)).symm
        refine go_iload (n := 4) (by decide +kernel) l4 f4 ?_
        obtain ⟨g_236, h⟩ := gd_s h
        obtain ⟨x_238, e_239, h⟩ := lx_s h
        refine go_iald (kd := 100) (by decide +kernel) rfl R f_233 f4 (fx_k (c := 100) R (by decide +kernel)) (fx_x (a := 81) (ln := 30) R (by decide +kernel) g_236) fun v_234 f_235 => ?_
        have f_237 := q_is_eq f_235 e_239
        refine go_iload_n (n := 2) (by decide +kernel) l2 f2 ?_
        refine go_icmp (c := .ne) (o := 16) (t := 186) (P := ¬ (x_238 = y2)) (by decide +kernel) (by decide +kernel) f_237 f2 (Iff.rfl) (fun hp_240 => ?_) (fun hp_240 => ?_)
        · have h := it_f hp_240 h
          refine go_iconst (n := 0) (z := 0) (by decide +kernel) (by decide) fun v_241 f_242 => ?_
          exact oj_X12_poll_187 hd R l0 f0 l1 f1 l2 f2 l3 f3 l4 f4 f_242 ih hk226 hQ h
        · have h := it_n hp_240 h
          refine go_aload_n (n := 0) (by decide +kernel) l0 f0 ?_
          refine go_iload (n := 4) (by decide +kernel) l4 f4 ?_
          obtain ⟨x_351, hc_350, h⟩ := bp_s h
          refine go_callV (x := 608) (mi := 273) (n := 1) (ci := 13) (as := [v4]) (rest := []) (by decide +kernel) (by decide +kernel) rfl rfl (q_sum8 _ (Nat.le_of_ble_eq_true rfl)) R f0 (fx_k (c := 13) R (by decide +kernel)) (om_X12_isReady (Nat.le_trans (by decide) hd) R f0 f4 hc_350) (fun _ S_355 q_358 => ?_) (fun _ _ qq => kr_x qq)
          refine kr_z (by decide) q_358 fun v_353 f_354 R_356 E_357 => ?_
          refine go_if (c := .eq) (o := 7) (t := 186) (P := x_351 = 0) (by decide +kernel) (by decide +kernel) f_354 (Iff.rfl) (fun hp_359 => ?_) (fun hp_359 => ?_)
          · have h := it_t hp_359 h
            refine go_iconst (n := 0) (z := 0) (by decide +kernel) (by decide) fun v_360 f_361 => ?_
            exact oj_X12_poll_187 hd R_356 l0 f0 l1 f1 l2 f2 l3 f3 l4 f4 f_361 ih hk226 hQ h
          · have h := it_f hp_359 h
            refine go_iconst (n := 1) (z := 1) (by decide +kernel) (by decide) fun v_362 f_363 => ?_
            refine go_goto (o := 4) (t := 187) (by decide +kernel) (by decide +kernel) ?_
            exact oj_X12_poll_187 hd R_356 l0 f0 l1 f1 l2 f2 l3 f3 l4 f4 f_363 ih hk226 hQ h
noncomputable def fj_X12_poll_13 (y1 s0 : Int) (m : MM) : Option (Int × MM) := bd (fm_X12_fails s0 m) fun x_14 m_15 =>
if x_14 = 0 then
fl_X12_poll_25 y1 m_15 (fun x_192 =>
fl_X12_poll_148 y1 x_192 m_15 (fun x_364 =>
if x_364 = (-1) then
some ((-1), m_15)
else
lx (m_15 68 51) fun x_389 =>
gd (0 ≤ x_389 ∧ x_389 < 4096) <| up m_15 112 x_389 y1 fun m_392 =>
lx (m_392 68 51) fun x_404 =>
gd (0 ≤ x_404 ∧ x_404 < 4096) <| up m_392 113 x_404 x_364 fun m_407 =>
lx (m_407 68 51) fun x_419 =>
gd (0 ≤ x_364 ∧ x_364 < 30) <| lx (m_407 89 x_364) fun x_428 =>
gd (0 ≤ x_419 ∧ x_419 < 4096) <| up m_407 114 x_419 x_428 fun m_431 =>
lx (m_431 68 51) fun x_443 =>
lx (m_431 68 0) fun x_448 =>
gd (0 ≤ x_443 ∧ x_443 < 4096) <| up m_431 115 x_443 x_448 fun m_451 =>
lx (m_451 68 51) fun x_463 =>
lx (m_451 90 x_364) fun x_471 =>
gd (0 ≤ x_463 ∧ x_463 < 4096) <| up m_451 116 x_463 x_471 fun m_474 =>
lx (m_474 68 51) fun x_486 =>
lx (m_474 82 x_364) fun x_494 =>
gd (0 ≤ x_486 ∧ x_486 < 4096) <| up m_474 117 x_486 x_494 fun m_497 =>
lx (m_497 68 51) fun x_509 =>
lx (m_497 93 x_364) fun x_517 =>
gd (0 ≤ x_509 ∧ x_509 < 4096) <| up m_497 118 x_509 x_517 fun m_520 =>
gd (0 ≤ x_192 ∧ x_192 < 3) <| lx (m_520 120 x_192) fun x_533 =>
up m_520 120 x_192 (w32 (x_533 + 1)) fun m_539 =>
lx (m_539 121 x_192) fun x_551 =>
up m_539 121 x_192 (w32 (x_551 + 1)) fun m_557 =>
lx (m_557 68 51) fun x_566 =>
up m_557 68 51 (w32 (x_566 + 1)) fun m_572 =>
lx (m_572 68 51) fun x_583 =>
some (w32 ((w32 (100 * (w32 (x_583 - 1)))) + x_364), m_572)) BIG (-1) 0) BIG (-1) 0
else
some (0, m_15)
set_option maxHeartbeats 4000000 in
theorem oj_X12_poll_13 {xs : List Int32} {d : Nat} {S : QS} {L : QL} {Q : QO → QS → Prop} {m : MM} {y1 s0 : Int} {v0 : Value} {v1 : Value} {w0 : Value} {w1 : Value}  {rz : Int} {rm : MM}
  (hd : 3 ≤ d) (R : Rp S m) (l0 : q_lo L 0 = some v0) (f0 : q_is 2 v0 68) (l1 : q_lo L 1 = some v1) (f1 : q_is 0 v1 y1) (fs0 : q_is 0 w0 s0) (fs1 : q_is 2 w1 68)
  (hQ : Ext m rm → ∀ o S1, Rp S1 rm → q_out 0 o rz → Q o S1)
  (h : fj_X12_poll_13 y1 s0 m = some (rz, rm)) : Go xs d qM_X12_poll 13 L [w0, w1] S Q := by
  unfold fj_X12_poll_13 at h
  obtain ⟨x_14, m_15, hc_13, h⟩ := bd_s h
  refine go_callV (x := 324) (mi := 186) (n := 1) (ci := 13) (as := [w0]) (rest := []) (by decide +kernel) (by decide +kernel) rfl rfl (q_sum8 _ (Nat.le_of_ble_eq_true rfl)) R fs1 (fx_k (c := 13) R (by decide +kernel)) (om_X12_fails (Nat.le_trans (by decide) hd) R fs1 fs0 hc_13) (fun _ S_18 q_21 => ?_) (fun _ _ qq => kr_x qq)
  refine kr_z (by decide) q_21 fun v_16 f_17 R_19 E_20 => ?_
  have E_22 := E_20
  refine go_if (c := .eq) (o := 5) (t := 21) (P := x_14 = 0) (by decide +kernel) (by decide +kernel) f_17 (Iff.rfl) (fun hp_23 => ?_) (fun hp_23 => ?_)
  · have h := it_t hp_23 h
    refine go_iconst (n := (-1)) (z := (-1)) (by decide +kernel) (by decide) fun v_24 f_25 => ?_
    refine go_istore_n (n := 2) (by decide +kernel) (by decide +kernel) f_25 fun L_26 l_27 kp_28 => ?_
    have l_29 := kp_28 0 _ l0 (by decide) (Or.inl (by decide))
    have l_30 := kp_28 1 _ l1 (by decide) (Or.inr (q_is_cat f1 (Or.inl rfl)))
    refine go_iconst (n := 0) (z := 0) (by decide +kernel) (by decide) fun v_31 f_32 => ?_
    refine go_istore_n (n := 3) (by decide +kernel) (by decide +kernel) f_32 fun L_33 l_34 kp_35 => ?_
    have l_36 := kp_35 0 _ l_29 (by decide) (Or.inl (by decide))
    have l_37 := kp_35 1 _ l_30 (by decide) (Or.inl (by decide))
    have l_38 := kp_35 2 _ l_27 (by decide) (Or.inr (q_is_cat f_25 (Or.inl rfl)))
    refine ol_X12_poll_25 hd  ?_ (fun b => hQ (Ext.tr E_22 b)) BIG h R_19 l_36 f0 l_37 f1 l_38 f_25 l_34 f_32
    intro x_192 S_202 L_203 v_193 v_194 v_195
    intro h R_204 l_196 f_199 l_197 f_200 l_198 f_201
    refine go_iconst (n := (-1)) (z := (-1)) (by decide +kernel) (by decide) fun v_205 f_206 => ?_
    refine go_istore_n (n := 3) (by decide +kernel) (by decide +kernel) f_206 fun L_207 l_208 kp_209 => ?_
    have l_210 := kp_209 0 _ l_196 (by decide) (Or.inl (by decide))
    have l_211 := kp_209 1 _ l_197 (by decide) (Or.inl (by decide))
    have l_212 := kp_209 2 _ l_198 (by decide) (Or.inr (q_is_cat f_201 (Or.inl rfl)))
    refine go_iconst (n := 0) (z := 0) (by decide +kernel) (by decide) fun v_213 f_214 => ?_
    refine go_istore (n := 4) (by decide +kernel) (by decide +kernel) f_214 fun L_215 l_216 kp_217 => ?_
    have l_218 := kp_217 0 _ l_210 (by decide) (Or.inl (by decide))
    have l_219 := kp_217 1 _ l_211 (by decide) (Or.inl (by decide))
    have l_220 := kp_217 2 _ l_212 (by decide) (Or.inl (by decide))
    have l_221 := kp_217 3 _ l_208 (by decide) (Or.inr (q_is_cat f_206 (Or.inl rfl)))
    refine ol_X12_poll_148 hd  ?_ (fun b => hQ (Ext.tr E_22 b)) BIG h R_204 l_218 f_199 l_219 f_200 l_220 f_201 l_221 f_206 l_216 f_214
    intro x_364 S_377 L_378 v_365 v_366 v_367 v_368
    intro h R_379 l_369 f_373 l_370 f_374 l_371 f_375 l_372 f_376
    refine go_iload_n (n := 3) (by decide +kernel) l_372 f_376 ?_
    refine go_iconst (n := (-1)) (z := (-1)) (by decide +kernel) (by decide) fun v_380 f_381 => ?_
    refine go_icmp (c := .ne) (o := 5) (t := 233) (P := ¬ (x_364 = (-1))) (by decide +kernel) (by decide +kernel) f_376 f_381 (Iff.rfl) (fun hp_382 => ?_) (fun hp_382 => ?_)
    · have h := it_f hp_382 h
      refine go_aload_n (n := 0) (by decide +kernel) l_369 f_373 ?_
      refine go_getf (x := 149) (ci := 13) (kf := 52) (fin := 1) (t := 2) (by decide +kernel) (by decide +kernel) (by decide +kernel) R_379 f_373 (fx_k (c := 13) R_379 (by decide +kernel)) fun v_383 f_384 => ?_
      have f_385 := q_is_eq (b := 112) f_384 (fx_v R_379 (by decide +kernel)).symm
      refine go_aload_n (n := 0) (by decide +kernel) l_369 f_373 ?_
      obtain ⟨x_389, e_390, h⟩ := lx_s h
      refine go_getf (x := 599) (ci := 13) (kf := 51) (fin := 0) (t := 0) (by decide +kernel) (by decide +kernel) (by decide +kernel) R_379 f_373 (fx_k (c := 13) R_379 (by decide +kernel)) fun v_386 f_387 => ?_
      have f_388 := q_is_eq f_387 e_390
      refine go_iload_n (n := 1) (by decide +kernel) l_370 f_374 ?_
      obtain ⟨g_391, h⟩ := gd_s h
      obtain ⟨m_392, e_393, h⟩ := up_s h
      refine go_iast (kd := 100) (by decide +kernel) rfl R_379 f_385 f_388 f_374 (fx_k (c := 100) R_379 (by decide +kernel)) (fx_x (a := 112) (ln := 4096) R_379 (by decide +kernel) g_391) e_393 (fx_a R_379.2 (fx_k (c := 100) R_379 (by decide +kernel)) (And.left (fx_x (a := 112) (ln := 4096) R_379 (by decide +kernel) g_391)) (by decide +kernel)) fun S_394 R_395 E_396 => ?_
      have E_397 := Ext.tr E_22 E_396
      refine go_aload_n (n := 0) (by decide +kernel) l_369 f_373 ?_
      refine go_getf (x := 152) (ci := 13) (kf := 53) (fin := 1) (t := 2) (by decide +kernel) (by decide +kernel) (by decide +kernel) R_395 f_373 (fx_k (c := 13) R_395 (by decide +kernel)) fun v_398 f_399 => ?_
      have f_400 := q_is_eq (b := 113) f_399 (fx_v R_395 (by decide +kernel)).symm
      refine go_aload_n (n := 0) (by decide +kernel) l_369 f_373 ?_
      obtain ⟨x_404, e_405, h⟩ := lx_s h
      refine go_getf (x := 599) (ci := 13) (kf := 51) (fin := 0) (t := 0) (by decide +kernel) (by decide +kernel) (by decide +kernel) R_395 f_373 (fx_k (c := 13) R_395 (by decide +kernel)) fun v_401 f_402 => ?_
      have f_403 := q_is_eq f_402 e_405
      refine go_iload_n (n := 3) (by decide +kernel) l_372 f_376 ?_
      obtain ⟨g_406, h⟩ := gd_s h
      obtain ⟨m_407, e_408, h⟩ := up_s h
      refine go_iast (kd := 100) (by decide +kernel) rfl R_395 f_400 f_403 f_376 (fx_k (c := 100) R_395 (by decide +kernel)) (fx_x (a := 113) (ln := 4096) R_395 (by decide +kernel) g_406) e_408 (fx_a R_395.2 (fx_k (c := 100) R_395 (by decide +kernel)) (And.left (fx_x (a := 113) (ln := 4096) R_395 (by decide +kernel) g_406)) (by decide +kernel)) fun S_409 R_410 E_411 => ?_
      have E_412 := Ext.tr E_397 E_411
      refine go_aload_n (n := 0) (by decide +kernel) l_369 f_373 ?_
      refine go_getf (x := 155) (ci := 13) (kf := 54) (fin := 1) (t := 2) (by decide +kernel) (by decide +kernel) (by decide +kernel) R_410 f_373 (fx_k (c := 13) R_410 (by decide +kernel)) fun v_413 f_414 => ?_
      have f_415 := q_is_eq (b := 114) f_414 (fx_v R_410 (by decide +kernel)).symm
      refine go_aload_n (n := 0) (by decide +kernel) l_369 f_373 ?_
      obtain ⟨x_419, e_420, h⟩ := lx_s h
      refine go_getf (x := 599) (ci := 13) (kf := 51) (fin := 0) (t := 0) (by decide +kernel) (by decide +kernel) (by decide +kernel) R_410 f_373 (fx_k (c := 13) R_410 (by decide +kernel)) fun v_416 f_417 => ?_
      have f_418 := q_is_eq f_417 e_420
      refine go_aload_n (n := 0) (by decide +kernel) l_369 f_373 ?_
      refine go_getf (x := 70) (ci := 13) (kf := 22) (fin := 1) (t := 2) (by decide +kernel) (by decide +kernel) (by decide +kernel) R_410 f_373 (fx_k (c := 13) R_410 (by decide +kernel)) fun v_421 f_422 => ?_
      have f_423 := q_is_eq (b := 89) f_422 (fx_v R_410 (by decide +kernel)).symm
      refine go_iload_n (n := 3) (by decide +kernel) l_372 f_376 ?_
      obtain ⟨g_426, h⟩ := gd_s h
      obtain ⟨x_428, e_429, h⟩ := lx_s h
      refine go_iald (kd := 100) (by decide +kernel) rfl R_410 f_423 f_376 (fx_k (c := 100) R_410 (by decide +kernel)) (fx_x (a := 89) (ln := 30) R_410 (by decide +kernel) g_426) fun v_424 f_425 => ?_
      have f_427 := q_is_eq f_425 e_429
      obtain ⟨g_430, h⟩ := gd_s h
      obtain ⟨m_431, e_432, h⟩ := up_s h
      refine go_iast (kd := 100) (by decide +kernel) rfl R_410 f_415 f_418 f_427 (fx_k (c := 100) R_410 (by decide +kernel)) (fx_x (a := 114) (ln := 4096) R_410 (by decide +kernel) g_430) e_432 (fx_a R_410.2 (fx_k (c := 100) R_410 (by decide +kernel)) (And.left (fx_x (a := 114) (ln := 4096) R_410 (by decide +kernel) g_430)) (by decide +kernel)) fun S_433 R_434 E_435 => ?_
      have E_436 := Ext.tr E_412 E_435
      refine go_aload_n (n := 0) (by decide +kernel) l_369 f_373 ?_
      refine go_getf (x := 158) (ci := 13) (kf := 55) (fin := 1) (t := 2) (by decide +kernel) (by decide +kernel) (by decide +kernel) R_434 f_373 (fx_k (c := 13) R_434 (by decide +kernel)) fun v_437 f_438 => ?_
      have f_439 := q_is_eq (b := 115) f_438 (fx_v R_434 (by decide +kernel)).symm
      refine go_aload_n (n := 0) (by decide +kernel) l_369 f_373 ?_
      obtain ⟨x_443, e_444, h⟩ := lx_s h
      refine go_getf (x := 599) (ci := 13) (kf := 51) (fin := 0) (t := 0) (by decide +kernel) (by decide +kernel) (by decide +kernel) R_434 f_373 (fx_k (c := 13) R_434 (by decide +kernel)) fun v_440 f_441 => ?_
      have f_442 := q_is_eq f_441 e_444
      refine go_aload_n (n := 0) (by decide +kernel) l_369 f_373 ?_
      obtain ⟨x_448, e_449, h⟩ := lx_s h
      refine go_getf (x := 357) (ci := 13) (kf := 0) (fin := 0) (t := 0) (by decide +kernel) (by decide +kernel) (by decide +kernel) R_434 f_373 (fx_k (c := 13) R_434 (by decide +kernel)) fun v_445 f_446 => ?_
      have f_447 := q_is_eq f_446 e_449
      obtain ⟨g_450, h⟩ := gd_s h
      obtain ⟨m_451, e_452, h⟩ := up_s h
      refine go_iast (kd := 100) (by decide +kernel) rfl R_434 f_439 f_442 f_447 (fx_k (c := 100) R_434 (by decide +kernel)) (fx_x (a := 115) (ln := 4096) R_434 (by decide +kernel) g_450) e_452 (fx_a R_434.2 (fx_k (c := 100) R_434 (by decide +kernel)) (And.left (fx_x (a := 115) (ln := 4096) R_434 (by decide +kernel) g_450)) (by decide +kernel)) fun S_453 R_454 E_455 => ?_
      have E_456 := Ext.tr E_436 E_455
      refine go_aload_n (n := 0) (by decide +kernel) l_369 f_373 ?_
      refine go_getf (x := 161) (ci := 13) (kf := 56) (fin := 1) (t := 2) (by decide +kernel) (by decide +kernel) (by decide +kernel) R_454 f_373 (fx_k (c := 13) R_454 (by decide +kernel)) fun v_457 f_458 => ?_
      have f_459 := q_is_eq (b := 116) f_458 (fx_v R_454 (by decide +kernel)).symm
      refine go_aload_n (n := 0) (by decide +kernel) l_369 f_373 ?_
      obtain ⟨x_463, e_464, h⟩ := lx_s h
      refine go_getf (x := 599) (ci := 13) (kf := 51) (fin := 0) (t := 0) (by decide +kernel) (by decide +kernel) (by decide +kernel) R_454 f_373 (fx_k (c := 13) R_454 (by decide +kernel)) fun v_460 f_461 => ?_
      have f_462 := q_is_eq f_461 e_464
      refine go_aload_n (n := 0) (by decide +kernel) l_369 f_373 ?_
      refine go_getf (x := 73) (ci := 13) (kf := 23) (fin := 1) (t := 2) (by decide +kernel) (by decide +kernel) (by decide +kernel) R_454 f_373 (fx_k (c := 13) R_454 (by decide +kernel)) fun v_465 f_466 => ?_
      have f_467 := q_is_eq (b := 90) f_466 (fx_v R_454 (by decide +kernel)).symm
      refine go_iload_n (n := 3) (by decide +kernel) l_372 f_376 ?_
      obtain ⟨x_471, e_472, h⟩ := lx_s h
      refine go_iald (kd := 100) (by decide +kernel) rfl R_454 f_467 f_376 (fx_k (c := 100) R_454 (by decide +kernel)) (fx_x (a := 90) (ln := 30) R_454 (by decide +kernel) g_426) fun v_468 f_469 => ?_
      have f_470 := q_is_eq f_469 e_472
      obtain ⟨g_473, h⟩ := gd_s h
      obtain ⟨m_474, e_475, h⟩ := up_s h
      refine go_iast (kd := 100) (by decide +kernel) rfl R_454 f_459 f_462 f_470 (fx_k (c := 100) R_454 (by decide +kernel)) (fx_x (a := 116) (ln := 4096) R_454 (by decide +kernel) g_473) e_475 (fx_a R_454.2 (fx_k (c := 100) R_454 (by decide +kernel)) (And.left (fx_x (a := 116) (ln := 4096) R_454 (by decide +kernel) g_473)) (by decide +kernel)) fun S_476 R_477 E_478 => ?_
      have E_479 := Ext.tr E_456 E_478
      refine go_aload_n (n := 0) (by decide +kernel) l_369 f_373 ?_
      refine go_getf (x := 164) (ci := 13) (kf := 57) (fin := 1) (t := 2) (by decide +kernel) (by decide +kernel) (by decide +kernel) R_477 f_373 (fx_k (c := 13) R_477 (by decide +kernel)) fun v_480 f_481 => ?_
      have f_482 := q_is_eq (b := 117) f_481 (fx_v R_477 (by decide +kernel)).symm
      refine go_aload_n (n := 0) (by decide +kernel) l_369 f_373 ?_
      obtain ⟨x_486, e_487, h⟩ := lx_s h
      refine go_getf (x := 599) (ci := 13) (kf := 51) (fin := 0) (t := 0) (by decide +kernel) (by decide +kernel) (by decide +kernel) R_477 f_373 (fx_k (c := 13) R_477 (by decide +kernel)) fun v_483 f_484 => ?_
      have f_485 := q_is_eq f_484 e_487
      refine go_aload_n (n := 0) (by decide +kernel) l_369 f_373 ?_
      refine go_getf (x := 49) (ci := 13) (kf := 15) (fin := 1) (t := 2) (by decide +kernel) (by decide +kernel) (by decide +kernel) R_477 f_373 (fx_k (c := 13) R_477 (by decide +kernel)) fun v_488 f_489 => ?_
      have f_490 := q_is_eq (b := 82) f_489 (fx_v R_477 (by decide +kernel)).symm
      refine go_iload_n (n := 3) (by decide +kernel) l_372 f_376 ?_
      obtain ⟨x_494, e_495, h⟩ := lx_s h
      refine go_iald (kd := 100) (by decide +kernel) rfl R_477 f_490 f_376 (fx_k (c := 100) R_477 (by decide +kernel)) (fx_x (a := 82) (ln := 30) R_477 (by decide +kernel) g_426) fun v_491 f_492 => ?_
      have f_493 := q_is_eq f_492 e_495
      obtain ⟨g_496, h⟩ := gd_s h
      obtain ⟨m_497, e_498, h⟩ := up_s h
      refine go_iast (kd := 100) (by decide +kernel) rfl R_477 f_482 f_485 f_493 (fx_k (c := 100) R_477 (by decide +kernel)) (fx_x (a := 117) (ln := 4096) R_477 (by decide +kernel) g_496) e_498 (fx_a R_477.2 (fx_k (c := 100) R_477 (by decide +kernel)) (And.left (fx_x (a := 117) (ln := 4096) R_477 (by decide +kernel) g_496)) (by decide +kernel)) fun S_499 R_500 E_501 => ?_
      have E_502 := Ext.tr E_479 E_501
      refine go_aload_n (n := 0) (by decide +kernel) l_369 f_373 ?_
      refine go_getf (x := 167) (ci := 13) (kf := 58) (fin := 1) (t := 2) (by decide +kernel) (by decide +kernel) (by decide +kernel) R_500 f_373 (fx_k (c := 13) R_500 (by decide +kernel)) fun v_503 f_504 => ?_
      have f_505 := q_is_eq (b := 118) f_504 (fx_v R_500 (by decide +kernel)).symm
      refine go_aload_n (n := 0) (by decide +kernel) l_369 f_373 ?_
      obtain ⟨x_509, e_510, h⟩ := lx_s h
      refine go_getf (x := 599) (ci := 13) (kf := 51) (fin := 0) (t := 0) (by decide +kernel) (by decide +kernel) (by decide +kernel) R_500 f_373 (fx_k (c := 13) R_500 (by decide +kernel)) fun v_506 f_507 => ?_
      have f_508 := q_is_eq f_507 e_510
      refine go_aload_n (n := 0) (by decide +kernel) l_369 f_373 ?_
      refine go_getf (x := 82) (ci := 13) (kf := 26) (fin := 1) (t := 2) (by decide +kernel) (by decide +kernel) (by decide +kernel) R_500 f_373 (fx_k (c := 13) R_500 (by decide +kernel)) fun v_511 f_512 => ?_
      have f_513 := q_is_eq (b := 93) f_512 (fx_v R_500 (by decide +kernel)).symm
      refine go_iload_n (n := 3) (by decide +kernel) l_372 f_376 ?_
      obtain ⟨x_517, e_518, h⟩ := lx_s h
      refine go_iald (kd := 100) (by decide +kernel) rfl R_500 f_513 f_376 (fx_k (c := 100) R_500 (by decide +kernel)) (fx_x (a := 93) (ln := 30) R_500 (by decide +kernel) g_426) fun v_514 f_515 => ?_
      have f_516 := q_is_eq f_515 e_518
      obtain ⟨g_519, h⟩ := gd_s h
      obtain ⟨m_520, e_521, h⟩ := up_s h
      refine go_iast (kd := 100) (by decide +kernel) rfl R_500 f_505 f_508 f_516 (fx_k (c := 100) R_500 (by decide +kernel)) (fx_x (a := 118) (ln := 4096) R_500 (by decide +kernel) g_519) e_521 (fx_a R_500.2 (fx_k (c := 100) R_500 (by decide +kernel)) (And.left (fx_x (a := 118) (ln := 4096) R_500 (by decide +kernel) g_519)) (by decide +kernel)) fun S_522 R_523 E_524 => ?_
      have E_525 := Ext.tr E_502 E_524
      refine go_aload_n (n := 0) (by decide +kernel) l_369 f_373 ?_
      refine go_getf (x := 174) (ci := 13) (kf := 60) (fin := 1) (t := 2) (by decide +kernel) (by decide +kernel) (by decide +kernel) R_523 f_373 (fx_k (c := 13) R_523 (by decide +kernel)) fun v_526 f_527 => ?_
      have f_528 := q_is_eq (b := 120) f_527 (fx_v R_523 (by decide +kernel)).symm
      refine go_iload_n (n := 2) (by decide +kernel) l_371 f_375 ?_
      refine go_dup2 (by decide +kernel) f_375 (Or.inl rfl) f_528 (Or.inr rfl) ?_
      obtain ⟨g_531, h⟩ := gd_s h
      obtain ⟨x_533, e_534, h⟩ := lx_s h
      refine go_iald (kd := 100) (by decide +kernel) rfl R_523 f_528 f_375 (fx_k (c := 100) R_523 (by decide +kernel)) (fx_x (a := 120) (ln := 3) R_523 (by decide +kernel) g_531) fun v_529 f_530 => ?_
      have f_532 := q_is_eq f_530 e_534
      refine go_iconst (n := 1) (z := 1) (by decide +kernel) (by decide) fun v_535 f_536 => ?_
      refine go_iadd (by decide +kernel) f_532 f_536 fun v_537 f_538 => ?_
      obtain ⟨m_539, e_540, h⟩ := up_s h
      refine go_iast (kd := 100) (by decide +kernel) rfl R_523 f_528 f_375 f_538 (fx_k (c := 100) R_523 (by decide +kernel)) (fx_x (a := 120) (ln := 3) R_523 (by decide +kernel) g_531) e_540 (fx_a R_523.2 (fx_k (c := 100) R_523 (by decide +kernel)) (And.left (fx_x (a := 120) (ln := 3) R_523 (by decide +kernel) g_531)) (by decide +kernel)) fun S_541 R_542 E_543 => ?_
      have E_544 := Ext.tr E_525 E_543
      refine go_aload_n (n := 0) (by decide +kernel) l_369 f_373 ?_
      refine go_getf (x := 177) (ci := 13) (kf := 61) (fin := 1) (t := 2) (by decide +kernel) (by decide +kernel) (by decide +kernel) R_542 f_373 (fx_k (c := 13) R_542 (by decide +kernel)) fun v_545 f_546 => ?_
      have f_547 := q_is_eq (b := 121) f_546 (fx_v R_542 (by decide +kernel)).symm
      refine go_iload_n (n := 2) (by decide +kernel) l_371 f_375 ?_
      refine go_dup2 (by decide +kernel) f_375 (Or.inl rfl) f_547 (Or.inr rfl) ?_
      obtain ⟨x_551, e_552, h⟩ := lx_s h
      refine go_iald (kd := 100) (by decide +kernel) rfl R_542 f_547 f_375 (fx_k (c := 100) R_542 (by decide +kernel)) (fx_x (a := 121) (ln := 3) R_542 (by decide +kernel) g_531) fun v_548 f_549 => ?_
      have f_550 := q_is_eq f_549 e_552
      refine go_iconst (n := 1) (z := 1) (by decide +kernel) (by decide) fun v_553 f_554 => ?_
      refine go_iadd (by decide +kernel) f_550 f_554 fun v_555 f_556 => ?_
      obtain ⟨m_557, e_558, h⟩ := up_s h
      refine go_iast (kd := 100) (by decide +kernel) rfl R_542 f_547 f_375 f_556 (fx_k (c := 100) R_542 (by decide +kernel)) (fx_x (a := 121) (ln := 3) R_542 (by decide +kernel) g_531) e_558 (fx_a R_542.2 (fx_k (c := 100) R_542 (by decide +kernel)) (And.left (fx_x (a := 121) (ln := 3) R_542 (by decide +kernel) g_531)) (by decide +kernel)) fun S_559 R_560 E_561 => ?_
      have E_562 := Ext.tr E_544 E_561
      refine go_aload_n (n := 0) (by decide +kernel) l_369 f_373 ?_
      refine go_dup (by decide +kernel) f_373 (Or.inr rfl) ?_
      obtain ⟨x_566, e_567, h⟩ := lx_s h
      refine go_getf (x := 599) (ci := 13) (kf := 51) (fin := 0) (t := 0) (by decide +kernel) (by decide +kernel) (by decide +kernel) R_560 f_373 (fx_k (c := 13) R_560 (by decide +kernel)) fun v_563 f_564 => ?_
      have f_565 := q_is_eq f_564 e_567
      refine go_iconst (n := 1) (z := 1) (by decide +kernel) (by decide) fun v_568 f_569 => ?_
      refine go_iadd (by decide +kernel) f_565 f_569 fun v_570 f_571 => ?_
      obtain ⟨m_572, e_573, h⟩ := up_s h
      refine go_putf (x := 599) (ci := 13) (kf := 51) (fin := 0) (zt := 0) (by decide +kernel) (by decide +kernel) (by decide) (by decide +kernel) (by decide) (Or.inl rfl) R_560 f_373 f_571 (fun hq => absurd hq (by decide)) (fx_k (c := 13) R_560 (by decide +kernel)) e_573 (fx_f (j := 51) R_560.2 (fx_k (c := 13) R_560 (by decide +kernel)) (by decide +kernel)) fun S_574 R_575 E_576 => ?_
      have E_577 := Ext.tr E_562 E_576
      refine go_bipush (n := 100) (z := 100) (by decide +kernel) (by decide) fun v_578 f_579 => ?_
      refine go_aload_n (n := 0) (by decide +kernel) l_369 f_373 ?_
      obtain ⟨x_583, e_584, h⟩ := lx_s h
      refine go_getf (x := 599) (ci := 13) (kf := 51) (fin := 0) (t := 0) (by decide +kernel) (by decide +kernel) (by decide +kernel) R_575 f_373 (fx_k (c := 13) R_575 (by decide +kernel)) fun v_580 f_581 => ?_
      have f_582 := q_is_eq f_581 e_584
      refine go_iconst (n := 1) (z := 1) (by decide +kernel) (by decide) fun v_585 f_586 => ?_
      refine go_isub (by decide +kernel) f_582 f_586 fun v_587 f_588 => ?_
      refine go_imul (by decide +kernel) f_579 f_588 fun v_589 f_590 => ?_
      refine go_iload_n (n := 3) (by decide +kernel) l_372 f_376 ?_
      refine go_iadd (by decide +kernel) f_590 f_376 fun v_591 f_592 => ?_
      cases h
      exact go_iret (by decide +kernel) rfl (Or.inl rfl) f_592 (hQ E_577 _ _ R_575 (q_out_v (by decide) f_592))
    · have h := it_n hp_382 h
      refine go_iconst (n := (-1)) (z := (-1)) (by decide +kernel) (by decide) fun v_593 f_594 => ?_
      cases h
      exact go_iret (by decide +kernel) rfl (Or.inl rfl) f_594 (hQ E_22 _ _ R_379 (q_out_v (by decide) f_594))
  · have h := it_f hp_23 h
    refine go_iconst (n := 0) (z := 0) (by decide +kernel) (by decide) fun v_595 f_596 => ?_
    cases h
    exact go_iret (by decide +kernel) rfl (Or.inl rfl) f_596 (hQ E_22 _ _ R_19 (q_out_v (by decide) f_596))
noncomputable def fm_X12_poll (p1 : Int) (m0 : MM) : Option (Int × MM) := bp (fm_X12_isWorker p1 m0) fun x_2 =>
if x_2 = 0 then
fj_X12_poll_13 p1 1 m0
else
fj_X12_poll_13 p1 0 m0
set_option maxHeartbeats 4000000 in
theorem om_X12_poll {xs : List Int32} {d : Nat} {S : QS} {m0 : MM} {p1 : Int} {v0 : Value} {v1 : Value} {rz : Int} {rm : MM}
  (hd : 4 ≤ d) (R : Rp S m0) (f0 : q_is 2 v0 68) (f1 : q_is 0 v1 p1)
  (h : fm_X12_poll p1 m0 = some (rz, rm)) : Mt xs d 276 [v0, v1] S (Cr 0 m0 rm rz) := by
  obtain ⟨d, rfl⟩ : ∃ e, d = e + 1 := ⟨d - 1, by omega⟩
  have hd : 3 ≤ d := Nat.le_of_succ_le_succ hd
  refine Mt.of (M := qM_X12_poll) rfl (by rw [sl_1 (q_is_cat f0 (Or.inr rfl)), sl_1 (q_is_cat f1 (Or.inl rfl)), sl_0]; decide) ?_
  rw [la_1 (q_is_cat f0 (Or.inr rfl)), la_1 (q_is_cat f1 (Or.inl rfl)), la_0]
  obtain ⟨L, hL⟩ : ∃ L : QL, L = [(0, v0), (0 + 1, v1)] := ⟨_, rfl⟩
  rw [← hL]
  have l0 : q_lo L 0 = some v0 := by rw [hL]; rfl
  have l1 : q_lo L 1 = some v1 := by rw [hL]; rfl
  have hQ : Ext m0 rm → ∀ o S1, Rp S1 rm → q_out 0 o rz → (Cr 0 m0 rm rz) o S1 := fun a o S1 b e => ⟨b, a, e⟩
  unfold fm_X12_poll at h
  refine go_aload_n (n := 0) (by decide +kernel) l0 f0 ?_
  refine go_iload_n (n := 1) (by decide +kernel) l1 f1 ?_
  obtain ⟨x_2, hc_1, h⟩ := bp_s h
  refine go_callS (x := 605) (mi := 275) (n := 1) (b := 0) (as := [v1]) (rest := [v0]) (by decide +kernel) (by decide +kernel) rfl rfl (q_sum8 _ (Nat.le_of_ble_eq_true rfl)) (om_X12_isWorker (Nat.le_trans (by decide) hd) R f1 hc_1) (fun _ S_6 q_9 => ?_) (fun _ _ qq => kr_x qq)
  refine kr_z (by decide) q_9 fun v_4 f_5 R_7 E_8 => ?_
  refine go_if (c := .eq) (o := 7) (t := 12) (P := x_2 = 0) (by decide +kernel) (by decide +kernel) f_5 (Iff.rfl) (fun hp_10 => ?_) (fun hp_10 => ?_)
  · have h := it_t hp_10 h
    refine go_iconst (n := 1) (z := 1) (by decide +kernel) (by decide) fun v_11 f_12 => ?_
    exact oj_X12_poll_13 hd R_7 l0 f0 l1 f1 f_12 f0 hQ h
  · have h := it_f hp_10 h
    refine go_iconst (n := 0) (z := 0) (by decide +kernel) (by decide) fun v_597 f_598 => ?_
    refine go_goto (o := 4) (t := 13) (by decide +kernel) (by decide +kernel) ?_
    exact oj_X12_poll_13 hd R_7 l0 f0 l1 f1 f_598 f0 hQ h
end DF38
