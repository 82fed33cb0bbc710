/-! Methods as functions (written by wip/whole/dec.py), 38: X12_isWorker, X12_poll. -/
section DF38
noncomputable def fm_X12_isWorker (p0 : Int) (m0 : MM) : Option Int := bp (fm_X12_isIn p0 0 2 m0) fun x_6 =>
gd (x_6 = 0 ∨ x_6 = 1) <| some x_6
set_option maxHeartbeats 4000000 in
theorem om_X12_isWorker {xs : List Int32} {d : Nat} {S : QS} {m0 : MM} {p0 : Int} {v0 : Value} {rz : Int}
  (hd : 2 ≤ d) (R : Rp S m0) (f0 : q_is 0 v0 p0)
  (h : fm_X12_isWorker p0 m0 = some rz) : Mt xs d 275 [v0] S (Cr 0 m0 m0 rz) := by
  obtain ⟨d, rfl⟩ : ∃ e, d = e + 1 := ⟨d - 1, by omega⟩
  have hd : 1 ≤ d := Nat.le_of_succ_le_succ hd
  refine Mt.of (M := qM_X12_isWorker) rfl (by rw [sl_1 (q_is_cat f0 (Or.inl rfl)), sl_0]; decide) ?_
  rw [la_1 (q_is_cat f0 (Or.inl rfl)), la_0]
  obtain ⟨L, hL⟩ : ∃ L : QL, L = [(0, v0)] := ⟨_, rfl⟩
  rw [← hL]
  have l0 : q_lo L 0 = some v0 := by rw [hL]; rfl
  have hQ : ∀ o S1, Rp S1 m0 → q_out 0 o rz → (Cr 0 m0 m0 rz) o S1 := fun o S1 a b => ⟨a, Ext.rf _, b⟩
  unfold fm_X12_isWorker at h
  refine go_iload_n (n := 0) (by decide +kernel) l0 f0 ?_
  refine go_iconst (n := 0) (z := 0) (by decide +kernel) (by decide) fun v_1 f_2 => ?_
  refine go_iconst (n := 2) (z := 2) (by decide +kernel) (by decide) fun v_3 f_4 => ?_
  obtain ⟨x_6, hc_5, h⟩ := bp_s h
  refine go_callS (x := 306) (mi := 188) (n := 3) (b := 0) (as := [v0, v_1, v_3]) (rest := []) (by decide +kernel) (by decide +kernel) rfl rfl (q_sum8 _ (Nat.le_of_ble_eq_true rfl)) (om_X12_isIn (Nat.le_trans (by decide) hd) R f0 f_2 f_4 hc_5) (fun _ S_10 q_13 => ?_) (fun _ _ qq => kr_x qq)
  refine kr_z (by decide) q_13 fun v_8 f_9 R_11 E_12 => ?_
  obtain ⟨g_14, h⟩ := gd_s h
  cases h
  exact go_iret (by decide +kernel) rfl (Or.inr ⟨rfl, g_14⟩) f_9 (hQ _ _ R_11 (q_out_v (by decide) f_9))
noncomputable def fj_X12_poll_123 (c : Int → Int → Option (Int × MM)) (k143 : Int → Option (Int × MM)) (y1 y2 y3 y4 s0 : Int) (m : MM) : Option (Int × MM) := if s0 = 0 then
lx (w32 (y3 + 1)) fun x_111 =>
c y2 x_111
else
lx (w32 (y3 + 1)) fun x_128 =>
c y4 x_128
set_option maxHeartbeats 4000000 in
theorem oj_X12_poll_123 {xs : List Int32} {d : Nat} {S : QS} {L : QL} {Q : QO → QS → Prop} {m : MM} {y1 y2 y3 y4 s0 : Int} {v0 : Value} {v1 : Value} {v2 : Value} {v3 : Value} {v4 : Value} {w0 : Value}  {rz : Int} {rm : MM} {c : Int → Int → Option (Int × MM)} {k143 : Int → Option (Int × MM)} 
  (hd : 3 ≤ d) (R : Rp S m) (l0 : q_lo L 0 = some v0) (f0 : q_is 2 v0 68) (l1 : q_lo L 1 = some v1) (f1 : q_is 0 v1 y1) (l2 : q_lo L 2 = some v2) (f2 : q_is 0 v2 y2) (l3 : q_lo L 3 = some v3) (f3 : q_is 0 v3 y3) (l4 : q_lo L 4 = some v4) (f4 : q_is 0 v4 y4) (fs0 : q_is 0 w0 s0)
  (hc : ∀ {z2 : Int} {z3 : Int} {Sq : QS} {Lq : QL} {u0 : Value} {u1 : Value} {u2 : Value} {u3 : Value}, c z2 z3 = some (rz, rm) → Rp Sq m → q_lo Lq 0 = some u0 → q_is 2 u0 68 → q_lo Lq 1 = some u1 → q_is 0 u1 y1 → q_lo Lq 2 = some u2 → q_is 0 u2 z2 → q_lo Lq 3 = some u3 → q_is 0 u3 z3 → Go xs d qM_X12_poll 25 Lq [] Sq Q)
  (hk143 : ∀ {z2 : Int} {Sq : QS} {Lq : QL} {u0 : Value} {u1 : Value} {u2 : Value}, k143 z2 = some (rz, rm) → Rp Sq m → q_lo Lq 0 = some u0 → q_is 2 u0 68 → q_lo Lq 1 = some u1 → q_is 0 u1 y1 → q_lo Lq 2 = some u2 → q_is 0 u2 z2 → Go xs d qM_X12_poll 143 Lq [] Sq Q)
  (hQ : Ext m rm → ∀ o S1, Rp S1 rm → q_out 0 o rz → Q o S1)
  (h : fj_X12_poll_123 c k143 y1 y2 y3 y4 s0 m = some (rz, rm)) : Go xs d qM_X12_poll 123 L [w0] S Q := by
  unfold fj_X12_poll_123 at h
  refine go_istore (n := 6) (by decide +kernel) (by decide +kernel) fs0 fun L_91 l_92 kp_93 => ?_
  have l_94 := kp_93 0 _ l0 (by decide) (Or.inl (by decide))
  have l_95 := kp_93 1 _ l1 (by decide) (Or.inl (by decide))
  have l_96 := kp_93 2 _ l2 (by decide) (Or.inl (by decide))
  have l_97 := kp_93 3 _ l3 (by decide) (Or.inl (by decide))
  have l_98 := kp_93 4 _ l4 (by decide) (Or.inl (by decide))
  refine go_iload (n := 6) (by decide +kernel) l_92 fs0 ?_
  refine go_if (c := .eq) (o := 8) (t := 135) (P := s0 = 0) (by decide +kernel) (by decide +kernel) fs0 (Iff.rfl) (fun hp_99 => ?_) (fun hp_99 => ?_)
  · have h := it_t hp_99 h
    refine go_iload_n (n := 2) (by decide +kernel) l_96 f2 ?_
    refine go_istore_n (n := 2) (by decide +kernel) (by decide +kernel) f2 fun L_100 l_101 kp_102 => ?_
    have l_103 := kp_102 0 _ l_94 (by decide) (Or.inl (by decide))
    have l_104 := kp_102 1 _ l_95 (by decide) (Or.inr (q_is_cat f1 (Or.inl rfl)))
    have l_105 := kp_102 3 _ l_97 (by decide) (Or.inl (by decide))
    refine go_iinc (n := 3) (c := 1) (c' := 1) (by decide +kernel) (by decide +kernel) l_105 f3 (by decide) fun L_106 v_107 f_108 l_109 kp_110 => ?_
    obtain ⟨x_111, e_112, h⟩ := lx_s h
    have f_113 := q_is_eq f_108 e_112
    have l_114 := kp_110 0 _ l_103 (by decide) (Or.inl (by decide))
    have l_115 := kp_110 1 _ l_104 (by decide) (Or.inl (by decide))
    have l_116 := kp_110 2 _ l_101 (by decide) (Or.inr (q_is_cat f2 (Or.inl rfl)))
    refine go_goto (o := (-115)) (t := 25) (by decide +kernel) (by decide +kernel) ?_
    exact hc h R l_114 f0 l_115 f1 l_116 f2 l_109 f_113
  · have h := it_f hp_99 h
    refine go_iload (n := 4) (by decide +kernel) l_98 f4 ?_
    refine go_goto (o := 4) (t := 136) (by decide +kernel) (by decide +kernel) ?_
    refine go_istore_n (n := 2) (by decide +kernel) (by decide +kernel) f4 fun L_117 l_118 kp_119 => ?_
    have l_120 := kp_119 0 _ l_94 (by decide) (Or.inl (by decide))
    have l_121 := kp_119 1 _ l_95 (by decide) (Or.inr (q_is_cat f1 (Or.inl rfl)))
    have l_122 := kp_119 3 _ l_97 (by decide) (Or.inl (by decide))
    refine go_iinc (n := 3) (c := 1) (c' := 1) (by decide +kernel) (by decide +kernel) l_122 f3 (by decide) fun L_123 v_124 f_125 l_126 kp_127 => ?_
    obtain ⟨x_128, e_129, h⟩ := lx_s h
    have f_130 := q_is_eq f_125 e_129
    have l_131 := kp_127 0 _ l_120 (by decide) (Or.inl (by decide))
    have l_132 := kp_127 1 _ l_121 (by decide) (Or.inl (by decide))
    have l_133 := kp_127 2 _ l_118 (by decide) (Or.inr (q_is_cat f4 (Or.inl rfl)))
    refine go_goto (o := (-115)) (t := 25) (by decide +kernel) (by decide +kernel) ?_
    exact hc h R l_131 f0 l_132 f1 l_133 f4 l_126 f_130
noncomputable def fj_X12_poll_68 (c : Int → Int → Option (Int × MM)) (k143 : Int → Option (Int × MM)) (y1 y2 y3 y4 s0 : Int) (m : MM) : Option (Int × MM) := if s0 = 0 then
fj_X12_poll_123 c k143 y1 y2 y3 y4 0 m
else
if y2 = (-1) then
fj_X12_poll_123 c k143 y1 y2 y3 y4 1 m
else
gd (0 ≤ y4 ∧ y4 < 3) <| lx (m 121 y4) fun x_146 =>
gd (0 ≤ y2 ∧ y2 < 3) <| lx (m 121 y2) fun x_155 =>
if x_146 < x_155 then
fj_X12_poll_123 c k143 y1 y2 y3 y4 1 m
else
if x_146 = x_155 then
if y4 < y2 then
fj_X12_poll_123 c k143 y1 y2 y3 y4 1 m
else
fj_X12_poll_123 c k143 y1 y2 y3 y4 0 m
else
fj_X12_poll_123 c k143 y1 y2 y3 y4 0 m
set_option maxHeartbeats 4000000 in
theorem oj_X12_poll_68 {xs : List Int32} {d : Nat} {S : QS} {L : QL} {Q : QO → QS → Prop} {m : MM} {y1 y2 y3 y4 s0 : Int} {v0 : Value} {v1 : Value} {v2 : Value} {v3 : Value} {v4 : Value} {w0 : Value}  {rz : Int} {rm : MM} {c : Int → Int → Option (Int × MM)} {k143 : Int → Option (Int × MM)} 
  (hd : 3 ≤ d) (R : Rp S m) (l0 : q_lo L 0 = some v0) (f0 : q_is 2 v0 68) (l1 : q_lo L 1 = some v1) (f1 : q_is 0 v1 y1) (l2 : q_lo L 2 = some v2) (f2 : q_is 0 v2 y2) (l3 : q_lo L 3 = some v3) (f3 : q_is 0 v3 y3) (l4 : q_lo L 4 = some v4) (f4 : q_is 0 v4 y4) (fs0 : q_is 0 w0 s0)
  (hc : ∀ {z2 : Int} {z3 : Int} {Sq : QS} {Lq : QL} {u0 : Value} {u1 : Value} {u2 : Value} {u3 : Value}, c z2 z3 = some (rz, rm) → Rp Sq m → q_lo Lq 0 = some u0 → q_is 2 u0 68 → q_lo Lq 1 = some u1 → q_is 0 u1 y1 → q_lo Lq 2 = some u2 → q_is 0 u2 z2 → q_lo Lq 3 = some u3 → q_is 0 u3 z3 → Go xs d qM_X12_poll 25 Lq [] Sq Q)
  (hk143 : ∀ {z2 : Int} {Sq : QS} {Lq : QL} {u0 : Value} {u1 : Value} {u2 : Value}, k143 z2 = some (rz, rm) → Rp Sq m → q_lo Lq 0 = some u0 → q_is 2 u0 68 → q_lo Lq 1 = some u1 → q_is 0 u1 y1 → q_lo Lq 2 = some u2 → q_is 0 u2 z2 → Go xs d qM_X12_poll 143 Lq [] Sq Q)
  (hQ : Ext m rm → ∀ o S1, Rp S1 rm → q_out 0 o rz → Q o S1)
  (h : fj_X12_poll_68 c k143 y1 y2 y3 y4 s0 m = some (rz, rm)) : Go xs d qM_X12_poll 68 L [w0] S Q := by
  unfold fj_X12_poll_68 at h
  refine go_istore (n := 5) (by decide +kernel) (by decide +kernel) fs0 fun L_80 l_81 kp_82 => ?_
  have l_83 := kp_82 0 _ l0 (by decide) (Or.inl (by decide))
  have l_84 := kp_82 1 _ l1 (by decide) (Or.inl (by decide))
  have l_85 := kp_82 2 _ l2 (by decide) (Or.inl (by decide))
  have l_86 := kp_82 3 _ l3 (by decide) (Or.inl (by decide))
  have l_87 := kp_82 4 _ l4 (by decide) (Or.inr (q_is_cat f4 (Or.inl rfl)))
  refine go_iload (n := 5) (by decide +kernel) l_81 fs0 ?_
  refine go_if (c := .eq) (o := 50) (t := 122) (P := s0 = 0) (by decide +kernel) (by decide +kernel) fs0 (Iff.rfl) (fun hp_88 => ?_) (fun hp_88 => ?_)
  · have h := it_t hp_88 h
    refine go_iconst (n := 0) (z := 0) (by decide +kernel) (by decide) fun v_89 f_90 => ?_
    exact oj_X12_poll_123 hd R l_83 f0 l_84 f1 l_85 f2 l_86 f3 l_87 f4 f_90 hc hk143 hQ h
  · have h := it_f hp_88 h
    refine go_iload_n (n := 2) (by decide +kernel) l_85 f2 ?_
    refine go_iconst (n := (-1)) (z := (-1)) (by decide +kernel) (by decide) fun v_134 f_135 => ?_
    refine go_icmp (c := .eq) (o := 41) (t := 118) (P := y2 = (-1)) (by decide +kernel) (by decide +kernel) f2 f_135 (Iff.rfl) (fun hp_136 => ?_) (fun hp_136 => ?_)
    · have h := it_t hp_136 h
      refine go_iconst (n := 1) (z := 1) (by decide +kernel) (by decide) fun v_137 f_138 => ?_
      refine go_goto (o := 4) (t := 123) (by decide +kernel) (by decide +kernel) ?_
      exact oj_X12_poll_123 hd R l_83 f0 l_84 f1 l_85 f2 l_86 f3 l_87 f4 f_138 hc hk143 hQ h
    · have h := it_f hp_136 h
      refine go_aload_n (n := 0) (by decide +kernel) l_83 f0 ?_
      refine go_getf (x := 177) (ci := 13) (kf := 61) (fin := 1) (t := 2) (by decide +kernel) (by decide +kernel) (by decide +kernel) R f0 (fx_k (c := 13) R (by decide +kernel)) fun v_139 f_140 => ?_
      have f_141 := q_is_eq (b := 121) f_140 (fx_v R (by decide +kernel)).symm
      refine go_iload (n := 4) (by decide +kernel) l_87 f4 ?_
      obtain ⟨g_144, h⟩ := gd_s h
      obtain ⟨x_146, e_147, h⟩ := lx_s h
      refine go_iald (kd := 100) (by decide +kernel) rfl R f_141 f4 (fx_k (c := 100) R (by decide +kernel)) (fx_x (a := 121) (ln := 3) R (by decide +kernel) g_144) fun v_142 f_143 => ?_
      have f_145 := q_is_eq f_143 e_147
      refine go_aload_n (n := 0) (by decide +kernel) l_83 f0 ?_
      refine go_getf (x := 177) (ci := 13) (kf := 61) (fin := 1) (t := 2) (by decide +kernel) (by decide +kernel) (by decide +kernel) R f0 (fx_k (c := 13) R (by decide +kernel)) fun v_148 f_149 => ?_
      have f_150 := q_is_eq (b := 121) f_149 (fx_v R (by decide +kernel)).symm
      refine go_iload_n (n := 2) (by decide +kernel) l_85 f2 ?_
      obtain ⟨g_153, h⟩ := gd_s h
      obtain ⟨x_155, e_156, h⟩ := lx_s h
      refine go_iald (kd := 100) (by decide +kernel) rfl R f_150 f2 (fx_k (c := 100) R (by decide +kernel)) (fx_x (a := 121) (ln := 3) R (by decide +kernel) g_153) fun v_151 f_152 => ?_
      have f_154 := q_is_eq f_152 e_156
      refine go_icmp (c := .lt) (o := 25) (t := 118) (P := x_146 < x_155) (by decide +kernel) (by decide +kernel) f_145 f_154 (Iff.rfl) (fun hp_157 => ?_) (fun hp_157 => ?_)
      · have h := it_t hp_157 h
        refine go_iconst (n := 1) (z := 1) (by decide +kernel) (by decide) fun v_158 f_159 => ?_
        refine go_goto (o := 4) (t := 123) (by decide +kernel) (by decide +kernel) ?_
        exact oj_X12_poll_123 hd R l_83 f0 l_84 f1 l_85 f2 l_86 f3 l_87 f4 f_159 hc hk143 hQ h
      · have h := it_f hp_157 h
        refine go_aload_n (n := 0) (by decide +kernel) l_83 f0 ?_
        refine go_getf (x := 177) (ci := 13) (kf := 61) (fin := 1) (t := 2) (by decide +kernel) (by decide +kernel) (by decide +kernel) R f0 (fx_k (c := 13) R (by decide +kernel)) fun v_160 f_161 => ?_
        have f_162 := q_is_eq (b := 121) f_161 (fx_v R (by decide +kernel)).symm
        refine go_iload (n := 4) (by decide +kernel) l_87 f4 ?_
        refine go_iald (kd := 100) (by decide +kernel) rfl R f_162 f4 (fx_k (c := 100) R (by decide +kernel)) (fx_x (a := 121) (ln := 3) R (by decide +kernel) g_144) fun v_163 f_164 => ?_
        have f_165 := q_is_eq f_164 e_147
        refine go_aload_n (n := 0) (by decide +kernel) l_83 f0 ?_
        refine go_getf (x := 177) (ci := 13) (kf := 61) (fin := 1) (t := 2) (by decide +kernel) (by decide +kernel) (by decide +kernel) R f0 (fx_k (c := 13) R (by decide +kernel)) fun v_166 f_167 => ?_
        have f_168 := q_is_eq (b := 121) f_167 (fx_v R (by decide +kernel)).symm
        refine go_iload_n (n := 2) (by decide +kernel) l_85 f2 ?_
        refine go_iald (kd := 100) (by decide +kernel) rfl R f_168 f2 (fx_k (c := 100) R (by decide +kernel)) (fx_x (a := 121) (ln := 3) R (by decide +kernel) g_153) fun v_169 f_170 => ?_
        have f_171 := q_is_eq f_170 e_156
        refine go_icmp (c := .ne) (o := 13) (t := 122) (P := ¬ (x_146 = x_155)) (by decide +kernel) (by decide +kernel) f_165 f_171 (Iff.rfl) (fun hp_172 => ?_) (fun hp_172 => ?_)
        · have h := it_f hp_172 h
          refine go_iconst (n := 0) (z := 0) (by decide +kernel) (by decide) fun v_173 f_174 => ?_
          exact oj_X12_poll_123 hd R l_83 f0 l_84 f1 l_85 f2 l_86 f3 l_87 f4 f_174 hc hk143 hQ h
        · have h := it_n hp_172 h
          refine go_iload (n := 4) (by decide +kernel) l_87 f4 ?_
          refine go_iload_n (n := 2) (by decide +kernel) l_85 f2 ?_
          refine go_icmp (c := .ge) (o := 7) (t := 122) (P := ¬ (y4 < y2)) (by decide +kernel) (by decide +kernel) f4 f2 (Int.not_lt.symm) (fun hp_175 => ?_) (fun hp_175 => ?_)
          · have h := it_f hp_175 h
            refine go_iconst (n := 0) (z := 0) (by decide +kernel) (by decide) fun v_176 f_177 => ?_
            exact oj_X12_poll_123 hd R l_83 f0 l_84 f1 l_85 f2 l_86 f3 l_87 f4 f_177 hc hk143 hQ h
          · have h := it_n hp_175 h
            refine go_iconst (n := 1) (z := 1) (by decide +kernel) (by decide) fun v_178 f_179 => ?_
            refine go_goto (o := 4) (t := 123) (by decide +kernel) (by decide +kernel) ?_
            exact oj_X12_poll_123 hd R l_83 f0 l_84 f1 l_85 f2 l_86 f3 l_87 f4 f_179 hc hk143 hQ h
noncomputable def fl_X12_poll_25 (y1 : Int) (m : MM) (k143 : Int → Option (Int × MM)) : Nat → Int → Int → Option (Int × MM)
  | 0, _, _ => none
  | n + 1, y2, y3 => lx (m 68 12) fun x_44 =>
if y3 < x_44 then
gd (0 ≤ y3 ∧ y3 < 30) <| lx (m 81 y3) fun x_54 =>
gd (0 ≤ x_54 ∧ x_54 < 3) <| lx (m 120 x_54) fun x_70 =>
lx (m 68 50) fun x_75 =>
if x_70 < x_75 then
bp (fm_X12_isReady y3 m) fun x_181 =>
if x_181 = 0 then
fj_X12_poll_68 (fl_X12_poll_25 y1 m k143 n) k143 y1 y2 y3 x_54 0 m
else
fj_X12_poll_68 (fl_X12_poll_25 y1 m k143 n) k143 y1 y2 y3 x_54 1 m
else
fj_X12_poll_68 (fl_X12_poll_25 y1 m k143 n) k143 y1 y2 y3 x_54 0 m
else
k143 y2
set_option maxHeartbeats 4000000 in
theorem ol_X12_poll_25 {xs : List Int32} {d : Nat} {Q : QO → QS → Prop} {m : MM} {y1 : Int} {k143 : Int → Option (Int × MM)} {rz : Int} {rm : MM}
  (hd : 3 ≤ d)
  (hk143 : ∀ {z2 : Int} {Sq : QS} {Lq : QL} {u0 : Value} {u1 : Value} {u2 : Value}, k143 z2 = some (rz, rm) → Rp Sq m → q_lo Lq 0 = some u0 → q_is 2 u0 68 → q_lo Lq 1 = some u1 → q_is 0 u1 y1 → q_lo Lq 2 = some u2 → q_is 0 u2 z2 → Go xs d qM_X12_poll 143 Lq [] Sq Q)
  (hQ : Ext m rm → ∀ o S1, Rp S1 rm → q_out 0 o rz → Q o S1) :
  ∀ (n : Nat) {S : QS} {L : QL} {y2 y3 : Int} {v0 : Value} {v1 : Value} {v2 : Value} {v3 : Value} , fl_X12_poll_25 y1 m k143 n y2 y3 = some (rz, rm) → Rp S m → q_lo L 0 = some v0 → q_is 2 v0 68 → q_lo L 1 = some v1 → q_is 0 v1 y1 → q_lo L 2 = some v2 → q_is 0 v2 y2 → q_lo L 3 = some v3 → q_is 0 v3 y3 → Go xs d qM_X12_poll 25 L [] S Q := by
  intro n
  induction n with
  | zero => intro S L y2 y3 v0 v1 v2 v3; intro h R l0 f0 l1 f1 l2 f2 l3 f3; cases h
  | succ n ih0 =>
    intro S L y2 y3 v0 v1 v2 v3; intro h R l0 f0 l1 f1 l2 f2 l3 f3
    have ih : ∀ {z2 : Int} {z3 : Int} {Sq : QS} {Lq : QL} {u0 : Value} {u1 : Value} {u2 : Value} {u3 : Value}, fl_X12_poll_25 y1 m k143 n z2 z3 = some (rz, rm) → Rp Sq m → q_lo Lq 0 = some u0 → q_is 2 u0 68 → q_lo Lq 1 = some u1 → q_is 0 u1 y1 → q_lo Lq 2 = some u2 → q_is 0 u2 z2 → q_lo Lq 3 = some u3 → q_is 0 u3 z3 → Go xs d qM_X12_poll 25 Lq [] Sq Q := by intros; exact ih0 ‹_› ‹_› ‹_› ‹_› ‹_› ‹_› ‹_› ‹_› ‹_› ‹_›
    unfold fl_X12_poll_25 at h
    refine go_iload_n (n := 3) (by decide +kernel) l3 f3 ?_
    refine go_aload_n (n := 0) (by decide +kernel) l0 f0 ?_
    obtain ⟨x_44, e_45, h⟩ := lx_s h
    refine go_getf (x := 310) (ci := 13) (kf := 12) (fin := 0) (t := 0) (by decide +kernel) (by decide +kernel) (by decide +kernel) R f0 (fx_k (c := 13) R (by decide +kernel)) fun v_41 f_42 => ?_
    have f_43 := q_is_eq f_42 e_45
    refine go_icmp (c := .ge) (o := 113) (t := 143) (P := ¬ (y3 < x_44)) (by decide +kernel) (by decide +kernel) f3 f_43 (Int.not_lt.symm) (fun hp_46 => ?_) (fun hp_46 => ?_)
    · have h := it_f hp_46 h
      exact hk143 h R l0 f0 l1 f1 l2 f2
    · have h := it_n hp_46 h
      refine go_aload_n (n := 0) (by decide +kernel) l0 f0 ?_
      refine go_getf (x := 46) (ci := 13) (kf := 14) (fin := 1) (t := 2) (by decide +kernel) (by decide +kernel) (by decide +kernel) R f0 (fx_k (c := 13) R (by decide +kernel)) fun v_47 f_48 => ?_
      have f_49 := q_is_eq (b := 81) f_48 (fx_v R (by decide +kernel)).symm
      refine go_iload_n (n := 3) (by decide +kernel) l3 f3 ?_
      obtain ⟨g_52, h⟩ := gd_s h
      obtain ⟨x_54, e_55, h⟩ := lx_s h
      refine go_iald (kd := 100) (by decide +kernel) rfl R f_49 f3 (fx_k (c := 100) R (by decide +kernel)) (fx_x (a := 81) (ln := 30) R (by decide +kernel) g_52) fun v_50 f_51 => ?_
      have f_53 := q_is_eq f_51 e_55
      refine go_istore (n := 4) (by decide +kernel) (by decide +kernel) f_53 fun L_56 l_57 kp_58 => ?_
      have l_59 := kp_58 0 _ l0 (by decide) (Or.inl (by decide))
      have l_60 := kp_58 1 _ l1 (by decide) (Or.inl (by decide))
      have l_61 := kp_58 2 _ l2 (by decide) (Or.inl (by decide))
      have l_62 := kp_58 3 _ l3 (by decide) (Or.inr (q_is_cat f3 (Or.inl rfl)))
      refine go_aload_n (n := 0) (by decide +kernel) l_59 f0 ?_
      refine go_getf (x := 174) (ci := 13) (kf := 60) (fin := 1) (t := 2) (by decide +kernel) (by decide +kernel) (by decide +kernel) R f0 (fx_k (c := 13) R (by decide +kernel)) fun v_63 f_64 => ?_
      have f_65 := q_is_eq (b := 120) f_64 (fx_v R (by decide +kernel)).symm
      refine go_iload (n := 4) (by decide +kernel) l_57 f_53 ?_
      obtain ⟨g_68, h⟩ := gd_s h
      obtain ⟨x_70, e_71, h⟩ := lx_s h
      refine go_iald (kd := 100) (by decide +kernel) rfl R f_65 f_53 (fx_k (c := 100) R (by decide +kernel)) (fx_x (a := 120) (ln := 3) R (by decide +kernel) g_68) fun v_66 f_67 => ?_
      have f_69 := q_is_eq f_67 e_71
      refine go_aload_n (n := 0) (by decide +kernel) l_59 f0 ?_
      obtain ⟨x_75, e_76, h⟩ := lx_s h
      refine go_getf (x := 146) (ci := 13) (kf := 50) (fin := 0) (t := 0) (by decide +kernel) (by decide +kernel) (by decide +kernel) R f0 (fx_k (c := 13) R (by decide +kernel)) fun v_72 f_73 => ?_
      have f_74 := q_is_eq f_73 e_76
      refine go_icmp (c := .ge) (o := 15) (t := 67) (P := ¬ (x_70 < x_75)) (by decide +kernel) (by decide +kernel) f_69 f_74 (Int.not_lt.symm) (fun hp_77 => ?_) (fun hp_77 => ?_)
      · have h := it_f hp_77 h
        refine go_iconst (n := 0) (z := 0) (by decide +kernel) (by decide) fun v_78 f_79 => ?_
        exact oj_X12_poll_68 hd R l_59 f0 l_60 f1 l_61 f2 l_62 f3 l_57 f_53 f_79 ih hk143 hQ h
      · have h := it_n hp_77 h
        refine go_aload_n (n := 0) (by decide +kernel) l_59 f0 ?_
        refine go_iload_n (n := 3) (by decide +kernel) l_62 f3 ?_
        obtain ⟨x_181, hc_180, h⟩ := bp_s h
        refine go_callV (x := 608) (mi := 273) (n := 1) (ci := 13) (as := [v3]) (rest := []) (by decide +kernel) (by decide +kernel) rfl rfl (q_sum8 _ (Nat.le_of_ble_eq_true rfl)) R f0 (fx_k (c := 13) R (by decide +kernel)) (om_X12_isReady (Nat.le_trans (by decide) hd) R f0 f3 hc_180) (fun _ S_185 q_188 => ?_) (fun _ _ qq => kr_x qq)
        refine kr_z (by decide) q_188 fun v_183 f_184 R_186 E_187 => ?_
        refine go_if (c := .eq) (o := 7) (t := 67) (P := x_181 = 0) (by decide +kernel) (by decide +kernel) f_184 (Iff.rfl) (fun hp_189 => ?_) (fun hp_189 => ?_)
        · have h := it_t hp_189 h
          refine go_iconst (n := 0) (z := 0) (by decide +kernel) (by decide) fun v_190 f_191 => ?_
          exact oj_X12_poll_68 hd R_186 l_59 f0 l_60 f1 l_61 f2 l_62 f3 l_57 f_53 f_191 ih hk143 hQ h
        · have h := it_f hp_189 h
          refine go_iconst (n := 1) (z := 1) (by decide +kernel) (by decide) fun v_192 f_193 => ?_
          refine go_goto (o := 4) (t := 68) (by decide +kernel) (by decide +kernel) ?_
          exact oj_X12_poll_68 hd R_186 l_59 f0 l_60 f1 l_61 f2 l_62 f3 l_57 f_53 f_193 ih hk143 hQ h
noncomputable def fj_X12_poll_187 (c : Int → Int → Option (Int × MM)) (k226 : Int → Option (Int × MM)) (y1 y2 y3 y4 s0 : Int) (m : MM) : Option (Int × MM) := if s0 = 0 then
lx (w32 (y4 + 1)) fun x_266 =>
c y3 x_266
else
if y3 = (-1) then
lx (w32 (y4 + 1)) fun x_288 =>
c y4 x_288
else
bp (fm_X12_firstOrder y4 m) fun x_296 =>
bp (fm_X12_firstOrder y3 m) fun x_305 =>
if x_296 < x_305 then
lx (w32 (y4 + 1)) fun x_345 =>
c y4 x_345
else
lx (w32 (y4 + 1)) fun x_326 =>
c y3 x_326
set_option maxHeartbeats 4000000 in
theorem oj_X12_poll_187 {xs : List Int32} {d : Nat} {S : QS} {L : QL} {Q : QO → QS → Prop} {m : MM} {y1 y2 y3 y4 s0 : Int} {v0 : Value} {v1 : Value} {v2 : Value} {v3 : Value} {v4 : Value} {w0 : Value}  {rz : Int} {rm : MM} {c : Int → Int → Option (Int × MM)} {k226 : Int → Option (Int × MM)} 
  (hd : 3 ≤ d) (R : Rp S m) (l0 : q_lo L 0 = some v0) (f0 : q_is 2 v0 68) (l1 : q_lo L 1 = some v1) (f1 : q_is 0 v1 y1) (l2 : q_lo L 2 = some v2) (f2 : q_is 0 v2 y2) (l3 : q_lo L 3 = some v3) (f3 : q_is 0 v3 y3) (l4 : q_lo L 4 = some v4) (f4 : q_is 0 v4 y4) (fs0 : q_is 0 w0 s0)
  (hc : ∀ {z3 : Int} {z4 : Int} {Sq : QS} {Lq : QL} {u0 : Value} {u1 : Value} {u2 : Value} {u3 : Value} {u4 : Value}, c z3 z4 = some (rz, rm) → Rp Sq m → q_lo Lq 0 = some u0 → q_is 2 u0 68 → q_lo Lq 1 = some u1 → q_is 0 u1 y1 → q_lo Lq 2 = some u2 → q_is 0 u2 y2 → q_lo Lq 3 = some u3 → q_is 0 u3 z3 → q_lo Lq 4 = some u4 → q_is 0 u4 z4 → Go xs d qM_X12_poll 148 Lq [] Sq Q)
  (hk226 : ∀ {z3 : Int} {Sq : QS} {Lq : QL} {u0 : Value} {u1 : Value} {u2 : Value} {u3 : Value}, k226 z3 = some (rz, rm) → Rp Sq m → q_lo Lq 0 = some u0 → q_is 2 u0 68 → q_lo Lq 1 = some u1 → q_is 0 u1 y1 → q_lo Lq 2 = some u2 → q_is 0 u2 y2 → q_lo Lq 3 = some u3 → q_is 0 u3 z3 → Go xs d qM_X12_poll 226 Lq [] Sq Q)
  (hQ : Ext m rm → ∀ o S1, Rp S1 rm → q_out 0 o rz → Q o S1)
  (h : fj_X12_poll_187 c k226 y1 y2 y3 y4 s0 m = some (rz, rm)) : Go xs d qM_X12_poll 187 L [w0] S Q := by
  unfold fj_X12_poll_187 at h
  refine go_istore (n := 5) (by decide +kernel) (by decide +kernel) fs0 fun L_245 l_246 kp_247 => ?_
  have l_248 := kp_247 0 _ l0 (by decide) (Or.inl (by decide))
  have l_249 := kp_247 1 _ l1 (by decide) (Or.inl (by decide))
  have l_250 := kp_247 2 _ l2 (by decide) (Or.inl (by decide))
  have l_251 := kp_247 3 _ l3 (by decide) (Or.inl (by decide))
  have l_252 := kp_247 4 _ l4 (by decide) (Or.inr (q_is_cat f4 (Or.inl rfl)))
  refine go_iload (n := 5) (by decide +kernel) l_246 fs0 ?_
  refine go_if (c := .eq) (o := 27) (t := 218) (P := s0 = 0) (by decide +kernel) (by decide +kernel) fs0 (Iff.rfl) (fun hp_253 => ?_) (fun hp_253 => ?_)
  · have h := it_t hp_253 h
    refine go_iload_n (n := 3) (by decide +kernel) l_251 f3 ?_
    refine go_istore_n (n := 3) (by decide +kernel) (by decide +kernel) f3 fun L_254 l_255 kp_256 => ?_
    have l_257 := kp_256 0 _ l_248 (by decide) (Or.inl (by decide))
    have l_258 := kp_256 1 _ l_249 (by decide) (Or.inl (by decide))
    have l_259 := kp_256 2 _ l_250 (by decide) (Or.inr (q_is_cat f2 (Or.inl rfl)))
    have l_260 := kp_256 4 _ l_252 (by decide) (Or.inl (by decide))
    refine go_iinc (n := 4) (c := 1) (c' := 1) (by decide +kernel) (by decide +kernel) l_260 f4 (by decide) fun L_261 v_262 f_263 l_264 kp_265 => ?_
    obtain ⟨x_266, e_267, h⟩ := lx_s h
    have f_268 := q_is_eq f_263 e_267
    have l_269 := kp_265 0 _ l_257 (by decide) (Or.inl (by decide))
    have l_270 := kp_265 1 _ l_258 (by decide) (Or.inl (by decide))
    have l_271 := kp_265 2 _ l_259 (by decide) (Or.inl (by decide))
    have l_272 := kp_265 3 _ l_255 (by decide) (Or.inr (q_is_cat f3 (Or.inl rfl)))
    refine go_goto (o := (-75)) (t := 148) (by decide +kernel) (by decide +kernel) ?_
    exact hc h R l_269 f0 l_270 f1 l_271 f2 l_272 f3 l_264 f_268
  · have h := it_f hp_253 h
    refine go_iload_n (n := 3) (by decide +kernel) l_251 f3 ?_
    refine go_iconst (n := (-1)) (z := (-1)) (by decide +kernel) (by decide) fun v_273 f_274 => ?_
    refine go_icmp (c := .eq) (o := 17) (t := 213) (P := y3 = (-1)) (by decide +kernel) (by decide +kernel) f3 f_274 (Iff.rfl) (fun hp_275 => ?_) (fun hp_275 => ?_)
    · have h := it_t hp_275 h
      refine go_iload (n := 4) (by decide +kernel) l_252 f4 ?_
      refine go_goto (o := 4) (t := 219) (by decide +kernel) (by decide +kernel) ?_
      refine go_istore_n (n := 3) (by decide +kernel) (by decide +kernel) f4 fun L_276 l_277 kp_278 => ?_
      have l_279 := kp_278 0 _ l_248 (by decide) (Or.inl (by decide))
      have l_280 := kp_278 1 _ l_249 (by decide) (Or.inl (by decide))
      have l_281 := kp_278 2 _ l_250 (by decide) (Or.inr (q_is_cat f2 (Or.inl rfl)))
      have l_282 := kp_278 4 _ l_252 (by decide) (Or.inl (by decide))
      refine go_iinc (n := 4) (c := 1) (c' := 1) (by decide +kernel) (by decide +kernel) l_282 f4 (by decide) fun L_283 v_284 f_285 l_286 kp_287 => ?_
      obtain ⟨x_288, e_289, h⟩ := lx_s h
      have f_290 := q_is_eq f_285 e_289
      have l_291 := kp_287 0 _ l_279 (by decide) (Or.inl (by decide))
      have l_292 := kp_287 1 _ l_280 (by decide) (Or.inl (by decide))
      have l_293 := kp_287 2 _ l_281 (by decide) (Or.inl (by decide))
      have l_294 := kp_287 3 _ l_277 (by decide) (Or.inr (q_is_cat f4 (Or.inl rfl)))
      refine go_goto (o := (-75)) (t := 148) (by decide +kernel) (by decide +kernel) ?_
      exact hc h R l_291 f0 l_292 f1 l_293 f2 l_294 f4 l_286 f_290
    · have h := it_f hp_275 h
      refine go_aload_n (n := 0) (by decide +kernel) l_248 f0 ?_
      refine go_iload (n := 4) (by decide +kernel) l_252 f4 ?_
      obtain ⟨x_296, hc_295, h⟩ := bp_s h
      refine go_callV (x := 611) (mi := 274) (n := 1) (ci := 13) (as := [v4]) (rest := []) (by decide +kernel) (by decide +kernel) rfl rfl (q_sum8 _ (Nat.le_of_ble_eq_true rfl)) R f0 (fx_k (c := 13) R (by decide +kernel)) (om_X12_firstOrder (Nat.le_trans (by decide) hd) R f0 f4 hc_295) (fun _ S_300 q_303 => ?_) (fun _ _ qq => kr_x qq)
      refine kr_z (by decide) q_303 fun v_298 f_299 R_301 E_302 => ?_
      refine go_aload_n (n := 0) (by decide +kernel) l_248 f0 ?_
      refine go_iload_n (n := 3) (by decide +kernel) l_251 f3 ?_
      obtain ⟨x_305, hc_304, h⟩ := bp_s h
      refine go_callV (x := 611) (mi := 274) (n := 1) (ci := 13) (as := [v3]) (rest := [v_298]) (by decide +kernel) (by decide +kernel) rfl rfl (q_sum8 _ (Nat.le_of_ble_eq_true rfl)) R_301 f0 (fx_k (c := 13) R_301 (by decide +kernel)) (om_X12_firstOrder (Nat.le_trans (by decide) hd) R_301 f0 f3 hc_304) (fun _ S_309 q_312 => ?_) (fun _ _ qq => kr_x qq)
      refine kr_z (by decide) q_312 fun v_307 f_308 R_310 E_311 => ?_
      refine go_icmp (c := .ge) (o := 8) (t := 218) (P := ¬ (x_296 < x_305)) (by decide +kernel) (by decide +kernel) f_299 f_308 (Int.not_lt.symm) (fun hp_313 => ?_) (fun hp_313 => ?_)
      · have h := it_f hp_313 h
        refine go_iload_n (n := 3) (by decide +kernel) l_251 f3 ?_
        refine go_istore_n (n := 3) (by decide +kernel) (by decide +kernel) f3 fun L_314 l_315 kp_316 => ?_
        have l_317 := kp_316 0 _ l_248 (by decide) (Or.inl (by decide))
        have l_318 := kp_316 1 _ l_249 (by decide) (Or.inl (by decide))
        have l_319 := kp_316 2 _ l_250 (by decide) (Or.inr (q_is_cat f2 (Or.inl rfl)))
        have l_320 := kp_316 4 _ l_252 (by decide) (Or.inl (by decide))
        refine go_iinc (n := 4) (c := 1) (c' := 1) (by decide +kernel) (by decide +kernel) l_320 f4 (by decide) fun L_321 v_322 f_323 l_324 kp_325 => ?_
        obtain ⟨x_326, e_327, h⟩ := lx_s h
        have f_328 := q_is_eq f_323 e_327
        have l_329 := kp_325 0 _ l_317 (by decide) (Or.inl (by decide))
        have l_330 := kp_325 1 _ l_318 (by decide) (Or.inl (by decide))
        have l_331 := kp_325 2 _ l_319 (by decide) (Or.inl (by decide))
        have l_332 := kp_325 3 _ l_315 (by decide) (Or.inr (q_is_cat f3 (Or.inl rfl)))
        refine go_goto (o := (-75)) (t := 148) (by decide +kernel) (by decide +kernel) ?_
        exact hc h R_310 l_329 f0 l_330 f1 l_331 f2 l_332 f3 l_324 f_328
      · have h := it_n hp_313 h
        refine go_iload (n := 4) (by decide +kernel) l_252 f4 ?_
        refine go_goto (o := 4) (t := 219) (by decide +kernel) (by decide +kernel) ?_
        refine go_istore_n (n := 3) (by decide +kernel) (by decide +kernel) f4 fun L_333 l_334 kp_335 => ?_
        have l_336 := kp_335 0 _ l_248 (by decide) (Or.inl (by decide))
        have l_337 := kp_335 1 _ l_249 (by decide) (Or.inl (by decide))
        have l_338 := kp_335 2 _ l_250 (by decide) (Or.inr (q_is_cat f2 (Or.inl rfl)))
        have l_339 := kp_335 4 _ l_252 (by decide) (Or.inl (by decide))
        refine go_iinc (n := 4) (c := 1) (c' := 1) (by decide +kernel) (by decide +kernel) l_339 f4 (by decide) fun L_340 v_341 f_342 l_343 kp_344 => ?_
        obtain ⟨x_345, e_346, h⟩ := lx_s h
        have f_347 := q_is_eq f_342 e_346
        have l_348 := kp_344 0 _ l_336 (by decide) (Or.inl (by decide))
        have l_349 := kp_344 1 _ l_337 (by decide) (Or.inl (by decide))
        have l_350 := kp_344 2 _ l_338 (by decide) (Or.inl (by decide))
        have l_351 := kp_344 3 _ l_334 (by decide) (Or.inr (q_is_cat f4 (Or.inl rfl)))
        refine go_goto (o := (-75)) (t := 148) (by decide +kernel) (by decide +kernel) ?_
        exact hc h R_310 l_348 f0 l_349 f1 l_350 f2 l_351 f4 l_343 f_347
noncomputable def fl_X12_poll_148 (y1 y2 : Int) (m : MM) (k226 : Int → Option (Int × MM)) : Nat → Int → Int → Option (Int × MM)
  | 0, _, _ => none
  | n + 1, y3, y4 => lx (m 68 12) fun x_227 =>
if y4 < x_227 then
if y2 = (-1) then
k226 y3
else
gd (0 ≤ y4 ∧ y4 < 30) <| lx (m 81 y4) fun x_240 =>
if x_240 = y2 then
bp (fm_X12_isReady y4 m) fun x_353 =>
if x_353 = 0 then
fj_X12_poll_187 (fl_X12_poll_148 y1 y2 m k226 n) k226 y1 y2 y3 y4 0 m
else
fj_X12_poll_187 (fl_X12_poll_148 y1 y2 m k226 n) k226 y1 y2 y3 y4 1 m
else
fj_X12_poll_187 (fl_X12_poll_148 y1 y2 m k226 n) k226 y1 y2 y3 y4 0 m
else
k226 y3
set_option maxHeartbeats 4000000 in
theorem ol_X12_poll_148 {xs : List Int32} {d : Nat} {Q : QO → QS → Prop} {m : MM} {y1 y2 : Int} {k226 : Int → Option (Int × MM)} {rz : Int} {rm : MM}
  (hd : 3 ≤ d)
  (hk226 : ∀ {z3 : Int} {Sq : QS} {Lq : QL} {u0 : Value} {u1 : Value} {u2 : Value} {u3 : Value}, k226 z3 = some (rz, rm) → Rp Sq m → q_lo Lq 0 = some u0 → q_is 2 u0 68 → q_lo Lq 1 = some u1 → q_is 0 u1 y1 → q_lo Lq 2 = some u2 → q_is 0 u2 y2 → q_lo Lq 3 = some u3 → q_is 0 u3 z3 → Go xs d qM_X12_poll 226 Lq [] Sq Q)
  (hQ : Ext m rm → ∀ o S1, Rp S1 rm → q_out 0 o rz → Q o S1) :
  ∀ (n : Nat) {S : QS} {L : QL} {y3 y4 : Int} {v0 : Value} {v1 : Value} {v2 : Value} {v3 : Value} {v4 : Value} , fl_X12_poll_148 y1 y2 m k226 n y3 y4 = some (rz, rm) → Rp S m → q_lo L 0 = some v0 → q_is 2 v0 68 → q_lo L 1 = some v1 → q_is 0 v1 y1 → q_lo L 2 = some v2 → q_is 0 v2 y2 → q_lo L 3 = some v3 → q_is 0 v3 y3 → q_lo L 4 = some v4 → q_is 0 v4 y4 → Go xs d qM_X12_poll 148 L [] S Q := by
  intro n
  induction n with
  | zero => intro S L y3 y4 v0 v1 v2 v3 v4; intro h R l0 f0 l1 f1 l2 f2 l3 f3 l4 f4; cases h
  | succ n ih0 =>
    intro S L y3 y4 v0 v1 v2 v3 v4; intro h R l0 f0 l1 f1 l2 f2 l3 f3 l4 f4
    have ih : ∀ {z3 : Int} {z4 : Int} {Sq : QS} {Lq : QL} {u0 : Value} {u1 : Value} {u2 : Value} {u3 : Value} {u4 : Value}, fl_X12_poll_148 y1 y2 m k226 n z3 z4 = some (rz, rm) → Rp Sq m → q_lo Lq 0 = some u0 → q_is 2 u0 68 → q_lo Lq 1 = some u1 → q_is 0 u1 y1 → q_lo Lq 2 = some u2 → q_is 0 u2 y2 → q_lo Lq 3 = some u3 → q_is 0 u3 z3 → q_lo Lq 4 = some u4 → q_is 0 u4 z4 → Go xs d qM_X12_poll 148 Lq [] Sq Q := by intros; exact ih0 ‹_› ‹_› ‹_› ‹_› ‹_› ‹_› ‹_› ‹_› ‹_› ‹_› ‹_› ‹_›
    unfold fl_X12_poll_148 at h
    refine go_iload (n := 4) (by decide +kernel) l4 f4 ?_
    refine go_aload_n (n := 0) (by decide +kernel) l0 f0 ?_
    obtain ⟨x_227, e_228, h⟩ := lx_s h
    refine go_getf (x := 310) (ci := 13) (kf := 12) (fin := 0) (t := 0) (by decide +kernel) (by decide +kernel) (by decide +kernel) R f0 (fx_k (c := 13) R (by decide +kernel)) fun v_224 f_225 => ?_
    have f_226 := q_is_eq f_225 e_228
    refine go_icmp (c := .ge) (o := 72) (t := 226) (P := ¬ (y4 < x_227)) (by decide +kernel) (by decide +kernel) f4 f_226 (Int.not_lt.symm) (fun hp_229 => ?_) (fun hp_229 => ?_)
    · have h := it_f hp_229 h
      exact hk226 h R l0 f0 l1 f1 l2 f2 l3 f3
    · have h := it_n hp_229 h
      refine go_iload_n (n := 2) (by decide +kernel) l2 f2 ?_
      refine go_iconst (n := (-1)) (z := (-1)) (by decide +kernel) (by decide) fun v_230 f_231 => ?_
      refine go_icmp (c := .eq) (o := 67) (t := 226) (P := y2 = (-1)) (by decide +kernel) (by decide +kernel) f2 f_231 (Iff.rfl) (fun hp_232 => ?_) (fun hp_232 => ?_)
      · have h := it_t hp_232 h
        exact hk226 h R l0 f0 l1 f1 l2 f2 l3 f3
      · have h := it_f hp_232 h
        refine go_aload_n (n := 0) (by decide +kernel) l0 f0 ?_
        refine go_getf (x := 46) (ci := 13) (kf := 14) (fin := 1) (t := 2) (by decide +kernel) (by decide +kernel) (by decide +kernel) R f0 (fx_k (c := 13) R (by decide +kernel)) fun v_233 f_234 => ?_
        have f_235 := q_is_eq (b := 81) f_234 (fx_v R (by decide +kernel)).symm
        refine go_iload (n := 4) (by decide +kernel) l4 f4 ?_
        obtain ⟨g_238, h⟩ := gd_s h
        obtain ⟨x_240, e_241, h⟩ := lx_s h
        refine go_iald (kd := 100) (by decide +kernel) rfl R f_235 f4 (fx_k (c := 100) R (by decide +kernel)) (fx_x (a := 81) (ln := 30) R (by decide +kernel) g_238) fun v_236 f_237 => ?_
        have f_239 := q_is_eq f_237 e_241
        refine go_iload_n (n := 2) (by decide +kernel) l2 f2 ?_
        refine go_icmp (c := .ne) (o := 16) (t := 186) (P := ¬ (x_240 = y2)) (by decide +kernel) (by decide +kernel) f_239 f2 (Iff.rfl) (fun hp_242 => ?_) (fun hp_242 => ?_)
        · have h := it_f hp_242 h
          refine go_iconst (n := 0) (z := 0) (by decide +kernel) (by decide) fun v_243 f_244 => ?_
          exact oj_X12_poll_187 hd R l0 f0 l1 f1 l2 f2 l3 f3 l4 f4 f_244 ih hk226 hQ h
        · have h := it_n hp_242 h
          refine go_aload_n (n := 0) (by decide +kernel) l0 f0 ?_
          refine go_iload (n := 4) (by decide +kernel) l4 f4 ?_
          obtain ⟨x_353, hc_352, h⟩ := bp_s h
          refine go_callV (x := 608) (mi := 273) (n := 1) (ci := 13) (as := [v4]) (rest := []) (by decide +kernel) (by decide +kernel) rfl rfl (q_sum8 _ (Nat.le_of_ble_eq_true rfl)) R f0 (fx_k (c := 13) R (by decide +kernel)) (om_X12_isReady (Nat.le_trans (by decide) hd) R f0 f4 hc_352) (fun _ S_357 q_360 => ?_) (fun _ _ qq => kr_x qq)
          refine kr_z (by decide) q_360 fun v_355 f_356 R_358 E_359 => ?_
          refine go_if (c := .eq) (o := 7) (t := 186) (P := x_353 = 0) (by decide +kernel) (by decide +kernel) f_356 (Iff.rfl) (fun hp_361 => ?_) (fun hp_361 => ?_)
          · have h := it_t hp_361 h
            refine go_iconst (n := 0) (z := 0) (by decide +kernel) (by decide) fun v_362 f_363 => ?_
            exact oj_X12_poll_187 hd R_358 l0 f0 l1 f1 l2 f2 l3 f3 l4 f4 f_363 ih hk226 hQ h
          · have h := it_f hp_361 h
            refine go_iconst (n := 1) (z := 1) (by decide +kernel) (by decide) fun v_364 f_365 => ?_
            refine go_goto (o := 4) (t := 187) (by decide +kernel) (by decide +kernel) ?_
            exact oj_X12_poll_187 hd R_358 l0 f0 l1 f1 l2 f2 l3 f3 l4 f4 f_365 ih hk226 hQ h
noncomputable def fj_X12_poll_13 (y1 s0 : Int) (m : MM) : Option (Int × MM) := bd (fm_X12_fails s0 m) fun x_14 m_15 =>
if x_14 = 0 then
fl_X12_poll_25 y1 m_15 (fun x_194 =>
fl_X12_poll_148 y1 x_194 m_15 (fun x_366 =>
if x_366 = (-1) then
some ((-1), m_15)
else
lx (m_15 68 51) fun x_391 =>
gd (0 ≤ x_391 ∧ x_391 < 4096) <| up m_15 112 x_391 y1 fun m_394 =>
lx (m_394 68 51) fun x_407 =>
gd (0 ≤ x_407 ∧ x_407 < 4096) <| up m_394 113 x_407 x_366 fun m_410 =>
lx (m_410 68 51) fun x_423 =>
gd (0 ≤ x_366 ∧ x_366 < 30) <| lx (m_410 89 x_366) fun x_432 =>
gd (0 ≤ x_423 ∧ x_423 < 4096) <| up m_410 114 x_423 x_432 fun m_435 =>
lx (m_435 68 51) fun x_448 =>
lx (m_435 68 0) fun x_453 =>
gd (0 ≤ x_448 ∧ x_448 < 4096) <| up m_435 115 x_448 x_453 fun m_456 =>
lx (m_456 68 51) fun x_469 =>
lx (m_456 90 x_366) fun x_477 =>
gd (0 ≤ x_469 ∧ x_469 < 4096) <| up m_456 116 x_469 x_477 fun m_480 =>
lx (m_480 68 51) fun x_493 =>
lx (m_480 82 x_366) fun x_501 =>
gd (0 ≤ x_493 ∧ x_493 < 4096) <| up m_480 117 x_493 x_501 fun m_504 =>
lx (m_504 68 51) fun x_517 =>
lx (m_504 93 x_366) fun x_525 =>
gd (0 ≤ x_517 ∧ x_517 < 4096) <| up m_504 118 x_517 x_525 fun m_528 =>
gd (0 ≤ x_194 ∧ x_194 < 3) <| lx (m_528 120 x_194) fun x_542 =>
up m_528 120 x_194 (w32 (x_542 + 1)) fun m_548 =>
lx (m_548 121 x_194) fun x_561 =>
up m_548 121 x_194 (w32 (x_561 + 1)) fun m_567 =>
lx (m_567 68 51) fun x_577 =>
up m_567 68 51 (w32 (x_577 + 1)) fun m_583 =>
lx (m_583 68 51) fun x_595 =>
some (w32 ((w32 (100 * (w32 (x_595 - 1)))) + x_366), m_583)) BIG (-1) 0) BIG (-1) 0
else
some (0, m_15)
set_option maxHeartbeats 4000000 in
theorem oj_X12_poll_13 {xs : List Int32} {d : Nat} {S : QS} {L : QL} {Q : QO → QS → Prop} {m : MM} {y1 s0 : Int} {v0 : Value} {v1 : Value} {w0 : Value} {w1 : Value}  {rz : Int} {rm : MM}
  (hd : 3 ≤ d) (R : Rp S m) (l0 : q_lo L 0 = some v0) (f0 : q_is 2 v0 68) (l1 : q_lo L 1 = some v1) (f1 : q_is 0 v1 y1) (fs0 : q_is 0 w0 s0) (fs1 : q_is 2 w1 68)
  (hQ : Ext m rm → ∀ o S1, Rp S1 rm → q_out 0 o rz → Q o S1)
  (h : fj_X12_poll_13 y1 s0 m = some (rz, rm)) : Go xs d qM_X12_poll 13 L [w0, w1] S Q := by
  unfold fj_X12_poll_13 at h
  obtain ⟨x_14, m_15, hc_13, h⟩ := bd_s h
  refine go_callV (x := 324) (mi := 186) (n := 1) (ci := 13) (as := [w0]) (rest := []) (by decide +kernel) (by decide +kernel) rfl rfl (q_sum8 _ (Nat.le_of_ble_eq_true rfl)) R fs1 (fx_k (c := 13) R (by decide +kernel)) (om_X12_fails (Nat.le_trans (by decide) hd) R fs1 fs0 hc_13) (fun _ S_18 q_21 => ?_) (fun _ _ qq => kr_x qq)
  refine kr_z (by decide) q_21 fun v_16 f_17 R_19 E_20 => ?_
  have E_24 := E_20
  refine go_if (c := .eq) (o := 5) (t := 21) (P := x_14 = 0) (by decide +kernel) (by decide +kernel) f_17 (Iff.rfl) (fun hp_25 => ?_) (fun hp_25 => ?_)
  · have h := it_t hp_25 h
    refine go_iconst (n := (-1)) (z := (-1)) (by decide +kernel) (by decide) fun v_26 f_27 => ?_
    refine go_istore_n (n := 2) (by decide +kernel) (by decide +kernel) f_27 fun L_28 l_29 kp_30 => ?_
    have l_31 := kp_30 0 _ l0 (by decide) (Or.inl (by decide))
    have l_32 := kp_30 1 _ l1 (by decide) (Or.inr (q_is_cat f1 (Or.inl rfl)))
    refine go_iconst (n := 0) (z := 0) (by decide +kernel) (by decide) fun v_33 f_34 => ?_
    refine go_istore_n (n := 3) (by decide +kernel) (by decide +kernel) f_34 fun L_35 l_36 kp_37 => ?_
    have l_38 := kp_37 0 _ l_31 (by decide) (Or.inl (by decide))
    have l_39 := kp_37 1 _ l_32 (by decide) (Or.inl (by decide))
    have l_40 := kp_37 2 _ l_29 (by decide) (Or.inr (q_is_cat f_27 (Or.inl rfl)))
    refine ol_X12_poll_25 hd  ?_ (fun b => hQ (Ext.tr E_24 b)) BIG h R_19 l_38 f0 l_39 f1 l_40 f_27 l_36 f_34
    intro x_194 S_204 L_205 v_195 v_196 v_197
    intro h R_206 l_198 f_201 l_199 f_202 l_200 f_203
    refine go_iconst (n := (-1)) (z := (-1)) (by decide +kernel) (by decide) fun v_207 f_208 => ?_
    refine go_istore_n (n := 3) (by decide +kernel) (by decide +kernel) f_208 fun L_209 l_210 kp_211 => ?_
    have l_212 := kp_211 0 _ l_198 (by decide) (Or.inl (by decide))
    have l_213 := kp_211 1 _ l_199 (by decide) (Or.inl (by decide))
    have l_214 := kp_211 2 _ l_200 (by decide) (Or.inr (q_is_cat f_203 (Or.inl rfl)))
    refine go_iconst (n := 0) (z := 0) (by decide +kernel) (by decide) fun v_215 f_216 => ?_
    refine go_istore (n := 4) (by decide +kernel) (by decide +kernel) f_216 fun L_217 l_218 kp_219 => ?_
    have l_220 := kp_219 0 _ l_212 (by decide) (Or.inl (by decide))
    have l_221 := kp_219 1 _ l_213 (by decide) (Or.inl (by decide))
    have l_222 := kp_219 2 _ l_214 (by decide) (Or.inl (by decide))
    have l_223 := kp_219 3 _ l_210 (by decide) (Or.inr (q_is_cat f_208 (Or.inl rfl)))
    refine ol_X12_poll_148 hd  ?_ (fun b => hQ (Ext.tr E_24 b)) BIG h R_206 l_220 f_201 l_221 f_202 l_222 f_203 l_223 f_208 l_218 f_216
    intro x_366 S_379 L_380 v_367 v_368 v_369 v_370
    intro h R_381 l_371 f_375 l_372 f_376 l_373 f_377 l_374 f_378
    refine go_iload_n (n := 3) (by decide +kernel) l_374 f_378 ?_
    refine go_iconst (n := (-1)) (z := (-1)) (by decide +kernel) (by decide) fun v_382 f_383 => ?_
    refine go_icmp (c := .ne) (o := 5) (t := 233) (P := ¬ (x_366 = (-1))) (by decide +kernel) (by decide +kernel) f_378 f_383 (Iff.rfl) (fun hp_384 => ?_) (fun hp_384 => ?_)
    · have h := it_f hp_384 h
      refine go_aload_n (n := 0) (by decide +kernel) l_371 f_375 ?_
      refine go_getf (x := 149) (ci := 13) (kf := 52) (fin := 1) (t := 2) (by decide +kernel) (by decide +kernel) (by decide +kernel) R_381 f_375 (fx_k (c := 13) R_381 (by decide +kernel)) fun v_385 f_386 => ?_
      have f_387 := q_is_eq (b := 112) f_386 (fx_v R_381 (by decide +kernel)).symm
      refine go_aload_n (n := 0) (by decide +kernel) l_371 f_375 ?_
      obtain ⟨x_391, e_392, h⟩ := lx_s h
      refine go_getf (x := 599) (ci := 13) (kf := 51) (fin := 0) (t := 0) (by decide +kernel) (by decide +kernel) (by decide +kernel) R_381 f_375 (fx_k (c := 13) R_381 (by decide +kernel)) fun v_388 f_389 => ?_
      have f_390 := q_is_eq f_389 e_392
      refine go_iload_n (n := 1) (by decide +kernel) l_372 f_376 ?_
      obtain ⟨g_393, h⟩ := gd_s h
      obtain ⟨m_394, e_395, h⟩ := up_s h
      refine go_iast (kd := 100) (by decide +kernel) rfl R_381 f_387 f_390 f_376 (fx_k (c := 100) R_381 (by decide +kernel)) (fx_x (a := 112) (ln := 4096) R_381 (by decide +kernel) g_393) e_395 (fx_a R_381.2 (fx_k (c := 100) R_381 (by decide +kernel)) (And.left (fx_x (a := 112) (ln := 4096) R_381 (by decide +kernel) g_393)) (by decide +kernel)) fun S_396 R_397 E_398 => ?_
      have E_400 := Ext.tr E_24 E_398
      refine go_aload_n (n := 0) (by decide +kernel) l_371 f_375 ?_
      refine go_getf (x := 152) (ci := 13) (kf := 53) (fin := 1) (t := 2) (by decide +kernel) (by decide +kernel) (by decide +kernel) R_397 f_375 (fx_k (c := 13) R_397 (by decide +kernel)) fun v_401 f_402 => ?_
      have f_403 := q_is_eq (b := 113) f_402 (fx_v R_397 (by decide +kernel)).symm
      refine go_aload_n (n := 0) (by decide +kernel) l_371 f_375 ?_
      obtain ⟨x_407, e_408, h⟩ := lx_s h
      refine go_getf (x := 599) (ci := 13) (kf := 51) (fin := 0) (t := 0) (by decide +kernel) (by decide +kernel) (by decide +kernel) R_397 f_375 (fx_k (c := 13) R_397 (by decide +kernel)) fun v_404 f_405 => ?_
      have f_406 := q_is_eq f_405 e_408
      refine go_iload_n (n := 3) (by decide +kernel) l_374 f_378 ?_
      obtain ⟨g_409, h⟩ := gd_s h
      obtain ⟨m_410, e_411, h⟩ := up_s h
      refine go_iast (kd := 100) (by decide +kernel) rfl R_397 f_403 f_406 f_378 (fx_k (c := 100) R_397 (by decide +kernel)) (fx_x (a := 113) (ln := 4096) R_397 (by decide +kernel) g_409) e_411 (fx_a R_397.2 (fx_k (c := 100) R_397 (by decide +kernel)) (And.left (fx_x (a := 113) (ln := 4096) R_397 (by decide +kernel) g_409)) (by decide +kernel)) fun S_412 R_413 E_414 => ?_
      have E_416 := Ext.tr E_400 E_414
      refine go_aload_n (n := 0) (by decide +kernel) l_371 f_375 ?_
      refine go_getf (x := 155) (ci := 13) (kf := 54) (fin := 1) (t := 2) (by decide +kernel) (by decide +kernel) (by decide +kernel) R_413 f_375 (fx_k (c := 13) R_413 (by decide +kernel)) fun v_417 f_418 => ?_
      have f_419 := q_is_eq (b := 114) f_418 (fx_v R_413 (by decide +kernel)).symm
      refine go_aload_n (n := 0) (by decide +kernel) l_371 f_375 ?_
      obtain ⟨x_423, e_424, h⟩ := lx_s h
      refine go_getf (x := 599) (ci := 13) (kf := 51) (fin := 0) (t := 0) (by decide +kernel) (by decide +kernel) (by decide +kernel) R_413 f_375 (fx_k (c := 13) R_413 (by decide +kernel)) fun v_420 f_421 => ?_
      have f_422 := q_is_eq f_421 e_424
      refine go_aload_n (n := 0) (by decide +kernel) l_371 f_375 ?_
      refine go_getf (x := 70) (ci := 13) (kf := 22) (fin := 1) (t := 2) (by decide +kernel) (by decide +kernel) (by decide +kernel) R_413 f_375 (fx_k (c := 13) R_413 (by decide +kernel)) fun v_425 f_426 => ?_
      have f_427 := q_is_eq (b := 89) f_426 (fx_v R_413 (by decide +kernel)).symm
      refine go_iload_n (n := 3) (by decide +kernel) l_374 f_378 ?_
      obtain ⟨g_430, h⟩ := gd_s h
      obtain ⟨x_432, e_433, h⟩ := lx_s h
      refine go_iald (kd := 100) (by decide +kernel) rfl R_413 f_427 f_378 (fx_k (c := 100) R_413 (by decide +kernel)) (fx_x (a := 89) (ln := 30) R_413 (by decide +kernel) g_430) fun v_428 f_429 => ?_
      have f_431 := q_is_eq f_429 e_433
      obtain ⟨g_434, h⟩ := gd_s h
      obtain ⟨m_435, e_436, h⟩ := up_s h
      refine go_iast (kd := 100) (by decide +kernel) rfl R_413 f_419 f_422 f_431 (fx_k (c := 100) R_413 (by decide +kernel)) (fx_x (a := 114) (ln := 4096) R_413 (by decide +kernel) g_434) e_436 (fx_a R_413.2 (fx_k (c := 100) R_413 (by decide +kernel)) (And.left (fx_x (a := 114) (ln := 4096) R_413 (by decide +kernel) g_434)) (by decide +kernel)) fun S_437 R_438 E_439 => ?_
      have E_441 := Ext.tr E_416 E_439
      refine go_aload_n (n := 0) (by decide +kernel) l_371 f_375 ?_
      refine go_getf (x := 158) (ci := 13) (kf := 55) (fin := 1) (t := 2) (by decide +kernel) (by decide +kernel) (by decide +kernel) R_438 f_375 (fx_k (c := 13) R_438 (by decide +kernel)) fun v_442 f_443 => ?_
      have f_444 := q_is_eq (b := 115) f_443 (fx_v R_438 (by decide +kernel)).symm
      refine go_aload_n (n := 0) (by decide +kernel) l_371 f_375 ?_
      obtain ⟨x_448, e_449, h⟩ := lx_s h
      refine go_getf (x := 599) (ci := 13) (kf := 51) (fin := 0) (t := 0) (by decide +kernel) (by decide +kernel) (by decide +kernel) R_438 f_375 (fx_k (c := 13) R_438 (by decide +kernel)) fun v_445 f_446 => ?_
      have f_447 := q_is_eq f_446 e_449
      refine go_aload_n (n := 0) (by decide +kernel) l_371 f_375 ?_
      obtain ⟨x_453, e_454, h⟩ := lx_s h
      refine go_getf (x := 357) (ci := 13) (kf := 0) (fin := 0) (t := 0) (by decide +kernel) (by decide +kernel) (by decide +kernel) R_438 f_375 (fx_k (c := 13) R_438 (by decide +kernel)) fun v_450 f_451 => ?_
      have f_452 := q_is_eq f_451 e_454
      obtain ⟨g_455, h⟩ := gd_s h
      obtain ⟨m_456, e_457, h⟩ := up_s h
      refine go_iast (kd := 100) (by decide +kernel) rfl R_438 f_444 f_447 f_452 (fx_k (c := 100) R_438 (by decide +kernel)) (fx_x (a := 115) (ln := 4096) R_438 (by decide +kernel) g_455) e_457 (fx_a R_438.2 (fx_k (c := 100) R_438 (by decide +kernel)) (And.left (fx_x (a := 115) (ln := 4096) R_438 (by decide +kernel) g_455)) (by decide +kernel)) fun S_458 R_459 E_460 => ?_
      have E_462 := Ext.tr E_441 E_460
      refine go_aload_n (n := 0) (by decide +kernel) l_371 f_375 ?_
      refine go_getf (x := 161) (ci := 13) (kf := 56) (fin := 1) (t := 2) (by decide +kernel) (by decide +kernel) (by decide +kernel) R_459 f_375 (fx_k (c := 13) R_459 (by decide +kernel)) fun v_463 f_464 => ?_
      have f_465 := q_is_eq (b := 116) f_464 (fx_v R_459 (by decide +kernel)).symm
      refine go_aload_n (n := 0) (by decide +kernel) l_371 f_375 ?_
      obtain ⟨x_469, e_470, h⟩ := lx_s h
      refine go_getf (x := 599) (ci := 13) (kf := 51) (fin := 0) (t := 0) (by decide +kernel) (by decide +kernel) (by decide +kernel) R_459 f_375 (fx_k (c := 13) R_459 (by decide +kernel)) fun v_466 f_467 => ?_
      have f_468 := q_is_eq f_467 e_470
      refine go_aload_n (n := 0) (by decide +kernel) l_371 f_375 ?_
      refine go_getf (x := 73) (ci := 13) (kf := 23) (fin := 1) (t := 2) (by decide +kernel) (by decide +kernel) (by decide +kernel) R_459 f_375 (fx_k (c := 13) R_459 (by decide +kernel)) fun v_471 f_472 => ?_
      have f_473 := q_is_eq (b := 90) f_472 (fx_v R_459 (by decide +kernel)).symm
      refine go_iload_n (n := 3) (by decide +kernel) l_374 f_378 ?_
      obtain ⟨x_477, e_478, h⟩ := lx_s h
      refine go_iald (kd := 100) (by decide +kernel) rfl R_459 f_473 f_378 (fx_k (c := 100) R_459 (by decide +kernel)) (fx_x (a := 90) (ln := 30) R_459 (by decide +kernel) g_430) fun v_474 f_475 => ?_
      have f_476 := q_is_eq f_475 e_478
      obtain ⟨g_479, h⟩ := gd_s h
      obtain ⟨m_480, e_481, h⟩ := up_s h
      refine go_iast (kd := 100) (by decide +kernel) rfl R_459 f_465 f_468 f_476 (fx_k (c := 100) R_459 (by decide +kernel)) (fx_x (a := 116) (ln := 4096) R_459 (by decide +kernel) g_479) e_481 (fx_a R_459.2 (fx_k (c := 100) R_459 (by decide +kernel)) (And.left (fx_x (a := 116) (ln := 4096) R_459 (by decide +kernel) g_479)) (by decide +kernel)) fun S_482 R_483 E_484 => ?_
      have E_486 := Ext.tr E_462 E_484
      refine go_aload_n (n := 0) (by decide +kernel) l_371 f_375 ?_
      refine go_getf (x := 164) (ci := 13) (kf := 57) (fin := 1) (t := 2) (by decide +kernel) (by decide +kernel) (by decide +kernel) R_483 f_375 (fx_k (c := 13) R_483 (by decide +kernel)) fun v_487 f_488 => ?_
      have f_489 := q_is_eq (b := 117) f_488 (fx_v R_483 (by decide +kernel)).symm
      refine go_aload_n (n := 0) (by decide +kernel) l_371 f_375 ?_
      obtain ⟨x_493, e_494, h⟩ := lx_s h
      refine go_getf (x := 599) (ci := 13) (kf := 51) (fin := 0) (t := 0) (by decide +kernel) (by decide +kernel) (by decide +kernel) R_483 f_375 (fx_k (c := 13) R_483 (by decide +kernel)) fun v_490 f_491 => ?_
      have f_492 := q_is_eq f_491 e_494
      refine go_aload_n (n := 0) (by decide +kernel) l_371 f_375 ?_
      refine go_getf (x := 49) (ci := 13) (kf := 15) (fin := 1) (t := 2) (by decide +kernel) (by decide +kernel) (by decide +kernel) R_483 f_375 (fx_k (c := 13) R_483 (by decide +kernel)) fun v_495 f_496 => ?_
      have f_497 := q_is_eq (b := 82) f_496 (fx_v R_483 (by decide +kernel)).symm
      refine go_iload_n (n := 3) (by decide +kernel) l_374 f_378 ?_
      obtain ⟨x_501, e_502, h⟩ := lx_s h
      refine go_iald (kd := 100) (by decide +kernel) rfl R_483 f_497 f_378 (fx_k (c := 100) R_483 (by decide +kernel)) (fx_x (a := 82) (ln := 30) R_483 (by decide +kernel) g_430) fun v_498 f_499 => ?_
      have f_500 := q_is_eq f_499 e_502
      obtain ⟨g_503, h⟩ := gd_s h
      obtain ⟨m_504, e_505, h⟩ := up_s h
      refine go_iast (kd := 100) (by decide +kernel) rfl R_483 f_489 f_492 f_500 (fx_k (c := 100) R_483 (by decide +kernel)) (fx_x (a := 117) (ln := 4096) R_483 (by decide +kernel) g_503) e_505 (fx_a R_483.2 (fx_k (c := 100) R_483 (by decide +kernel)) (And.left (fx_x (a := 117) (ln := 4096) R_483 (by decide +kernel) g_503)) (by decide +kernel)) fun S_506 R_507 E_508 => ?_
      have E_510 := Ext.tr E_486 E_508
      refine go_aload_n (n := 0) (by decide +kernel) l_371 f_375 ?_
      refine go_getf (x := 167) (ci := 13) (kf := 58) (fin := 1) (t := 2) (by decide +kernel) (by decide +kernel) (by decide +kernel) R_507 f_375 (fx_k (c := 13) R_507 (by decide +kernel)) fun v_511 f_512 => ?_
      have f_513 := q_is_eq (b := 118) f_512 (fx_v R_507 (by decide +kernel)).symm
      refine go_aload_n (n := 0) (by decide +kernel) l_371 f_375 ?_
      obtain ⟨x_517, e_518, h⟩ := lx_s h
      refine go_getf (x := 599) (ci := 13) (kf := 51) (fin := 0) (t := 0) (by decide +kernel) (by decide +kernel) (by decide +kernel) R_507 f_375 (fx_k (c := 13) R_507 (by decide +kernel)) fun v_514 f_515 => ?_
      have f_516 := q_is_eq f_515 e_518
      refine go_aload_n (n := 0) (by decide +kernel) l_371 f_375 ?_
      refine go_getf (x := 82) (ci := 13) (kf := 26) (fin := 1) (t := 2) (by decide +kernel) (by decide +kernel) (by decide +kernel) R_507 f_375 (fx_k (c := 13) R_507 (by decide +kernel)) fun v_519 f_520 => ?_
      have f_521 := q_is_eq (b := 93) f_520 (fx_v R_507 (by decide +kernel)).symm
      refine go_iload_n (n := 3) (by decide +kernel) l_374 f_378 ?_
      obtain ⟨x_525, e_526, h⟩ := lx_s h
      refine go_iald (kd := 100) (by decide +kernel) rfl R_507 f_521 f_378 (fx_k (c := 100) R_507 (by decide +kernel)) (fx_x (a := 93) (ln := 30) R_507 (by decide +kernel) g_430) fun v_522 f_523 => ?_
      have f_524 := q_is_eq f_523 e_526
      obtain ⟨g_527, h⟩ := gd_s h
      obtain ⟨m_528, e_529, h⟩ := up_s h
      refine go_iast (kd := 100) (by decide +kernel) rfl R_507 f_513 f_516 f_524 (fx_k (c := 100) R_507 (by decide +kernel)) (fx_x (a := 118) (ln := 4096) R_507 (by decide +kernel) g_527) e_529 (fx_a R_507.2 (fx_k (c := 100) R_507 (by decide +kernel)) (And.left (fx_x (a := 118) (ln := 4096) R_507 (by decide +kernel) g_527)) (by decide +kernel)) fun S_530 R_531 E_532 => ?_
      have E_534 := Ext.tr E_510 E_532
      refine go_aload_n (n := 0) (by decide +kernel) l_371 f_375 ?_
      refine go_getf (x := 174) (ci := 13) (kf := 60) (fin := 1) (t := 2) (by decide +kernel) (by decide +kernel) (by decide +kernel) R_531 f_375 (fx_k (c := 13) R_531 (by decide +kernel)) fun v_535 f_536 => ?_
      have f_537 := q_is_eq (b := 120) f_536 (fx_v R_531 (by decide +kernel)).symm
      refine go_iload_n (n := 2) (by decide +kernel) l_373 f_377 ?_
      refine go_dup2 (by decide +kernel) f_377 (Or.inl rfl) f_537 (Or.inr rfl) ?_
      obtain ⟨g_540, h⟩ := gd_s h
      obtain ⟨x_542, e_543, h⟩ := lx_s h
      refine go_iald (kd := 100) (by decide +kernel) rfl R_531 f_537 f_377 (fx_k (c := 100) R_531 (by decide +kernel)) (fx_x (a := 120) (ln := 3) R_531 (by decide +kernel) g_540) fun v_538 f_539 => ?_
      have f_541 := q_is_eq f_539 e_543
      refine go_iconst (n := 1) (z := 1) (by decide +kernel) (by decide) fun v_544 f_545 => ?_
      refine go_iadd (by decide +kernel) f_541 f_545 fun v_546 f_547 => ?_
      obtain ⟨m_548, e_549, h⟩ := up_s h
      refine go_iast (kd := 100) (by decide +kernel) rfl R_531 f_537 f_377 f_547 (fx_k (c := 100) R_531 (by decide +kernel)) (fx_x (a := 120) (ln := 3) R_531 (by decide +kernel) g_540) e_549 (fx_a R_531.2 (fx_k (c := 100) R_531 (by decide +kernel)) (And.left (fx_x (a := 120) (ln := 3) R_531 (by decide +kernel) g_540)) (by decide +kernel)) fun S_550 R_551 E_552 => ?_
      have E_554 := Ext.tr E_534 E_552
      refine go_aload_n (n := 0) (by decide +kernel) l_371 f_375 ?_
      refine go_getf (x := 177) (ci := 13) (kf := 61) (fin := 1) (t := 2) (by decide +kernel) (by decide +kernel) (by decide +kernel) R_551 f_375 (fx_k (c := 13) R_551 (by decide +kernel)) fun v_555 f_556 => ?_
      have f_557 := q_is_eq (b := 121) f_556 (fx_v R_551 (by decide +kernel)).symm
      refine go_iload_n (n := 2) (by decide +kernel) l_373 f_377 ?_
      refine go_dup2 (by decide +kernel) f_377 (Or.inl rfl) f_557 (Or.inr rfl) ?_
      obtain ⟨x_561, e_562, h⟩ := lx_s h
      refine go_iald (kd := 100) (by decide +kernel) rfl R_551 f_557 f_377 (fx_k (c := 100) R_551 (by decide +kernel)) (fx_x (a := 121) (ln := 3) R_551 (by decide +kernel) g_540) fun v_558 f_559 => ?_
      have f_560 := q_is_eq f_559 e_562
      refine go_iconst (n := 1) (z := 1) (by decide +kernel) (by decide) fun v_563 f_564 => ?_
      refine go_iadd (by decide +kernel) f_560 f_564 fun v_565 f_566 => ?_
      obtain ⟨m_567, e_568, h⟩ := up_s h
      refine go_iast (kd := 100) (by decide +kernel) rfl R_551 f_557 f_377 f_566 (fx_k (c := 100) R_551 (by decide +kernel)) (fx_x (a := 121) (ln := 3) R_551 (by decide +kernel) g_540) e_568 (fx_a R_551.2 (fx_k (c := 100) R_551 (by decide +kernel)) (And.left (fx_x (a := 121) (ln := 3) R_551 (by decide +kernel) g_540)) (by decide +kernel)) fun S_569 R_570 E_571 => ?_
      have E_573 := Ext.tr E_554 E_571
      refine go_aload_n (n := 0) (by decide +kernel) l_371 f_375 ?_
      refine go_dup (by decide +kernel) f_375 (Or.inr rfl) ?_
      obtain ⟨x_577, e_578, h⟩ := lx_s h
      refine go_getf (x := 599) (ci := 13) (kf := 51) (fin := 0) (t := 0) (by decide +kernel) (by decide +kernel) (by decide +kernel) R_570 f_375 (fx_k (c := 13) R_570 (by decide +kernel)) fun v_574 f_575 => ?_
      have f_576 := q_is_eq f_575 e_578
      refine go_iconst (n := 1) (z := 1) (by decide +kernel) (by decide) fun v_579 f_580 => ?_
      refine go_iadd (by decide +kernel) f_576 f_580 fun v_581 f_582 => ?_
      obtain ⟨m_583, e_584, h⟩ := up_s h
      refine go_putf (x := 599) (ci := 13) (kf := 51) (fin := 0) (zt := 0) (by decide +kernel) (by decide +kernel) (by decide) (by decide +kernel) (by decide) (Or.inl rfl) R_570 f_375 f_582 (fun hq => absurd hq (by decide)) (fx_k (c := 13) R_570 (by decide +kernel)) e_584 (fx_f (j := 51) R_570.2 (fx_k (c := 13) R_570 (by decide +kernel)) (by decide +kernel)) fun S_585 R_586 E_587 => ?_
      have E_589 := Ext.tr E_573 E_587
      refine go_bipush (n := 100) (z := 100) (by decide +kernel) (by decide) fun v_590 f_591 => ?_
      refine go_aload_n (n := 0) (by decide +kernel) l_371 f_375 ?_
      obtain ⟨x_595, e_596, h⟩ := lx_s h
      refine go_getf (x := 599) (ci := 13) (kf := 51) (fin := 0) (t := 0) (by decide +kernel) (by decide +kernel) (by decide +kernel) R_586 f_375 (fx_k (c := 13) R_586 (by decide +kernel)) fun v_592 f_593 => ?_
      have f_594 := q_is_eq f_593 e_596
      refine go_iconst (n := 1) (z := 1) (by decide +kernel) (by decide) fun v_597 f_598 => ?_
      refine go_isub (by decide +kernel) f_594 f_598 fun v_599 f_600 => ?_
      refine go_imul (by decide +kernel) f_591 f_600 fun v_601 f_602 => ?_
      refine go_iload_n (n := 3) (by decide +kernel) l_374 f_378 ?_
      refine go_iadd (by decide +kernel) f_602 f_378 fun v_603 f_604 => ?_
      cases h
      exact go_iret (by decide +kernel) rfl (Or.inl rfl) f_604 (hQ E_589 _ _ R_586 (q_out_v (by decide) f_604))
    · have h := it_n hp_384 h
      refine go_iconst (n := (-1)) (z := (-1)) (by decide +kernel) (by decide) fun v_605 f_606 => ?_
      cases h
      exact go_iret (by decide +kernel) rfl (Or.inl rfl) f_606 (hQ E_24 _ _ R_381 (q_out_v (by decide) f_606))
  · have h := it_f hp_25 h
    refine go_iconst (n := 0) (z := 0) (by decide +kernel) (by decide) fun v_607 f_608 => ?_
    cases h
    exact go_iret (by decide +kernel) rfl (Or.inl rfl) f_608 (hQ E_24 _ _ R_19 (q_out_v (by decide) f_608))
noncomputable def fm_X12_poll (p1 : Int) (m0 : MM) : Option (Int × MM) := bp (fm_X12_isWorker p1 m0) fun x_2 =>
if x_2 = 0 then
fj_X12_poll_13 p1 1 m0
else
fj_X12_poll_13 p1 0 m0
set_option maxHeartbeats 4000000 in
theorem om_X12_poll {xs : List Int32} {d : Nat} {S : QS} {m0 : MM} {p1 : Int} {v0 : Value} {v1 : Value} {rz : Int} {rm : MM}
  (hd : 4 ≤ d) (R : Rp S m0) (f0 : q_is 2 v0 68) (f1 : q_is 0 v1 p1)
  (h : fm_X12_poll p1 m0 = some (rz, rm)) : Mt xs d 276 [v0, v1] S (Cr 0 m0 rm rz) := by
  obtain ⟨d, rfl⟩ : ∃ e, d = e + 1 := ⟨d - 1, by omega⟩
  have hd : 3 ≤ d := Nat.le_of_succ_le_succ hd
  refine Mt.of (M := qM_X12_poll) rfl (by rw [sl_1 (q_is_cat f0 (Or.inr rfl)), sl_1 (q_is_cat f1 (Or.inl rfl)), sl_0]; decide) ?_
  rw [la_1 (q_is_cat f0 (Or.inr rfl)), la_1 (q_is_cat f1 (Or.inl rfl)), la_0]
  obtain ⟨L, hL⟩ : ∃ L : QL, L = [(0, v0), (0 + 1, v1)] := ⟨_, rfl⟩
  rw [← hL]
  have l0 : q_lo L 0 = some v0 := by rw [hL]; rfl
  have l1 : q_lo L 1 = some v1 := by rw [hL]; rfl
  have hQ : Ext m0 rm → ∀ o S1, Rp S1 rm → q_out 0 o rz → (Cr 0 m0 rm rz) o S1 := fun a o S1 b e => ⟨b, a, e⟩
  unfold fm_X12_poll at h
  refine go_aload_n (n := 0) (by decide +kernel) l0 f0 ?_
  refine go_iload_n (n := 1) (by decide +kernel) l1 f1 ?_
  obtain ⟨x_2, hc_1, h⟩ := bp_s h
  refine go_callS (x := 605) (mi := 275) (n := 1) (b := 0) (as := [v1]) (rest := [v0]) (by decide +kernel) (by decide +kernel) rfl rfl (q_sum8 _ (Nat.le_of_ble_eq_true rfl)) (om_X12_isWorker (Nat.le_trans (by decide) hd) R f1 hc_1) (fun _ S_6 q_9 => ?_) (fun _ _ qq => kr_x qq)
  refine kr_z (by decide) q_9 fun v_4 f_5 R_7 E_8 => ?_
  refine go_if (c := .eq) (o := 7) (t := 12) (P := x_2 = 0) (by decide +kernel) (by decide +kernel) f_5 (Iff.rfl) (fun hp_10 => ?_) (fun hp_10 => ?_)
  · have h := it_t hp_10 h
    refine go_iconst (n := 1) (z := 1) (by decide +kernel) (by decide) fun v_11 f_12 => ?_
    exact oj_X12_poll_13 hd R_7 l0 f0 l1 f1 f_12 f0 hQ h
  · have h := it_f hp_10 h
    refine go_iconst (n := 0) (z := 0) (by decide +kernel) (by decide) fun v_609 f_610 => ?_
    refine go_goto (o := 4) (t := 13) (by decide +kernel) (by decide +kernel) ?_
    exact oj_X12_poll_13 hd R_7 l0 f0 l1 f1 f_610 f0 hQ h
end DF38
