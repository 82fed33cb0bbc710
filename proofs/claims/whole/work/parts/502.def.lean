/-! Methods as functions (written by wip/whole/dec.py), 2: X2_cut, X5_becomeFirst, X2_becomeFirst, X2_has, X2_is, X2_nextArrival, X2_nextCommand, X2_taskBeyond, X2_taskAt. -/
section DF2
noncomputable def fm_X2_cut (p0 p1 : Int) (m0 : MM) : Option (Int × MM) := lx (m0 p0 0) fun x_4 =>
gd (okc m0 x_4 6) <| bd (fm_X5_cut x_4 p1 m0) fun x_8 m_9 =>
bd (fm_X2_countAgain p0 m_9) fun x_21 m_22 =>
some (0, m_22)
set_option maxHeartbeats 4000000 in
theorem om_X2_cut {xs : List Int32} {d : Nat} {S : QS} {m0 : MM} {p0 p1 : Int} {v0 : Value} {v1 : Value} {rz : Int} {rm : MM}
  (hd : 4 ≤ d) (R : Rp S m0) (g0 : okc m0 p0 3) (f0 : q_is 2 v0 p0) (f1 : q_is 0 v1 p1)
  (h : fm_X2_cut p0 p1 m0 = some (rz, rm)) : Mt xs d 16 [v0, v1] S (Cr 9 m0 rm rz) := by
  obtain ⟨d, rfl⟩ : ∃ e, d = e + 1 := ⟨d - 1, by omega⟩
  have hd : 3 ≤ d := Nat.le_of_succ_le_succ hd
  refine Mt.of (M := qM_X2_cut) rfl (by rw [sl_1 (q_is_cat f0 (Or.inr rfl)), sl_1 (q_is_cat f1 (Or.inl rfl)), sl_0]; decide) ?_
  rw [la_1 (q_is_cat f0 (Or.inr rfl)), la_1 (q_is_cat f1 (Or.inl rfl)), la_0]
  obtain ⟨L, hL⟩ : ∃ L : QL, L = [(0, v0), (0 + 1, v1)] := ⟨_, rfl⟩
  rw [← hL]
  have l0 : q_lo L 0 = some v0 := by rw [hL]; rfl
  have l1 : q_lo L 1 = some v1 := by rw [hL]; rfl
  have hQ : Ext m0 rm → ∀ o S1, Rp S1 rm → q_out 9 o rz → (Cr 9 m0 rm rz) o S1 := fun a o S1 b e => ⟨b, a, e⟩
  unfold fm_X2_cut at h
  refine go_aload_n (n := 0) (by decide +kernel) l0 f0 ?_
  obtain ⟨x_4, e_5, h⟩ := lx_s h
  refine go_getf (x := 22) (ci := 3) (kf := 0) (fin := 1) (t := 2) (by decide +kernel) (by decide +kernel) (by decide +kernel) R f0 g0 fun v_1 f_2 => ?_
  have f_3 := q_is_eq f_2 e_5
  refine go_iload_n (n := 1) (by decide +kernel) l1 f1 ?_
  obtain ⟨g_6, h⟩ := gd_s h
  obtain ⟨x_8, m_9, hc_7, h⟩ := bd_s h
  refine go_callV (x := 40) (mi := 63) (n := 1) (ci := 6) (as := [v1]) (rest := []) (by decide +kernel) (by decide +kernel) rfl rfl (q_sum8 _ (Nat.le_of_ble_eq_true rfl)) R f_3 g_6 (om_X5_cut (Nat.le_trans (by decide) hd) R g_6 f_3 f1 hc_7) (fun _ S_12 q_15 => ?_) (fun _ _ qq => kr_x qq)
  refine kr_v q_15 fun R_13 E_14 => ?_
  have E_18 := E_14
  refine go_aload_n (n := 0) (by decide +kernel) l0 f0 ?_
  have g_19 := Ext.ok E_14 g0
  obtain ⟨x_21, m_22, hc_20, h⟩ := bd_s h
  refine go_callV (x := 44) (mi := 18) (n := 0) (ci := 3) (as := []) (rest := []) (by decide +kernel) (by decide +kernel) rfl rfl (q_sum8 _ (Nat.le_of_ble_eq_true rfl)) R_13 f0 g_19 (om_X2_countAgain (Nat.le_trans (by decide) hd) R_13 g_19 f0 hc_20) (fun _ S_25 q_28 => ?_) (fun _ _ qq => kr_x qq)
  refine kr_v q_28 fun R_26 E_27 => ?_
  have E_31 := Ext.tr E_18 E_27
  cases h
  exact go_vret (by decide +kernel) rfl (hQ E_31 _ _ R_26 q_out_n)
noncomputable def fl_X5_becomeFirst_41 (p0 y1 y3 y4 : Int) (k68 : MM → Option (Int × MM)) : Nat → Int → MM → Option (Int × MM)
  | 0, _, _ => none
  | n + 1, y5, m => if y5 < y4 then
lx (m p0 0) fun x_98 =>
gd (okc m y1 6) <| lx (m y1 0) fun x_104 =>
gd (okc m x_104 108) <| gd (okx m x_104 y5) <| lx (m x_104 y5) fun x_111 =>
gd (okc m x_98 108) <| gd (okx m x_98 y5) <| gd (x_111 = 0 ∨ okc m x_111 101) <| up m x_98 y5 x_111 fun m_115 =>
lx (w32 (y5 + 1)) fun x_128 =>
fl_X5_becomeFirst_41 p0 y1 y3 y4 k68 n x_128 m_115
else
k68 m
set_option maxHeartbeats 4000000 in
theorem ol_X5_becomeFirst_41 {xs : List Int32} {d : Nat} {Q : QO → QS → Prop} {mb : MM} {p0 y1 y3 y4 : Int} {k68 : MM → Option (Int × MM)} {rz : Int} {rm : MM}
  (hd : 1 ≤ d) (gb : okc mb p0 6)
  (hk68 : ∀ mq : MM, Ext mb mq → ∀ {Sq : QS} {Lq : QL} {u0 : Value} {u1 : Value} {u3 : Value} {u4 : Value}, k68 mq = some (rz, rm) → Rp Sq mq → q_lo Lq 0 = some u0 → q_is 2 u0 p0 → q_lo Lq 1 = some u1 → q_is 2 u1 y1 → q_lo Lq 3 = some u3 → q_is 0 u3 y3 → q_lo Lq 4 = some u4 → q_is 0 u4 y4 → Go xs d qM_X5_becomeFirst 68 Lq [] Sq Q)
  (hQ : Ext mb rm → ∀ o S1, Rp S1 rm → q_out 9 o rz → Q o S1) :
  ∀ (n : Nat) {m : MM} {S : QS} {L : QL} {y5 : Int} {v0 : Value} {v1 : Value} {v3 : Value} {v4 : Value} {v5 : Value} , Ext mb m → fl_X5_becomeFirst_41 p0 y1 y3 y4 k68 n y5 m = some (rz, rm) → Rp S m → q_lo L 0 = some v0 → q_is 2 v0 p0 → q_lo L 1 = some v1 → q_is 2 v1 y1 → q_lo L 3 = some v3 → q_is 0 v3 y3 → q_lo L 4 = some v4 → q_is 0 v4 y4 → q_lo L 5 = some v5 → q_is 0 v5 y5 → Go xs d qM_X5_becomeFirst 41 L [] S Q := by
  intro n
  induction n with
  | zero => intro m S L y5 v0 v1 v3 v4 v5; intro E h R l0 f0 l1 f1 l3 f3 l4 f4 l5 f5; cases h
  | succ n ih0 =>
    intro m S L y5 v0 v1 v3 v4 v5; intro E h R l0 f0 l1 f1 l3 f3 l4 f4 l5 f5
    have ih : ∀ mq : MM, Ext mb mq → ∀ {z5 : Int} {Sq : QS} {Lq : QL} {u0 : Value} {u1 : Value} {u3 : Value} {u4 : Value} {u5 : Value}, fl_X5_becomeFirst_41 p0 y1 y3 y4 k68 n z5 mq = some (rz, rm) → Rp Sq mq → q_lo Lq 0 = some u0 → q_is 2 u0 p0 → q_lo Lq 1 = some u1 → q_is 2 u1 y1 → q_lo Lq 3 = some u3 → q_is 0 u3 y3 → q_lo Lq 4 = some u4 → q_is 0 u4 y4 → q_lo Lq 5 = some u5 → q_is 0 u5 z5 → Go xs d qM_X5_becomeFirst 41 Lq [] Sq Q := fun mq b => by intros; exact ih0 b ‹_› ‹_› ‹_› ‹_› ‹_› ‹_› ‹_› ‹_› ‹_› ‹_› ‹_› ‹_›
    have g0 := Ext.ok E gb
    unfold fl_X5_becomeFirst_41 at h
    refine go_iload (n := 5) (by decide +kernel) l5 f5 ?_
    refine go_iload (n := 4) (by decide +kernel) l4 f4 ?_
    refine go_icmp (c := .ge) (o := 23) (t := 68) (P := ¬ (y5 < y4)) (by decide +kernel) (by decide +kernel) f5 f4 (Int.not_lt.symm) (fun hp_94 => ?_) (fun hp_94 => ?_)
    · have h := it_f hp_94 h
      exact hk68 m E h R l0 f0 l1 f1 l3 f3 l4 f4
    · have h := it_n hp_94 h
      refine go_aload_n (n := 0) (by decide +kernel) l0 f0 ?_
      obtain ⟨x_98, e_99, h⟩ := lx_s h
      refine go_getf (x := 11) (ci := 6) (kf := 0) (fin := 0) (t := 2) (by decide +kernel) (by decide +kernel) (by decide +kernel) R f0 g0 fun v_95 f_96 => ?_
      have f_97 := q_is_eq f_96 e_99
      refine go_iload (n := 5) (by decide +kernel) l5 f5 ?_
      refine go_aload_n (n := 1) (by decide +kernel) l1 f1 ?_
      obtain ⟨g_102, h⟩ := gd_s h
      obtain ⟨x_104, e_105, h⟩ := lx_s h
      refine go_getf (x := 11) (ci := 6) (kf := 0) (fin := 0) (t := 2) (by decide +kernel) (by decide +kernel) (by decide +kernel) R f1 g_102 fun v_100 f_101 => ?_
      have f_103 := q_is_eq f_101 e_105
      refine go_iload (n := 5) (by decide +kernel) l5 f5 ?_
      obtain ⟨g_108, h⟩ := gd_s h
      obtain ⟨g_109, h⟩ := gd_s h
      obtain ⟨x_111, e_112, h⟩ := lx_s h
      refine go_aald (kd := 108) (by decide +kernel) (by decide) R f_103 f5 g_108 g_109 fun v_106 f_107 => ?_
      have f_110 := q_is_eq f_107 e_112
      obtain ⟨g_113, h⟩ := gd_s h
      obtain ⟨g_114, h⟩ := gd_s h
      obtain ⟨g_120, h⟩ := gd_s h
      obtain ⟨m_115, e_116, h⟩ := up_s h
      refine go_aast (kd := 108) (vk := 101) (by decide +kernel) (by decide) R f_97 f5 f_110 g_113 g_114 g_120 e_116 (fx_a R.2 g_113 (And.left g_114) (by decide +kernel)) fun S_117 R_118 E_119 => ?_
      have E_122 := Ext.tr E E_119
      refine go_iinc (n := 5) (c := 1) (c' := 1) (by decide +kernel) (by decide +kernel) l5 f5 (by decide) fun L_123 v_124 f_125 l_126 kp_127 => ?_
      obtain ⟨x_128, e_129, h⟩ := lx_s h
      have f_130 := q_is_eq f_125 e_129
      have l_131 := kp_127 0 _ l0 (by decide) (Or.inl (by decide))
      have l_132 := kp_127 1 _ l1 (by decide) (Or.inl (by decide))
      have l_133 := kp_127 3 _ l3 (by decide) (Or.inl (by decide))
      have l_134 := kp_127 4 _ l4 (by decide) (Or.inr (q_is_cat f4 (Or.inl rfl)))
      refine go_goto (o := (-24)) (t := 41) (by decide +kernel) (by decide +kernel) ?_
      exact ih m_115 E_122 h R_118 l_131 f0 l_132 f1 l_133 f3 l_134 f4 l_126 f_130
noncomputable def fl_X5_becomeFirst_89 (p0 y1 y3 : Int) : Nat → Int → MM → Option (Int × MM)
  | 0, _, _ => none
  | n + 1, y5, m => if y5 < y3 then
gd (okc m y1 6) <| bp (fm_X5_wide y1 y5 m) fun x_190 =>
bd (fm_X5_add p0 x_190 m) fun x_199 m_200 =>
lx (w32 (y5 + 1)) fun x_215 =>
fl_X5_becomeFirst_89 p0 y1 y3 n x_215 m_200
else
some (0, m)
set_option maxHeartbeats 4000000 in
theorem ol_X5_becomeFirst_89 {xs : List Int32} {d : Nat} {Q : QO → QS → Prop} {mb : MM} {p0 y1 y3 : Int} {rz : Int} {rm : MM}
  (hd : 1 ≤ d) (gb : okc mb p0 6)
  (hQ : Ext mb rm → ∀ o S1, Rp S1 rm → q_out 9 o rz → Q o S1) :
  ∀ (n : Nat) {m : MM} {S : QS} {L : QL} {y5 : Int} {v0 : Value} {v1 : Value} {v3 : Value} {v5 : Value} , Ext mb m → fl_X5_becomeFirst_89 p0 y1 y3 n y5 m = some (rz, rm) → Rp S m → q_lo L 0 = some v0 → q_is 2 v0 p0 → q_lo L 1 = some v1 → q_is 2 v1 y1 → q_lo L 3 = some v3 → q_is 0 v3 y3 → q_lo L 5 = some v5 → q_is 0 v5 y5 → Go xs d qM_X5_becomeFirst 89 L [] S Q := by
  intro n
  induction n with
  | zero => intro m S L y5 v0 v1 v3 v5; intro E h R l0 f0 l1 f1 l3 f3 l5 f5; cases h
  | succ n ih0 =>
    intro m S L y5 v0 v1 v3 v5; intro E h R l0 f0 l1 f1 l3 f3 l5 f5
    have ih : ∀ mq : MM, Ext mb mq → ∀ {z5 : Int} {Sq : QS} {Lq : QL} {u0 : Value} {u1 : Value} {u3 : Value} {u5 : Value}, fl_X5_becomeFirst_89 p0 y1 y3 n z5 mq = some (rz, rm) → Rp Sq mq → q_lo Lq 0 = some u0 → q_is 2 u0 p0 → q_lo Lq 1 = some u1 → q_is 2 u1 y1 → q_lo Lq 3 = some u3 → q_is 0 u3 y3 → q_lo Lq 5 = some u5 → q_is 0 u5 z5 → Go xs d qM_X5_becomeFirst 89 Lq [] Sq Q := fun mq b => by intros; exact ih0 b ‹_› ‹_› ‹_› ‹_› ‹_› ‹_› ‹_› ‹_› ‹_› ‹_›
    have g0 := Ext.ok E gb
    unfold fl_X5_becomeFirst_89 at h
    refine go_iload (n := 5) (by decide +kernel) l5 f5 ?_
    refine go_iload_n (n := 3) (by decide +kernel) l3 f3 ?_
    refine go_icmp (c := .ge) (o := 19) (t := 111) (P := ¬ (y5 < y3)) (by decide +kernel) (by decide +kernel) f5 f3 (Int.not_lt.symm) (fun hp_187 => ?_) (fun hp_187 => ?_)
    · have h := it_f hp_187 h
      cases h
      exact go_vret (by decide +kernel) rfl (hQ E _ _ R q_out_n)
    · have h := it_n hp_187 h
      refine go_aload_n (n := 0) (by decide +kernel) l0 f0 ?_
      refine go_aload_n (n := 1) (by decide +kernel) l1 f1 ?_
      refine go_iload (n := 5) (by decide +kernel) l5 f5 ?_
      obtain ⟨g_188, h⟩ := gd_s h
      obtain ⟨x_190, hc_189, h⟩ := bp_s h
      refine go_callV (x := 22) (mi := 58) (n := 1) (ci := 6) (as := [v5]) (rest := [v0]) (by decide +kernel) (by decide +kernel) rfl rfl (q_sum8 _ (Nat.le_of_ble_eq_true rfl)) R f1 g_188 (om_X5_wide (Nat.le_trans (by decide) hd) R g_188 f1 f5 hc_189) (fun _ S_194 q_197 => ?_) (fun _ _ qq => kr_x qq)
      refine kr_z (by decide) q_197 fun v_192 f_193 R_195 E_196 => ?_
      obtain ⟨x_199, m_200, hc_198, h⟩ := bd_s h
      refine go_callV (x := 45) (mi := 60) (n := 1) (ci := 6) (as := [v_192]) (rest := []) (by decide +kernel) (by decide +kernel) rfl rfl (q_sum8 _ (Nat.le_of_ble_eq_true rfl)) R_195 f0 g0 (om_X5_add (Nat.le_trans (by decide) hd) R_195 g0 f0 f_193 hc_198) (fun _ S_203 q_206 => ?_) (fun _ _ qq => kr_x qq)
      refine kr_v q_206 fun R_204 E_205 => ?_
      have E_209 := Ext.tr E E_205
      refine go_iinc (n := 5) (c := 1) (c' := 1) (by decide +kernel) (by decide +kernel) l5 f5 (by decide) fun L_210 v_211 f_212 l_213 kp_214 => ?_
      obtain ⟨x_215, e_216, h⟩ := lx_s h
      have f_217 := q_is_eq f_212 e_216
      have l_218 := kp_214 0 _ l0 (by decide) (Or.inl (by decide))
      have l_219 := kp_214 1 _ l1 (by decide) (Or.inl (by decide))
      have l_220 := kp_214 3 _ l3 (by decide) (Or.inl (by decide))
      refine go_goto (o := (-19)) (t := 89) (by decide +kernel) (by decide +kernel) ?_
      exact ih m_200 E_209 h R_204 l_218 f0 l_219 f1 l_220 f3 l_213 f_217
noncomputable def fm_X5_becomeFirst (p0 p1 p2 : Int) (m0 : MM) : Option (Int × MM) := gd (okc m0 p1 6) <| lx (m0 p1 2) fun x_5 =>
bp (fm_J9_max_7cf53 0 p2 m0) fun x_10 =>
bp (fm_J9_min_7cf53 x_5 x_10 m0) fun x_19 =>
lx (m0 p1 0) fun x_39 =>
gd (okc m0 x_39 108) <| bp (fm_J9_min_7cf53 (iShr x_19 6) (w32 (m0 x_39 (-2))) m0) fun x_45 =>
gd (0 ≤ w32 (x_45 + 1) ∧ w32 (x_45 + 1) < 60000000) <| nw m0 108 (w32 (x_45 + 1)) fun x_64 m_65 =>
up m_65 p0 0 x_64 fun m_78 =>
fl_X5_becomeFirst_41 p0 p1 x_19 x_45 (fun m_150 =>
up m_150 p0 1 x_45 fun m_156 =>
up m_156 p0 2 (iShl x_45 6) fun m_168 =>
lx (m_168 p0 2) fun x_179 =>
fl_X5_becomeFirst_89 p0 p1 x_19  BIG x_179 m_168) BIG 0 m_78
set_option maxHeartbeats 4000000 in
theorem om_X5_becomeFirst {xs : List Int32} {d : Nat} {S : QS} {m0 : MM} {p0 p1 p2 : Int} {v0 : Value} {v1 : Value} {v2 : Value} {rz : Int} {rm : MM}
  (hd : 2 ≤ d) (R : Rp S m0) (g0 : okc m0 p0 6) (f0 : q_is 2 v0 p0) (f1 : q_is 2 v1 p1) (f2 : q_is 0 v2 p2)
  (h : fm_X5_becomeFirst p0 p1 p2 m0 = some (rz, rm)) : Mt xs d 64 [v0, v1, v2] S (Cr 9 m0 rm rz) := by
  obtain ⟨d, rfl⟩ : ∃ e, d = e + 1 := ⟨d - 1, by omega⟩
  have hd : 1 ≤ d := Nat.le_of_succ_le_succ hd
  refine Mt.of (M := qM_X5_becomeFirst) rfl (by rw [sl_1 (q_is_cat f0 (Or.inr rfl)), sl_1 (q_is_cat f1 (Or.inr rfl)), sl_1 (q_is_cat f2 (Or.inl rfl)), sl_0]; decide) ?_
  rw [la_1 (q_is_cat f0 (Or.inr rfl)), la_1 (q_is_cat f1 (Or.inr rfl)), la_1 (q_is_cat f2 (Or.inl rfl)), la_0]
  obtain ⟨L, hL⟩ : ∃ L : QL, L = [(0, v0), (0 + 1, v1), (0 + 1 + 1, v2)] := ⟨_, rfl⟩
  rw [← hL]
  have l0 : q_lo L 0 = some v0 := by rw [hL]; rfl
  have l1 : q_lo L 1 = some v1 := by rw [hL]; rfl
  have l2 : q_lo L 2 = some v2 := by rw [hL]; rfl
  have hQ : Ext m0 rm → ∀ o S1, Rp S1 rm → q_out 9 o rz → (Cr 9 m0 rm rz) o S1 := fun a o S1 b e => ⟨b, a, e⟩
  unfold fm_X5_becomeFirst at h
  refine go_aload_n (n := 1) (by decide +kernel) l1 f1 ?_
  obtain ⟨g_3, h⟩ := gd_s h
  obtain ⟨x_5, e_6, h⟩ := lx_s h
  refine go_getf (x := 19) (ci := 6) (kf := 2) (fin := 0) (t := 0) (by decide +kernel) (by decide +kernel) (by decide +kernel) R f1 g_3 fun v_1 f_2 => ?_
  have f_4 := q_is_eq f_2 e_6
  refine go_iconst (n := 0) (z := 0) (by decide +kernel) (by decide) fun v_7 f_8 => ?_
  refine go_iload_n (n := 2) (by decide +kernel) l2 f2 ?_
  obtain ⟨x_10, hc_9, h⟩ := bp_s h
  refine go_callS (x := 30) (mi := 319) (n := 2) (b := 0) (as := [v_7, v2]) (rest := [v_1]) (by decide +kernel) (by decide +kernel) rfl rfl (q_sum8 _ (Nat.le_of_ble_eq_true rfl)) (om_J9_max_7cf53 (Nat.le_trans (by decide) hd) R f_8 f2 hc_9) (fun _ S_14 q_17 => ?_) (fun _ _ qq => kr_x qq)
  refine kr_z (by decide) q_17 fun v_12 f_13 R_15 E_16 => ?_
  obtain ⟨x_19, hc_18, h⟩ := bp_s h
  refine go_callS (x := 36) (mi := 320) (n := 2) (b := 0) (as := [v_1, v_12]) (rest := []) (by decide +kernel) (by decide +kernel) rfl rfl (q_sum8 _ (Nat.le_of_ble_eq_true rfl)) (om_J9_min_7cf53 (Nat.le_trans (by decide) hd) R_15 f_4 f_13 hc_18) (fun _ S_23 q_26 => ?_) (fun _ _ qq => kr_x qq)
  refine kr_z (by decide) q_26 fun v_21 f_22 R_24 E_25 => ?_
  refine go_istore_n (n := 3) (by decide +kernel) (by decide +kernel) f_22 fun L_27 l_28 kp_29 => ?_
  have l_30 := kp_29 0 _ l0 (by decide) (Or.inl (by decide))
  have l_31 := kp_29 1 _ l1 (by decide) (Or.inl (by decide))
  refine go_iload_n (n := 3) (by decide +kernel) l_28 f_22 ?_
  refine go_bipush (n := 6) (z := 6) (by decide +kernel) (by decide) fun v_32 f_33 => ?_
  refine go_ishr (by decide +kernel) f_22 f_33 fun v_34 f_35 => ?_
  refine go_aload_n (n := 1) (by decide +kernel) l_31 f1 ?_
  obtain ⟨x_39, e_40, h⟩ := lx_s h
  refine go_getf (x := 11) (ci := 6) (kf := 0) (fin := 0) (t := 2) (by decide +kernel) (by decide +kernel) (by decide +kernel) R_24 f1 g_3 fun v_36 f_37 => ?_
  have f_38 := q_is_eq f_37 e_40
  obtain ⟨g_43, h⟩ := gd_s h
  refine go_alen (by decide +kernel) R_24 f_38 (okl_of g_43 (by decide)) fun v_41 f_42 => ?_
  obtain ⟨x_45, hc_44, h⟩ := bp_s h
  refine go_callS (x := 36) (mi := 320) (n := 2) (b := 0) (as := [v_34, v_41]) (rest := []) (by decide +kernel) (by decide +kernel) rfl rfl (q_sum8 _ (Nat.le_of_ble_eq_true rfl)) (om_J9_min_7cf53 (Nat.le_trans (by decide) hd) R_24 f_35 f_42 hc_44) (fun _ S_49 q_52 => ?_) (fun _ _ qq => kr_x qq)
  refine kr_z (by decide) q_52 fun v_47 f_48 R_50 E_51 => ?_
  refine go_istore (n := 4) (by decide +kernel) (by decide +kernel) f_48 fun L_53 l_54 kp_55 => ?_
  have l_56 := kp_55 0 _ l_30 (by decide) (Or.inl (by decide))
  have l_57 := kp_55 1 _ l_31 (by decide) (Or.inl (by decide))
  have l_58 := kp_55 3 _ l_28 (by decide) (Or.inr (q_is_cat f_22 (Or.inl rfl)))
  refine go_aload_n (n := 0) (by decide +kernel) l_56 f0 ?_
  refine go_iload (n := 4) (by decide +kernel) l_54 f_48 ?_
  refine go_iconst (n := 1) (z := 1) (by decide +kernel) (by decide) fun v_59 f_60 => ?_
  refine go_iadd (by decide +kernel) f_48 f_60 fun v_61 f_62 => ?_
  obtain ⟨g_63, h⟩ := gd_s h
  obtain ⟨x_64, m_65, e_66, e_67, h⟩ := nw_s h
  have g_73 := okc_nw (c := 108) R_50 e_66 e_67
  refine go_anewa (x := 9) (kd := 108) (a := 0) (b := 0) (by decide +kernel) (by decide +kernel) f_62 g_63 R_50 e_66 e_67 fun v_68 S_70 f_69 R_71 E_72 => ?_
  have E_76 := E_72
  have g_77 := Ext.ok E_72 g0
  obtain ⟨m_78, e_79, h⟩ := up_s h
  refine go_putf (x := 11) (ci := 6) (kf := 0) (fin := 0) (zt := 2) (by decide +kernel) (by decide +kernel) (by decide) (by decide +kernel) (by decide) (Or.inl rfl) R_71 f0 f_69 (fun hq => absurd hq (by decide)) g_77 e_79 (fx_f (j := 0) R_71.2 g_77 (by decide +kernel)) fun S_80 R_81 E_82 => ?_
  have E_84 := Ext.tr E_76 E_82
  refine go_iconst (n := 0) (z := 0) (by decide +kernel) (by decide) fun v_85 f_86 => ?_
  refine go_istore (n := 5) (by decide +kernel) (by decide +kernel) f_86 fun L_87 l_88 kp_89 => ?_
  have l_90 := kp_89 0 _ l_56 (by decide) (Or.inl (by decide))
  have l_91 := kp_89 1 _ l_57 (by decide) (Or.inl (by decide))
  have l_92 := kp_89 3 _ l_58 (by decide) (Or.inl (by decide))
  have l_93 := kp_89 4 _ l_54 (by decide) (Or.inr (q_is_cat f_48 (Or.inl rfl)))
  have g_221 := Ext.ok E_82 g_77
  refine ol_X5_becomeFirst_41 hd  g_221 ?_ (fun b => hQ (Ext.tr E_84 b)) BIG (Ext.rf _) h R_81 l_90 f0 l_91 f1 l_92 f_22 l_93 f_48 l_88 f_86
  intro m_150 E_151
  intro S_147 L_148 v_135 v_136 v_137 v_138
  intro h R_149 l_139 f_143 l_140 f_144 l_141 f_145 l_142 f_146
  have E_152 := Ext.tr E_84 E_151
  refine go_aload_n (n := 0) (by decide +kernel) l_139 f_143 ?_
  refine go_iload (n := 4) (by decide +kernel) l_142 f_146 ?_
  have g_155 := Ext.ok (Ext.tr E_82 E_151) g_77
  obtain ⟨m_156, e_157, h⟩ := up_s h
  refine go_putf (x := 15) (ci := 6) (kf := 1) (fin := 0) (zt := 0) (by decide +kernel) (by decide +kernel) (by decide) (by decide +kernel) (by decide) (Or.inl rfl) R_149 f_143 f_146 (fun hq => absurd hq (by decide)) g_155 e_157 (fx_f (j := 1) R_149.2 g_155 (by decide +kernel)) fun S_158 R_159 E_160 => ?_
  have E_162 := Ext.tr E_152 E_160
  refine go_aload_n (n := 0) (by decide +kernel) l_139 f_143 ?_
  refine go_iload (n := 4) (by decide +kernel) l_142 f_146 ?_
  refine go_bipush (n := 6) (z := 6) (by decide +kernel) (by decide) fun v_163 f_164 => ?_
  refine go_ishl (by decide +kernel) f_146 f_164 fun v_165 f_166 => ?_
  have g_167 := Ext.ok E_160 g_155
  obtain ⟨m_168, e_169, h⟩ := up_s h
  refine go_putf (x := 19) (ci := 6) (kf := 2) (fin := 0) (zt := 0) (by decide +kernel) (by decide +kernel) (by decide) (by decide +kernel) (by decide) (Or.inl rfl) R_159 f_143 f_166 (fun hq => absurd hq (by decide)) g_167 e_169 (fx_f (j := 2) R_159.2 g_167 (by decide +kernel)) fun S_170 R_171 E_172 => ?_
  have E_174 := Ext.tr E_162 E_172
  refine go_aload_n (n := 0) (by decide +kernel) l_139 f_143 ?_
  have g_177 := Ext.ok E_172 g_167
  obtain ⟨x_179, e_180, h⟩ := lx_s h
  refine go_getf (x := 19) (ci := 6) (kf := 2) (fin := 0) (t := 0) (by decide +kernel) (by decide +kernel) (by decide +kernel) R_171 f_143 g_177 fun v_175 f_176 => ?_
  have f_178 := q_is_eq f_176 e_180
  refine go_istore (n := 5) (by decide +kernel) (by decide +kernel) f_178 fun L_181 l_182 kp_183 => ?_
  have l_184 := kp_183 0 _ l_139 (by decide) (Or.inl (by decide))
  have l_185 := kp_183 1 _ l_140 (by decide) (Or.inl (by decide))
  have l_186 := kp_183 3 _ l_141 (by decide) (Or.inl (by decide))
  refine ol_X5_becomeFirst_89 hd  g_177  (fun b => hQ (Ext.tr E_174 b)) BIG (Ext.rf _) h R_171 l_184 f_143 l_185 f_144 l_186 f_145 l_182 f_178
noncomputable def fm_X2_becomeFirst (p0 p1 p2 : Int) (m0 : MM) : Option (Int × MM) := lx (m0 p0 0) fun x_4 =>
gd (okc m0 p1 3) <| lx (m0 p1 0) fun x_10 =>
gd (okc m0 x_4 6) <| bd (fm_X5_becomeFirst x_4 x_10 p2 m0) fun x_14 m_15 =>
bd (fm_X2_countAgain p0 m_15) fun x_27 m_28 =>
some (0, m_28)
set_option maxHeartbeats 4000000 in
theorem om_X2_becomeFirst {xs : List Int32} {d : Nat} {S : QS} {m0 : MM} {p0 p1 p2 : Int} {v0 : Value} {v1 : Value} {v2 : Value} {rz : Int} {rm : MM}
  (hd : 4 ≤ d) (R : Rp S m0) (g0 : okc m0 p0 3) (f0 : q_is 2 v0 p0) (f1 : q_is 2 v1 p1) (f2 : q_is 0 v2 p2)
  (h : fm_X2_becomeFirst p0 p1 p2 m0 = some (rz, rm)) : Mt xs d 17 [v0, v1, v2] S (Cr 9 m0 rm rz) := by
  obtain ⟨d, rfl⟩ : ∃ e, d = e + 1 := ⟨d - 1, by omega⟩
  have hd : 3 ≤ d := Nat.le_of_succ_le_succ hd
  refine Mt.of (M := qM_X2_becomeFirst) rfl (by rw [sl_1 (q_is_cat f0 (Or.inr rfl)), sl_1 (q_is_cat f1 (Or.inr rfl)), sl_1 (q_is_cat f2 (Or.inl rfl)), sl_0]; decide) ?_
  rw [la_1 (q_is_cat f0 (Or.inr rfl)), la_1 (q_is_cat f1 (Or.inr rfl)), la_1 (q_is_cat f2 (Or.inl rfl)), la_0]
  obtain ⟨L, hL⟩ : ∃ L : QL, L = [(0, v0), (0 + 1, v1), (0 + 1 + 1, v2)] := ⟨_, rfl⟩
  rw [← hL]
  have l0 : q_lo L 0 = some v0 := by rw [hL]; rfl
  have l1 : q_lo L 1 = some v1 := by rw [hL]; rfl
  have l2 : q_lo L 2 = some v2 := by rw [hL]; rfl
  have hQ : Ext m0 rm → ∀ o S1, Rp S1 rm → q_out 9 o rz → (Cr 9 m0 rm rz) o S1 := fun a o S1 b e => ⟨b, a, e⟩
  unfold fm_X2_becomeFirst at h
  refine go_aload_n (n := 0) (by decide +kernel) l0 f0 ?_
  obtain ⟨x_4, e_5, h⟩ := lx_s h
  refine go_getf (x := 22) (ci := 3) (kf := 0) (fin := 1) (t := 2) (by decide +kernel) (by decide +kernel) (by decide +kernel) R f0 g0 fun v_1 f_2 => ?_
  have f_3 := q_is_eq f_2 e_5
  refine go_aload_n (n := 1) (by decide +kernel) l1 f1 ?_
  obtain ⟨g_8, h⟩ := gd_s h
  obtain ⟨x_10, e_11, h⟩ := lx_s h
  refine go_getf (x := 22) (ci := 3) (kf := 0) (fin := 1) (t := 2) (by decide +kernel) (by decide +kernel) (by decide +kernel) R f1 g_8 fun v_6 f_7 => ?_
  have f_9 := q_is_eq f_7 e_11
  refine go_iload_n (n := 2) (by decide +kernel) l2 f2 ?_
  obtain ⟨g_12, h⟩ := gd_s h
  obtain ⟨x_14, m_15, hc_13, h⟩ := bd_s h
  refine go_callV (x := 47) (mi := 64) (n := 2) (ci := 6) (as := [v_6, v2]) (rest := []) (by decide +kernel) (by decide +kernel) rfl rfl (q_sum8 _ (Nat.le_of_ble_eq_true rfl)) R f_3 g_12 (om_X5_becomeFirst (Nat.le_trans (by decide) hd) R g_12 f_3 f_9 f2 hc_13) (fun _ S_18 q_21 => ?_) (fun _ _ qq => kr_x qq)
  refine kr_v q_21 fun R_19 E_20 => ?_
  have E_24 := E_20
  refine go_aload_n (n := 0) (by decide +kernel) l0 f0 ?_
  have g_25 := Ext.ok E_20 g0
  obtain ⟨x_27, m_28, hc_26, h⟩ := bd_s h
  refine go_callV (x := 44) (mi := 18) (n := 0) (ci := 3) (as := []) (rest := []) (by decide +kernel) (by decide +kernel) rfl rfl (q_sum8 _ (Nat.le_of_ble_eq_true rfl)) R_19 f0 g_25 (om_X2_countAgain (Nat.le_trans (by decide) hd) R_19 g_25 f0 hc_26) (fun _ S_31 q_34 => ?_) (fun _ _ qq => kr_x qq)
  refine kr_v q_34 fun R_32 E_33 => ?_
  have E_37 := Ext.tr E_24 E_33
  cases h
  exact go_vret (by decide +kernel) rfl (hQ E_37 _ _ R_32 q_out_n)
noncomputable def fl_X2_has_2 (p0 y1 : Int) (m0 : MM) : Nat → Int → Option Int
  | 0, _ => none
  | n + 1, y2 => lx (m0 p0 1) fun x_11 =>
if y2 < x_11 then
bp (fm_X2_kind p0 y2 m0) fun x_17 =>
if x_17 = y1 then
some 1
else
lx (w32 (y2 + 1)) fun x_31 =>
fl_X2_has_2 p0 y1 m0 n x_31
else
some 0
set_option maxHeartbeats 4000000 in
theorem ol_X2_has_2 {xs : List Int32} {d : Nat} {Q : QO → QS → Prop} {m0 : MM} {p0 y1 : Int} {rz : Int}
  (hd : 2 ≤ d) (gb : okc m0 p0 3)
  (hQ : ∀ o S1, Rp S1 m0 → q_out 0 o rz → Q o S1) :
  ∀ (n : Nat) {S : QS} {L : QL} {y2 : Int} {v0 : Value} {v1 : Value} {v2 : Value} , fl_X2_has_2 p0 y1 m0 n y2 = some rz → Rp S m0 → q_lo L 0 = some v0 → q_is 2 v0 p0 → q_lo L 1 = some v1 → q_is 0 v1 y1 → q_lo L 2 = some v2 → q_is 0 v2 y2 → Go xs d qM_X2_has 2 L [] S Q := by
  intro n
  induction n with
  | zero => intro S L y2 v0 v1 v2; intro h R l0 f0 l1 f1 l2 f2; cases h
  | succ n ih0 =>
    intro S L y2 v0 v1 v2; intro h R l0 f0 l1 f1 l2 f2
    have ih : ∀ {z2 : Int} {Sq : QS} {Lq : QL} {u0 : Value} {u1 : Value} {u2 : Value}, fl_X2_has_2 p0 y1 m0 n z2 = some rz → Rp Sq m0 → q_lo Lq 0 = some u0 → q_is 2 u0 p0 → q_lo Lq 1 = some u1 → q_is 0 u1 y1 → q_lo Lq 2 = some u2 → q_is 0 u2 z2 → Go xs d qM_X2_has 2 Lq [] Sq Q := by intros; exact ih0 ‹_› ‹_› ‹_› ‹_› ‹_› ‹_› ‹_› ‹_›
    have g0 := gb
    unfold fl_X2_has_2 at h
    refine go_iload_n (n := 2) (by decide +kernel) l2 f2 ?_
    refine go_aload_n (n := 0) (by decide +kernel) l0 f0 ?_
    obtain ⟨x_11, e_12, h⟩ := lx_s h
    refine go_getf (x := 9) (ci := 3) (kf := 1) (fin := 0) (t := 0) (by decide +kernel) (by decide +kernel) (by decide +kernel) R f0 g0 fun v_8 f_9 => ?_
    have f_10 := q_is_eq f_9 e_12
    refine go_icmp (c := .ge) (o := 20) (t := 27) (P := ¬ (y2 < x_11)) (by decide +kernel) (by decide +kernel) f2 f_10 (Int.not_lt.symm) (fun hp_13 => ?_) (fun hp_13 => ?_)
    · have h := it_f hp_13 h
      refine go_iconst (n := 0) (z := 0) (by decide +kernel) (by decide) fun v_14 f_15 => ?_
      cases h
      exact go_iret (by decide +kernel) rfl (Or.inr ⟨rfl, by decide⟩) f_15 (hQ _ _ R (q_out_v (by decide) f_15))
    · have h := it_n hp_13 h
      refine go_aload_n (n := 0) (by decide +kernel) l0 f0 ?_
      refine go_iload_n (n := 2) (by decide +kernel) l2 f2 ?_
      obtain ⟨x_17, hc_16, h⟩ := bp_s h
      refine go_callV (x := 51) (mi := 9) (n := 1) (ci := 3) (as := [v2]) (rest := []) (by decide +kernel) (by decide +kernel) rfl rfl (q_sum8 _ (Nat.le_of_ble_eq_true rfl)) R f0 g0 (om_X2_kind (Nat.le_trans (by decide) hd) R g0 f0 f2 hc_16) (fun _ S_21 q_24 => ?_) (fun _ _ qq => kr_x qq)
      refine kr_z (by decide) q_24 fun v_19 f_20 R_22 E_23 => ?_
      refine go_iload_n (n := 1) (by decide +kernel) l1 f1 ?_
      refine go_icmp (c := .ne) (o := 5) (t := 21) (P := ¬ (x_17 = y1)) (by decide +kernel) (by decide +kernel) f_20 f1 (Iff.rfl) (fun hp_25 => ?_) (fun hp_25 => ?_)
      · have h := it_f hp_25 h
        refine go_iinc (n := 2) (c := 1) (c' := 1) (by decide +kernel) (by decide +kernel) l2 f2 (by decide) fun L_26 v_27 f_28 l_29 kp_30 => ?_
        obtain ⟨x_31, e_32, h⟩ := lx_s h
        have f_33 := q_is_eq f_28 e_32
        have l_34 := kp_30 0 _ l0 (by decide) (Or.inl (by decide))
        have l_35 := kp_30 1 _ l1 (by decide) (Or.inr (q_is_cat f1 (Or.inl rfl)))
        refine go_goto (o := (-22)) (t := 2) (by decide +kernel) (by decide +kernel) ?_
        exact ih h R_22 l_34 f0 l_35 f1 l_29 f_33
      · have h := it_n hp_25 h
        refine go_iconst (n := 1) (z := 1) (by decide +kernel) (by decide) fun v_36 f_37 => ?_
        cases h
        exact go_iret (by decide +kernel) rfl (Or.inr ⟨rfl, by decide⟩) f_37 (hQ _ _ R_22 (q_out_v (by decide) f_37))
noncomputable def fm_X2_has (p0 p1 : Int) (m0 : MM) : Option Int := fl_X2_has_2 p0 p1 m0  BIG 0
set_option maxHeartbeats 4000000 in
theorem om_X2_has {xs : List Int32} {d : Nat} {S : QS} {m0 : MM} {p0 p1 : Int} {v0 : Value} {v1 : Value} {rz : Int}
  (hd : 3 ≤ d) (R : Rp S m0) (g0 : okc m0 p0 3) (f0 : q_is 2 v0 p0) (f1 : q_is 0 v1 p1)
  (h : fm_X2_has p0 p1 m0 = some rz) : Mt xs d 19 [v0, v1] S (Cr 0 m0 m0 rz) := by
  obtain ⟨d, rfl⟩ : ∃ e, d = e + 1 := ⟨d - 1, by omega⟩
  have hd : 2 ≤ d := Nat.le_of_succ_le_succ hd
  refine Mt.of (M := qM_X2_has) rfl (by rw [sl_1 (q_is_cat f0 (Or.inr rfl)), sl_1 (q_is_cat f1 (Or.inl rfl)), sl_0]; decide) ?_
  rw [la_1 (q_is_cat f0 (Or.inr rfl)), la_1 (q_is_cat f1 (Or.inl rfl)), la_0]
  obtain ⟨L, hL⟩ : ∃ L : QL, L = [(0, v0), (0 + 1, v1)] := ⟨_, rfl⟩
  rw [← hL]
  have l0 : q_lo L 0 = some v0 := by rw [hL]; rfl
  have l1 : q_lo L 1 = some v1 := by rw [hL]; rfl
  have hQ : ∀ o S1, Rp S1 m0 → q_out 0 o rz → (Cr 0 m0 m0 rz) o S1 := fun o S1 a b => ⟨a, Ext.rf _, b⟩
  unfold fm_X2_has at h
  refine go_iconst (n := 0) (z := 0) (by decide +kernel) (by decide) fun v_1 f_2 => ?_
  refine go_istore_n (n := 2) (by decide +kernel) (by decide +kernel) f_2 fun L_3 l_4 kp_5 => ?_
  have l_6 := kp_5 0 _ l0 (by decide) (Or.inl (by decide))
  have l_7 := kp_5 1 _ l1 (by decide) (Or.inr (q_is_cat f1 (Or.inl rfl)))
  refine ol_X2_has_2 hd  g0  hQ BIG h R l_6 f0 l_7 f1 l_4 f_2
noncomputable def fm_X2_is (p0 p1 p2 p3 p4 : Int) (m0 : MM) : Option Int := lx (lOr (lOr (lShl p2 29) (lShl (iAnd p3 524287) 10)) (iAnd p4 1023)) fun x_27 =>
if p1 < 0 then
some 0
else
lx (m0 p0 1) fun x_41 =>
if p1 < x_41 then
lx (m0 p0 0) fun x_49 =>
gd (okc m0 x_49 6) <| bp (fm_X5_wide x_49 p1 m0) fun x_53 =>
if lUshr x_53 30 = x_27 then
some 1
else
some 0
else
some 0
set_option maxHeartbeats 4000000 in
theorem om_X2_is {xs : List Int32} {d : Nat} {S : QS} {m0 : MM} {p0 p1 p2 p3 p4 : Int} {v0 : Value} {v1 : Value} {v2 : Value} {v3 : Value} {v4 : Value} {rz : Int}
  (hd : 2 ≤ d) (R : Rp S m0) (g0 : okc m0 p0 3) (f0 : q_is 2 v0 p0) (f1 : q_is 0 v1 p1) (f2 : q_is 0 v2 p2) (f3 : q_is 0 v3 p3) (f4 : q_is 0 v4 p4)
  (h : fm_X2_is p0 p1 p2 p3 p4 m0 = some rz) : Mt xs d 20 [v0, v1, v2, v3, v4] S (Cr 0 m0 m0 rz) := by
  obtain ⟨d, rfl⟩ : ∃ e, d = e + 1 := ⟨d - 1, by omega⟩
  have hd : 1 ≤ d := Nat.le_of_succ_le_succ hd
  refine Mt.of (M := qM_X2_is) rfl (by rw [sl_1 (q_is_cat f0 (Or.inr rfl)), sl_1 (q_is_cat f1 (Or.inl rfl)), sl_1 (q_is_cat f2 (Or.inl rfl)), sl_1 (q_is_cat f3 (Or.inl rfl)), sl_1 (q_is_cat f4 (Or.inl rfl)), sl_0]; decide) ?_
  rw [la_1 (q_is_cat f0 (Or.inr rfl)), la_1 (q_is_cat f1 (Or.inl rfl)), la_1 (q_is_cat f2 (Or.inl rfl)), la_1 (q_is_cat f3 (Or.inl rfl)), la_1 (q_is_cat f4 (Or.inl rfl)), la_0]
  obtain ⟨L, hL⟩ : ∃ L : QL, L = [(0, v0), (0 + 1, v1), (0 + 1 + 1, v2), (0 + 1 + 1 + 1, v3), (0 + 1 + 1 + 1 + 1, v4)] := ⟨_, rfl⟩
  rw [← hL]
  have l0 : q_lo L 0 = some v0 := by rw [hL]; rfl
  have l1 : q_lo L 1 = some v1 := by rw [hL]; rfl
  have l2 : q_lo L 2 = some v2 := by rw [hL]; rfl
  have l3 : q_lo L 3 = some v3 := by rw [hL]; rfl
  have l4 : q_lo L 4 = some v4 := by rw [hL]; rfl
  have hQ : ∀ o S1, Rp S1 m0 → q_out 0 o rz → (Cr 0 m0 m0 rz) o S1 := fun o S1 a b => ⟨a, Ext.rf _, b⟩
  unfold fm_X2_is at h
  refine go_iload_n (n := 2) (by decide +kernel) l2 f2 ?_
  refine go_i2l (by decide +kernel) f2 fun v_1 f_2 => ?_
  refine go_bipush (n := 29) (z := 29) (by decide +kernel) (by decide) fun v_3 f_4 => ?_
  refine go_lshl (by decide +kernel) f_2 f_4 fun v_5 f_6 => ?_
  refine go_iload_n (n := 3) (by decide +kernel) l3 f3 ?_
  refine go_ldc (x := 32) (n := 524287) (a := 0) (b := 0) (z := 524287) (by decide +kernel) (by decide +kernel) (by decide +kernel) fun v_7 f_8 => ?_
  refine go_iand (by decide +kernel) f3 f_8 fun v_9 f_10 => ?_
  refine go_i2l (by decide +kernel) f_10 fun v_11 f_12 => ?_
  refine go_bipush (n := 10) (z := 10) (by decide +kernel) (by decide) fun v_13 f_14 => ?_
  refine go_lshl (by decide +kernel) f_12 f_14 fun v_15 f_16 => ?_
  refine go_lor (by decide +kernel) f_6 f_16 fun v_17 f_18 => ?_
  refine go_iload (n := 4) (by decide +kernel) l4 f4 ?_
  refine go_sipush (n := 1023) (z := 1023) (by decide +kernel) (by decide) fun v_19 f_20 => ?_
  refine go_iand (by decide +kernel) f4 f_20 fun v_21 f_22 => ?_
  refine go_i2l (by decide +kernel) f_22 fun v_23 f_24 => ?_
  refine go_lor (by decide +kernel) f_18 f_24 fun v_25 f_26 => ?_
  obtain ⟨x_27, e_28, h⟩ := lx_s h
  have f_29 := q_is_eq f_26 e_28
  refine go_lstore (n := 5) (by decide +kernel) (by decide +kernel) f_29 fun L_30 l_31 kp_32 => ?_
  have l_33 := kp_32 0 _ l0 (by decide) (by decide) (Or.inl (by decide))
  have l_34 := kp_32 1 _ l1 (by decide) (by decide) (Or.inl (by decide))
  refine go_iload_n (n := 1) (by decide +kernel) l_34 f1 ?_
  refine go_if (c := .lt) (o := 32) (t := 57) (P := p1 < 0) (by decide +kernel) (by decide +kernel) f1 (Iff.rfl) (fun hp_35 => ?_) (fun hp_35 => ?_)
  · have h := it_t hp_35 h
    refine go_iconst (n := 0) (z := 0) (by decide +kernel) (by decide) fun v_36 f_37 => ?_
    cases h
    exact go_iret (by decide +kernel) rfl (Or.inr ⟨rfl, by decide⟩) f_37 (hQ _ _ R (q_out_v (by decide) f_37))
  · have h := it_f hp_35 h
    refine go_iload_n (n := 1) (by decide +kernel) l_34 f1 ?_
    refine go_aload_n (n := 0) (by decide +kernel) l_33 f0 ?_
    obtain ⟨x_41, e_42, h⟩ := lx_s h
    refine go_getf (x := 9) (ci := 3) (kf := 1) (fin := 0) (t := 0) (by decide +kernel) (by decide +kernel) (by decide +kernel) R f0 g0 fun v_38 f_39 => ?_
    have f_40 := q_is_eq f_39 e_42
    refine go_icmp (c := .ge) (o := 24) (t := 57) (P := ¬ (p1 < x_41)) (by decide +kernel) (by decide +kernel) f1 f_40 (Int.not_lt.symm) (fun hp_43 => ?_) (fun hp_43 => ?_)
    · have h := it_f hp_43 h
      refine go_iconst (n := 0) (z := 0) (by decide +kernel) (by decide) fun v_44 f_45 => ?_
      cases h
      exact go_iret (by decide +kernel) rfl (Or.inr ⟨rfl, by decide⟩) f_45 (hQ _ _ R (q_out_v (by decide) f_45))
    · have h := it_n hp_43 h
      refine go_aload_n (n := 0) (by decide +kernel) l_33 f0 ?_
      obtain ⟨x_49, e_50, h⟩ := lx_s h
      refine go_getf (x := 22) (ci := 3) (kf := 0) (fin := 1) (t := 2) (by decide +kernel) (by decide +kernel) (by decide +kernel) R f0 g0 fun v_46 f_47 => ?_
      have f_48 := q_is_eq f_47 e_50
      refine go_iload_n (n := 1) (by decide +kernel) l_34 f1 ?_
      obtain ⟨g_51, h⟩ := gd_s h
      obtain ⟨x_53, hc_52, h⟩ := bp_s h
      refine go_callV (x := 26) (mi := 58) (n := 1) (ci := 6) (as := [v1]) (rest := []) (by decide +kernel) (by decide +kernel) rfl rfl (q_sum8 _ (Nat.le_of_ble_eq_true rfl)) R f_48 g_51 (om_X5_wide (Nat.le_trans (by decide) hd) R g_51 f_48 f1 hc_52) (fun _ S_57 q_60 => ?_) (fun _ _ qq => kr_x qq)
      refine kr_z (by decide) q_60 fun v_55 f_56 R_58 E_59 => ?_
      refine go_bipush (n := 30) (z := 30) (by decide +kernel) (by decide) fun v_61 f_62 => ?_
      refine go_lushr (by decide +kernel) f_56 f_62 fun v_63 f_64 => ?_
      refine go_lload (n := 5) (by decide +kernel) l_31 f_29 ?_
      refine go_lcmp (by decide +kernel) f_64 f_29 fun v_65 f_66 => ?_
      refine go_if (c := .ne) (o := 7) (t := 57) (P := ¬ (lUshr x_53 30 = x_27)) (by decide +kernel) (by decide +kernel) f_66 (not_congr lc_eq) (fun hp_67 => ?_) (fun hp_67 => ?_)
      · have h := it_f hp_67 h
        refine go_iconst (n := 0) (z := 0) (by decide +kernel) (by decide) fun v_68 f_69 => ?_
        cases h
        exact go_iret (by decide +kernel) rfl (Or.inr ⟨rfl, by decide⟩) f_69 (hQ _ _ R_58 (q_out_v (by decide) f_69))
      · have h := it_n hp_67 h
        refine go_iconst (n := 1) (z := 1) (by decide +kernel) (by decide) fun v_70 f_71 => ?_
        refine go_goto (o := 4) (t := 58) (by decide +kernel) (by decide +kernel) ?_
        cases h
        exact go_iret (by decide +kernel) rfl (Or.inr ⟨rfl, by decide⟩) f_71 (hQ _ _ R_58 (q_out_v (by decide) f_71))
noncomputable def fl_X2_nextArrival_6 (p0 : Int) (m0 : MM) : Nat → Int → Option Int
  | 0, _ => none
  | n + 1, y2 => lx (m0 p0 1) fun x_19 =>
if y2 < x_19 then
lx (m0 p0 0) fun x_25 =>
gd (okc m0 x_25 6) <| bp (fm_X5_wide x_25 y2 m0) fun x_29 =>
if 7 < lUshr x_29 59 then
lx (w32 (y2 + 1)) fun x_51 =>
fl_X2_nextArrival_6 p0 m0 n x_51
else
some y2
else
some y2
set_option maxHeartbeats 4000000 in
theorem ol_X2_nextArrival_6 {xs : List Int32} {d : Nat} {Q : QO → QS → Prop} {m0 : MM} {p0 : Int} {rz : Int}
  (hd : 1 ≤ d) (gb : okc m0 p0 3)
  (hQ : ∀ o S1, Rp S1 m0 → q_out 0 o rz → Q o S1) :
  ∀ (n : Nat) {S : QS} {L : QL} {y2 : Int} {v0 : Value} {v2 : Value} , fl_X2_nextArrival_6 p0 m0 n y2 = some rz → Rp S m0 → q_lo L 0 = some v0 → q_is 2 v0 p0 → q_lo L 2 = some v2 → q_is 0 v2 y2 → Go xs d qM_X2_nextArrival 6 L [] S Q := by
  intro n
  induction n with
  | zero => intro S L y2 v0 v2; intro h R l0 f0 l2 f2; cases h
  | succ n ih0 =>
    intro S L y2 v0 v2; intro h R l0 f0 l2 f2
    have ih : ∀ {z2 : Int} {Sq : QS} {Lq : QL} {u0 : Value} {u2 : Value}, fl_X2_nextArrival_6 p0 m0 n z2 = some rz → Rp Sq m0 → q_lo Lq 0 = some u0 → q_is 2 u0 p0 → q_lo Lq 2 = some u2 → q_is 0 u2 z2 → Go xs d qM_X2_nextArrival 6 Lq [] Sq Q := by intros; exact ih0 ‹_› ‹_› ‹_› ‹_› ‹_› ‹_›
    have g0 := gb
    unfold fl_X2_nextArrival_6 at h
    refine go_iload_n (n := 2) (by decide +kernel) l2 f2 ?_
    refine go_aload_n (n := 0) (by decide +kernel) l0 f0 ?_
    obtain ⟨x_19, e_20, h⟩ := lx_s h
    refine go_getf (x := 9) (ci := 3) (kf := 1) (fin := 0) (t := 0) (by decide +kernel) (by decide +kernel) (by decide +kernel) R f0 g0 fun v_16 f_17 => ?_
    have f_18 := q_is_eq f_17 e_20
    refine go_icmp (c := .ge) (o := 27) (t := 38) (P := ¬ (y2 < x_19)) (by decide +kernel) (by decide +kernel) f2 f_18 (Int.not_lt.symm) (fun hp_21 => ?_) (fun hp_21 => ?_)
    · have h := it_f hp_21 h
      refine go_iload_n (n := 2) (by decide +kernel) l2 f2 ?_
      cases h
      exact go_iret (by decide +kernel) rfl (Or.inl rfl) f2 (hQ _ _ R (q_out_v (by decide) f2))
    · have h := it_n hp_21 h
      refine go_aload_n (n := 0) (by decide +kernel) l0 f0 ?_
      obtain ⟨x_25, e_26, h⟩ := lx_s h
      refine go_getf (x := 22) (ci := 3) (kf := 0) (fin := 1) (t := 2) (by decide +kernel) (by decide +kernel) (by decide +kernel) R f0 g0 fun v_22 f_23 => ?_
      have f_24 := q_is_eq f_23 e_26
      refine go_iload_n (n := 2) (by decide +kernel) l2 f2 ?_
      obtain ⟨g_27, h⟩ := gd_s h
      obtain ⟨x_29, hc_28, h⟩ := bp_s h
      refine go_callV (x := 26) (mi := 58) (n := 1) (ci := 6) (as := [v2]) (rest := []) (by decide +kernel) (by decide +kernel) rfl rfl (q_sum8 _ (Nat.le_of_ble_eq_true rfl)) R f_24 g_27 (om_X5_wide (Nat.le_trans (by decide) hd) R g_27 f_24 f2 hc_28) (fun _ S_33 q_36 => ?_) (fun _ _ qq => kr_x qq)
      refine kr_z (by decide) q_36 fun v_31 f_32 R_34 E_35 => ?_
      refine go_bipush (n := 59) (z := 59) (by decide +kernel) (by decide) fun v_37 f_38 => ?_
      refine go_lushr (by decide +kernel) f_32 f_38 fun v_39 f_40 => ?_
      refine go_ldc2_w (x := 64) (n := 7) (a := 0) (b := 0) (z := 7) (by decide +kernel) (by decide +kernel) (by decide +kernel) fun v_41 f_42 => ?_
      refine go_lcmp (by decide +kernel) f_40 f_42 fun v_43 f_44 => ?_
      refine go_if (c := .le) (o := 9) (t := 38) (P := ¬ (7 < lUshr x_29 59)) (by decide +kernel) (by decide +kernel) f_44 (Int.not_lt.symm.trans (not_congr lc_gt)) (fun hp_45 => ?_) (fun hp_45 => ?_)
      · have h := it_f hp_45 h
        refine go_iload_n (n := 2) (by decide +kernel) l2 f2 ?_
        cases h
        exact go_iret (by decide +kernel) rfl (Or.inl rfl) f2 (hQ _ _ R_34 (q_out_v (by decide) f2))
      · have h := it_n hp_45 h
        refine go_iinc (n := 2) (c := 1) (c' := 1) (by decide +kernel) (by decide +kernel) l2 f2 (by decide) fun L_46 v_47 f_48 l_49 kp_50 => ?_
        obtain ⟨x_51, e_52, h⟩ := lx_s h
        have f_53 := q_is_eq f_48 e_52
        have l_54 := kp_50 0 _ l0 (by decide) (Or.inl (by decide))
        refine go_goto (o := (-29)) (t := 6) (by decide +kernel) (by decide +kernel) ?_
        exact ih h R_34 l_54 f0 l_49 f_53
noncomputable def fm_X2_nextArrival (p0 p1 : Int) (m0 : MM) : Option Int := bp (fm_J9_max_7cf53 0 p1 m0) fun x_4 =>
fl_X2_nextArrival_6 p0 m0  BIG x_4
set_option maxHeartbeats 4000000 in
theorem om_X2_nextArrival {xs : List Int32} {d : Nat} {S : QS} {m0 : MM} {p0 p1 : Int} {v0 : Value} {v1 : Value} {rz : Int}
  (hd : 2 ≤ d) (R : Rp S m0) (g0 : okc m0 p0 3) (f0 : q_is 2 v0 p0) (f1 : q_is 0 v1 p1)
  (h : fm_X2_nextArrival p0 p1 m0 = some rz) : Mt xs d 21 [v0, v1] S (Cr 0 m0 m0 rz) := by
  obtain ⟨d, rfl⟩ : ∃ e, d = e + 1 := ⟨d - 1, by omega⟩
  have hd : 1 ≤ d := Nat.le_of_succ_le_succ hd
  refine Mt.of (M := qM_X2_nextArrival) rfl (by rw [sl_1 (q_is_cat f0 (Or.inr rfl)), sl_1 (q_is_cat f1 (Or.inl rfl)), sl_0]; decide) ?_
  rw [la_1 (q_is_cat f0 (Or.inr rfl)), la_1 (q_is_cat f1 (Or.inl rfl)), la_0]
  obtain ⟨L, hL⟩ : ∃ L : QL, L = [(0, v0), (0 + 1, v1)] := ⟨_, rfl⟩
  rw [← hL]
  have l0 : q_lo L 0 = some v0 := by rw [hL]; rfl
  have l1 : q_lo L 1 = some v1 := by rw [hL]; rfl
  have hQ : ∀ o S1, Rp S1 m0 → q_out 0 o rz → (Cr 0 m0 m0 rz) o S1 := fun o S1 a b => ⟨a, Ext.rf _, b⟩
  unfold fm_X2_nextArrival at h
  refine go_iconst (n := 0) (z := 0) (by decide +kernel) (by decide) fun v_1 f_2 => ?_
  refine go_iload_n (n := 1) (by decide +kernel) l1 f1 ?_
  obtain ⟨x_4, hc_3, h⟩ := bp_s h
  refine go_callS (x := 58) (mi := 319) (n := 2) (b := 0) (as := [v_1, v1]) (rest := []) (by decide +kernel) (by decide +kernel) rfl rfl (q_sum8 _ (Nat.le_of_ble_eq_true rfl)) (om_J9_max_7cf53 (Nat.le_trans (by decide) hd) R f_2 f1 hc_3) (fun _ S_8 q_11 => ?_) (fun _ _ qq => kr_x qq)
  refine kr_z (by decide) q_11 fun v_6 f_7 R_9 E_10 => ?_
  refine go_istore_n (n := 2) (by decide +kernel) (by decide +kernel) f_7 fun L_12 l_13 kp_14 => ?_
  have l_15 := kp_14 0 _ l0 (by decide) (Or.inl (by decide))
  refine ol_X2_nextArrival_6 hd  g0  hQ BIG h R_9 l_15 f0 l_13 f_7
noncomputable def fl_X2_nextCommand_6 (p0 : Int) (m0 : MM) : Nat → Int → Option Int
  | 0, _ => none
  | n + 1, y2 => lx (m0 p0 1) fun x_19 =>
if y2 < x_19 then
lx (m0 p0 0) fun x_25 =>
gd (okc m0 x_25 6) <| bp (fm_X5_wide x_25 y2 m0) fun x_29 =>
if 7 < lUshr x_29 59 then
bp (fm_X5_wide x_25 y2 m0) fun x_59 =>
if lUshr x_59 59 = 17 then
lx (w32 (y2 + 1)) fun x_81 =>
fl_X2_nextCommand_6 p0 m0 n x_81
else
some y2
else
lx (w32 (y2 + 1)) fun x_51 =>
fl_X2_nextCommand_6 p0 m0 n x_51
else
some y2
set_option maxHeartbeats 4000000 in
theorem ol_X2_nextCommand_6 {xs : List Int32} {d : Nat} {Q : QO → QS → Prop} {m0 : MM} {p0 : Int} {rz : Int}
  (hd : 1 ≤ d) (gb : okc m0 p0 3)
  (hQ : ∀ o S1, Rp S1 m0 → q_out 0 o rz → Q o S1) :
  ∀ (n : Nat) {S : QS} {L : QL} {y2 : Int} {v0 : Value} {v2 : Value} , fl_X2_nextCommand_6 p0 m0 n y2 = some rz → Rp S m0 → q_lo L 0 = some v0 → q_is 2 v0 p0 → q_lo L 2 = some v2 → q_is 0 v2 y2 → Go xs d qM_X2_nextCommand 6 L [] S Q := by
  intro n
  induction n with
  | zero => intro S L y2 v0 v2; intro h R l0 f0 l2 f2; cases h
  | succ n ih0 =>
    intro S L y2 v0 v2; intro h R l0 f0 l2 f2
    have ih : ∀ {z2 : Int} {Sq : QS} {Lq : QL} {u0 : Value} {u2 : Value}, fl_X2_nextCommand_6 p0 m0 n z2 = some rz → Rp Sq m0 → q_lo Lq 0 = some u0 → q_is 2 u0 p0 → q_lo Lq 2 = some u2 → q_is 0 u2 z2 → Go xs d qM_X2_nextCommand 6 Lq [] Sq Q := by intros; exact ih0 ‹_› ‹_› ‹_› ‹_› ‹_› ‹_›
    have g0 := gb
    unfold fl_X2_nextCommand_6 at h
    refine go_iload_n (n := 2) (by decide +kernel) l2 f2 ?_
    refine go_aload_n (n := 0) (by decide +kernel) l0 f0 ?_
    obtain ⟨x_19, e_20, h⟩ := lx_s h
    refine go_getf (x := 9) (ci := 3) (kf := 1) (fin := 0) (t := 0) (by decide +kernel) (by decide +kernel) (by decide +kernel) R f0 g0 fun v_16 f_17 => ?_
    have f_18 := q_is_eq f_17 e_20
    refine go_icmp (c := .ge) (o := 45) (t := 56) (P := ¬ (y2 < x_19)) (by decide +kernel) (by decide +kernel) f2 f_18 (Int.not_lt.symm) (fun hp_21 => ?_) (fun hp_21 => ?_)
    · have h := it_f hp_21 h
      refine go_iload_n (n := 2) (by decide +kernel) l2 f2 ?_
      cases h
      exact go_iret (by decide +kernel) rfl (Or.inl rfl) f2 (hQ _ _ R (q_out_v (by decide) f2))
    · have h := it_n hp_21 h
      refine go_aload_n (n := 0) (by decide +kernel) l0 f0 ?_
      obtain ⟨x_25, e_26, h⟩ := lx_s h
      refine go_getf (x := 22) (ci := 3) (kf := 0) (fin := 1) (t := 2) (by decide +kernel) (by decide +kernel) (by decide +kernel) R f0 g0 fun v_22 f_23 => ?_
      have f_24 := q_is_eq f_23 e_26
      refine go_iload_n (n := 2) (by decide +kernel) l2 f2 ?_
      obtain ⟨g_27, h⟩ := gd_s h
      obtain ⟨x_29, hc_28, h⟩ := bp_s h
      refine go_callV (x := 26) (mi := 58) (n := 1) (ci := 6) (as := [v2]) (rest := []) (by decide +kernel) (by decide +kernel) rfl rfl (q_sum8 _ (Nat.le_of_ble_eq_true rfl)) R f_24 g_27 (om_X5_wide (Nat.le_trans (by decide) hd) R g_27 f_24 f2 hc_28) (fun _ S_33 q_36 => ?_) (fun _ _ qq => kr_x qq)
      refine kr_z (by decide) q_36 fun v_31 f_32 R_34 E_35 => ?_
      refine go_bipush (n := 59) (z := 59) (by decide +kernel) (by decide) fun v_37 f_38 => ?_
      refine go_lushr (by decide +kernel) f_32 f_38 fun v_39 f_40 => ?_
      refine go_ldc2_w (x := 64) (n := 7) (a := 0) (b := 0) (z := 7) (by decide +kernel) (by decide +kernel) (by decide +kernel) fun v_41 f_42 => ?_
      refine go_lcmp (by decide +kernel) f_40 f_42 fun v_43 f_44 => ?_
      refine go_if (c := .le) (o := 21) (t := 50) (P := ¬ (7 < lUshr x_29 59)) (by decide +kernel) (by decide +kernel) f_44 (Int.not_lt.symm.trans (not_congr lc_gt)) (fun hp_45 => ?_) (fun hp_45 => ?_)
      · have h := it_f hp_45 h
        refine go_iinc (n := 2) (c := 1) (c' := 1) (by decide +kernel) (by decide +kernel) l2 f2 (by decide) fun L_46 v_47 f_48 l_49 kp_50 => ?_
        obtain ⟨x_51, e_52, h⟩ := lx_s h
        have f_53 := q_is_eq f_48 e_52
        have l_54 := kp_50 0 _ l0 (by decide) (Or.inl (by decide))
        refine go_goto (o := (-47)) (t := 6) (by decide +kernel) (by decide +kernel) ?_
        exact ih h R_34 l_54 f0 l_49 f_53
      · have h := it_n hp_45 h
        refine go_aload_n (n := 0) (by decide +kernel) l0 f0 ?_
        refine go_getf (x := 22) (ci := 3) (kf := 0) (fin := 1) (t := 2) (by decide +kernel) (by decide +kernel) (by decide +kernel) R_34 f0 g0 fun v_55 f_56 => ?_
        have f_57 := q_is_eq f_56 e_26
        refine go_iload_n (n := 2) (by decide +kernel) l2 f2 ?_
        obtain ⟨x_59, hc_58, h⟩ := bp_s h
        refine go_callV (x := 26) (mi := 58) (n := 1) (ci := 6) (as := [v2]) (rest := []) (by decide +kernel) (by decide +kernel) rfl rfl (q_sum8 _ (Nat.le_of_ble_eq_true rfl)) R_34 f_57 g_27 (om_X5_wide (Nat.le_trans (by decide) hd) R_34 g_27 f_57 f2 hc_58) (fun _ S_63 q_66 => ?_) (fun _ _ qq => kr_x qq)
        refine kr_z (by decide) q_66 fun v_61 f_62 R_64 E_65 => ?_
        refine go_bipush (n := 59) (z := 59) (by decide +kernel) (by decide) fun v_67 f_68 => ?_
        refine go_lushr (by decide +kernel) f_62 f_68 fun v_69 f_70 => ?_
        refine go_ldc2_w (x := 66) (n := 17) (a := 0) (b := 0) (z := 17) (by decide +kernel) (by decide +kernel) (by decide +kernel) fun v_71 f_72 => ?_
        refine go_lcmp (by decide +kernel) f_70 f_72 fun v_73 f_74 => ?_
        refine go_if (c := .ne) (o := 9) (t := 56) (P := ¬ (lUshr x_59 59 = 17)) (by decide +kernel) (by decide +kernel) f_74 (not_congr lc_eq) (fun hp_75 => ?_) (fun hp_75 => ?_)
        · have h := it_f hp_75 h
          refine go_iload_n (n := 2) (by decide +kernel) l2 f2 ?_
          cases h
          exact go_iret (by decide +kernel) rfl (Or.inl rfl) f2 (hQ _ _ R_64 (q_out_v (by decide) f2))
        · have h := it_n hp_75 h
          refine go_iinc (n := 2) (c := 1) (c' := 1) (by decide +kernel) (by decide +kernel) l2 f2 (by decide) fun L_76 v_77 f_78 l_79 kp_80 => ?_
          obtain ⟨x_81, e_82, h⟩ := lx_s h
          have f_83 := q_is_eq f_78 e_82
          have l_84 := kp_80 0 _ l0 (by decide) (Or.inl (by decide))
          refine go_goto (o := (-47)) (t := 6) (by decide +kernel) (by decide +kernel) ?_
          exact ih h R_64 l_84 f0 l_79 f_83
noncomputable def fm_X2_nextCommand (p0 p1 : Int) (m0 : MM) : Option Int := bp (fm_J9_max_7cf53 0 p1 m0) fun x_4 =>
fl_X2_nextCommand_6 p0 m0  BIG x_4
set_option maxHeartbeats 4000000 in
theorem om_X2_nextCommand {xs : List Int32} {d : Nat} {S : QS} {m0 : MM} {p0 p1 : Int} {v0 : Value} {v1 : Value} {rz : Int}
  (hd : 2 ≤ d) (R : Rp S m0) (g0 : okc m0 p0 3) (f0 : q_is 2 v0 p0) (f1 : q_is 0 v1 p1)
  (h : fm_X2_nextCommand p0 p1 m0 = some rz) : Mt xs d 22 [v0, v1] S (Cr 0 m0 m0 rz) := by
  obtain ⟨d, rfl⟩ : ∃ e, d = e + 1 := ⟨d - 1, by omega⟩
  have hd : 1 ≤ d := Nat.le_of_succ_le_succ hd
  refine Mt.of (M := qM_X2_nextCommand) rfl (by rw [sl_1 (q_is_cat f0 (Or.inr rfl)), sl_1 (q_is_cat f1 (Or.inl rfl)), sl_0]; decide) ?_
  rw [la_1 (q_is_cat f0 (Or.inr rfl)), la_1 (q_is_cat f1 (Or.inl rfl)), la_0]
  obtain ⟨L, hL⟩ : ∃ L : QL, L = [(0, v0), (0 + 1, v1)] := ⟨_, rfl⟩
  rw [← hL]
  have l0 : q_lo L 0 = some v0 := by rw [hL]; rfl
  have l1 : q_lo L 1 = some v1 := by rw [hL]; rfl
  have hQ : ∀ o S1, Rp S1 m0 → q_out 0 o rz → (Cr 0 m0 m0 rz) o S1 := fun o S1 a b => ⟨a, Ext.rf _, b⟩
  unfold fm_X2_nextCommand at h
  refine go_iconst (n := 0) (z := 0) (by decide +kernel) (by decide) fun v_1 f_2 => ?_
  refine go_iload_n (n := 1) (by decide +kernel) l1 f1 ?_
  obtain ⟨x_4, hc_3, h⟩ := bp_s h
  refine go_callS (x := 58) (mi := 319) (n := 2) (b := 0) (as := [v_1, v1]) (rest := []) (by decide +kernel) (by decide +kernel) rfl rfl (q_sum8 _ (Nat.le_of_ble_eq_true rfl)) (om_J9_max_7cf53 (Nat.le_trans (by decide) hd) R f_2 f1 hc_3) (fun _ S_8 q_11 => ?_) (fun _ _ qq => kr_x qq)
  refine kr_z (by decide) q_11 fun v_6 f_7 R_9 E_10 => ?_
  refine go_istore_n (n := 2) (by decide +kernel) (by decide +kernel) f_7 fun L_12 l_13 kp_14 => ?_
  have l_15 := kp_14 0 _ l0 (by decide) (Or.inl (by decide))
  refine ol_X2_nextCommand_6 hd  g0  hQ BIG h R_9 l_15 f0 l_13 f_7
noncomputable def fl_X2_taskBeyond_2 (p0 y1 : Int) (m0 : MM) : Nat → Int → Option Int
  | 0, _ => none
  | n + 1, y2 => lx (m0 p0 1) fun x_11 =>
if y2 < x_11 then
lx (m0 p0 0) fun x_17 =>
gd (okc m0 x_17 6) <| bp (fm_X5_wide x_17 y2 m0) fun x_21 =>
if lUshr x_21 59 = 17 then
bp (fm_X5_wide x_17 y2 m0) fun x_52 =>
if y1 < iAnd (w32 (lUshr x_52 40)) 524287 then
some y2
else
lx (w32 (y2 + 1)) fun x_76 =>
fl_X2_taskBeyond_2 p0 y1 m0 n x_76
else
lx (w32 (y2 + 1)) fun x_43 =>
fl_X2_taskBeyond_2 p0 y1 m0 n x_43
else
some y2
set_option maxHeartbeats 4000000 in
theorem ol_X2_taskBeyond_2 {xs : List Int32} {d : Nat} {Q : QO → QS → Prop} {m0 : MM} {p0 y1 : Int} {rz : Int}
  (hd : 1 ≤ d) (gb : okc m0 p0 3)
  (hQ : ∀ o S1, Rp S1 m0 → q_out 0 o rz → Q o S1) :
  ∀ (n : Nat) {S : QS} {L : QL} {y2 : Int} {v0 : Value} {v1 : Value} {v2 : Value} , fl_X2_taskBeyond_2 p0 y1 m0 n y2 = some rz → Rp S m0 → q_lo L 0 = some v0 → q_is 2 v0 p0 → q_lo L 1 = some v1 → q_is 0 v1 y1 → q_lo L 2 = some v2 → q_is 0 v2 y2 → Go xs d qM_X2_taskBeyond 2 L [] S Q := by
  intro n
  induction n with
  | zero => intro S L y2 v0 v1 v2; intro h R l0 f0 l1 f1 l2 f2; cases h
  | succ n ih0 =>
    intro S L y2 v0 v1 v2; intro h R l0 f0 l1 f1 l2 f2
    have ih : ∀ {z2 : Int} {Sq : QS} {Lq : QL} {u0 : Value} {u1 : Value} {u2 : Value}, fl_X2_taskBeyond_2 p0 y1 m0 n z2 = some rz → Rp Sq m0 → q_lo Lq 0 = some u0 → q_is 2 u0 p0 → q_lo Lq 1 = some u1 → q_is 0 u1 y1 → q_lo Lq 2 = some u2 → q_is 0 u2 z2 → Go xs d qM_X2_taskBeyond 2 Lq [] Sq Q := by intros; exact ih0 ‹_› ‹_› ‹_› ‹_› ‹_› ‹_› ‹_› ‹_›
    have g0 := gb
    unfold fl_X2_taskBeyond_2 at h
    refine go_iload_n (n := 2) (by decide +kernel) l2 f2 ?_
    refine go_aload_n (n := 0) (by decide +kernel) l0 f0 ?_
    obtain ⟨x_11, e_12, h⟩ := lx_s h
    refine go_getf (x := 9) (ci := 3) (kf := 1) (fin := 0) (t := 0) (by decide +kernel) (by decide +kernel) (by decide +kernel) R f0 g0 fun v_8 f_9 => ?_
    have f_10 := q_is_eq f_9 e_12
    refine go_icmp (c := .ge) (o := 46) (t := 53) (P := ¬ (y2 < x_11)) (by decide +kernel) (by decide +kernel) f2 f_10 (Int.not_lt.symm) (fun hp_13 => ?_) (fun hp_13 => ?_)
    · have h := it_f hp_13 h
      refine go_iload_n (n := 2) (by decide +kernel) l2 f2 ?_
      cases h
      exact go_iret (by decide +kernel) rfl (Or.inl rfl) f2 (hQ _ _ R (q_out_v (by decide) f2))
    · have h := it_n hp_13 h
      refine go_aload_n (n := 0) (by decide +kernel) l0 f0 ?_
      obtain ⟨x_17, e_18, h⟩ := lx_s h
      refine go_getf (x := 22) (ci := 3) (kf := 0) (fin := 1) (t := 2) (by decide +kernel) (by decide +kernel) (by decide +kernel) R f0 g0 fun v_14 f_15 => ?_
      have f_16 := q_is_eq f_15 e_18
      refine go_iload_n (n := 2) (by decide +kernel) l2 f2 ?_
      obtain ⟨g_19, h⟩ := gd_s h
      obtain ⟨x_21, hc_20, h⟩ := bp_s h
      refine go_callV (x := 26) (mi := 58) (n := 1) (ci := 6) (as := [v2]) (rest := []) (by decide +kernel) (by decide +kernel) rfl rfl (q_sum8 _ (Nat.le_of_ble_eq_true rfl)) R f_16 g_19 (om_X5_wide (Nat.le_trans (by decide) hd) R g_19 f_16 f2 hc_20) (fun _ S_25 q_28 => ?_) (fun _ _ qq => kr_x qq)
      refine kr_z (by decide) q_28 fun v_23 f_24 R_26 E_27 => ?_
      refine go_bipush (n := 59) (z := 59) (by decide +kernel) (by decide) fun v_29 f_30 => ?_
      refine go_lushr (by decide +kernel) f_24 f_30 fun v_31 f_32 => ?_
      refine go_ldc2_w (x := 66) (n := 17) (a := 0) (b := 0) (z := 17) (by decide +kernel) (by decide +kernel) (by decide +kernel) fun v_33 f_34 => ?_
      refine go_lcmp (by decide +kernel) f_32 f_34 fun v_35 f_36 => ?_
      refine go_if (c := .ne) (o := 22) (t := 47) (P := ¬ (lUshr x_21 59 = 17)) (by decide +kernel) (by decide +kernel) f_36 (not_congr lc_eq) (fun hp_37 => ?_) (fun hp_37 => ?_)
      · have h := it_f hp_37 h
        refine go_iinc (n := 2) (c := 1) (c' := 1) (by decide +kernel) (by decide +kernel) l2 f2 (by decide) fun L_38 v_39 f_40 l_41 kp_42 => ?_
        obtain ⟨x_43, e_44, h⟩ := lx_s h
        have f_45 := q_is_eq f_40 e_44
        have l_46 := kp_42 0 _ l0 (by decide) (Or.inl (by decide))
        have l_47 := kp_42 1 _ l1 (by decide) (Or.inr (q_is_cat f1 (Or.inl rfl)))
        refine go_goto (o := (-48)) (t := 2) (by decide +kernel) (by decide +kernel) ?_
        exact ih h R_26 l_46 f0 l_47 f1 l_41 f_45
      · have h := it_n hp_37 h
        refine go_aload_n (n := 0) (by decide +kernel) l0 f0 ?_
        refine go_getf (x := 22) (ci := 3) (kf := 0) (fin := 1) (t := 2) (by decide +kernel) (by decide +kernel) (by decide +kernel) R_26 f0 g0 fun v_48 f_49 => ?_
        have f_50 := q_is_eq f_49 e_18
        refine go_iload_n (n := 2) (by decide +kernel) l2 f2 ?_
        obtain ⟨x_52, hc_51, h⟩ := bp_s h
        refine go_callV (x := 26) (mi := 58) (n := 1) (ci := 6) (as := [v2]) (rest := []) (by decide +kernel) (by decide +kernel) rfl rfl (q_sum8 _ (Nat.le_of_ble_eq_true rfl)) R_26 f_50 g_19 (om_X5_wide (Nat.le_trans (by decide) hd) R_26 g_19 f_50 f2 hc_51) (fun _ S_56 q_59 => ?_) (fun _ _ qq => kr_x qq)
        refine kr_z (by decide) q_59 fun v_54 f_55 R_57 E_58 => ?_
        refine go_bipush (n := 40) (z := 40) (by decide +kernel) (by decide) fun v_60 f_61 => ?_
        refine go_lushr (by decide +kernel) f_55 f_61 fun v_62 f_63 => ?_
        refine go_l2i (by decide +kernel) f_63 fun v_64 f_65 => ?_
        refine go_ldc (x := 32) (n := 524287) (a := 0) (b := 0) (z := 524287) (by decide +kernel) (by decide +kernel) (by decide +kernel) fun v_66 f_67 => ?_
        refine go_iand (by decide +kernel) f_65 f_67 fun v_68 f_69 => ?_
        refine go_iload_n (n := 1) (by decide +kernel) l1 f1 ?_
        refine go_icmp (c := .gt) (o := 9) (t := 53) (P := y1 < iAnd (w32 (lUshr x_52 40)) 524287) (by decide +kernel) (by decide +kernel) f_69 f1 (Iff.rfl) (fun hp_70 => ?_) (fun hp_70 => ?_)
        · have h := it_t hp_70 h
          refine go_iload_n (n := 2) (by decide +kernel) l2 f2 ?_
          cases h
          exact go_iret (by decide +kernel) rfl (Or.inl rfl) f2 (hQ _ _ R_57 (q_out_v (by decide) f2))
        · have h := it_f hp_70 h
          refine go_iinc (n := 2) (c := 1) (c' := 1) (by decide +kernel) (by decide +kernel) l2 f2 (by decide) fun L_71 v_72 f_73 l_74 kp_75 => ?_
          obtain ⟨x_76, e_77, h⟩ := lx_s h
          have f_78 := q_is_eq f_73 e_77
          have l_79 := kp_75 0 _ l0 (by decide) (Or.inl (by decide))
          have l_80 := kp_75 1 _ l1 (by decide) (Or.inr (q_is_cat f1 (Or.inl rfl)))
          refine go_goto (o := (-48)) (t := 2) (by decide +kernel) (by decide +kernel) ?_
          exact ih h R_57 l_79 f0 l_80 f1 l_74 f_78
noncomputable def fm_X2_taskBeyond (p0 p1 : Int) (m0 : MM) : Option Int := fl_X2_taskBeyond_2 p0 p1 m0  BIG 0
set_option maxHeartbeats 4000000 in
theorem om_X2_taskBeyond {xs : List Int32} {d : Nat} {S : QS} {m0 : MM} {p0 p1 : Int} {v0 : Value} {v1 : Value} {rz : Int}
  (hd : 2 ≤ d) (R : Rp S m0) (g0 : okc m0 p0 3) (f0 : q_is 2 v0 p0) (f1 : q_is 0 v1 p1)
  (h : fm_X2_taskBeyond p0 p1 m0 = some rz) : Mt xs d 23 [v0, v1] S (Cr 0 m0 m0 rz) := by
  obtain ⟨d, rfl⟩ : ∃ e, d = e + 1 := ⟨d - 1, by omega⟩
  have hd : 1 ≤ d := Nat.le_of_succ_le_succ hd
  refine Mt.of (M := qM_X2_taskBeyond) rfl (by rw [sl_1 (q_is_cat f0 (Or.inr rfl)), sl_1 (q_is_cat f1 (Or.inl rfl)), sl_0]; decide) ?_
  rw [la_1 (q_is_cat f0 (Or.inr rfl)), la_1 (q_is_cat f1 (Or.inl rfl)), la_0]
  obtain ⟨L, hL⟩ : ∃ L : QL, L = [(0, v0), (0 + 1, v1)] := ⟨_, rfl⟩
  rw [← hL]
  have l0 : q_lo L 0 = some v0 := by rw [hL]; rfl
  have l1 : q_lo L 1 = some v1 := by rw [hL]; rfl
  have hQ : ∀ o S1, Rp S1 m0 → q_out 0 o rz → (Cr 0 m0 m0 rz) o S1 := fun o S1 a b => ⟨a, Ext.rf _, b⟩
  unfold fm_X2_taskBeyond at h
  refine go_iconst (n := 0) (z := 0) (by decide +kernel) (by decide) fun v_1 f_2 => ?_
  refine go_istore_n (n := 2) (by decide +kernel) (by decide +kernel) f_2 fun L_3 l_4 kp_5 => ?_
  have l_6 := kp_5 0 _ l0 (by decide) (Or.inl (by decide))
  have l_7 := kp_5 1 _ l1 (by decide) (Or.inr (q_is_cat f1 (Or.inl rfl)))
  refine ol_X2_taskBeyond_2 hd  g0  hQ BIG h R l_6 f0 l_7 f1 l_4 f_2
noncomputable def fl_X2_taskAt_4 (p0 y1 : Int) (m0 : MM) : Nat → Int → Int → Option Int
  | 0, _, _ => none
  | n + 1, y2, y3 => lx (m0 p0 1) fun x_19 =>
if y3 < x_19 then
bp (fm_X2_kind p0 y3 m0) fun x_25 =>
if x_25 = 17 then
if y2 = y1 then
some y3
else
lx (w32 (y2 + 1)) fun x_53 =>
lx (w32 (y3 + 1)) fun x_64 =>
fl_X2_taskAt_4 p0 y1 m0 n x_53 x_64
else
lx (w32 (y3 + 1)) fun x_41 =>
fl_X2_taskAt_4 p0 y1 m0 n y2 x_41
else
some (-1)
set_option maxHeartbeats 4000000 in
theorem ol_X2_taskAt_4 {xs : List Int32} {d : Nat} {Q : QO → QS → Prop} {m0 : MM} {p0 y1 : Int} {rz : Int}
  (hd : 2 ≤ d) (gb : okc m0 p0 3)
  (hQ : ∀ o S1, Rp S1 m0 → q_out 0 o rz → Q o S1) :
  ∀ (n : Nat) {S : QS} {L : QL} {y2 y3 : Int} {v0 : Value} {v1 : Value} {v2 : Value} {v3 : Value} , fl_X2_taskAt_4 p0 y1 m0 n y2 y3 = some rz → Rp S m0 → q_lo L 0 = some v0 → q_is 2 v0 p0 → q_lo L 1 = some v1 → q_is 0 v1 y1 → q_lo L 2 = some v2 → q_is 0 v2 y2 → q_lo L 3 = some v3 → q_is 0 v3 y3 → Go xs d qM_X2_taskAt 4 L [] S Q := by
  intro n
  induction n with
  | zero => intro S L y2 y3 v0 v1 v2 v3; intro h R l0 f0 l1 f1 l2 f2 l3 f3; cases h
  | succ n ih0 =>
    intro S L y2 y3 v0 v1 v2 v3; intro h R l0 f0 l1 f1 l2 f2 l3 f3
    have ih : ∀ {z2 : Int} {z3 : Int} {Sq : QS} {Lq : QL} {u0 : Value} {u1 : Value} {u2 : Value} {u3 : Value}, fl_X2_taskAt_4 p0 y1 m0 n z2 z3 = some rz → Rp Sq m0 → q_lo Lq 0 = some u0 → q_is 2 u0 p0 → q_lo Lq 1 = some u1 → q_is 0 u1 y1 → q_lo Lq 2 = some u2 → q_is 0 u2 z2 → q_lo Lq 3 = some u3 → q_is 0 u3 z3 → Go xs d qM_X2_taskAt 4 Lq [] Sq Q := by intros; exact ih0 ‹_› ‹_› ‹_› ‹_› ‹_› ‹_› ‹_› ‹_› ‹_› ‹_›
    have g0 := gb
    unfold fl_X2_taskAt_4 at h
    refine go_iload_n (n := 3) (by decide +kernel) l3 f3 ?_
    refine go_aload_n (n := 0) (by decide +kernel) l0 f0 ?_
    obtain ⟨x_19, e_20, h⟩ := lx_s h
    refine go_getf (x := 9) (ci := 3) (kf := 1) (fin := 0) (t := 0) (by decide +kernel) (by decide +kernel) (by decide +kernel) R f0 g0 fun v_16 f_17 => ?_
    have f_18 := q_is_eq f_17 e_20
    refine go_icmp (c := .ge) (o := 29) (t := 38) (P := ¬ (y3 < x_19)) (by decide +kernel) (by decide +kernel) f3 f_18 (Int.not_lt.symm) (fun hp_21 => ?_) (fun hp_21 => ?_)
    · have h := it_f hp_21 h
      refine go_iconst (n := (-1)) (z := (-1)) (by decide +kernel) (by decide) fun v_22 f_23 => ?_
      cases h
      exact go_iret (by decide +kernel) rfl (Or.inl rfl) f_23 (hQ _ _ R (q_out_v (by decide) f_23))
    · have h := it_n hp_21 h
      refine go_aload_n (n := 0) (by decide +kernel) l0 f0 ?_
      refine go_iload_n (n := 3) (by decide +kernel) l3 f3 ?_
      obtain ⟨x_25, hc_24, h⟩ := bp_s h
      refine go_callV (x := 51) (mi := 9) (n := 1) (ci := 3) (as := [v3]) (rest := []) (by decide +kernel) (by decide +kernel) rfl rfl (q_sum8 _ (Nat.le_of_ble_eq_true rfl)) R f0 g0 (om_X2_kind (Nat.le_trans (by decide) hd) R g0 f0 f3 hc_24) (fun _ S_29 q_32 => ?_) (fun _ _ qq => kr_x qq)
      refine kr_z (by decide) q_32 fun v_27 f_28 R_30 E_31 => ?_
      refine go_bipush (n := 17) (z := 17) (by decide +kernel) (by decide) fun v_33 f_34 => ?_
      refine go_icmp (c := .ne) (o := 13) (t := 32) (P := ¬ (x_25 = 17)) (by decide +kernel) (by decide +kernel) f_28 f_34 (Iff.rfl) (fun hp_35 => ?_) (fun hp_35 => ?_)
      · have h := it_f hp_35 h
        refine go_iinc (n := 3) (c := 1) (c' := 1) (by decide +kernel) (by decide +kernel) l3 f3 (by decide) fun L_36 v_37 f_38 l_39 kp_40 => ?_
        obtain ⟨x_41, e_42, h⟩ := lx_s h
        have f_43 := q_is_eq f_38 e_42
        have l_44 := kp_40 0 _ l0 (by decide) (Or.inl (by decide))
        have l_45 := kp_40 1 _ l1 (by decide) (Or.inl (by decide))
        have l_46 := kp_40 2 _ l2 (by decide) (Or.inr (q_is_cat f2 (Or.inl rfl)))
        refine go_goto (o := (-31)) (t := 4) (by decide +kernel) (by decide +kernel) ?_
        exact ih h R_30 l_44 f0 l_45 f1 l_46 f2 l_39 f_43
      · have h := it_n hp_35 h
        refine go_iload_n (n := 2) (by decide +kernel) l2 f2 ?_
        refine go_iload_n (n := 1) (by decide +kernel) l1 f1 ?_
        refine go_icmp (c := .ne) (o := 5) (t := 29) (P := ¬ (y2 = y1)) (by decide +kernel) (by decide +kernel) f2 f1 (Iff.rfl) (fun hp_47 => ?_) (fun hp_47 => ?_)
        · have h := it_f hp_47 h
          refine go_iinc (n := 2) (c := 1) (c' := 1) (by decide +kernel) (by decide +kernel) l2 f2 (by decide) fun L_48 v_49 f_50 l_51 kp_52 => ?_
          obtain ⟨x_53, e_54, h⟩ := lx_s h
          have f_55 := q_is_eq f_50 e_54
          have l_56 := kp_52 0 _ l0 (by decide) (Or.inl (by decide))
          have l_57 := kp_52 1 _ l1 (by decide) (Or.inr (q_is_cat f1 (Or.inl rfl)))
          have l_58 := kp_52 3 _ l3 (by decide) (Or.inl (by decide))
          refine go_iinc (n := 3) (c := 1) (c' := 1) (by decide +kernel) (by decide +kernel) l_58 f3 (by decide) fun L_59 v_60 f_61 l_62 kp_63 => ?_
          obtain ⟨x_64, e_65, h⟩ := lx_s h
          have f_66 := q_is_eq f_61 e_65
          have l_67 := kp_63 0 _ l_56 (by decide) (Or.inl (by decide))
          have l_68 := kp_63 1 _ l_57 (by decide) (Or.inl (by decide))
          have l_69 := kp_63 2 _ l_51 (by decide) (Or.inr (q_is_cat f_55 (Or.inl rfl)))
          refine go_goto (o := (-31)) (t := 4) (by decide +kernel) (by decide +kernel) ?_
          exact ih h R_30 l_67 f0 l_68 f1 l_69 f_55 l_62 f_66
        · have h := it_n hp_47 h
          refine go_iload_n (n := 3) (by decide +kernel) l3 f3 ?_
          cases h
          exact go_iret (by decide +kernel) rfl (Or.inl rfl) f3 (hQ _ _ R_30 (q_out_v (by decide) f3))
noncomputable def fm_X2_taskAt (p0 p1 : Int) (m0 : MM) : Option Int := fl_X2_taskAt_4 p0 p1 m0  BIG 0 0
set_option maxHeartbeats 4000000 in
theorem om_X2_taskAt {xs : List Int32} {d : Nat} {S : QS} {m0 : MM} {p0 p1 : Int} {v0 : Value} {v1 : Value} {rz : Int}
  (hd : 3 ≤ d) (R : Rp S m0) (g0 : okc m0 p0 3) (f0 : q_is 2 v0 p0) (f1 : q_is 0 v1 p1)
  (h : fm_X2_taskAt p0 p1 m0 = some rz) : Mt xs d 24 [v0, v1] S (Cr 0 m0 m0 rz) := by
  obtain ⟨d, rfl⟩ : ∃ e, d = e + 1 := ⟨d - 1, by omega⟩
  have hd : 2 ≤ d := Nat.le_of_succ_le_succ hd
  refine Mt.of (M := qM_X2_taskAt) rfl (by rw [sl_1 (q_is_cat f0 (Or.inr rfl)), sl_1 (q_is_cat f1 (Or.inl rfl)), sl_0]; decide) ?_
  rw [la_1 (q_is_cat f0 (Or.inr rfl)), la_1 (q_is_cat f1 (Or.inl rfl)), la_0]
  obtain ⟨L, hL⟩ : ∃ L : QL, L = [(0, v0), (0 + 1, v1)] := ⟨_, rfl⟩
  rw [← hL]
  have l0 : q_lo L 0 = some v0 := by rw [hL]; rfl
  have l1 : q_lo L 1 = some v1 := by rw [hL]; rfl
  have hQ : ∀ o S1, Rp S1 m0 → q_out 0 o rz → (Cr 0 m0 m0 rz) o S1 := fun o S1 a b => ⟨a, Ext.rf _, b⟩
  unfold fm_X2_taskAt at h
  refine go_iconst (n := 0) (z := 0) (by decide +kernel) (by decide) fun v_1 f_2 => ?_
  refine go_istore_n (n := 2) (by decide +kernel) (by decide +kernel) f_2 fun L_3 l_4 kp_5 => ?_
  have l_6 := kp_5 0 _ l0 (by decide) (Or.inl (by decide))
  have l_7 := kp_5 1 _ l1 (by decide) (Or.inr (q_is_cat f1 (Or.inl rfl)))
  refine go_iconst (n := 0) (z := 0) (by decide +kernel) (by decide) fun v_8 f_9 => ?_
  refine go_istore_n (n := 3) (by decide +kernel) (by decide +kernel) f_9 fun L_10 l_11 kp_12 => ?_
  have l_13 := kp_12 0 _ l_6 (by decide) (Or.inl (by decide))
  have l_14 := kp_12 1 _ l_7 (by decide) (Or.inl (by decide))
  have l_15 := kp_12 2 _ l_4 (by decide) (Or.inr (q_is_cat f_2 (Or.inl rfl)))
  refine ol_X2_taskAt_4 hd  g0  hQ BIG h R l_13 f0 l_14 f1 l_15 f_2 l_11 f_9
end DF2
