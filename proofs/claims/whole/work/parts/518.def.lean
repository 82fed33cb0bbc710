/-! Methods as functions (written by wip/whole/dec.py), 18: X11_complete, X11_die, X11_replays, X11_take. -/
section DF18
noncomputable def fj_X11_complete_133 (y3 : Int) (m : MM) : Option ((Int ⊕ Nat) × MM) := gd (okc m y3 7) <| up m y3 6 6 fun m_137 =>
lx (m_137 16 11) fun x_149 =>
up m_137 y3 7 x_149 fun m_152 =>
some (.inl (-2), m_152)
set_option maxHeartbeats 4000000 in
theorem oj_X11_complete_133 {xs : List Int32} {d : Nat} {S : QS} {L : QL} {Q : QO → QS → Prop} {m : MM} {y3 : Int} {v0 : Value} {v3 : Value}  {rr : Int ⊕ Nat} {rm : MM}
  (hd : 172 ≤ d) (R : Rp S m) (l0 : q_lo L 0 = some v0) (f0 : q_is 2 v0 4) (l3 : q_lo L 3 = some v3) (f3 : q_is 2 v3 y3)
  (hQ : Ext m rm → ∀ o S1, Rp S1 rm → q_oux 0 o rr → Q o S1)
  (h : fj_X11_complete_133 y3 m = some (rr, rm)) : Go xs d qM_X11_complete 133 L [] S Q := by
  unfold fj_X11_complete_133 at h
  refine go_aload_n (n := 3) (by decide +kernel) l3 f3 ?_
  refine go_bipush (n := 6) (z := 6) (by decide +kernel) (by decide) fun v_134 f_135 => ?_
  obtain ⟨g_136, h⟩ := gd_s h
  obtain ⟨m_137, e_138, h⟩ := up_s h
  refine go_putf (x := 208) (ci := 7) (kf := 6) (fin := 0) (zt := 0) (by decide +kernel) (by decide +kernel) (by decide) (by decide +kernel) (by decide) (Or.inl rfl) R f3 f_135 (fun hq => absurd hq (by decide)) g_136 e_138 (fx_f (j := 6) R.2 g_136 (by decide +kernel)) fun S_139 R_140 E_141 => ?_
  have E_142 := E_141
  refine go_aload_n (n := 3) (by decide +kernel) l3 f3 ?_
  refine go_aload_n (n := 0) (by decide +kernel) l0 f0 ?_
  refine go_getf (x := 57) (ci := 12) (kf := 10) (fin := 1) (t := 2) (by decide +kernel) (by decide +kernel) (by decide +kernel) R_140 f0 (fx_k (c := 12) R_140 (by decide +kernel)) fun v_143 f_144 => ?_
  have f_145 := q_is_eq (b := 16) f_144 (fx_v R_140 (by decide +kernel)).symm
  obtain ⟨x_149, e_150, h⟩ := lx_s h
  refine go_getf (x := 335) (ci := 5) (kf := 11) (fin := 0) (t := 0) (by decide +kernel) (by decide +kernel) (by decide +kernel) R_140 f_145 (fx_k (c := 5) R_140 (by decide +kernel)) fun v_146 f_147 => ?_
  have f_148 := q_is_eq f_147 e_150
  have g_151 := Ext.ok E_141 g_136
  obtain ⟨m_152, e_153, h⟩ := up_s h
  refine go_putf (x := 272) (ci := 7) (kf := 7) (fin := 0) (zt := 0) (by decide +kernel) (by decide +kernel) (by decide) (by decide +kernel) (by decide) (Or.inl rfl) R_140 f3 f_148 (fun hq => absurd hq (by decide)) g_151 e_153 (fx_f (j := 7) R_140.2 g_151 (by decide +kernel)) fun S_154 R_155 E_156 => ?_
  have E_157 := Ext.tr E_142 E_156
  refine go_bipush (n := (-2)) (z := (-2)) (by decide +kernel) (by decide) fun v_158 f_159 => ?_
  cases h
  exact go_iret (by decide +kernel) rfl (Or.inl rfl) f_159 (hQ E_157 _ _ R_155 (q_out_v (by decide) f_159))
noncomputable def fl_X11_complete_176 (y3 y7 y8 : Int) : Nat → Int → MM → Option ((Int ⊕ Nat) × MM)
  | 0, _, _ => none
  | n + 1, y9, m => if y9 < w32 (y7 + y8) then
gd (okc m y3 7) <| lx (m y3 16) fun x_223 =>
gd (okc m x_223 3) <| lx (m x_223 1) fun x_229 =>
if y9 < x_229 then
bd (fm_X11_carryOut y3 y9 m) fun x_233 m_234 =>
lx (w32 (y9 + 1)) fun x_247 =>
fl_X11_complete_176 y3 y7 y8 n x_247 m_234
else
some (.inl y8, m)
else
some (.inl y8, m)
set_option maxHeartbeats 4000000 in
theorem ol_X11_complete_176 {xs : List Int32} {d : Nat} {Q : QO → QS → Prop} {mb : MM} {y3 y7 y8 : Int} {rr : Int ⊕ Nat} {rm : MM}
  (hd : 172 ≤ d)
  (hQ : Ext mb rm → ∀ o S1, Rp S1 rm → q_oux 0 o rr → Q o S1) :
  ∀ (n : Nat) {m : MM} {S : QS} {L : QL} {y9 : Int} {v0 : Value} {v3 : Value} {v7 : Value} {v8 : Value} {v9 : Value} , Ext mb m → fl_X11_complete_176 y3 y7 y8 n y9 m = some (rr, rm) → Rp S m → q_lo L 0 = some v0 → q_is 2 v0 4 → q_lo L 3 = some v3 → q_is 2 v3 y3 → q_lo L 7 = some v7 → q_is 0 v7 y7 → q_lo L 8 = some v8 → q_is 0 v8 y8 → q_lo L 9 = some v9 → q_is 0 v9 y9 → Go xs d qM_X11_complete 176 L [] S Q := by
  intro n
  induction n with
  | zero => intro m S L y9 v0 v3 v7 v8 v9; intro E h R l0 f0 l3 f3 l7 f7 l8 f8 l9 f9; cases h
  | succ n ih0 =>
    intro m S L y9 v0 v3 v7 v8 v9; intro E h R l0 f0 l3 f3 l7 f7 l8 f8 l9 f9
    have ih : ∀ mq : MM, Ext mb mq → ∀ {z9 : Int} {Sq : QS} {Lq : QL} {u0 : Value} {u3 : Value} {u7 : Value} {u8 : Value} {u9 : Value}, fl_X11_complete_176 y3 y7 y8 n z9 mq = some (rr, rm) → Rp Sq mq → q_lo Lq 0 = some u0 → q_is 2 u0 4 → q_lo Lq 3 = some u3 → q_is 2 u3 y3 → q_lo Lq 7 = some u7 → q_is 0 u7 y7 → q_lo Lq 8 = some u8 → q_is 0 u8 y8 → q_lo Lq 9 = some u9 → q_is 0 u9 z9 → Go xs d qM_X11_complete 176 Lq [] Sq Q := fun mq b => by intros; exact ih0 b ‹_› ‹_› ‹_› ‹_› ‹_› ‹_› ‹_› ‹_› ‹_› ‹_› ‹_› ‹_›
    unfold fl_X11_complete_176 at h
    refine go_iload (n := 9) (by decide +kernel) l9 f9 ?_
    refine go_iload (n := 7) (by decide +kernel) l7 f7 ?_
    refine go_iload (n := 8) (by decide +kernel) l8 f8 ?_
    refine go_iadd (by decide +kernel) f7 f8 fun v_216 f_217 => ?_
    refine go_icmp (c := .ge) (o := 28) (t := 211) (P := ¬ (y9 < w32 (y7 + y8))) (by decide +kernel) (by decide +kernel) f9 f_217 (Int.not_lt.symm) (fun hp_218 => ?_) (fun hp_218 => ?_)
    · have h := it_f hp_218 h
      refine go_iload (n := 8) (by decide +kernel) l8 f8 ?_
      cases h
      exact go_iret (by decide +kernel) rfl (Or.inl rfl) f8 (hQ E _ _ R (q_out_v (by decide) f8))
    · have h := it_n hp_218 h
      refine go_iload (n := 9) (by decide +kernel) l9 f9 ?_
      refine go_aload_n (n := 3) (by decide +kernel) l3 f3 ?_
      obtain ⟨g_221, h⟩ := gd_s h
      obtain ⟨x_223, e_224, h⟩ := lx_s h
      refine go_getf (x := 195) (ci := 7) (kf := 16) (fin := 2) (t := 2) (by decide +kernel) (by decide +kernel) (by decide +kernel) R f3 g_221 fun v_219 f_220 => ?_
      have f_222 := q_is_eq f_220 e_224
      obtain ⟨g_227, h⟩ := gd_s h
      obtain ⟨x_229, e_230, h⟩ := lx_s h
      refine go_getf (x := 199) (ci := 3) (kf := 1) (fin := 0) (t := 0) (by decide +kernel) (by decide +kernel) (by decide +kernel) R f_222 g_227 fun v_225 f_226 => ?_
      have f_228 := q_is_eq f_226 e_230
      refine go_icmp (c := .ge) (o := 16) (t := 211) (P := ¬ (y9 < x_229)) (by decide +kernel) (by decide +kernel) f9 f_228 (Int.not_lt.symm) (fun hp_231 => ?_) (fun hp_231 => ?_)
      · have h := it_f hp_231 h
        refine go_iload (n := 8) (by decide +kernel) l8 f8 ?_
        cases h
        exact go_iret (by decide +kernel) rfl (Or.inl rfl) f8 (hQ E _ _ R (q_out_v (by decide) f8))
      · have h := it_n hp_231 h
        refine go_aload_n (n := 0) (by decide +kernel) l0 f0 ?_
        refine go_aload_n (n := 3) (by decide +kernel) l3 f3 ?_
        refine go_iload (n := 9) (by decide +kernel) l9 f9 ?_
        obtain ⟨x_233, m_234, hc_232, h⟩ := bd_s h
        refine go_callV (x := 340) (mi := 166) (n := 2) (ci := 12) (as := [v3, v9]) (rest := []) (by decide +kernel) (by decide +kernel) rfl rfl (q_sum8 _ (Nat.le_of_ble_eq_true rfl)) R f0 (fx_k (c := 12) R (by decide +kernel)) (om_X11_carryOut (Nat.le_trans (by decide) hd) R f0 f3 f9 hc_232) (fun _ S_237 q_240 => ?_) (fun _ _ qq => kr_x qq)
        refine kr_v q_240 fun R_238 E_239 => ?_
        have E_241 := Ext.tr E E_239
        refine go_iinc (n := 9) (c := 1) (c' := 1) (by decide +kernel) (by decide +kernel) l9 f9 (by decide) fun L_242 v_243 f_244 l_245 kp_246 => ?_
        obtain ⟨x_247, e_248, h⟩ := lx_s h
        have f_249 := q_is_eq f_244 e_248
        have l_250 := kp_246 0 _ l0 (by decide) (Or.inl (by decide))
        have l_251 := kp_246 3 _ l3 (by decide) (Or.inl (by decide))
        have l_252 := kp_246 7 _ l7 (by decide) (Or.inl (by decide))
        have l_253 := kp_246 8 _ l8 (by decide) (Or.inr (q_is_cat f8 (Or.inl rfl)))
        refine go_goto (o := (-32)) (t := 176) (by decide +kernel) (by decide +kernel) ?_
        exact ih m_234 E_241 h R_238 l_250 f0 l_251 f3 l_252 f7 l_253 f8 l_245 f_249
noncomputable def fj_X11_complete_95 (y2 y3 y5 s0 : Int) (m : MM) : Option ((Int ⊕ Nat) × MM) := gd (okc m y3 7) <| lx (m y3 3) fun x_106 =>
bp (fm_X11_codeOf y3 x_106 m) fun x_109 =>
gd (okc m y2 10) <| lx (m y2 3) fun x_121 =>
bd (fm_X4_follow y3 x_109 x_121 s0 m) fun x_124 m_125 =>
if x_124 = 0 then
fj_X11_complete_133 y3 m_125
else
bd (fm_X4_isLeft m_125) fun x_164 m_165 =>
if x_164 = 0 then
lx (m_165 y3 16) fun x_178 =>
gd (okc m_165 x_178 3) <| lx (m_165 x_178 1) fun x_184 =>
bd (fm_X11_putNews y3 y2 y5 m_165) fun x_194 m_195 =>
fl_X11_complete_176 y3 x_184 x_194  BIG x_184 m_195
else
fj_X11_complete_133 y3 m_165
set_option maxHeartbeats 4000000 in
theorem oj_X11_complete_95 {xs : List Int32} {d : Nat} {S : QS} {L : QL} {Q : QO → QS → Prop} {m : MM} {y2 y3 y5 s0 : Int} {v0 : Value} {v2 : Value} {v3 : Value} {v5 : Value} {w0 : Value}  {rr : Int ⊕ Nat} {rm : MM}
  (hd : 172 ≤ d) (R : Rp S m) (l0 : q_lo L 0 = some v0) (f0 : q_is 2 v0 4) (l2 : q_lo L 2 = some v2) (f2 : q_is 2 v2 y2) (l3 : q_lo L 3 = some v3) (f3 : q_is 2 v3 y3) (l5 : q_lo L 5 = some v5) (f5 : q_is 0 v5 y5) (fs0 : q_is 0 w0 s0)
  (hQ : Ext m rm → ∀ o S1, Rp S1 rm → q_oux 0 o rr → Q o S1)
  (h : fj_X11_complete_95 y2 y3 y5 s0 m = some (rr, rm)) : Go xs d qM_X11_complete 95 L [w0] S Q := by
  unfold fj_X11_complete_95 at h
  refine go_istore (n := 6) (by decide +kernel) (by decide +kernel) fs0 fun L_92 l_93 kp_94 => ?_
  have l_95 := kp_94 0 _ l0 (by decide) (Or.inl (by decide))
  have l_96 := kp_94 2 _ l2 (by decide) (Or.inl (by decide))
  have l_97 := kp_94 3 _ l3 (by decide) (Or.inl (by decide))
  have l_98 := kp_94 5 _ l5 (by decide) (Or.inr (q_is_cat f5 (Or.inl rfl)))
  refine go_aload_n (n := 0) (by decide +kernel) l_95 f0 ?_
  refine go_getf (x := 57) (ci := 12) (kf := 10) (fin := 1) (t := 2) (by decide +kernel) (by decide +kernel) (by decide +kernel) R f0 (fx_k (c := 12) R (by decide +kernel)) fun v_99 f_100 => ?_
  have f_101 := q_is_eq (b := 16) f_100 (fx_v R (by decide +kernel)).symm
  refine go_aload_n (n := 3) (by decide +kernel) l_97 f3 ?_
  refine go_aload_n (n := 0) (by decide +kernel) l_95 f0 ?_
  refine go_aload_n (n := 3) (by decide +kernel) l_97 f3 ?_
  refine go_aload_n (n := 3) (by decide +kernel) l_97 f3 ?_
  obtain ⟨g_104, h⟩ := gd_s h
  obtain ⟨x_106, e_107, h⟩ := lx_s h
  refine go_getf (x := 213) (ci := 7) (kf := 3) (fin := 0) (t := 0) (by decide +kernel) (by decide +kernel) (by decide +kernel) R f3 g_104 fun v_102 f_103 => ?_
  have f_105 := q_is_eq f_103 e_107
  obtain ⟨x_109, hc_108, h⟩ := bp_s h
  refine go_callV (x := 216) (mi := 149) (n := 2) (ci := 12) (as := [v3, v_102]) (rest := [v3, v_99]) (by decide +kernel) (by decide +kernel) rfl rfl (q_sum8 _ (Nat.le_of_ble_eq_true rfl)) R f0 (fx_k (c := 12) R (by decide +kernel)) (om_X11_codeOf (Nat.le_trans (by decide) hd) R f0 f3 f_105 hc_108) (fun _ S_113 q_116 => ?_) (fun _ _ qq => kr_x qq)
  refine kr_z (by decide) q_116 fun v_111 f_112 R_114 E_115 => ?_
  refine go_aload_n (n := 2) (by decide +kernel) l_96 f2 ?_
  obtain ⟨g_119, h⟩ := gd_s h
  obtain ⟨x_121, e_122, h⟩ := lx_s h
  refine go_getf (x := 329) (ci := 10) (kf := 3) (fin := 2) (t := 0) (by decide +kernel) (by decide +kernel) (by decide +kernel) R_114 f2 g_119 fun v_117 f_118 => ?_
  have f_120 := q_is_eq f_118 e_122
  refine go_iload (n := 6) (by decide +kernel) l_93 fs0 ?_
  obtain ⟨x_124, m_125, hc_123, h⟩ := bd_s h
  refine go_callV (x := 223) (mi := 30) (n := 4) (ci := 5) (as := [v3, v_111, v_117, w0]) (rest := []) (by decide +kernel) (by decide +kernel) rfl rfl (q_sum8 _ (Nat.le_of_ble_eq_true rfl)) R_114 f_101 (fx_k (c := 5) R_114 (by decide +kernel)) (om_X4_follow (Nat.le_trans (by decide) hd) R_114 f_101 f3 f_112 f_120 fs0 hc_123) (fun _ S_128 q_131 => ?_) (fun _ _ qq => kr_x qq)
  refine kr_z (by decide) q_131 fun v_126 f_127 R_129 E_130 => ?_
  have E_132 := E_130
  refine go_if (c := .eq) (o := 13) (t := 133) (P := x_124 = 0) (by decide +kernel) (by decide +kernel) f_127 (Iff.rfl) (fun hp_133 => ?_) (fun hp_133 => ?_)
  · have h := it_t hp_133 h
    exact oj_X11_complete_133 hd R_129 l_95 f0 l_97 f3 (fun b => hQ (Ext.tr E_132 b)) h
  · have h := it_f hp_133 h
    refine go_aload_n (n := 0) (by decide +kernel) l_95 f0 ?_
    refine go_getf (x := 57) (ci := 12) (kf := 10) (fin := 1) (t := 2) (by decide +kernel) (by decide +kernel) (by decide +kernel) R_129 f0 (fx_k (c := 12) R_129 (by decide +kernel)) fun v_160 f_161 => ?_
    have f_162 := q_is_eq (b := 16) f_161 (fx_v R_129 (by decide +kernel)).symm
    obtain ⟨x_164, m_165, hc_163, h⟩ := bd_s h
    refine go_callV (x := 332) (mi := 36) (n := 0) (ci := 5) (as := []) (rest := []) (by decide +kernel) (by decide +kernel) rfl rfl (q_sum8 _ (Nat.le_of_ble_eq_true rfl)) R_129 f_162 (fx_k (c := 5) R_129 (by decide +kernel)) (om_X4_isLeft (Nat.le_trans (by decide) hd) R_129 f_162 hc_163) (fun _ S_168 q_171 => ?_) (fun _ _ qq => kr_x qq)
    refine kr_z (by decide) q_171 fun v_166 f_167 R_169 E_170 => ?_
    have E_172 := Ext.tr E_132 E_170
    refine go_if (c := .eq) (o := 23) (t := 153) (P := x_164 = 0) (by decide +kernel) (by decide +kernel) f_167 (Iff.rfl) (fun hp_173 => ?_) (fun hp_173 => ?_)
    · have h := it_t hp_173 h
      refine go_aload_n (n := 3) (by decide +kernel) l_97 f3 ?_
      have g_176 := Ext.ok (Ext.tr E_130 E_170) g_104
      obtain ⟨x_178, e_179, h⟩ := lx_s h
      refine go_getf (x := 195) (ci := 7) (kf := 16) (fin := 2) (t := 2) (by decide +kernel) (by decide +kernel) (by decide +kernel) R_169 f3 g_176 fun v_174 f_175 => ?_
      have f_177 := q_is_eq f_175 e_179
      obtain ⟨g_182, h⟩ := gd_s h
      obtain ⟨x_184, e_185, h⟩ := lx_s h
      refine go_getf (x := 199) (ci := 3) (kf := 1) (fin := 0) (t := 0) (by decide +kernel) (by decide +kernel) (by decide +kernel) R_169 f_177 g_182 fun v_180 f_181 => ?_
      have f_183 := q_is_eq f_181 e_185
      refine go_istore (n := 7) (by decide +kernel) (by decide +kernel) f_183 fun L_186 l_187 kp_188 => ?_
      have l_189 := kp_188 0 _ l_95 (by decide) (Or.inl (by decide))
      have l_190 := kp_188 2 _ l_96 (by decide) (Or.inl (by decide))
      have l_191 := kp_188 3 _ l_97 (by decide) (Or.inl (by decide))
      have l_192 := kp_188 5 _ l_98 (by decide) (Or.inl (by decide))
      refine go_aload_n (n := 0) (by decide +kernel) l_189 f0 ?_
      refine go_aload_n (n := 3) (by decide +kernel) l_191 f3 ?_
      refine go_aload_n (n := 2) (by decide +kernel) l_190 f2 ?_
      refine go_iload (n := 5) (by decide +kernel) l_192 f5 ?_
      obtain ⟨x_194, m_195, hc_193, h⟩ := bd_s h
      refine go_callV (x := 336) (mi := 165) (n := 3) (ci := 12) (as := [v3, v2, v5]) (rest := []) (by decide +kernel) (by decide +kernel) rfl rfl (q_sum8 _ (Nat.le_of_ble_eq_true rfl)) R_169 f0 (fx_k (c := 12) R_169 (by decide +kernel)) (om_X11_putNews (Nat.le_trans (by decide) hd) R_169 f0 f3 f2 f5 hc_193) (fun _ S_198 q_201 => ?_) (fun _ _ qq => kr_x qq)
      refine kr_z (by decide) q_201 fun v_196 f_197 R_199 E_200 => ?_
      have E_202 := Ext.tr E_172 E_200
      refine go_istore (n := 8) (by decide +kernel) (by decide +kernel) f_197 fun L_203 l_204 kp_205 => ?_
      have l_206 := kp_205 0 _ l_189 (by decide) (Or.inl (by decide))
      have l_207 := kp_205 3 _ l_191 (by decide) (Or.inl (by decide))
      have l_208 := kp_205 7 _ l_187 (by decide) (Or.inr (q_is_cat f_183 (Or.inl rfl)))
      refine go_iload (n := 7) (by decide +kernel) l_208 f_183 ?_
      refine go_istore (n := 9) (by decide +kernel) (by decide +kernel) f_183 fun L_209 l_210 kp_211 => ?_
      have l_212 := kp_211 0 _ l_206 (by decide) (Or.inl (by decide))
      have l_213 := kp_211 3 _ l_207 (by decide) (Or.inl (by decide))
      have l_214 := kp_211 7 _ l_208 (by decide) (Or.inl (by decide))
      have l_215 := kp_211 8 _ l_204 (by decide) (Or.inr (q_is_cat f_197 (Or.inl rfl)))
      refine ol_X11_complete_176 hd   (fun b => hQ (Ext.tr E_202 b)) BIG (Ext.rf _) h R_199 l_212 f0 l_213 f3 l_214 f_183 l_215 f_197 l_210 f_183
    · have h := it_f hp_173 h
      exact oj_X11_complete_133 hd R_169 l_95 f0 l_97 f3 (fun b => hQ (Ext.tr E_172 b)) h
noncomputable def fj_X11_complete_85 (y2 y3 y5 : Int) (m : MM) : Option ((Int ⊕ Nat) × MM) := if y5 = 0 then
fj_X11_complete_95 y2 y3 y5 0 m
else
fj_X11_complete_95 y2 y3 y5 2 m
set_option maxHeartbeats 4000000 in
theorem oj_X11_complete_85 {xs : List Int32} {d : Nat} {S : QS} {L : QL} {Q : QO → QS → Prop} {m : MM} {y2 y3 y5 : Int} {v0 : Value} {v2 : Value} {v3 : Value} {v5 : Value}  {rr : Int ⊕ Nat} {rm : MM}
  (hd : 172 ≤ d) (R : Rp S m) (l0 : q_lo L 0 = some v0) (f0 : q_is 2 v0 4) (l2 : q_lo L 2 = some v2) (f2 : q_is 2 v2 y2) (l3 : q_lo L 3 = some v3) (f3 : q_is 2 v3 y3) (l5 : q_lo L 5 = some v5) (f5 : q_is 0 v5 y5)
  (hQ : Ext m rm → ∀ o S1, Rp S1 rm → q_oux 0 o rr → Q o S1)
  (h : fj_X11_complete_85 y2 y3 y5 m = some (rr, rm)) : Go xs d qM_X11_complete 85 L [] S Q := by
  unfold fj_X11_complete_85 at h
  refine go_iload (n := 5) (by decide +kernel) l5 f5 ?_
  refine go_if (c := .eq) (o := 7) (t := 94) (P := y5 = 0) (by decide +kernel) (by decide +kernel) f5 (Iff.rfl) (fun hp_89 => ?_) (fun hp_89 => ?_)
  · have h := it_t hp_89 h
    refine go_iconst (n := 0) (z := 0) (by decide +kernel) (by decide) fun v_90 f_91 => ?_
    exact oj_X11_complete_95 hd R l0 f0 l2 f2 l3 f3 l5 f5 f_91 hQ h
  · have h := it_f hp_89 h
    refine go_iconst (n := 2) (z := 2) (by decide +kernel) (by decide) fun v_254 f_255 => ?_
    refine go_goto (o := 4) (t := 95) (by decide +kernel) (by decide +kernel) ?_
    exact oj_X11_complete_95 hd R l0 f0 l2 f2 l3 f3 l5 f5 f_255 hQ h
noncomputable def fm_X11_complete (p1 : Int) (m0 : MM) : Option ((Int ⊕ Nat) × MM) := if p1 < 0 then
some (.inr 0, mthr m0)
else
bp (fm_Jx4a65c_size_8abf5 9 m0) fun x_6 =>
if p1 < x_6 then
bp (fm_Jx4a65c_get_915e3 9 p1 m0) fun x_19 =>
gd (okc m0 x_19 10) <| lx (m0 x_19 1) fun x_35 =>
bp (fm_X11_isStale x_19 m0) fun x_43 =>
up m0 x_19 5 1 fun m_59 =>
if x_43 = 0 then
lx (m_59 x_19 0) fun x_70 =>
gd (okc m_59 x_35 7) <| bp (fm_X6_isKeptBy x_35 x_70 m_59) fun x_74 =>
if x_74 = 0 then
bd (fm_X11_countReplay x_70 m_59) fun x_260 m_261 =>
fj_X11_complete_85 x_19 x_35 x_74 m_261
else
fj_X11_complete_85 x_19 x_35 x_74 m_59
else
some (.inl (-1), m_59)
else
some (.inr 0, mthr m0)
set_option maxHeartbeats 4000000 in
theorem om_X11_complete {xs : List Int32} {d : Nat} {S : QS} {m0 : MM} {p1 : Int} {v0 : Value} {v1 : Value} {rr : Int ⊕ Nat} {rm : MM}
  (hd : 173 ≤ d) (R : Rp S m0) (f0 : q_is 2 v0 4) (f1 : q_is 0 v1 p1)
  (h : fm_X11_complete p1 m0 = some (rr, rm)) : Mt xs d 116 [v0, v1] S (Cx 0 m0 rm rr) := by
  obtain ⟨d, rfl⟩ : ∃ e, d = e + 1 := ⟨d - 1, by omega⟩
  have hd : 172 ≤ d := Nat.le_of_succ_le_succ hd
  refine Mt.of (M := qM_X11_complete) rfl (by rw [sl_1 (q_is_cat f0 (Or.inr rfl)), sl_1 (q_is_cat f1 (Or.inl rfl)), sl_0]; decide) ?_
  rw [la_1 (q_is_cat f0 (Or.inr rfl)), la_1 (q_is_cat f1 (Or.inl rfl)), la_0]
  obtain ⟨L, hL⟩ : ∃ L : QL, L = [(0, v0), (0 + 1, v1)] := ⟨_, rfl⟩
  rw [← hL]
  have l0 : q_lo L 0 = some v0 := by rw [hL]; rfl
  have l1 : q_lo L 1 = some v1 := by rw [hL]; rfl
  have hQ : Ext m0 rm → ∀ o S1, Rp S1 rm → q_oux 0 o rr → (Cx 0 m0 rm rr) o S1 := fun a o S1 b e => ⟨b, a, e⟩
  unfold fm_X11_complete at h
  refine go_iload_n (n := 1) (by decide +kernel) l1 f1 ?_
  refine go_if (c := .lt) (o := 14) (t := 15) (P := p1 < 0) (by decide +kernel) (by decide +kernel) f1 (Iff.rfl) (fun hp_1 => ?_) (fun hp_1 => ?_)
  · have h := it_t hp_1 h
    cases h
    exact go_thr (x := 255) (e := 0) (ic := 259) (b := 0) (by decide +kernel) (by decide +kernel) (by decide +kernel) R rfl fun Sq Rq Eq => hQ Eq _ _ Rq rfl
  · have h := it_f hp_1 h
    refine go_iload_n (n := 1) (by decide +kernel) l1 f1 ?_
    refine go_aload_n (n := 0) (by decide +kernel) l0 f0 ?_
    refine go_getf (x := 31) (ci := 12) (kf := 4) (fin := 1) (t := 2) (by decide +kernel) (by decide +kernel) (by decide +kernel) R f0 (fx_k (c := 12) R (by decide +kernel)) fun v_2 f_3 => ?_
    have f_4 := q_is_eq (b := 9) f_3 (fx_v R (by decide +kernel)).symm
    obtain ⟨x_6, hc_5, h⟩ := bp_s h
    refine go_callV (x := 127) (mi := 326) (n := 0) (ci := 0) (as := []) (rest := [v1]) (by decide +kernel) (by decide +kernel) rfl rfl (q_sum8 _ (Nat.le_of_ble_eq_true rfl)) R f_4 (fx_k (c := 0) R (by decide +kernel)) (om_Jx4a65c_size_8abf5 (Nat.le_trans (by decide) hd) R (fx_k (c := 0) R (by decide +kernel)) f_4 hc_5) (fun _ S_10 q_13 => ?_) (fun _ _ qq => kr_x qq)
    refine kr_z (by decide) q_13 fun v_8 f_9 R_11 E_12 => ?_
    refine go_icmp (c := .lt) (o := 14) (t := 26) (P := p1 < x_6) (by decide +kernel) (by decide +kernel) f1 f_9 (Iff.rfl) (fun hp_14 => ?_) (fun hp_14 => ?_)
    · have h := it_t hp_14 h
      refine go_aload_n (n := 0) (by decide +kernel) l0 f0 ?_
      refine go_getf (x := 31) (ci := 12) (kf := 4) (fin := 1) (t := 2) (by decide +kernel) (by decide +kernel) (by decide +kernel) R_11 f0 (fx_k (c := 12) R_11 (by decide +kernel)) fun v_15 f_16 => ?_
      have f_17 := q_is_eq (b := 9) f_16 (fx_v R_11 (by decide +kernel)).symm
      refine go_iload_n (n := 1) (by decide +kernel) l1 f1 ?_
      obtain ⟨x_19, hc_18, h⟩ := bp_s h
      refine go_callV (x := 305) (mi := 329) (n := 1) (ci := 0) (as := [v1]) (rest := []) (by decide +kernel) (by decide +kernel) rfl rfl (q_sum8 _ (Nat.le_of_ble_eq_true rfl)) R_11 f_17 (fx_k (c := 0) R_11 (by decide +kernel)) (om_Jx4a65c_get_915e3 (Nat.le_trans (by decide) hd) R_11 (fx_k (c := 0) R_11 (by decide +kernel)) f_17 f1 hc_18) (fun _ S_23 q_26 => ?_) (fun _ _ qq => kr_x qq)
      refine kr_z (by decide) q_26 fun v_21 f_22 R_24 E_25 => ?_
      obtain ⟨g_27, h⟩ := gd_s h
      refine go_cast (x := 292) (kd := 10) (a := 0) (b := 0) (by decide +kernel) (by decide +kernel) R_24 f_22 g_27 ?_
      refine go_astore_n (n := 2) (by decide +kernel) (by decide +kernel) f_22 fun L_28 l_29 kp_30 => ?_
      have l_31 := kp_30 0 _ l0 (by decide) (Or.inl (by decide))
      refine go_aload_n (n := 2) (by decide +kernel) l_29 f_22 ?_
      obtain ⟨x_35, e_36, h⟩ := lx_s h
      refine go_getf (x := 309) (ci := 10) (kf := 1) (fin := 2) (t := 2) (by decide +kernel) (by decide +kernel) (by decide +kernel) R_24 f_22 g_27 fun v_32 f_33 => ?_
      have f_34 := q_is_eq f_33 e_36
      refine go_astore_n (n := 3) (by decide +kernel) (by decide +kernel) f_34 fun L_37 l_38 kp_39 => ?_
      have l_40 := kp_39 0 _ l_31 (by decide) (Or.inl (by decide))
      have l_41 := kp_39 2 _ l_29 (by decide) (Or.inr (q_is_cat f_22 (Or.inr rfl)))
      refine go_aload_n (n := 0) (by decide +kernel) l_40 f0 ?_
      refine go_aload_n (n := 2) (by decide +kernel) l_41 f_22 ?_
      obtain ⟨x_43, hc_42, h⟩ := bp_s h
      refine go_callV (x := 313) (mi := 163) (n := 1) (ci := 12) (as := [v_21]) (rest := []) (by decide +kernel) (by decide +kernel) rfl rfl (q_sum8 _ (Nat.le_of_ble_eq_true rfl)) R_24 f0 (fx_k (c := 12) R_24 (by decide +kernel)) (om_X11_isStale (Nat.le_trans (by decide) hd) R_24 f0 f_22 hc_42) (fun _ S_47 q_50 => ?_) (fun _ _ qq => kr_x qq)
      refine kr_z (by decide) q_50 fun v_45 f_46 R_48 E_49 => ?_
      refine go_istore (n := 4) (by decide +kernel) (by decide +kernel) f_46 fun L_51 l_52 kp_53 => ?_
      have l_54 := kp_53 0 _ l_40 (by decide) (Or.inl (by decide))
      have l_55 := kp_53 2 _ l_41 (by decide) (Or.inl (by decide))
      have l_56 := kp_53 3 _ l_38 (by decide) (Or.inr (q_is_cat f_34 (Or.inr rfl)))
      refine go_aload_n (n := 2) (by decide +kernel) l_55 f_22 ?_
      refine go_iconst (n := 1) (z := 1) (by decide +kernel) (by decide) fun v_57 f_58 => ?_
      obtain ⟨m_59, e_60, h⟩ := up_s h
      refine go_putf (x := 317) (ci := 10) (kf := 5) (fin := 0) (zt := 1) (by decide +kernel) (by decide +kernel) (by decide) (by decide +kernel) (by decide) (Or.inl rfl) R_48 f_22 f_58 (fun _ => by decide) g_27 e_60 (fx_f (j := 5) R_48.2 g_27 (by decide +kernel)) fun S_61 R_62 E_63 => ?_
      have E_64 := E_63
      refine go_iload (n := 4) (by decide +kernel) l_52 f_46 ?_
      refine go_if (c := .eq) (o := 5) (t := 62) (P := x_43 = 0) (by decide +kernel) (by decide +kernel) f_46 (Iff.rfl) (fun hp_65 => ?_) (fun hp_65 => ?_)
      · have h := it_t hp_65 h
        refine go_aload_n (n := 3) (by decide +kernel) l_56 f_34 ?_
        refine go_aload_n (n := 2) (by decide +kernel) l_55 f_22 ?_
        have g_68 := Ext.ok E_63 g_27
        obtain ⟨x_70, e_71, h⟩ := lx_s h
        refine go_getf (x := 320) (ci := 10) (kf := 0) (fin := 2) (t := 0) (by decide +kernel) (by decide +kernel) (by decide +kernel) R_62 f_22 g_68 fun v_66 f_67 => ?_
        have f_69 := q_is_eq f_67 e_71
        obtain ⟨g_72, h⟩ := gd_s h
        obtain ⟨x_74, hc_73, h⟩ := bp_s h
        refine go_callV (x := 323) (mi := 70) (n := 1) (ci := 7) (as := [v_66]) (rest := []) (by decide +kernel) (by decide +kernel) rfl rfl (q_sum8 _ (Nat.le_of_ble_eq_true rfl)) R_62 f_34 g_72 (om_X6_isKeptBy (Nat.le_trans (by decide) hd) R_62 g_72 f_34 f_69 hc_73) (fun _ S_78 q_81 => ?_) (fun _ _ qq => kr_x qq)
        refine kr_z (by decide) q_81 fun v_76 f_77 R_79 E_80 => ?_
        refine go_istore (n := 5) (by decide +kernel) (by decide +kernel) f_77 fun L_82 l_83 kp_84 => ?_
        have l_85 := kp_84 0 _ l_54 (by decide) (Or.inl (by decide))
        have l_86 := kp_84 2 _ l_55 (by decide) (Or.inl (by decide))
        have l_87 := kp_84 3 _ l_56 (by decide) (Or.inl (by decide))
        refine go_iload (n := 5) (by decide +kernel) l_83 f_77 ?_
        refine go_if (c := .ne) (o := 11) (t := 85) (P := ¬ (x_74 = 0)) (by decide +kernel) (by decide +kernel) f_77 (Iff.rfl) (fun hp_88 => ?_) (fun hp_88 => ?_)
        · have h := it_f hp_88 h
          exact oj_X11_complete_85 hd R_79 l_85 f0 l_86 f_22 l_87 f_34 l_83 f_77 (fun b => hQ (Ext.tr E_64 b)) h
        · have h := it_n hp_88 h
          refine go_aload_n (n := 0) (by decide +kernel) l_85 f0 ?_
          refine go_aload_n (n := 2) (by decide +kernel) l_86 f_22 ?_
          refine go_getf (x := 320) (ci := 10) (kf := 0) (fin := 2) (t := 0) (by decide +kernel) (by decide +kernel) (by decide +kernel) R_79 f_22 g_68 fun v_256 f_257 => ?_
          have f_258 := q_is_eq f_257 e_71
          obtain ⟨x_260, m_261, hc_259, h⟩ := bd_s h
          refine go_callV (x := 326) (mi := 164) (n := 1) (ci := 12) (as := [v_256]) (rest := []) (by decide +kernel) (by decide +kernel) rfl rfl (q_sum8 _ (Nat.le_of_ble_eq_true rfl)) R_79 f0 (fx_k (c := 12) R_79 (by decide +kernel)) (om_X11_countReplay (Nat.le_trans (by decide) hd) R_79 f0 f_258 hc_259) (fun _ S_264 q_267 => ?_) (fun _ _ qq => kr_x qq)
          refine kr_v q_267 fun R_265 E_266 => ?_
          have E_268 := Ext.tr E_64 E_266
          exact oj_X11_complete_85 hd R_265 l_85 f0 l_86 f_22 l_87 f_34 l_83 f_77 (fun b => hQ (Ext.tr E_268 b)) h
      · have h := it_f hp_65 h
        refine go_iconst (n := (-1)) (z := (-1)) (by decide +kernel) (by decide) fun v_269 f_270 => ?_
        cases h
        exact go_iret (by decide +kernel) rfl (Or.inl rfl) f_270 (hQ E_64 _ _ R_62 (q_out_v (by decide) f_270))
    · have h := it_f hp_14 h
      cases h
      exact go_thr (x := 255) (e := 0) (ic := 259) (b := 0) (by decide +kernel) (by decide +kernel) (by decide +kernel) R_11 rfl fun Sq Rq Eq => hQ Eq _ _ Rq rfl
noncomputable def fl_X11_die_9 (y1 : Int) (k65 : Int → MM → Option ((Int ⊕ Nat) × MM)) : Nat → Int → Int → MM → Option ((Int ⊕ Nat) × MM)
  | 0, _, _, _ => none
  | n + 1, y2, y3, m => bp (fm_Jx4a65c_size_8abf5 9 m) fun x_32 =>
if y3 < x_32 then
bp (fm_Jx4a65c_get_915e3 9 y3 m) fun x_45 =>
gd (okc m x_45 10) <| lx (m x_45 0) fun x_64 =>
if x_64 = y1 then
lx (m x_45 5) fun x_81 =>
if x_81 = 0 then
up m x_45 5 1 fun m_97 =>
lx (w32 (y2 + 1)) fun x_108 =>
lx (w32 (y3 + 1)) fun x_119 =>
fl_X11_die_9 y1 k65 n x_108 x_119 m_97
else
lx (w32 (y3 + 1)) fun x_89 =>
fl_X11_die_9 y1 k65 n y2 x_89 m
else
lx (w32 (y3 + 1)) fun x_72 =>
fl_X11_die_9 y1 k65 n y2 x_72 m
else
k65 y2 m
set_option maxHeartbeats 4000000 in
theorem ol_X11_die_9 {xs : List Int32} {d : Nat} {Q : QO → QS → Prop} {mb : MM} {y1 : Int} {k65 : Int → MM → Option ((Int ⊕ Nat) × MM)} {rr : Int ⊕ Nat} {rm : MM}
  (hd : 3 ≤ d)
  (hk65 : ∀ mq : MM, Ext mb mq → ∀ {z2 : Int} {Sq : QS} {Lq : QL} {u0 : Value} {u1 : Value} {u2 : Value}, k65 z2 mq = some (rr, rm) → Rp Sq mq → q_lo Lq 0 = some u0 → q_is 2 u0 4 → q_lo Lq 1 = some u1 → q_is 0 u1 y1 → q_lo Lq 2 = some u2 → q_is 0 u2 z2 → Go xs d qM_X11_die 65 Lq [] Sq Q)
  (hQ : Ext mb rm → ∀ o S1, Rp S1 rm → q_oux 0 o rr → Q o S1) :
  ∀ (n : Nat) {m : MM} {S : QS} {L : QL} {y2 y3 : Int} {v0 : Value} {v1 : Value} {v2 : Value} {v3 : Value} , Ext mb m → fl_X11_die_9 y1 k65 n y2 y3 m = some (rr, rm) → Rp S m → q_lo L 0 = some v0 → q_is 2 v0 4 → q_lo L 1 = some v1 → q_is 0 v1 y1 → q_lo L 2 = some v2 → q_is 0 v2 y2 → q_lo L 3 = some v3 → q_is 0 v3 y3 → Go xs d qM_X11_die 9 L [] S Q := by
  intro n
  induction n with
  | zero => intro m S L y2 y3 v0 v1 v2 v3; intro E h R l0 f0 l1 f1 l2 f2 l3 f3; cases h
  | succ n ih0 =>
    intro m S L y2 y3 v0 v1 v2 v3; intro E h R l0 f0 l1 f1 l2 f2 l3 f3
    have ih : ∀ mq : MM, Ext mb mq → ∀ {z2 : Int} {z3 : Int} {Sq : QS} {Lq : QL} {u0 : Value} {u1 : Value} {u2 : Value} {u3 : Value}, fl_X11_die_9 y1 k65 n z2 z3 mq = some (rr, rm) → Rp Sq mq → q_lo Lq 0 = some u0 → q_is 2 u0 4 → q_lo Lq 1 = some u1 → q_is 0 u1 y1 → q_lo Lq 2 = some u2 → q_is 0 u2 z2 → q_lo Lq 3 = some u3 → q_is 0 u3 z3 → Go xs d qM_X11_die 9 Lq [] Sq Q := fun mq b => by intros; exact ih0 b ‹_› ‹_› ‹_› ‹_› ‹_› ‹_› ‹_› ‹_› ‹_› ‹_›
    unfold fl_X11_die_9 at h
    refine go_iload_n (n := 3) (by decide +kernel) l3 f3 ?_
    refine go_aload_n (n := 0) (by decide +kernel) l0 f0 ?_
    refine go_getf (x := 31) (ci := 12) (kf := 4) (fin := 1) (t := 2) (by decide +kernel) (by decide +kernel) (by decide +kernel) R f0 (fx_k (c := 12) R (by decide +kernel)) fun v_28 f_29 => ?_
    have f_30 := q_is_eq (b := 9) f_29 (fx_v R (by decide +kernel)).symm
    obtain ⟨x_32, hc_31, h⟩ := bp_s h
    refine go_callV (x := 127) (mi := 326) (n := 0) (ci := 0) (as := []) (rest := [v3]) (by decide +kernel) (by decide +kernel) rfl rfl (q_sum8 _ (Nat.le_of_ble_eq_true rfl)) R f_30 (fx_k (c := 0) R (by decide +kernel)) (om_Jx4a65c_size_8abf5 (Nat.le_trans (by decide) hd) R (fx_k (c := 0) R (by decide +kernel)) f_30 hc_31) (fun _ S_36 q_39 => ?_) (fun _ _ qq => kr_x qq)
    refine kr_z (by decide) q_39 fun v_34 f_35 R_37 E_38 => ?_
    refine go_icmp (c := .ge) (o := 48) (t := 65) (P := ¬ (y3 < x_32)) (by decide +kernel) (by decide +kernel) f3 f_35 (Int.not_lt.symm) (fun hp_40 => ?_) (fun hp_40 => ?_)
    · have h := it_f hp_40 h
      exact hk65 m E h R_37 l0 f0 l1 f1 l2 f2
    · have h := it_n hp_40 h
      refine go_aload_n (n := 0) (by decide +kernel) l0 f0 ?_
      refine go_getf (x := 31) (ci := 12) (kf := 4) (fin := 1) (t := 2) (by decide +kernel) (by decide +kernel) (by decide +kernel) R_37 f0 (fx_k (c := 12) R_37 (by decide +kernel)) fun v_41 f_42 => ?_
      have f_43 := q_is_eq (b := 9) f_42 (fx_v R_37 (by decide +kernel)).symm
      refine go_iload_n (n := 3) (by decide +kernel) l3 f3 ?_
      obtain ⟨x_45, hc_44, h⟩ := bp_s h
      refine go_callV (x := 305) (mi := 329) (n := 1) (ci := 0) (as := [v3]) (rest := []) (by decide +kernel) (by decide +kernel) rfl rfl (q_sum8 _ (Nat.le_of_ble_eq_true rfl)) R_37 f_43 (fx_k (c := 0) R_37 (by decide +kernel)) (om_Jx4a65c_get_915e3 (Nat.le_trans (by decide) hd) R_37 (fx_k (c := 0) R_37 (by decide +kernel)) f_43 f3 hc_44) (fun _ S_49 q_52 => ?_) (fun _ _ qq => kr_x qq)
      refine kr_z (by decide) q_52 fun v_47 f_48 R_50 E_51 => ?_
      obtain ⟨g_53, h⟩ := gd_s h
      refine go_cast (x := 292) (kd := 10) (a := 0) (b := 0) (by decide +kernel) (by decide +kernel) R_50 f_48 g_53 ?_
      refine go_astore (n := 4) (by decide +kernel) (by decide +kernel) f_48 fun L_54 l_55 kp_56 => ?_
      have l_57 := kp_56 0 _ l0 (by decide) (Or.inl (by decide))
      have l_58 := kp_56 1 _ l1 (by decide) (Or.inl (by decide))
      have l_59 := kp_56 2 _ l2 (by decide) (Or.inl (by decide))
      have l_60 := kp_56 3 _ l3 (by decide) (Or.inr (q_is_cat f3 (Or.inl rfl)))
      refine go_aload (n := 4) (by decide +kernel) l_55 f_48 ?_
      obtain ⟨x_64, e_65, h⟩ := lx_s h
      refine go_getf (x := 320) (ci := 10) (kf := 0) (fin := 2) (t := 0) (by decide +kernel) (by decide +kernel) (by decide +kernel) R_50 f_48 g_53 fun v_61 f_62 => ?_
      have f_63 := q_is_eq f_62 e_65
      refine go_iload_n (n := 1) (by decide +kernel) l_58 f1 ?_
      refine go_icmp (c := .ne) (o := 20) (t := 59) (P := ¬ (x_64 = y1)) (by decide +kernel) (by decide +kernel) f_63 f1 (Iff.rfl) (fun hp_66 => ?_) (fun hp_66 => ?_)
      · have h := it_f hp_66 h
        refine go_iinc (n := 3) (c := 1) (c' := 1) (by decide +kernel) (by decide +kernel) l_60 f3 (by decide) fun L_67 v_68 f_69 l_70 kp_71 => ?_
        obtain ⟨x_72, e_73, h⟩ := lx_s h
        have f_74 := q_is_eq f_69 e_73
        have l_75 := kp_71 0 _ l_57 (by decide) (Or.inl (by decide))
        have l_76 := kp_71 1 _ l_58 (by decide) (Or.inl (by decide))
        have l_77 := kp_71 2 _ l_59 (by decide) (Or.inr (q_is_cat f2 (Or.inl rfl)))
        refine go_goto (o := (-53)) (t := 9) (by decide +kernel) (by decide +kernel) ?_
        exact ih m E h R_50 l_75 f0 l_76 f1 l_77 f2 l_70 f_74
      · have h := it_n hp_66 h
        refine go_aload (n := 4) (by decide +kernel) l_55 f_48 ?_
        obtain ⟨x_81, e_82, h⟩ := lx_s h
        refine go_getf (x := 317) (ci := 10) (kf := 5) (fin := 0) (t := 0) (by decide +kernel) (by decide +kernel) (by decide +kernel) R_50 f_48 g_53 fun v_78 f_79 => ?_
        have f_80 := q_is_eq f_79 e_82
        refine go_if (c := .ne) (o := 12) (t := 59) (P := ¬ (x_81 = 0)) (by decide +kernel) (by decide +kernel) f_80 (Iff.rfl) (fun hp_83 => ?_) (fun hp_83 => ?_)
        · have h := it_f hp_83 h
          refine go_iinc (n := 3) (c := 1) (c' := 1) (by decide +kernel) (by decide +kernel) l_60 f3 (by decide) fun L_84 v_85 f_86 l_87 kp_88 => ?_
          obtain ⟨x_89, e_90, h⟩ := lx_s h
          have f_91 := q_is_eq f_86 e_90
          have l_92 := kp_88 0 _ l_57 (by decide) (Or.inl (by decide))
          have l_93 := kp_88 1 _ l_58 (by decide) (Or.inl (by decide))
          have l_94 := kp_88 2 _ l_59 (by decide) (Or.inr (q_is_cat f2 (Or.inl rfl)))
          refine go_goto (o := (-53)) (t := 9) (by decide +kernel) (by decide +kernel) ?_
          exact ih m E h R_50 l_92 f0 l_93 f1 l_94 f2 l_87 f_91
        · have h := it_n hp_83 h
          refine go_aload (n := 4) (by decide +kernel) l_55 f_48 ?_
          refine go_iconst (n := 1) (z := 1) (by decide +kernel) (by decide) fun v_95 f_96 => ?_
          obtain ⟨m_97, e_98, h⟩ := up_s h
          refine go_putf (x := 317) (ci := 10) (kf := 5) (fin := 0) (zt := 1) (by decide +kernel) (by decide +kernel) (by decide) (by decide +kernel) (by decide) (Or.inl rfl) R_50 f_48 f_96 (fun _ => by decide) g_53 e_98 (fx_f (j := 5) R_50.2 g_53 (by decide +kernel)) fun S_99 R_100 E_101 => ?_
          have E_102 := Ext.tr E E_101
          refine go_iinc (n := 2) (c := 1) (c' := 1) (by decide +kernel) (by decide +kernel) l_59 f2 (by decide) fun L_103 v_104 f_105 l_106 kp_107 => ?_
          obtain ⟨x_108, e_109, h⟩ := lx_s h
          have f_110 := q_is_eq f_105 e_109
          have l_111 := kp_107 0 _ l_57 (by decide) (Or.inl (by decide))
          have l_112 := kp_107 1 _ l_58 (by decide) (Or.inr (q_is_cat f1 (Or.inl rfl)))
          have l_113 := kp_107 3 _ l_60 (by decide) (Or.inl (by decide))
          refine go_iinc (n := 3) (c := 1) (c' := 1) (by decide +kernel) (by decide +kernel) l_113 f3 (by decide) fun L_114 v_115 f_116 l_117 kp_118 => ?_
          obtain ⟨x_119, e_120, h⟩ := lx_s h
          have f_121 := q_is_eq f_116 e_120
          have l_122 := kp_118 0 _ l_111 (by decide) (Or.inl (by decide))
          have l_123 := kp_118 1 _ l_112 (by decide) (Or.inl (by decide))
          have l_124 := kp_118 2 _ l_106 (by decide) (Or.inr (q_is_cat f_110 (Or.inl rfl)))
          refine go_goto (o := (-53)) (t := 9) (by decide +kernel) (by decide +kernel) ?_
          exact ih m_97 E_102 h R_100 l_122 f0 l_123 f1 l_124 f_110 l_117 f_121
noncomputable def fl_X11_die_67 (y1 y2 : Int) : Nat → Int → MM → Option ((Int ⊕ Nat) × MM)
  | 0, _, _ => none
  | n + 1, y3, m => bp (fm_Jx4a65c_size_8abf5 7 m) fun x_153 =>
if y3 < x_153 then
bp (fm_Jx4a65c_get_915e3 7 y3 m) fun x_166 =>
gd (okc m x_166 7) <| lx (m x_166 12) fun x_185 =>
if x_185 = y1 then
up m x_166 12 (-1) fun m_210 =>
lx (w32 (y3 + 1)) fun x_221 =>
fl_X11_die_67 y1 y2 n x_221 m_210
else
up m x_166 12 x_185 fun m_191 =>
lx (w32 (y3 + 1)) fun x_202 =>
fl_X11_die_67 y1 y2 n x_202 m_191
else
some (.inl y2, m)
set_option maxHeartbeats 4000000 in
theorem ol_X11_die_67 {xs : List Int32} {d : Nat} {Q : QO → QS → Prop} {mb : MM} {y1 y2 : Int} {rr : Int ⊕ Nat} {rm : MM}
  (hd : 3 ≤ d)
  (hQ : Ext mb rm → ∀ o S1, Rp S1 rm → q_oux 0 o rr → Q o S1) :
  ∀ (n : Nat) {m : MM} {S : QS} {L : QL} {y3 : Int} {v0 : Value} {v1 : Value} {v2 : Value} {v3 : Value} , Ext mb m → fl_X11_die_67 y1 y2 n y3 m = some (rr, rm) → Rp S m → q_lo L 0 = some v0 → q_is 2 v0 4 → q_lo L 1 = some v1 → q_is 0 v1 y1 → q_lo L 2 = some v2 → q_is 0 v2 y2 → q_lo L 3 = some v3 → q_is 0 v3 y3 → Go xs d qM_X11_die 67 L [] S Q := by
  intro n
  induction n with
  | zero => intro m S L y3 v0 v1 v2 v3; intro E h R l0 f0 l1 f1 l2 f2 l3 f3; cases h
  | succ n ih0 =>
    intro m S L y3 v0 v1 v2 v3; intro E h R l0 f0 l1 f1 l2 f2 l3 f3
    have ih : ∀ mq : MM, Ext mb mq → ∀ {z3 : Int} {Sq : QS} {Lq : QL} {u0 : Value} {u1 : Value} {u2 : Value} {u3 : Value}, fl_X11_die_67 y1 y2 n z3 mq = some (rr, rm) → Rp Sq mq → q_lo Lq 0 = some u0 → q_is 2 u0 4 → q_lo Lq 1 = some u1 → q_is 0 u1 y1 → q_lo Lq 2 = some u2 → q_is 0 u2 y2 → q_lo Lq 3 = some u3 → q_is 0 u3 z3 → Go xs d qM_X11_die 67 Lq [] Sq Q := fun mq b => by intros; exact ih0 b ‹_› ‹_› ‹_› ‹_› ‹_› ‹_› ‹_› ‹_› ‹_› ‹_›
    unfold fl_X11_die_67 at h
    refine go_iload_n (n := 3) (by decide +kernel) l3 f3 ?_
    refine go_aload_n (n := 0) (by decide +kernel) l0 f0 ?_
    refine go_getf (x := 24) (ci := 12) (kf := 2) (fin := 1) (t := 2) (by decide +kernel) (by decide +kernel) (by decide +kernel) R f0 (fx_k (c := 12) R (by decide +kernel)) fun v_149 f_150 => ?_
    have f_151 := q_is_eq (b := 7) f_150 (fx_v R (by decide +kernel)).symm
    obtain ⟨x_153, hc_152, h⟩ := bp_s h
    refine go_callV (x := 127) (mi := 326) (n := 0) (ci := 0) (as := []) (rest := [v3]) (by decide +kernel) (by decide +kernel) rfl rfl (q_sum8 _ (Nat.le_of_ble_eq_true rfl)) R f_151 (fx_k (c := 0) R (by decide +kernel)) (om_Jx4a65c_size_8abf5 (Nat.le_trans (by decide) hd) R (fx_k (c := 0) R (by decide +kernel)) f_151 hc_152) (fun _ S_157 q_160 => ?_) (fun _ _ qq => kr_x qq)
    refine kr_z (by decide) q_160 fun v_155 f_156 R_158 E_159 => ?_
    refine go_icmp (c := .ge) (o := 45) (t := 120) (P := ¬ (y3 < x_153)) (by decide +kernel) (by decide +kernel) f3 f_156 (Int.not_lt.symm) (fun hp_161 => ?_) (fun hp_161 => ?_)
    · have h := it_f hp_161 h
      refine go_iload_n (n := 2) (by decide +kernel) l2 f2 ?_
      cases h
      exact go_iret (by decide +kernel) rfl (Or.inl rfl) f2 (hQ E _ _ R_158 (q_out_v (by decide) f2))
    · have h := it_n hp_161 h
      refine go_aload_n (n := 0) (by decide +kernel) l0 f0 ?_
      refine go_getf (x := 24) (ci := 12) (kf := 2) (fin := 1) (t := 2) (by decide +kernel) (by decide +kernel) (by decide +kernel) R_158 f0 (fx_k (c := 12) R_158 (by decide +kernel)) fun v_162 f_163 => ?_
      have f_164 := q_is_eq (b := 7) f_163 (fx_v R_158 (by decide +kernel)).symm
      refine go_iload_n (n := 3) (by decide +kernel) l3 f3 ?_
      obtain ⟨x_166, hc_165, h⟩ := bp_s h
      refine go_callV (x := 305) (mi := 329) (n := 1) (ci := 0) (as := [v3]) (rest := []) (by decide +kernel) (by decide +kernel) rfl rfl (q_sum8 _ (Nat.le_of_ble_eq_true rfl)) R_158 f_164 (fx_k (c := 0) R_158 (by decide +kernel)) (om_Jx4a65c_get_915e3 (Nat.le_trans (by decide) hd) R_158 (fx_k (c := 0) R_158 (by decide +kernel)) f_164 f3 hc_165) (fun _ S_170 q_173 => ?_) (fun _ _ qq => kr_x qq)
      refine kr_z (by decide) q_173 fun v_168 f_169 R_171 E_172 => ?_
      obtain ⟨g_174, h⟩ := gd_s h
      refine go_cast (x := 181) (kd := 7) (a := 0) (b := 0) (by decide +kernel) (by decide +kernel) R_171 f_169 g_174 ?_
      refine go_astore (n := 4) (by decide +kernel) (by decide +kernel) f_169 fun L_175 l_176 kp_177 => ?_
      have l_178 := kp_177 0 _ l0 (by decide) (Or.inl (by decide))
      have l_179 := kp_177 1 _ l1 (by decide) (Or.inl (by decide))
      have l_180 := kp_177 2 _ l2 (by decide) (Or.inl (by decide))
      have l_181 := kp_177 3 _ l3 (by decide) (Or.inr (q_is_cat f3 (Or.inl rfl)))
      refine go_aload (n := 4) (by decide +kernel) l_176 f_169 ?_
      refine go_aload (n := 4) (by decide +kernel) l_176 f_169 ?_
      obtain ⟨x_185, e_186, h⟩ := lx_s h
      refine go_getf (x := 344) (ci := 7) (kf := 12) (fin := 0) (t := 0) (by decide +kernel) (by decide +kernel) (by decide +kernel) R_171 f_169 g_174 fun v_182 f_183 => ?_
      have f_184 := q_is_eq f_183 e_186
      refine go_iload_n (n := 1) (by decide +kernel) l_179 f1 ?_
      refine go_icmp (c := .ne) (o := 7) (t := 106) (P := ¬ (x_185 = y1)) (by decide +kernel) (by decide +kernel) f_184 f1 (Iff.rfl) (fun hp_187 => ?_) (fun hp_187 => ?_)
      · have h := it_f hp_187 h
        refine go_aload (n := 4) (by decide +kernel) l_176 f_169 ?_
        refine go_getf (x := 344) (ci := 7) (kf := 12) (fin := 0) (t := 0) (by decide +kernel) (by decide +kernel) (by decide +kernel) R_171 f_169 g_174 fun v_188 f_189 => ?_
        have f_190 := q_is_eq f_189 e_186
        obtain ⟨m_191, e_192, h⟩ := up_s h
        refine go_putf (x := 344) (ci := 7) (kf := 12) (fin := 0) (zt := 0) (by decide +kernel) (by decide +kernel) (by decide) (by decide +kernel) (by decide) (Or.inl rfl) R_171 f_169 f_190 (fun hq => absurd hq (by decide)) g_174 e_192 (fx_f (j := 12) R_171.2 g_174 (by decide +kernel)) fun S_193 R_194 E_195 => ?_
        have E_196 := Ext.tr E E_195
        refine go_iinc (n := 3) (c := 1) (c' := 1) (by decide +kernel) (by decide +kernel) l_181 f3 (by decide) fun L_197 v_198 f_199 l_200 kp_201 => ?_
        obtain ⟨x_202, e_203, h⟩ := lx_s h
        have f_204 := q_is_eq f_199 e_203
        have l_205 := kp_201 0 _ l_178 (by decide) (Or.inl (by decide))
        have l_206 := kp_201 1 _ l_179 (by decide) (Or.inl (by decide))
        have l_207 := kp_201 2 _ l_180 (by decide) (Or.inr (q_is_cat f2 (Or.inl rfl)))
        refine go_goto (o := (-50)) (t := 67) (by decide +kernel) (by decide +kernel) ?_
        exact ih m_191 E_196 h R_194 l_205 f0 l_206 f1 l_207 f2 l_200 f_204
      · have h := it_n hp_187 h
        refine go_iconst (n := (-1)) (z := (-1)) (by decide +kernel) (by decide) fun v_208 f_209 => ?_
        refine go_goto (o := 8) (t := 111) (by decide +kernel) (by decide +kernel) ?_
        obtain ⟨m_210, e_211, h⟩ := up_s h
        refine go_putf (x := 344) (ci := 7) (kf := 12) (fin := 0) (zt := 0) (by decide +kernel) (by decide +kernel) (by decide) (by decide +kernel) (by decide) (Or.inl rfl) R_171 f_169 f_209 (fun hq => absurd hq (by decide)) g_174 e_211 (fx_f (j := 12) R_171.2 g_174 (by decide +kernel)) fun S_212 R_213 E_214 => ?_
        have E_215 := Ext.tr E E_214
        refine go_iinc (n := 3) (c := 1) (c' := 1) (by decide +kernel) (by decide +kernel) l_181 f3 (by decide) fun L_216 v_217 f_218 l_219 kp_220 => ?_
        obtain ⟨x_221, e_222, h⟩ := lx_s h
        have f_223 := q_is_eq f_218 e_222
        have l_224 := kp_220 0 _ l_178 (by decide) (Or.inl (by decide))
        have l_225 := kp_220 1 _ l_179 (by decide) (Or.inl (by decide))
        have l_226 := kp_220 2 _ l_180 (by decide) (Or.inr (q_is_cat f2 (Or.inl rfl)))
        refine go_goto (o := (-50)) (t := 67) (by decide +kernel) (by decide +kernel) ?_
        exact ih m_210 E_215 h R_213 l_224 f0 l_225 f1 l_226 f2 l_219 f_223
noncomputable def fm_X11_die (p1 : Int) (m0 : MM) : Option ((Int ⊕ Nat) × MM) := bx (fm_X11_checkWorker p1 m0) (fun q_10 m_3 => some (.inr q_10, m_3)) fun x_2 m_3 =>
fl_X11_die_9 p1 (fun x_125 m_138 =>
fl_X11_die_67 p1 x_125  BIG 0 m_138) BIG 0 0 m_3
set_option maxHeartbeats 4000000 in
theorem om_X11_die {xs : List Int32} {d : Nat} {S : QS} {m0 : MM} {p1 : Int} {v0 : Value} {v1 : Value} {rr : Int ⊕ Nat} {rm : MM}
  (hd : 4 ≤ d) (R : Rp S m0) (f0 : q_is 2 v0 4) (f1 : q_is 0 v1 p1)
  (h : fm_X11_die p1 m0 = some (rr, rm)) : Mt xs d 117 [v0, v1] S (Cx 0 m0 rm rr) := by
  obtain ⟨d, rfl⟩ : ∃ e, d = e + 1 := ⟨d - 1, by omega⟩
  have hd : 3 ≤ d := Nat.le_of_succ_le_succ hd
  refine Mt.of (M := qM_X11_die) rfl (by rw [sl_1 (q_is_cat f0 (Or.inr rfl)), sl_1 (q_is_cat f1 (Or.inl rfl)), sl_0]; decide) ?_
  rw [la_1 (q_is_cat f0 (Or.inr rfl)), la_1 (q_is_cat f1 (Or.inl rfl)), la_0]
  obtain ⟨L, hL⟩ : ∃ L : QL, L = [(0, v0), (0 + 1, v1)] := ⟨_, rfl⟩
  rw [← hL]
  have l0 : q_lo L 0 = some v0 := by rw [hL]; rfl
  have l1 : q_lo L 1 = some v1 := by rw [hL]; rfl
  have hQ : Ext m0 rm → ∀ o S1, Rp S1 rm → q_oux 0 o rr → (Cx 0 m0 rm rr) o S1 := fun a o S1 b e => ⟨b, a, e⟩
  unfold fm_X11_die at h
  refine go_aload_n (n := 0) (by decide +kernel) l0 f0 ?_
  refine go_iload_n (n := 1) (by decide +kernel) l1 f1 ?_
  obtain ⟨rr5, m_3, hc_1, h⟩ := bx_s h
  rcases h with ⟨q_10, rfl, h⟩ | ⟨x_2, rfl, h⟩
  · cases h
    exact go_callV (x := 277) (mi := 144) (n := 1) (ci := 12) (as := [v1]) (rest := []) (by decide +kernel) (by decide +kernel) rfl rfl (q_sum8 _ (Nat.le_of_ble_eq_true rfl)) R f0 (fx_k (c := 12) R (by decide +kernel)) (om_X11_checkWorker (Nat.le_trans (by decide) hd) R f0 f1 hc_1) (fun _ _ qq => kx_lx qq) (fun _ _ qq => by
      obtain ⟨rfl, Rq, Eq⟩ := kx_e qq
      exact Or.inl ⟨rfl, hQ Eq _ _ Rq rfl⟩)
  refine go_callV (x := 277) (mi := 144) (n := 1) (ci := 12) (as := [v1]) (rest := []) (by decide +kernel) (by decide +kernel) rfl rfl (q_sum8 _ (Nat.le_of_ble_eq_true rfl)) R f0 (fx_k (c := 12) R (by decide +kernel)) (om_X11_checkWorker (Nat.le_trans (by decide) hd) R f0 f1 hc_1) (fun _ S_6 q_9 => ?_) (fun _ _ qq => kr_x (kx_l qq))
  have q_9 := kx_l q_9
  refine kr_v q_9 fun R_7 E_8 => ?_
  have E_12 := E_8
  refine go_iconst (n := 0) (z := 0) (by decide +kernel) (by decide) fun v_13 f_14 => ?_
  refine go_istore_n (n := 2) (by decide +kernel) (by decide +kernel) f_14 fun L_15 l_16 kp_17 => ?_
  have l_18 := kp_17 0 _ l0 (by decide) (Or.inl (by decide))
  have l_19 := kp_17 1 _ l1 (by decide) (Or.inr (q_is_cat f1 (Or.inl rfl)))
  refine go_iconst (n := 0) (z := 0) (by decide +kernel) (by decide) fun v_20 f_21 => ?_
  refine go_istore_n (n := 3) (by decide +kernel) (by decide +kernel) f_21 fun L_22 l_23 kp_24 => ?_
  have l_25 := kp_24 0 _ l_18 (by decide) (Or.inl (by decide))
  have l_26 := kp_24 1 _ l_19 (by decide) (Or.inl (by decide))
  have l_27 := kp_24 2 _ l_16 (by decide) (Or.inr (q_is_cat f_14 (Or.inl rfl)))
  refine ol_X11_die_9 hd  ?_ (fun b => hQ (Ext.tr E_12 b)) BIG (Ext.rf _) h R_7 l_25 f0 l_26 f1 l_27 f_14 l_23 f_21
  intro m_138 E_139
  intro x_125 S_135 L_136 v_126 v_127 v_128
  intro h R_137 l_129 f_132 l_130 f_133 l_131 f_134
  have E_140 := Ext.tr E_12 E_139
  refine go_iconst (n := 0) (z := 0) (by decide +kernel) (by decide) fun v_141 f_142 => ?_
  refine go_istore_n (n := 3) (by decide +kernel) (by decide +kernel) f_142 fun L_143 l_144 kp_145 => ?_
  have l_146 := kp_145 0 _ l_129 (by decide) (Or.inl (by decide))
  have l_147 := kp_145 1 _ l_130 (by decide) (Or.inl (by decide))
  have l_148 := kp_145 2 _ l_131 (by decide) (Or.inr (q_is_cat f_134 (Or.inl rfl)))
  refine ol_X11_die_67 hd   (fun b => hQ (Ext.tr E_140 b)) BIG (Ext.rf _) h R_137 l_146 f_132 l_147 f_133 l_148 f_134 l_144 f_142
noncomputable def fm_X11_replays (p1 : Int) (m0 : MM) : Option ((Int ⊕ Nat) × MM) := bx (fm_X11_checkWorker p1 m0) (fun q_10 m_3 => some (.inr q_10, m_3)) fun x_2 m_3 =>
gd (0 ≤ p1 ∧ p1 < 3) <| lx (m_3 11 p1) fun x_20 =>
some (.inl x_20, m_3)
set_option maxHeartbeats 4000000 in
theorem om_X11_replays {xs : List Int32} {d : Nat} {S : QS} {m0 : MM} {p1 : Int} {v0 : Value} {v1 : Value} {rr : Int ⊕ Nat} {rm : MM}
  (hd : 2 ≤ d) (R : Rp S m0) (f0 : q_is 2 v0 4) (f1 : q_is 0 v1 p1)
  (h : fm_X11_replays p1 m0 = some (rr, rm)) : Mt xs d 118 [v0, v1] S (Cx 0 m0 rm rr) := by
  obtain ⟨d, rfl⟩ : ∃ e, d = e + 1 := ⟨d - 1, by omega⟩
  have hd : 1 ≤ d := Nat.le_of_succ_le_succ hd
  refine Mt.of (M := qM_X11_replays) rfl (by rw [sl_1 (q_is_cat f0 (Or.inr rfl)), sl_1 (q_is_cat f1 (Or.inl rfl)), sl_0]; decide) ?_
  rw [la_1 (q_is_cat f0 (Or.inr rfl)), la_1 (q_is_cat f1 (Or.inl rfl)), la_0]
  obtain ⟨L, hL⟩ : ∃ L : QL, L = [(0, v0), (0 + 1, v1)] := ⟨_, rfl⟩
  rw [← hL]
  have l0 : q_lo L 0 = some v0 := by rw [hL]; rfl
  have l1 : q_lo L 1 = some v1 := by rw [hL]; rfl
  have hQ : Ext m0 rm → ∀ o S1, Rp S1 rm → q_oux 0 o rr → (Cx 0 m0 rm rr) o S1 := fun a o S1 b e => ⟨b, a, e⟩
  unfold fm_X11_replays at h
  refine go_aload_n (n := 0) (by decide +kernel) l0 f0 ?_
  refine go_iload_n (n := 1) (by decide +kernel) l1 f1 ?_
  obtain ⟨rr5, m_3, hc_1, h⟩ := bx_s h
  rcases h with ⟨q_10, rfl, h⟩ | ⟨x_2, rfl, h⟩
  · cases h
    exact go_callV (x := 277) (mi := 144) (n := 1) (ci := 12) (as := [v1]) (rest := []) (by decide +kernel) (by decide +kernel) rfl rfl (q_sum8 _ (Nat.le_of_ble_eq_true rfl)) R f0 (fx_k (c := 12) R (by decide +kernel)) (om_X11_checkWorker (Nat.le_trans (by decide) hd) R f0 f1 hc_1) (fun _ _ qq => kx_lx qq) (fun _ _ qq => by
      obtain ⟨rfl, Rq, Eq⟩ := kx_e qq
      exact Or.inl ⟨rfl, hQ Eq _ _ Rq rfl⟩)
  refine go_callV (x := 277) (mi := 144) (n := 1) (ci := 12) (as := [v1]) (rest := []) (by decide +kernel) (by decide +kernel) rfl rfl (q_sum8 _ (Nat.le_of_ble_eq_true rfl)) R f0 (fx_k (c := 12) R (by decide +kernel)) (om_X11_checkWorker (Nat.le_trans (by decide) hd) R f0 f1 hc_1) (fun _ S_6 q_9 => ?_) (fun _ _ qq => kr_x (kx_l qq))
  have q_9 := kx_l q_9
  refine kr_v q_9 fun R_7 E_8 => ?_
  have E_12 := E_8
  refine go_aload_n (n := 0) (by decide +kernel) l0 f0 ?_
  refine go_getf (x := 37) (ci := 12) (kf := 6) (fin := 1) (t := 2) (by decide +kernel) (by decide +kernel) (by decide +kernel) R_7 f0 (fx_k (c := 12) R_7 (by decide +kernel)) fun v_13 f_14 => ?_
  have f_15 := q_is_eq (b := 11) f_14 (fx_v R_7 (by decide +kernel)).symm
  refine go_iload_n (n := 1) (by decide +kernel) l1 f1 ?_
  obtain ⟨g_18, h⟩ := gd_s h
  obtain ⟨x_20, e_21, h⟩ := lx_s h
  refine go_iald (kd := 100) (by decide +kernel) rfl R_7 f_15 f1 (fx_k (c := 100) R_7 (by decide +kernel)) (fx_x (a := 11) (ln := 3) R_7 (by decide +kernel) g_18) fun v_16 f_17 => ?_
  have f_19 := q_is_eq f_17 e_21
  cases h
  exact go_iret (by decide +kernel) rfl (Or.inl rfl) f_19 (hQ E_12 _ _ R_7 (q_out_v (by decide) f_19))
noncomputable def fl_X11_take_8 (y1 : Int) (m : MM) (k57 : Int → Int → Option ((Int ⊕ Nat) × MM)) : Nat → Int → Option ((Int ⊕ Nat) × MM)
  | 0, _ => none
  | n + 1, y2 => bp (fm_Jx4a65c_size_8abf5 8 m) fun x_24 =>
if y2 < x_24 then
bp (fm_Jx4a65c_get_915e3 8 y2 m) fun x_39 =>
gd (okc m x_39 1) <| lx (m x_39 2) fun x_57 =>
if x_57 = y1 then
lx (m x_39 5) fun x_73 =>
if x_73 = 0 then
lx (m x_39 7) fun x_89 =>
lx (m 4 14) fun x_94 =>
if x_94 < x_89 then
lx (w32 (y2 + 1)) fun x_102 =>
fl_X11_take_8 y1 m k57 n x_102
else
k57 y2 x_39
else
lx (w32 (y2 + 1)) fun x_81 =>
fl_X11_take_8 y1 m k57 n x_81
else
lx (w32 (y2 + 1)) fun x_65 =>
fl_X11_take_8 y1 m k57 n x_65
else
some (.inl (-1), m)
set_option maxHeartbeats 4000000 in
theorem ol_X11_take_8 {xs : List Int32} {d : Nat} {Q : QO → QS → Prop} {m : MM} {y1 : Int} {k57 : Int → Int → Option ((Int ⊕ Nat) × MM)} {rr : Int ⊕ Nat} {rm : MM}
  (hd : 3 ≤ d)
  (hk57 : ∀ {z2 : Int} {z3 : Int} {Sq : QS} {Lq : QL} {u0 : Value} {u2 : Value} {u3 : Value}, k57 z2 z3 = some (rr, rm) → Rp Sq m → q_lo Lq 0 = some u0 → q_is 2 u0 4 → q_lo Lq 2 = some u2 → q_is 0 u2 z2 → q_lo Lq 3 = some u3 → q_is 2 u3 z3 → Go xs d qM_X11_take 57 Lq [] Sq Q)
  (hQ : Ext m rm → ∀ o S1, Rp S1 rm → q_oux 0 o rr → Q o S1) :
  ∀ (n : Nat) {S : QS} {L : QL} {y2 : Int} {v0 : Value} {v1 : Value} {v2 : Value} , fl_X11_take_8 y1 m k57 n y2 = some (rr, rm) → Rp S m → q_lo L 0 = some v0 → q_is 2 v0 4 → q_lo L 1 = some v1 → q_is 0 v1 y1 → q_lo L 2 = some v2 → q_is 0 v2 y2 → Go xs d qM_X11_take 8 L [] S Q := by
  intro n
  induction n with
  | zero => intro S L y2 v0 v1 v2; intro h R l0 f0 l1 f1 l2 f2; cases h
  | succ n ih0 =>
    intro S L y2 v0 v1 v2; intro h R l0 f0 l1 f1 l2 f2
    have ih : ∀ {z2 : Int} {Sq : QS} {Lq : QL} {u0 : Value} {u1 : Value} {u2 : Value}, fl_X11_take_8 y1 m k57 n z2 = some (rr, rm) → Rp Sq m → q_lo Lq 0 = some u0 → q_is 2 u0 4 → q_lo Lq 1 = some u1 → q_is 0 u1 y1 → q_lo Lq 2 = some u2 → q_is 0 u2 z2 → Go xs d qM_X11_take 8 Lq [] Sq Q := by intros; exact ih0 ‹_› ‹_› ‹_› ‹_› ‹_› ‹_› ‹_› ‹_›
    unfold fl_X11_take_8 at h
    refine go_iload_n (n := 2) (by decide +kernel) l2 f2 ?_
    refine go_aload_n (n := 0) (by decide +kernel) l0 f0 ?_
    refine go_getf (x := 28) (ci := 12) (kf := 3) (fin := 1) (t := 2) (by decide +kernel) (by decide +kernel) (by decide +kernel) R f0 (fx_k (c := 12) R (by decide +kernel)) fun v_20 f_21 => ?_
    have f_22 := q_is_eq (b := 8) f_21 (fx_v R (by decide +kernel)).symm
    obtain ⟨x_24, hc_23, h⟩ := bp_s h
    refine go_callV (x := 127) (mi := 326) (n := 0) (ci := 0) (as := []) (rest := [v2]) (by decide +kernel) (by decide +kernel) rfl rfl (q_sum8 _ (Nat.le_of_ble_eq_true rfl)) R f_22 (fx_k (c := 0) R (by decide +kernel)) (om_Jx4a65c_size_8abf5 (Nat.le_trans (by decide) hd) R (fx_k (c := 0) R (by decide +kernel)) f_22 hc_23) (fun _ S_28 q_31 => ?_) (fun _ _ qq => kr_x qq)
    refine kr_z (by decide) q_31 fun v_26 f_27 R_29 E_30 => ?_
    refine go_icmp (c := .ge) (o := 66) (t := 82) (P := ¬ (y2 < x_24)) (by decide +kernel) (by decide +kernel) f2 f_27 (Int.not_lt.symm) (fun hp_32 => ?_) (fun hp_32 => ?_)
    · have h := it_f hp_32 h
      refine go_iconst (n := (-1)) (z := (-1)) (by decide +kernel) (by decide) fun v_33 f_34 => ?_
      cases h
      exact go_iret (by decide +kernel) rfl (Or.inl rfl) f_34 (hQ (Ext.rf _) _ _ R_29 (q_out_v (by decide) f_34))
    · have h := it_n hp_32 h
      refine go_aload_n (n := 0) (by decide +kernel) l0 f0 ?_
      refine go_getf (x := 28) (ci := 12) (kf := 3) (fin := 1) (t := 2) (by decide +kernel) (by decide +kernel) (by decide +kernel) R_29 f0 (fx_k (c := 12) R_29 (by decide +kernel)) fun v_35 f_36 => ?_
      have f_37 := q_is_eq (b := 8) f_36 (fx_v R_29 (by decide +kernel)).symm
      refine go_iload_n (n := 2) (by decide +kernel) l2 f2 ?_
      obtain ⟨x_39, hc_38, h⟩ := bp_s h
      refine go_callV (x := 305) (mi := 329) (n := 1) (ci := 0) (as := [v2]) (rest := []) (by decide +kernel) (by decide +kernel) rfl rfl (q_sum8 _ (Nat.le_of_ble_eq_true rfl)) R_29 f_37 (fx_k (c := 0) R_29 (by decide +kernel)) (om_Jx4a65c_get_915e3 (Nat.le_trans (by decide) hd) R_29 (fx_k (c := 0) R_29 (by decide +kernel)) f_37 f2 hc_38) (fun _ S_43 q_46 => ?_) (fun _ _ qq => kr_x qq)
      refine kr_z (by decide) q_46 fun v_41 f_42 R_44 E_45 => ?_
      obtain ⟨g_47, h⟩ := gd_s h
      refine go_cast (x := 347) (kd := 1) (a := 0) (b := 0) (by decide +kernel) (by decide +kernel) R_44 f_42 g_47 ?_
      refine go_astore_n (n := 3) (by decide +kernel) (by decide +kernel) f_42 fun L_48 l_49 kp_50 => ?_
      have l_51 := kp_50 0 _ l0 (by decide) (Or.inl (by decide))
      have l_52 := kp_50 1 _ l1 (by decide) (Or.inl (by decide))
      have l_53 := kp_50 2 _ l2 (by decide) (Or.inr (q_is_cat f2 (Or.inl rfl)))
      refine go_aload_n (n := 3) (by decide +kernel) l_49 f_42 ?_
      obtain ⟨x_57, e_58, h⟩ := lx_s h
      refine go_getf (x := 349) (ci := 1) (kf := 2) (fin := 2) (t := 0) (by decide +kernel) (by decide +kernel) (by decide +kernel) R_44 f_42 g_47 fun v_54 f_55 => ?_
      have f_56 := q_is_eq f_55 e_58
      refine go_iload_n (n := 1) (by decide +kernel) l_52 f1 ?_
      refine go_icmp (c := .ne) (o := 40) (t := 76) (P := ¬ (x_57 = y1)) (by decide +kernel) (by decide +kernel) f_56 f1 (Iff.rfl) (fun hp_59 => ?_) (fun hp_59 => ?_)
      · have h := it_f hp_59 h
        refine go_iinc (n := 2) (c := 1) (c' := 1) (by decide +kernel) (by decide +kernel) l_53 f2 (by decide) fun L_60 v_61 f_62 l_63 kp_64 => ?_
        obtain ⟨x_65, e_66, h⟩ := lx_s h
        have f_67 := q_is_eq f_62 e_66
        have l_68 := kp_64 0 _ l_51 (by decide) (Or.inl (by decide))
        have l_69 := kp_64 1 _ l_52 (by decide) (Or.inr (q_is_cat f1 (Or.inl rfl)))
        refine go_goto (o := (-71)) (t := 8) (by decide +kernel) (by decide +kernel) ?_
        exact ih h R_44 l_68 f0 l_69 f1 l_63 f_67
      · have h := it_n hp_59 h
        refine go_aload_n (n := 3) (by decide +kernel) l_49 f_42 ?_
        obtain ⟨x_73, e_74, h⟩ := lx_s h
        refine go_getf (x := 351) (ci := 1) (kf := 5) (fin := 0) (t := 0) (by decide +kernel) (by decide +kernel) (by decide +kernel) R_44 f_42 g_47 fun v_70 f_71 => ?_
        have f_72 := q_is_eq f_71 e_74
        refine go_if (c := .ne) (o := 33) (t := 76) (P := ¬ (x_73 = 0)) (by decide +kernel) (by decide +kernel) f_72 (Iff.rfl) (fun hp_75 => ?_) (fun hp_75 => ?_)
        · have h := it_f hp_75 h
          refine go_iinc (n := 2) (c := 1) (c' := 1) (by decide +kernel) (by decide +kernel) l_53 f2 (by decide) fun L_76 v_77 f_78 l_79 kp_80 => ?_
          obtain ⟨x_81, e_82, h⟩ := lx_s h
          have f_83 := q_is_eq f_78 e_82
          have l_84 := kp_80 0 _ l_51 (by decide) (Or.inl (by decide))
          have l_85 := kp_80 1 _ l_52 (by decide) (Or.inr (q_is_cat f1 (Or.inl rfl)))
          refine go_goto (o := (-71)) (t := 8) (by decide +kernel) (by decide +kernel) ?_
          exact ih h R_44 l_84 f0 l_85 f1 l_79 f_83
        · have h := it_n hp_75 h
          refine go_aload_n (n := 3) (by decide +kernel) l_49 f_42 ?_
          obtain ⟨x_89, e_90, h⟩ := lx_s h
          refine go_getf (x := 353) (ci := 1) (kf := 7) (fin := 0) (t := 0) (by decide +kernel) (by decide +kernel) (by decide +kernel) R_44 f_42 g_47 fun v_86 f_87 => ?_
          have f_88 := q_is_eq f_87 e_90
          refine go_aload_n (n := 0) (by decide +kernel) l_51 f0 ?_
          obtain ⟨x_94, e_95, h⟩ := lx_s h
          refine go_getf (x := 71) (ci := 12) (kf := 14) (fin := 0) (t := 0) (by decide +kernel) (by decide +kernel) (by decide +kernel) R_44 f0 (fx_k (c := 12) R_44 (by decide +kernel)) fun v_91 f_92 => ?_
          have f_93 := q_is_eq f_92 e_95
          refine go_icmp (c := .gt) (o := 22) (t := 76) (P := x_94 < x_89) (by decide +kernel) (by decide +kernel) f_88 f_93 (Iff.rfl) (fun hp_96 => ?_) (fun hp_96 => ?_)
          · have h := it_t hp_96 h
            refine go_iinc (n := 2) (c := 1) (c' := 1) (by decide +kernel) (by decide +kernel) l_53 f2 (by decide) fun L_97 v_98 f_99 l_100 kp_101 => ?_
            obtain ⟨x_102, e_103, h⟩ := lx_s h
            have f_104 := q_is_eq f_99 e_103
            have l_105 := kp_101 0 _ l_51 (by decide) (Or.inl (by decide))
            have l_106 := kp_101 1 _ l_52 (by decide) (Or.inr (q_is_cat f1 (Or.inl rfl)))
            refine go_goto (o := (-71)) (t := 8) (by decide +kernel) (by decide +kernel) ?_
            exact ih h R_44 l_105 f0 l_106 f1 l_100 f_104
          · have h := it_f hp_96 h
            exact hk57 h R_44 l_51 f0 l_53 f2 l_49 f_42
noncomputable def fm_X11_take (p1 : Int) (m0 : MM) : Option ((Int ⊕ Nat) × MM) := bx (fm_X11_kindAt p1 m0) (fun q_10 m_3 => some (.inr q_10, m_3)) fun x_2 m_3 =>
fl_X11_take_8 p1 m_3 (fun x_107 x_108 =>
lx (m_3 4 14) fun x_124 =>
gd (okc m_3 x_108 1) <| bd (fm_X0_beTaken x_108 x_124 m_3) fun x_128 m_129 =>
lx (m_129 x_108 3) fun x_145 =>
some (.inl (w32 ((w32 (1000 * x_107)) + x_145)), m_129)) BIG 0
set_option maxHeartbeats 4000000 in
theorem om_X11_take {xs : List Int32} {d : Nat} {S : QS} {m0 : MM} {p1 : Int} {v0 : Value} {v1 : Value} {rr : Int ⊕ Nat} {rm : MM}
  (hd : 4 ≤ d) (R : Rp S m0) (f0 : q_is 2 v0 4) (f1 : q_is 0 v1 p1)
  (h : fm_X11_take p1 m0 = some (rr, rm)) : Mt xs d 119 [v0, v1] S (Cx 0 m0 rm rr) := by
  obtain ⟨d, rfl⟩ : ∃ e, d = e + 1 := ⟨d - 1, by omega⟩
  have hd : 3 ≤ d := Nat.le_of_succ_le_succ hd
  refine Mt.of (M := qM_X11_take) rfl (by rw [sl_1 (q_is_cat f0 (Or.inr rfl)), sl_1 (q_is_cat f1 (Or.inl rfl)), sl_0]; decide) ?_
  rw [la_1 (q_is_cat f0 (Or.inr rfl)), la_1 (q_is_cat f1 (Or.inl rfl)), la_0]
  obtain ⟨L, hL⟩ : ∃ L : QL, L = [(0, v0), (0 + 1, v1)] := ⟨_, rfl⟩
  rw [← hL]
  have l0 : q_lo L 0 = some v0 := by rw [hL]; rfl
  have l1 : q_lo L 1 = some v1 := by rw [hL]; rfl
  have hQ : Ext m0 rm → ∀ o S1, Rp S1 rm → q_oux 0 o rr → (Cx 0 m0 rm rr) o S1 := fun a o S1 b e => ⟨b, a, e⟩
  unfold fm_X11_take at h
  refine go_aload_n (n := 0) (by decide +kernel) l0 f0 ?_
  refine go_iload_n (n := 1) (by decide +kernel) l1 f1 ?_
  obtain ⟨rr5, m_3, hc_1, h⟩ := bx_s h
  rcases h with ⟨q_10, rfl, h⟩ | ⟨x_2, rfl, h⟩
  · cases h
    exact go_callV (x := 135) (mi := 138) (n := 1) (ci := 12) (as := [v1]) (rest := []) (by decide +kernel) (by decide +kernel) rfl rfl (q_sum8 _ (Nat.le_of_ble_eq_true rfl)) R f0 (fx_k (c := 12) R (by decide +kernel)) (om_X11_kindAt (Nat.le_trans (by decide) hd) R f0 f1 hc_1) (fun _ _ qq => kx_lx qq) (fun _ _ qq => by
      obtain ⟨rfl, Rq, Eq⟩ := kx_e qq
      exact Or.inl ⟨rfl, hQ Eq _ _ Rq rfl⟩)
  refine go_callV (x := 135) (mi := 138) (n := 1) (ci := 12) (as := [v1]) (rest := []) (by decide +kernel) (by decide +kernel) rfl rfl (q_sum8 _ (Nat.le_of_ble_eq_true rfl)) R f0 (fx_k (c := 12) R (by decide +kernel)) (om_X11_kindAt (Nat.le_trans (by decide) hd) R f0 f1 hc_1) (fun _ S_6 q_9 => ?_) (fun _ _ qq => kr_x (kx_l qq))
  have q_9 := kx_l q_9
  refine kr_z (by decide) q_9 fun v_4 f_5 R_7 E_8 => ?_
  have E_12 := E_8
  refine go_pop (by decide +kernel) f_5 (Or.inr rfl) ?_
  refine go_iconst (n := 0) (z := 0) (by decide +kernel) (by decide) fun v_13 f_14 => ?_
  refine go_istore_n (n := 2) (by decide +kernel) (by decide +kernel) f_14 fun L_15 l_16 kp_17 => ?_
  have l_18 := kp_17 0 _ l0 (by decide) (Or.inl (by decide))
  have l_19 := kp_17 1 _ l1 (by decide) (Or.inr (q_is_cat f1 (Or.inl rfl)))
  refine ol_X11_take_8 hd  ?_ (fun b => hQ (Ext.tr E_12 b)) BIG h R_7 l_18 f0 l_19 f1 l_16 f_14
  intro x_107 x_108 S_118 L_119 v_109 v_110 v_111
  intro h R_120 l_112 f_115 l_113 f_116 l_114 f_117
  refine go_aload_n (n := 3) (by decide +kernel) l_114 f_117 ?_
  refine go_aload_n (n := 0) (by decide +kernel) l_112 f_115 ?_
  obtain ⟨x_124, e_125, h⟩ := lx_s h
  refine go_getf (x := 71) (ci := 12) (kf := 14) (fin := 0) (t := 0) (by decide +kernel) (by decide +kernel) (by decide +kernel) R_120 f_115 (fx_k (c := 12) R_120 (by decide +kernel)) fun v_121 f_122 => ?_
  have f_123 := q_is_eq f_122 e_125
  obtain ⟨g_126, h⟩ := gd_s h
  obtain ⟨x_128, m_129, hc_127, h⟩ := bd_s h
  refine go_callV (x := 356) (mi := 1) (n := 1) (ci := 1) (as := [v_121]) (rest := []) (by decide +kernel) (by decide +kernel) rfl rfl (q_sum8 _ (Nat.le_of_ble_eq_true rfl)) R_120 f_117 g_126 (om_X0_beTaken (Nat.le_trans (by decide) hd) R_120 g_126 f_117 f_123 hc_127) (fun _ S_132 q_135 => ?_) (fun _ _ qq => kr_x qq)
  refine kr_v q_135 fun R_133 E_134 => ?_
  have E_136 := Ext.tr E_12 E_134
  refine go_sipush (n := 1000) (z := 1000) (by decide +kernel) (by decide) fun v_137 f_138 => ?_
  refine go_iload_n (n := 2) (by decide +kernel) l_113 f_116 ?_
  refine go_imul (by decide +kernel) f_138 f_116 fun v_139 f_140 => ?_
  refine go_aload_n (n := 3) (by decide +kernel) l_114 f_117 ?_
  have g_143 := Ext.ok E_134 g_126
  obtain ⟨x_145, e_146, h⟩ := lx_s h
  refine go_getf (x := 359) (ci := 1) (kf := 3) (fin := 2) (t := 0) (by decide +kernel) (by decide +kernel) (by decide +kernel) R_133 f_117 g_143 fun v_141 f_142 => ?_
  have f_144 := q_is_eq f_142 e_146
  refine go_iadd (by decide +kernel) f_140 f_144 fun v_147 f_148 => ?_
  cases h
  exact go_iret (by decide +kernel) rfl (Or.inl rfl) f_148 (hQ E_136 _ _ R_133 (q_out_v (by decide) f_148))
end DF18
