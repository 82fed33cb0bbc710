/-! Methods as functions (written by wip/whole/dec.py), 18: X11_complete, X11_die, X11_replays, X11_take. -/
section DF18
noncomputable def fj_X11_complete_133 (y3 : Int) (m : MM) : Option ((Int ⊕ Nat) × MM) := gd (okc m y3 7) <| up m y3 6 6 fun m_140 =>
lx (m_140 16 11) fun x_153 =>
up m_140 y3 7 x_153 fun m_156 =>
some (.inl (-2), m_156)
set_option maxHeartbeats 4000000 in
theorem oj_X11_complete_133 {xs : List Int32} {d : Nat} {S : QS} {L : QL} {Q : QO → QS → Prop} {m : MM} {y3 : Int} {v0 : Value} {v3 : Value}  {rr : Int ⊕ Nat} {rm : MM}
  (hd : 172 ≤ d) (R : Rp S m) (l0 : q_lo L 0 = some v0) (f0 : q_is 2 v0 4) (l3 : q_lo L 3 = some v3) (f3 : q_is 2 v3 y3)
  (hQ : Ext m rm → ∀ o S1, Rp S1 rm → q_oux 0 o rr → Q o S1)
  (h : fj_X11_complete_133 y3 m = some (rr, rm)) : Go xs d qM_X11_complete 133 L [] S Q := by
  unfold fj_X11_complete_133 at h
  refine go_aload_n (n := 3) (by decide +kernel) l3 f3 ?_
  refine go_bipush (n := 6) (z := 6) (by decide +kernel) (by decide) fun v_137 f_138 => ?_
  obtain ⟨g_139, h⟩ := gd_s h
  obtain ⟨m_140, e_141, h⟩ := up_s h
  refine go_putf (x := 208) (ci := 7) (kf := 6) (fin := 0) (zt := 0) (by decide +kernel) (by decide +kernel) (by decide) (by decide +kernel) (by decide) (Or.inl rfl) R f3 f_138 (fun hq => absurd hq (by decide)) g_139 e_141 (fx_f (j := 6) R.2 g_139 (by decide +kernel)) fun S_142 R_143 E_144 => ?_
  have E_146 := E_144
  refine go_aload_n (n := 3) (by decide +kernel) l3 f3 ?_
  refine go_aload_n (n := 0) (by decide +kernel) l0 f0 ?_
  refine go_getf (x := 57) (ci := 12) (kf := 10) (fin := 1) (t := 2) (by decide +kernel) (by decide +kernel) (by decide +kernel) R_143 f0 (fx_k (c := 12) R_143 (by decide +kernel)) fun v_147 f_148 => ?_
  have f_149 := q_is_eq (b := 16) f_148 (fx_v R_143 (by decide +kernel)).symm
  obtain ⟨x_153, e_154, h⟩ := lx_s h
  refine go_getf (x := 335) (ci := 5) (kf := 11) (fin := 0) (t := 0) (by decide +kernel) (by decide +kernel) (by decide +kernel) R_143 f_149 (fx_k (c := 5) R_143 (by decide +kernel)) fun v_150 f_151 => ?_
  have f_152 := q_is_eq f_151 e_154
  have g_155 := Ext.ok E_144 g_139
  obtain ⟨m_156, e_157, h⟩ := up_s h
  refine go_putf (x := 272) (ci := 7) (kf := 7) (fin := 0) (zt := 0) (by decide +kernel) (by decide +kernel) (by decide) (by decide +kernel) (by decide) (Or.inl rfl) R_143 f3 f_152 (fun hq => absurd hq (by decide)) g_155 e_157 (fx_f (j := 7) R_143.2 g_155 (by decide +kernel)) fun S_158 R_159 E_160 => ?_
  have E_162 := Ext.tr E_146 E_160
  refine go_bipush (n := (-2)) (z := (-2)) (by decide +kernel) (by decide) fun v_163 f_164 => ?_
  cases h
  exact go_iret (by decide +kernel) rfl (Or.inl rfl) f_164 (hQ E_162 _ _ R_159 (q_out_v (by decide) f_164))
noncomputable def fl_X11_complete_176 (y3 y7 y8 : Int) : Nat → Int → MM → Option ((Int ⊕ Nat) × MM)
  | 0, _, _ => none
  | n + 1, y9, m => if y9 < w32 (y7 + y8) then
gd (okc m y3 7) <| lx (m y3 16) fun x_232 =>
gd (okc m x_232 3) <| lx (m x_232 1) fun x_238 =>
if y9 < x_238 then
bd (fm_X11_carryOut y3 y9 m) fun x_242 m_243 =>
lx (w32 (y9 + 1)) fun x_258 =>
fl_X11_complete_176 y3 y7 y8 n x_258 m_243
else
some (.inl y8, m)
else
some (.inl y8, m)
set_option maxHeartbeats 4000000 in
theorem ol_X11_complete_176 {xs : List Int32} {d : Nat} {Q : QO → QS → Prop} {mb : MM} {y3 y7 y8 : Int} {rr : Int ⊕ Nat} {rm : MM}
  (hd : 172 ≤ d)
  (hQ : Ext mb rm → ∀ o S1, Rp S1 rm → q_oux 0 o rr → Q o S1) :
  ∀ (n : Nat) {m : MM} {S : QS} {L : QL} {y9 : Int} {v0 : Value} {v3 : Value} {v7 : Value} {v8 : Value} {v9 : Value} , Ext mb m → fl_X11_complete_176 y3 y7 y8 n y9 m = some (rr, rm) → Rp S m → q_lo L 0 = some v0 → q_is 2 v0 4 → q_lo L 3 = some v3 → q_is 2 v3 y3 → q_lo L 7 = some v7 → q_is 0 v7 y7 → q_lo L 8 = some v8 → q_is 0 v8 y8 → q_lo L 9 = some v9 → q_is 0 v9 y9 → Go xs d qM_X11_complete 176 L [] S Q := by
  intro n
  induction n with
  | zero => intro m S L y9 v0 v3 v7 v8 v9; intro E h R l0 f0 l3 f3 l7 f7 l8 f8 l9 f9; cases h
  | succ n ih0 =>
    intro m S L y9 v0 v3 v7 v8 v9; intro E h R l0 f0 l3 f3 l7 f7 l8 f8 l9 f9
    have ih : ∀ mq : MM, Ext mb mq → ∀ {z9 : Int} {Sq : QS} {Lq : QL} {u0 : Value} {u3 : Value} {u7 : Value} {u8 : Value} {u9 : Value}, fl_X11_complete_176 y3 y7 y8 n z9 mq = some (rr, rm) → Rp Sq mq → q_lo Lq 0 = some u0 → q_is 2 u0 4 → q_lo Lq 3 = some u3 → q_is 2 u3 y3 → q_lo Lq 7 = some u7 → q_is 0 u7 y7 → q_lo Lq 8 = some u8 → q_is 0 u8 y8 → q_lo Lq 9 = some u9 → q_is 0 u9 z9 → Go xs d qM_X11_complete 176 Lq [] Sq Q := fun mq b => by intros; exact ih0 b ‹_› ‹_› ‹_› ‹_› ‹_› ‹_› ‹_› ‹_› ‹_› ‹_› ‹_› ‹_›
    unfold fl_X11_complete_176 at h
    refine go_iload (n := 9) (by decide +kernel) l9 f9 ?_
    refine go_iload (n := 7) (by decide +kernel) l7 f7 ?_
    refine go_iload (n := 8) (by decide +kernel) l8 f8 ?_
    refine go_iadd (by decide +kernel) f7 f8 fun v_225 f_226 => ?_
    refine go_icmp (c := .ge) (o := 28) (t := 211) (P := ¬ (y9 < w32 (y7 + y8))) (by decide +kernel) (by decide +kernel) f9 f_226 (Int.not_lt.symm) (fun hp_227 => ?_) (fun hp_227 => ?_)
    · have h := it_f hp_227 h
      refine go_iload (n := 8) (by decide +kernel) l8 f8 ?_
      cases h
      exact go_iret (by decide +kernel) rfl (Or.inl rfl) f8 (hQ E _ _ R (q_out_v (by decide) f8))
    · have h := it_n hp_227 h
      refine go_iload (n := 9) (by decide +kernel) l9 f9 ?_
      refine go_aload_n (n := 3) (by decide +kernel) l3 f3 ?_
      obtain ⟨g_230, h⟩ := gd_s h
      obtain ⟨x_232, e_233, h⟩ := lx_s h
      refine go_getf (x := 195) (ci := 7) (kf := 16) (fin := 2) (t := 2) (by decide +kernel) (by decide +kernel) (by decide +kernel) R f3 g_230 fun v_228 f_229 => ?_
      have f_231 := q_is_eq f_229 e_233
      obtain ⟨g_236, h⟩ := gd_s h
      obtain ⟨x_238, e_239, h⟩ := lx_s h
      refine go_getf (x := 199) (ci := 3) (kf := 1) (fin := 0) (t := 0) (by decide +kernel) (by decide +kernel) (by decide +kernel) R f_231 g_236 fun v_234 f_235 => ?_
      have f_237 := q_is_eq f_235 e_239
      refine go_icmp (c := .ge) (o := 16) (t := 211) (P := ¬ (y9 < x_238)) (by decide +kernel) (by decide +kernel) f9 f_237 (Int.not_lt.symm) (fun hp_240 => ?_) (fun hp_240 => ?_)
      · have h := it_f hp_240 h
        refine go_iload (n := 8) (by decide +kernel) l8 f8 ?_
        cases h
        exact go_iret (by decide +kernel) rfl (Or.inl rfl) f8 (hQ E _ _ R (q_out_v (by decide) f8))
      · have h := it_n hp_240 h
        refine go_aload_n (n := 0) (by decide +kernel) l0 f0 ?_
        refine go_aload_n (n := 3) (by decide +kernel) l3 f3 ?_
        refine go_iload (n := 9) (by decide +kernel) l9 f9 ?_
        obtain ⟨x_242, m_243, hc_241, h⟩ := bd_s h
        refine go_callV (x := 340) (mi := 166) (n := 2) (ci := 12) (as := [v3, v9]) (rest := []) (by decide +kernel) (by decide +kernel) rfl rfl (q_sum8 _ (Nat.le_of_ble_eq_true rfl)) R f0 (fx_k (c := 12) R (by decide +kernel)) (om_X11_carryOut (Nat.le_trans (by decide) hd) R f0 f3 f9 hc_241) (fun _ S_246 q_249 => ?_) (fun _ _ qq => kr_x qq)
        refine kr_v q_249 fun R_247 E_248 => ?_
        have E_252 := Ext.tr E E_248
        refine go_iinc (n := 9) (c := 1) (c' := 1) (by decide +kernel) (by decide +kernel) l9 f9 (by decide) fun L_253 v_254 f_255 l_256 kp_257 => ?_
        obtain ⟨x_258, e_259, h⟩ := lx_s h
        have f_260 := q_is_eq f_255 e_259
        have l_261 := kp_257 0 _ l0 (by decide) (Or.inl (by decide))
        have l_262 := kp_257 3 _ l3 (by decide) (Or.inl (by decide))
        have l_263 := kp_257 7 _ l7 (by decide) (Or.inl (by decide))
        have l_264 := kp_257 8 _ l8 (by decide) (Or.inr (q_is_cat f8 (Or.inl rfl)))
        refine go_goto (o := (-32)) (t := 176) (by decide +kernel) (by decide +kernel) ?_
        exact ih m_243 E_252 h R_247 l_261 f0 l_262 f3 l_263 f7 l_264 f8 l_256 f_260
noncomputable def fj_X11_complete_95 (y2 y3 y5 s0 : Int) (m : MM) : Option ((Int ⊕ Nat) × MM) := gd (okc m y3 7) <| lx (m y3 3) fun x_107 =>
bp (fm_X11_codeOf y3 x_107 m) fun x_110 =>
gd (okc m y2 10) <| lx (m y2 3) fun x_122 =>
bd (fm_X4_follow y3 x_110 x_122 s0 m) fun x_125 m_126 =>
if x_125 = 0 then
fj_X11_complete_133 y3 m_126
else
bd (fm_X4_isLeft m_126) fun x_169 m_170 =>
if x_169 = 0 then
lx (m_170 y3 16) fun x_185 =>
gd (okc m_170 x_185 3) <| lx (m_170 x_185 1) fun x_191 =>
bd (fm_X11_putNews y3 y2 y5 m_170) fun x_201 m_202 =>
fl_X11_complete_176 y3 x_191 x_201  BIG x_191 m_202
else
fj_X11_complete_133 y3 m_170
set_option maxHeartbeats 4000000 in
theorem oj_X11_complete_95 {xs : List Int32} {d : Nat} {S : QS} {L : QL} {Q : QO → QS → Prop} {m : MM} {y2 y3 y5 s0 : Int} {v0 : Value} {v2 : Value} {v3 : Value} {v5 : Value} {w0 : Value}  {rr : Int ⊕ Nat} {rm : MM}
  (hd : 172 ≤ d) (R : Rp S m) (l0 : q_lo L 0 = some v0) (f0 : q_is 2 v0 4) (l2 : q_lo L 2 = some v2) (f2 : q_is 2 v2 y2) (l3 : q_lo L 3 = some v3) (f3 : q_is 2 v3 y3) (l5 : q_lo L 5 = some v5) (f5 : q_is 0 v5 y5) (fs0 : q_is 0 w0 s0)
  (hQ : Ext m rm → ∀ o S1, Rp S1 rm → q_oux 0 o rr → Q o S1)
  (h : fj_X11_complete_95 y2 y3 y5 s0 m = some (rr, rm)) : Go xs d qM_X11_complete 95 L [w0] S Q := by
  unfold fj_X11_complete_95 at h
  refine go_istore (n := 6) (by decide +kernel) (by decide +kernel) fs0 fun L_93 l_94 kp_95 => ?_
  have l_96 := kp_95 0 _ l0 (by decide) (Or.inl (by decide))
  have l_97 := kp_95 2 _ l2 (by decide) (Or.inl (by decide))
  have l_98 := kp_95 3 _ l3 (by decide) (Or.inl (by decide))
  have l_99 := kp_95 5 _ l5 (by decide) (Or.inr (q_is_cat f5 (Or.inl rfl)))
  refine go_aload_n (n := 0) (by decide +kernel) l_96 f0 ?_
  refine go_getf (x := 57) (ci := 12) (kf := 10) (fin := 1) (t := 2) (by decide +kernel) (by decide +kernel) (by decide +kernel) R f0 (fx_k (c := 12) R (by decide +kernel)) fun v_100 f_101 => ?_
  have f_102 := q_is_eq (b := 16) f_101 (fx_v R (by decide +kernel)).symm
  refine go_aload_n (n := 3) (by decide +kernel) l_98 f3 ?_
  refine go_aload_n (n := 0) (by decide +kernel) l_96 f0 ?_
  refine go_aload_n (n := 3) (by decide +kernel) l_98 f3 ?_
  refine go_aload_n (n := 3) (by decide +kernel) l_98 f3 ?_
  obtain ⟨g_105, h⟩ := gd_s h
  obtain ⟨x_107, e_108, h⟩ := lx_s h
  refine go_getf (x := 213) (ci := 7) (kf := 3) (fin := 0) (t := 0) (by decide +kernel) (by decide +kernel) (by decide +kernel) R f3 g_105 fun v_103 f_104 => ?_
  have f_106 := q_is_eq f_104 e_108
  obtain ⟨x_110, hc_109, h⟩ := bp_s h
  refine go_callV (x := 216) (mi := 149) (n := 2) (ci := 12) (as := [v3, v_103]) (rest := [v3, v_100]) (by decide +kernel) (by decide +kernel) rfl rfl (q_sum8 _ (Nat.le_of_ble_eq_true rfl)) R f0 (fx_k (c := 12) R (by decide +kernel)) (om_X11_codeOf (Nat.le_trans (by decide) hd) R f0 f3 f_106 hc_109) (fun _ S_114 q_117 => ?_) (fun _ _ qq => kr_x qq)
  refine kr_z (by decide) q_117 fun v_112 f_113 R_115 E_116 => ?_
  refine go_aload_n (n := 2) (by decide +kernel) l_97 f2 ?_
  obtain ⟨g_120, h⟩ := gd_s h
  obtain ⟨x_122, e_123, h⟩ := lx_s h
  refine go_getf (x := 329) (ci := 10) (kf := 3) (fin := 2) (t := 0) (by decide +kernel) (by decide +kernel) (by decide +kernel) R_115 f2 g_120 fun v_118 f_119 => ?_
  have f_121 := q_is_eq f_119 e_123
  refine go_iload (n := 6) (by decide +kernel) l_94 fs0 ?_
  obtain ⟨x_125, m_126, hc_124, h⟩ := bd_s h
  refine go_callV (x := 223) (mi := 30) (n := 4) (ci := 5) (as := [v3, v_112, v_118, w0]) (rest := []) (by decide +kernel) (by decide +kernel) rfl rfl (q_sum8 _ (Nat.le_of_ble_eq_true rfl)) R_115 f_102 (fx_k (c := 5) R_115 (by decide +kernel)) (om_X4_follow (Nat.le_trans (by decide) hd) R_115 f_102 f3 f_113 f_121 fs0 hc_124) (fun _ S_129 q_132 => ?_) (fun _ _ qq => kr_x qq)
  refine kr_z (by decide) q_132 fun v_127 f_128 R_130 E_131 => ?_
  have E_135 := E_131
  refine go_if (c := .eq) (o := 13) (t := 133) (P := x_125 = 0) (by decide +kernel) (by decide +kernel) f_128 (Iff.rfl) (fun hp_136 => ?_) (fun hp_136 => ?_)
  · have h := it_t hp_136 h
    exact oj_X11_complete_133 hd R_130 l_96 f0 l_98 f3 (fun b => hQ (Ext.tr E_135 b)) h
  · have h := it_f hp_136 h
    refine go_aload_n (n := 0) (by decide +kernel) l_96 f0 ?_
    refine go_getf (x := 57) (ci := 12) (kf := 10) (fin := 1) (t := 2) (by decide +kernel) (by decide +kernel) (by decide +kernel) R_130 f0 (fx_k (c := 12) R_130 (by decide +kernel)) fun v_165 f_166 => ?_
    have f_167 := q_is_eq (b := 16) f_166 (fx_v R_130 (by decide +kernel)).symm
    obtain ⟨x_169, m_170, hc_168, h⟩ := bd_s h
    refine go_callV (x := 332) (mi := 36) (n := 0) (ci := 5) (as := []) (rest := []) (by decide +kernel) (by decide +kernel) rfl rfl (q_sum8 _ (Nat.le_of_ble_eq_true rfl)) R_130 f_167 (fx_k (c := 5) R_130 (by decide +kernel)) (om_X4_isLeft (Nat.le_trans (by decide) hd) R_130 f_167 hc_168) (fun _ S_173 q_176 => ?_) (fun _ _ qq => kr_x qq)
    refine kr_z (by decide) q_176 fun v_171 f_172 R_174 E_175 => ?_
    have E_179 := Ext.tr E_135 E_175
    refine go_if (c := .eq) (o := 23) (t := 153) (P := x_169 = 0) (by decide +kernel) (by decide +kernel) f_172 (Iff.rfl) (fun hp_180 => ?_) (fun hp_180 => ?_)
    · have h := it_t hp_180 h
      refine go_aload_n (n := 3) (by decide +kernel) l_98 f3 ?_
      have g_183 := Ext.ok (Ext.tr E_131 E_175) g_105
      obtain ⟨x_185, e_186, h⟩ := lx_s h
      refine go_getf (x := 195) (ci := 7) (kf := 16) (fin := 2) (t := 2) (by decide +kernel) (by decide +kernel) (by decide +kernel) R_174 f3 g_183 fun v_181 f_182 => ?_
      have f_184 := q_is_eq f_182 e_186
      obtain ⟨g_189, h⟩ := gd_s h
      obtain ⟨x_191, e_192, h⟩ := lx_s h
      refine go_getf (x := 199) (ci := 3) (kf := 1) (fin := 0) (t := 0) (by decide +kernel) (by decide +kernel) (by decide +kernel) R_174 f_184 g_189 fun v_187 f_188 => ?_
      have f_190 := q_is_eq f_188 e_192
      refine go_istore (n := 7) (by decide +kernel) (by decide +kernel) f_190 fun L_193 l_194 kp_195 => ?_
      have l_196 := kp_195 0 _ l_96 (by decide) (Or.inl (by decide))
      have l_197 := kp_195 2 _ l_97 (by decide) (Or.inl (by decide))
      have l_198 := kp_195 3 _ l_98 (by decide) (Or.inl (by decide))
      have l_199 := kp_195 5 _ l_99 (by decide) (Or.inl (by decide))
      refine go_aload_n (n := 0) (by decide +kernel) l_196 f0 ?_
      refine go_aload_n (n := 3) (by decide +kernel) l_198 f3 ?_
      refine go_aload_n (n := 2) (by decide +kernel) l_197 f2 ?_
      refine go_iload (n := 5) (by decide +kernel) l_199 f5 ?_
      obtain ⟨x_201, m_202, hc_200, h⟩ := bd_s h
      refine go_callV (x := 336) (mi := 165) (n := 3) (ci := 12) (as := [v3, v2, v5]) (rest := []) (by decide +kernel) (by decide +kernel) rfl rfl (q_sum8 _ (Nat.le_of_ble_eq_true rfl)) R_174 f0 (fx_k (c := 12) R_174 (by decide +kernel)) (om_X11_putNews (Nat.le_trans (by decide) hd) R_174 f0 f3 f2 f5 hc_200) (fun _ S_205 q_208 => ?_) (fun _ _ qq => kr_x qq)
      refine kr_z (by decide) q_208 fun v_203 f_204 R_206 E_207 => ?_
      have E_211 := Ext.tr E_179 E_207
      refine go_istore (n := 8) (by decide +kernel) (by decide +kernel) f_204 fun L_212 l_213 kp_214 => ?_
      have l_215 := kp_214 0 _ l_196 (by decide) (Or.inl (by decide))
      have l_216 := kp_214 3 _ l_198 (by decide) (Or.inl (by decide))
      have l_217 := kp_214 7 _ l_194 (by decide) (Or.inr (q_is_cat f_190 (Or.inl rfl)))
      refine go_iload (n := 7) (by decide +kernel) l_217 f_190 ?_
      refine go_istore (n := 9) (by decide +kernel) (by decide +kernel) f_190 fun L_218 l_219 kp_220 => ?_
      have l_221 := kp_220 0 _ l_215 (by decide) (Or.inl (by decide))
      have l_222 := kp_220 3 _ l_216 (by decide) (Or.inl (by decide))
      have l_223 := kp_220 7 _ l_217 (by decide) (Or.inl (by decide))
      have l_224 := kp_220 8 _ l_213 (by decide) (Or.inr (q_is_cat f_204 (Or.inl rfl)))
      refine ol_X11_complete_176 hd   (fun b => hQ (Ext.tr E_211 b)) BIG (Ext.rf _) h R_206 l_221 f0 l_222 f3 l_223 f_190 l_224 f_204 l_219 f_190
    · have h := it_f hp_180 h
      exact oj_X11_complete_133 hd R_174 l_96 f0 l_98 f3 (fun b => hQ (Ext.tr E_179 b)) h
noncomputable def fj_X11_complete_85 (y2 y3 y5 : Int) (m : MM) : Option ((Int ⊕ Nat) × MM) := if y5 = 0 then
fj_X11_complete_95 y2 y3 y5 0 m
else
fj_X11_complete_95 y2 y3 y5 2 m
set_option maxHeartbeats 4000000 in
theorem oj_X11_complete_85 {xs : List Int32} {d : Nat} {S : QS} {L : QL} {Q : QO → QS → Prop} {m : MM} {y2 y3 y5 : Int} {v0 : Value} {v2 : Value} {v3 : Value} {v5 : Value}  {rr : Int ⊕ Nat} {rm : MM}
  (hd : 172 ≤ d) (R : Rp S m) (l0 : q_lo L 0 = some v0) (f0 : q_is 2 v0 4) (l2 : q_lo L 2 = some v2) (f2 : q_is 2 v2 y2) (l3 : q_lo L 3 = some v3) (f3 : q_is 2 v3 y3) (l5 : q_lo L 5 = some v5) (f5 : q_is 0 v5 y5)
  (hQ : Ext m rm → ∀ o S1, Rp S1 rm → q_oux 0 o rr → Q o S1)
  (h : fj_X11_complete_85 y2 y3 y5 m = some (rr, rm)) : Go xs d qM_X11_complete 85 L [] S Q := by
  unfold fj_X11_complete_85 at h
  refine go_iload (n := 5) (by decide +kernel) l5 f5 ?_
  refine go_if (c := .eq) (o := 7) (t := 94) (P := y5 = 0) (by decide +kernel) (by decide +kernel) f5 (Iff.rfl) (fun hp_90 => ?_) (fun hp_90 => ?_)
  · have h := it_t hp_90 h
    refine go_iconst (n := 0) (z := 0) (by decide +kernel) (by decide) fun v_91 f_92 => ?_
    exact oj_X11_complete_95 hd R l0 f0 l2 f2 l3 f3 l5 f5 f_92 hQ h
  · have h := it_f hp_90 h
    refine go_iconst (n := 2) (z := 2) (by decide +kernel) (by decide) fun v_265 f_266 => ?_
    refine go_goto (o := 4) (t := 95) (by decide +kernel) (by decide +kernel) ?_
    exact oj_X11_complete_95 hd R l0 f0 l2 f2 l3 f3 l5 f5 f_266 hQ h
noncomputable def fm_X11_complete (p1 : Int) (m0 : MM) : Option ((Int ⊕ Nat) × MM) := if p1 < 0 then
some (.inr 0, mthr m0)
else
bp (fm_Jx4a65c_size_8abf5 9 m0) fun x_6 =>
if p1 < x_6 then
bp (fm_Jx4a65c_get_915e3 9 p1 m0) fun x_19 =>
gd (okc m0 x_19 10) <| lx (m0 x_19 1) fun x_35 =>
bp (fm_X11_isStale x_19 m0) fun x_43 =>
up m0 x_19 5 1 fun m_59 =>
if x_43 = 0 then
lx (m_59 x_19 0) fun x_71 =>
gd (okc m_59 x_35 7) <| bp (fm_X6_isKeptBy x_35 x_71 m_59) fun x_75 =>
if x_75 = 0 then
bd (fm_X11_countReplay x_71 m_59) fun x_271 m_272 =>
fj_X11_complete_85 x_19 x_35 x_75 m_272
else
fj_X11_complete_85 x_19 x_35 x_75 m_59
else
some (.inl (-1), m_59)
else
some (.inr 0, mthr m0)
set_option maxHeartbeats 4000000 in
theorem om_X11_complete {xs : List Int32} {d : Nat} {S : QS} {m0 : MM} {p1 : Int} {v0 : Value} {v1 : Value} {rr : Int ⊕ Nat} {rm : MM}
  (hd : 173 ≤ d) (R : Rp S m0) (f0 : q_is 2 v0 4) (f1 : q_is 0 v1 p1)
  (h : fm_X11_complete p1 m0 = some (rr, rm)) : Mt xs d 116 [v0, v1] S (Cx 0 m0 rm rr) := by
  obtain ⟨d, rfl⟩ : ∃ e, d = e + 1 := ⟨d - 1, by omega⟩
  have hd : 172 ≤ d := Nat.le_of_succ_le_succ hd
  refine Mt.of (M := qM_X11_complete) rfl (by rw [sl_1 (q_is_cat f0 (Or.inr rfl)), sl_1 (q_is_cat f1 (Or.inl rfl)), sl_0]; decide) ?_
  rw [la_1 (q_is_cat f0 (Or.inr rfl)), la_1 (q_is_cat f1 (Or.inl rfl)), la_0]
  obtain ⟨L, hL⟩ : ∃ L : QL, L = [(0, v0), (0 + 1, v1)] := ⟨_, rfl⟩
  rw [← hL]
  have l0 : q_lo L 0 = some v0 := by rw [hL]; rfl
  have l1 : q_lo L 1 = some v1 := by rw [hL]; rfl
  have hQ : Ext m0 rm → ∀ o S1, Rp S1 rm → q_oux 0 o rr → (Cx 0 m0 rm rr) o S1 := fun a o S1 b e => ⟨b, a, e⟩
  unfold fm_X11_complete at h
  refine go_iload_n (n := 1) (by decide +kernel) l1 f1 ?_
  refine go_if (c := .lt) (o := 14) (t := 15) (P := p1 < 0) (by decide +kernel) (by decide +kernel) f1 (Iff.rfl) (fun hp_1 => ?_) (fun hp_1 => ?_)
  · have h := it_t hp_1 h
    cases h
    exact go_thr (x := 255) (e := 0) (ic := 259) (b := 0) (by decide +kernel) (by decide +kernel) (by decide +kernel) R rfl fun Sq Rq Eq => hQ Eq _ _ Rq rfl
  · have h := it_f hp_1 h
    refine go_iload_n (n := 1) (by decide +kernel) l1 f1 ?_
    refine go_aload_n (n := 0) (by decide +kernel) l0 f0 ?_
    refine go_getf (x := 31) (ci := 12) (kf := 4) (fin := 1) (t := 2) (by decide +kernel) (by decide +kernel) (by decide +kernel) R f0 (fx_k (c := 12) R (by decide +kernel)) fun v_2 f_3 => ?_
    have f_4 := q_is_eq (b := 9) f_3 (fx_v R (by decide +kernel)).symm
    obtain ⟨x_6, hc_5, h⟩ := bp_s h
    refine go_callV (x := 127) (mi := 326) (n := 0) (ci := 0) (as := []) (rest := [v1]) (by decide +kernel) (by decide +kernel) rfl rfl (q_sum8 _ (Nat.le_of_ble_eq_true rfl)) R f_4 (fx_k (c := 0) R (by decide +kernel)) (om_Jx4a65c_size_8abf5 (Nat.le_trans (by decide) hd) R (fx_k (c := 0) R (by decide +kernel)) f_4 hc_5) (fun _ S_10 q_13 => ?_) (fun _ _ qq => kr_x qq)
    refine kr_z (by decide) q_13 fun v_8 f_9 R_11 E_12 => ?_
    refine go_icmp (c := .lt) (o := 14) (t := 26) (P := p1 < x_6) (by decide +kernel) (by decide +kernel) f1 f_9 (Iff.rfl) (fun hp_14 => ?_) (fun hp_14 => ?_)
    · have h := it_t hp_14 h
      refine go_aload_n (n := 0) (by decide +kernel) l0 f0 ?_
      refine go_getf (x := 31) (ci := 12) (kf := 4) (fin := 1) (t := 2) (by decide +kernel) (by decide +kernel) (by decide +kernel) R_11 f0 (fx_k (c := 12) R_11 (by decide +kernel)) fun v_15 f_16 => ?_
      have f_17 := q_is_eq (b := 9) f_16 (fx_v R_11 (by decide +kernel)).symm
      refine go_iload_n (n := 1) (by decide +kernel) l1 f1 ?_
      obtain ⟨x_19, hc_18, h⟩ := bp_s h
      refine go_callV (x := 305) (mi := 329) (n := 1) (ci := 0) (as := [v1]) (rest := []) (by decide +kernel) (by decide +kernel) rfl rfl (q_sum8 _ (Nat.le_of_ble_eq_true rfl)) R_11 f_17 (fx_k (c := 0) R_11 (by decide +kernel)) (om_Jx4a65c_get_915e3 (Nat.le_trans (by decide) hd) R_11 (fx_k (c := 0) R_11 (by decide +kernel)) f_17 f1 hc_18) (fun _ S_23 q_26 => ?_) (fun _ _ qq => kr_x qq)
      refine kr_z (by decide) q_26 fun v_21 f_22 R_24 E_25 => ?_
      obtain ⟨g_27, h⟩ := gd_s h
      refine go_cast (x := 292) (kd := 10) (a := 0) (b := 0) (by decide +kernel) (by decide +kernel) R_24 f_22 g_27 ?_
      refine go_astore_n (n := 2) (by decide +kernel) (by decide +kernel) f_22 fun L_28 l_29 kp_30 => ?_
      have l_31 := kp_30 0 _ l0 (by decide) (Or.inl (by decide))
      refine go_aload_n (n := 2) (by decide +kernel) l_29 f_22 ?_
      obtain ⟨x_35, e_36, h⟩ := lx_s h
      refine go_getf (x := 309) (ci := 10) (kf := 1) (fin := 2) (t := 2) (by decide +kernel) (by decide +kernel) (by decide +kernel) R_24 f_22 g_27 fun v_32 f_33 => ?_
      have f_34 := q_is_eq f_33 e_36
      refine go_astore_n (n := 3) (by decide +kernel) (by decide +kernel) f_34 fun L_37 l_38 kp_39 => ?_
      have l_40 := kp_39 0 _ l_31 (by decide) (Or.inl (by decide))
      have l_41 := kp_39 2 _ l_29 (by decide) (Or.inr (q_is_cat f_22 (Or.inr rfl)))
      refine go_aload_n (n := 0) (by decide +kernel) l_40 f0 ?_
      refine go_aload_n (n := 2) (by decide +kernel) l_41 f_22 ?_
      obtain ⟨x_43, hc_42, h⟩ := bp_s h
      refine go_callV (x := 313) (mi := 163) (n := 1) (ci := 12) (as := [v_21]) (rest := []) (by decide +kernel) (by decide +kernel) rfl rfl (q_sum8 _ (Nat.le_of_ble_eq_true rfl)) R_24 f0 (fx_k (c := 12) R_24 (by decide +kernel)) (om_X11_isStale (Nat.le_trans (by decide) hd) R_24 f0 f_22 hc_42) (fun _ S_47 q_50 => ?_) (fun _ _ qq => kr_x qq)
      refine kr_z (by decide) q_50 fun v_45 f_46 R_48 E_49 => ?_
      refine go_istore (n := 4) (by decide +kernel) (by decide +kernel) f_46 fun L_51 l_52 kp_53 => ?_
      have l_54 := kp_53 0 _ l_40 (by decide) (Or.inl (by decide))
      have l_55 := kp_53 2 _ l_41 (by decide) (Or.inl (by decide))
      have l_56 := kp_53 3 _ l_38 (by decide) (Or.inr (q_is_cat f_34 (Or.inr rfl)))
      refine go_aload_n (n := 2) (by decide +kernel) l_55 f_22 ?_
      refine go_iconst (n := 1) (z := 1) (by decide +kernel) (by decide) fun v_57 f_58 => ?_
      obtain ⟨m_59, e_60, h⟩ := up_s h
      refine go_putf (x := 317) (ci := 10) (kf := 5) (fin := 0) (zt := 1) (by decide +kernel) (by decide +kernel) (by decide) (by decide +kernel) (by decide) (Or.inl rfl) R_48 f_22 f_58 (fun _ => by decide) g_27 e_60 (fx_f (j := 5) R_48.2 g_27 (by decide +kernel)) fun S_61 R_62 E_63 => ?_
      have E_65 := E_63
      refine go_iload (n := 4) (by decide +kernel) l_52 f_46 ?_
      refine go_if (c := .eq) (o := 5) (t := 62) (P := x_43 = 0) (by decide +kernel) (by decide +kernel) f_46 (Iff.rfl) (fun hp_66 => ?_) (fun hp_66 => ?_)
      · have h := it_t hp_66 h
        refine go_aload_n (n := 3) (by decide +kernel) l_56 f_34 ?_
        refine go_aload_n (n := 2) (by decide +kernel) l_55 f_22 ?_
        have g_69 := Ext.ok E_63 g_27
        obtain ⟨x_71, e_72, h⟩ := lx_s h
        refine go_getf (x := 320) (ci := 10) (kf := 0) (fin := 2) (t := 0) (by decide +kernel) (by decide +kernel) (by decide +kernel) R_62 f_22 g_69 fun v_67 f_68 => ?_
        have f_70 := q_is_eq f_68 e_72
        obtain ⟨g_73, h⟩ := gd_s h
        obtain ⟨x_75, hc_74, h⟩ := bp_s h
        refine go_callV (x := 323) (mi := 70) (n := 1) (ci := 7) (as := [v_67]) (rest := []) (by decide +kernel) (by decide +kernel) rfl rfl (q_sum8 _ (Nat.le_of_ble_eq_true rfl)) R_62 f_34 g_73 (om_X6_isKeptBy (Nat.le_trans (by decide) hd) R_62 g_73 f_34 f_70 hc_74) (fun _ S_79 q_82 => ?_) (fun _ _ qq => kr_x qq)
        refine kr_z (by decide) q_82 fun v_77 f_78 R_80 E_81 => ?_
        refine go_istore (n := 5) (by decide +kernel) (by decide +kernel) f_78 fun L_83 l_84 kp_85 => ?_
        have l_86 := kp_85 0 _ l_54 (by decide) (Or.inl (by decide))
        have l_87 := kp_85 2 _ l_55 (by decide) (Or.inl (by decide))
        have l_88 := kp_85 3 _ l_56 (by decide) (Or.inl (by decide))
        refine go_iload (n := 5) (by decide +kernel) l_84 f_78 ?_
        refine go_if (c := .ne) (o := 11) (t := 85) (P := ¬ (x_75 = 0)) (by decide +kernel) (by decide +kernel) f_78 (Iff.rfl) (fun hp_89 => ?_) (fun hp_89 => ?_)
        · have h := it_f hp_89 h
          exact oj_X11_complete_85 hd R_80 l_86 f0 l_87 f_22 l_88 f_34 l_84 f_78 (fun b => hQ (Ext.tr E_65 b)) h
        · have h := it_n hp_89 h
          refine go_aload_n (n := 0) (by decide +kernel) l_86 f0 ?_
          refine go_aload_n (n := 2) (by decide +kernel) l_87 f_22 ?_
          refine go_getf (x := 320) (ci := 10) (kf := 0) (fin := 2) (t := 0) (by decide +kernel) (by decide +kernel) (by decide +kernel) R_80 f_22 g_69 fun v_267 f_268 => ?_
          have f_269 := q_is_eq f_268 e_72
          obtain ⟨x_271, m_272, hc_270, h⟩ := bd_s h
          refine go_callV (x := 326) (mi := 164) (n := 1) (ci := 12) (as := [v_267]) (rest := []) (by decide +kernel) (by decide +kernel) rfl rfl (q_sum8 _ (Nat.le_of_ble_eq_true rfl)) R_80 f0 (fx_k (c := 12) R_80 (by decide +kernel)) (om_X11_countReplay (Nat.le_trans (by decide) hd) R_80 f0 f_269 hc_270) (fun _ S_275 q_278 => ?_) (fun _ _ qq => kr_x qq)
          refine kr_v q_278 fun R_276 E_277 => ?_
          have E_281 := Ext.tr E_65 E_277
          exact oj_X11_complete_85 hd R_276 l_86 f0 l_87 f_22 l_88 f_34 l_84 f_78 (fun b => hQ (Ext.tr E_281 b)) h
      · have h := it_f hp_66 h
        refine go_iconst (n := (-1)) (z := (-1)) (by decide +kernel) (by decide) fun v_282 f_283 => ?_
        cases h
        exact go_iret (by decide +kernel) rfl (Or.inl rfl) f_283 (hQ E_65 _ _ R_62 (q_out_v (by decide) f_283))
    · have h := it_f hp_14 h
      cases h
      exact go_thr (x := 255) (e := 0) (ic := 259) (b := 0) (by decide +kernel) (by decide +kernel) (by decide +kernel) R_11 rfl fun Sq Rq Eq => hQ Eq _ _ Rq rfl
noncomputable def fl_X11_die_9 (y1 : Int) (k65 : Int → MM → Option ((Int ⊕ Nat) × MM)) : Nat → Int → Int → MM → Option ((Int ⊕ Nat) × MM)
  | 0, _, _, _ => none
  | n + 1, y2, y3, m => bp (fm_Jx4a65c_size_8abf5 9 m) fun x_36 =>
if y3 < x_36 then
bp (fm_Jx4a65c_get_915e3 9 y3 m) fun x_49 =>
gd (okc m x_49 10) <| lx (m x_49 0) fun x_68 =>
if x_68 = y1 then
lx (m x_49 5) fun x_85 =>
if x_85 = 0 then
up m x_49 5 1 fun m_101 =>
lx (w32 (y2 + 1)) fun x_113 =>
lx (w32 (y3 + 1)) fun x_124 =>
fl_X11_die_9 y1 k65 n x_113 x_124 m_101
else
lx (w32 (y3 + 1)) fun x_93 =>
fl_X11_die_9 y1 k65 n y2 x_93 m
else
lx (w32 (y3 + 1)) fun x_76 =>
fl_X11_die_9 y1 k65 n y2 x_76 m
else
k65 y2 m
set_option maxHeartbeats 4000000 in
theorem ol_X11_die_9 {xs : List Int32} {d : Nat} {Q : QO → QS → Prop} {mb : MM} {y1 : Int} {k65 : Int → MM → Option ((Int ⊕ Nat) × MM)} {rr : Int ⊕ Nat} {rm : MM}
  (hd : 3 ≤ d)
  (hk65 : ∀ mq : MM, Ext mb mq → ∀ {z2 : Int} {Sq : QS} {Lq : QL} {u0 : Value} {u1 : Value} {u2 : Value}, k65 z2 mq = some (rr, rm) → Rp Sq mq → q_lo Lq 0 = some u0 → q_is 2 u0 4 → q_lo Lq 1 = some u1 → q_is 0 u1 y1 → q_lo Lq 2 = some u2 → q_is 0 u2 z2 → Go xs d qM_X11_die 65 Lq [] Sq Q)
  (hQ : Ext mb rm → ∀ o S1, Rp S1 rm → q_oux 0 o rr → Q o S1) :
  ∀ (n : Nat) {m : MM} {S : QS} {L : QL} {y2 y3 : Int} {v0 : Value} {v1 : Value} {v2 : Value} {v3 : Value} , Ext mb m → fl_X11_die_9 y1 k65 n y2 y3 m = some (rr, rm) → Rp S m → q_lo L 0 = some v0 → q_is 2 v0 4 → q_lo L 1 = some v1 → q_is 0 v1 y1 → q_lo L 2 = some v2 → q_is 0 v2 y2 → q_lo L 3 = some v3 → q_is 0 v3 y3 → Go xs d qM_X11_die 9 L [] S Q := by
  intro n
  induction n with
  | zero => intro m S L y2 y3 v0 v1 v2 v3; intro E h R l0 f0 l1 f1 l2 f2 l3 f3; cases h
  | succ n ih0 =>
    intro m S L y2 y3 v0 v1 v2 v3; intro E h R l0 f0 l1 f1 l2 f2 l3 f3
    have ih : ∀ mq : MM, Ext mb mq → ∀ {z2 : Int} {z3 : Int} {Sq : QS} {Lq : QL} {u0 : Value} {u1 : Value} {u2 : Value} {u3 : Value}, fl_X11_die_9 y1 k65 n z2 z3 mq = some (rr, rm) → Rp Sq mq → q_lo Lq 0 = some u0 → q_is 2 u0 4 → q_lo Lq 1 = some u1 → q_is 0 u1 y1 → q_lo Lq 2 = some u2 → q_is 0 u2 z2 → q_lo Lq 3 = some u3 → q_is 0 u3 z3 → Go xs d qM_X11_die 9 Lq [] Sq Q := fun mq b => by intros; exact ih0 b ‹_› ‹_› ‹_› ‹_› ‹_› ‹_› ‹_› ‹_› ‹_› ‹_›
    unfold fl_X11_die_9 at h
    refine go_iload_n (n := 3) (by decide +kernel) l3 f3 ?_
    refine go_aload_n (n := 0) (by decide +kernel) l0 f0 ?_
    refine go_getf (x := 31) (ci := 12) (kf := 4) (fin := 1) (t := 2) (by decide +kernel) (by decide +kernel) (by decide +kernel) R f0 (fx_k (c := 12) R (by decide +kernel)) fun v_32 f_33 => ?_
    have f_34 := q_is_eq (b := 9) f_33 (fx_v R (by decide +kernel)).symm
    obtain ⟨x_36, hc_35, h⟩ := bp_s h
    refine go_callV (x := 127) (mi := 326) (n := 0) (ci := 0) (as := []) (rest := [v3]) (by decide +kernel) (by decide +kernel) rfl rfl (q_sum8 _ (Nat.le_of_ble_eq_true rfl)) R f_34 (fx_k (c := 0) R (by decide +kernel)) (om_Jx4a65c_size_8abf5 (Nat.le_trans (by decide) hd) R (fx_k (c := 0) R (by decide +kernel)) f_34 hc_35) (fun _ S_40 q_43 => ?_) (fun _ _ qq => kr_x qq)
    refine kr_z (by decide) q_43 fun v_38 f_39 R_41 E_42 => ?_
    refine go_icmp (c := .ge) (o := 48) (t := 65) (P := ¬ (y3 < x_36)) (by decide +kernel) (by decide +kernel) f3 f_39 (Int.not_lt.symm) (fun hp_44 => ?_) (fun hp_44 => ?_)
    · have h := it_f hp_44 h
      exact hk65 m E h R_41 l0 f0 l1 f1 l2 f2
    · have h := it_n hp_44 h
      refine go_aload_n (n := 0) (by decide +kernel) l0 f0 ?_
      refine go_getf (x := 31) (ci := 12) (kf := 4) (fin := 1) (t := 2) (by decide +kernel) (by decide +kernel) (by decide +kernel) R_41 f0 (fx_k (c := 12) R_41 (by decide +kernel)) fun v_45 f_46 => ?_
      have f_47 := q_is_eq (b := 9) f_46 (fx_v R_41 (by decide +kernel)).symm
      refine go_iload_n (n := 3) (by decide +kernel) l3 f3 ?_
      obtain ⟨x_49, hc_48, h⟩ := bp_s h
      refine go_callV (x := 305) (mi := 329) (n := 1) (ci := 0) (as := [v3]) (rest := []) (by decide +kernel) (by decide +kernel) rfl rfl (q_sum8 _ (Nat.le_of_ble_eq_true rfl)) R_41 f_47 (fx_k (c := 0) R_41 (by decide +kernel)) (om_Jx4a65c_get_915e3 (Nat.le_trans (by decide) hd) R_41 (fx_k (c := 0) R_41 (by decide +kernel)) f_47 f3 hc_48) (fun _ S_53 q_56 => ?_) (fun _ _ qq => kr_x qq)
      refine kr_z (by decide) q_56 fun v_51 f_52 R_54 E_55 => ?_
      obtain ⟨g_57, h⟩ := gd_s h
      refine go_cast (x := 292) (kd := 10) (a := 0) (b := 0) (by decide +kernel) (by decide +kernel) R_54 f_52 g_57 ?_
      refine go_astore (n := 4) (by decide +kernel) (by decide +kernel) f_52 fun L_58 l_59 kp_60 => ?_
      have l_61 := kp_60 0 _ l0 (by decide) (Or.inl (by decide))
      have l_62 := kp_60 1 _ l1 (by decide) (Or.inl (by decide))
      have l_63 := kp_60 2 _ l2 (by decide) (Or.inl (by decide))
      have l_64 := kp_60 3 _ l3 (by decide) (Or.inr (q_is_cat f3 (Or.inl rfl)))
      refine go_aload (n := 4) (by decide +kernel) l_59 f_52 ?_
      obtain ⟨x_68, e_69, h⟩ := lx_s h
      refine go_getf (x := 320) (ci := 10) (kf := 0) (fin := 2) (t := 0) (by decide +kernel) (by decide +kernel) (by decide +kernel) R_54 f_52 g_57 fun v_65 f_66 => ?_
      have f_67 := q_is_eq f_66 e_69
      refine go_iload_n (n := 1) (by decide +kernel) l_62 f1 ?_
      refine go_icmp (c := .ne) (o := 20) (t := 59) (P := ¬ (x_68 = y1)) (by decide +kernel) (by decide +kernel) f_67 f1 (Iff.rfl) (fun hp_70 => ?_) (fun hp_70 => ?_)
      · have h := it_f hp_70 h
        refine go_iinc (n := 3) (c := 1) (c' := 1) (by decide +kernel) (by decide +kernel) l_64 f3 (by decide) fun L_71 v_72 f_73 l_74 kp_75 => ?_
        obtain ⟨x_76, e_77, h⟩ := lx_s h
        have f_78 := q_is_eq f_73 e_77
        have l_79 := kp_75 0 _ l_61 (by decide) (Or.inl (by decide))
        have l_80 := kp_75 1 _ l_62 (by decide) (Or.inl (by decide))
        have l_81 := kp_75 2 _ l_63 (by decide) (Or.inr (q_is_cat f2 (Or.inl rfl)))
        refine go_goto (o := (-53)) (t := 9) (by decide +kernel) (by decide +kernel) ?_
        exact ih m E h R_54 l_79 f0 l_80 f1 l_81 f2 l_74 f_78
      · have h := it_n hp_70 h
        refine go_aload (n := 4) (by decide +kernel) l_59 f_52 ?_
        obtain ⟨x_85, e_86, h⟩ := lx_s h
        refine go_getf (x := 317) (ci := 10) (kf := 5) (fin := 0) (t := 0) (by decide +kernel) (by decide +kernel) (by decide +kernel) R_54 f_52 g_57 fun v_82 f_83 => ?_
        have f_84 := q_is_eq f_83 e_86
        refine go_if (c := .ne) (o := 12) (t := 59) (P := ¬ (x_85 = 0)) (by decide +kernel) (by decide +kernel) f_84 (Iff.rfl) (fun hp_87 => ?_) (fun hp_87 => ?_)
        · have h := it_f hp_87 h
          refine go_iinc (n := 3) (c := 1) (c' := 1) (by decide +kernel) (by decide +kernel) l_64 f3 (by decide) fun L_88 v_89 f_90 l_91 kp_92 => ?_
          obtain ⟨x_93, e_94, h⟩ := lx_s h
          have f_95 := q_is_eq f_90 e_94
          have l_96 := kp_92 0 _ l_61 (by decide) (Or.inl (by decide))
          have l_97 := kp_92 1 _ l_62 (by decide) (Or.inl (by decide))
          have l_98 := kp_92 2 _ l_63 (by decide) (Or.inr (q_is_cat f2 (Or.inl rfl)))
          refine go_goto (o := (-53)) (t := 9) (by decide +kernel) (by decide +kernel) ?_
          exact ih m E h R_54 l_96 f0 l_97 f1 l_98 f2 l_91 f_95
        · have h := it_n hp_87 h
          refine go_aload (n := 4) (by decide +kernel) l_59 f_52 ?_
          refine go_iconst (n := 1) (z := 1) (by decide +kernel) (by decide) fun v_99 f_100 => ?_
          obtain ⟨m_101, e_102, h⟩ := up_s h
          refine go_putf (x := 317) (ci := 10) (kf := 5) (fin := 0) (zt := 1) (by decide +kernel) (by decide +kernel) (by decide) (by decide +kernel) (by decide) (Or.inl rfl) R_54 f_52 f_100 (fun _ => by decide) g_57 e_102 (fx_f (j := 5) R_54.2 g_57 (by decide +kernel)) fun S_103 R_104 E_105 => ?_
          have E_107 := Ext.tr E E_105
          refine go_iinc (n := 2) (c := 1) (c' := 1) (by decide +kernel) (by decide +kernel) l_63 f2 (by decide) fun L_108 v_109 f_110 l_111 kp_112 => ?_
          obtain ⟨x_113, e_114, h⟩ := lx_s h
          have f_115 := q_is_eq f_110 e_114
          have l_116 := kp_112 0 _ l_61 (by decide) (Or.inl (by decide))
          have l_117 := kp_112 1 _ l_62 (by decide) (Or.inr (q_is_cat f1 (Or.inl rfl)))
          have l_118 := kp_112 3 _ l_64 (by decide) (Or.inl (by decide))
          refine go_iinc (n := 3) (c := 1) (c' := 1) (by decide +kernel) (by decide +kernel) l_118 f3 (by decide) fun L_119 v_120 f_121 l_122 kp_123 => ?_
          obtain ⟨x_124, e_125, h⟩ := lx_s h
          have f_126 := q_is_eq f_121 e_125
          have l_127 := kp_123 0 _ l_116 (by decide) (Or.inl (by decide))
          have l_128 := kp_123 1 _ l_117 (by decide) (Or.inl (by decide))
          have l_129 := kp_123 2 _ l_111 (by decide) (Or.inr (q_is_cat f_115 (Or.inl rfl)))
          refine go_goto (o := (-53)) (t := 9) (by decide +kernel) (by decide +kernel) ?_
          exact ih m_101 E_107 h R_104 l_127 f0 l_128 f1 l_129 f_115 l_122 f_126
noncomputable def fl_X11_die_67 (y1 y2 : Int) : Nat → Int → MM → Option ((Int ⊕ Nat) × MM)
  | 0, _, _ => none
  | n + 1, y3, m => bp (fm_Jx4a65c_size_8abf5 7 m) fun x_160 =>
if y3 < x_160 then
bp (fm_Jx4a65c_get_915e3 7 y3 m) fun x_173 =>
gd (okc m x_173 7) <| lx (m x_173 12) fun x_192 =>
if x_192 = y1 then
up m x_173 12 (-1) fun m_218 =>
lx (w32 (y3 + 1)) fun x_230 =>
fl_X11_die_67 y1 y2 n x_230 m_218
else
up m x_173 12 x_192 fun m_198 =>
lx (w32 (y3 + 1)) fun x_210 =>
fl_X11_die_67 y1 y2 n x_210 m_198
else
some (.inl y2, m)
set_option maxHeartbeats 4000000 in
theorem ol_X11_die_67 {xs : List Int32} {d : Nat} {Q : QO → QS → Prop} {mb : MM} {y1 y2 : Int} {rr : Int ⊕ Nat} {rm : MM}
  (hd : 3 ≤ d)
  (hQ : Ext mb rm → ∀ o S1, Rp S1 rm → q_oux 0 o rr → Q o S1) :
  ∀ (n : Nat) {m : MM} {S : QS} {L : QL} {y3 : Int} {v0 : Value} {v1 : Value} {v2 : Value} {v3 : Value} , Ext mb m → fl_X11_die_67 y1 y2 n y3 m = some (rr, rm) → Rp S m → q_lo L 0 = some v0 → q_is 2 v0 4 → q_lo L 1 = some v1 → q_is 0 v1 y1 → q_lo L 2 = some v2 → q_is 0 v2 y2 → q_lo L 3 = some v3 → q_is 0 v3 y3 → Go xs d qM_X11_die 67 L [] S Q := by
  intro n
  induction n with
  | zero => intro m S L y3 v0 v1 v2 v3; intro E h R l0 f0 l1 f1 l2 f2 l3 f3; cases h
  | succ n ih0 =>
    intro m S L y3 v0 v1 v2 v3; intro E h R l0 f0 l1 f1 l2 f2 l3 f3
    have ih : ∀ mq : MM, Ext mb mq → ∀ {z3 : Int} {Sq : QS} {Lq : QL} {u0 : Value} {u1 : Value} {u2 : Value} {u3 : Value}, fl_X11_die_67 y1 y2 n z3 mq = some (rr, rm) → Rp Sq mq → q_lo Lq 0 = some u0 → q_is 2 u0 4 → q_lo Lq 1 = some u1 → q_is 0 u1 y1 → q_lo Lq 2 = some u2 → q_is 0 u2 y2 → q_lo Lq 3 = some u3 → q_is 0 u3 z3 → Go xs d qM_X11_die 67 Lq [] Sq Q := fun mq b => by intros; exact ih0 b ‹_› ‹_› ‹_› ‹_› ‹_› ‹_› ‹_› ‹_› ‹_› ‹_›
    unfold fl_X11_die_67 at h
    refine go_iload_n (n := 3) (by decide +kernel) l3 f3 ?_
    refine go_aload_n (n := 0) (by decide +kernel) l0 f0 ?_
    refine go_getf (x := 24) (ci := 12) (kf := 2) (fin := 1) (t := 2) (by decide +kernel) (by decide +kernel) (by decide +kernel) R f0 (fx_k (c := 12) R (by decide +kernel)) fun v_156 f_157 => ?_
    have f_158 := q_is_eq (b := 7) f_157 (fx_v R (by decide +kernel)).symm
    obtain ⟨x_160, hc_159, h⟩ := bp_s h
    refine go_callV (x := 127) (mi := 326) (n := 0) (ci := 0) (as := []) (rest := [v3]) (by decide +kernel) (by decide +kernel) rfl rfl (q_sum8 _ (Nat.le_of_ble_eq_true rfl)) R f_158 (fx_k (c := 0) R (by decide +kernel)) (om_Jx4a65c_size_8abf5 (Nat.le_trans (by decide) hd) R (fx_k (c := 0) R (by decide +kernel)) f_158 hc_159) (fun _ S_164 q_167 => ?_) (fun _ _ qq => kr_x qq)
    refine kr_z (by decide) q_167 fun v_162 f_163 R_165 E_166 => ?_
    refine go_icmp (c := .ge) (o := 45) (t := 120) (P := ¬ (y3 < x_160)) (by decide +kernel) (by decide +kernel) f3 f_163 (Int.not_lt.symm) (fun hp_168 => ?_) (fun hp_168 => ?_)
    · have h := it_f hp_168 h
      refine go_iload_n (n := 2) (by decide +kernel) l2 f2 ?_
      cases h
      exact go_iret (by decide +kernel) rfl (Or.inl rfl) f2 (hQ E _ _ R_165 (q_out_v (by decide) f2))
    · have h := it_n hp_168 h
      refine go_aload_n (n := 0) (by decide +kernel) l0 f0 ?_
      refine go_getf (x := 24) (ci := 12) (kf := 2) (fin := 1) (t := 2) (by decide +kernel) (by decide +kernel) (by decide +kernel) R_165 f0 (fx_k (c := 12) R_165 (by decide +kernel)) fun v_169 f_170 => ?_
      have f_171 := q_is_eq (b := 7) f_170 (fx_v R_165 (by decide +kernel)).symm
      refine go_iload_n (n := 3) (by decide +kernel) l3 f3 ?_
      obtain ⟨x_173, hc_172, h⟩ := bp_s h
      refine go_callV (x := 305) (mi := 329) (n := 1) (ci := 0) (as := [v3]) (rest := []) (by decide +kernel) (by decide +kernel) rfl rfl (q_sum8 _ (Nat.le_of_ble_eq_true rfl)) R_165 f_171 (fx_k (c := 0) R_165 (by decide +kernel)) (om_Jx4a65c_get_915e3 (Nat.le_trans (by decide) hd) R_165 (fx_k (c := 0) R_165 (by decide +kernel)) f_171 f3 hc_172) (fun _ S_177 q_180 => ?_) (fun _ _ qq => kr_x qq)
      refine kr_z (by decide) q_180 fun v_175 f_176 R_178 E_179 => ?_
      obtain ⟨g_181, h⟩ := gd_s h
      refine go_cast (x := 181) (kd := 7) (a := 0) (b := 0) (by decide +kernel) (by decide +kernel) R_178 f_176 g_181 ?_
      refine go_astore (n := 4) (by decide +kernel) (by decide +kernel) f_176 fun L_182 l_183 kp_184 => ?_
      have l_185 := kp_184 0 _ l0 (by decide) (Or.inl (by decide))
      have l_186 := kp_184 1 _ l1 (by decide) (Or.inl (by decide))
      have l_187 := kp_184 2 _ l2 (by decide) (Or.inl (by decide))
      have l_188 := kp_184 3 _ l3 (by decide) (Or.inr (q_is_cat f3 (Or.inl rfl)))
      refine go_aload (n := 4) (by decide +kernel) l_183 f_176 ?_
      refine go_aload (n := 4) (by decide +kernel) l_183 f_176 ?_
      obtain ⟨x_192, e_193, h⟩ := lx_s h
      refine go_getf (x := 344) (ci := 7) (kf := 12) (fin := 0) (t := 0) (by decide +kernel) (by decide +kernel) (by decide +kernel) R_178 f_176 g_181 fun v_189 f_190 => ?_
      have f_191 := q_is_eq f_190 e_193
      refine go_iload_n (n := 1) (by decide +kernel) l_186 f1 ?_
      refine go_icmp (c := .ne) (o := 7) (t := 106) (P := ¬ (x_192 = y1)) (by decide +kernel) (by decide +kernel) f_191 f1 (Iff.rfl) (fun hp_194 => ?_) (fun hp_194 => ?_)
      · have h := it_f hp_194 h
        refine go_aload (n := 4) (by decide +kernel) l_183 f_176 ?_
        refine go_getf (x := 344) (ci := 7) (kf := 12) (fin := 0) (t := 0) (by decide +kernel) (by decide +kernel) (by decide +kernel) R_178 f_176 g_181 fun v_195 f_196 => ?_
        have f_197 := q_is_eq f_196 e_193
        obtain ⟨m_198, e_199, h⟩ := up_s h
        refine go_putf (x := 344) (ci := 7) (kf := 12) (fin := 0) (zt := 0) (by decide +kernel) (by decide +kernel) (by decide) (by decide +kernel) (by decide) (Or.inl rfl) R_178 f_176 f_197 (fun hq => absurd hq (by decide)) g_181 e_199 (fx_f (j := 12) R_178.2 g_181 (by decide +kernel)) fun S_200 R_201 E_202 => ?_
        have E_204 := Ext.tr E E_202
        refine go_iinc (n := 3) (c := 1) (c' := 1) (by decide +kernel) (by decide +kernel) l_188 f3 (by decide) fun L_205 v_206 f_207 l_208 kp_209 => ?_
        obtain ⟨x_210, e_211, h⟩ := lx_s h
        have f_212 := q_is_eq f_207 e_211
        have l_213 := kp_209 0 _ l_185 (by decide) (Or.inl (by decide))
        have l_214 := kp_209 1 _ l_186 (by decide) (Or.inl (by decide))
        have l_215 := kp_209 2 _ l_187 (by decide) (Or.inr (q_is_cat f2 (Or.inl rfl)))
        refine go_goto (o := (-50)) (t := 67) (by decide +kernel) (by decide +kernel) ?_
        exact ih m_198 E_204 h R_201 l_213 f0 l_214 f1 l_215 f2 l_208 f_212
      · have h := it_n hp_194 h
        refine go_iconst (n := (-1)) (z := (-1)) (by decide +kernel) (by decide) fun v_216 f_217 => ?_
        refine go_goto (o := 8) (t := 111) (by decide +kernel) (by decide +kernel) ?_
        obtain ⟨m_218, e_219, h⟩ := up_s h
        refine go_putf (x := 344) (ci := 7) (kf := 12) (fin := 0) (zt := 0) (by decide +kernel) (by decide +kernel) (by decide) (by decide +kernel) (by decide) (Or.inl rfl) R_178 f_176 f_217 (fun hq => absurd hq (by decide)) g_181 e_219 (fx_f (j := 12) R_178.2 g_181 (by decide +kernel)) fun S_220 R_221 E_222 => ?_
        have E_224 := Ext.tr E E_222
        refine go_iinc (n := 3) (c := 1) (c' := 1) (by decide +kernel) (by decide +kernel) l_188 f3 (by decide) fun L_225 v_226 f_227 l_228 kp_229 => ?_
        obtain ⟨x_230, e_231, h⟩ := lx_s h
        have f_232 := q_is_eq f_227 e_231
        have l_233 := kp_229 0 _ l_185 (by decide) (Or.inl (by decide))
        have l_234 := kp_229 1 _ l_186 (by decide) (Or.inl (by decide))
        have l_235 := kp_229 2 _ l_187 (by decide) (Or.inr (q_is_cat f2 (Or.inl rfl)))
        refine go_goto (o := (-50)) (t := 67) (by decide +kernel) (by decide +kernel) ?_
        exact ih m_218 E_224 h R_221 l_233 f0 l_234 f1 l_235 f2 l_228 f_232
noncomputable def fm_X11_die (p1 : Int) (m0 : MM) : Option ((Int ⊕ Nat) × MM) := bx (fm_X11_checkWorker p1 m0) (fun q_10 m_3 => some (.inr q_10, m_3)) fun x_2 m_3 =>
fl_X11_die_9 p1 (fun x_130 m_143 =>
fl_X11_die_67 p1 x_130  BIG 0 m_143) BIG 0 0 m_3
set_option maxHeartbeats 4000000 in
theorem om_X11_die {xs : List Int32} {d : Nat} {S : QS} {m0 : MM} {p1 : Int} {v0 : Value} {v1 : Value} {rr : Int ⊕ Nat} {rm : MM}
  (hd : 4 ≤ d) (R : Rp S m0) (f0 : q_is 2 v0 4) (f1 : q_is 0 v1 p1)
  (h : fm_X11_die p1 m0 = some (rr, rm)) : Mt xs d 117 [v0, v1] S (Cx 0 m0 rm rr) := by
  obtain ⟨d, rfl⟩ : ∃ e, d = e + 1 := ⟨d - 1, by omega⟩
  have hd : 3 ≤ d := Nat.le_of_succ_le_succ hd
  refine Mt.of (M := qM_X11_die) rfl (by rw [sl_1 (q_is_cat f0 (Or.inr rfl)), sl_1 (q_is_cat f1 (Or.inl rfl)), sl_0]; decide) ?_
  rw [la_1 (q_is_cat f0 (Or.inr rfl)), la_1 (q_is_cat f1 (Or.inl rfl)), la_0]
  obtain ⟨L, hL⟩ : ∃ L : QL, L = [(0, v0), (0 + 1, v1)] := ⟨_, rfl⟩
  rw [← hL]
  have l0 : q_lo L 0 = some v0 := by rw [hL]; rfl
  have l1 : q_lo L 1 = some v1 := by rw [hL]; rfl
  have hQ : Ext m0 rm → ∀ o S1, Rp S1 rm → q_oux 0 o rr → (Cx 0 m0 rm rr) o S1 := fun a o S1 b e => ⟨b, a, e⟩
  unfold fm_X11_die at h
  refine go_aload_n (n := 0) (by decide +kernel) l0 f0 ?_
  refine go_iload_n (n := 1) (by decide +kernel) l1 f1 ?_
  obtain ⟨rr5, m_3, hc_1, h⟩ := bx_s h
  rcases h with ⟨q_10, rfl, h⟩ | ⟨x_2, rfl, h⟩
  · cases h
    exact go_callV (x := 277) (mi := 144) (n := 1) (ci := 12) (as := [v1]) (rest := []) (by decide +kernel) (by decide +kernel) rfl rfl (q_sum8 _ (Nat.le_of_ble_eq_true rfl)) R f0 (fx_k (c := 12) R (by decide +kernel)) (om_X11_checkWorker (Nat.le_trans (by decide) hd) R f0 f1 hc_1) (fun _ _ qq => kx_lx qq) (fun _ _ qq => by
      obtain ⟨rfl, Rq, Eq⟩ := kx_e qq
      exact Or.inl ⟨rfl, hQ Eq _ _ Rq rfl⟩)
  refine go_callV (x := 277) (mi := 144) (n := 1) (ci := 12) (as := [v1]) (rest := []) (by decide +kernel) (by decide +kernel) rfl rfl (q_sum8 _ (Nat.le_of_ble_eq_true rfl)) R f0 (fx_k (c := 12) R (by decide +kernel)) (om_X11_checkWorker (Nat.le_trans (by decide) hd) R f0 f1 hc_1) (fun _ S_6 q_9 => ?_) (fun _ _ qq => kr_x (kx_l qq))
  have q_9 := kx_l q_9
  refine kr_v q_9 fun R_7 E_8 => ?_
  have E_16 := E_8
  refine go_iconst (n := 0) (z := 0) (by decide +kernel) (by decide) fun v_17 f_18 => ?_
  refine go_istore_n (n := 2) (by decide +kernel) (by decide +kernel) f_18 fun L_19 l_20 kp_21 => ?_
  have l_22 := kp_21 0 _ l0 (by decide) (Or.inl (by decide))
  have l_23 := kp_21 1 _ l1 (by decide) (Or.inr (q_is_cat f1 (Or.inl rfl)))
  refine go_iconst (n := 0) (z := 0) (by decide +kernel) (by decide) fun v_24 f_25 => ?_
  refine go_istore_n (n := 3) (by decide +kernel) (by decide +kernel) f_25 fun L_26 l_27 kp_28 => ?_
  have l_29 := kp_28 0 _ l_22 (by decide) (Or.inl (by decide))
  have l_30 := kp_28 1 _ l_23 (by decide) (Or.inl (by decide))
  have l_31 := kp_28 2 _ l_20 (by decide) (Or.inr (q_is_cat f_18 (Or.inl rfl)))
  refine ol_X11_die_9 hd  ?_ (fun b => hQ (Ext.tr E_16 b)) BIG (Ext.rf _) h R_7 l_29 f0 l_30 f1 l_31 f_18 l_27 f_25
  intro m_143 E_144
  intro x_130 S_140 L_141 v_131 v_132 v_133
  intro h R_142 l_134 f_137 l_135 f_138 l_136 f_139
  have E_145 := Ext.tr E_16 E_144
  refine go_iconst (n := 0) (z := 0) (by decide +kernel) (by decide) fun v_148 f_149 => ?_
  refine go_istore_n (n := 3) (by decide +kernel) (by decide +kernel) f_149 fun L_150 l_151 kp_152 => ?_
  have l_153 := kp_152 0 _ l_134 (by decide) (Or.inl (by decide))
  have l_154 := kp_152 1 _ l_135 (by decide) (Or.inl (by decide))
  have l_155 := kp_152 2 _ l_136 (by decide) (Or.inr (q_is_cat f_139 (Or.inl rfl)))
  refine ol_X11_die_67 hd   (fun b => hQ (Ext.tr E_145 b)) BIG (Ext.rf _) h R_142 l_153 f_137 l_154 f_138 l_155 f_139 l_151 f_149
noncomputable def fm_X11_replays (p1 : Int) (m0 : MM) : Option ((Int ⊕ Nat) × MM) := bx (fm_X11_checkWorker p1 m0) (fun q_10 m_3 => some (.inr q_10, m_3)) fun x_2 m_3 =>
gd (0 ≤ p1 ∧ p1 < 3) <| lx (m_3 11 p1) fun x_24 =>
some (.inl x_24, m_3)
set_option maxHeartbeats 4000000 in
theorem om_X11_replays {xs : List Int32} {d : Nat} {S : QS} {m0 : MM} {p1 : Int} {v0 : Value} {v1 : Value} {rr : Int ⊕ Nat} {rm : MM}
  (hd : 2 ≤ d) (R : Rp S m0) (f0 : q_is 2 v0 4) (f1 : q_is 0 v1 p1)
  (h : fm_X11_replays p1 m0 = some (rr, rm)) : Mt xs d 118 [v0, v1] S (Cx 0 m0 rm rr) := by
  obtain ⟨d, rfl⟩ : ∃ e, d = e + 1 := ⟨d - 1, by omega⟩
  have hd : 1 ≤ d := Nat.le_of_succ_le_succ hd
  refine Mt.of (M := qM_X11_replays) rfl (by rw [sl_1 (q_is_cat f0 (Or.inr rfl)), sl_1 (q_is_cat f1 (Or.inl rfl)), sl_0]; decide) ?_
  rw [la_1 (q_is_cat f0 (Or.inr rfl)), la_1 (q_is_cat f1 (Or.inl rfl)), la_0]
  obtain ⟨L, hL⟩ : ∃ L : QL, L = [(0, v0), (0 + 1, v1)] := ⟨_, rfl⟩
  rw [← hL]
  have l0 : q_lo L 0 = some v0 := by rw [hL]; rfl
  have l1 : q_lo L 1 = some v1 := by rw [hL]; rfl
  have hQ : Ext m0 rm → ∀ o S1, Rp S1 rm → q_oux 0 o rr → (Cx 0 m0 rm rr) o S1 := fun a o S1 b e => ⟨b, a, e⟩
  unfold fm_X11_replays at h
  refine go_aload_n (n := 0) (by decide +kernel) l0 f0 ?_
  refine go_iload_n (n := 1) (by decide +kernel) l1 f1 ?_
  obtain ⟨rr5, m_3, hc_1, h⟩ := bx_s h
  rcases h with ⟨q_10, rfl, h⟩ | ⟨x_2, rfl, h⟩
  · cases h
    exact go_callV (x := 277) (mi := 144) (n := 1) (ci := 12) (as := [v1]) (rest := []) (by decide +kernel) (by decide +kernel) rfl rfl (q_sum8 _ (Nat.le_of_ble_eq_true rfl)) R f0 (fx_k (c := 12) R (by decide +kernel)) (om_X11_checkWorker (Nat.le_trans (by decide) hd) R f0 f1 hc_1) (fun _ _ qq => kx_lx qq) (fun _ _ qq => by
      obtain ⟨rfl, Rq, Eq⟩ := kx_e qq
      exact Or.inl ⟨rfl, hQ Eq _ _ Rq rfl⟩)
  refine go_callV (x := 277) (mi := 144) (n := 1) (ci := 12) (as := [v1]) (rest := []) (by decide +kernel) (by decide +kernel) rfl rfl (q_sum8 _ (Nat.le_of_ble_eq_true rfl)) R f0 (fx_k (c := 12) R (by decide +kernel)) (om_X11_checkWorker (Nat.le_trans (by decide) hd) R f0 f1 hc_1) (fun _ S_6 q_9 => ?_) (fun _ _ qq => kr_x (kx_l qq))
  have q_9 := kx_l q_9
  refine kr_v q_9 fun R_7 E_8 => ?_
  have E_16 := E_8
  refine go_aload_n (n := 0) (by decide +kernel) l0 f0 ?_
  refine go_getf (x := 37) (ci := 12) (kf := 6) (fin := 1) (t := 2) (by decide +kernel) (by decide +kernel) (by decide +kernel) R_7 f0 (fx_k (c := 12) R_7 (by decide +kernel)) fun v_17 f_18 => ?_
  have f_19 := q_is_eq (b := 11) f_18 (fx_v R_7 (by decide +kernel)).symm
  refine go_iload_n (n := 1) (by decide +kernel) l1 f1 ?_
  obtain ⟨g_22, h⟩ := gd_s h
  obtain ⟨x_24, e_25, h⟩ := lx_s h
  refine go_iald (kd := 100) (by decide +kernel) rfl R_7 f_19 f1 (fx_k (c := 100) R_7 (by decide +kernel)) (fx_x (a := 11) (ln := 3) R_7 (by decide +kernel) g_22) fun v_20 f_21 => ?_
  have f_23 := q_is_eq f_21 e_25
  cases h
  exact go_iret (by decide +kernel) rfl (Or.inl rfl) f_23 (hQ E_16 _ _ R_7 (q_out_v (by decide) f_23))
noncomputable def fl_X11_take_8 (y1 : Int) (m : MM) (k57 : Int → Int → Option ((Int ⊕ Nat) × MM)) : Nat → Int → Option ((Int ⊕ Nat) × MM)
  | 0, _ => none
  | n + 1, y2 => bp (fm_Jx4a65c_size_8abf5 8 m) fun x_28 =>
if y2 < x_28 then
bp (fm_Jx4a65c_get_915e3 8 y2 m) fun x_43 =>
gd (okc m x_43 1) <| lx (m x_43 2) fun x_61 =>
if x_61 = y1 then
lx (m x_43 5) fun x_77 =>
if x_77 = 0 then
lx (m x_43 7) fun x_93 =>
lx (m 4 14) fun x_98 =>
if x_98 < x_93 then
lx (w32 (y2 + 1)) fun x_106 =>
fl_X11_take_8 y1 m k57 n x_106
else
k57 y2 x_43
else
lx (w32 (y2 + 1)) fun x_85 =>
fl_X11_take_8 y1 m k57 n x_85
else
lx (w32 (y2 + 1)) fun x_69 =>
fl_X11_take_8 y1 m k57 n x_69
else
some (.inl (-1), m)
set_option maxHeartbeats 4000000 in
theorem ol_X11_take_8 {xs : List Int32} {d : Nat} {Q : QO → QS → Prop} {m : MM} {y1 : Int} {k57 : Int → Int → Option ((Int ⊕ Nat) × MM)} {rr : Int ⊕ Nat} {rm : MM}
  (hd : 3 ≤ d)
  (hk57 : ∀ {z2 : Int} {z3 : Int} {Sq : QS} {Lq : QL} {u0 : Value} {u2 : Value} {u3 : Value}, k57 z2 z3 = some (rr, rm) → Rp Sq m → q_lo Lq 0 = some u0 → q_is 2 u0 4 → q_lo Lq 2 = some u2 → q_is 0 u2 z2 → q_lo Lq 3 = some u3 → q_is 2 u3 z3 → Go xs d qM_X11_take 57 Lq [] Sq Q)
  (hQ : Ext m rm → ∀ o S1, Rp S1 rm → q_oux 0 o rr → Q o S1) :
  ∀ (n : Nat) {S : QS} {L : QL} {y2 : Int} {v0 : Value} {v1 : Value} {v2 : Value} , fl_X11_take_8 y1 m k57 n y2 = some (rr, rm) → Rp S m → q_lo L 0 = some v0 → q_is 2 v0 4 → q_lo L 1 = some v1 → q_is 0 v1 y1 → q_lo L 2 = some v2 → q_is 0 v2 y2 → Go xs d qM_X11_take 8 L [] S Q := by
  intro n
  induction n with
  | zero => intro S L y2 v0 v1 v2; intro h R l0 f0 l1 f1 l2 f2; cases h
  | succ n ih0 =>
    intro S L y2 v0 v1 v2; intro h R l0 f0 l1 f1 l2 f2
    have ih : ∀ {z2 : Int} {Sq : QS} {Lq : QL} {u0 : Value} {u1 : Value} {u2 : Value}, fl_X11_take_8 y1 m k57 n z2 = some (rr, rm) → Rp Sq m → q_lo Lq 0 = some u0 → q_is 2 u0 4 → q_lo Lq 1 = some u1 → q_is 0 u1 y1 → q_lo Lq 2 = some u2 → q_is 0 u2 z2 → Go xs d qM_X11_take 8 Lq [] Sq Q := by intros; exact ih0 ‹_› ‹_› ‹_› ‹_› ‹_› ‹_› ‹_› ‹_›
    unfold fl_X11_take_8 at h
    refine go_iload_n (n := 2) (by decide +kernel) l2 f2 ?_
    refine go_aload_n (n := 0) (by decide +kernel) l0 f0 ?_
    refine go_getf (x := 28) (ci := 12) (kf := 3) (fin := 1) (t := 2) (by decide +kernel) (by decide +kernel) (by decide +kernel) R f0 (fx_k (c := 12) R (by decide +kernel)) fun v_24 f_25 => ?_
    have f_26 := q_is_eq (b := 8) f_25 (fx_v R (by decide +kernel)).symm
    obtain ⟨x_28, hc_27, h⟩ := bp_s h
    refine go_callV (x := 127) (mi := 326) (n := 0) (ci := 0) (as := []) (rest := [v2]) (by decide +kernel) (by decide +kernel) rfl rfl (q_sum8 _ (Nat.le_of_ble_eq_true rfl)) R f_26 (fx_k (c := 0) R (by decide +kernel)) (om_Jx4a65c_size_8abf5 (Nat.le_trans (by decide) hd) R (fx_k (c := 0) R (by decide +kernel)) f_26 hc_27) (fun _ S_32 q_35 => ?_) (fun _ _ qq => kr_x qq)
    refine kr_z (by decide) q_35 fun v_30 f_31 R_33 E_34 => ?_
    refine go_icmp (c := .ge) (o := 66) (t := 82) (P := ¬ (y2 < x_28)) (by decide +kernel) (by decide +kernel) f2 f_31 (Int.not_lt.symm) (fun hp_36 => ?_) (fun hp_36 => ?_)
    · have h := it_f hp_36 h
      refine go_iconst (n := (-1)) (z := (-1)) (by decide +kernel) (by decide) fun v_37 f_38 => ?_
      cases h
      exact go_iret (by decide +kernel) rfl (Or.inl rfl) f_38 (hQ (Ext.rf _) _ _ R_33 (q_out_v (by decide) f_38))
    · have h := it_n hp_36 h
      refine go_aload_n (n := 0) (by decide +kernel) l0 f0 ?_
      refine go_getf (x := 28) (ci := 12) (kf := 3) (fin := 1) (t := 2) (by decide +kernel) (by decide +kernel) (by decide +kernel) R_33 f0 (fx_k (c := 12) R_33 (by decide +kernel)) fun v_39 f_40 => ?_
      have f_41 := q_is_eq (b := 8) f_40 (fx_v R_33 (by decide +kernel)).symm
      refine go_iload_n (n := 2) (by decide +kernel) l2 f2 ?_
      obtain ⟨x_43, hc_42, h⟩ := bp_s h
      refine go_callV (x := 305) (mi := 329) (n := 1) (ci := 0) (as := [v2]) (rest := []) (by decide +kernel) (by decide +kernel) rfl rfl (q_sum8 _ (Nat.le_of_ble_eq_true rfl)) R_33 f_41 (fx_k (c := 0) R_33 (by decide +kernel)) (om_Jx4a65c_get_915e3 (Nat.le_trans (by decide) hd) R_33 (fx_k (c := 0) R_33 (by decide +kernel)) f_41 f2 hc_42) (fun _ S_47 q_50 => ?_) (fun _ _ qq => kr_x qq)
      refine kr_z (by decide) q_50 fun v_45 f_46 R_48 E_49 => ?_
      obtain ⟨g_51, h⟩ := gd_s h
      refine go_cast (x := 347) (kd := 1) (a := 0) (b := 0) (by decide +kernel) (by decide +kernel) R_48 f_46 g_51 ?_
      refine go_astore_n (n := 3) (by decide +kernel) (by decide +kernel) f_46 fun L_52 l_53 kp_54 => ?_
      have l_55 := kp_54 0 _ l0 (by decide) (Or.inl (by decide))
      have l_56 := kp_54 1 _ l1 (by decide) (Or.inl (by decide))
      have l_57 := kp_54 2 _ l2 (by decide) (Or.inr (q_is_cat f2 (Or.inl rfl)))
      refine go_aload_n (n := 3) (by decide +kernel) l_53 f_46 ?_
      obtain ⟨x_61, e_62, h⟩ := lx_s h
      refine go_getf (x := 349) (ci := 1) (kf := 2) (fin := 2) (t := 0) (by decide +kernel) (by decide +kernel) (by decide +kernel) R_48 f_46 g_51 fun v_58 f_59 => ?_
      have f_60 := q_is_eq f_59 e_62
      refine go_iload_n (n := 1) (by decide +kernel) l_56 f1 ?_
      refine go_icmp (c := .ne) (o := 40) (t := 76) (P := ¬ (x_61 = y1)) (by decide +kernel) (by decide +kernel) f_60 f1 (Iff.rfl) (fun hp_63 => ?_) (fun hp_63 => ?_)
      · have h := it_f hp_63 h
        refine go_iinc (n := 2) (c := 1) (c' := 1) (by decide +kernel) (by decide +kernel) l_57 f2 (by decide) fun L_64 v_65 f_66 l_67 kp_68 => ?_
        obtain ⟨x_69, e_70, h⟩ := lx_s h
        have f_71 := q_is_eq f_66 e_70
        have l_72 := kp_68 0 _ l_55 (by decide) (Or.inl (by decide))
        have l_73 := kp_68 1 _ l_56 (by decide) (Or.inr (q_is_cat f1 (Or.inl rfl)))
        refine go_goto (o := (-71)) (t := 8) (by decide +kernel) (by decide +kernel) ?_
        exact ih h R_48 l_72 f0 l_73 f1 l_67 f_71
      · have h := it_n hp_63 h
        refine go_aload_n (n := 3) (by decide +kernel) l_53 f_46 ?_
        obtain ⟨x_77, e_78, h⟩ := lx_s h
        refine go_getf (x := 351) (ci := 1) (kf := 5) (fin := 0) (t := 0) (by decide +kernel) (by decide +kernel) (by decide +kernel) R_48 f_46 g_51 fun v_74 f_75 => ?_
        have f_76 := q_is_eq f_75 e_78
        refine go_if (c := .ne) (o := 33) (t := 76) (P := ¬ (x_77 = 0)) (by decide +kernel) (by decide +kernel) f_76 (Iff.rfl) (fun hp_79 => ?_) (fun hp_79 => ?_)
        · have h := it_f hp_79 h
          refine go_iinc (n := 2) (c := 1) (c' := 1) (by decide +kernel) (by decide +kernel) l_57 f2 (by decide) fun L_80 v_81 f_82 l_83 kp_84 => ?_
          obtain ⟨x_85, e_86, h⟩ := lx_s h
          have f_87 := q_is_eq f_82 e_86
          have l_88 := kp_84 0 _ l_55 (by decide) (Or.inl (by decide))
          have l_89 := kp_84 1 _ l_56 (by decide) (Or.inr (q_is_cat f1 (Or.inl rfl)))
          refine go_goto (o := (-71)) (t := 8) (by decide +kernel) (by decide +kernel) ?_
          exact ih h R_48 l_88 f0 l_89 f1 l_83 f_87
        · have h := it_n hp_79 h
          refine go_aload_n (n := 3) (by decide +kernel) l_53 f_46 ?_
          obtain ⟨x_93, e_94, h⟩ := lx_s h
          refine go_getf (x := 353) (ci := 1) (kf := 7) (fin := 0) (t := 0) (by decide +kernel) (by decide +kernel) (by decide +kernel) R_48 f_46 g_51 fun v_90 f_91 => ?_
          have f_92 := q_is_eq f_91 e_94
          refine go_aload_n (n := 0) (by decide +kernel) l_55 f0 ?_
          obtain ⟨x_98, e_99, h⟩ := lx_s h
          refine go_getf (x := 71) (ci := 12) (kf := 14) (fin := 0) (t := 0) (by decide +kernel) (by decide +kernel) (by decide +kernel) R_48 f0 (fx_k (c := 12) R_48 (by decide +kernel)) fun v_95 f_96 => ?_
          have f_97 := q_is_eq f_96 e_99
          refine go_icmp (c := .gt) (o := 22) (t := 76) (P := x_98 < x_93) (by decide +kernel) (by decide +kernel) f_92 f_97 (Iff.rfl) (fun hp_100 => ?_) (fun hp_100 => ?_)
          · have h := it_t hp_100 h
            refine go_iinc (n := 2) (c := 1) (c' := 1) (by decide +kernel) (by decide +kernel) l_57 f2 (by decide) fun L_101 v_102 f_103 l_104 kp_105 => ?_
            obtain ⟨x_106, e_107, h⟩ := lx_s h
            have f_108 := q_is_eq f_103 e_107
            have l_109 := kp_105 0 _ l_55 (by decide) (Or.inl (by decide))
            have l_110 := kp_105 1 _ l_56 (by decide) (Or.inr (q_is_cat f1 (Or.inl rfl)))
            refine go_goto (o := (-71)) (t := 8) (by decide +kernel) (by decide +kernel) ?_
            exact ih h R_48 l_109 f0 l_110 f1 l_104 f_108
          · have h := it_f hp_100 h
            exact hk57 h R_48 l_55 f0 l_57 f2 l_53 f_46
noncomputable def fm_X11_take (p1 : Int) (m0 : MM) : Option ((Int ⊕ Nat) × MM) := bx (fm_X11_kindAt p1 m0) (fun q_10 m_3 => some (.inr q_10, m_3)) fun x_2 m_3 =>
fl_X11_take_8 p1 m_3 (fun x_111 x_112 =>
lx (m_3 4 14) fun x_128 =>
gd (okc m_3 x_112 1) <| bd (fm_X0_beTaken x_112 x_128 m_3) fun x_132 m_133 =>
lx (m_133 x_112 3) fun x_151 =>
some (.inl (w32 ((w32 (1000 * x_111)) + x_151)), m_133)) BIG 0
set_option maxHeartbeats 4000000 in
theorem om_X11_take {xs : List Int32} {d : Nat} {S : QS} {m0 : MM} {p1 : Int} {v0 : Value} {v1 : Value} {rr : Int ⊕ Nat} {rm : MM}
  (hd : 4 ≤ d) (R : Rp S m0) (f0 : q_is 2 v0 4) (f1 : q_is 0 v1 p1)
  (h : fm_X11_take p1 m0 = some (rr, rm)) : Mt xs d 119 [v0, v1] S (Cx 0 m0 rm rr) := by
  obtain ⟨d, rfl⟩ : ∃ e, d = e + 1 := ⟨d - 1, by omega⟩
  have hd : 3 ≤ d := Nat.le_of_succ_le_succ hd
  refine Mt.of (M := qM_X11_take) rfl (by rw [sl_1 (q_is_cat f0 (Or.inr rfl)), sl_1 (q_is_cat f1 (Or.inl rfl)), sl_0]; decide) ?_
  rw [la_1 (q_is_cat f0 (Or.inr rfl)), la_1 (q_is_cat f1 (Or.inl rfl)), la_0]
  obtain ⟨L, hL⟩ : ∃ L : QL, L = [(0, v0), (0 + 1, v1)] := ⟨_, rfl⟩
  rw [← hL]
  have l0 : q_lo L 0 = some v0 := by rw [hL]; rfl
  have l1 : q_lo L 1 = some v1 := by rw [hL]; rfl
  have hQ : Ext m0 rm → ∀ o S1, Rp S1 rm → q_oux 0 o rr → (Cx 0 m0 rm rr) o S1 := fun a o S1 b e => ⟨b, a, e⟩
  unfold fm_X11_take at h
  refine go_aload_n (n := 0) (by decide +kernel) l0 f0 ?_
  refine go_iload_n (n := 1) (by decide +kernel) l1 f1 ?_
  obtain ⟨rr5, m_3, hc_1, h⟩ := bx_s h
  rcases h with ⟨q_10, rfl, h⟩ | ⟨x_2, rfl, h⟩
  · cases h
    exact go_callV (x := 135) (mi := 138) (n := 1) (ci := 12) (as := [v1]) (rest := []) (by decide +kernel) (by decide +kernel) rfl rfl (q_sum8 _ (Nat.le_of_ble_eq_true rfl)) R f0 (fx_k (c := 12) R (by decide +kernel)) (om_X11_kindAt (Nat.le_trans (by decide) hd) R f0 f1 hc_1) (fun _ _ qq => kx_lx qq) (fun _ _ qq => by
      obtain ⟨rfl, Rq, Eq⟩ := kx_e qq
      exact Or.inl ⟨rfl, hQ Eq _ _ Rq rfl⟩)
  refine go_callV (x := 135) (mi := 138) (n := 1) (ci := 12) (as := [v1]) (rest := []) (by decide +kernel) (by decide +kernel) rfl rfl (q_sum8 _ (Nat.le_of_ble_eq_true rfl)) R f0 (fx_k (c := 12) R (by decide +kernel)) (om_X11_kindAt (Nat.le_trans (by decide) hd) R f0 f1 hc_1) (fun _ S_6 q_9 => ?_) (fun _ _ qq => kr_x (kx_l qq))
  have q_9 := kx_l q_9
  refine kr_z (by decide) q_9 fun v_4 f_5 R_7 E_8 => ?_
  have E_16 := E_8
  refine go_pop (by decide +kernel) f_5 (Or.inr rfl) ?_
  refine go_iconst (n := 0) (z := 0) (by decide +kernel) (by decide) fun v_17 f_18 => ?_
  refine go_istore_n (n := 2) (by decide +kernel) (by decide +kernel) f_18 fun L_19 l_20 kp_21 => ?_
  have l_22 := kp_21 0 _ l0 (by decide) (Or.inl (by decide))
  have l_23 := kp_21 1 _ l1 (by decide) (Or.inr (q_is_cat f1 (Or.inl rfl)))
  refine ol_X11_take_8 hd  ?_ (fun b => hQ (Ext.tr E_16 b)) BIG h R_7 l_22 f0 l_23 f1 l_20 f_18
  intro x_111 x_112 S_122 L_123 v_113 v_114 v_115
  intro h R_124 l_116 f_119 l_117 f_120 l_118 f_121
  refine go_aload_n (n := 3) (by decide +kernel) l_118 f_121 ?_
  refine go_aload_n (n := 0) (by decide +kernel) l_116 f_119 ?_
  obtain ⟨x_128, e_129, h⟩ := lx_s h
  refine go_getf (x := 71) (ci := 12) (kf := 14) (fin := 0) (t := 0) (by decide +kernel) (by decide +kernel) (by decide +kernel) R_124 f_119 (fx_k (c := 12) R_124 (by decide +kernel)) fun v_125 f_126 => ?_
  have f_127 := q_is_eq f_126 e_129
  obtain ⟨g_130, h⟩ := gd_s h
  obtain ⟨x_132, m_133, hc_131, h⟩ := bd_s h
  refine go_callV (x := 356) (mi := 1) (n := 1) (ci := 1) (as := [v_125]) (rest := []) (by decide +kernel) (by decide +kernel) rfl rfl (q_sum8 _ (Nat.le_of_ble_eq_true rfl)) R_124 f_121 g_130 (om_X0_beTaken (Nat.le_trans (by decide) hd) R_124 g_130 f_121 f_127 hc_131) (fun _ S_136 q_139 => ?_) (fun _ _ qq => kr_x qq)
  refine kr_v q_139 fun R_137 E_138 => ?_
  have E_142 := Ext.tr E_16 E_138
  refine go_sipush (n := 1000) (z := 1000) (by decide +kernel) (by decide) fun v_143 f_144 => ?_
  refine go_iload_n (n := 2) (by decide +kernel) l_117 f_120 ?_
  refine go_imul (by decide +kernel) f_144 f_120 fun v_145 f_146 => ?_
  refine go_aload_n (n := 3) (by decide +kernel) l_118 f_121 ?_
  have g_149 := Ext.ok E_138 g_130
  obtain ⟨x_151, e_152, h⟩ := lx_s h
  refine go_getf (x := 359) (ci := 1) (kf := 3) (fin := 2) (t := 0) (by decide +kernel) (by decide +kernel) (by decide +kernel) R_137 f_121 g_149 fun v_147 f_148 => ?_
  have f_150 := q_is_eq f_148 e_152
  refine go_iadd (by decide +kernel) f_146 f_150 fun v_153 f_154 => ?_
  cases h
  exact go_iret (by decide +kernel) rfl (Or.inl rfl) f_154 (hQ E_142 _ _ R_137 (q_out_v (by decide) f_154))
end DF18
