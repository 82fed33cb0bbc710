/-! Methods as functions (written by wip/whole/dec.py), 36: X12_isWanted, X12_update, X12_cancel, X12_asks. -/
section DF36
noncomputable def fl_X12_isWanted_5 (y1 y2 : Int) (m0 : MM) (k52 : Int → Option Int) : Nat → Int → Int → Option Int
  | 0, _, _ => none
  | n + 1, y3, y4 => lx (m0 68 91) fun x_21 =>
if y4 < x_21 then
if y3 = 0 then
gd (0 ≤ y4 ∧ y4 < 12) <| lx (m0 145 y4) fun x_53 =>
if x_53 = 2 then
lx (m0 146 y4) fun x_85 =>
if x_85 = y2 then
lx (w32 (y4 + 1)) fun x_123 =>
fl_X12_isWanted_5 y1 y2 m0 k52 n 1 x_123
else
lx (w32 (y4 + 1)) fun x_102 =>
fl_X12_isWanted_5 y1 y2 m0 k52 n 0 x_102
else
lx (w32 (y4 + 1)) fun x_72 =>
fl_X12_isWanted_5 y1 y2 m0 k52 n 0 x_72
else
lx (w32 (y4 + 1)) fun x_39 =>
fl_X12_isWanted_5 y1 y2 m0 k52 n 1 x_39
else
k52 y3
set_option maxHeartbeats 4000000 in
theorem ol_X12_isWanted_5 {xs : List Int32} {d : Nat} {Q : QO → QS → Prop} {m0 : MM} {y1 y2 : Int} {k52 : Int → Option Int} {rz : Int}
  (hd : 2 ≤ d)
  (hk52 : ∀ {z3 : Int} {Sq : QS} {Lq : QL} {u0 : Value} {u1 : Value} {u2 : Value} {u3 : Value}, k52 z3 = some rz → Rp Sq m0 → q_lo Lq 0 = some u0 → q_is 2 u0 68 → q_lo Lq 1 = some u1 → q_is 0 u1 y1 → q_lo Lq 2 = some u2 → q_is 0 u2 y2 → q_lo Lq 3 = some u3 → q_is 0 u3 z3 → Go xs d qM_X12_isWanted 52 Lq [] Sq Q)
  (hQ : ∀ o S1, Rp S1 m0 → q_out 0 o rz → Q o S1) :
  ∀ (n : Nat) {S : QS} {L : QL} {y3 y4 : Int} {v0 : Value} {v1 : Value} {v2 : Value} {v3 : Value} {v4 : Value} , fl_X12_isWanted_5 y1 y2 m0 k52 n y3 y4 = some rz → Rp S m0 → q_lo L 0 = some v0 → q_is 2 v0 68 → q_lo L 1 = some v1 → q_is 0 v1 y1 → q_lo L 2 = some v2 → q_is 0 v2 y2 → q_lo L 3 = some v3 → q_is 0 v3 y3 → q_lo L 4 = some v4 → q_is 0 v4 y4 → Go xs d qM_X12_isWanted 5 L [] S Q := by
  intro n
  induction n with
  | zero => intro S L y3 y4 v0 v1 v2 v3 v4; intro h R l0 f0 l1 f1 l2 f2 l3 f3 l4 f4; cases h
  | succ n ih0 =>
    intro S L y3 y4 v0 v1 v2 v3 v4; intro h R l0 f0 l1 f1 l2 f2 l3 f3 l4 f4
    have ih : ∀ {z3 : Int} {z4 : Int} {Sq : QS} {Lq : QL} {u0 : Value} {u1 : Value} {u2 : Value} {u3 : Value} {u4 : Value}, fl_X12_isWanted_5 y1 y2 m0 k52 n z3 z4 = some rz → Rp Sq m0 → q_lo Lq 0 = some u0 → q_is 2 u0 68 → q_lo Lq 1 = some u1 → q_is 0 u1 y1 → q_lo Lq 2 = some u2 → q_is 0 u2 y2 → q_lo Lq 3 = some u3 → q_is 0 u3 z3 → q_lo Lq 4 = some u4 → q_is 0 u4 z4 → Go xs d qM_X12_isWanted 5 Lq [] Sq Q := by intros; exact ih0 ‹_› ‹_› ‹_› ‹_› ‹_› ‹_› ‹_› ‹_› ‹_› ‹_› ‹_› ‹_›
    unfold fl_X12_isWanted_5 at h
    refine go_iload (n := 4) (by decide +kernel) l4 f4 ?_
    refine go_aload_n (n := 0) (by decide +kernel) l0 f0 ?_
    obtain ⟨x_21, e_22, h⟩ := lx_s h
    refine go_getf (x := 368) (ci := 13) (kf := 91) (fin := 0) (t := 0) (by decide +kernel) (by decide +kernel) (by decide +kernel) R f0 (fx_k (c := 13) R (by decide +kernel)) fun v_18 f_19 => ?_
    have f_20 := q_is_eq f_19 e_22
    refine go_icmp (c := .ge) (o := 41) (t := 52) (P := ¬ (y4 < x_21)) (by decide +kernel) (by decide +kernel) f4 f_20 (Int.not_lt.symm) (fun hp_23 => ?_) (fun hp_23 => ?_)
    · have h := it_f hp_23 h
      exact hk52 h R l0 f0 l1 f1 l2 f2 l3 f3
    · have h := it_n hp_23 h
      refine go_iload_n (n := 3) (by decide +kernel) l3 f3 ?_
      refine go_if (c := .ne) (o := 25) (t := 40) (P := ¬ (y3 = 0)) (by decide +kernel) (by decide +kernel) f3 (Iff.rfl) (fun hp_24 => ?_) (fun hp_24 => ?_)
      · have h := it_f hp_24 h
        refine go_iconst (n := 1) (z := 1) (by decide +kernel) (by decide) fun v_25 f_26 => ?_
        refine go_goto (o := 4) (t := 45) (by decide +kernel) (by decide +kernel) ?_
        refine go_istore_n (n := 3) (by decide +kernel) (by decide +kernel) f_26 fun L_27 l_28 kp_29 => ?_
        have l_30 := kp_29 0 _ l0 (by decide) (Or.inl (by decide))
        have l_31 := kp_29 1 _ l1 (by decide) (Or.inl (by decide))
        have l_32 := kp_29 2 _ l2 (by decide) (Or.inr (q_is_cat f2 (Or.inl rfl)))
        have l_33 := kp_29 4 _ l4 (by decide) (Or.inl (by decide))
        refine go_iinc (n := 4) (c := 1) (c' := 1) (by decide +kernel) (by decide +kernel) l_33 f4 (by decide) fun L_34 v_35 f_36 l_37 kp_38 => ?_
        obtain ⟨x_39, e_40, h⟩ := lx_s h
        have f_41 := q_is_eq f_36 e_40
        have l_42 := kp_38 0 _ l_30 (by decide) (Or.inl (by decide))
        have l_43 := kp_38 1 _ l_31 (by decide) (Or.inl (by decide))
        have l_44 := kp_38 2 _ l_32 (by decide) (Or.inl (by decide))
        have l_45 := kp_38 3 _ l_28 (by decide) (Or.inr (q_is_cat f_26 (Or.inl rfl)))
        refine go_goto (o := (-44)) (t := 5) (by decide +kernel) (by decide +kernel) ?_
        exact ih h R l_42 f0 l_43 f1 l_44 f2 l_45 f_26 l_37 f_41
      · have h := it_n hp_24 h
        refine go_aload_n (n := 0) (by decide +kernel) l0 f0 ?_
        refine go_getf (x := 250) (ci := 13) (kf := 95) (fin := 1) (t := 2) (by decide +kernel) (by decide +kernel) (by decide +kernel) R f0 (fx_k (c := 13) R (by decide +kernel)) fun v_46 f_47 => ?_
        have f_48 := q_is_eq (b := 145) f_47 (fx_v R (by decide +kernel)).symm
        refine go_iload (n := 4) (by decide +kernel) l4 f4 ?_
        obtain ⟨g_51, h⟩ := gd_s h
        obtain ⟨x_53, e_54, h⟩ := lx_s h
        refine go_iald (kd := 100) (by decide +kernel) rfl R f_48 f4 (fx_k (c := 100) R (by decide +kernel)) (fx_x (a := 145) (ln := 12) R (by decide +kernel) g_51) fun v_49 f_50 => ?_
        have f_52 := q_is_eq f_50 e_54
        refine go_iconst (n := 2) (z := 2) (by decide +kernel) (by decide) fun v_55 f_56 => ?_
        refine go_icmp (c := .ne) (o := 18) (t := 44) (P := ¬ (x_53 = 2)) (by decide +kernel) (by decide +kernel) f_52 f_56 (Iff.rfl) (fun hp_57 => ?_) (fun hp_57 => ?_)
        · have h := it_f hp_57 h
          refine go_iconst (n := 0) (z := 0) (by decide +kernel) (by decide) fun v_58 f_59 => ?_
          refine go_istore_n (n := 3) (by decide +kernel) (by decide +kernel) f_59 fun L_60 l_61 kp_62 => ?_
          have l_63 := kp_62 0 _ l0 (by decide) (Or.inl (by decide))
          have l_64 := kp_62 1 _ l1 (by decide) (Or.inl (by decide))
          have l_65 := kp_62 2 _ l2 (by decide) (Or.inr (q_is_cat f2 (Or.inl rfl)))
          have l_66 := kp_62 4 _ l4 (by decide) (Or.inl (by decide))
          refine go_iinc (n := 4) (c := 1) (c' := 1) (by decide +kernel) (by decide +kernel) l_66 f4 (by decide) fun L_67 v_68 f_69 l_70 kp_71 => ?_
          obtain ⟨x_72, e_73, h⟩ := lx_s h
          have f_74 := q_is_eq f_69 e_73
          have l_75 := kp_71 0 _ l_63 (by decide) (Or.inl (by decide))
          have l_76 := kp_71 1 _ l_64 (by decide) (Or.inl (by decide))
          have l_77 := kp_71 2 _ l_65 (by decide) (Or.inl (by decide))
          have l_78 := kp_71 3 _ l_61 (by decide) (Or.inr (q_is_cat f_59 (Or.inl rfl)))
          refine go_goto (o := (-44)) (t := 5) (by decide +kernel) (by decide +kernel) ?_
          exact ih h R l_75 f0 l_76 f1 l_77 f2 l_78 f_59 l_70 f_74
        · have h := it_n hp_57 h
          refine go_aload_n (n := 0) (by decide +kernel) l0 f0 ?_
          refine go_getf (x := 253) (ci := 13) (kf := 96) (fin := 1) (t := 2) (by decide +kernel) (by decide +kernel) (by decide +kernel) R f0 (fx_k (c := 13) R (by decide +kernel)) fun v_79 f_80 => ?_
          have f_81 := q_is_eq (b := 146) f_80 (fx_v R (by decide +kernel)).symm
          refine go_iload (n := 4) (by decide +kernel) l4 f4 ?_
          obtain ⟨x_85, e_86, h⟩ := lx_s h
          refine go_iald (kd := 100) (by decide +kernel) rfl R f_81 f4 (fx_k (c := 100) R (by decide +kernel)) (fx_x (a := 146) (ln := 12) R (by decide +kernel) g_51) fun v_82 f_83 => ?_
          have f_84 := q_is_eq f_83 e_86
          refine go_iload_n (n := 2) (by decide +kernel) l2 f2 ?_
          refine go_icmp (c := .ne) (o := 7) (t := 44) (P := ¬ (x_85 = y2)) (by decide +kernel) (by decide +kernel) f_84 f2 (Iff.rfl) (fun hp_87 => ?_) (fun hp_87 => ?_)
          · have h := it_f hp_87 h
            refine go_iconst (n := 0) (z := 0) (by decide +kernel) (by decide) fun v_88 f_89 => ?_
            refine go_istore_n (n := 3) (by decide +kernel) (by decide +kernel) f_89 fun L_90 l_91 kp_92 => ?_
            have l_93 := kp_92 0 _ l0 (by decide) (Or.inl (by decide))
            have l_94 := kp_92 1 _ l1 (by decide) (Or.inl (by decide))
            have l_95 := kp_92 2 _ l2 (by decide) (Or.inr (q_is_cat f2 (Or.inl rfl)))
            have l_96 := kp_92 4 _ l4 (by decide) (Or.inl (by decide))
            refine go_iinc (n := 4) (c := 1) (c' := 1) (by decide +kernel) (by decide +kernel) l_96 f4 (by decide) fun L_97 v_98 f_99 l_100 kp_101 => ?_
            obtain ⟨x_102, e_103, h⟩ := lx_s h
            have f_104 := q_is_eq f_99 e_103
            have l_105 := kp_101 0 _ l_93 (by decide) (Or.inl (by decide))
            have l_106 := kp_101 1 _ l_94 (by decide) (Or.inl (by decide))
            have l_107 := kp_101 2 _ l_95 (by decide) (Or.inl (by decide))
            have l_108 := kp_101 3 _ l_91 (by decide) (Or.inr (q_is_cat f_89 (Or.inl rfl)))
            refine go_goto (o := (-44)) (t := 5) (by decide +kernel) (by decide +kernel) ?_
            exact ih h R l_105 f0 l_106 f1 l_107 f2 l_108 f_89 l_100 f_104
          · have h := it_n hp_87 h
            refine go_iconst (n := 1) (z := 1) (by decide +kernel) (by decide) fun v_109 f_110 => ?_
            refine go_goto (o := 4) (t := 45) (by decide +kernel) (by decide +kernel) ?_
            refine go_istore_n (n := 3) (by decide +kernel) (by decide +kernel) f_110 fun L_111 l_112 kp_113 => ?_
            have l_114 := kp_113 0 _ l0 (by decide) (Or.inl (by decide))
            have l_115 := kp_113 1 _ l1 (by decide) (Or.inl (by decide))
            have l_116 := kp_113 2 _ l2 (by decide) (Or.inr (q_is_cat f2 (Or.inl rfl)))
            have l_117 := kp_113 4 _ l4 (by decide) (Or.inl (by decide))
            refine go_iinc (n := 4) (c := 1) (c' := 1) (by decide +kernel) (by decide +kernel) l_117 f4 (by decide) fun L_118 v_119 f_120 l_121 kp_122 => ?_
            obtain ⟨x_123, e_124, h⟩ := lx_s h
            have f_125 := q_is_eq f_120 e_124
            have l_126 := kp_122 0 _ l_114 (by decide) (Or.inl (by decide))
            have l_127 := kp_122 1 _ l_115 (by decide) (Or.inl (by decide))
            have l_128 := kp_122 2 _ l_116 (by decide) (Or.inl (by decide))
            have l_129 := kp_122 3 _ l_112 (by decide) (Or.inr (q_is_cat f_110 (Or.inl rfl)))
            refine go_goto (o := (-44)) (t := 5) (by decide +kernel) (by decide +kernel) ?_
            exact ih h R l_126 f0 l_127 f1 l_128 f2 l_129 f_110 l_121 f_125
noncomputable def fj_X12_isWanted_92 (c : Int → Int → Int → Option Int) (k137 : Int → Option Int) (y1 y2 y3 y5 y6 s0 s1 : Int) (m0 : MM) : Option Int := lx (w32 (s1 + s0)) fun x_200 =>
if y3 = 0 then
lx (w32 (y5 + 1)) fun x_228 =>
c 0 x_200 x_228
else
if y6 = 4 then
bp (fm_X12_xAt y1 y5 m0) fun x_263 =>
if x_263 = y2 then
lx (m0 68 119) fun x_298 =>
if x_298 < x_200 then
lx (w32 (y5 + 1)) fun x_316 =>
c 0 x_200 x_316
else
lx (w32 (y5 + 1)) fun x_339 =>
c 1 x_200 x_339
else
lx (w32 (y5 + 1)) fun x_287 =>
c 1 x_200 x_287
else
lx (w32 (y5 + 1)) fun x_254 =>
c 1 x_200 x_254
set_option maxHeartbeats 4000000 in
theorem oj_X12_isWanted_92 {xs : List Int32} {d : Nat} {S : QS} {L : QL} {Q : QO → QS → Prop} {m0 : MM} {y1 y2 y3 y5 y6 s0 s1 : Int} {v0 : Value} {v1 : Value} {v2 : Value} {v3 : Value} {v5 : Value} {v6 : Value} {w0 : Value} {w1 : Value}  {rz : Int} {c : Int → Int → Int → Option Int} {k137 : Int → Option Int} 
  (hd : 2 ≤ d) (R : Rp S m0) (l0 : q_lo L 0 = some v0) (f0 : q_is 2 v0 68) (l1 : q_lo L 1 = some v1) (f1 : q_is 0 v1 y1) (l2 : q_lo L 2 = some v2) (f2 : q_is 0 v2 y2) (l3 : q_lo L 3 = some v3) (f3 : q_is 0 v3 y3) (l5 : q_lo L 5 = some v5) (f5 : q_is 0 v5 y5) (l6 : q_lo L 6 = some v6) (f6 : q_is 0 v6 y6) (fs0 : q_is 0 w0 s0) (fs1 : q_is 0 w1 s1)
  (hc : ∀ {z3 : Int} {z4 : Int} {z5 : Int} {Sq : QS} {Lq : QL} {u0 : Value} {u1 : Value} {u2 : Value} {u3 : Value} {u4 : Value} {u5 : Value}, c z3 z4 z5 = some rz → Rp Sq m0 → q_lo Lq 0 = some u0 → q_is 2 u0 68 → q_lo Lq 1 = some u1 → q_is 0 u1 y1 → q_lo Lq 2 = some u2 → q_is 0 u2 y2 → q_lo Lq 3 = some u3 → q_is 0 u3 z3 → q_lo Lq 4 = some u4 → q_is 0 u4 z4 → q_lo Lq 5 = some u5 → q_is 0 u5 z5 → Go xs d qM_X12_isWanted 58 Lq [] Sq Q)
  (hk137 : ∀ {z3 : Int} {Sq : QS} {Lq : QL} {u0 : Value} {u2 : Value} {u3 : Value}, k137 z3 = some rz → Rp Sq m0 → q_lo Lq 0 = some u0 → q_is 2 u0 68 → q_lo Lq 2 = some u2 → q_is 0 u2 y2 → q_lo Lq 3 = some u3 → q_is 0 u3 z3 → Go xs d qM_X12_isWanted 137 Lq [] Sq Q)
  (hQ : ∀ o S1, Rp S1 m0 → q_out 0 o rz → Q o S1)
  (h : fj_X12_isWanted_92 c k137 y1 y2 y3 y5 y6 s0 s1 m0 = some rz) : Go xs d qM_X12_isWanted 92 L [w0, w1] S Q := by
  unfold fj_X12_isWanted_92 at h
  refine go_iadd (by decide +kernel) fs1 fs0 fun v_198 f_199 => ?_
  obtain ⟨x_200, e_201, h⟩ := lx_s h
  have f_202 := q_is_eq f_199 e_201
  refine go_istore (n := 4) (by decide +kernel) (by decide +kernel) f_202 fun L_203 l_204 kp_205 => ?_
  have l_206 := kp_205 0 _ l0 (by decide) (Or.inl (by decide))
  have l_207 := kp_205 1 _ l1 (by decide) (Or.inl (by decide))
  have l_208 := kp_205 2 _ l2 (by decide) (Or.inl (by decide))
  have l_209 := kp_205 3 _ l3 (by decide) (Or.inr (q_is_cat f3 (Or.inl rfl)))
  have l_210 := kp_205 5 _ l5 (by decide) (Or.inl (by decide))
  have l_211 := kp_205 6 _ l6 (by decide) (Or.inl (by decide))
  refine go_iload_n (n := 3) (by decide +kernel) l_209 f3 ?_
  refine go_if (c := .eq) (o := 33) (t := 129) (P := y3 = 0) (by decide +kernel) (by decide +kernel) f3 (Iff.rfl) (fun hp_212 => ?_) (fun hp_212 => ?_)
  · have h := it_t hp_212 h
    refine go_iconst (n := 0) (z := 0) (by decide +kernel) (by decide) fun v_213 f_214 => ?_
    refine go_istore_n (n := 3) (by decide +kernel) (by decide +kernel) f_214 fun L_215 l_216 kp_217 => ?_
    have l_218 := kp_217 0 _ l_206 (by decide) (Or.inl (by decide))
    have l_219 := kp_217 1 _ l_207 (by decide) (Or.inl (by decide))
    have l_220 := kp_217 2 _ l_208 (by decide) (Or.inr (q_is_cat f2 (Or.inl rfl)))
    have l_221 := kp_217 5 _ l_210 (by decide) (Or.inl (by decide))
    have l_222 := kp_217 4 _ l_204 (by decide) (Or.inl (by decide))
    refine go_iinc (n := 5) (c := 1) (c' := 1) (by decide +kernel) (by decide +kernel) l_221 f5 (by decide) fun L_223 v_224 f_225 l_226 kp_227 => ?_
    obtain ⟨x_228, e_229, h⟩ := lx_s h
    have f_230 := q_is_eq f_225 e_229
    have l_231 := kp_227 0 _ l_218 (by decide) (Or.inl (by decide))
    have l_232 := kp_227 1 _ l_219 (by decide) (Or.inl (by decide))
    have l_233 := kp_227 2 _ l_220 (by decide) (Or.inl (by decide))
    have l_234 := kp_227 4 _ l_222 (by decide) (Or.inr (q_is_cat f_202 (Or.inl rfl)))
    have l_235 := kp_227 3 _ l_216 (by decide) (Or.inl (by decide))
    refine go_goto (o := (-76)) (t := 58) (by decide +kernel) (by decide +kernel) ?_
    exact hc h R l_231 f0 l_232 f1 l_233 f2 l_235 f_214 l_234 f_202 l_226 f_230
  · have h := it_f hp_212 h
    refine go_iload (n := 6) (by decide +kernel) l_211 f6 ?_
    refine go_iconst (n := 4) (z := 4) (by decide +kernel) (by decide) fun v_236 f_237 => ?_
    refine go_icmp (c := .ne) (o := 23) (t := 125) (P := ¬ (y6 = 4)) (by decide +kernel) (by decide +kernel) f6 f_237 (Iff.rfl) (fun hp_238 => ?_) (fun hp_238 => ?_)
    · have h := it_f hp_238 h
      refine go_iconst (n := 1) (z := 1) (by decide +kernel) (by decide) fun v_239 f_240 => ?_
      refine go_goto (o := 4) (t := 130) (by decide +kernel) (by decide +kernel) ?_
      refine go_istore_n (n := 3) (by decide +kernel) (by decide +kernel) f_240 fun L_241 l_242 kp_243 => ?_
      have l_244 := kp_243 0 _ l_206 (by decide) (Or.inl (by decide))
      have l_245 := kp_243 1 _ l_207 (by decide) (Or.inl (by decide))
      have l_246 := kp_243 2 _ l_208 (by decide) (Or.inr (q_is_cat f2 (Or.inl rfl)))
      have l_247 := kp_243 5 _ l_210 (by decide) (Or.inl (by decide))
      have l_248 := kp_243 4 _ l_204 (by decide) (Or.inl (by decide))
      refine go_iinc (n := 5) (c := 1) (c' := 1) (by decide +kernel) (by decide +kernel) l_247 f5 (by decide) fun L_249 v_250 f_251 l_252 kp_253 => ?_
      obtain ⟨x_254, e_255, h⟩ := lx_s h
      have f_256 := q_is_eq f_251 e_255
      have l_257 := kp_253 0 _ l_244 (by decide) (Or.inl (by decide))
      have l_258 := kp_253 1 _ l_245 (by decide) (Or.inl (by decide))
      have l_259 := kp_253 2 _ l_246 (by decide) (Or.inl (by decide))
      have l_260 := kp_253 4 _ l_248 (by decide) (Or.inr (q_is_cat f_202 (Or.inl rfl)))
      have l_261 := kp_253 3 _ l_242 (by decide) (Or.inl (by decide))
      refine go_goto (o := (-76)) (t := 58) (by decide +kernel) (by decide +kernel) ?_
      exact hc h R l_257 f0 l_258 f1 l_259 f2 l_261 f_240 l_260 f_202 l_252 f_256
    · have h := it_n hp_238 h
      refine go_aload_n (n := 0) (by decide +kernel) l_206 f0 ?_
      refine go_iload_n (n := 1) (by decide +kernel) l_207 f1 ?_
      refine go_iload (n := 5) (by decide +kernel) l_210 f5 ?_
      obtain ⟨x_263, hc_262, h⟩ := bp_s h
      refine go_callV (x := 344) (mi := 206) (n := 2) (ci := 13) (as := [v1, v5]) (rest := []) (by decide +kernel) (by decide +kernel) rfl rfl (q_sum8 _ (Nat.le_of_ble_eq_true rfl)) R f0 (fx_k (c := 13) R (by decide +kernel)) (om_X12_xAt (Nat.le_trans (by decide) hd) R f0 f1 f5 hc_262) (fun _ S_267 q_270 => ?_) (fun _ _ qq => kr_x qq)
      refine kr_z (by decide) q_270 fun v_265 f_266 R_268 E_269 => ?_
      refine go_iload_n (n := 2) (by decide +kernel) l_208 f2 ?_
      refine go_icmp (c := .ne) (o := 12) (t := 125) (P := ¬ (x_263 = y2)) (by decide +kernel) (by decide +kernel) f_266 f2 (Iff.rfl) (fun hp_271 => ?_) (fun hp_271 => ?_)
      · have h := it_f hp_271 h
        refine go_iconst (n := 1) (z := 1) (by decide +kernel) (by decide) fun v_272 f_273 => ?_
        refine go_goto (o := 4) (t := 130) (by decide +kernel) (by decide +kernel) ?_
        refine go_istore_n (n := 3) (by decide +kernel) (by decide +kernel) f_273 fun L_274 l_275 kp_276 => ?_
        have l_277 := kp_276 0 _ l_206 (by decide) (Or.inl (by decide))
        have l_278 := kp_276 1 _ l_207 (by decide) (Or.inl (by decide))
        have l_279 := kp_276 2 _ l_208 (by decide) (Or.inr (q_is_cat f2 (Or.inl rfl)))
        have l_280 := kp_276 5 _ l_210 (by decide) (Or.inl (by decide))
        have l_281 := kp_276 4 _ l_204 (by decide) (Or.inl (by decide))
        refine go_iinc (n := 5) (c := 1) (c' := 1) (by decide +kernel) (by decide +kernel) l_280 f5 (by decide) fun L_282 v_283 f_284 l_285 kp_286 => ?_
        obtain ⟨x_287, e_288, h⟩ := lx_s h
        have f_289 := q_is_eq f_284 e_288
        have l_290 := kp_286 0 _ l_277 (by decide) (Or.inl (by decide))
        have l_291 := kp_286 1 _ l_278 (by decide) (Or.inl (by decide))
        have l_292 := kp_286 2 _ l_279 (by decide) (Or.inl (by decide))
        have l_293 := kp_286 4 _ l_281 (by decide) (Or.inr (q_is_cat f_202 (Or.inl rfl)))
        have l_294 := kp_286 3 _ l_275 (by decide) (Or.inl (by decide))
        refine go_goto (o := (-76)) (t := 58) (by decide +kernel) (by decide +kernel) ?_
        exact hc h R_268 l_290 f0 l_291 f1 l_292 f2 l_294 f_273 l_293 f_202 l_285 f_289
      · have h := it_n hp_271 h
        refine go_iload (n := 4) (by decide +kernel) l_204 f_202 ?_
        refine go_aload_n (n := 0) (by decide +kernel) l_206 f0 ?_
        obtain ⟨x_298, e_299, h⟩ := lx_s h
        refine go_getf (x := 407) (ci := 13) (kf := 119) (fin := 0) (t := 0) (by decide +kernel) (by decide +kernel) (by decide +kernel) R_268 f0 (fx_k (c := 13) R_268 (by decide +kernel)) fun v_295 f_296 => ?_
        have f_297 := q_is_eq f_296 e_299
        refine go_icmp (c := .gt) (o := 7) (t := 129) (P := x_298 < x_200) (by decide +kernel) (by decide +kernel) f_202 f_297 (Iff.rfl) (fun hp_300 => ?_) (fun hp_300 => ?_)
        · have h := it_t hp_300 h
          refine go_iconst (n := 0) (z := 0) (by decide +kernel) (by decide) fun v_301 f_302 => ?_
          refine go_istore_n (n := 3) (by decide +kernel) (by decide +kernel) f_302 fun L_303 l_304 kp_305 => ?_
          have l_306 := kp_305 0 _ l_206 (by decide) (Or.inl (by decide))
          have l_307 := kp_305 1 _ l_207 (by decide) (Or.inl (by decide))
          have l_308 := kp_305 2 _ l_208 (by decide) (Or.inr (q_is_cat f2 (Or.inl rfl)))
          have l_309 := kp_305 5 _ l_210 (by decide) (Or.inl (by decide))
          have l_310 := kp_305 4 _ l_204 (by decide) (Or.inl (by decide))
          refine go_iinc (n := 5) (c := 1) (c' := 1) (by decide +kernel) (by decide +kernel) l_309 f5 (by decide) fun L_311 v_312 f_313 l_314 kp_315 => ?_
          obtain ⟨x_316, e_317, h⟩ := lx_s h
          have f_318 := q_is_eq f_313 e_317
          have l_319 := kp_315 0 _ l_306 (by decide) (Or.inl (by decide))
          have l_320 := kp_315 1 _ l_307 (by decide) (Or.inl (by decide))
          have l_321 := kp_315 2 _ l_308 (by decide) (Or.inl (by decide))
          have l_322 := kp_315 4 _ l_310 (by decide) (Or.inr (q_is_cat f_202 (Or.inl rfl)))
          have l_323 := kp_315 3 _ l_304 (by decide) (Or.inl (by decide))
          refine go_goto (o := (-76)) (t := 58) (by decide +kernel) (by decide +kernel) ?_
          exact hc h R_268 l_319 f0 l_320 f1 l_321 f2 l_323 f_302 l_322 f_202 l_314 f_318
        · have h := it_f hp_300 h
          refine go_iconst (n := 1) (z := 1) (by decide +kernel) (by decide) fun v_324 f_325 => ?_
          refine go_goto (o := 4) (t := 130) (by decide +kernel) (by decide +kernel) ?_
          refine go_istore_n (n := 3) (by decide +kernel) (by decide +kernel) f_325 fun L_326 l_327 kp_328 => ?_
          have l_329 := kp_328 0 _ l_206 (by decide) (Or.inl (by decide))
          have l_330 := kp_328 1 _ l_207 (by decide) (Or.inl (by decide))
          have l_331 := kp_328 2 _ l_208 (by decide) (Or.inr (q_is_cat f2 (Or.inl rfl)))
          have l_332 := kp_328 5 _ l_210 (by decide) (Or.inl (by decide))
          have l_333 := kp_328 4 _ l_204 (by decide) (Or.inl (by decide))
          refine go_iinc (n := 5) (c := 1) (c' := 1) (by decide +kernel) (by decide +kernel) l_332 f5 (by decide) fun L_334 v_335 f_336 l_337 kp_338 => ?_
          obtain ⟨x_339, e_340, h⟩ := lx_s h
          have f_341 := q_is_eq f_336 e_340
          have l_342 := kp_338 0 _ l_329 (by decide) (Or.inl (by decide))
          have l_343 := kp_338 1 _ l_330 (by decide) (Or.inl (by decide))
          have l_344 := kp_338 2 _ l_331 (by decide) (Or.inl (by decide))
          have l_345 := kp_338 4 _ l_333 (by decide) (Or.inr (q_is_cat f_202 (Or.inl rfl)))
          have l_346 := kp_338 3 _ l_327 (by decide) (Or.inl (by decide))
          refine go_goto (o := (-76)) (t := 58) (by decide +kernel) (by decide +kernel) ?_
          exact hc h R_268 l_342 f0 l_343 f1 l_344 f2 l_346 f_325 l_345 f_202 l_337 f_341
noncomputable def fl_X12_isWanted_58 (y1 y2 : Int) (m0 : MM) (k137 : Int → Option Int) : Nat → Int → Int → Int → Option Int
  | 0, _, _, _ => none
  | n + 1, y3, y4, y5 => gd (0 ≤ y1 ∧ y1 < 30) <| lx (m0 86 y1) fun x_172 =>
if y5 < x_172 then
bp (fm_X12_kindAt y1 y5 m0) fun x_176 =>
if 7 < x_176 then
fj_X12_isWanted_92 (fl_X12_isWanted_58 y1 y2 m0 k137 n) k137 y1 y2 y3 y5 x_176 0 y4 m0
else
fj_X12_isWanted_92 (fl_X12_isWanted_58 y1 y2 m0 k137 n) k137 y1 y2 y3 y5 x_176 1 y4 m0
else
k137 y3
set_option maxHeartbeats 4000000 in
theorem ol_X12_isWanted_58 {xs : List Int32} {d : Nat} {Q : QO → QS → Prop} {m0 : MM} {y1 y2 : Int} {k137 : Int → Option Int} {rz : Int}
  (hd : 2 ≤ d)
  (hk137 : ∀ {z3 : Int} {Sq : QS} {Lq : QL} {u0 : Value} {u2 : Value} {u3 : Value}, k137 z3 = some rz → Rp Sq m0 → q_lo Lq 0 = some u0 → q_is 2 u0 68 → q_lo Lq 2 = some u2 → q_is 0 u2 y2 → q_lo Lq 3 = some u3 → q_is 0 u3 z3 → Go xs d qM_X12_isWanted 137 Lq [] Sq Q)
  (hQ : ∀ o S1, Rp S1 m0 → q_out 0 o rz → Q o S1) :
  ∀ (n : Nat) {S : QS} {L : QL} {y3 y4 y5 : Int} {v0 : Value} {v1 : Value} {v2 : Value} {v3 : Value} {v4 : Value} {v5 : Value} , fl_X12_isWanted_58 y1 y2 m0 k137 n y3 y4 y5 = some rz → Rp S m0 → q_lo L 0 = some v0 → q_is 2 v0 68 → q_lo L 1 = some v1 → q_is 0 v1 y1 → q_lo L 2 = some v2 → q_is 0 v2 y2 → q_lo L 3 = some v3 → q_is 0 v3 y3 → q_lo L 4 = some v4 → q_is 0 v4 y4 → q_lo L 5 = some v5 → q_is 0 v5 y5 → Go xs d qM_X12_isWanted 58 L [] S Q := by
  intro n
  induction n with
  | zero => intro S L y3 y4 y5 v0 v1 v2 v3 v4 v5; intro h R l0 f0 l1 f1 l2 f2 l3 f3 l4 f4 l5 f5; cases h
  | succ n ih0 =>
    intro S L y3 y4 y5 v0 v1 v2 v3 v4 v5; intro h R l0 f0 l1 f1 l2 f2 l3 f3 l4 f4 l5 f5
    have ih : ∀ {z3 : Int} {z4 : Int} {z5 : Int} {Sq : QS} {Lq : QL} {u0 : Value} {u1 : Value} {u2 : Value} {u3 : Value} {u4 : Value} {u5 : Value}, fl_X12_isWanted_58 y1 y2 m0 k137 n z3 z4 z5 = some rz → Rp Sq m0 → q_lo Lq 0 = some u0 → q_is 2 u0 68 → q_lo Lq 1 = some u1 → q_is 0 u1 y1 → q_lo Lq 2 = some u2 → q_is 0 u2 y2 → q_lo Lq 3 = some u3 → q_is 0 u3 z3 → q_lo Lq 4 = some u4 → q_is 0 u4 z4 → q_lo Lq 5 = some u5 → q_is 0 u5 z5 → Go xs d qM_X12_isWanted 58 Lq [] Sq Q := by intros; exact ih0 ‹_› ‹_› ‹_› ‹_› ‹_› ‹_› ‹_› ‹_› ‹_› ‹_› ‹_› ‹_› ‹_› ‹_›
    unfold fl_X12_isWanted_58 at h
    refine go_iload (n := 5) (by decide +kernel) l5 f5 ?_
    refine go_aload_n (n := 0) (by decide +kernel) l0 f0 ?_
    refine go_getf (x := 61) (ci := 13) (kf := 19) (fin := 1) (t := 2) (by decide +kernel) (by decide +kernel) (by decide +kernel) R f0 (fx_k (c := 13) R (by decide +kernel)) fun v_165 f_166 => ?_
    have f_167 := q_is_eq (b := 86) f_166 (fx_v R (by decide +kernel)).symm
    refine go_iload_n (n := 1) (by decide +kernel) l1 f1 ?_
    obtain ⟨g_170, h⟩ := gd_s h
    obtain ⟨x_172, e_173, h⟩ := lx_s h
    refine go_iald (kd := 100) (by decide +kernel) rfl R f_167 f1 (fx_k (c := 100) R (by decide +kernel)) (fx_x (a := 86) (ln := 30) R (by decide +kernel) g_170) fun v_168 f_169 => ?_
    have f_171 := q_is_eq f_169 e_173
    refine go_icmp (c := .ge) (o := 71) (t := 137) (P := ¬ (y5 < x_172)) (by decide +kernel) (by decide +kernel) f5 f_171 (Int.not_lt.symm) (fun hp_174 => ?_) (fun hp_174 => ?_)
    · have h := it_f hp_174 h
      exact hk137 h R l0 f0 l2 f2 l3 f3
    · have h := it_n hp_174 h
      refine go_aload_n (n := 0) (by decide +kernel) l0 f0 ?_
      refine go_iload_n (n := 1) (by decide +kernel) l1 f1 ?_
      refine go_iload (n := 5) (by decide +kernel) l5 f5 ?_
      obtain ⟨x_176, hc_175, h⟩ := bp_s h
      refine go_callV (x := 341) (mi := 204) (n := 2) (ci := 13) (as := [v1, v5]) (rest := []) (by decide +kernel) (by decide +kernel) rfl rfl (q_sum8 _ (Nat.le_of_ble_eq_true rfl)) R f0 (fx_k (c := 13) R (by decide +kernel)) (om_X12_kindAt (Nat.le_trans (by decide) hd) R f0 f1 f5 hc_175) (fun _ S_180 q_183 => ?_) (fun _ _ qq => kr_x qq)
      refine kr_z (by decide) q_183 fun v_178 f_179 R_181 E_182 => ?_
      refine go_istore (n := 6) (by decide +kernel) (by decide +kernel) f_179 fun L_184 l_185 kp_186 => ?_
      have l_187 := kp_186 0 _ l0 (by decide) (Or.inl (by decide))
      have l_188 := kp_186 1 _ l1 (by decide) (Or.inl (by decide))
      have l_189 := kp_186 2 _ l2 (by decide) (Or.inl (by decide))
      have l_190 := kp_186 3 _ l3 (by decide) (Or.inl (by decide))
      have l_191 := kp_186 4 _ l4 (by decide) (Or.inl (by decide))
      have l_192 := kp_186 5 _ l5 (by decide) (Or.inr (q_is_cat f5 (Or.inl rfl)))
      refine go_iload (n := 4) (by decide +kernel) l_191 f4 ?_
      refine go_iload (n := 6) (by decide +kernel) l_185 f_179 ?_
      refine go_bipush (n := 7) (z := 7) (by decide +kernel) (by decide) fun v_193 f_194 => ?_
      refine go_icmp (c := .gt) (o := 7) (t := 91) (P := 7 < x_176) (by decide +kernel) (by decide +kernel) f_179 f_194 (Iff.rfl) (fun hp_195 => ?_) (fun hp_195 => ?_)
      · have h := it_t hp_195 h
        refine go_iconst (n := 0) (z := 0) (by decide +kernel) (by decide) fun v_196 f_197 => ?_
        exact oj_X12_isWanted_92 hd R_181 l_187 f0 l_188 f1 l_189 f2 l_190 f3 l_192 f5 l_185 f_179 f_197 f4 ih hk137 hQ h
      · have h := it_f hp_195 h
        refine go_iconst (n := 1) (z := 1) (by decide +kernel) (by decide) fun v_347 f_348 => ?_
        refine go_goto (o := 4) (t := 92) (by decide +kernel) (by decide +kernel) ?_
        exact oj_X12_isWanted_92 hd R_181 l_187 f0 l_188 f1 l_189 f2 l_190 f3 l_192 f5 l_185 f_179 f_348 f4 ih hk137 hQ h
noncomputable def fm_X12_isWanted (p1 p2 : Int) (m0 : MM) : Option Int := fl_X12_isWanted_5 p1 p2 m0 (fun x_130 =>
fl_X12_isWanted_58 p1 p2 m0 (fun x_349 =>
if x_349 = 0 then
some 0
else
gd (0 ≤ p2 ∧ p2 < 4) <| lx (m0 156 p2) fun x_372 =>
lx (m0 155 p2) fun x_380 =>
if x_372 = x_380 then
some 1
else
some 0) BIG x_130 0 0) BIG 0 0
set_option maxHeartbeats 4000000 in
theorem om_X12_isWanted {xs : List Int32} {d : Nat} {S : QS} {m0 : MM} {p1 p2 : Int} {v0 : Value} {v1 : Value} {v2 : Value} {rz : Int}
  (hd : 3 ≤ d) (R : Rp S m0) (f0 : q_is 2 v0 68) (f1 : q_is 0 v1 p1) (f2 : q_is 0 v2 p2)
  (h : fm_X12_isWanted p1 p2 m0 = some rz) : Mt xs d 261 [v0, v1, v2] S (Cr 0 m0 m0 rz) := by
  obtain ⟨d, rfl⟩ : ∃ e, d = e + 1 := ⟨d - 1, by omega⟩
  have hd : 2 ≤ d := Nat.le_of_succ_le_succ hd
  refine Mt.of (M := qM_X12_isWanted) rfl (by rw [sl_1 (q_is_cat f0 (Or.inr rfl)), sl_1 (q_is_cat f1 (Or.inl rfl)), sl_1 (q_is_cat f2 (Or.inl rfl)), sl_0]; decide) ?_
  rw [la_1 (q_is_cat f0 (Or.inr rfl)), la_1 (q_is_cat f1 (Or.inl rfl)), la_1 (q_is_cat f2 (Or.inl rfl)), la_0]
  obtain ⟨L, hL⟩ : ∃ L : QL, L = [(0, v0), (0 + 1, v1), (0 + 1 + 1, v2)] := ⟨_, rfl⟩
  rw [← hL]
  have l0 : q_lo L 0 = some v0 := by rw [hL]; rfl
  have l1 : q_lo L 1 = some v1 := by rw [hL]; rfl
  have l2 : q_lo L 2 = some v2 := by rw [hL]; rfl
  have hQ : ∀ o S1, Rp S1 m0 → q_out 0 o rz → (Cr 0 m0 m0 rz) o S1 := fun o S1 a b => ⟨a, Ext.rf _, b⟩
  unfold fm_X12_isWanted at h
  refine go_iconst (n := 0) (z := 0) (by decide +kernel) (by decide) fun v_1 f_2 => ?_
  refine go_istore_n (n := 3) (by decide +kernel) (by decide +kernel) f_2 fun L_3 l_4 kp_5 => ?_
  have l_6 := kp_5 0 _ l0 (by decide) (Or.inl (by decide))
  have l_7 := kp_5 1 _ l1 (by decide) (Or.inl (by decide))
  have l_8 := kp_5 2 _ l2 (by decide) (Or.inr (q_is_cat f2 (Or.inl rfl)))
  refine go_iconst (n := 0) (z := 0) (by decide +kernel) (by decide) fun v_9 f_10 => ?_
  refine go_istore (n := 4) (by decide +kernel) (by decide +kernel) f_10 fun L_11 l_12 kp_13 => ?_
  have l_14 := kp_13 0 _ l_6 (by decide) (Or.inl (by decide))
  have l_15 := kp_13 1 _ l_7 (by decide) (Or.inl (by decide))
  have l_16 := kp_13 2 _ l_8 (by decide) (Or.inl (by decide))
  have l_17 := kp_13 3 _ l_4 (by decide) (Or.inr (q_is_cat f_2 (Or.inl rfl)))
  refine ol_X12_isWanted_5 hd  ?_ hQ BIG h R l_14 f0 l_15 f1 l_16 f2 l_17 f_2 l_12 f_10
  intro x_130 S_143 L_144 v_131 v_132 v_133 v_134
  intro h R_145 l_135 f_139 l_136 f_140 l_137 f_141 l_138 f_142
  refine go_iconst (n := 0) (z := 0) (by decide +kernel) (by decide) fun v_146 f_147 => ?_
  refine go_istore (n := 4) (by decide +kernel) (by decide +kernel) f_147 fun L_148 l_149 kp_150 => ?_
  have l_151 := kp_150 0 _ l_135 (by decide) (Or.inl (by decide))
  have l_152 := kp_150 1 _ l_136 (by decide) (Or.inl (by decide))
  have l_153 := kp_150 2 _ l_137 (by decide) (Or.inl (by decide))
  have l_154 := kp_150 3 _ l_138 (by decide) (Or.inr (q_is_cat f_142 (Or.inl rfl)))
  refine go_iconst (n := 0) (z := 0) (by decide +kernel) (by decide) fun v_155 f_156 => ?_
  refine go_istore (n := 5) (by decide +kernel) (by decide +kernel) f_156 fun L_157 l_158 kp_159 => ?_
  have l_160 := kp_159 0 _ l_151 (by decide) (Or.inl (by decide))
  have l_161 := kp_159 1 _ l_152 (by decide) (Or.inl (by decide))
  have l_162 := kp_159 2 _ l_153 (by decide) (Or.inl (by decide))
  have l_163 := kp_159 3 _ l_154 (by decide) (Or.inl (by decide))
  have l_164 := kp_159 4 _ l_149 (by decide) (Or.inr (q_is_cat f_147 (Or.inl rfl)))
  refine ol_X12_isWanted_58 hd  ?_ hQ BIG h R_145 l_160 f_139 l_161 f_140 l_162 f_141 l_163 f_142 l_164 f_147 l_158 f_156
  intro x_349 S_359 L_360 v_350 v_351 v_352
  intro h R_361 l_353 f_356 l_354 f_357 l_355 f_358
  refine go_iload_n (n := 3) (by decide +kernel) l_355 f_358 ?_
  refine go_if (c := .eq) (o := 22) (t := 160) (P := x_349 = 0) (by decide +kernel) (by decide +kernel) f_358 (Iff.rfl) (fun hp_362 => ?_) (fun hp_362 => ?_)
  · have h := it_t hp_362 h
    refine go_iconst (n := 0) (z := 0) (by decide +kernel) (by decide) fun v_363 f_364 => ?_
    cases h
    exact go_iret (by decide +kernel) rfl (Or.inr ⟨rfl, by decide⟩) f_364 (hQ _ _ R_361 (q_out_v (by decide) f_364))
  · have h := it_f hp_362 h
    refine go_aload_n (n := 0) (by decide +kernel) l_353 f_356 ?_
    refine go_getf (x := 284) (ci := 13) (kf := 108) (fin := 1) (t := 2) (by decide +kernel) (by decide +kernel) (by decide +kernel) R_361 f_356 (fx_k (c := 13) R_361 (by decide +kernel)) fun v_365 f_366 => ?_
    have f_367 := q_is_eq (b := 156) f_366 (fx_v R_361 (by decide +kernel)).symm
    refine go_iload_n (n := 2) (by decide +kernel) l_354 f_357 ?_
    obtain ⟨g_370, h⟩ := gd_s h
    obtain ⟨x_372, e_373, h⟩ := lx_s h
    refine go_iald (kd := 100) (by decide +kernel) rfl R_361 f_367 f_357 (fx_k (c := 100) R_361 (by decide +kernel)) (fx_x (a := 156) (ln := 4) R_361 (by decide +kernel) g_370) fun v_368 f_369 => ?_
    have f_371 := q_is_eq f_369 e_373
    refine go_aload_n (n := 0) (by decide +kernel) l_353 f_356 ?_
    refine go_getf (x := 281) (ci := 13) (kf := 107) (fin := 1) (t := 2) (by decide +kernel) (by decide +kernel) (by decide +kernel) R_361 f_356 (fx_k (c := 13) R_361 (by decide +kernel)) fun v_374 f_375 => ?_
    have f_376 := q_is_eq (b := 155) f_375 (fx_v R_361 (by decide +kernel)).symm
    refine go_iload_n (n := 2) (by decide +kernel) l_354 f_357 ?_
    obtain ⟨x_380, e_381, h⟩ := lx_s h
    refine go_iald (kd := 100) (by decide +kernel) rfl R_361 f_376 f_357 (fx_k (c := 100) R_361 (by decide +kernel)) (fx_x (a := 155) (ln := 4) R_361 (by decide +kernel) g_370) fun v_377 f_378 => ?_
    have f_379 := q_is_eq f_378 e_381
    refine go_icmp (c := .ne) (o := 7) (t := 160) (P := ¬ (x_372 = x_380)) (by decide +kernel) (by decide +kernel) f_371 f_379 (Iff.rfl) (fun hp_382 => ?_) (fun hp_382 => ?_)
    · have h := it_f hp_382 h
      refine go_iconst (n := 0) (z := 0) (by decide +kernel) (by decide) fun v_383 f_384 => ?_
      cases h
      exact go_iret (by decide +kernel) rfl (Or.inr ⟨rfl, by decide⟩) f_384 (hQ _ _ R_361 (q_out_v (by decide) f_384))
    · have h := it_n hp_382 h
      refine go_iconst (n := 1) (z := 1) (by decide +kernel) (by decide) fun v_385 f_386 => ?_
      refine go_goto (o := 4) (t := 161) (by decide +kernel) (by decide +kernel) ?_
      cases h
      exact go_iret (by decide +kernel) rfl (Or.inr ⟨rfl, by decide⟩) f_386 (hQ _ _ R_361 (q_out_v (by decide) f_386))
noncomputable def fj_X12_update_104 (y1 y2 y3 s0 : Int) (m : MM) : Option (Int × MM) := if s0 = 0 then
gd (s0 = 0 ∨ s0 = 1) <| some (s0, m)
else
bd (fm_X12_puts y1 4 y2 y3 m) fun x_92 m_93 =>
gd (s0 = 0 ∨ s0 = 1) <| some (s0, m_93)
set_option maxHeartbeats 4000000 in
theorem oj_X12_update_104 {xs : List Int32} {d : Nat} {S : QS} {L : QL} {Q : QO → QS → Prop} {m : MM} {y1 y2 y3 s0 : Int} {v0 : Value} {v1 : Value} {v2 : Value} {v3 : Value} {w0 : Value}  {rz : Int} {rm : MM}
  (hd : 15 ≤ d) (R : Rp S m) (l0 : q_lo L 0 = some v0) (f0 : q_is 2 v0 68) (l1 : q_lo L 1 = some v1) (f1 : q_is 0 v1 y1) (l2 : q_lo L 2 = some v2) (f2 : q_is 0 v2 y2) (l3 : q_lo L 3 = some v3) (f3 : q_is 0 v3 y3) (fs0 : q_is 0 w0 s0)
  (hQ : Ext m rm → ∀ o S1, Rp S1 rm → q_out 0 o rz → Q o S1)
  (h : fj_X12_update_104 y1 y2 y3 s0 m = some (rz, rm)) : Go xs d qM_X12_update 104 L [w0] S Q := by
  unfold fj_X12_update_104 at h
  refine go_istore (n := 5) (by decide +kernel) (by decide +kernel) fs0 fun L_80 l_81 kp_82 => ?_
  have l_83 := kp_82 0 _ l0 (by decide) (Or.inl (by decide))
  have l_84 := kp_82 1 _ l1 (by decide) (Or.inl (by decide))
  have l_85 := kp_82 2 _ l2 (by decide) (Or.inl (by decide))
  have l_86 := kp_82 3 _ l3 (by decide) (Or.inl (by decide))
  refine go_iload (n := 5) (by decide +kernel) l_81 fs0 ?_
  refine go_if (c := .eq) (o := 12) (t := 120) (P := s0 = 0) (by decide +kernel) (by decide +kernel) fs0 (Iff.rfl) (fun hp_87 => ?_) (fun hp_87 => ?_)
  · have h := it_t hp_87 h
    refine go_iload (n := 5) (by decide +kernel) l_81 fs0 ?_
    obtain ⟨g_88, h⟩ := gd_s h
    cases h
    exact go_iret (by decide +kernel) rfl (Or.inr ⟨rfl, g_88⟩) fs0 (hQ (Ext.rf _) _ _ R (q_out_v (by decide) fs0))
  · have h := it_f hp_87 h
    refine go_aload_n (n := 0) (by decide +kernel) l_83 f0 ?_
    refine go_iload_n (n := 1) (by decide +kernel) l_84 f1 ?_
    refine go_iconst (n := 4) (z := 4) (by decide +kernel) (by decide) fun v_89 f_90 => ?_
    refine go_iload_n (n := 2) (by decide +kernel) l_85 f2 ?_
    refine go_iload_n (n := 3) (by decide +kernel) l_86 f3 ?_
    obtain ⟨x_92, m_93, hc_91, h⟩ := bd_s h
    refine go_callV (x := 360) (mi := 210) (n := 4) (ci := 13) (as := [v1, v_89, v2, v3]) (rest := []) (by decide +kernel) (by decide +kernel) rfl rfl (q_sum8 _ (Nat.le_of_ble_eq_true rfl)) R f0 (fx_k (c := 13) R (by decide +kernel)) (om_X12_puts (Nat.le_trans (by decide) hd) R f0 f1 f_90 f2 f3 hc_91) (fun _ S_96 q_99 => ?_) (fun _ _ qq => kr_x qq)
    refine kr_z (by decide) q_99 fun v_94 f_95 R_97 E_98 => ?_
    have E_102 := E_98
    refine go_pop (by decide +kernel) f_95 (Or.inl rfl) ?_
    refine go_iload (n := 5) (by decide +kernel) l_81 fs0 ?_
    obtain ⟨g_103, h⟩ := gd_s h
    cases h
    exact go_iret (by decide +kernel) rfl (Or.inr ⟨rfl, g_103⟩) fs0 (hQ E_102 _ _ R_97 (q_out_v (by decide) fs0))
noncomputable def fj_X12_update_68 (y1 y2 y3 s0 : Int) (m : MM) : Option (Int × MM) := bd (fm_X12_fails s0 m) fun x_44 m_45 =>
if x_44 = 0 then
gd (0 ≤ y1 ∧ y1 < 30) <| lx (m_45 82 y1) fun x_63 =>
bd (fm_X12_isSafe y1 x_63 m_45) fun x_66 m_67 =>
if x_66 = 0 then
fj_X12_update_104 y1 y2 y3 0 m_67
else
bp (fm_X12_isWanted y1 y2 m_67) fun x_105 =>
if x_105 = 0 then
fj_X12_update_104 y1 y2 y3 0 m_67
else
fj_X12_update_104 y1 y2 y3 1 m_67
else
some (0, m_45)
set_option maxHeartbeats 4000000 in
theorem oj_X12_update_68 {xs : List Int32} {d : Nat} {S : QS} {L : QL} {Q : QO → QS → Prop} {m : MM} {y1 y2 y3 s0 : Int} {v0 : Value} {v1 : Value} {v2 : Value} {v3 : Value} {w0 : Value} {w1 : Value}  {rz : Int} {rm : MM}
  (hd : 15 ≤ d) (R : Rp S m) (l0 : q_lo L 0 = some v0) (f0 : q_is 2 v0 68) (l1 : q_lo L 1 = some v1) (f1 : q_is 0 v1 y1) (l2 : q_lo L 2 = some v2) (f2 : q_is 0 v2 y2) (l3 : q_lo L 3 = some v3) (f3 : q_is 0 v3 y3) (fs0 : q_is 0 w0 s0) (fs1 : q_is 2 w1 68)
  (hQ : Ext m rm → ∀ o S1, Rp S1 rm → q_out 0 o rz → Q o S1)
  (h : fj_X12_update_68 y1 y2 y3 s0 m = some (rz, rm)) : Go xs d qM_X12_update 68 L [w0, w1] S Q := by
  unfold fj_X12_update_68 at h
  obtain ⟨x_44, m_45, hc_43, h⟩ := bd_s h
  refine go_callV (x := 324) (mi := 186) (n := 1) (ci := 13) (as := [w0]) (rest := []) (by decide +kernel) (by decide +kernel) rfl rfl (q_sum8 _ (Nat.le_of_ble_eq_true rfl)) R fs1 (fx_k (c := 13) R (by decide +kernel)) (om_X12_fails (Nat.le_trans (by decide) hd) R fs1 fs0 hc_43) (fun _ S_48 q_51 => ?_) (fun _ _ qq => kr_x qq)
  refine kr_z (by decide) q_51 fun v_46 f_47 R_49 E_50 => ?_
  have E_54 := E_50
  refine go_if (c := .eq) (o := 5) (t := 76) (P := x_44 = 0) (by decide +kernel) (by decide +kernel) f_47 (Iff.rfl) (fun hp_55 => ?_) (fun hp_55 => ?_)
  · have h := it_t hp_55 h
    refine go_aload_n (n := 0) (by decide +kernel) l0 f0 ?_
    refine go_iload_n (n := 1) (by decide +kernel) l1 f1 ?_
    refine go_aload_n (n := 0) (by decide +kernel) l0 f0 ?_
    refine go_getf (x := 49) (ci := 13) (kf := 15) (fin := 1) (t := 2) (by decide +kernel) (by decide +kernel) (by decide +kernel) R_49 f0 (fx_k (c := 13) R_49 (by decide +kernel)) fun v_56 f_57 => ?_
    have f_58 := q_is_eq (b := 82) f_57 (fx_v R_49 (by decide +kernel)).symm
    refine go_iload_n (n := 1) (by decide +kernel) l1 f1 ?_
    obtain ⟨g_61, h⟩ := gd_s h
    obtain ⟨x_63, e_64, h⟩ := lx_s h
    refine go_iald (kd := 100) (by decide +kernel) rfl R_49 f_58 f1 (fx_k (c := 100) R_49 (by decide +kernel)) (fx_x (a := 82) (ln := 30) R_49 (by decide +kernel) g_61) fun v_59 f_60 => ?_
    have f_62 := q_is_eq f_60 e_64
    obtain ⟨x_66, m_67, hc_65, h⟩ := bd_s h
    refine go_callV (x := 586) (mi := 250) (n := 2) (ci := 13) (as := [v1, v_59]) (rest := []) (by decide +kernel) (by decide +kernel) rfl rfl (q_sum8 _ (Nat.le_of_ble_eq_true rfl)) R_49 f0 (fx_k (c := 13) R_49 (by decide +kernel)) (om_X12_isSafe (Nat.le_trans (by decide) hd) R_49 f0 f1 f_62 hc_65) (fun _ S_70 q_73 => ?_) (fun _ _ qq => kr_x qq)
    refine kr_z (by decide) q_73 fun v_68 f_69 R_71 E_72 => ?_
    have E_76 := Ext.tr E_54 E_72
    refine go_if (c := .eq) (o := 16) (t := 103) (P := x_66 = 0) (by decide +kernel) (by decide +kernel) f_69 (Iff.rfl) (fun hp_77 => ?_) (fun hp_77 => ?_)
    · have h := it_t hp_77 h
      refine go_iconst (n := 0) (z := 0) (by decide +kernel) (by decide) fun v_78 f_79 => ?_
      exact oj_X12_update_104 hd R_71 l0 f0 l1 f1 l2 f2 l3 f3 f_79 (fun b => hQ (Ext.tr E_76 b)) h
    · have h := it_f hp_77 h
      refine go_aload_n (n := 0) (by decide +kernel) l0 f0 ?_
      refine go_iload_n (n := 1) (by decide +kernel) l1 f1 ?_
      refine go_iload_n (n := 2) (by decide +kernel) l2 f2 ?_
      obtain ⟨x_105, hc_104, h⟩ := bp_s h
      refine go_callV (x := 589) (mi := 261) (n := 2) (ci := 13) (as := [v1, v2]) (rest := []) (by decide +kernel) (by decide +kernel) rfl rfl (q_sum8 _ (Nat.le_of_ble_eq_true rfl)) R_71 f0 (fx_k (c := 13) R_71 (by decide +kernel)) (om_X12_isWanted (Nat.le_trans (by decide) hd) R_71 f0 f1 f2 hc_104) (fun _ S_109 q_112 => ?_) (fun _ _ qq => kr_x qq)
      refine kr_z (by decide) q_112 fun v_107 f_108 R_110 E_111 => ?_
      refine go_if (c := .eq) (o := 7) (t := 103) (P := x_105 = 0) (by decide +kernel) (by decide +kernel) f_108 (Iff.rfl) (fun hp_113 => ?_) (fun hp_113 => ?_)
      · have h := it_t hp_113 h
        refine go_iconst (n := 0) (z := 0) (by decide +kernel) (by decide) fun v_114 f_115 => ?_
        exact oj_X12_update_104 hd R_110 l0 f0 l1 f1 l2 f2 l3 f3 f_115 (fun b => hQ (Ext.tr E_76 b)) h
      · have h := it_f hp_113 h
        refine go_iconst (n := 1) (z := 1) (by decide +kernel) (by decide) fun v_116 f_117 => ?_
        refine go_goto (o := 4) (t := 104) (by decide +kernel) (by decide +kernel) ?_
        exact oj_X12_update_104 hd R_110 l0 f0 l1 f1 l2 f2 l3 f3 f_117 (fun b => hQ (Ext.tr E_76 b)) h
  · have h := it_f hp_55 h
    refine go_iconst (n := 0) (z := 0) (by decide +kernel) (by decide) fun v_118 f_119 => ?_
    cases h
    exact go_iret (by decide +kernel) rfl (Or.inr ⟨rfl, by decide⟩) f_119 (hQ E_54 _ _ R_49 (q_out_v (by decide) f_119))
noncomputable def fj_X12_update_20 (y1 y2 y3 s0 : Int) (m : MM) : Option (Int × MM) := if s0 = 0 then
fj_X12_update_68 y1 y2 y3 1 m
else
bp (fm_X12_isValue y3 m) fun x_22 =>
if x_22 = 0 then
fj_X12_update_68 y1 y2 y3 2 m
else
gd (0 ≤ y1 ∧ y1 < 30) <| lx (m 83 y1) fun x_38 =>
if x_38 = 0 then
lx (m 86 y1) fun x_126 =>
if x_126 < 100 then
fj_X12_update_68 y1 y2 y3 0 m
else
fj_X12_update_68 y1 y2 y3 3 m
else
fj_X12_update_68 y1 y2 y3 3 m
set_option maxHeartbeats 4000000 in
theorem oj_X12_update_20 {xs : List Int32} {d : Nat} {S : QS} {L : QL} {Q : QO → QS → Prop} {m : MM} {y1 y2 y3 s0 : Int} {v0 : Value} {v1 : Value} {v2 : Value} {v3 : Value} {w0 : Value}  {rz : Int} {rm : MM}
  (hd : 15 ≤ d) (R : Rp S m) (l0 : q_lo L 0 = some v0) (f0 : q_is 2 v0 68) (l1 : q_lo L 1 = some v1) (f1 : q_is 0 v1 y1) (l2 : q_lo L 2 = some v2) (f2 : q_is 0 v2 y2) (l3 : q_lo L 3 = some v3) (f3 : q_is 0 v3 y3) (fs0 : q_is 0 w0 s0)
  (hQ : Ext m rm → ∀ o S1, Rp S1 rm → q_out 0 o rz → Q o S1)
  (h : fj_X12_update_20 y1 y2 y3 s0 m = some (rz, rm)) : Go xs d qM_X12_update 20 L [w0] S Q := by
  unfold fj_X12_update_20 at h
  refine go_istore (n := 4) (by decide +kernel) (by decide +kernel) fs0 fun L_13 l_14 kp_15 => ?_
  have l_16 := kp_15 0 _ l0 (by decide) (Or.inl (by decide))
  have l_17 := kp_15 1 _ l1 (by decide) (Or.inl (by decide))
  have l_18 := kp_15 2 _ l2 (by decide) (Or.inl (by decide))
  have l_19 := kp_15 3 _ l3 (by decide) (Or.inr (q_is_cat f3 (Or.inl rfl)))
  refine go_aload_n (n := 0) (by decide +kernel) l_16 f0 ?_
  refine go_iload (n := 4) (by decide +kernel) l_14 fs0 ?_
  refine go_if (c := .ne) (o := 7) (t := 32) (P := ¬ (s0 = 0)) (by decide +kernel) (by decide +kernel) fs0 (Iff.rfl) (fun hp_20 => ?_) (fun hp_20 => ?_)
  · have h := it_f hp_20 h
    refine go_iload_n (n := 3) (by decide +kernel) l_19 f3 ?_
    obtain ⟨x_22, hc_21, h⟩ := bp_s h
    refine go_callS (x := 573) (mi := 194) (n := 1) (b := 0) (as := [v3]) (rest := [v0]) (by decide +kernel) (by decide +kernel) rfl rfl (q_sum8 _ (Nat.le_of_ble_eq_true rfl)) (om_X12_isValue (Nat.le_trans (by decide) hd) R f3 hc_21) (fun _ S_26 q_29 => ?_) (fun _ _ qq => kr_x qq)
    refine kr_z (by decide) q_29 fun v_24 f_25 R_27 E_28 => ?_
    refine go_if (c := .ne) (o := 7) (t := 43) (P := ¬ (x_22 = 0)) (by decide +kernel) (by decide +kernel) f_25 (Iff.rfl) (fun hp_30 => ?_) (fun hp_30 => ?_)
    · have h := it_f hp_30 h
      refine go_aload_n (n := 0) (by decide +kernel) l_16 f0 ?_
      refine go_getf (x := 52) (ci := 13) (kf := 16) (fin := 1) (t := 2) (by decide +kernel) (by decide +kernel) (by decide +kernel) R_27 f0 (fx_k (c := 13) R_27 (by decide +kernel)) fun v_31 f_32 => ?_
      have f_33 := q_is_eq (b := 83) f_32 (fx_v R_27 (by decide +kernel)).symm
      refine go_iload_n (n := 1) (by decide +kernel) l_17 f1 ?_
      obtain ⟨g_36, h⟩ := gd_s h
      obtain ⟨x_38, e_39, h⟩ := lx_s h
      refine go_iald (kd := 100) (by decide +kernel) rfl R_27 f_33 f1 (fx_k (c := 100) R_27 (by decide +kernel)) (fx_x (a := 83) (ln := 30) R_27 (by decide +kernel) g_36) fun v_34 f_35 => ?_
      have f_37 := q_is_eq f_35 e_39
      refine go_if (c := .ne) (o := 14) (t := 63) (P := ¬ (x_38 = 0)) (by decide +kernel) (by decide +kernel) f_37 (Iff.rfl) (fun hp_40 => ?_) (fun hp_40 => ?_)
      · have h := it_f hp_40 h
        refine go_iconst (n := 3) (z := 3) (by decide +kernel) (by decide) fun v_41 f_42 => ?_
        refine go_goto (o := 4) (t := 68) (by decide +kernel) (by decide +kernel) ?_
        exact oj_X12_update_68 hd R_27 l_16 f0 l_17 f1 l_18 f2 l_19 f3 f_42 f0 hQ h
      · have h := it_n hp_40 h
        refine go_aload_n (n := 0) (by decide +kernel) l_16 f0 ?_
        refine go_getf (x := 61) (ci := 13) (kf := 19) (fin := 1) (t := 2) (by decide +kernel) (by decide +kernel) (by decide +kernel) R_27 f0 (fx_k (c := 13) R_27 (by decide +kernel)) fun v_120 f_121 => ?_
        have f_122 := q_is_eq (b := 86) f_121 (fx_v R_27 (by decide +kernel)).symm
        refine go_iload_n (n := 1) (by decide +kernel) l_17 f1 ?_
        obtain ⟨x_126, e_127, h⟩ := lx_s h
        refine go_iald (kd := 100) (by decide +kernel) rfl R_27 f_122 f1 (fx_k (c := 100) R_27 (by decide +kernel)) (fx_x (a := 86) (ln := 30) R_27 (by decide +kernel) g_36) fun v_123 f_124 => ?_
        have f_125 := q_is_eq f_124 e_127
        refine go_bipush (n := 100) (z := 100) (by decide +kernel) (by decide) fun v_128 f_129 => ?_
        refine go_icmp (c := .lt) (o := 7) (t := 67) (P := x_126 < 100) (by decide +kernel) (by decide +kernel) f_125 f_129 (Iff.rfl) (fun hp_130 => ?_) (fun hp_130 => ?_)
        · have h := it_t hp_130 h
          refine go_iconst (n := 0) (z := 0) (by decide +kernel) (by decide) fun v_131 f_132 => ?_
          exact oj_X12_update_68 hd R_27 l_16 f0 l_17 f1 l_18 f2 l_19 f3 f_132 f0 hQ h
        · have h := it_f hp_130 h
          refine go_iconst (n := 3) (z := 3) (by decide +kernel) (by decide) fun v_133 f_134 => ?_
          refine go_goto (o := 4) (t := 68) (by decide +kernel) (by decide +kernel) ?_
          exact oj_X12_update_68 hd R_27 l_16 f0 l_17 f1 l_18 f2 l_19 f3 f_134 f0 hQ h
    · have h := it_n hp_30 h
      refine go_iconst (n := 2) (z := 2) (by decide +kernel) (by decide) fun v_135 f_136 => ?_
      refine go_goto (o := 28) (t := 68) (by decide +kernel) (by decide +kernel) ?_
      exact oj_X12_update_68 hd R_27 l_16 f0 l_17 f1 l_18 f2 l_19 f3 f_136 f0 hQ h
  · have h := it_n hp_20 h
    refine go_iconst (n := 1) (z := 1) (by decide +kernel) (by decide) fun v_137 f_138 => ?_
    refine go_goto (o := 39) (t := 68) (by decide +kernel) (by decide +kernel) ?_
    exact oj_X12_update_68 hd R l_16 f0 l_17 f1 l_18 f2 l_19 f3 f_138 f0 hQ h
noncomputable def fm_X12_update (p1 p2 p3 : Int) (m0 : MM) : Option (Int × MM) := bp (fm_X12_isRun p1 m0) fun x_2 =>
if x_2 = 0 then
fj_X12_update_20 p1 p2 p3 0 m0
else
bp (fm_X12_isName p2 m0) fun x_140 =>
if x_140 = 0 then
fj_X12_update_20 p1 p2 p3 0 m0
else
fj_X12_update_20 p1 p2 p3 1 m0
set_option maxHeartbeats 4000000 in
theorem om_X12_update {xs : List Int32} {d : Nat} {S : QS} {m0 : MM} {p1 p2 p3 : Int} {v0 : Value} {v1 : Value} {v2 : Value} {v3 : Value} {rz : Int} {rm : MM}
  (hd : 16 ≤ d) (R : Rp S m0) (f0 : q_is 2 v0 68) (f1 : q_is 0 v1 p1) (f2 : q_is 0 v2 p2) (f3 : q_is 0 v3 p3)
  (h : fm_X12_update p1 p2 p3 m0 = some (rz, rm)) : Mt xs d 262 [v0, v1, v2, v3] S (Cr 0 m0 rm rz) := by
  obtain ⟨d, rfl⟩ : ∃ e, d = e + 1 := ⟨d - 1, by omega⟩
  have hd : 15 ≤ d := Nat.le_of_succ_le_succ hd
  refine Mt.of (M := qM_X12_update) rfl (by rw [sl_1 (q_is_cat f0 (Or.inr rfl)), sl_1 (q_is_cat f1 (Or.inl rfl)), sl_1 (q_is_cat f2 (Or.inl rfl)), sl_1 (q_is_cat f3 (Or.inl rfl)), sl_0]; decide) ?_
  rw [la_1 (q_is_cat f0 (Or.inr rfl)), la_1 (q_is_cat f1 (Or.inl rfl)), la_1 (q_is_cat f2 (Or.inl rfl)), la_1 (q_is_cat f3 (Or.inl rfl)), la_0]
  obtain ⟨L, hL⟩ : ∃ L : QL, L = [(0, v0), (0 + 1, v1), (0 + 1 + 1, v2), (0 + 1 + 1 + 1, v3)] := ⟨_, rfl⟩
  rw [← hL]
  have l0 : q_lo L 0 = some v0 := by rw [hL]; rfl
  have l1 : q_lo L 1 = some v1 := by rw [hL]; rfl
  have l2 : q_lo L 2 = some v2 := by rw [hL]; rfl
  have l3 : q_lo L 3 = some v3 := by rw [hL]; rfl
  have hQ : Ext m0 rm → ∀ o S1, Rp S1 rm → q_out 0 o rz → (Cr 0 m0 rm rz) o S1 := fun a o S1 b e => ⟨b, a, e⟩
  unfold fm_X12_update at h
  refine go_aload_n (n := 0) (by decide +kernel) l0 f0 ?_
  refine go_iload_n (n := 1) (by decide +kernel) l1 f1 ?_
  obtain ⟨x_2, hc_1, h⟩ := bp_s h
  refine go_callV (x := 580) (mi := 193) (n := 1) (ci := 13) (as := [v1]) (rest := []) (by decide +kernel) (by decide +kernel) rfl rfl (q_sum8 _ (Nat.le_of_ble_eq_true rfl)) R f0 (fx_k (c := 13) R (by decide +kernel)) (om_X12_isRun (Nat.le_trans (by decide) hd) R f0 f1 hc_1) (fun _ S_6 q_9 => ?_) (fun _ _ qq => kr_x qq)
  refine kr_z (by decide) q_9 fun v_4 f_5 R_7 E_8 => ?_
  refine go_if (c := .eq) (o := 14) (t := 19) (P := x_2 = 0) (by decide +kernel) (by decide +kernel) f_5 (Iff.rfl) (fun hp_10 => ?_) (fun hp_10 => ?_)
  · have h := it_t hp_10 h
    refine go_iconst (n := 0) (z := 0) (by decide +kernel) (by decide) fun v_11 f_12 => ?_
    exact oj_X12_update_20 hd R_7 l0 f0 l1 f1 l2 f2 l3 f3 f_12 hQ h
  · have h := it_f hp_10 h
    refine go_iload_n (n := 2) (by decide +kernel) l2 f2 ?_
    obtain ⟨x_140, hc_139, h⟩ := bp_s h
    refine go_callS (x := 583) (mi := 259) (n := 1) (b := 0) (as := [v2]) (rest := []) (by decide +kernel) (by decide +kernel) rfl rfl (q_sum8 _ (Nat.le_of_ble_eq_true rfl)) (om_X12_isName (Nat.le_trans (by decide) hd) R_7 f2 hc_139) (fun _ S_144 q_147 => ?_) (fun _ _ qq => kr_x qq)
    refine kr_z (by decide) q_147 fun v_142 f_143 R_145 E_146 => ?_
    refine go_if (c := .eq) (o := 7) (t := 19) (P := x_140 = 0) (by decide +kernel) (by decide +kernel) f_143 (Iff.rfl) (fun hp_148 => ?_) (fun hp_148 => ?_)
    · have h := it_t hp_148 h
      refine go_iconst (n := 0) (z := 0) (by decide +kernel) (by decide) fun v_149 f_150 => ?_
      exact oj_X12_update_20 hd R_145 l0 f0 l1 f1 l2 f2 l3 f3 f_150 hQ h
    · have h := it_f hp_148 h
      refine go_iconst (n := 1) (z := 1) (by decide +kernel) (by decide) fun v_151 f_152 => ?_
      refine go_goto (o := 4) (t := 20) (by decide +kernel) (by decide +kernel) ?_
      exact oj_X12_update_20 hd R_145 l0 f0 l1 f1 l2 f2 l3 f3 f_152 hQ h
noncomputable def fj_X12_cancel_28 (y1 s0 : Int) (m : MM) : Option (Int × MM) := bd (fm_X12_fails s0 m) fun x_29 m_30 =>
if x_29 = 0 then
bd (fm_X12_cancels y1 m_30) fun x_42 m_43 =>
gd (x_42 = 0 ∨ x_42 = 1) <| some (x_42, m_43)
else
some (0, m_30)
set_option maxHeartbeats 4000000 in
theorem oj_X12_cancel_28 {xs : List Int32} {d : Nat} {S : QS} {L : QL} {Q : QO → QS → Prop} {m : MM} {y1 s0 : Int} {v0 : Value} {v1 : Value} {w0 : Value} {w1 : Value}  {rz : Int} {rm : MM}
  (hd : 4 ≤ d) (R : Rp S m) (l0 : q_lo L 0 = some v0) (f0 : q_is 2 v0 68) (l1 : q_lo L 1 = some v1) (f1 : q_is 0 v1 y1) (fs0 : q_is 0 w0 s0) (fs1 : q_is 2 w1 68)
  (hQ : Ext m rm → ∀ o S1, Rp S1 rm → q_out 0 o rz → Q o S1)
  (h : fj_X12_cancel_28 y1 s0 m = some (rz, rm)) : Go xs d qM_X12_cancel 28 L [w0, w1] S Q := by
  unfold fj_X12_cancel_28 at h
  obtain ⟨x_29, m_30, hc_28, h⟩ := bd_s h
  refine go_callV (x := 324) (mi := 186) (n := 1) (ci := 13) (as := [w0]) (rest := []) (by decide +kernel) (by decide +kernel) rfl rfl (q_sum8 _ (Nat.le_of_ble_eq_true rfl)) R fs1 (fx_k (c := 13) R (by decide +kernel)) (om_X12_fails (Nat.le_trans (by decide) hd) R fs1 fs0 hc_28) (fun _ S_33 q_36 => ?_) (fun _ _ qq => kr_x qq)
  refine kr_z (by decide) q_36 fun v_31 f_32 R_34 E_35 => ?_
  have E_39 := E_35
  refine go_if (c := .eq) (o := 5) (t := 36) (P := x_29 = 0) (by decide +kernel) (by decide +kernel) f_32 (Iff.rfl) (fun hp_40 => ?_) (fun hp_40 => ?_)
  · have h := it_t hp_40 h
    refine go_aload_n (n := 0) (by decide +kernel) l0 f0 ?_
    refine go_iload_n (n := 1) (by decide +kernel) l1 f1 ?_
    obtain ⟨x_42, m_43, hc_41, h⟩ := bd_s h
    refine go_callV (x := 558) (mi := 214) (n := 1) (ci := 13) (as := [v1]) (rest := []) (by decide +kernel) (by decide +kernel) rfl rfl (q_sum8 _ (Nat.le_of_ble_eq_true rfl)) R_34 f0 (fx_k (c := 13) R_34 (by decide +kernel)) (om_X12_cancels (Nat.le_trans (by decide) hd) R_34 f0 f1 hc_41) (fun _ S_46 q_49 => ?_) (fun _ _ qq => kr_x qq)
    refine kr_z (by decide) q_49 fun v_44 f_45 R_47 E_48 => ?_
    have E_52 := Ext.tr E_39 E_48
    obtain ⟨g_53, h⟩ := gd_s h
    cases h
    exact go_iret (by decide +kernel) rfl (Or.inr ⟨rfl, g_53⟩) f_45 (hQ E_52 _ _ R_47 (q_out_v (by decide) f_45))
  · have h := it_f hp_40 h
    refine go_iconst (n := 0) (z := 0) (by decide +kernel) (by decide) fun v_54 f_55 => ?_
    cases h
    exact go_iret (by decide +kernel) rfl (Or.inr ⟨rfl, by decide⟩) f_55 (hQ E_39 _ _ R_34 (q_out_v (by decide) f_55))
noncomputable def fm_X12_cancel (p1 : Int) (m0 : MM) : Option (Int × MM) := bp (fm_X12_isRun p1 m0) fun x_2 =>
if x_2 = 0 then
fj_X12_cancel_28 p1 1 m0
else
bp (fm_X12_isAlive p1 m0) fun x_17 =>
if x_17 = 0 then
fj_X12_cancel_28 p1 2 m0
else
fj_X12_cancel_28 p1 0 m0
set_option maxHeartbeats 4000000 in
theorem om_X12_cancel {xs : List Int32} {d : Nat} {S : QS} {m0 : MM} {p1 : Int} {v0 : Value} {v1 : Value} {rz : Int} {rm : MM}
  (hd : 5 ≤ d) (R : Rp S m0) (f0 : q_is 2 v0 68) (f1 : q_is 0 v1 p1)
  (h : fm_X12_cancel p1 m0 = some (rz, rm)) : Mt xs d 263 [v0, v1] S (Cr 0 m0 rm rz) := by
  obtain ⟨d, rfl⟩ : ∃ e, d = e + 1 := ⟨d - 1, by omega⟩
  have hd : 4 ≤ d := Nat.le_of_succ_le_succ hd
  refine Mt.of (M := qM_X12_cancel) rfl (by rw [sl_1 (q_is_cat f0 (Or.inr rfl)), sl_1 (q_is_cat f1 (Or.inl rfl)), sl_0]; decide) ?_
  rw [la_1 (q_is_cat f0 (Or.inr rfl)), la_1 (q_is_cat f1 (Or.inl rfl)), la_0]
  obtain ⟨L, hL⟩ : ∃ L : QL, L = [(0, v0), (0 + 1, v1)] := ⟨_, rfl⟩
  rw [← hL]
  have l0 : q_lo L 0 = some v0 := by rw [hL]; rfl
  have l1 : q_lo L 1 = some v1 := by rw [hL]; rfl
  have hQ : Ext m0 rm → ∀ o S1, Rp S1 rm → q_out 0 o rz → (Cr 0 m0 rm rz) o S1 := fun a o S1 b e => ⟨b, a, e⟩
  unfold fm_X12_cancel at h
  refine go_aload_n (n := 0) (by decide +kernel) l0 f0 ?_
  refine go_iload_n (n := 1) (by decide +kernel) l1 f1 ?_
  obtain ⟨x_2, hc_1, h⟩ := bp_s h
  refine go_callV (x := 580) (mi := 193) (n := 1) (ci := 13) (as := [v1]) (rest := []) (by decide +kernel) (by decide +kernel) rfl rfl (q_sum8 _ (Nat.le_of_ble_eq_true rfl)) R f0 (fx_k (c := 13) R (by decide +kernel)) (om_X12_isRun (Nat.le_trans (by decide) hd) R f0 f1 hc_1) (fun _ S_6 q_9 => ?_) (fun _ _ qq => kr_x qq)
  refine kr_z (by decide) q_9 fun v_4 f_5 R_7 E_8 => ?_
  refine go_istore_n (n := 2) (by decide +kernel) (by decide +kernel) f_5 fun L_10 l_11 kp_12 => ?_
  have l_13 := kp_12 0 _ l0 (by decide) (Or.inl (by decide))
  have l_14 := kp_12 1 _ l1 (by decide) (Or.inr (q_is_cat f1 (Or.inl rfl)))
  refine go_aload_n (n := 0) (by decide +kernel) l_13 f0 ?_
  refine go_iload_n (n := 2) (by decide +kernel) l_11 f_5 ?_
  refine go_if (c := .ne) (o := 7) (t := 15) (P := ¬ (x_2 = 0)) (by decide +kernel) (by decide +kernel) f_5 (Iff.rfl) (fun hp_15 => ?_) (fun hp_15 => ?_)
  · have h := it_f hp_15 h
    refine go_aload_n (n := 0) (by decide +kernel) l_13 f0 ?_
    refine go_iload_n (n := 1) (by decide +kernel) l_14 f1 ?_
    obtain ⟨x_17, hc_16, h⟩ := bp_s h
    refine go_callV (x := 561) (mi := 213) (n := 1) (ci := 13) (as := [v1]) (rest := [v0]) (by decide +kernel) (by decide +kernel) rfl rfl (q_sum8 _ (Nat.le_of_ble_eq_true rfl)) R_7 f0 (fx_k (c := 13) R_7 (by decide +kernel)) (om_X12_isAlive (Nat.le_trans (by decide) hd) R_7 f0 f1 hc_16) (fun _ S_21 q_24 => ?_) (fun _ _ qq => kr_x qq)
    refine kr_z (by decide) q_24 fun v_19 f_20 R_22 E_23 => ?_
    refine go_if (c := .eq) (o := 7) (t := 27) (P := x_17 = 0) (by decide +kernel) (by decide +kernel) f_20 (Iff.rfl) (fun hp_25 => ?_) (fun hp_25 => ?_)
    · have h := it_t hp_25 h
      refine go_iconst (n := 2) (z := 2) (by decide +kernel) (by decide) fun v_26 f_27 => ?_
      exact oj_X12_cancel_28 hd R_22 l_13 f0 l_14 f1 f_27 f0 hQ h
    · have h := it_f hp_25 h
      refine go_iconst (n := 0) (z := 0) (by decide +kernel) (by decide) fun v_56 f_57 => ?_
      refine go_goto (o := 4) (t := 28) (by decide +kernel) (by decide +kernel) ?_
      exact oj_X12_cancel_28 hd R_22 l_13 f0 l_14 f1 f_57 f0 hQ h
  · have h := it_n hp_15 h
    refine go_iconst (n := 1) (z := 1) (by decide +kernel) (by decide) fun v_58 f_59 => ?_
    refine go_goto (o := 16) (t := 28) (by decide +kernel) (by decide +kernel) ?_
    exact oj_X12_cancel_28 hd R_7 l_13 f0 l_14 f1 f_59 f0 hQ h
noncomputable def fj_X12_asks_67 (y2 s0 : Int) (m : MM) : Option (Int × MM) := bd (fm_X12_fails s0 m) fun x_33 m_34 =>
if x_33 = 0 then
gd (0 ≤ y2 ∧ y2 < 6) <| lx (m_34 142 y2) fun x_52 =>
some (x_52, m_34)
else
some (0, m_34)
set_option maxHeartbeats 4000000 in
theorem oj_X12_asks_67 {xs : List Int32} {d : Nat} {S : QS} {L : QL} {Q : QO → QS → Prop} {m : MM} {y2 s0 : Int} {v0 : Value} {v2 : Value} {w0 : Value} {w1 : Value}  {rz : Int} {rm : MM}
  (hd : 15 ≤ d) (R : Rp S m) (l0 : q_lo L 0 = some v0) (f0 : q_is 2 v0 68) (l2 : q_lo L 2 = some v2) (f2 : q_is 0 v2 y2) (fs0 : q_is 0 w0 s0) (fs1 : q_is 2 w1 68)
  (hQ : Ext m rm → ∀ o S1, Rp S1 rm → q_out 0 o rz → Q o S1)
  (h : fj_X12_asks_67 y2 s0 m = some (rz, rm)) : Go xs d qM_X12_asks 67 L [w0, w1] S Q := by
  unfold fj_X12_asks_67 at h
  obtain ⟨x_33, m_34, hc_32, h⟩ := bd_s h
  refine go_callV (x := 324) (mi := 186) (n := 1) (ci := 13) (as := [w0]) (rest := []) (by decide +kernel) (by decide +kernel) rfl rfl (q_sum8 _ (Nat.le_of_ble_eq_true rfl)) R fs1 (fx_k (c := 13) R (by decide +kernel)) (om_X12_fails (Nat.le_trans (by decide) hd) R fs1 fs0 hc_32) (fun _ S_37 q_40 => ?_) (fun _ _ qq => kr_x qq)
  refine kr_z (by decide) q_40 fun v_35 f_36 R_38 E_39 => ?_
  have E_43 := E_39
  refine go_if (c := .eq) (o := 7) (t := 77) (P := x_33 = 0) (by decide +kernel) (by decide +kernel) f_36 (Iff.rfl) (fun hp_44 => ?_) (fun hp_44 => ?_)
  · have h := it_t hp_44 h
    refine go_aload_n (n := 0) (by decide +kernel) l0 f0 ?_
    refine go_getf (x := 241) (ci := 13) (kf := 90) (fin := 1) (t := 2) (by decide +kernel) (by decide +kernel) (by decide +kernel) R_38 f0 (fx_k (c := 13) R_38 (by decide +kernel)) fun v_45 f_46 => ?_
    have f_47 := q_is_eq (b := 142) f_46 (fx_v R_38 (by decide +kernel)).symm
    refine go_iload_n (n := 2) (by decide +kernel) l2 f2 ?_
    obtain ⟨g_50, h⟩ := gd_s h
    obtain ⟨x_52, e_53, h⟩ := lx_s h
    refine go_iald (kd := 100) (by decide +kernel) rfl R_38 f_47 f2 (fx_k (c := 100) R_38 (by decide +kernel)) (fx_x (a := 142) (ln := 6) R_38 (by decide +kernel) g_50) fun v_48 f_49 => ?_
    have f_51 := q_is_eq f_49 e_53
    cases h
    exact go_iret (by decide +kernel) rfl (Or.inl rfl) f_51 (hQ E_43 _ _ R_38 (q_out_v (by decide) f_51))
  · have h := it_f hp_44 h
    refine go_iconst (n := 0) (z := 0) (by decide +kernel) (by decide) fun v_54 f_55 => ?_
    refine go_goto (o := 9) (t := 83) (by decide +kernel) (by decide +kernel) ?_
    cases h
    exact go_iret (by decide +kernel) rfl (Or.inl rfl) f_55 (hQ E_43 _ _ R_38 (q_out_v (by decide) f_55))
noncomputable def fj_X12_asks_46 (y2 y3 s0 : Int) (m : MM) : Option (Int × MM) := if y3 = 0 then
fj_X12_asks_67 y2 1 m
else
if s0 = 0 then
fj_X12_asks_67 y2 2 m
else
fj_X12_asks_67 y2 0 m
set_option maxHeartbeats 4000000 in
theorem oj_X12_asks_46 {xs : List Int32} {d : Nat} {S : QS} {L : QL} {Q : QO → QS → Prop} {m : MM} {y2 y3 s0 : Int} {v0 : Value} {v2 : Value} {v3 : Value} {w0 : Value}  {rz : Int} {rm : MM}
  (hd : 15 ≤ d) (R : Rp S m) (l0 : q_lo L 0 = some v0) (f0 : q_is 2 v0 68) (l2 : q_lo L 2 = some v2) (f2 : q_is 0 v2 y2) (l3 : q_lo L 3 = some v3) (f3 : q_is 0 v3 y3) (fs0 : q_is 0 w0 s0)
  (hQ : Ext m rm → ∀ o S1, Rp S1 rm → q_out 0 o rz → Q o S1)
  (h : fj_X12_asks_46 y2 y3 s0 m = some (rz, rm)) : Go xs d qM_X12_asks 46 L [w0] S Q := by
  unfold fj_X12_asks_46 at h
  refine go_istore (n := 4) (by decide +kernel) (by decide +kernel) fs0 fun L_22 l_23 kp_24 => ?_
  have l_25 := kp_24 0 _ l0 (by decide) (Or.inl (by decide))
  have l_26 := kp_24 2 _ l2 (by decide) (Or.inl (by decide))
  have l_27 := kp_24 3 _ l3 (by decide) (Or.inr (q_is_cat f3 (Or.inl rfl)))
  refine go_aload_n (n := 0) (by decide +kernel) l_25 f0 ?_
  refine go_iload_n (n := 3) (by decide +kernel) l_27 f3 ?_
  refine go_if (c := .ne) (o := 7) (t := 57) (P := ¬ (y3 = 0)) (by decide +kernel) (by decide +kernel) f3 (Iff.rfl) (fun hp_28 => ?_) (fun hp_28 => ?_)
  · have h := it_f hp_28 h
    refine go_iload (n := 4) (by decide +kernel) l_23 fs0 ?_
    refine go_if (c := .eq) (o := 7) (t := 66) (P := s0 = 0) (by decide +kernel) (by decide +kernel) fs0 (Iff.rfl) (fun hp_29 => ?_) (fun hp_29 => ?_)
    · have h := it_t hp_29 h
      refine go_iconst (n := 2) (z := 2) (by decide +kernel) (by decide) fun v_30 f_31 => ?_
      exact oj_X12_asks_67 hd R l_25 f0 l_26 f2 f_31 f0 hQ h
    · have h := it_f hp_29 h
      refine go_iconst (n := 0) (z := 0) (by decide +kernel) (by decide) fun v_56 f_57 => ?_
      refine go_goto (o := 4) (t := 67) (by decide +kernel) (by decide +kernel) ?_
      exact oj_X12_asks_67 hd R l_25 f0 l_26 f2 f_57 f0 hQ h
  · have h := it_n hp_28 h
    refine go_iconst (n := 1) (z := 1) (by decide +kernel) (by decide) fun v_58 f_59 => ?_
    refine go_goto (o := 13) (t := 67) (by decide +kernel) (by decide +kernel) ?_
    exact oj_X12_asks_67 hd R l_25 f0 l_26 f2 f_59 f0 hQ h
noncomputable def fj_X12_asks_22 (y1 y2 s0 : Int) (m : MM) : Option (Int × MM) := if s0 = 0 then
fj_X12_asks_46 y2 s0 0 m
else
gd (0 ≤ y1 ∧ y1 < 30) <| lx (m 82 y1) fun x_67 =>
bd (fm_X12_isSafe y1 x_67 m) fun x_70 m_71 =>
if x_70 = 0 then
fj_X12_asks_46 y2 s0 0 m_71
else
fj_X12_asks_46 y2 s0 1 m_71
set_option maxHeartbeats 4000000 in
theorem oj_X12_asks_22 {xs : List Int32} {d : Nat} {S : QS} {L : QL} {Q : QO → QS → Prop} {m : MM} {y1 y2 s0 : Int} {v0 : Value} {v1 : Value} {v2 : Value} {w0 : Value}  {rz : Int} {rm : MM}
  (hd : 15 ≤ d) (R : Rp S m) (l0 : q_lo L 0 = some v0) (f0 : q_is 2 v0 68) (l1 : q_lo L 1 = some v1) (f1 : q_is 0 v1 y1) (l2 : q_lo L 2 = some v2) (f2 : q_is 0 v2 y2) (fs0 : q_is 0 w0 s0)
  (hQ : Ext m rm → ∀ o S1, Rp S1 rm → q_out 0 o rz → Q o S1)
  (h : fj_X12_asks_22 y1 y2 s0 m = some (rz, rm)) : Go xs d qM_X12_asks 22 L [w0] S Q := by
  unfold fj_X12_asks_22 at h
  refine go_istore_n (n := 3) (by decide +kernel) (by decide +kernel) fs0 fun L_13 l_14 kp_15 => ?_
  have l_16 := kp_15 0 _ l0 (by decide) (Or.inl (by decide))
  have l_17 := kp_15 1 _ l1 (by decide) (Or.inl (by decide))
  have l_18 := kp_15 2 _ l2 (by decide) (Or.inr (q_is_cat f2 (Or.inl rfl)))
  refine go_iload_n (n := 3) (by decide +kernel) l_14 fs0 ?_
  refine go_if (c := .eq) (o := 21) (t := 45) (P := s0 = 0) (by decide +kernel) (by decide +kernel) fs0 (Iff.rfl) (fun hp_19 => ?_) (fun hp_19 => ?_)
  · have h := it_t hp_19 h
    refine go_iconst (n := 0) (z := 0) (by decide +kernel) (by decide) fun v_20 f_21 => ?_
    exact oj_X12_asks_46 hd R l_16 f0 l_18 f2 l_14 fs0 f_21 hQ h
  · have h := it_f hp_19 h
    refine go_aload_n (n := 0) (by decide +kernel) l_16 f0 ?_
    refine go_iload_n (n := 1) (by decide +kernel) l_17 f1 ?_
    refine go_aload_n (n := 0) (by decide +kernel) l_16 f0 ?_
    refine go_getf (x := 49) (ci := 13) (kf := 15) (fin := 1) (t := 2) (by decide +kernel) (by decide +kernel) (by decide +kernel) R f0 (fx_k (c := 13) R (by decide +kernel)) fun v_60 f_61 => ?_
    have f_62 := q_is_eq (b := 82) f_61 (fx_v R (by decide +kernel)).symm
    refine go_iload_n (n := 1) (by decide +kernel) l_17 f1 ?_
    obtain ⟨g_65, h⟩ := gd_s h
    obtain ⟨x_67, e_68, h⟩ := lx_s h
    refine go_iald (kd := 100) (by decide +kernel) rfl R f_62 f1 (fx_k (c := 100) R (by decide +kernel)) (fx_x (a := 82) (ln := 30) R (by decide +kernel) g_65) fun v_63 f_64 => ?_
    have f_66 := q_is_eq f_64 e_68
    obtain ⟨x_70, m_71, hc_69, h⟩ := bd_s h
    refine go_callV (x := 586) (mi := 250) (n := 2) (ci := 13) (as := [v1, v_63]) (rest := []) (by decide +kernel) (by decide +kernel) rfl rfl (q_sum8 _ (Nat.le_of_ble_eq_true rfl)) R f0 (fx_k (c := 13) R (by decide +kernel)) (om_X12_isSafe (Nat.le_trans (by decide) hd) R f0 f1 f_66 hc_69) (fun _ S_74 q_77 => ?_) (fun _ _ qq => kr_x qq)
    refine kr_z (by decide) q_77 fun v_72 f_73 R_75 E_76 => ?_
    have E_80 := E_76
    refine go_if (c := .eq) (o := 7) (t := 45) (P := x_70 = 0) (by decide +kernel) (by decide +kernel) f_73 (Iff.rfl) (fun hp_81 => ?_) (fun hp_81 => ?_)
    · have h := it_t hp_81 h
      refine go_iconst (n := 0) (z := 0) (by decide +kernel) (by decide) fun v_82 f_83 => ?_
      exact oj_X12_asks_46 hd R_75 l_16 f0 l_18 f2 l_14 fs0 f_83 (fun b => hQ (Ext.tr E_80 b)) h
    · have h := it_f hp_81 h
      refine go_iconst (n := 1) (z := 1) (by decide +kernel) (by decide) fun v_84 f_85 => ?_
      refine go_goto (o := 4) (t := 46) (by decide +kernel) (by decide +kernel) ?_
      exact oj_X12_asks_46 hd R_75 l_16 f0 l_18 f2 l_14 fs0 f_85 (fun b => hQ (Ext.tr E_80 b)) h
noncomputable def fm_X12_asks (p1 p2 : Int) (m0 : MM) : Option (Int × MM) := bp (fm_X12_isRun p1 m0) fun x_2 =>
if x_2 = 0 then
fj_X12_asks_22 p1 p2 0 m0
else
bp (fm_X12_isIn p2 0 5 m0) fun x_91 =>
if x_91 = 0 then
fj_X12_asks_22 p1 p2 0 m0
else
fj_X12_asks_22 p1 p2 1 m0
set_option maxHeartbeats 4000000 in
theorem om_X12_asks {xs : List Int32} {d : Nat} {S : QS} {m0 : MM} {p1 p2 : Int} {v0 : Value} {v1 : Value} {v2 : Value} {rz : Int} {rm : MM}
  (hd : 16 ≤ d) (R : Rp S m0) (f0 : q_is 2 v0 68) (f1 : q_is 0 v1 p1) (f2 : q_is 0 v2 p2)
  (h : fm_X12_asks p1 p2 m0 = some (rz, rm)) : Mt xs d 264 [v0, v1, v2] S (Cr 0 m0 rm rz) := by
  obtain ⟨d, rfl⟩ : ∃ e, d = e + 1 := ⟨d - 1, by omega⟩
  have hd : 15 ≤ d := Nat.le_of_succ_le_succ hd
  refine Mt.of (M := qM_X12_asks) rfl (by rw [sl_1 (q_is_cat f0 (Or.inr rfl)), sl_1 (q_is_cat f1 (Or.inl rfl)), sl_1 (q_is_cat f2 (Or.inl rfl)), sl_0]; decide) ?_
  rw [la_1 (q_is_cat f0 (Or.inr rfl)), la_1 (q_is_cat f1 (Or.inl rfl)), la_1 (q_is_cat f2 (Or.inl rfl)), la_0]
  obtain ⟨L, hL⟩ : ∃ L : QL, L = [(0, v0), (0 + 1, v1), (0 + 1 + 1, v2)] := ⟨_, rfl⟩
  rw [← hL]
  have l0 : q_lo L 0 = some v0 := by rw [hL]; rfl
  have l1 : q_lo L 1 = some v1 := by rw [hL]; rfl
  have l2 : q_lo L 2 = some v2 := by rw [hL]; rfl
  have hQ : Ext m0 rm → ∀ o S1, Rp S1 rm → q_out 0 o rz → (Cr 0 m0 rm rz) o S1 := fun a o S1 b e => ⟨b, a, e⟩
  unfold fm_X12_asks at h
  refine go_aload_n (n := 0) (by decide +kernel) l0 f0 ?_
  refine go_iload_n (n := 1) (by decide +kernel) l1 f1 ?_
  obtain ⟨x_2, hc_1, h⟩ := bp_s h
  refine go_callV (x := 580) (mi := 193) (n := 1) (ci := 13) (as := [v1]) (rest := []) (by decide +kernel) (by decide +kernel) rfl rfl (q_sum8 _ (Nat.le_of_ble_eq_true rfl)) R f0 (fx_k (c := 13) R (by decide +kernel)) (om_X12_isRun (Nat.le_trans (by decide) hd) R f0 f1 hc_1) (fun _ S_6 q_9 => ?_) (fun _ _ qq => kr_x qq)
  refine kr_z (by decide) q_9 fun v_4 f_5 R_7 E_8 => ?_
  refine go_if (c := .eq) (o := 16) (t := 21) (P := x_2 = 0) (by decide +kernel) (by decide +kernel) f_5 (Iff.rfl) (fun hp_10 => ?_) (fun hp_10 => ?_)
  · have h := it_t hp_10 h
    refine go_iconst (n := 0) (z := 0) (by decide +kernel) (by decide) fun v_11 f_12 => ?_
    exact oj_X12_asks_22 hd R_7 l0 f0 l1 f1 l2 f2 f_12 hQ h
  · have h := it_f hp_10 h
    refine go_iload_n (n := 2) (by decide +kernel) l2 f2 ?_
    refine go_iconst (n := 0) (z := 0) (by decide +kernel) (by decide) fun v_86 f_87 => ?_
    refine go_iconst (n := 5) (z := 5) (by decide +kernel) (by decide) fun v_88 f_89 => ?_
    obtain ⟨x_91, hc_90, h⟩ := bp_s h
    refine go_callS (x := 306) (mi := 188) (n := 3) (b := 0) (as := [v2, v_86, v_88]) (rest := []) (by decide +kernel) (by decide +kernel) rfl rfl (q_sum8 _ (Nat.le_of_ble_eq_true rfl)) (om_X12_isIn (Nat.le_trans (by decide) hd) R_7 f2 f_87 f_89 hc_90) (fun _ S_95 q_98 => ?_) (fun _ _ qq => kr_x qq)
    refine kr_z (by decide) q_98 fun v_93 f_94 R_96 E_97 => ?_
    refine go_if (c := .eq) (o := 7) (t := 21) (P := x_91 = 0) (by decide +kernel) (by decide +kernel) f_94 (Iff.rfl) (fun hp_99 => ?_) (fun hp_99 => ?_)
    · have h := it_t hp_99 h
      refine go_iconst (n := 0) (z := 0) (by decide +kernel) (by decide) fun v_100 f_101 => ?_
      exact oj_X12_asks_22 hd R_96 l0 f0 l1 f1 l2 f2 f_101 hQ h
    · have h := it_f hp_99 h
      refine go_iconst (n := 1) (z := 1) (by decide +kernel) (by decide) fun v_102 f_103 => ?_
      refine go_goto (o := 4) (t := 22) (by decide +kernel) (by decide +kernel) ?_
      exact oj_X12_asks_22 hd R_96 l0 f0 l1 f1 l2 f2 f_103 hQ h
end DF36
