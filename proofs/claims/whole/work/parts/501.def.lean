/-! Methods as functions (written by wip/whole/dec.py), 1: X2_orderOfArrival, X5_add, X2_put, J7_copyOf_c38d5, X5_cut, X2_countAgain. -/
section DF1
noncomputable def fm_X2_orderOfArrival (p0 p1 : Int) (m0 : MM) : Option Int := lx (m0 p0 0) fun x_4 =>
gd (okc m0 x_4 6) <| bp (fm_X5_wide x_4 p1 m0) fun x_8 =>
some (iAnd (w32 (lUshr x_8 10)) 1048575)
set_option maxHeartbeats 4000000 in
theorem om_X2_orderOfArrival {xs : List Int32} {d : Nat} {S : QS} {m0 : MM} {p0 p1 : Int} {v0 : Value} {v1 : Value} {rz : Int}
  (hd : 2 ≤ d) (R : Rp S m0) (g0 : okc m0 p0 3) (f0 : q_is 2 v0 p0) (f1 : q_is 0 v1 p1)
  (h : fm_X2_orderOfArrival p0 p1 m0 = some rz) : Mt xs d 14 [v0, v1] S (Cr 0 m0 m0 rz) := by
  obtain ⟨d, rfl⟩ : ∃ e, d = e + 1 := ⟨d - 1, by omega⟩
  have hd : 1 ≤ d := Nat.le_of_succ_le_succ hd
  refine Mt.of (M := qM_X2_orderOfArrival) rfl (by rw [sl_1 (q_is_cat f0 (Or.inr rfl)), sl_1 (q_is_cat f1 (Or.inl rfl)), sl_0]; decide) ?_
  rw [la_1 (q_is_cat f0 (Or.inr rfl)), la_1 (q_is_cat f1 (Or.inl rfl)), la_0]
  obtain ⟨L, hL⟩ : ∃ L : QL, L = [(0, v0), (0 + 1, v1)] := ⟨_, rfl⟩
  rw [← hL]
  have l0 : q_lo L 0 = some v0 := by rw [hL]; rfl
  have l1 : q_lo L 1 = some v1 := by rw [hL]; rfl
  have hQ : ∀ o S1, Rp S1 m0 → q_out 0 o rz → (Cr 0 m0 m0 rz) o S1 := fun o S1 a b => ⟨a, Ext.rf _, b⟩
  unfold fm_X2_orderOfArrival at h
  refine go_aload_n (n := 0) (by decide +kernel) l0 f0 ?_
  obtain ⟨x_4, e_5, h⟩ := lx_s h
  refine go_getf (x := 22) (ci := 3) (kf := 0) (fin := 1) (t := 2) (by decide +kernel) (by decide +kernel) (by decide +kernel) R f0 g0 fun v_1 f_2 => ?_
  have f_3 := q_is_eq f_2 e_5
  refine go_iload_n (n := 1) (by decide +kernel) l1 f1 ?_
  obtain ⟨g_6, h⟩ := gd_s h
  obtain ⟨x_8, hc_7, h⟩ := bp_s h
  refine go_callV (x := 26) (mi := 58) (n := 1) (ci := 6) (as := [v1]) (rest := []) (by decide +kernel) (by decide +kernel) rfl rfl (q_sum8 _ (Nat.le_of_ble_eq_true rfl)) R f_3 g_6 (om_X5_wide (Nat.le_trans (by decide) hd) R g_6 f_3 f1 hc_7) (fun _ S_12 q_15 => ?_) (fun _ _ qq => kr_x qq)
  refine kr_z (by decide) q_15 fun v_10 f_11 R_13 E_14 => ?_
  refine go_bipush (n := 10) (z := 10) (by decide +kernel) (by decide) fun v_16 f_17 => ?_
  refine go_lushr (by decide +kernel) f_11 f_17 fun v_18 f_19 => ?_
  refine go_l2i (by decide +kernel) f_19 fun v_20 f_21 => ?_
  refine go_ldc (x := 34) (n := 1048575) (a := 0) (b := 0) (z := 1048575) (by decide +kernel) (by decide +kernel) (by decide +kernel) fun v_22 f_23 => ?_
  refine go_iand (by decide +kernel) f_21 f_23 fun v_24 f_25 => ?_
  cases h
  exact go_iret (by decide +kernel) rfl (Or.inl rfl) f_25 (hQ _ _ R_13 (q_out_v (by decide) f_25))
noncomputable def fj_X5_add_112 (p0 y1 y3 y4 : Int) (m : MM) : Option (Int × MM) := lx (m p0 0) fun x_65 =>
gd (okc m x_65 108) <| gd (okx m x_65 y3) <| lx (m x_65 y3) fun x_72 =>
gd (okc m x_72 101) <| if y4 < w32 (m x_72 (-2)) then
gd (okx m x_72 y4) <| gd (163 ≤ x_72) <| up m x_72 y4 y1 fun m_86 =>
lx (m_86 p0 2) fun x_97 =>
up m_86 p0 2 (w32 (x_97 + 1)) fun m_103 =>
some (0, m_103)
else
some (0, m)
set_option maxHeartbeats 4000000 in
theorem oj_X5_add_112 {xs : List Int32} {d : Nat} {S : QS} {L : QL} {Q : QO → QS → Prop} {m : MM} {p0 y1 y3 y4 : Int} {v0 : Value} {v1 : Value} {v3 : Value} {v4 : Value}  {rz : Int} {rm : MM}
  (hd : 0 ≤ d) (R : Rp S m) (g0 : okc m p0 6) (l0 : q_lo L 0 = some v0) (f0 : q_is 2 v0 p0) (l1 : q_lo L 1 = some v1) (f1 : q_is 1 v1 y1) (l3 : q_lo L 3 = some v3) (f3 : q_is 0 v3 y3) (l4 : q_lo L 4 = some v4) (f4 : q_is 0 v4 y4)
  (hQ : Ext m rm → ∀ o S1, Rp S1 rm → q_out 9 o rz → Q o S1)
  (h : fj_X5_add_112 p0 y1 y3 y4 m = some (rz, rm)) : Go xs d qM_X5_add 112 L [] S Q := by
  unfold fj_X5_add_112 at h
  refine go_iload (n := 4) (by decide +kernel) l4 f4 ?_
  refine go_aload_n (n := 0) (by decide +kernel) l0 f0 ?_
  obtain ⟨x_65, e_66, h⟩ := lx_s h
  refine go_getf (x := 11) (ci := 6) (kf := 0) (fin := 0) (t := 2) (by decide +kernel) (by decide +kernel) (by decide +kernel) R f0 g0 fun v_62 f_63 => ?_
  have f_64 := q_is_eq f_63 e_66
  refine go_iload_n (n := 3) (by decide +kernel) l3 f3 ?_
  obtain ⟨g_69, h⟩ := gd_s h
  obtain ⟨g_70, h⟩ := gd_s h
  obtain ⟨x_72, e_73, h⟩ := lx_s h
  refine go_aald (kd := 108) (by decide +kernel) (by decide) R f_64 f3 g_69 g_70 fun v_67 f_68 => ?_
  have f_71 := q_is_eq f_68 e_73
  obtain ⟨g_76, h⟩ := gd_s h
  refine go_alen (by decide +kernel) R f_71 (okl_of g_76 (by decide)) fun v_74 f_75 => ?_
  refine go_icmp (c := .ge) (o := 23) (t := 144) (P := ¬ (y4 < w32 (m x_72 (-2)))) (by decide +kernel) (by decide +kernel) f4 f_75 (Int.not_lt.symm) (fun hp_77 => ?_) (fun hp_77 => ?_)
  · have h := it_f hp_77 h
    cases h
    exact go_vret (by decide +kernel) rfl (hQ (Ext.rf _) _ _ R q_out_n)
  · have h := it_n hp_77 h
    refine go_aload_n (n := 0) (by decide +kernel) l0 f0 ?_
    refine go_getf (x := 11) (ci := 6) (kf := 0) (fin := 0) (t := 2) (by decide +kernel) (by decide +kernel) (by decide +kernel) R f0 g0 fun v_78 f_79 => ?_
    have f_80 := q_is_eq f_79 e_66
    refine go_iload_n (n := 3) (by decide +kernel) l3 f3 ?_
    refine go_aald (kd := 108) (by decide +kernel) (by decide) R f_80 f3 g_69 g_70 fun v_81 f_82 => ?_
    have f_83 := q_is_eq f_82 e_73
    refine go_iload (n := 4) (by decide +kernel) l4 f4 ?_
    refine go_lload_n (n := 1) (by decide +kernel) l1 f1 ?_
    obtain ⟨g_84, h⟩ := gd_s h
    obtain ⟨g_85, h⟩ := gd_s h
    obtain ⟨m_86, e_87, h⟩ := up_s h
    refine go_last (kd := 101) (by decide +kernel) rfl R f_83 f4 f1 g_76 g_84 e_87 (fx_a R.2 g_76 (And.left g_84) (by decide +kernel)) fun S_88 R_89 E_90 => ?_
    have E_92 := E_90
    refine go_aload_n (n := 0) (by decide +kernel) l0 f0 ?_
    refine go_dup (by decide +kernel) f0 (Or.inr rfl) ?_
    have g_95 := Ext.ok E_90 g0
    obtain ⟨x_97, e_98, h⟩ := lx_s h
    refine go_getf (x := 19) (ci := 6) (kf := 2) (fin := 0) (t := 0) (by decide +kernel) (by decide +kernel) (by decide +kernel) R_89 f0 g_95 fun v_93 f_94 => ?_
    have f_96 := q_is_eq f_94 e_98
    refine go_iconst (n := 1) (z := 1) (by decide +kernel) (by decide) fun v_99 f_100 => ?_
    refine go_iadd (by decide +kernel) f_96 f_100 fun v_101 f_102 => ?_
    obtain ⟨m_103, e_104, h⟩ := up_s h
    refine go_putf (x := 19) (ci := 6) (kf := 2) (fin := 0) (zt := 0) (by decide +kernel) (by decide +kernel) (by decide) (by decide +kernel) (by decide) (Or.inl rfl) R_89 f0 f_102 (fun hq => absurd hq (by decide)) g_95 e_104 (fx_f (j := 2) R_89.2 g_95 (by decide +kernel)) fun S_105 R_106 E_107 => ?_
    have E_109 := Ext.tr E_92 E_107
    cases h
    exact go_vret (by decide +kernel) rfl (hQ E_109 _ _ R_106 q_out_n)
noncomputable def fj_X5_add_83 (p0 y1 y3 y4 : Int) (m : MM) : Option (Int × MM) := lx (m p0 0) fun x_46 =>
gd (okc m x_46 108) <| if y3 < w32 (m x_46 (-2)) then
gd (okx m x_46 y3) <| lx (m x_46 y3) fun x_59 =>
if x_59 = 0 then
nw m 101 64 fun x_115 m_116 =>
up m_116 x_46 y3 x_115 fun m_130 =>
fj_X5_add_112 p0 y1 y3 y4 m_130
else
fj_X5_add_112 p0 y1 y3 y4 m
else
some (0, m)
set_option maxHeartbeats 4000000 in
theorem oj_X5_add_83 {xs : List Int32} {d : Nat} {S : QS} {L : QL} {Q : QO → QS → Prop} {m : MM} {p0 y1 y3 y4 : Int} {v0 : Value} {v1 : Value} {v3 : Value} {v4 : Value}  {rz : Int} {rm : MM}
  (hd : 0 ≤ d) (R : Rp S m) (g0 : okc m p0 6) (l0 : q_lo L 0 = some v0) (f0 : q_is 2 v0 p0) (l1 : q_lo L 1 = some v1) (f1 : q_is 1 v1 y1) (l3 : q_lo L 3 = some v3) (f3 : q_is 0 v3 y3) (l4 : q_lo L 4 = some v4) (f4 : q_is 0 v4 y4)
  (hQ : Ext m rm → ∀ o S1, Rp S1 rm → q_out 9 o rz → Q o S1)
  (h : fj_X5_add_83 p0 y1 y3 y4 m = some (rz, rm)) : Go xs d qM_X5_add 83 L [] S Q := by
  unfold fj_X5_add_83 at h
  refine go_iload_n (n := 3) (by decide +kernel) l3 f3 ?_
  refine go_aload_n (n := 0) (by decide +kernel) l0 f0 ?_
  obtain ⟨x_46, e_47, h⟩ := lx_s h
  refine go_getf (x := 11) (ci := 6) (kf := 0) (fin := 0) (t := 2) (by decide +kernel) (by decide +kernel) (by decide +kernel) R f0 g0 fun v_43 f_44 => ?_
  have f_45 := q_is_eq f_44 e_47
  obtain ⟨g_50, h⟩ := gd_s h
  refine go_alen (by decide +kernel) R f_45 (okl_of g_50 (by decide)) fun v_48 f_49 => ?_
  refine go_icmp (c := .lt) (o := 4) (t := 93) (P := y3 < w32 (m x_46 (-2))) (by decide +kernel) (by decide +kernel) f3 f_49 (Iff.rfl) (fun hp_51 => ?_) (fun hp_51 => ?_)
  · have h := it_t hp_51 h
    refine go_aload_n (n := 0) (by decide +kernel) l0 f0 ?_
    refine go_getf (x := 11) (ci := 6) (kf := 0) (fin := 0) (t := 2) (by decide +kernel) (by decide +kernel) (by decide +kernel) R f0 g0 fun v_52 f_53 => ?_
    have f_54 := q_is_eq f_53 e_47
    refine go_iload_n (n := 3) (by decide +kernel) l3 f3 ?_
    obtain ⟨g_57, h⟩ := gd_s h
    obtain ⟨x_59, e_60, h⟩ := lx_s h
    refine go_aald (kd := 108) (by decide +kernel) (by decide) R f_54 f3 g_50 g_57 fun v_55 f_56 => ?_
    have f_58 := q_is_eq f_56 e_60
    refine go_ifnonnull (o := 13) (t := 112) (by decide +kernel) (by decide +kernel) f_58 (fun hp_61 => ?_) (fun hp_61 => ?_)
    · have h := it_f hp_61 h
      exact oj_X5_add_112 hd R g0 l0 f0 l1 f1 l3 f3 l4 f4 hQ h
    · have h := it_n hp_61 h
      refine go_aload_n (n := 0) (by decide +kernel) l0 f0 ?_
      refine go_getf (x := 11) (ci := 6) (kf := 0) (fin := 0) (t := 2) (by decide +kernel) (by decide +kernel) (by decide +kernel) R f0 g0 fun v_110 f_111 => ?_
      have f_112 := q_is_eq f_111 e_47
      refine go_iload_n (n := 3) (by decide +kernel) l3 f3 ?_
      refine go_bipush (n := 64) (z := 64) (by decide +kernel) (by decide) fun v_113 f_114 => ?_
      obtain ⟨x_115, m_116, e_117, e_118, h⟩ := nw_s h
      have g_124 := okc_nw (c := 101) R e_117 e_118
      refine go_newa (t := .long) (kd := 101) (by decide +kernel) (by decide) f_114 (by decide) R e_117 e_118 fun v_119 S_121 f_120 R_122 E_123 => ?_
      have E_127 := E_123
      have g_128 := Ext.ok E_123 g_50
      have g_129 := Ext.okx E_123 g_50 g_57
      obtain ⟨m_130, e_131, h⟩ := up_s h
      refine go_aast (kd := 108) (vk := 101) (by decide +kernel) (by decide) R_122 f_112 f3 f_120 g_128 g_129 (Or.inr g_124) e_131 (fx_a R_122.2 g_128 (And.left g_129) (by decide +kernel)) fun S_132 R_133 E_134 => ?_
      have E_136 := Ext.tr E_127 E_134
      have g_137 := Ext.ok (Ext.tr E_123 E_134) g0
      exact oj_X5_add_112 hd R_133 g_137 l0 f0 l1 f1 l3 f3 l4 f4 (fun b => hQ (Ext.tr E_136 b)) h
  · have h := it_f hp_51 h
    cases h
    exact go_vret (by decide +kernel) rfl (hQ (Ext.rf _) _ _ R q_out_n)
noncomputable def fl_X5_add_41 (p0 y1 y3 y4 y5 : Int) (k77 : MM → Option (Int × MM)) : Nat → Int → MM → Option (Int × MM)
  | 0, _, _ => none
  | n + 1, y6, m => lx (m p0 0) fun x_181 =>
gd (okc m x_181 108) <| if y6 < w32 (m x_181 (-2)) then
gd (okc m y5 108) <| if y6 < w32 (m y5 (-2)) then
gd (okx m x_181 y6) <| lx (m x_181 y6) fun x_198 =>
gd (okx m y5 y6) <| gd (x_198 = 0 ∨ okc m x_198 101) <| up m y5 y6 x_198 fun m_201 =>
lx (w32 (y6 + 1)) fun x_214 =>
fl_X5_add_41 p0 y1 y3 y4 y5 k77 n x_214 m_201
else
k77 m
else
k77 m
set_option maxHeartbeats 4000000 in
theorem ol_X5_add_41 {xs : List Int32} {d : Nat} {Q : QO → QS → Prop} {mb : MM} {p0 y1 y3 y4 y5 : Int} {k77 : MM → Option (Int × MM)} {rz : Int} {rm : MM}
  (hd : 0 ≤ d) (gb : okc mb p0 6)
  (hk77 : ∀ mq : MM, Ext mb mq → ∀ {Sq : QS} {Lq : QL} {u0 : Value} {u1 : Value} {u3 : Value} {u4 : Value} {u5 : Value}, k77 mq = some (rz, rm) → Rp Sq mq → q_lo Lq 0 = some u0 → q_is 2 u0 p0 → q_lo Lq 1 = some u1 → q_is 1 u1 y1 → q_lo Lq 3 = some u3 → q_is 0 u3 y3 → q_lo Lq 4 = some u4 → q_is 0 u4 y4 → q_lo Lq 5 = some u5 → q_is 2 u5 y5 → Go xs d qM_X5_add 77 Lq [] Sq Q)
  (hQ : Ext mb rm → ∀ o S1, Rp S1 rm → q_out 9 o rz → Q o S1) :
  ∀ (n : Nat) {m : MM} {S : QS} {L : QL} {y6 : Int} {v0 : Value} {v1 : Value} {v3 : Value} {v4 : Value} {v5 : Value} {v6 : Value} , Ext mb m → fl_X5_add_41 p0 y1 y3 y4 y5 k77 n y6 m = some (rz, rm) → Rp S m → q_lo L 0 = some v0 → q_is 2 v0 p0 → q_lo L 1 = some v1 → q_is 1 v1 y1 → q_lo L 3 = some v3 → q_is 0 v3 y3 → q_lo L 4 = some v4 → q_is 0 v4 y4 → q_lo L 5 = some v5 → q_is 2 v5 y5 → q_lo L 6 = some v6 → q_is 0 v6 y6 → Go xs d qM_X5_add 41 L [] S Q := by
  intro n
  induction n with
  | zero => intro m S L y6 v0 v1 v3 v4 v5 v6; intro E h R l0 f0 l1 f1 l3 f3 l4 f4 l5 f5 l6 f6; cases h
  | succ n ih0 =>
    intro m S L y6 v0 v1 v3 v4 v5 v6; intro E h R l0 f0 l1 f1 l3 f3 l4 f4 l5 f5 l6 f6
    have ih : ∀ mq : MM, Ext mb mq → ∀ {z6 : Int} {Sq : QS} {Lq : QL} {u0 : Value} {u1 : Value} {u3 : Value} {u4 : Value} {u5 : Value} {u6 : Value}, fl_X5_add_41 p0 y1 y3 y4 y5 k77 n z6 mq = some (rz, rm) → Rp Sq mq → q_lo Lq 0 = some u0 → q_is 2 u0 p0 → q_lo Lq 1 = some u1 → q_is 1 u1 y1 → q_lo Lq 3 = some u3 → q_is 0 u3 y3 → q_lo Lq 4 = some u4 → q_is 0 u4 y4 → q_lo Lq 5 = some u5 → q_is 2 u5 y5 → q_lo Lq 6 = some u6 → q_is 0 u6 z6 → Go xs d qM_X5_add 41 Lq [] Sq Q := fun mq b => by intros; exact ih0 b ‹_› ‹_› ‹_› ‹_› ‹_› ‹_› ‹_› ‹_› ‹_› ‹_› ‹_› ‹_› ‹_› ‹_›
    have g0 := Ext.ok E gb
    unfold fl_X5_add_41 at h
    refine go_iload (n := 6) (by decide +kernel) l6 f6 ?_
    refine go_aload_n (n := 0) (by decide +kernel) l0 f0 ?_
    obtain ⟨x_181, e_182, h⟩ := lx_s h
    refine go_getf (x := 11) (ci := 6) (kf := 0) (fin := 0) (t := 2) (by decide +kernel) (by decide +kernel) (by decide +kernel) R f0 g0 fun v_178 f_179 => ?_
    have f_180 := q_is_eq f_179 e_182
    obtain ⟨g_185, h⟩ := gd_s h
    refine go_alen (by decide +kernel) R f_180 (okl_of g_185 (by decide)) fun v_183 f_184 => ?_
    refine go_icmp (c := .ge) (o := 29) (t := 77) (P := ¬ (y6 < w32 (m x_181 (-2)))) (by decide +kernel) (by decide +kernel) f6 f_184 (Int.not_lt.symm) (fun hp_186 => ?_) (fun hp_186 => ?_)
    · have h := it_f hp_186 h
      exact hk77 m E h R l0 f0 l1 f1 l3 f3 l4 f4 l5 f5
    · have h := it_n hp_186 h
      refine go_iload (n := 6) (by decide +kernel) l6 f6 ?_
      refine go_aload (n := 5) (by decide +kernel) l5 f5 ?_
      obtain ⟨g_189, h⟩ := gd_s h
      refine go_alen (by decide +kernel) R f5 (okl_of g_189 (by decide)) fun v_187 f_188 => ?_
      refine go_icmp (c := .ge) (o := 21) (t := 77) (P := ¬ (y6 < w32 (m y5 (-2)))) (by decide +kernel) (by decide +kernel) f6 f_188 (Int.not_lt.symm) (fun hp_190 => ?_) (fun hp_190 => ?_)
      · have h := it_f hp_190 h
        exact hk77 m E h R l0 f0 l1 f1 l3 f3 l4 f4 l5 f5
      · have h := it_n hp_190 h
        refine go_aload (n := 5) (by decide +kernel) l5 f5 ?_
        refine go_iload (n := 6) (by decide +kernel) l6 f6 ?_
        refine go_aload_n (n := 0) (by decide +kernel) l0 f0 ?_
        refine go_getf (x := 11) (ci := 6) (kf := 0) (fin := 0) (t := 2) (by decide +kernel) (by decide +kernel) (by decide +kernel) R f0 g0 fun v_191 f_192 => ?_
        have f_193 := q_is_eq f_192 e_182
        refine go_iload (n := 6) (by decide +kernel) l6 f6 ?_
        obtain ⟨g_196, h⟩ := gd_s h
        obtain ⟨x_198, e_199, h⟩ := lx_s h
        refine go_aald (kd := 108) (by decide +kernel) (by decide) R f_193 f6 g_185 g_196 fun v_194 f_195 => ?_
        have f_197 := q_is_eq f_195 e_199
        obtain ⟨g_200, h⟩ := gd_s h
        obtain ⟨g_206, h⟩ := gd_s h
        obtain ⟨m_201, e_202, h⟩ := up_s h
        refine go_aast (kd := 108) (vk := 101) (by decide +kernel) (by decide) R f5 f6 f_197 g_189 g_200 g_206 e_202 (fx_a R.2 g_189 (And.left g_200) (by decide +kernel)) fun S_203 R_204 E_205 => ?_
        have E_208 := Ext.tr E E_205
        refine go_iinc (n := 6) (c := 1) (c' := 1) (by decide +kernel) (by decide +kernel) l6 f6 (by decide) fun L_209 v_210 f_211 l_212 kp_213 => ?_
        obtain ⟨x_214, e_215, h⟩ := lx_s h
        have f_216 := q_is_eq f_211 e_215
        have l_217 := kp_213 0 _ l0 (by decide) (Or.inl (by decide))
        have l_218 := kp_213 1 _ l1 (by decide) (Or.inl (by decide))
        have l_219 := kp_213 3 _ l3 (by decide) (Or.inl (by decide))
        have l_220 := kp_213 4 _ l4 (by decide) (Or.inl (by decide))
        have l_221 := kp_213 5 _ l5 (by decide) (Or.inr (q_is_cat f5 (Or.inr rfl)))
        refine go_goto (o := (-33)) (t := 41) (by decide +kernel) (by decide +kernel) ?_
        exact ih m_201 E_208 h R_204 l_217 f0 l_218 f1 l_219 f3 l_220 f4 l_221 f5 l_212 f_216
noncomputable def fm_X5_add (p0 p1 : Int) (m0 : MM) : Option (Int × MM) := lx (m0 p0 2) fun x_4 =>
lx (iShr x_4 6) fun x_10 =>
lx (iAnd x_4 63) fun x_25 =>
lx (m0 p0 0) fun x_37 =>
gd (okc m0 x_37 108) <| if x_10 < w32 (m0 x_37 (-2)) then
fj_X5_add_83 p0 p1 x_10 x_25 m0
else
gd (0 ≤ w32 (2 * (w32 (m0 x_37 (-2)))) ∧ w32 (2 * (w32 (m0 x_37 (-2)))) < 60000000) <| nw m0 108 (w32 (2 * (w32 (m0 x_37 (-2))))) fun x_148 m_149 =>
fl_X5_add_41 p0 p1 x_10 x_25 x_148 (fun m_240 =>
up m_240 p0 0 x_148 fun m_246 =>
fj_X5_add_83 p0 p1 x_10 x_25 m_246) BIG 0 m_149
set_option maxHeartbeats 4000000 in
theorem om_X5_add {xs : List Int32} {d : Nat} {S : QS} {m0 : MM} {p0 p1 : Int} {v0 : Value} {v1 : Value} {rz : Int} {rm : MM}
  (hd : 1 ≤ d) (R : Rp S m0) (g0 : okc m0 p0 6) (f0 : q_is 2 v0 p0) (f1 : q_is 1 v1 p1)
  (h : fm_X5_add p0 p1 m0 = some (rz, rm)) : Mt xs d 60 [v0, v1] S (Cr 9 m0 rm rz) := by
  obtain ⟨d, rfl⟩ : ∃ e, d = e + 1 := ⟨d - 1, by omega⟩
  have hd : 0 ≤ d := Nat.le_of_succ_le_succ hd
  refine Mt.of (M := qM_X5_add) rfl (by rw [sl_1 (q_is_cat f0 (Or.inr rfl)), sl_2 (q_is_cat2 f1), sl_0]; decide) ?_
  rw [la_1 (q_is_cat f0 (Or.inr rfl)), la_2 (q_is_cat2 f1), la_0]
  obtain ⟨L, hL⟩ : ∃ L : QL, L = [(0, v0), (0 + 1, v1)] := ⟨_, rfl⟩
  rw [← hL]
  have l0 : q_lo L 0 = some v0 := by rw [hL]; rfl
  have l1 : q_lo L 1 = some v1 := by rw [hL]; rfl
  have hQ : Ext m0 rm → ∀ o S1, Rp S1 rm → q_out 9 o rz → (Cr 9 m0 rm rz) o S1 := fun a o S1 b e => ⟨b, a, e⟩
  unfold fm_X5_add at h
  refine go_aload_n (n := 0) (by decide +kernel) l0 f0 ?_
  obtain ⟨x_4, e_5, h⟩ := lx_s h
  refine go_getf (x := 19) (ci := 6) (kf := 2) (fin := 0) (t := 0) (by decide +kernel) (by decide +kernel) (by decide +kernel) R f0 g0 fun v_1 f_2 => ?_
  have f_3 := q_is_eq f_2 e_5
  refine go_bipush (n := 6) (z := 6) (by decide +kernel) (by decide) fun v_6 f_7 => ?_
  refine go_ishr (by decide +kernel) f_3 f_7 fun v_8 f_9 => ?_
  obtain ⟨x_10, e_11, h⟩ := lx_s h
  have f_12 := q_is_eq f_9 e_11
  refine go_istore_n (n := 3) (by decide +kernel) (by decide +kernel) f_12 fun L_13 l_14 kp_15 => ?_
  have l_16 := kp_15 0 _ l0 (by decide) (Or.inl (by decide))
  have l_17 := kp_15 1 _ l1 (by decide) (Or.inl (by decide))
  refine go_aload_n (n := 0) (by decide +kernel) l_16 f0 ?_
  refine go_getf (x := 19) (ci := 6) (kf := 2) (fin := 0) (t := 0) (by decide +kernel) (by decide +kernel) (by decide +kernel) R f0 g0 fun v_18 f_19 => ?_
  have f_20 := q_is_eq f_19 e_5
  refine go_bipush (n := 63) (z := 63) (by decide +kernel) (by decide) fun v_21 f_22 => ?_
  refine go_iand (by decide +kernel) f_20 f_22 fun v_23 f_24 => ?_
  obtain ⟨x_25, e_26, h⟩ := lx_s h
  have f_27 := q_is_eq f_24 e_26
  refine go_istore (n := 4) (by decide +kernel) (by decide +kernel) f_27 fun L_28 l_29 kp_30 => ?_
  have l_31 := kp_30 0 _ l_16 (by decide) (Or.inl (by decide))
  have l_32 := kp_30 1 _ l_17 (by decide) (Or.inl (by decide))
  have l_33 := kp_30 3 _ l_14 (by decide) (Or.inr (q_is_cat f_12 (Or.inl rfl)))
  refine go_iload_n (n := 3) (by decide +kernel) l_33 f_12 ?_
  refine go_aload_n (n := 0) (by decide +kernel) l_31 f0 ?_
  obtain ⟨x_37, e_38, h⟩ := lx_s h
  refine go_getf (x := 11) (ci := 6) (kf := 0) (fin := 0) (t := 2) (by decide +kernel) (by decide +kernel) (by decide +kernel) R f0 g0 fun v_34 f_35 => ?_
  have f_36 := q_is_eq f_35 e_38
  obtain ⟨g_41, h⟩ := gd_s h
  refine go_alen (by decide +kernel) R f_36 (okl_of g_41 (by decide)) fun v_39 f_40 => ?_
  refine go_icmp (c := .lt) (o := 60) (t := 83) (P := x_10 < w32 (m0 x_37 (-2))) (by decide +kernel) (by decide +kernel) f_12 f_40 (Iff.rfl) (fun hp_42 => ?_) (fun hp_42 => ?_)
  · have h := it_t hp_42 h
    exact oj_X5_add_83 hd R g0 l_31 f0 l_32 f1 l_33 f_12 l_29 f_27 hQ h
  · have h := it_f hp_42 h
    refine go_iconst (n := 2) (z := 2) (by decide +kernel) (by decide) fun v_138 f_139 => ?_
    refine go_aload_n (n := 0) (by decide +kernel) l_31 f0 ?_
    refine go_getf (x := 11) (ci := 6) (kf := 0) (fin := 0) (t := 2) (by decide +kernel) (by decide +kernel) (by decide +kernel) R f0 g0 fun v_140 f_141 => ?_
    have f_142 := q_is_eq f_141 e_38
    refine go_alen (by decide +kernel) R f_142 (okl_of g_41 (by decide)) fun v_143 f_144 => ?_
    refine go_imul (by decide +kernel) f_139 f_144 fun v_145 f_146 => ?_
    obtain ⟨g_147, h⟩ := gd_s h
    obtain ⟨x_148, m_149, e_150, e_151, h⟩ := nw_s h
    have g_157 := okc_nw (c := 108) R e_150 e_151
    refine go_anewa (x := 9) (kd := 108) (a := 0) (b := 0) (by decide +kernel) (by decide +kernel) f_146 g_147 R e_150 e_151 fun v_152 S_154 f_153 R_155 E_156 => ?_
    have E_160 := E_156
    refine go_astore (n := 5) (by decide +kernel) (by decide +kernel) f_153 fun L_161 l_162 kp_163 => ?_
    have l_164 := kp_163 0 _ l_31 (by decide) (Or.inl (by decide))
    have l_165 := kp_163 1 _ l_32 (by decide) (Or.inl (by decide))
    have l_166 := kp_163 3 _ l_33 (by decide) (Or.inl (by decide))
    have l_167 := kp_163 4 _ l_29 (by decide) (Or.inr (q_is_cat f_27 (Or.inl rfl)))
    refine go_iconst (n := 0) (z := 0) (by decide +kernel) (by decide) fun v_168 f_169 => ?_
    refine go_istore (n := 6) (by decide +kernel) (by decide +kernel) f_169 fun L_170 l_171 kp_172 => ?_
    have l_173 := kp_172 0 _ l_164 (by decide) (Or.inl (by decide))
    have l_174 := kp_172 1 _ l_165 (by decide) (Or.inl (by decide))
    have l_175 := kp_172 3 _ l_166 (by decide) (Or.inl (by decide))
    have l_176 := kp_172 4 _ l_167 (by decide) (Or.inl (by decide))
    have l_177 := kp_172 5 _ l_162 (by decide) (Or.inr (q_is_cat f_153 (Or.inr rfl)))
    have g_254 := Ext.ok E_156 g0
    refine ol_X5_add_41 hd  g_254 ?_ (fun b => hQ (Ext.tr E_160 b)) BIG (Ext.rf _) h R_155 l_173 f0 l_174 f1 l_175 f_12 l_176 f_27 l_177 f_153 l_171 f_169
    intro m_240 E_241
    intro S_237 L_238 v_222 v_223 v_224 v_225 v_226
    intro h R_239 l_227 f_232 l_228 f_233 l_229 f_234 l_230 f_235 l_231 f_236
    have E_242 := Ext.tr E_160 E_241
    refine go_aload_n (n := 0) (by decide +kernel) l_227 f_232 ?_
    refine go_aload (n := 5) (by decide +kernel) l_231 f_236 ?_
    have g_245 := Ext.ok (Ext.tr E_156 E_241) g0
    obtain ⟨m_246, e_247, h⟩ := up_s h
    refine go_putf (x := 11) (ci := 6) (kf := 0) (fin := 0) (zt := 2) (by decide +kernel) (by decide +kernel) (by decide) (by decide +kernel) (by decide) (Or.inl rfl) R_239 f_232 f_236 (fun hq => absurd hq (by decide)) g_245 e_247 (fx_f (j := 0) R_239.2 g_245 (by decide +kernel)) fun S_248 R_249 E_250 => ?_
    have E_252 := Ext.tr E_242 E_250
    have g_253 := Ext.ok E_250 g_245
    exact oj_X5_add_83 hd R_249 g_253 l_227 f_232 l_228 f_233 l_229 f_234 l_230 f_235 (fun b => hQ (Ext.tr E_252 b)) h
noncomputable def fj_X2_put_27 (p0 y1 y2 y3 y6 : Int) (m : MM) : Option (Int × MM) := lx (m p0 0) fun x_16 =>
gd (okc m x_16 6) <| bd (fm_X5_add x_16 (lOr (lOr (lOr (lShl y1 59) (lShl (iAnd y2 524287) 40)) (lShl (iAnd y3 1023) 30)) (iAnd y6 1073741823)) m) fun x_58 m_59 =>
lx (m_59 p0 0) fun x_73 =>
gd (okc m_59 x_73 6) <| lx (m_59 x_73 2) fun x_79 =>
up m_59 p0 1 x_79 fun m_81 =>
if 7 < y1 then
if y1 = 17 then
lx (m_81 p0 3) fun x_98 =>
up m_81 p0 3 (w32 (x_98 + 1)) fun m_104 =>
up m_104 p0 4 y2 fun m_112 =>
some (0, m_112)
else
some (0, m_81)
else
lx (m_81 p0 2) fun x_123 =>
up m_81 p0 2 (w32 (x_123 + 1)) fun m_129 =>
some (0, m_129)
set_option maxHeartbeats 4000000 in
theorem oj_X2_put_27 {xs : List Int32} {d : Nat} {S : QS} {L : QL} {Q : QO → QS → Prop} {m : MM} {p0 y1 y2 y3 y6 : Int} {v0 : Value} {v1 : Value} {v2 : Value} {v3 : Value} {v6 : Value}  {rz : Int} {rm : MM}
  (hd : 1 ≤ d) (R : Rp S m) (g0 : okc m p0 3) (l0 : q_lo L 0 = some v0) (f0 : q_is 2 v0 p0) (l1 : q_lo L 1 = some v1) (f1 : q_is 0 v1 y1) (l2 : q_lo L 2 = some v2) (f2 : q_is 0 v2 y2) (l3 : q_lo L 3 = some v3) (f3 : q_is 0 v3 y3) (l6 : q_lo L 6 = some v6) (f6 : q_is 0 v6 y6)
  (hQ : Ext m rm → ∀ o S1, Rp S1 rm → q_out 9 o rz → Q o S1)
  (h : fj_X2_put_27 p0 y1 y2 y3 y6 m = some (rz, rm)) : Go xs d qM_X2_put 27 L [] S Q := by
  unfold fj_X2_put_27 at h
  refine go_aload_n (n := 0) (by decide +kernel) l0 f0 ?_
  obtain ⟨x_16, e_17, h⟩ := lx_s h
  refine go_getf (x := 22) (ci := 3) (kf := 0) (fin := 1) (t := 2) (by decide +kernel) (by decide +kernel) (by decide +kernel) R f0 g0 fun v_13 f_14 => ?_
  have f_15 := q_is_eq f_14 e_17
  refine go_iload_n (n := 1) (by decide +kernel) l1 f1 ?_
  refine go_i2l (by decide +kernel) f1 fun v_18 f_19 => ?_
  refine go_bipush (n := 59) (z := 59) (by decide +kernel) (by decide) fun v_20 f_21 => ?_
  refine go_lshl (by decide +kernel) f_19 f_21 fun v_22 f_23 => ?_
  refine go_iload_n (n := 2) (by decide +kernel) l2 f2 ?_
  refine go_ldc (x := 32) (n := 524287) (a := 0) (b := 0) (z := 524287) (by decide +kernel) (by decide +kernel) (by decide +kernel) fun v_24 f_25 => ?_
  refine go_iand (by decide +kernel) f2 f_25 fun v_26 f_27 => ?_
  refine go_i2l (by decide +kernel) f_27 fun v_28 f_29 => ?_
  refine go_bipush (n := 40) (z := 40) (by decide +kernel) (by decide) fun v_30 f_31 => ?_
  refine go_lshl (by decide +kernel) f_29 f_31 fun v_32 f_33 => ?_
  refine go_lor (by decide +kernel) f_23 f_33 fun v_34 f_35 => ?_
  refine go_iload_n (n := 3) (by decide +kernel) l3 f3 ?_
  refine go_sipush (n := 1023) (z := 1023) (by decide +kernel) (by decide) fun v_36 f_37 => ?_
  refine go_iand (by decide +kernel) f3 f_37 fun v_38 f_39 => ?_
  refine go_i2l (by decide +kernel) f_39 fun v_40 f_41 => ?_
  refine go_bipush (n := 30) (z := 30) (by decide +kernel) (by decide) fun v_42 f_43 => ?_
  refine go_lshl (by decide +kernel) f_41 f_43 fun v_44 f_45 => ?_
  refine go_lor (by decide +kernel) f_35 f_45 fun v_46 f_47 => ?_
  refine go_iload (n := 6) (by decide +kernel) l6 f6 ?_
  refine go_ldc (x := 33) (n := 1073741823) (a := 0) (b := 0) (z := 1073741823) (by decide +kernel) (by decide +kernel) (by decide +kernel) fun v_48 f_49 => ?_
  refine go_iand (by decide +kernel) f6 f_49 fun v_50 f_51 => ?_
  refine go_i2l (by decide +kernel) f_51 fun v_52 f_53 => ?_
  refine go_lor (by decide +kernel) f_47 f_53 fun v_54 f_55 => ?_
  obtain ⟨g_56, h⟩ := gd_s h
  obtain ⟨x_58, m_59, hc_57, h⟩ := bd_s h
  refine go_callV (x := 35) (mi := 60) (n := 1) (ci := 6) (as := [v_54]) (rest := []) (by decide +kernel) (by decide +kernel) rfl rfl (q_sum8 _ (Nat.le_of_ble_eq_true rfl)) R f_15 g_56 (om_X5_add (Nat.le_trans (by decide) hd) R g_56 f_15 f_55 hc_57) (fun _ S_62 q_65 => ?_) (fun _ _ qq => kr_x qq)
  refine kr_v q_65 fun R_63 E_64 => ?_
  have E_68 := E_64
  refine go_aload_n (n := 0) (by decide +kernel) l0 f0 ?_
  refine go_aload_n (n := 0) (by decide +kernel) l0 f0 ?_
  have g_71 := Ext.ok E_64 g0
  obtain ⟨x_73, e_74, h⟩ := lx_s h
  refine go_getf (x := 22) (ci := 3) (kf := 0) (fin := 1) (t := 2) (by decide +kernel) (by decide +kernel) (by decide +kernel) R_63 f0 g_71 fun v_69 f_70 => ?_
  have f_72 := q_is_eq f_70 e_74
  obtain ⟨g_77, h⟩ := gd_s h
  obtain ⟨x_79, e_80, h⟩ := lx_s h
  refine go_getf (x := 39) (ci := 6) (kf := 2) (fin := 0) (t := 0) (by decide +kernel) (by decide +kernel) (by decide +kernel) R_63 f_72 g_77 fun v_75 f_76 => ?_
  have f_78 := q_is_eq f_76 e_80
  obtain ⟨m_81, e_82, h⟩ := up_s h
  refine go_putf (x := 9) (ci := 3) (kf := 1) (fin := 0) (zt := 0) (by decide +kernel) (by decide +kernel) (by decide) (by decide +kernel) (by decide) (Or.inl rfl) R_63 f0 f_78 (fun hq => absurd hq (by decide)) g_71 e_82 (fx_f (j := 1) R_63.2 g_71 (by decide +kernel)) fun S_83 R_84 E_85 => ?_
  have E_87 := Ext.tr E_68 E_85
  refine go_iload_n (n := 1) (by decide +kernel) l1 f1 ?_
  refine go_bipush (n := 7) (z := 7) (by decide +kernel) (by decide) fun v_88 f_89 => ?_
  refine go_icmp (c := .gt) (o := 16) (t := 95) (P := 7 < y1) (by decide +kernel) (by decide +kernel) f1 f_89 (Iff.rfl) (fun hp_90 => ?_) (fun hp_90 => ?_)
  · have h := it_t hp_90 h
    refine go_iload_n (n := 1) (by decide +kernel) l1 f1 ?_
    refine go_bipush (n := 17) (z := 17) (by decide +kernel) (by decide) fun v_91 f_92 => ?_
    refine go_icmp (c := .ne) (o := 18) (t := 116) (P := ¬ (y1 = 17)) (by decide +kernel) (by decide +kernel) f1 f_92 (Iff.rfl) (fun hp_93 => ?_) (fun hp_93 => ?_)
    · have h := it_f hp_93 h
      cases h
      exact go_vret (by decide +kernel) rfl (hQ E_87 _ _ R_84 q_out_n)
    · have h := it_n hp_93 h
      refine go_aload_n (n := 0) (by decide +kernel) l0 f0 ?_
      refine go_dup (by decide +kernel) f0 (Or.inr rfl) ?_
      have g_96 := Ext.ok E_85 g_71
      obtain ⟨x_98, e_99, h⟩ := lx_s h
      refine go_getf (x := 16) (ci := 3) (kf := 3) (fin := 0) (t := 0) (by decide +kernel) (by decide +kernel) (by decide +kernel) R_84 f0 g_96 fun v_94 f_95 => ?_
      have f_97 := q_is_eq f_95 e_99
      refine go_iconst (n := 1) (z := 1) (by decide +kernel) (by decide) fun v_100 f_101 => ?_
      refine go_iadd (by decide +kernel) f_97 f_101 fun v_102 f_103 => ?_
      obtain ⟨m_104, e_105, h⟩ := up_s h
      refine go_putf (x := 16) (ci := 3) (kf := 3) (fin := 0) (zt := 0) (by decide +kernel) (by decide +kernel) (by decide) (by decide +kernel) (by decide) (Or.inl rfl) R_84 f0 f_103 (fun hq => absurd hq (by decide)) g_96 e_105 (fx_f (j := 3) R_84.2 g_96 (by decide +kernel)) fun S_106 R_107 E_108 => ?_
      have E_110 := Ext.tr E_87 E_108
      refine go_aload_n (n := 0) (by decide +kernel) l0 f0 ?_
      refine go_iload_n (n := 2) (by decide +kernel) l2 f2 ?_
      have g_111 := Ext.ok E_108 g_96
      obtain ⟨m_112, e_113, h⟩ := up_s h
      refine go_putf (x := 19) (ci := 3) (kf := 4) (fin := 0) (zt := 0) (by decide +kernel) (by decide +kernel) (by decide) (by decide +kernel) (by decide) (Or.inl rfl) R_107 f0 f2 (fun hq => absurd hq (by decide)) g_111 e_113 (fx_f (j := 4) R_107.2 g_111 (by decide +kernel)) fun S_114 R_115 E_116 => ?_
      have E_118 := Ext.tr E_110 E_116
      cases h
      exact go_vret (by decide +kernel) rfl (hQ E_118 _ _ R_115 q_out_n)
  · have h := it_f hp_90 h
    refine go_aload_n (n := 0) (by decide +kernel) l0 f0 ?_
    refine go_dup (by decide +kernel) f0 (Or.inr rfl) ?_
    have g_121 := Ext.ok E_85 g_71
    obtain ⟨x_123, e_124, h⟩ := lx_s h
    refine go_getf (x := 13) (ci := 3) (kf := 2) (fin := 0) (t := 0) (by decide +kernel) (by decide +kernel) (by decide +kernel) R_84 f0 g_121 fun v_119 f_120 => ?_
    have f_122 := q_is_eq f_120 e_124
    refine go_iconst (n := 1) (z := 1) (by decide +kernel) (by decide) fun v_125 f_126 => ?_
    refine go_iadd (by decide +kernel) f_122 f_126 fun v_127 f_128 => ?_
    obtain ⟨m_129, e_130, h⟩ := up_s h
    refine go_putf (x := 13) (ci := 3) (kf := 2) (fin := 0) (zt := 0) (by decide +kernel) (by decide +kernel) (by decide) (by decide +kernel) (by decide) (Or.inl rfl) R_84 f0 f_128 (fun hq => absurd hq (by decide)) g_121 e_130 (fx_f (j := 2) R_84.2 g_121 (by decide +kernel)) fun S_131 R_132 E_133 => ?_
    have E_135 := Ext.tr E_87 E_133
    refine go_goto (o := 24) (t := 116) (by decide +kernel) (by decide +kernel) ?_
    cases h
    exact go_vret (by decide +kernel) rfl (hQ E_135 _ _ R_132 q_out_n)
noncomputable def fm_X2_put (p0 p1 p2 p3 p4 p5 : Int) (m0 : MM) : Option (Int × MM) := if 7 < p1 then
fj_X2_put_27 p0 p1 p2 p3 p4 m0
else
lx (iOr (iShl (iAnd p5 1048575) 10) (Int.tmod p4 1000)) fun x_150 =>
fj_X2_put_27 p0 p1 p2 p3 x_150 m0
set_option maxHeartbeats 4000000 in
theorem om_X2_put {xs : List Int32} {d : Nat} {S : QS} {m0 : MM} {p0 p1 p2 p3 p4 p5 : Int} {v0 : Value} {v1 : Value} {v2 : Value} {v3 : Value} {v4 : Value} {v5 : Value} {rz : Int} {rm : MM}
  (hd : 2 ≤ d) (R : Rp S m0) (g0 : okc m0 p0 3) (f0 : q_is 2 v0 p0) (f1 : q_is 0 v1 p1) (f2 : q_is 0 v2 p2) (f3 : q_is 0 v3 p3) (f4 : q_is 0 v4 p4) (f5 : q_is 0 v5 p5)
  (h : fm_X2_put p0 p1 p2 p3 p4 p5 m0 = some (rz, rm)) : Mt xs d 15 [v0, v1, v2, v3, v4, v5] S (Cr 9 m0 rm rz) := by
  obtain ⟨d, rfl⟩ : ∃ e, d = e + 1 := ⟨d - 1, by omega⟩
  have hd : 1 ≤ d := Nat.le_of_succ_le_succ hd
  refine Mt.of (M := qM_X2_put) rfl (by rw [sl_1 (q_is_cat f0 (Or.inr rfl)), sl_1 (q_is_cat f1 (Or.inl rfl)), sl_1 (q_is_cat f2 (Or.inl rfl)), sl_1 (q_is_cat f3 (Or.inl rfl)), sl_1 (q_is_cat f4 (Or.inl rfl)), sl_1 (q_is_cat f5 (Or.inl rfl)), sl_0]; decide) ?_
  rw [la_1 (q_is_cat f0 (Or.inr rfl)), la_1 (q_is_cat f1 (Or.inl rfl)), la_1 (q_is_cat f2 (Or.inl rfl)), la_1 (q_is_cat f3 (Or.inl rfl)), la_1 (q_is_cat f4 (Or.inl rfl)), la_1 (q_is_cat f5 (Or.inl rfl)), la_0]
  obtain ⟨L, hL⟩ : ∃ L : QL, L = [(0, v0), (0 + 1, v1), (0 + 1 + 1, v2), (0 + 1 + 1 + 1, v3), (0 + 1 + 1 + 1 + 1, v4), (0 + 1 + 1 + 1 + 1 + 1, v5)] := ⟨_, rfl⟩
  rw [← hL]
  have l0 : q_lo L 0 = some v0 := by rw [hL]; rfl
  have l1 : q_lo L 1 = some v1 := by rw [hL]; rfl
  have l2 : q_lo L 2 = some v2 := by rw [hL]; rfl
  have l3 : q_lo L 3 = some v3 := by rw [hL]; rfl
  have l4 : q_lo L 4 = some v4 := by rw [hL]; rfl
  have l5 : q_lo L 5 = some v5 := by rw [hL]; rfl
  have hQ : Ext m0 rm → ∀ o S1, Rp S1 rm → q_out 9 o rz → (Cr 9 m0 rm rz) o S1 := fun a o S1 b e => ⟨b, a, e⟩
  unfold fm_X2_put at h
  refine go_iload (n := 4) (by decide +kernel) l4 f4 ?_
  refine go_istore (n := 6) (by decide +kernel) (by decide +kernel) f4 fun L_1 l_2 kp_3 => ?_
  have l_4 := kp_3 0 _ l0 (by decide) (Or.inl (by decide))
  have l_5 := kp_3 1 _ l1 (by decide) (Or.inl (by decide))
  have l_6 := kp_3 2 _ l2 (by decide) (Or.inl (by decide))
  have l_7 := kp_3 3 _ l3 (by decide) (Or.inl (by decide))
  have l_8 := kp_3 4 _ l4 (by decide) (Or.inl (by decide))
  have l_9 := kp_3 5 _ l5 (by decide) (Or.inr (q_is_cat f5 (Or.inl rfl)))
  refine go_iload_n (n := 1) (by decide +kernel) l_5 f1 ?_
  refine go_bipush (n := 7) (z := 7) (by decide +kernel) (by decide) fun v_10 f_11 => ?_
  refine go_icmp (c := .gt) (o := 20) (t := 27) (P := 7 < p1) (by decide +kernel) (by decide +kernel) f1 f_11 (Iff.rfl) (fun hp_12 => ?_) (fun hp_12 => ?_)
  · have h := it_t hp_12 h
    exact oj_X2_put_27 hd R g0 l_4 f0 l_5 f1 l_6 f2 l_7 f3 l_2 f4 hQ h
  · have h := it_f hp_12 h
    refine go_iload (n := 5) (by decide +kernel) l_9 f5 ?_
    refine go_ldc (x := 34) (n := 1048575) (a := 0) (b := 0) (z := 1048575) (by decide +kernel) (by decide +kernel) (by decide +kernel) fun v_136 f_137 => ?_
    refine go_iand (by decide +kernel) f5 f_137 fun v_138 f_139 => ?_
    refine go_bipush (n := 10) (z := 10) (by decide +kernel) (by decide) fun v_140 f_141 => ?_
    refine go_ishl (by decide +kernel) f_139 f_141 fun v_142 f_143 => ?_
    refine go_iload (n := 4) (by decide +kernel) l_8 f4 ?_
    refine go_sipush (n := 1000) (z := 1000) (by decide +kernel) (by decide) fun v_144 f_145 => ?_
    refine go_irem (by decide +kernel) f4 f_145 (by decide) fun v_146 f_147 => ?_
    refine go_ior (by decide +kernel) f_143 f_147 fun v_148 f_149 => ?_
    obtain ⟨x_150, e_151, h⟩ := lx_s h
    have f_152 := q_is_eq f_149 e_151
    refine go_istore (n := 6) (by decide +kernel) (by decide +kernel) f_152 fun L_153 l_154 kp_155 => ?_
    have l_156 := kp_155 0 _ l_4 (by decide) (Or.inl (by decide))
    have l_157 := kp_155 1 _ l_5 (by decide) (Or.inl (by decide))
    have l_158 := kp_155 2 _ l_6 (by decide) (Or.inl (by decide))
    have l_159 := kp_155 3 _ l_7 (by decide) (Or.inl (by decide))
    exact oj_X2_put_27 hd R g0 l_156 f0 l_157 f1 l_158 f2 l_159 f3 l_154 f_152 hQ h
noncomputable def fm_J7_copyOf_c38d5 (p0 p1 : Int) (m0 : MM) : Option (Int × MM) := gd (okc m0 p0 101) <| if p1 = w32 (m0 p0 (-2)) then
cl m0 p0 fun x_40 m_41 =>
some (x_40, m_41)
else
gd (0 ≤ p1 ∧ p1 < 60000000) <| nw m0 101 p1 fun x_6 m_7 =>
bp (fm_J9_min_7cf53 (w32 (m_7 p0 (-2))) p1 m_7) fun x_32 =>
none
set_option maxHeartbeats 4000000 in
theorem om_J7_copyOf_c38d5 {xs : List Int32} {d : Nat} {S : QS} {m0 : MM} {p0 p1 : Int} {v0 : Value} {v1 : Value} {rz : Int} {rm : MM}
  (hd : 2 ≤ d) (R : Rp S m0) (f0 : q_is 2 v0 p0) (f1 : q_is 0 v1 p1)
  (h : fm_J7_copyOf_c38d5 p0 p1 m0 = some (rz, rm)) : Mt xs d 335 [v0, v1] S (Cr 2 m0 rm rz) := by
  obtain ⟨d, rfl⟩ : ∃ e, d = e + 1 := ⟨d - 1, by omega⟩
  have hd : 1 ≤ d := Nat.le_of_succ_le_succ hd
  refine Mt.of (M := qM_J7_copyOf_c38d5) rfl (by rw [sl_1 (q_is_cat f0 (Or.inr rfl)), sl_1 (q_is_cat f1 (Or.inl rfl)), sl_0]; decide) ?_
  rw [la_1 (q_is_cat f0 (Or.inr rfl)), la_1 (q_is_cat f1 (Or.inl rfl)), la_0]
  obtain ⟨L, hL⟩ : ∃ L : QL, L = [(0, v0), (0 + 1, v1)] := ⟨_, rfl⟩
  rw [← hL]
  have l0 : q_lo L 0 = some v0 := by rw [hL]; rfl
  have l1 : q_lo L 1 = some v1 := by rw [hL]; rfl
  have hQ : Ext m0 rm → ∀ o S1, Rp S1 rm → q_out 2 o rz → (Cr 2 m0 rm rz) o S1 := fun a o S1 b e => ⟨b, a, e⟩
  unfold fm_J7_copyOf_c38d5 at h
  refine go_iload_n (n := 1) (by decide +kernel) l1 f1 ?_
  refine go_aload_n (n := 0) (by decide +kernel) l0 f0 ?_
  obtain ⟨g_3, h⟩ := gd_s h
  refine go_alen (by decide +kernel) R f0 (okl_of g_3 (by decide)) fun v_1 f_2 => ?_
  refine go_icmp (c := .ne) (o := 11) (t := 14) (P := ¬ (p1 = w32 (m0 p0 (-2)))) (by decide +kernel) (by decide +kernel) f1 f_2 (Iff.rfl) (fun hp_4 => ?_) (fun hp_4 => ?_)
  · have h := it_f hp_4 h
    refine go_iload_n (n := 1) (by decide +kernel) l1 f1 ?_
    obtain ⟨g_5, h⟩ := gd_s h
    obtain ⟨x_6, m_7, e_8, e_9, h⟩ := nw_s h
    have g_15 := okc_nw (c := 101) R e_8 e_9
    refine go_newa (t := .long) (kd := 101) (by decide +kernel) (by decide) f1 g_5 R e_8 e_9 fun v_10 S_12 f_11 R_13 E_14 => ?_
    have E_18 := E_14
    refine go_astore_n (n := 2) (by decide +kernel) (by decide +kernel) f_11 fun L_19 l_20 kp_21 => ?_
    have l_22 := kp_21 0 _ l0 (by decide) (Or.inl (by decide))
    have l_23 := kp_21 1 _ l1 (by decide) (Or.inr (q_is_cat f1 (Or.inl rfl)))
    refine go_aload_n (n := 0) (by decide +kernel) l_22 f0 ?_
    refine go_iconst (n := 0) (z := 0) (by decide +kernel) (by decide) fun v_24 f_25 => ?_
    refine go_aload_n (n := 2) (by decide +kernel) l_20 f_11 ?_
    refine go_iconst (n := 0) (z := 0) (by decide +kernel) (by decide) fun v_26 f_27 => ?_
    refine go_aload_n (n := 0) (by decide +kernel) l_22 f0 ?_
    have g_30 := Ext.ok E_14 g_3
    refine go_alen (by decide +kernel) R_13 f0 (okl_of g_30 (by decide)) fun v_28 f_29 => ?_
    refine go_iload_n (n := 1) (by decide +kernel) l_23 f1 ?_
    obtain ⟨x_32, hc_31, h⟩ := bp_s h
    refine go_callS (x := 304) (mi := 320) (n := 2) (b := 0) (as := [v_28, v1]) (rest := [v_26, v_10, v_24, v0]) (by decide +kernel) (by decide +kernel) rfl rfl (q_sum8 _ (Nat.le_of_ble_eq_true rfl)) (om_J9_min_7cf53 (Nat.le_trans (by decide) hd) R_13 f_29 f1 hc_31) (fun _ S_36 q_39 => ?_) (fun _ _ qq => kr_x qq)
    refine kr_z (by decide) q_39 fun v_34 f_35 R_37 E_38 => ?_
    cases h
  · have h := it_n hp_4 h
    refine go_aload_n (n := 0) (by decide +kernel) l0 f0 ?_
    obtain ⟨x_40, m_41, e_42, e_43, h⟩ := cl_s h
    have g_49 := okc_cl R g_3 e_42 e_43
    refine go_clone (x := 319) (a := 0) (b := 0) (e := 0) (by decide +kernel) (by decide +kernel) R f0 g_3 e_42 e_43 (q_sum8 _ (Nat.le_of_ble_eq_true rfl)) fun v_44 S_46 f_45 R_47 E_48 => ?_
    have E_52 := E_48
    refine go_cast (x := 320) (kd := 101) (a := 0) (b := 0) (by decide +kernel) (by decide +kernel) R_47 f_45 g_49 ?_
    cases h
    exact go_aret (by decide +kernel) rfl rfl f_45 (hQ E_52 _ _ R_47 (q_out_v (by decide) f_45))
noncomputable def fj_X5_cut_72 (c : Int → MM → Option (Int × MM)) (k106 : MM → Option (Int × MM)) (p0 y2 y3 s0 : Int) (m : MM) : Option (Int × MM) := lx (m p0 0) fun x_82 =>
if s0 = 0 then
gd (okc m x_82 108) <| gd (okx m x_82 y3) <| up m x_82 y3 0 fun m_89 =>
lx (w32 (y3 + 1)) fun x_101 =>
c x_101 m_89
else
gd (okc m x_82 108) <| gd (okx m x_82 y3) <| lx (m x_82 y3) fun x_114 =>
bd (fm_J7_copyOf_c38d5 x_114 64 m) fun x_119 m_120 =>
gd (x_119 = 0 ∨ okc m_120 x_119 101) <| up m_120 x_82 y3 x_119 fun m_132 =>
lx (w32 (y3 + 1)) fun x_145 =>
c x_145 m_132
set_option maxHeartbeats 4000000 in
theorem oj_X5_cut_72 {xs : List Int32} {d : Nat} {S : QS} {L : QL} {Q : QO → QS → Prop} {m : MM} {p0 y2 y3 s0 : Int} {v0 : Value} {v2 : Value} {v3 : Value} {w0 : Value}  {rz : Int} {rm : MM} {c : Int → MM → Option (Int × MM)} {k106 : MM → Option (Int × MM)} 
  (hd : 2 ≤ d) (R : Rp S m) (g0 : okc m p0 6) (l0 : q_lo L 0 = some v0) (f0 : q_is 2 v0 p0) (l2 : q_lo L 2 = some v2) (f2 : q_is 0 v2 y2) (l3 : q_lo L 3 = some v3) (f3 : q_is 0 v3 y3) (fs0 : q_is 0 w0 s0)
  (hc : ∀ mq : MM, Ext m mq → ∀ {z3 : Int} {Sq : QS} {Lq : QL} {u0 : Value} {u2 : Value} {u3 : Value}, c z3 mq = some (rz, rm) → Rp Sq mq → q_lo Lq 0 = some u0 → q_is 2 u0 p0 → q_lo Lq 2 = some u2 → q_is 0 u2 y2 → q_lo Lq 3 = some u3 → q_is 0 u3 z3 → Go xs d qM_X5_cut 26 Lq [] Sq Q)
  (hk106 : ∀ mq : MM, Ext m mq → ∀ {Sq : QS} {Lq : QL} {u0 : Value} {u2 : Value}, k106 mq = some (rz, rm) → Rp Sq mq → q_lo Lq 0 = some u0 → q_is 2 u0 p0 → q_lo Lq 2 = some u2 → q_is 0 u2 y2 → Go xs d qM_X5_cut 106 Lq [] Sq Q)
  (hQ : Ext m rm → ∀ o S1, Rp S1 rm → q_out 9 o rz → Q o S1)
  (h : fj_X5_cut_72 c k106 p0 y2 y3 s0 m = some (rz, rm)) : Go xs d qM_X5_cut 72 L [w0] S Q := by
  unfold fj_X5_cut_72 at h
  refine go_istore (n := 4) (by decide +kernel) (by decide +kernel) fs0 fun L_73 l_74 kp_75 => ?_
  have l_76 := kp_75 0 _ l0 (by decide) (Or.inl (by decide))
  have l_77 := kp_75 2 _ l2 (by decide) (Or.inl (by decide))
  have l_78 := kp_75 3 _ l3 (by decide) (Or.inr (q_is_cat f3 (Or.inl rfl)))
  refine go_aload_n (n := 0) (by decide +kernel) l_76 f0 ?_
  obtain ⟨x_82, e_83, h⟩ := lx_s h
  refine go_getf (x := 11) (ci := 6) (kf := 0) (fin := 0) (t := 2) (by decide +kernel) (by decide +kernel) (by decide +kernel) R f0 g0 fun v_79 f_80 => ?_
  have f_81 := q_is_eq f_80 e_83
  refine go_iload_n (n := 3) (by decide +kernel) l_78 f3 ?_
  refine go_iload (n := 4) (by decide +kernel) l_74 fs0 ?_
  refine go_if (c := .eq) (o := 17) (t := 98) (P := s0 = 0) (by decide +kernel) (by decide +kernel) fs0 (Iff.rfl) (fun hp_84 => ?_) (fun hp_84 => ?_)
  · have h := it_t hp_84 h
    refine go_null (by decide +kernel) fun v_85 f_86 => ?_
    obtain ⟨g_87, h⟩ := gd_s h
    obtain ⟨g_88, h⟩ := gd_s h
    obtain ⟨m_89, e_90, h⟩ := up_s h
    refine go_aast (kd := 108) (vk := 101) (by decide +kernel) (by decide) R f_81 f3 f_86 g_87 g_88 (Or.inl rfl) e_90 (fx_a R.2 g_87 (And.left g_88) (by decide +kernel)) fun S_91 R_92 E_93 => ?_
    have E_95 := E_93
    refine go_iinc (n := 3) (c := 1) (c' := 1) (by decide +kernel) (by decide +kernel) l_78 f3 (by decide) fun L_96 v_97 f_98 l_99 kp_100 => ?_
    obtain ⟨x_101, e_102, h⟩ := lx_s h
    have f_103 := q_is_eq f_98 e_102
    have l_104 := kp_100 0 _ l_76 (by decide) (Or.inl (by decide))
    have l_105 := kp_100 2 _ l_77 (by decide) (Or.inr (q_is_cat f2 (Or.inl rfl)))
    refine go_goto (o := (-77)) (t := 26) (by decide +kernel) (by decide +kernel) ?_
    exact hc m_89 E_95 h R_92 l_104 f0 l_105 f2 l_99 f_103
  · have h := it_f hp_84 h
    refine go_aload_n (n := 0) (by decide +kernel) l_76 f0 ?_
    refine go_getf (x := 11) (ci := 6) (kf := 0) (fin := 0) (t := 2) (by decide +kernel) (by decide +kernel) (by decide +kernel) R f0 g0 fun v_106 f_107 => ?_
    have f_108 := q_is_eq f_107 e_83
    refine go_iload_n (n := 3) (by decide +kernel) l_78 f3 ?_
    obtain ⟨g_111, h⟩ := gd_s h
    obtain ⟨g_112, h⟩ := gd_s h
    obtain ⟨x_114, e_115, h⟩ := lx_s h
    refine go_aald (kd := 108) (by decide +kernel) (by decide) R f_108 f3 g_111 g_112 fun v_109 f_110 => ?_
    have f_113 := q_is_eq f_110 e_115
    refine go_bipush (n := 64) (z := 64) (by decide +kernel) (by decide) fun v_116 f_117 => ?_
    obtain ⟨x_119, m_120, hc_118, h⟩ := bd_s h
    refine go_callS (x := 39) (mi := 335) (n := 2) (b := 0) (as := [v_109, v_116]) (rest := [v3, v_79]) (by decide +kernel) (by decide +kernel) rfl rfl (q_sum8 _ (Nat.le_of_ble_eq_true rfl)) (om_J7_copyOf_c38d5 (Nat.le_trans (by decide) hd) R f_113 f_117 hc_118) (fun _ S_123 q_126 => ?_) (fun _ _ qq => kr_x qq)
    refine kr_z (by decide) q_126 fun v_121 f_122 R_124 E_125 => ?_
    have E_129 := E_125
    refine go_goto (o := 4) (t := 99) (by decide +kernel) (by decide +kernel) ?_
    have g_130 := Ext.ok E_125 g_111
    have g_131 := Ext.okx E_125 g_111 g_112
    obtain ⟨g_137, h⟩ := gd_s h
    obtain ⟨m_132, e_133, h⟩ := up_s h
    refine go_aast (kd := 108) (vk := 101) (by decide +kernel) (by decide) R_124 f_81 f3 f_122 g_130 g_131 g_137 e_133 (fx_a R_124.2 g_130 (And.left g_131) (by decide +kernel)) fun S_134 R_135 E_136 => ?_
    have E_139 := Ext.tr E_129 E_136
    refine go_iinc (n := 3) (c := 1) (c' := 1) (by decide +kernel) (by decide +kernel) l_78 f3 (by decide) fun L_140 v_141 f_142 l_143 kp_144 => ?_
    obtain ⟨x_145, e_146, h⟩ := lx_s h
    have f_147 := q_is_eq f_142 e_146
    have l_148 := kp_144 0 _ l_76 (by decide) (Or.inl (by decide))
    have l_149 := kp_144 2 _ l_77 (by decide) (Or.inr (q_is_cat f2 (Or.inl rfl)))
    refine go_goto (o := (-77)) (t := 26) (by decide +kernel) (by decide +kernel) ?_
    exact hc m_132 E_139 h R_135 l_148 f0 l_149 f2 l_143 f_147
noncomputable def fl_X5_cut_26 (p0 y2 : Int) (k106 : MM → Option (Int × MM)) : Nat → Int → MM → Option (Int × MM)
  | 0, _, _ => none
  | n + 1, y3, m => lx (m p0 1) fun x_58 =>
if y3 < x_58 then
lx (m p0 0) fun x_64 =>
gd (okc m x_64 108) <| if y3 < w32 (m x_64 (-2)) then
if y3 = y2 then
lx (m p0 2) fun x_153 =>
if 0 < iAnd x_153 63 then
gd (okx m x_64 y3) <| lx (m x_64 y3) fun x_169 =>
if x_169 = 0 then
fj_X5_cut_72 (fl_X5_cut_26 p0 y2 k106 n) k106 p0 y2 y3 0 m
else
fj_X5_cut_72 (fl_X5_cut_26 p0 y2 k106 n) k106 p0 y2 y3 1 m
else
fj_X5_cut_72 (fl_X5_cut_26 p0 y2 k106 n) k106 p0 y2 y3 0 m
else
fj_X5_cut_72 (fl_X5_cut_26 p0 y2 k106 n) k106 p0 y2 y3 0 m
else
k106 m
else
k106 m
set_option maxHeartbeats 4000000 in
theorem ol_X5_cut_26 {xs : List Int32} {d : Nat} {Q : QO → QS → Prop} {mb : MM} {p0 y2 : Int} {k106 : MM → Option (Int × MM)} {rz : Int} {rm : MM}
  (hd : 2 ≤ d) (gb : okc mb p0 6)
  (hk106 : ∀ mq : MM, Ext mb mq → ∀ {Sq : QS} {Lq : QL} {u0 : Value} {u2 : Value}, k106 mq = some (rz, rm) → Rp Sq mq → q_lo Lq 0 = some u0 → q_is 2 u0 p0 → q_lo Lq 2 = some u2 → q_is 0 u2 y2 → Go xs d qM_X5_cut 106 Lq [] Sq Q)
  (hQ : Ext mb rm → ∀ o S1, Rp S1 rm → q_out 9 o rz → Q o S1) :
  ∀ (n : Nat) {m : MM} {S : QS} {L : QL} {y3 : Int} {v0 : Value} {v2 : Value} {v3 : Value} , Ext mb m → fl_X5_cut_26 p0 y2 k106 n y3 m = some (rz, rm) → Rp S m → q_lo L 0 = some v0 → q_is 2 v0 p0 → q_lo L 2 = some v2 → q_is 0 v2 y2 → q_lo L 3 = some v3 → q_is 0 v3 y3 → Go xs d qM_X5_cut 26 L [] S Q := by
  intro n
  induction n with
  | zero => intro m S L y3 v0 v2 v3; intro E h R l0 f0 l2 f2 l3 f3; cases h
  | succ n ih0 =>
    intro m S L y3 v0 v2 v3; intro E h R l0 f0 l2 f2 l3 f3
    have ih : ∀ mq : MM, Ext mb mq → ∀ {z3 : Int} {Sq : QS} {Lq : QL} {u0 : Value} {u2 : Value} {u3 : Value}, fl_X5_cut_26 p0 y2 k106 n z3 mq = some (rz, rm) → Rp Sq mq → q_lo Lq 0 = some u0 → q_is 2 u0 p0 → q_lo Lq 2 = some u2 → q_is 0 u2 y2 → q_lo Lq 3 = some u3 → q_is 0 u3 z3 → Go xs d qM_X5_cut 26 Lq [] Sq Q := fun mq b => by intros; exact ih0 b ‹_› ‹_› ‹_› ‹_› ‹_› ‹_› ‹_› ‹_›
    have g0 := Ext.ok E gb
    unfold fl_X5_cut_26 at h
    refine go_iload_n (n := 3) (by decide +kernel) l3 f3 ?_
    refine go_aload_n (n := 0) (by decide +kernel) l0 f0 ?_
    obtain ⟨x_58, e_59, h⟩ := lx_s h
    refine go_getf (x := 15) (ci := 6) (kf := 1) (fin := 0) (t := 0) (by decide +kernel) (by decide +kernel) (by decide +kernel) R f0 g0 fun v_55 f_56 => ?_
    have f_57 := q_is_eq f_56 e_59
    refine go_icmp (c := .ge) (o := 75) (t := 106) (P := ¬ (y3 < x_58)) (by decide +kernel) (by decide +kernel) f3 f_57 (Int.not_lt.symm) (fun hp_60 => ?_) (fun hp_60 => ?_)
    · have h := it_f hp_60 h
      exact hk106 m E h R l0 f0 l2 f2
    · have h := it_n hp_60 h
      refine go_iload_n (n := 3) (by decide +kernel) l3 f3 ?_
      refine go_aload_n (n := 0) (by decide +kernel) l0 f0 ?_
      obtain ⟨x_64, e_65, h⟩ := lx_s h
      refine go_getf (x := 11) (ci := 6) (kf := 0) (fin := 0) (t := 2) (by decide +kernel) (by decide +kernel) (by decide +kernel) R f0 g0 fun v_61 f_62 => ?_
      have f_63 := q_is_eq f_62 e_65
      obtain ⟨g_68, h⟩ := gd_s h
      refine go_alen (by decide +kernel) R f_63 (okl_of g_68 (by decide)) fun v_66 f_67 => ?_
      refine go_icmp (c := .ge) (o := 66) (t := 106) (P := ¬ (y3 < w32 (m x_64 (-2)))) (by decide +kernel) (by decide +kernel) f3 f_67 (Int.not_lt.symm) (fun hp_69 => ?_) (fun hp_69 => ?_)
      · have h := it_f hp_69 h
        exact hk106 m E h R l0 f0 l2 f2
      · have h := it_n hp_69 h
        refine go_iload_n (n := 3) (by decide +kernel) l3 f3 ?_
        refine go_iload_n (n := 2) (by decide +kernel) l2 f2 ?_
        refine go_icmp (c := .ne) (o := 26) (t := 71) (P := ¬ (y3 = y2)) (by decide +kernel) (by decide +kernel) f3 f2 (Iff.rfl) (fun hp_70 => ?_) (fun hp_70 => ?_)
        · have h := it_f hp_70 h
          refine go_iconst (n := 0) (z := 0) (by decide +kernel) (by decide) fun v_71 f_72 => ?_
          exact oj_X5_cut_72 hd R g0 l0 f0 l2 f2 l3 f3 f_72 (fun mq b => ih mq (Ext.tr E b)) (fun mq b => hk106 mq (Ext.tr E b)) (fun b => hQ (Ext.tr E b)) h
        · have h := it_n hp_70 h
          refine go_aload_n (n := 0) (by decide +kernel) l0 f0 ?_
          obtain ⟨x_153, e_154, h⟩ := lx_s h
          refine go_getf (x := 19) (ci := 6) (kf := 2) (fin := 0) (t := 0) (by decide +kernel) (by decide +kernel) (by decide +kernel) R f0 g0 fun v_150 f_151 => ?_
          have f_152 := q_is_eq f_151 e_154
          refine go_bipush (n := 63) (z := 63) (by decide +kernel) (by decide) fun v_155 f_156 => ?_
          refine go_iand (by decide +kernel) f_152 f_156 fun v_157 f_158 => ?_
          refine go_if (c := .le) (o := 16) (t := 71) (P := ¬ (0 < iAnd x_153 63)) (by decide +kernel) (by decide +kernel) f_158 (Int.not_lt.symm) (fun hp_159 => ?_) (fun hp_159 => ?_)
          · have h := it_f hp_159 h
            refine go_iconst (n := 0) (z := 0) (by decide +kernel) (by decide) fun v_160 f_161 => ?_
            exact oj_X5_cut_72 hd R g0 l0 f0 l2 f2 l3 f3 f_161 (fun mq b => ih mq (Ext.tr E b)) (fun mq b => hk106 mq (Ext.tr E b)) (fun b => hQ (Ext.tr E b)) h
          · have h := it_n hp_159 h
            refine go_aload_n (n := 0) (by decide +kernel) l0 f0 ?_
            refine go_getf (x := 11) (ci := 6) (kf := 0) (fin := 0) (t := 2) (by decide +kernel) (by decide +kernel) (by decide +kernel) R f0 g0 fun v_162 f_163 => ?_
            have f_164 := q_is_eq f_163 e_65
            refine go_iload_n (n := 3) (by decide +kernel) l3 f3 ?_
            obtain ⟨g_167, h⟩ := gd_s h
            obtain ⟨x_169, e_170, h⟩ := lx_s h
            refine go_aald (kd := 108) (by decide +kernel) (by decide) R f_164 f3 g_68 g_167 fun v_165 f_166 => ?_
            have f_168 := q_is_eq f_166 e_170
            refine go_ifnull (o := 7) (t := 71) (by decide +kernel) (by decide +kernel) f_168 (fun hp_171 => ?_) (fun hp_171 => ?_)
            · have h := it_t hp_171 h
              refine go_iconst (n := 0) (z := 0) (by decide +kernel) (by decide) fun v_172 f_173 => ?_
              exact oj_X5_cut_72 hd R g0 l0 f0 l2 f2 l3 f3 f_173 (fun mq b => ih mq (Ext.tr E b)) (fun mq b => hk106 mq (Ext.tr E b)) (fun b => hQ (Ext.tr E b)) h
            · have h := it_f hp_171 h
              refine go_iconst (n := 1) (z := 1) (by decide +kernel) (by decide) fun v_174 f_175 => ?_
              refine go_goto (o := 4) (t := 72) (by decide +kernel) (by decide +kernel) ?_
              exact oj_X5_cut_72 hd R g0 l0 f0 l2 f2 l3 f3 f_175 (fun mq b => ih mq (Ext.tr E b)) (fun mq b => hk106 mq (Ext.tr E b)) (fun b => hQ (Ext.tr E b)) h
noncomputable def fm_X5_cut (p0 p1 : Int) (m0 : MM) : Option (Int × MM) := lx (m0 p0 2) fun x_4 =>
bp (fm_J9_max_7cf53 0 p1 m0) fun x_9 =>
bp (fm_J9_min_7cf53 x_4 x_9 m0) fun x_18 =>
up m0 p0 2 x_18 fun m_26 =>
lx (m_26 p0 2) fun x_37 =>
lx (iShr x_37 6) fun x_43 =>
fl_X5_cut_26 p0 x_43 (fun m_185 =>
lx (m_185 p0 1) fun x_194 =>
bp (fm_J9_min_7cf53 x_194 x_43 m_185) fun x_197 =>
up m_185 p0 1 x_197 fun m_205 =>
some (0, m_205)) BIG x_43 m_26
set_option maxHeartbeats 4000000 in
theorem om_X5_cut {xs : List Int32} {d : Nat} {S : QS} {m0 : MM} {p0 p1 : Int} {v0 : Value} {v1 : Value} {rz : Int} {rm : MM}
  (hd : 3 ≤ d) (R : Rp S m0) (g0 : okc m0 p0 6) (f0 : q_is 2 v0 p0) (f1 : q_is 0 v1 p1)
  (h : fm_X5_cut p0 p1 m0 = some (rz, rm)) : Mt xs d 63 [v0, v1] S (Cr 9 m0 rm rz) := by
  obtain ⟨d, rfl⟩ : ∃ e, d = e + 1 := ⟨d - 1, by omega⟩
  have hd : 2 ≤ d := Nat.le_of_succ_le_succ hd
  refine Mt.of (M := qM_X5_cut) rfl (by rw [sl_1 (q_is_cat f0 (Or.inr rfl)), sl_1 (q_is_cat f1 (Or.inl rfl)), sl_0]; decide) ?_
  rw [la_1 (q_is_cat f0 (Or.inr rfl)), la_1 (q_is_cat f1 (Or.inl rfl)), la_0]
  obtain ⟨L, hL⟩ : ∃ L : QL, L = [(0, v0), (0 + 1, v1)] := ⟨_, rfl⟩
  rw [← hL]
  have l0 : q_lo L 0 = some v0 := by rw [hL]; rfl
  have l1 : q_lo L 1 = some v1 := by rw [hL]; rfl
  have hQ : Ext m0 rm → ∀ o S1, Rp S1 rm → q_out 9 o rz → (Cr 9 m0 rm rz) o S1 := fun a o S1 b e => ⟨b, a, e⟩
  unfold fm_X5_cut at h
  refine go_aload_n (n := 0) (by decide +kernel) l0 f0 ?_
  refine go_aload_n (n := 0) (by decide +kernel) l0 f0 ?_
  obtain ⟨x_4, e_5, h⟩ := lx_s h
  refine go_getf (x := 19) (ci := 6) (kf := 2) (fin := 0) (t := 0) (by decide +kernel) (by decide +kernel) (by decide +kernel) R f0 g0 fun v_1 f_2 => ?_
  have f_3 := q_is_eq f_2 e_5
  refine go_iconst (n := 0) (z := 0) (by decide +kernel) (by decide) fun v_6 f_7 => ?_
  refine go_iload_n (n := 1) (by decide +kernel) l1 f1 ?_
  obtain ⟨x_9, hc_8, h⟩ := bp_s h
  refine go_callS (x := 30) (mi := 319) (n := 2) (b := 0) (as := [v_6, v1]) (rest := [v_1, v0]) (by decide +kernel) (by decide +kernel) rfl rfl (q_sum8 _ (Nat.le_of_ble_eq_true rfl)) (om_J9_max_7cf53 (Nat.le_trans (by decide) hd) R f_7 f1 hc_8) (fun _ S_13 q_16 => ?_) (fun _ _ qq => kr_x qq)
  refine kr_z (by decide) q_16 fun v_11 f_12 R_14 E_15 => ?_
  obtain ⟨x_18, hc_17, h⟩ := bp_s h
  refine go_callS (x := 36) (mi := 320) (n := 2) (b := 0) (as := [v_1, v_11]) (rest := [v0]) (by decide +kernel) (by decide +kernel) rfl rfl (q_sum8 _ (Nat.le_of_ble_eq_true rfl)) (om_J9_min_7cf53 (Nat.le_trans (by decide) hd) R_14 f_3 f_12 hc_17) (fun _ S_22 q_25 => ?_) (fun _ _ qq => kr_x qq)
  refine kr_z (by decide) q_25 fun v_20 f_21 R_23 E_24 => ?_
  obtain ⟨m_26, e_27, h⟩ := up_s h
  refine go_putf (x := 19) (ci := 6) (kf := 2) (fin := 0) (zt := 0) (by decide +kernel) (by decide +kernel) (by decide) (by decide +kernel) (by decide) (Or.inl rfl) R_23 f0 f_21 (fun hq => absurd hq (by decide)) g0 e_27 (fx_f (j := 2) R_23.2 g0 (by decide +kernel)) fun S_28 R_29 E_30 => ?_
  have E_32 := E_30
  refine go_aload_n (n := 0) (by decide +kernel) l0 f0 ?_
  have g_35 := Ext.ok E_30 g0
  obtain ⟨x_37, e_38, h⟩ := lx_s h
  refine go_getf (x := 19) (ci := 6) (kf := 2) (fin := 0) (t := 0) (by decide +kernel) (by decide +kernel) (by decide +kernel) R_29 f0 g_35 fun v_33 f_34 => ?_
  have f_36 := q_is_eq f_34 e_38
  refine go_bipush (n := 6) (z := 6) (by decide +kernel) (by decide) fun v_39 f_40 => ?_
  refine go_ishr (by decide +kernel) f_36 f_40 fun v_41 f_42 => ?_
  obtain ⟨x_43, e_44, h⟩ := lx_s h
  have f_45 := q_is_eq f_42 e_44
  refine go_istore_n (n := 2) (by decide +kernel) (by decide +kernel) f_45 fun L_46 l_47 kp_48 => ?_
  have l_49 := kp_48 0 _ l0 (by decide) (Or.inl (by decide))
  refine go_iload_n (n := 2) (by decide +kernel) l_47 f_45 ?_
  refine go_istore_n (n := 3) (by decide +kernel) (by decide +kernel) f_45 fun L_50 l_51 kp_52 => ?_
  have l_53 := kp_52 0 _ l_49 (by decide) (Or.inl (by decide))
  have l_54 := kp_52 2 _ l_47 (by decide) (Or.inr (q_is_cat f_45 (Or.inl rfl)))
  refine ol_X5_cut_26 hd  g_35 ?_ (fun b => hQ (Ext.tr E_32 b)) BIG (Ext.rf _) h R_29 l_53 f0 l_54 f_45 l_51 f_45
  intro m_185 E_186
  intro S_182 L_183 v_176 v_177
  intro h R_184 l_178 f_180 l_179 f_181
  have E_187 := Ext.tr E_32 E_186
  refine go_aload_n (n := 0) (by decide +kernel) l_178 f_180 ?_
  refine go_aload_n (n := 0) (by decide +kernel) l_178 f_180 ?_
  have g_192 := Ext.ok E_186 g_35
  obtain ⟨x_194, e_195, h⟩ := lx_s h
  refine go_getf (x := 15) (ci := 6) (kf := 1) (fin := 0) (t := 0) (by decide +kernel) (by decide +kernel) (by decide +kernel) R_184 f_180 g_192 fun v_190 f_191 => ?_
  have f_193 := q_is_eq f_191 e_195
  refine go_iload_n (n := 2) (by decide +kernel) l_179 f_181 ?_
  obtain ⟨x_197, hc_196, h⟩ := bp_s h
  refine go_callS (x := 36) (mi := 320) (n := 2) (b := 0) (as := [v_190, v_177]) (rest := [v_176]) (by decide +kernel) (by decide +kernel) rfl rfl (q_sum8 _ (Nat.le_of_ble_eq_true rfl)) (om_J9_min_7cf53 (Nat.le_trans (by decide) hd) R_184 f_193 f_181 hc_196) (fun _ S_201 q_204 => ?_) (fun _ _ qq => kr_x qq)
  refine kr_z (by decide) q_204 fun v_199 f_200 R_202 E_203 => ?_
  obtain ⟨m_205, e_206, h⟩ := up_s h
  refine go_putf (x := 15) (ci := 6) (kf := 1) (fin := 0) (zt := 0) (by decide +kernel) (by decide +kernel) (by decide) (by decide +kernel) (by decide) (Or.inl rfl) R_202 f_180 f_200 (fun hq => absurd hq (by decide)) g_192 e_206 (fx_f (j := 1) R_202.2 g_192 (by decide +kernel)) fun S_207 R_208 E_209 => ?_
  have E_211 := Ext.tr E_187 E_209
  cases h
  exact go_vret (by decide +kernel) rfl (hQ E_211 _ _ R_208 q_out_n)
noncomputable def fl_X2_countAgain_28 (p0 : Int) : Nat → Int → MM → Option (Int × MM)
  | 0, _, _ => none
  | n + 1, y1, m => lx (m p0 1) fun x_58 =>
if y1 < x_58 then
bp (fm_X2_kind p0 y1 m) fun x_62 =>
if 7 < x_62 then
if x_62 = 17 then
lx (m p0 3) fun x_93 =>
up m p0 3 (w32 (x_93 + 1)) fun m_99 =>
bp (fm_X2_x p0 y1 m_99) fun x_108 =>
up m_99 p0 4 x_108 fun m_116 =>
lx (w32 (y1 + 1)) fun x_128 =>
fl_X2_countAgain_28 p0 n x_128 m_116
else
lx (w32 (y1 + 1)) fun x_86 =>
fl_X2_countAgain_28 p0 n x_86 m
else
lx (m p0 2) fun x_135 =>
up m p0 2 (w32 (x_135 + 1)) fun m_141 =>
lx (w32 (y1 + 1)) fun x_153 =>
fl_X2_countAgain_28 p0 n x_153 m_141
else
some (0, m)
set_option maxHeartbeats 4000000 in
theorem ol_X2_countAgain_28 {xs : List Int32} {d : Nat} {Q : QO → QS → Prop} {mb : MM} {p0 : Int} {rz : Int} {rm : MM}
  (hd : 2 ≤ d) (gb : okc mb p0 3)
  (hQ : Ext mb rm → ∀ o S1, Rp S1 rm → q_out 9 o rz → Q o S1) :
  ∀ (n : Nat) {m : MM} {S : QS} {L : QL} {y1 : Int} {v0 : Value} {v1 : Value} , Ext mb m → fl_X2_countAgain_28 p0 n y1 m = some (rz, rm) → Rp S m → q_lo L 0 = some v0 → q_is 2 v0 p0 → q_lo L 1 = some v1 → q_is 0 v1 y1 → Go xs d qM_X2_countAgain 28 L [] S Q := by
  intro n
  induction n with
  | zero => intro m S L y1 v0 v1; intro E h R l0 f0 l1 f1; cases h
  | succ n ih0 =>
    intro m S L y1 v0 v1; intro E h R l0 f0 l1 f1
    have ih : ∀ mq : MM, Ext mb mq → ∀ {z1 : Int} {Sq : QS} {Lq : QL} {u0 : Value} {u1 : Value}, fl_X2_countAgain_28 p0 n z1 mq = some (rz, rm) → Rp Sq mq → q_lo Lq 0 = some u0 → q_is 2 u0 p0 → q_lo Lq 1 = some u1 → q_is 0 u1 z1 → Go xs d qM_X2_countAgain 28 Lq [] Sq Q := fun mq b => by intros; exact ih0 b ‹_› ‹_› ‹_› ‹_› ‹_› ‹_›
    have g0 := Ext.ok E gb
    unfold fl_X2_countAgain_28 at h
    refine go_iload_n (n := 1) (by decide +kernel) l1 f1 ?_
    refine go_aload_n (n := 0) (by decide +kernel) l0 f0 ?_
    obtain ⟨x_58, e_59, h⟩ := lx_s h
    refine go_getf (x := 9) (ci := 3) (kf := 1) (fin := 0) (t := 0) (by decide +kernel) (by decide +kernel) (by decide +kernel) R f0 g0 fun v_55 f_56 => ?_
    have f_57 := q_is_eq f_56 e_59
    refine go_icmp (c := .ge) (o := 59) (t := 92) (P := ¬ (y1 < x_58)) (by decide +kernel) (by decide +kernel) f1 f_57 (Int.not_lt.symm) (fun hp_60 => ?_) (fun hp_60 => ?_)
    · have h := it_f hp_60 h
      cases h
      exact go_vret (by decide +kernel) rfl (hQ E _ _ R q_out_n)
    · have h := it_n hp_60 h
      refine go_aload_n (n := 0) (by decide +kernel) l0 f0 ?_
      refine go_iload_n (n := 1) (by decide +kernel) l1 f1 ?_
      obtain ⟨x_62, hc_61, h⟩ := bp_s h
      refine go_callV (x := 51) (mi := 9) (n := 1) (ci := 3) (as := [v1]) (rest := []) (by decide +kernel) (by decide +kernel) rfl rfl (q_sum8 _ (Nat.le_of_ble_eq_true rfl)) R f0 g0 (om_X2_kind (Nat.le_trans (by decide) hd) R g0 f0 f1 hc_61) (fun _ S_66 q_69 => ?_) (fun _ _ qq => kr_x qq)
      refine kr_z (by decide) q_69 fun v_64 f_65 R_67 E_68 => ?_
      refine go_istore_n (n := 2) (by decide +kernel) (by decide +kernel) f_65 fun L_70 l_71 kp_72 => ?_
      have l_73 := kp_72 0 _ l0 (by decide) (Or.inl (by decide))
      have l_74 := kp_72 1 _ l1 (by decide) (Or.inr (q_is_cat f1 (Or.inl rfl)))
      refine go_iload_n (n := 2) (by decide +kernel) l_71 f_65 ?_
      refine go_bipush (n := 7) (z := 7) (by decide +kernel) (by decide) fun v_75 f_76 => ?_
      refine go_icmp (c := .gt) (o := 16) (t := 61) (P := 7 < x_62) (by decide +kernel) (by decide +kernel) f_65 f_76 (Iff.rfl) (fun hp_77 => ?_) (fun hp_77 => ?_)
      · have h := it_t hp_77 h
        refine go_iload_n (n := 2) (by decide +kernel) l_71 f_65 ?_
        refine go_bipush (n := 17) (z := 17) (by decide +kernel) (by decide) fun v_78 f_79 => ?_
        refine go_icmp (c := .ne) (o := 22) (t := 86) (P := ¬ (x_62 = 17)) (by decide +kernel) (by decide +kernel) f_65 f_79 (Iff.rfl) (fun hp_80 => ?_) (fun hp_80 => ?_)
        · have h := it_f hp_80 h
          refine go_iinc (n := 1) (c := 1) (c' := 1) (by decide +kernel) (by decide +kernel) l_74 f1 (by decide) fun L_81 v_82 f_83 l_84 kp_85 => ?_
          obtain ⟨x_86, e_87, h⟩ := lx_s h
          have f_88 := q_is_eq f_83 e_87
          have l_89 := kp_85 0 _ l_73 (by decide) (Or.inr (q_is_cat f0 (Or.inr rfl)))
          refine go_goto (o := (-61)) (t := 28) (by decide +kernel) (by decide +kernel) ?_
          exact ih m E h R_67 l_89 f0 l_84 f_88
        · have h := it_n hp_80 h
          refine go_aload_n (n := 0) (by decide +kernel) l_73 f0 ?_
          refine go_dup (by decide +kernel) f0 (Or.inr rfl) ?_
          obtain ⟨x_93, e_94, h⟩ := lx_s h
          refine go_getf (x := 16) (ci := 3) (kf := 3) (fin := 0) (t := 0) (by decide +kernel) (by decide +kernel) (by decide +kernel) R_67 f0 g0 fun v_90 f_91 => ?_
          have f_92 := q_is_eq f_91 e_94
          refine go_iconst (n := 1) (z := 1) (by decide +kernel) (by decide) fun v_95 f_96 => ?_
          refine go_iadd (by decide +kernel) f_92 f_96 fun v_97 f_98 => ?_
          obtain ⟨m_99, e_100, h⟩ := up_s h
          refine go_putf (x := 16) (ci := 3) (kf := 3) (fin := 0) (zt := 0) (by decide +kernel) (by decide +kernel) (by decide) (by decide +kernel) (by decide) (Or.inl rfl) R_67 f0 f_98 (fun hq => absurd hq (by decide)) g0 e_100 (fx_f (j := 3) R_67.2 g0 (by decide +kernel)) fun S_101 R_102 E_103 => ?_
          have E_105 := Ext.tr E E_103
          refine go_aload_n (n := 0) (by decide +kernel) l_73 f0 ?_
          refine go_aload_n (n := 0) (by decide +kernel) l_73 f0 ?_
          refine go_iload_n (n := 1) (by decide +kernel) l_74 f1 ?_
          have g_106 := Ext.ok E_103 g0
          obtain ⟨x_108, hc_107, h⟩ := bp_s h
          refine go_callV (x := 55) (mi := 10) (n := 1) (ci := 3) (as := [v1]) (rest := [v0]) (by decide +kernel) (by decide +kernel) rfl rfl (q_sum8 _ (Nat.le_of_ble_eq_true rfl)) R_102 f0 g_106 (om_X2_x (Nat.le_trans (by decide) hd) R_102 g_106 f0 f1 hc_107) (fun _ S_112 q_115 => ?_) (fun _ _ qq => kr_x qq)
          refine kr_z (by decide) q_115 fun v_110 f_111 R_113 E_114 => ?_
          obtain ⟨m_116, e_117, h⟩ := up_s h
          refine go_putf (x := 19) (ci := 3) (kf := 4) (fin := 0) (zt := 0) (by decide +kernel) (by decide +kernel) (by decide) (by decide +kernel) (by decide) (Or.inl rfl) R_113 f0 f_111 (fun hq => absurd hq (by decide)) g_106 e_117 (fx_f (j := 4) R_113.2 g_106 (by decide +kernel)) fun S_118 R_119 E_120 => ?_
          have E_122 := Ext.tr E_105 E_120
          refine go_iinc (n := 1) (c := 1) (c' := 1) (by decide +kernel) (by decide +kernel) l_74 f1 (by decide) fun L_123 v_124 f_125 l_126 kp_127 => ?_
          obtain ⟨x_128, e_129, h⟩ := lx_s h
          have f_130 := q_is_eq f_125 e_129
          have l_131 := kp_127 0 _ l_73 (by decide) (Or.inr (q_is_cat f0 (Or.inr rfl)))
          refine go_goto (o := (-61)) (t := 28) (by decide +kernel) (by decide +kernel) ?_
          exact ih m_116 E_122 h R_119 l_131 f0 l_126 f_130
      · have h := it_f hp_77 h
        refine go_aload_n (n := 0) (by decide +kernel) l_73 f0 ?_
        refine go_dup (by decide +kernel) f0 (Or.inr rfl) ?_
        obtain ⟨x_135, e_136, h⟩ := lx_s h
        refine go_getf (x := 13) (ci := 3) (kf := 2) (fin := 0) (t := 0) (by decide +kernel) (by decide +kernel) (by decide +kernel) R_67 f0 g0 fun v_132 f_133 => ?_
        have f_134 := q_is_eq f_133 e_136
        refine go_iconst (n := 1) (z := 1) (by decide +kernel) (by decide) fun v_137 f_138 => ?_
        refine go_iadd (by decide +kernel) f_134 f_138 fun v_139 f_140 => ?_
        obtain ⟨m_141, e_142, h⟩ := up_s h
        refine go_putf (x := 13) (ci := 3) (kf := 2) (fin := 0) (zt := 0) (by decide +kernel) (by decide +kernel) (by decide) (by decide +kernel) (by decide) (Or.inl rfl) R_67 f0 f_140 (fun hq => absurd hq (by decide)) g0 e_142 (fx_f (j := 2) R_67.2 g0 (by decide +kernel)) fun S_143 R_144 E_145 => ?_
        have E_147 := Ext.tr E E_145
        refine go_goto (o := 28) (t := 86) (by decide +kernel) (by decide +kernel) ?_
        refine go_iinc (n := 1) (c := 1) (c' := 1) (by decide +kernel) (by decide +kernel) l_74 f1 (by decide) fun L_148 v_149 f_150 l_151 kp_152 => ?_
        obtain ⟨x_153, e_154, h⟩ := lx_s h
        have f_155 := q_is_eq f_150 e_154
        have l_156 := kp_152 0 _ l_73 (by decide) (Or.inr (q_is_cat f0 (Or.inr rfl)))
        refine go_goto (o := (-61)) (t := 28) (by decide +kernel) (by decide +kernel) ?_
        exact ih m_141 E_147 h R_144 l_156 f0 l_151 f_155
noncomputable def fm_X2_countAgain (p0 : Int) (m0 : MM) : Option (Int × MM) := lx (m0 p0 0) fun x_4 =>
gd (okc m0 x_4 6) <| lx (m0 x_4 2) fun x_10 =>
up m0 p0 1 x_10 fun m_12 =>
up m_12 p0 2 0 fun m_22 =>
up m_22 p0 3 0 fun m_32 =>
up m_32 p0 4 0 fun m_42 =>
fl_X2_countAgain_28 p0  BIG 0 m_42
set_option maxHeartbeats 4000000 in
theorem om_X2_countAgain {xs : List Int32} {d : Nat} {S : QS} {m0 : MM} {p0 : Int} {v0 : Value} {rz : Int} {rm : MM}
  (hd : 3 ≤ d) (R : Rp S m0) (g0 : okc m0 p0 3) (f0 : q_is 2 v0 p0)
  (h : fm_X2_countAgain p0 m0 = some (rz, rm)) : Mt xs d 18 [v0] S (Cr 9 m0 rm rz) := by
  obtain ⟨d, rfl⟩ : ∃ e, d = e + 1 := ⟨d - 1, by omega⟩
  have hd : 2 ≤ d := Nat.le_of_succ_le_succ hd
  refine Mt.of (M := qM_X2_countAgain) rfl (by rw [sl_1 (q_is_cat f0 (Or.inr rfl)), sl_0]; decide) ?_
  rw [la_1 (q_is_cat f0 (Or.inr rfl)), la_0]
  obtain ⟨L, hL⟩ : ∃ L : QL, L = [(0, v0)] := ⟨_, rfl⟩
  rw [← hL]
  have l0 : q_lo L 0 = some v0 := by rw [hL]; rfl
  have hQ : Ext m0 rm → ∀ o S1, Rp S1 rm → q_out 9 o rz → (Cr 9 m0 rm rz) o S1 := fun a o S1 b e => ⟨b, a, e⟩
  unfold fm_X2_countAgain at h
  refine go_aload_n (n := 0) (by decide +kernel) l0 f0 ?_
  refine go_aload_n (n := 0) (by decide +kernel) l0 f0 ?_
  obtain ⟨x_4, e_5, h⟩ := lx_s h
  refine go_getf (x := 22) (ci := 3) (kf := 0) (fin := 1) (t := 2) (by decide +kernel) (by decide +kernel) (by decide +kernel) R f0 g0 fun v_1 f_2 => ?_
  have f_3 := q_is_eq f_2 e_5
  obtain ⟨g_8, h⟩ := gd_s h
  obtain ⟨x_10, e_11, h⟩ := lx_s h
  refine go_getf (x := 39) (ci := 6) (kf := 2) (fin := 0) (t := 0) (by decide +kernel) (by decide +kernel) (by decide +kernel) R f_3 g_8 fun v_6 f_7 => ?_
  have f_9 := q_is_eq f_7 e_11
  obtain ⟨m_12, e_13, h⟩ := up_s h
  refine go_putf (x := 9) (ci := 3) (kf := 1) (fin := 0) (zt := 0) (by decide +kernel) (by decide +kernel) (by decide) (by decide +kernel) (by decide) (Or.inl rfl) R f0 f_9 (fun hq => absurd hq (by decide)) g0 e_13 (fx_f (j := 1) R.2 g0 (by decide +kernel)) fun S_14 R_15 E_16 => ?_
  have E_18 := E_16
  refine go_aload_n (n := 0) (by decide +kernel) l0 f0 ?_
  refine go_iconst (n := 0) (z := 0) (by decide +kernel) (by decide) fun v_19 f_20 => ?_
  have g_21 := Ext.ok E_16 g0
  obtain ⟨m_22, e_23, h⟩ := up_s h
  refine go_putf (x := 13) (ci := 3) (kf := 2) (fin := 0) (zt := 0) (by decide +kernel) (by decide +kernel) (by decide) (by decide +kernel) (by decide) (Or.inl rfl) R_15 f0 f_20 (fun hq => absurd hq (by decide)) g_21 e_23 (fx_f (j := 2) R_15.2 g_21 (by decide +kernel)) fun S_24 R_25 E_26 => ?_
  have E_28 := Ext.tr E_18 E_26
  refine go_aload_n (n := 0) (by decide +kernel) l0 f0 ?_
  refine go_iconst (n := 0) (z := 0) (by decide +kernel) (by decide) fun v_29 f_30 => ?_
  have g_31 := Ext.ok E_26 g_21
  obtain ⟨m_32, e_33, h⟩ := up_s h
  refine go_putf (x := 16) (ci := 3) (kf := 3) (fin := 0) (zt := 0) (by decide +kernel) (by decide +kernel) (by decide) (by decide +kernel) (by decide) (Or.inl rfl) R_25 f0 f_30 (fun hq => absurd hq (by decide)) g_31 e_33 (fx_f (j := 3) R_25.2 g_31 (by decide +kernel)) fun S_34 R_35 E_36 => ?_
  have E_38 := Ext.tr E_28 E_36
  refine go_aload_n (n := 0) (by decide +kernel) l0 f0 ?_
  refine go_iconst (n := 0) (z := 0) (by decide +kernel) (by decide) fun v_39 f_40 => ?_
  have g_41 := Ext.ok E_36 g_31
  obtain ⟨m_42, e_43, h⟩ := up_s h
  refine go_putf (x := 19) (ci := 3) (kf := 4) (fin := 0) (zt := 0) (by decide +kernel) (by decide +kernel) (by decide) (by decide +kernel) (by decide) (Or.inl rfl) R_35 f0 f_40 (fun hq => absurd hq (by decide)) g_41 e_43 (fx_f (j := 4) R_35.2 g_41 (by decide +kernel)) fun S_44 R_45 E_46 => ?_
  have E_48 := Ext.tr E_38 E_46
  refine go_iconst (n := 0) (z := 0) (by decide +kernel) (by decide) fun v_49 f_50 => ?_
  refine go_istore_n (n := 1) (by decide +kernel) (by decide +kernel) f_50 fun L_51 l_52 kp_53 => ?_
  have l_54 := kp_53 0 _ l0 (by decide) (Or.inr (q_is_cat f0 (Or.inr rfl)))
  have g_157 := Ext.ok E_46 g_41
  refine ol_X2_countAgain_28 hd  g_157  (fun b => hQ (Ext.tr E_48 b)) BIG (Ext.rf _) h R_45 l_54 f0 l_52 f_50
end DF1
