/-! Methods as functions (written by wip/whole/dec.py), 1: X2_orderOfArrival, X5_add, X2_put, J7_copyOf_c38d5, X5_cut, X2_countAgain. -/
section DF1
noncomputable def fm_X2_orderOfArrival (p0 p1 : Int) (m0 : MM) : Option Int := lx (m0 p0 0) fun x_4 =>
gd (okc m0 x_4 6) <| bp (fm_X5_wide x_4 p1 m0) fun x_8 =>
some (iAnd (w32 (lUshr x_8 10)) 1048575)
set_option maxHeartbeats 4000000 in
theorem om_X2_orderOfArrival {xs : List Int32} {d : Nat} {S : QS} {m0 : MM} {p0 p1 : Int} {v0 : Value} {v1 : Value} {rz : Int}
  (hd : 2 ≤ d) (R : Rp S m0) (g0 : okc m0 p0 3) (f0 : q_is 2 v0 p0) (f1 : q_is 0 v1 p1)
  (h : fm_X2_orderOfArrival p0 p1 m0 = some rz) : Mt xs d 14 [v0, v1] S (Cr 0 m0 m0 rz) := by
  obtain ⟨d, rfl⟩ : ∃ e, d = e + 1 := ⟨d - 1, by omega⟩
  have hd : 1 ≤ d := Nat.le_of_succ_le_succ hd
  refine Mt.of (M := qM_X2_orderOfArrival) rfl (by rw [sl_1 (q_is_cat f0 (Or.inr rfl)), sl_1 (q_is_cat f1 (Or.inl rfl)), sl_0]; decide) ?_
  rw [la_1 (q_is_cat f0 (Or.inr rfl)), la_1 (q_is_cat f1 (Or.inl rfl)), la_0]
  obtain ⟨L, hL⟩ : ∃ L : QL, L = [(0, v0), (0 + 1, v1)] := ⟨_, rfl⟩
  rw [← hL]
  have l0 : q_lo L 0 = some v0 := by rw [hL]; rfl
  have l1 : q_lo L 1 = some v1 := by rw [hL]; rfl
  have hQ : ∀ o S1, Rp S1 m0 → q_out 0 o rz → (Cr 0 m0 m0 rz) o S1 := fun o S1 a b => ⟨a, Ext.rf _, b⟩
  unfold fm_X2_orderOfArrival at h
  refine go_aload_n (n := 0) (by decide +kernel) l0 f0 ?_
  obtain ⟨x_4, e_5, h⟩ := lx_s h
  refine go_getf (x := 22) (ci := 3) (kf := 0) (fin := 1) (t := 2) (by decide +kernel) (by decide +kernel) (by decide +kernel) R f0 g0 fun v_1 f_2 => ?_
  have f_3 := q_is_eq f_2 e_5
  refine go_iload_n (n := 1) (by decide +kernel) l1 f1 ?_
  obtain ⟨g_6, h⟩ := gd_s h
  obtain ⟨x_8, hc_7, h⟩ := bp_s h
  refine go_callV (x := 26) (mi := 58) (n := 1) (ci := 6) (as := [v1]) (rest := []) (by decide +kernel) (by decide +kernel) rfl rfl (q_sum8 _ (Nat.le_of_ble_eq_true rfl)) R f_3 g_6 (om_X5_wide (Nat.le_trans (by decide) hd) R g_6 f_3 f1 hc_7) (fun _ S_12 q_15 => ?_) (fun _ _ qq => kr_x qq)
  refine kr_z (by decide) q_15 fun v_10 f_11 R_13 E_14 => ?_
  refine go_bipush (n := 10) (z := 10) (by decide +kernel) (by decide) fun v_16 f_17 => ?_
  refine go_lushr (by decide +kernel) f_11 f_17 fun v_18 f_19 => ?_
  refine go_l2i (by decide +kernel) f_19 fun v_20 f_21 => ?_
  refine go_ldc (x := 34) (n := 1048575) (a := 0) (b := 0) (z := 1048575) (by decide +kernel) (by decide +kernel) (by decide +kernel) fun v_22 f_23 => ?_
  refine go_iand (by decide +kernel) f_21 f_23 fun v_24 f_25 => ?_
  cases h
  exact go_iret (by decide +kernel) rfl (Or.inl rfl) f_25 (hQ _ _ R_13 (q_out_v (by decide) f_25))
noncomputable def fj_X5_add_112 (p0 y1 y3 y4 : Int) (m : MM) : Option (Int × MM) := lx (m p0 0) fun x_65 =>
gd (okc m x_65 108) <| gd (okx m x_65 y3) <| lx (m x_65 y3) fun x_72 =>
gd (okc m x_72 101) <| if y4 < w32 (m x_72 (-2)) then
gd (okx m x_72 y4) <| up m x_72 y4 y1 fun m_85 =>
lx (m_85 p0 2) fun x_95 =>
up m_85 p0 2 (w32 (x_95 + 1)) fun m_101 =>
some (0, m_101)
else
some (0, m)
set_option maxHeartbeats 4000000 in
theorem oj_X5_add_112 {xs : List Int32} {d : Nat} {S : QS} {L : QL} {Q : QO → QS → Prop} {m : MM} {p0 y1 y3 y4 : Int} {v0 : Value} {v1 : Value} {v3 : Value} {v4 : Value}  {rz : Int} {rm : MM}
  (hd : 0 ≤ d) (R : Rp S m) (g0 : okc m p0 6) (l0 : q_lo L 0 = some v0) (f0 : q_is 2 v0 p0) (l1 : q_lo L 1 = some v1) (f1 : q_is 1 v1 y1) (l3 : q_lo L 3 = some v3) (f3 : q_is 0 v3 y3) (l4 : q_lo L 4 = some v4) (f4 : q_is 0 v4 y4)
  (hQ : Ext m rm → ∀ o S1, Rp S1 rm → q_out 9 o rz → Q o S1)
  (h : fj_X5_add_112 p0 y1 y3 y4 m = some (rz, rm)) : Go xs d qM_X5_add 112 L [] S Q := by
  unfold fj_X5_add_112 at h
  refine go_iload (n := 4) (by decide +kernel) l4 f4 ?_
  refine go_aload_n (n := 0) (by decide +kernel) l0 f0 ?_
  obtain ⟨x_65, e_66, h⟩ := lx_s h
  refine go_getf (x := 11) (ci := 6) (kf := 0) (fin := 0) (t := 2) (by decide +kernel) (by decide +kernel) (by decide +kernel) R f0 g0 fun v_62 f_63 => ?_
  have f_64 := q_is_eq f_63 e_66
  refine go_iload_n (n := 3) (by decide +kernel) l3 f3 ?_
  obtain ⟨g_69, h⟩ := gd_s h
  obtain ⟨g_70, h⟩ := gd_s h
  obtain ⟨x_72, e_73, h⟩ := lx_s h
  refine go_aald (kd := 108) (by decide +kernel) (by decide) R f_64 f3 g_69 g_70 fun v_67 f_68 => ?_
  have f_71 := q_is_eq f_68 e_73
  obtain ⟨g_76, h⟩ := gd_s h
  refine go_alen (by decide +kernel) R f_71 (okl_of g_76 (by decide)) fun v_74 f_75 => ?_
  refine go_icmp (c := .ge) (o := 23) (t := 144) (P := ¬ (y4 < w32 (m x_72 (-2)))) (by decide +kernel) (by decide +kernel) f4 f_75 (Int.not_lt.symm) (fun hp_77 => ?_) (fun hp_77 => ?_)
  · have h := it_f hp_77 h
    cases h
    exact go_vret (by decide +kernel) rfl (hQ (Ext.rf _) _ _ R q_out_n)
  · have h := it_n hp_77 h
    refine go_aload_n (n := 0) (by decide +kernel) l0 f0 ?_
    refine go_getf (x := 11) (ci := 6) (kf := 0) (fin := 0) (t := 2) (by decide +kernel) (by decide +kernel) (by decide +kernel) R f0 g0 fun v_78 f_79 => ?_
    have f_80 := q_is_eq f_79 e_66
    refine go_iload_n (n := 3) (by decide +kernel) l3 f3 ?_
    refine go_aald (kd := 108) (by decide +kernel) (by decide) R f_80 f3 g_69 g_70 fun v_81 f_82 => ?_
    have f_83 := q_is_eq f_82 e_73
    refine go_iload (n := 4) (by decide +kernel) l4 f4 ?_
    refine go_lload_n (n := 1) (by decide +kernel) l1 f1 ?_
    obtain ⟨g_84, h⟩ := gd_s h
    obtain ⟨m_85, e_86, h⟩ := up_s h
    refine go_last (kd := 101) (by decide +kernel) rfl R f_83 f4 f1 g_76 g_84 e_86 (fx_a R.2 g_76 (And.left g_84) (by decide +kernel)) fun S_87 R_88 E_89 => ?_
    have E_90 := E_89
    refine go_aload_n (n := 0) (by decide +kernel) l0 f0 ?_
    refine go_dup (by decide +kernel) f0 (Or.inr rfl) ?_
    have g_93 := Ext.ok E_89 g0
    obtain ⟨x_95, e_96, h⟩ := lx_s h
    refine go_getf (x := 19) (ci := 6) (kf := 2) (fin := 0) (t := 0) (by decide +kernel) (by decide +kernel) (by decide +kernel) R_88 f0 g_93 fun v_91 f_92 => ?_
    have f_94 := q_is_eq f_92 e_96
    refine go_iconst (n := 1) (z := 1) (by decide +kernel) (by decide) fun v_97 f_98 => ?_
    refine go_iadd (by decide +kernel) f_94 f_98 fun v_99 f_100 => ?_
    obtain ⟨m_101, e_102, h⟩ := up_s h
    refine go_putf (x := 19) (ci := 6) (kf := 2) (fin := 0) (zt := 0) (by decide +kernel) (by decide +kernel) (by decide) (by decide +kernel) (by decide) (Or.inl rfl) R_88 f0 f_100 (fun hq => absurd hq (by decide)) g_93 e_102 (fx_f (j := 2) R_88.2 g_93 (by decide +kernel)) fun S_103 R_104 E_105 => ?_
    have E_106 := Ext.tr E_90 E_105
    cases h
    exact go_vret (by decide +kernel) rfl (hQ E_106 _ _ R_104 q_out_n)
noncomputable def fj_X5_add_83 (p0 y1 y3 y4 : Int) (m : MM) : Option (Int × MM) := lx (m p0 0) fun x_46 =>
gd (okc m x_46 108) <| if y3 < w32 (m x_46 (-2)) then
gd (okx m x_46 y3) <| lx (m x_46 y3) fun x_59 =>
if x_59 = 0 then
nw m 101 64 fun x_112 m_113 =>
up m_113 x_46 y3 x_112 fun m_125 =>
fj_X5_add_112 p0 y1 y3 y4 m_125
else
fj_X5_add_112 p0 y1 y3 y4 m
else
some (0, m)
set_option maxHeartbeats 4000000 in
theorem oj_X5_add_83 {xs : List Int32} {d : Nat} {S : QS} {L : QL} {Q : QO → QS → Prop} {m : MM} {p0 y1 y3 y4 : Int} {v0 : Value} {v1 : Value} {v3 : Value} {v4 : Value}  {rz : Int} {rm : MM}
  (hd : 0 ≤ d) (R : Rp S m) (g0 : okc m p0 6) (l0 : q_lo L 0 = some v0) (f0 : q_is 2 v0 p0) (l1 : q_lo L 1 = some v1) (f1 : q_is 1 v1 y1) (l3 : q_lo L 3 = some v3) (f3 : q_is 0 v3 y3) (l4 : q_lo L 4 = some v4) (f4 : q_is 0 v4 y4)
  (hQ : Ext m rm → ∀ o S1, Rp S1 rm → q_out 9 o rz → Q o S1)
  (h : fj_X5_add_83 p0 y1 y3 y4 m = some (rz, rm)) : Go xs d qM_X5_add 83 L [] S Q := by
  unfold fj_X5_add_83 at h
  refine go_iload_n (n := 3) (by decide +kernel) l3 f3 ?_
  refine go_aload_n (n := 0) (by decide +kernel) l0 f0 ?_
  obtain ⟨x_46, e_47, h⟩ := lx_s h
  refine go_getf (x := 11) (ci := 6) (kf := 0) (fin := 0) (t := 2) (by decide +kernel) (by decide +kernel) (by decide +kernel) R f0 g0 fun v_43 f_44 => ?_
  have f_45 := q_is_eq f_44 e_47
  obtain ⟨g_50, h⟩ := gd_s h
  refine go_alen (by decide +kernel) R f_45 (okl_of g_50 (by decide)) fun v_48 f_49 => ?_
  refine go_icmp (c := .lt) (o := 4) (t := 93) (P := y3 < w32 (m x_46 (-2))) (by decide +kernel) (by decide +kernel) f3 f_49 (Iff.rfl) (fun hp_51 => ?_) (fun hp_51 => ?_)
  · have h := it_t hp_51 h
    refine go_aload_n (n := 0) (by decide +kernel) l0 f0 ?_
    refine go_getf (x := 11) (ci := 6) (kf := 0) (fin := 0) (t := 2) (by decide +kernel) (by decide +kernel) (by decide +kernel) R f0 g0 fun v_52 f_53 => ?_
    have f_54 := q_is_eq f_53 e_47
    refine go_iload_n (n := 3) (by decide +kernel) l3 f3 ?_
    obtain ⟨g_57, h⟩ := gd_s h
    obtain ⟨x_59, e_60, h⟩ := lx_s h
    refine go_aald (kd := 108) (by decide +kernel) (by decide) R f_54 f3 g_50 g_57 fun v_55 f_56 => ?_
    have f_58 := q_is_eq f_56 e_60
    refine go_ifnonnull (o := 13) (t := 112) (by decide +kernel) (by decide +kernel) f_58 (fun hp_61 => ?_) (fun hp_61 => ?_)
    · have h := it_f hp_61 h
      exact oj_X5_add_112 hd R g0 l0 f0 l1 f1 l3 f3 l4 f4 hQ h
    · have h := it_n hp_61 h
      refine go_aload_n (n := 0) (by decide +kernel) l0 f0 ?_
      refine go_getf (x := 11) (ci := 6) (kf := 0) (fin := 0) (t := 2) (by decide +kernel) (by decide +kernel) (by decide +kernel) R f0 g0 fun v_107 f_108 => ?_
      have f_109 := q_is_eq f_108 e_47
      refine go_iload_n (n := 3) (by decide +kernel) l3 f3 ?_
      refine go_bipush (n := 64) (z := 64) (by decide +kernel) (by decide) fun v_110 f_111 => ?_
      obtain ⟨x_112, m_113, e_114, e_115, h⟩ := nw_s h
      have g_121 := okc_nw (c := 101) R e_114 e_115
      refine go_newa (t := .long) (kd := 101) (by decide +kernel) (by decide) f_111 (by decide) R e_114 e_115 fun v_116 S_118 f_117 R_119 E_120 => ?_
      have E_122 := E_120
      have g_123 := Ext.ok E_120 g_50
      have g_124 := Ext.okx E_120 g_50 g_57
      obtain ⟨m_125, e_126, h⟩ := up_s h
      refine go_aast (kd := 108) (vk := 101) (by decide +kernel) (by decide) R_119 f_109 f3 f_117 g_123 g_124 (Or.inr g_121) e_126 (fx_a R_119.2 g_123 (And.left g_124) (by decide +kernel)) fun S_127 R_128 E_129 => ?_
      have E_130 := Ext.tr E_122 E_129
      have g_131 := Ext.ok (Ext.tr E_120 E_129) g0
      exact oj_X5_add_112 hd R_128 g_131 l0 f0 l1 f1 l3 f3 l4 f4 (fun b => hQ (Ext.tr E_130 b)) h
  · have h := it_f hp_51 h
    cases h
    exact go_vret (by decide +kernel) rfl (hQ (Ext.rf _) _ _ R q_out_n)
noncomputable def fl_X5_add_41 (p0 y1 y3 y4 y5 : Int) (k77 : MM → Option (Int × MM)) : Nat → Int → MM → Option (Int × MM)
  | 0, _, _ => none
  | n + 1, y6, m => lx (m p0 0) fun x_173 =>
gd (okc m x_173 108) <| if y6 < w32 (m x_173 (-2)) then
gd (okc m y5 108) <| if y6 < w32 (m y5 (-2)) then
gd (okx m x_173 y6) <| lx (m x_173 y6) fun x_190 =>
gd (okx m y5 y6) <| gd (x_190 = 0 ∨ okc m x_190 101) <| up m y5 y6 x_190 fun m_193 =>
lx (w32 (y6 + 1)) fun x_205 =>
fl_X5_add_41 p0 y1 y3 y4 y5 k77 n x_205 m_193
else
k77 m
else
k77 m
set_option maxHeartbeats 4000000 in
theorem ol_X5_add_41 {xs : List Int32} {d : Nat} {Q : QO → QS → Prop} {mb : MM} {p0 y1 y3 y4 y5 : Int} {k77 : MM → Option (Int × MM)} {rz : Int} {rm : MM}
  (hd : 0 ≤ d) (gb : okc mb p0 6)
  (hk77 : ∀ mq : MM, Ext mb mq → ∀ {Sq : QS} {Lq : QL} {u0 : Value} {u1 : Value} {u3 : Value} {u4 : Value} {u5 : Value}, k77 mq = some (rz, rm) → Rp Sq mq → q_lo Lq 0 = some u0 → q_is 2 u0 p0 → q_lo Lq 1 = some u1 → q_is 1 u1 y1 → q_lo Lq 3 = some u3 → q_is 0 u3 y3 → q_lo Lq 4 = some u4 → q_is 0 u4 y4 → q_lo Lq 5 = some u5 → q_is 2 u5 y5 → Go xs d qM_X5_add 77 Lq [] Sq Q)
  (hQ : Ext mb rm → ∀ o S1, Rp S1 rm → q_out 9 o rz → Q o S1) :
  ∀ (n : Nat) {m : MM} {S : QS} {L : QL} {y6 : Int} {v0 : Value} {v1 : Value} {v3 : Value} {v4 : Value} {v5 : Value} {v6 : Value} , Ext mb m → fl_X5_add_41 p0 y1 y3 y4 y5 k77 n y6 m = some (rz, rm) → Rp S m → q_lo L 0 = some v0 → q_is 2 v0 p0 → q_lo L 1 = some v1 → q_is 1 v1 y1 → q_lo L 3 = some v3 → q_is 0 v3 y3 → q_lo L 4 = some v4 → q_is 0 v4 y4 → q_lo L 5 = some v5 → q_is 2 v5 y5 → q_lo L 6 = some v6 → q_is 0 v6 y6 → Go xs d qM_X5_add 41 L [] S Q := by
  intro n
  induction n with
  | zero => intro m S L y6 v0 v1 v3 v4 v5 v6; intro E h R l0 f0 l1 f1 l3 f3 l4 f4 l5 f5 l6 f6; cases h
  | succ n ih0 =>
    intro m S L y6 v0 v1 v3 v4 v5 v6; intro E h R l0 f0 l1 f1 l3 f3 l4 f4 l5 f5 l6 f6
    have ih : ∀ mq : MM, Ext mb mq → ∀ {z6 : Int} {Sq : QS} {Lq : QL} {u0 : Value} {u1 : Value} {u3 : Value} {u4 : Value} {u5 : Value} {u6 : Value}, fl_X5_add_41 p0 y1 y3 y4 y5 k77 n z6 mq = some (rz, rm) → Rp Sq mq → q_lo Lq 0 = some u0 → q_is 2 u0 p0 → q_lo Lq 1 = some u1 → q_is 1 u1 y1 → q_lo Lq 3 = some u3 → q_is 0 u3 y3 → q_lo Lq 4 = some u4 → q_is 0 u4 y4 → q_lo Lq 5 = some u5 → q_is 2 u5 y5 → q_lo Lq 6 = some u6 → q_is 0 u6 z6 → Go xs d qM_X5_add 41 Lq [] Sq Q := fun mq b => by intros; exact ih0 b ‹_› ‹_› ‹_› ‹_› ‹_› ‹_› ‹_› ‹_› ‹_› ‹_› ‹_› ‹_› ‹_› ‹_›
    have g0 := Ext.ok E gb
    unfold fl_X5_add_41 at h
    refine go_iload (n := 6) (by decide +kernel) l6 f6 ?_
    refine go_aload_n (n := 0) (by decide +kernel) l0 f0 ?_
    obtain ⟨x_173, e_174, h⟩ := lx_s h
    refine go_getf (x := 11) (ci := 6) (kf := 0) (fin := 0) (t := 2) (by decide +kernel) (by decide +kernel) (by decide +kernel) R f0 g0 fun v_170 f_171 => ?_
    have f_172 := q_is_eq f_171 e_174
    obtain ⟨g_177, h⟩ := gd_s h
    refine go_alen (by decide +kernel) R f_172 (okl_of g_177 (by decide)) fun v_175 f_176 => ?_
    refine go_icmp (c := .ge) (o := 29) (t := 77) (P := ¬ (y6 < w32 (m x_173 (-2)))) (by decide +kernel) (by decide +kernel) f6 f_176 (Int.not_lt.symm) (fun hp_178 => ?_) (fun hp_178 => ?_)
    · have h := it_f hp_178 h
      exact hk77 m E h R l0 f0 l1 f1 l3 f3 l4 f4 l5 f5
    · have h := it_n hp_178 h
      refine go_iload (n := 6) (by decide +kernel) l6 f6 ?_
      refine go_aload (n := 5) (by decide +kernel) l5 f5 ?_
      obtain ⟨g_181, h⟩ := gd_s h
      refine go_alen (by decide +kernel) R f5 (okl_of g_181 (by decide)) fun v_179 f_180 => ?_
      refine go_icmp (c := .ge) (o := 21) (t := 77) (P := ¬ (y6 < w32 (m y5 (-2)))) (by decide +kernel) (by decide +kernel) f6 f_180 (Int.not_lt.symm) (fun hp_182 => ?_) (fun hp_182 => ?_)
      · have h := it_f hp_182 h
        exact hk77 m E h R l0 f0 l1 f1 l3 f3 l4 f4 l5 f5
      · have h := it_n hp_182 h
        refine go_aload (n := 5) (by decide +kernel) l5 f5 ?_
        refine go_iload (n := 6) (by decide +kernel) l6 f6 ?_
        refine go_aload_n (n := 0) (by decide +kernel) l0 f0 ?_
        refine go_getf (x := 11) (ci := 6) (kf := 0) (fin := 0) (t := 2) (by decide +kernel) (by decide +kernel) (by decide +kernel) R f0 g0 fun v_183 f_184 => ?_
        have f_185 := q_is_eq f_184 e_174
        refine go_iload (n := 6) (by decide +kernel) l6 f6 ?_
        obtain ⟨g_188, h⟩ := gd_s h
        obtain ⟨x_190, e_191, h⟩ := lx_s h
        refine go_aald (kd := 108) (by decide +kernel) (by decide) R f_185 f6 g_177 g_188 fun v_186 f_187 => ?_
        have f_189 := q_is_eq f_187 e_191
        obtain ⟨g_192, h⟩ := gd_s h
        obtain ⟨g_198, h⟩ := gd_s h
        obtain ⟨m_193, e_194, h⟩ := up_s h
        refine go_aast (kd := 108) (vk := 101) (by decide +kernel) (by decide) R f5 f6 f_189 g_181 g_192 g_198 e_194 (fx_a R.2 g_181 (And.left g_192) (by decide +kernel)) fun S_195 R_196 E_197 => ?_
        have E_199 := Ext.tr E E_197
        refine go_iinc (n := 6) (c := 1) (c' := 1) (by decide +kernel) (by decide +kernel) l6 f6 (by decide) fun L_200 v_201 f_202 l_203 kp_204 => ?_
        obtain ⟨x_205, e_206, h⟩ := lx_s h
        have f_207 := q_is_eq f_202 e_206
        have l_208 := kp_204 0 _ l0 (by decide) (Or.inl (by decide))
        have l_209 := kp_204 1 _ l1 (by decide) (Or.inl (by decide))
        have l_210 := kp_204 3 _ l3 (by decide) (Or.inl (by decide))
        have l_211 := kp_204 4 _ l4 (by decide) (Or.inl (by decide))
        have l_212 := kp_204 5 _ l5 (by decide) (Or.inr (q_is_cat f5 (Or.inr rfl)))
        refine go_goto (o := (-33)) (t := 41) (by decide +kernel) (by decide +kernel) ?_
        exact ih m_193 E_199 h R_196 l_208 f0 l_209 f1 l_210 f3 l_211 f4 l_212 f5 l_203 f_207
noncomputable def fm_X5_add (p0 p1 : Int) (m0 : MM) : Option (Int × MM) := lx (m0 p0 2) fun x_4 =>
lx (iShr x_4 6) fun x_10 =>
lx (iAnd x_4 63) fun x_25 =>
lx (m0 p0 0) fun x_37 =>
gd (okc m0 x_37 108) <| if x_10 < w32 (m0 x_37 (-2)) then
fj_X5_add_83 p0 p1 x_10 x_25 m0
else
gd (0 ≤ w32 (2 * (w32 (m0 x_37 (-2)))) ∧ w32 (2 * (w32 (m0 x_37 (-2)))) < 60000000) <| nw m0 108 (w32 (2 * (w32 (m0 x_37 (-2))))) fun x_142 m_143 =>
fl_X5_add_41 p0 p1 x_10 x_25 x_142 (fun m_231 =>
up m_231 p0 0 x_142 fun m_235 =>
fj_X5_add_83 p0 p1 x_10 x_25 m_235) BIG 0 m_143
set_option maxHeartbeats 4000000 in
theorem om_X5_add {xs : List Int32} {d : Nat} {S : QS} {m0 : MM} {p0 p1 : Int} {v0 : Value} {v1 : Value} {rz : Int} {rm : MM}
  (hd : 1 ≤ d) (R : Rp S m0) (g0 : okc m0 p0 6) (f0 : q_is 2 v0 p0) (f1 : q_is 1 v1 p1)
  (h : fm_X5_add p0 p1 m0 = some (rz, rm)) : Mt xs d 60 [v0, v1] S (Cr 9 m0 rm rz) := by
  obtain ⟨d, rfl⟩ : ∃ e, d = e + 1 := ⟨d - 1, by omega⟩
  have hd : 0 ≤ d := Nat.le_of_succ_le_succ hd
  refine Mt.of (M := qM_X5_add) rfl (by rw [sl_1 (q_is_cat f0 (Or.inr rfl)), sl_2 (q_is_cat2 f1), sl_0]; decide) ?_
  rw [la_1 (q_is_cat f0 (Or.inr rfl)), la_2 (q_is_cat2 f1), la_0]
  obtain ⟨L, hL⟩ : ∃ L : QL, L = [(0, v0), (0 + 1, v1)] := ⟨_, rfl⟩
  rw [← hL]
  have l0 : q_lo L 0 = some v0 := by rw [hL]; rfl
  have l1 : q_lo L 1 = some v1 := by rw [hL]; rfl
  have hQ : Ext m0 rm → ∀ o S1, Rp S1 rm → q_out 9 o rz → (Cr 9 m0 rm rz) o S1 := fun a o S1 b e => ⟨b, a, e⟩
  unfold fm_X5_add at h
  refine go_aload_n (n := 0) (by decide +kernel) l0 f0 ?_
  obtain ⟨x_4, e_5, h⟩ := lx_s h
  refine go_getf (x := 19) (ci := 6) (kf := 2) (fin := 0) (t := 0) (by decide +kernel) (by decide +kernel) (by decide +kernel) R f0 g0 fun v_1 f_2 => ?_
  have f_3 := q_is_eq f_2 e_5
  refine go_bipush (n := 6) (z := 6) (by decide +kernel) (by decide) fun v_6 f_7 => ?_
  refine go_ishr (by decide +kernel) f_3 f_7 fun v_8 f_9 => ?_
  obtain ⟨x_10, e_11, h⟩ := lx_s h
  have f_12 := q_is_eq f_9 e_11
  refine go_istore_n (n := 3) (by decide +kernel) (by decide +kernel) f_12 fun L_13 l_14 kp_15 => ?_
  have l_16 := kp_15 0 _ l0 (by decide) (Or.inl (by decide))
  have l_17 := kp_15 1 _ l1 (by decide) (Or.inl (by decide))
  refine go_aload_n (n := 0) (by decide +kernel) l_16 f0 ?_
  refine go_getf (x := 19) (ci := 6) (kf := 2) (fin := 0) (t := 0) (by decide +kernel) (by decide +kernel) (by decide +kernel) R f0 g0 fun v_18 f_19 => ?_
  have f_20 := q_is_eq f_19 e_5
  refine go_bipush (n := 63) (z := 63) (by decide +kernel) (by decide) fun v_21 f_22 => ?_
  refine go_iand (by decide +kernel) f_20 f_22 fun v_23 f_24 => ?_
  obtain ⟨x_25, e_26, h⟩ := lx_s h
  have f_27 := q_is_eq f_24 e_26
  refine go_istore (n := 4) (by decide +kernel) (by decide +kernel) f_27 fun L_28 l_29 kp_30 => ?_
  have l_31 := kp_30 0 _ l_16 (by decide) (Or.inl (by decide))
  have l_32 := kp_30 1 _ l_17 (by decide) (Or.inl (by decide))
  have l_33 := kp_30 3 _ l_14 (by decide) (Or.inr (q_is_cat f_12 (Or.inl rfl)))
  refine go_iload_n (n := 3) (by decide +kernel) l_33 f_12 ?_
  refine go_aload_n (n := 0) (by decide +kernel) l_31 f0 ?_
  obtain ⟨x_37, e_38, h⟩ := lx_s h
  refine go_getf (x := 11) (ci := 6) (kf := 0) (fin := 0) (t := 2) (by decide +kernel) (by decide +kernel) (by decide +kernel) R f0 g0 fun v_34 f_35 => ?_
  have f_36 := q_is_eq f_35 e_38
  obtain ⟨g_41, h⟩ := gd_s h
  refine go_alen (by decide +kernel) R f_36 (okl_of g_41 (by decide)) fun v_39 f_40 => ?_
  refine go_icmp (c := .lt) (o := 60) (t := 83) (P := x_10 < w32 (m0 x_37 (-2))) (by decide +kernel) (by decide +kernel) f_12 f_40 (Iff.rfl) (fun hp_42 => ?_) (fun hp_42 => ?_)
  · have h := it_t hp_42 h
    exact oj_X5_add_83 hd R g0 l_31 f0 l_32 f1 l_33 f_12 l_29 f_27 hQ h
  · have h := it_f hp_42 h
    refine go_iconst (n := 2) (z := 2) (by decide +kernel) (by decide) fun v_132 f_133 => ?_
    refine go_aload_n (n := 0) (by decide +kernel) l_31 f0 ?_
    refine go_getf (x := 11) (ci := 6) (kf := 0) (fin := 0) (t := 2) (by decide +kernel) (by decide +kernel) (by decide +kernel) R f0 g0 fun v_134 f_135 => ?_
    have f_136 := q_is_eq f_135 e_38
    refine go_alen (by decide +kernel) R f_136 (okl_of g_41 (by decide)) fun v_137 f_138 => ?_
    refine go_imul (by decide +kernel) f_133 f_138 fun v_139 f_140 => ?_
    obtain ⟨g_141, h⟩ := gd_s h
    obtain ⟨x_142, m_143, e_144, e_145, h⟩ := nw_s h
    have g_151 := okc_nw (c := 108) R e_144 e_145
    refine go_anewa (x := 9) (kd := 108) (a := 0) (b := 0) (by decide +kernel) (by decide +kernel) f_140 g_141 R e_144 e_145 fun v_146 S_148 f_147 R_149 E_150 => ?_
    have E_152 := E_150
    refine go_astore (n := 5) (by decide +kernel) (by decide +kernel) f_147 fun L_153 l_154 kp_155 => ?_
    have l_156 := kp_155 0 _ l_31 (by decide) (Or.inl (by decide))
    have l_157 := kp_155 1 _ l_32 (by decide) (Or.inl (by decide))
    have l_158 := kp_155 3 _ l_33 (by decide) (Or.inl (by decide))
    have l_159 := kp_155 4 _ l_29 (by decide) (Or.inr (q_is_cat f_27 (Or.inl rfl)))
    refine go_iconst (n := 0) (z := 0) (by decide +kernel) (by decide) fun v_160 f_161 => ?_
    refine go_istore (n := 6) (by decide +kernel) (by decide +kernel) f_161 fun L_162 l_163 kp_164 => ?_
    have l_165 := kp_164 0 _ l_156 (by decide) (Or.inl (by decide))
    have l_166 := kp_164 1 _ l_157 (by decide) (Or.inl (by decide))
    have l_167 := kp_164 3 _ l_158 (by decide) (Or.inl (by decide))
    have l_168 := kp_164 4 _ l_159 (by decide) (Or.inl (by decide))
    have l_169 := kp_164 5 _ l_154 (by decide) (Or.inr (q_is_cat f_147 (Or.inr rfl)))
    have g_242 := Ext.ok E_150 g0
    refine ol_X5_add_41 hd  g_242 ?_ (fun b => hQ (Ext.tr E_152 b)) BIG (Ext.rf _) h R_149 l_165 f0 l_166 f1 l_167 f_12 l_168 f_27 l_169 f_147 l_163 f_161
    intro m_231 E_232
    intro S_228 L_229 v_213 v_214 v_215 v_216 v_217
    intro h R_230 l_218 f_223 l_219 f_224 l_220 f_225 l_221 f_226 l_222 f_227
    have E_233 := Ext.tr E_152 E_232
    refine go_aload_n (n := 0) (by decide +kernel) l_218 f_223 ?_
    refine go_aload (n := 5) (by decide +kernel) l_222 f_227 ?_
    have g_234 := Ext.ok (Ext.tr E_150 E_232) g0
    obtain ⟨m_235, e_236, h⟩ := up_s h
    refine go_putf (x := 11) (ci := 6) (kf := 0) (fin := 0) (zt := 2) (by decide +kernel) (by decide +kernel) (by decide) (by decide +kernel) (by decide) (Or.inl rfl) R_230 f_223 f_227 (fun hq => absurd hq (by decide)) g_234 e_236 (fx_f (j := 0) R_230.2 g_234 (by decide +kernel)) fun S_237 R_238 E_239 => ?_
    have E_240 := Ext.tr E_233 E_239
    have g_241 := Ext.ok E_239 g_234
    exact oj_X5_add_83 hd R_238 g_241 l_218 f_223 l_219 f_224 l_220 f_225 l_221 f_226 (fun b => hQ (Ext.tr E_240 b)) h
noncomputable def fj_X2_put_27 (p0 y1 y2 y3 y6 : Int) (m : MM) : Option (Int × MM) := lx (m p0 0) fun x_16 =>
gd (okc m x_16 6) <| bd (fm_X5_add x_16 (lOr (lOr (lOr (lShl y1 59) (lShl (iAnd y2 524287) 40)) (lShl (iAnd y3 1023) 30)) (iAnd y6 1073741823)) m) fun x_58 m_59 =>
lx (m_59 p0 0) fun x_71 =>
gd (okc m_59 x_71 6) <| lx (m_59 x_71 2) fun x_77 =>
up m_59 p0 1 x_77 fun m_79 =>
if 7 < y1 then
if y1 = 17 then
lx (m_79 p0 3) fun x_95 =>
up m_79 p0 3 (w32 (x_95 + 1)) fun m_101 =>
up m_101 p0 4 y2 fun m_108 =>
some (0, m_108)
else
some (0, m_79)
else
lx (m_79 p0 2) fun x_118 =>
up m_79 p0 2 (w32 (x_118 + 1)) fun m_124 =>
some (0, m_124)
set_option maxHeartbeats 4000000 in
theorem oj_X2_put_27 {xs : List Int32} {d : Nat} {S : QS} {L : QL} {Q : QO → QS → Prop} {m : MM} {p0 y1 y2 y3 y6 : Int} {v0 : Value} {v1 : Value} {v2 : Value} {v3 : Value} {v6 : Value}  {rz : Int} {rm : MM}
  (hd : 1 ≤ d) (R : Rp S m) (g0 : okc m p0 3) (l0 : q_lo L 0 = some v0) (f0 : q_is 2 v0 p0) (l1 : q_lo L 1 = some v1) (f1 : q_is 0 v1 y1) (l2 : q_lo L 2 = some v2) (f2 : q_is 0 v2 y2) (l3 : q_lo L 3 = some v3) (f3 : q_is 0 v3 y3) (l6 : q_lo L 6 = some v6) (f6 : q_is 0 v6 y6)
  (hQ : Ext m rm → ∀ o S1, Rp S1 rm → q_out 9 o rz → Q o S1)
  (h : fj_X2_put_27 p0 y1 y2 y3 y6 m = some (rz, rm)) : Go xs d qM_X2_put 27 L [] S Q := by
  unfold fj_X2_put_27 at h
  refine go_aload_n (n := 0) (by decide +kernel) l0 f0 ?_
  obtain ⟨x_16, e_17, h⟩ := lx_s h
  refine go_getf (x := 22) (ci := 3) (kf := 0) (fin := 1) (t := 2) (by decide +kernel) (by decide +kernel) (by decide +kernel) R f0 g0 fun v_13 f_14 => ?_
  have f_15 := q_is_eq f_14 e_17
  refine go_iload_n (n := 1) (by decide +kernel) l1 f1 ?_
  refine go_i2l (by decide +kernel) f1 fun v_18 f_19 => ?_
  refine go_bipush (n := 59) (z := 59) (by decide +kernel) (by decide) fun v_20 f_21 => ?_
  refine go_lshl (by decide +kernel) f_19 f_21 fun v_22 f_23 => ?_
  refine go_iload_n (n := 2) (by decide +kernel) l2 f2 ?_
  refine go_ldc (x := 32) (n := 524287) (a := 0) (b := 0) (z := 524287) (by decide +kernel) (by decide +kernel) (by decide +kernel) fun v_24 f_25 => ?_
  refine go_iand (by decide +kernel) f2 f_25 fun v_26 f_27 => ?_
  refine go_i2l (by decide +kernel) f_27 fun v_28 f_29 => ?_
  refine go_bipush (n := 40) (z := 40) (by decide +kernel) (by decide) fun v_30 f_31 => ?_
  refine go_lshl (by decide +kernel) f_29 f_31 fun v_32 f_33 => ?_
  refine go_lor (by decide +kernel) f_23 f_33 fun v_34 f_35 => ?_
  refine go_iload_n (n := 3) (by decide +kernel) l3 f3 ?_
  refine go_sipush (n := 1023) (z := 1023) (by decide +kernel) (by decide) fun v_36 f_37 => ?_
  refine go_iand (by decide +kernel) f3 f_37 fun v_38 f_39 => ?_
  refine go_i2l (by decide +kernel) f_39 fun v_40 f_41 => ?_
  refine go_bipush (n := 30) (z := 30) (by decide +kernel) (by decide) fun v_42 f_43 => ?_
  refine go_lshl (by decide +kernel) f_41 f_43 fun v_44 f_45 => ?_
  refine go_lor (by decide +kernel) f_35 f_45 fun v_46 f_47 => ?_
  refine go_iload (n := 6) (by decide +kernel) l6 f6 ?_
  refine go_ldc (x := 33) (n := 1073741823) (a := 0) (b := 0) (z := 1073741823) (by decide +kernel) (by decide +kernel) (by decide +kernel) fun v_48 f_49 => ?_
  refine go_iand (by decide +kernel) f6 f_49 fun v_50 f_51 => ?_
  refine go_i2l (by decide +kernel) f_51 fun v_52 f_53 => ?_
  refine go_lor (by decide +kernel) f_47 f_53 fun v_54 f_55 => ?_
  obtain ⟨g_56, h⟩ := gd_s h
  obtain ⟨x_58, m_59, hc_57, h⟩ := bd_s h
  refine go_callV (x := 35) (mi := 60) (n := 1) (ci := 6) (as := [v_54]) (rest := []) (by decide +kernel) (by decide +kernel) rfl rfl (q_sum8 _ (Nat.le_of_ble_eq_true rfl)) R f_15 g_56 (om_X5_add (Nat.le_trans (by decide) hd) R g_56 f_15 f_55 hc_57) (fun _ S_62 q_65 => ?_) (fun _ _ qq => kr_x qq)
  refine kr_v q_65 fun R_63 E_64 => ?_
  have E_66 := E_64
  refine go_aload_n (n := 0) (by decide +kernel) l0 f0 ?_
  refine go_aload_n (n := 0) (by decide +kernel) l0 f0 ?_
  have g_69 := Ext.ok E_64 g0
  obtain ⟨x_71, e_72, h⟩ := lx_s h
  refine go_getf (x := 22) (ci := 3) (kf := 0) (fin := 1) (t := 2) (by decide +kernel) (by decide +kernel) (by decide +kernel) R_63 f0 g_69 fun v_67 f_68 => ?_
  have f_70 := q_is_eq f_68 e_72
  obtain ⟨g_75, h⟩ := gd_s h
  obtain ⟨x_77, e_78, h⟩ := lx_s h
  refine go_getf (x := 39) (ci := 6) (kf := 2) (fin := 0) (t := 0) (by decide +kernel) (by decide +kernel) (by decide +kernel) R_63 f_70 g_75 fun v_73 f_74 => ?_
  have f_76 := q_is_eq f_74 e_78
  obtain ⟨m_79, e_80, h⟩ := up_s h
  refine go_putf (x := 9) (ci := 3) (kf := 1) (fin := 0) (zt := 0) (by decide +kernel) (by decide +kernel) (by decide) (by decide +kernel) (by decide) (Or.inl rfl) R_63 f0 f_76 (fun hq => absurd hq (by decide)) g_69 e_80 (fx_f (j := 1) R_63.2 g_69 (by decide +kernel)) fun S_81 R_82 E_83 => ?_
  have E_84 := Ext.tr E_66 E_83
  refine go_iload_n (n := 1) (by decide +kernel) l1 f1 ?_
  refine go_bipush (n := 7) (z := 7) (by decide +kernel) (by decide) fun v_85 f_86 => ?_
  refine go_icmp (c := .gt) (o := 16) (t := 95) (P := 7 < y1) (by decide +kernel) (by decide +kernel) f1 f_86 (Iff.rfl) (fun hp_87 => ?_) (fun hp_87 => ?_)
  · have h := it_t hp_87 h
    refine go_iload_n (n := 1) (by decide +kernel) l1 f1 ?_
    refine go_bipush (n := 17) (z := 17) (by decide +kernel) (by decide) fun v_88 f_89 => ?_
    refine go_icmp (c := .ne) (o := 18) (t := 116) (P := ¬ (y1 = 17)) (by decide +kernel) (by decide +kernel) f1 f_89 (Iff.rfl) (fun hp_90 => ?_) (fun hp_90 => ?_)
    · have h := it_f hp_90 h
      cases h
      exact go_vret (by decide +kernel) rfl (hQ E_84 _ _ R_82 q_out_n)
    · have h := it_n hp_90 h
      refine go_aload_n (n := 0) (by decide +kernel) l0 f0 ?_
      refine go_dup (by decide +kernel) f0 (Or.inr rfl) ?_
      have g_93 := Ext.ok E_83 g_69
      obtain ⟨x_95, e_96, h⟩ := lx_s h
      refine go_getf (x := 16) (ci := 3) (kf := 3) (fin := 0) (t := 0) (by decide +kernel) (by decide +kernel) (by decide +kernel) R_82 f0 g_93 fun v_91 f_92 => ?_
      have f_94 := q_is_eq f_92 e_96
      refine go_iconst (n := 1) (z := 1) (by decide +kernel) (by decide) fun v_97 f_98 => ?_
      refine go_iadd (by decide +kernel) f_94 f_98 fun v_99 f_100 => ?_
      obtain ⟨m_101, e_102, h⟩ := up_s h
      refine go_putf (x := 16) (ci := 3) (kf := 3) (fin := 0) (zt := 0) (by decide +kernel) (by decide +kernel) (by decide) (by decide +kernel) (by decide) (Or.inl rfl) R_82 f0 f_100 (fun hq => absurd hq (by decide)) g_93 e_102 (fx_f (j := 3) R_82.2 g_93 (by decide +kernel)) fun S_103 R_104 E_105 => ?_
      have E_106 := Ext.tr E_84 E_105
      refine go_aload_n (n := 0) (by decide +kernel) l0 f0 ?_
      refine go_iload_n (n := 2) (by decide +kernel) l2 f2 ?_
      have g_107 := Ext.ok E_105 g_93
      obtain ⟨m_108, e_109, h⟩ := up_s h
      refine go_putf (x := 19) (ci := 3) (kf := 4) (fin := 0) (zt := 0) (by decide +kernel) (by decide +kernel) (by decide) (by decide +kernel) (by decide) (Or.inl rfl) R_104 f0 f2 (fun hq => absurd hq (by decide)) g_107 e_109 (fx_f (j := 4) R_104.2 g_107 (by decide +kernel)) fun S_110 R_111 E_112 => ?_
      have E_113 := Ext.tr E_106 E_112
      cases h
      exact go_vret (by decide +kernel) rfl (hQ E_113 _ _ R_111 q_out_n)
  · have h := it_f hp_87 h
    refine go_aload_n (n := 0) (by decide +kernel) l0 f0 ?_
    refine go_dup (by decide +kernel) f0 (Or.inr rfl) ?_
    have g_116 := Ext.ok E_83 g_69
    obtain ⟨x_118, e_119, h⟩ := lx_s h
    refine go_getf (x := 13) (ci := 3) (kf := 2) (fin := 0) (t := 0) (by decide +kernel) (by decide +kernel) (by decide +kernel) R_82 f0 g_116 fun v_114 f_115 => ?_
    have f_117 := q_is_eq f_115 e_119
    refine go_iconst (n := 1) (z := 1) (by decide +kernel) (by decide) fun v_120 f_121 => ?_
    refine go_iadd (by decide +kernel) f_117 f_121 fun v_122 f_123 => ?_
    obtain ⟨m_124, e_125, h⟩ := up_s h
    refine go_putf (x := 13) (ci := 3) (kf := 2) (fin := 0) (zt := 0) (by decide +kernel) (by decide +kernel) (by decide) (by decide +kernel) (by decide) (Or.inl rfl) R_82 f0 f_123 (fun hq => absurd hq (by decide)) g_116 e_125 (fx_f (j := 2) R_82.2 g_116 (by decide +kernel)) fun S_126 R_127 E_128 => ?_
    have E_129 := Ext.tr E_84 E_128
    refine go_goto (o := 24) (t := 116) (by decide +kernel) (by decide +kernel) ?_
    cases h
    exact go_vret (by decide +kernel) rfl (hQ E_129 _ _ R_127 q_out_n)
noncomputable def fm_X2_put (p0 p1 p2 p3 p4 p5 : Int) (m0 : MM) : Option (Int × MM) := if 7 < p1 then
fj_X2_put_27 p0 p1 p2 p3 p4 m0
else
lx (iOr (iShl (iAnd p5 1048575) 10) (Int.tmod p4 1000)) fun x_144 =>
fj_X2_put_27 p0 p1 p2 p3 x_144 m0
set_option maxHeartbeats 4000000 in
theorem om_X2_put {xs : List Int32} {d : Nat} {S : QS} {m0 : MM} {p0 p1 p2 p3 p4 p5 : Int} {v0 : Value} {v1 : Value} {v2 : Value} {v3 : Value} {v4 : Value} {v5 : Value} {rz : Int} {rm : MM}
  (hd : 2 ≤ d) (R : Rp S m0) (g0 : okc m0 p0 3) (f0 : q_is 2 v0 p0) (f1 : q_is 0 v1 p1) (f2 : q_is 0 v2 p2) (f3 : q_is 0 v3 p3) (f4 : q_is 0 v4 p4) (f5 : q_is 0 v5 p5)
  (h : fm_X2_put p0 p1 p2 p3 p4 p5 m0 = some (rz, rm)) : Mt xs d 15 [v0, v1, v2, v3, v4, v5] S (Cr 9 m0 rm rz) := by
  obtain ⟨d, rfl⟩ : ∃ e, d = e + 1 := ⟨d - 1, by omega⟩
  have hd : 1 ≤ d := Nat.le_of_succ_le_succ hd
  refine Mt.of (M := qM_X2_put) rfl (by rw [sl_1 (q_is_cat f0 (Or.inr rfl)), sl_1 (q_is_cat f1 (Or.inl rfl)), sl_1 (q_is_cat f2 (Or.inl rfl)), sl_1 (q_is_cat f3 (Or.inl rfl)), sl_1 (q_is_cat f4 (Or.inl rfl)), sl_1 (q_is_cat f5 (Or.inl rfl)), sl_0]; decide) ?_
  rw [la_1 (q_is_cat f0 (Or.inr rfl)), la_1 (q_is_cat f1 (Or.inl rfl)), la_1 (q_is_cat f2 (Or.inl rfl)), la_1 (q_is_cat f3 (Or.inl rfl)), la_1 (q_is_cat f4 (Or.inl rfl)), la_1 (q_is_cat f5 (Or.inl rfl)), la_0]
  obtain ⟨L, hL⟩ : ∃ L : QL, L = [(0, v0), (0 + 1, v1), (0 + 1 + 1, v2), (0 + 1 + 1 + 1, v3), (0 + 1 + 1 + 1 + 1, v4), (0 + 1 + 1 + 1 + 1 + 1, v5)] := ⟨_, rfl⟩
  rw [← hL]
  have l0 : q_lo L 0 = some v0 := by rw [hL]; rfl
  have l1 : q_lo L 1 = some v1 := by rw [hL]; rfl
  have l2 : q_lo L 2 = some v2 := by rw [hL]; rfl
  have l3 : q_lo L 3 = some v3 := by rw [hL]; rfl
  have l4 : q_lo L 4 = some v4 := by rw [hL]; rfl
  have l5 : q_lo L 5 = some v5 := by rw [hL]; rfl
  have hQ : Ext m0 rm → ∀ o S1, Rp S1 rm → q_out 9 o rz → (Cr 9 m0 rm rz) o S1 := fun a o S1 b e => ⟨b, a, e⟩
  unfold fm_X2_put at h
  refine go_iload (n := 4) (by decide +kernel) l4 f4 ?_
  refine go_istore (n := 6) (by decide +kernel) (by decide +kernel) f4 fun L_1 l_2 kp_3 => ?_
  have l_4 := kp_3 0 _ l0 (by decide) (Or.inl (by decide))
  have l_5 := kp_3 1 _ l1 (by decide) (Or.inl (by decide))
  have l_6 := kp_3 2 _ l2 (by decide) (Or.inl (by decide))
  have l_7 := kp_3 3 _ l3 (by decide) (Or.inl (by decide))
  have l_8 := kp_3 4 _ l4 (by decide) (Or.inl (by decide))
  have l_9 := kp_3 5 _ l5 (by decide) (Or.inr (q_is_cat f5 (Or.inl rfl)))
  refine go_iload_n (n := 1) (by decide +kernel) l_5 f1 ?_
  refine go_bipush (n := 7) (z := 7) (by decide +kernel) (by decide) fun v_10 f_11 => ?_
  refine go_icmp (c := .gt) (o := 20) (t := 27) (P := 7 < p1) (by decide +kernel) (by decide +kernel) f1 f_11 (Iff.rfl) (fun hp_12 => ?_) (fun hp_12 => ?_)
  · have h := it_t hp_12 h
    exact oj_X2_put_27 hd R g0 l_4 f0 l_5 f1 l_6 f2 l_7 f3 l_2 f4 hQ h
  · have h := it_f hp_12 h
    refine go_iload (n := 5) (by decide +kernel) l_9 f5 ?_
    refine go_ldc (x := 34) (n := 1048575) (a := 0) (b := 0) (z := 1048575) (by decide +kernel) (by decide +kernel) (by decide +kernel) fun v_130 f_131 => ?_
    refine go_iand (by decide +kernel) f5 f_131 fun v_132 f_133 => ?_
    refine go_bipush (n := 10) (z := 10) (by decide +kernel) (by decide) fun v_134 f_135 => ?_
    refine go_ishl (by decide +kernel) f_133 f_135 fun v_136 f_137 => ?_
    refine go_iload (n := 4) (by decide +kernel) l_8 f4 ?_
    refine go_sipush (n := 1000) (z := 1000) (by decide +kernel) (by decide) fun v_138 f_139 => ?_
    refine go_irem (by decide +kernel) f4 f_139 (by decide) fun v_140 f_141 => ?_
    refine go_ior (by decide +kernel) f_137 f_141 fun v_142 f_143 => ?_
    obtain ⟨x_144, e_145, h⟩ := lx_s h
    have f_146 := q_is_eq f_143 e_145
    refine go_istore (n := 6) (by decide +kernel) (by decide +kernel) f_146 fun L_147 l_148 kp_149 => ?_
    have l_150 := kp_149 0 _ l_4 (by decide) (Or.inl (by decide))
    have l_151 := kp_149 1 _ l_5 (by decide) (Or.inl (by decide))
    have l_152 := kp_149 2 _ l_6 (by decide) (Or.inl (by decide))
    have l_153 := kp_149 3 _ l_7 (by decide) (Or.inl (by decide))
    exact oj_X2_put_27 hd R g0 l_150 f0 l_151 f1 l_152 f2 l_153 f3 l_148 f_146 hQ h
noncomputable def fm_J7_copyOf_c38d5 (p0 p1 : Int) (m0 : MM) : Option (Int × MM) := gd (okc m0 p0 101) <| if p1 = w32 (m0 p0 (-2)) then
cl m0 p0 fun x_38 m_39 =>
some (x_38, m_39)
else
gd (0 ≤ p1 ∧ p1 < 60000000) <| nw m0 101 p1 fun x_6 m_7 =>
bp (fm_J9_min_7cf53 (w32 (m_7 p0 (-2))) p1 m_7) fun x_30 =>
none
set_option maxHeartbeats 4000000 in
theorem om_J7_copyOf_c38d5 {xs : List Int32} {d : Nat} {S : QS} {m0 : MM} {p0 p1 : Int} {v0 : Value} {v1 : Value} {rz : Int} {rm : MM}
  (hd : 2 ≤ d) (R : Rp S m0) (f0 : q_is 2 v0 p0) (f1 : q_is 0 v1 p1)
  (h : fm_J7_copyOf_c38d5 p0 p1 m0 = some (rz, rm)) : Mt xs d 335 [v0, v1] S (Cr 2 m0 rm rz) := by
  obtain ⟨d, rfl⟩ : ∃ e, d = e + 1 := ⟨d - 1, by omega⟩
  have hd : 1 ≤ d := Nat.le_of_succ_le_succ hd
  refine Mt.of (M := qM_J7_copyOf_c38d5) rfl (by rw [sl_1 (q_is_cat f0 (Or.inr rfl)), sl_1 (q_is_cat f1 (Or.inl rfl)), sl_0]; decide) ?_
  rw [la_1 (q_is_cat f0 (Or.inr rfl)), la_1 (q_is_cat f1 (Or.inl rfl)), la_0]
  obtain ⟨L, hL⟩ : ∃ L : QL, L = [(0, v0), (0 + 1, v1)] := ⟨_, rfl⟩
  rw [← hL]
  have l0 : q_lo L 0 = some v0 := by rw [hL]; rfl
  have l1 : q_lo L 1 = some v1 := by rw [hL]; rfl
  have hQ : Ext m0 rm → ∀ o S1, Rp S1 rm → q_out 2 o rz → (Cr 2 m0 rm rz) o S1 := fun a o S1 b e => ⟨b, a, e⟩
  unfold fm_J7_copyOf_c38d5 at h
  refine go_iload_n (n := 1) (by decide +kernel) l1 f1 ?_
  refine go_aload_n (n := 0) (by decide +kernel) l0 f0 ?_
  obtain ⟨g_3, h⟩ := gd_s h
  refine go_alen (by decide +kernel) R f0 (okl_of g_3 (by decide)) fun v_1 f_2 => ?_
  refine go_icmp (c := .ne) (o := 11) (t := 14) (P := ¬ (p1 = w32 (m0 p0 (-2)))) (by decide +kernel) (by decide +kernel) f1 f_2 (Iff.rfl) (fun hp_4 => ?_) (fun hp_4 => ?_)
  · have h := it_f hp_4 h
    refine go_iload_n (n := 1) (by decide +kernel) l1 f1 ?_
    obtain ⟨g_5, h⟩ := gd_s h
    obtain ⟨x_6, m_7, e_8, e_9, h⟩ := nw_s h
    have g_15 := okc_nw (c := 101) R e_8 e_9
    refine go_newa (t := .long) (kd := 101) (by decide +kernel) (by decide) f1 g_5 R e_8 e_9 fun v_10 S_12 f_11 R_13 E_14 => ?_
    have E_16 := E_14
    refine go_astore_n (n := 2) (by decide +kernel) (by decide +kernel) f_11 fun L_17 l_18 kp_19 => ?_
    have l_20 := kp_19 0 _ l0 (by decide) (Or.inl (by decide))
    have l_21 := kp_19 1 _ l1 (by decide) (Or.inr (q_is_cat f1 (Or.inl rfl)))
    refine go_aload_n (n := 0) (by decide +kernel) l_20 f0 ?_
    refine go_iconst (n := 0) (z := 0) (by decide +kernel) (by decide) fun v_22 f_23 => ?_
    refine go_aload_n (n := 2) (by decide +kernel) l_18 f_11 ?_
    refine go_iconst (n := 0) (z := 0) (by decide +kernel) (by decide) fun v_24 f_25 => ?_
    refine go_aload_n (n := 0) (by decide +kernel) l_20 f0 ?_
    have g_28 := Ext.ok E_14 g_3
    refine go_alen (by decide +kernel) R_13 f0 (okl_of g_28 (by decide)) fun v_26 f_27 => ?_
    refine go_iload_n (n := 1) (by decide +kernel) l_21 f1 ?_
    obtain ⟨x_30, hc_29, h⟩ := bp_s h
    refine go_callS (x := 304) (mi := 320) (n := 2) (b := 0) (as := [v_26, v1]) (rest := [v_24, v_10, v_22, v0]) (by decide +kernel) (by decide +kernel) rfl rfl (q_sum8 _ (Nat.le_of_ble_eq_true rfl)) (om_J9_min_7cf53 (Nat.le_trans (by decide) hd) R_13 f_27 f1 hc_29) (fun _ S_34 q_37 => ?_) (fun _ _ qq => kr_x qq)
    refine kr_z (by decide) q_37 fun v_32 f_33 R_35 E_36 => ?_
    cases h
  · have h := it_n hp_4 h
    refine go_aload_n (n := 0) (by decide +kernel) l0 f0 ?_
    obtain ⟨x_38, m_39, e_40, e_41, h⟩ := cl_s h
    have g_47 := okc_cl R g_3 e_40 e_41
    refine go_clone (x := 319) (a := 0) (b := 0) (e := 0) (by decide +kernel) (by decide +kernel) R f0 g_3 e_40 e_41 (q_sum8 _ (Nat.le_of_ble_eq_true rfl)) fun v_42 S_44 f_43 R_45 E_46 => ?_
    have E_48 := E_46
    refine go_cast (x := 320) (kd := 101) (a := 0) (b := 0) (by decide +kernel) (by decide +kernel) R_45 f_43 g_47 ?_
    cases h
    exact go_aret (by decide +kernel) rfl rfl f_43 (hQ E_48 _ _ R_45 (q_out_v (by decide) f_43))
noncomputable def fj_X5_cut_72 (c : Int → MM → Option (Int × MM)) (k106 : MM → Option (Int × MM)) (p0 y2 y3 s0 : Int) (m : MM) : Option (Int × MM) := lx (m p0 0) fun x_81 =>
if s0 = 0 then
gd (okc m x_81 108) <| gd (okx m x_81 y3) <| up m x_81 y3 0 fun m_88 =>
lx (w32 (y3 + 1)) fun x_99 =>
c x_99 m_88
else
gd (okc m x_81 108) <| gd (okx m x_81 y3) <| lx (m x_81 y3) fun x_112 =>
bd (fm_J7_copyOf_c38d5 x_112 64 m) fun x_117 m_118 =>
gd (x_117 = 0 ∨ okc m_118 x_117 101) <| up m_118 x_81 y3 x_117 fun m_128 =>
lx (w32 (y3 + 1)) fun x_140 =>
c x_140 m_128
set_option maxHeartbeats 4000000 in
theorem oj_X5_cut_72 {xs : List Int32} {d : Nat} {S : QS} {L : QL} {Q : QO → QS → Prop} {m : MM} {p0 y2 y3 s0 : Int} {v0 : Value} {v2 : Value} {v3 : Value} {w0 : Value}  {rz : Int} {rm : MM} {c : Int → MM → Option (Int × MM)} {k106 : MM → Option (Int × MM)} 
  (hd : 2 ≤ d) (R : Rp S m) (g0 : okc m p0 6) (l0 : q_lo L 0 = some v0) (f0 : q_is 2 v0 p0) (l2 : q_lo L 2 = some v2) (f2 : q_is 0 v2 y2) (l3 : q_lo L 3 = some v3) (f3 : q_is 0 v3 y3) (fs0 : q_is 0 w0 s0)
  (hc : ∀ mq : MM, Ext m mq → ∀ {z3 : Int} {Sq : QS} {Lq : QL} {u0 : Value} {u2 : Value} {u3 : Value}, c z3 mq = some (rz, rm) → Rp Sq mq → q_lo Lq 0 = some u0 → q_is 2 u0 p0 → q_lo Lq 2 = some u2 → q_is 0 u2 y2 → q_lo Lq 3 = some u3 → q_is 0 u3 z3 → Go xs d qM_X5_cut 26 Lq [] Sq Q)
  (hk106 : ∀ mq : MM, Ext m mq → ∀ {Sq : QS} {Lq : QL} {u0 : Value} {u2 : Value}, k106 mq = some (rz, rm) → Rp Sq mq → q_lo Lq 0 = some u0 → q_is 2 u0 p0 → q_lo Lq 2 = some u2 → q_is 0 u2 y2 → Go xs d qM_X5_cut 106 Lq [] Sq Q)
  (hQ : Ext m rm → ∀ o S1, Rp S1 rm → q_out 9 o rz → Q o S1)
  (h : fj_X5_cut_72 c k106 p0 y2 y3 s0 m = some (rz, rm)) : Go xs d qM_X5_cut 72 L [w0] S Q := by
  unfold fj_X5_cut_72 at h
  refine go_istore (n := 4) (by decide +kernel) (by decide +kernel) fs0 fun L_72 l_73 kp_74 => ?_
  have l_75 := kp_74 0 _ l0 (by decide) (Or.inl (by decide))
  have l_76 := kp_74 2 _ l2 (by decide) (Or.inl (by decide))
  have l_77 := kp_74 3 _ l3 (by decide) (Or.inr (q_is_cat f3 (Or.inl rfl)))
  refine go_aload_n (n := 0) (by decide +kernel) l_75 f0 ?_
  obtain ⟨x_81, e_82, h⟩ := lx_s h
  refine go_getf (x := 11) (ci := 6) (kf := 0) (fin := 0) (t := 2) (by decide +kernel) (by decide +kernel) (by decide +kernel) R f0 g0 fun v_78 f_79 => ?_
  have f_80 := q_is_eq f_79 e_82
  refine go_iload_n (n := 3) (by decide +kernel) l_77 f3 ?_
  refine go_iload (n := 4) (by decide +kernel) l_73 fs0 ?_
  refine go_if (c := .eq) (o := 17) (t := 98) (P := s0 = 0) (by decide +kernel) (by decide +kernel) fs0 (Iff.rfl) (fun hp_83 => ?_) (fun hp_83 => ?_)
  · have h := it_t hp_83 h
    refine go_null (by decide +kernel) fun v_84 f_85 => ?_
    obtain ⟨g_86, h⟩ := gd_s h
    obtain ⟨g_87, h⟩ := gd_s h
    obtain ⟨m_88, e_89, h⟩ := up_s h
    refine go_aast (kd := 108) (vk := 101) (by decide +kernel) (by decide) R f_80 f3 f_85 g_86 g_87 (Or.inl rfl) e_89 (fx_a R.2 g_86 (And.left g_87) (by decide +kernel)) fun S_90 R_91 E_92 => ?_
    have E_93 := E_92
    refine go_iinc (n := 3) (c := 1) (c' := 1) (by decide +kernel) (by decide +kernel) l_77 f3 (by decide) fun L_94 v_95 f_96 l_97 kp_98 => ?_
    obtain ⟨x_99, e_100, h⟩ := lx_s h
    have f_101 := q_is_eq f_96 e_100
    have l_102 := kp_98 0 _ l_75 (by decide) (Or.inl (by decide))
    have l_103 := kp_98 2 _ l_76 (by decide) (Or.inr (q_is_cat f2 (Or.inl rfl)))
    refine go_goto (o := (-77)) (t := 26) (by decide +kernel) (by decide +kernel) ?_
    exact hc m_88 E_93 h R_91 l_102 f0 l_103 f2 l_97 f_101
  · have h := it_f hp_83 h
    refine go_aload_n (n := 0) (by decide +kernel) l_75 f0 ?_
    refine go_getf (x := 11) (ci := 6) (kf := 0) (fin := 0) (t := 2) (by decide +kernel) (by decide +kernel) (by decide +kernel) R f0 g0 fun v_104 f_105 => ?_
    have f_106 := q_is_eq f_105 e_82
    refine go_iload_n (n := 3) (by decide +kernel) l_77 f3 ?_
    obtain ⟨g_109, h⟩ := gd_s h
    obtain ⟨g_110, h⟩ := gd_s h
    obtain ⟨x_112, e_113, h⟩ := lx_s h
    refine go_aald (kd := 108) (by decide +kernel) (by decide) R f_106 f3 g_109 g_110 fun v_107 f_108 => ?_
    have f_111 := q_is_eq f_108 e_113
    refine go_bipush (n := 64) (z := 64) (by decide +kernel) (by decide) fun v_114 f_115 => ?_
    obtain ⟨x_117, m_118, hc_116, h⟩ := bd_s h
    refine go_callS (x := 39) (mi := 335) (n := 2) (b := 0) (as := [v_107, v_114]) (rest := [v3, v_78]) (by decide +kernel) (by decide +kernel) rfl rfl (q_sum8 _ (Nat.le_of_ble_eq_true rfl)) (om_J7_copyOf_c38d5 (Nat.le_trans (by decide) hd) R f_111 f_115 hc_116) (fun _ S_121 q_124 => ?_) (fun _ _ qq => kr_x qq)
    refine kr_z (by decide) q_124 fun v_119 f_120 R_122 E_123 => ?_
    have E_125 := E_123
    refine go_goto (o := 4) (t := 99) (by decide +kernel) (by decide +kernel) ?_
    have g_126 := Ext.ok E_123 g_109
    have g_127 := Ext.okx E_123 g_109 g_110
    obtain ⟨g_133, h⟩ := gd_s h
    obtain ⟨m_128, e_129, h⟩ := up_s h
    refine go_aast (kd := 108) (vk := 101) (by decide +kernel) (by decide) R_122 f_80 f3 f_120 g_126 g_127 g_133 e_129 (fx_a R_122.2 g_126 (And.left g_127) (by decide +kernel)) fun S_130 R_131 E_132 => ?_
    have E_134 := Ext.tr E_125 E_132
    refine go_iinc (n := 3) (c := 1) (c' := 1) (by decide +kernel) (by decide +kernel) l_77 f3 (by decide) fun L_135 v_136 f_137 l_138 kp_139 => ?_
    obtain ⟨x_140, e_141, h⟩ := lx_s h
    have f_142 := q_is_eq f_137 e_141
    have l_143 := kp_139 0 _ l_75 (by decide) (Or.inl (by decide))
    have l_144 := kp_139 2 _ l_76 (by decide) (Or.inr (q_is_cat f2 (Or.inl rfl)))
    refine go_goto (o := (-77)) (t := 26) (by decide +kernel) (by decide +kernel) ?_
    exact hc m_128 E_134 h R_131 l_143 f0 l_144 f2 l_138 f_142
noncomputable def fl_X5_cut_26 (p0 y2 : Int) (k106 : MM → Option (Int × MM)) : Nat → Int → MM → Option (Int × MM)
  | 0, _, _ => none
  | n + 1, y3, m => lx (m p0 1) fun x_57 =>
if y3 < x_57 then
lx (m p0 0) fun x_63 =>
gd (okc m x_63 108) <| if y3 < w32 (m x_63 (-2)) then
if y3 = y2 then
lx (m p0 2) fun x_148 =>
if 0 < iAnd x_148 63 then
gd (okx m x_63 y3) <| lx (m x_63 y3) fun x_164 =>
if x_164 = 0 then
fj_X5_cut_72 (fl_X5_cut_26 p0 y2 k106 n) k106 p0 y2 y3 0 m
else
fj_X5_cut_72 (fl_X5_cut_26 p0 y2 k106 n) k106 p0 y2 y3 1 m
else
fj_X5_cut_72 (fl_X5_cut_26 p0 y2 k106 n) k106 p0 y2 y3 0 m
else
fj_X5_cut_72 (fl_X5_cut_26 p0 y2 k106 n) k106 p0 y2 y3 0 m
else
k106 m
else
k106 m
set_option maxHeartbeats 4000000 in
theorem ol_X5_cut_26 {xs : List Int32} {d : Nat} {Q : QO → QS → Prop} {mb : MM} {p0 y2 : Int} {k106 : MM → Option (Int × MM)} {rz : Int} {rm : MM}
  (hd : 2 ≤ d) (gb : okc mb p0 6)
  (hk106 : ∀ mq : MM, Ext mb mq → ∀ {Sq : QS} {Lq : QL} {u0 : Value} {u2 : Value}, k106 mq = some (rz, rm) → Rp Sq mq → q_lo Lq 0 = some u0 → q_is 2 u0 p0 → q_lo Lq 2 = some u2 → q_is 0 u2 y2 → Go xs d qM_X5_cut 106 Lq [] Sq Q)
  (hQ : Ext mb rm → ∀ o S1, Rp S1 rm → q_out 9 o rz → Q o S1) :
  ∀ (n : Nat) {m : MM} {S : QS} {L : QL} {y3 : Int} {v0 : Value} {v2 : Value} {v3 : Value} , Ext mb m → fl_X5_cut_26 p0 y2 k106 n y3 m = some (rz, rm) → Rp S m → q_lo L 0 = some v0 → q_is 2 v0 p0 → q_lo L 2 = some v2 → q_is 0 v2 y2 → q_lo L 3 = some v3 → q_is 0 v3 y3 → Go xs d qM_X5_cut 26 L [] S Q := by
  intro n
  induction n with
  | zero => intro m S L y3 v0 v2 v3; intro E h R l0 f0 l2 f2 l3 f3; cases h
  | succ n ih0 =>
    intro m S L y3 v0 v2 v3; intro E h R l0 f0 l2 f2 l3 f3
    have ih : ∀ mq : MM, Ext mb mq → ∀ {z3 : Int} {Sq : QS} {Lq : QL} {u0 : Value} {u2 : Value} {u3 : Value}, fl_X5_cut_26 p0 y2 k106 n z3 mq = some (rz, rm) → Rp Sq mq → q_lo Lq 0 = some u0 → q_is 2 u0 p0 → q_lo Lq 2 = some u2 → q_is 0 u2 y2 → q_lo Lq 3 = some u3 → q_is 0 u3 z3 → Go xs d qM_X5_cut 26 Lq [] Sq Q := fun mq b => by intros; exact ih0 b ‹_› ‹_› ‹_› ‹_› ‹_› ‹_› ‹_› ‹_›
    have g0 := Ext.ok E gb
    unfold fl_X5_cut_26 at h
    refine go_iload_n (n := 3) (by decide +kernel) l3 f3 ?_
    refine go_aload_n (n := 0) (by decide +kernel) l0 f0 ?_
    obtain ⟨x_57, e_58, h⟩ := lx_s h
    refine go_getf (x := 15) (ci := 6) (kf := 1) (fin := 0) (t := 0) (by decide +kernel) (by decide +kernel) (by decide +kernel) R f0 g0 fun v_54 f_55 => ?_
    have f_56 := q_is_eq f_55 e_58
    refine go_icmp (c := .ge) (o := 75) (t := 106) (P := ¬ (y3 < x_57)) (by decide +kernel) (by decide +kernel) f3 f_56 (Int.not_lt.symm) (fun hp_59 => ?_) (fun hp_59 => ?_)
    · have h := it_f hp_59 h
      exact hk106 m E h R l0 f0 l2 f2
    · have h := it_n hp_59 h
      refine go_iload_n (n := 3) (by decide +kernel) l3 f3 ?_
      refine go_aload_n (n := 0) (by decide +kernel) l0 f0 ?_
      obtain ⟨x_63, e_64, h⟩ := lx_s h
      refine go_getf (x := 11) (ci := 6) (kf := 0) (fin := 0) (t := 2) (by decide +kernel) (by decide +kernel) (by decide +kernel) R f0 g0 fun v_60 f_61 => ?_
      have f_62 := q_is_eq f_61 e_64
      obtain ⟨g_67, h⟩ := gd_s h
      refine go_alen (by decide +kernel) R f_62 (okl_of g_67 (by decide)) fun v_65 f_66 => ?_
      refine go_icmp (c := .ge) (o := 66) (t := 106) (P := ¬ (y3 < w32 (m x_63 (-2)))) (by decide +kernel) (by decide +kernel) f3 f_66 (Int.not_lt.symm) (fun hp_68 => ?_) (fun hp_68 => ?_)
      · have h := it_f hp_68 h
        exact hk106 m E h R l0 f0 l2 f2
      · have h := it_n hp_68 h
        refine go_iload_n (n := 3) (by decide +kernel) l3 f3 ?_
        refine go_iload_n (n := 2) (by decide +kernel) l2 f2 ?_
        refine go_icmp (c := .ne) (o := 26) (t := 71) (P := ¬ (y3 = y2)) (by decide +kernel) (by decide +kernel) f3 f2 (Iff.rfl) (fun hp_69 => ?_) (fun hp_69 => ?_)
        · have h := it_f hp_69 h
          refine go_iconst (n := 0) (z := 0) (by decide +kernel) (by decide) fun v_70 f_71 => ?_
          exact oj_X5_cut_72 hd R g0 l0 f0 l2 f2 l3 f3 f_71 (fun mq b => ih mq (Ext.tr E b)) (fun mq b => hk106 mq (Ext.tr E b)) (fun b => hQ (Ext.tr E b)) h
        · have h := it_n hp_69 h
          refine go_aload_n (n := 0) (by decide +kernel) l0 f0 ?_
          obtain ⟨x_148, e_149, h⟩ := lx_s h
          refine go_getf (x := 19) (ci := 6) (kf := 2) (fin := 0) (t := 0) (by decide +kernel) (by decide +kernel) (by decide +kernel) R f0 g0 fun v_145 f_146 => ?_
          have f_147 := q_is_eq f_146 e_149
          refine go_bipush (n := 63) (z := 63) (by decide +kernel) (by decide) fun v_150 f_151 => ?_
          refine go_iand (by decide +kernel) f_147 f_151 fun v_152 f_153 => ?_
          refine go_if (c := .le) (o := 16) (t := 71) (P := ¬ (0 < iAnd x_148 63)) (by decide +kernel) (by decide +kernel) f_153 (Int.not_lt.symm) (fun hp_154 => ?_) (fun hp_154 => ?_)
          · have h := it_f hp_154 h
            refine go_iconst (n := 0) (z := 0) (by decide +kernel) (by decide) fun v_155 f_156 => ?_
            exact oj_X5_cut_72 hd R g0 l0 f0 l2 f2 l3 f3 f_156 (fun mq b => ih mq (Ext.tr E b)) (fun mq b => hk106 mq (Ext.tr E b)) (fun b => hQ (Ext.tr E b)) h
          · have h := it_n hp_154 h
            refine go_aload_n (n := 0) (by decide +kernel) l0 f0 ?_
            refine go_getf (x := 11) (ci := 6) (kf := 0) (fin := 0) (t := 2) (by decide +kernel) (by decide +kernel) (by decide +kernel) R f0 g0 fun v_157 f_158 => ?_
            have f_159 := q_is_eq f_158 e_64
            refine go_iload_n (n := 3) (by decide +kernel) l3 f3 ?_
            obtain ⟨g_162, h⟩ := gd_s h
            obtain ⟨x_164, e_165, h⟩ := lx_s h
            refine go_aald (kd := 108) (by decide +kernel) (by decide) R f_159 f3 g_67 g_162 fun v_160 f_161 => ?_
            have f_163 := q_is_eq f_161 e_165
            refine go_ifnull (o := 7) (t := 71) (by decide +kernel) (by decide +kernel) f_163 (fun hp_166 => ?_) (fun hp_166 => ?_)
            · have h := it_t hp_166 h
              refine go_iconst (n := 0) (z := 0) (by decide +kernel) (by decide) fun v_167 f_168 => ?_
              exact oj_X5_cut_72 hd R g0 l0 f0 l2 f2 l3 f3 f_168 (fun mq b => ih mq (Ext.tr E b)) (fun mq b => hk106 mq (Ext.tr E b)) (fun b => hQ (Ext.tr E b)) h
            · have h := it_f hp_166 h
              refine go_iconst (n := 1) (z := 1) (by decide +kernel) (by decide) fun v_169 f_170 => ?_
              refine go_goto (o := 4) (t := 72) (by decide +kernel) (by decide +kernel) ?_
              exact oj_X5_cut_72 hd R g0 l0 f0 l2 f2 l3 f3 f_170 (fun mq b => ih mq (Ext.tr E b)) (fun mq b => hk106 mq (Ext.tr E b)) (fun b => hQ (Ext.tr E b)) h
noncomputable def fm_X5_cut (p0 p1 : Int) (m0 : MM) : Option (Int × MM) := lx (m0 p0 2) fun x_4 =>
bp (fm_J9_max_7cf53 0 p1 m0) fun x_9 =>
bp (fm_J9_min_7cf53 x_4 x_9 m0) fun x_18 =>
up m0 p0 2 x_18 fun m_26 =>
lx (m_26 p0 2) fun x_36 =>
lx (iShr x_36 6) fun x_42 =>
fl_X5_cut_26 p0 x_42 (fun m_180 =>
lx (m_180 p0 1) fun x_187 =>
bp (fm_J9_min_7cf53 x_187 x_42 m_180) fun x_190 =>
up m_180 p0 1 x_190 fun m_198 =>
some (0, m_198)) BIG x_42 m_26
set_option maxHeartbeats 4000000 in
theorem om_X5_cut {xs : List Int32} {d : Nat} {S : QS} {m0 : MM} {p0 p1 : Int} {v0 : Value} {v1 : Value} {rz : Int} {rm : MM}
  (hd : 3 ≤ d) (R : Rp S m0) (g0 : okc m0 p0 6) (f0 : q_is 2 v0 p0) (f1 : q_is 0 v1 p1)
  (h : fm_X5_cut p0 p1 m0 = some (rz, rm)) : Mt xs d 63 [v0, v1] S (Cr 9 m0 rm rz) := by
  obtain ⟨d, rfl⟩ : ∃ e, d = e + 1 := ⟨d - 1, by omega⟩
  have hd : 2 ≤ d := Nat.le_of_succ_le_succ hd
  refine Mt.of (M := qM_X5_cut) rfl (by rw [sl_1 (q_is_cat f0 (Or.inr rfl)), sl_1 (q_is_cat f1 (Or.inl rfl)), sl_0]; decide) ?_
  rw [la_1 (q_is_cat f0 (Or.inr rfl)), la_1 (q_is_cat f1 (Or.inl rfl)), la_0]
  obtain ⟨L, hL⟩ : ∃ L : QL, L = [(0, v0), (0 + 1, v1)] := ⟨_, rfl⟩
  rw [← hL]
  have l0 : q_lo L 0 = some v0 := by rw [hL]; rfl
  have l1 : q_lo L 1 = some v1 := by rw [hL]; rfl
  have hQ : Ext m0 rm → ∀ o S1, Rp S1 rm → q_out 9 o rz → (Cr 9 m0 rm rz) o S1 := fun a o S1 b e => ⟨b, a, e⟩
  unfold fm_X5_cut at h
  refine go_aload_n (n := 0) (by decide +kernel) l0 f0 ?_
  refine go_aload_n (n := 0) (by decide +kernel) l0 f0 ?_
  obtain ⟨x_4, e_5, h⟩ := lx_s h
  refine go_getf (x := 19) (ci := 6) (kf := 2) (fin := 0) (t := 0) (by decide +kernel) (by decide +kernel) (by decide +kernel) R f0 g0 fun v_1 f_2 => ?_
  have f_3 := q_is_eq f_2 e_5
  refine go_iconst (n := 0) (z := 0) (by decide +kernel) (by decide) fun v_6 f_7 => ?_
  refine go_iload_n (n := 1) (by decide +kernel) l1 f1 ?_
  obtain ⟨x_9, hc_8, h⟩ := bp_s h
  refine go_callS (x := 30) (mi := 319) (n := 2) (b := 0) (as := [v_6, v1]) (rest := [v_1, v0]) (by decide +kernel) (by decide +kernel) rfl rfl (q_sum8 _ (Nat.le_of_ble_eq_true rfl)) (om_J9_max_7cf53 (Nat.le_trans (by decide) hd) R f_7 f1 hc_8) (fun _ S_13 q_16 => ?_) (fun _ _ qq => kr_x qq)
  refine kr_z (by decide) q_16 fun v_11 f_12 R_14 E_15 => ?_
  obtain ⟨x_18, hc_17, h⟩ := bp_s h
  refine go_callS (x := 36) (mi := 320) (n := 2) (b := 0) (as := [v_1, v_11]) (rest := [v0]) (by decide +kernel) (by decide +kernel) rfl rfl (q_sum8 _ (Nat.le_of_ble_eq_true rfl)) (om_J9_min_7cf53 (Nat.le_trans (by decide) hd) R_14 f_3 f_12 hc_17) (fun _ S_22 q_25 => ?_) (fun _ _ qq => kr_x qq)
  refine kr_z (by decide) q_25 fun v_20 f_21 R_23 E_24 => ?_
  obtain ⟨m_26, e_27, h⟩ := up_s h
  refine go_putf (x := 19) (ci := 6) (kf := 2) (fin := 0) (zt := 0) (by decide +kernel) (by decide +kernel) (by decide) (by decide +kernel) (by decide) (Or.inl rfl) R_23 f0 f_21 (fun hq => absurd hq (by decide)) g0 e_27 (fx_f (j := 2) R_23.2 g0 (by decide +kernel)) fun S_28 R_29 E_30 => ?_
  have E_31 := E_30
  refine go_aload_n (n := 0) (by decide +kernel) l0 f0 ?_
  have g_34 := Ext.ok E_30 g0
  obtain ⟨x_36, e_37, h⟩ := lx_s h
  refine go_getf (x := 19) (ci := 6) (kf := 2) (fin := 0) (t := 0) (by decide +kernel) (by decide +kernel) (by decide +kernel) R_29 f0 g_34 fun v_32 f_33 => ?_
  have f_35 := q_is_eq f_33 e_37
  refine go_bipush (n := 6) (z := 6) (by decide +kernel) (by decide) fun v_38 f_39 => ?_
  refine go_ishr (by decide +kernel) f_35 f_39 fun v_40 f_41 => ?_
  obtain ⟨x_42, e_43, h⟩ := lx_s h
  have f_44 := q_is_eq f_41 e_43
  refine go_istore_n (n := 2) (by decide +kernel) (by decide +kernel) f_44 fun L_45 l_46 kp_47 => ?_
  have l_48 := kp_47 0 _ l0 (by decide) (Or.inl (by decide))
  refine go_iload_n (n := 2) (by decide +kernel) l_46 f_44 ?_
  refine go_istore_n (n := 3) (by decide +kernel) (by decide +kernel) f_44 fun L_49 l_50 kp_51 => ?_
  have l_52 := kp_51 0 _ l_48 (by decide) (Or.inl (by decide))
  have l_53 := kp_51 2 _ l_46 (by decide) (Or.inr (q_is_cat f_44 (Or.inl rfl)))
  refine ol_X5_cut_26 hd  g_34 ?_ (fun b => hQ (Ext.tr E_31 b)) BIG (Ext.rf _) h R_29 l_52 f0 l_53 f_44 l_50 f_44
  intro m_180 E_181
  intro S_177 L_178 v_171 v_172
  intro h R_179 l_173 f_175 l_174 f_176
  have E_182 := Ext.tr E_31 E_181
  refine go_aload_n (n := 0) (by decide +kernel) l_173 f_175 ?_
  refine go_aload_n (n := 0) (by decide +kernel) l_173 f_175 ?_
  have g_185 := Ext.ok E_181 g_34
  obtain ⟨x_187, e_188, h⟩ := lx_s h
  refine go_getf (x := 15) (ci := 6) (kf := 1) (fin := 0) (t := 0) (by decide +kernel) (by decide +kernel) (by decide +kernel) R_179 f_175 g_185 fun v_183 f_184 => ?_
  have f_186 := q_is_eq f_184 e_188
  refine go_iload_n (n := 2) (by decide +kernel) l_174 f_176 ?_
  obtain ⟨x_190, hc_189, h⟩ := bp_s h
  refine go_callS (x := 36) (mi := 320) (n := 2) (b := 0) (as := [v_183, v_172]) (rest := [v_171]) (by decide +kernel) (by decide +kernel) rfl rfl (q_sum8 _ (Nat.le_of_ble_eq_true rfl)) (om_J9_min_7cf53 (Nat.le_trans (by decide) hd) R_179 f_186 f_176 hc_189) (fun _ S_194 q_197 => ?_) (fun _ _ qq => kr_x qq)
  refine kr_z (by decide) q_197 fun v_192 f_193 R_195 E_196 => ?_
  obtain ⟨m_198, e_199, h⟩ := up_s h
  refine go_putf (x := 15) (ci := 6) (kf := 1) (fin := 0) (zt := 0) (by decide +kernel) (by decide +kernel) (by decide) (by decide +kernel) (by decide) (Or.inl rfl) R_195 f_175 f_193 (fun hq => absurd hq (by decide)) g_185 e_199 (fx_f (j := 1) R_195.2 g_185 (by decide +kernel)) fun S_200 R_201 E_202 => ?_
  have E_203 := Ext.tr E_182 E_202
  cases h
  exact go_vret (by decide +kernel) rfl (hQ E_203 _ _ R_201 q_out_n)
noncomputable def fl_X2_countAgain_28 (p0 : Int) : Nat → Int → MM → Option (Int × MM)
  | 0, _, _ => none
  | n + 1, y1, m => lx (m p0 1) fun x_54 =>
if y1 < x_54 then
bp (fm_X2_kind p0 y1 m) fun x_58 =>
if 7 < x_58 then
if x_58 = 17 then
lx (m p0 3) fun x_89 =>
up m p0 3 (w32 (x_89 + 1)) fun m_95 =>
bp (fm_X2_x p0 y1 m_95) fun x_103 =>
up m_95 p0 4 x_103 fun m_111 =>
lx (w32 (y1 + 1)) fun x_122 =>
fl_X2_countAgain_28 p0 n x_122 m_111
else
lx (w32 (y1 + 1)) fun x_82 =>
fl_X2_countAgain_28 p0 n x_82 m
else
lx (m p0 2) fun x_129 =>
up m p0 2 (w32 (x_129 + 1)) fun m_135 =>
lx (w32 (y1 + 1)) fun x_146 =>
fl_X2_countAgain_28 p0 n x_146 m_135
else
some (0, m)
set_option maxHeartbeats 4000000 in
theorem ol_X2_countAgain_28 {xs : List Int32} {d : Nat} {Q : QO → QS → Prop} {mb : MM} {p0 : Int} {rz : Int} {rm : MM}
  (hd : 2 ≤ d) (gb : okc mb p0 3)
  (hQ : Ext mb rm → ∀ o S1, Rp S1 rm → q_out 9 o rz → Q o S1) :
  ∀ (n : Nat) {m : MM} {S : QS} {L : QL} {y1 : Int} {v0 : Value} {v1 : Value} , Ext mb m → fl_X2_countAgain_28 p0 n y1 m = some (rz, rm) → Rp S m → q_lo L 0 = some v0 → q_is 2 v0 p0 → q_lo L 1 = some v1 → q_is 0 v1 y1 → Go xs d qM_X2_countAgain 28 L [] S Q := by
  intro n
  induction n with
  | zero => intro m S L y1 v0 v1; intro E h R l0 f0 l1 f1; cases h
  | succ n ih0 =>
    intro m S L y1 v0 v1; intro E h R l0 f0 l1 f1
    have ih : ∀ mq : MM, Ext mb mq → ∀ {z1 : Int} {Sq : QS} {Lq : QL} {u0 : Value} {u1 : Value}, fl_X2_countAgain_28 p0 n z1 mq = some (rz, rm) → Rp Sq mq → q_lo Lq 0 = some u0 → q_is 2 u0 p0 → q_lo Lq 1 = some u1 → q_is 0 u1 z1 → Go xs d qM_X2_countAgain 28 Lq [] Sq Q := fun mq b => by intros; exact ih0 b ‹_› ‹_› ‹_› ‹_› ‹_› ‹_›
    have g0 := Ext.ok E gb
    unfold fl_X2_countAgain_28 at h
    refine go_iload_n (n := 1) (by decide +kernel) l1 f1 ?_
    refine go_aload_n (n := 0) (by decide +kernel) l0 f0 ?_
    obtain ⟨x_54, e_55, h⟩ := lx_s h
    refine go_getf (x := 9) (ci := 3) (kf := 1) (fin := 0) (t := 0) (by decide +kernel) (by decide +kernel) (by decide +kernel) R f0 g0 fun v_51 f_52 => ?_
    have f_53 := q_is_eq f_52 e_55
    refine go_icmp (c := .ge) (o := 59) (t := 92) (P := ¬ (y1 < x_54)) (by decide +kernel) (by decide +kernel) f1 f_53 (Int.not_lt.symm) (fun hp_56 => ?_) (fun hp_56 => ?_)
    · have h := it_f hp_56 h
      cases h
      exact go_vret (by decide +kernel) rfl (hQ E _ _ R q_out_n)
    · have h := it_n hp_56 h
      refine go_aload_n (n := 0) (by decide +kernel) l0 f0 ?_
      refine go_iload_n (n := 1) (by decide +kernel) l1 f1 ?_
      obtain ⟨x_58, hc_57, h⟩ := bp_s h
      refine go_callV (x := 51) (mi := 9) (n := 1) (ci := 3) (as := [v1]) (rest := []) (by decide +kernel) (by decide +kernel) rfl rfl (q_sum8 _ (Nat.le_of_ble_eq_true rfl)) R f0 g0 (om_X2_kind (Nat.le_trans (by decide) hd) R g0 f0 f1 hc_57) (fun _ S_62 q_65 => ?_) (fun _ _ qq => kr_x qq)
      refine kr_z (by decide) q_65 fun v_60 f_61 R_63 E_64 => ?_
      refine go_istore_n (n := 2) (by decide +kernel) (by decide +kernel) f_61 fun L_66 l_67 kp_68 => ?_
      have l_69 := kp_68 0 _ l0 (by decide) (Or.inl (by decide))
      have l_70 := kp_68 1 _ l1 (by decide) (Or.inr (q_is_cat f1 (Or.inl rfl)))
      refine go_iload_n (n := 2) (by decide +kernel) l_67 f_61 ?_
      refine go_bipush (n := 7) (z := 7) (by decide +kernel) (by decide) fun v_71 f_72 => ?_
      refine go_icmp (c := .gt) (o := 16) (t := 61) (P := 7 < x_58) (by decide +kernel) (by decide +kernel) f_61 f_72 (Iff.rfl) (fun hp_73 => ?_) (fun hp_73 => ?_)
      · have h := it_t hp_73 h
        refine go_iload_n (n := 2) (by decide +kernel) l_67 f_61 ?_
        refine go_bipush (n := 17) (z := 17) (by decide +kernel) (by decide) fun v_74 f_75 => ?_
        refine go_icmp (c := .ne) (o := 22) (t := 86) (P := ¬ (x_58 = 17)) (by decide +kernel) (by decide +kernel) f_61 f_75 (Iff.rfl) (fun hp_76 => ?_) (fun hp_76 => ?_)
        · have h := it_f hp_76 h
          refine go_iinc (n := 1) (c := 1) (c' := 1) (by decide +kernel) (by decide +kernel) l_70 f1 (by decide) fun L_77 v_78 f_79 l_80 kp_81 => ?_
          obtain ⟨x_82, e_83, h⟩ := lx_s h
          have f_84 := q_is_eq f_79 e_83
          have l_85 := kp_81 0 _ l_69 (by decide) (Or.inr (q_is_cat f0 (Or.inr rfl)))
          refine go_goto (o := (-61)) (t := 28) (by decide +kernel) (by decide +kernel) ?_
          exact ih m E h R_63 l_85 f0 l_80 f_84
        · have h := it_n hp_76 h
          refine go_aload_n (n := 0) (by decide +kernel) l_69 f0 ?_
          refine go_dup (by decide +kernel) f0 (Or.inr rfl) ?_
          obtain ⟨x_89, e_90, h⟩ := lx_s h
          refine go_getf (x := 16) (ci := 3) (kf := 3) (fin := 0) (t := 0) (by decide +kernel) (by decide +kernel) (by decide +kernel) R_63 f0 g0 fun v_86 f_87 => ?_
          have f_88 := q_is_eq f_87 e_90
          refine go_iconst (n := 1) (z := 1) (by decide +kernel) (by decide) fun v_91 f_92 => ?_
          refine go_iadd (by decide +kernel) f_88 f_92 fun v_93 f_94 => ?_
          obtain ⟨m_95, e_96, h⟩ := up_s h
          refine go_putf (x := 16) (ci := 3) (kf := 3) (fin := 0) (zt := 0) (by decide +kernel) (by decide +kernel) (by decide) (by decide +kernel) (by decide) (Or.inl rfl) R_63 f0 f_94 (fun hq => absurd hq (by decide)) g0 e_96 (fx_f (j := 3) R_63.2 g0 (by decide +kernel)) fun S_97 R_98 E_99 => ?_
          have E_100 := Ext.tr E E_99
          refine go_aload_n (n := 0) (by decide +kernel) l_69 f0 ?_
          refine go_aload_n (n := 0) (by decide +kernel) l_69 f0 ?_
          refine go_iload_n (n := 1) (by decide +kernel) l_70 f1 ?_
          have g_101 := Ext.ok E_99 g0
          obtain ⟨x_103, hc_102, h⟩ := bp_s h
          refine go_callV (x := 55) (mi := 10) (n := 1) (ci := 3) (as := [v1]) (rest := [v0]) (by decide +kernel) (by decide +kernel) rfl rfl (q_sum8 _ (Nat.le_of_ble_eq_true rfl)) R_98 f0 g_101 (om_X2_x (Nat.le_trans (by decide) hd) R_98 g_101 f0 f1 hc_102) (fun _ S_107 q_110 => ?_) (fun _ _ qq => kr_x qq)
          refine kr_z (by decide) q_110 fun v_105 f_106 R_108 E_109 => ?_
          obtain ⟨m_111, e_112, h⟩ := up_s h
          refine go_putf (x := 19) (ci := 3) (kf := 4) (fin := 0) (zt := 0) (by decide +kernel) (by decide +kernel) (by decide) (by decide +kernel) (by decide) (Or.inl rfl) R_108 f0 f_106 (fun hq => absurd hq (by decide)) g_101 e_112 (fx_f (j := 4) R_108.2 g_101 (by decide +kernel)) fun S_113 R_114 E_115 => ?_
          have E_116 := Ext.tr E_100 E_115
          refine go_iinc (n := 1) (c := 1) (c' := 1) (by decide +kernel) (by decide +kernel) l_70 f1 (by decide) fun L_117 v_118 f_119 l_120 kp_121 => ?_
          obtain ⟨x_122, e_123, h⟩ := lx_s h
          have f_124 := q_is_eq f_119 e_123
          have l_125 := kp_121 0 _ l_69 (by decide) (Or.inr (q_is_cat f0 (Or.inr rfl)))
          refine go_goto (o := (-61)) (t := 28) (by decide +kernel) (by decide +kernel) ?_
          exact ih m_111 E_116 h R_114 l_125 f0 l_120 f_124
      · have h := it_f hp_73 h
        refine go_aload_n (n := 0) (by decide +kernel) l_69 f0 ?_
        refine go_dup (by decide +kernel) f0 (Or.inr rfl) ?_
        obtain ⟨x_129, e_130, h⟩ := lx_s h
        refine go_getf (x := 13) (ci := 3) (kf := 2) (fin := 0) (t := 0) (by decide +kernel) (by decide +kernel) (by decide +kernel) R_63 f0 g0 fun v_126 f_127 => ?_
        have f_128 := q_is_eq f_127 e_130
        refine go_iconst (n := 1) (z := 1) (by decide +kernel) (by decide) fun v_131 f_132 => ?_
        refine go_iadd (by decide +kernel) f_128 f_132 fun v_133 f_134 => ?_
        obtain ⟨m_135, e_136, h⟩ := up_s h
        refine go_putf (x := 13) (ci := 3) (kf := 2) (fin := 0) (zt := 0) (by decide +kernel) (by decide +kernel) (by decide) (by decide +kernel) (by decide) (Or.inl rfl) R_63 f0 f_134 (fun hq => absurd hq (by decide)) g0 e_136 (fx_f (j := 2) R_63.2 g0 (by decide +kernel)) fun S_137 R_138 E_139 => ?_
        have E_140 := Ext.tr E E_139
        refine go_goto (o := 28) (t := 86) (by decide +kernel) (by decide +kernel) ?_
        refine go_iinc (n := 1) (c := 1) (c' := 1) (by decide +kernel) (by decide +kernel) l_70 f1 (by decide) fun L_141 v_142 f_143 l_144 kp_145 => ?_
        obtain ⟨x_146, e_147, h⟩ := lx_s h
        have f_148 := q_is_eq f_143 e_147
        have l_149 := kp_145 0 _ l_69 (by decide) (Or.inr (q_is_cat f0 (Or.inr rfl)))
        refine go_goto (o := (-61)) (t := 28) (by decide +kernel) (by decide +kernel) ?_
        exact ih m_135 E_140 h R_138 l_149 f0 l_144 f_148
noncomputable def fm_X2_countAgain (p0 : Int) (m0 : MM) : Option (Int × MM) := lx (m0 p0 0) fun x_4 =>
gd (okc m0 x_4 6) <| lx (m0 x_4 2) fun x_10 =>
up m0 p0 1 x_10 fun m_12 =>
up m_12 p0 2 0 fun m_21 =>
up m_21 p0 3 0 fun m_30 =>
up m_30 p0 4 0 fun m_39 =>
fl_X2_countAgain_28 p0  BIG 0 m_39
set_option maxHeartbeats 4000000 in
theorem om_X2_countAgain {xs : List Int32} {d : Nat} {S : QS} {m0 : MM} {p0 : Int} {v0 : Value} {rz : Int} {rm : MM}
  (hd : 3 ≤ d) (R : Rp S m0) (g0 : okc m0 p0 3) (f0 : q_is 2 v0 p0)
  (h : fm_X2_countAgain p0 m0 = some (rz, rm)) : Mt xs d 18 [v0] S (Cr 9 m0 rm rz) := by
  obtain ⟨d, rfl⟩ : ∃ e, d = e + 1 := ⟨d - 1, by omega⟩
  have hd : 2 ≤ d := Nat.le_of_succ_le_succ hd
  refine Mt.of (M := qM_X2_countAgain) rfl (by rw [sl_1 (q_is_cat f0 (Or.inr rfl)), sl_0]; decide) ?_
  rw [la_1 (q_is_cat f0 (Or.inr rfl)), la_0]
  obtain ⟨L, hL⟩ : ∃ L : QL, L = [(0, v0)] := ⟨_, rfl⟩
  rw [← hL]
  have l0 : q_lo L 0 = some v0 := by rw [hL]; rfl
  have hQ : Ext m0 rm → ∀ o S1, Rp S1 rm → q_out 9 o rz → (Cr 9 m0 rm rz) o S1 := fun a o S1 b e => ⟨b, a, e⟩
  unfold fm_X2_countAgain at h
  refine go_aload_n (n := 0) (by decide +kernel) l0 f0 ?_
  refine go_aload_n (n := 0) (by decide +kernel) l0 f0 ?_
  obtain ⟨x_4, e_5, h⟩ := lx_s h
  refine go_getf (x := 22) (ci := 3) (kf := 0) (fin := 1) (t := 2) (by decide +kernel) (by decide +kernel) (by decide +kernel) R f0 g0 fun v_1 f_2 => ?_
  have f_3 := q_is_eq f_2 e_5
  obtain ⟨g_8, h⟩ := gd_s h
  obtain ⟨x_10, e_11, h⟩ := lx_s h
  refine go_getf (x := 39) (ci := 6) (kf := 2) (fin := 0) (t := 0) (by decide +kernel) (by decide +kernel) (by decide +kernel) R f_3 g_8 fun v_6 f_7 => ?_
  have f_9 := q_is_eq f_7 e_11
  obtain ⟨m_12, e_13, h⟩ := up_s h
  refine go_putf (x := 9) (ci := 3) (kf := 1) (fin := 0) (zt := 0) (by decide +kernel) (by decide +kernel) (by decide) (by decide +kernel) (by decide) (Or.inl rfl) R f0 f_9 (fun hq => absurd hq (by decide)) g0 e_13 (fx_f (j := 1) R.2 g0 (by decide +kernel)) fun S_14 R_15 E_16 => ?_
  have E_17 := E_16
  refine go_aload_n (n := 0) (by decide +kernel) l0 f0 ?_
  refine go_iconst (n := 0) (z := 0) (by decide +kernel) (by decide) fun v_18 f_19 => ?_
  have g_20 := Ext.ok E_16 g0
  obtain ⟨m_21, e_22, h⟩ := up_s h
  refine go_putf (x := 13) (ci := 3) (kf := 2) (fin := 0) (zt := 0) (by decide +kernel) (by decide +kernel) (by decide) (by decide +kernel) (by decide) (Or.inl rfl) R_15 f0 f_19 (fun hq => absurd hq (by decide)) g_20 e_22 (fx_f (j := 2) R_15.2 g_20 (by decide +kernel)) fun S_23 R_24 E_25 => ?_
  have E_26 := Ext.tr E_17 E_25
  refine go_aload_n (n := 0) (by decide +kernel) l0 f0 ?_
  refine go_iconst (n := 0) (z := 0) (by decide +kernel) (by decide) fun v_27 f_28 => ?_
  have g_29 := Ext.ok E_25 g_20
  obtain ⟨m_30, e_31, h⟩ := up_s h
  refine go_putf (x := 16) (ci := 3) (kf := 3) (fin := 0) (zt := 0) (by decide +kernel) (by decide +kernel) (by decide) (by decide +kernel) (by decide) (Or.inl rfl) R_24 f0 f_28 (fun hq => absurd hq (by decide)) g_29 e_31 (fx_f (j := 3) R_24.2 g_29 (by decide +kernel)) fun S_32 R_33 E_34 => ?_
  have E_35 := Ext.tr E_26 E_34
  refine go_aload_n (n := 0) (by decide +kernel) l0 f0 ?_
  refine go_iconst (n := 0) (z := 0) (by decide +kernel) (by decide) fun v_36 f_37 => ?_
  have g_38 := Ext.ok E_34 g_29
  obtain ⟨m_39, e_40, h⟩ := up_s h
  refine go_putf (x := 19) (ci := 3) (kf := 4) (fin := 0) (zt := 0) (by decide +kernel) (by decide +kernel) (by decide) (by decide +kernel) (by decide) (Or.inl rfl) R_33 f0 f_37 (fun hq => absurd hq (by decide)) g_38 e_40 (fx_f (j := 4) R_33.2 g_38 (by decide +kernel)) fun S_41 R_42 E_43 => ?_
  have E_44 := Ext.tr E_35 E_43
  refine go_iconst (n := 0) (z := 0) (by decide +kernel) (by decide) fun v_45 f_46 => ?_
  refine go_istore_n (n := 1) (by decide +kernel) (by decide +kernel) f_46 fun L_47 l_48 kp_49 => ?_
  have l_50 := kp_49 0 _ l0 (by decide) (Or.inr (q_is_cat f0 (Or.inr rfl)))
  have g_150 := Ext.ok E_43 g_38
  refine ol_X2_countAgain_28 hd  g_150  (fun b => hQ (Ext.tr E_44 b)) BIG (Ext.rf _) h R_42 l_50 f0 l_48 f_46
end DF1
