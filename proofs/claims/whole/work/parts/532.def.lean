/-! Methods as functions (written by wip/whole/dec.py), 32: X12_walks, X12_goOn, X12_waiting, X12_comesBack, X12_isCancelled. -/
section DF32
noncomputable def fj_X12_walks_96 (c : Int → MM → Option (Int × MM)) (y1 : Int) (m : MM) : Option (Int × MM) := bp (fm_X12_slot y1 m) fun x_116 =>
if x_116 = (-1) then
c x_116 m
else
bp (fm_X12_goes m) fun x_133 =>
if x_133 = 0 then
c x_116 m
else
gd (0 ≤ x_116 ∧ x_116 < 12) <| lx (m 145 x_116) fun x_149 =>
if x_149 = 0 then
c x_116 m
else
bd (fm_X12_canGoOn x_116 m) fun x_153 m_154 =>
c x_116 m_154
set_option maxHeartbeats 4000000 in
theorem oj_X12_walks_96 {xs : List Int32} {d : Nat} {S : QS} {L : QL} {Q : QO → QS → Prop} {m : MM} {y1 : Int} {v0 : Value} {v1 : Value}  {rz : Int} {rm : MM} {c : Int → MM → Option (Int × MM)} 
  (hd : 10 ≤ d) (R : Rp S m) (l0 : q_lo L 0 = some v0) (f0 : q_is 2 v0 68) (l1 : q_lo L 1 = some v1) (f1 : q_is 0 v1 y1)
  (hc : ∀ mq : MM, Ext m mq → ∀ {z2 : Int} {Sq : QS} {Lq : QL} {u0 : Value} {u1 : Value} {u2 : Value}, c z2 mq = some (rz, rm) → Rp Sq mq → q_lo Lq 0 = some u0 → q_is 2 u0 68 → q_lo Lq 1 = some u1 → q_is 0 u1 y1 → q_lo Lq 2 = some u2 → q_is 0 u2 z2 → Go xs d qM_X12_walks 6 Lq [] Sq Q)
  (hQ : Ext m rm → ∀ o S1, Rp S1 rm → q_out 9 o rz → Q o S1)
  (h : fj_X12_walks_96 c y1 m = some (rz, rm)) : Go xs d qM_X12_walks 96 L [] S Q := by
  unfold fj_X12_walks_96 at h
  refine go_aload_n (n := 0) (by decide +kernel) l0 f0 ?_
  refine go_iload_n (n := 1) (by decide +kernel) l1 f1 ?_
  obtain ⟨x_116, hc_115, h⟩ := bp_s h
  refine go_callV (x := 449) (mi := 215) (n := 1) (ci := 13) (as := [v1]) (rest := []) (by decide +kernel) (by decide +kernel) rfl rfl (q_sum8 _ (Nat.le_of_ble_eq_true rfl)) R f0 (fx_k (c := 13) R (by decide +kernel)) (om_X12_slot (Nat.le_trans (by decide) hd) R f0 f1 hc_115) (fun _ S_120 q_123 => ?_) (fun _ _ qq => kr_x qq)
  refine kr_z (by decide) q_123 fun v_118 f_119 R_121 E_122 => ?_
  refine go_istore_n (n := 2) (by decide +kernel) (by decide +kernel) f_119 fun L_124 l_125 kp_126 => ?_
  have l_127 := kp_126 0 _ l0 (by decide) (Or.inl (by decide))
  have l_128 := kp_126 1 _ l1 (by decide) (Or.inr (q_is_cat f1 (Or.inl rfl)))
  refine go_iload_n (n := 2) (by decide +kernel) l_125 f_119 ?_
  refine go_iconst (n := (-1)) (z := (-1)) (by decide +kernel) (by decide) fun v_129 f_130 => ?_
  refine go_icmp (c := .eq) (o := (-98)) (t := 6) (P := x_116 = (-1)) (by decide +kernel) (by decide +kernel) f_119 f_130 (Iff.rfl) (fun hp_131 => ?_) (fun hp_131 => ?_)
  · have h := it_t hp_131 h
    exact hc m (Ext.rf _) h R_121 l_127 f0 l_128 f1 l_125 f_119
  · have h := it_f hp_131 h
    refine go_aload_n (n := 0) (by decide +kernel) l_127 f0 ?_
    obtain ⟨x_133, hc_132, h⟩ := bp_s h
    refine go_callV (x := 439) (mi := 216) (n := 0) (ci := 13) (as := []) (rest := []) (by decide +kernel) (by decide +kernel) rfl rfl (q_sum8 _ (Nat.le_of_ble_eq_true rfl)) R_121 f0 (fx_k (c := 13) R_121 (by decide +kernel)) (om_X12_goes (Nat.le_trans (by decide) hd) R_121 f0 hc_132) (fun _ S_137 q_140 => ?_) (fun _ _ qq => kr_x qq)
    refine kr_z (by decide) q_140 fun v_135 f_136 R_138 E_139 => ?_
    refine go_if (c := .eq) (o := (-105)) (t := 6) (P := x_133 = 0) (by decide +kernel) (by decide +kernel) f_136 (Iff.rfl) (fun hp_141 => ?_) (fun hp_141 => ?_)
    · have h := it_t hp_141 h
      exact hc m (Ext.rf _) h R_138 l_127 f0 l_128 f1 l_125 f_119
    · have h := it_f hp_141 h
      refine go_aload_n (n := 0) (by decide +kernel) l_127 f0 ?_
      refine go_getf (x := 250) (ci := 13) (kf := 95) (fin := 1) (t := 2) (by decide +kernel) (by decide +kernel) (by decide +kernel) R_138 f0 (fx_k (c := 13) R_138 (by decide +kernel)) fun v_142 f_143 => ?_
      have f_144 := q_is_eq (b := 145) f_143 (fx_v R_138 (by decide +kernel)).symm
      refine go_iload_n (n := 2) (by decide +kernel) l_125 f_119 ?_
      obtain ⟨g_147, h⟩ := gd_s h
      obtain ⟨x_149, e_150, h⟩ := lx_s h
      refine go_iald (kd := 100) (by decide +kernel) rfl R_138 f_144 f_119 (fx_k (c := 100) R_138 (by decide +kernel)) (fx_x (a := 145) (ln := 12) R_138 (by decide +kernel) g_147) fun v_145 f_146 => ?_
      have f_148 := q_is_eq f_146 e_150
      refine go_if (c := .eq) (o := (-114)) (t := 6) (P := x_149 = 0) (by decide +kernel) (by decide +kernel) f_148 (Iff.rfl) (fun hp_151 => ?_) (fun hp_151 => ?_)
      · have h := it_t hp_151 h
        exact hc m (Ext.rf _) h R_138 l_127 f0 l_128 f1 l_125 f_119
      · have h := it_f hp_151 h
        refine go_aload_n (n := 0) (by decide +kernel) l_127 f0 ?_
        refine go_iload_n (n := 2) (by decide +kernel) l_125 f_119 ?_
        obtain ⟨x_153, m_154, hc_152, h⟩ := bd_s h
        refine go_callV (x := 506) (mi := 241) (n := 1) (ci := 13) (as := [v_118]) (rest := []) (by decide +kernel) (by decide +kernel) rfl rfl (q_sum8 _ (Nat.le_of_ble_eq_true rfl)) R_138 f0 (fx_k (c := 13) R_138 (by decide +kernel)) (om_X12_canGoOn (Nat.le_trans (by decide) hd) R_138 f0 f_119 hc_152) (fun _ S_157 q_160 => ?_) (fun _ _ qq => kr_x qq)
        refine kr_z (by decide) q_160 fun v_155 f_156 R_158 E_159 => ?_
        have E_163 := E_159
        refine go_pop (by decide +kernel) f_156 (Or.inl rfl) ?_
        refine go_goto (o := (-123)) (t := 6) (by decide +kernel) (by decide +kernel) ?_
        exact hc m_154 E_163 h R_158 l_127 f0 l_128 f1 l_125 f_119
noncomputable def fl_X12_walks_6 (y1 : Int) : Nat → Int → MM → Option (Int × MM)
  | 0, _, _ => none
  | n + 1, y2, m => if y2 = (-1) then
some (0, m)
else
bp (fm_X12_goes m) fun x_19 =>
if x_19 = 0 then
some (0, m)
else
gd (0 ≤ y2 ∧ y2 < 12) <| lx (m 145 y2) fun x_35 =>
if x_35 = 0 then
lx (m 144 y2) fun x_44 =>
lx (m 68 88) fun x_57 =>
gd (0 ≤ x_57 ∧ x_57 < 30) <| lx (m 80 x_57) fun x_63 =>
lx (m 68 89) fun x_70 =>
gd (0 ≤ w32 ((w32 (5 * x_63)) + x_70) ∧ w32 ((w32 (5 * x_63)) + x_70) < 20) <| lx (m 70 (w32 ((w32 (5 * x_63)) + x_70))) fun x_78 =>
if x_44 < x_78 then
lx (m 68 113) fun x_84 =>
if x_84 = 60 then
bd (fm_X12_spins m) fun x_165 m_166 =>
fj_X12_walks_96 (fl_X12_walks_6 y1 n) y1 m_166
else
up m 68 113 (w32 (x_84 + 1)) fun m_96 =>
bd (fm_X12_does y2 m_96) fun x_104 m_105 =>
fj_X12_walks_96 (fl_X12_walks_6 y1 n) y1 m_105
else
bd (fm_X12_endsBranch y2 m) fun x_177 m_178 =>
fj_X12_walks_96 (fl_X12_walks_6 y1 n) y1 m_178
else
some (0, m)
set_option maxHeartbeats 4000000 in
theorem ol_X12_walks_6 {xs : List Int32} {d : Nat} {Q : QO → QS → Prop} {mb : MM} {y1 : Int} {rz : Int} {rm : MM}
  (hd : 10 ≤ d)
  (hQ : Ext mb rm → ∀ o S1, Rp S1 rm → q_out 9 o rz → Q o S1) :
  ∀ (n : Nat) {m : MM} {S : QS} {L : QL} {y2 : Int} {v0 : Value} {v1 : Value} {v2 : Value} , Ext mb m → fl_X12_walks_6 y1 n y2 m = some (rz, rm) → Rp S m → q_lo L 0 = some v0 → q_is 2 v0 68 → q_lo L 1 = some v1 → q_is 0 v1 y1 → q_lo L 2 = some v2 → q_is 0 v2 y2 → Go xs d qM_X12_walks 6 L [] S Q := by
  intro n
  induction n with
  | zero => intro m S L y2 v0 v1 v2; intro E h R l0 f0 l1 f1 l2 f2; cases h
  | succ n ih0 =>
    intro m S L y2 v0 v1 v2; intro E h R l0 f0 l1 f1 l2 f2
    have ih : ∀ mq : MM, Ext mb mq → ∀ {z2 : Int} {Sq : QS} {Lq : QL} {u0 : Value} {u1 : Value} {u2 : Value}, fl_X12_walks_6 y1 n z2 mq = some (rz, rm) → Rp Sq mq → q_lo Lq 0 = some u0 → q_is 2 u0 68 → q_lo Lq 1 = some u1 → q_is 0 u1 y1 → q_lo Lq 2 = some u2 → q_is 0 u2 z2 → Go xs d qM_X12_walks 6 Lq [] Sq Q := fun mq b => by intros; exact ih0 b ‹_› ‹_› ‹_› ‹_› ‹_› ‹_› ‹_› ‹_›
    unfold fl_X12_walks_6 at h
    refine go_iload_n (n := 2) (by decide +kernel) l2 f2 ?_
    refine go_iconst (n := (-1)) (z := (-1)) (by decide +kernel) (by decide) fun v_15 f_16 => ?_
    refine go_icmp (c := .eq) (o := 124) (t := 132) (P := y2 = (-1)) (by decide +kernel) (by decide +kernel) f2 f_16 (Iff.rfl) (fun hp_17 => ?_) (fun hp_17 => ?_)
    · have h := it_t hp_17 h
      cases h
      exact go_vret (by decide +kernel) rfl (hQ E _ _ R q_out_n)
    · have h := it_f hp_17 h
      refine go_aload_n (n := 0) (by decide +kernel) l0 f0 ?_
      obtain ⟨x_19, hc_18, h⟩ := bp_s h
      refine go_callV (x := 439) (mi := 216) (n := 0) (ci := 13) (as := []) (rest := []) (by decide +kernel) (by decide +kernel) rfl rfl (q_sum8 _ (Nat.le_of_ble_eq_true rfl)) R f0 (fx_k (c := 13) R (by decide +kernel)) (om_X12_goes (Nat.le_trans (by decide) hd) R f0 hc_18) (fun _ S_23 q_26 => ?_) (fun _ _ qq => kr_x qq)
      refine kr_z (by decide) q_26 fun v_21 f_22 R_24 E_25 => ?_
      refine go_if (c := .eq) (o := 117) (t := 132) (P := x_19 = 0) (by decide +kernel) (by decide +kernel) f_22 (Iff.rfl) (fun hp_27 => ?_) (fun hp_27 => ?_)
      · have h := it_t hp_27 h
        cases h
        exact go_vret (by decide +kernel) rfl (hQ E _ _ R_24 q_out_n)
      · have h := it_f hp_27 h
        refine go_aload_n (n := 0) (by decide +kernel) l0 f0 ?_
        refine go_getf (x := 250) (ci := 13) (kf := 95) (fin := 1) (t := 2) (by decide +kernel) (by decide +kernel) (by decide +kernel) R_24 f0 (fx_k (c := 13) R_24 (by decide +kernel)) fun v_28 f_29 => ?_
        have f_30 := q_is_eq (b := 145) f_29 (fx_v R_24 (by decide +kernel)).symm
        refine go_iload_n (n := 2) (by decide +kernel) l2 f2 ?_
        obtain ⟨g_33, h⟩ := gd_s h
        obtain ⟨x_35, e_36, h⟩ := lx_s h
        refine go_iald (kd := 100) (by decide +kernel) rfl R_24 f_30 f2 (fx_k (c := 100) R_24 (by decide +kernel)) (fx_x (a := 145) (ln := 12) R_24 (by decide +kernel) g_33) fun v_31 f_32 => ?_
        have f_34 := q_is_eq f_32 e_36
        refine go_if (c := .ne) (o := 108) (t := 132) (P := ¬ (x_35 = 0)) (by decide +kernel) (by decide +kernel) f_34 (Iff.rfl) (fun hp_37 => ?_) (fun hp_37 => ?_)
        · have h := it_f hp_37 h
          cases h
          exact go_vret (by decide +kernel) rfl (hQ E _ _ R_24 q_out_n)
        · have h := it_n hp_37 h
          refine go_aload_n (n := 0) (by decide +kernel) l0 f0 ?_
          refine go_getf (x := 247) (ci := 13) (kf := 94) (fin := 1) (t := 2) (by decide +kernel) (by decide +kernel) (by decide +kernel) R_24 f0 (fx_k (c := 13) R_24 (by decide +kernel)) fun v_38 f_39 => ?_
          have f_40 := q_is_eq (b := 144) f_39 (fx_v R_24 (by decide +kernel)).symm
          refine go_iload_n (n := 2) (by decide +kernel) l2 f2 ?_
          obtain ⟨x_44, e_45, h⟩ := lx_s h
          refine go_iald (kd := 100) (by decide +kernel) rfl R_24 f_40 f2 (fx_k (c := 100) R_24 (by decide +kernel)) (fx_x (a := 144) (ln := 12) R_24 (by decide +kernel) g_33) fun v_41 f_42 => ?_
          have f_43 := q_is_eq f_42 e_45
          refine go_aload_n (n := 0) (by decide +kernel) l0 f0 ?_
          refine go_getf (x := 13) (ci := 13) (kf := 2) (fin := 1) (t := 2) (by decide +kernel) (by decide +kernel) (by decide +kernel) R_24 f0 (fx_k (c := 13) R_24 (by decide +kernel)) fun v_46 f_47 => ?_
          have f_48 := q_is_eq (b := 70) f_47 (fx_v R_24 (by decide +kernel)).symm
          refine go_iconst (n := 5) (z := 5) (by decide +kernel) (by decide) fun v_49 f_50 => ?_
          refine go_aload_n (n := 0) (by decide +kernel) l0 f0 ?_
          refine go_getf (x := 43) (ci := 13) (kf := 13) (fin := 1) (t := 2) (by decide +kernel) (by decide +kernel) (by decide +kernel) R_24 f0 (fx_k (c := 13) R_24 (by decide +kernel)) fun v_51 f_52 => ?_
          have f_53 := q_is_eq (b := 80) f_52 (fx_v R_24 (by decide +kernel)).symm
          refine go_aload_n (n := 0) (by decide +kernel) l0 f0 ?_
          obtain ⟨x_57, e_58, h⟩ := lx_s h
          refine go_getf (x := 387) (ci := 13) (kf := 88) (fin := 0) (t := 0) (by decide +kernel) (by decide +kernel) (by decide +kernel) R_24 f0 (fx_k (c := 13) R_24 (by decide +kernel)) fun v_54 f_55 => ?_
          have f_56 := q_is_eq f_55 e_58
          obtain ⟨g_61, h⟩ := gd_s h
          obtain ⟨x_63, e_64, h⟩ := lx_s h
          refine go_iald (kd := 100) (by decide +kernel) rfl R_24 f_53 f_56 (fx_k (c := 100) R_24 (by decide +kernel)) (fx_x (a := 80) (ln := 30) R_24 (by decide +kernel) g_61) fun v_59 f_60 => ?_
          have f_62 := q_is_eq f_60 e_64
          refine go_imul (by decide +kernel) f_50 f_62 fun v_65 f_66 => ?_
          refine go_aload_n (n := 0) (by decide +kernel) l0 f0 ?_
          obtain ⟨x_70, e_71, h⟩ := lx_s h
          refine go_getf (x := 471) (ci := 13) (kf := 89) (fin := 0) (t := 0) (by decide +kernel) (by decide +kernel) (by decide +kernel) R_24 f0 (fx_k (c := 13) R_24 (by decide +kernel)) fun v_67 f_68 => ?_
          have f_69 := q_is_eq f_68 e_71
          refine go_iadd (by decide +kernel) f_66 f_69 fun v_72 f_73 => ?_
          obtain ⟨g_76, h⟩ := gd_s h
          obtain ⟨x_78, e_79, h⟩ := lx_s h
          refine go_iald (kd := 100) (by decide +kernel) rfl R_24 f_48 f_73 (fx_k (c := 100) R_24 (by decide +kernel)) (fx_x (a := 70) (ln := 20) R_24 (by decide +kernel) g_76) fun v_74 f_75 => ?_
          have f_77 := q_is_eq f_75 e_79
          refine go_icmp (c := .lt) (o := 11) (t := 65) (P := x_44 < x_78) (by decide +kernel) (by decide +kernel) f_43 f_77 (Iff.rfl) (fun hp_80 => ?_) (fun hp_80 => ?_)
          · have h := it_t hp_80 h
            refine go_aload_n (n := 0) (by decide +kernel) l0 f0 ?_
            obtain ⟨x_84, e_85, h⟩ := lx_s h
            refine go_getf (x := 503) (ci := 13) (kf := 113) (fin := 0) (t := 0) (by decide +kernel) (by decide +kernel) (by decide +kernel) R_24 f0 (fx_k (c := 13) R_24 (by decide +kernel)) fun v_81 f_82 => ?_
            have f_83 := q_is_eq f_82 e_85
            refine go_bipush (n := 60) (z := 60) (by decide +kernel) (by decide) fun v_86 f_87 => ?_
            refine go_icmp (c := .ne) (o := 10) (t := 81) (P := ¬ (x_84 = 60)) (by decide +kernel) (by decide +kernel) f_83 f_87 (Iff.rfl) (fun hp_88 => ?_) (fun hp_88 => ?_)
            · have h := it_f hp_88 h
              refine go_aload_n (n := 0) (by decide +kernel) l0 f0 ?_
              refine go_dup (by decide +kernel) f0 (Or.inr rfl) ?_
              refine go_getf (x := 503) (ci := 13) (kf := 113) (fin := 0) (t := 0) (by decide +kernel) (by decide +kernel) (by decide +kernel) R_24 f0 (fx_k (c := 13) R_24 (by decide +kernel)) fun v_89 f_90 => ?_
              have f_91 := q_is_eq f_90 e_85
              refine go_iconst (n := 1) (z := 1) (by decide +kernel) (by decide) fun v_92 f_93 => ?_
              refine go_iadd (by decide +kernel) f_91 f_93 fun v_94 f_95 => ?_
              obtain ⟨m_96, e_97, h⟩ := up_s h
              refine go_putf (x := 503) (ci := 13) (kf := 113) (fin := 0) (zt := 0) (by decide +kernel) (by decide +kernel) (by decide) (by decide +kernel) (by decide) (Or.inl rfl) R_24 f0 f_95 (fun hq => absurd hq (by decide)) (fx_k (c := 13) R_24 (by decide +kernel)) e_97 (fx_f (j := 113) R_24.2 (fx_k (c := 13) R_24 (by decide +kernel)) (by decide +kernel)) fun S_98 R_99 E_100 => ?_
              have E_102 := Ext.tr E E_100
              refine go_aload_n (n := 0) (by decide +kernel) l0 f0 ?_
              refine go_iload_n (n := 2) (by decide +kernel) l2 f2 ?_
              obtain ⟨x_104, m_105, hc_103, h⟩ := bd_s h
              refine go_callV (x := 512) (mi := 239) (n := 1) (ci := 13) (as := [v2]) (rest := []) (by decide +kernel) (by decide +kernel) rfl rfl (q_sum8 _ (Nat.le_of_ble_eq_true rfl)) R_99 f0 (fx_k (c := 13) R_99 (by decide +kernel)) (om_X12_does (Nat.le_trans (by decide) hd) R_99 f0 f2 hc_103) (fun _ S_108 q_111 => ?_) (fun _ _ qq => kr_x qq)
              refine kr_v q_111 fun R_109 E_110 => ?_
              have E_114 := Ext.tr E_102 E_110
              exact oj_X12_walks_96 hd R_109 l0 f0 l1 f1 (fun mq b => ih mq (Ext.tr E_114 b)) (fun b => hQ (Ext.tr E_114 b)) h
            · have h := it_n hp_88 h
              refine go_aload_n (n := 0) (by decide +kernel) l0 f0 ?_
              obtain ⟨x_165, m_166, hc_164, h⟩ := bd_s h
              refine go_callV (x := 419) (mi := 217) (n := 0) (ci := 13) (as := []) (rest := []) (by decide +kernel) (by decide +kernel) rfl rfl (q_sum8 _ (Nat.le_of_ble_eq_true rfl)) R_24 f0 (fx_k (c := 13) R_24 (by decide +kernel)) (om_X12_spins (Nat.le_trans (by decide) hd) R_24 f0 hc_164) (fun _ S_169 q_172 => ?_) (fun _ _ qq => kr_x qq)
              refine kr_v q_172 fun R_170 E_171 => ?_
              have E_175 := Ext.tr E E_171
              refine go_goto (o := 18) (t := 96) (by decide +kernel) (by decide +kernel) ?_
              exact oj_X12_walks_96 hd R_170 l0 f0 l1 f1 (fun mq b => ih mq (Ext.tr E_175 b)) (fun b => hQ (Ext.tr E_175 b)) h
          · have h := it_f hp_80 h
            refine go_aload_n (n := 0) (by decide +kernel) l0 f0 ?_
            refine go_iload_n (n := 2) (by decide +kernel) l2 f2 ?_
            obtain ⟨x_177, m_178, hc_176, h⟩ := bd_s h
            refine go_callV (x := 489) (mi := 226) (n := 1) (ci := 13) (as := [v2]) (rest := []) (by decide +kernel) (by decide +kernel) rfl rfl (q_sum8 _ (Nat.le_of_ble_eq_true rfl)) R_24 f0 (fx_k (c := 13) R_24 (by decide +kernel)) (om_X12_endsBranch (Nat.le_trans (by decide) hd) R_24 f0 f2 hc_176) (fun _ S_181 q_184 => ?_) (fun _ _ qq => kr_x qq)
            refine kr_v q_184 fun R_182 E_183 => ?_
            have E_187 := Ext.tr E E_183
            refine go_goto (o := 34) (t := 96) (by decide +kernel) (by decide +kernel) ?_
            exact oj_X12_walks_96 hd R_182 l0 f0 l1 f1 (fun mq b => ih mq (Ext.tr E_187 b)) (fun b => hQ (Ext.tr E_187 b)) h
noncomputable def fm_X12_walks (p1 : Int) (m0 : MM) : Option (Int × MM) := bp (fm_X12_slot p1 m0) fun x_2 =>
fl_X12_walks_6 p1  BIG x_2 m0
set_option maxHeartbeats 4000000 in
theorem om_X12_walks {xs : List Int32} {d : Nat} {S : QS} {m0 : MM} {p1 : Int} {v0 : Value} {v1 : Value} {rz : Int} {rm : MM}
  (hd : 11 ≤ d) (R : Rp S m0) (f0 : q_is 2 v0 68) (f1 : q_is 0 v1 p1)
  (h : fm_X12_walks p1 m0 = some (rz, rm)) : Mt xs d 243 [v0, v1] S (Cr 9 m0 rm rz) := by
  obtain ⟨d, rfl⟩ : ∃ e, d = e + 1 := ⟨d - 1, by omega⟩
  have hd : 10 ≤ d := Nat.le_of_succ_le_succ hd
  refine Mt.of (M := qM_X12_walks) rfl (by rw [sl_1 (q_is_cat f0 (Or.inr rfl)), sl_1 (q_is_cat f1 (Or.inl rfl)), sl_0]; decide) ?_
  rw [la_1 (q_is_cat f0 (Or.inr rfl)), la_1 (q_is_cat f1 (Or.inl rfl)), la_0]
  obtain ⟨L, hL⟩ : ∃ L : QL, L = [(0, v0), (0 + 1, v1)] := ⟨_, rfl⟩
  rw [← hL]
  have l0 : q_lo L 0 = some v0 := by rw [hL]; rfl
  have l1 : q_lo L 1 = some v1 := by rw [hL]; rfl
  have hQ : Ext m0 rm → ∀ o S1, Rp S1 rm → q_out 9 o rz → (Cr 9 m0 rm rz) o S1 := fun a o S1 b e => ⟨b, a, e⟩
  unfold fm_X12_walks at h
  refine go_aload_n (n := 0) (by decide +kernel) l0 f0 ?_
  refine go_iload_n (n := 1) (by decide +kernel) l1 f1 ?_
  obtain ⟨x_2, hc_1, h⟩ := bp_s h
  refine go_callV (x := 449) (mi := 215) (n := 1) (ci := 13) (as := [v1]) (rest := []) (by decide +kernel) (by decide +kernel) rfl rfl (q_sum8 _ (Nat.le_of_ble_eq_true rfl)) R f0 (fx_k (c := 13) R (by decide +kernel)) (om_X12_slot (Nat.le_trans (by decide) hd) R f0 f1 hc_1) (fun _ S_6 q_9 => ?_) (fun _ _ qq => kr_x qq)
  refine kr_z (by decide) q_9 fun v_4 f_5 R_7 E_8 => ?_
  refine go_istore_n (n := 2) (by decide +kernel) (by decide +kernel) f_5 fun L_10 l_11 kp_12 => ?_
  have l_13 := kp_12 0 _ l0 (by decide) (Or.inl (by decide))
  have l_14 := kp_12 1 _ l1 (by decide) (Or.inr (q_is_cat f1 (Or.inl rfl)))
  refine ol_X12_walks_6 hd   hQ BIG (Ext.rf _) h R_7 l_13 f0 l_14 f1 l_11 f_5
noncomputable def fl_X12_goOn_7 : Nat → Int → MM → Option (Int × MM)
  | 0, _, _ => none
  | n + 1, y1, m => lx (m 68 91) fun x_19 =>
if y1 < x_19 then
bp (fm_X12_goes m) fun x_23 =>
if x_23 = 0 then
some (0, m)
else
bd (fm_X12_canGoOn y1 m) fun x_33 m_34 =>
if x_33 = 0 then
lx (w32 (y1 + 1)) fun x_77 =>
fl_X12_goOn_7 n x_77 m_34
else
gd (0 ≤ y1 ∧ y1 < 12) <| lx (m_34 143 y1) fun x_52 =>
bd (fm_X12_walks x_52 m_34) fun x_55 m_56 =>
fl_X12_goOn_7 n 0 m_56
else
some (0, m)
set_option maxHeartbeats 4000000 in
theorem ol_X12_goOn_7 {xs : List Int32} {d : Nat} {Q : QO → QS → Prop} {mb : MM} {rz : Int} {rm : MM}
  (hd : 11 ≤ d)
  (hQ : Ext mb rm → ∀ o S1, Rp S1 rm → q_out 9 o rz → Q o S1) :
  ∀ (n : Nat) {m : MM} {S : QS} {L : QL} {y1 : Int} {v0 : Value} {v1 : Value} , Ext mb m → fl_X12_goOn_7 n y1 m = some (rz, rm) → Rp S m → q_lo L 0 = some v0 → q_is 2 v0 68 → q_lo L 1 = some v1 → q_is 0 v1 y1 → Go xs d qM_X12_goOn 7 L [] S Q := by
  intro n
  induction n with
  | zero => intro m S L y1 v0 v1; intro E h R l0 f0 l1 f1; cases h
  | succ n ih0 =>
    intro m S L y1 v0 v1; intro E h R l0 f0 l1 f1
    have ih : ∀ mq : MM, Ext mb mq → ∀ {z1 : Int} {Sq : QS} {Lq : QL} {u0 : Value} {u1 : Value}, fl_X12_goOn_7 n z1 mq = some (rz, rm) → Rp Sq mq → q_lo Lq 0 = some u0 → q_is 2 u0 68 → q_lo Lq 1 = some u1 → q_is 0 u1 z1 → Go xs d qM_X12_goOn 7 Lq [] Sq Q := fun mq b => by intros; exact ih0 b ‹_› ‹_› ‹_› ‹_› ‹_› ‹_›
    unfold fl_X12_goOn_7 at h
    refine go_iload_n (n := 1) (by decide +kernel) l1 f1 ?_
    refine go_aload_n (n := 0) (by decide +kernel) l0 f0 ?_
    obtain ⟨x_19, e_20, h⟩ := lx_s h
    refine go_getf (x := 368) (ci := 13) (kf := 91) (fin := 0) (t := 0) (by decide +kernel) (by decide +kernel) (by decide +kernel) R f0 (fx_k (c := 13) R (by decide +kernel)) fun v_16 f_17 => ?_
    have f_18 := q_is_eq f_17 e_20
    refine go_icmp (c := .ge) (o := 39) (t := 51) (P := ¬ (y1 < x_19)) (by decide +kernel) (by decide +kernel) f1 f_18 (Int.not_lt.symm) (fun hp_21 => ?_) (fun hp_21 => ?_)
    · have h := it_f hp_21 h
      cases h
      exact go_vret (by decide +kernel) rfl (hQ E _ _ R q_out_n)
    · have h := it_n hp_21 h
      refine go_aload_n (n := 0) (by decide +kernel) l0 f0 ?_
      obtain ⟨x_23, hc_22, h⟩ := bp_s h
      refine go_callV (x := 439) (mi := 216) (n := 0) (ci := 13) (as := []) (rest := []) (by decide +kernel) (by decide +kernel) rfl rfl (q_sum8 _ (Nat.le_of_ble_eq_true rfl)) R f0 (fx_k (c := 13) R (by decide +kernel)) (om_X12_goes (Nat.le_trans (by decide) hd) R f0 hc_22) (fun _ S_27 q_30 => ?_) (fun _ _ qq => kr_x qq)
      refine kr_z (by decide) q_30 fun v_25 f_26 R_28 E_29 => ?_
      refine go_if (c := .eq) (o := 32) (t := 51) (P := x_23 = 0) (by decide +kernel) (by decide +kernel) f_26 (Iff.rfl) (fun hp_31 => ?_) (fun hp_31 => ?_)
      · have h := it_t hp_31 h
        cases h
        exact go_vret (by decide +kernel) rfl (hQ E _ _ R_28 q_out_n)
      · have h := it_f hp_31 h
        refine go_aload_n (n := 0) (by decide +kernel) l0 f0 ?_
        refine go_iload_n (n := 1) (by decide +kernel) l1 f1 ?_
        obtain ⟨x_33, m_34, hc_32, h⟩ := bd_s h
        refine go_callV (x := 506) (mi := 241) (n := 1) (ci := 13) (as := [v1]) (rest := []) (by decide +kernel) (by decide +kernel) rfl rfl (q_sum8 _ (Nat.le_of_ble_eq_true rfl)) R_28 f0 (fx_k (c := 13) R_28 (by decide +kernel)) (om_X12_canGoOn (Nat.le_trans (by decide) hd) R_28 f0 f1 hc_32) (fun _ S_37 q_40 => ?_) (fun _ _ qq => kr_x qq)
        refine kr_z (by decide) q_40 fun v_35 f_36 R_38 E_39 => ?_
        have E_43 := Ext.tr E E_39
        refine go_if (c := .ne) (o := 9) (t := 36) (P := ¬ (x_33 = 0)) (by decide +kernel) (by decide +kernel) f_36 (Iff.rfl) (fun hp_44 => ?_) (fun hp_44 => ?_)
        · have h := it_f hp_44 h
          refine go_aload_n (n := 0) (by decide +kernel) l0 f0 ?_
          refine go_aload_n (n := 0) (by decide +kernel) l0 f0 ?_
          refine go_getf (x := 244) (ci := 13) (kf := 93) (fin := 1) (t := 2) (by decide +kernel) (by decide +kernel) (by decide +kernel) R_38 f0 (fx_k (c := 13) R_38 (by decide +kernel)) fun v_45 f_46 => ?_
          have f_47 := q_is_eq (b := 143) f_46 (fx_v R_38 (by decide +kernel)).symm
          refine go_iload_n (n := 1) (by decide +kernel) l1 f1 ?_
          obtain ⟨g_50, h⟩ := gd_s h
          obtain ⟨x_52, e_53, h⟩ := lx_s h
          refine go_iald (kd := 100) (by decide +kernel) rfl R_38 f_47 f1 (fx_k (c := 100) R_38 (by decide +kernel)) (fx_x (a := 143) (ln := 12) R_38 (by decide +kernel) g_50) fun v_48 f_49 => ?_
          have f_51 := q_is_eq f_49 e_53
          obtain ⟨x_55, m_56, hc_54, h⟩ := bd_s h
          refine go_callV (x := 509) (mi := 243) (n := 1) (ci := 13) (as := [v_48]) (rest := []) (by decide +kernel) (by decide +kernel) rfl rfl (q_sum8 _ (Nat.le_of_ble_eq_true rfl)) R_38 f0 (fx_k (c := 13) R_38 (by decide +kernel)) (om_X12_walks (Nat.le_trans (by decide) hd) R_38 f0 f_51 hc_54) (fun _ S_59 q_62 => ?_) (fun _ _ qq => kr_x qq)
          refine kr_v q_62 fun R_60 E_61 => ?_
          have E_65 := Ext.tr E_43 E_61
          refine go_iconst (n := 0) (z := 0) (by decide +kernel) (by decide) fun v_66 f_67 => ?_
          refine go_istore_n (n := 1) (by decide +kernel) (by decide +kernel) f_67 fun L_68 l_69 kp_70 => ?_
          have l_71 := kp_70 0 _ l0 (by decide) (Or.inr (q_is_cat f0 (Or.inr rfl)))
          refine go_goto (o := (-41)) (t := 7) (by decide +kernel) (by decide +kernel) ?_
          exact ih m_56 E_65 h R_60 l_71 f0 l_69 f_67
        · have h := it_n hp_44 h
          refine go_iinc (n := 1) (c := 1) (c' := 1) (by decide +kernel) (by decide +kernel) l1 f1 (by decide) fun L_72 v_73 f_74 l_75 kp_76 => ?_
          obtain ⟨x_77, e_78, h⟩ := lx_s h
          have f_79 := q_is_eq f_74 e_78
          have l_80 := kp_76 0 _ l0 (by decide) (Or.inr (q_is_cat f0 (Or.inr rfl)))
          refine go_goto (o := (-26)) (t := 7) (by decide +kernel) (by decide +kernel) ?_
          exact ih m_34 E_43 h R_38 l_80 f0 l_75 f_79
noncomputable def fm_X12_goOn (m0 : MM) : Option (Int × MM) := up m0 68 113 0 fun m_3 =>
fl_X12_goOn_7   BIG 0 m_3
set_option maxHeartbeats 4000000 in
theorem om_X12_goOn {xs : List Int32} {d : Nat} {S : QS} {m0 : MM} {v0 : Value} {rz : Int} {rm : MM}
  (hd : 12 ≤ d) (R : Rp S m0) (f0 : q_is 2 v0 68)
  (h : fm_X12_goOn m0 = some (rz, rm)) : Mt xs d 242 [v0] S (Cr 9 m0 rm rz) := by
  obtain ⟨d, rfl⟩ : ∃ e, d = e + 1 := ⟨d - 1, by omega⟩
  have hd : 11 ≤ d := Nat.le_of_succ_le_succ hd
  refine Mt.of (M := qM_X12_goOn) rfl (by rw [sl_1 (q_is_cat f0 (Or.inr rfl)), sl_0]; decide) ?_
  rw [la_1 (q_is_cat f0 (Or.inr rfl)), la_0]
  obtain ⟨L, hL⟩ : ∃ L : QL, L = [(0, v0)] := ⟨_, rfl⟩
  rw [← hL]
  have l0 : q_lo L 0 = some v0 := by rw [hL]; rfl
  have hQ : Ext m0 rm → ∀ o S1, Rp S1 rm → q_out 9 o rz → (Cr 9 m0 rm rz) o S1 := fun a o S1 b e => ⟨b, a, e⟩
  unfold fm_X12_goOn at h
  refine go_aload_n (n := 0) (by decide +kernel) l0 f0 ?_
  refine go_iconst (n := 0) (z := 0) (by decide +kernel) (by decide) fun v_1 f_2 => ?_
  obtain ⟨m_3, e_4, h⟩ := up_s h
  refine go_putf (x := 503) (ci := 13) (kf := 113) (fin := 0) (zt := 0) (by decide +kernel) (by decide +kernel) (by decide) (by decide +kernel) (by decide) (Or.inl rfl) R f0 f_2 (fun hq => absurd hq (by decide)) (fx_k (c := 13) R (by decide +kernel)) e_4 (fx_f (j := 113) R.2 (fx_k (c := 13) R (by decide +kernel)) (by decide +kernel)) fun S_5 R_6 E_7 => ?_
  have E_9 := E_7
  refine go_iconst (n := 0) (z := 0) (by decide +kernel) (by decide) fun v_10 f_11 => ?_
  refine go_istore_n (n := 1) (by decide +kernel) (by decide +kernel) f_11 fun L_12 l_13 kp_14 => ?_
  have l_15 := kp_14 0 _ l0 (by decide) (Or.inr (q_is_cat f0 (Or.inr rfl)))
  refine ol_X12_goOn_7 hd   (fun b => hQ (Ext.tr E_9 b)) BIG (Ext.rf _) h R_6 l_15 f0 l_13 f_11
noncomputable def fj_X12_waiting_32 (c : Int → Int → Option Int) (y1 y2 y3 : Int) (m0 : MM) : Option Int := gd (0 ≤ y3 ∧ y3 < 12) <| lx (m0 146 y3) fun x_41 =>
if x_41 = y1 then
lx (w32 (y3 + 1)) fun x_72 =>
c y3 x_72
else
lx (w32 (y3 + 1)) fun x_55 =>
c y2 x_55
set_option maxHeartbeats 4000000 in
theorem oj_X12_waiting_32 {xs : List Int32} {d : Nat} {S : QS} {L : QL} {Q : QO → QS → Prop} {m0 : MM} {y1 y2 y3 : Int} {v0 : Value} {v1 : Value} {v2 : Value} {v3 : Value}  {rz : Int} {c : Int → Int → Option Int} 
  (hd : 0 ≤ d) (R : Rp S m0) (l0 : q_lo L 0 = some v0) (f0 : q_is 2 v0 68) (l1 : q_lo L 1 = some v1) (f1 : q_is 0 v1 y1) (l2 : q_lo L 2 = some v2) (f2 : q_is 0 v2 y2) (l3 : q_lo L 3 = some v3) (f3 : q_is 0 v3 y3)
  (hc : ∀ {z2 : Int} {z3 : Int} {Sq : QS} {Lq : QL} {u0 : Value} {u1 : Value} {u2 : Value} {u3 : Value}, c z2 z3 = some rz → Rp Sq m0 → q_lo Lq 0 = some u0 → q_is 2 u0 68 → q_lo Lq 1 = some u1 → q_is 0 u1 y1 → q_lo Lq 2 = some u2 → q_is 0 u2 z2 → q_lo Lq 3 = some u3 → q_is 0 u3 z3 → Go xs d qM_X12_waiting 4 Lq [] Sq Q)
  (hQ : ∀ o S1, Rp S1 m0 → q_out 0 o rz → Q o S1)
  (h : fj_X12_waiting_32 c y1 y2 y3 m0 = some rz) : Go xs d qM_X12_waiting 32 L [] S Q := by
  unfold fj_X12_waiting_32 at h
  refine go_aload_n (n := 0) (by decide +kernel) l0 f0 ?_
  refine go_getf (x := 253) (ci := 13) (kf := 96) (fin := 1) (t := 2) (by decide +kernel) (by decide +kernel) (by decide +kernel) R f0 (fx_k (c := 13) R (by decide +kernel)) fun v_34 f_35 => ?_
  have f_36 := q_is_eq (b := 146) f_35 (fx_v R (by decide +kernel)).symm
  refine go_iload_n (n := 3) (by decide +kernel) l3 f3 ?_
  obtain ⟨g_39, h⟩ := gd_s h
  obtain ⟨x_41, e_42, h⟩ := lx_s h
  refine go_iald (kd := 100) (by decide +kernel) rfl R f_36 f3 (fx_k (c := 100) R (by decide +kernel)) (fx_x (a := 146) (ln := 12) R (by decide +kernel) g_39) fun v_37 f_38 => ?_
  have f_40 := q_is_eq f_38 e_42
  refine go_iload_n (n := 1) (by decide +kernel) l1 f1 ?_
  refine go_icmp (c := .ne) (o := 7) (t := 46) (P := ¬ (x_41 = y1)) (by decide +kernel) (by decide +kernel) f_40 f1 (Iff.rfl) (fun hp_43 => ?_) (fun hp_43 => ?_)
  · have h := it_f hp_43 h
    refine go_iload_n (n := 2) (by decide +kernel) l2 f2 ?_
    refine go_istore_n (n := 2) (by decide +kernel) (by decide +kernel) f2 fun L_44 l_45 kp_46 => ?_
    have l_47 := kp_46 0 _ l0 (by decide) (Or.inl (by decide))
    have l_48 := kp_46 1 _ l1 (by decide) (Or.inr (q_is_cat f1 (Or.inl rfl)))
    have l_49 := kp_46 3 _ l3 (by decide) (Or.inl (by decide))
    refine go_iinc (n := 3) (c := 1) (c' := 1) (by decide +kernel) (by decide +kernel) l_49 f3 (by decide) fun L_50 v_51 f_52 l_53 kp_54 => ?_
    obtain ⟨x_55, e_56, h⟩ := lx_s h
    have f_57 := q_is_eq f_52 e_56
    have l_58 := kp_54 0 _ l_47 (by decide) (Or.inl (by decide))
    have l_59 := kp_54 1 _ l_48 (by decide) (Or.inl (by decide))
    have l_60 := kp_54 2 _ l_45 (by decide) (Or.inr (q_is_cat f2 (Or.inl rfl)))
    refine go_goto (o := (-47)) (t := 4) (by decide +kernel) (by decide +kernel) ?_
    exact hc h R l_58 f0 l_59 f1 l_60 f2 l_53 f_57
  · have h := it_n hp_43 h
    refine go_iload_n (n := 3) (by decide +kernel) l3 f3 ?_
    refine go_goto (o := 4) (t := 47) (by decide +kernel) (by decide +kernel) ?_
    refine go_istore_n (n := 2) (by decide +kernel) (by decide +kernel) f3 fun L_61 l_62 kp_63 => ?_
    have l_64 := kp_63 0 _ l0 (by decide) (Or.inl (by decide))
    have l_65 := kp_63 1 _ l1 (by decide) (Or.inr (q_is_cat f1 (Or.inl rfl)))
    have l_66 := kp_63 3 _ l3 (by decide) (Or.inl (by decide))
    refine go_iinc (n := 3) (c := 1) (c' := 1) (by decide +kernel) (by decide +kernel) l_66 f3 (by decide) fun L_67 v_68 f_69 l_70 kp_71 => ?_
    obtain ⟨x_72, e_73, h⟩ := lx_s h
    have f_74 := q_is_eq f_69 e_73
    have l_75 := kp_71 0 _ l_64 (by decide) (Or.inl (by decide))
    have l_76 := kp_71 1 _ l_65 (by decide) (Or.inl (by decide))
    have l_77 := kp_71 2 _ l_62 (by decide) (Or.inr (q_is_cat f3 (Or.inl rfl)))
    refine go_goto (o := (-47)) (t := 4) (by decide +kernel) (by decide +kernel) ?_
    exact hc h R l_75 f0 l_76 f1 l_77 f3 l_70 f_74
noncomputable def fl_X12_waiting_4 (y1 : Int) (m0 : MM) : Nat → Int → Int → Option Int
  | 0, _, _ => none
  | n + 1, y2, y3 => lx (m0 68 91) fun x_19 =>
if y3 < x_19 then
gd (0 ≤ y3 ∧ y3 < 12) <| lx (m0 145 y3) fun x_29 =>
if x_29 = 1 then
fj_X12_waiting_32 (fl_X12_waiting_4 y1 m0 n) y1 y2 y3 m0
else
if x_29 = 4 then
fj_X12_waiting_32 (fl_X12_waiting_4 y1 m0 n) y1 y2 y3 m0
else
lx (w32 (y3 + 1)) fun x_98 =>
fl_X12_waiting_4 y1 m0 n y2 x_98
else
some y2
set_option maxHeartbeats 4000000 in
theorem ol_X12_waiting_4 {xs : List Int32} {d : Nat} {Q : QO → QS → Prop} {m0 : MM} {y1 : Int} {rz : Int}
  (hd : 0 ≤ d)
  (hQ : ∀ o S1, Rp S1 m0 → q_out 0 o rz → Q o S1) :
  ∀ (n : Nat) {S : QS} {L : QL} {y2 y3 : Int} {v0 : Value} {v1 : Value} {v2 : Value} {v3 : Value} , fl_X12_waiting_4 y1 m0 n y2 y3 = some rz → Rp S m0 → q_lo L 0 = some v0 → q_is 2 v0 68 → q_lo L 1 = some v1 → q_is 0 v1 y1 → q_lo L 2 = some v2 → q_is 0 v2 y2 → q_lo L 3 = some v3 → q_is 0 v3 y3 → Go xs d qM_X12_waiting 4 L [] S Q := by
  intro n
  induction n with
  | zero => intro S L y2 y3 v0 v1 v2 v3; intro h R l0 f0 l1 f1 l2 f2 l3 f3; cases h
  | succ n ih0 =>
    intro S L y2 y3 v0 v1 v2 v3; intro h R l0 f0 l1 f1 l2 f2 l3 f3
    have ih : ∀ {z2 : Int} {z3 : Int} {Sq : QS} {Lq : QL} {u0 : Value} {u1 : Value} {u2 : Value} {u3 : Value}, fl_X12_waiting_4 y1 m0 n z2 z3 = some rz → Rp Sq m0 → q_lo Lq 0 = some u0 → q_is 2 u0 68 → q_lo Lq 1 = some u1 → q_is 0 u1 y1 → q_lo Lq 2 = some u2 → q_is 0 u2 z2 → q_lo Lq 3 = some u3 → q_is 0 u3 z3 → Go xs d qM_X12_waiting 4 Lq [] Sq Q := by intros; exact ih0 ‹_› ‹_› ‹_› ‹_› ‹_› ‹_› ‹_› ‹_› ‹_› ‹_›
    unfold fl_X12_waiting_4 at h
    refine go_iload_n (n := 3) (by decide +kernel) l3 f3 ?_
    refine go_aload_n (n := 0) (by decide +kernel) l0 f0 ?_
    obtain ⟨x_19, e_20, h⟩ := lx_s h
    refine go_getf (x := 368) (ci := 13) (kf := 91) (fin := 0) (t := 0) (by decide +kernel) (by decide +kernel) (by decide +kernel) R f0 (fx_k (c := 13) R (by decide +kernel)) fun v_16 f_17 => ?_
    have f_18 := q_is_eq f_17 e_20
    refine go_icmp (c := .ge) (o := 45) (t := 54) (P := ¬ (y3 < x_19)) (by decide +kernel) (by decide +kernel) f3 f_18 (Int.not_lt.symm) (fun hp_21 => ?_) (fun hp_21 => ?_)
    · have h := it_f hp_21 h
      refine go_iload_n (n := 2) (by decide +kernel) l2 f2 ?_
      cases h
      exact go_iret (by decide +kernel) rfl (Or.inl rfl) f2 (hQ _ _ R (q_out_v (by decide) f2))
    · have h := it_n hp_21 h
      refine go_aload_n (n := 0) (by decide +kernel) l0 f0 ?_
      refine go_getf (x := 250) (ci := 13) (kf := 95) (fin := 1) (t := 2) (by decide +kernel) (by decide +kernel) (by decide +kernel) R f0 (fx_k (c := 13) R (by decide +kernel)) fun v_22 f_23 => ?_
      have f_24 := q_is_eq (b := 145) f_23 (fx_v R (by decide +kernel)).symm
      refine go_iload_n (n := 3) (by decide +kernel) l3 f3 ?_
      obtain ⟨g_27, h⟩ := gd_s h
      obtain ⟨x_29, e_30, h⟩ := lx_s h
      refine go_iald (kd := 100) (by decide +kernel) rfl R f_24 f3 (fx_k (c := 100) R (by decide +kernel)) (fx_x (a := 145) (ln := 12) R (by decide +kernel) g_27) fun v_25 f_26 => ?_
      have f_28 := q_is_eq f_26 e_30
      refine go_iconst (n := 1) (z := 1) (by decide +kernel) (by decide) fun v_31 f_32 => ?_
      refine go_icmp (c := .eq) (o := 13) (t := 32) (P := x_29 = 1) (by decide +kernel) (by decide +kernel) f_28 f_32 (Iff.rfl) (fun hp_33 => ?_) (fun hp_33 => ?_)
      · have h := it_t hp_33 h
        exact oj_X12_waiting_32 hd R l0 f0 l1 f1 l2 f2 l3 f3 ih hQ h
      · have h := it_f hp_33 h
        refine go_aload_n (n := 0) (by decide +kernel) l0 f0 ?_
        refine go_getf (x := 250) (ci := 13) (kf := 95) (fin := 1) (t := 2) (by decide +kernel) (by decide +kernel) (by decide +kernel) R f0 (fx_k (c := 13) R (by decide +kernel)) fun v_78 f_79 => ?_
        have f_80 := q_is_eq (b := 145) f_79 (fx_v R (by decide +kernel)).symm
        refine go_iload_n (n := 3) (by decide +kernel) l3 f3 ?_
        refine go_iald (kd := 100) (by decide +kernel) rfl R f_80 f3 (fx_k (c := 100) R (by decide +kernel)) (fx_x (a := 145) (ln := 12) R (by decide +kernel) g_27) fun v_81 f_82 => ?_
        have f_83 := q_is_eq f_82 e_30
        refine go_iconst (n := 4) (z := 4) (by decide +kernel) (by decide) fun v_84 f_85 => ?_
        refine go_icmp (c := .ne) (o := 17) (t := 46) (P := ¬ (x_29 = 4)) (by decide +kernel) (by decide +kernel) f_83 f_85 (Iff.rfl) (fun hp_86 => ?_) (fun hp_86 => ?_)
        · have h := it_f hp_86 h
          refine go_iload_n (n := 2) (by decide +kernel) l2 f2 ?_
          refine go_istore_n (n := 2) (by decide +kernel) (by decide +kernel) f2 fun L_87 l_88 kp_89 => ?_
          have l_90 := kp_89 0 _ l0 (by decide) (Or.inl (by decide))
          have l_91 := kp_89 1 _ l1 (by decide) (Or.inr (q_is_cat f1 (Or.inl rfl)))
          have l_92 := kp_89 3 _ l3 (by decide) (Or.inl (by decide))
          refine go_iinc (n := 3) (c := 1) (c' := 1) (by decide +kernel) (by decide +kernel) l_92 f3 (by decide) fun L_93 v_94 f_95 l_96 kp_97 => ?_
          obtain ⟨x_98, e_99, h⟩ := lx_s h
          have f_100 := q_is_eq f_95 e_99
          have l_101 := kp_97 0 _ l_90 (by decide) (Or.inl (by decide))
          have l_102 := kp_97 1 _ l_91 (by decide) (Or.inl (by decide))
          have l_103 := kp_97 2 _ l_88 (by decide) (Or.inr (q_is_cat f2 (Or.inl rfl)))
          refine go_goto (o := (-47)) (t := 4) (by decide +kernel) (by decide +kernel) ?_
          exact ih h R l_101 f0 l_102 f1 l_103 f2 l_96 f_100
        · have h := it_n hp_86 h
          exact oj_X12_waiting_32 hd R l0 f0 l1 f1 l2 f2 l3 f3 ih hQ h
noncomputable def fm_X12_waiting (p1 : Int) (m0 : MM) : Option Int := fl_X12_waiting_4 p1 m0  BIG (-1) 0
set_option maxHeartbeats 4000000 in
theorem om_X12_waiting {xs : List Int32} {d : Nat} {S : QS} {m0 : MM} {p1 : Int} {v0 : Value} {v1 : Value} {rz : Int}
  (hd : 1 ≤ d) (R : Rp S m0) (f0 : q_is 2 v0 68) (f1 : q_is 0 v1 p1)
  (h : fm_X12_waiting p1 m0 = some rz) : Mt xs d 244 [v0, v1] S (Cr 0 m0 m0 rz) := by
  obtain ⟨d, rfl⟩ : ∃ e, d = e + 1 := ⟨d - 1, by omega⟩
  have hd : 0 ≤ d := Nat.le_of_succ_le_succ hd
  refine Mt.of (M := qM_X12_waiting) rfl (by rw [sl_1 (q_is_cat f0 (Or.inr rfl)), sl_1 (q_is_cat f1 (Or.inl rfl)), sl_0]; decide) ?_
  rw [la_1 (q_is_cat f0 (Or.inr rfl)), la_1 (q_is_cat f1 (Or.inl rfl)), la_0]
  obtain ⟨L, hL⟩ : ∃ L : QL, L = [(0, v0), (0 + 1, v1)] := ⟨_, rfl⟩
  rw [← hL]
  have l0 : q_lo L 0 = some v0 := by rw [hL]; rfl
  have l1 : q_lo L 1 = some v1 := by rw [hL]; rfl
  have hQ : ∀ o S1, Rp S1 m0 → q_out 0 o rz → (Cr 0 m0 m0 rz) o S1 := fun o S1 a b => ⟨a, Ext.rf _, b⟩
  unfold fm_X12_waiting at h
  refine go_iconst (n := (-1)) (z := (-1)) (by decide +kernel) (by decide) fun v_1 f_2 => ?_
  refine go_istore_n (n := 2) (by decide +kernel) (by decide +kernel) f_2 fun L_3 l_4 kp_5 => ?_
  have l_6 := kp_5 0 _ l0 (by decide) (Or.inl (by decide))
  have l_7 := kp_5 1 _ l1 (by decide) (Or.inr (q_is_cat f1 (Or.inl rfl)))
  refine go_iconst (n := 0) (z := 0) (by decide +kernel) (by decide) fun v_8 f_9 => ?_
  refine go_istore_n (n := 3) (by decide +kernel) (by decide +kernel) f_9 fun L_10 l_11 kp_12 => ?_
  have l_13 := kp_12 0 _ l_6 (by decide) (Or.inl (by decide))
  have l_14 := kp_12 1 _ l_7 (by decide) (Or.inl (by decide))
  have l_15 := kp_12 2 _ l_4 (by decide) (Or.inr (q_is_cat f_2 (Or.inl rfl)))
  refine ol_X12_waiting_4 hd   hQ BIG h R l_13 f0 l_14 f1 l_15 f_2 l_11 f_9
noncomputable def fj_X12_comesBack_57 (y4 : Int) (m : MM) : Option (Int × MM) := bd (fm_X12_failsBranch y4 m) fun x_58 m_59 =>
some (0, m_59)
set_option maxHeartbeats 4000000 in
theorem oj_X12_comesBack_57 {xs : List Int32} {d : Nat} {S : QS} {L : QL} {Q : QO → QS → Prop} {m : MM} {y4 : Int} {v0 : Value} {v4 : Value}  {rz : Int} {rm : MM}
  (hd : 6 ≤ d) (R : Rp S m) (l0 : q_lo L 0 = some v0) (f0 : q_is 2 v0 68) (l4 : q_lo L 4 = some v4) (f4 : q_is 0 v4 y4)
  (hQ : Ext m rm → ∀ o S1, Rp S1 rm → q_out 9 o rz → Q o S1)
  (h : fj_X12_comesBack_57 y4 m = some (rz, rm)) : Go xs d qM_X12_comesBack 57 L [] S Q := by
  unfold fj_X12_comesBack_57 at h
  refine go_aload_n (n := 0) (by decide +kernel) l0 f0 ?_
  refine go_iload (n := 4) (by decide +kernel) l4 f4 ?_
  obtain ⟨x_58, m_59, hc_57, h⟩ := bd_s h
  refine go_callV (x := 443) (mi := 227) (n := 1) (ci := 13) (as := [v4]) (rest := []) (by decide +kernel) (by decide +kernel) rfl rfl (q_sum8 _ (Nat.le_of_ble_eq_true rfl)) R f0 (fx_k (c := 13) R (by decide +kernel)) (om_X12_failsBranch (Nat.le_trans (by decide) hd) R f0 f4 hc_57) (fun _ S_62 q_65 => ?_) (fun _ _ qq => kr_x qq)
  refine kr_v q_65 fun R_63 E_64 => ?_
  have E_68 := E_64
  cases h
  exact go_vret (by decide +kernel) rfl (hQ E_68 _ _ R_63 q_out_n)
noncomputable def fj_X12_comesBack_88 (y4 : Int) (m : MM) : Option (Int × MM) := gd (0 ≤ y4 ∧ y4 < 12) <| lx (m 144 y4) fun x_90 =>
up m 144 y4 (w32 (x_90 + 1)) fun m_96 =>
some (0, m_96)
set_option maxHeartbeats 4000000 in
theorem oj_X12_comesBack_88 {xs : List Int32} {d : Nat} {S : QS} {L : QL} {Q : QO → QS → Prop} {m : MM} {y4 : Int} {v0 : Value} {v4 : Value}  {rz : Int} {rm : MM}
  (hd : 6 ≤ d) (R : Rp S m) (l0 : q_lo L 0 = some v0) (f0 : q_is 2 v0 68) (l4 : q_lo L 4 = some v4) (f4 : q_is 0 v4 y4)
  (hQ : Ext m rm → ∀ o S1, Rp S1 rm → q_out 9 o rz → Q o S1)
  (h : fj_X12_comesBack_88 y4 m = some (rz, rm)) : Go xs d qM_X12_comesBack 88 L [] S Q := by
  unfold fj_X12_comesBack_88 at h
  refine go_aload_n (n := 0) (by decide +kernel) l0 f0 ?_
  refine go_getf (x := 247) (ci := 13) (kf := 94) (fin := 1) (t := 2) (by decide +kernel) (by decide +kernel) (by decide +kernel) R f0 (fx_k (c := 13) R (by decide +kernel)) fun v_83 f_84 => ?_
  have f_85 := q_is_eq (b := 144) f_84 (fx_v R (by decide +kernel)).symm
  refine go_iload (n := 4) (by decide +kernel) l4 f4 ?_
  refine go_dup2 (by decide +kernel) f4 (Or.inl rfl) f_85 (Or.inr rfl) ?_
  obtain ⟨g_88, h⟩ := gd_s h
  obtain ⟨x_90, e_91, h⟩ := lx_s h
  refine go_iald (kd := 100) (by decide +kernel) rfl R f_85 f4 (fx_k (c := 100) R (by decide +kernel)) (fx_x (a := 144) (ln := 12) R (by decide +kernel) g_88) fun v_86 f_87 => ?_
  have f_89 := q_is_eq f_87 e_91
  refine go_iconst (n := 1) (z := 1) (by decide +kernel) (by decide) fun v_92 f_93 => ?_
  refine go_iadd (by decide +kernel) f_89 f_93 fun v_94 f_95 => ?_
  obtain ⟨m_96, e_97, h⟩ := up_s h
  refine go_iast (kd := 100) (by decide +kernel) rfl R f_85 f4 f_95 (fx_k (c := 100) R (by decide +kernel)) (fx_x (a := 144) (ln := 12) R (by decide +kernel) g_88) e_97 (fx_a R.2 (fx_k (c := 100) R (by decide +kernel)) (And.left (fx_x (a := 144) (ln := 12) R (by decide +kernel) g_88)) (by decide +kernel)) fun S_98 R_99 E_100 => ?_
  have E_102 := E_100
  cases h
  exact go_vret (by decide +kernel) rfl (hQ E_102 _ _ R_99 q_out_n)
noncomputable def fj_X12_comesBack_30 (y1 y3 y4 s0 : Int) (m : MM) : Option (Int × MM) := gd (0 ≤ y4 ∧ y4 < 12) <| up m 145 y4 0 fun m_46 =>
if s0 = 0 then
if y1 = 2 then
fj_X12_comesBack_57 y4 m_46
else
if y1 = 6 then
fj_X12_comesBack_57 y4 m_46
else
lx (m_46 147 y4) fun x_78 =>
if x_78 = (-1) then
fj_X12_comesBack_88 y4 m_46
else
gd (0 ≤ x_78 ∧ x_78 < 6) <| up m_46 142 x_78 y3 fun m_113 =>
fj_X12_comesBack_88 y4 m_113
else
some (0, m_46)
set_option maxHeartbeats 4000000 in
theorem oj_X12_comesBack_30 {xs : List Int32} {d : Nat} {S : QS} {L : QL} {Q : QO → QS → Prop} {m : MM} {y1 y3 y4 s0 : Int} {v0 : Value} {v1 : Value} {v3 : Value} {v4 : Value} {w0 : Value}  {rz : Int} {rm : MM}
  (hd : 6 ≤ d) (R : Rp S m) (l0 : q_lo L 0 = some v0) (f0 : q_is 2 v0 68) (l1 : q_lo L 1 = some v1) (f1 : q_is 0 v1 y1) (l3 : q_lo L 3 = some v3) (f3 : q_is 0 v3 y3) (l4 : q_lo L 4 = some v4) (f4 : q_is 0 v4 y4) (fs0 : q_is 0 w0 s0)
  (hQ : Ext m rm → ∀ o S1, Rp S1 rm → q_out 9 o rz → Q o S1)
  (h : fj_X12_comesBack_30 y1 y3 y4 s0 m = some (rz, rm)) : Go xs d qM_X12_comesBack 30 L [w0] S Q := by
  unfold fj_X12_comesBack_30 at h
  refine go_istore (n := 5) (by decide +kernel) (by decide +kernel) fs0 fun L_33 l_34 kp_35 => ?_
  have l_36 := kp_35 0 _ l0 (by decide) (Or.inl (by decide))
  have l_37 := kp_35 1 _ l1 (by decide) (Or.inl (by decide))
  have l_38 := kp_35 3 _ l3 (by decide) (Or.inl (by decide))
  have l_39 := kp_35 4 _ l4 (by decide) (Or.inr (q_is_cat f4 (Or.inl rfl)))
  refine go_aload_n (n := 0) (by decide +kernel) l_36 f0 ?_
  refine go_getf (x := 250) (ci := 13) (kf := 95) (fin := 1) (t := 2) (by decide +kernel) (by decide +kernel) (by decide +kernel) R f0 (fx_k (c := 13) R (by decide +kernel)) fun v_40 f_41 => ?_
  have f_42 := q_is_eq (b := 145) f_41 (fx_v R (by decide +kernel)).symm
  refine go_iload (n := 4) (by decide +kernel) l_39 f4 ?_
  refine go_iconst (n := 0) (z := 0) (by decide +kernel) (by decide) fun v_43 f_44 => ?_
  obtain ⟨g_45, h⟩ := gd_s h
  obtain ⟨m_46, e_47, h⟩ := up_s h
  refine go_iast (kd := 100) (by decide +kernel) rfl R f_42 f4 f_44 (fx_k (c := 100) R (by decide +kernel)) (fx_x (a := 145) (ln := 12) R (by decide +kernel) g_45) e_47 (fx_a R.2 (fx_k (c := 100) R (by decide +kernel)) (And.left (fx_x (a := 145) (ln := 12) R (by decide +kernel) g_45)) (by decide +kernel)) fun S_48 R_49 E_50 => ?_
  have E_52 := E_50
  refine go_iload (n := 5) (by decide +kernel) l_34 fs0 ?_
  refine go_if (c := .eq) (o := 4) (t := 46) (P := s0 = 0) (by decide +kernel) (by decide +kernel) fs0 (Iff.rfl) (fun hp_53 => ?_) (fun hp_53 => ?_)
  · have h := it_t hp_53 h
    refine go_iload_n (n := 1) (by decide +kernel) l_37 f1 ?_
    refine go_iconst (n := 2) (z := 2) (by decide +kernel) (by decide) fun v_54 f_55 => ?_
    refine go_icmp (c := .eq) (o := 9) (t := 57) (P := y1 = 2) (by decide +kernel) (by decide +kernel) f1 f_55 (Iff.rfl) (fun hp_56 => ?_) (fun hp_56 => ?_)
    · have h := it_t hp_56 h
      exact oj_X12_comesBack_57 hd R_49 l_36 f0 l_39 f4 (fun b => hQ (Ext.tr E_52 b)) h
    · have h := it_f hp_56 h
      refine go_iload_n (n := 1) (by decide +kernel) l_37 f1 ?_
      refine go_bipush (n := 6) (z := 6) (by decide +kernel) (by decide) fun v_69 f_70 => ?_
      refine go_icmp (c := .ne) (o := 10) (t := 64) (P := ¬ (y1 = 6)) (by decide +kernel) (by decide +kernel) f1 f_70 (Iff.rfl) (fun hp_71 => ?_) (fun hp_71 => ?_)
      · have h := it_f hp_71 h
        refine go_aload_n (n := 0) (by decide +kernel) l_36 f0 ?_
        refine go_getf (x := 256) (ci := 13) (kf := 97) (fin := 1) (t := 2) (by decide +kernel) (by decide +kernel) (by decide +kernel) R_49 f0 (fx_k (c := 13) R_49 (by decide +kernel)) fun v_72 f_73 => ?_
        have f_74 := q_is_eq (b := 147) f_73 (fx_v R_49 (by decide +kernel)).symm
        refine go_iload (n := 4) (by decide +kernel) l_39 f4 ?_
        obtain ⟨x_78, e_79, h⟩ := lx_s h
        refine go_iald (kd := 100) (by decide +kernel) rfl R_49 f_74 f4 (fx_k (c := 100) R_49 (by decide +kernel)) (fx_x (a := 147) (ln := 12) R_49 (by decide +kernel) g_45) fun v_75 f_76 => ?_
        have f_77 := q_is_eq f_76 e_79
        refine go_iconst (n := (-1)) (z := (-1)) (by decide +kernel) (by decide) fun v_80 f_81 => ?_
        refine go_icmp (c := .eq) (o := 16) (t := 88) (P := x_78 = (-1)) (by decide +kernel) (by decide +kernel) f_77 f_81 (Iff.rfl) (fun hp_82 => ?_) (fun hp_82 => ?_)
        · have h := it_t hp_82 h
          exact oj_X12_comesBack_88 hd R_49 l_36 f0 l_39 f4 (fun b => hQ (Ext.tr E_52 b)) h
        · have h := it_f hp_82 h
          refine go_aload_n (n := 0) (by decide +kernel) l_36 f0 ?_
          refine go_getf (x := 241) (ci := 13) (kf := 90) (fin := 1) (t := 2) (by decide +kernel) (by decide +kernel) (by decide +kernel) R_49 f0 (fx_k (c := 13) R_49 (by decide +kernel)) fun v_103 f_104 => ?_
          have f_105 := q_is_eq (b := 142) f_104 (fx_v R_49 (by decide +kernel)).symm
          refine go_aload_n (n := 0) (by decide +kernel) l_36 f0 ?_
          refine go_getf (x := 256) (ci := 13) (kf := 97) (fin := 1) (t := 2) (by decide +kernel) (by decide +kernel) (by decide +kernel) R_49 f0 (fx_k (c := 13) R_49 (by decide +kernel)) fun v_106 f_107 => ?_
          have f_108 := q_is_eq (b := 147) f_107 (fx_v R_49 (by decide +kernel)).symm
          refine go_iload (n := 4) (by decide +kernel) l_39 f4 ?_
          refine go_iald (kd := 100) (by decide +kernel) rfl R_49 f_108 f4 (fx_k (c := 100) R_49 (by decide +kernel)) (fx_x (a := 147) (ln := 12) R_49 (by decide +kernel) g_45) fun v_109 f_110 => ?_
          have f_111 := q_is_eq f_110 e_79
          refine go_iload_n (n := 3) (by decide +kernel) l_38 f3 ?_
          obtain ⟨g_112, h⟩ := gd_s h
          obtain ⟨m_113, e_114, h⟩ := up_s h
          refine go_iast (kd := 100) (by decide +kernel) rfl R_49 f_105 f_111 f3 (fx_k (c := 100) R_49 (by decide +kernel)) (fx_x (a := 142) (ln := 6) R_49 (by decide +kernel) g_112) e_114 (fx_a R_49.2 (fx_k (c := 100) R_49 (by decide +kernel)) (And.left (fx_x (a := 142) (ln := 6) R_49 (by decide +kernel) g_112)) (by decide +kernel)) fun S_115 R_116 E_117 => ?_
          have E_119 := Ext.tr E_52 E_117
          exact oj_X12_comesBack_88 hd R_116 l_36 f0 l_39 f4 (fun b => hQ (Ext.tr E_119 b)) h
      · have h := it_n hp_71 h
        exact oj_X12_comesBack_57 hd R_49 l_36 f0 l_39 f4 (fun b => hQ (Ext.tr E_52 b)) h
  · have h := it_f hp_53 h
    cases h
    exact go_vret (by decide +kernel) rfl (hQ E_52 _ _ R_49 q_out_n)
noncomputable def fm_X12_comesBack (p1 p2 p3 : Int) (m0 : MM) : Option (Int × MM) := bp (fm_X12_waiting p2 m0) fun x_2 =>
if x_2 = (-1) then
some (0, m0)
else
gd (0 ≤ x_2 ∧ x_2 < 12) <| lx (m0 145 x_2) fun x_26 =>
if x_26 = 4 then
fj_X12_comesBack_30 p1 p3 x_2 1 m0
else
fj_X12_comesBack_30 p1 p3 x_2 0 m0
set_option maxHeartbeats 4000000 in
theorem om_X12_comesBack {xs : List Int32} {d : Nat} {S : QS} {m0 : MM} {p1 p2 p3 : Int} {v0 : Value} {v1 : Value} {v2 : Value} {v3 : Value} {rz : Int} {rm : MM}
  (hd : 7 ≤ d) (R : Rp S m0) (f0 : q_is 2 v0 68) (f1 : q_is 0 v1 p1) (f2 : q_is 0 v2 p2) (f3 : q_is 0 v3 p3)
  (h : fm_X12_comesBack p1 p2 p3 m0 = some (rz, rm)) : Mt xs d 245 [v0, v1, v2, v3] S (Cr 9 m0 rm rz) := by
  obtain ⟨d, rfl⟩ : ∃ e, d = e + 1 := ⟨d - 1, by omega⟩
  have hd : 6 ≤ d := Nat.le_of_succ_le_succ hd
  refine Mt.of (M := qM_X12_comesBack) rfl (by rw [sl_1 (q_is_cat f0 (Or.inr rfl)), sl_1 (q_is_cat f1 (Or.inl rfl)), sl_1 (q_is_cat f2 (Or.inl rfl)), sl_1 (q_is_cat f3 (Or.inl rfl)), sl_0]; decide) ?_
  rw [la_1 (q_is_cat f0 (Or.inr rfl)), la_1 (q_is_cat f1 (Or.inl rfl)), la_1 (q_is_cat f2 (Or.inl rfl)), la_1 (q_is_cat f3 (Or.inl rfl)), la_0]
  obtain ⟨L, hL⟩ : ∃ L : QL, L = [(0, v0), (0 + 1, v1), (0 + 1 + 1, v2), (0 + 1 + 1 + 1, v3)] := ⟨_, rfl⟩
  rw [← hL]
  have l0 : q_lo L 0 = some v0 := by rw [hL]; rfl
  have l1 : q_lo L 1 = some v1 := by rw [hL]; rfl
  have l2 : q_lo L 2 = some v2 := by rw [hL]; rfl
  have l3 : q_lo L 3 = some v3 := by rw [hL]; rfl
  have hQ : Ext m0 rm → ∀ o S1, Rp S1 rm → q_out 9 o rz → (Cr 9 m0 rm rz) o S1 := fun a o S1 b e => ⟨b, a, e⟩
  unfold fm_X12_comesBack at h
  refine go_aload_n (n := 0) (by decide +kernel) l0 f0 ?_
  refine go_iload_n (n := 2) (by decide +kernel) l2 f2 ?_
  obtain ⟨x_2, hc_1, h⟩ := bp_s h
  refine go_callV (x := 515) (mi := 244) (n := 1) (ci := 13) (as := [v2]) (rest := []) (by decide +kernel) (by decide +kernel) rfl rfl (q_sum8 _ (Nat.le_of_ble_eq_true rfl)) R f0 (fx_k (c := 13) R (by decide +kernel)) (om_X12_waiting (Nat.le_trans (by decide) hd) R f0 f2 hc_1) (fun _ S_6 q_9 => ?_) (fun _ _ qq => kr_x qq)
  refine kr_z (by decide) q_9 fun v_4 f_5 R_7 E_8 => ?_
  refine go_istore (n := 4) (by decide +kernel) (by decide +kernel) f_5 fun L_10 l_11 kp_12 => ?_
  have l_13 := kp_12 0 _ l0 (by decide) (Or.inl (by decide))
  have l_14 := kp_12 1 _ l1 (by decide) (Or.inl (by decide))
  have l_15 := kp_12 3 _ l3 (by decide) (Or.inr (q_is_cat f3 (Or.inl rfl)))
  refine go_iload (n := 4) (by decide +kernel) l_11 f_5 ?_
  refine go_iconst (n := (-1)) (z := (-1)) (by decide +kernel) (by decide) fun v_16 f_17 => ?_
  refine go_icmp (c := .ne) (o := 4) (t := 14) (P := ¬ (x_2 = (-1))) (by decide +kernel) (by decide +kernel) f_5 f_17 (Iff.rfl) (fun hp_18 => ?_) (fun hp_18 => ?_)
  · have h := it_f hp_18 h
    refine go_aload_n (n := 0) (by decide +kernel) l_13 f0 ?_
    refine go_getf (x := 250) (ci := 13) (kf := 95) (fin := 1) (t := 2) (by decide +kernel) (by decide +kernel) (by decide +kernel) R_7 f0 (fx_k (c := 13) R_7 (by decide +kernel)) fun v_19 f_20 => ?_
    have f_21 := q_is_eq (b := 145) f_20 (fx_v R_7 (by decide +kernel)).symm
    refine go_iload (n := 4) (by decide +kernel) l_11 f_5 ?_
    obtain ⟨g_24, h⟩ := gd_s h
    obtain ⟨x_26, e_27, h⟩ := lx_s h
    refine go_iald (kd := 100) (by decide +kernel) rfl R_7 f_21 f_5 (fx_k (c := 100) R_7 (by decide +kernel)) (fx_x (a := 145) (ln := 12) R_7 (by decide +kernel) g_24) fun v_22 f_23 => ?_
    have f_25 := q_is_eq f_23 e_27
    refine go_iconst (n := 4) (z := 4) (by decide +kernel) (by decide) fun v_28 f_29 => ?_
    refine go_icmp (c := .ne) (o := 7) (t := 29) (P := ¬ (x_26 = 4)) (by decide +kernel) (by decide +kernel) f_25 f_29 (Iff.rfl) (fun hp_30 => ?_) (fun hp_30 => ?_)
    · have h := it_f hp_30 h
      refine go_iconst (n := 0) (z := 0) (by decide +kernel) (by decide) fun v_31 f_32 => ?_
      exact oj_X12_comesBack_30 hd R_7 l_13 f0 l_14 f1 l_15 f3 l_11 f_5 f_32 hQ h
    · have h := it_n hp_30 h
      refine go_iconst (n := 1) (z := 1) (by decide +kernel) (by decide) fun v_120 f_121 => ?_
      refine go_goto (o := 4) (t := 30) (by decide +kernel) (by decide +kernel) ?_
      exact oj_X12_comesBack_30 hd R_7 l_13 f0 l_14 f1 l_15 f3 l_11 f_5 f_121 hQ h
  · have h := it_n hp_18 h
    cases h
    exact go_vret (by decide +kernel) rfl (hQ (Ext.rf _) _ _ R_7 q_out_n)
noncomputable def fl_X12_isCancelled_7 (k28 : MM → Option (Int × MM)) : Nat → Int → MM → Option (Int × MM)
  | 0, _, _ => none
  | n + 1, y1, m => lx (m 68 91) fun x_19 =>
if y1 < x_19 then
gd (0 ≤ y1 ∧ y1 < 12) <| up m 151 y1 1 fun m_28 =>
lx (w32 (y1 + 1)) fun x_40 =>
fl_X12_isCancelled_7 k28 n x_40 m_28
else
k28 m
set_option maxHeartbeats 4000000 in
theorem ol_X12_isCancelled_7 {xs : List Int32} {d : Nat} {Q : QO → QS → Prop} {mb : MM} {k28 : MM → Option (Int × MM)} {rz : Int} {rm : MM}
  (hd : 7 ≤ d)
  (hk28 : ∀ mq : MM, Ext mb mq → ∀ {Sq : QS} {Lq : QL} {u0 : Value}, k28 mq = some (rz, rm) → Rp Sq mq → q_lo Lq 0 = some u0 → q_is 2 u0 68 → Go xs d qM_X12_isCancelled 28 Lq [] Sq Q)
  (hQ : Ext mb rm → ∀ o S1, Rp S1 rm → q_out 9 o rz → Q o S1) :
  ∀ (n : Nat) {m : MM} {S : QS} {L : QL} {y1 : Int} {v0 : Value} {v1 : Value} , Ext mb m → fl_X12_isCancelled_7 k28 n y1 m = some (rz, rm) → Rp S m → q_lo L 0 = some v0 → q_is 2 v0 68 → q_lo L 1 = some v1 → q_is 0 v1 y1 → Go xs d qM_X12_isCancelled 7 L [] S Q := by
  intro n
  induction n with
  | zero => intro m S L y1 v0 v1; intro E h R l0 f0 l1 f1; cases h
  | succ n ih0 =>
    intro m S L y1 v0 v1; intro E h R l0 f0 l1 f1
    have ih : ∀ mq : MM, Ext mb mq → ∀ {z1 : Int} {Sq : QS} {Lq : QL} {u0 : Value} {u1 : Value}, fl_X12_isCancelled_7 k28 n z1 mq = some (rz, rm) → Rp Sq mq → q_lo Lq 0 = some u0 → q_is 2 u0 68 → q_lo Lq 1 = some u1 → q_is 0 u1 z1 → Go xs d qM_X12_isCancelled 7 Lq [] Sq Q := fun mq b => by intros; exact ih0 b ‹_› ‹_› ‹_› ‹_› ‹_› ‹_›
    unfold fl_X12_isCancelled_7 at h
    refine go_iload_n (n := 1) (by decide +kernel) l1 f1 ?_
    refine go_aload_n (n := 0) (by decide +kernel) l0 f0 ?_
    obtain ⟨x_19, e_20, h⟩ := lx_s h
    refine go_getf (x := 368) (ci := 13) (kf := 91) (fin := 0) (t := 0) (by decide +kernel) (by decide +kernel) (by decide +kernel) R f0 (fx_k (c := 13) R (by decide +kernel)) fun v_16 f_17 => ?_
    have f_18 := q_is_eq f_17 e_20
    refine go_icmp (c := .ge) (o := 16) (t := 28) (P := ¬ (y1 < x_19)) (by decide +kernel) (by decide +kernel) f1 f_18 (Int.not_lt.symm) (fun hp_21 => ?_) (fun hp_21 => ?_)
    · have h := it_f hp_21 h
      exact hk28 m E h R l0 f0
    · have h := it_n hp_21 h
      refine go_aload_n (n := 0) (by decide +kernel) l0 f0 ?_
      refine go_getf (x := 268) (ci := 13) (kf := 101) (fin := 1) (t := 2) (by decide +kernel) (by decide +kernel) (by decide +kernel) R f0 (fx_k (c := 13) R (by decide +kernel)) fun v_22 f_23 => ?_
      have f_24 := q_is_eq (b := 151) f_23 (fx_v R (by decide +kernel)).symm
      refine go_iload_n (n := 1) (by decide +kernel) l1 f1 ?_
      refine go_iconst (n := 1) (z := 1) (by decide +kernel) (by decide) fun v_25 f_26 => ?_
      obtain ⟨g_27, h⟩ := gd_s h
      obtain ⟨m_28, e_29, h⟩ := up_s h
      refine go_bast (kd := 102) (by decide +kernel) rfl R f_24 f1 f_26 (by decide) (fx_k (c := 102) R (by decide +kernel)) (fx_x (a := 151) (ln := 12) R (by decide +kernel) g_27) e_29 (fx_a R.2 (fx_k (c := 102) R (by decide +kernel)) (And.left (fx_x (a := 151) (ln := 12) R (by decide +kernel) g_27)) (by decide +kernel)) fun S_30 R_31 E_32 => ?_
      have E_34 := Ext.tr E E_32
      refine go_iinc (n := 1) (c := 1) (c' := 1) (by decide +kernel) (by decide +kernel) l1 f1 (by decide) fun L_35 v_36 f_37 l_38 kp_39 => ?_
      obtain ⟨x_40, e_41, h⟩ := lx_s h
      have f_42 := q_is_eq f_37 e_41
      have l_43 := kp_39 0 _ l0 (by decide) (Or.inr (q_is_cat f0 (Or.inr rfl)))
      refine go_goto (o := (-18)) (t := 7) (by decide +kernel) (by decide +kernel) ?_
      exact ih m_28 E_34 h R_31 l_43 f0 l_38 f_42
noncomputable def fl_X12_isCancelled_30 : Nat → Int → MM → Option (Int × MM)
  | 0, _, _ => none
  | n + 1, y1, m => lx (m 68 91) fun x_64 =>
if y1 < x_64 then
bp (fm_X12_goes m) fun x_68 =>
if x_68 = 0 then
some (0, m)
else
gd (0 ≤ y1 ∧ y1 < 12) <| lx (m 150 y1) fun x_84 =>
if x_84 = 0 then
bd (fm_X12_cancelsBranch y1 m) fun x_97 m_98 =>
lx (w32 (y1 + 1)) fun x_113 =>
fl_X12_isCancelled_30 n x_113 m_98
else
lx (w32 (y1 + 1)) fun x_92 =>
fl_X12_isCancelled_30 n x_92 m
else
some (0, m)
set_option maxHeartbeats 4000000 in
theorem ol_X12_isCancelled_30 {xs : List Int32} {d : Nat} {Q : QO → QS → Prop} {mb : MM} {rz : Int} {rm : MM}
  (hd : 7 ≤ d)
  (hQ : Ext mb rm → ∀ o S1, Rp S1 rm → q_out 9 o rz → Q o S1) :
  ∀ (n : Nat) {m : MM} {S : QS} {L : QL} {y1 : Int} {v0 : Value} {v1 : Value} , Ext mb m → fl_X12_isCancelled_30 n y1 m = some (rz, rm) → Rp S m → q_lo L 0 = some v0 → q_is 2 v0 68 → q_lo L 1 = some v1 → q_is 0 v1 y1 → Go xs d qM_X12_isCancelled 30 L [] S Q := by
  intro n
  induction n with
  | zero => intro m S L y1 v0 v1; intro E h R l0 f0 l1 f1; cases h
  | succ n ih0 =>
    intro m S L y1 v0 v1; intro E h R l0 f0 l1 f1
    have ih : ∀ mq : MM, Ext mb mq → ∀ {z1 : Int} {Sq : QS} {Lq : QL} {u0 : Value} {u1 : Value}, fl_X12_isCancelled_30 n z1 mq = some (rz, rm) → Rp Sq mq → q_lo Lq 0 = some u0 → q_is 2 u0 68 → q_lo Lq 1 = some u1 → q_is 0 u1 z1 → Go xs d qM_X12_isCancelled 30 Lq [] Sq Q := fun mq b => by intros; exact ih0 b ‹_› ‹_› ‹_› ‹_› ‹_› ‹_›
    unfold fl_X12_isCancelled_30 at h
    refine go_iload_n (n := 1) (by decide +kernel) l1 f1 ?_
    refine go_aload_n (n := 0) (by decide +kernel) l0 f0 ?_
    obtain ⟨x_64, e_65, h⟩ := lx_s h
    refine go_getf (x := 368) (ci := 13) (kf := 91) (fin := 0) (t := 0) (by decide +kernel) (by decide +kernel) (by decide +kernel) R f0 (fx_k (c := 13) R (by decide +kernel)) fun v_61 f_62 => ?_
    have f_63 := q_is_eq f_62 e_65
    refine go_icmp (c := .ge) (o := 30) (t := 65) (P := ¬ (y1 < x_64)) (by decide +kernel) (by decide +kernel) f1 f_63 (Int.not_lt.symm) (fun hp_66 => ?_) (fun hp_66 => ?_)
    · have h := it_f hp_66 h
      cases h
      exact go_vret (by decide +kernel) rfl (hQ E _ _ R q_out_n)
    · have h := it_n hp_66 h
      refine go_aload_n (n := 0) (by decide +kernel) l0 f0 ?_
      obtain ⟨x_68, hc_67, h⟩ := bp_s h
      refine go_callV (x := 439) (mi := 216) (n := 0) (ci := 13) (as := []) (rest := []) (by decide +kernel) (by decide +kernel) rfl rfl (q_sum8 _ (Nat.le_of_ble_eq_true rfl)) R f0 (fx_k (c := 13) R (by decide +kernel)) (om_X12_goes (Nat.le_trans (by decide) hd) R f0 hc_67) (fun _ S_72 q_75 => ?_) (fun _ _ qq => kr_x qq)
      refine kr_z (by decide) q_75 fun v_70 f_71 R_73 E_74 => ?_
      refine go_if (c := .eq) (o := 23) (t := 65) (P := x_68 = 0) (by decide +kernel) (by decide +kernel) f_71 (Iff.rfl) (fun hp_76 => ?_) (fun hp_76 => ?_)
      · have h := it_t hp_76 h
        cases h
        exact go_vret (by decide +kernel) rfl (hQ E _ _ R_73 q_out_n)
      · have h := it_f hp_76 h
        refine go_aload_n (n := 0) (by decide +kernel) l0 f0 ?_
        refine go_getf (x := 265) (ci := 13) (kf := 100) (fin := 1) (t := 2) (by decide +kernel) (by decide +kernel) (by decide +kernel) R_73 f0 (fx_k (c := 13) R_73 (by decide +kernel)) fun v_77 f_78 => ?_
        have f_79 := q_is_eq (b := 150) f_78 (fx_v R_73 (by decide +kernel)).symm
        refine go_iload_n (n := 1) (by decide +kernel) l1 f1 ?_
        obtain ⟨g_82, h⟩ := gd_s h
        obtain ⟨x_84, e_85, h⟩ := lx_s h
        refine go_iald (kd := 100) (by decide +kernel) rfl R_73 f_79 f1 (fx_k (c := 100) R_73 (by decide +kernel)) (fx_x (a := 150) (ln := 12) R_73 (by decide +kernel) g_82) fun v_80 f_81 => ?_
        have f_83 := q_is_eq f_81 e_85
        refine go_if (c := .ne) (o := 8) (t := 59) (P := ¬ (x_84 = 0)) (by decide +kernel) (by decide +kernel) f_83 (Iff.rfl) (fun hp_86 => ?_) (fun hp_86 => ?_)
        · have h := it_f hp_86 h
          refine go_iinc (n := 1) (c := 1) (c' := 1) (by decide +kernel) (by decide +kernel) l1 f1 (by decide) fun L_87 v_88 f_89 l_90 kp_91 => ?_
          obtain ⟨x_92, e_93, h⟩ := lx_s h
          have f_94 := q_is_eq f_89 e_93
          have l_95 := kp_91 0 _ l0 (by decide) (Or.inr (q_is_cat f0 (Or.inr rfl)))
          refine go_goto (o := (-32)) (t := 30) (by decide +kernel) (by decide +kernel) ?_
          exact ih m E h R_73 l_95 f0 l_90 f_94
        · have h := it_n hp_86 h
          refine go_aload_n (n := 0) (by decide +kernel) l0 f0 ?_
          refine go_iload_n (n := 1) (by decide +kernel) l1 f1 ?_
          obtain ⟨x_97, m_98, hc_96, h⟩ := bd_s h
          refine go_callV (x := 468) (mi := 229) (n := 1) (ci := 13) (as := [v1]) (rest := []) (by decide +kernel) (by decide +kernel) rfl rfl (q_sum8 _ (Nat.le_of_ble_eq_true rfl)) R_73 f0 (fx_k (c := 13) R_73 (by decide +kernel)) (om_X12_cancelsBranch (Nat.le_trans (by decide) hd) R_73 f0 f1 hc_96) (fun _ S_101 q_104 => ?_) (fun _ _ qq => kr_x qq)
          refine kr_v q_104 fun R_102 E_103 => ?_
          have E_107 := Ext.tr E E_103
          refine go_iinc (n := 1) (c := 1) (c' := 1) (by decide +kernel) (by decide +kernel) l1 f1 (by decide) fun L_108 v_109 f_110 l_111 kp_112 => ?_
          obtain ⟨x_113, e_114, h⟩ := lx_s h
          have f_115 := q_is_eq f_110 e_114
          have l_116 := kp_112 0 _ l0 (by decide) (Or.inr (q_is_cat f0 (Or.inr rfl)))
          refine go_goto (o := (-32)) (t := 30) (by decide +kernel) (by decide +kernel) ?_
          exact ih m_98 E_107 h R_102 l_116 f0 l_111 f_115
noncomputable def fm_X12_isCancelled (m0 : MM) : Option (Int × MM) := up m0 68 111 1 fun m_3 =>
fl_X12_isCancelled_7  (fun m_50 =>
fl_X12_isCancelled_30   BIG 0 m_50) BIG 0 m_3
set_option maxHeartbeats 4000000 in
theorem om_X12_isCancelled {xs : List Int32} {d : Nat} {S : QS} {m0 : MM} {v0 : Value} {rz : Int} {rm : MM}
  (hd : 8 ≤ d) (R : Rp S m0) (f0 : q_is 2 v0 68)
  (h : fm_X12_isCancelled m0 = some (rz, rm)) : Mt xs d 246 [v0] S (Cr 9 m0 rm rz) := by
  obtain ⟨d, rfl⟩ : ∃ e, d = e + 1 := ⟨d - 1, by omega⟩
  have hd : 7 ≤ d := Nat.le_of_succ_le_succ hd
  refine Mt.of (M := qM_X12_isCancelled) rfl (by rw [sl_1 (q_is_cat f0 (Or.inr rfl)), sl_0]; decide) ?_
  rw [la_1 (q_is_cat f0 (Or.inr rfl)), la_0]
  obtain ⟨L, hL⟩ : ∃ L : QL, L = [(0, v0)] := ⟨_, rfl⟩
  rw [← hL]
  have l0 : q_lo L 0 = some v0 := by rw [hL]; rfl
  have hQ : Ext m0 rm → ∀ o S1, Rp S1 rm → q_out 9 o rz → (Cr 9 m0 rm rz) o S1 := fun a o S1 b e => ⟨b, a, e⟩
  unfold fm_X12_isCancelled at h
  refine go_aload_n (n := 0) (by decide +kernel) l0 f0 ?_
  refine go_iconst (n := 1) (z := 1) (by decide +kernel) (by decide) fun v_1 f_2 => ?_
  obtain ⟨m_3, e_4, h⟩ := up_s h
  refine go_putf (x := 518) (ci := 13) (kf := 111) (fin := 0) (zt := 1) (by decide +kernel) (by decide +kernel) (by decide) (by decide +kernel) (by decide) (Or.inl rfl) R f0 f_2 (fun _ => by decide) (fx_k (c := 13) R (by decide +kernel)) e_4 (fx_f (j := 111) R.2 (fx_k (c := 13) R (by decide +kernel)) (by decide +kernel)) fun S_5 R_6 E_7 => ?_
  have E_9 := E_7
  refine go_iconst (n := 0) (z := 0) (by decide +kernel) (by decide) fun v_10 f_11 => ?_
  refine go_istore_n (n := 1) (by decide +kernel) (by decide +kernel) f_11 fun L_12 l_13 kp_14 => ?_
  have l_15 := kp_14 0 _ l0 (by decide) (Or.inr (q_is_cat f0 (Or.inr rfl)))
  refine ol_X12_isCancelled_7 hd  ?_ (fun b => hQ (Ext.tr E_9 b)) BIG (Ext.rf _) h R_6 l_15 f0 l_13 f_11
  intro m_50 E_51
  intro S_47 L_48 v_44
  intro h R_49 l_45 f_46
  have E_52 := Ext.tr E_9 E_51
  refine go_iconst (n := 0) (z := 0) (by decide +kernel) (by decide) fun v_55 f_56 => ?_
  refine go_istore_n (n := 1) (by decide +kernel) (by decide +kernel) f_56 fun L_57 l_58 kp_59 => ?_
  have l_60 := kp_59 0 _ l_45 (by decide) (Or.inr (q_is_cat f_46 (Or.inr rfl)))
  refine ol_X12_isCancelled_30 hd   (fun b => hQ (Ext.tr E_52 b)) BIG (Ext.rf _) h R_49 l_60 f_46 l_58 f_56
end DF32
