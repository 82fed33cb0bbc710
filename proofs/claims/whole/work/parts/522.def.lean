/-! Methods as functions (written by wip/whole/dec.py), 22: X11_copy, X11_loseEvents, X11_takeOver, X11_join. -/
section DF22
noncomputable def fm_X11_copy (p1 p2 : Int) (m0 : MM) : Option ((Int ⊕ Nat) × MM) := bx (fm_X11_runAt p1 m0) (fun q_10 m_3 => some (.inr q_10, m_3)) fun x_2 m_3 =>
if p2 < 1 then
some (.inr 1, mthr m_3)
else
if 100 < p2 then
some (.inr 1, mthr m_3)
else
gd (okc m_3 x_2 7) <| lx (m_3 x_2 16) fun x_31 =>
gd (okc m_3 x_31 3) <| lx (m_3 x_31 1) fun x_37 =>
lx (m_3 x_2 8) fun x_42 =>
bp (fm_J9_min_7cf53 x_37 (w32 (x_42 + p2)) m_3) fun x_47 =>
up m_3 x_2 8 x_47 fun m_55 =>
lx (m_55 x_2 8) fun x_66 =>
some (.inl x_66, m_55)
set_option maxHeartbeats 4000000 in
theorem om_X11_copy {xs : List Int32} {d : Nat} {S : QS} {m0 : MM} {p1 p2 : Int} {v0 : Value} {v1 : Value} {v2 : Value} {rr : Int ⊕ Nat} {rm : MM}
  (hd : 5 ≤ d) (R : Rp S m0) (f0 : q_is 2 v0 4) (f1 : q_is 0 v1 p1) (f2 : q_is 0 v2 p2)
  (h : fm_X11_copy p1 p2 m0 = some (rr, rm)) : Mt xs d 128 [v0, v1, v2] S (Cx 0 m0 rm rr) := by
  obtain ⟨d, rfl⟩ : ∃ e, d = e + 1 := ⟨d - 1, by omega⟩
  have hd : 4 ≤ d := Nat.le_of_succ_le_succ hd
  refine Mt.of (M := qM_X11_copy) rfl (by rw [sl_1 (q_is_cat f0 (Or.inr rfl)), sl_1 (q_is_cat f1 (Or.inl rfl)), sl_1 (q_is_cat f2 (Or.inl rfl)), sl_0]; decide) ?_
  rw [la_1 (q_is_cat f0 (Or.inr rfl)), la_1 (q_is_cat f1 (Or.inl rfl)), la_1 (q_is_cat f2 (Or.inl rfl)), la_0]
  obtain ⟨L, hL⟩ : ∃ L : QL, L = [(0, v0), (0 + 1, v1), (0 + 1 + 1, v2)] := ⟨_, rfl⟩
  rw [← hL]
  have l0 : q_lo L 0 = some v0 := by rw [hL]; rfl
  have l1 : q_lo L 1 = some v1 := by rw [hL]; rfl
  have l2 : q_lo L 2 = some v2 := by rw [hL]; rfl
  have hQ : Ext m0 rm → ∀ o S1, Rp S1 rm → q_oux 0 o rr → (Cx 0 m0 rm rr) o S1 := fun a o S1 b e => ⟨b, a, e⟩
  unfold fm_X11_copy at h
  refine go_aload_n (n := 0) (by decide +kernel) l0 f0 ?_
  refine go_iload_n (n := 1) (by decide +kernel) l1 f1 ?_
  obtain ⟨rr5, m_3, hc_1, h⟩ := bx_s h
  rcases h with ⟨q_10, rfl, h⟩ | ⟨x_2, rfl, h⟩
  · cases h
    exact go_callV (x := 185) (mi := 139) (n := 1) (ci := 12) (as := [v1]) (rest := []) (by decide +kernel) (by decide +kernel) rfl rfl (q_sum8 _ (Nat.le_of_ble_eq_true rfl)) R f0 (fx_k (c := 12) R (by decide +kernel)) (om_X11_runAt (Nat.le_trans (by decide) hd) R f0 f1 hc_1) (fun _ _ qq => kx_lx qq) (fun _ _ qq => by
      obtain ⟨rfl, Rq, Eq⟩ := kx_e qq
      exact Or.inl ⟨rfl, hQ Eq _ _ Rq rfl⟩)
  refine go_callV (x := 185) (mi := 139) (n := 1) (ci := 12) (as := [v1]) (rest := []) (by decide +kernel) (by decide +kernel) rfl rfl (q_sum8 _ (Nat.le_of_ble_eq_true rfl)) R f0 (fx_k (c := 12) R (by decide +kernel)) (om_X11_runAt (Nat.le_trans (by decide) hd) R f0 f1 hc_1) (fun _ S_6 q_9 => ?_) (fun _ _ qq => kr_x (kx_l qq))
  have q_9 := kx_l q_9
  refine kr_z (by decide) q_9 fun v_4 f_5 R_7 E_8 => ?_
  have E_16 := E_8
  refine go_astore_n (n := 3) (by decide +kernel) (by decide +kernel) f_5 fun L_17 l_18 kp_19 => ?_
  have l_20 := kp_19 2 _ l2 (by decide) (Or.inr (q_is_cat f2 (Or.inl rfl)))
  refine go_iload_n (n := 2) (by decide +kernel) l_20 f2 ?_
  refine go_iconst (n := 1) (z := 1) (by decide +kernel) (by decide) fun v_21 f_22 => ?_
  refine go_icmp (c := .lt) (o := 9) (t := 17) (P := p2 < 1) (by decide +kernel) (by decide +kernel) f2 f_22 (Iff.rfl) (fun hp_23 => ?_) (fun hp_23 => ?_)
  · have h := it_t hp_23 h
    cases h
    exact go_thr (x := 96) (e := 1) (ic := 100) (b := 0) (by decide +kernel) (by decide +kernel) (by decide +kernel) R_7 rfl fun Sq Rq Eq => hQ (Ext.tr E_16 Eq) _ _ Rq rfl
  · have h := it_f hp_23 h
    refine go_iload_n (n := 2) (by decide +kernel) l_20 f2 ?_
    refine go_bipush (n := 100) (z := 100) (by decide +kernel) (by decide) fun v_24 f_25 => ?_
    refine go_icmp (c := .le) (o := 14) (t := 28) (P := ¬ (100 < p2)) (by decide +kernel) (by decide +kernel) f2 f_25 (Int.not_lt.symm) (fun hp_26 => ?_) (fun hp_26 => ?_)
    · have h := it_f hp_26 h
      refine go_aload_n (n := 3) (by decide +kernel) l_18 f_5 ?_
      refine go_aload_n (n := 3) (by decide +kernel) l_18 f_5 ?_
      obtain ⟨g_29, h⟩ := gd_s h
      obtain ⟨x_31, e_32, h⟩ := lx_s h
      refine go_getf (x := 195) (ci := 7) (kf := 16) (fin := 2) (t := 2) (by decide +kernel) (by decide +kernel) (by decide +kernel) R_7 f_5 g_29 fun v_27 f_28 => ?_
      have f_30 := q_is_eq f_28 e_32
      obtain ⟨g_35, h⟩ := gd_s h
      obtain ⟨x_37, e_38, h⟩ := lx_s h
      refine go_getf (x := 199) (ci := 3) (kf := 1) (fin := 0) (t := 0) (by decide +kernel) (by decide +kernel) (by decide +kernel) R_7 f_30 g_35 fun v_33 f_34 => ?_
      have f_36 := q_is_eq f_34 e_38
      refine go_aload_n (n := 3) (by decide +kernel) l_18 f_5 ?_
      obtain ⟨x_42, e_43, h⟩ := lx_s h
      refine go_getf (x := 443) (ci := 7) (kf := 8) (fin := 0) (t := 0) (by decide +kernel) (by decide +kernel) (by decide +kernel) R_7 f_5 g_29 fun v_39 f_40 => ?_
      have f_41 := q_is_eq f_40 e_43
      refine go_iload_n (n := 2) (by decide +kernel) l_20 f2 ?_
      refine go_iadd (by decide +kernel) f_41 f2 fun v_44 f_45 => ?_
      obtain ⟨x_47, hc_46, h⟩ := bp_s h
      refine go_callS (x := 446) (mi := 320) (n := 2) (b := 0) (as := [v_33, v_44]) (rest := [v_4]) (by decide +kernel) (by decide +kernel) rfl rfl (q_sum8 _ (Nat.le_of_ble_eq_true rfl)) (om_J9_min_7cf53 (Nat.le_trans (by decide) hd) R_7 f_36 f_45 hc_46) (fun _ S_51 q_54 => ?_) (fun _ _ qq => kr_x qq)
      refine kr_z (by decide) q_54 fun v_49 f_50 R_52 E_53 => ?_
      obtain ⟨m_55, e_56, h⟩ := up_s h
      refine go_putf (x := 443) (ci := 7) (kf := 8) (fin := 0) (zt := 0) (by decide +kernel) (by decide +kernel) (by decide) (by decide +kernel) (by decide) (Or.inl rfl) R_52 f_5 f_50 (fun hq => absurd hq (by decide)) g_29 e_56 (fx_f (j := 8) R_52.2 g_29 (by decide +kernel)) fun S_57 R_58 E_59 => ?_
      have E_61 := Ext.tr E_16 E_59
      refine go_aload_n (n := 3) (by decide +kernel) l_18 f_5 ?_
      have g_64 := Ext.ok E_59 g_29
      obtain ⟨x_66, e_67, h⟩ := lx_s h
      refine go_getf (x := 443) (ci := 7) (kf := 8) (fin := 0) (t := 0) (by decide +kernel) (by decide +kernel) (by decide +kernel) R_58 f_5 g_64 fun v_62 f_63 => ?_
      have f_65 := q_is_eq f_63 e_67
      cases h
      exact go_iret (by decide +kernel) rfl (Or.inl rfl) f_65 (hQ E_61 _ _ R_58 (q_out_v (by decide) f_65))
    · have h := it_n hp_26 h
      cases h
      exact go_thr (x := 96) (e := 1) (ic := 100) (b := 0) (by decide +kernel) (by decide +kernel) (by decide +kernel) R_7 rfl fun Sq Rq Eq => hQ (Ext.tr E_16 Eq) _ _ Rq rfl
noncomputable def fl_X11_loseEvents_21 (y1 y2 y3 : Int) (k71 : MM → Option (Int × MM)) : Nat → Int → MM → Option (Int × MM)
  | 0, _, _ => none
  | n + 1, y4, m => gd (okc m y2 3) <| lx (m y2 1) fun x_48 =>
if y4 < x_48 then
bp (fm_X2_kind y2 y4 m) fun x_52 =>
if x_52 = 4 then
gd (okc m y1 7) <| lx (m y1 19) fun x_79 =>
bp (fm_X2_x y2 y4 m) fun x_84 =>
bp (fm_X2_y y2 y4 m) fun x_95 =>
gd (okc m x_79 6) <| bd (fm_X5_add x_79 (w32 ((w32 (1000 * x_84)) + x_95)) m) fun x_109 m_110 =>
lx (w32 (y4 + 1)) fun x_125 =>
fl_X11_loseEvents_21 y1 y2 y3 k71 n x_125 m_110
else
lx (w32 (y4 + 1)) fun x_68 =>
fl_X11_loseEvents_21 y1 y2 y3 k71 n x_68 m
else
k71 m
set_option maxHeartbeats 4000000 in
theorem ol_X11_loseEvents_21 {xs : List Int32} {d : Nat} {Q : QO → QS → Prop} {mb : MM} {y1 y2 y3 : Int} {k71 : MM → Option (Int × MM)} {rz : Int} {rm : MM}
  (hd : 4 ≤ d)
  (hk71 : ∀ mq : MM, Ext mb mq → ∀ {Sq : QS} {Lq : QL} {u0 : Value} {u1 : Value} {u2 : Value} {u3 : Value}, k71 mq = some (rz, rm) → Rp Sq mq → q_lo Lq 0 = some u0 → q_is 2 u0 4 → q_lo Lq 1 = some u1 → q_is 2 u1 y1 → q_lo Lq 2 = some u2 → q_is 2 u2 y2 → q_lo Lq 3 = some u3 → q_is 0 u3 y3 → Go xs d qM_X11_loseEvents 71 Lq [] Sq Q)
  (hQ : Ext mb rm → ∀ o S1, Rp S1 rm → q_out 0 o rz → Q o S1) :
  ∀ (n : Nat) {m : MM} {S : QS} {L : QL} {y4 : Int} {v0 : Value} {v1 : Value} {v2 : Value} {v3 : Value} {v4 : Value} , Ext mb m → fl_X11_loseEvents_21 y1 y2 y3 k71 n y4 m = some (rz, rm) → Rp S m → q_lo L 0 = some v0 → q_is 2 v0 4 → q_lo L 1 = some v1 → q_is 2 v1 y1 → q_lo L 2 = some v2 → q_is 2 v2 y2 → q_lo L 3 = some v3 → q_is 0 v3 y3 → q_lo L 4 = some v4 → q_is 0 v4 y4 → Go xs d qM_X11_loseEvents 21 L [] S Q := by
  intro n
  induction n with
  | zero => intro m S L y4 v0 v1 v2 v3 v4; intro E h R l0 f0 l1 f1 l2 f2 l3 f3 l4 f4; cases h
  | succ n ih0 =>
    intro m S L y4 v0 v1 v2 v3 v4; intro E h R l0 f0 l1 f1 l2 f2 l3 f3 l4 f4
    have ih : ∀ mq : MM, Ext mb mq → ∀ {z4 : Int} {Sq : QS} {Lq : QL} {u0 : Value} {u1 : Value} {u2 : Value} {u3 : Value} {u4 : Value}, fl_X11_loseEvents_21 y1 y2 y3 k71 n z4 mq = some (rz, rm) → Rp Sq mq → q_lo Lq 0 = some u0 → q_is 2 u0 4 → q_lo Lq 1 = some u1 → q_is 2 u1 y1 → q_lo Lq 2 = some u2 → q_is 2 u2 y2 → q_lo Lq 3 = some u3 → q_is 0 u3 y3 → q_lo Lq 4 = some u4 → q_is 0 u4 z4 → Go xs d qM_X11_loseEvents 21 Lq [] Sq Q := fun mq b => by intros; exact ih0 b ‹_› ‹_› ‹_› ‹_› ‹_› ‹_› ‹_› ‹_› ‹_› ‹_› ‹_› ‹_›
    unfold fl_X11_loseEvents_21 at h
    refine go_iload (n := 4) (by decide +kernel) l4 f4 ?_
    refine go_aload_n (n := 2) (by decide +kernel) l2 f2 ?_
    obtain ⟨g_46, h⟩ := gd_s h
    obtain ⟨x_48, e_49, h⟩ := lx_s h
    refine go_getf (x := 199) (ci := 3) (kf := 1) (fin := 0) (t := 0) (by decide +kernel) (by decide +kernel) (by decide +kernel) R f2 g_46 fun v_44 f_45 => ?_
    have f_47 := q_is_eq f_45 e_49
    refine go_icmp (c := .ge) (o := 44) (t := 71) (P := ¬ (y4 < x_48)) (by decide +kernel) (by decide +kernel) f4 f_47 (Int.not_lt.symm) (fun hp_50 => ?_) (fun hp_50 => ?_)
    · have h := it_f hp_50 h
      exact hk71 m E h R l0 f0 l1 f1 l2 f2 l3 f3
    · have h := it_n hp_50 h
      refine go_aload_n (n := 2) (by decide +kernel) l2 f2 ?_
      refine go_iload (n := 4) (by decide +kernel) l4 f4 ?_
      obtain ⟨x_52, hc_51, h⟩ := bp_s h
      refine go_callV (x := 261) (mi := 9) (n := 1) (ci := 3) (as := [v4]) (rest := []) (by decide +kernel) (by decide +kernel) rfl rfl (q_sum8 _ (Nat.le_of_ble_eq_true rfl)) R f2 g_46 (om_X2_kind (Nat.le_trans (by decide) hd) R g_46 f2 f4 hc_51) (fun _ S_56 q_59 => ?_) (fun _ _ qq => kr_x qq)
      refine kr_z (by decide) q_59 fun v_54 f_55 R_57 E_58 => ?_
      refine go_iconst (n := 4) (z := 4) (by decide +kernel) (by decide) fun v_60 f_61 => ?_
      refine go_icmp (c := .ne) (o := 28) (t := 65) (P := ¬ (x_52 = 4)) (by decide +kernel) (by decide +kernel) f_55 f_61 (Iff.rfl) (fun hp_62 => ?_) (fun hp_62 => ?_)
      · have h := it_f hp_62 h
        refine go_iinc (n := 4) (c := 1) (c' := 1) (by decide +kernel) (by decide +kernel) l4 f4 (by decide) fun L_63 v_64 f_65 l_66 kp_67 => ?_
        obtain ⟨x_68, e_69, h⟩ := lx_s h
        have f_70 := q_is_eq f_65 e_69
        have l_71 := kp_67 0 _ l0 (by decide) (Or.inl (by decide))
        have l_72 := kp_67 1 _ l1 (by decide) (Or.inl (by decide))
        have l_73 := kp_67 2 _ l2 (by decide) (Or.inl (by decide))
        have l_74 := kp_67 3 _ l3 (by decide) (Or.inr (q_is_cat f3 (Or.inl rfl)))
        refine go_goto (o := (-47)) (t := 21) (by decide +kernel) (by decide +kernel) ?_
        exact ih m E h R_57 l_71 f0 l_72 f1 l_73 f2 l_74 f3 l_66 f_70
      · have h := it_n hp_62 h
        refine go_aload_n (n := 1) (by decide +kernel) l1 f1 ?_
        obtain ⟨g_77, h⟩ := gd_s h
        obtain ⟨x_79, e_80, h⟩ := lx_s h
        refine go_getf (x := 463) (ci := 7) (kf := 19) (fin := 2) (t := 2) (by decide +kernel) (by decide +kernel) (by decide +kernel) R_57 f1 g_77 fun v_75 f_76 => ?_
        have f_78 := q_is_eq f_76 e_80
        refine go_sipush (n := 1000) (z := 1000) (by decide +kernel) (by decide) fun v_81 f_82 => ?_
        refine go_aload_n (n := 2) (by decide +kernel) l2 f2 ?_
        refine go_iload (n := 4) (by decide +kernel) l4 f4 ?_
        obtain ⟨x_84, hc_83, h⟩ := bp_s h
        refine go_callV (x := 264) (mi := 10) (n := 1) (ci := 3) (as := [v4]) (rest := [v_81, v_75]) (by decide +kernel) (by decide +kernel) rfl rfl (q_sum8 _ (Nat.le_of_ble_eq_true rfl)) R_57 f2 g_46 (om_X2_x (Nat.le_trans (by decide) hd) R_57 g_46 f2 f4 hc_83) (fun _ S_88 q_91 => ?_) (fun _ _ qq => kr_x qq)
        refine kr_z (by decide) q_91 fun v_86 f_87 R_89 E_90 => ?_
        refine go_imul (by decide +kernel) f_82 f_87 fun v_92 f_93 => ?_
        refine go_aload_n (n := 2) (by decide +kernel) l2 f2 ?_
        refine go_iload (n := 4) (by decide +kernel) l4 f4 ?_
        obtain ⟨x_95, hc_94, h⟩ := bp_s h
        refine go_callV (x := 267) (mi := 11) (n := 1) (ci := 3) (as := [v4]) (rest := [v_92, v_75]) (by decide +kernel) (by decide +kernel) rfl rfl (q_sum8 _ (Nat.le_of_ble_eq_true rfl)) R_89 f2 g_46 (om_X2_y (Nat.le_trans (by decide) hd) R_89 g_46 f2 f4 hc_94) (fun _ S_99 q_102 => ?_) (fun _ _ qq => kr_x qq)
        refine kr_z (by decide) q_102 fun v_97 f_98 R_100 E_101 => ?_
        refine go_iadd (by decide +kernel) f_93 f_98 fun v_103 f_104 => ?_
        refine go_i2l (by decide +kernel) f_104 fun v_105 f_106 => ?_
        obtain ⟨g_107, h⟩ := gd_s h
        obtain ⟨x_109, m_110, hc_108, h⟩ := bd_s h
        refine go_callV (x := 120) (mi := 60) (n := 1) (ci := 6) (as := [v_105]) (rest := []) (by decide +kernel) (by decide +kernel) rfl rfl (q_sum8 _ (Nat.le_of_ble_eq_true rfl)) R_100 f_78 g_107 (om_X5_add (Nat.le_trans (by decide) hd) R_100 g_107 f_78 f_106 hc_108) (fun _ S_113 q_116 => ?_) (fun _ _ qq => kr_x qq)
        refine kr_v q_116 fun R_114 E_115 => ?_
        have E_119 := Ext.tr E E_115
        refine go_iinc (n := 4) (c := 1) (c' := 1) (by decide +kernel) (by decide +kernel) l4 f4 (by decide) fun L_120 v_121 f_122 l_123 kp_124 => ?_
        obtain ⟨x_125, e_126, h⟩ := lx_s h
        have f_127 := q_is_eq f_122 e_126
        have l_128 := kp_124 0 _ l0 (by decide) (Or.inl (by decide))
        have l_129 := kp_124 1 _ l1 (by decide) (Or.inl (by decide))
        have l_130 := kp_124 2 _ l2 (by decide) (Or.inl (by decide))
        have l_131 := kp_124 3 _ l3 (by decide) (Or.inr (q_is_cat f3 (Or.inl rfl)))
        refine go_goto (o := (-47)) (t := 21) (by decide +kernel) (by decide +kernel) ?_
        exact ih m_110 E_119 h R_114 l_128 f0 l_129 f1 l_130 f2 l_131 f3 l_123 f_127
noncomputable def fj_X11_loseEvents_93 (y1 y3 : Int) (m : MM) : Option (Int × MM) := gd (okc m y1 7) <| lx (m y1 0) fun x_157 =>
lx (m y1 8) fun x_162 =>
bd (fm_X11_partFromChildren x_157 x_162 m) fun x_165 m_166 =>
bd (fm_X11_endWork y1 m_166) fun x_177 m_178 =>
some (y3, m_178)
set_option maxHeartbeats 4000000 in
theorem oj_X11_loseEvents_93 {xs : List Int32} {d : Nat} {S : QS} {L : QL} {Q : QO → QS → Prop} {m : MM} {y1 y3 : Int} {v0 : Value} {v1 : Value} {v3 : Value}  {rz : Int} {rm : MM}
  (hd : 4 ≤ d) (R : Rp S m) (l0 : q_lo L 0 = some v0) (f0 : q_is 2 v0 4) (l1 : q_lo L 1 = some v1) (f1 : q_is 2 v1 y1) (l3 : q_lo L 3 = some v3) (f3 : q_is 0 v3 y3)
  (hQ : Ext m rm → ∀ o S1, Rp S1 rm → q_out 0 o rz → Q o S1)
  (h : fj_X11_loseEvents_93 y1 y3 m = some (rz, rm)) : Go xs d qM_X11_loseEvents 93 L [] S Q := by
  unfold fj_X11_loseEvents_93 at h
  refine go_aload_n (n := 0) (by decide +kernel) l0 f0 ?_
  refine go_aload_n (n := 1) (by decide +kernel) l1 f1 ?_
  obtain ⟨g_155, h⟩ := gd_s h
  obtain ⟨x_157, e_158, h⟩ := lx_s h
  refine go_getf (x := 180) (ci := 7) (kf := 0) (fin := 2) (t := 0) (by decide +kernel) (by decide +kernel) (by decide +kernel) R f1 g_155 fun v_153 f_154 => ?_
  have f_156 := q_is_eq f_154 e_158
  refine go_aload_n (n := 1) (by decide +kernel) l1 f1 ?_
  obtain ⟨x_162, e_163, h⟩ := lx_s h
  refine go_getf (x := 443) (ci := 7) (kf := 8) (fin := 0) (t := 0) (by decide +kernel) (by decide +kernel) (by decide +kernel) R f1 g_155 fun v_159 f_160 => ?_
  have f_161 := q_is_eq f_160 e_163
  obtain ⟨x_165, m_166, hc_164, h⟩ := bd_s h
  refine go_callV (x := 430) (mi := 158) (n := 2) (ci := 12) (as := [v_153, v_159]) (rest := []) (by decide +kernel) (by decide +kernel) rfl rfl (q_sum8 _ (Nat.le_of_ble_eq_true rfl)) R f0 (fx_k (c := 12) R (by decide +kernel)) (om_X11_partFromChildren (Nat.le_trans (by decide) hd) R f0 f_156 f_161 hc_164) (fun _ S_169 q_172 => ?_) (fun _ _ qq => kr_x qq)
  refine kr_v q_172 fun R_170 E_171 => ?_
  have E_175 := E_171
  refine go_aload_n (n := 0) (by decide +kernel) l0 f0 ?_
  refine go_aload_n (n := 1) (by decide +kernel) l1 f1 ?_
  obtain ⟨x_177, m_178, hc_176, h⟩ := bd_s h
  refine go_callV (x := 427) (mi := 157) (n := 1) (ci := 12) (as := [v1]) (rest := []) (by decide +kernel) (by decide +kernel) rfl rfl (q_sum8 _ (Nat.le_of_ble_eq_true rfl)) R_170 f0 (fx_k (c := 12) R_170 (by decide +kernel)) (om_X11_endWork (Nat.le_trans (by decide) hd) R_170 f0 f1 hc_176) (fun _ S_181 q_184 => ?_) (fun _ _ qq => kr_x qq)
  refine kr_v q_184 fun R_182 E_183 => ?_
  have E_187 := Ext.tr E_175 E_183
  refine go_iload_n (n := 3) (by decide +kernel) l3 f3 ?_
  cases h
  exact go_iret (by decide +kernel) rfl (Or.inl rfl) f3 (hQ E_187 _ _ R_182 (q_out_v (by decide) f3))
noncomputable def fm_X11_loseEvents (p1 : Int) (m0 : MM) : Option (Int × MM) := gd (okc m0 p1 7) <| lx (m0 p1 16) fun x_5 =>
gd (okc m0 x_5 3) <| lx (m0 x_5 1) fun x_16 =>
lx (m0 p1 8) fun x_21 =>
lx (w32 (x_16 - x_21)) fun x_25 =>
fl_X11_loseEvents_21 p1 x_5 x_25 (fun m_147 =>
if 0 < x_25 then
lx (m_147 p1 8) fun x_192 =>
bd (fm_X2_cut x_5 x_192 m_147) fun x_196 m_197 =>
lx (m_197 p1 9) fun x_211 =>
up m_197 p1 9 (w32 (x_211 + 1)) fun m_217 =>
fj_X11_loseEvents_93 p1 x_25 m_217
else
fj_X11_loseEvents_93 p1 x_25 m_147) BIG x_21 m0
set_option maxHeartbeats 4000000 in
theorem om_X11_loseEvents {xs : List Int32} {d : Nat} {S : QS} {m0 : MM} {p1 : Int} {v0 : Value} {v1 : Value} {rz : Int} {rm : MM}
  (hd : 5 ≤ d) (R : Rp S m0) (f0 : q_is 2 v0 4) (f1 : q_is 2 v1 p1)
  (h : fm_X11_loseEvents p1 m0 = some (rz, rm)) : Mt xs d 173 [v0, v1] S (Cr 0 m0 rm rz) := by
  obtain ⟨d, rfl⟩ : ∃ e, d = e + 1 := ⟨d - 1, by omega⟩
  have hd : 4 ≤ d := Nat.le_of_succ_le_succ hd
  refine Mt.of (M := qM_X11_loseEvents) rfl (by rw [sl_1 (q_is_cat f0 (Or.inr rfl)), sl_1 (q_is_cat f1 (Or.inr rfl)), sl_0]; decide) ?_
  rw [la_1 (q_is_cat f0 (Or.inr rfl)), la_1 (q_is_cat f1 (Or.inr rfl)), la_0]
  obtain ⟨L, hL⟩ : ∃ L : QL, L = [(0, v0), (0 + 1, v1)] := ⟨_, rfl⟩
  rw [← hL]
  have l0 : q_lo L 0 = some v0 := by rw [hL]; rfl
  have l1 : q_lo L 1 = some v1 := by rw [hL]; rfl
  have hQ : Ext m0 rm → ∀ o S1, Rp S1 rm → q_out 0 o rz → (Cr 0 m0 rm rz) o S1 := fun a o S1 b e => ⟨b, a, e⟩
  unfold fm_X11_loseEvents at h
  refine go_aload_n (n := 1) (by decide +kernel) l1 f1 ?_
  obtain ⟨g_3, h⟩ := gd_s h
  obtain ⟨x_5, e_6, h⟩ := lx_s h
  refine go_getf (x := 195) (ci := 7) (kf := 16) (fin := 2) (t := 2) (by decide +kernel) (by decide +kernel) (by decide +kernel) R f1 g_3 fun v_1 f_2 => ?_
  have f_4 := q_is_eq f_2 e_6
  refine go_astore_n (n := 2) (by decide +kernel) (by decide +kernel) f_4 fun L_7 l_8 kp_9 => ?_
  have l_10 := kp_9 0 _ l0 (by decide) (Or.inl (by decide))
  have l_11 := kp_9 1 _ l1 (by decide) (Or.inr (q_is_cat f1 (Or.inr rfl)))
  refine go_aload_n (n := 2) (by decide +kernel) l_8 f_4 ?_
  obtain ⟨g_14, h⟩ := gd_s h
  obtain ⟨x_16, e_17, h⟩ := lx_s h
  refine go_getf (x := 199) (ci := 3) (kf := 1) (fin := 0) (t := 0) (by decide +kernel) (by decide +kernel) (by decide +kernel) R f_4 g_14 fun v_12 f_13 => ?_
  have f_15 := q_is_eq f_13 e_17
  refine go_aload_n (n := 1) (by decide +kernel) l_11 f1 ?_
  obtain ⟨x_21, e_22, h⟩ := lx_s h
  refine go_getf (x := 443) (ci := 7) (kf := 8) (fin := 0) (t := 0) (by decide +kernel) (by decide +kernel) (by decide +kernel) R f1 g_3 fun v_18 f_19 => ?_
  have f_20 := q_is_eq f_19 e_22
  refine go_isub (by decide +kernel) f_15 f_20 fun v_23 f_24 => ?_
  obtain ⟨x_25, e_26, h⟩ := lx_s h
  have f_27 := q_is_eq f_24 e_26
  refine go_istore_n (n := 3) (by decide +kernel) (by decide +kernel) f_27 fun L_28 l_29 kp_30 => ?_
  have l_31 := kp_30 0 _ l_10 (by decide) (Or.inl (by decide))
  have l_32 := kp_30 1 _ l_11 (by decide) (Or.inl (by decide))
  have l_33 := kp_30 2 _ l_8 (by decide) (Or.inr (q_is_cat f_4 (Or.inr rfl)))
  refine go_aload_n (n := 1) (by decide +kernel) l_32 f1 ?_
  refine go_getf (x := 443) (ci := 7) (kf := 8) (fin := 0) (t := 0) (by decide +kernel) (by decide +kernel) (by decide +kernel) R f1 g_3 fun v_34 f_35 => ?_
  have f_36 := q_is_eq f_35 e_22
  refine go_istore (n := 4) (by decide +kernel) (by decide +kernel) f_36 fun L_37 l_38 kp_39 => ?_
  have l_40 := kp_39 0 _ l_31 (by decide) (Or.inl (by decide))
  have l_41 := kp_39 1 _ l_32 (by decide) (Or.inl (by decide))
  have l_42 := kp_39 2 _ l_33 (by decide) (Or.inl (by decide))
  have l_43 := kp_39 3 _ l_29 (by decide) (Or.inr (q_is_cat f_27 (Or.inl rfl)))
  refine ol_X11_loseEvents_21 hd  ?_ hQ BIG (Ext.rf _) h R l_40 f0 l_41 f1 l_42 f_4 l_43 f_27 l_38 f_36
  intro m_147 E_148
  intro S_144 L_145 v_132 v_133 v_134 v_135
  intro h R_146 l_136 f_140 l_137 f_141 l_138 f_142 l_139 f_143
  have E_149 := E_148
  refine go_iload_n (n := 3) (by decide +kernel) l_139 f_143 ?_
  refine go_if (c := .le) (o := 21) (t := 93) (P := ¬ (0 < x_25)) (by decide +kernel) (by decide +kernel) f_143 (Int.not_lt.symm) (fun hp_152 => ?_) (fun hp_152 => ?_)
  · have h := it_f hp_152 h
    exact oj_X11_loseEvents_93 hd R_146 l_136 f_140 l_137 f_141 l_139 f_143 (fun b => hQ (Ext.tr E_149 b)) h
  · have h := it_n hp_152 h
    refine go_aload_n (n := 2) (by decide +kernel) l_138 f_142 ?_
    refine go_aload_n (n := 1) (by decide +kernel) l_137 f_141 ?_
    have g_190 := Ext.ok E_148 g_3
    obtain ⟨x_192, e_193, h⟩ := lx_s h
    refine go_getf (x := 443) (ci := 7) (kf := 8) (fin := 0) (t := 0) (by decide +kernel) (by decide +kernel) (by decide +kernel) R_146 f_141 g_190 fun v_188 f_189 => ?_
    have f_191 := q_is_eq f_189 e_193
    have g_194 := Ext.ok E_148 g_14
    obtain ⟨x_196, m_197, hc_195, h⟩ := bd_s h
    refine go_callV (x := 622) (mi := 16) (n := 1) (ci := 3) (as := [v_188]) (rest := []) (by decide +kernel) (by decide +kernel) rfl rfl (q_sum8 _ (Nat.le_of_ble_eq_true rfl)) R_146 f_142 g_194 (om_X2_cut (Nat.le_trans (by decide) hd) R_146 g_194 f_142 f_191 hc_195) (fun _ S_200 q_203 => ?_) (fun _ _ qq => kr_x qq)
    refine kr_v q_203 fun R_201 E_202 => ?_
    have E_206 := Ext.tr E_149 E_202
    refine go_aload_n (n := 1) (by decide +kernel) l_137 f_141 ?_
    refine go_dup (by decide +kernel) f_141 (Or.inr rfl) ?_
    have g_209 := Ext.ok E_202 g_190
    obtain ⟨x_211, e_212, h⟩ := lx_s h
    refine go_getf (x := 623) (ci := 7) (kf := 9) (fin := 0) (t := 0) (by decide +kernel) (by decide +kernel) (by decide +kernel) R_201 f_141 g_209 fun v_207 f_208 => ?_
    have f_210 := q_is_eq f_208 e_212
    refine go_iconst (n := 1) (z := 1) (by decide +kernel) (by decide) fun v_213 f_214 => ?_
    refine go_iadd (by decide +kernel) f_210 f_214 fun v_215 f_216 => ?_
    obtain ⟨m_217, e_218, h⟩ := up_s h
    refine go_putf (x := 623) (ci := 7) (kf := 9) (fin := 0) (zt := 0) (by decide +kernel) (by decide +kernel) (by decide) (by decide +kernel) (by decide) (Or.inl rfl) R_201 f_141 f_216 (fun hq => absurd hq (by decide)) g_209 e_218 (fx_f (j := 9) R_201.2 g_209 (by decide +kernel)) fun S_219 R_220 E_221 => ?_
    have E_223 := Ext.tr E_206 E_221
    exact oj_X11_loseEvents_93 hd R_220 l_136 f_140 l_137 f_141 l_139 f_143 (fun b => hQ (Ext.tr E_223 b)) h
noncomputable def fl_X11_takeOver_27 (k71 : Int → MM → Option ((Int ⊕ Nat) × MM)) : Nat → Int → Int → MM → Option ((Int ⊕ Nat) × MM)
  | 0, _, _, _ => none
  | n + 1, y1, y2, m => bp (fm_Jx4a65c_size_8abf5 7 m) fun x_33 =>
if y2 < x_33 then
bp (fm_Jx4a65c_get_915e3 7 y2 m) fun x_46 =>
gd (okc m x_46 7) <| lx (m x_46 6) fun x_64 =>
if x_64 = 0 then
bd (fm_X11_loseEvents x_46 m) fun x_78 m_79 =>
lx (w32 (y1 + x_78)) fun x_91 =>
lx (w32 (y2 + 1)) fun x_104 =>
fl_X11_takeOver_27 k71 n x_91 x_104 m_79
else
lx (w32 (y2 + 1)) fun x_72 =>
fl_X11_takeOver_27 k71 n y1 x_72 m
else
k71 y1 m
set_option maxHeartbeats 4000000 in
theorem ol_X11_takeOver_27 {xs : List Int32} {d : Nat} {Q : QO → QS → Prop} {mb : MM} {k71 : Int → MM → Option ((Int ⊕ Nat) × MM)} {rr : Int ⊕ Nat} {rm : MM}
  (hd : 150 ≤ d)
  (hk71 : ∀ mq : MM, Ext mb mq → ∀ {z1 : Int} {Sq : QS} {Lq : QL} {u0 : Value} {u1 : Value}, k71 z1 mq = some (rr, rm) → Rp Sq mq → q_lo Lq 0 = some u0 → q_is 2 u0 4 → q_lo Lq 1 = some u1 → q_is 0 u1 z1 → Go xs d qM_X11_takeOver 71 Lq [] Sq Q)
  (hQ : Ext mb rm → ∀ o S1, Rp S1 rm → q_oux 0 o rr → Q o S1) :
  ∀ (n : Nat) {m : MM} {S : QS} {L : QL} {y1 y2 : Int} {v0 : Value} {v1 : Value} {v2 : Value} , Ext mb m → fl_X11_takeOver_27 k71 n y1 y2 m = some (rr, rm) → Rp S m → q_lo L 0 = some v0 → q_is 2 v0 4 → q_lo L 1 = some v1 → q_is 0 v1 y1 → q_lo L 2 = some v2 → q_is 0 v2 y2 → Go xs d qM_X11_takeOver 27 L [] S Q := by
  intro n
  induction n with
  | zero => intro m S L y1 y2 v0 v1 v2; intro E h R l0 f0 l1 f1 l2 f2; cases h
  | succ n ih0 =>
    intro m S L y1 y2 v0 v1 v2; intro E h R l0 f0 l1 f1 l2 f2
    have ih : ∀ mq : MM, Ext mb mq → ∀ {z1 : Int} {z2 : Int} {Sq : QS} {Lq : QL} {u0 : Value} {u1 : Value} {u2 : Value}, fl_X11_takeOver_27 k71 n z1 z2 mq = some (rr, rm) → Rp Sq mq → q_lo Lq 0 = some u0 → q_is 2 u0 4 → q_lo Lq 1 = some u1 → q_is 0 u1 z1 → q_lo Lq 2 = some u2 → q_is 0 u2 z2 → Go xs d qM_X11_takeOver 27 Lq [] Sq Q := fun mq b => by intros; exact ih0 b ‹_› ‹_› ‹_› ‹_› ‹_› ‹_› ‹_› ‹_›
    unfold fl_X11_takeOver_27 at h
    refine go_iload_n (n := 2) (by decide +kernel) l2 f2 ?_
    refine go_aload_n (n := 0) (by decide +kernel) l0 f0 ?_
    refine go_getf (x := 24) (ci := 12) (kf := 2) (fin := 1) (t := 2) (by decide +kernel) (by decide +kernel) (by decide +kernel) R f0 (fx_k (c := 12) R (by decide +kernel)) fun v_29 f_30 => ?_
    have f_31 := q_is_eq (b := 7) f_30 (fx_v R (by decide +kernel)).symm
    obtain ⟨x_33, hc_32, h⟩ := bp_s h
    refine go_callV (x := 127) (mi := 326) (n := 0) (ci := 0) (as := []) (rest := [v2]) (by decide +kernel) (by decide +kernel) rfl rfl (q_sum8 _ (Nat.le_of_ble_eq_true rfl)) R f_31 (fx_k (c := 0) R (by decide +kernel)) (om_Jx4a65c_size_8abf5 (Nat.le_trans (by decide) hd) R (fx_k (c := 0) R (by decide +kernel)) f_31 hc_32) (fun _ S_37 q_40 => ?_) (fun _ _ qq => kr_x qq)
    refine kr_z (by decide) q_40 fun v_35 f_36 R_38 E_39 => ?_
    refine go_icmp (c := .ge) (o := 36) (t := 71) (P := ¬ (y2 < x_33)) (by decide +kernel) (by decide +kernel) f2 f_36 (Int.not_lt.symm) (fun hp_41 => ?_) (fun hp_41 => ?_)
    · have h := it_f hp_41 h
      exact hk71 m E h R_38 l0 f0 l1 f1
    · have h := it_n hp_41 h
      refine go_aload_n (n := 0) (by decide +kernel) l0 f0 ?_
      refine go_getf (x := 24) (ci := 12) (kf := 2) (fin := 1) (t := 2) (by decide +kernel) (by decide +kernel) (by decide +kernel) R_38 f0 (fx_k (c := 12) R_38 (by decide +kernel)) fun v_42 f_43 => ?_
      have f_44 := q_is_eq (b := 7) f_43 (fx_v R_38 (by decide +kernel)).symm
      refine go_iload_n (n := 2) (by decide +kernel) l2 f2 ?_
      obtain ⟨x_46, hc_45, h⟩ := bp_s h
      refine go_callV (x := 305) (mi := 329) (n := 1) (ci := 0) (as := [v2]) (rest := []) (by decide +kernel) (by decide +kernel) rfl rfl (q_sum8 _ (Nat.le_of_ble_eq_true rfl)) R_38 f_44 (fx_k (c := 0) R_38 (by decide +kernel)) (om_Jx4a65c_get_915e3 (Nat.le_trans (by decide) hd) R_38 (fx_k (c := 0) R_38 (by decide +kernel)) f_44 f2 hc_45) (fun _ S_50 q_53 => ?_) (fun _ _ qq => kr_x qq)
      refine kr_z (by decide) q_53 fun v_48 f_49 R_51 E_52 => ?_
      obtain ⟨g_54, h⟩ := gd_s h
      refine go_cast (x := 181) (kd := 7) (a := 0) (b := 0) (by decide +kernel) (by decide +kernel) R_51 f_49 g_54 ?_
      refine go_astore_n (n := 3) (by decide +kernel) (by decide +kernel) f_49 fun L_55 l_56 kp_57 => ?_
      have l_58 := kp_57 0 _ l0 (by decide) (Or.inl (by decide))
      have l_59 := kp_57 1 _ l1 (by decide) (Or.inl (by decide))
      have l_60 := kp_57 2 _ l2 (by decide) (Or.inr (q_is_cat f2 (Or.inl rfl)))
      refine go_aload_n (n := 3) (by decide +kernel) l_56 f_49 ?_
      obtain ⟨x_64, e_65, h⟩ := lx_s h
      refine go_getf (x := 208) (ci := 7) (kf := 6) (fin := 0) (t := 0) (by decide +kernel) (by decide +kernel) (by decide +kernel) R_51 f_49 g_54 fun v_61 f_62 => ?_
      have f_63 := q_is_eq f_62 e_65
      refine go_if (c := .ne) (o := 11) (t := 65) (P := ¬ (x_64 = 0)) (by decide +kernel) (by decide +kernel) f_63 (Iff.rfl) (fun hp_66 => ?_) (fun hp_66 => ?_)
      · have h := it_f hp_66 h
        refine go_iinc (n := 2) (c := 1) (c' := 1) (by decide +kernel) (by decide +kernel) l_60 f2 (by decide) fun L_67 v_68 f_69 l_70 kp_71 => ?_
        obtain ⟨x_72, e_73, h⟩ := lx_s h
        have f_74 := q_is_eq f_69 e_73
        have l_75 := kp_71 0 _ l_58 (by decide) (Or.inl (by decide))
        have l_76 := kp_71 1 _ l_59 (by decide) (Or.inr (q_is_cat f1 (Or.inl rfl)))
        refine go_goto (o := (-41)) (t := 27) (by decide +kernel) (by decide +kernel) ?_
        exact ih m E h R_51 l_75 f0 l_76 f1 l_70 f_74
      · have h := it_n hp_66 h
        refine go_iload_n (n := 1) (by decide +kernel) l_59 f1 ?_
        refine go_aload_n (n := 0) (by decide +kernel) l_58 f0 ?_
        refine go_aload_n (n := 3) (by decide +kernel) l_56 f_49 ?_
        obtain ⟨x_78, m_79, hc_77, h⟩ := bd_s h
        refine go_callV (x := 454) (mi := 173) (n := 1) (ci := 12) (as := [v_48]) (rest := [v1]) (by decide +kernel) (by decide +kernel) rfl rfl (q_sum8 _ (Nat.le_of_ble_eq_true rfl)) R_51 f0 (fx_k (c := 12) R_51 (by decide +kernel)) (om_X11_loseEvents (Nat.le_trans (by decide) hd) R_51 f0 f_49 hc_77) (fun _ S_82 q_85 => ?_) (fun _ _ qq => kr_x qq)
        refine kr_z (by decide) q_85 fun v_80 f_81 R_83 E_84 => ?_
        have E_88 := Ext.tr E E_84
        refine go_iadd (by decide +kernel) f1 f_81 fun v_89 f_90 => ?_
        obtain ⟨x_91, e_92, h⟩ := lx_s h
        have f_93 := q_is_eq f_90 e_92
        refine go_istore_n (n := 1) (by decide +kernel) (by decide +kernel) f_93 fun L_94 l_95 kp_96 => ?_
        have l_97 := kp_96 0 _ l_58 (by decide) (Or.inr (q_is_cat f0 (Or.inr rfl)))
        have l_98 := kp_96 2 _ l_60 (by decide) (Or.inl (by decide))
        refine go_iinc (n := 2) (c := 1) (c' := 1) (by decide +kernel) (by decide +kernel) l_98 f2 (by decide) fun L_99 v_100 f_101 l_102 kp_103 => ?_
        obtain ⟨x_104, e_105, h⟩ := lx_s h
        have f_106 := q_is_eq f_101 e_105
        have l_107 := kp_103 0 _ l_97 (by decide) (Or.inl (by decide))
        have l_108 := kp_103 1 _ l_95 (by decide) (Or.inr (q_is_cat f_93 (Or.inl rfl)))
        refine go_goto (o := (-41)) (t := 27) (by decide +kernel) (by decide +kernel) ?_
        exact ih m_79 E_88 h R_83 l_107 f0 l_108 f_93 l_102 f_106
noncomputable def fl_X11_takeOver_73 (y1 : Int) (k124 : MM → Option ((Int ⊕ Nat) × MM)) : Nat → Int → MM → Option ((Int ⊕ Nat) × MM)
  | 0, _, _ => none
  | n + 1, y2, m => bp (fm_Jx4a65c_size_8abf5 7 m) fun x_135 =>
if y2 < x_135 then
bp (fm_Jx4a65c_get_915e3 7 y2 m) fun x_148 =>
gd (okc m x_148 7) <| lx (m x_148 6) fun x_166 =>
if x_166 = 0 then
lx (m x_148 8) fun x_182 =>
if x_182 = 0 then
bd (fm_X11_closeRun BIGR x_148 5 0 0 m) fun x_202 m_203 =>
lx (w32 (y2 + 1)) fun x_218 =>
fl_X11_takeOver_73 y1 k124 n x_218 m_203
else
lx (w32 (y2 + 1)) fun x_190 =>
fl_X11_takeOver_73 y1 k124 n x_190 m
else
lx (w32 (y2 + 1)) fun x_174 =>
fl_X11_takeOver_73 y1 k124 n x_174 m
else
k124 m
set_option maxHeartbeats 4000000 in
theorem ol_X11_takeOver_73 {xs : List Int32} {d : Nat} {Q : QO → QS → Prop} {mb : MM} {y1 : Int} {k124 : MM → Option ((Int ⊕ Nat) × MM)} {rr : Int ⊕ Nat} {rm : MM}
  (hd : 150 ≤ d)
  (hk124 : ∀ mq : MM, Ext mb mq → ∀ {Sq : QS} {Lq : QL} {u0 : Value} {u1 : Value}, k124 mq = some (rr, rm) → Rp Sq mq → q_lo Lq 0 = some u0 → q_is 2 u0 4 → q_lo Lq 1 = some u1 → q_is 0 u1 y1 → Go xs d qM_X11_takeOver 124 Lq [] Sq Q)
  (hQ : Ext mb rm → ∀ o S1, Rp S1 rm → q_oux 0 o rr → Q o S1) :
  ∀ (n : Nat) {m : MM} {S : QS} {L : QL} {y2 : Int} {v0 : Value} {v1 : Value} {v2 : Value} , Ext mb m → fl_X11_takeOver_73 y1 k124 n y2 m = some (rr, rm) → Rp S m → q_lo L 0 = some v0 → q_is 2 v0 4 → q_lo L 1 = some v1 → q_is 0 v1 y1 → q_lo L 2 = some v2 → q_is 0 v2 y2 → Go xs d qM_X11_takeOver 73 L [] S Q := by
  intro n
  induction n with
  | zero => intro m S L y2 v0 v1 v2; intro E h R l0 f0 l1 f1 l2 f2; cases h
  | succ n ih0 =>
    intro m S L y2 v0 v1 v2; intro E h R l0 f0 l1 f1 l2 f2
    have ih : ∀ mq : MM, Ext mb mq → ∀ {z2 : Int} {Sq : QS} {Lq : QL} {u0 : Value} {u1 : Value} {u2 : Value}, fl_X11_takeOver_73 y1 k124 n z2 mq = some (rr, rm) → Rp Sq mq → q_lo Lq 0 = some u0 → q_is 2 u0 4 → q_lo Lq 1 = some u1 → q_is 0 u1 y1 → q_lo Lq 2 = some u2 → q_is 0 u2 z2 → Go xs d qM_X11_takeOver 73 Lq [] Sq Q := fun mq b => by intros; exact ih0 b ‹_› ‹_› ‹_› ‹_› ‹_› ‹_› ‹_› ‹_›
    unfold fl_X11_takeOver_73 at h
    refine go_iload_n (n := 2) (by decide +kernel) l2 f2 ?_
    refine go_aload_n (n := 0) (by decide +kernel) l0 f0 ?_
    refine go_getf (x := 24) (ci := 12) (kf := 2) (fin := 1) (t := 2) (by decide +kernel) (by decide +kernel) (by decide +kernel) R f0 (fx_k (c := 12) R (by decide +kernel)) fun v_131 f_132 => ?_
    have f_133 := q_is_eq (b := 7) f_132 (fx_v R (by decide +kernel)).symm
    obtain ⟨x_135, hc_134, h⟩ := bp_s h
    refine go_callV (x := 127) (mi := 326) (n := 0) (ci := 0) (as := []) (rest := [v2]) (by decide +kernel) (by decide +kernel) rfl rfl (q_sum8 _ (Nat.le_of_ble_eq_true rfl)) R f_133 (fx_k (c := 0) R (by decide +kernel)) (om_Jx4a65c_size_8abf5 (Nat.le_trans (by decide) hd) R (fx_k (c := 0) R (by decide +kernel)) f_133 hc_134) (fun _ S_139 q_142 => ?_) (fun _ _ qq => kr_x qq)
    refine kr_z (by decide) q_142 fun v_137 f_138 R_140 E_141 => ?_
    refine go_icmp (c := .ge) (o := 43) (t := 124) (P := ¬ (y2 < x_135)) (by decide +kernel) (by decide +kernel) f2 f_138 (Int.not_lt.symm) (fun hp_143 => ?_) (fun hp_143 => ?_)
    · have h := it_f hp_143 h
      exact hk124 m E h R_140 l0 f0 l1 f1
    · have h := it_n hp_143 h
      refine go_aload_n (n := 0) (by decide +kernel) l0 f0 ?_
      refine go_getf (x := 24) (ci := 12) (kf := 2) (fin := 1) (t := 2) (by decide +kernel) (by decide +kernel) (by decide +kernel) R_140 f0 (fx_k (c := 12) R_140 (by decide +kernel)) fun v_144 f_145 => ?_
      have f_146 := q_is_eq (b := 7) f_145 (fx_v R_140 (by decide +kernel)).symm
      refine go_iload_n (n := 2) (by decide +kernel) l2 f2 ?_
      obtain ⟨x_148, hc_147, h⟩ := bp_s h
      refine go_callV (x := 305) (mi := 329) (n := 1) (ci := 0) (as := [v2]) (rest := []) (by decide +kernel) (by decide +kernel) rfl rfl (q_sum8 _ (Nat.le_of_ble_eq_true rfl)) R_140 f_146 (fx_k (c := 0) R_140 (by decide +kernel)) (om_Jx4a65c_get_915e3 (Nat.le_trans (by decide) hd) R_140 (fx_k (c := 0) R_140 (by decide +kernel)) f_146 f2 hc_147) (fun _ S_152 q_155 => ?_) (fun _ _ qq => kr_x qq)
      refine kr_z (by decide) q_155 fun v_150 f_151 R_153 E_154 => ?_
      obtain ⟨g_156, h⟩ := gd_s h
      refine go_cast (x := 181) (kd := 7) (a := 0) (b := 0) (by decide +kernel) (by decide +kernel) R_153 f_151 g_156 ?_
      refine go_astore_n (n := 3) (by decide +kernel) (by decide +kernel) f_151 fun L_157 l_158 kp_159 => ?_
      have l_160 := kp_159 0 _ l0 (by decide) (Or.inl (by decide))
      have l_161 := kp_159 1 _ l1 (by decide) (Or.inl (by decide))
      have l_162 := kp_159 2 _ l2 (by decide) (Or.inr (q_is_cat f2 (Or.inl rfl)))
      refine go_aload_n (n := 3) (by decide +kernel) l_158 f_151 ?_
      obtain ⟨x_166, e_167, h⟩ := lx_s h
      refine go_getf (x := 208) (ci := 7) (kf := 6) (fin := 0) (t := 0) (by decide +kernel) (by decide +kernel) (by decide +kernel) R_153 f_151 g_156 fun v_163 f_164 => ?_
      have f_165 := q_is_eq f_164 e_167
      refine go_if (c := .ne) (o := 18) (t := 118) (P := ¬ (x_166 = 0)) (by decide +kernel) (by decide +kernel) f_165 (Iff.rfl) (fun hp_168 => ?_) (fun hp_168 => ?_)
      · have h := it_f hp_168 h
        refine go_iinc (n := 2) (c := 1) (c' := 1) (by decide +kernel) (by decide +kernel) l_162 f2 (by decide) fun L_169 v_170 f_171 l_172 kp_173 => ?_
        obtain ⟨x_174, e_175, h⟩ := lx_s h
        have f_176 := q_is_eq f_171 e_175
        have l_177 := kp_173 0 _ l_160 (by decide) (Or.inl (by decide))
        have l_178 := kp_173 1 _ l_161 (by decide) (Or.inr (q_is_cat f1 (Or.inl rfl)))
        refine go_goto (o := (-48)) (t := 73) (by decide +kernel) (by decide +kernel) ?_
        exact ih m E h R_153 l_177 f0 l_178 f1 l_172 f_176
      · have h := it_n hp_168 h
        refine go_aload_n (n := 3) (by decide +kernel) l_158 f_151 ?_
        obtain ⟨x_182, e_183, h⟩ := lx_s h
        refine go_getf (x := 443) (ci := 7) (kf := 8) (fin := 0) (t := 0) (by decide +kernel) (by decide +kernel) (by decide +kernel) R_153 f_151 g_156 fun v_179 f_180 => ?_
        have f_181 := q_is_eq f_180 e_183
        refine go_if (c := .ne) (o := 11) (t := 118) (P := ¬ (x_182 = 0)) (by decide +kernel) (by decide +kernel) f_181 (Iff.rfl) (fun hp_184 => ?_) (fun hp_184 => ?_)
        · have h := it_f hp_184 h
          refine go_iinc (n := 2) (c := 1) (c' := 1) (by decide +kernel) (by decide +kernel) l_162 f2 (by decide) fun L_185 v_186 f_187 l_188 kp_189 => ?_
          obtain ⟨x_190, e_191, h⟩ := lx_s h
          have f_192 := q_is_eq f_187 e_191
          have l_193 := kp_189 0 _ l_160 (by decide) (Or.inl (by decide))
          have l_194 := kp_189 1 _ l_161 (by decide) (Or.inr (q_is_cat f1 (Or.inl rfl)))
          refine go_goto (o := (-48)) (t := 73) (by decide +kernel) (by decide +kernel) ?_
          exact ih m E h R_153 l_193 f0 l_194 f1 l_188 f_192
        · have h := it_n hp_184 h
          refine go_aload_n (n := 0) (by decide +kernel) l_160 f0 ?_
          refine go_aload_n (n := 3) (by decide +kernel) l_158 f_151 ?_
          refine go_iconst (n := 5) (z := 5) (by decide +kernel) (by decide) fun v_195 f_196 => ?_
          refine go_iconst (n := 0) (z := 0) (by decide +kernel) (by decide) fun v_197 f_198 => ?_
          refine go_iconst (n := 0) (z := 0) (by decide +kernel) (by decide) fun v_199 f_200 => ?_
          obtain ⟨x_202, m_203, hc_201, h⟩ := bd_s h
          refine go_callV (x := 458) (mi := 154) (n := 4) (ci := 12) (as := [v_150, v_195, v_197, v_199]) (rest := []) (by decide +kernel) (by decide +kernel) rfl rfl (q_sum8 _ (Nat.le_of_ble_eq_true rfl)) R_153 f0 (fx_k (c := 12) R_153 (by decide +kernel)) (om_X11_closeRun (Nat.le_trans (by decide) hd) R_153 f0 f_151 f_196 f_198 f_200 hc_201) (fun _ S_206 q_209 => ?_) (fun _ _ qq => kr_x qq)
          refine kr_v q_209 fun R_207 E_208 => ?_
          have E_212 := Ext.tr E E_208
          refine go_iinc (n := 2) (c := 1) (c' := 1) (by decide +kernel) (by decide +kernel) l_162 f2 (by decide) fun L_213 v_214 f_215 l_216 kp_217 => ?_
          obtain ⟨x_218, e_219, h⟩ := lx_s h
          have f_220 := q_is_eq f_215 e_219
          have l_221 := kp_217 0 _ l_160 (by decide) (Or.inl (by decide))
          have l_222 := kp_217 1 _ l_161 (by decide) (Or.inr (q_is_cat f1 (Or.inl rfl)))
          refine go_goto (o := (-48)) (t := 73) (by decide +kernel) (by decide +kernel) ?_
          exact ih m_203 E_212 h R_207 l_221 f0 l_222 f1 l_216 f_220
noncomputable def fl_X11_takeOver_126 (y1 : Int) : Nat → Int → MM → Option ((Int ⊕ Nat) × MM)
  | 0, _, _ => none
  | n + 1, y2, m => bp (fm_Jx4a65c_size_8abf5 7 m) fun x_248 =>
if y2 < x_248 then
bp (fm_Jx4a65c_get_915e3 7 y2 m) fun x_261 =>
gd (okc m x_261 7) <| lx (m x_261 6) fun x_279 =>
if x_279 = 0 then
bd (fm_X11_restoreWork x_261 m) fun x_293 m_294 =>
lx (w32 (y2 + 1)) fun x_309 =>
fl_X11_takeOver_126 y1 n x_309 m_294
else
lx (w32 (y2 + 1)) fun x_287 =>
fl_X11_takeOver_126 y1 n x_287 m
else
some (.inl y1, m)
set_option maxHeartbeats 4000000 in
theorem ol_X11_takeOver_126 {xs : List Int32} {d : Nat} {Q : QO → QS → Prop} {mb : MM} {y1 : Int} {rr : Int ⊕ Nat} {rm : MM}
  (hd : 150 ≤ d)
  (hQ : Ext mb rm → ∀ o S1, Rp S1 rm → q_oux 0 o rr → Q o S1) :
  ∀ (n : Nat) {m : MM} {S : QS} {L : QL} {y2 : Int} {v0 : Value} {v1 : Value} {v2 : Value} , Ext mb m → fl_X11_takeOver_126 y1 n y2 m = some (rr, rm) → Rp S m → q_lo L 0 = some v0 → q_is 2 v0 4 → q_lo L 1 = some v1 → q_is 0 v1 y1 → q_lo L 2 = some v2 → q_is 0 v2 y2 → Go xs d qM_X11_takeOver 126 L [] S Q := by
  intro n
  induction n with
  | zero => intro m S L y2 v0 v1 v2; intro E h R l0 f0 l1 f1 l2 f2; cases h
  | succ n ih0 =>
    intro m S L y2 v0 v1 v2; intro E h R l0 f0 l1 f1 l2 f2
    have ih : ∀ mq : MM, Ext mb mq → ∀ {z2 : Int} {Sq : QS} {Lq : QL} {u0 : Value} {u1 : Value} {u2 : Value}, fl_X11_takeOver_126 y1 n z2 mq = some (rr, rm) → Rp Sq mq → q_lo Lq 0 = some u0 → q_is 2 u0 4 → q_lo Lq 1 = some u1 → q_is 0 u1 y1 → q_lo Lq 2 = some u2 → q_is 0 u2 z2 → Go xs d qM_X11_takeOver 126 Lq [] Sq Q := fun mq b => by intros; exact ih0 b ‹_› ‹_› ‹_› ‹_› ‹_› ‹_› ‹_› ‹_›
    unfold fl_X11_takeOver_126 at h
    refine go_iload_n (n := 2) (by decide +kernel) l2 f2 ?_
    refine go_aload_n (n := 0) (by decide +kernel) l0 f0 ?_
    refine go_getf (x := 24) (ci := 12) (kf := 2) (fin := 1) (t := 2) (by decide +kernel) (by decide +kernel) (by decide +kernel) R f0 (fx_k (c := 12) R (by decide +kernel)) fun v_244 f_245 => ?_
    have f_246 := q_is_eq (b := 7) f_245 (fx_v R (by decide +kernel)).symm
    obtain ⟨x_248, hc_247, h⟩ := bp_s h
    refine go_callV (x := 127) (mi := 326) (n := 0) (ci := 0) (as := []) (rest := [v2]) (by decide +kernel) (by decide +kernel) rfl rfl (q_sum8 _ (Nat.le_of_ble_eq_true rfl)) R f_246 (fx_k (c := 0) R (by decide +kernel)) (om_Jx4a65c_size_8abf5 (Nat.le_trans (by decide) hd) R (fx_k (c := 0) R (by decide +kernel)) f_246 hc_247) (fun _ S_252 q_255 => ?_) (fun _ _ qq => kr_x qq)
    refine kr_z (by decide) q_255 fun v_250 f_251 R_253 E_254 => ?_
    refine go_icmp (c := .ge) (o := 33) (t := 167) (P := ¬ (y2 < x_248)) (by decide +kernel) (by decide +kernel) f2 f_251 (Int.not_lt.symm) (fun hp_256 => ?_) (fun hp_256 => ?_)
    · have h := it_f hp_256 h
      refine go_iload_n (n := 1) (by decide +kernel) l1 f1 ?_
      cases h
      exact go_iret (by decide +kernel) rfl (Or.inl rfl) f1 (hQ E _ _ R_253 (q_out_v (by decide) f1))
    · have h := it_n hp_256 h
      refine go_aload_n (n := 0) (by decide +kernel) l0 f0 ?_
      refine go_getf (x := 24) (ci := 12) (kf := 2) (fin := 1) (t := 2) (by decide +kernel) (by decide +kernel) (by decide +kernel) R_253 f0 (fx_k (c := 12) R_253 (by decide +kernel)) fun v_257 f_258 => ?_
      have f_259 := q_is_eq (b := 7) f_258 (fx_v R_253 (by decide +kernel)).symm
      refine go_iload_n (n := 2) (by decide +kernel) l2 f2 ?_
      obtain ⟨x_261, hc_260, h⟩ := bp_s h
      refine go_callV (x := 305) (mi := 329) (n := 1) (ci := 0) (as := [v2]) (rest := []) (by decide +kernel) (by decide +kernel) rfl rfl (q_sum8 _ (Nat.le_of_ble_eq_true rfl)) R_253 f_259 (fx_k (c := 0) R_253 (by decide +kernel)) (om_Jx4a65c_get_915e3 (Nat.le_trans (by decide) hd) R_253 (fx_k (c := 0) R_253 (by decide +kernel)) f_259 f2 hc_260) (fun _ S_265 q_268 => ?_) (fun _ _ qq => kr_x qq)
      refine kr_z (by decide) q_268 fun v_263 f_264 R_266 E_267 => ?_
      obtain ⟨g_269, h⟩ := gd_s h
      refine go_cast (x := 181) (kd := 7) (a := 0) (b := 0) (by decide +kernel) (by decide +kernel) R_266 f_264 g_269 ?_
      refine go_astore_n (n := 3) (by decide +kernel) (by decide +kernel) f_264 fun L_270 l_271 kp_272 => ?_
      have l_273 := kp_272 0 _ l0 (by decide) (Or.inl (by decide))
      have l_274 := kp_272 1 _ l1 (by decide) (Or.inl (by decide))
      have l_275 := kp_272 2 _ l2 (by decide) (Or.inr (q_is_cat f2 (Or.inl rfl)))
      refine go_aload_n (n := 3) (by decide +kernel) l_271 f_264 ?_
      obtain ⟨x_279, e_280, h⟩ := lx_s h
      refine go_getf (x := 208) (ci := 7) (kf := 6) (fin := 0) (t := 0) (by decide +kernel) (by decide +kernel) (by decide +kernel) R_266 f_264 g_269 fun v_276 f_277 => ?_
      have f_278 := q_is_eq f_277 e_280
      refine go_if (c := .ne) (o := 8) (t := 161) (P := ¬ (x_279 = 0)) (by decide +kernel) (by decide +kernel) f_278 (Iff.rfl) (fun hp_281 => ?_) (fun hp_281 => ?_)
      · have h := it_f hp_281 h
        refine go_iinc (n := 2) (c := 1) (c' := 1) (by decide +kernel) (by decide +kernel) l_275 f2 (by decide) fun L_282 v_283 f_284 l_285 kp_286 => ?_
        obtain ⟨x_287, e_288, h⟩ := lx_s h
        have f_289 := q_is_eq f_284 e_288
        have l_290 := kp_286 0 _ l_273 (by decide) (Or.inl (by decide))
        have l_291 := kp_286 1 _ l_274 (by decide) (Or.inr (q_is_cat f1 (Or.inl rfl)))
        refine go_goto (o := (-38)) (t := 126) (by decide +kernel) (by decide +kernel) ?_
        exact ih m E h R_266 l_290 f0 l_291 f1 l_285 f_289
      · have h := it_n hp_281 h
        refine go_aload_n (n := 0) (by decide +kernel) l_273 f0 ?_
        refine go_aload_n (n := 3) (by decide +kernel) l_271 f_264 ?_
        obtain ⟨x_293, m_294, hc_292, h⟩ := bd_s h
        refine go_callV (x := 434) (mi := 174) (n := 1) (ci := 12) (as := [v_263]) (rest := []) (by decide +kernel) (by decide +kernel) rfl rfl (q_sum8 _ (Nat.le_of_ble_eq_true rfl)) R_266 f0 (fx_k (c := 12) R_266 (by decide +kernel)) (om_X11_restoreWork (Nat.le_trans (by decide) hd) R_266 f0 f_264 hc_292) (fun _ S_297 q_300 => ?_) (fun _ _ qq => kr_x qq)
        refine kr_v q_300 fun R_298 E_299 => ?_
        have E_303 := Ext.tr E E_299
        refine go_iinc (n := 2) (c := 1) (c' := 1) (by decide +kernel) (by decide +kernel) l_275 f2 (by decide) fun L_304 v_305 f_306 l_307 kp_308 => ?_
        obtain ⟨x_309, e_310, h⟩ := lx_s h
        have f_311 := q_is_eq f_306 e_310
        have l_312 := kp_308 0 _ l_273 (by decide) (Or.inl (by decide))
        have l_313 := kp_308 1 _ l_274 (by decide) (Or.inr (q_is_cat f1 (Or.inl rfl)))
        refine go_goto (o := (-38)) (t := 126) (by decide +kernel) (by decide +kernel) ?_
        exact ih m_294 E_303 h R_298 l_312 f0 l_313 f1 l_307 f_311
noncomputable def fm_X11_takeOver (m0 : MM) : Option ((Int ⊕ Nat) × MM) := lx (m0 4 17) fun x_4 =>
if x_4 = 0 then
some (.inr 2, mthr m0)
else
up m0 4 17 0 fun m_9 =>
fl_X11_takeOver_27  (fun x_109 m_119 =>
fl_X11_takeOver_73 x_109 (fun m_232 =>
fl_X11_takeOver_126 x_109  BIG 0 m_232) BIG 0 m_119) BIG 0 0 m_9
set_option maxHeartbeats 4000000 in
theorem om_X11_takeOver {xs : List Int32} {d : Nat} {S : QS} {m0 : MM} {v0 : Value} {rr : Int ⊕ Nat} {rm : MM}
  (hd : 151 ≤ d) (R : Rp S m0) (f0 : q_is 2 v0 4)
  (h : fm_X11_takeOver m0 = some (rr, rm)) : Mt xs d 129 [v0] S (Cx 0 m0 rm rr) := by
  obtain ⟨d, rfl⟩ : ∃ e, d = e + 1 := ⟨d - 1, by omega⟩
  have hd : 150 ≤ d := Nat.le_of_succ_le_succ hd
  refine Mt.of (M := qM_X11_takeOver) rfl (by rw [sl_1 (q_is_cat f0 (Or.inr rfl)), sl_0]; decide) ?_
  rw [la_1 (q_is_cat f0 (Or.inr rfl)), la_0]
  obtain ⟨L, hL⟩ : ∃ L : QL, L = [(0, v0)] := ⟨_, rfl⟩
  rw [← hL]
  have l0 : q_lo L 0 = some v0 := by rw [hL]; rfl
  have hQ : Ext m0 rm → ∀ o S1, Rp S1 rm → q_oux 0 o rr → (Cx 0 m0 rm rr) o S1 := fun a o S1 b e => ⟨b, a, e⟩
  unfold fm_X11_takeOver at h
  refine go_aload_n (n := 0) (by decide +kernel) l0 f0 ?_
  obtain ⟨x_4, e_5, h⟩ := lx_s h
  refine go_getf (x := 80) (ci := 12) (kf := 17) (fin := 0) (t := 0) (by decide +kernel) (by decide +kernel) (by decide +kernel) R f0 (fx_k (c := 12) R (by decide +kernel)) fun v_1 f_2 => ?_
  have f_3 := q_is_eq f_2 e_5
  refine go_if (c := .ne) (o := 14) (t := 18) (P := ¬ (x_4 = 0)) (by decide +kernel) (by decide +kernel) f_3 (Iff.rfl) (fun hp_6 => ?_) (fun hp_6 => ?_)
  · have h := it_f hp_6 h
    refine go_aload_n (n := 0) (by decide +kernel) l0 f0 ?_
    refine go_iconst (n := 0) (z := 0) (by decide +kernel) (by decide) fun v_7 f_8 => ?_
    obtain ⟨m_9, e_10, h⟩ := up_s h
    refine go_putf (x := 80) (ci := 12) (kf := 17) (fin := 0) (zt := 1) (by decide +kernel) (by decide +kernel) (by decide) (by decide +kernel) (by decide) (Or.inl rfl) R f0 f_8 (fun _ => by decide) (fx_k (c := 12) R (by decide +kernel)) e_10 (fx_f (j := 17) R.2 (fx_k (c := 12) R (by decide +kernel)) (by decide +kernel)) fun S_11 R_12 E_13 => ?_
    have E_15 := E_13
    refine go_iconst (n := 0) (z := 0) (by decide +kernel) (by decide) fun v_16 f_17 => ?_
    refine go_istore_n (n := 1) (by decide +kernel) (by decide +kernel) f_17 fun L_18 l_19 kp_20 => ?_
    have l_21 := kp_20 0 _ l0 (by decide) (Or.inr (q_is_cat f0 (Or.inr rfl)))
    refine go_iconst (n := 0) (z := 0) (by decide +kernel) (by decide) fun v_22 f_23 => ?_
    refine go_istore_n (n := 2) (by decide +kernel) (by decide +kernel) f_23 fun L_24 l_25 kp_26 => ?_
    have l_27 := kp_26 0 _ l_21 (by decide) (Or.inl (by decide))
    have l_28 := kp_26 1 _ l_19 (by decide) (Or.inr (q_is_cat f_17 (Or.inl rfl)))
    refine ol_X11_takeOver_27 hd  ?_ (fun b => hQ (Ext.tr E_15 b)) BIG (Ext.rf _) h R_12 l_27 f0 l_28 f_17 l_25 f_23
    intro m_119 E_120
    intro x_109 S_116 L_117 v_110 v_111
    intro h R_118 l_112 f_114 l_113 f_115
    have E_121 := Ext.tr E_15 E_120
    refine go_iconst (n := 0) (z := 0) (by decide +kernel) (by decide) fun v_124 f_125 => ?_
    refine go_istore_n (n := 2) (by decide +kernel) (by decide +kernel) f_125 fun L_126 l_127 kp_128 => ?_
    have l_129 := kp_128 0 _ l_112 (by decide) (Or.inl (by decide))
    have l_130 := kp_128 1 _ l_113 (by decide) (Or.inr (q_is_cat f_115 (Or.inl rfl)))
    refine ol_X11_takeOver_73 hd  ?_ (fun b => hQ (Ext.tr E_121 b)) BIG (Ext.rf _) h R_118 l_129 f_114 l_130 f_115 l_127 f_125
    intro m_232 E_233
    intro S_229 L_230 v_223 v_224
    intro h R_231 l_225 f_227 l_226 f_228
    have E_234 := Ext.tr E_121 E_233
    refine go_iconst (n := 0) (z := 0) (by decide +kernel) (by decide) fun v_237 f_238 => ?_
    refine go_istore_n (n := 2) (by decide +kernel) (by decide +kernel) f_238 fun L_239 l_240 kp_241 => ?_
    have l_242 := kp_241 0 _ l_225 (by decide) (Or.inl (by decide))
    have l_243 := kp_241 1 _ l_226 (by decide) (Or.inr (q_is_cat f_228 (Or.inl rfl)))
    refine ol_X11_takeOver_126 hd   (fun b => hQ (Ext.tr E_234 b)) BIG (Ext.rf _) h R_231 l_242 f_227 l_243 f_228 l_240 f_238
  · have h := it_n hp_6 h
    cases h
    exact go_thr (x := 111) (e := 2) (ic := 115) (b := 0) (by decide +kernel) (by decide +kernel) (by decide +kernel) R rfl fun Sq Rq Eq => hQ Eq _ _ Rq rfl
noncomputable def fl_X11_join_53 (y2 y3 : Int) (k110 : Int → MM → Option ((Int ⊕ Nat) × MM)) : Nat → Int → Int → MM → Option ((Int ⊕ Nat) × MM)
  | 0, _, _, _ => none
  | n + 1, y1, y4, m => gd (okc m y3 7) <| lx (m y3 19) fun x_74 =>
gd (okc m x_74 6) <| lx (m x_74 2) fun x_80 =>
if y4 < x_80 then
lx (m y3 6) fun x_86 =>
if x_86 = 0 then
bp (fm_X5_at x_74 y4 m) fun x_93 =>
bd (fm_X11_arrive y3 4 (w32 (Int.tdiv x_93 1000)) (Int.tmod x_93 1000) m) fun x_120 m_121 =>
lx (w32 (y1 + 1)) fun x_136 =>
lx (w32 (y4 + 1)) fun x_148 =>
fl_X11_join_53 y2 y3 k110 n x_136 x_148 m_121
else
k110 y1 m
else
k110 y1 m
set_option maxHeartbeats 4000000 in
theorem ol_X11_join_53 {xs : List Int32} {d : Nat} {Q : QO → QS → Prop} {mb : MM} {y2 y3 : Int} {k110 : Int → MM → Option ((Int ⊕ Nat) × MM)} {rr : Int ⊕ Nat} {rm : MM}
  (hd : 3 ≤ d)
  (hk110 : ∀ mq : MM, Ext mb mq → ∀ {z1 : Int} {Sq : QS} {Lq : QL} {u0 : Value} {u1 : Value} {u2 : Value} {u3 : Value}, k110 z1 mq = some (rr, rm) → Rp Sq mq → q_lo Lq 0 = some u0 → q_is 2 u0 4 → q_lo Lq 1 = some u1 → q_is 0 u1 z1 → q_lo Lq 2 = some u2 → q_is 0 u2 y2 → q_lo Lq 3 = some u3 → q_is 2 u3 y3 → Go xs d qM_X11_join 110 Lq [] Sq Q)
  (hQ : Ext mb rm → ∀ o S1, Rp S1 rm → q_oux 0 o rr → Q o S1) :
  ∀ (n : Nat) {m : MM} {S : QS} {L : QL} {y1 y4 : Int} {v0 : Value} {v1 : Value} {v2 : Value} {v3 : Value} {v4 : Value} , Ext mb m → fl_X11_join_53 y2 y3 k110 n y1 y4 m = some (rr, rm) → Rp S m → q_lo L 0 = some v0 → q_is 2 v0 4 → q_lo L 1 = some v1 → q_is 0 v1 y1 → q_lo L 2 = some v2 → q_is 0 v2 y2 → q_lo L 3 = some v3 → q_is 2 v3 y3 → q_lo L 4 = some v4 → q_is 0 v4 y4 → Go xs d qM_X11_join 53 L [] S Q := by
  intro n
  induction n with
  | zero => intro m S L y1 y4 v0 v1 v2 v3 v4; intro E h R l0 f0 l1 f1 l2 f2 l3 f3 l4 f4; cases h
  | succ n ih0 =>
    intro m S L y1 y4 v0 v1 v2 v3 v4; intro E h R l0 f0 l1 f1 l2 f2 l3 f3 l4 f4
    have ih : ∀ mq : MM, Ext mb mq → ∀ {z1 : Int} {z4 : Int} {Sq : QS} {Lq : QL} {u0 : Value} {u1 : Value} {u2 : Value} {u3 : Value} {u4 : Value}, fl_X11_join_53 y2 y3 k110 n z1 z4 mq = some (rr, rm) → Rp Sq mq → q_lo Lq 0 = some u0 → q_is 2 u0 4 → q_lo Lq 1 = some u1 → q_is 0 u1 z1 → q_lo Lq 2 = some u2 → q_is 0 u2 y2 → q_lo Lq 3 = some u3 → q_is 2 u3 y3 → q_lo Lq 4 = some u4 → q_is 0 u4 z4 → Go xs d qM_X11_join 53 Lq [] Sq Q := fun mq b => by intros; exact ih0 b ‹_› ‹_› ‹_› ‹_› ‹_› ‹_› ‹_› ‹_› ‹_› ‹_› ‹_› ‹_›
    unfold fl_X11_join_53 at h
    refine go_iload (n := 4) (by decide +kernel) l4 f4 ?_
    refine go_aload_n (n := 3) (by decide +kernel) l3 f3 ?_
    obtain ⟨g_72, h⟩ := gd_s h
    obtain ⟨x_74, e_75, h⟩ := lx_s h
    refine go_getf (x := 463) (ci := 7) (kf := 19) (fin := 2) (t := 2) (by decide +kernel) (by decide +kernel) (by decide +kernel) R f3 g_72 fun v_70 f_71 => ?_
    have f_73 := q_is_eq f_71 e_75
    obtain ⟨g_78, h⟩ := gd_s h
    obtain ⟨x_80, e_81, h⟩ := lx_s h
    refine go_getf (x := 108) (ci := 6) (kf := 2) (fin := 0) (t := 0) (by decide +kernel) (by decide +kernel) (by decide +kernel) R f_73 g_78 fun v_76 f_77 => ?_
    have f_79 := q_is_eq f_77 e_81
    refine go_icmp (c := .ge) (o := 48) (t := 110) (P := ¬ (y4 < x_80)) (by decide +kernel) (by decide +kernel) f4 f_79 (Int.not_lt.symm) (fun hp_82 => ?_) (fun hp_82 => ?_)
    · have h := it_f hp_82 h
      exact hk110 m E h R l0 f0 l1 f1 l2 f2 l3 f3
    · have h := it_n hp_82 h
      refine go_aload_n (n := 3) (by decide +kernel) l3 f3 ?_
      obtain ⟨x_86, e_87, h⟩ := lx_s h
      refine go_getf (x := 208) (ci := 7) (kf := 6) (fin := 0) (t := 0) (by decide +kernel) (by decide +kernel) (by decide +kernel) R f3 g_72 fun v_83 f_84 => ?_
      have f_85 := q_is_eq f_84 e_87
      refine go_if (c := .ne) (o := 41) (t := 110) (P := ¬ (x_86 = 0)) (by decide +kernel) (by decide +kernel) f_85 (Iff.rfl) (fun hp_88 => ?_) (fun hp_88 => ?_)
      · have h := it_f hp_88 h
        exact hk110 m E h R l0 f0 l1 f1 l2 f2 l3 f3
      · have h := it_n hp_88 h
        refine go_aload_n (n := 3) (by decide +kernel) l3 f3 ?_
        refine go_getf (x := 463) (ci := 7) (kf := 19) (fin := 2) (t := 2) (by decide +kernel) (by decide +kernel) (by decide +kernel) R f3 g_72 fun v_89 f_90 => ?_
        have f_91 := q_is_eq f_90 e_75
        refine go_iload (n := 4) (by decide +kernel) l4 f4 ?_
        obtain ⟨x_93, hc_92, h⟩ := bp_s h
        refine go_callV (x := 466) (mi := 59) (n := 1) (ci := 6) (as := [v4]) (rest := []) (by decide +kernel) (by decide +kernel) rfl rfl (q_sum8 _ (Nat.le_of_ble_eq_true rfl)) R f_91 g_78 (om_X5_at (Nat.le_trans (by decide) hd) R g_78 f_91 f4 hc_92) (fun _ S_97 q_100 => ?_) (fun _ _ qq => kr_x qq)
        refine kr_z (by decide) q_100 fun v_95 f_96 R_98 E_99 => ?_
        refine go_istore (n := 5) (by decide +kernel) (by decide +kernel) f_96 fun L_101 l_102 kp_103 => ?_
        have l_104 := kp_103 0 _ l0 (by decide) (Or.inl (by decide))
        have l_105 := kp_103 1 _ l1 (by decide) (Or.inl (by decide))
        have l_106 := kp_103 2 _ l2 (by decide) (Or.inl (by decide))
        have l_107 := kp_103 3 _ l3 (by decide) (Or.inl (by decide))
        have l_108 := kp_103 4 _ l4 (by decide) (Or.inr (q_is_cat f4 (Or.inl rfl)))
        refine go_aload_n (n := 0) (by decide +kernel) l_104 f0 ?_
        refine go_aload_n (n := 3) (by decide +kernel) l_107 f3 ?_
        refine go_iconst (n := 4) (z := 4) (by decide +kernel) (by decide) fun v_109 f_110 => ?_
        refine go_iload (n := 5) (by decide +kernel) l_102 f_96 ?_
        refine go_sipush (n := 1000) (z := 1000) (by decide +kernel) (by decide) fun v_111 f_112 => ?_
        refine go_idiv (by decide +kernel) f_96 f_112 (by decide) fun v_113 f_114 => ?_
        refine go_iload (n := 5) (by decide +kernel) l_102 f_96 ?_
        refine go_sipush (n := 1000) (z := 1000) (by decide +kernel) (by decide) fun v_115 f_116 => ?_
        refine go_irem (by decide +kernel) f_96 f_116 (by decide) fun v_117 f_118 => ?_
        obtain ⟨x_120, m_121, hc_119, h⟩ := bd_s h
        refine go_callV (x := 204) (mi := 152) (n := 4) (ci := 12) (as := [v3, v_109, v_113, v_117]) (rest := []) (by decide +kernel) (by decide +kernel) rfl rfl (q_sum8 _ (Nat.le_of_ble_eq_true rfl)) R_98 f0 (fx_k (c := 12) R_98 (by decide +kernel)) (om_X11_arrive (Nat.le_trans (by decide) hd) R_98 f0 f3 f_110 f_114 f_118 hc_119) (fun _ S_124 q_127 => ?_) (fun _ _ qq => kr_x qq)
        refine kr_v q_127 fun R_125 E_126 => ?_
        have E_130 := Ext.tr E E_126
        refine go_iinc (n := 1) (c := 1) (c' := 1) (by decide +kernel) (by decide +kernel) l_105 f1 (by decide) fun L_131 v_132 f_133 l_134 kp_135 => ?_
        obtain ⟨x_136, e_137, h⟩ := lx_s h
        have f_138 := q_is_eq f_133 e_137
        have l_139 := kp_135 0 _ l_104 (by decide) (Or.inr (q_is_cat f0 (Or.inr rfl)))
        have l_140 := kp_135 2 _ l_106 (by decide) (Or.inl (by decide))
        have l_141 := kp_135 3 _ l_107 (by decide) (Or.inl (by decide))
        have l_142 := kp_135 4 _ l_108 (by decide) (Or.inl (by decide))
        refine go_iinc (n := 4) (c := 1) (c' := 1) (by decide +kernel) (by decide +kernel) l_142 f4 (by decide) fun L_143 v_144 f_145 l_146 kp_147 => ?_
        obtain ⟨x_148, e_149, h⟩ := lx_s h
        have f_150 := q_is_eq f_145 e_149
        have l_151 := kp_147 0 _ l_139 (by decide) (Or.inl (by decide))
        have l_152 := kp_147 2 _ l_140 (by decide) (Or.inl (by decide))
        have l_153 := kp_147 3 _ l_141 (by decide) (Or.inr (q_is_cat f3 (Or.inr rfl)))
        have l_154 := kp_147 1 _ l_134 (by decide) (Or.inl (by decide))
        refine go_goto (o := (-54)) (t := 53) (by decide +kernel) (by decide +kernel) ?_
        exact ih m_121 E_130 h R_125 l_151 f0 l_154 f_138 l_152 f2 l_153 f3 l_146 f_150
noncomputable def fl_X11_join_27 : Nat → Int → Int → MM → Option ((Int ⊕ Nat) × MM)
  | 0, _, _, _ => none
  | n + 1, y1, y2, m => bp (fm_Jx4a65c_size_8abf5 7 m) fun x_33 =>
if y2 < x_33 then
bp (fm_Jx4a65c_get_915e3 7 y2 m) fun x_46 =>
gd (okc m x_46 7) <| fl_X11_join_53 y2 x_46 (fun x_155 m_171 =>
lx (m_171 x_46 19) fun x_180 =>
gd (okc m_171 x_180 6) <| bd (fm_X5_cut x_180 0 m_171) fun x_186 m_187 =>
lx (w32 (y2 + 1)) fun x_202 =>
fl_X11_join_27 n x_155 x_202 m_187) BIG y1 0 m
else
some (.inl y1, m)
set_option maxHeartbeats 4000000 in
theorem ol_X11_join_27 {xs : List Int32} {d : Nat} {Q : QO → QS → Prop} {mb : MM} {rr : Int ⊕ Nat} {rm : MM}
  (hd : 3 ≤ d)
  (hQ : Ext mb rm → ∀ o S1, Rp S1 rm → q_oux 0 o rr → Q o S1) :
  ∀ (n : Nat) {m : MM} {S : QS} {L : QL} {y1 y2 : Int} {v0 : Value} {v1 : Value} {v2 : Value} , Ext mb m → fl_X11_join_27 n y1 y2 m = some (rr, rm) → Rp S m → q_lo L 0 = some v0 → q_is 2 v0 4 → q_lo L 1 = some v1 → q_is 0 v1 y1 → q_lo L 2 = some v2 → q_is 0 v2 y2 → Go xs d qM_X11_join 27 L [] S Q := by
  intro n
  induction n with
  | zero => intro m S L y1 y2 v0 v1 v2; intro E h R l0 f0 l1 f1 l2 f2; cases h
  | succ n ih0 =>
    intro m S L y1 y2 v0 v1 v2; intro E h R l0 f0 l1 f1 l2 f2
    have ih : ∀ mq : MM, Ext mb mq → ∀ {z1 : Int} {z2 : Int} {Sq : QS} {Lq : QL} {u0 : Value} {u1 : Value} {u2 : Value}, fl_X11_join_27 n z1 z2 mq = some (rr, rm) → Rp Sq mq → q_lo Lq 0 = some u0 → q_is 2 u0 4 → q_lo Lq 1 = some u1 → q_is 0 u1 z1 → q_lo Lq 2 = some u2 → q_is 0 u2 z2 → Go xs d qM_X11_join 27 Lq [] Sq Q := fun mq b => by intros; exact ih0 b ‹_› ‹_› ‹_› ‹_› ‹_› ‹_› ‹_› ‹_›
    unfold fl_X11_join_27 at h
    refine go_iload_n (n := 2) (by decide +kernel) l2 f2 ?_
    refine go_aload_n (n := 0) (by decide +kernel) l0 f0 ?_
    refine go_getf (x := 24) (ci := 12) (kf := 2) (fin := 1) (t := 2) (by decide +kernel) (by decide +kernel) (by decide +kernel) R f0 (fx_k (c := 12) R (by decide +kernel)) fun v_29 f_30 => ?_
    have f_31 := q_is_eq (b := 7) f_30 (fx_v R (by decide +kernel)).symm
    obtain ⟨x_33, hc_32, h⟩ := bp_s h
    refine go_callV (x := 127) (mi := 326) (n := 0) (ci := 0) (as := []) (rest := [v2]) (by decide +kernel) (by decide +kernel) rfl rfl (q_sum8 _ (Nat.le_of_ble_eq_true rfl)) R f_31 (fx_k (c := 0) R (by decide +kernel)) (om_Jx4a65c_size_8abf5 (Nat.le_trans (by decide) hd) R (fx_k (c := 0) R (by decide +kernel)) f_31 hc_32) (fun _ S_37 q_40 => ?_) (fun _ _ qq => kr_x qq)
    refine kr_z (by decide) q_40 fun v_35 f_36 R_38 E_39 => ?_
    refine go_icmp (c := .ge) (o := 89) (t := 124) (P := ¬ (y2 < x_33)) (by decide +kernel) (by decide +kernel) f2 f_36 (Int.not_lt.symm) (fun hp_41 => ?_) (fun hp_41 => ?_)
    · have h := it_f hp_41 h
      refine go_iload_n (n := 1) (by decide +kernel) l1 f1 ?_
      cases h
      exact go_iret (by decide +kernel) rfl (Or.inl rfl) f1 (hQ E _ _ R_38 (q_out_v (by decide) f1))
    · have h := it_n hp_41 h
      refine go_aload_n (n := 0) (by decide +kernel) l0 f0 ?_
      refine go_getf (x := 24) (ci := 12) (kf := 2) (fin := 1) (t := 2) (by decide +kernel) (by decide +kernel) (by decide +kernel) R_38 f0 (fx_k (c := 12) R_38 (by decide +kernel)) fun v_42 f_43 => ?_
      have f_44 := q_is_eq (b := 7) f_43 (fx_v R_38 (by decide +kernel)).symm
      refine go_iload_n (n := 2) (by decide +kernel) l2 f2 ?_
      obtain ⟨x_46, hc_45, h⟩ := bp_s h
      refine go_callV (x := 305) (mi := 329) (n := 1) (ci := 0) (as := [v2]) (rest := []) (by decide +kernel) (by decide +kernel) rfl rfl (q_sum8 _ (Nat.le_of_ble_eq_true rfl)) R_38 f_44 (fx_k (c := 0) R_38 (by decide +kernel)) (om_Jx4a65c_get_915e3 (Nat.le_trans (by decide) hd) R_38 (fx_k (c := 0) R_38 (by decide +kernel)) f_44 f2 hc_45) (fun _ S_50 q_53 => ?_) (fun _ _ qq => kr_x qq)
      refine kr_z (by decide) q_53 fun v_48 f_49 R_51 E_52 => ?_
      obtain ⟨g_54, h⟩ := gd_s h
      refine go_cast (x := 181) (kd := 7) (a := 0) (b := 0) (by decide +kernel) (by decide +kernel) R_51 f_49 g_54 ?_
      refine go_astore_n (n := 3) (by decide +kernel) (by decide +kernel) f_49 fun L_55 l_56 kp_57 => ?_
      have l_58 := kp_57 0 _ l0 (by decide) (Or.inl (by decide))
      have l_59 := kp_57 1 _ l1 (by decide) (Or.inl (by decide))
      have l_60 := kp_57 2 _ l2 (by decide) (Or.inr (q_is_cat f2 (Or.inl rfl)))
      refine go_iconst (n := 0) (z := 0) (by decide +kernel) (by decide) fun v_61 f_62 => ?_
      refine go_istore (n := 4) (by decide +kernel) (by decide +kernel) f_62 fun L_63 l_64 kp_65 => ?_
      have l_66 := kp_65 0 _ l_58 (by decide) (Or.inl (by decide))
      have l_67 := kp_65 1 _ l_59 (by decide) (Or.inl (by decide))
      have l_68 := kp_65 2 _ l_60 (by decide) (Or.inl (by decide))
      have l_69 := kp_65 3 _ l_56 (by decide) (Or.inr (q_is_cat f_49 (Or.inr rfl)))
      refine ol_X11_join_53 hd  ?_ (fun b => hQ (Ext.tr E b)) BIG (Ext.rf _) h R_51 l_66 f0 l_67 f1 l_68 f2 l_69 f_49 l_64 f_62
      intro m_171 E_172
      intro x_155 S_168 L_169 v_156 v_157 v_158 v_159
      intro h R_170 l_160 f_164 l_161 f_165 l_162 f_166 l_163 f_167
      have E_173 := Ext.tr E E_172
      refine go_aload_n (n := 3) (by decide +kernel) l_163 f_167 ?_
      have g_178 := Ext.ok E_172 g_54
      obtain ⟨x_180, e_181, h⟩ := lx_s h
      refine go_getf (x := 463) (ci := 7) (kf := 19) (fin := 2) (t := 2) (by decide +kernel) (by decide +kernel) (by decide +kernel) R_170 f_167 g_178 fun v_176 f_177 => ?_
      have f_179 := q_is_eq f_177 e_181
      refine go_iconst (n := 0) (z := 0) (by decide +kernel) (by decide) fun v_182 f_183 => ?_
      obtain ⟨g_184, h⟩ := gd_s h
      obtain ⟨x_186, m_187, hc_185, h⟩ := bd_s h
      refine go_callV (x := 469) (mi := 63) (n := 1) (ci := 6) (as := [v_182]) (rest := []) (by decide +kernel) (by decide +kernel) rfl rfl (q_sum8 _ (Nat.le_of_ble_eq_true rfl)) R_170 f_179 g_184 (om_X5_cut (Nat.le_trans (by decide) hd) R_170 g_184 f_179 f_183 hc_185) (fun _ S_190 q_193 => ?_) (fun _ _ qq => kr_x qq)
      refine kr_v q_193 fun R_191 E_192 => ?_
      have E_196 := Ext.tr E_173 E_192
      refine go_iinc (n := 2) (c := 1) (c' := 1) (by decide +kernel) (by decide +kernel) l_162 f_166 (by decide) fun L_197 v_198 f_199 l_200 kp_201 => ?_
      obtain ⟨x_202, e_203, h⟩ := lx_s h
      have f_204 := q_is_eq f_199 e_203
      have l_205 := kp_201 0 _ l_160 (by decide) (Or.inl (by decide))
      have l_206 := kp_201 1 _ l_161 (by decide) (Or.inr (q_is_cat f_165 (Or.inl rfl)))
      refine go_goto (o := (-94)) (t := 27) (by decide +kernel) (by decide +kernel) ?_
      exact ih m_187 E_196 h R_191 l_205 f_164 l_206 f_165 l_200 f_204
noncomputable def fm_X11_join (m0 : MM) : Option ((Int ⊕ Nat) × MM) := lx (m0 4 17) fun x_4 =>
if x_4 = 0 then
up m0 4 17 1 fun m_9 =>
fl_X11_join_27   BIG 0 0 m_9
else
some (.inr 2, mthr m0)
set_option maxHeartbeats 4000000 in
theorem om_X11_join {xs : List Int32} {d : Nat} {S : QS} {m0 : MM} {v0 : Value} {rr : Int ⊕ Nat} {rm : MM}
  (hd : 4 ≤ d) (R : Rp S m0) (f0 : q_is 2 v0 4)
  (h : fm_X11_join m0 = some (rr, rm)) : Mt xs d 130 [v0] S (Cx 0 m0 rm rr) := by
  obtain ⟨d, rfl⟩ : ∃ e, d = e + 1 := ⟨d - 1, by omega⟩
  have hd : 3 ≤ d := Nat.le_of_succ_le_succ hd
  refine Mt.of (M := qM_X11_join) rfl (by rw [sl_1 (q_is_cat f0 (Or.inr rfl)), sl_0]; decide) ?_
  rw [la_1 (q_is_cat f0 (Or.inr rfl)), la_0]
  obtain ⟨L, hL⟩ : ∃ L : QL, L = [(0, v0)] := ⟨_, rfl⟩
  rw [← hL]
  have l0 : q_lo L 0 = some v0 := by rw [hL]; rfl
  have hQ : Ext m0 rm → ∀ o S1, Rp S1 rm → q_oux 0 o rr → (Cx 0 m0 rm rr) o S1 := fun a o S1 b e => ⟨b, a, e⟩
  unfold fm_X11_join at h
  refine go_aload_n (n := 0) (by decide +kernel) l0 f0 ?_
  obtain ⟨x_4, e_5, h⟩ := lx_s h
  refine go_getf (x := 80) (ci := 12) (kf := 17) (fin := 0) (t := 0) (by decide +kernel) (by decide +kernel) (by decide +kernel) R f0 (fx_k (c := 12) R (by decide +kernel)) fun v_1 f_2 => ?_
  have f_3 := q_is_eq f_2 e_5
  refine go_if (c := .eq) (o := 14) (t := 18) (P := x_4 = 0) (by decide +kernel) (by decide +kernel) f_3 (Iff.rfl) (fun hp_6 => ?_) (fun hp_6 => ?_)
  · have h := it_t hp_6 h
    refine go_aload_n (n := 0) (by decide +kernel) l0 f0 ?_
    refine go_iconst (n := 1) (z := 1) (by decide +kernel) (by decide) fun v_7 f_8 => ?_
    obtain ⟨m_9, e_10, h⟩ := up_s h
    refine go_putf (x := 80) (ci := 12) (kf := 17) (fin := 0) (zt := 1) (by decide +kernel) (by decide +kernel) (by decide) (by decide +kernel) (by decide) (Or.inl rfl) R f0 f_8 (fun _ => by decide) (fx_k (c := 12) R (by decide +kernel)) e_10 (fx_f (j := 17) R.2 (fx_k (c := 12) R (by decide +kernel)) (by decide +kernel)) fun S_11 R_12 E_13 => ?_
    have E_15 := E_13
    refine go_iconst (n := 0) (z := 0) (by decide +kernel) (by decide) fun v_16 f_17 => ?_
    refine go_istore_n (n := 1) (by decide +kernel) (by decide +kernel) f_17 fun L_18 l_19 kp_20 => ?_
    have l_21 := kp_20 0 _ l0 (by decide) (Or.inr (q_is_cat f0 (Or.inr rfl)))
    refine go_iconst (n := 0) (z := 0) (by decide +kernel) (by decide) fun v_22 f_23 => ?_
    refine go_istore_n (n := 2) (by decide +kernel) (by decide +kernel) f_23 fun L_24 l_25 kp_26 => ?_
    have l_27 := kp_26 0 _ l_21 (by decide) (Or.inl (by decide))
    have l_28 := kp_26 1 _ l_19 (by decide) (Or.inr (q_is_cat f_17 (Or.inl rfl)))
    refine ol_X11_join_27 hd   (fun b => hQ (Ext.tr E_15 b)) BIG (Ext.rf _) h R_12 l_27 f0 l_28 f_17 l_25 f_23
  · have h := it_f hp_6 h
    cases h
    exact go_thr (x := 111) (e := 2) (ic := 115) (b := 0) (by decide +kernel) (by decide +kernel) (by decide +kernel) R rfl fun Sq Rq Eq => hQ Eq _ _ Rq rfl
end DF22
