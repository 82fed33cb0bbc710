/-! Methods as functions (written by wip/whole/dec.py), 22: X11_copy, X11_loseEvents, X11_takeOver, X11_join. -/
section DF22
noncomputable def fm_X11_copy (p1 p2 : Int) (m0 : MM) : Option ((Int ⊕ Nat) × MM) := bx (fm_X11_runAt p1 m0) (fun q_10 m_3 => some (.inr q_10, m_3)) fun x_2 m_3 =>
if p2 < 1 then
some (.inr 1, mthr m_3)
else
if 100 < p2 then
some (.inr 1, mthr m_3)
else
gd (okc m_3 x_2 7) <| lx (m_3 x_2 16) fun x_27 =>
gd (okc m_3 x_27 3) <| lx (m_3 x_27 1) fun x_33 =>
lx (m_3 x_2 8) fun x_38 =>
bp (fm_J9_min_7cf53 x_33 (w32 (x_38 + p2)) m_3) fun x_43 =>
up m_3 x_2 8 x_43 fun m_51 =>
lx (m_51 x_2 8) fun x_61 =>
some (.inl x_61, m_51)
set_option maxHeartbeats 4000000 in
theorem om_X11_copy {xs : List Int32} {d : Nat} {S : QS} {m0 : MM} {p1 p2 : Int} {v0 : Value} {v1 : Value} {v2 : Value} {rr : Int ⊕ Nat} {rm : MM}
  (hd : 5 ≤ d) (R : Rp S m0) (f0 : q_is 2 v0 4) (f1 : q_is 0 v1 p1) (f2 : q_is 0 v2 p2)
  (h : fm_X11_copy p1 p2 m0 = some (rr, rm)) : Mt xs d 128 [v0, v1, v2] S (Cx 0 m0 rm rr) := by
  obtain ⟨d, rfl⟩ : ∃ e, d = e + 1 := ⟨d - 1, by omega⟩
  have hd : 4 ≤ d := Nat.le_of_succ_le_succ hd
  refine Mt.of (M := qM_X11_copy) rfl (by rw [sl_1 (q_is_cat f0 (Or.inr rfl)), sl_1 (q_is_cat f1 (Or.inl rfl)), sl_1 (q_is_cat f2 (Or.inl rfl)), sl_0]; decide) ?_
  rw [la_1 (q_is_cat f0 (Or.inr rfl)), la_1 (q_is_cat f1 (Or.inl rfl)), la_1 (q_is_cat f2 (Or.inl rfl)), la_0]
  obtain ⟨L, hL⟩ : ∃ L : QL, L = [(0, v0), (0 + 1, v1), (0 + 1 + 1, v2)] := ⟨_, rfl⟩
  rw [← hL]
  have l0 : q_lo L 0 = some v0 := by rw [hL]; rfl
  have l1 : q_lo L 1 = some v1 := by rw [hL]; rfl
  have l2 : q_lo L 2 = some v2 := by rw [hL]; rfl
  have hQ : Ext m0 rm → ∀ o S1, Rp S1 rm → q_oux 0 o rr → (Cx 0 m0 rm rr) o S1 := fun a o S1 b e => ⟨b, a, e⟩
  unfold fm_X11_copy at h
  refine go_aload_n (n := 0) (by decide +kernel) l0 f0 ?_
  refine go_iload_n (n := 1) (by decide +kernel) l1 f1 ?_
  obtain ⟨rr5, m_3, hc_1, h⟩ := bx_s h
  rcases h with ⟨q_10, rfl, h⟩ | ⟨x_2, rfl, h⟩
  · cases h
    exact go_callV (x := 185) (mi := 139) (n := 1) (ci := 12) (as := [v1]) (rest := []) (by decide +kernel) (by decide +kernel) rfl rfl (q_sum8 _ (Nat.le_of_ble_eq_true rfl)) R f0 (fx_k (c := 12) R (by decide +kernel)) (om_X11_runAt (Nat.le_trans (by decide) hd) R f0 f1 hc_1) (fun _ _ qq => kx_lx qq) (fun _ _ qq => by
      obtain ⟨rfl, Rq, Eq⟩ := kx_e qq
      exact Or.inl ⟨rfl, hQ Eq _ _ Rq rfl⟩)
  refine go_callV (x := 185) (mi := 139) (n := 1) (ci := 12) (as := [v1]) (rest := []) (by decide +kernel) (by decide +kernel) rfl rfl (q_sum8 _ (Nat.le_of_ble_eq_true rfl)) R f0 (fx_k (c := 12) R (by decide +kernel)) (om_X11_runAt (Nat.le_trans (by decide) hd) R f0 f1 hc_1) (fun _ S_6 q_9 => ?_) (fun _ _ qq => kr_x (kx_l qq))
  have q_9 := kx_l q_9
  refine kr_z (by decide) q_9 fun v_4 f_5 R_7 E_8 => ?_
  have E_12 := E_8
  refine go_astore_n (n := 3) (by decide +kernel) (by decide +kernel) f_5 fun L_13 l_14 kp_15 => ?_
  have l_16 := kp_15 2 _ l2 (by decide) (Or.inr (q_is_cat f2 (Or.inl rfl)))
  refine go_iload_n (n := 2) (by decide +kernel) l_16 f2 ?_
  refine go_iconst (n := 1) (z := 1) (by decide +kernel) (by decide) fun v_17 f_18 => ?_
  refine go_icmp (c := .lt) (o := 9) (t := 17) (P := p2 < 1) (by decide +kernel) (by decide +kernel) f2 f_18 (Iff.rfl) (fun hp_19 => ?_) (fun hp_19 => ?_)
  · have h := it_t hp_19 h
    cases h
    exact go_thr (x := 96) (e := 1) (ic := 100) (b := 0) (by decide +kernel) (by decide +kernel) (by decide +kernel) R_7 rfl fun Sq Rq Eq => hQ (Ext.tr E_12 Eq) _ _ Rq rfl
  · have h := it_f hp_19 h
    refine go_iload_n (n := 2) (by decide +kernel) l_16 f2 ?_
    refine go_bipush (n := 100) (z := 100) (by decide +kernel) (by decide) fun v_20 f_21 => ?_
    refine go_icmp (c := .le) (o := 14) (t := 28) (P := ¬ (100 < p2)) (by decide +kernel) (by decide +kernel) f2 f_21 (Int.not_lt.symm) (fun hp_22 => ?_) (fun hp_22 => ?_)
    · have h := it_f hp_22 h
      refine go_aload_n (n := 3) (by decide +kernel) l_14 f_5 ?_
      refine go_aload_n (n := 3) (by decide +kernel) l_14 f_5 ?_
      obtain ⟨g_25, h⟩ := gd_s h
      obtain ⟨x_27, e_28, h⟩ := lx_s h
      refine go_getf (x := 195) (ci := 7) (kf := 16) (fin := 2) (t := 2) (by decide +kernel) (by decide +kernel) (by decide +kernel) R_7 f_5 g_25 fun v_23 f_24 => ?_
      have f_26 := q_is_eq f_24 e_28
      obtain ⟨g_31, h⟩ := gd_s h
      obtain ⟨x_33, e_34, h⟩ := lx_s h
      refine go_getf (x := 199) (ci := 3) (kf := 1) (fin := 0) (t := 0) (by decide +kernel) (by decide +kernel) (by decide +kernel) R_7 f_26 g_31 fun v_29 f_30 => ?_
      have f_32 := q_is_eq f_30 e_34
      refine go_aload_n (n := 3) (by decide +kernel) l_14 f_5 ?_
      obtain ⟨x_38, e_39, h⟩ := lx_s h
      refine go_getf (x := 443) (ci := 7) (kf := 8) (fin := 0) (t := 0) (by decide +kernel) (by decide +kernel) (by decide +kernel) R_7 f_5 g_25 fun v_35 f_36 => ?_
      have f_37 := q_is_eq f_36 e_39
      refine go_iload_n (n := 2) (by decide +kernel) l_16 f2 ?_
      refine go_iadd (by decide +kernel) f_37 f2 fun v_40 f_41 => ?_
      obtain ⟨x_43, hc_42, h⟩ := bp_s h
      refine go_callS (x := 446) (mi := 320) (n := 2) (b := 0) (as := [v_29, v_40]) (rest := [v_4]) (by decide +kernel) (by decide +kernel) rfl rfl (q_sum8 _ (Nat.le_of_ble_eq_true rfl)) (om_J9_min_7cf53 (Nat.le_trans (by decide) hd) R_7 f_32 f_41 hc_42) (fun _ S_47 q_50 => ?_) (fun _ _ qq => kr_x qq)
      refine kr_z (by decide) q_50 fun v_45 f_46 R_48 E_49 => ?_
      obtain ⟨m_51, e_52, h⟩ := up_s h
      refine go_putf (x := 443) (ci := 7) (kf := 8) (fin := 0) (zt := 0) (by decide +kernel) (by decide +kernel) (by decide) (by decide +kernel) (by decide) (Or.inl rfl) R_48 f_5 f_46 (fun hq => absurd hq (by decide)) g_25 e_52 (fx_f (j := 8) R_48.2 g_25 (by decide +kernel)) fun S_53 R_54 E_55 => ?_
      have E_56 := Ext.tr E_12 E_55
      refine go_aload_n (n := 3) (by decide +kernel) l_14 f_5 ?_
      have g_59 := Ext.ok E_55 g_25
      obtain ⟨x_61, e_62, h⟩ := lx_s h
      refine go_getf (x := 443) (ci := 7) (kf := 8) (fin := 0) (t := 0) (by decide +kernel) (by decide +kernel) (by decide +kernel) R_54 f_5 g_59 fun v_57 f_58 => ?_
      have f_60 := q_is_eq f_58 e_62
      cases h
      exact go_iret (by decide +kernel) rfl (Or.inl rfl) f_60 (hQ E_56 _ _ R_54 (q_out_v (by decide) f_60))
    · have h := it_n hp_22 h
      cases h
      exact go_thr (x := 96) (e := 1) (ic := 100) (b := 0) (by decide +kernel) (by decide +kernel) (by decide +kernel) R_7 rfl fun Sq Rq Eq => hQ (Ext.tr E_12 Eq) _ _ Rq rfl
noncomputable def fl_X11_loseEvents_21 (y1 y2 y3 : Int) (k71 : MM → Option (Int × MM)) : Nat → Int → MM → Option (Int × MM)
  | 0, _, _ => none
  | n + 1, y4, m => gd (okc m y2 3) <| lx (m y2 1) fun x_48 =>
if y4 < x_48 then
bp (fm_X2_kind y2 y4 m) fun x_52 =>
if x_52 = 4 then
gd (okc m y1 7) <| lx (m y1 19) fun x_79 =>
bp (fm_X2_x y2 y4 m) fun x_84 =>
bp (fm_X2_y y2 y4 m) fun x_95 =>
gd (okc m x_79 6) <| bd (fm_X5_add x_79 (w32 ((w32 (1000 * x_84)) + x_95)) m) fun x_109 m_110 =>
lx (w32 (y4 + 1)) fun x_123 =>
fl_X11_loseEvents_21 y1 y2 y3 k71 n x_123 m_110
else
lx (w32 (y4 + 1)) fun x_68 =>
fl_X11_loseEvents_21 y1 y2 y3 k71 n x_68 m
else
k71 m
set_option maxHeartbeats 4000000 in
theorem ol_X11_loseEvents_21 {xs : List Int32} {d : Nat} {Q : QO → QS → Prop} {mb : MM} {y1 y2 y3 : Int} {k71 : MM → Option (Int × MM)} {rz : Int} {rm : MM}
  (hd : 4 ≤ d)
  (hk71 : ∀ mq : MM, Ext mb mq → ∀ {Sq : QS} {Lq : QL} {u0 : Value} {u1 : Value} {u2 : Value} {u3 : Value}, k71 mq = some (rz, rm) → Rp Sq mq → q_lo Lq 0 = some u0 → q_is 2 u0 4 → q_lo Lq 1 = some u1 → q_is 2 u1 y1 → q_lo Lq 2 = some u2 → q_is 2 u2 y2 → q_lo Lq 3 = some u3 → q_is 0 u3 y3 → Go xs d qM_X11_loseEvents 71 Lq [] Sq Q)
  (hQ : Ext mb rm → ∀ o S1, Rp S1 rm → q_out 0 o rz → Q o S1) :
  ∀ (n : Nat) {m : MM} {S : QS} {L : QL} {y4 : Int} {v0 : Value} {v1 : Value} {v2 : Value} {v3 : Value} {v4 : Value} , Ext mb m → fl_X11_loseEvents_21 y1 y2 y3 k71 n y4 m = some (rz, rm) → Rp S m → q_lo L 0 = some v0 → q_is 2 v0 4 → q_lo L 1 = some v1 → q_is 2 v1 y1 → q_lo L 2 = some v2 → q_is 2 v2 y2 → q_lo L 3 = some v3 → q_is 0 v3 y3 → q_lo L 4 = some v4 → q_is 0 v4 y4 → Go xs d qM_X11_loseEvents 21 L [] S Q := by
  intro n
  induction n with
  | zero => intro m S L y4 v0 v1 v2 v3 v4; intro E h R l0 f0 l1 f1 l2 f2 l3 f3 l4 f4; cases h
  | succ n ih0 =>
    intro m S L y4 v0 v1 v2 v3 v4; intro E h R l0 f0 l1 f1 l2 f2 l3 f3 l4 f4
    have ih : ∀ mq : MM, Ext mb mq → ∀ {z4 : Int} {Sq : QS} {Lq : QL} {u0 : Value} {u1 : Value} {u2 : Value} {u3 : Value} {u4 : Value}, fl_X11_loseEvents_21 y1 y2 y3 k71 n z4 mq = some (rz, rm) → Rp Sq mq → q_lo Lq 0 = some u0 → q_is 2 u0 4 → q_lo Lq 1 = some u1 → q_is 2 u1 y1 → q_lo Lq 2 = some u2 → q_is 2 u2 y2 → q_lo Lq 3 = some u3 → q_is 0 u3 y3 → q_lo Lq 4 = some u4 → q_is 0 u4 z4 → Go xs d qM_X11_loseEvents 21 Lq [] Sq Q := fun mq b => by intros; exact ih0 b ‹_› ‹_› ‹_› ‹_› ‹_› ‹_› ‹_› ‹_› ‹_› ‹_› ‹_› ‹_›
    unfold fl_X11_loseEvents_21 at h
    refine go_iload (n := 4) (by decide +kernel) l4 f4 ?_
    refine go_aload_n (n := 2) (by decide +kernel) l2 f2 ?_
    obtain ⟨g_46, h⟩ := gd_s h
    obtain ⟨x_48, e_49, h⟩ := lx_s h
    refine go_getf (x := 199) (ci := 3) (kf := 1) (fin := 0) (t := 0) (by decide +kernel) (by decide +kernel) (by decide +kernel) R f2 g_46 fun v_44 f_45 => ?_
    have f_47 := q_is_eq f_45 e_49
    refine go_icmp (c := .ge) (o := 44) (t := 71) (P := ¬ (y4 < x_48)) (by decide +kernel) (by decide +kernel) f4 f_47 (Int.not_lt.symm) (fun hp_50 => ?_) (fun hp_50 => ?_)
    · have h := it_f hp_50 h
      exact hk71 m E h R l0 f0 l1 f1 l2 f2 l3 f3
    · have h := it_n hp_50 h
      refine go_aload_n (n := 2) (by decide +kernel) l2 f2 ?_
      refine go_iload (n := 4) (by decide +kernel) l4 f4 ?_
      obtain ⟨x_52, hc_51, h⟩ := bp_s h
      refine go_callV (x := 261) (mi := 9) (n := 1) (ci := 3) (as := [v4]) (rest := []) (by decide +kernel) (by decide +kernel) rfl rfl (q_sum8 _ (Nat.le_of_ble_eq_true rfl)) R f2 g_46 (om_X2_kind (Nat.le_trans (by decide) hd) R g_46 f2 f4 hc_51) (fun _ S_56 q_59 => ?_) (fun _ _ qq => kr_x qq)
      refine kr_z (by decide) q_59 fun v_54 f_55 R_57 E_58 => ?_
      refine go_iconst (n := 4) (z := 4) (by decide +kernel) (by decide) fun v_60 f_61 => ?_
      refine go_icmp (c := .ne) (o := 28) (t := 65) (P := ¬ (x_52 = 4)) (by decide +kernel) (by decide +kernel) f_55 f_61 (Iff.rfl) (fun hp_62 => ?_) (fun hp_62 => ?_)
      · have h := it_f hp_62 h
        refine go_iinc (n := 4) (c := 1) (c' := 1) (by decide +kernel) (by decide +kernel) l4 f4 (by decide) fun L_63 v_64 f_65 l_66 kp_67 => ?_
        obtain ⟨x_68, e_69, h⟩ := lx_s h
        have f_70 := q_is_eq f_65 e_69
        have l_71 := kp_67 0 _ l0 (by decide) (Or.inl (by decide))
        have l_72 := kp_67 1 _ l1 (by decide) (Or.inl (by decide))
        have l_73 := kp_67 2 _ l2 (by decide) (Or.inl (by decide))
        have l_74 := kp_67 3 _ l3 (by decide) (Or.inr (q_is_cat f3 (Or.inl rfl)))
        refine go_goto (o := (-47)) (t := 21) (by decide +kernel) (by decide +kernel) ?_
        exact ih m E h R_57 l_71 f0 l_72 f1 l_73 f2 l_74 f3 l_66 f_70
      · have h := it_n hp_62 h
        refine go_aload_n (n := 1) (by decide +kernel) l1 f1 ?_
        obtain ⟨g_77, h⟩ := gd_s h
        obtain ⟨x_79, e_80, h⟩ := lx_s h
        refine go_getf (x := 463) (ci := 7) (kf := 19) (fin := 2) (t := 2) (by decide +kernel) (by decide +kernel) (by decide +kernel) R_57 f1 g_77 fun v_75 f_76 => ?_
        have f_78 := q_is_eq f_76 e_80
        refine go_sipush (n := 1000) (z := 1000) (by decide +kernel) (by decide) fun v_81 f_82 => ?_
        refine go_aload_n (n := 2) (by decide +kernel) l2 f2 ?_
        refine go_iload (n := 4) (by decide +kernel) l4 f4 ?_
        obtain ⟨x_84, hc_83, h⟩ := bp_s h
        refine go_callV (x := 264) (mi := 10) (n := 1) (ci := 3) (as := [v4]) (rest := [v_81, v_75]) (by decide +kernel) (by decide +kernel) rfl rfl (q_sum8 _ (Nat.le_of_ble_eq_true rfl)) R_57 f2 g_46 (om_X2_x (Nat.le_trans (by decide) hd) R_57 g_46 f2 f4 hc_83) (fun _ S_88 q_91 => ?_) (fun _ _ qq => kr_x qq)
        refine kr_z (by decide) q_91 fun v_86 f_87 R_89 E_90 => ?_
        refine go_imul (by decide +kernel) f_82 f_87 fun v_92 f_93 => ?_
        refine go_aload_n (n := 2) (by decide +kernel) l2 f2 ?_
        refine go_iload (n := 4) (by decide +kernel) l4 f4 ?_
        obtain ⟨x_95, hc_94, h⟩ := bp_s h
        refine go_callV (x := 267) (mi := 11) (n := 1) (ci := 3) (as := [v4]) (rest := [v_92, v_75]) (by decide +kernel) (by decide +kernel) rfl rfl (q_sum8 _ (Nat.le_of_ble_eq_true rfl)) R_89 f2 g_46 (om_X2_y (Nat.le_trans (by decide) hd) R_89 g_46 f2 f4 hc_94) (fun _ S_99 q_102 => ?_) (fun _ _ qq => kr_x qq)
        refine kr_z (by decide) q_102 fun v_97 f_98 R_100 E_101 => ?_
        refine go_iadd (by decide +kernel) f_93 f_98 fun v_103 f_104 => ?_
        refine go_i2l (by decide +kernel) f_104 fun v_105 f_106 => ?_
        obtain ⟨g_107, h⟩ := gd_s h
        obtain ⟨x_109, m_110, hc_108, h⟩ := bd_s h
        refine go_callV (x := 120) (mi := 60) (n := 1) (ci := 6) (as := [v_105]) (rest := []) (by decide +kernel) (by decide +kernel) rfl rfl (q_sum8 _ (Nat.le_of_ble_eq_true rfl)) R_100 f_78 g_107 (om_X5_add (Nat.le_trans (by decide) hd) R_100 g_107 f_78 f_106 hc_108) (fun _ S_113 q_116 => ?_) (fun _ _ qq => kr_x qq)
        refine kr_v q_116 fun R_114 E_115 => ?_
        have E_117 := Ext.tr E E_115
        refine go_iinc (n := 4) (c := 1) (c' := 1) (by decide +kernel) (by decide +kernel) l4 f4 (by decide) fun L_118 v_119 f_120 l_121 kp_122 => ?_
        obtain ⟨x_123, e_124, h⟩ := lx_s h
        have f_125 := q_is_eq f_120 e_124
        have l_126 := kp_122 0 _ l0 (by decide) (Or.inl (by decide))
        have l_127 := kp_122 1 _ l1 (by decide) (Or.inl (by decide))
        have l_128 := kp_122 2 _ l2 (by decide) (Or.inl (by decide))
        have l_129 := kp_122 3 _ l3 (by decide) (Or.inr (q_is_cat f3 (Or.inl rfl)))
        refine go_goto (o := (-47)) (t := 21) (by decide +kernel) (by decide +kernel) ?_
        exact ih m_110 E_117 h R_114 l_126 f0 l_127 f1 l_128 f2 l_129 f3 l_121 f_125
noncomputable def fj_X11_loseEvents_93 (y1 y3 : Int) (m : MM) : Option (Int × MM) := gd (okc m y1 7) <| lx (m y1 0) fun x_153 =>
lx (m y1 8) fun x_158 =>
bd (fm_X11_partFromChildren x_153 x_158 m) fun x_161 m_162 =>
bd (fm_X11_endWork y1 m_162) fun x_171 m_172 =>
some (y3, m_172)
set_option maxHeartbeats 4000000 in
theorem oj_X11_loseEvents_93 {xs : List Int32} {d : Nat} {S : QS} {L : QL} {Q : QO → QS → Prop} {m : MM} {y1 y3 : Int} {v0 : Value} {v1 : Value} {v3 : Value}  {rz : Int} {rm : MM}
  (hd : 4 ≤ d) (R : Rp S m) (l0 : q_lo L 0 = some v0) (f0 : q_is 2 v0 4) (l1 : q_lo L 1 = some v1) (f1 : q_is 2 v1 y1) (l3 : q_lo L 3 = some v3) (f3 : q_is 0 v3 y3)
  (hQ : Ext m rm → ∀ o S1, Rp S1 rm → q_out 0 o rz → Q o S1)
  (h : fj_X11_loseEvents_93 y1 y3 m = some (rz, rm)) : Go xs d qM_X11_loseEvents 93 L [] S Q := by
  unfold fj_X11_loseEvents_93 at h
  refine go_aload_n (n := 0) (by decide +kernel) l0 f0 ?_
  refine go_aload_n (n := 1) (by decide +kernel) l1 f1 ?_
  obtain ⟨g_151, h⟩ := gd_s h
  obtain ⟨x_153, e_154, h⟩ := lx_s h
  refine go_getf (x := 180) (ci := 7) (kf := 0) (fin := 2) (t := 0) (by decide +kernel) (by decide +kernel) (by decide +kernel) R f1 g_151 fun v_149 f_150 => ?_
  have f_152 := q_is_eq f_150 e_154
  refine go_aload_n (n := 1) (by decide +kernel) l1 f1 ?_
  obtain ⟨x_158, e_159, h⟩ := lx_s h
  refine go_getf (x := 443) (ci := 7) (kf := 8) (fin := 0) (t := 0) (by decide +kernel) (by decide +kernel) (by decide +kernel) R f1 g_151 fun v_155 f_156 => ?_
  have f_157 := q_is_eq f_156 e_159
  obtain ⟨x_161, m_162, hc_160, h⟩ := bd_s h
  refine go_callV (x := 430) (mi := 158) (n := 2) (ci := 12) (as := [v_149, v_155]) (rest := []) (by decide +kernel) (by decide +kernel) rfl rfl (q_sum8 _ (Nat.le_of_ble_eq_true rfl)) R f0 (fx_k (c := 12) R (by decide +kernel)) (om_X11_partFromChildren (Nat.le_trans (by decide) hd) R f0 f_152 f_157 hc_160) (fun _ S_165 q_168 => ?_) (fun _ _ qq => kr_x qq)
  refine kr_v q_168 fun R_166 E_167 => ?_
  have E_169 := E_167
  refine go_aload_n (n := 0) (by decide +kernel) l0 f0 ?_
  refine go_aload_n (n := 1) (by decide +kernel) l1 f1 ?_
  obtain ⟨x_171, m_172, hc_170, h⟩ := bd_s h
  refine go_callV (x := 427) (mi := 157) (n := 1) (ci := 12) (as := [v1]) (rest := []) (by decide +kernel) (by decide +kernel) rfl rfl (q_sum8 _ (Nat.le_of_ble_eq_true rfl)) R_166 f0 (fx_k (c := 12) R_166 (by decide +kernel)) (om_X11_endWork (Nat.le_trans (by decide) hd) R_166 f0 f1 hc_170) (fun _ S_175 q_178 => ?_) (fun _ _ qq => kr_x qq)
  refine kr_v q_178 fun R_176 E_177 => ?_
  have E_179 := Ext.tr E_169 E_177
  refine go_iload_n (n := 3) (by decide +kernel) l3 f3 ?_
  cases h
  exact go_iret (by decide +kernel) rfl (Or.inl rfl) f3 (hQ E_179 _ _ R_176 (q_out_v (by decide) f3))
noncomputable def fm_X11_loseEvents (p1 : Int) (m0 : MM) : Option (Int × MM) := gd (okc m0 p1 7) <| lx (m0 p1 16) fun x_5 =>
gd (okc m0 x_5 3) <| lx (m0 x_5 1) fun x_16 =>
lx (m0 p1 8) fun x_21 =>
lx (w32 (x_16 - x_21)) fun x_25 =>
fl_X11_loseEvents_21 p1 x_5 x_25 (fun m_145 =>
if 0 < x_25 then
lx (m_145 p1 8) fun x_184 =>
bd (fm_X2_cut x_5 x_184 m_145) fun x_188 m_189 =>
lx (m_189 p1 9) fun x_201 =>
up m_189 p1 9 (w32 (x_201 + 1)) fun m_207 =>
fj_X11_loseEvents_93 p1 x_25 m_207
else
fj_X11_loseEvents_93 p1 x_25 m_145) BIG x_21 m0
set_option maxHeartbeats 4000000 in
theorem om_X11_loseEvents {xs : List Int32} {d : Nat} {S : QS} {m0 : MM} {p1 : Int} {v0 : Value} {v1 : Value} {rz : Int} {rm : MM}
  (hd : 5 ≤ d) (R : Rp S m0) (f0 : q_is 2 v0 4) (f1 : q_is 2 v1 p1)
  (h : fm_X11_loseEvents p1 m0 = some (rz, rm)) : Mt xs d 173 [v0, v1] S (Cr 0 m0 rm rz) := by
  obtain ⟨d, rfl⟩ : ∃ e, d = e + 1 := ⟨d - 1, by omega⟩
  have hd : 4 ≤ d := Nat.le_of_succ_le_succ hd
  refine Mt.of (M := qM_X11_loseEvents) rfl (by rw [sl_1 (q_is_cat f0 (Or.inr rfl)), sl_1 (q_is_cat f1 (Or.inr rfl)), sl_0]; decide) ?_
  rw [la_1 (q_is_cat f0 (Or.inr rfl)), la_1 (q_is_cat f1 (Or.inr rfl)), la_0]
  obtain ⟨L, hL⟩ : ∃ L : QL, L = [(0, v0), (0 + 1, v1)] := ⟨_, rfl⟩
  rw [← hL]
  have l0 : q_lo L 0 = some v0 := by rw [hL]; rfl
  have l1 : q_lo L 1 = some v1 := by rw [hL]; rfl
  have hQ : Ext m0 rm → ∀ o S1, Rp S1 rm → q_out 0 o rz → (Cr 0 m0 rm rz) o S1 := fun a o S1 b e => ⟨b, a, e⟩
  unfold fm_X11_loseEvents at h
  refine go_aload_n (n := 1) (by decide +kernel) l1 f1 ?_
  obtain ⟨g_3, h⟩ := gd_s h
  obtain ⟨x_5, e_6, h⟩ := lx_s h
  refine go_getf (x := 195) (ci := 7) (kf := 16) (fin := 2) (t := 2) (by decide +kernel) (by decide +kernel) (by decide +kernel) R f1 g_3 fun v_1 f_2 => ?_
  have f_4 := q_is_eq f_2 e_6
  refine go_astore_n (n := 2) (by decide +kernel) (by decide +kernel) f_4 fun L_7 l_8 kp_9 => ?_
  have l_10 := kp_9 0 _ l0 (by decide) (Or.inl (by decide))
  have l_11 := kp_9 1 _ l1 (by decide) (Or.inr (q_is_cat f1 (Or.inr rfl)))
  refine go_aload_n (n := 2) (by decide +kernel) l_8 f_4 ?_
  obtain ⟨g_14, h⟩ := gd_s h
  obtain ⟨x_16, e_17, h⟩ := lx_s h
  refine go_getf (x := 199) (ci := 3) (kf := 1) (fin := 0) (t := 0) (by decide +kernel) (by decide +kernel) (by decide +kernel) R f_4 g_14 fun v_12 f_13 => ?_
  have f_15 := q_is_eq f_13 e_17
  refine go_aload_n (n := 1) (by decide +kernel) l_11 f1 ?_
  obtain ⟨x_21, e_22, h⟩ := lx_s h
  refine go_getf (x := 443) (ci := 7) (kf := 8) (fin := 0) (t := 0) (by decide +kernel) (by decide +kernel) (by decide +kernel) R f1 g_3 fun v_18 f_19 => ?_
  have f_20 := q_is_eq f_19 e_22
  refine go_isub (by decide +kernel) f_15 f_20 fun v_23 f_24 => ?_
  obtain ⟨x_25, e_26, h⟩ := lx_s h
  have f_27 := q_is_eq f_24 e_26
  refine go_istore_n (n := 3) (by decide +kernel) (by decide +kernel) f_27 fun L_28 l_29 kp_30 => ?_
  have l_31 := kp_30 0 _ l_10 (by decide) (Or.inl (by decide))
  have l_32 := kp_30 1 _ l_11 (by decide) (Or.inl (by decide))
  have l_33 := kp_30 2 _ l_8 (by decide) (Or.inr (q_is_cat f_4 (Or.inr rfl)))
  refine go_aload_n (n := 1) (by decide +kernel) l_32 f1 ?_
  refine go_getf (x := 443) (ci := 7) (kf := 8) (fin := 0) (t := 0) (by decide +kernel) (by decide +kernel) (by decide +kernel) R f1 g_3 fun v_34 f_35 => ?_
  have f_36 := q_is_eq f_35 e_22
  refine go_istore (n := 4) (by decide +kernel) (by decide +kernel) f_36 fun L_37 l_38 kp_39 => ?_
  have l_40 := kp_39 0 _ l_31 (by decide) (Or.inl (by decide))
  have l_41 := kp_39 1 _ l_32 (by decide) (Or.inl (by decide))
  have l_42 := kp_39 2 _ l_33 (by decide) (Or.inl (by decide))
  have l_43 := kp_39 3 _ l_29 (by decide) (Or.inr (q_is_cat f_27 (Or.inl rfl)))
  refine ol_X11_loseEvents_21 hd  ?_ hQ BIG (Ext.rf _) h R l_40 f0 l_41 f1 l_42 f_4 l_43 f_27 l_38 f_36
  intro m_145 E_146
  intro S_142 L_143 v_130 v_131 v_132 v_133
  intro h R_144 l_134 f_138 l_135 f_139 l_136 f_140 l_137 f_141
  have E_147 := E_146
  refine go_iload_n (n := 3) (by decide +kernel) l_137 f_141 ?_
  refine go_if (c := .le) (o := 21) (t := 93) (P := ¬ (0 < x_25)) (by decide +kernel) (by decide +kernel) f_141 (Int.not_lt.symm) (fun hp_148 => ?_) (fun hp_148 => ?_)
  · have h := it_f hp_148 h
    exact oj_X11_loseEvents_93 hd R_144 l_134 f_138 l_135 f_139 l_137 f_141 (fun b => hQ (Ext.tr E_147 b)) h
  · have h := it_n hp_148 h
    refine go_aload_n (n := 2) (by decide +kernel) l_136 f_140 ?_
    refine go_aload_n (n := 1) (by decide +kernel) l_135 f_139 ?_
    have g_182 := Ext.ok E_146 g_3
    obtain ⟨x_184, e_185, h⟩ := lx_s h
    refine go_getf (x := 443) (ci := 7) (kf := 8) (fin := 0) (t := 0) (by decide +kernel) (by decide +kernel) (by decide +kernel) R_144 f_139 g_182 fun v_180 f_181 => ?_
    have f_183 := q_is_eq f_181 e_185
    have g_186 := Ext.ok E_146 g_14
    obtain ⟨x_188, m_189, hc_187, h⟩ := bd_s h
    refine go_callV (x := 622) (mi := 16) (n := 1) (ci := 3) (as := [v_180]) (rest := []) (by decide +kernel) (by decide +kernel) rfl rfl (q_sum8 _ (Nat.le_of_ble_eq_true rfl)) R_144 f_140 g_186 (om_X2_cut (Nat.le_trans (by decide) hd) R_144 g_186 f_140 f_183 hc_187) (fun _ S_192 q_195 => ?_) (fun _ _ qq => kr_x qq)
    refine kr_v q_195 fun R_193 E_194 => ?_
    have E_196 := Ext.tr E_147 E_194
    refine go_aload_n (n := 1) (by decide +kernel) l_135 f_139 ?_
    refine go_dup (by decide +kernel) f_139 (Or.inr rfl) ?_
    have g_199 := Ext.ok E_194 g_182
    obtain ⟨x_201, e_202, h⟩ := lx_s h
    refine go_getf (x := 623) (ci := 7) (kf := 9) (fin := 0) (t := 0) (by decide +kernel) (by decide +kernel) (by decide +kernel) R_193 f_139 g_199 fun v_197 f_198 => ?_
    have f_200 := q_is_eq f_198 e_202
    refine go_iconst (n := 1) (z := 1) (by decide +kernel) (by decide) fun v_203 f_204 => ?_
    refine go_iadd (by decide +kernel) f_200 f_204 fun v_205 f_206 => ?_
    obtain ⟨m_207, e_208, h⟩ := up_s h
    refine go_putf (x := 623) (ci := 7) (kf := 9) (fin := 0) (zt := 0) (by decide +kernel) (by decide +kernel) (by decide) (by decide +kernel) (by decide) (Or.inl rfl) R_193 f_139 f_206 (fun hq => absurd hq (by decide)) g_199 e_208 (fx_f (j := 9) R_193.2 g_199 (by decide +kernel)) fun S_209 R_210 E_211 => ?_
    have E_212 := Ext.tr E_196 E_211
    exact oj_X11_loseEvents_93 hd R_210 l_134 f_138 l_135 f_139 l_137 f_141 (fun b => hQ (Ext.tr E_212 b)) h
noncomputable def fl_X11_takeOver_27 (k71 : Int → MM → Option ((Int ⊕ Nat) × MM)) : Nat → Int → Int → MM → Option ((Int ⊕ Nat) × MM)
  | 0, _, _, _ => none
  | n + 1, y1, y2, m => bp (fm_Jx4a65c_size_8abf5 7 m) fun x_32 =>
if y2 < x_32 then
bp (fm_Jx4a65c_get_915e3 7 y2 m) fun x_45 =>
gd (okc m x_45 7) <| lx (m x_45 6) fun x_63 =>
if x_63 = 0 then
bd (fm_X11_loseEvents x_45 m) fun x_77 m_78 =>
lx (w32 (y1 + x_77)) fun x_88 =>
lx (w32 (y2 + 1)) fun x_101 =>
fl_X11_takeOver_27 k71 n x_88 x_101 m_78
else
lx (w32 (y2 + 1)) fun x_71 =>
fl_X11_takeOver_27 k71 n y1 x_71 m
else
k71 y1 m
set_option maxHeartbeats 4000000 in
theorem ol_X11_takeOver_27 {xs : List Int32} {d : Nat} {Q : QO → QS → Prop} {mb : MM} {k71 : Int → MM → Option ((Int ⊕ Nat) × MM)} {rr : Int ⊕ Nat} {rm : MM}
  (hd : 150 ≤ d)
  (hk71 : ∀ mq : MM, Ext mb mq → ∀ {z1 : Int} {Sq : QS} {Lq : QL} {u0 : Value} {u1 : Value}, k71 z1 mq = some (rr, rm) → Rp Sq mq → q_lo Lq 0 = some u0 → q_is 2 u0 4 → q_lo Lq 1 = some u1 → q_is 0 u1 z1 → Go xs d qM_X11_takeOver 71 Lq [] Sq Q)
  (hQ : Ext mb rm → ∀ o S1, Rp S1 rm → q_oux 0 o rr → Q o S1) :
  ∀ (n : Nat) {m : MM} {S : QS} {L : QL} {y1 y2 : Int} {v0 : Value} {v1 : Value} {v2 : Value} , Ext mb m → fl_X11_takeOver_27 k71 n y1 y2 m = some (rr, rm) → Rp S m → q_lo L 0 = some v0 → q_is 2 v0 4 → q_lo L 1 = some v1 → q_is 0 v1 y1 → q_lo L 2 = some v2 → q_is 0 v2 y2 → Go xs d qM_X11_takeOver 27 L [] S Q := by
  intro n
  induction n with
  | zero => intro m S L y1 y2 v0 v1 v2; intro E h R l0 f0 l1 f1 l2 f2; cases h
  | succ n ih0 =>
    intro m S L y1 y2 v0 v1 v2; intro E h R l0 f0 l1 f1 l2 f2
    have ih : ∀ mq : MM, Ext mb mq → ∀ {z1 : Int} {z2 : Int} {Sq : QS} {Lq : QL} {u0 : Value} {u1 : Value} {u2 : Value}, fl_X11_takeOver_27 k71 n z1 z2 mq = some (rr, rm) → Rp Sq mq → q_lo Lq 0 = some u0 → q_is 2 u0 4 → q_lo Lq 1 = some u1 → q_is 0 u1 z1 → q_lo Lq 2 = some u2 → q_is 0 u2 z2 → Go xs d qM_X11_takeOver 27 Lq [] Sq Q := fun mq b => by intros; exact ih0 b ‹_› ‹_› ‹_› ‹_› ‹_› ‹_› ‹_› ‹_›
    unfold fl_X11_takeOver_27 at h
    refine go_iload_n (n := 2) (by decide +kernel) l2 f2 ?_
    refine go_aload_n (n := 0) (by decide +kernel) l0 f0 ?_
    refine go_getf (x := 24) (ci := 12) (kf := 2) (fin := 1) (t := 2) (by decide +kernel) (by decide +kernel) (by decide +kernel) R f0 (fx_k (c := 12) R (by decide +kernel)) fun v_28 f_29 => ?_
    have f_30 := q_is_eq (b := 7) f_29 (fx_v R (by decide +kernel)).symm
    obtain ⟨x_32, hc_31, h⟩ := bp_s h
    refine go_callV (x := 127) (mi := 326) (n := 0) (ci := 0) (as := []) (rest := [v2]) (by decide +kernel) (by decide +kernel) rfl rfl (q_sum8 _ (Nat.le_of_ble_eq_true rfl)) R f_30 (fx_k (c := 0) R (by decide +kernel)) (om_Jx4a65c_size_8abf5 (Nat.le_trans (by decide) hd) R (fx_k (c := 0) R (by decide +kernel)) f_30 hc_31) (fun _ S_36 q_39 => ?_) (fun _ _ qq => kr_x qq)
    refine kr_z (by decide) q_39 fun v_34 f_35 R_37 E_38 => ?_
    refine go_icmp (c := .ge) (o := 36) (t := 71) (P := ¬ (y2 < x_32)) (by decide +kernel) (by decide +kernel) f2 f_35 (Int.not_lt.symm) (fun hp_40 => ?_) (fun hp_40 => ?_)
    · have h := it_f hp_40 h
      exact hk71 m E h R_37 l0 f0 l1 f1
    · have h := it_n hp_40 h
      refine go_aload_n (n := 0) (by decide +kernel) l0 f0 ?_
      refine go_getf (x := 24) (ci := 12) (kf := 2) (fin := 1) (t := 2) (by decide +kernel) (by decide +kernel) (by decide +kernel) R_37 f0 (fx_k (c := 12) R_37 (by decide +kernel)) fun v_41 f_42 => ?_
      have f_43 := q_is_eq (b := 7) f_42 (fx_v R_37 (by decide +kernel)).symm
      refine go_iload_n (n := 2) (by decide +kernel) l2 f2 ?_
      obtain ⟨x_45, hc_44, h⟩ := bp_s h
      refine go_callV (x := 305) (mi := 329) (n := 1) (ci := 0) (as := [v2]) (rest := []) (by decide +kernel) (by decide +kernel) rfl rfl (q_sum8 _ (Nat.le_of_ble_eq_true rfl)) R_37 f_43 (fx_k (c := 0) R_37 (by decide +kernel)) (om_Jx4a65c_get_915e3 (Nat.le_trans (by decide) hd) R_37 (fx_k (c := 0) R_37 (by decide +kernel)) f_43 f2 hc_44) (fun _ S_49 q_52 => ?_) (fun _ _ qq => kr_x qq)
      refine kr_z (by decide) q_52 fun v_47 f_48 R_50 E_51 => ?_
      obtain ⟨g_53, h⟩ := gd_s h
      refine go_cast (x := 181) (kd := 7) (a := 0) (b := 0) (by decide +kernel) (by decide +kernel) R_50 f_48 g_53 ?_
      refine go_astore_n (n := 3) (by decide +kernel) (by decide +kernel) f_48 fun L_54 l_55 kp_56 => ?_
      have l_57 := kp_56 0 _ l0 (by decide) (Or.inl (by decide))
      have l_58 := kp_56 1 _ l1 (by decide) (Or.inl (by decide))
      have l_59 := kp_56 2 _ l2 (by decide) (Or.inr (q_is_cat f2 (Or.inl rfl)))
      refine go_aload_n (n := 3) (by decide +kernel) l_55 f_48 ?_
      obtain ⟨x_63, e_64, h⟩ := lx_s h
      refine go_getf (x := 208) (ci := 7) (kf := 6) (fin := 0) (t := 0) (by decide +kernel) (by decide +kernel) (by decide +kernel) R_50 f_48 g_53 fun v_60 f_61 => ?_
      have f_62 := q_is_eq f_61 e_64
      refine go_if (c := .ne) (o := 11) (t := 65) (P := ¬ (x_63 = 0)) (by decide +kernel) (by decide +kernel) f_62 (Iff.rfl) (fun hp_65 => ?_) (fun hp_65 => ?_)
      · have h := it_f hp_65 h
        refine go_iinc (n := 2) (c := 1) (c' := 1) (by decide +kernel) (by decide +kernel) l_59 f2 (by decide) fun L_66 v_67 f_68 l_69 kp_70 => ?_
        obtain ⟨x_71, e_72, h⟩ := lx_s h
        have f_73 := q_is_eq f_68 e_72
        have l_74 := kp_70 0 _ l_57 (by decide) (Or.inl (by decide))
        have l_75 := kp_70 1 _ l_58 (by decide) (Or.inr (q_is_cat f1 (Or.inl rfl)))
        refine go_goto (o := (-41)) (t := 27) (by decide +kernel) (by decide +kernel) ?_
        exact ih m E h R_50 l_74 f0 l_75 f1 l_69 f_73
      · have h := it_n hp_65 h
        refine go_iload_n (n := 1) (by decide +kernel) l_58 f1 ?_
        refine go_aload_n (n := 0) (by decide +kernel) l_57 f0 ?_
        refine go_aload_n (n := 3) (by decide +kernel) l_55 f_48 ?_
        obtain ⟨x_77, m_78, hc_76, h⟩ := bd_s h
        refine go_callV (x := 454) (mi := 173) (n := 1) (ci := 12) (as := [v_47]) (rest := [v1]) (by decide +kernel) (by decide +kernel) rfl rfl (q_sum8 _ (Nat.le_of_ble_eq_true rfl)) R_50 f0 (fx_k (c := 12) R_50 (by decide +kernel)) (om_X11_loseEvents (Nat.le_trans (by decide) hd) R_50 f0 f_48 hc_76) (fun _ S_81 q_84 => ?_) (fun _ _ qq => kr_x qq)
        refine kr_z (by decide) q_84 fun v_79 f_80 R_82 E_83 => ?_
        have E_85 := Ext.tr E E_83
        refine go_iadd (by decide +kernel) f1 f_80 fun v_86 f_87 => ?_
        obtain ⟨x_88, e_89, h⟩ := lx_s h
        have f_90 := q_is_eq f_87 e_89
        refine go_istore_n (n := 1) (by decide +kernel) (by decide +kernel) f_90 fun L_91 l_92 kp_93 => ?_
        have l_94 := kp_93 0 _ l_57 (by decide) (Or.inr (q_is_cat f0 (Or.inr rfl)))
        have l_95 := kp_93 2 _ l_59 (by decide) (Or.inl (by decide))
        refine go_iinc (n := 2) (c := 1) (c' := 1) (by decide +kernel) (by decide +kernel) l_95 f2 (by decide) fun L_96 v_97 f_98 l_99 kp_100 => ?_
        obtain ⟨x_101, e_102, h⟩ := lx_s h
        have f_103 := q_is_eq f_98 e_102
        have l_104 := kp_100 0 _ l_94 (by decide) (Or.inl (by decide))
        have l_105 := kp_100 1 _ l_92 (by decide) (Or.inr (q_is_cat f_90 (Or.inl rfl)))
        refine go_goto (o := (-41)) (t := 27) (by decide +kernel) (by decide +kernel) ?_
        exact ih m_78 E_85 h R_82 l_104 f0 l_105 f_90 l_99 f_103
noncomputable def fl_X11_takeOver_73 (y1 : Int) (k124 : MM → Option ((Int ⊕ Nat) × MM)) : Nat → Int → MM → Option ((Int ⊕ Nat) × MM)
  | 0, _, _ => none
  | n + 1, y2, m => bp (fm_Jx4a65c_size_8abf5 7 m) fun x_130 =>
if y2 < x_130 then
bp (fm_Jx4a65c_get_915e3 7 y2 m) fun x_143 =>
gd (okc m x_143 7) <| lx (m x_143 6) fun x_161 =>
if x_161 = 0 then
lx (m x_143 8) fun x_177 =>
if x_177 = 0 then
bd (fm_X11_closeRun BIGR x_143 5 0 0 m) fun x_197 m_198 =>
lx (w32 (y2 + 1)) fun x_211 =>
fl_X11_takeOver_73 y1 k124 n x_211 m_198
else
lx (w32 (y2 + 1)) fun x_185 =>
fl_X11_takeOver_73 y1 k124 n x_185 m
else
lx (w32 (y2 + 1)) fun x_169 =>
fl_X11_takeOver_73 y1 k124 n x_169 m
else
k124 m
set_option maxHeartbeats 4000000 in
theorem ol_X11_takeOver_73 {xs : List Int32} {d : Nat} {Q : QO → QS → Prop} {mb : MM} {y1 : Int} {k124 : MM → Option ((Int ⊕ Nat) × MM)} {rr : Int ⊕ Nat} {rm : MM}
  (hd : 150 ≤ d)
  (hk124 : ∀ mq : MM, Ext mb mq → ∀ {Sq : QS} {Lq : QL} {u0 : Value} {u1 : Value}, k124 mq = some (rr, rm) → Rp Sq mq → q_lo Lq 0 = some u0 → q_is 2 u0 4 → q_lo Lq 1 = some u1 → q_is 0 u1 y1 → Go xs d qM_X11_takeOver 124 Lq [] Sq Q)
  (hQ : Ext mb rm → ∀ o S1, Rp S1 rm → q_oux 0 o rr → Q o S1) :
  ∀ (n : Nat) {m : MM} {S : QS} {L : QL} {y2 : Int} {v0 : Value} {v1 : Value} {v2 : Value} , Ext mb m → fl_X11_takeOver_73 y1 k124 n y2 m = some (rr, rm) → Rp S m → q_lo L 0 = some v0 → q_is 2 v0 4 → q_lo L 1 = some v1 → q_is 0 v1 y1 → q_lo L 2 = some v2 → q_is 0 v2 y2 → Go xs d qM_X11_takeOver 73 L [] S Q := by
  intro n
  induction n with
  | zero => intro m S L y2 v0 v1 v2; intro E h R l0 f0 l1 f1 l2 f2; cases h
  | succ n ih0 =>
    intro m S L y2 v0 v1 v2; intro E h R l0 f0 l1 f1 l2 f2
    have ih : ∀ mq : MM, Ext mb mq → ∀ {z2 : Int} {Sq : QS} {Lq : QL} {u0 : Value} {u1 : Value} {u2 : Value}, fl_X11_takeOver_73 y1 k124 n z2 mq = some (rr, rm) → Rp Sq mq → q_lo Lq 0 = some u0 → q_is 2 u0 4 → q_lo Lq 1 = some u1 → q_is 0 u1 y1 → q_lo Lq 2 = some u2 → q_is 0 u2 z2 → Go xs d qM_X11_takeOver 73 Lq [] Sq Q := fun mq b => by intros; exact ih0 b ‹_› ‹_› ‹_› ‹_› ‹_› ‹_› ‹_› ‹_›
    unfold fl_X11_takeOver_73 at h
    refine go_iload_n (n := 2) (by decide +kernel) l2 f2 ?_
    refine go_aload_n (n := 0) (by decide +kernel) l0 f0 ?_
    refine go_getf (x := 24) (ci := 12) (kf := 2) (fin := 1) (t := 2) (by decide +kernel) (by decide +kernel) (by decide +kernel) R f0 (fx_k (c := 12) R (by decide +kernel)) fun v_126 f_127 => ?_
    have f_128 := q_is_eq (b := 7) f_127 (fx_v R (by decide +kernel)).symm
    obtain ⟨x_130, hc_129, h⟩ := bp_s h
    refine go_callV (x := 127) (mi := 326) (n := 0) (ci := 0) (as := []) (rest := [v2]) (by decide +kernel) (by decide +kernel) rfl rfl (q_sum8 _ (Nat.le_of_ble_eq_true rfl)) R f_128 (fx_k (c := 0) R (by decide +kernel)) (om_Jx4a65c_size_8abf5 (Nat.le_trans (by decide) hd) R (fx_k (c := 0) R (by decide +kernel)) f_128 hc_129) (fun _ S_134 q_137 => ?_) (fun _ _ qq => kr_x qq)
    refine kr_z (by decide) q_137 fun v_132 f_133 R_135 E_136 => ?_
    refine go_icmp (c := .ge) (o := 43) (t := 124) (P := ¬ (y2 < x_130)) (by decide +kernel) (by decide +kernel) f2 f_133 (Int.not_lt.symm) (fun hp_138 => ?_) (fun hp_138 => ?_)
    · have h := it_f hp_138 h
      exact hk124 m E h R_135 l0 f0 l1 f1
    · have h := it_n hp_138 h
      refine go_aload_n (n := 0) (by decide +kernel) l0 f0 ?_
      refine go_getf (x := 24) (ci := 12) (kf := 2) (fin := 1) (t := 2) (by decide +kernel) (by decide +kernel) (by decide +kernel) R_135 f0 (fx_k (c := 12) R_135 (by decide +kernel)) fun v_139 f_140 => ?_
      have f_141 := q_is_eq (b := 7) f_140 (fx_v R_135 (by decide +kernel)).symm
      refine go_iload_n (n := 2) (by decide +kernel) l2 f2 ?_
      obtain ⟨x_143, hc_142, h⟩ := bp_s h
      refine go_callV (x := 305) (mi := 329) (n := 1) (ci := 0) (as := [v2]) (rest := []) (by decide +kernel) (by decide +kernel) rfl rfl (q_sum8 _ (Nat.le_of_ble_eq_true rfl)) R_135 f_141 (fx_k (c := 0) R_135 (by decide +kernel)) (om_Jx4a65c_get_915e3 (Nat.le_trans (by decide) hd) R_135 (fx_k (c := 0) R_135 (by decide +kernel)) f_141 f2 hc_142) (fun _ S_147 q_150 => ?_) (fun _ _ qq => kr_x qq)
      refine kr_z (by decide) q_150 fun v_145 f_146 R_148 E_149 => ?_
      obtain ⟨g_151, h⟩ := gd_s h
      refine go_cast (x := 181) (kd := 7) (a := 0) (b := 0) (by decide +kernel) (by decide +kernel) R_148 f_146 g_151 ?_
      refine go_astore_n (n := 3) (by decide +kernel) (by decide +kernel) f_146 fun L_152 l_153 kp_154 => ?_
      have l_155 := kp_154 0 _ l0 (by decide) (Or.inl (by decide))
      have l_156 := kp_154 1 _ l1 (by decide) (Or.inl (by decide))
      have l_157 := kp_154 2 _ l2 (by decide) (Or.inr (q_is_cat f2 (Or.inl rfl)))
      refine go_aload_n (n := 3) (by decide +kernel) l_153 f_146 ?_
      obtain ⟨x_161, e_162, h⟩ := lx_s h
      refine go_getf (x := 208) (ci := 7) (kf := 6) (fin := 0) (t := 0) (by decide +kernel) (by decide +kernel) (by decide +kernel) R_148 f_146 g_151 fun v_158 f_159 => ?_
      have f_160 := q_is_eq f_159 e_162
      refine go_if (c := .ne) (o := 18) (t := 118) (P := ¬ (x_161 = 0)) (by decide +kernel) (by decide +kernel) f_160 (Iff.rfl) (fun hp_163 => ?_) (fun hp_163 => ?_)
      · have h := it_f hp_163 h
        refine go_iinc (n := 2) (c := 1) (c' := 1) (by decide +kernel) (by decide +kernel) l_157 f2 (by decide) fun L_164 v_165 f_166 l_167 kp_168 => ?_
        obtain ⟨x_169, e_170, h⟩ := lx_s h
        have f_171 := q_is_eq f_166 e_170
        have l_172 := kp_168 0 _ l_155 (by decide) (Or.inl (by decide))
        have l_173 := kp_168 1 _ l_156 (by decide) (Or.inr (q_is_cat f1 (Or.inl rfl)))
        refine go_goto (o := (-48)) (t := 73) (by decide +kernel) (by decide +kernel) ?_
        exact ih m E h R_148 l_172 f0 l_173 f1 l_167 f_171
      · have h := it_n hp_163 h
        refine go_aload_n (n := 3) (by decide +kernel) l_153 f_146 ?_
        obtain ⟨x_177, e_178, h⟩ := lx_s h
        refine go_getf (x := 443) (ci := 7) (kf := 8) (fin := 0) (t := 0) (by decide +kernel) (by decide +kernel) (by decide +kernel) R_148 f_146 g_151 fun v_174 f_175 => ?_
        have f_176 := q_is_eq f_175 e_178
        refine go_if (c := .ne) (o := 11) (t := 118) (P := ¬ (x_177 = 0)) (by decide +kernel) (by decide +kernel) f_176 (Iff.rfl) (fun hp_179 => ?_) (fun hp_179 => ?_)
        · have h := it_f hp_179 h
          refine go_iinc (n := 2) (c := 1) (c' := 1) (by decide +kernel) (by decide +kernel) l_157 f2 (by decide) fun L_180 v_181 f_182 l_183 kp_184 => ?_
          obtain ⟨x_185, e_186, h⟩ := lx_s h
          have f_187 := q_is_eq f_182 e_186
          have l_188 := kp_184 0 _ l_155 (by decide) (Or.inl (by decide))
          have l_189 := kp_184 1 _ l_156 (by decide) (Or.inr (q_is_cat f1 (Or.inl rfl)))
          refine go_goto (o := (-48)) (t := 73) (by decide +kernel) (by decide +kernel) ?_
          exact ih m E h R_148 l_188 f0 l_189 f1 l_183 f_187
        · have h := it_n hp_179 h
          refine go_aload_n (n := 0) (by decide +kernel) l_155 f0 ?_
          refine go_aload_n (n := 3) (by decide +kernel) l_153 f_146 ?_
          refine go_iconst (n := 5) (z := 5) (by decide +kernel) (by decide) fun v_190 f_191 => ?_
          refine go_iconst (n := 0) (z := 0) (by decide +kernel) (by decide) fun v_192 f_193 => ?_
          refine go_iconst (n := 0) (z := 0) (by decide +kernel) (by decide) fun v_194 f_195 => ?_
          obtain ⟨x_197, m_198, hc_196, h⟩ := bd_s h
          refine go_callV (x := 458) (mi := 154) (n := 4) (ci := 12) (as := [v_145, v_190, v_192, v_194]) (rest := []) (by decide +kernel) (by decide +kernel) rfl rfl (q_sum8 _ (Nat.le_of_ble_eq_true rfl)) R_148 f0 (fx_k (c := 12) R_148 (by decide +kernel)) (om_X11_closeRun (Nat.le_trans (by decide) hd) R_148 f0 f_146 f_191 f_193 f_195 hc_196) (fun _ S_201 q_204 => ?_) (fun _ _ qq => kr_x qq)
          refine kr_v q_204 fun R_202 E_203 => ?_
          have E_205 := Ext.tr E E_203
          refine go_iinc (n := 2) (c := 1) (c' := 1) (by decide +kernel) (by decide +kernel) l_157 f2 (by decide) fun L_206 v_207 f_208 l_209 kp_210 => ?_
          obtain ⟨x_211, e_212, h⟩ := lx_s h
          have f_213 := q_is_eq f_208 e_212
          have l_214 := kp_210 0 _ l_155 (by decide) (Or.inl (by decide))
          have l_215 := kp_210 1 _ l_156 (by decide) (Or.inr (q_is_cat f1 (Or.inl rfl)))
          refine go_goto (o := (-48)) (t := 73) (by decide +kernel) (by decide +kernel) ?_
          exact ih m_198 E_205 h R_202 l_214 f0 l_215 f1 l_209 f_213
noncomputable def fl_X11_takeOver_126 (y1 : Int) : Nat → Int → MM → Option ((Int ⊕ Nat) × MM)
  | 0, _, _ => none
  | n + 1, y2, m => bp (fm_Jx4a65c_size_8abf5 7 m) fun x_239 =>
if y2 < x_239 then
bp (fm_Jx4a65c_get_915e3 7 y2 m) fun x_252 =>
gd (okc m x_252 7) <| lx (m x_252 6) fun x_270 =>
if x_270 = 0 then
bd (fm_X11_restoreWork x_252 m) fun x_284 m_285 =>
lx (w32 (y2 + 1)) fun x_298 =>
fl_X11_takeOver_126 y1 n x_298 m_285
else
lx (w32 (y2 + 1)) fun x_278 =>
fl_X11_takeOver_126 y1 n x_278 m
else
some (.inl y1, m)
set_option maxHeartbeats 4000000 in
theorem ol_X11_takeOver_126 {xs : List Int32} {d : Nat} {Q : QO → QS → Prop} {mb : MM} {y1 : Int} {rr : Int ⊕ Nat} {rm : MM}
  (hd : 150 ≤ d)
  (hQ : Ext mb rm → ∀ o S1, Rp S1 rm → q_oux 0 o rr → Q o S1) :
  ∀ (n : Nat) {m : MM} {S : QS} {L : QL} {y2 : Int} {v0 : Value} {v1 : Value} {v2 : Value} , Ext mb m → fl_X11_takeOver_126 y1 n y2 m = some (rr, rm) → Rp S m → q_lo L 0 = some v0 → q_is 2 v0 4 → q_lo L 1 = some v1 → q_is 0 v1 y1 → q_lo L 2 = some v2 → q_is 0 v2 y2 → Go xs d qM_X11_takeOver 126 L [] S Q := by
  intro n
  induction n with
  | zero => intro m S L y2 v0 v1 v2; intro E h R l0 f0 l1 f1 l2 f2; cases h
  | succ n ih0 =>
    intro m S L y2 v0 v1 v2; intro E h R l0 f0 l1 f1 l2 f2
    have ih : ∀ mq : MM, Ext mb mq → ∀ {z2 : Int} {Sq : QS} {Lq : QL} {u0 : Value} {u1 : Value} {u2 : Value}, fl_X11_takeOver_126 y1 n z2 mq = some (rr, rm) → Rp Sq mq → q_lo Lq 0 = some u0 → q_is 2 u0 4 → q_lo Lq 1 = some u1 → q_is 0 u1 y1 → q_lo Lq 2 = some u2 → q_is 0 u2 z2 → Go xs d qM_X11_takeOver 126 Lq [] Sq Q := fun mq b => by intros; exact ih0 b ‹_› ‹_› ‹_› ‹_› ‹_› ‹_› ‹_› ‹_›
    unfold fl_X11_takeOver_126 at h
    refine go_iload_n (n := 2) (by decide +kernel) l2 f2 ?_
    refine go_aload_n (n := 0) (by decide +kernel) l0 f0 ?_
    refine go_getf (x := 24) (ci := 12) (kf := 2) (fin := 1) (t := 2) (by decide +kernel) (by decide +kernel) (by decide +kernel) R f0 (fx_k (c := 12) R (by decide +kernel)) fun v_235 f_236 => ?_
    have f_237 := q_is_eq (b := 7) f_236 (fx_v R (by decide +kernel)).symm
    obtain ⟨x_239, hc_238, h⟩ := bp_s h
    refine go_callV (x := 127) (mi := 326) (n := 0) (ci := 0) (as := []) (rest := [v2]) (by decide +kernel) (by decide +kernel) rfl rfl (q_sum8 _ (Nat.le_of_ble_eq_true rfl)) R f_237 (fx_k (c := 0) R (by decide +kernel)) (om_Jx4a65c_size_8abf5 (Nat.le_trans (by decide) hd) R (fx_k (c := 0) R (by decide +kernel)) f_237 hc_238) (fun _ S_243 q_246 => ?_) (fun _ _ qq => kr_x qq)
    refine kr_z (by decide) q_246 fun v_241 f_242 R_244 E_245 => ?_
    refine go_icmp (c := .ge) (o := 33) (t := 167) (P := ¬ (y2 < x_239)) (by decide +kernel) (by decide +kernel) f2 f_242 (Int.not_lt.symm) (fun hp_247 => ?_) (fun hp_247 => ?_)
    · have h := it_f hp_247 h
      refine go_iload_n (n := 1) (by decide +kernel) l1 f1 ?_
      cases h
      exact go_iret (by decide +kernel) rfl (Or.inl rfl) f1 (hQ E _ _ R_244 (q_out_v (by decide) f1))
    · have h := it_n hp_247 h
      refine go_aload_n (n := 0) (by decide +kernel) l0 f0 ?_
      refine go_getf (x := 24) (ci := 12) (kf := 2) (fin := 1) (t := 2) (by decide +kernel) (by decide +kernel) (by decide +kernel) R_244 f0 (fx_k (c := 12) R_244 (by decide +kernel)) fun v_248 f_249 => ?_
      have f_250 := q_is_eq (b := 7) f_249 (fx_v R_244 (by decide +kernel)).symm
      refine go_iload_n (n := 2) (by decide +kernel) l2 f2 ?_
      obtain ⟨x_252, hc_251, h⟩ := bp_s h
      refine go_callV (x := 305) (mi := 329) (n := 1) (ci := 0) (as := [v2]) (rest := []) (by decide +kernel) (by decide +kernel) rfl rfl (q_sum8 _ (Nat.le_of_ble_eq_true rfl)) R_244 f_250 (fx_k (c := 0) R_244 (by decide +kernel)) (om_Jx4a65c_get_915e3 (Nat.le_trans (by decide) hd) R_244 (fx_k (c := 0) R_244 (by decide +kernel)) f_250 f2 hc_251) (fun _ S_256 q_259 => ?_) (fun _ _ qq => kr_x qq)
      refine kr_z (by decide) q_259 fun v_254 f_255 R_257 E_258 => ?_
      obtain ⟨g_260, h⟩ := gd_s h
      refine go_cast (x := 181) (kd := 7) (a := 0) (b := 0) (by decide +kernel) (by decide +kernel) R_257 f_255 g_260 ?_
      refine go_astore_n (n := 3) (by decide +kernel) (by decide +kernel) f_255 fun L_261 l_262 kp_263 => ?_
      have l_264 := kp_263 0 _ l0 (by decide) (Or.inl (by decide))
      have l_265 := kp_263 1 _ l1 (by decide) (Or.inl (by decide))
      have l_266 := kp_263 2 _ l2 (by decide) (Or.inr (q_is_cat f2 (Or.inl rfl)))
      refine go_aload_n (n := 3) (by decide +kernel) l_262 f_255 ?_
      obtain ⟨x_270, e_271, h⟩ := lx_s h
      refine go_getf (x := 208) (ci := 7) (kf := 6) (fin := 0) (t := 0) (by decide +kernel) (by decide +kernel) (by decide +kernel) R_257 f_255 g_260 fun v_267 f_268 => ?_
      have f_269 := q_is_eq f_268 e_271
      refine go_if (c := .ne) (o := 8) (t := 161) (P := ¬ (x_270 = 0)) (by decide +kernel) (by decide +kernel) f_269 (Iff.rfl) (fun hp_272 => ?_) (fun hp_272 => ?_)
      · have h := it_f hp_272 h
        refine go_iinc (n := 2) (c := 1) (c' := 1) (by decide +kernel) (by decide +kernel) l_266 f2 (by decide) fun L_273 v_274 f_275 l_276 kp_277 => ?_
        obtain ⟨x_278, e_279, h⟩ := lx_s h
        have f_280 := q_is_eq f_275 e_279
        have l_281 := kp_277 0 _ l_264 (by decide) (Or.inl (by decide))
        have l_282 := kp_277 1 _ l_265 (by decide) (Or.inr (q_is_cat f1 (Or.inl rfl)))
        refine go_goto (o := (-38)) (t := 126) (by decide +kernel) (by decide +kernel) ?_
        exact ih m E h R_257 l_281 f0 l_282 f1 l_276 f_280
      · have h := it_n hp_272 h
        refine go_aload_n (n := 0) (by decide +kernel) l_264 f0 ?_
        refine go_aload_n (n := 3) (by decide +kernel) l_262 f_255 ?_
        obtain ⟨x_284, m_285, hc_283, h⟩ := bd_s h
        refine go_callV (x := 434) (mi := 174) (n := 1) (ci := 12) (as := [v_254]) (rest := []) (by decide +kernel) (by decide +kernel) rfl rfl (q_sum8 _ (Nat.le_of_ble_eq_true rfl)) R_257 f0 (fx_k (c := 12) R_257 (by decide +kernel)) (om_X11_restoreWork (Nat.le_trans (by decide) hd) R_257 f0 f_255 hc_283) (fun _ S_288 q_291 => ?_) (fun _ _ qq => kr_x qq)
        refine kr_v q_291 fun R_289 E_290 => ?_
        have E_292 := Ext.tr E E_290
        refine go_iinc (n := 2) (c := 1) (c' := 1) (by decide +kernel) (by decide +kernel) l_266 f2 (by decide) fun L_293 v_294 f_295 l_296 kp_297 => ?_
        obtain ⟨x_298, e_299, h⟩ := lx_s h
        have f_300 := q_is_eq f_295 e_299
        have l_301 := kp_297 0 _ l_264 (by decide) (Or.inl (by decide))
        have l_302 := kp_297 1 _ l_265 (by decide) (Or.inr (q_is_cat f1 (Or.inl rfl)))
        refine go_goto (o := (-38)) (t := 126) (by decide +kernel) (by decide +kernel) ?_
        exact ih m_285 E_292 h R_289 l_301 f0 l_302 f1 l_296 f_300
noncomputable def fm_X11_takeOver (m0 : MM) : Option ((Int ⊕ Nat) × MM) := lx (m0 4 17) fun x_4 =>
if x_4 = 0 then
some (.inr 2, mthr m0)
else
up m0 4 17 0 fun m_9 =>
fl_X11_takeOver_27  (fun x_106 m_116 =>
fl_X11_takeOver_73 x_106 (fun m_225 =>
fl_X11_takeOver_126 x_106  BIG 0 m_225) BIG 0 m_116) BIG 0 0 m_9
set_option maxHeartbeats 4000000 in
theorem om_X11_takeOver {xs : List Int32} {d : Nat} {S : QS} {m0 : MM} {v0 : Value} {rr : Int ⊕ Nat} {rm : MM}
  (hd : 151 ≤ d) (R : Rp S m0) (f0 : q_is 2 v0 4)
  (h : fm_X11_takeOver m0 = some (rr, rm)) : Mt xs d 129 [v0] S (Cx 0 m0 rm rr) := by
  obtain ⟨d, rfl⟩ : ∃ e, d = e + 1 := ⟨d - 1, by omega⟩
  have hd : 150 ≤ d := Nat.le_of_succ_le_succ hd
  refine Mt.of (M := qM_X11_takeOver) rfl (by rw [sl_1 (q_is_cat f0 (Or.inr rfl)), sl_0]; decide) ?_
  rw [la_1 (q_is_cat f0 (Or.inr rfl)), la_0]
  obtain ⟨L, hL⟩ : ∃ L : QL, L = [(0, v0)] := ⟨_, rfl⟩
  rw [← hL]
  have l0 : q_lo L 0 = some v0 := by rw [hL]; rfl
  have hQ : Ext m0 rm → ∀ o S1, Rp S1 rm → q_oux 0 o rr → (Cx 0 m0 rm rr) o S1 := fun a o S1 b e => ⟨b, a, e⟩
  unfold fm_X11_takeOver at h
  refine go_aload_n (n := 0) (by decide +kernel) l0 f0 ?_
  obtain ⟨x_4, e_5, h⟩ := lx_s h
  refine go_getf (x := 80) (ci := 12) (kf := 17) (fin := 0) (t := 0) (by decide +kernel) (by decide +kernel) (by decide +kernel) R f0 (fx_k (c := 12) R (by decide +kernel)) fun v_1 f_2 => ?_
  have f_3 := q_is_eq f_2 e_5
  refine go_if (c := .ne) (o := 14) (t := 18) (P := ¬ (x_4 = 0)) (by decide +kernel) (by decide +kernel) f_3 (Iff.rfl) (fun hp_6 => ?_) (fun hp_6 => ?_)
  · have h := it_f hp_6 h
    refine go_aload_n (n := 0) (by decide +kernel) l0 f0 ?_
    refine go_iconst (n := 0) (z := 0) (by decide +kernel) (by decide) fun v_7 f_8 => ?_
    obtain ⟨m_9, e_10, h⟩ := up_s h
    refine go_putf (x := 80) (ci := 12) (kf := 17) (fin := 0) (zt := 1) (by decide +kernel) (by decide +kernel) (by decide) (by decide +kernel) (by decide) (Or.inl rfl) R f0 f_8 (fun _ => by decide) (fx_k (c := 12) R (by decide +kernel)) e_10 (fx_f (j := 17) R.2 (fx_k (c := 12) R (by decide +kernel)) (by decide +kernel)) fun S_11 R_12 E_13 => ?_
    have E_14 := E_13
    refine go_iconst (n := 0) (z := 0) (by decide +kernel) (by decide) fun v_15 f_16 => ?_
    refine go_istore_n (n := 1) (by decide +kernel) (by decide +kernel) f_16 fun L_17 l_18 kp_19 => ?_
    have l_20 := kp_19 0 _ l0 (by decide) (Or.inr (q_is_cat f0 (Or.inr rfl)))
    refine go_iconst (n := 0) (z := 0) (by decide +kernel) (by decide) fun v_21 f_22 => ?_
    refine go_istore_n (n := 2) (by decide +kernel) (by decide +kernel) f_22 fun L_23 l_24 kp_25 => ?_
    have l_26 := kp_25 0 _ l_20 (by decide) (Or.inl (by decide))
    have l_27 := kp_25 1 _ l_18 (by decide) (Or.inr (q_is_cat f_16 (Or.inl rfl)))
    refine ol_X11_takeOver_27 hd  ?_ (fun b => hQ (Ext.tr E_14 b)) BIG (Ext.rf _) h R_12 l_26 f0 l_27 f_16 l_24 f_22
    intro m_116 E_117
    intro x_106 S_113 L_114 v_107 v_108
    intro h R_115 l_109 f_111 l_110 f_112
    have E_118 := Ext.tr E_14 E_117
    refine go_iconst (n := 0) (z := 0) (by decide +kernel) (by decide) fun v_119 f_120 => ?_
    refine go_istore_n (n := 2) (by decide +kernel) (by decide +kernel) f_120 fun L_121 l_122 kp_123 => ?_
    have l_124 := kp_123 0 _ l_109 (by decide) (Or.inl (by decide))
    have l_125 := kp_123 1 _ l_110 (by decide) (Or.inr (q_is_cat f_112 (Or.inl rfl)))
    refine ol_X11_takeOver_73 hd  ?_ (fun b => hQ (Ext.tr E_118 b)) BIG (Ext.rf _) h R_115 l_124 f_111 l_125 f_112 l_122 f_120
    intro m_225 E_226
    intro S_222 L_223 v_216 v_217
    intro h R_224 l_218 f_220 l_219 f_221
    have E_227 := Ext.tr E_118 E_226
    refine go_iconst (n := 0) (z := 0) (by decide +kernel) (by decide) fun v_228 f_229 => ?_
    refine go_istore_n (n := 2) (by decide +kernel) (by decide +kernel) f_229 fun L_230 l_231 kp_232 => ?_
    have l_233 := kp_232 0 _ l_218 (by decide) (Or.inl (by decide))
    have l_234 := kp_232 1 _ l_219 (by decide) (Or.inr (q_is_cat f_221 (Or.inl rfl)))
    refine ol_X11_takeOver_126 hd   (fun b => hQ (Ext.tr E_227 b)) BIG (Ext.rf _) h R_224 l_233 f_220 l_234 f_221 l_231 f_229
  · have h := it_n hp_6 h
    cases h
    exact go_thr (x := 111) (e := 2) (ic := 115) (b := 0) (by decide +kernel) (by decide +kernel) (by decide +kernel) R rfl fun Sq Rq Eq => hQ Eq _ _ Rq rfl
noncomputable def fl_X11_join_53 (y2 y3 : Int) (k110 : Int → MM → Option ((Int ⊕ Nat) × MM)) : Nat → Int → Int → MM → Option ((Int ⊕ Nat) × MM)
  | 0, _, _, _ => none
  | n + 1, y1, y4, m => gd (okc m y3 7) <| lx (m y3 19) fun x_73 =>
gd (okc m x_73 6) <| lx (m x_73 2) fun x_79 =>
if y4 < x_79 then
lx (m y3 6) fun x_85 =>
if x_85 = 0 then
bp (fm_X5_at x_73 y4 m) fun x_92 =>
bd (fm_X11_arrive y3 4 (w32 (Int.tdiv x_92 1000)) (Int.tmod x_92 1000) m) fun x_119 m_120 =>
lx (w32 (y1 + 1)) fun x_133 =>
lx (w32 (y4 + 1)) fun x_145 =>
fl_X11_join_53 y2 y3 k110 n x_133 x_145 m_120
else
k110 y1 m
else
k110 y1 m
set_option maxHeartbeats 4000000 in
theorem ol_X11_join_53 {xs : List Int32} {d : Nat} {Q : QO → QS → Prop} {mb : MM} {y2 y3 : Int} {k110 : Int → MM → Option ((Int ⊕ Nat) × MM)} {rr : Int ⊕ Nat} {rm : MM}
  (hd : 3 ≤ d)
  (hk110 : ∀ mq : MM, Ext mb mq → ∀ {z1 : Int} {Sq : QS} {Lq : QL} {u0 : Value} {u1 : Value} {u2 : Value} {u3 : Value}, k110 z1 mq = some (rr, rm) → Rp Sq mq → q_lo Lq 0 = some u0 → q_is 2 u0 4 → q_lo Lq 1 = some u1 → q_is 0 u1 z1 → q_lo Lq 2 = some u2 → q_is 0 u2 y2 → q_lo Lq 3 = some u3 → q_is 2 u3 y3 → Go xs d qM_X11_join 110 Lq [] Sq Q)
  (hQ : Ext mb rm → ∀ o S1, Rp S1 rm → q_oux 0 o rr → Q o S1) :
  ∀ (n : Nat) {m : MM} {S : QS} {L : QL} {y1 y4 : Int} {v0 : Value} {v1 : Value} {v2 : Value} {v3 : Value} {v4 : Value} , Ext mb m → fl_X11_join_53 y2 y3 k110 n y1 y4 m = some (rr, rm) → Rp S m → q_lo L 0 = some v0 → q_is 2 v0 4 → q_lo L 1 = some v1 → q_is 0 v1 y1 → q_lo L 2 = some v2 → q_is 0 v2 y2 → q_lo L 3 = some v3 → q_is 2 v3 y3 → q_lo L 4 = some v4 → q_is 0 v4 y4 → Go xs d qM_X11_join 53 L [] S Q := by
  intro n
  induction n with
  | zero => intro m S L y1 y4 v0 v1 v2 v3 v4; intro E h R l0 f0 l1 f1 l2 f2 l3 f3 l4 f4; cases h
  | succ n ih0 =>
    intro m S L y1 y4 v0 v1 v2 v3 v4; intro E h R l0 f0 l1 f1 l2 f2 l3 f3 l4 f4
    have ih : ∀ mq : MM, Ext mb mq → ∀ {z1 : Int} {z4 : Int} {Sq : QS} {Lq : QL} {u0 : Value} {u1 : Value} {u2 : Value} {u3 : Value} {u4 : Value}, fl_X11_join_53 y2 y3 k110 n z1 z4 mq = some (rr, rm) → Rp Sq mq → q_lo Lq 0 = some u0 → q_is 2 u0 4 → q_lo Lq 1 = some u1 → q_is 0 u1 z1 → q_lo Lq 2 = some u2 → q_is 0 u2 y2 → q_lo Lq 3 = some u3 → q_is 2 u3 y3 → q_lo Lq 4 = some u4 → q_is 0 u4 z4 → Go xs d qM_X11_join 53 Lq [] Sq Q := fun mq b => by intros; exact ih0 b ‹_› ‹_› ‹_› ‹_› ‹_› ‹_› ‹_› ‹_› ‹_› ‹_› ‹_› ‹_›
    unfold fl_X11_join_53 at h
    refine go_iload (n := 4) (by decide +kernel) l4 f4 ?_
    refine go_aload_n (n := 3) (by decide +kernel) l3 f3 ?_
    obtain ⟨g_71, h⟩ := gd_s h
    obtain ⟨x_73, e_74, h⟩ := lx_s h
    refine go_getf (x := 463) (ci := 7) (kf := 19) (fin := 2) (t := 2) (by decide +kernel) (by decide +kernel) (by decide +kernel) R f3 g_71 fun v_69 f_70 => ?_
    have f_72 := q_is_eq f_70 e_74
    obtain ⟨g_77, h⟩ := gd_s h
    obtain ⟨x_79, e_80, h⟩ := lx_s h
    refine go_getf (x := 108) (ci := 6) (kf := 2) (fin := 0) (t := 0) (by decide +kernel) (by decide +kernel) (by decide +kernel) R f_72 g_77 fun v_75 f_76 => ?_
    have f_78 := q_is_eq f_76 e_80
    refine go_icmp (c := .ge) (o := 48) (t := 110) (P := ¬ (y4 < x_79)) (by decide +kernel) (by decide +kernel) f4 f_78 (Int.not_lt.symm) (fun hp_81 => ?_) (fun hp_81 => ?_)
    · have h := it_f hp_81 h
      exact hk110 m E h R l0 f0 l1 f1 l2 f2 l3 f3
    · have h := it_n hp_81 h
      refine go_aload_n (n := 3) (by decide +kernel) l3 f3 ?_
      obtain ⟨x_85, e_86, h⟩ := lx_s h
      refine go_getf (x := 208) (ci := 7) (kf := 6) (fin := 0) (t := 0) (by decide +kernel) (by decide +kernel) (by decide +kernel) R f3 g_71 fun v_82 f_83 => ?_
      have f_84 := q_is_eq f_83 e_86
      refine go_if (c := .ne) (o := 41) (t := 110) (P := ¬ (x_85 = 0)) (by decide +kernel) (by decide +kernel) f_84 (Iff.rfl) (fun hp_87 => ?_) (fun hp_87 => ?_)
      · have h := it_f hp_87 h
        exact hk110 m E h R l0 f0 l1 f1 l2 f2 l3 f3
      · have h := it_n hp_87 h
        refine go_aload_n (n := 3) (by decide +kernel) l3 f3 ?_
        refine go_getf (x := 463) (ci := 7) (kf := 19) (fin := 2) (t := 2) (by decide +kernel) (by decide +kernel) (by decide +kernel) R f3 g_71 fun v_88 f_89 => ?_
        have f_90 := q_is_eq f_89 e_74
        refine go_iload (n := 4) (by decide +kernel) l4 f4 ?_
        obtain ⟨x_92, hc_91, h⟩ := bp_s h
        refine go_callV (x := 466) (mi := 59) (n := 1) (ci := 6) (as := [v4]) (rest := []) (by decide +kernel) (by decide +kernel) rfl rfl (q_sum8 _ (Nat.le_of_ble_eq_true rfl)) R f_90 g_77 (om_X5_at (Nat.le_trans (by decide) hd) R g_77 f_90 f4 hc_91) (fun _ S_96 q_99 => ?_) (fun _ _ qq => kr_x qq)
        refine kr_z (by decide) q_99 fun v_94 f_95 R_97 E_98 => ?_
        refine go_istore (n := 5) (by decide +kernel) (by decide +kernel) f_95 fun L_100 l_101 kp_102 => ?_
        have l_103 := kp_102 0 _ l0 (by decide) (Or.inl (by decide))
        have l_104 := kp_102 1 _ l1 (by decide) (Or.inl (by decide))
        have l_105 := kp_102 2 _ l2 (by decide) (Or.inl (by decide))
        have l_106 := kp_102 3 _ l3 (by decide) (Or.inl (by decide))
        have l_107 := kp_102 4 _ l4 (by decide) (Or.inr (q_is_cat f4 (Or.inl rfl)))
        refine go_aload_n (n := 0) (by decide +kernel) l_103 f0 ?_
        refine go_aload_n (n := 3) (by decide +kernel) l_106 f3 ?_
        refine go_iconst (n := 4) (z := 4) (by decide +kernel) (by decide) fun v_108 f_109 => ?_
        refine go_iload (n := 5) (by decide +kernel) l_101 f_95 ?_
        refine go_sipush (n := 1000) (z := 1000) (by decide +kernel) (by decide) fun v_110 f_111 => ?_
        refine go_idiv (by decide +kernel) f_95 f_111 (by decide) fun v_112 f_113 => ?_
        refine go_iload (n := 5) (by decide +kernel) l_101 f_95 ?_
        refine go_sipush (n := 1000) (z := 1000) (by decide +kernel) (by decide) fun v_114 f_115 => ?_
        refine go_irem (by decide +kernel) f_95 f_115 (by decide) fun v_116 f_117 => ?_
        obtain ⟨x_119, m_120, hc_118, h⟩ := bd_s h
        refine go_callV (x := 204) (mi := 152) (n := 4) (ci := 12) (as := [v3, v_108, v_112, v_116]) (rest := []) (by decide +kernel) (by decide +kernel) rfl rfl (q_sum8 _ (Nat.le_of_ble_eq_true rfl)) R_97 f0 (fx_k (c := 12) R_97 (by decide +kernel)) (om_X11_arrive (Nat.le_trans (by decide) hd) R_97 f0 f3 f_109 f_113 f_117 hc_118) (fun _ S_123 q_126 => ?_) (fun _ _ qq => kr_x qq)
        refine kr_v q_126 fun R_124 E_125 => ?_
        have E_127 := Ext.tr E E_125
        refine go_iinc (n := 1) (c := 1) (c' := 1) (by decide +kernel) (by decide +kernel) l_104 f1 (by decide) fun L_128 v_129 f_130 l_131 kp_132 => ?_
        obtain ⟨x_133, e_134, h⟩ := lx_s h
        have f_135 := q_is_eq f_130 e_134
        have l_136 := kp_132 0 _ l_103 (by decide) (Or.inr (q_is_cat f0 (Or.inr rfl)))
        have l_137 := kp_132 2 _ l_105 (by decide) (Or.inl (by decide))
        have l_138 := kp_132 3 _ l_106 (by decide) (Or.inl (by decide))
        have l_139 := kp_132 4 _ l_107 (by decide) (Or.inl (by decide))
        refine go_iinc (n := 4) (c := 1) (c' := 1) (by decide +kernel) (by decide +kernel) l_139 f4 (by decide) fun L_140 v_141 f_142 l_143 kp_144 => ?_
        obtain ⟨x_145, e_146, h⟩ := lx_s h
        have f_147 := q_is_eq f_142 e_146
        have l_148 := kp_144 0 _ l_136 (by decide) (Or.inl (by decide))
        have l_149 := kp_144 2 _ l_137 (by decide) (Or.inl (by decide))
        have l_150 := kp_144 3 _ l_138 (by decide) (Or.inr (q_is_cat f3 (Or.inr rfl)))
        have l_151 := kp_144 1 _ l_131 (by decide) (Or.inl (by decide))
        refine go_goto (o := (-54)) (t := 53) (by decide +kernel) (by decide +kernel) ?_
        exact ih m_120 E_127 h R_124 l_148 f0 l_151 f_135 l_149 f2 l_150 f3 l_143 f_147
noncomputable def fl_X11_join_27 : Nat → Int → Int → MM → Option ((Int ⊕ Nat) × MM)
  | 0, _, _, _ => none
  | n + 1, y1, y2, m => bp (fm_Jx4a65c_size_8abf5 7 m) fun x_32 =>
if y2 < x_32 then
bp (fm_Jx4a65c_get_915e3 7 y2 m) fun x_45 =>
gd (okc m x_45 7) <| fl_X11_join_53 y2 x_45 (fun x_152 m_168 =>
lx (m_168 x_45 19) fun x_175 =>
gd (okc m_168 x_175 6) <| bd (fm_X5_cut x_175 0 m_168) fun x_181 m_182 =>
lx (w32 (y2 + 1)) fun x_195 =>
fl_X11_join_27 n x_152 x_195 m_182) BIG y1 0 m
else
some (.inl y1, m)
set_option maxHeartbeats 4000000 in
theorem ol_X11_join_27 {xs : List Int32} {d : Nat} {Q : QO → QS → Prop} {mb : MM} {rr : Int ⊕ Nat} {rm : MM}
  (hd : 3 ≤ d)
  (hQ : Ext mb rm → ∀ o S1, Rp S1 rm → q_oux 0 o rr → Q o S1) :
  ∀ (n : Nat) {m : MM} {S : QS} {L : QL} {y1 y2 : Int} {v0 : Value} {v1 : Value} {v2 : Value} , Ext mb m → fl_X11_join_27 n y1 y2 m = some (rr, rm) → Rp S m → q_lo L 0 = some v0 → q_is 2 v0 4 → q_lo L 1 = some v1 → q_is 0 v1 y1 → q_lo L 2 = some v2 → q_is 0 v2 y2 → Go xs d qM_X11_join 27 L [] S Q := by
  intro n
  induction n with
  | zero => intro m S L y1 y2 v0 v1 v2; intro E h R l0 f0 l1 f1 l2 f2; cases h
  | succ n ih0 =>
    intro m S L y1 y2 v0 v1 v2; intro E h R l0 f0 l1 f1 l2 f2
    have ih : ∀ mq : MM, Ext mb mq → ∀ {z1 : Int} {z2 : Int} {Sq : QS} {Lq : QL} {u0 : Value} {u1 : Value} {u2 : Value}, fl_X11_join_27 n z1 z2 mq = some (rr, rm) → Rp Sq mq → q_lo Lq 0 = some u0 → q_is 2 u0 4 → q_lo Lq 1 = some u1 → q_is 0 u1 z1 → q_lo Lq 2 = some u2 → q_is 0 u2 z2 → Go xs d qM_X11_join 27 Lq [] Sq Q := fun mq b => by intros; exact ih0 b ‹_› ‹_› ‹_› ‹_› ‹_› ‹_› ‹_› ‹_›
    unfold fl_X11_join_27 at h
    refine go_iload_n (n := 2) (by decide +kernel) l2 f2 ?_
    refine go_aload_n (n := 0) (by decide +kernel) l0 f0 ?_
    refine go_getf (x := 24) (ci := 12) (kf := 2) (fin := 1) (t := 2) (by decide +kernel) (by decide +kernel) (by decide +kernel) R f0 (fx_k (c := 12) R (by decide +kernel)) fun v_28 f_29 => ?_
    have f_30 := q_is_eq (b := 7) f_29 (fx_v R (by decide +kernel)).symm
    obtain ⟨x_32, hc_31, h⟩ := bp_s h
    refine go_callV (x := 127) (mi := 326) (n := 0) (ci := 0) (as := []) (rest := [v2]) (by decide +kernel) (by decide +kernel) rfl rfl (q_sum8 _ (Nat.le_of_ble_eq_true rfl)) R f_30 (fx_k (c := 0) R (by decide +kernel)) (om_Jx4a65c_size_8abf5 (Nat.le_trans (by decide) hd) R (fx_k (c := 0) R (by decide +kernel)) f_30 hc_31) (fun _ S_36 q_39 => ?_) (fun _ _ qq => kr_x qq)
    refine kr_z (by decide) q_39 fun v_34 f_35 R_37 E_38 => ?_
    refine go_icmp (c := .ge) (o := 89) (t := 124) (P := ¬ (y2 < x_32)) (by decide +kernel) (by decide +kernel) f2 f_35 (Int.not_lt.symm) (fun hp_40 => ?_) (fun hp_40 => ?_)
    · have h := it_f hp_40 h
      refine go_iload_n (n := 1) (by decide +kernel) l1 f1 ?_
      cases h
      exact go_iret (by decide +kernel) rfl (Or.inl rfl) f1 (hQ E _ _ R_37 (q_out_v (by decide) f1))
    · have h := it_n hp_40 h
      refine go_aload_n (n := 0) (by decide +kernel) l0 f0 ?_
      refine go_getf (x := 24) (ci := 12) (kf := 2) (fin := 1) (t := 2) (by decide +kernel) (by decide +kernel) (by decide +kernel) R_37 f0 (fx_k (c := 12) R_37 (by decide +kernel)) fun v_41 f_42 => ?_
      have f_43 := q_is_eq (b := 7) f_42 (fx_v R_37 (by decide +kernel)).symm
      refine go_iload_n (n := 2) (by decide +kernel) l2 f2 ?_
      obtain ⟨x_45, hc_44, h⟩ := bp_s h
      refine go_callV (x := 305) (mi := 329) (n := 1) (ci := 0) (as := [v2]) (rest := []) (by decide +kernel) (by decide +kernel) rfl rfl (q_sum8 _ (Nat.le_of_ble_eq_true rfl)) R_37 f_43 (fx_k (c := 0) R_37 (by decide +kernel)) (om_Jx4a65c_get_915e3 (Nat.le_trans (by decide) hd) R_37 (fx_k (c := 0) R_37 (by decide +kernel)) f_43 f2 hc_44) (fun _ S_49 q_52 => ?_) (fun _ _ qq => kr_x qq)
      refine kr_z (by decide) q_52 fun v_47 f_48 R_50 E_51 => ?_
      obtain ⟨g_53, h⟩ := gd_s h
      refine go_cast (x := 181) (kd := 7) (a := 0) (b := 0) (by decide +kernel) (by decide +kernel) R_50 f_48 g_53 ?_
      refine go_astore_n (n := 3) (by decide +kernel) (by decide +kernel) f_48 fun L_54 l_55 kp_56 => ?_
      have l_57 := kp_56 0 _ l0 (by decide) (Or.inl (by decide))
      have l_58 := kp_56 1 _ l1 (by decide) (Or.inl (by decide))
      have l_59 := kp_56 2 _ l2 (by decide) (Or.inr (q_is_cat f2 (Or.inl rfl)))
      refine go_iconst (n := 0) (z := 0) (by decide +kernel) (by decide) fun v_60 f_61 => ?_
      refine go_istore (n := 4) (by decide +kernel) (by decide +kernel) f_61 fun L_62 l_63 kp_64 => ?_
      have l_65 := kp_64 0 _ l_57 (by decide) (Or.inl (by decide))
      have l_66 := kp_64 1 _ l_58 (by decide) (Or.inl (by decide))
      have l_67 := kp_64 2 _ l_59 (by decide) (Or.inl (by decide))
      have l_68 := kp_64 3 _ l_55 (by decide) (Or.inr (q_is_cat f_48 (Or.inr rfl)))
      refine ol_X11_join_53 hd  ?_ (fun b => hQ (Ext.tr E b)) BIG (Ext.rf _) h R_50 l_65 f0 l_66 f1 l_67 f2 l_68 f_48 l_63 f_61
      intro m_168 E_169
      intro x_152 S_165 L_166 v_153 v_154 v_155 v_156
      intro h R_167 l_157 f_161 l_158 f_162 l_159 f_163 l_160 f_164
      have E_170 := Ext.tr E E_169
      refine go_aload_n (n := 3) (by decide +kernel) l_160 f_164 ?_
      have g_173 := Ext.ok E_169 g_53
      obtain ⟨x_175, e_176, h⟩ := lx_s h
      refine go_getf (x := 463) (ci := 7) (kf := 19) (fin := 2) (t := 2) (by decide +kernel) (by decide +kernel) (by decide +kernel) R_167 f_164 g_173 fun v_171 f_172 => ?_
      have f_174 := q_is_eq f_172 e_176
      refine go_iconst (n := 0) (z := 0) (by decide +kernel) (by decide) fun v_177 f_178 => ?_
      obtain ⟨g_179, h⟩ := gd_s h
      obtain ⟨x_181, m_182, hc_180, h⟩ := bd_s h
      refine go_callV (x := 469) (mi := 63) (n := 1) (ci := 6) (as := [v_177]) (rest := []) (by decide +kernel) (by decide +kernel) rfl rfl (q_sum8 _ (Nat.le_of_ble_eq_true rfl)) R_167 f_174 g_179 (om_X5_cut (Nat.le_trans (by decide) hd) R_167 g_179 f_174 f_178 hc_180) (fun _ S_185 q_188 => ?_) (fun _ _ qq => kr_x qq)
      refine kr_v q_188 fun R_186 E_187 => ?_
      have E_189 := Ext.tr E_170 E_187
      refine go_iinc (n := 2) (c := 1) (c' := 1) (by decide +kernel) (by decide +kernel) l_159 f_163 (by decide) fun L_190 v_191 f_192 l_193 kp_194 => ?_
      obtain ⟨x_195, e_196, h⟩ := lx_s h
      have f_197 := q_is_eq f_192 e_196
      have l_198 := kp_194 0 _ l_157 (by decide) (Or.inl (by decide))
      have l_199 := kp_194 1 _ l_158 (by decide) (Or.inr (q_is_cat f_162 (Or.inl rfl)))
      refine go_goto (o := (-94)) (t := 27) (by decide +kernel) (by decide +kernel) ?_
      exact ih m_182 E_189 h R_186 l_198 f_161 l_199 f_162 l_193 f_197
noncomputable def fm_X11_join (m0 : MM) : Option ((Int ⊕ Nat) × MM) := lx (m0 4 17) fun x_4 =>
if x_4 = 0 then
up m0 4 17 1 fun m_9 =>
fl_X11_join_27   BIG 0 0 m_9
else
some (.inr 2, mthr m0)
set_option maxHeartbeats 4000000 in
theorem om_X11_join {xs : List Int32} {d : Nat} {S : QS} {m0 : MM} {v0 : Value} {rr : Int ⊕ Nat} {rm : MM}
  (hd : 4 ≤ d) (R : Rp S m0) (f0 : q_is 2 v0 4)
  (h : fm_X11_join m0 = some (rr, rm)) : Mt xs d 130 [v0] S (Cx 0 m0 rm rr) := by
  obtain ⟨d, rfl⟩ : ∃ e, d = e + 1 := ⟨d - 1, by omega⟩
  have hd : 3 ≤ d := Nat.le_of_succ_le_succ hd
  refine Mt.of (M := qM_X11_join) rfl (by rw [sl_1 (q_is_cat f0 (Or.inr rfl)), sl_0]; decide) ?_
  rw [la_1 (q_is_cat f0 (Or.inr rfl)), la_0]
  obtain ⟨L, hL⟩ : ∃ L : QL, L = [(0, v0)] := ⟨_, rfl⟩
  rw [← hL]
  have l0 : q_lo L 0 = some v0 := by rw [hL]; rfl
  have hQ : Ext m0 rm → ∀ o S1, Rp S1 rm → q_oux 0 o rr → (Cx 0 m0 rm rr) o S1 := fun a o S1 b e => ⟨b, a, e⟩
  unfold fm_X11_join at h
  refine go_aload_n (n := 0) (by decide +kernel) l0 f0 ?_
  obtain ⟨x_4, e_5, h⟩ := lx_s h
  refine go_getf (x := 80) (ci := 12) (kf := 17) (fin := 0) (t := 0) (by decide +kernel) (by decide +kernel) (by decide +kernel) R f0 (fx_k (c := 12) R (by decide +kernel)) fun v_1 f_2 => ?_
  have f_3 := q_is_eq f_2 e_5
  refine go_if (c := .eq) (o := 14) (t := 18) (P := x_4 = 0) (by decide +kernel) (by decide +kernel) f_3 (Iff.rfl) (fun hp_6 => ?_) (fun hp_6 => ?_)
  · have h := it_t hp_6 h
    refine go_aload_n (n := 0) (by decide +kernel) l0 f0 ?_
    refine go_iconst (n := 1) (z := 1) (by decide +kernel) (by decide) fun v_7 f_8 => ?_
    obtain ⟨m_9, e_10, h⟩ := up_s h
    refine go_putf (x := 80) (ci := 12) (kf := 17) (fin := 0) (zt := 1) (by decide +kernel) (by decide +kernel) (by decide) (by decide +kernel) (by decide) (Or.inl rfl) R f0 f_8 (fun _ => by decide) (fx_k (c := 12) R (by decide +kernel)) e_10 (fx_f (j := 17) R.2 (fx_k (c := 12) R (by decide +kernel)) (by decide +kernel)) fun S_11 R_12 E_13 => ?_
    have E_14 := E_13
    refine go_iconst (n := 0) (z := 0) (by decide +kernel) (by decide) fun v_15 f_16 => ?_
    refine go_istore_n (n := 1) (by decide +kernel) (by decide +kernel) f_16 fun L_17 l_18 kp_19 => ?_
    have l_20 := kp_19 0 _ l0 (by decide) (Or.inr (q_is_cat f0 (Or.inr rfl)))
    refine go_iconst (n := 0) (z := 0) (by decide +kernel) (by decide) fun v_21 f_22 => ?_
    refine go_istore_n (n := 2) (by decide +kernel) (by decide +kernel) f_22 fun L_23 l_24 kp_25 => ?_
    have l_26 := kp_25 0 _ l_20 (by decide) (Or.inl (by decide))
    have l_27 := kp_25 1 _ l_18 (by decide) (Or.inr (q_is_cat f_16 (Or.inl rfl)))
    refine ol_X11_join_27 hd   (fun b => hQ (Ext.tr E_14 b)) BIG (Ext.rf _) h R_12 l_26 f0 l_27 f_16 l_24 f_22
  · have h := it_f hp_6 h
    cases h
    exact go_thr (x := 111) (e := 2) (ic := 115) (b := 0) (by decide +kernel) (by decide +kernel) (by decide +kernel) R rfl fun Sq Rq Eq => hQ Eq _ _ Rq rfl
end DF22
