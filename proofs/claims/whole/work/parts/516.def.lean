/-! Methods as functions (written by wip/whole/dec.py), 16: X11_beginChild, X11_dropEvent, X11_queueTag, X11_endWork, X11_parentOf, X11_closeRun. -/
section DF16
noncomputable def fj_X11_beginChild_35 (y1 y2 : Int) (m : MM) : Option (Int × MM) := bd (fm_X11_arrive y1 6 y2 0 m) fun x_21 m_22 =>
some (0, m_22)
set_option maxHeartbeats 4000000 in
theorem oj_X11_beginChild_35 {xs : List Int32} {d : Nat} {S : QS} {L : QL} {Q : QO → QS → Prop} {m : MM} {y1 y2 : Int} {v0 : Value} {v1 : Value} {v2 : Value}  {rz : Int} {rm : MM}
  (hd : 10 ≤ d) (R : Rp S m) (l0 : q_lo L 0 = some v0) (f0 : q_is 2 v0 4) (l1 : q_lo L 1 = some v1) (f1 : q_is 2 v1 y1) (l2 : q_lo L 2 = some v2) (f2 : q_is 0 v2 y2)
  (hQ : Ext m rm → ∀ o S1, Rp S1 rm → q_out 9 o rz → Q o S1)
  (h : fj_X11_beginChild_35 y1 y2 m = some (rz, rm)) : Go xs d qM_X11_beginChild 35 L [] S Q := by
  unfold fj_X11_beginChild_35 at h
  refine go_aload_n (n := 0) (by decide +kernel) l0 f0 ?_
  refine go_aload_n (n := 1) (by decide +kernel) l1 f1 ?_
  refine go_bipush (n := 6) (z := 6) (by decide +kernel) (by decide) fun v_16 f_17 => ?_
  refine go_iload_n (n := 2) (by decide +kernel) l2 f2 ?_
  refine go_iconst (n := 0) (z := 0) (by decide +kernel) (by decide) fun v_18 f_19 => ?_
  obtain ⟨x_21, m_22, hc_20, h⟩ := bd_s h
  refine go_callV (x := 204) (mi := 152) (n := 4) (ci := 12) (as := [v1, v_16, v2, v_18]) (rest := []) (by decide +kernel) (by decide +kernel) rfl rfl (q_sum8 _ (Nat.le_of_ble_eq_true rfl)) R f0 (fx_k (c := 12) R (by decide +kernel)) (om_X11_arrive (Nat.le_trans (by decide) hd) R f0 f1 f_17 f2 f_19 hc_20) (fun _ S_25 q_28 => ?_) (fun _ _ qq => kr_x qq)
  refine kr_v q_28 fun R_26 E_27 => ?_
  have E_31 := E_27
  refine go_goto (o := 20) (t := 64) (by decide +kernel) (by decide +kernel) ?_
  cases h
  exact go_vret (by decide +kernel) rfl (hQ E_31 _ _ R_26 q_out_n)
noncomputable def fm_X11_beginChild (p1 p2 p3 p4 : Int) (m0 : MM) : Option (Int × MM) := bp (fm_Jx4a65c_size_8abf5 7 m0) fun x_5 =>
if x_5 < 30 then
bp (fm_J9_floorMod_7cf53 p3 4 m0) fun x_42 =>
gd (0 ≤ x_42 ∧ x_42 < 4) <| lx (m0 5 x_42) fun x_54 =>
gd (okc m0 x_54 11) <| lx (m0 x_54 0) fun x_60 =>
gd (okc m0 x_60 0) <| bp (fm_Jx4a65c_isEmpty_aae02 x_60 m0) fun x_64 =>
if x_64 = 0 then
gd (okc m0 p1 7) <| lx (m0 p1 2) fun x_77 =>
lx (m0 p1 0) fun x_82 =>
bd (fm_X11_startRun p3 x_77 p4 x_82 p2 m0) fun x_85 m_86 =>
some (0, m_86)
else
fj_X11_beginChild_35 p1 p2 m0
else
fj_X11_beginChild_35 p1 p2 m0
set_option maxHeartbeats 4000000 in
theorem om_X11_beginChild {xs : List Int32} {d : Nat} {S : QS} {m0 : MM} {p1 p2 p3 p4 : Int} {v0 : Value} {v1 : Value} {v2 : Value} {v3 : Value} {v4 : Value} {rz : Int} {rm : MM}
  (hd : 11 ≤ d) (R : Rp S m0) (f0 : q_is 2 v0 4) (f1 : q_is 2 v1 p1) (f2 : q_is 0 v2 p2) (f3 : q_is 0 v3 p3) (f4 : q_is 0 v4 p4)
  (h : fm_X11_beginChild p1 p2 p3 p4 m0 = some (rz, rm)) : Mt xs d 169 [v0, v1, v2, v3, v4] S (Cr 9 m0 rm rz) := by
  obtain ⟨d, rfl⟩ : ∃ e, d = e + 1 := ⟨d - 1, by omega⟩
  have hd : 10 ≤ d := Nat.le_of_succ_le_succ hd
  refine Mt.of (M := qM_X11_beginChild) rfl (by rw [sl_1 (q_is_cat f0 (Or.inr rfl)), sl_1 (q_is_cat f1 (Or.inr rfl)), sl_1 (q_is_cat f2 (Or.inl rfl)), sl_1 (q_is_cat f3 (Or.inl rfl)), sl_1 (q_is_cat f4 (Or.inl rfl)), sl_0]; decide) ?_
  rw [la_1 (q_is_cat f0 (Or.inr rfl)), la_1 (q_is_cat f1 (Or.inr rfl)), la_1 (q_is_cat f2 (Or.inl rfl)), la_1 (q_is_cat f3 (Or.inl rfl)), la_1 (q_is_cat f4 (Or.inl rfl)), la_0]
  obtain ⟨L, hL⟩ : ∃ L : QL, L = [(0, v0), (0 + 1, v1), (0 + 1 + 1, v2), (0 + 1 + 1 + 1, v3), (0 + 1 + 1 + 1 + 1, v4)] := ⟨_, rfl⟩
  rw [← hL]
  have l0 : q_lo L 0 = some v0 := by rw [hL]; rfl
  have l1 : q_lo L 1 = some v1 := by rw [hL]; rfl
  have l2 : q_lo L 2 = some v2 := by rw [hL]; rfl
  have l3 : q_lo L 3 = some v3 := by rw [hL]; rfl
  have l4 : q_lo L 4 = some v4 := by rw [hL]; rfl
  have hQ : Ext m0 rm → ∀ o S1, Rp S1 rm → q_out 9 o rz → (Cr 9 m0 rm rz) o S1 := fun a o S1 b e => ⟨b, a, e⟩
  unfold fm_X11_beginChild at h
  refine go_aload_n (n := 0) (by decide +kernel) l0 f0 ?_
  refine go_getf (x := 24) (ci := 12) (kf := 2) (fin := 1) (t := 2) (by decide +kernel) (by decide +kernel) (by decide +kernel) R f0 (fx_k (c := 12) R (by decide +kernel)) fun v_1 f_2 => ?_
  have f_3 := q_is_eq (b := 7) f_2 (fx_v R (by decide +kernel)).symm
  obtain ⟨x_5, hc_4, h⟩ := bp_s h
  refine go_callV (x := 127) (mi := 326) (n := 0) (ci := 0) (as := []) (rest := []) (by decide +kernel) (by decide +kernel) rfl rfl (q_sum8 _ (Nat.le_of_ble_eq_true rfl)) R f_3 (fx_k (c := 0) R (by decide +kernel)) (om_Jx4a65c_size_8abf5 (Nat.le_trans (by decide) hd) R (fx_k (c := 0) R (by decide +kernel)) f_3 hc_4) (fun _ S_9 q_12 => ?_) (fun _ _ qq => kr_x qq)
  refine kr_z (by decide) q_12 fun v_7 f_8 R_10 E_11 => ?_
  refine go_bipush (n := 30) (z := 30) (by decide +kernel) (by decide) fun v_13 f_14 => ?_
  refine go_icmp (c := .ge) (o := 26) (t := 35) (P := ¬ (x_5 < 30)) (by decide +kernel) (by decide +kernel) f_8 f_14 (Int.not_lt.symm) (fun hp_15 => ?_) (fun hp_15 => ?_)
  · have h := it_f hp_15 h
    exact oj_X11_beginChild_35 hd R_10 l0 f0 l1 f1 l2 f2 hQ h
  · have h := it_n hp_15 h
    refine go_aload_n (n := 0) (by decide +kernel) l0 f0 ?_
    refine go_getf (x := 11) (ci := 12) (kf := 0) (fin := 1) (t := 2) (by decide +kernel) (by decide +kernel) (by decide +kernel) R_10 f0 (fx_k (c := 12) R_10 (by decide +kernel)) fun v_32 f_33 => ?_
    have f_34 := q_is_eq (b := 5) f_33 (fx_v R_10 (by decide +kernel)).symm
    refine go_iload_n (n := 3) (by decide +kernel) l3 f3 ?_
    refine go_aload_n (n := 0) (by decide +kernel) l0 f0 ?_
    refine go_getf (x := 11) (ci := 12) (kf := 0) (fin := 1) (t := 2) (by decide +kernel) (by decide +kernel) (by decide +kernel) R_10 f0 (fx_k (c := 12) R_10 (by decide +kernel)) fun v_35 f_36 => ?_
    have f_37 := q_is_eq (b := 5) f_36 (fx_v R_10 (by decide +kernel)).symm
    refine go_alen (by decide +kernel) R_10 f_37 (okl_of (fx_k (c := 106) R_10 (by decide +kernel)) (by decide)) fun v_38 f_39 => ?_
    have f_40 := q_is_eq (b := 4) f_39 (by rw [fx_l R_10 (ln := 4) (by decide +kernel)]; decide)
    obtain ⟨x_42, hc_41, h⟩ := bp_s h
    refine go_callS (x := 496) (mi := 318) (n := 2) (b := 0) (as := [v3, v_38]) (rest := [v_32]) (by decide +kernel) (by decide +kernel) rfl rfl (q_sum8 _ (Nat.le_of_ble_eq_true rfl)) (om_J9_floorMod_7cf53 (Nat.le_trans (by decide) hd) R_10 f3 f_40 hc_41) (fun _ S_46 q_49 => ?_) (fun _ _ qq => kr_x qq)
    refine kr_z (by decide) q_49 fun v_44 f_45 R_47 E_48 => ?_
    obtain ⟨g_52, h⟩ := gd_s h
    obtain ⟨x_54, e_55, h⟩ := lx_s h
    refine go_aald (kd := 106) (by decide +kernel) (by decide) R_47 f_34 f_45 (fx_k (c := 106) R_47 (by decide +kernel)) (fx_x (a := 5) (ln := 4) R_47 (by decide +kernel) g_52) fun v_50 f_51 => ?_
    have f_53 := q_is_eq f_51 e_55
    obtain ⟨g_58, h⟩ := gd_s h
    obtain ⟨x_60, e_61, h⟩ := lx_s h
    refine go_getf (x := 124) (ci := 11) (kf := 0) (fin := 2) (t := 2) (by decide +kernel) (by decide +kernel) (by decide +kernel) R_47 f_53 g_58 fun v_56 f_57 => ?_
    have f_59 := q_is_eq f_57 e_61
    obtain ⟨g_62, h⟩ := gd_s h
    obtain ⟨x_64, hc_63, h⟩ := bp_s h
    refine go_callV (x := 170) (mi := 327) (n := 0) (ci := 0) (as := []) (rest := []) (by decide +kernel) (by decide +kernel) rfl rfl (q_sum8 _ (Nat.le_of_ble_eq_true rfl)) R_47 f_59 g_62 (om_Jx4a65c_isEmpty_aae02 (Nat.le_trans (by decide) hd) R_47 g_62 f_59 hc_63) (fun _ S_68 q_71 => ?_) (fun _ _ qq => kr_x qq)
    refine kr_z (by decide) q_71 fun v_66 f_67 R_69 E_70 => ?_
    refine go_if (c := .eq) (o := 15) (t := 47) (P := x_64 = 0) (by decide +kernel) (by decide +kernel) f_67 (Iff.rfl) (fun hp_72 => ?_) (fun hp_72 => ?_)
    · have h := it_t hp_72 h
      refine go_aload_n (n := 0) (by decide +kernel) l0 f0 ?_
      refine go_iload_n (n := 3) (by decide +kernel) l3 f3 ?_
      refine go_aload_n (n := 1) (by decide +kernel) l1 f1 ?_
      obtain ⟨g_75, h⟩ := gd_s h
      obtain ⟨x_77, e_78, h⟩ := lx_s h
      refine go_getf (x := 283) (ci := 7) (kf := 2) (fin := 2) (t := 0) (by decide +kernel) (by decide +kernel) (by decide +kernel) R_69 f1 g_75 fun v_73 f_74 => ?_
      have f_76 := q_is_eq f_74 e_78
      refine go_iload (n := 4) (by decide +kernel) l4 f4 ?_
      refine go_aload_n (n := 1) (by decide +kernel) l1 f1 ?_
      obtain ⟨x_82, e_83, h⟩ := lx_s h
      refine go_getf (x := 180) (ci := 7) (kf := 0) (fin := 2) (t := 0) (by decide +kernel) (by decide +kernel) (by decide +kernel) R_69 f1 g_75 fun v_79 f_80 => ?_
      have f_81 := q_is_eq f_80 e_83
      refine go_iload_n (n := 2) (by decide +kernel) l2 f2 ?_
      obtain ⟨x_85, m_86, hc_84, h⟩ := bd_s h
      refine go_callV (x := 176) (mi := 151) (n := 5) (ci := 12) (as := [v3, v_73, v4, v_79, v2]) (rest := []) (by decide +kernel) (by decide +kernel) rfl rfl (q_sum8 _ (Nat.le_of_ble_eq_true rfl)) R_69 f0 (fx_k (c := 12) R_69 (by decide +kernel)) (om_X11_startRun (Nat.le_trans (by decide) hd) R_69 f0 f3 f_76 f4 f_81 f2 hc_84) (fun _ S_89 q_92 => ?_) (fun _ _ qq => kr_x qq)
      refine kr_z (by decide) q_92 fun v_87 f_88 R_90 E_91 => ?_
      have E_95 := E_91
      refine go_pop (by decide +kernel) f_88 (Or.inr rfl) ?_
      cases h
      exact go_vret (by decide +kernel) rfl (hQ E_95 _ _ R_90 q_out_n)
    · have h := it_f hp_72 h
      exact oj_X11_beginChild_35 hd R_69 l0 f0 l1 f1 l2 f2 hQ h
noncomputable def fl_X11_dropEvent_2 (y1 y2 : Int) (k56 : MM → Option (Int × MM)) : Nat → Int → MM → Option (Int × MM)
  | 0, _, _ => none
  | n + 1, y3, m => bp (fm_Jx4a65c_size_8abf5 8 m) fun x_13 =>
if y3 < x_13 then
bp (fm_Jx4a65c_get_915e3 8 y3 m) fun x_26 =>
gd (okc m x_26 1) <| lx (m x_26 0) fun x_45 =>
gd (x_45 = 0 ∨ x_45 = 1 ∨ 4 ≤ x_45) <| gd (y1 = 0 ∨ y1 = 1 ∨ 4 ≤ y1) <| if x_45 = y1 then
lx (m x_26 1) fun x_64 =>
if x_64 = y2 then
up m x_26 5 2 fun m_80 =>
lx (w32 (y3 + 1)) fun x_92 =>
fl_X11_dropEvent_2 y1 y2 k56 n x_92 m_80
else
lx (w32 (y3 + 1)) fun x_72 =>
fl_X11_dropEvent_2 y1 y2 k56 n x_72 m
else
lx (w32 (y3 + 1)) fun x_55 =>
fl_X11_dropEvent_2 y1 y2 k56 n x_55 m
else
k56 m
set_option maxHeartbeats 4000000 in
theorem ol_X11_dropEvent_2 {xs : List Int32} {d : Nat} {Q : QO → QS → Prop} {mb : MM} {y1 y2 : Int} {k56 : MM → Option (Int × MM)} {rz : Int} {rm : MM}
  (hd : 4 ≤ d)
  (hk56 : ∀ mq : MM, Ext mb mq → ∀ {Sq : QS} {Lq : QL} {u0 : Value} {u1 : Value} {u2 : Value}, k56 mq = some (rz, rm) → Rp Sq mq → q_lo Lq 0 = some u0 → q_is 2 u0 4 → q_lo Lq 1 = some u1 → q_is 2 u1 y1 → q_lo Lq 2 = some u2 → q_is 0 u2 y2 → Go xs d qM_X11_dropEvent 56 Lq [] Sq Q)
  (hQ : Ext mb rm → ∀ o S1, Rp S1 rm → q_out 9 o rz → Q o S1) :
  ∀ (n : Nat) {m : MM} {S : QS} {L : QL} {y3 : Int} {v0 : Value} {v1 : Value} {v2 : Value} {v3 : Value} , Ext mb m → fl_X11_dropEvent_2 y1 y2 k56 n y3 m = some (rz, rm) → Rp S m → q_lo L 0 = some v0 → q_is 2 v0 4 → q_lo L 1 = some v1 → q_is 2 v1 y1 → q_lo L 2 = some v2 → q_is 0 v2 y2 → q_lo L 3 = some v3 → q_is 0 v3 y3 → Go xs d qM_X11_dropEvent 2 L [] S Q := by
  intro n
  induction n with
  | zero => intro m S L y3 v0 v1 v2 v3; intro E h R l0 f0 l1 f1 l2 f2 l3 f3; cases h
  | succ n ih0 =>
    intro m S L y3 v0 v1 v2 v3; intro E h R l0 f0 l1 f1 l2 f2 l3 f3
    have ih : ∀ mq : MM, Ext mb mq → ∀ {z3 : Int} {Sq : QS} {Lq : QL} {u0 : Value} {u1 : Value} {u2 : Value} {u3 : Value}, fl_X11_dropEvent_2 y1 y2 k56 n z3 mq = some (rz, rm) → Rp Sq mq → q_lo Lq 0 = some u0 → q_is 2 u0 4 → q_lo Lq 1 = some u1 → q_is 2 u1 y1 → q_lo Lq 2 = some u2 → q_is 0 u2 y2 → q_lo Lq 3 = some u3 → q_is 0 u3 z3 → Go xs d qM_X11_dropEvent 2 Lq [] Sq Q := fun mq b => by intros; exact ih0 b ‹_› ‹_› ‹_› ‹_› ‹_› ‹_› ‹_› ‹_› ‹_› ‹_›
    unfold fl_X11_dropEvent_2 at h
    refine go_iload_n (n := 3) (by decide +kernel) l3 f3 ?_
    refine go_aload_n (n := 0) (by decide +kernel) l0 f0 ?_
    refine go_getf (x := 28) (ci := 12) (kf := 3) (fin := 1) (t := 2) (by decide +kernel) (by decide +kernel) (by decide +kernel) R f0 (fx_k (c := 12) R (by decide +kernel)) fun v_9 f_10 => ?_
    have f_11 := q_is_eq (b := 8) f_10 (fx_v R (by decide +kernel)).symm
    obtain ⟨x_13, hc_12, h⟩ := bp_s h
    refine go_callV (x := 127) (mi := 326) (n := 0) (ci := 0) (as := []) (rest := [v3]) (by decide +kernel) (by decide +kernel) rfl rfl (q_sum8 _ (Nat.le_of_ble_eq_true rfl)) R f_11 (fx_k (c := 0) R (by decide +kernel)) (om_Jx4a65c_size_8abf5 (Nat.le_trans (by decide) hd) R (fx_k (c := 0) R (by decide +kernel)) f_11 hc_12) (fun _ S_17 q_20 => ?_) (fun _ _ qq => kr_x qq)
    refine kr_z (by decide) q_20 fun v_15 f_16 R_18 E_19 => ?_
    refine go_icmp (c := .ge) (o := 46) (t := 56) (P := ¬ (y3 < x_13)) (by decide +kernel) (by decide +kernel) f3 f_16 (Int.not_lt.symm) (fun hp_21 => ?_) (fun hp_21 => ?_)
    · have h := it_f hp_21 h
      exact hk56 m E h R_18 l0 f0 l1 f1 l2 f2
    · have h := it_n hp_21 h
      refine go_aload_n (n := 0) (by decide +kernel) l0 f0 ?_
      refine go_getf (x := 28) (ci := 12) (kf := 3) (fin := 1) (t := 2) (by decide +kernel) (by decide +kernel) (by decide +kernel) R_18 f0 (fx_k (c := 12) R_18 (by decide +kernel)) fun v_22 f_23 => ?_
      have f_24 := q_is_eq (b := 8) f_23 (fx_v R_18 (by decide +kernel)).symm
      refine go_iload_n (n := 3) (by decide +kernel) l3 f3 ?_
      obtain ⟨x_26, hc_25, h⟩ := bp_s h
      refine go_callV (x := 305) (mi := 329) (n := 1) (ci := 0) (as := [v3]) (rest := []) (by decide +kernel) (by decide +kernel) rfl rfl (q_sum8 _ (Nat.le_of_ble_eq_true rfl)) R_18 f_24 (fx_k (c := 0) R_18 (by decide +kernel)) (om_Jx4a65c_get_915e3 (Nat.le_trans (by decide) hd) R_18 (fx_k (c := 0) R_18 (by decide +kernel)) f_24 f3 hc_25) (fun _ S_30 q_33 => ?_) (fun _ _ qq => kr_x qq)
      refine kr_z (by decide) q_33 fun v_28 f_29 R_31 E_32 => ?_
      obtain ⟨g_34, h⟩ := gd_s h
      refine go_cast (x := 347) (kd := 1) (a := 0) (b := 0) (by decide +kernel) (by decide +kernel) R_31 f_29 g_34 ?_
      refine go_astore (n := 4) (by decide +kernel) (by decide +kernel) f_29 fun L_35 l_36 kp_37 => ?_
      have l_38 := kp_37 0 _ l0 (by decide) (Or.inl (by decide))
      have l_39 := kp_37 1 _ l1 (by decide) (Or.inl (by decide))
      have l_40 := kp_37 2 _ l2 (by decide) (Or.inl (by decide))
      have l_41 := kp_37 3 _ l3 (by decide) (Or.inr (q_is_cat f3 (Or.inl rfl)))
      refine go_aload (n := 4) (by decide +kernel) l_36 f_29 ?_
      obtain ⟨x_45, e_46, h⟩ := lx_s h
      refine go_getf (x := 366) (ci := 1) (kf := 0) (fin := 2) (t := 2) (by decide +kernel) (by decide +kernel) (by decide +kernel) R_31 f_29 g_34 fun v_42 f_43 => ?_
      have f_44 := q_is_eq f_43 e_46
      refine go_aload_n (n := 1) (by decide +kernel) l_39 f1 ?_
      obtain ⟨g_48, h⟩ := gd_s h
      obtain ⟨g_49, h⟩ := gd_s h
      refine go_acmp (c := .ne) (o := 18) (t := 50) (P := ¬ (x_45 = y1)) (by decide +kernel) (by decide +kernel) f_44 f1 g_48 g_49 Iff.rfl (fun hp_47 => ?_) (fun hp_47 => ?_)
      · have h := it_f hp_47 h
        refine go_iinc (n := 3) (c := 1) (c' := 1) (by decide +kernel) (by decide +kernel) l_41 f3 (by decide) fun L_50 v_51 f_52 l_53 kp_54 => ?_
        obtain ⟨x_55, e_56, h⟩ := lx_s h
        have f_57 := q_is_eq f_52 e_56
        have l_58 := kp_54 0 _ l_38 (by decide) (Or.inl (by decide))
        have l_59 := kp_54 1 _ l_39 (by decide) (Or.inl (by decide))
        have l_60 := kp_54 2 _ l_40 (by decide) (Or.inr (q_is_cat f2 (Or.inl rfl)))
        refine go_goto (o := (-51)) (t := 2) (by decide +kernel) (by decide +kernel) ?_
        exact ih m E h R_31 l_58 f0 l_59 f1 l_60 f2 l_53 f_57
      · have h := it_n hp_47 h
        refine go_aload (n := 4) (by decide +kernel) l_36 f_29 ?_
        obtain ⟨x_64, e_65, h⟩ := lx_s h
        refine go_getf (x := 367) (ci := 1) (kf := 1) (fin := 2) (t := 0) (by decide +kernel) (by decide +kernel) (by decide +kernel) R_31 f_29 g_34 fun v_61 f_62 => ?_
        have f_63 := q_is_eq f_62 e_65
        refine go_iload_n (n := 2) (by decide +kernel) l_40 f2 ?_
        refine go_icmp (c := .ne) (o := 9) (t := 50) (P := ¬ (x_64 = y2)) (by decide +kernel) (by decide +kernel) f_63 f2 (Iff.rfl) (fun hp_66 => ?_) (fun hp_66 => ?_)
        · have h := it_f hp_66 h
          refine go_iinc (n := 3) (c := 1) (c' := 1) (by decide +kernel) (by decide +kernel) l_41 f3 (by decide) fun L_67 v_68 f_69 l_70 kp_71 => ?_
          obtain ⟨x_72, e_73, h⟩ := lx_s h
          have f_74 := q_is_eq f_69 e_73
          have l_75 := kp_71 0 _ l_38 (by decide) (Or.inl (by decide))
          have l_76 := kp_71 1 _ l_39 (by decide) (Or.inl (by decide))
          have l_77 := kp_71 2 _ l_40 (by decide) (Or.inr (q_is_cat f2 (Or.inl rfl)))
          refine go_goto (o := (-51)) (t := 2) (by decide +kernel) (by decide +kernel) ?_
          exact ih m E h R_31 l_75 f0 l_76 f1 l_77 f2 l_70 f_74
        · have h := it_n hp_66 h
          refine go_aload (n := 4) (by decide +kernel) l_36 f_29 ?_
          refine go_iconst (n := 2) (z := 2) (by decide +kernel) (by decide) fun v_78 f_79 => ?_
          obtain ⟨m_80, e_81, h⟩ := up_s h
          refine go_putf (x := 351) (ci := 1) (kf := 5) (fin := 0) (zt := 0) (by decide +kernel) (by decide +kernel) (by decide) (by decide +kernel) (by decide) (Or.inl rfl) R_31 f_29 f_79 (fun hq => absurd hq (by decide)) g_34 e_81 (fx_f (j := 5) R_31.2 g_34 (by decide +kernel)) fun S_82 R_83 E_84 => ?_
          have E_86 := Ext.tr E E_84
          refine go_iinc (n := 3) (c := 1) (c' := 1) (by decide +kernel) (by decide +kernel) l_41 f3 (by decide) fun L_87 v_88 f_89 l_90 kp_91 => ?_
          obtain ⟨x_92, e_93, h⟩ := lx_s h
          have f_94 := q_is_eq f_89 e_93
          have l_95 := kp_91 0 _ l_38 (by decide) (Or.inl (by decide))
          have l_96 := kp_91 1 _ l_39 (by decide) (Or.inl (by decide))
          have l_97 := kp_91 2 _ l_40 (by decide) (Or.inr (q_is_cat f2 (Or.inl rfl)))
          refine go_goto (o := (-51)) (t := 2) (by decide +kernel) (by decide +kernel) ?_
          exact ih m_80 E_86 h R_83 l_95 f0 l_96 f1 l_97 f2 l_90 f_94
noncomputable def fl_X11_dropEvent_63 (y1 y2 : Int) : Nat → Int → MM → Option (Int × MM)
  | 0, _, _ => none
  | n + 1, y3, m => bp (fm_Jx4a65c_size_8abf5 7 m) fun x_140 =>
if y3 < x_140 then
bp (fm_Jx4a65c_get_915e3 7 y3 m) fun x_153 =>
gd (okc m x_153 7) <| lx (m x_153 4) fun x_172 =>
gd (okc m y1 7) <| lx (m y1 0) fun x_178 =>
if x_172 = x_178 then
lx (m x_153 5) fun x_195 =>
if x_195 = y2 then
lx (m x_153 6) fun x_212 =>
if x_212 = 0 then
bd (fm_X11_cancelRun x_153 m) fun x_236 m_237 =>
up m_237 x_153 4 (-1) fun m_250 =>
lx (w32 (y3 + 1)) fun x_262 =>
fl_X11_dropEvent_63 y1 y2 n x_262 m_250
else
up m x_153 4 (-1) fun m_217 =>
lx (w32 (y3 + 1)) fun x_229 =>
fl_X11_dropEvent_63 y1 y2 n x_229 m_217
else
lx (w32 (y3 + 1)) fun x_203 =>
fl_X11_dropEvent_63 y1 y2 n x_203 m
else
lx (w32 (y3 + 1)) fun x_186 =>
fl_X11_dropEvent_63 y1 y2 n x_186 m
else
some (0, m)
set_option maxHeartbeats 4000000 in
theorem ol_X11_dropEvent_63 {xs : List Int32} {d : Nat} {Q : QO → QS → Prop} {mb : MM} {y1 y2 : Int} {rz : Int} {rm : MM}
  (hd : 4 ≤ d)
  (hQ : Ext mb rm → ∀ o S1, Rp S1 rm → q_out 9 o rz → Q o S1) :
  ∀ (n : Nat) {m : MM} {S : QS} {L : QL} {y3 : Int} {v0 : Value} {v1 : Value} {v2 : Value} {v3 : Value} , Ext mb m → fl_X11_dropEvent_63 y1 y2 n y3 m = some (rz, rm) → Rp S m → q_lo L 0 = some v0 → q_is 2 v0 4 → q_lo L 1 = some v1 → q_is 2 v1 y1 → q_lo L 2 = some v2 → q_is 0 v2 y2 → q_lo L 3 = some v3 → q_is 0 v3 y3 → Go xs d qM_X11_dropEvent 63 L [] S Q := by
  intro n
  induction n with
  | zero => intro m S L y3 v0 v1 v2 v3; intro E h R l0 f0 l1 f1 l2 f2 l3 f3; cases h
  | succ n ih0 =>
    intro m S L y3 v0 v1 v2 v3; intro E h R l0 f0 l1 f1 l2 f2 l3 f3
    have ih : ∀ mq : MM, Ext mb mq → ∀ {z3 : Int} {Sq : QS} {Lq : QL} {u0 : Value} {u1 : Value} {u2 : Value} {u3 : Value}, fl_X11_dropEvent_63 y1 y2 n z3 mq = some (rz, rm) → Rp Sq mq → q_lo Lq 0 = some u0 → q_is 2 u0 4 → q_lo Lq 1 = some u1 → q_is 2 u1 y1 → q_lo Lq 2 = some u2 → q_is 0 u2 y2 → q_lo Lq 3 = some u3 → q_is 0 u3 z3 → Go xs d qM_X11_dropEvent 63 Lq [] Sq Q := fun mq b => by intros; exact ih0 b ‹_› ‹_› ‹_› ‹_› ‹_› ‹_› ‹_› ‹_› ‹_› ‹_›
    unfold fl_X11_dropEvent_63 at h
    refine go_iload_n (n := 3) (by decide +kernel) l3 f3 ?_
    refine go_aload_n (n := 0) (by decide +kernel) l0 f0 ?_
    refine go_getf (x := 24) (ci := 12) (kf := 2) (fin := 1) (t := 2) (by decide +kernel) (by decide +kernel) (by decide +kernel) R f0 (fx_k (c := 12) R (by decide +kernel)) fun v_136 f_137 => ?_
    have f_138 := q_is_eq (b := 7) f_137 (fx_v R (by decide +kernel)).symm
    obtain ⟨x_140, hc_139, h⟩ := bp_s h
    refine go_callV (x := 127) (mi := 326) (n := 0) (ci := 0) (as := []) (rest := [v3]) (by decide +kernel) (by decide +kernel) rfl rfl (q_sum8 _ (Nat.le_of_ble_eq_true rfl)) R f_138 (fx_k (c := 0) R (by decide +kernel)) (om_Jx4a65c_size_8abf5 (Nat.le_trans (by decide) hd) R (fx_k (c := 0) R (by decide +kernel)) f_138 hc_139) (fun _ S_144 q_147 => ?_) (fun _ _ qq => kr_x qq)
    refine kr_z (by decide) q_147 fun v_142 f_143 R_145 E_146 => ?_
    refine go_icmp (c := .ge) (o := 64) (t := 135) (P := ¬ (y3 < x_140)) (by decide +kernel) (by decide +kernel) f3 f_143 (Int.not_lt.symm) (fun hp_148 => ?_) (fun hp_148 => ?_)
    · have h := it_f hp_148 h
      cases h
      exact go_vret (by decide +kernel) rfl (hQ E _ _ R_145 q_out_n)
    · have h := it_n hp_148 h
      refine go_aload_n (n := 0) (by decide +kernel) l0 f0 ?_
      refine go_getf (x := 24) (ci := 12) (kf := 2) (fin := 1) (t := 2) (by decide +kernel) (by decide +kernel) (by decide +kernel) R_145 f0 (fx_k (c := 12) R_145 (by decide +kernel)) fun v_149 f_150 => ?_
      have f_151 := q_is_eq (b := 7) f_150 (fx_v R_145 (by decide +kernel)).symm
      refine go_iload_n (n := 3) (by decide +kernel) l3 f3 ?_
      obtain ⟨x_153, hc_152, h⟩ := bp_s h
      refine go_callV (x := 305) (mi := 329) (n := 1) (ci := 0) (as := [v3]) (rest := []) (by decide +kernel) (by decide +kernel) rfl rfl (q_sum8 _ (Nat.le_of_ble_eq_true rfl)) R_145 f_151 (fx_k (c := 0) R_145 (by decide +kernel)) (om_Jx4a65c_get_915e3 (Nat.le_trans (by decide) hd) R_145 (fx_k (c := 0) R_145 (by decide +kernel)) f_151 f3 hc_152) (fun _ S_157 q_160 => ?_) (fun _ _ qq => kr_x qq)
      refine kr_z (by decide) q_160 fun v_155 f_156 R_158 E_159 => ?_
      obtain ⟨g_161, h⟩ := gd_s h
      refine go_cast (x := 181) (kd := 7) (a := 0) (b := 0) (by decide +kernel) (by decide +kernel) R_158 f_156 g_161 ?_
      refine go_astore (n := 4) (by decide +kernel) (by decide +kernel) f_156 fun L_162 l_163 kp_164 => ?_
      have l_165 := kp_164 0 _ l0 (by decide) (Or.inl (by decide))
      have l_166 := kp_164 1 _ l1 (by decide) (Or.inl (by decide))
      have l_167 := kp_164 2 _ l2 (by decide) (Or.inl (by decide))
      have l_168 := kp_164 3 _ l3 (by decide) (Or.inr (q_is_cat f3 (Or.inl rfl)))
      refine go_aload (n := 4) (by decide +kernel) l_163 f_156 ?_
      obtain ⟨x_172, e_173, h⟩ := lx_s h
      refine go_getf (x := 414) (ci := 7) (kf := 4) (fin := 0) (t := 0) (by decide +kernel) (by decide +kernel) (by decide +kernel) R_158 f_156 g_161 fun v_169 f_170 => ?_
      have f_171 := q_is_eq f_170 e_173
      refine go_aload_n (n := 1) (by decide +kernel) l_166 f1 ?_
      obtain ⟨g_176, h⟩ := gd_s h
      obtain ⟨x_178, e_179, h⟩ := lx_s h
      refine go_getf (x := 180) (ci := 7) (kf := 0) (fin := 2) (t := 0) (by decide +kernel) (by decide +kernel) (by decide +kernel) R_158 f1 g_176 fun v_174 f_175 => ?_
      have f_177 := q_is_eq f_175 e_179
      refine go_icmp (c := .ne) (o := 33) (t := 129) (P := ¬ (x_172 = x_178)) (by decide +kernel) (by decide +kernel) f_171 f_177 (Iff.rfl) (fun hp_180 => ?_) (fun hp_180 => ?_)
      · have h := it_f hp_180 h
        refine go_iinc (n := 3) (c := 1) (c' := 1) (by decide +kernel) (by decide +kernel) l_168 f3 (by decide) fun L_181 v_182 f_183 l_184 kp_185 => ?_
        obtain ⟨x_186, e_187, h⟩ := lx_s h
        have f_188 := q_is_eq f_183 e_187
        have l_189 := kp_185 0 _ l_165 (by decide) (Or.inl (by decide))
        have l_190 := kp_185 1 _ l_166 (by decide) (Or.inl (by decide))
        have l_191 := kp_185 2 _ l_167 (by decide) (Or.inr (q_is_cat f2 (Or.inl rfl)))
        refine go_goto (o := (-69)) (t := 63) (by decide +kernel) (by decide +kernel) ?_
        exact ih m E h R_158 l_189 f0 l_190 f1 l_191 f2 l_184 f_188
      · have h := it_n hp_180 h
        refine go_aload (n := 4) (by decide +kernel) l_163 f_156 ?_
        obtain ⟨x_195, e_196, h⟩ := lx_s h
        refine go_getf (x := 417) (ci := 7) (kf := 5) (fin := 2) (t := 0) (by decide +kernel) (by decide +kernel) (by decide +kernel) R_158 f_156 g_161 fun v_192 f_193 => ?_
        have f_194 := q_is_eq f_193 e_196
        refine go_iload_n (n := 2) (by decide +kernel) l_167 f2 ?_
        refine go_icmp (c := .ne) (o := 24) (t := 129) (P := ¬ (x_195 = y2)) (by decide +kernel) (by decide +kernel) f_194 f2 (Iff.rfl) (fun hp_197 => ?_) (fun hp_197 => ?_)
        · have h := it_f hp_197 h
          refine go_iinc (n := 3) (c := 1) (c' := 1) (by decide +kernel) (by decide +kernel) l_168 f3 (by decide) fun L_198 v_199 f_200 l_201 kp_202 => ?_
          obtain ⟨x_203, e_204, h⟩ := lx_s h
          have f_205 := q_is_eq f_200 e_204
          have l_206 := kp_202 0 _ l_165 (by decide) (Or.inl (by decide))
          have l_207 := kp_202 1 _ l_166 (by decide) (Or.inl (by decide))
          have l_208 := kp_202 2 _ l_167 (by decide) (Or.inr (q_is_cat f2 (Or.inl rfl)))
          refine go_goto (o := (-69)) (t := 63) (by decide +kernel) (by decide +kernel) ?_
          exact ih m E h R_158 l_206 f0 l_207 f1 l_208 f2 l_201 f_205
        · have h := it_n hp_197 h
          refine go_aload (n := 4) (by decide +kernel) l_163 f_156 ?_
          obtain ⟨x_212, e_213, h⟩ := lx_s h
          refine go_getf (x := 208) (ci := 7) (kf := 6) (fin := 0) (t := 0) (by decide +kernel) (by decide +kernel) (by decide +kernel) R_158 f_156 g_161 fun v_209 f_210 => ?_
          have f_211 := q_is_eq f_210 e_213
          refine go_if (c := .ne) (o := 10) (t := 123) (P := ¬ (x_212 = 0)) (by decide +kernel) (by decide +kernel) f_211 (Iff.rfl) (fun hp_214 => ?_) (fun hp_214 => ?_)
          · have h := it_f hp_214 h
            refine go_aload (n := 4) (by decide +kernel) l_163 f_156 ?_
            refine go_iconst (n := (-1)) (z := (-1)) (by decide +kernel) (by decide) fun v_215 f_216 => ?_
            obtain ⟨m_217, e_218, h⟩ := up_s h
            refine go_putf (x := 414) (ci := 7) (kf := 4) (fin := 0) (zt := 0) (by decide +kernel) (by decide +kernel) (by decide) (by decide +kernel) (by decide) (Or.inl rfl) R_158 f_156 f_216 (fun hq => absurd hq (by decide)) g_161 e_218 (fx_f (j := 4) R_158.2 g_161 (by decide +kernel)) fun S_219 R_220 E_221 => ?_
            have E_223 := Ext.tr E E_221
            refine go_iinc (n := 3) (c := 1) (c' := 1) (by decide +kernel) (by decide +kernel) l_168 f3 (by decide) fun L_224 v_225 f_226 l_227 kp_228 => ?_
            obtain ⟨x_229, e_230, h⟩ := lx_s h
            have f_231 := q_is_eq f_226 e_230
            have l_232 := kp_228 0 _ l_165 (by decide) (Or.inl (by decide))
            have l_233 := kp_228 1 _ l_166 (by decide) (Or.inl (by decide))
            have l_234 := kp_228 2 _ l_167 (by decide) (Or.inr (q_is_cat f2 (Or.inl rfl)))
            refine go_goto (o := (-69)) (t := 63) (by decide +kernel) (by decide +kernel) ?_
            exact ih m_217 E_223 h R_220 l_232 f0 l_233 f1 l_234 f2 l_227 f_231
          · have h := it_n hp_214 h
            refine go_aload_n (n := 0) (by decide +kernel) l_165 f0 ?_
            refine go_aload (n := 4) (by decide +kernel) l_163 f_156 ?_
            obtain ⟨x_236, m_237, hc_235, h⟩ := bd_s h
            refine go_callV (x := 242) (mi := 153) (n := 1) (ci := 12) (as := [v_155]) (rest := []) (by decide +kernel) (by decide +kernel) rfl rfl (q_sum8 _ (Nat.le_of_ble_eq_true rfl)) R_158 f0 (fx_k (c := 12) R_158 (by decide +kernel)) (om_X11_cancelRun (Nat.le_trans (by decide) hd) R_158 f0 f_156 hc_235) (fun _ S_240 q_243 => ?_) (fun _ _ qq => kr_x qq)
            refine kr_z (by decide) q_243 fun v_238 f_239 R_241 E_242 => ?_
            have E_246 := Ext.tr E E_242
            refine go_pop (by decide +kernel) f_239 (Or.inl rfl) ?_
            refine go_aload (n := 4) (by decide +kernel) l_163 f_156 ?_
            refine go_iconst (n := (-1)) (z := (-1)) (by decide +kernel) (by decide) fun v_247 f_248 => ?_
            have g_249 := Ext.ok E_242 g_161
            obtain ⟨m_250, e_251, h⟩ := up_s h
            refine go_putf (x := 414) (ci := 7) (kf := 4) (fin := 0) (zt := 0) (by decide +kernel) (by decide +kernel) (by decide) (by decide +kernel) (by decide) (Or.inl rfl) R_241 f_156 f_248 (fun hq => absurd hq (by decide)) g_249 e_251 (fx_f (j := 4) R_241.2 g_249 (by decide +kernel)) fun S_252 R_253 E_254 => ?_
            have E_256 := Ext.tr E_246 E_254
            refine go_iinc (n := 3) (c := 1) (c' := 1) (by decide +kernel) (by decide +kernel) l_168 f3 (by decide) fun L_257 v_258 f_259 l_260 kp_261 => ?_
            obtain ⟨x_262, e_263, h⟩ := lx_s h
            have f_264 := q_is_eq f_259 e_263
            have l_265 := kp_261 0 _ l_165 (by decide) (Or.inl (by decide))
            have l_266 := kp_261 1 _ l_166 (by decide) (Or.inl (by decide))
            have l_267 := kp_261 2 _ l_167 (by decide) (Or.inr (q_is_cat f2 (Or.inl rfl)))
            refine go_goto (o := (-69)) (t := 63) (by decide +kernel) (by decide +kernel) ?_
            exact ih m_250 E_256 h R_253 l_265 f0 l_266 f1 l_267 f2 l_260 f_264
noncomputable def fm_X11_dropEvent (p1 p2 : Int) (m0 : MM) : Option (Int × MM) := fl_X11_dropEvent_2 p1 p2 (fun m_110 =>
gd (okc m_110 p1 7) <| bd (fm_X6_dropTimer p1 p2 m_110) fun x_117 m_118 =>
fl_X11_dropEvent_63 p1 p2  BIG 0 m_118) BIG 0 m0
set_option maxHeartbeats 4000000 in
theorem om_X11_dropEvent {xs : List Int32} {d : Nat} {S : QS} {m0 : MM} {p1 p2 : Int} {v0 : Value} {v1 : Value} {v2 : Value} {rz : Int} {rm : MM}
  (hd : 5 ≤ d) (R : Rp S m0) (f0 : q_is 2 v0 4) (f1 : q_is 2 v1 p1) (f2 : q_is 0 v2 p2)
  (h : fm_X11_dropEvent p1 p2 m0 = some (rz, rm)) : Mt xs d 170 [v0, v1, v2] S (Cr 9 m0 rm rz) := by
  obtain ⟨d, rfl⟩ : ∃ e, d = e + 1 := ⟨d - 1, by omega⟩
  have hd : 4 ≤ d := Nat.le_of_succ_le_succ hd
  refine Mt.of (M := qM_X11_dropEvent) rfl (by rw [sl_1 (q_is_cat f0 (Or.inr rfl)), sl_1 (q_is_cat f1 (Or.inr rfl)), sl_1 (q_is_cat f2 (Or.inl rfl)), sl_0]; decide) ?_
  rw [la_1 (q_is_cat f0 (Or.inr rfl)), la_1 (q_is_cat f1 (Or.inr rfl)), la_1 (q_is_cat f2 (Or.inl rfl)), la_0]
  obtain ⟨L, hL⟩ : ∃ L : QL, L = [(0, v0), (0 + 1, v1), (0 + 1 + 1, v2)] := ⟨_, rfl⟩
  rw [← hL]
  have l0 : q_lo L 0 = some v0 := by rw [hL]; rfl
  have l1 : q_lo L 1 = some v1 := by rw [hL]; rfl
  have l2 : q_lo L 2 = some v2 := by rw [hL]; rfl
  have hQ : Ext m0 rm → ∀ o S1, Rp S1 rm → q_out 9 o rz → (Cr 9 m0 rm rz) o S1 := fun a o S1 b e => ⟨b, a, e⟩
  unfold fm_X11_dropEvent at h
  refine go_iconst (n := 0) (z := 0) (by decide +kernel) (by decide) fun v_1 f_2 => ?_
  refine go_istore_n (n := 3) (by decide +kernel) (by decide +kernel) f_2 fun L_3 l_4 kp_5 => ?_
  have l_6 := kp_5 0 _ l0 (by decide) (Or.inl (by decide))
  have l_7 := kp_5 1 _ l1 (by decide) (Or.inl (by decide))
  have l_8 := kp_5 2 _ l2 (by decide) (Or.inr (q_is_cat f2 (Or.inl rfl)))
  refine ol_X11_dropEvent_2 hd  ?_ hQ BIG (Ext.rf _) h R l_6 f0 l_7 f1 l_8 f2 l_4 f_2
  intro m_110 E_111
  intro S_107 L_108 v_98 v_99 v_100
  intro h R_109 l_101 f_104 l_102 f_105 l_103 f_106
  have E_112 := E_111
  refine go_aload_n (n := 1) (by decide +kernel) l_102 f_105 ?_
  refine go_iload_n (n := 2) (by decide +kernel) l_103 f_106 ?_
  obtain ⟨g_115, h⟩ := gd_s h
  obtain ⟨x_117, m_118, hc_116, h⟩ := bd_s h
  refine go_callV (x := 613) (mi := 72) (n := 1) (ci := 7) (as := [v_100]) (rest := []) (by decide +kernel) (by decide +kernel) rfl rfl (q_sum8 _ (Nat.le_of_ble_eq_true rfl)) R_109 f_105 g_115 (om_X6_dropTimer (Nat.le_trans (by decide) hd) R_109 g_115 f_105 f_106 hc_116) (fun _ S_121 q_124 => ?_) (fun _ _ qq => kr_x qq)
  refine kr_v q_124 fun R_122 E_123 => ?_
  have E_127 := Ext.tr E_112 E_123
  refine go_iconst (n := 0) (z := 0) (by decide +kernel) (by decide) fun v_128 f_129 => ?_
  refine go_istore_n (n := 3) (by decide +kernel) (by decide +kernel) f_129 fun L_130 l_131 kp_132 => ?_
  have l_133 := kp_132 0 _ l_101 (by decide) (Or.inl (by decide))
  have l_134 := kp_132 1 _ l_102 (by decide) (Or.inl (by decide))
  have l_135 := kp_132 2 _ l_103 (by decide) (Or.inr (q_is_cat f_106 (Or.inl rfl)))
  refine ol_X11_dropEvent_63 hd   (fun b => hQ (Ext.tr E_127 b)) BIG (Ext.rf _) h R_122 l_133 f_104 l_134 f_105 l_135 f_106 l_131 f_129
noncomputable def fj_X11_queueTag_31 (m : MM) : Option (Int × MM) := lx (m 4 11) fun x_15 =>
up m 4 11 (w32 (x_15 + 1)) fun m_21 =>
some (0, m_21)
set_option maxHeartbeats 4000000 in
theorem oj_X11_queueTag_31 {xs : List Int32} {d : Nat} {S : QS} {L : QL} {Q : QO → QS → Prop} {m : MM} {v0 : Value}  {rz : Int} {rm : MM}
  (hd : 1 ≤ d) (R : Rp S m) (l0 : q_lo L 0 = some v0) (f0 : q_is 2 v0 4)
  (hQ : Ext m rm → ∀ o S1, Rp S1 rm → q_out 9 o rz → Q o S1)
  (h : fj_X11_queueTag_31 m = some (rz, rm)) : Go xs d qM_X11_queueTag 31 L [] S Q := by
  unfold fj_X11_queueTag_31 at h
  refine go_aload_n (n := 0) (by decide +kernel) l0 f0 ?_
  refine go_dup (by decide +kernel) f0 (Or.inr rfl) ?_
  obtain ⟨x_15, e_16, h⟩ := lx_s h
  refine go_getf (x := 61) (ci := 12) (kf := 11) (fin := 0) (t := 0) (by decide +kernel) (by decide +kernel) (by decide +kernel) R f0 (fx_k (c := 12) R (by decide +kernel)) fun v_12 f_13 => ?_
  have f_14 := q_is_eq f_13 e_16
  refine go_iconst (n := 1) (z := 1) (by decide +kernel) (by decide) fun v_17 f_18 => ?_
  refine go_iadd (by decide +kernel) f_14 f_18 fun v_19 f_20 => ?_
  obtain ⟨m_21, e_22, h⟩ := up_s h
  refine go_putf (x := 61) (ci := 12) (kf := 11) (fin := 0) (zt := 0) (by decide +kernel) (by decide +kernel) (by decide) (by decide +kernel) (by decide) (Or.inl rfl) R f0 f_20 (fun hq => absurd hq (by decide)) (fx_k (c := 12) R (by decide +kernel)) e_22 (fx_f (j := 11) R.2 (fx_k (c := 12) R (by decide +kernel)) (by decide +kernel)) fun S_23 R_24 E_25 => ?_
  have E_27 := E_25
  cases h
  exact go_vret (by decide +kernel) rfl (hQ E_27 _ _ R_24 q_out_n)
noncomputable def fm_X11_queueTag (p1 p2 : Int) (m0 : MM) : Option (Int × MM) := lx (m0 14 2) fun x_7 =>
if x_7 < 51200 then
gd (okc m0 p1 7) <| lx (m0 p1 0) fun x_35 =>
bd (fm_X5_add 14 (w32 ((w32 (x_35 * 1000)) + p2)) m0) fun x_46 m_47 =>
fj_X11_queueTag_31 m_47
else
fj_X11_queueTag_31 m0
set_option maxHeartbeats 4000000 in
theorem om_X11_queueTag {xs : List Int32} {d : Nat} {S : QS} {m0 : MM} {p1 p2 : Int} {v0 : Value} {v1 : Value} {v2 : Value} {rz : Int} {rm : MM}
  (hd : 2 ≤ d) (R : Rp S m0) (f0 : q_is 2 v0 4) (f1 : q_is 2 v1 p1) (f2 : q_is 0 v2 p2)
  (h : fm_X11_queueTag p1 p2 m0 = some (rz, rm)) : Mt xs d 167 [v0, v1, v2] S (Cr 9 m0 rm rz) := by
  obtain ⟨d, rfl⟩ : ∃ e, d = e + 1 := ⟨d - 1, by omega⟩
  have hd : 1 ≤ d := Nat.le_of_succ_le_succ hd
  refine Mt.of (M := qM_X11_queueTag) rfl (by rw [sl_1 (q_is_cat f0 (Or.inr rfl)), sl_1 (q_is_cat f1 (Or.inr rfl)), sl_1 (q_is_cat f2 (Or.inl rfl)), sl_0]; decide) ?_
  rw [la_1 (q_is_cat f0 (Or.inr rfl)), la_1 (q_is_cat f1 (Or.inr rfl)), la_1 (q_is_cat f2 (Or.inl rfl)), la_0]
  obtain ⟨L, hL⟩ : ∃ L : QL, L = [(0, v0), (0 + 1, v1), (0 + 1 + 1, v2)] := ⟨_, rfl⟩
  rw [← hL]
  have l0 : q_lo L 0 = some v0 := by rw [hL]; rfl
  have l1 : q_lo L 1 = some v1 := by rw [hL]; rfl
  have l2 : q_lo L 2 = some v2 := by rw [hL]; rfl
  have hQ : Ext m0 rm → ∀ o S1, Rp S1 rm → q_out 9 o rz → (Cr 9 m0 rm rz) o S1 := fun a o S1 b e => ⟨b, a, e⟩
  unfold fm_X11_queueTag at h
  refine go_aload_n (n := 0) (by decide +kernel) l0 f0 ?_
  refine go_getf (x := 50) (ci := 12) (kf := 9) (fin := 1) (t := 2) (by decide +kernel) (by decide +kernel) (by decide +kernel) R f0 (fx_k (c := 12) R (by decide +kernel)) fun v_1 f_2 => ?_
  have f_3 := q_is_eq (b := 14) f_2 (fx_v R (by decide +kernel)).symm
  obtain ⟨x_7, e_8, h⟩ := lx_s h
  refine go_getf (x := 108) (ci := 6) (kf := 2) (fin := 0) (t := 0) (by decide +kernel) (by decide +kernel) (by decide +kernel) R f_3 (fx_k (c := 6) R (by decide +kernel)) fun v_4 f_5 => ?_
  have f_6 := q_is_eq f_5 e_8
  refine go_ldc_w (x := 609) (n := 51200) (a := 0) (b := 0) (z := 51200) (by decide +kernel) (by decide +kernel) (by decide +kernel) fun v_9 f_10 => ?_
  refine go_icmp (c := .ge) (o := 21) (t := 31) (P := ¬ (x_7 < 51200)) (by decide +kernel) (by decide +kernel) f_6 f_10 (Int.not_lt.symm) (fun hp_11 => ?_) (fun hp_11 => ?_)
  · have h := it_f hp_11 h
    exact oj_X11_queueTag_31 hd R l0 f0 hQ h
  · have h := it_n hp_11 h
    refine go_aload_n (n := 0) (by decide +kernel) l0 f0 ?_
    refine go_getf (x := 50) (ci := 12) (kf := 9) (fin := 1) (t := 2) (by decide +kernel) (by decide +kernel) (by decide +kernel) R f0 (fx_k (c := 12) R (by decide +kernel)) fun v_28 f_29 => ?_
    have f_30 := q_is_eq (b := 14) f_29 (fx_v R (by decide +kernel)).symm
    refine go_aload_n (n := 1) (by decide +kernel) l1 f1 ?_
    obtain ⟨g_33, h⟩ := gd_s h
    obtain ⟨x_35, e_36, h⟩ := lx_s h
    refine go_getf (x := 180) (ci := 7) (kf := 0) (fin := 2) (t := 0) (by decide +kernel) (by decide +kernel) (by decide +kernel) R f1 g_33 fun v_31 f_32 => ?_
    have f_34 := q_is_eq f_32 e_36
    refine go_sipush (n := 1000) (z := 1000) (by decide +kernel) (by decide) fun v_37 f_38 => ?_
    refine go_imul (by decide +kernel) f_34 f_38 fun v_39 f_40 => ?_
    refine go_iload_n (n := 2) (by decide +kernel) l2 f2 ?_
    refine go_iadd (by decide +kernel) f_40 f2 fun v_41 f_42 => ?_
    refine go_i2l (by decide +kernel) f_42 fun v_43 f_44 => ?_
    obtain ⟨x_46, m_47, hc_45, h⟩ := bd_s h
    refine go_callV (x := 120) (mi := 60) (n := 1) (ci := 6) (as := [v_43]) (rest := []) (by decide +kernel) (by decide +kernel) rfl rfl (q_sum8 _ (Nat.le_of_ble_eq_true rfl)) R f_30 (fx_k (c := 6) R (by decide +kernel)) (om_X5_add (Nat.le_trans (by decide) hd) R (fx_k (c := 6) R (by decide +kernel)) f_30 f_44 hc_45) (fun _ S_50 q_53 => ?_) (fun _ _ qq => kr_x qq)
    refine kr_v q_53 fun R_51 E_52 => ?_
    have E_56 := E_52
    exact oj_X11_queueTag_31 hd R_51 l0 f0 (fun b => hQ (Ext.tr E_56 b)) h
noncomputable def fl_X11_endWork_2 (y1 : Int) (k44 : MM → Option (Int × MM)) : Nat → Int → MM → Option (Int × MM)
  | 0, _, _ => none
  | n + 1, y2, m => bp (fm_Jx4a65c_size_8abf5 8 m) fun x_12 =>
if y2 < x_12 then
bp (fm_Jx4a65c_get_915e3 8 y2 m) fun x_25 =>
gd (okc m x_25 1) <| lx (m x_25 0) fun x_43 =>
gd (x_43 = 0 ∨ x_43 = 1 ∨ 4 ≤ x_43) <| gd (y1 = 0 ∨ y1 = 1 ∨ 4 ≤ y1) <| if x_43 = y1 then
up m x_25 5 2 fun m_60 =>
lx (w32 (y2 + 1)) fun x_72 =>
fl_X11_endWork_2 y1 k44 n x_72 m_60
else
lx (w32 (y2 + 1)) fun x_53 =>
fl_X11_endWork_2 y1 k44 n x_53 m
else
k44 m
set_option maxHeartbeats 4000000 in
theorem ol_X11_endWork_2 {xs : List Int32} {d : Nat} {Q : QO → QS → Prop} {mb : MM} {y1 : Int} {k44 : MM → Option (Int × MM)} {rz : Int} {rm : MM}
  (hd : 3 ≤ d)
  (hk44 : ∀ mq : MM, Ext mb mq → ∀ {Sq : QS} {Lq : QL} {u1 : Value}, k44 mq = some (rz, rm) → Rp Sq mq → q_lo Lq 1 = some u1 → q_is 2 u1 y1 → Go xs d qM_X11_endWork 44 Lq [] Sq Q)
  (hQ : Ext mb rm → ∀ o S1, Rp S1 rm → q_out 9 o rz → Q o S1) :
  ∀ (n : Nat) {m : MM} {S : QS} {L : QL} {y2 : Int} {v0 : Value} {v1 : Value} {v2 : Value} , Ext mb m → fl_X11_endWork_2 y1 k44 n y2 m = some (rz, rm) → Rp S m → q_lo L 0 = some v0 → q_is 2 v0 4 → q_lo L 1 = some v1 → q_is 2 v1 y1 → q_lo L 2 = some v2 → q_is 0 v2 y2 → Go xs d qM_X11_endWork 2 L [] S Q := by
  intro n
  induction n with
  | zero => intro m S L y2 v0 v1 v2; intro E h R l0 f0 l1 f1 l2 f2; cases h
  | succ n ih0 =>
    intro m S L y2 v0 v1 v2; intro E h R l0 f0 l1 f1 l2 f2
    have ih : ∀ mq : MM, Ext mb mq → ∀ {z2 : Int} {Sq : QS} {Lq : QL} {u0 : Value} {u1 : Value} {u2 : Value}, fl_X11_endWork_2 y1 k44 n z2 mq = some (rz, rm) → Rp Sq mq → q_lo Lq 0 = some u0 → q_is 2 u0 4 → q_lo Lq 1 = some u1 → q_is 2 u1 y1 → q_lo Lq 2 = some u2 → q_is 0 u2 z2 → Go xs d qM_X11_endWork 2 Lq [] Sq Q := fun mq b => by intros; exact ih0 b ‹_› ‹_› ‹_› ‹_› ‹_› ‹_› ‹_› ‹_›
    unfold fl_X11_endWork_2 at h
    refine go_iload_n (n := 2) (by decide +kernel) l2 f2 ?_
    refine go_aload_n (n := 0) (by decide +kernel) l0 f0 ?_
    refine go_getf (x := 28) (ci := 12) (kf := 3) (fin := 1) (t := 2) (by decide +kernel) (by decide +kernel) (by decide +kernel) R f0 (fx_k (c := 12) R (by decide +kernel)) fun v_8 f_9 => ?_
    have f_10 := q_is_eq (b := 8) f_9 (fx_v R (by decide +kernel)).symm
    obtain ⟨x_12, hc_11, h⟩ := bp_s h
    refine go_callV (x := 127) (mi := 326) (n := 0) (ci := 0) (as := []) (rest := [v2]) (by decide +kernel) (by decide +kernel) rfl rfl (q_sum8 _ (Nat.le_of_ble_eq_true rfl)) R f_10 (fx_k (c := 0) R (by decide +kernel)) (om_Jx4a65c_size_8abf5 (Nat.le_trans (by decide) hd) R (fx_k (c := 0) R (by decide +kernel)) f_10 hc_11) (fun _ S_16 q_19 => ?_) (fun _ _ qq => kr_x qq)
    refine kr_z (by decide) q_19 fun v_14 f_15 R_17 E_18 => ?_
    refine go_icmp (c := .ge) (o := 34) (t := 44) (P := ¬ (y2 < x_12)) (by decide +kernel) (by decide +kernel) f2 f_15 (Int.not_lt.symm) (fun hp_20 => ?_) (fun hp_20 => ?_)
    · have h := it_f hp_20 h
      exact hk44 m E h R_17 l1 f1
    · have h := it_n hp_20 h
      refine go_aload_n (n := 0) (by decide +kernel) l0 f0 ?_
      refine go_getf (x := 28) (ci := 12) (kf := 3) (fin := 1) (t := 2) (by decide +kernel) (by decide +kernel) (by decide +kernel) R_17 f0 (fx_k (c := 12) R_17 (by decide +kernel)) fun v_21 f_22 => ?_
      have f_23 := q_is_eq (b := 8) f_22 (fx_v R_17 (by decide +kernel)).symm
      refine go_iload_n (n := 2) (by decide +kernel) l2 f2 ?_
      obtain ⟨x_25, hc_24, h⟩ := bp_s h
      refine go_callV (x := 305) (mi := 329) (n := 1) (ci := 0) (as := [v2]) (rest := []) (by decide +kernel) (by decide +kernel) rfl rfl (q_sum8 _ (Nat.le_of_ble_eq_true rfl)) R_17 f_23 (fx_k (c := 0) R_17 (by decide +kernel)) (om_Jx4a65c_get_915e3 (Nat.le_trans (by decide) hd) R_17 (fx_k (c := 0) R_17 (by decide +kernel)) f_23 f2 hc_24) (fun _ S_29 q_32 => ?_) (fun _ _ qq => kr_x qq)
      refine kr_z (by decide) q_32 fun v_27 f_28 R_30 E_31 => ?_
      obtain ⟨g_33, h⟩ := gd_s h
      refine go_cast (x := 347) (kd := 1) (a := 0) (b := 0) (by decide +kernel) (by decide +kernel) R_30 f_28 g_33 ?_
      refine go_astore_n (n := 3) (by decide +kernel) (by decide +kernel) f_28 fun L_34 l_35 kp_36 => ?_
      have l_37 := kp_36 0 _ l0 (by decide) (Or.inl (by decide))
      have l_38 := kp_36 1 _ l1 (by decide) (Or.inl (by decide))
      have l_39 := kp_36 2 _ l2 (by decide) (Or.inr (q_is_cat f2 (Or.inl rfl)))
      refine go_aload_n (n := 3) (by decide +kernel) l_35 f_28 ?_
      obtain ⟨x_43, e_44, h⟩ := lx_s h
      refine go_getf (x := 366) (ci := 1) (kf := 0) (fin := 2) (t := 2) (by decide +kernel) (by decide +kernel) (by decide +kernel) R_30 f_28 g_33 fun v_40 f_41 => ?_
      have f_42 := q_is_eq f_41 e_44
      refine go_aload_n (n := 1) (by decide +kernel) l_38 f1 ?_
      obtain ⟨g_46, h⟩ := gd_s h
      obtain ⟨g_47, h⟩ := gd_s h
      refine go_acmp (c := .ne) (o := 8) (t := 38) (P := ¬ (x_43 = y1)) (by decide +kernel) (by decide +kernel) f_42 f1 g_46 g_47 Iff.rfl (fun hp_45 => ?_) (fun hp_45 => ?_)
      · have h := it_f hp_45 h
        refine go_iinc (n := 2) (c := 1) (c' := 1) (by decide +kernel) (by decide +kernel) l_39 f2 (by decide) fun L_48 v_49 f_50 l_51 kp_52 => ?_
        obtain ⟨x_53, e_54, h⟩ := lx_s h
        have f_55 := q_is_eq f_50 e_54
        have l_56 := kp_52 0 _ l_37 (by decide) (Or.inl (by decide))
        have l_57 := kp_52 1 _ l_38 (by decide) (Or.inr (q_is_cat f1 (Or.inr rfl)))
        refine go_goto (o := (-39)) (t := 2) (by decide +kernel) (by decide +kernel) ?_
        exact ih m E h R_30 l_56 f0 l_57 f1 l_51 f_55
      · have h := it_n hp_45 h
        refine go_aload_n (n := 3) (by decide +kernel) l_35 f_28 ?_
        refine go_iconst (n := 2) (z := 2) (by decide +kernel) (by decide) fun v_58 f_59 => ?_
        obtain ⟨m_60, e_61, h⟩ := up_s h
        refine go_putf (x := 351) (ci := 1) (kf := 5) (fin := 0) (zt := 0) (by decide +kernel) (by decide +kernel) (by decide) (by decide +kernel) (by decide) (Or.inl rfl) R_30 f_28 f_59 (fun hq => absurd hq (by decide)) g_33 e_61 (fx_f (j := 5) R_30.2 g_33 (by decide +kernel)) fun S_62 R_63 E_64 => ?_
        have E_66 := Ext.tr E E_64
        refine go_iinc (n := 2) (c := 1) (c' := 1) (by decide +kernel) (by decide +kernel) l_39 f2 (by decide) fun L_67 v_68 f_69 l_70 kp_71 => ?_
        obtain ⟨x_72, e_73, h⟩ := lx_s h
        have f_74 := q_is_eq f_69 e_73
        have l_75 := kp_71 0 _ l_37 (by decide) (Or.inl (by decide))
        have l_76 := kp_71 1 _ l_38 (by decide) (Or.inr (q_is_cat f1 (Or.inr rfl)))
        refine go_goto (o := (-39)) (t := 2) (by decide +kernel) (by decide +kernel) ?_
        exact ih m_60 E_66 h R_63 l_75 f0 l_76 f1 l_70 f_74
noncomputable def fm_X11_endWork (p1 : Int) (m0 : MM) : Option (Int × MM) := fl_X11_endWork_2 p1 (fun m_83 =>
gd (okc m_83 p1 7) <| lx (m_83 p1 17) fun x_92 =>
gd (okc m_83 x_92 6) <| bd (fm_X5_cut x_92 0 m_83) fun x_98 m_99 =>
lx (m_99 p1 18) fun x_113 =>
gd (okc m_99 x_113 6) <| bd (fm_X5_cut x_113 0 m_99) fun x_119 m_120 =>
some (0, m_120)) BIG 0 m0
set_option maxHeartbeats 4000000 in
theorem om_X11_endWork {xs : List Int32} {d : Nat} {S : QS} {m0 : MM} {p1 : Int} {v0 : Value} {v1 : Value} {rz : Int} {rm : MM}
  (hd : 4 ≤ d) (R : Rp S m0) (f0 : q_is 2 v0 4) (f1 : q_is 2 v1 p1)
  (h : fm_X11_endWork p1 m0 = some (rz, rm)) : Mt xs d 157 [v0, v1] S (Cr 9 m0 rm rz) := by
  obtain ⟨d, rfl⟩ : ∃ e, d = e + 1 := ⟨d - 1, by omega⟩
  have hd : 3 ≤ d := Nat.le_of_succ_le_succ hd
  refine Mt.of (M := qM_X11_endWork) rfl (by rw [sl_1 (q_is_cat f0 (Or.inr rfl)), sl_1 (q_is_cat f1 (Or.inr rfl)), sl_0]; decide) ?_
  rw [la_1 (q_is_cat f0 (Or.inr rfl)), la_1 (q_is_cat f1 (Or.inr rfl)), la_0]
  obtain ⟨L, hL⟩ : ∃ L : QL, L = [(0, v0), (0 + 1, v1)] := ⟨_, rfl⟩
  rw [← hL]
  have l0 : q_lo L 0 = some v0 := by rw [hL]; rfl
  have l1 : q_lo L 1 = some v1 := by rw [hL]; rfl
  have hQ : Ext m0 rm → ∀ o S1, Rp S1 rm → q_out 9 o rz → (Cr 9 m0 rm rz) o S1 := fun a o S1 b e => ⟨b, a, e⟩
  unfold fm_X11_endWork at h
  refine go_iconst (n := 0) (z := 0) (by decide +kernel) (by decide) fun v_1 f_2 => ?_
  refine go_istore_n (n := 2) (by decide +kernel) (by decide +kernel) f_2 fun L_3 l_4 kp_5 => ?_
  have l_6 := kp_5 0 _ l0 (by decide) (Or.inl (by decide))
  have l_7 := kp_5 1 _ l1 (by decide) (Or.inr (q_is_cat f1 (Or.inr rfl)))
  refine ol_X11_endWork_2 hd  ?_ hQ BIG (Ext.rf _) h R l_6 f0 l_7 f1 l_4 f_2
  intro m_83 E_84
  intro S_80 L_81 v_77
  intro h R_82 l_78 f_79
  have E_85 := E_84
  refine go_aload_n (n := 1) (by decide +kernel) l_78 f_79 ?_
  obtain ⟨g_90, h⟩ := gd_s h
  obtain ⟨x_92, e_93, h⟩ := lx_s h
  refine go_getf (x := 550) (ci := 7) (kf := 17) (fin := 2) (t := 2) (by decide +kernel) (by decide +kernel) (by decide +kernel) R_82 f_79 g_90 fun v_88 f_89 => ?_
  have f_91 := q_is_eq f_89 e_93
  refine go_iconst (n := 0) (z := 0) (by decide +kernel) (by decide) fun v_94 f_95 => ?_
  obtain ⟨g_96, h⟩ := gd_s h
  obtain ⟨x_98, m_99, hc_97, h⟩ := bd_s h
  refine go_callV (x := 469) (mi := 63) (n := 1) (ci := 6) (as := [v_94]) (rest := []) (by decide +kernel) (by decide +kernel) rfl rfl (q_sum8 _ (Nat.le_of_ble_eq_true rfl)) R_82 f_91 g_96 (om_X5_cut (Nat.le_trans (by decide) hd) R_82 g_96 f_91 f_95 hc_97) (fun _ S_102 q_105 => ?_) (fun _ _ qq => kr_x qq)
  refine kr_v q_105 fun R_103 E_104 => ?_
  have E_108 := Ext.tr E_85 E_104
  refine go_aload_n (n := 1) (by decide +kernel) l_78 f_79 ?_
  have g_111 := Ext.ok E_104 g_90
  obtain ⟨x_113, e_114, h⟩ := lx_s h
  refine go_getf (x := 553) (ci := 7) (kf := 18) (fin := 2) (t := 2) (by decide +kernel) (by decide +kernel) (by decide +kernel) R_103 f_79 g_111 fun v_109 f_110 => ?_
  have f_112 := q_is_eq f_110 e_114
  refine go_iconst (n := 0) (z := 0) (by decide +kernel) (by decide) fun v_115 f_116 => ?_
  obtain ⟨g_117, h⟩ := gd_s h
  obtain ⟨x_119, m_120, hc_118, h⟩ := bd_s h
  refine go_callV (x := 469) (mi := 63) (n := 1) (ci := 6) (as := [v_115]) (rest := []) (by decide +kernel) (by decide +kernel) rfl rfl (q_sum8 _ (Nat.le_of_ble_eq_true rfl)) R_103 f_112 g_117 (om_X5_cut (Nat.le_trans (by decide) hd) R_103 g_117 f_112 f_116 hc_118) (fun _ S_123 q_126 => ?_) (fun _ _ qq => kr_x qq)
  refine kr_v q_126 fun R_124 E_125 => ?_
  have E_129 := Ext.tr E_108 E_125
  cases h
  exact go_vret (by decide +kernel) rfl (hQ E_129 _ _ R_124 q_out_n)
noncomputable def fm_X11_parentOf (p1 : Int) (m0 : MM) : Option Int := gd (okc m0 p1 7) <| lx (m0 p1 4) fun x_5 =>
if x_5 < 0 then
some 0
else
bp (fm_Jx4a65c_size_8abf5 7 m0) fun x_17 =>
if x_5 < x_17 then
bp (fm_Jx4a65c_get_915e3 7 x_5 m0) fun x_35 =>
gd (okc m0 x_35 7) <| some x_35
else
some 0
set_option maxHeartbeats 4000000 in
theorem om_X11_parentOf {xs : List Int32} {d : Nat} {S : QS} {m0 : MM} {p1 : Int} {v0 : Value} {v1 : Value} {rz : Int}
  (hd : 4 ≤ d) (R : Rp S m0) (f0 : q_is 2 v0 4) (f1 : q_is 2 v1 p1)
  (h : fm_X11_parentOf p1 m0 = some rz) : Mt xs d 155 [v0, v1] S (Cr 2 m0 m0 rz) := by
  obtain ⟨d, rfl⟩ : ∃ e, d = e + 1 := ⟨d - 1, by omega⟩
  have hd : 3 ≤ d := Nat.le_of_succ_le_succ hd
  refine Mt.of (M := qM_X11_parentOf) rfl (by rw [sl_1 (q_is_cat f0 (Or.inr rfl)), sl_1 (q_is_cat f1 (Or.inr rfl)), sl_0]; decide) ?_
  rw [la_1 (q_is_cat f0 (Or.inr rfl)), la_1 (q_is_cat f1 (Or.inr rfl)), la_0]
  obtain ⟨L, hL⟩ : ∃ L : QL, L = [(0, v0), (0 + 1, v1)] := ⟨_, rfl⟩
  rw [← hL]
  have l0 : q_lo L 0 = some v0 := by rw [hL]; rfl
  have l1 : q_lo L 1 = some v1 := by rw [hL]; rfl
  have hQ : ∀ o S1, Rp S1 m0 → q_out 2 o rz → (Cr 2 m0 m0 rz) o S1 := fun o S1 a b => ⟨a, Ext.rf _, b⟩
  unfold fm_X11_parentOf at h
  refine go_aload_n (n := 1) (by decide +kernel) l1 f1 ?_
  obtain ⟨g_3, h⟩ := gd_s h
  obtain ⟨x_5, e_6, h⟩ := lx_s h
  refine go_getf (x := 414) (ci := 7) (kf := 4) (fin := 0) (t := 0) (by decide +kernel) (by decide +kernel) (by decide +kernel) R f1 g_3 fun v_1 f_2 => ?_
  have f_4 := q_is_eq f_2 e_6
  refine go_if (c := .lt) (o := 34) (t := 38) (P := x_5 < 0) (by decide +kernel) (by decide +kernel) f_4 (Iff.rfl) (fun hp_7 => ?_) (fun hp_7 => ?_)
  · have h := it_t hp_7 h
    refine go_null (by decide +kernel) fun v_8 f_9 => ?_
    cases h
    exact go_aret (by decide +kernel) rfl rfl f_9 (hQ _ _ R (q_out_v (by decide) f_9))
  · have h := it_f hp_7 h
    refine go_aload_n (n := 1) (by decide +kernel) l1 f1 ?_
    refine go_getf (x := 414) (ci := 7) (kf := 4) (fin := 0) (t := 0) (by decide +kernel) (by decide +kernel) (by decide +kernel) R f1 g_3 fun v_10 f_11 => ?_
    have f_12 := q_is_eq f_11 e_6
    refine go_aload_n (n := 0) (by decide +kernel) l0 f0 ?_
    refine go_getf (x := 24) (ci := 12) (kf := 2) (fin := 1) (t := 2) (by decide +kernel) (by decide +kernel) (by decide +kernel) R f0 (fx_k (c := 12) R (by decide +kernel)) fun v_13 f_14 => ?_
    have f_15 := q_is_eq (b := 7) f_14 (fx_v R (by decide +kernel)).symm
    obtain ⟨x_17, hc_16, h⟩ := bp_s h
    refine go_callV (x := 127) (mi := 326) (n := 0) (ci := 0) (as := []) (rest := [v_10]) (by decide +kernel) (by decide +kernel) rfl rfl (q_sum8 _ (Nat.le_of_ble_eq_true rfl)) R f_15 (fx_k (c := 0) R (by decide +kernel)) (om_Jx4a65c_size_8abf5 (Nat.le_trans (by decide) hd) R (fx_k (c := 0) R (by decide +kernel)) f_15 hc_16) (fun _ S_21 q_24 => ?_) (fun _ _ qq => kr_x qq)
    refine kr_z (by decide) q_24 fun v_19 f_20 R_22 E_23 => ?_
    refine go_icmp (c := .ge) (o := 20) (t := 38) (P := ¬ (x_5 < x_17)) (by decide +kernel) (by decide +kernel) f_12 f_20 (Int.not_lt.symm) (fun hp_25 => ?_) (fun hp_25 => ?_)
    · have h := it_f hp_25 h
      refine go_null (by decide +kernel) fun v_26 f_27 => ?_
      cases h
      exact go_aret (by decide +kernel) rfl rfl f_27 (hQ _ _ R_22 (q_out_v (by decide) f_27))
    · have h := it_n hp_25 h
      refine go_aload_n (n := 0) (by decide +kernel) l0 f0 ?_
      refine go_getf (x := 24) (ci := 12) (kf := 2) (fin := 1) (t := 2) (by decide +kernel) (by decide +kernel) (by decide +kernel) R_22 f0 (fx_k (c := 12) R_22 (by decide +kernel)) fun v_28 f_29 => ?_
      have f_30 := q_is_eq (b := 7) f_29 (fx_v R_22 (by decide +kernel)).symm
      refine go_aload_n (n := 1) (by decide +kernel) l1 f1 ?_
      refine go_getf (x := 414) (ci := 7) (kf := 4) (fin := 0) (t := 0) (by decide +kernel) (by decide +kernel) (by decide +kernel) R_22 f1 g_3 fun v_31 f_32 => ?_
      have f_33 := q_is_eq f_32 e_6
      obtain ⟨x_35, hc_34, h⟩ := bp_s h
      refine go_callV (x := 305) (mi := 329) (n := 1) (ci := 0) (as := [v_31]) (rest := []) (by decide +kernel) (by decide +kernel) rfl rfl (q_sum8 _ (Nat.le_of_ble_eq_true rfl)) R_22 f_30 (fx_k (c := 0) R_22 (by decide +kernel)) (om_Jx4a65c_get_915e3 (Nat.le_trans (by decide) hd) R_22 (fx_k (c := 0) R_22 (by decide +kernel)) f_30 f_33 hc_34) (fun _ S_39 q_42 => ?_) (fun _ _ qq => kr_x qq)
      refine kr_z (by decide) q_42 fun v_37 f_38 R_40 E_41 => ?_
      obtain ⟨g_43, h⟩ := gd_s h
      refine go_cast (x := 181) (kd := 7) (a := 0) (b := 0) (by decide +kernel) (by decide +kernel) R_40 f_38 g_43 ?_
      refine go_goto (o := 4) (t := 39) (by decide +kernel) (by decide +kernel) ?_
      cases h
      exact go_aret (by decide +kernel) rfl rfl f_38 (hQ _ _ R_40 (q_out_v (by decide) f_38))
noncomputable def fb_X11_closeRun (rec : Int → Int → MM → Option (Int × MM)) (p1 p2 p3 p4 : Int) (m0 : MM) : Option (Int × MM) := gd (okc m0 p1 7) <| up m0 p1 6 p2 fun m_2 =>
bd (fm_X11_endWork p1 m_2) fun x_10 m_11 =>
bd (rec p1 p4 m_11) fun x_22 m_23 =>
bp (fm_X11_parentOf p1 m_23) fun x_34 =>
if x_34 = 0 then
some (0, m_23)
else
gd (okc m_23 x_34 7) <| bp (fm_X6_isAlive x_34 m_23) fun x_52 =>
if x_52 = 0 then
some (0, m_23)
else
if p2 = 1 then
lx (m_23 p1 5) fun x_92 =>
bd (fm_X11_arrive x_34 5 x_92 p3 m_23) fun x_95 m_96 =>
some (0, m_96)
else
lx (m_23 p1 5) fun x_70 =>
bd (fm_X11_arrive x_34 6 x_70 0 m_23) fun x_75 m_76 =>
some (0, m_76)
set_option maxHeartbeats 4000000 in
theorem ob_X11_closeRun {xs : List Int32} {d : Nat} {S : QS} {m0 : MM} {p1 p2 p3 p4 : Int} {v0 : Value} {v1 : Value} {v2 : Value} {v3 : Value} {v4 : Value} {rec : Int → Int → MM → Option (Int × MM)} {rz : Int} {rm : MM}
  (hd : 5 ≤ d) (hrec : ∀ {S : QS} {m : MM} {b1 b2 : Int} {a0 : Value} {a1 : Value} {a2 : Value} {rz : Int} {rm : MM}, Rp S m → q_is 2 a0 4 → q_is 2 a1 b1 → q_is 0 a2 b2 → rec b1 b2 m = some (rz, rm) → Mt xs (d - 1) 156 [a0, a1, a2] S (Cr 9 m rm rz)) (R : Rp S m0) (f0 : q_is 2 v0 4) (f1 : q_is 2 v1 p1) (f2 : q_is 0 v2 p2) (f3 : q_is 0 v3 p3) (f4 : q_is 0 v4 p4)
  (h : fb_X11_closeRun rec p1 p2 p3 p4 m0 = some (rz, rm)) : Mt xs d 154 [v0, v1, v2, v3, v4] S (Cr 9 m0 rm rz) := by
  obtain ⟨d, rfl⟩ : ∃ e, d = e + 1 := ⟨d - 1, by omega⟩
  have hd : 4 ≤ d := Nat.le_of_succ_le_succ hd
  rw [Nat.add_sub_cancel] at hrec
  refine Mt.of (M := qM_X11_closeRun) rfl (by rw [sl_1 (q_is_cat f0 (Or.inr rfl)), sl_1 (q_is_cat f1 (Or.inr rfl)), sl_1 (q_is_cat f2 (Or.inl rfl)), sl_1 (q_is_cat f3 (Or.inl rfl)), sl_1 (q_is_cat f4 (Or.inl rfl)), sl_0]; decide) ?_
  rw [la_1 (q_is_cat f0 (Or.inr rfl)), la_1 (q_is_cat f1 (Or.inr rfl)), la_1 (q_is_cat f2 (Or.inl rfl)), la_1 (q_is_cat f3 (Or.inl rfl)), la_1 (q_is_cat f4 (Or.inl rfl)), la_0]
  obtain ⟨L, hL⟩ : ∃ L : QL, L = [(0, v0), (0 + 1, v1), (0 + 1 + 1, v2), (0 + 1 + 1 + 1, v3), (0 + 1 + 1 + 1 + 1, v4)] := ⟨_, rfl⟩
  rw [← hL]
  have l0 : q_lo L 0 = some v0 := by rw [hL]; rfl
  have l1 : q_lo L 1 = some v1 := by rw [hL]; rfl
  have l2 : q_lo L 2 = some v2 := by rw [hL]; rfl
  have l3 : q_lo L 3 = some v3 := by rw [hL]; rfl
  have l4 : q_lo L 4 = some v4 := by rw [hL]; rfl
  have hQ : Ext m0 rm → ∀ o S1, Rp S1 rm → q_out 9 o rz → (Cr 9 m0 rm rz) o S1 := fun a o S1 b e => ⟨b, a, e⟩
  unfold fb_X11_closeRun at h
  refine go_aload_n (n := 1) (by decide +kernel) l1 f1 ?_
  refine go_iload_n (n := 2) (by decide +kernel) l2 f2 ?_
  obtain ⟨g_1, h⟩ := gd_s h
  obtain ⟨m_2, e_3, h⟩ := up_s h
  refine go_putf (x := 208) (ci := 7) (kf := 6) (fin := 0) (zt := 0) (by decide +kernel) (by decide +kernel) (by decide) (by decide +kernel) (by decide) (Or.inl rfl) R f1 f2 (fun hq => absurd hq (by decide)) g_1 e_3 (fx_f (j := 6) R.2 g_1 (by decide +kernel)) fun S_4 R_5 E_6 => ?_
  have E_8 := E_6
  refine go_aload_n (n := 0) (by decide +kernel) l0 f0 ?_
  refine go_aload_n (n := 1) (by decide +kernel) l1 f1 ?_
  obtain ⟨x_10, m_11, hc_9, h⟩ := bd_s h
  refine go_callV (x := 427) (mi := 157) (n := 1) (ci := 12) (as := [v1]) (rest := []) (by decide +kernel) (by decide +kernel) rfl rfl (q_sum8 _ (Nat.le_of_ble_eq_true rfl)) R_5 f0 (fx_k (c := 12) R_5 (by decide +kernel)) (om_X11_endWork (Nat.le_trans (by decide) hd) R_5 f0 f1 hc_9) (fun _ S_14 q_17 => ?_) (fun _ _ qq => kr_x qq)
  refine kr_v q_17 fun R_15 E_16 => ?_
  have E_20 := Ext.tr E_8 E_16
  refine go_aload_n (n := 0) (by decide +kernel) l0 f0 ?_
  refine go_aload_n (n := 1) (by decide +kernel) l1 f1 ?_
  refine go_iload (n := 4) (by decide +kernel) l4 f4 ?_
  obtain ⟨x_22, m_23, hc_21, h⟩ := bd_s h
  refine go_callV (x := 543) (mi := 156) (n := 2) (ci := 12) (as := [v1, v4]) (rest := []) (by decide +kernel) (by decide +kernel) rfl rfl (q_sum8 _ (Nat.le_of_ble_eq_true rfl)) R_15 f0 (fx_k (c := 12) R_15 (by decide +kernel)) (hrec R_15 f0 f1 f4 hc_21) (fun _ S_26 q_29 => ?_) (fun _ _ qq => kr_x qq)
  refine kr_v q_29 fun R_27 E_28 => ?_
  have E_32 := Ext.tr E_20 E_28
  refine go_aload_n (n := 0) (by decide +kernel) l0 f0 ?_
  refine go_aload_n (n := 1) (by decide +kernel) l1 f1 ?_
  obtain ⟨x_34, hc_33, h⟩ := bp_s h
  refine go_callV (x := 546) (mi := 155) (n := 1) (ci := 12) (as := [v1]) (rest := []) (by decide +kernel) (by decide +kernel) rfl rfl (q_sum8 _ (Nat.le_of_ble_eq_true rfl)) R_27 f0 (fx_k (c := 12) R_27 (by decide +kernel)) (om_X11_parentOf (Nat.le_trans (by decide) hd) R_27 f0 f1 hc_33) (fun _ S_38 q_41 => ?_) (fun _ _ qq => kr_x qq)
  refine kr_z (by decide) q_41 fun v_36 f_37 R_39 E_40 => ?_
  refine go_astore (n := 5) (by decide +kernel) (by decide +kernel) f_37 fun L_42 l_43 kp_44 => ?_
  have l_45 := kp_44 0 _ l0 (by decide) (Or.inl (by decide))
  have l_46 := kp_44 1 _ l1 (by decide) (Or.inl (by decide))
  have l_47 := kp_44 2 _ l2 (by decide) (Or.inl (by decide))
  have l_48 := kp_44 3 _ l3 (by decide) (Or.inl (by decide))
  refine go_aload (n := 5) (by decide +kernel) l_43 f_37 ?_
  refine go_ifnull (o := 11) (t := 37) (by decide +kernel) (by decide +kernel) f_37 (fun hp_49 => ?_) (fun hp_49 => ?_)
  · have h := it_t hp_49 h
    cases h
    exact go_vret (by decide +kernel) rfl (hQ E_32 _ _ R_39 q_out_n)
  · have h := it_f hp_49 h
    refine go_aload (n := 5) (by decide +kernel) l_43 f_37 ?_
    obtain ⟨g_50, h⟩ := gd_s h
    obtain ⟨x_52, hc_51, h⟩ := bp_s h
    refine go_callV (x := 192) (mi := 66) (n := 0) (ci := 7) (as := []) (rest := []) (by decide +kernel) (by decide +kernel) rfl rfl (q_sum8 _ (Nat.le_of_ble_eq_true rfl)) R_39 f_37 g_50 (om_X6_isAlive (Nat.le_trans (by decide) hd) R_39 g_50 f_37 hc_51) (fun _ S_56 q_59 => ?_) (fun _ _ qq => kr_x qq)
    refine kr_z (by decide) q_59 fun v_54 f_55 R_57 E_58 => ?_
    refine go_if (c := .ne) (o := 4) (t := 38) (P := ¬ (x_52 = 0)) (by decide +kernel) (by decide +kernel) f_55 (Iff.rfl) (fun hp_60 => ?_) (fun hp_60 => ?_)
    · have h := it_f hp_60 h
      refine go_iload_n (n := 2) (by decide +kernel) l_47 f2 ?_
      refine go_iconst (n := 1) (z := 1) (by decide +kernel) (by decide) fun v_61 f_62 => ?_
      refine go_icmp (c := .ne) (o := 18) (t := 58) (P := ¬ (p2 = 1)) (by decide +kernel) (by decide +kernel) f2 f_62 (Iff.rfl) (fun hp_63 => ?_) (fun hp_63 => ?_)
      · have h := it_f hp_63 h
        refine go_aload_n (n := 0) (by decide +kernel) l_45 f0 ?_
        refine go_aload (n := 5) (by decide +kernel) l_43 f_37 ?_
        refine go_bipush (n := 6) (z := 6) (by decide +kernel) (by decide) fun v_64 f_65 => ?_
        refine go_aload_n (n := 1) (by decide +kernel) l_46 f1 ?_
        have g_68 := Ext.ok (Ext.tr (Ext.tr E_6 E_16) E_28) g_1
        obtain ⟨x_70, e_71, h⟩ := lx_s h
        refine go_getf (x := 417) (ci := 7) (kf := 5) (fin := 2) (t := 0) (by decide +kernel) (by decide +kernel) (by decide +kernel) R_57 f1 g_68 fun v_66 f_67 => ?_
        have f_69 := q_is_eq f_67 e_71
        refine go_iconst (n := 0) (z := 0) (by decide +kernel) (by decide) fun v_72 f_73 => ?_
        obtain ⟨x_75, m_76, hc_74, h⟩ := bd_s h
        refine go_callV (x := 204) (mi := 152) (n := 4) (ci := 12) (as := [v_36, v_64, v_66, v_72]) (rest := []) (by decide +kernel) (by decide +kernel) rfl rfl (q_sum8 _ (Nat.le_of_ble_eq_true rfl)) R_57 f0 (fx_k (c := 12) R_57 (by decide +kernel)) (om_X11_arrive (Nat.le_trans (by decide) hd) R_57 f0 f_37 f_65 f_69 f_73 hc_74) (fun _ S_79 q_82 => ?_) (fun _ _ qq => kr_x qq)
        refine kr_v q_82 fun R_80 E_81 => ?_
        have E_85 := Ext.tr E_32 E_81
        cases h
        exact go_vret (by decide +kernel) rfl (hQ E_85 _ _ R_80 q_out_n)
      · have h := it_n hp_63 h
        refine go_aload_n (n := 0) (by decide +kernel) l_45 f0 ?_
        refine go_aload (n := 5) (by decide +kernel) l_43 f_37 ?_
        refine go_iconst (n := 5) (z := 5) (by decide +kernel) (by decide) fun v_86 f_87 => ?_
        refine go_aload_n (n := 1) (by decide +kernel) l_46 f1 ?_
        have g_90 := Ext.ok (Ext.tr (Ext.tr E_6 E_16) E_28) g_1
        obtain ⟨x_92, e_93, h⟩ := lx_s h
        refine go_getf (x := 417) (ci := 7) (kf := 5) (fin := 2) (t := 0) (by decide +kernel) (by decide +kernel) (by decide +kernel) R_57 f1 g_90 fun v_88 f_89 => ?_
        have f_91 := q_is_eq f_89 e_93
        refine go_iload_n (n := 3) (by decide +kernel) l_48 f3 ?_
        obtain ⟨x_95, m_96, hc_94, h⟩ := bd_s h
        refine go_callV (x := 204) (mi := 152) (n := 4) (ci := 12) (as := [v_36, v_86, v_88, v3]) (rest := []) (by decide +kernel) (by decide +kernel) rfl rfl (q_sum8 _ (Nat.le_of_ble_eq_true rfl)) R_57 f0 (fx_k (c := 12) R_57 (by decide +kernel)) (om_X11_arrive (Nat.le_trans (by decide) hd) R_57 f0 f_37 f_87 f_91 f3 hc_94) (fun _ S_99 q_102 => ?_) (fun _ _ qq => kr_x qq)
        refine kr_v q_102 fun R_100 E_101 => ?_
        have E_105 := Ext.tr E_32 E_101
        refine go_goto (o := 16) (t := 71) (by decide +kernel) (by decide +kernel) ?_
        cases h
        exact go_vret (by decide +kernel) rfl (hQ E_105 _ _ R_100 q_out_n)
    · have h := it_n hp_60 h
      cases h
      exact go_vret (by decide +kernel) rfl (hQ E_32 _ _ R_57 q_out_n)
end DF16
