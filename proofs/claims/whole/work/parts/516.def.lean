/-! Methods as functions (written by wip/whole/dec.py), 16: X11_beginChild, X11_dropEvent, X11_queueTag, X11_endWork, X11_parentOf, X11_closeRun. -/
section DF16
noncomputable def fj_X11_beginChild_35 (y1 y2 : Int) (m : MM) : Option (Int × MM) := bd (fm_X11_arrive y1 6 y2 0 m) fun x_21 m_22 =>
some (0, m_22)
set_option maxHeartbeats 4000000 in
theorem oj_X11_beginChild_35 {xs : List Int32} {d : Nat} {S : QS} {L : QL} {Q : QO → QS → Prop} {m : MM} {y1 y2 : Int} {v0 : Value} {v1 : Value} {v2 : Value}  {rz : Int} {rm : MM}
  (hd : 10 ≤ d) (R : Rp S m) (l0 : q_lo L 0 = some v0) (f0 : q_is 2 v0 4) (l1 : q_lo L 1 = some v1) (f1 : q_is 2 v1 y1) (l2 : q_lo L 2 = some v2) (f2 : q_is 0 v2 y2)
  (hQ : Ext m rm → ∀ o S1, Rp S1 rm → q_out 9 o rz → Q o S1)
  (h : fj_X11_beginChild_35 y1 y2 m = some (rz, rm)) : Go xs d qM_X11_beginChild 35 L [] S Q := by
  unfold fj_X11_beginChild_35 at h
  refine go_aload_n (n := 0) (by decide +kernel) l0 f0 ?_
  refine go_aload_n (n := 1) (by decide +kernel) l1 f1 ?_
  refine go_bipush (n := 6) (z := 6) (by decide +kernel) (by decide) fun v_16 f_17 => ?_
  refine go_iload_n (n := 2) (by decide +kernel) l2 f2 ?_
  refine go_iconst (n := 0) (z := 0) (by decide +kernel) (by decide) fun v_18 f_19 => ?_
  obtain ⟨x_21, m_22, hc_20, h⟩ := bd_s h
  refine go_callV (x := 204) (mi := 152) (n := 4) (ci := 12) (as := [v1, v_16, v2, v_18]) (rest := []) (by decide +kernel) (by decide +kernel) rfl rfl (q_sum8 _ (Nat.le_of_ble_eq_true rfl)) R f0 (fx_k (c := 12) R (by decide +kernel)) (om_X11_arrive (Nat.le_trans (by decide) hd) R f0 f1 f_17 f2 f_19 hc_20) (fun _ S_25 q_28 => ?_) (fun _ _ qq => kr_x qq)
  refine kr_v q_28 fun R_26 E_27 => ?_
  have E_29 := E_27
  refine go_goto (o := 20) (t := 64) (by decide +kernel) (by decide +kernel) ?_
  cases h
  exact go_vret (by decide +kernel) rfl (hQ E_29 _ _ R_26 q_out_n)
noncomputable def fm_X11_beginChild (p1 p2 p3 p4 : Int) (m0 : MM) : Option (Int × MM) := bp (fm_Jx4a65c_size_8abf5 7 m0) fun x_5 =>
if x_5 < 30 then
bp (fm_J9_floorMod_7cf53 p3 4 m0) fun x_40 =>
gd (0 ≤ x_40 ∧ x_40 < 4) <| lx (m0 5 x_40) fun x_52 =>
gd (okc m0 x_52 11) <| lx (m0 x_52 0) fun x_58 =>
gd (okc m0 x_58 0) <| bp (fm_Jx4a65c_isEmpty_aae02 x_58 m0) fun x_62 =>
if x_62 = 0 then
gd (okc m0 p1 7) <| lx (m0 p1 2) fun x_75 =>
lx (m0 p1 0) fun x_80 =>
bd (fm_X11_startRun p3 x_75 p4 x_80 p2 m0) fun x_83 m_84 =>
some (0, m_84)
else
fj_X11_beginChild_35 p1 p2 m0
else
fj_X11_beginChild_35 p1 p2 m0
set_option maxHeartbeats 4000000 in
theorem om_X11_beginChild {xs : List Int32} {d : Nat} {S : QS} {m0 : MM} {p1 p2 p3 p4 : Int} {v0 : Value} {v1 : Value} {v2 : Value} {v3 : Value} {v4 : Value} {rz : Int} {rm : MM}
  (hd : 11 ≤ d) (R : Rp S m0) (f0 : q_is 2 v0 4) (f1 : q_is 2 v1 p1) (f2 : q_is 0 v2 p2) (f3 : q_is 0 v3 p3) (f4 : q_is 0 v4 p4)
  (h : fm_X11_beginChild p1 p2 p3 p4 m0 = some (rz, rm)) : Mt xs d 169 [v0, v1, v2, v3, v4] S (Cr 9 m0 rm rz) := by
  obtain ⟨d, rfl⟩ : ∃ e, d = e + 1 := ⟨d - 1, by omega⟩
  have hd : 10 ≤ d := Nat.le_of_succ_le_succ hd
  refine Mt.of (M := qM_X11_beginChild) rfl (by rw [sl_1 (q_is_cat f0 (Or.inr rfl)), sl_1 (q_is_cat f1 (Or.inr rfl)), sl_1 (q_is_cat f2 (Or.inl rfl)), sl_1 (q_is_cat f3 (Or.inl rfl)), sl_1 (q_is_cat f4 (Or.inl rfl)), sl_0]; decide) ?_
  rw [la_1 (q_is_cat f0 (Or.inr rfl)), la_1 (q_is_cat f1 (Or.inr rfl)), la_1 (q_is_cat f2 (Or.inl rfl)), la_1 (q_is_cat f3 (Or.inl rfl)), la_1 (q_is_cat f4 (Or.inl rfl)), la_0]
  obtain ⟨L, hL⟩ : ∃ L : QL, L = [(0, v0), (0 + 1, v1), (0 + 1 + 1, v2), (0 + 1 + 1 + 1, v3), (0 + 1 + 1 + 1 + 1, v4)] := ⟨_, rfl⟩
  rw [← hL]
  have l0 : q_lo L 0 = some v0 := by rw [hL]; rfl
  have l1 : q_lo L 1 = some v1 := by rw [hL]; rfl
  have l2 : q_lo L 2 = some v2 := by rw [hL]; rfl
  have l3 : q_lo L 3 = some v3 := by rw [hL]; rfl
  have l4 : q_lo L 4 = some v4 := by rw [hL]; rfl
  have hQ : Ext m0 rm → ∀ o S1, Rp S1 rm → q_out 9 o rz → (Cr 9 m0 rm rz) o S1 := fun a o S1 b e => ⟨b, a, e⟩
  unfold fm_X11_beginChild at h
  refine go_aload_n (n := 0) (by decide +kernel) l0 f0 ?_
  refine go_getf (x := 24) (ci := 12) (kf := 2) (fin := 1) (t := 2) (by decide +kernel) (by decide +kernel) (by decide +kernel) R f0 (fx_k (c := 12) R (by decide +kernel)) fun v_1 f_2 => ?_
  have f_3 := q_is_eq (b := 7) f_2 (fx_v R (by decide +kernel)).symm
  obtain ⟨x_5, hc_4, h⟩ := bp_s h
  refine go_callV (x := 127) (mi := 326) (n := 0) (ci := 0) (as := []) (rest := []) (by decide +kernel) (by decide +kernel) rfl rfl (q_sum8 _ (Nat.le_of_ble_eq_true rfl)) R f_3 (fx_k (c := 0) R (by decide +kernel)) (om_Jx4a65c_size_8abf5 (Nat.le_trans (by decide) hd) R (fx_k (c := 0) R (by decide +kernel)) f_3 hc_4) (fun _ S_9 q_12 => ?_) (fun _ _ qq => kr_x qq)
  refine kr_z (by decide) q_12 fun v_7 f_8 R_10 E_11 => ?_
  refine go_bipush (n := 30) (z := 30) (by decide +kernel) (by decide) fun v_13 f_14 => ?_
  refine go_icmp (c := .ge) (o := 26) (t := 35) (P := ¬ (x_5 < 30)) (by decide +kernel) (by decide +kernel) f_8 f_14 (Int.not_lt.symm) (fun hp_15 => ?_) (fun hp_15 => ?_)
  · have h := it_f hp_15 h
    exact oj_X11_beginChild_35 hd R_10 l0 f0 l1 f1 l2 f2 hQ h
  · have h := it_n hp_15 h
    refine go_aload_n (n := 0) (by decide +kernel) l0 f0 ?_
    refine go_getf (x := 11) (ci := 12) (kf := 0) (fin := 1) (t := 2) (by decide +kernel) (by decide +kernel) (by decide +kernel) R_10 f0 (fx_k (c := 12) R_10 (by decide +kernel)) fun v_30 f_31 => ?_
    have f_32 := q_is_eq (b := 5) f_31 (fx_v R_10 (by decide +kernel)).symm
    refine go_iload_n (n := 3) (by decide +kernel) l3 f3 ?_
    refine go_aload_n (n := 0) (by decide +kernel) l0 f0 ?_
    refine go_getf (x := 11) (ci := 12) (kf := 0) (fin := 1) (t := 2) (by decide +kernel) (by decide +kernel) (by decide +kernel) R_10 f0 (fx_k (c := 12) R_10 (by decide +kernel)) fun v_33 f_34 => ?_
    have f_35 := q_is_eq (b := 5) f_34 (fx_v R_10 (by decide +kernel)).symm
    refine go_alen (by decide +kernel) R_10 f_35 (okl_of (fx_k (c := 106) R_10 (by decide +kernel)) (by decide)) fun v_36 f_37 => ?_
    have f_38 := q_is_eq (b := 4) f_37 (by rw [fx_l R_10 (ln := 4) (by decide +kernel)]; decide)
    obtain ⟨x_40, hc_39, h⟩ := bp_s h
    refine go_callS (x := 496) (mi := 318) (n := 2) (b := 0) (as := [v3, v_36]) (rest := [v_30]) (by decide +kernel) (by decide +kernel) rfl rfl (q_sum8 _ (Nat.le_of_ble_eq_true rfl)) (om_J9_floorMod_7cf53 (Nat.le_trans (by decide) hd) R_10 f3 f_38 hc_39) (fun _ S_44 q_47 => ?_) (fun _ _ qq => kr_x qq)
    refine kr_z (by decide) q_47 fun v_42 f_43 R_45 E_46 => ?_
    obtain ⟨g_50, h⟩ := gd_s h
    obtain ⟨x_52, e_53, h⟩ := lx_s h
    refine go_aald (kd := 106) (by decide +kernel) (by decide) R_45 f_32 f_43 (fx_k (c := 106) R_45 (by decide +kernel)) (fx_x (a := 5) (ln := 4) R_45 (by decide +kernel) g_50) fun v_48 f_49 => ?_
    have f_51 := q_is_eq f_49 e_53
    obtain ⟨g_56, h⟩ := gd_s h
    obtain ⟨x_58, e_59, h⟩ := lx_s h
    refine go_getf (x := 124) (ci := 11) (kf := 0) (fin := 2) (t := 2) (by decide +kernel) (by decide +kernel) (by decide +kernel) R_45 f_51 g_56 fun v_54 f_55 => ?_
    have f_57 := q_is_eq f_55 e_59
    obtain ⟨g_60, h⟩ := gd_s h
    obtain ⟨x_62, hc_61, h⟩ := bp_s h
    refine go_callV (x := 170) (mi := 327) (n := 0) (ci := 0) (as := []) (rest := []) (by decide +kernel) (by decide +kernel) rfl rfl (q_sum8 _ (Nat.le_of_ble_eq_true rfl)) R_45 f_57 g_60 (om_Jx4a65c_isEmpty_aae02 (Nat.le_trans (by decide) hd) R_45 g_60 f_57 hc_61) (fun _ S_66 q_69 => ?_) (fun _ _ qq => kr_x qq)
    refine kr_z (by decide) q_69 fun v_64 f_65 R_67 E_68 => ?_
    refine go_if (c := .eq) (o := 15) (t := 47) (P := x_62 = 0) (by decide +kernel) (by decide +kernel) f_65 (Iff.rfl) (fun hp_70 => ?_) (fun hp_70 => ?_)
    · have h := it_t hp_70 h
      refine go_aload_n (n := 0) (by decide +kernel) l0 f0 ?_
      refine go_iload_n (n := 3) (by decide +kernel) l3 f3 ?_
      refine go_aload_n (n := 1) (by decide +kernel) l1 f1 ?_
      obtain ⟨g_73, h⟩ := gd_s h
      obtain ⟨x_75, e_76, h⟩ := lx_s h
      refine go_getf (x := 283) (ci := 7) (kf := 2) (fin := 2) (t := 0) (by decide +kernel) (by decide +kernel) (by decide +kernel) R_67 f1 g_73 fun v_71 f_72 => ?_
      have f_74 := q_is_eq f_72 e_76
      refine go_iload (n := 4) (by decide +kernel) l4 f4 ?_
      refine go_aload_n (n := 1) (by decide +kernel) l1 f1 ?_
      obtain ⟨x_80, e_81, h⟩ := lx_s h
      refine go_getf (x := 180) (ci := 7) (kf := 0) (fin := 2) (t := 0) (by decide +kernel) (by decide +kernel) (by decide +kernel) R_67 f1 g_73 fun v_77 f_78 => ?_
      have f_79 := q_is_eq f_78 e_81
      refine go_iload_n (n := 2) (by decide +kernel) l2 f2 ?_
      obtain ⟨x_83, m_84, hc_82, h⟩ := bd_s h
      refine go_callV (x := 176) (mi := 151) (n := 5) (ci := 12) (as := [v3, v_71, v4, v_77, v2]) (rest := []) (by decide +kernel) (by decide +kernel) rfl rfl (q_sum8 _ (Nat.le_of_ble_eq_true rfl)) R_67 f0 (fx_k (c := 12) R_67 (by decide +kernel)) (om_X11_startRun (Nat.le_trans (by decide) hd) R_67 f0 f3 f_74 f4 f_79 f2 hc_82) (fun _ S_87 q_90 => ?_) (fun _ _ qq => kr_x qq)
      refine kr_z (by decide) q_90 fun v_85 f_86 R_88 E_89 => ?_
      have E_91 := E_89
      refine go_pop (by decide +kernel) f_86 (Or.inr rfl) ?_
      cases h
      exact go_vret (by decide +kernel) rfl (hQ E_91 _ _ R_88 q_out_n)
    · have h := it_f hp_70 h
      exact oj_X11_beginChild_35 hd R_67 l0 f0 l1 f1 l2 f2 hQ h
noncomputable def fl_X11_dropEvent_2 (y1 y2 : Int) (k56 : MM → Option (Int × MM)) : Nat → Int → MM → Option (Int × MM)
  | 0, _, _ => none
  | n + 1, y3, m => bp (fm_Jx4a65c_size_8abf5 8 m) fun x_13 =>
if y3 < x_13 then
bp (fm_Jx4a65c_get_915e3 8 y3 m) fun x_26 =>
gd (okc m x_26 1) <| lx (m x_26 0) fun x_45 =>
gd (x_45 = 0 ∨ x_45 = 1 ∨ 4 ≤ x_45) <| gd (y1 = 0 ∨ y1 = 1 ∨ 4 ≤ y1) <| if x_45 = y1 then
lx (m x_26 1) fun x_64 =>
if x_64 = y2 then
up m x_26 5 2 fun m_80 =>
lx (w32 (y3 + 1)) fun x_91 =>
fl_X11_dropEvent_2 y1 y2 k56 n x_91 m_80
else
lx (w32 (y3 + 1)) fun x_72 =>
fl_X11_dropEvent_2 y1 y2 k56 n x_72 m
else
lx (w32 (y3 + 1)) fun x_55 =>
fl_X11_dropEvent_2 y1 y2 k56 n x_55 m
else
k56 m
set_option maxHeartbeats 4000000 in
theorem ol_X11_dropEvent_2 {xs : List Int32} {d : Nat} {Q : QO → QS → Prop} {mb : MM} {y1 y2 : Int} {k56 : MM → Option (Int × MM)} {rz : Int} {rm : MM}
  (hd : 4 ≤ d)
  (hk56 : ∀ mq : MM, Ext mb mq → ∀ {Sq : QS} {Lq : QL} {u0 : Value} {u1 : Value} {u2 : Value}, k56 mq = some (rz, rm) → Rp Sq mq → q_lo Lq 0 = some u0 → q_is 2 u0 4 → q_lo Lq 1 = some u1 → q_is 2 u1 y1 → q_lo Lq 2 = some u2 → q_is 0 u2 y2 → Go xs d qM_X11_dropEvent 56 Lq [] Sq Q)
  (hQ : Ext mb rm → ∀ o S1, Rp S1 rm → q_out 9 o rz → Q o S1) :
  ∀ (n : Nat) {m : MM} {S : QS} {L : QL} {y3 : Int} {v0 : Value} {v1 : Value} {v2 : Value} {v3 : Value} , Ext mb m → fl_X11_dropEvent_2 y1 y2 k56 n y3 m = some (rz, rm) → Rp S m → q_lo L 0 = some v0 → q_is 2 v0 4 → q_lo L 1 = some v1 → q_is 2 v1 y1 → q_lo L 2 = some v2 → q_is 0 v2 y2 → q_lo L 3 = some v3 → q_is 0 v3 y3 → Go xs d qM_X11_dropEvent 2 L [] S Q := by
  intro n
  induction n with
  | zero => intro m S L y3 v0 v1 v2 v3; intro E h R l0 f0 l1 f1 l2 f2 l3 f3; cases h
  | succ n ih0 =>
    intro m S L y3 v0 v1 v2 v3; intro E h R l0 f0 l1 f1 l2 f2 l3 f3
    have ih : ∀ mq : MM, Ext mb mq → ∀ {z3 : Int} {Sq : QS} {Lq : QL} {u0 : Value} {u1 : Value} {u2 : Value} {u3 : Value}, fl_X11_dropEvent_2 y1 y2 k56 n z3 mq = some (rz, rm) → Rp Sq mq → q_lo Lq 0 = some u0 → q_is 2 u0 4 → q_lo Lq 1 = some u1 → q_is 2 u1 y1 → q_lo Lq 2 = some u2 → q_is 0 u2 y2 → q_lo Lq 3 = some u3 → q_is 0 u3 z3 → Go xs d qM_X11_dropEvent 2 Lq [] Sq Q := fun mq b => by intros; exact ih0 b ‹_› ‹_› ‹_› ‹_› ‹_› ‹_› ‹_› ‹_› ‹_› ‹_›
    unfold fl_X11_dropEvent_2 at h
    refine go_iload_n (n := 3) (by decide +kernel) l3 f3 ?_
    refine go_aload_n (n := 0) (by decide +kernel) l0 f0 ?_
    refine go_getf (x := 28) (ci := 12) (kf := 3) (fin := 1) (t := 2) (by decide +kernel) (by decide +kernel) (by decide +kernel) R f0 (fx_k (c := 12) R (by decide +kernel)) fun v_9 f_10 => ?_
    have f_11 := q_is_eq (b := 8) f_10 (fx_v R (by decide +kernel)).symm
    obtain ⟨x_13, hc_12, h⟩ := bp_s h
    refine go_callV (x := 127) (mi := 326) (n := 0) (ci := 0) (as := []) (rest := [v3]) (by decide +kernel) (by decide +kernel) rfl rfl (q_sum8 _ (Nat.le_of_ble_eq_true rfl)) R f_11 (fx_k (c := 0) R (by decide +kernel)) (om_Jx4a65c_size_8abf5 (Nat.le_trans (by decide) hd) R (fx_k (c := 0) R (by decide +kernel)) f_11 hc_12) (fun _ S_17 q_20 => ?_) (fun _ _ qq => kr_x qq)
    refine kr_z (by decide) q_20 fun v_15 f_16 R_18 E_19 => ?_
    refine go_icmp (c := .ge) (o := 46) (t := 56) (P := ¬ (y3 < x_13)) (by decide +kernel) (by decide +kernel) f3 f_16 (Int.not_lt.symm) (fun hp_21 => ?_) (fun hp_21 => ?_)
    · have h := it_f hp_21 h
      exact hk56 m E h R_18 l0 f0 l1 f1 l2 f2
    · have h := it_n hp_21 h
      refine go_aload_n (n := 0) (by decide +kernel) l0 f0 ?_
      refine go_getf (x := 28) (ci := 12) (kf := 3) (fin := 1) (t := 2) (by decide +kernel) (by decide +kernel) (by decide +kernel) R_18 f0 (fx_k (c := 12) R_18 (by decide +kernel)) fun v_22 f_23 => ?_
      have f_24 := q_is_eq (b := 8) f_23 (fx_v R_18 (by decide +kernel)).symm
      refine go_iload_n (n := 3) (by decide +kernel) l3 f3 ?_
      obtain ⟨x_26, hc_25, h⟩ := bp_s h
      refine go_callV (x := 305) (mi := 329) (n := 1) (ci := 0) (as := [v3]) (rest := []) (by decide +kernel) (by decide +kernel) rfl rfl (q_sum8 _ (Nat.le_of_ble_eq_true rfl)) R_18 f_24 (fx_k (c := 0) R_18 (by decide +kernel)) (om_Jx4a65c_get_915e3 (Nat.le_trans (by decide) hd) R_18 (fx_k (c := 0) R_18 (by decide +kernel)) f_24 f3 hc_25) (fun _ S_30 q_33 => ?_) (fun _ _ qq => kr_x qq)
      refine kr_z (by decide) q_33 fun v_28 f_29 R_31 E_32 => ?_
      obtain ⟨g_34, h⟩ := gd_s h
      refine go_cast (x := 347) (kd := 1) (a := 0) (b := 0) (by decide +kernel) (by decide +kernel) R_31 f_29 g_34 ?_
      refine go_astore (n := 4) (by decide +kernel) (by decide +kernel) f_29 fun L_35 l_36 kp_37 => ?_
      have l_38 := kp_37 0 _ l0 (by decide) (Or.inl (by decide))
      have l_39 := kp_37 1 _ l1 (by decide) (Or.inl (by decide))
      have l_40 := kp_37 2 _ l2 (by decide) (Or.inl (by decide))
      have l_41 := kp_37 3 _ l3 (by decide) (Or.inr (q_is_cat f3 (Or.inl rfl)))
      refine go_aload (n := 4) (by decide +kernel) l_36 f_29 ?_
      obtain ⟨x_45, e_46, h⟩ := lx_s h
      refine go_getf (x := 366) (ci := 1) (kf := 0) (fin := 2) (t := 2) (by decide +kernel) (by decide +kernel) (by decide +kernel) R_31 f_29 g_34 fun v_42 f_43 => ?_
      have f_44 := q_is_eq f_43 e_46
      refine go_aload_n (n := 1) (by decide +kernel) l_39 f1 ?_
      obtain ⟨g_48, h⟩ := gd_s h
      obtain ⟨g_49, h⟩ := gd_s h
      refine go_acmp (c := .ne) (o := 18) (t := 50) (P := ¬ (x_45 = y1)) (by decide +kernel) (by decide +kernel) f_44 f1 g_48 g_49 Iff.rfl (fun hp_47 => ?_) (fun hp_47 => ?_)
      · have h := it_f hp_47 h
        refine go_iinc (n := 3) (c := 1) (c' := 1) (by decide +kernel) (by decide +kernel) l_41 f3 (by decide) fun L_50 v_51 f_52 l_53 kp_54 => ?_
        obtain ⟨x_55, e_56, h⟩ := lx_s h
        have f_57 := q_is_eq f_52 e_56
        have l_58 := kp_54 0 _ l_38 (by decide) (Or.inl (by decide))
        have l_59 := kp_54 1 _ l_39 (by decide) (Or.inl (by decide))
        have l_60 := kp_54 2 _ l_40 (by decide) (Or.inr (q_is_cat f2 (Or.inl rfl)))
        refine go_goto (o := (-51)) (t := 2) (by decide +kernel) (by decide +kernel) ?_
        exact ih m E h R_31 l_58 f0 l_59 f1 l_60 f2 l_53 f_57
      · have h := it_n hp_47 h
        refine go_aload (n := 4) (by decide +kernel) l_36 f_29 ?_
        obtain ⟨x_64, e_65, h⟩ := lx_s h
        refine go_getf (x := 367) (ci := 1) (kf := 1) (fin := 2) (t := 0) (by decide +kernel) (by decide +kernel) (by decide +kernel) R_31 f_29 g_34 fun v_61 f_62 => ?_
        have f_63 := q_is_eq f_62 e_65
        refine go_iload_n (n := 2) (by decide +kernel) l_40 f2 ?_
        refine go_icmp (c := .ne) (o := 9) (t := 50) (P := ¬ (x_64 = y2)) (by decide +kernel) (by decide +kernel) f_63 f2 (Iff.rfl) (fun hp_66 => ?_) (fun hp_66 => ?_)
        · have h := it_f hp_66 h
          refine go_iinc (n := 3) (c := 1) (c' := 1) (by decide +kernel) (by decide +kernel) l_41 f3 (by decide) fun L_67 v_68 f_69 l_70 kp_71 => ?_
          obtain ⟨x_72, e_73, h⟩ := lx_s h
          have f_74 := q_is_eq f_69 e_73
          have l_75 := kp_71 0 _ l_38 (by decide) (Or.inl (by decide))
          have l_76 := kp_71 1 _ l_39 (by decide) (Or.inl (by decide))
          have l_77 := kp_71 2 _ l_40 (by decide) (Or.inr (q_is_cat f2 (Or.inl rfl)))
          refine go_goto (o := (-51)) (t := 2) (by decide +kernel) (by decide +kernel) ?_
          exact ih m E h R_31 l_75 f0 l_76 f1 l_77 f2 l_70 f_74
        · have h := it_n hp_66 h
          refine go_aload (n := 4) (by decide +kernel) l_36 f_29 ?_
          refine go_iconst (n := 2) (z := 2) (by decide +kernel) (by decide) fun v_78 f_79 => ?_
          obtain ⟨m_80, e_81, h⟩ := up_s h
          refine go_putf (x := 351) (ci := 1) (kf := 5) (fin := 0) (zt := 0) (by decide +kernel) (by decide +kernel) (by decide) (by decide +kernel) (by decide) (Or.inl rfl) R_31 f_29 f_79 (fun hq => absurd hq (by decide)) g_34 e_81 (fx_f (j := 5) R_31.2 g_34 (by decide +kernel)) fun S_82 R_83 E_84 => ?_
          have E_85 := Ext.tr E E_84
          refine go_iinc (n := 3) (c := 1) (c' := 1) (by decide +kernel) (by decide +kernel) l_41 f3 (by decide) fun L_86 v_87 f_88 l_89 kp_90 => ?_
          obtain ⟨x_91, e_92, h⟩ := lx_s h
          have f_93 := q_is_eq f_88 e_92
          have l_94 := kp_90 0 _ l_38 (by decide) (Or.inl (by decide))
          have l_95 := kp_90 1 _ l_39 (by decide) (Or.inl (by decide))
          have l_96 := kp_90 2 _ l_40 (by decide) (Or.inr (q_is_cat f2 (Or.inl rfl)))
          refine go_goto (o := (-51)) (t := 2) (by decide +kernel) (by decide +kernel) ?_
          exact ih m_80 E_85 h R_83 l_94 f0 l_95 f1 l_96 f2 l_89 f_93
noncomputable def fl_X11_dropEvent_63 (y1 y2 : Int) : Nat → Int → MM → Option (Int × MM)
  | 0, _, _ => none
  | n + 1, y3, m => bp (fm_Jx4a65c_size_8abf5 7 m) fun x_135 =>
if y3 < x_135 then
bp (fm_Jx4a65c_get_915e3 7 y3 m) fun x_148 =>
gd (okc m x_148 7) <| lx (m x_148 4) fun x_167 =>
gd (okc m y1 7) <| lx (m y1 0) fun x_173 =>
if x_167 = x_173 then
lx (m x_148 5) fun x_190 =>
if x_190 = y2 then
lx (m x_148 6) fun x_207 =>
if x_207 = 0 then
bd (fm_X11_cancelRun x_148 m) fun x_230 m_231 =>
up m_231 x_148 4 (-1) fun m_242 =>
lx (w32 (y3 + 1)) fun x_253 =>
fl_X11_dropEvent_63 y1 y2 n x_253 m_242
else
up m x_148 4 (-1) fun m_212 =>
lx (w32 (y3 + 1)) fun x_223 =>
fl_X11_dropEvent_63 y1 y2 n x_223 m_212
else
lx (w32 (y3 + 1)) fun x_198 =>
fl_X11_dropEvent_63 y1 y2 n x_198 m
else
lx (w32 (y3 + 1)) fun x_181 =>
fl_X11_dropEvent_63 y1 y2 n x_181 m
else
some (0, m)
set_option maxHeartbeats 4000000 in
theorem ol_X11_dropEvent_63 {xs : List Int32} {d : Nat} {Q : QO → QS → Prop} {mb : MM} {y1 y2 : Int} {rz : Int} {rm : MM}
  (hd : 4 ≤ d)
  (hQ : Ext mb rm → ∀ o S1, Rp S1 rm → q_out 9 o rz → Q o S1) :
  ∀ (n : Nat) {m : MM} {S : QS} {L : QL} {y3 : Int} {v0 : Value} {v1 : Value} {v2 : Value} {v3 : Value} , Ext mb m → fl_X11_dropEvent_63 y1 y2 n y3 m = some (rz, rm) → Rp S m → q_lo L 0 = some v0 → q_is 2 v0 4 → q_lo L 1 = some v1 → q_is 2 v1 y1 → q_lo L 2 = some v2 → q_is 0 v2 y2 → q_lo L 3 = some v3 → q_is 0 v3 y3 → Go xs d qM_X11_dropEvent 63 L [] S Q := by
  intro n
  induction n with
  | zero => intro m S L y3 v0 v1 v2 v3; intro E h R l0 f0 l1 f1 l2 f2 l3 f3; cases h
  | succ n ih0 =>
    intro m S L y3 v0 v1 v2 v3; intro E h R l0 f0 l1 f1 l2 f2 l3 f3
    have ih : ∀ mq : MM, Ext mb mq → ∀ {z3 : Int} {Sq : QS} {Lq : QL} {u0 : Value} {u1 : Value} {u2 : Value} {u3 : Value}, fl_X11_dropEvent_63 y1 y2 n z3 mq = some (rz, rm) → Rp Sq mq → q_lo Lq 0 = some u0 → q_is 2 u0 4 → q_lo Lq 1 = some u1 → q_is 2 u1 y1 → q_lo Lq 2 = some u2 → q_is 0 u2 y2 → q_lo Lq 3 = some u3 → q_is 0 u3 z3 → Go xs d qM_X11_dropEvent 63 Lq [] Sq Q := fun mq b => by intros; exact ih0 b ‹_› ‹_› ‹_› ‹_› ‹_› ‹_› ‹_› ‹_› ‹_› ‹_›
    unfold fl_X11_dropEvent_63 at h
    refine go_iload_n (n := 3) (by decide +kernel) l3 f3 ?_
    refine go_aload_n (n := 0) (by decide +kernel) l0 f0 ?_
    refine go_getf (x := 24) (ci := 12) (kf := 2) (fin := 1) (t := 2) (by decide +kernel) (by decide +kernel) (by decide +kernel) R f0 (fx_k (c := 12) R (by decide +kernel)) fun v_131 f_132 => ?_
    have f_133 := q_is_eq (b := 7) f_132 (fx_v R (by decide +kernel)).symm
    obtain ⟨x_135, hc_134, h⟩ := bp_s h
    refine go_callV (x := 127) (mi := 326) (n := 0) (ci := 0) (as := []) (rest := [v3]) (by decide +kernel) (by decide +kernel) rfl rfl (q_sum8 _ (Nat.le_of_ble_eq_true rfl)) R f_133 (fx_k (c := 0) R (by decide +kernel)) (om_Jx4a65c_size_8abf5 (Nat.le_trans (by decide) hd) R (fx_k (c := 0) R (by decide +kernel)) f_133 hc_134) (fun _ S_139 q_142 => ?_) (fun _ _ qq => kr_x qq)
    refine kr_z (by decide) q_142 fun v_137 f_138 R_140 E_141 => ?_
    refine go_icmp (c := .ge) (o := 64) (t := 135) (P := ¬ (y3 < x_135)) (by decide +kernel) (by decide +kernel) f3 f_138 (Int.not_lt.symm) (fun hp_143 => ?_) (fun hp_143 => ?_)
    · have h := it_f hp_143 h
      cases h
      exact go_vret (by decide +kernel) rfl (hQ E _ _ R_140 q_out_n)
    · have h := it_n hp_143 h
      refine go_aload_n (n := 0) (by decide +kernel) l0 f0 ?_
      refine go_getf (x := 24) (ci := 12) (kf := 2) (fin := 1) (t := 2) (by decide +kernel) (by decide +kernel) (by decide +kernel) R_140 f0 (fx_k (c := 12) R_140 (by decide +kernel)) fun v_144 f_145 => ?_
      have f_146 := q_is_eq (b := 7) f_145 (fx_v R_140 (by decide +kernel)).symm
      refine go_iload_n (n := 3) (by decide +kernel) l3 f3 ?_
      obtain ⟨x_148, hc_147, h⟩ := bp_s h
      refine go_callV (x := 305) (mi := 329) (n := 1) (ci := 0) (as := [v3]) (rest := []) (by decide +kernel) (by decide +kernel) rfl rfl (q_sum8 _ (Nat.le_of_ble_eq_true rfl)) R_140 f_146 (fx_k (c := 0) R_140 (by decide +kernel)) (om_Jx4a65c_get_915e3 (Nat.le_trans (by decide) hd) R_140 (fx_k (c := 0) R_140 (by decide +kernel)) f_146 f3 hc_147) (fun _ S_152 q_155 => ?_) (fun _ _ qq => kr_x qq)
      refine kr_z (by decide) q_155 fun v_150 f_151 R_153 E_154 => ?_
      obtain ⟨g_156, h⟩ := gd_s h
      refine go_cast (x := 181) (kd := 7) (a := 0) (b := 0) (by decide +kernel) (by decide +kernel) R_153 f_151 g_156 ?_
      refine go_astore (n := 4) (by decide +kernel) (by decide +kernel) f_151 fun L_157 l_158 kp_159 => ?_
      have l_160 := kp_159 0 _ l0 (by decide) (Or.inl (by decide))
      have l_161 := kp_159 1 _ l1 (by decide) (Or.inl (by decide))
      have l_162 := kp_159 2 _ l2 (by decide) (Or.inl (by decide))
      have l_163 := kp_159 3 _ l3 (by decide) (Or.inr (q_is_cat f3 (Or.inl rfl)))
      refine go_aload (n := 4) (by decide +kernel) l_158 f_151 ?_
      obtain ⟨x_167, e_168, h⟩ := lx_s h
      refine go_getf (x := 414) (ci := 7) (kf := 4) (fin := 0) (t := 0) (by decide +kernel) (by decide +kernel) (by decide +kernel) R_153 f_151 g_156 fun v_164 f_165 => ?_
      have f_166 := q_is_eq f_165 e_168
      refine go_aload_n (n := 1) (by decide +kernel) l_161 f1 ?_
      obtain ⟨g_171, h⟩ := gd_s h
      obtain ⟨x_173, e_174, h⟩ := lx_s h
      refine go_getf (x := 180) (ci := 7) (kf := 0) (fin := 2) (t := 0) (by decide +kernel) (by decide +kernel) (by decide +kernel) R_153 f1 g_171 fun v_169 f_170 => ?_
      have f_172 := q_is_eq f_170 e_174
      refine go_icmp (c := .ne) (o := 33) (t := 129) (P := ¬ (x_167 = x_173)) (by decide +kernel) (by decide +kernel) f_166 f_172 (Iff.rfl) (fun hp_175 => ?_) (fun hp_175 => ?_)
      · have h := it_f hp_175 h
        refine go_iinc (n := 3) (c := 1) (c' := 1) (by decide +kernel) (by decide +kernel) l_163 f3 (by decide) fun L_176 v_177 f_178 l_179 kp_180 => ?_
        obtain ⟨x_181, e_182, h⟩ := lx_s h
        have f_183 := q_is_eq f_178 e_182
        have l_184 := kp_180 0 _ l_160 (by decide) (Or.inl (by decide))
        have l_185 := kp_180 1 _ l_161 (by decide) (Or.inl (by decide))
        have l_186 := kp_180 2 _ l_162 (by decide) (Or.inr (q_is_cat f2 (Or.inl rfl)))
        refine go_goto (o := (-69)) (t := 63) (by decide +kernel) (by decide +kernel) ?_
        exact ih m E h R_153 l_184 f0 l_185 f1 l_186 f2 l_179 f_183
      · have h := it_n hp_175 h
        refine go_aload (n := 4) (by decide +kernel) l_158 f_151 ?_
        obtain ⟨x_190, e_191, h⟩ := lx_s h
        refine go_getf (x := 417) (ci := 7) (kf := 5) (fin := 2) (t := 0) (by decide +kernel) (by decide +kernel) (by decide +kernel) R_153 f_151 g_156 fun v_187 f_188 => ?_
        have f_189 := q_is_eq f_188 e_191
        refine go_iload_n (n := 2) (by decide +kernel) l_162 f2 ?_
        refine go_icmp (c := .ne) (o := 24) (t := 129) (P := ¬ (x_190 = y2)) (by decide +kernel) (by decide +kernel) f_189 f2 (Iff.rfl) (fun hp_192 => ?_) (fun hp_192 => ?_)
        · have h := it_f hp_192 h
          refine go_iinc (n := 3) (c := 1) (c' := 1) (by decide +kernel) (by decide +kernel) l_163 f3 (by decide) fun L_193 v_194 f_195 l_196 kp_197 => ?_
          obtain ⟨x_198, e_199, h⟩ := lx_s h
          have f_200 := q_is_eq f_195 e_199
          have l_201 := kp_197 0 _ l_160 (by decide) (Or.inl (by decide))
          have l_202 := kp_197 1 _ l_161 (by decide) (Or.inl (by decide))
          have l_203 := kp_197 2 _ l_162 (by decide) (Or.inr (q_is_cat f2 (Or.inl rfl)))
          refine go_goto (o := (-69)) (t := 63) (by decide +kernel) (by decide +kernel) ?_
          exact ih m E h R_153 l_201 f0 l_202 f1 l_203 f2 l_196 f_200
        · have h := it_n hp_192 h
          refine go_aload (n := 4) (by decide +kernel) l_158 f_151 ?_
          obtain ⟨x_207, e_208, h⟩ := lx_s h
          refine go_getf (x := 208) (ci := 7) (kf := 6) (fin := 0) (t := 0) (by decide +kernel) (by decide +kernel) (by decide +kernel) R_153 f_151 g_156 fun v_204 f_205 => ?_
          have f_206 := q_is_eq f_205 e_208
          refine go_if (c := .ne) (o := 10) (t := 123) (P := ¬ (x_207 = 0)) (by decide +kernel) (by decide +kernel) f_206 (Iff.rfl) (fun hp_209 => ?_) (fun hp_209 => ?_)
          · have h := it_f hp_209 h
            refine go_aload (n := 4) (by decide +kernel) l_158 f_151 ?_
            refine go_iconst (n := (-1)) (z := (-1)) (by decide +kernel) (by decide) fun v_210 f_211 => ?_
            obtain ⟨m_212, e_213, h⟩ := up_s h
            refine go_putf (x := 414) (ci := 7) (kf := 4) (fin := 0) (zt := 0) (by decide +kernel) (by decide +kernel) (by decide) (by decide +kernel) (by decide) (Or.inl rfl) R_153 f_151 f_211 (fun hq => absurd hq (by decide)) g_156 e_213 (fx_f (j := 4) R_153.2 g_156 (by decide +kernel)) fun S_214 R_215 E_216 => ?_
            have E_217 := Ext.tr E E_216
            refine go_iinc (n := 3) (c := 1) (c' := 1) (by decide +kernel) (by decide +kernel) l_163 f3 (by decide) fun L_218 v_219 f_220 l_221 kp_222 => ?_
            obtain ⟨x_223, e_224, h⟩ := lx_s h
            have f_225 := q_is_eq f_220 e_224
            have l_226 := kp_222 0 _ l_160 (by decide) (Or.inl (by decide))
            have l_227 := kp_222 1 _ l_161 (by decide) (Or.inl (by decide))
            have l_228 := kp_222 2 _ l_162 (by decide) (Or.inr (q_is_cat f2 (Or.inl rfl)))
            refine go_goto (o := (-69)) (t := 63) (by decide +kernel) (by decide +kernel) ?_
            exact ih m_212 E_217 h R_215 l_226 f0 l_227 f1 l_228 f2 l_221 f_225
          · have h := it_n hp_209 h
            refine go_aload_n (n := 0) (by decide +kernel) l_160 f0 ?_
            refine go_aload (n := 4) (by decide +kernel) l_158 f_151 ?_
            obtain ⟨x_230, m_231, hc_229, h⟩ := bd_s h
            refine go_callV (x := 242) (mi := 153) (n := 1) (ci := 12) (as := [v_150]) (rest := []) (by decide +kernel) (by decide +kernel) rfl rfl (q_sum8 _ (Nat.le_of_ble_eq_true rfl)) R_153 f0 (fx_k (c := 12) R_153 (by decide +kernel)) (om_X11_cancelRun (Nat.le_trans (by decide) hd) R_153 f0 f_151 hc_229) (fun _ S_234 q_237 => ?_) (fun _ _ qq => kr_x qq)
            refine kr_z (by decide) q_237 fun v_232 f_233 R_235 E_236 => ?_
            have E_238 := Ext.tr E E_236
            refine go_pop (by decide +kernel) f_233 (Or.inl rfl) ?_
            refine go_aload (n := 4) (by decide +kernel) l_158 f_151 ?_
            refine go_iconst (n := (-1)) (z := (-1)) (by decide +kernel) (by decide) fun v_239 f_240 => ?_
            have g_241 := Ext.ok E_236 g_156
            obtain ⟨m_242, e_243, h⟩ := up_s h
            refine go_putf (x := 414) (ci := 7) (kf := 4) (fin := 0) (zt := 0) (by decide +kernel) (by decide +kernel) (by decide) (by decide +kernel) (by decide) (Or.inl rfl) R_235 f_151 f_240 (fun hq => absurd hq (by decide)) g_241 e_243 (fx_f (j := 4) R_235.2 g_241 (by decide +kernel)) fun S_244 R_245 E_246 => ?_
            have E_247 := Ext.tr E_238 E_246
            refine go_iinc (n := 3) (c := 1) (c' := 1) (by decide +kernel) (by decide +kernel) l_163 f3 (by decide) fun L_248 v_249 f_250 l_251 kp_252 => ?_
            obtain ⟨x_253, e_254, h⟩ := lx_s h
            have f_255 := q_is_eq f_250 e_254
            have l_256 := kp_252 0 _ l_160 (by decide) (Or.inl (by decide))
            have l_257 := kp_252 1 _ l_161 (by decide) (Or.inl (by decide))
            have l_258 := kp_252 2 _ l_162 (by decide) (Or.inr (q_is_cat f2 (Or.inl rfl)))
            refine go_goto (o := (-69)) (t := 63) (by decide +kernel) (by decide +kernel) ?_
            exact ih m_242 E_247 h R_245 l_256 f0 l_257 f1 l_258 f2 l_251 f_255
noncomputable def fm_X11_dropEvent (p1 p2 : Int) (m0 : MM) : Option (Int × MM) := fl_X11_dropEvent_2 p1 p2 (fun m_109 =>
gd (okc m_109 p1 7) <| bd (fm_X6_dropTimer p1 p2 m_109) fun x_114 m_115 =>
fl_X11_dropEvent_63 p1 p2  BIG 0 m_115) BIG 0 m0
set_option maxHeartbeats 4000000 in
theorem om_X11_dropEvent {xs : List Int32} {d : Nat} {S : QS} {m0 : MM} {p1 p2 : Int} {v0 : Value} {v1 : Value} {v2 : Value} {rz : Int} {rm : MM}
  (hd : 5 ≤ d) (R : Rp S m0) (f0 : q_is 2 v0 4) (f1 : q_is 2 v1 p1) (f2 : q_is 0 v2 p2)
  (h : fm_X11_dropEvent p1 p2 m0 = some (rz, rm)) : Mt xs d 170 [v0, v1, v2] S (Cr 9 m0 rm rz) := by
  obtain ⟨d, rfl⟩ : ∃ e, d = e + 1 := ⟨d - 1, by omega⟩
  have hd : 4 ≤ d := Nat.le_of_succ_le_succ hd
  refine Mt.of (M := qM_X11_dropEvent) rfl (by rw [sl_1 (q_is_cat f0 (Or.inr rfl)), sl_1 (q_is_cat f1 (Or.inr rfl)), sl_1 (q_is_cat f2 (Or.inl rfl)), sl_0]; decide) ?_
  rw [la_1 (q_is_cat f0 (Or.inr rfl)), la_1 (q_is_cat f1 (Or.inr rfl)), la_1 (q_is_cat f2 (Or.inl rfl)), la_0]
  obtain ⟨L, hL⟩ : ∃ L : QL, L = [(0, v0), (0 + 1, v1), (0 + 1 + 1, v2)] := ⟨_, rfl⟩
  rw [← hL]
  have l0 : q_lo L 0 = some v0 := by rw [hL]; rfl
  have l1 : q_lo L 1 = some v1 := by rw [hL]; rfl
  have l2 : q_lo L 2 = some v2 := by rw [hL]; rfl
  have hQ : Ext m0 rm → ∀ o S1, Rp S1 rm → q_out 9 o rz → (Cr 9 m0 rm rz) o S1 := fun a o S1 b e => ⟨b, a, e⟩
  unfold fm_X11_dropEvent at h
  refine go_iconst (n := 0) (z := 0) (by decide +kernel) (by decide) fun v_1 f_2 => ?_
  refine go_istore_n (n := 3) (by decide +kernel) (by decide +kernel) f_2 fun L_3 l_4 kp_5 => ?_
  have l_6 := kp_5 0 _ l0 (by decide) (Or.inl (by decide))
  have l_7 := kp_5 1 _ l1 (by decide) (Or.inl (by decide))
  have l_8 := kp_5 2 _ l2 (by decide) (Or.inr (q_is_cat f2 (Or.inl rfl)))
  refine ol_X11_dropEvent_2 hd  ?_ hQ BIG (Ext.rf _) h R l_6 f0 l_7 f1 l_8 f2 l_4 f_2
  intro m_109 E_110
  intro S_106 L_107 v_97 v_98 v_99
  intro h R_108 l_100 f_103 l_101 f_104 l_102 f_105
  have E_111 := E_110
  refine go_aload_n (n := 1) (by decide +kernel) l_101 f_104 ?_
  refine go_iload_n (n := 2) (by decide +kernel) l_102 f_105 ?_
  obtain ⟨g_112, h⟩ := gd_s h
  obtain ⟨x_114, m_115, hc_113, h⟩ := bd_s h
  refine go_callV (x := 613) (mi := 72) (n := 1) (ci := 7) (as := [v_99]) (rest := []) (by decide +kernel) (by decide +kernel) rfl rfl (q_sum8 _ (Nat.le_of_ble_eq_true rfl)) R_108 f_104 g_112 (om_X6_dropTimer (Nat.le_trans (by decide) hd) R_108 g_112 f_104 f_105 hc_113) (fun _ S_118 q_121 => ?_) (fun _ _ qq => kr_x qq)
  refine kr_v q_121 fun R_119 E_120 => ?_
  have E_122 := Ext.tr E_111 E_120
  refine go_iconst (n := 0) (z := 0) (by decide +kernel) (by decide) fun v_123 f_124 => ?_
  refine go_istore_n (n := 3) (by decide +kernel) (by decide +kernel) f_124 fun L_125 l_126 kp_127 => ?_
  have l_128 := kp_127 0 _ l_100 (by decide) (Or.inl (by decide))
  have l_129 := kp_127 1 _ l_101 (by decide) (Or.inl (by decide))
  have l_130 := kp_127 2 _ l_102 (by decide) (Or.inr (q_is_cat f_105 (Or.inl rfl)))
  refine ol_X11_dropEvent_63 hd   (fun b => hQ (Ext.tr E_122 b)) BIG (Ext.rf _) h R_119 l_128 f_103 l_129 f_104 l_130 f_105 l_126 f_124
noncomputable def fj_X11_queueTag_31 (m : MM) : Option (Int × MM) := lx (m 4 11) fun x_15 =>
up m 4 11 (w32 (x_15 + 1)) fun m_21 =>
some (0, m_21)
set_option maxHeartbeats 4000000 in
theorem oj_X11_queueTag_31 {xs : List Int32} {d : Nat} {S : QS} {L : QL} {Q : QO → QS → Prop} {m : MM} {v0 : Value}  {rz : Int} {rm : MM}
  (hd : 1 ≤ d) (R : Rp S m) (l0 : q_lo L 0 = some v0) (f0 : q_is 2 v0 4)
  (hQ : Ext m rm → ∀ o S1, Rp S1 rm → q_out 9 o rz → Q o S1)
  (h : fj_X11_queueTag_31 m = some (rz, rm)) : Go xs d qM_X11_queueTag 31 L [] S Q := by
  unfold fj_X11_queueTag_31 at h
  refine go_aload_n (n := 0) (by decide +kernel) l0 f0 ?_
  refine go_dup (by decide +kernel) f0 (Or.inr rfl) ?_
  obtain ⟨x_15, e_16, h⟩ := lx_s h
  refine go_getf (x := 61) (ci := 12) (kf := 11) (fin := 0) (t := 0) (by decide +kernel) (by decide +kernel) (by decide +kernel) R f0 (fx_k (c := 12) R (by decide +kernel)) fun v_12 f_13 => ?_
  have f_14 := q_is_eq f_13 e_16
  refine go_iconst (n := 1) (z := 1) (by decide +kernel) (by decide) fun v_17 f_18 => ?_
  refine go_iadd (by decide +kernel) f_14 f_18 fun v_19 f_20 => ?_
  obtain ⟨m_21, e_22, h⟩ := up_s h
  refine go_putf (x := 61) (ci := 12) (kf := 11) (fin := 0) (zt := 0) (by decide +kernel) (by decide +kernel) (by decide) (by decide +kernel) (by decide) (Or.inl rfl) R f0 f_20 (fun hq => absurd hq (by decide)) (fx_k (c := 12) R (by decide +kernel)) e_22 (fx_f (j := 11) R.2 (fx_k (c := 12) R (by decide +kernel)) (by decide +kernel)) fun S_23 R_24 E_25 => ?_
  have E_26 := E_25
  cases h
  exact go_vret (by decide +kernel) rfl (hQ E_26 _ _ R_24 q_out_n)
noncomputable def fm_X11_queueTag (p1 p2 : Int) (m0 : MM) : Option (Int × MM) := lx (m0 14 2) fun x_7 =>
if x_7 < 51200 then
gd (okc m0 p1 7) <| lx (m0 p1 0) fun x_34 =>
bd (fm_X5_add 14 (w32 ((w32 (x_34 * 1000)) + p2)) m0) fun x_45 m_46 =>
fj_X11_queueTag_31 m_46
else
fj_X11_queueTag_31 m0
set_option maxHeartbeats 4000000 in
theorem om_X11_queueTag {xs : List Int32} {d : Nat} {S : QS} {m0 : MM} {p1 p2 : Int} {v0 : Value} {v1 : Value} {v2 : Value} {rz : Int} {rm : MM}
  (hd : 2 ≤ d) (R : Rp S m0) (f0 : q_is 2 v0 4) (f1 : q_is 2 v1 p1) (f2 : q_is 0 v2 p2)
  (h : fm_X11_queueTag p1 p2 m0 = some (rz, rm)) : Mt xs d 167 [v0, v1, v2] S (Cr 9 m0 rm rz) := by
  obtain ⟨d, rfl⟩ : ∃ e, d = e + 1 := ⟨d - 1, by omega⟩
  have hd : 1 ≤ d := Nat.le_of_succ_le_succ hd
  refine Mt.of (M := qM_X11_queueTag) rfl (by rw [sl_1 (q_is_cat f0 (Or.inr rfl)), sl_1 (q_is_cat f1 (Or.inr rfl)), sl_1 (q_is_cat f2 (Or.inl rfl)), sl_0]; decide) ?_
  rw [la_1 (q_is_cat f0 (Or.inr rfl)), la_1 (q_is_cat f1 (Or.inr rfl)), la_1 (q_is_cat f2 (Or.inl rfl)), la_0]
  obtain ⟨L, hL⟩ : ∃ L : QL, L = [(0, v0), (0 + 1, v1), (0 + 1 + 1, v2)] := ⟨_, rfl⟩
  rw [← hL]
  have l0 : q_lo L 0 = some v0 := by rw [hL]; rfl
  have l1 : q_lo L 1 = some v1 := by rw [hL]; rfl
  have l2 : q_lo L 2 = some v2 := by rw [hL]; rfl
  have hQ : Ext m0 rm → ∀ o S1, Rp S1 rm → q_out 9 o rz → (Cr 9 m0 rm rz) o S1 := fun a o S1 b e => ⟨b, a, e⟩
  unfold fm_X11_queueTag at h
  refine go_aload_n (n := 0) (by decide +kernel) l0 f0 ?_
  refine go_getf (x := 50) (ci := 12) (kf := 9) (fin := 1) (t := 2) (by decide +kernel) (by decide +kernel) (by decide +kernel) R f0 (fx_k (c := 12) R (by decide +kernel)) fun v_1 f_2 => ?_
  have f_3 := q_is_eq (b := 14) f_2 (fx_v R (by decide +kernel)).symm
  obtain ⟨x_7, e_8, h⟩ := lx_s h
  refine go_getf (x := 108) (ci := 6) (kf := 2) (fin := 0) (t := 0) (by decide +kernel) (by decide +kernel) (by decide +kernel) R f_3 (fx_k (c := 6) R (by decide +kernel)) fun v_4 f_5 => ?_
  have f_6 := q_is_eq f_5 e_8
  refine go_ldc_w (x := 609) (n := 51200) (a := 0) (b := 0) (z := 51200) (by decide +kernel) (by decide +kernel) (by decide +kernel) fun v_9 f_10 => ?_
  refine go_icmp (c := .ge) (o := 21) (t := 31) (P := ¬ (x_7 < 51200)) (by decide +kernel) (by decide +kernel) f_6 f_10 (Int.not_lt.symm) (fun hp_11 => ?_) (fun hp_11 => ?_)
  · have h := it_f hp_11 h
    exact oj_X11_queueTag_31 hd R l0 f0 hQ h
  · have h := it_n hp_11 h
    refine go_aload_n (n := 0) (by decide +kernel) l0 f0 ?_
    refine go_getf (x := 50) (ci := 12) (kf := 9) (fin := 1) (t := 2) (by decide +kernel) (by decide +kernel) (by decide +kernel) R f0 (fx_k (c := 12) R (by decide +kernel)) fun v_27 f_28 => ?_
    have f_29 := q_is_eq (b := 14) f_28 (fx_v R (by decide +kernel)).symm
    refine go_aload_n (n := 1) (by decide +kernel) l1 f1 ?_
    obtain ⟨g_32, h⟩ := gd_s h
    obtain ⟨x_34, e_35, h⟩ := lx_s h
    refine go_getf (x := 180) (ci := 7) (kf := 0) (fin := 2) (t := 0) (by decide +kernel) (by decide +kernel) (by decide +kernel) R f1 g_32 fun v_30 f_31 => ?_
    have f_33 := q_is_eq f_31 e_35
    refine go_sipush (n := 1000) (z := 1000) (by decide +kernel) (by decide) fun v_36 f_37 => ?_
    refine go_imul (by decide +kernel) f_33 f_37 fun v_38 f_39 => ?_
    refine go_iload_n (n := 2) (by decide +kernel) l2 f2 ?_
    refine go_iadd (by decide +kernel) f_39 f2 fun v_40 f_41 => ?_
    refine go_i2l (by decide +kernel) f_41 fun v_42 f_43 => ?_
    obtain ⟨x_45, m_46, hc_44, h⟩ := bd_s h
    refine go_callV (x := 120) (mi := 60) (n := 1) (ci := 6) (as := [v_42]) (rest := []) (by decide +kernel) (by decide +kernel) rfl rfl (q_sum8 _ (Nat.le_of_ble_eq_true rfl)) R f_29 (fx_k (c := 6) R (by decide +kernel)) (om_X5_add (Nat.le_trans (by decide) hd) R (fx_k (c := 6) R (by decide +kernel)) f_29 f_43 hc_44) (fun _ S_49 q_52 => ?_) (fun _ _ qq => kr_x qq)
    refine kr_v q_52 fun R_50 E_51 => ?_
    have E_53 := E_51
    exact oj_X11_queueTag_31 hd R_50 l0 f0 (fun b => hQ (Ext.tr E_53 b)) h
noncomputable def fl_X11_endWork_2 (y1 : Int) (k44 : MM → Option (Int × MM)) : Nat → Int → MM → Option (Int × MM)
  | 0, _, _ => none
  | n + 1, y2, m => bp (fm_Jx4a65c_size_8abf5 8 m) fun x_12 =>
if y2 < x_12 then
bp (fm_Jx4a65c_get_915e3 8 y2 m) fun x_25 =>
gd (okc m x_25 1) <| lx (m x_25 0) fun x_43 =>
gd (x_43 = 0 ∨ x_43 = 1 ∨ 4 ≤ x_43) <| gd (y1 = 0 ∨ y1 = 1 ∨ 4 ≤ y1) <| if x_43 = y1 then
up m x_25 5 2 fun m_60 =>
lx (w32 (y2 + 1)) fun x_71 =>
fl_X11_endWork_2 y1 k44 n x_71 m_60
else
lx (w32 (y2 + 1)) fun x_53 =>
fl_X11_endWork_2 y1 k44 n x_53 m
else
k44 m
set_option maxHeartbeats 4000000 in
theorem ol_X11_endWork_2 {xs : List Int32} {d : Nat} {Q : QO → QS → Prop} {mb : MM} {y1 : Int} {k44 : MM → Option (Int × MM)} {rz : Int} {rm : MM}
  (hd : 3 ≤ d)
  (hk44 : ∀ mq : MM, Ext mb mq → ∀ {Sq : QS} {Lq : QL} {u1 : Value}, k44 mq = some (rz, rm) → Rp Sq mq → q_lo Lq 1 = some u1 → q_is 2 u1 y1 → Go xs d qM_X11_endWork 44 Lq [] Sq Q)
  (hQ : Ext mb rm → ∀ o S1, Rp S1 rm → q_out 9 o rz → Q o S1) :
  ∀ (n : Nat) {m : MM} {S : QS} {L : QL} {y2 : Int} {v0 : Value} {v1 : Value} {v2 : Value} , Ext mb m → fl_X11_endWork_2 y1 k44 n y2 m = some (rz, rm) → Rp S m → q_lo L 0 = some v0 → q_is 2 v0 4 → q_lo L 1 = some v1 → q_is 2 v1 y1 → q_lo L 2 = some v2 → q_is 0 v2 y2 → Go xs d qM_X11_endWork 2 L [] S Q := by
  intro n
  induction n with
  | zero => intro m S L y2 v0 v1 v2; intro E h R l0 f0 l1 f1 l2 f2; cases h
  | succ n ih0 =>
    intro m S L y2 v0 v1 v2; intro E h R l0 f0 l1 f1 l2 f2
    have ih : ∀ mq : MM, Ext mb mq → ∀ {z2 : Int} {Sq : QS} {Lq : QL} {u0 : Value} {u1 : Value} {u2 : Value}, fl_X11_endWork_2 y1 k44 n z2 mq = some (rz, rm) → Rp Sq mq → q_lo Lq 0 = some u0 → q_is 2 u0 4 → q_lo Lq 1 = some u1 → q_is 2 u1 y1 → q_lo Lq 2 = some u2 → q_is 0 u2 z2 → Go xs d qM_X11_endWork 2 Lq [] Sq Q := fun mq b => by intros; exact ih0 b ‹_› ‹_› ‹_› ‹_› ‹_› ‹_› ‹_› ‹_›
    unfold fl_X11_endWork_2 at h
    refine go_iload_n (n := 2) (by decide +kernel) l2 f2 ?_
    refine go_aload_n (n := 0) (by decide +kernel) l0 f0 ?_
    refine go_getf (x := 28) (ci := 12) (kf := 3) (fin := 1) (t := 2) (by decide +kernel) (by decide +kernel) (by decide +kernel) R f0 (fx_k (c := 12) R (by decide +kernel)) fun v_8 f_9 => ?_
    have f_10 := q_is_eq (b := 8) f_9 (fx_v R (by decide +kernel)).symm
    obtain ⟨x_12, hc_11, h⟩ := bp_s h
    refine go_callV (x := 127) (mi := 326) (n := 0) (ci := 0) (as := []) (rest := [v2]) (by decide +kernel) (by decide +kernel) rfl rfl (q_sum8 _ (Nat.le_of_ble_eq_true rfl)) R f_10 (fx_k (c := 0) R (by decide +kernel)) (om_Jx4a65c_size_8abf5 (Nat.le_trans (by decide) hd) R (fx_k (c := 0) R (by decide +kernel)) f_10 hc_11) (fun _ S_16 q_19 => ?_) (fun _ _ qq => kr_x qq)
    refine kr_z (by decide) q_19 fun v_14 f_15 R_17 E_18 => ?_
    refine go_icmp (c := .ge) (o := 34) (t := 44) (P := ¬ (y2 < x_12)) (by decide +kernel) (by decide +kernel) f2 f_15 (Int.not_lt.symm) (fun hp_20 => ?_) (fun hp_20 => ?_)
    · have h := it_f hp_20 h
      exact hk44 m E h R_17 l1 f1
    · have h := it_n hp_20 h
      refine go_aload_n (n := 0) (by decide +kernel) l0 f0 ?_
      refine go_getf (x := 28) (ci := 12) (kf := 3) (fin := 1) (t := 2) (by decide +kernel) (by decide +kernel) (by decide +kernel) R_17 f0 (fx_k (c := 12) R_17 (by decide +kernel)) fun v_21 f_22 => ?_
      have f_23 := q_is_eq (b := 8) f_22 (fx_v R_17 (by decide +kernel)).symm
      refine go_iload_n (n := 2) (by decide +kernel) l2 f2 ?_
      obtain ⟨x_25, hc_24, h⟩ := bp_s h
      refine go_callV (x := 305) (mi := 329) (n := 1) (ci := 0) (as := [v2]) (rest := []) (by decide +kernel) (by decide +kernel) rfl rfl (q_sum8 _ (Nat.le_of_ble_eq_true rfl)) R_17 f_23 (fx_k (c := 0) R_17 (by decide +kernel)) (om_Jx4a65c_get_915e3 (Nat.le_trans (by decide) hd) R_17 (fx_k (c := 0) R_17 (by decide +kernel)) f_23 f2 hc_24) (fun _ S_29 q_32 => ?_) (fun _ _ qq => kr_x qq)
      refine kr_z (by decide) q_32 fun v_27 f_28 R_30 E_31 => ?_
      obtain ⟨g_33, h⟩ := gd_s h
      refine go_cast (x := 347) (kd := 1) (a := 0) (b := 0) (by decide +kernel) (by decide +kernel) R_30 f_28 g_33 ?_
      refine go_astore_n (n := 3) (by decide +kernel) (by decide +kernel) f_28 fun L_34 l_35 kp_36 => ?_
      have l_37 := kp_36 0 _ l0 (by decide) (Or.inl (by decide))
      have l_38 := kp_36 1 _ l1 (by decide) (Or.inl (by decide))
      have l_39 := kp_36 2 _ l2 (by decide) (Or.inr (q_is_cat f2 (Or.inl rfl)))
      refine go_aload_n (n := 3) (by decide +kernel) l_35 f_28 ?_
      obtain ⟨x_43, e_44, h⟩ := lx_s h
      refine go_getf (x := 366) (ci := 1) (kf := 0) (fin := 2) (t := 2) (by decide +kernel) (by decide +kernel) (by decide +kernel) R_30 f_28 g_33 fun v_40 f_41 => ?_
      have f_42 := q_is_eq f_41 e_44
      refine go_aload_n (n := 1) (by decide +kernel) l_38 f1 ?_
      obtain ⟨g_46, h⟩ := gd_s h
      obtain ⟨g_47, h⟩ := gd_s h
      refine go_acmp (c := .ne) (o := 8) (t := 38) (P := ¬ (x_43 = y1)) (by decide +kernel) (by decide +kernel) f_42 f1 g_46 g_47 Iff.rfl (fun hp_45 => ?_) (fun hp_45 => ?_)
      · have h := it_f hp_45 h
        refine go_iinc (n := 2) (c := 1) (c' := 1) (by decide +kernel) (by decide +kernel) l_39 f2 (by decide) fun L_48 v_49 f_50 l_51 kp_52 => ?_
        obtain ⟨x_53, e_54, h⟩ := lx_s h
        have f_55 := q_is_eq f_50 e_54
        have l_56 := kp_52 0 _ l_37 (by decide) (Or.inl (by decide))
        have l_57 := kp_52 1 _ l_38 (by decide) (Or.inr (q_is_cat f1 (Or.inr rfl)))
        refine go_goto (o := (-39)) (t := 2) (by decide +kernel) (by decide +kernel) ?_
        exact ih m E h R_30 l_56 f0 l_57 f1 l_51 f_55
      · have h := it_n hp_45 h
        refine go_aload_n (n := 3) (by decide +kernel) l_35 f_28 ?_
        refine go_iconst (n := 2) (z := 2) (by decide +kernel) (by decide) fun v_58 f_59 => ?_
        obtain ⟨m_60, e_61, h⟩ := up_s h
        refine go_putf (x := 351) (ci := 1) (kf := 5) (fin := 0) (zt := 0) (by decide +kernel) (by decide +kernel) (by decide) (by decide +kernel) (by decide) (Or.inl rfl) R_30 f_28 f_59 (fun hq => absurd hq (by decide)) g_33 e_61 (fx_f (j := 5) R_30.2 g_33 (by decide +kernel)) fun S_62 R_63 E_64 => ?_
        have E_65 := Ext.tr E E_64
        refine go_iinc (n := 2) (c := 1) (c' := 1) (by decide +kernel) (by decide +kernel) l_39 f2 (by decide) fun L_66 v_67 f_68 l_69 kp_70 => ?_
        obtain ⟨x_71, e_72, h⟩ := lx_s h
        have f_73 := q_is_eq f_68 e_72
        have l_74 := kp_70 0 _ l_37 (by decide) (Or.inl (by decide))
        have l_75 := kp_70 1 _ l_38 (by decide) (Or.inr (q_is_cat f1 (Or.inr rfl)))
        refine go_goto (o := (-39)) (t := 2) (by decide +kernel) (by decide +kernel) ?_
        exact ih m_60 E_65 h R_63 l_74 f0 l_75 f1 l_69 f_73
noncomputable def fm_X11_endWork (p1 : Int) (m0 : MM) : Option (Int × MM) := fl_X11_endWork_2 p1 (fun m_82 =>
gd (okc m_82 p1 7) <| lx (m_82 p1 17) fun x_89 =>
gd (okc m_82 x_89 6) <| bd (fm_X5_cut x_89 0 m_82) fun x_95 m_96 =>
lx (m_96 p1 18) fun x_108 =>
gd (okc m_96 x_108 6) <| bd (fm_X5_cut x_108 0 m_96) fun x_114 m_115 =>
some (0, m_115)) BIG 0 m0
set_option maxHeartbeats 4000000 in
theorem om_X11_endWork {xs : List Int32} {d : Nat} {S : QS} {m0 : MM} {p1 : Int} {v0 : Value} {v1 : Value} {rz : Int} {rm : MM}
  (hd : 4 ≤ d) (R : Rp S m0) (f0 : q_is 2 v0 4) (f1 : q_is 2 v1 p1)
  (h : fm_X11_endWork p1 m0 = some (rz, rm)) : Mt xs d 157 [v0, v1] S (Cr 9 m0 rm rz) := by
  obtain ⟨d, rfl⟩ : ∃ e, d = e + 1 := ⟨d - 1, by omega⟩
  have hd : 3 ≤ d := Nat.le_of_succ_le_succ hd
  refine Mt.of (M := qM_X11_endWork) rfl (by rw [sl_1 (q_is_cat f0 (Or.inr rfl)), sl_1 (q_is_cat f1 (Or.inr rfl)), sl_0]; decide) ?_
  rw [la_1 (q_is_cat f0 (Or.inr rfl)), la_1 (q_is_cat f1 (Or.inr rfl)), la_0]
  obtain ⟨L, hL⟩ : ∃ L : QL, L = [(0, v0), (0 + 1, v1)] := ⟨_, rfl⟩
  rw [← hL]
  have l0 : q_lo L 0 = some v0 := by rw [hL]; rfl
  have l1 : q_lo L 1 = some v1 := by rw [hL]; rfl
  have hQ : Ext m0 rm → ∀ o S1, Rp S1 rm → q_out 9 o rz → (Cr 9 m0 rm rz) o S1 := fun a o S1 b e => ⟨b, a, e⟩
  unfold fm_X11_endWork at h
  refine go_iconst (n := 0) (z := 0) (by decide +kernel) (by decide) fun v_1 f_2 => ?_
  refine go_istore_n (n := 2) (by decide +kernel) (by decide +kernel) f_2 fun L_3 l_4 kp_5 => ?_
  have l_6 := kp_5 0 _ l0 (by decide) (Or.inl (by decide))
  have l_7 := kp_5 1 _ l1 (by decide) (Or.inr (q_is_cat f1 (Or.inr rfl)))
  refine ol_X11_endWork_2 hd  ?_ hQ BIG (Ext.rf _) h R l_6 f0 l_7 f1 l_4 f_2
  intro m_82 E_83
  intro S_79 L_80 v_76
  intro h R_81 l_77 f_78
  have E_84 := E_83
  refine go_aload_n (n := 1) (by decide +kernel) l_77 f_78 ?_
  obtain ⟨g_87, h⟩ := gd_s h
  obtain ⟨x_89, e_90, h⟩ := lx_s h
  refine go_getf (x := 550) (ci := 7) (kf := 17) (fin := 2) (t := 2) (by decide +kernel) (by decide +kernel) (by decide +kernel) R_81 f_78 g_87 fun v_85 f_86 => ?_
  have f_88 := q_is_eq f_86 e_90
  refine go_iconst (n := 0) (z := 0) (by decide +kernel) (by decide) fun v_91 f_92 => ?_
  obtain ⟨g_93, h⟩ := gd_s h
  obtain ⟨x_95, m_96, hc_94, h⟩ := bd_s h
  refine go_callV (x := 469) (mi := 63) (n := 1) (ci := 6) (as := [v_91]) (rest := []) (by decide +kernel) (by decide +kernel) rfl rfl (q_sum8 _ (Nat.le_of_ble_eq_true rfl)) R_81 f_88 g_93 (om_X5_cut (Nat.le_trans (by decide) hd) R_81 g_93 f_88 f_92 hc_94) (fun _ S_99 q_102 => ?_) (fun _ _ qq => kr_x qq)
  refine kr_v q_102 fun R_100 E_101 => ?_
  have E_103 := Ext.tr E_84 E_101
  refine go_aload_n (n := 1) (by decide +kernel) l_77 f_78 ?_
  have g_106 := Ext.ok E_101 g_87
  obtain ⟨x_108, e_109, h⟩ := lx_s h
  refine go_getf (x := 553) (ci := 7) (kf := 18) (fin := 2) (t := 2) (by decide +kernel) (by decide +kernel) (by decide +kernel) R_100 f_78 g_106 fun v_104 f_105 => ?_
  have f_107 := q_is_eq f_105 e_109
  refine go_iconst (n := 0) (z := 0) (by decide +kernel) (by decide) fun v_110 f_111 => ?_
  obtain ⟨g_112, h⟩ := gd_s h
  obtain ⟨x_114, m_115, hc_113, h⟩ := bd_s h
  refine go_callV (x := 469) (mi := 63) (n := 1) (ci := 6) (as := [v_110]) (rest := []) (by decide +kernel) (by decide +kernel) rfl rfl (q_sum8 _ (Nat.le_of_ble_eq_true rfl)) R_100 f_107 g_112 (om_X5_cut (Nat.le_trans (by decide) hd) R_100 g_112 f_107 f_111 hc_113) (fun _ S_118 q_121 => ?_) (fun _ _ qq => kr_x qq)
  refine kr_v q_121 fun R_119 E_120 => ?_
  have E_122 := Ext.tr E_103 E_120
  cases h
  exact go_vret (by decide +kernel) rfl (hQ E_122 _ _ R_119 q_out_n)
noncomputable def fm_X11_parentOf (p1 : Int) (m0 : MM) : Option Int := gd (okc m0 p1 7) <| lx (m0 p1 4) fun x_5 =>
if x_5 < 0 then
some 0
else
bp (fm_Jx4a65c_size_8abf5 7 m0) fun x_17 =>
if x_5 < x_17 then
bp (fm_Jx4a65c_get_915e3 7 x_5 m0) fun x_35 =>
gd (okc m0 x_35 7) <| some x_35
else
some 0
set_option maxHeartbeats 4000000 in
theorem om_X11_parentOf {xs : List Int32} {d : Nat} {S : QS} {m0 : MM} {p1 : Int} {v0 : Value} {v1 : Value} {rz : Int}
  (hd : 4 ≤ d) (R : Rp S m0) (f0 : q_is 2 v0 4) (f1 : q_is 2 v1 p1)
  (h : fm_X11_parentOf p1 m0 = some rz) : Mt xs d 155 [v0, v1] S (Cr 2 m0 m0 rz) := by
  obtain ⟨d, rfl⟩ : ∃ e, d = e + 1 := ⟨d - 1, by omega⟩
  have hd : 3 ≤ d := Nat.le_of_succ_le_succ hd
  refine Mt.of (M := qM_X11_parentOf) rfl (by rw [sl_1 (q_is_cat f0 (Or.inr rfl)), sl_1 (q_is_cat f1 (Or.inr rfl)), sl_0]; decide) ?_
  rw [la_1 (q_is_cat f0 (Or.inr rfl)), la_1 (q_is_cat f1 (Or.inr rfl)), la_0]
  obtain ⟨L, hL⟩ : ∃ L : QL, L = [(0, v0), (0 + 1, v1)] := ⟨_, rfl⟩
  rw [← hL]
  have l0 : q_lo L 0 = some v0 := by rw [hL]; rfl
  have l1 : q_lo L 1 = some v1 := by rw [hL]; rfl
  have hQ : ∀ o S1, Rp S1 m0 → q_out 2 o rz → (Cr 2 m0 m0 rz) o S1 := fun o S1 a b => ⟨a, Ext.rf _, b⟩
  unfold fm_X11_parentOf at h
  refine go_aload_n (n := 1) (by decide +kernel) l1 f1 ?_
  obtain ⟨g_3, h⟩ := gd_s h
  obtain ⟨x_5, e_6, h⟩ := lx_s h
  refine go_getf (x := 414) (ci := 7) (kf := 4) (fin := 0) (t := 0) (by decide +kernel) (by decide +kernel) (by decide +kernel) R f1 g_3 fun v_1 f_2 => ?_
  have f_4 := q_is_eq f_2 e_6
  refine go_if (c := .lt) (o := 34) (t := 38) (P := x_5 < 0) (by decide +kernel) (by decide +kernel) f_4 (Iff.rfl) (fun hp_7 => ?_) (fun hp_7 => ?_)
  · have h := it_t hp_7 h
    refine go_null (by decide +kernel) fun v_8 f_9 => ?_
    cases h
    exact go_aret (by decide +kernel) rfl rfl f_9 (hQ _ _ R (q_out_v (by decide) f_9))
  · have h := it_f hp_7 h
    refine go_aload_n (n := 1) (by decide +kernel) l1 f1 ?_
    refine go_getf (x := 414) (ci := 7) (kf := 4) (fin := 0) (t := 0) (by decide +kernel) (by decide +kernel) (by decide +kernel) R f1 g_3 fun v_10 f_11 => ?_
    have f_12 := q_is_eq f_11 e_6
    refine go_aload_n (n := 0) (by decide +kernel) l0 f0 ?_
    refine go_getf (x := 24) (ci := 12) (kf := 2) (fin := 1) (t := 2) (by decide +kernel) (by decide +kernel) (by decide +kernel) R f0 (fx_k (c := 12) R (by decide +kernel)) fun v_13 f_14 => ?_
    have f_15 := q_is_eq (b := 7) f_14 (fx_v R (by decide +kernel)).symm
    obtain ⟨x_17, hc_16, h⟩ := bp_s h
    refine go_callV (x := 127) (mi := 326) (n := 0) (ci := 0) (as := []) (rest := [v_10]) (by decide +kernel) (by decide +kernel) rfl rfl (q_sum8 _ (Nat.le_of_ble_eq_true rfl)) R f_15 (fx_k (c := 0) R (by decide +kernel)) (om_Jx4a65c_size_8abf5 (Nat.le_trans (by decide) hd) R (fx_k (c := 0) R (by decide +kernel)) f_15 hc_16) (fun _ S_21 q_24 => ?_) (fun _ _ qq => kr_x qq)
    refine kr_z (by decide) q_24 fun v_19 f_20 R_22 E_23 => ?_
    refine go_icmp (c := .ge) (o := 20) (t := 38) (P := ¬ (x_5 < x_17)) (by decide +kernel) (by decide +kernel) f_12 f_20 (Int.not_lt.symm) (fun hp_25 => ?_) (fun hp_25 => ?_)
    · have h := it_f hp_25 h
      refine go_null (by decide +kernel) fun v_26 f_27 => ?_
      cases h
      exact go_aret (by decide +kernel) rfl rfl f_27 (hQ _ _ R_22 (q_out_v (by decide) f_27))
    · have h := it_n hp_25 h
      refine go_aload_n (n := 0) (by decide +kernel) l0 f0 ?_
      refine go_getf (x := 24) (ci := 12) (kf := 2) (fin := 1) (t := 2) (by decide +kernel) (by decide +kernel) (by decide +kernel) R_22 f0 (fx_k (c := 12) R_22 (by decide +kernel)) fun v_28 f_29 => ?_
      have f_30 := q_is_eq (b := 7) f_29 (fx_v R_22 (by decide +kernel)).symm
      refine go_aload_n (n := 1) (by decide +kernel) l1 f1 ?_
      refine go_getf (x := 414) (ci := 7) (kf := 4) (fin := 0) (t := 0) (by decide +kernel) (by decide +kernel) (by decide +kernel) R_22 f1 g_3 fun v_31 f_32 => ?_
      have f_33 := q_is_eq f_32 e_6
      obtain ⟨x_35, hc_34, h⟩ := bp_s h
      refine go_callV (x := 305) (mi := 329) (n := 1) (ci := 0) (as := [v_31]) (rest := []) (by decide +kernel) (by decide +kernel) rfl rfl (q_sum8 _ (Nat.le_of_ble_eq_true rfl)) R_22 f_30 (fx_k (c := 0) R_22 (by decide +kernel)) (om_Jx4a65c_get_915e3 (Nat.le_trans (by decide) hd) R_22 (fx_k (c := 0) R_22 (by decide +kernel)) f_30 f_33 hc_34) (fun _ S_39 q_42 => ?_) (fun _ _ qq => kr_x qq)
      refine kr_z (by decide) q_42 fun v_37 f_38 R_40 E_41 => ?_
      obtain ⟨g_43, h⟩ := gd_s h
      refine go_cast (x := 181) (kd := 7) (a := 0) (b := 0) (by decide +kernel) (by decide +kernel) R_40 f_38 g_43 ?_
      refine go_goto (o := 4) (t := 39) (by decide +kernel) (by decide +kernel) ?_
      cases h
      exact go_aret (by decide +kernel) rfl rfl f_38 (hQ _ _ R_40 (q_out_v (by decide) f_38))
noncomputable def fb_X11_closeRun (rec : Int → Int → MM → Option (Int × MM)) (p1 p2 p3 p4 : Int) (m0 : MM) : Option (Int × MM) := gd (okc m0 p1 7) <| up m0 p1 6 p2 fun m_2 =>
bd (fm_X11_endWork p1 m_2) fun x_9 m_10 =>
bd (rec p1 p4 m_10) fun x_19 m_20 =>
bp (fm_X11_parentOf p1 m_20) fun x_29 =>
if x_29 = 0 then
some (0, m_20)
else
gd (okc m_20 x_29 7) <| bp (fm_X6_isAlive x_29 m_20) fun x_47 =>
if x_47 = 0 then
some (0, m_20)
else
if p2 = 1 then
lx (m_20 p1 5) fun x_85 =>
bd (fm_X11_arrive x_29 5 x_85 p3 m_20) fun x_88 m_89 =>
some (0, m_89)
else
lx (m_20 p1 5) fun x_65 =>
bd (fm_X11_arrive x_29 6 x_65 0 m_20) fun x_70 m_71 =>
some (0, m_71)
set_option maxHeartbeats 4000000 in
theorem ob_X11_closeRun {xs : List Int32} {d : Nat} {S : QS} {m0 : MM} {p1 p2 p3 p4 : Int} {v0 : Value} {v1 : Value} {v2 : Value} {v3 : Value} {v4 : Value} {rec : Int → Int → MM → Option (Int × MM)} {rz : Int} {rm : MM}
  (hd : 5 ≤ d) (hrec : ∀ {S : QS} {m : MM} {b1 b2 : Int} {a0 : Value} {a1 : Value} {a2 : Value} {rz : Int} {rm : MM}, Rp S m → q_is 2 a0 4 → q_is 2 a1 b1 → q_is 0 a2 b2 → rec b1 b2 m = some (rz, rm) → Mt xs (d - 1) 156 [a0, a1, a2] S (Cr 9 m rm rz)) (R : Rp S m0) (f0 : q_is 2 v0 4) (f1 : q_is 2 v1 p1) (f2 : q_is 0 v2 p2) (f3 : q_is 0 v3 p3) (f4 : q_is 0 v4 p4)
  (h : fb_X11_closeRun rec p1 p2 p3 p4 m0 = some (rz, rm)) : Mt xs d 154 [v0, v1, v2, v3, v4] S (Cr 9 m0 rm rz) := by
  obtain ⟨d, rfl⟩ : ∃ e, d = e + 1 := ⟨d - 1, by omega⟩
  have hd : 4 ≤ d := Nat.le_of_succ_le_succ hd
  rw [Nat.add_sub_cancel] at hrec
  refine Mt.of (M := qM_X11_closeRun) rfl (by rw [sl_1 (q_is_cat f0 (Or.inr rfl)), sl_1 (q_is_cat f1 (Or.inr rfl)), sl_1 (q_is_cat f2 (Or.inl rfl)), sl_1 (q_is_cat f3 (Or.inl rfl)), sl_1 (q_is_cat f4 (Or.inl rfl)), sl_0]; decide) ?_
  rw [la_1 (q_is_cat f0 (Or.inr rfl)), la_1 (q_is_cat f1 (Or.inr rfl)), la_1 (q_is_cat f2 (Or.inl rfl)), la_1 (q_is_cat f3 (Or.inl rfl)), la_1 (q_is_cat f4 (Or.inl rfl)), la_0]
  obtain ⟨L, hL⟩ : ∃ L : QL, L = [(0, v0), (0 + 1, v1), (0 + 1 + 1, v2), (0 + 1 + 1 + 1, v3), (0 + 1 + 1 + 1 + 1, v4)] := ⟨_, rfl⟩
  rw [← hL]
  have l0 : q_lo L 0 = some v0 := by rw [hL]; rfl
  have l1 : q_lo L 1 = some v1 := by rw [hL]; rfl
  have l2 : q_lo L 2 = some v2 := by rw [hL]; rfl
  have l3 : q_lo L 3 = some v3 := by rw [hL]; rfl
  have l4 : q_lo L 4 = some v4 := by rw [hL]; rfl
  have hQ : Ext m0 rm → ∀ o S1, Rp S1 rm → q_out 9 o rz → (Cr 9 m0 rm rz) o S1 := fun a o S1 b e => ⟨b, a, e⟩
  unfold fb_X11_closeRun at h
  refine go_aload_n (n := 1) (by decide +kernel) l1 f1 ?_
  refine go_iload_n (n := 2) (by decide +kernel) l2 f2 ?_
  obtain ⟨g_1, h⟩ := gd_s h
  obtain ⟨m_2, e_3, h⟩ := up_s h
  refine go_putf (x := 208) (ci := 7) (kf := 6) (fin := 0) (zt := 0) (by decide +kernel) (by decide +kernel) (by decide) (by decide +kernel) (by decide) (Or.inl rfl) R f1 f2 (fun hq => absurd hq (by decide)) g_1 e_3 (fx_f (j := 6) R.2 g_1 (by decide +kernel)) fun S_4 R_5 E_6 => ?_
  have E_7 := E_6
  refine go_aload_n (n := 0) (by decide +kernel) l0 f0 ?_
  refine go_aload_n (n := 1) (by decide +kernel) l1 f1 ?_
  obtain ⟨x_9, m_10, hc_8, h⟩ := bd_s h
  refine go_callV (x := 427) (mi := 157) (n := 1) (ci := 12) (as := [v1]) (rest := []) (by decide +kernel) (by decide +kernel) rfl rfl (q_sum8 _ (Nat.le_of_ble_eq_true rfl)) R_5 f0 (fx_k (c := 12) R_5 (by decide +kernel)) (om_X11_endWork (Nat.le_trans (by decide) hd) R_5 f0 f1 hc_8) (fun _ S_13 q_16 => ?_) (fun _ _ qq => kr_x qq)
  refine kr_v q_16 fun R_14 E_15 => ?_
  have E_17 := Ext.tr E_7 E_15
  refine go_aload_n (n := 0) (by decide +kernel) l0 f0 ?_
  refine go_aload_n (n := 1) (by decide +kernel) l1 f1 ?_
  refine go_iload (n := 4) (by decide +kernel) l4 f4 ?_
  obtain ⟨x_19, m_20, hc_18, h⟩ := bd_s h
  refine go_callV (x := 543) (mi := 156) (n := 2) (ci := 12) (as := [v1, v4]) (rest := []) (by decide +kernel) (by decide +kernel) rfl rfl (q_sum8 _ (Nat.le_of_ble_eq_true rfl)) R_14 f0 (fx_k (c := 12) R_14 (by decide +kernel)) (hrec R_14 f0 f1 f4 hc_18) (fun _ S_23 q_26 => ?_) (fun _ _ qq => kr_x qq)
  refine kr_v q_26 fun R_24 E_25 => ?_
  have E_27 := Ext.tr E_17 E_25
  refine go_aload_n (n := 0) (by decide +kernel) l0 f0 ?_
  refine go_aload_n (n := 1) (by decide +kernel) l1 f1 ?_
  obtain ⟨x_29, hc_28, h⟩ := bp_s h
  refine go_callV (x := 546) (mi := 155) (n := 1) (ci := 12) (as := [v1]) (rest := []) (by decide +kernel) (by decide +kernel) rfl rfl (q_sum8 _ (Nat.le_of_ble_eq_true rfl)) R_24 f0 (fx_k (c := 12) R_24 (by decide +kernel)) (om_X11_parentOf (Nat.le_trans (by decide) hd) R_24 f0 f1 hc_28) (fun _ S_33 q_36 => ?_) (fun _ _ qq => kr_x qq)
  refine kr_z (by decide) q_36 fun v_31 f_32 R_34 E_35 => ?_
  refine go_astore (n := 5) (by decide +kernel) (by decide +kernel) f_32 fun L_37 l_38 kp_39 => ?_
  have l_40 := kp_39 0 _ l0 (by decide) (Or.inl (by decide))
  have l_41 := kp_39 1 _ l1 (by decide) (Or.inl (by decide))
  have l_42 := kp_39 2 _ l2 (by decide) (Or.inl (by decide))
  have l_43 := kp_39 3 _ l3 (by decide) (Or.inl (by decide))
  refine go_aload (n := 5) (by decide +kernel) l_38 f_32 ?_
  refine go_ifnull (o := 11) (t := 37) (by decide +kernel) (by decide +kernel) f_32 (fun hp_44 => ?_) (fun hp_44 => ?_)
  · have h := it_t hp_44 h
    cases h
    exact go_vret (by decide +kernel) rfl (hQ E_27 _ _ R_34 q_out_n)
  · have h := it_f hp_44 h
    refine go_aload (n := 5) (by decide +kernel) l_38 f_32 ?_
    obtain ⟨g_45, h⟩ := gd_s h
    obtain ⟨x_47, hc_46, h⟩ := bp_s h
    refine go_callV (x := 192) (mi := 66) (n := 0) (ci := 7) (as := []) (rest := []) (by decide +kernel) (by decide +kernel) rfl rfl (q_sum8 _ (Nat.le_of_ble_eq_true rfl)) R_34 f_32 g_45 (om_X6_isAlive (Nat.le_trans (by decide) hd) R_34 g_45 f_32 hc_46) (fun _ S_51 q_54 => ?_) (fun _ _ qq => kr_x qq)
    refine kr_z (by decide) q_54 fun v_49 f_50 R_52 E_53 => ?_
    refine go_if (c := .ne) (o := 4) (t := 38) (P := ¬ (x_47 = 0)) (by decide +kernel) (by decide +kernel) f_50 (Iff.rfl) (fun hp_55 => ?_) (fun hp_55 => ?_)
    · have h := it_f hp_55 h
      refine go_iload_n (n := 2) (by decide +kernel) l_42 f2 ?_
      refine go_iconst (n := 1) (z := 1) (by decide +kernel) (by decide) fun v_56 f_57 => ?_
      refine go_icmp (c := .ne) (o := 18) (t := 58) (P := ¬ (p2 = 1)) (by decide +kernel) (by decide +kernel) f2 f_57 (Iff.rfl) (fun hp_58 => ?_) (fun hp_58 => ?_)
      · have h := it_f hp_58 h
        refine go_aload_n (n := 0) (by decide +kernel) l_40 f0 ?_
        refine go_aload (n := 5) (by decide +kernel) l_38 f_32 ?_
        refine go_bipush (n := 6) (z := 6) (by decide +kernel) (by decide) fun v_59 f_60 => ?_
        refine go_aload_n (n := 1) (by decide +kernel) l_41 f1 ?_
        have g_63 := Ext.ok (Ext.tr (Ext.tr E_6 E_15) E_25) g_1
        obtain ⟨x_65, e_66, h⟩ := lx_s h
        refine go_getf (x := 417) (ci := 7) (kf := 5) (fin := 2) (t := 0) (by decide +kernel) (by decide +kernel) (by decide +kernel) R_52 f1 g_63 fun v_61 f_62 => ?_
        have f_64 := q_is_eq f_62 e_66
        refine go_iconst (n := 0) (z := 0) (by decide +kernel) (by decide) fun v_67 f_68 => ?_
        obtain ⟨x_70, m_71, hc_69, h⟩ := bd_s h
        refine go_callV (x := 204) (mi := 152) (n := 4) (ci := 12) (as := [v_31, v_59, v_61, v_67]) (rest := []) (by decide +kernel) (by decide +kernel) rfl rfl (q_sum8 _ (Nat.le_of_ble_eq_true rfl)) R_52 f0 (fx_k (c := 12) R_52 (by decide +kernel)) (om_X11_arrive (Nat.le_trans (by decide) hd) R_52 f0 f_32 f_60 f_64 f_68 hc_69) (fun _ S_74 q_77 => ?_) (fun _ _ qq => kr_x qq)
        refine kr_v q_77 fun R_75 E_76 => ?_
        have E_78 := Ext.tr E_27 E_76
        cases h
        exact go_vret (by decide +kernel) rfl (hQ E_78 _ _ R_75 q_out_n)
      · have h := it_n hp_58 h
        refine go_aload_n (n := 0) (by decide +kernel) l_40 f0 ?_
        refine go_aload (n := 5) (by decide +kernel) l_38 f_32 ?_
        refine go_iconst (n := 5) (z := 5) (by decide +kernel) (by decide) fun v_79 f_80 => ?_
        refine go_aload_n (n := 1) (by decide +kernel) l_41 f1 ?_
        have g_83 := Ext.ok (Ext.tr (Ext.tr E_6 E_15) E_25) g_1
        obtain ⟨x_85, e_86, h⟩ := lx_s h
        refine go_getf (x := 417) (ci := 7) (kf := 5) (fin := 2) (t := 0) (by decide +kernel) (by decide +kernel) (by decide +kernel) R_52 f1 g_83 fun v_81 f_82 => ?_
        have f_84 := q_is_eq f_82 e_86
        refine go_iload_n (n := 3) (by decide +kernel) l_43 f3 ?_
        obtain ⟨x_88, m_89, hc_87, h⟩ := bd_s h
        refine go_callV (x := 204) (mi := 152) (n := 4) (ci := 12) (as := [v_31, v_79, v_81, v3]) (rest := []) (by decide +kernel) (by decide +kernel) rfl rfl (q_sum8 _ (Nat.le_of_ble_eq_true rfl)) R_52 f0 (fx_k (c := 12) R_52 (by decide +kernel)) (om_X11_arrive (Nat.le_trans (by decide) hd) R_52 f0 f_32 f_80 f_84 f3 hc_87) (fun _ S_92 q_95 => ?_) (fun _ _ qq => kr_x qq)
        refine kr_v q_95 fun R_93 E_94 => ?_
        have E_96 := Ext.tr E_27 E_94
        refine go_goto (o := 16) (t := 71) (by decide +kernel) (by decide +kernel) ?_
        cases h
        exact go_vret (by decide +kernel) rfl (hQ E_96 _ _ R_93 q_out_n)
    · have h := it_n hp_55 h
      cases h
      exact go_vret (by decide +kernel) rfl (hQ E_27 _ _ R_52 q_out_n)
end DF16
