/-! Methods as functions (written by wip/whole/dec.py), 7: X8_find, X4_beginBelow, X4_race, X8_doom, X4_win, X4_dropDoomed, X8_pushed. -/
section DF7
noncomputable def fl_X8_find_2 (y1 : Int) (m0 : MM) : Nat → Int → Option Int
  | 0, _ => none
  | n + 1, y2 => lx (m0 17 5) fun x_11 =>
if y2 < x_11 then
if y2 < 12 then
gd (0 ≤ y2 ∧ y2 < 12) <| lx (m0 19 y2) fun x_32 =>
gd (okc m0 x_32 2) <| lx (m0 x_32 0) fun x_38 =>
if x_38 = y1 then
some x_32
else
lx (w32 (y2 + 1)) fun x_46 =>
fl_X8_find_2 y1 m0 n x_46
else
some 0
else
some 0
set_option maxHeartbeats 4000000 in
theorem ol_X8_find_2 {xs : List Int32} {d : Nat} {Q : QO → QS → Prop} {m0 : MM} {y1 : Int} {rz : Int}
  (hd : 0 ≤ d)
  (hQ : ∀ o S1, Rp S1 m0 → q_out 2 o rz → Q o S1) :
  ∀ (n : Nat) {S : QS} {L : QL} {y2 : Int} {v0 : Value} {v1 : Value} {v2 : Value} , fl_X8_find_2 y1 m0 n y2 = some rz → Rp S m0 → q_lo L 0 = some v0 → q_is 2 v0 17 → q_lo L 1 = some v1 → q_is 0 v1 y1 → q_lo L 2 = some v2 → q_is 0 v2 y2 → Go xs d qM_X8_find 2 L [] S Q := by
  intro n
  induction n with
  | zero => intro S L y2 v0 v1 v2; intro h R l0 f0 l1 f1 l2 f2; cases h
  | succ n ih0 =>
    intro S L y2 v0 v1 v2; intro h R l0 f0 l1 f1 l2 f2
    have ih : ∀ {z2 : Int} {Sq : QS} {Lq : QL} {u0 : Value} {u1 : Value} {u2 : Value}, fl_X8_find_2 y1 m0 n z2 = some rz → Rp Sq m0 → q_lo Lq 0 = some u0 → q_is 2 u0 17 → q_lo Lq 1 = some u1 → q_is 0 u1 y1 → q_lo Lq 2 = some u2 → q_is 0 u2 z2 → Go xs d qM_X8_find 2 Lq [] Sq Q := by intros; exact ih0 ‹_› ‹_› ‹_› ‹_› ‹_› ‹_› ‹_› ‹_›
    unfold fl_X8_find_2 at h
    refine go_iload_n (n := 2) (by decide +kernel) l2 f2 ?_
    refine go_aload_n (n := 0) (by decide +kernel) l0 f0 ?_
    obtain ⟨x_11, e_12, h⟩ := lx_s h
    refine go_getf (x := 36) (ci := 9) (kf := 5) (fin := 0) (t := 0) (by decide +kernel) (by decide +kernel) (by decide +kernel) R f0 (fx_k (c := 9) R (by decide +kernel)) fun v_8 f_9 => ?_
    have f_10 := q_is_eq f_9 e_12
    refine go_icmp (c := .ge) (o := 38) (t := 45) (P := ¬ (y2 < x_11)) (by decide +kernel) (by decide +kernel) f2 f_10 (Int.not_lt.symm) (fun hp_13 => ?_) (fun hp_13 => ?_)
    · have h := it_f hp_13 h
      refine go_null (by decide +kernel) fun v_14 f_15 => ?_
      cases h
      exact go_aret (by decide +kernel) rfl rfl f_15 (hQ _ _ R (q_out_v (by decide) f_15))
    · have h := it_n hp_13 h
      refine go_iload_n (n := 2) (by decide +kernel) l2 f2 ?_
      refine go_aload_n (n := 0) (by decide +kernel) l0 f0 ?_
      refine go_getf (x := 17) (ci := 9) (kf := 1) (fin := 1) (t := 2) (by decide +kernel) (by decide +kernel) (by decide +kernel) R f0 (fx_k (c := 9) R (by decide +kernel)) fun v_16 f_17 => ?_
      have f_18 := q_is_eq (b := 19) f_17 (fx_v R (by decide +kernel)).symm
      refine go_alen (by decide +kernel) R f_18 (okl_of (fx_k (c := 103) R (by decide +kernel)) (by decide)) fun v_19 f_20 => ?_
      have f_21 := q_is_eq (b := 12) f_20 (by rw [fx_l R (ln := 12) (by decide +kernel)]; decide)
      refine go_icmp (c := .ge) (o := 29) (t := 45) (P := ¬ (y2 < 12)) (by decide +kernel) (by decide +kernel) f2 f_21 (Int.not_lt.symm) (fun hp_22 => ?_) (fun hp_22 => ?_)
      · have h := it_f hp_22 h
        refine go_null (by decide +kernel) fun v_23 f_24 => ?_
        cases h
        exact go_aret (by decide +kernel) rfl rfl f_24 (hQ _ _ R (q_out_v (by decide) f_24))
      · have h := it_n hp_22 h
        refine go_aload_n (n := 0) (by decide +kernel) l0 f0 ?_
        refine go_getf (x := 17) (ci := 9) (kf := 1) (fin := 1) (t := 2) (by decide +kernel) (by decide +kernel) (by decide +kernel) R f0 (fx_k (c := 9) R (by decide +kernel)) fun v_25 f_26 => ?_
        have f_27 := q_is_eq (b := 19) f_26 (fx_v R (by decide +kernel)).symm
        refine go_iload_n (n := 2) (by decide +kernel) l2 f2 ?_
        obtain ⟨g_30, h⟩ := gd_s h
        obtain ⟨x_32, e_33, h⟩ := lx_s h
        refine go_aald (kd := 103) (by decide +kernel) (by decide) R f_27 f2 (fx_k (c := 103) R (by decide +kernel)) (fx_x (a := 19) (ln := 12) R (by decide +kernel) g_30) fun v_28 f_29 => ?_
        have f_31 := q_is_eq f_29 e_33
        obtain ⟨g_36, h⟩ := gd_s h
        obtain ⟨x_38, e_39, h⟩ := lx_s h
        refine go_getf (x := 94) (ci := 2) (kf := 0) (fin := 0) (t := 0) (by decide +kernel) (by decide +kernel) (by decide +kernel) R f_31 g_36 fun v_34 f_35 => ?_
        have f_37 := q_is_eq f_35 e_39
        refine go_iload_n (n := 1) (by decide +kernel) l1 f1 ?_
        refine go_icmp (c := .ne) (o := 10) (t := 39) (P := ¬ (x_38 = y1)) (by decide +kernel) (by decide +kernel) f_37 f1 (Iff.rfl) (fun hp_40 => ?_) (fun hp_40 => ?_)
        · have h := it_f hp_40 h
          refine go_iinc (n := 2) (c := 1) (c' := 1) (by decide +kernel) (by decide +kernel) l2 f2 (by decide) fun L_41 v_42 f_43 l_44 kp_45 => ?_
          obtain ⟨x_46, e_47, h⟩ := lx_s h
          have f_48 := q_is_eq f_43 e_47
          have l_49 := kp_45 0 _ l0 (by decide) (Or.inl (by decide))
          have l_50 := kp_45 1 _ l1 (by decide) (Or.inr (q_is_cat f1 (Or.inl rfl)))
          refine go_goto (o := (-40)) (t := 2) (by decide +kernel) (by decide +kernel) ?_
          exact ih h R l_49 f0 l_50 f1 l_44 f_48
        · have h := it_n hp_40 h
          refine go_aload_n (n := 0) (by decide +kernel) l0 f0 ?_
          refine go_getf (x := 17) (ci := 9) (kf := 1) (fin := 1) (t := 2) (by decide +kernel) (by decide +kernel) (by decide +kernel) R f0 (fx_k (c := 9) R (by decide +kernel)) fun v_51 f_52 => ?_
          have f_53 := q_is_eq (b := 19) f_52 (fx_v R (by decide +kernel)).symm
          refine go_iload_n (n := 2) (by decide +kernel) l2 f2 ?_
          refine go_aald (kd := 103) (by decide +kernel) (by decide) R f_53 f2 (fx_k (c := 103) R (by decide +kernel)) (fx_x (a := 19) (ln := 12) R (by decide +kernel) g_30) fun v_54 f_55 => ?_
          have f_56 := q_is_eq f_55 e_33
          cases h
          exact go_aret (by decide +kernel) rfl rfl f_56 (hQ _ _ R (q_out_v (by decide) f_56))
noncomputable def fm_X8_find (p1 : Int) (m0 : MM) : Option Int := fl_X8_find_2 p1 m0  BIG 0
set_option maxHeartbeats 4000000 in
theorem om_X8_find {xs : List Int32} {d : Nat} {S : QS} {m0 : MM} {p1 : Int} {v0 : Value} {v1 : Value} {rz : Int}
  (hd : 1 ≤ d) (R : Rp S m0) (f0 : q_is 2 v0 17) (f1 : q_is 0 v1 p1)
  (h : fm_X8_find p1 m0 = some rz) : Mt xs d 85 [v0, v1] S (Cr 2 m0 m0 rz) := by
  obtain ⟨d, rfl⟩ : ∃ e, d = e + 1 := ⟨d - 1, by omega⟩
  have hd : 0 ≤ d := Nat.le_of_succ_le_succ hd
  refine Mt.of (M := qM_X8_find) rfl (by rw [sl_1 (q_is_cat f0 (Or.inr rfl)), sl_1 (q_is_cat f1 (Or.inl rfl)), sl_0]; decide) ?_
  rw [la_1 (q_is_cat f0 (Or.inr rfl)), la_1 (q_is_cat f1 (Or.inl rfl)), la_0]
  obtain ⟨L, hL⟩ : ∃ L : QL, L = [(0, v0), (0 + 1, v1)] := ⟨_, rfl⟩
  rw [← hL]
  have l0 : q_lo L 0 = some v0 := by rw [hL]; rfl
  have l1 : q_lo L 1 = some v1 := by rw [hL]; rfl
  have hQ : ∀ o S1, Rp S1 m0 → q_out 2 o rz → (Cr 2 m0 m0 rz) o S1 := fun o S1 a b => ⟨a, Ext.rf _, b⟩
  unfold fm_X8_find at h
  refine go_iconst (n := 0) (z := 0) (by decide +kernel) (by decide) fun v_1 f_2 => ?_
  refine go_istore_n (n := 2) (by decide +kernel) (by decide +kernel) f_2 fun L_3 l_4 kp_5 => ?_
  have l_6 := kp_5 0 _ l0 (by decide) (Or.inl (by decide))
  have l_7 := kp_5 1 _ l1 (by decide) (Or.inr (q_is_cat f1 (Or.inl rfl)))
  refine ol_X8_find_2 hd   hQ BIG h R l_6 f0 l_7 f1 l_4 f_2
noncomputable def fm_X4_beginBelow (p1 p2 : Int) (m0 : MM) : Option (Int × MM) := lx (m0 17 5) fun x_7 =>
if x_7 < 12 then
gd (okc m0 p1 2) <| lx (m0 p1 0) fun x_22 =>
bd (fm_X8_beginBranch x_22 p2 m0) fun x_25 m_26 =>
bp (fm_X8_find x_25 m_26) fun x_37 =>
some (x_37, m_26)
else
bd (fm_X4_getStuck (-1) m0) fun x_48 m_49 =>
some (0, m_49)
set_option maxHeartbeats 4000000 in
theorem om_X4_beginBelow {xs : List Int32} {d : Nat} {S : QS} {m0 : MM} {p1 p2 : Int} {v0 : Value} {v1 : Value} {v2 : Value} {rz : Int} {rm : MM}
  (hd : 3 ≤ d) (R : Rp S m0) (f0 : q_is 2 v0 16) (f1 : q_is 2 v1 p1) (f2 : q_is 0 v2 p2)
  (h : fm_X4_beginBelow p1 p2 m0 = some (rz, rm)) : Mt xs d 49 [v0, v1, v2] S (Cr 2 m0 rm rz) := by
  obtain ⟨d, rfl⟩ : ∃ e, d = e + 1 := ⟨d - 1, by omega⟩
  have hd : 2 ≤ d := Nat.le_of_succ_le_succ hd
  refine Mt.of (M := qM_X4_beginBelow) rfl (by rw [sl_1 (q_is_cat f0 (Or.inr rfl)), sl_1 (q_is_cat f1 (Or.inr rfl)), sl_1 (q_is_cat f2 (Or.inl rfl)), sl_0]; decide) ?_
  rw [la_1 (q_is_cat f0 (Or.inr rfl)), la_1 (q_is_cat f1 (Or.inr rfl)), la_1 (q_is_cat f2 (Or.inl rfl)), la_0]
  obtain ⟨L, hL⟩ : ∃ L : QL, L = [(0, v0), (0 + 1, v1), (0 + 1 + 1, v2)] := ⟨_, rfl⟩
  rw [← hL]
  have l0 : q_lo L 0 = some v0 := by rw [hL]; rfl
  have l1 : q_lo L 1 = some v1 := by rw [hL]; rfl
  have l2 : q_lo L 2 = some v2 := by rw [hL]; rfl
  have hQ : Ext m0 rm → ∀ o S1, Rp S1 rm → q_out 2 o rz → (Cr 2 m0 rm rz) o S1 := fun a o S1 b e => ⟨b, a, e⟩
  unfold fm_X4_beginBelow at h
  refine go_aload_n (n := 0) (by decide +kernel) l0 f0 ?_
  refine go_getf (x := 10) (ci := 5) (kf := 0) (fin := 1) (t := 2) (by decide +kernel) (by decide +kernel) (by decide +kernel) R f0 (fx_k (c := 5) R (by decide +kernel)) fun v_1 f_2 => ?_
  have f_3 := q_is_eq (b := 17) f_2 (fx_v R (by decide +kernel)).symm
  obtain ⟨x_7, e_8, h⟩ := lx_s h
  refine go_getf (x := 180) (ci := 9) (kf := 5) (fin := 0) (t := 0) (by decide +kernel) (by decide +kernel) (by decide +kernel) R f_3 (fx_k (c := 9) R (by decide +kernel)) fun v_4 f_5 => ?_
  have f_6 := q_is_eq f_5 e_8
  refine go_bipush (n := 12) (z := 12) (by decide +kernel) (by decide) fun v_9 f_10 => ?_
  refine go_icmp (c := .lt) (o := 10) (t := 19) (P := x_7 < 12) (by decide +kernel) (by decide +kernel) f_6 f_10 (Iff.rfl) (fun hp_11 => ?_) (fun hp_11 => ?_)
  · have h := it_t hp_11 h
    refine go_aload_n (n := 0) (by decide +kernel) l0 f0 ?_
    refine go_getf (x := 10) (ci := 5) (kf := 0) (fin := 1) (t := 2) (by decide +kernel) (by decide +kernel) (by decide +kernel) R f0 (fx_k (c := 5) R (by decide +kernel)) fun v_12 f_13 => ?_
    have f_14 := q_is_eq (b := 17) f_13 (fx_v R (by decide +kernel)).symm
    refine go_aload_n (n := 0) (by decide +kernel) l0 f0 ?_
    refine go_getf (x := 10) (ci := 5) (kf := 0) (fin := 1) (t := 2) (by decide +kernel) (by decide +kernel) (by decide +kernel) R f0 (fx_k (c := 5) R (by decide +kernel)) fun v_15 f_16 => ?_
    have f_17 := q_is_eq (b := 17) f_16 (fx_v R (by decide +kernel)).symm
    refine go_aload_n (n := 1) (by decide +kernel) l1 f1 ?_
    obtain ⟨g_20, h⟩ := gd_s h
    obtain ⟨x_22, e_23, h⟩ := lx_s h
    refine go_getf (x := 211) (ci := 2) (kf := 0) (fin := 0) (t := 0) (by decide +kernel) (by decide +kernel) (by decide +kernel) R f1 g_20 fun v_18 f_19 => ?_
    have f_21 := q_is_eq f_19 e_23
    refine go_iload_n (n := 2) (by decide +kernel) l2 f2 ?_
    obtain ⟨x_25, m_26, hc_24, h⟩ := bd_s h
    refine go_callV (x := 133) (mi := 86) (n := 2) (ci := 9) (as := [v_18, v2]) (rest := [v_12]) (by decide +kernel) (by decide +kernel) rfl rfl (q_sum8 _ (Nat.le_of_ble_eq_true rfl)) R f_17 (fx_k (c := 9) R (by decide +kernel)) (om_X8_beginBranch (Nat.le_trans (by decide) hd) R f_17 f_21 f2 hc_24) (fun _ S_29 q_32 => ?_) (fun _ _ qq => kr_x qq)
    refine kr_z (by decide) q_32 fun v_27 f_28 R_30 E_31 => ?_
    have E_35 := E_31
    obtain ⟨x_37, hc_36, h⟩ := bp_s h
    refine go_callV (x := 286) (mi := 85) (n := 1) (ci := 9) (as := [v_27]) (rest := []) (by decide +kernel) (by decide +kernel) rfl rfl (q_sum8 _ (Nat.le_of_ble_eq_true rfl)) R_30 f_14 (fx_k (c := 9) R_30 (by decide +kernel)) (om_X8_find (Nat.le_trans (by decide) hd) R_30 f_14 f_28 hc_36) (fun _ S_41 q_44 => ?_) (fun _ _ qq => kr_x qq)
    refine kr_z (by decide) q_44 fun v_39 f_40 R_42 E_43 => ?_
    cases h
    exact go_aret (by decide +kernel) rfl rfl f_40 (hQ E_35 _ _ R_42 (q_out_v (by decide) f_40))
  · have h := it_f hp_11 h
    refine go_aload_n (n := 0) (by decide +kernel) l0 f0 ?_
    refine go_iconst (n := (-1)) (z := (-1)) (by decide +kernel) (by decide) fun v_45 f_46 => ?_
    obtain ⟨x_48, m_49, hc_47, h⟩ := bd_s h
    refine go_callV (x := 126) (mi := 34) (n := 1) (ci := 5) (as := [v_45]) (rest := []) (by decide +kernel) (by decide +kernel) rfl rfl (q_sum8 _ (Nat.le_of_ble_eq_true rfl)) R f0 (fx_k (c := 5) R (by decide +kernel)) (om_X4_getStuck (Nat.le_trans (by decide) hd) R f0 f_46 hc_47) (fun _ S_52 q_55 => ?_) (fun _ _ qq => kr_x qq)
    refine kr_v q_55 fun R_53 E_54 => ?_
    have E_58 := E_54
    refine go_null (by decide +kernel) fun v_59 f_60 => ?_
    cases h
    exact go_aret (by decide +kernel) rfl rfl f_60 (hQ E_58 _ _ R_53 (q_out_v (by decide) f_60))
noncomputable def fj_X4_race_26 (y1 y2 : Int) (m : MM) : Option (Int × MM) := gd (okc m y2 2) <| lx (m y2 0) fun x_30 =>
gd (okc m y1 2) <| up m y1 3 x_30 fun m_33 =>
lx (m_33 y1 0) fun x_44 =>
up m_33 y2 3 x_44 fun m_47 =>
some (0, m_47)
set_option maxHeartbeats 4000000 in
theorem oj_X4_race_26 {xs : List Int32} {d : Nat} {S : QS} {L : QL} {Q : QO → QS → Prop} {m : MM} {y1 y2 : Int} {v1 : Value} {v2 : Value}  {rz : Int} {rm : MM}
  (hd : 1 ≤ d) (R : Rp S m) (l1 : q_lo L 1 = some v1) (f1 : q_is 2 v1 y1) (l2 : q_lo L 2 = some v2) (f2 : q_is 2 v2 y2)
  (hQ : Ext m rm → ∀ o S1, Rp S1 rm → q_out 9 o rz → Q o S1)
  (h : fj_X4_race_26 y1 y2 m = some (rz, rm)) : Go xs d qM_X4_race 26 L [] S Q := by
  unfold fj_X4_race_26 at h
  refine go_aload_n (n := 1) (by decide +kernel) l1 f1 ?_
  refine go_aload_n (n := 2) (by decide +kernel) l2 f2 ?_
  obtain ⟨g_28, h⟩ := gd_s h
  obtain ⟨x_30, e_31, h⟩ := lx_s h
  refine go_getf (x := 211) (ci := 2) (kf := 0) (fin := 0) (t := 0) (by decide +kernel) (by decide +kernel) (by decide +kernel) R f2 g_28 fun v_26 f_27 => ?_
  have f_29 := q_is_eq f_27 e_31
  obtain ⟨g_32, h⟩ := gd_s h
  obtain ⟨m_33, e_34, h⟩ := up_s h
  refine go_putf (x := 289) (ci := 2) (kf := 3) (fin := 0) (zt := 0) (by decide +kernel) (by decide +kernel) (by decide) (by decide +kernel) (by decide) (Or.inl rfl) R f1 f_29 (fun hq => absurd hq (by decide)) g_32 e_34 (fx_f (j := 3) R.2 g_32 (by decide +kernel)) fun S_35 R_36 E_37 => ?_
  have E_39 := E_37
  refine go_aload_n (n := 2) (by decide +kernel) l2 f2 ?_
  refine go_aload_n (n := 1) (by decide +kernel) l1 f1 ?_
  have g_42 := Ext.ok E_37 g_32
  obtain ⟨x_44, e_45, h⟩ := lx_s h
  refine go_getf (x := 211) (ci := 2) (kf := 0) (fin := 0) (t := 0) (by decide +kernel) (by decide +kernel) (by decide +kernel) R_36 f1 g_42 fun v_40 f_41 => ?_
  have f_43 := q_is_eq f_41 e_45
  have g_46 := Ext.ok E_37 g_28
  obtain ⟨m_47, e_48, h⟩ := up_s h
  refine go_putf (x := 289) (ci := 2) (kf := 3) (fin := 0) (zt := 0) (by decide +kernel) (by decide +kernel) (by decide) (by decide +kernel) (by decide) (Or.inl rfl) R_36 f2 f_43 (fun hq => absurd hq (by decide)) g_46 e_48 (fx_f (j := 3) R_36.2 g_46 (by decide +kernel)) fun S_49 R_50 E_51 => ?_
  have E_53 := Ext.tr E_39 E_51
  cases h
  exact go_vret (by decide +kernel) rfl (hQ E_53 _ _ R_50 q_out_n)
noncomputable def fm_X4_race (p1 p2 : Int) (m0 : MM) : Option (Int × MM) := if p2 = 0 then
some (0, m0)
else
gd (okc m0 p1 2) <| lx (m0 p1 3) fun x_9 =>
bp (fm_X8_find x_9 m0) fun x_12 =>
if x_12 = 0 then
fj_X4_race_26 p1 p2 m0
else
gd (okc m0 x_12 2) <| up m0 x_12 3 (-1) fun m_57 =>
fj_X4_race_26 p1 p2 m_57
set_option maxHeartbeats 4000000 in
theorem om_X4_race {xs : List Int32} {d : Nat} {S : QS} {m0 : MM} {p1 p2 : Int} {v0 : Value} {v1 : Value} {v2 : Value} {rz : Int} {rm : MM}
  (hd : 2 ≤ d) (R : Rp S m0) (f0 : q_is 2 v0 16) (f1 : q_is 2 v1 p1) (f2 : q_is 2 v2 p2)
  (h : fm_X4_race p1 p2 m0 = some (rz, rm)) : Mt xs d 50 [v0, v1, v2] S (Cr 9 m0 rm rz) := by
  obtain ⟨d, rfl⟩ : ∃ e, d = e + 1 := ⟨d - 1, by omega⟩
  have hd : 1 ≤ d := Nat.le_of_succ_le_succ hd
  refine Mt.of (M := qM_X4_race) rfl (by rw [sl_1 (q_is_cat f0 (Or.inr rfl)), sl_1 (q_is_cat f1 (Or.inr rfl)), sl_1 (q_is_cat f2 (Or.inr rfl)), sl_0]; decide) ?_
  rw [la_1 (q_is_cat f0 (Or.inr rfl)), la_1 (q_is_cat f1 (Or.inr rfl)), la_1 (q_is_cat f2 (Or.inr rfl)), la_0]
  obtain ⟨L, hL⟩ : ∃ L : QL, L = [(0, v0), (0 + 1, v1), (0 + 1 + 1, v2)] := ⟨_, rfl⟩
  rw [← hL]
  have l0 : q_lo L 0 = some v0 := by rw [hL]; rfl
  have l1 : q_lo L 1 = some v1 := by rw [hL]; rfl
  have l2 : q_lo L 2 = some v2 := by rw [hL]; rfl
  have hQ : Ext m0 rm → ∀ o S1, Rp S1 rm → q_out 9 o rz → (Cr 9 m0 rm rz) o S1 := fun a o S1 b e => ⟨b, a, e⟩
  unfold fm_X4_race at h
  refine go_aload_n (n := 2) (by decide +kernel) l2 f2 ?_
  refine go_ifnonnull (o := 4) (t := 5) (by decide +kernel) (by decide +kernel) f2 (fun hp_1 => ?_) (fun hp_1 => ?_)
  · have h := it_f hp_1 h
    refine go_aload_n (n := 0) (by decide +kernel) l0 f0 ?_
    refine go_getf (x := 10) (ci := 5) (kf := 0) (fin := 1) (t := 2) (by decide +kernel) (by decide +kernel) (by decide +kernel) R f0 (fx_k (c := 5) R (by decide +kernel)) fun v_2 f_3 => ?_
    have f_4 := q_is_eq (b := 17) f_3 (fx_v R (by decide +kernel)).symm
    refine go_aload_n (n := 1) (by decide +kernel) l1 f1 ?_
    obtain ⟨g_7, h⟩ := gd_s h
    obtain ⟨x_9, e_10, h⟩ := lx_s h
    refine go_getf (x := 289) (ci := 2) (kf := 3) (fin := 0) (t := 0) (by decide +kernel) (by decide +kernel) (by decide +kernel) R f1 g_7 fun v_5 f_6 => ?_
    have f_8 := q_is_eq f_6 e_10
    obtain ⟨x_12, hc_11, h⟩ := bp_s h
    refine go_callV (x := 286) (mi := 85) (n := 1) (ci := 9) (as := [v_5]) (rest := []) (by decide +kernel) (by decide +kernel) rfl rfl (q_sum8 _ (Nat.le_of_ble_eq_true rfl)) R f_4 (fx_k (c := 9) R (by decide +kernel)) (om_X8_find (Nat.le_trans (by decide) hd) R f_4 f_8 hc_11) (fun _ S_16 q_19 => ?_) (fun _ _ qq => kr_x qq)
    refine kr_z (by decide) q_19 fun v_14 f_15 R_17 E_18 => ?_
    refine go_astore_n (n := 3) (by decide +kernel) (by decide +kernel) f_15 fun L_20 l_21 kp_22 => ?_
    have l_23 := kp_22 1 _ l1 (by decide) (Or.inl (by decide))
    have l_24 := kp_22 2 _ l2 (by decide) (Or.inr (q_is_cat f2 (Or.inr rfl)))
    refine go_aload_n (n := 3) (by decide +kernel) l_21 f_15 ?_
    refine go_ifnull (o := 8) (t := 26) (by decide +kernel) (by decide +kernel) f_15 (fun hp_25 => ?_) (fun hp_25 => ?_)
    · have h := it_t hp_25 h
      exact oj_X4_race_26 hd R_17 l_23 f1 l_24 f2 hQ h
    · have h := it_f hp_25 h
      refine go_aload_n (n := 3) (by decide +kernel) l_21 f_15 ?_
      refine go_iconst (n := (-1)) (z := (-1)) (by decide +kernel) (by decide) fun v_54 f_55 => ?_
      obtain ⟨g_56, h⟩ := gd_s h
      obtain ⟨m_57, e_58, h⟩ := up_s h
      refine go_putf (x := 289) (ci := 2) (kf := 3) (fin := 0) (zt := 0) (by decide +kernel) (by decide +kernel) (by decide) (by decide +kernel) (by decide) (Or.inl rfl) R_17 f_15 f_55 (fun hq => absurd hq (by decide)) g_56 e_58 (fx_f (j := 3) R_17.2 g_56 (by decide +kernel)) fun S_59 R_60 E_61 => ?_
      have E_63 := E_61
      exact oj_X4_race_26 hd R_60 l_23 f1 l_24 f2 (fun b => hQ (Ext.tr E_63 b)) h
  · have h := it_n hp_1 h
    cases h
    exact go_vret (by decide +kernel) rfl (hQ (Ext.rf _) _ _ R q_out_n)
noncomputable def fl_X8_doom_7 : Nat → Int → MM → Option (Int × MM)
  | 0, _, _ => none
  | n + 1, y2, m => lx (m 17 5) fun x_20 =>
if y2 < x_20 then
if y2 < 12 then
gd (0 ≤ y2 ∧ y2 < 12) <| lx (m 19 y2) fun x_37 =>
gd (okc m x_37 2) <| lx (m x_37 2) fun x_43 =>
bp (fm_X8_find x_43 m) fun x_46 =>
if x_46 = 0 then
lx (w32 (y2 + 1)) fun x_65 =>
fl_X8_doom_7 n x_65 m
else
gd (okc m x_46 2) <| lx (m x_46 9) fun x_73 =>
if x_73 = 0 then
lx (w32 (y2 + 1)) fun x_81 =>
fl_X8_doom_7 n x_81 m
else
up m x_37 9 1 fun m_93 =>
lx (w32 (y2 + 1)) fun x_105 =>
fl_X8_doom_7 n x_105 m_93
else
some (0, m)
else
some (0, m)
set_option maxHeartbeats 4000000 in
theorem ol_X8_doom_7 {xs : List Int32} {d : Nat} {Q : QO → QS → Prop} {mb : MM} {rz : Int} {rm : MM}
  (hd : 1 ≤ d)
  (hQ : Ext mb rm → ∀ o S1, Rp S1 rm → q_out 9 o rz → Q o S1) :
  ∀ (n : Nat) {m : MM} {S : QS} {L : QL} {y2 : Int} {v0 : Value} {v2 : Value} , Ext mb m → fl_X8_doom_7 n y2 m = some (rz, rm) → Rp S m → q_lo L 0 = some v0 → q_is 2 v0 17 → q_lo L 2 = some v2 → q_is 0 v2 y2 → Go xs d qM_X8_doom 7 L [] S Q := by
  intro n
  induction n with
  | zero => intro m S L y2 v0 v2; intro E h R l0 f0 l2 f2; cases h
  | succ n ih0 =>
    intro m S L y2 v0 v2; intro E h R l0 f0 l2 f2
    have ih : ∀ mq : MM, Ext mb mq → ∀ {z2 : Int} {Sq : QS} {Lq : QL} {u0 : Value} {u2 : Value}, fl_X8_doom_7 n z2 mq = some (rz, rm) → Rp Sq mq → q_lo Lq 0 = some u0 → q_is 2 u0 17 → q_lo Lq 2 = some u2 → q_is 0 u2 z2 → Go xs d qM_X8_doom 7 Lq [] Sq Q := fun mq b => by intros; exact ih0 b ‹_› ‹_› ‹_› ‹_› ‹_› ‹_›
    unfold fl_X8_doom_7 at h
    refine go_iload_n (n := 2) (by decide +kernel) l2 f2 ?_
    refine go_aload_n (n := 0) (by decide +kernel) l0 f0 ?_
    obtain ⟨x_20, e_21, h⟩ := lx_s h
    refine go_getf (x := 36) (ci := 9) (kf := 5) (fin := 0) (t := 0) (by decide +kernel) (by decide +kernel) (by decide +kernel) R f0 (fx_k (c := 9) R (by decide +kernel)) fun v_17 f_18 => ?_
    have f_19 := q_is_eq f_18 e_21
    refine go_icmp (c := .ge) (o := 53) (t := 65) (P := ¬ (y2 < x_20)) (by decide +kernel) (by decide +kernel) f2 f_19 (Int.not_lt.symm) (fun hp_22 => ?_) (fun hp_22 => ?_)
    · have h := it_f hp_22 h
      cases h
      exact go_vret (by decide +kernel) rfl (hQ E _ _ R q_out_n)
    · have h := it_n hp_22 h
      refine go_iload_n (n := 2) (by decide +kernel) l2 f2 ?_
      refine go_aload_n (n := 0) (by decide +kernel) l0 f0 ?_
      refine go_getf (x := 17) (ci := 9) (kf := 1) (fin := 1) (t := 2) (by decide +kernel) (by decide +kernel) (by decide +kernel) R f0 (fx_k (c := 9) R (by decide +kernel)) fun v_23 f_24 => ?_
      have f_25 := q_is_eq (b := 19) f_24 (fx_v R (by decide +kernel)).symm
      refine go_alen (by decide +kernel) R f_25 (okl_of (fx_k (c := 103) R (by decide +kernel)) (by decide)) fun v_26 f_27 => ?_
      have f_28 := q_is_eq (b := 12) f_27 (by rw [fx_l R (ln := 12) (by decide +kernel)]; decide)
      refine go_icmp (c := .ge) (o := 44) (t := 65) (P := ¬ (y2 < 12)) (by decide +kernel) (by decide +kernel) f2 f_28 (Int.not_lt.symm) (fun hp_29 => ?_) (fun hp_29 => ?_)
      · have h := it_f hp_29 h
        cases h
        exact go_vret (by decide +kernel) rfl (hQ E _ _ R q_out_n)
      · have h := it_n hp_29 h
        refine go_aload_n (n := 0) (by decide +kernel) l0 f0 ?_
        refine go_aload_n (n := 0) (by decide +kernel) l0 f0 ?_
        refine go_getf (x := 17) (ci := 9) (kf := 1) (fin := 1) (t := 2) (by decide +kernel) (by decide +kernel) (by decide +kernel) R f0 (fx_k (c := 9) R (by decide +kernel)) fun v_30 f_31 => ?_
        have f_32 := q_is_eq (b := 19) f_31 (fx_v R (by decide +kernel)).symm
        refine go_iload_n (n := 2) (by decide +kernel) l2 f2 ?_
        obtain ⟨g_35, h⟩ := gd_s h
        obtain ⟨x_37, e_38, h⟩ := lx_s h
        refine go_aald (kd := 103) (by decide +kernel) (by decide) R f_32 f2 (fx_k (c := 103) R (by decide +kernel)) (fx_x (a := 19) (ln := 12) R (by decide +kernel) g_35) fun v_33 f_34 => ?_
        have f_36 := q_is_eq f_34 e_38
        obtain ⟨g_41, h⟩ := gd_s h
        obtain ⟨x_43, e_44, h⟩ := lx_s h
        refine go_getf (x := 101) (ci := 2) (kf := 2) (fin := 0) (t := 0) (by decide +kernel) (by decide +kernel) (by decide +kernel) R f_36 g_41 fun v_39 f_40 => ?_
        have f_42 := q_is_eq f_40 e_44
        obtain ⟨x_46, hc_45, h⟩ := bp_s h
        refine go_callV (x := 132) (mi := 85) (n := 1) (ci := 9) (as := [v_39]) (rest := []) (by decide +kernel) (by decide +kernel) rfl rfl (q_sum8 _ (Nat.le_of_ble_eq_true rfl)) R f0 (fx_k (c := 9) R (by decide +kernel)) (om_X8_find (Nat.le_trans (by decide) hd) R f0 f_42 hc_45) (fun _ S_50 q_53 => ?_) (fun _ _ qq => kr_x qq)
        refine kr_z (by decide) q_53 fun v_48 f_49 R_51 E_52 => ?_
        refine go_astore_n (n := 3) (by decide +kernel) (by decide +kernel) f_49 fun L_54 l_55 kp_56 => ?_
        have l_57 := kp_56 0 _ l0 (by decide) (Or.inl (by decide))
        have l_58 := kp_56 2 _ l2 (by decide) (Or.inr (q_is_cat f2 (Or.inl rfl)))
        refine go_aload_n (n := 3) (by decide +kernel) l_55 f_49 ?_
        refine go_ifnull (o := 20) (t := 59) (by decide +kernel) (by decide +kernel) f_49 (fun hp_59 => ?_) (fun hp_59 => ?_)
        · have h := it_t hp_59 h
          refine go_iinc (n := 2) (c := 1) (c' := 1) (by decide +kernel) (by decide +kernel) l_58 f2 (by decide) fun L_60 v_61 f_62 l_63 kp_64 => ?_
          obtain ⟨x_65, e_66, h⟩ := lx_s h
          have f_67 := q_is_eq f_62 e_66
          have l_68 := kp_64 0 _ l_57 (by decide) (Or.inl (by decide))
          refine go_goto (o := (-55)) (t := 7) (by decide +kernel) (by decide +kernel) ?_
          exact ih m E h R_51 l_68 f0 l_63 f_67
        · have h := it_f hp_59 h
          refine go_aload_n (n := 3) (by decide +kernel) l_55 f_49 ?_
          obtain ⟨g_71, h⟩ := gd_s h
          obtain ⟨x_73, e_74, h⟩ := lx_s h
          refine go_getf (x := 129) (ci := 2) (kf := 9) (fin := 0) (t := 0) (by decide +kernel) (by decide +kernel) (by decide +kernel) R_51 f_49 g_71 fun v_69 f_70 => ?_
          have f_72 := q_is_eq f_70 e_74
          refine go_if (c := .eq) (o := 13) (t := 59) (P := x_73 = 0) (by decide +kernel) (by decide +kernel) f_72 (Iff.rfl) (fun hp_75 => ?_) (fun hp_75 => ?_)
          · have h := it_t hp_75 h
            refine go_iinc (n := 2) (c := 1) (c' := 1) (by decide +kernel) (by decide +kernel) l_58 f2 (by decide) fun L_76 v_77 f_78 l_79 kp_80 => ?_
            obtain ⟨x_81, e_82, h⟩ := lx_s h
            have f_83 := q_is_eq f_78 e_82
            have l_84 := kp_80 0 _ l_57 (by decide) (Or.inl (by decide))
            refine go_goto (o := (-55)) (t := 7) (by decide +kernel) (by decide +kernel) ?_
            exact ih m E h R_51 l_84 f0 l_79 f_83
          · have h := it_f hp_75 h
            refine go_aload_n (n := 0) (by decide +kernel) l_57 f0 ?_
            refine go_getf (x := 17) (ci := 9) (kf := 1) (fin := 1) (t := 2) (by decide +kernel) (by decide +kernel) (by decide +kernel) R_51 f0 (fx_k (c := 9) R_51 (by decide +kernel)) fun v_85 f_86 => ?_
            have f_87 := q_is_eq (b := 19) f_86 (fx_v R_51 (by decide +kernel)).symm
            refine go_iload_n (n := 2) (by decide +kernel) l_58 f2 ?_
            refine go_aald (kd := 103) (by decide +kernel) (by decide) R_51 f_87 f2 (fx_k (c := 103) R_51 (by decide +kernel)) (fx_x (a := 19) (ln := 12) R_51 (by decide +kernel) g_35) fun v_88 f_89 => ?_
            have f_90 := q_is_eq f_89 e_38
            refine go_iconst (n := 1) (z := 1) (by decide +kernel) (by decide) fun v_91 f_92 => ?_
            obtain ⟨m_93, e_94, h⟩ := up_s h
            refine go_putf (x := 129) (ci := 2) (kf := 9) (fin := 0) (zt := 1) (by decide +kernel) (by decide +kernel) (by decide) (by decide +kernel) (by decide) (Or.inl rfl) R_51 f_90 f_92 (fun _ => by decide) g_41 e_94 (fx_f (j := 9) R_51.2 g_41 (by decide +kernel)) fun S_95 R_96 E_97 => ?_
            have E_99 := Ext.tr E E_97
            refine go_iinc (n := 2) (c := 1) (c' := 1) (by decide +kernel) (by decide +kernel) l_58 f2 (by decide) fun L_100 v_101 f_102 l_103 kp_104 => ?_
            obtain ⟨x_105, e_106, h⟩ := lx_s h
            have f_107 := q_is_eq f_102 e_106
            have l_108 := kp_104 0 _ l_57 (by decide) (Or.inl (by decide))
            refine go_goto (o := (-55)) (t := 7) (by decide +kernel) (by decide +kernel) ?_
            exact ih m_93 E_99 h R_96 l_108 f0 l_103 f_107
noncomputable def fm_X8_doom (p1 : Int) (m0 : MM) : Option (Int × MM) := gd (okc m0 p1 2) <| up m0 p1 9 1 fun m_4 =>
fl_X8_doom_7   BIG 0 m_4
set_option maxHeartbeats 4000000 in
theorem om_X8_doom {xs : List Int32} {d : Nat} {S : QS} {m0 : MM} {p1 : Int} {v0 : Value} {v1 : Value} {rz : Int} {rm : MM}
  (hd : 2 ≤ d) (R : Rp S m0) (f0 : q_is 2 v0 17) (f1 : q_is 2 v1 p1)
  (h : fm_X8_doom p1 m0 = some (rz, rm)) : Mt xs d 93 [v0, v1] S (Cr 9 m0 rm rz) := by
  obtain ⟨d, rfl⟩ : ∃ e, d = e + 1 := ⟨d - 1, by omega⟩
  have hd : 1 ≤ d := Nat.le_of_succ_le_succ hd
  refine Mt.of (M := qM_X8_doom) rfl (by rw [sl_1 (q_is_cat f0 (Or.inr rfl)), sl_1 (q_is_cat f1 (Or.inr rfl)), sl_0]; decide) ?_
  rw [la_1 (q_is_cat f0 (Or.inr rfl)), la_1 (q_is_cat f1 (Or.inr rfl)), la_0]
  obtain ⟨L, hL⟩ : ∃ L : QL, L = [(0, v0), (0 + 1, v1)] := ⟨_, rfl⟩
  rw [← hL]
  have l0 : q_lo L 0 = some v0 := by rw [hL]; rfl
  have l1 : q_lo L 1 = some v1 := by rw [hL]; rfl
  have hQ : Ext m0 rm → ∀ o S1, Rp S1 rm → q_out 9 o rz → (Cr 9 m0 rm rz) o S1 := fun a o S1 b e => ⟨b, a, e⟩
  unfold fm_X8_doom at h
  refine go_aload_n (n := 1) (by decide +kernel) l1 f1 ?_
  refine go_iconst (n := 1) (z := 1) (by decide +kernel) (by decide) fun v_1 f_2 => ?_
  obtain ⟨g_3, h⟩ := gd_s h
  obtain ⟨m_4, e_5, h⟩ := up_s h
  refine go_putf (x := 129) (ci := 2) (kf := 9) (fin := 0) (zt := 1) (by decide +kernel) (by decide +kernel) (by decide) (by decide +kernel) (by decide) (Or.inl rfl) R f1 f_2 (fun _ => by decide) g_3 e_5 (fx_f (j := 9) R.2 g_3 (by decide +kernel)) fun S_6 R_7 E_8 => ?_
  have E_10 := E_8
  refine go_iconst (n := 0) (z := 0) (by decide +kernel) (by decide) fun v_11 f_12 => ?_
  refine go_istore_n (n := 2) (by decide +kernel) (by decide +kernel) f_12 fun L_13 l_14 kp_15 => ?_
  have l_16 := kp_15 0 _ l0 (by decide) (Or.inl (by decide))
  refine ol_X8_doom_7 hd   (fun b => hQ (Ext.tr E_10 b)) BIG (Ext.rf _) h R_7 l_16 f0 l_14 f_12
noncomputable def fj_X4_win_70 (y1 y2 : Int) (m : MM) : Option (Int × MM) := gd (okc m y1 2) <| lx (m y1 4) fun x_71 =>
gd (okc m y2 2) <| bd (fm_X1_goOnAt y2 x_71 m) fun x_75 m_76 =>
bd (fm_X8_doom y1 m_76) fun x_90 m_91 =>
some (0, m_91)
set_option maxHeartbeats 4000000 in
theorem oj_X4_win_70 {xs : List Int32} {d : Nat} {S : QS} {L : QL} {Q : QO → QS → Prop} {m : MM} {y1 y2 : Int} {v0 : Value} {v1 : Value} {v2 : Value}  {rz : Int} {rm : MM}
  (hd : 3 ≤ d) (R : Rp S m) (l0 : q_lo L 0 = some v0) (f0 : q_is 2 v0 16) (l1 : q_lo L 1 = some v1) (f1 : q_is 2 v1 y1) (l2 : q_lo L 2 = some v2) (f2 : q_is 2 v2 y2)
  (hQ : Ext m rm → ∀ o S1, Rp S1 rm → q_out 9 o rz → Q o S1)
  (h : fj_X4_win_70 y1 y2 m = some (rz, rm)) : Go xs d qM_X4_win 70 L [] S Q := by
  unfold fj_X4_win_70 at h
  refine go_aload_n (n := 2) (by decide +kernel) l2 f2 ?_
  refine go_aload_n (n := 1) (by decide +kernel) l1 f1 ?_
  obtain ⟨g_69, h⟩ := gd_s h
  obtain ⟨x_71, e_72, h⟩ := lx_s h
  refine go_getf (x := 168) (ci := 2) (kf := 4) (fin := 0) (t := 0) (by decide +kernel) (by decide +kernel) (by decide +kernel) R f1 g_69 fun v_67 f_68 => ?_
  have f_70 := q_is_eq f_68 e_72
  obtain ⟨g_73, h⟩ := gd_s h
  obtain ⟨x_75, m_76, hc_74, h⟩ := bd_s h
  refine go_callV (x := 171) (mi := 5) (n := 1) (ci := 2) (as := [v_67]) (rest := []) (by decide +kernel) (by decide +kernel) rfl rfl (q_sum8 _ (Nat.le_of_ble_eq_true rfl)) R f2 g_73 (om_X1_goOnAt (Nat.le_trans (by decide) hd) R g_73 f2 f_70 hc_74) (fun _ S_79 q_82 => ?_) (fun _ _ qq => kr_x qq)
  refine kr_v q_82 fun R_80 E_81 => ?_
  have E_85 := E_81
  refine go_aload_n (n := 0) (by decide +kernel) l0 f0 ?_
  refine go_getf (x := 10) (ci := 5) (kf := 0) (fin := 1) (t := 2) (by decide +kernel) (by decide +kernel) (by decide +kernel) R_80 f0 (fx_k (c := 5) R_80 (by decide +kernel)) fun v_86 f_87 => ?_
  have f_88 := q_is_eq (b := 17) f_87 (fx_v R_80 (by decide +kernel)).symm
  refine go_aload_n (n := 1) (by decide +kernel) l1 f1 ?_
  obtain ⟨x_90, m_91, hc_89, h⟩ := bd_s h
  refine go_callV (x := 295) (mi := 93) (n := 1) (ci := 9) (as := [v1]) (rest := []) (by decide +kernel) (by decide +kernel) rfl rfl (q_sum8 _ (Nat.le_of_ble_eq_true rfl)) R_80 f_88 (fx_k (c := 9) R_80 (by decide +kernel)) (om_X8_doom (Nat.le_trans (by decide) hd) R_80 f_88 f1 hc_89) (fun _ S_94 q_97 => ?_) (fun _ _ qq => kr_x qq)
  refine kr_v q_97 fun R_95 E_96 => ?_
  have E_100 := Ext.tr E_85 E_96
  cases h
  exact go_vret (by decide +kernel) rfl (hQ E_100 _ _ R_95 q_out_n)
noncomputable def fm_X4_win (p1 : Int) (m0 : MM) : Option (Int × MM) := gd (okc m0 p1 2) <| lx (m0 p1 3) fun x_8 =>
bp (fm_X8_find x_8 m0) fun x_11 =>
if x_11 = 0 then
some (0, m0)
else
up m0 p1 3 (-1) fun m_27 =>
gd (okc m_27 x_11 2) <| up m_27 x_11 3 (-1) fun m_37 =>
lx (m_37 x_11 0) fun x_48 =>
lx (m_37 p1 1) fun x_54 =>
if x_48 = x_54 then
bp (fm_X1_waitsForEvent x_11 m_37) fun x_58 =>
if x_58 = 0 then
fj_X4_win_70 p1 x_11 m_37
else
lx (m_37 x_11 8) fun x_106 =>
bd (fm_X4_command 11 x_106 0 m_37) fun x_111 m_112 =>
if x_111 < 0 then
some (0, m_112)
else
fj_X4_win_70 p1 x_11 m_112
else
bd (fm_X8_doom x_11 m_37) fun x_127 m_128 =>
some (0, m_128)
set_option maxHeartbeats 4000000 in
theorem om_X4_win {xs : List Int32} {d : Nat} {S : QS} {m0 : MM} {p1 : Int} {v0 : Value} {v1 : Value} {rz : Int} {rm : MM}
  (hd : 4 ≤ d) (R : Rp S m0) (f0 : q_is 2 v0 16) (f1 : q_is 2 v1 p1)
  (h : fm_X4_win p1 m0 = some (rz, rm)) : Mt xs d 51 [v0, v1] S (Cr 9 m0 rm rz) := by
  obtain ⟨d, rfl⟩ : ∃ e, d = e + 1 := ⟨d - 1, by omega⟩
  have hd : 3 ≤ d := Nat.le_of_succ_le_succ hd
  refine Mt.of (M := qM_X4_win) rfl (by rw [sl_1 (q_is_cat f0 (Or.inr rfl)), sl_1 (q_is_cat f1 (Or.inr rfl)), sl_0]; decide) ?_
  rw [la_1 (q_is_cat f0 (Or.inr rfl)), la_1 (q_is_cat f1 (Or.inr rfl)), la_0]
  obtain ⟨L, hL⟩ : ∃ L : QL, L = [(0, v0), (0 + 1, v1)] := ⟨_, rfl⟩
  rw [← hL]
  have l0 : q_lo L 0 = some v0 := by rw [hL]; rfl
  have l1 : q_lo L 1 = some v1 := by rw [hL]; rfl
  have hQ : Ext m0 rm → ∀ o S1, Rp S1 rm → q_out 9 o rz → (Cr 9 m0 rm rz) o S1 := fun a o S1 b e => ⟨b, a, e⟩
  unfold fm_X4_win at h
  refine go_aload_n (n := 0) (by decide +kernel) l0 f0 ?_
  refine go_getf (x := 10) (ci := 5) (kf := 0) (fin := 1) (t := 2) (by decide +kernel) (by decide +kernel) (by decide +kernel) R f0 (fx_k (c := 5) R (by decide +kernel)) fun v_1 f_2 => ?_
  have f_3 := q_is_eq (b := 17) f_2 (fx_v R (by decide +kernel)).symm
  refine go_aload_n (n := 1) (by decide +kernel) l1 f1 ?_
  obtain ⟨g_6, h⟩ := gd_s h
  obtain ⟨x_8, e_9, h⟩ := lx_s h
  refine go_getf (x := 289) (ci := 2) (kf := 3) (fin := 0) (t := 0) (by decide +kernel) (by decide +kernel) (by decide +kernel) R f1 g_6 fun v_4 f_5 => ?_
  have f_7 := q_is_eq f_5 e_9
  obtain ⟨x_11, hc_10, h⟩ := bp_s h
  refine go_callV (x := 286) (mi := 85) (n := 1) (ci := 9) (as := [v_4]) (rest := []) (by decide +kernel) (by decide +kernel) rfl rfl (q_sum8 _ (Nat.le_of_ble_eq_true rfl)) R f_3 (fx_k (c := 9) R (by decide +kernel)) (om_X8_find (Nat.le_trans (by decide) hd) R f_3 f_7 hc_10) (fun _ S_15 q_18 => ?_) (fun _ _ qq => kr_x qq)
  refine kr_z (by decide) q_18 fun v_13 f_14 R_16 E_17 => ?_
  refine go_astore_n (n := 2) (by decide +kernel) (by decide +kernel) f_14 fun L_19 l_20 kp_21 => ?_
  have l_22 := kp_21 0 _ l0 (by decide) (Or.inl (by decide))
  have l_23 := kp_21 1 _ l1 (by decide) (Or.inr (q_is_cat f1 (Or.inr rfl)))
  refine go_aload_n (n := 2) (by decide +kernel) l_20 f_14 ?_
  refine go_ifnonnull (o := 4) (t := 17) (by decide +kernel) (by decide +kernel) f_14 (fun hp_24 => ?_) (fun hp_24 => ?_)
  · have h := it_f hp_24 h
    refine go_aload_n (n := 1) (by decide +kernel) l_23 f1 ?_
    refine go_iconst (n := (-1)) (z := (-1)) (by decide +kernel) (by decide) fun v_25 f_26 => ?_
    obtain ⟨m_27, e_28, h⟩ := up_s h
    refine go_putf (x := 289) (ci := 2) (kf := 3) (fin := 0) (zt := 0) (by decide +kernel) (by decide +kernel) (by decide) (by decide +kernel) (by decide) (Or.inl rfl) R_16 f1 f_26 (fun hq => absurd hq (by decide)) g_6 e_28 (fx_f (j := 3) R_16.2 g_6 (by decide +kernel)) fun S_29 R_30 E_31 => ?_
    have E_33 := E_31
    refine go_aload_n (n := 2) (by decide +kernel) l_20 f_14 ?_
    refine go_iconst (n := (-1)) (z := (-1)) (by decide +kernel) (by decide) fun v_34 f_35 => ?_
    obtain ⟨g_36, h⟩ := gd_s h
    obtain ⟨m_37, e_38, h⟩ := up_s h
    refine go_putf (x := 289) (ci := 2) (kf := 3) (fin := 0) (zt := 0) (by decide +kernel) (by decide +kernel) (by decide) (by decide +kernel) (by decide) (Or.inl rfl) R_30 f_14 f_35 (fun hq => absurd hq (by decide)) g_36 e_38 (fx_f (j := 3) R_30.2 g_36 (by decide +kernel)) fun S_39 R_40 E_41 => ?_
    have E_43 := Ext.tr E_33 E_41
    refine go_aload_n (n := 2) (by decide +kernel) l_20 f_14 ?_
    have g_46 := Ext.ok E_41 g_36
    obtain ⟨x_48, e_49, h⟩ := lx_s h
    refine go_getf (x := 211) (ci := 2) (kf := 0) (fin := 0) (t := 0) (by decide +kernel) (by decide +kernel) (by decide +kernel) R_40 f_14 g_46 fun v_44 f_45 => ?_
    have f_47 := q_is_eq f_45 e_49
    refine go_aload_n (n := 1) (by decide +kernel) l_23 f1 ?_
    have g_52 := Ext.ok (Ext.tr E_31 E_41) g_6
    obtain ⟨x_54, e_55, h⟩ := lx_s h
    refine go_getf (x := 292) (ci := 2) (kf := 1) (fin := 0) (t := 0) (by decide +kernel) (by decide +kernel) (by decide +kernel) R_40 f1 g_52 fun v_50 f_51 => ?_
    have f_53 := q_is_eq f_51 e_55
    refine go_icmp (c := .eq) (o := 14) (t := 49) (P := x_48 = x_54) (by decide +kernel) (by decide +kernel) f_47 f_53 (Iff.rfl) (fun hp_56 => ?_) (fun hp_56 => ?_)
    · have h := it_t hp_56 h
      refine go_aload_n (n := 2) (by decide +kernel) l_20 f_14 ?_
      obtain ⟨x_58, hc_57, h⟩ := bp_s h
      refine go_callV (x := 192) (mi := 7) (n := 0) (ci := 2) (as := []) (rest := []) (by decide +kernel) (by decide +kernel) rfl rfl (q_sum8 _ (Nat.le_of_ble_eq_true rfl)) R_40 f_14 g_46 (om_X1_waitsForEvent (Nat.le_trans (by decide) hd) R_40 g_46 f_14 hc_57) (fun _ S_62 q_65 => ?_) (fun _ _ qq => kr_x qq)
      refine kr_z (by decide) q_65 fun v_60 f_61 R_63 E_64 => ?_
      refine go_if (c := .eq) (o := 17) (t := 70) (P := x_58 = 0) (by decide +kernel) (by decide +kernel) f_61 (Iff.rfl) (fun hp_66 => ?_) (fun hp_66 => ?_)
      · have h := it_t hp_66 h
        exact oj_X4_win_70 hd R_63 l_22 f0 l_23 f1 l_20 f_14 (fun b => hQ (Ext.tr E_43 b)) h
      · have h := it_f hp_66 h
        refine go_aload_n (n := 0) (by decide +kernel) l_22 f0 ?_
        refine go_bipush (n := 11) (z := 11) (by decide +kernel) (by decide) fun v_101 f_102 => ?_
        refine go_aload_n (n := 2) (by decide +kernel) l_20 f_14 ?_
        obtain ⟨x_106, e_107, h⟩ := lx_s h
        refine go_getf (x := 195) (ci := 2) (kf := 8) (fin := 0) (t := 0) (by decide +kernel) (by decide +kernel) (by decide +kernel) R_63 f_14 g_46 fun v_103 f_104 => ?_
        have f_105 := q_is_eq f_104 e_107
        refine go_iconst (n := 0) (z := 0) (by decide +kernel) (by decide) fun v_108 f_109 => ?_
        obtain ⟨x_111, m_112, hc_110, h⟩ := bd_s h
        refine go_callV (x := 198) (mi := 44) (n := 3) (ci := 5) (as := [v_101, v_103, v_108]) (rest := []) (by decide +kernel) (by decide +kernel) rfl rfl (q_sum8 _ (Nat.le_of_ble_eq_true rfl)) R_63 f0 (fx_k (c := 5) R_63 (by decide +kernel)) (om_X4_command (Nat.le_trans (by decide) hd) R_63 f0 f_102 f_105 f_109 hc_110) (fun _ S_115 q_118 => ?_) (fun _ _ qq => kr_x qq)
        refine kr_z (by decide) q_118 fun v_113 f_114 R_116 E_117 => ?_
        have E_121 := Ext.tr E_43 E_117
        refine go_if (c := .lt) (o := 19) (t := 86) (P := x_111 < 0) (by decide +kernel) (by decide +kernel) f_114 (Iff.rfl) (fun hp_122 => ?_) (fun hp_122 => ?_)
        · have h := it_t hp_122 h
          cases h
          exact go_vret (by decide +kernel) rfl (hQ E_121 _ _ R_116 q_out_n)
        · have h := it_f hp_122 h
          exact oj_X4_win_70 hd R_116 l_22 f0 l_23 f1 l_20 f_14 (fun b => hQ (Ext.tr E_121 b)) h
    · have h := it_f hp_56 h
      refine go_aload_n (n := 0) (by decide +kernel) l_22 f0 ?_
      refine go_getf (x := 10) (ci := 5) (kf := 0) (fin := 1) (t := 2) (by decide +kernel) (by decide +kernel) (by decide +kernel) R_40 f0 (fx_k (c := 5) R_40 (by decide +kernel)) fun v_123 f_124 => ?_
      have f_125 := q_is_eq (b := 17) f_124 (fx_v R_40 (by decide +kernel)).symm
      refine go_aload_n (n := 2) (by decide +kernel) l_20 f_14 ?_
      obtain ⟨x_127, m_128, hc_126, h⟩ := bd_s h
      refine go_callV (x := 295) (mi := 93) (n := 1) (ci := 9) (as := [v_13]) (rest := []) (by decide +kernel) (by decide +kernel) rfl rfl (q_sum8 _ (Nat.le_of_ble_eq_true rfl)) R_40 f_125 (fx_k (c := 9) R_40 (by decide +kernel)) (om_X8_doom (Nat.le_trans (by decide) hd) R_40 f_125 f_14 hc_126) (fun _ S_131 q_134 => ?_) (fun _ _ qq => kr_x qq)
      refine kr_v q_134 fun R_132 E_133 => ?_
      have E_137 := Ext.tr E_43 E_133
      refine go_goto (o := 40) (t := 86) (by decide +kernel) (by decide +kernel) ?_
      cases h
      exact go_vret (by decide +kernel) rfl (hQ E_137 _ _ R_132 q_out_n)
  · have h := it_n hp_24 h
    cases h
    exact go_vret (by decide +kernel) rfl (hQ (Ext.rf _) _ _ R_16 q_out_n)
noncomputable def fl_X4_dropDoomed_2 (k65 : MM → Option (Int × MM)) : Nat → Int → MM → Option (Int × MM)
  | 0, _, _ => none
  | n + 1, y1, m => lx (m 17 5) fun x_13 =>
if y1 < x_13 then
bp (fm_X4_goes m) fun x_17 =>
if x_17 = 0 then
k65 m
else
bp (fm_X8_branchAt y1 m) fun x_30 =>
if x_30 = 0 then
lx (w32 (y1 + 1)) fun x_49 =>
fl_X4_dropDoomed_2 k65 n x_49 m
else
gd (okc m x_30 2) <| lx (m x_30 9) fun x_57 =>
if x_57 = 0 then
lx (w32 (y1 + 1)) fun x_65 =>
fl_X4_dropDoomed_2 k65 n x_65 m
else
bp (fm_X1_waitsForEvent x_30 m) fun x_70 =>
if x_70 = 0 then
lx (w32 (y1 + 1)) fun x_84 =>
fl_X4_dropDoomed_2 k65 n x_84 m
else
lx (m x_30 8) fun x_93 =>
bd (fm_X4_command 11 x_93 0 m) fun x_98 m_99 =>
lx (w32 (y1 + 1)) fun x_114 =>
fl_X4_dropDoomed_2 k65 n x_114 m_99
else
k65 m
set_option maxHeartbeats 4000000 in
theorem ol_X4_dropDoomed_2 {xs : List Int32} {d : Nat} {Q : QO → QS → Prop} {mb : MM} {k65 : MM → Option (Int × MM)} {rz : Int} {rm : MM}
  (hd : 3 ≤ d)
  (hk65 : ∀ mq : MM, Ext mb mq → ∀ {Sq : QS} {Lq : QL} {u0 : Value}, k65 mq = some (rz, rm) → Rp Sq mq → q_lo Lq 0 = some u0 → q_is 2 u0 16 → Go xs d qM_X4_dropDoomed 65 Lq [] Sq Q)
  (hQ : Ext mb rm → ∀ o S1, Rp S1 rm → q_out 9 o rz → Q o S1) :
  ∀ (n : Nat) {m : MM} {S : QS} {L : QL} {y1 : Int} {v0 : Value} {v1 : Value} , Ext mb m → fl_X4_dropDoomed_2 k65 n y1 m = some (rz, rm) → Rp S m → q_lo L 0 = some v0 → q_is 2 v0 16 → q_lo L 1 = some v1 → q_is 0 v1 y1 → Go xs d qM_X4_dropDoomed 2 L [] S Q := by
  intro n
  induction n with
  | zero => intro m S L y1 v0 v1; intro E h R l0 f0 l1 f1; cases h
  | succ n ih0 =>
    intro m S L y1 v0 v1; intro E h R l0 f0 l1 f1
    have ih : ∀ mq : MM, Ext mb mq → ∀ {z1 : Int} {Sq : QS} {Lq : QL} {u0 : Value} {u1 : Value}, fl_X4_dropDoomed_2 k65 n z1 mq = some (rz, rm) → Rp Sq mq → q_lo Lq 0 = some u0 → q_is 2 u0 16 → q_lo Lq 1 = some u1 → q_is 0 u1 z1 → Go xs d qM_X4_dropDoomed 2 Lq [] Sq Q := fun mq b => by intros; exact ih0 b ‹_› ‹_› ‹_› ‹_› ‹_› ‹_›
    unfold fl_X4_dropDoomed_2 at h
    refine go_iload_n (n := 1) (by decide +kernel) l1 f1 ?_
    refine go_aload_n (n := 0) (by decide +kernel) l0 f0 ?_
    refine go_getf (x := 10) (ci := 5) (kf := 0) (fin := 1) (t := 2) (by decide +kernel) (by decide +kernel) (by decide +kernel) R f0 (fx_k (c := 5) R (by decide +kernel)) fun v_7 f_8 => ?_
    have f_9 := q_is_eq (b := 17) f_8 (fx_v R (by decide +kernel)).symm
    obtain ⟨x_13, e_14, h⟩ := lx_s h
    refine go_getf (x := 180) (ci := 9) (kf := 5) (fin := 0) (t := 0) (by decide +kernel) (by decide +kernel) (by decide +kernel) R f_9 (fx_k (c := 9) R (by decide +kernel)) fun v_10 f_11 => ?_
    have f_12 := q_is_eq f_11 e_14
    refine go_icmp (c := .ge) (o := 55) (t := 65) (P := ¬ (y1 < x_13)) (by decide +kernel) (by decide +kernel) f1 f_12 (Int.not_lt.symm) (fun hp_15 => ?_) (fun hp_15 => ?_)
    · have h := it_f hp_15 h
      exact hk65 m E h R l0 f0
    · have h := it_n hp_15 h
      refine go_aload_n (n := 0) (by decide +kernel) l0 f0 ?_
      obtain ⟨x_17, hc_16, h⟩ := bp_s h
      refine go_callV (x := 69) (mi := 33) (n := 0) (ci := 5) (as := []) (rest := []) (by decide +kernel) (by decide +kernel) rfl rfl (q_sum8 _ (Nat.le_of_ble_eq_true rfl)) R f0 (fx_k (c := 5) R (by decide +kernel)) (om_X4_goes (Nat.le_trans (by decide) hd) R f0 hc_16) (fun _ S_21 q_24 => ?_) (fun _ _ qq => kr_x qq)
      refine kr_z (by decide) q_24 fun v_19 f_20 R_22 E_23 => ?_
      refine go_if (c := .eq) (o := 48) (t := 65) (P := x_17 = 0) (by decide +kernel) (by decide +kernel) f_20 (Iff.rfl) (fun hp_25 => ?_) (fun hp_25 => ?_)
      · have h := it_t hp_25 h
        exact hk65 m E h R_22 l0 f0
      · have h := it_f hp_25 h
        refine go_aload_n (n := 0) (by decide +kernel) l0 f0 ?_
        refine go_getf (x := 10) (ci := 5) (kf := 0) (fin := 1) (t := 2) (by decide +kernel) (by decide +kernel) (by decide +kernel) R_22 f0 (fx_k (c := 5) R_22 (by decide +kernel)) fun v_26 f_27 => ?_
        have f_28 := q_is_eq (b := 17) f_27 (fx_v R_22 (by decide +kernel)).symm
        refine go_iload_n (n := 1) (by decide +kernel) l1 f1 ?_
        obtain ⟨x_30, hc_29, h⟩ := bp_s h
        refine go_callV (x := 183) (mi := 84) (n := 1) (ci := 9) (as := [v1]) (rest := []) (by decide +kernel) (by decide +kernel) rfl rfl (q_sum8 _ (Nat.le_of_ble_eq_true rfl)) R_22 f_28 (fx_k (c := 9) R_22 (by decide +kernel)) (om_X8_branchAt (Nat.le_trans (by decide) hd) R_22 f_28 f1 hc_29) (fun _ S_34 q_37 => ?_) (fun _ _ qq => kr_x qq)
        refine kr_z (by decide) q_37 fun v_32 f_33 R_35 E_36 => ?_
        refine go_astore_n (n := 2) (by decide +kernel) (by decide +kernel) f_33 fun L_38 l_39 kp_40 => ?_
        have l_41 := kp_40 0 _ l0 (by decide) (Or.inl (by decide))
        have l_42 := kp_40 1 _ l1 (by decide) (Or.inr (q_is_cat f1 (Or.inl rfl)))
        refine go_aload_n (n := 2) (by decide +kernel) l_39 f_33 ?_
        refine go_ifnull (o := 29) (t := 59) (by decide +kernel) (by decide +kernel) f_33 (fun hp_43 => ?_) (fun hp_43 => ?_)
        · have h := it_t hp_43 h
          refine go_iinc (n := 1) (c := 1) (c' := 1) (by decide +kernel) (by decide +kernel) l_42 f1 (by decide) fun L_44 v_45 f_46 l_47 kp_48 => ?_
          obtain ⟨x_49, e_50, h⟩ := lx_s h
          have f_51 := q_is_eq f_46 e_50
          have l_52 := kp_48 0 _ l_41 (by decide) (Or.inr (q_is_cat f0 (Or.inr rfl)))
          refine go_goto (o := (-60)) (t := 2) (by decide +kernel) (by decide +kernel) ?_
          exact ih m E h R_35 l_52 f0 l_47 f_51
        · have h := it_f hp_43 h
          refine go_aload_n (n := 2) (by decide +kernel) l_39 f_33 ?_
          obtain ⟨g_55, h⟩ := gd_s h
          obtain ⟨x_57, e_58, h⟩ := lx_s h
          refine go_getf (x := 298) (ci := 2) (kf := 9) (fin := 0) (t := 0) (by decide +kernel) (by decide +kernel) (by decide +kernel) R_35 f_33 g_55 fun v_53 f_54 => ?_
          have f_56 := q_is_eq f_54 e_58
          refine go_if (c := .eq) (o := 22) (t := 59) (P := x_57 = 0) (by decide +kernel) (by decide +kernel) f_56 (Iff.rfl) (fun hp_59 => ?_) (fun hp_59 => ?_)
          · have h := it_t hp_59 h
            refine go_iinc (n := 1) (c := 1) (c' := 1) (by decide +kernel) (by decide +kernel) l_42 f1 (by decide) fun L_60 v_61 f_62 l_63 kp_64 => ?_
            obtain ⟨x_65, e_66, h⟩ := lx_s h
            have f_67 := q_is_eq f_62 e_66
            have l_68 := kp_64 0 _ l_41 (by decide) (Or.inr (q_is_cat f0 (Or.inr rfl)))
            refine go_goto (o := (-60)) (t := 2) (by decide +kernel) (by decide +kernel) ?_
            exact ih m E h R_35 l_68 f0 l_63 f_67
          · have h := it_f hp_59 h
            refine go_aload_n (n := 2) (by decide +kernel) l_39 f_33 ?_
            obtain ⟨x_70, hc_69, h⟩ := bp_s h
            refine go_callV (x := 192) (mi := 7) (n := 0) (ci := 2) (as := []) (rest := []) (by decide +kernel) (by decide +kernel) rfl rfl (q_sum8 _ (Nat.le_of_ble_eq_true rfl)) R_35 f_33 g_55 (om_X1_waitsForEvent (Nat.le_trans (by decide) hd) R_35 g_55 f_33 hc_69) (fun _ S_74 q_77 => ?_) (fun _ _ qq => kr_x qq)
            refine kr_z (by decide) q_77 fun v_72 f_73 R_75 E_76 => ?_
            refine go_if (c := .eq) (o := 15) (t := 59) (P := x_70 = 0) (by decide +kernel) (by decide +kernel) f_73 (Iff.rfl) (fun hp_78 => ?_) (fun hp_78 => ?_)
            · have h := it_t hp_78 h
              refine go_iinc (n := 1) (c := 1) (c' := 1) (by decide +kernel) (by decide +kernel) l_42 f1 (by decide) fun L_79 v_80 f_81 l_82 kp_83 => ?_
              obtain ⟨x_84, e_85, h⟩ := lx_s h
              have f_86 := q_is_eq f_81 e_85
              have l_87 := kp_83 0 _ l_41 (by decide) (Or.inr (q_is_cat f0 (Or.inr rfl)))
              refine go_goto (o := (-60)) (t := 2) (by decide +kernel) (by decide +kernel) ?_
              exact ih m E h R_75 l_87 f0 l_82 f_86
            · have h := it_f hp_78 h
              refine go_aload_n (n := 0) (by decide +kernel) l_41 f0 ?_
              refine go_bipush (n := 11) (z := 11) (by decide +kernel) (by decide) fun v_88 f_89 => ?_
              refine go_aload_n (n := 2) (by decide +kernel) l_39 f_33 ?_
              obtain ⟨x_93, e_94, h⟩ := lx_s h
              refine go_getf (x := 195) (ci := 2) (kf := 8) (fin := 0) (t := 0) (by decide +kernel) (by decide +kernel) (by decide +kernel) R_75 f_33 g_55 fun v_90 f_91 => ?_
              have f_92 := q_is_eq f_91 e_94
              refine go_iconst (n := 0) (z := 0) (by decide +kernel) (by decide) fun v_95 f_96 => ?_
              obtain ⟨x_98, m_99, hc_97, h⟩ := bd_s h
              refine go_callV (x := 198) (mi := 44) (n := 3) (ci := 5) (as := [v_88, v_90, v_95]) (rest := []) (by decide +kernel) (by decide +kernel) rfl rfl (q_sum8 _ (Nat.le_of_ble_eq_true rfl)) R_75 f0 (fx_k (c := 5) R_75 (by decide +kernel)) (om_X4_command (Nat.le_trans (by decide) hd) R_75 f0 f_89 f_92 f_96 hc_97) (fun _ S_102 q_105 => ?_) (fun _ _ qq => kr_x qq)
              refine kr_z (by decide) q_105 fun v_100 f_101 R_103 E_104 => ?_
              have E_108 := Ext.tr E E_104
              refine go_pop (by decide +kernel) f_101 (Or.inl rfl) ?_
              refine go_iinc (n := 1) (c := 1) (c' := 1) (by decide +kernel) (by decide +kernel) l_42 f1 (by decide) fun L_109 v_110 f_111 l_112 kp_113 => ?_
              obtain ⟨x_114, e_115, h⟩ := lx_s h
              have f_116 := q_is_eq f_111 e_115
              have l_117 := kp_113 0 _ l_41 (by decide) (Or.inr (q_is_cat f0 (Or.inr rfl)))
              refine go_goto (o := (-60)) (t := 2) (by decide +kernel) (by decide +kernel) ?_
              exact ih m_99 E_108 h R_103 l_117 f0 l_112 f_116
noncomputable def fl_X4_dropDoomed_75 : Nat → Int → MM → Option (Int × MM)
  | 0, _, _ => none
  | n + 1, y1, m => if y1 < 0 then
some (0, m)
else
bp (fm_X8_branchAt y1 m) fun x_153 =>
if x_153 = 0 then
lx (w32 (y1 + (-1))) fun x_172 =>
fl_X4_dropDoomed_75 n x_172 m
else
gd (okc m x_153 2) <| lx (m x_153 9) fun x_180 =>
if x_180 = 0 then
lx (w32 (y1 + (-1))) fun x_188 =>
fl_X4_dropDoomed_75 n x_188 m
else
bd (fm_X8_remove x_153 m) fun x_196 m_197 =>
lx (w32 (y1 + (-1))) fun x_212 =>
fl_X4_dropDoomed_75 n x_212 m_197
set_option maxHeartbeats 4000000 in
theorem ol_X4_dropDoomed_75 {xs : List Int32} {d : Nat} {Q : QO → QS → Prop} {mb : MM} {rz : Int} {rm : MM}
  (hd : 3 ≤ d)
  (hQ : Ext mb rm → ∀ o S1, Rp S1 rm → q_out 9 o rz → Q o S1) :
  ∀ (n : Nat) {m : MM} {S : QS} {L : QL} {y1 : Int} {v0 : Value} {v1 : Value} , Ext mb m → fl_X4_dropDoomed_75 n y1 m = some (rz, rm) → Rp S m → q_lo L 0 = some v0 → q_is 2 v0 16 → q_lo L 1 = some v1 → q_is 0 v1 y1 → Go xs d qM_X4_dropDoomed 75 L [] S Q := by
  intro n
  induction n with
  | zero => intro m S L y1 v0 v1; intro E h R l0 f0 l1 f1; cases h
  | succ n ih0 =>
    intro m S L y1 v0 v1; intro E h R l0 f0 l1 f1
    have ih : ∀ mq : MM, Ext mb mq → ∀ {z1 : Int} {Sq : QS} {Lq : QL} {u0 : Value} {u1 : Value}, fl_X4_dropDoomed_75 n z1 mq = some (rz, rm) → Rp Sq mq → q_lo Lq 0 = some u0 → q_is 2 u0 16 → q_lo Lq 1 = some u1 → q_is 0 u1 z1 → Go xs d qM_X4_dropDoomed 75 Lq [] Sq Q := fun mq b => by intros; exact ih0 b ‹_› ‹_› ‹_› ‹_› ‹_› ‹_›
    unfold fl_X4_dropDoomed_75 at h
    refine go_iload_n (n := 1) (by decide +kernel) l1 f1 ?_
    refine go_if (c := .lt) (o := 37) (t := 113) (P := y1 < 0) (by decide +kernel) (by decide +kernel) f1 (Iff.rfl) (fun hp_148 => ?_) (fun hp_148 => ?_)
    · have h := it_t hp_148 h
      cases h
      exact go_vret (by decide +kernel) rfl (hQ E _ _ R q_out_n)
    · have h := it_f hp_148 h
      refine go_aload_n (n := 0) (by decide +kernel) l0 f0 ?_
      refine go_getf (x := 10) (ci := 5) (kf := 0) (fin := 1) (t := 2) (by decide +kernel) (by decide +kernel) (by decide +kernel) R f0 (fx_k (c := 5) R (by decide +kernel)) fun v_149 f_150 => ?_
      have f_151 := q_is_eq (b := 17) f_150 (fx_v R (by decide +kernel)).symm
      refine go_iload_n (n := 1) (by decide +kernel) l1 f1 ?_
      obtain ⟨x_153, hc_152, h⟩ := bp_s h
      refine go_callV (x := 183) (mi := 84) (n := 1) (ci := 9) (as := [v1]) (rest := []) (by decide +kernel) (by decide +kernel) rfl rfl (q_sum8 _ (Nat.le_of_ble_eq_true rfl)) R f_151 (fx_k (c := 9) R (by decide +kernel)) (om_X8_branchAt (Nat.le_trans (by decide) hd) R f_151 f1 hc_152) (fun _ S_157 q_160 => ?_) (fun _ _ qq => kr_x qq)
      refine kr_z (by decide) q_160 fun v_155 f_156 R_158 E_159 => ?_
      refine go_astore_n (n := 2) (by decide +kernel) (by decide +kernel) f_156 fun L_161 l_162 kp_163 => ?_
      have l_164 := kp_163 0 _ l0 (by decide) (Or.inl (by decide))
      have l_165 := kp_163 1 _ l1 (by decide) (Or.inr (q_is_cat f1 (Or.inl rfl)))
      refine go_aload_n (n := 2) (by decide +kernel) l_162 f_156 ?_
      refine go_ifnull (o := 18) (t := 107) (by decide +kernel) (by decide +kernel) f_156 (fun hp_166 => ?_) (fun hp_166 => ?_)
      · have h := it_t hp_166 h
        refine go_iinc (n := 1) (c := (-1)) (c' := (-1)) (by decide +kernel) (by decide +kernel) l_165 f1 (by decide) fun L_167 v_168 f_169 l_170 kp_171 => ?_
        obtain ⟨x_172, e_173, h⟩ := lx_s h
        have f_174 := q_is_eq f_169 e_173
        have l_175 := kp_171 0 _ l_164 (by decide) (Or.inr (q_is_cat f0 (Or.inr rfl)))
        refine go_goto (o := (-35)) (t := 75) (by decide +kernel) (by decide +kernel) ?_
        exact ih m E h R_158 l_175 f0 l_170 f_174
      · have h := it_f hp_166 h
        refine go_aload_n (n := 2) (by decide +kernel) l_162 f_156 ?_
        obtain ⟨g_178, h⟩ := gd_s h
        obtain ⟨x_180, e_181, h⟩ := lx_s h
        refine go_getf (x := 298) (ci := 2) (kf := 9) (fin := 0) (t := 0) (by decide +kernel) (by decide +kernel) (by decide +kernel) R_158 f_156 g_178 fun v_176 f_177 => ?_
        have f_179 := q_is_eq f_177 e_181
        refine go_if (c := .eq) (o := 11) (t := 107) (P := x_180 = 0) (by decide +kernel) (by decide +kernel) f_179 (Iff.rfl) (fun hp_182 => ?_) (fun hp_182 => ?_)
        · have h := it_t hp_182 h
          refine go_iinc (n := 1) (c := (-1)) (c' := (-1)) (by decide +kernel) (by decide +kernel) l_165 f1 (by decide) fun L_183 v_184 f_185 l_186 kp_187 => ?_
          obtain ⟨x_188, e_189, h⟩ := lx_s h
          have f_190 := q_is_eq f_185 e_189
          have l_191 := kp_187 0 _ l_164 (by decide) (Or.inr (q_is_cat f0 (Or.inr rfl)))
          refine go_goto (o := (-35)) (t := 75) (by decide +kernel) (by decide +kernel) ?_
          exact ih m E h R_158 l_191 f0 l_186 f_190
        · have h := it_f hp_182 h
          refine go_aload_n (n := 0) (by decide +kernel) l_164 f0 ?_
          refine go_getf (x := 10) (ci := 5) (kf := 0) (fin := 1) (t := 2) (by decide +kernel) (by decide +kernel) (by decide +kernel) R_158 f0 (fx_k (c := 5) R_158 (by decide +kernel)) fun v_192 f_193 => ?_
          have f_194 := q_is_eq (b := 17) f_193 (fx_v R_158 (by decide +kernel)).symm
          refine go_aload_n (n := 2) (by decide +kernel) l_162 f_156 ?_
          obtain ⟨x_196, m_197, hc_195, h⟩ := bd_s h
          refine go_callV (x := 214) (mi := 87) (n := 1) (ci := 9) (as := [v_155]) (rest := []) (by decide +kernel) (by decide +kernel) rfl rfl (q_sum8 _ (Nat.le_of_ble_eq_true rfl)) R_158 f_194 (fx_k (c := 9) R_158 (by decide +kernel)) (om_X8_remove (Nat.le_trans (by decide) hd) R_158 f_194 f_156 hc_195) (fun _ S_200 q_203 => ?_) (fun _ _ qq => kr_x qq)
          refine kr_v q_203 fun R_201 E_202 => ?_
          have E_206 := Ext.tr E E_202
          refine go_iinc (n := 1) (c := (-1)) (c' := (-1)) (by decide +kernel) (by decide +kernel) l_165 f1 (by decide) fun L_207 v_208 f_209 l_210 kp_211 => ?_
          obtain ⟨x_212, e_213, h⟩ := lx_s h
          have f_214 := q_is_eq f_209 e_213
          have l_215 := kp_211 0 _ l_164 (by decide) (Or.inr (q_is_cat f0 (Or.inr rfl)))
          refine go_goto (o := (-35)) (t := 75) (by decide +kernel) (by decide +kernel) ?_
          exact ih m_197 E_206 h R_201 l_215 f0 l_210 f_214
noncomputable def fm_X4_dropDoomed (m0 : MM) : Option (Int × MM) := fl_X4_dropDoomed_2  (fun m_124 =>
lx (m_124 17 5) fun x_135 =>
lx (w32 (x_135 - 1)) fun x_141 =>
fl_X4_dropDoomed_75   BIG x_141 m_124) BIG 0 m0
set_option maxHeartbeats 4000000 in
theorem om_X4_dropDoomed {xs : List Int32} {d : Nat} {S : QS} {m0 : MM} {v0 : Value} {rz : Int} {rm : MM}
  (hd : 4 ≤ d) (R : Rp S m0) (f0 : q_is 2 v0 16)
  (h : fm_X4_dropDoomed m0 = some (rz, rm)) : Mt xs d 52 [v0] S (Cr 9 m0 rm rz) := by
  obtain ⟨d, rfl⟩ : ∃ e, d = e + 1 := ⟨d - 1, by omega⟩
  have hd : 3 ≤ d := Nat.le_of_succ_le_succ hd
  refine Mt.of (M := qM_X4_dropDoomed) rfl (by rw [sl_1 (q_is_cat f0 (Or.inr rfl)), sl_0]; decide) ?_
  rw [la_1 (q_is_cat f0 (Or.inr rfl)), la_0]
  obtain ⟨L, hL⟩ : ∃ L : QL, L = [(0, v0)] := ⟨_, rfl⟩
  rw [← hL]
  have l0 : q_lo L 0 = some v0 := by rw [hL]; rfl
  have hQ : Ext m0 rm → ∀ o S1, Rp S1 rm → q_out 9 o rz → (Cr 9 m0 rm rz) o S1 := fun a o S1 b e => ⟨b, a, e⟩
  unfold fm_X4_dropDoomed at h
  refine go_iconst (n := 0) (z := 0) (by decide +kernel) (by decide) fun v_1 f_2 => ?_
  refine go_istore_n (n := 1) (by decide +kernel) (by decide +kernel) f_2 fun L_3 l_4 kp_5 => ?_
  have l_6 := kp_5 0 _ l0 (by decide) (Or.inr (q_is_cat f0 (Or.inr rfl)))
  refine ol_X4_dropDoomed_2 hd  ?_ hQ BIG (Ext.rf _) h R l_6 f0 l_4 f_2
  intro m_124 E_125
  intro S_121 L_122 v_118
  intro h R_123 l_119 f_120
  have E_126 := E_125
  refine go_aload_n (n := 0) (by decide +kernel) l_119 f_120 ?_
  refine go_getf (x := 10) (ci := 5) (kf := 0) (fin := 1) (t := 2) (by decide +kernel) (by decide +kernel) (by decide +kernel) R_123 f_120 (fx_k (c := 5) R_123 (by decide +kernel)) fun v_129 f_130 => ?_
  have f_131 := q_is_eq (b := 17) f_130 (fx_v R_123 (by decide +kernel)).symm
  obtain ⟨x_135, e_136, h⟩ := lx_s h
  refine go_getf (x := 180) (ci := 9) (kf := 5) (fin := 0) (t := 0) (by decide +kernel) (by decide +kernel) (by decide +kernel) R_123 f_131 (fx_k (c := 9) R_123 (by decide +kernel)) fun v_132 f_133 => ?_
  have f_134 := q_is_eq f_133 e_136
  refine go_iconst (n := 1) (z := 1) (by decide +kernel) (by decide) fun v_137 f_138 => ?_
  refine go_isub (by decide +kernel) f_134 f_138 fun v_139 f_140 => ?_
  obtain ⟨x_141, e_142, h⟩ := lx_s h
  have f_143 := q_is_eq f_140 e_142
  refine go_istore_n (n := 1) (by decide +kernel) (by decide +kernel) f_143 fun L_144 l_145 kp_146 => ?_
  have l_147 := kp_146 0 _ l_119 (by decide) (Or.inr (q_is_cat f_120 (Or.inr rfl)))
  refine ol_X4_dropDoomed_75 hd   (fun b => hQ (Ext.tr E_126 b)) BIG (Ext.rf _) h R_123 l_147 f_120 l_145 f_143
noncomputable def fm_X8_pushed (p1 p2 : Int) (m0 : MM) : Option (Int × MM) := bd (fm_X5_add 21 (w64 ((w64 (p1 * 10000)) + p2)) m0) fun x_15 m_16 =>
lx (m_16 21 2) fun x_32 =>
some (x_32, m_16)
set_option maxHeartbeats 4000000 in
theorem om_X8_pushed {xs : List Int32} {d : Nat} {S : QS} {m0 : MM} {p1 p2 : Int} {v0 : Value} {v1 : Value} {v2 : Value} {rz : Int} {rm : MM}
  (hd : 2 ≤ d) (R : Rp S m0) (f0 : q_is 2 v0 17) (f1 : q_is 0 v1 p1) (f2 : q_is 0 v2 p2)
  (h : fm_X8_pushed p1 p2 m0 = some (rz, rm)) : Mt xs d 78 [v0, v1, v2] S (Cr 0 m0 rm rz) := by
  obtain ⟨d, rfl⟩ : ∃ e, d = e + 1 := ⟨d - 1, by omega⟩
  have hd : 1 ≤ d := Nat.le_of_succ_le_succ hd
  refine Mt.of (M := qM_X8_pushed) rfl (by rw [sl_1 (q_is_cat f0 (Or.inr rfl)), sl_1 (q_is_cat f1 (Or.inl rfl)), sl_1 (q_is_cat f2 (Or.inl rfl)), sl_0]; decide) ?_
  rw [la_1 (q_is_cat f0 (Or.inr rfl)), la_1 (q_is_cat f1 (Or.inl rfl)), la_1 (q_is_cat f2 (Or.inl rfl)), la_0]
  obtain ⟨L, hL⟩ : ∃ L : QL, L = [(0, v0), (0 + 1, v1), (0 + 1 + 1, v2)] := ⟨_, rfl⟩
  rw [← hL]
  have l0 : q_lo L 0 = some v0 := by rw [hL]; rfl
  have l1 : q_lo L 1 = some v1 := by rw [hL]; rfl
  have l2 : q_lo L 2 = some v2 := by rw [hL]; rfl
  have hQ : Ext m0 rm → ∀ o S1, Rp S1 rm → q_out 0 o rz → (Cr 0 m0 rm rz) o S1 := fun a o S1 b e => ⟨b, a, e⟩
  unfold fm_X8_pushed at h
  refine go_aload_n (n := 0) (by decide +kernel) l0 f0 ?_
  refine go_getf (x := 28) (ci := 9) (kf := 3) (fin := 1) (t := 2) (by decide +kernel) (by decide +kernel) (by decide +kernel) R f0 (fx_k (c := 9) R (by decide +kernel)) fun v_1 f_2 => ?_
  have f_3 := q_is_eq (b := 21) f_2 (fx_v R (by decide +kernel)).symm
  refine go_iload_n (n := 1) (by decide +kernel) l1 f1 ?_
  refine go_i2l (by decide +kernel) f1 fun v_4 f_5 => ?_
  refine go_ldc2_w (x := 75) (n := 10000) (a := 0) (b := 0) (z := 10000) (by decide +kernel) (by decide +kernel) (by decide +kernel) fun v_6 f_7 => ?_
  refine go_lmul (by decide +kernel) f_5 f_7 fun v_8 f_9 => ?_
  refine go_iload_n (n := 2) (by decide +kernel) l2 f2 ?_
  refine go_i2l (by decide +kernel) f2 fun v_10 f_11 => ?_
  refine go_ladd (by decide +kernel) f_9 f_11 fun v_12 f_13 => ?_
  obtain ⟨x_15, m_16, hc_14, h⟩ := bd_s h
  refine go_callV (x := 77) (mi := 60) (n := 1) (ci := 6) (as := [v_12]) (rest := []) (by decide +kernel) (by decide +kernel) rfl rfl (q_sum8 _ (Nat.le_of_ble_eq_true rfl)) R f_3 (fx_k (c := 6) R (by decide +kernel)) (om_X5_add (Nat.le_trans (by decide) hd) R (fx_k (c := 6) R (by decide +kernel)) f_3 f_13 hc_14) (fun _ S_19 q_22 => ?_) (fun _ _ qq => kr_x qq)
  refine kr_v q_22 fun R_20 E_21 => ?_
  have E_25 := E_21
  refine go_aload_n (n := 0) (by decide +kernel) l0 f0 ?_
  refine go_getf (x := 28) (ci := 9) (kf := 3) (fin := 1) (t := 2) (by decide +kernel) (by decide +kernel) (by decide +kernel) R_20 f0 (fx_k (c := 9) R_20 (by decide +kernel)) fun v_26 f_27 => ?_
  have f_28 := q_is_eq (b := 21) f_27 (fx_v R_20 (by decide +kernel)).symm
  obtain ⟨x_32, e_33, h⟩ := lx_s h
  refine go_getf (x := 81) (ci := 6) (kf := 2) (fin := 0) (t := 0) (by decide +kernel) (by decide +kernel) (by decide +kernel) R_20 f_28 (fx_k (c := 6) R_20 (by decide +kernel)) fun v_29 f_30 => ?_
  have f_31 := q_is_eq f_30 e_33
  cases h
  exact go_iret (by decide +kernel) rfl (Or.inl rfl) f_31 (hQ E_25 _ _ R_20 (q_out_v (by decide) f_31))
end DF7
