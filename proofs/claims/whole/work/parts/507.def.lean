/-! Methods as functions (written by wip/whole/dec.py), 7: X8_find, X4_beginBelow, X4_race, X8_doom, X4_win, X4_dropDoomed, X8_pushed. -/
section DF7
noncomputable def fl_X8_find_2 (y1 : Int) (m0 : MM) : Nat → Int → Option Int
  | 0, _ => none
  | n + 1, y2 => lx (m0 17 5) fun x_11 =>
if y2 < x_11 then
if y2 < 12 then
gd (0 ≤ y2 ∧ y2 < 12) <| lx (m0 19 y2) fun x_32 =>
gd (okc m0 x_32 2) <| lx (m0 x_32 0) fun x_38 =>
if x_38 = y1 then
some x_32
else
lx (w32 (y2 + 1)) fun x_46 =>
fl_X8_find_2 y1 m0 n x_46
else
some 0
else
some 0
set_option maxHeartbeats 4000000 in
theorem ol_X8_find_2 {xs : List Int32} {d : Nat} {Q : QO → QS → Prop} {m0 : MM} {y1 : Int} {rz : Int}
  (hd : 0 ≤ d)
  (hQ : ∀ o S1, Rp S1 m0 → q_out 2 o rz → Q o S1) :
  ∀ (n : Nat) {S : QS} {L : QL} {y2 : Int} {v0 : Value} {v1 : Value} {v2 : Value} , fl_X8_find_2 y1 m0 n y2 = some rz → Rp S m0 → q_lo L 0 = some v0 → q_is 2 v0 17 → q_lo L 1 = some v1 → q_is 0 v1 y1 → q_lo L 2 = some v2 → q_is 0 v2 y2 → Go xs d qM_X8_find 2 L [] S Q := by
  intro n
  induction n with
  | zero => intro S L y2 v0 v1 v2; intro h R l0 f0 l1 f1 l2 f2; cases h
  | succ n ih0 =>
    intro S L y2 v0 v1 v2; intro h R l0 f0 l1 f1 l2 f2
    have ih : ∀ {z2 : Int} {Sq : QS} {Lq : QL} {u0 : Value} {u1 : Value} {u2 : Value}, fl_X8_find_2 y1 m0 n z2 = some rz → Rp Sq m0 → q_lo Lq 0 = some u0 → q_is 2 u0 17 → q_lo Lq 1 = some u1 → q_is 0 u1 y1 → q_lo Lq 2 = some u2 → q_is 0 u2 z2 → Go xs d qM_X8_find 2 Lq [] Sq Q := by intros; exact ih0 ‹_› ‹_› ‹_› ‹_› ‹_› ‹_› ‹_› ‹_›
    unfold fl_X8_find_2 at h
    refine go_iload_n (n := 2) (by decide +kernel) l2 f2 ?_
    refine go_aload_n (n := 0) (by decide +kernel) l0 f0 ?_
    obtain ⟨x_11, e_12, h⟩ := lx_s h
    refine go_getf (x := 36) (ci := 9) (kf := 5) (fin := 0) (t := 0) (by decide +kernel) (by decide +kernel) (by decide +kernel) R f0 (fx_k (c := 9) R (by decide +kernel)) fun v_8 f_9 => ?_
    have f_10 := q_is_eq f_9 e_12
    refine go_icmp (c := .ge) (o := 38) (t := 45) (P := ¬ (y2 < x_11)) (by decide +kernel) (by decide +kernel) f2 f_10 (Int.not_lt.symm) (fun hp_13 => ?_) (fun hp_13 => ?_)
    · have h := it_f hp_13 h
      refine go_null (by decide +kernel) fun v_14 f_15 => ?_
      cases h
      exact go_aret (by decide +kernel) rfl rfl f_15 (hQ _ _ R (q_out_v (by decide) f_15))
    · have h := it_n hp_13 h
      refine go_iload_n (n := 2) (by decide +kernel) l2 f2 ?_
      refine go_aload_n (n := 0) (by decide +kernel) l0 f0 ?_
      refine go_getf (x := 17) (ci := 9) (kf := 1) (fin := 1) (t := 2) (by decide +kernel) (by decide +kernel) (by decide +kernel) R f0 (fx_k (c := 9) R (by decide +kernel)) fun v_16 f_17 => ?_
      have f_18 := q_is_eq (b := 19) f_17 (fx_v R (by decide +kernel)).symm
      refine go_alen (by decide +kernel) R f_18 (okl_of (fx_k (c := 103) R (by decide +kernel)) (by decide)) fun v_19 f_20 => ?_
      have f_21 := q_is_eq (b := 12) f_20 (by rw [fx_l R (ln := 12) (by decide +kernel)]; decide)
      refine go_icmp (c := .ge) (o := 29) (t := 45) (P := ¬ (y2 < 12)) (by decide +kernel) (by decide +kernel) f2 f_21 (Int.not_lt.symm) (fun hp_22 => ?_) (fun hp_22 => ?_)
      · have h := it_f hp_22 h
        refine go_null (by decide +kernel) fun v_23 f_24 => ?_
        cases h
        exact go_aret (by decide +kernel) rfl rfl f_24 (hQ _ _ R (q_out_v (by decide) f_24))
      · have h := it_n hp_22 h
        refine go_aload_n (n := 0) (by decide +kernel) l0 f0 ?_
        refine go_getf (x := 17) (ci := 9) (kf := 1) (fin := 1) (t := 2) (by decide +kernel) (by decide +kernel) (by decide +kernel) R f0 (fx_k (c := 9) R (by decide +kernel)) fun v_25 f_26 => ?_
        have f_27 := q_is_eq (b := 19) f_26 (fx_v R (by decide +kernel)).symm
        refine go_iload_n (n := 2) (by decide +kernel) l2 f2 ?_
        obtain ⟨g_30, h⟩ := gd_s h
        obtain ⟨x_32, e_33, h⟩ := lx_s h
        refine go_aald (kd := 103) (by decide +kernel) (by decide) R f_27 f2 (fx_k (c := 103) R (by decide +kernel)) (fx_x (a := 19) (ln := 12) R (by decide +kernel) g_30) fun v_28 f_29 => ?_
        have f_31 := q_is_eq f_29 e_33
        obtain ⟨g_36, h⟩ := gd_s h
        obtain ⟨x_38, e_39, h⟩ := lx_s h
        refine go_getf (x := 94) (ci := 2) (kf := 0) (fin := 0) (t := 0) (by decide +kernel) (by decide +kernel) (by decide +kernel) R f_31 g_36 fun v_34 f_35 => ?_
        have f_37 := q_is_eq f_35 e_39
        refine go_iload_n (n := 1) (by decide +kernel) l1 f1 ?_
        refine go_icmp (c := .ne) (o := 10) (t := 39) (P := ¬ (x_38 = y1)) (by decide +kernel) (by decide +kernel) f_37 f1 (Iff.rfl) (fun hp_40 => ?_) (fun hp_40 => ?_)
        · have h := it_f hp_40 h
          refine go_iinc (n := 2) (c := 1) (c' := 1) (by decide +kernel) (by decide +kernel) l2 f2 (by decide) fun L_41 v_42 f_43 l_44 kp_45 => ?_
          obtain ⟨x_46, e_47, h⟩ := lx_s h
          have f_48 := q_is_eq f_43 e_47
          have l_49 := kp_45 0 _ l0 (by decide) (Or.inl (by decide))
          have l_50 := kp_45 1 _ l1 (by decide) (Or.inr (q_is_cat f1 (Or.inl rfl)))
          refine go_goto (o := (-40)) (t := 2) (by decide +kernel) (by decide +kernel) ?_
          exact ih h R l_49 f0 l_50 f1 l_44 f_48
        · have h := it_n hp_40 h
          refine go_aload_n (n := 0) (by decide +kernel) l0 f0 ?_
          refine go_getf (x := 17) (ci := 9) (kf := 1) (fin := 1) (t := 2) (by decide +kernel) (by decide +kernel) (by decide +kernel) R f0 (fx_k (c := 9) R (by decide +kernel)) fun v_51 f_52 => ?_
          have f_53 := q_is_eq (b := 19) f_52 (fx_v R (by decide +kernel)).symm
          refine go_iload_n (n := 2) (by decide +kernel) l2 f2 ?_
          refine go_aald (kd := 103) (by decide +kernel) (by decide) R f_53 f2 (fx_k (c := 103) R (by decide +kernel)) (fx_x (a := 19) (ln := 12) R (by decide +kernel) g_30) fun v_54 f_55 => ?_
          have f_56 := q_is_eq f_55 e_33
          cases h
          exact go_aret (by decide +kernel) rfl rfl f_56 (hQ _ _ R (q_out_v (by decide) f_56))
noncomputable def fm_X8_find (p1 : Int) (m0 : MM) : Option Int := fl_X8_find_2 p1 m0  BIG 0
set_option maxHeartbeats 4000000 in
theorem om_X8_find {xs : List Int32} {d : Nat} {S : QS} {m0 : MM} {p1 : Int} {v0 : Value} {v1 : Value} {rz : Int}
  (hd : 1 ≤ d) (R : Rp S m0) (f0 : q_is 2 v0 17) (f1 : q_is 0 v1 p1)
  (h : fm_X8_find p1 m0 = some rz) : Mt xs d 85 [v0, v1] S (Cr 2 m0 m0 rz) := by
  obtain ⟨d, rfl⟩ : ∃ e, d = e + 1 := ⟨d - 1, by omega⟩
  have hd : 0 ≤ d := Nat.le_of_succ_le_succ hd
  refine Mt.of (M := qM_X8_find) rfl (by rw [sl_1 (q_is_cat f0 (Or.inr rfl)), sl_1 (q_is_cat f1 (Or.inl rfl)), sl_0]; decide) ?_
  rw [la_1 (q_is_cat f0 (Or.inr rfl)), la_1 (q_is_cat f1 (Or.inl rfl)), la_0]
  obtain ⟨L, hL⟩ : ∃ L : QL, L = [(0, v0), (0 + 1, v1)] := ⟨_, rfl⟩
  rw [← hL]
  have l0 : q_lo L 0 = some v0 := by rw [hL]; rfl
  have l1 : q_lo L 1 = some v1 := by rw [hL]; rfl
  have hQ : ∀ o S1, Rp S1 m0 → q_out 2 o rz → (Cr 2 m0 m0 rz) o S1 := fun o S1 a b => ⟨a, Ext.rf _, b⟩
  unfold fm_X8_find at h
  refine go_iconst (n := 0) (z := 0) (by decide +kernel) (by decide) fun v_1 f_2 => ?_
  refine go_istore_n (n := 2) (by decide +kernel) (by decide +kernel) f_2 fun L_3 l_4 kp_5 => ?_
  have l_6 := kp_5 0 _ l0 (by decide) (Or.inl (by decide))
  have l_7 := kp_5 1 _ l1 (by decide) (Or.inr (q_is_cat f1 (Or.inl rfl)))
  refine ol_X8_find_2 hd   hQ BIG h R l_6 f0 l_7 f1 l_4 f_2
noncomputable def fm_X4_beginBelow (p1 p2 : Int) (m0 : MM) : Option (Int × MM) := lx (m0 17 5) fun x_7 =>
if x_7 < 12 then
gd (okc m0 p1 2) <| lx (m0 p1 0) fun x_22 =>
bd (fm_X8_beginBranch x_22 p2 m0) fun x_25 m_26 =>
bp (fm_X8_find x_25 m_26) fun x_35 =>
some (x_35, m_26)
else
bd (fm_X4_getStuck (-1) m0) fun x_46 m_47 =>
some (0, m_47)
set_option maxHeartbeats 4000000 in
theorem om_X4_beginBelow {xs : List Int32} {d : Nat} {S : QS} {m0 : MM} {p1 p2 : Int} {v0 : Value} {v1 : Value} {v2 : Value} {rz : Int} {rm : MM}
  (hd : 3 ≤ d) (R : Rp S m0) (f0 : q_is 2 v0 16) (f1 : q_is 2 v1 p1) (f2 : q_is 0 v2 p2)
  (h : fm_X4_beginBelow p1 p2 m0 = some (rz, rm)) : Mt xs d 49 [v0, v1, v2] S (Cr 2 m0 rm rz) := by
  obtain ⟨d, rfl⟩ : ∃ e, d = e + 1 := ⟨d - 1, by omega⟩
  have hd : 2 ≤ d := Nat.le_of_succ_le_succ hd
  refine Mt.of (M := qM_X4_beginBelow) rfl (by rw [sl_1 (q_is_cat f0 (Or.inr rfl)), sl_1 (q_is_cat f1 (Or.inr rfl)), sl_1 (q_is_cat f2 (Or.inl rfl)), sl_0]; decide) ?_
  rw [la_1 (q_is_cat f0 (Or.inr rfl)), la_1 (q_is_cat f1 (Or.inr rfl)), la_1 (q_is_cat f2 (Or.inl rfl)), la_0]
  obtain ⟨L, hL⟩ : ∃ L : QL, L = [(0, v0), (0 + 1, v1), (0 + 1 + 1, v2)] := ⟨_, rfl⟩
  rw [← hL]
  have l0 : q_lo L 0 = some v0 := by rw [hL]; rfl
  have l1 : q_lo L 1 = some v1 := by rw [hL]; rfl
  have l2 : q_lo L 2 = some v2 := by rw [hL]; rfl
  have hQ : Ext m0 rm → ∀ o S1, Rp S1 rm → q_out 2 o rz → (Cr 2 m0 rm rz) o S1 := fun a o S1 b e => ⟨b, a, e⟩
  unfold fm_X4_beginBelow at h
  refine go_aload_n (n := 0) (by decide +kernel) l0 f0 ?_
  refine go_getf (x := 10) (ci := 5) (kf := 0) (fin := 1) (t := 2) (by decide +kernel) (by decide +kernel) (by decide +kernel) R f0 (fx_k (c := 5) R (by decide +kernel)) fun v_1 f_2 => ?_
  have f_3 := q_is_eq (b := 17) f_2 (fx_v R (by decide +kernel)).symm
  obtain ⟨x_7, e_8, h⟩ := lx_s h
  refine go_getf (x := 180) (ci := 9) (kf := 5) (fin := 0) (t := 0) (by decide +kernel) (by decide +kernel) (by decide +kernel) R f_3 (fx_k (c := 9) R (by decide +kernel)) fun v_4 f_5 => ?_
  have f_6 := q_is_eq f_5 e_8
  refine go_bipush (n := 12) (z := 12) (by decide +kernel) (by decide) fun v_9 f_10 => ?_
  refine go_icmp (c := .lt) (o := 10) (t := 19) (P := x_7 < 12) (by decide +kernel) (by decide +kernel) f_6 f_10 (Iff.rfl) (fun hp_11 => ?_) (fun hp_11 => ?_)
  · have h := it_t hp_11 h
    refine go_aload_n (n := 0) (by decide +kernel) l0 f0 ?_
    refine go_getf (x := 10) (ci := 5) (kf := 0) (fin := 1) (t := 2) (by decide +kernel) (by decide +kernel) (by decide +kernel) R f0 (fx_k (c := 5) R (by decide +kernel)) fun v_12 f_13 => ?_
    have f_14 := q_is_eq (b := 17) f_13 (fx_v R (by decide +kernel)).symm
    refine go_aload_n (n := 0) (by decide +kernel) l0 f0 ?_
    refine go_getf (x := 10) (ci := 5) (kf := 0) (fin := 1) (t := 2) (by decide +kernel) (by decide +kernel) (by decide +kernel) R f0 (fx_k (c := 5) R (by decide +kernel)) fun v_15 f_16 => ?_
    have f_17 := q_is_eq (b := 17) f_16 (fx_v R (by decide +kernel)).symm
    refine go_aload_n (n := 1) (by decide +kernel) l1 f1 ?_
    obtain ⟨g_20, h⟩ := gd_s h
    obtain ⟨x_22, e_23, h⟩ := lx_s h
    refine go_getf (x := 211) (ci := 2) (kf := 0) (fin := 0) (t := 0) (by decide +kernel) (by decide +kernel) (by decide +kernel) R f1 g_20 fun v_18 f_19 => ?_
    have f_21 := q_is_eq f_19 e_23
    refine go_iload_n (n := 2) (by decide +kernel) l2 f2 ?_
    obtain ⟨x_25, m_26, hc_24, h⟩ := bd_s h
    refine go_callV (x := 133) (mi := 86) (n := 2) (ci := 9) (as := [v_18, v2]) (rest := [v_12]) (by decide +kernel) (by decide +kernel) rfl rfl (q_sum8 _ (Nat.le_of_ble_eq_true rfl)) R f_17 (fx_k (c := 9) R (by decide +kernel)) (om_X8_beginBranch (Nat.le_trans (by decide) hd) R f_17 f_21 f2 hc_24) (fun _ S_29 q_32 => ?_) (fun _ _ qq => kr_x qq)
    refine kr_z (by decide) q_32 fun v_27 f_28 R_30 E_31 => ?_
    have E_33 := E_31
    obtain ⟨x_35, hc_34, h⟩ := bp_s h
    refine go_callV (x := 286) (mi := 85) (n := 1) (ci := 9) (as := [v_27]) (rest := []) (by decide +kernel) (by decide +kernel) rfl rfl (q_sum8 _ (Nat.le_of_ble_eq_true rfl)) R_30 f_14 (fx_k (c := 9) R_30 (by decide +kernel)) (om_X8_find (Nat.le_trans (by decide) hd) R_30 f_14 f_28 hc_34) (fun _ S_39 q_42 => ?_) (fun _ _ qq => kr_x qq)
    refine kr_z (by decide) q_42 fun v_37 f_38 R_40 E_41 => ?_
    cases h
    exact go_aret (by decide +kernel) rfl rfl f_38 (hQ E_33 _ _ R_40 (q_out_v (by decide) f_38))
  · have h := it_f hp_11 h
    refine go_aload_n (n := 0) (by decide +kernel) l0 f0 ?_
    refine go_iconst (n := (-1)) (z := (-1)) (by decide +kernel) (by decide) fun v_43 f_44 => ?_
    obtain ⟨x_46, m_47, hc_45, h⟩ := bd_s h
    refine go_callV (x := 126) (mi := 34) (n := 1) (ci := 5) (as := [v_43]) (rest := []) (by decide +kernel) (by decide +kernel) rfl rfl (q_sum8 _ (Nat.le_of_ble_eq_true rfl)) R f0 (fx_k (c := 5) R (by decide +kernel)) (om_X4_getStuck (Nat.le_trans (by decide) hd) R f0 f_44 hc_45) (fun _ S_50 q_53 => ?_) (fun _ _ qq => kr_x qq)
    refine kr_v q_53 fun R_51 E_52 => ?_
    have E_54 := E_52
    refine go_null (by decide +kernel) fun v_55 f_56 => ?_
    cases h
    exact go_aret (by decide +kernel) rfl rfl f_56 (hQ E_54 _ _ R_51 (q_out_v (by decide) f_56))
noncomputable def fj_X4_race_26 (y1 y2 : Int) (m : MM) : Option (Int × MM) := gd (okc m y2 2) <| lx (m y2 0) fun x_30 =>
gd (okc m y1 2) <| up m y1 3 x_30 fun m_33 =>
lx (m_33 y1 0) fun x_43 =>
up m_33 y2 3 x_43 fun m_46 =>
some (0, m_46)
set_option maxHeartbeats 4000000 in
theorem oj_X4_race_26 {xs : List Int32} {d : Nat} {S : QS} {L : QL} {Q : QO → QS → Prop} {m : MM} {y1 y2 : Int} {v1 : Value} {v2 : Value}  {rz : Int} {rm : MM}
  (hd : 1 ≤ d) (R : Rp S m) (l1 : q_lo L 1 = some v1) (f1 : q_is 2 v1 y1) (l2 : q_lo L 2 = some v2) (f2 : q_is 2 v2 y2)
  (hQ : Ext m rm → ∀ o S1, Rp S1 rm → q_out 9 o rz → Q o S1)
  (h : fj_X4_race_26 y1 y2 m = some (rz, rm)) : Go xs d qM_X4_race 26 L [] S Q := by
  unfold fj_X4_race_26 at h
  refine go_aload_n (n := 1) (by decide +kernel) l1 f1 ?_
  refine go_aload_n (n := 2) (by decide +kernel) l2 f2 ?_
  obtain ⟨g_28, h⟩ := gd_s h
  obtain ⟨x_30, e_31, h⟩ := lx_s h
  refine go_getf (x := 211) (ci := 2) (kf := 0) (fin := 0) (t := 0) (by decide +kernel) (by decide +kernel) (by decide +kernel) R f2 g_28 fun v_26 f_27 => ?_
  have f_29 := q_is_eq f_27 e_31
  obtain ⟨g_32, h⟩ := gd_s h
  obtain ⟨m_33, e_34, h⟩ := up_s h
  refine go_putf (x := 289) (ci := 2) (kf := 3) (fin := 0) (zt := 0) (by decide +kernel) (by decide +kernel) (by decide) (by decide +kernel) (by decide) (Or.inl rfl) R f1 f_29 (fun hq => absurd hq (by decide)) g_32 e_34 (fx_f (j := 3) R.2 g_32 (by decide +kernel)) fun S_35 R_36 E_37 => ?_
  have E_38 := E_37
  refine go_aload_n (n := 2) (by decide +kernel) l2 f2 ?_
  refine go_aload_n (n := 1) (by decide +kernel) l1 f1 ?_
  have g_41 := Ext.ok E_37 g_32
  obtain ⟨x_43, e_44, h⟩ := lx_s h
  refine go_getf (x := 211) (ci := 2) (kf := 0) (fin := 0) (t := 0) (by decide +kernel) (by decide +kernel) (by decide +kernel) R_36 f1 g_41 fun v_39 f_40 => ?_
  have f_42 := q_is_eq f_40 e_44
  have g_45 := Ext.ok E_37 g_28
  obtain ⟨m_46, e_47, h⟩ := up_s h
  refine go_putf (x := 289) (ci := 2) (kf := 3) (fin := 0) (zt := 0) (by decide +kernel) (by decide +kernel) (by decide) (by decide +kernel) (by decide) (Or.inl rfl) R_36 f2 f_42 (fun hq => absurd hq (by decide)) g_45 e_47 (fx_f (j := 3) R_36.2 g_45 (by decide +kernel)) fun S_48 R_49 E_50 => ?_
  have E_51 := Ext.tr E_38 E_50
  cases h
  exact go_vret (by decide +kernel) rfl (hQ E_51 _ _ R_49 q_out_n)
noncomputable def fm_X4_race (p1 p2 : Int) (m0 : MM) : Option (Int × MM) := if p2 = 0 then
some (0, m0)
else
gd (okc m0 p1 2) <| lx (m0 p1 3) fun x_9 =>
bp (fm_X8_find x_9 m0) fun x_12 =>
if x_12 = 0 then
fj_X4_race_26 p1 p2 m0
else
gd (okc m0 x_12 2) <| up m0 x_12 3 (-1) fun m_55 =>
fj_X4_race_26 p1 p2 m_55
set_option maxHeartbeats 4000000 in
theorem om_X4_race {xs : List Int32} {d : Nat} {S : QS} {m0 : MM} {p1 p2 : Int} {v0 : Value} {v1 : Value} {v2 : Value} {rz : Int} {rm : MM}
  (hd : 2 ≤ d) (R : Rp S m0) (f0 : q_is 2 v0 16) (f1 : q_is 2 v1 p1) (f2 : q_is 2 v2 p2)
  (h : fm_X4_race p1 p2 m0 = some (rz, rm)) : Mt xs d 50 [v0, v1, v2] S (Cr 9 m0 rm rz) := by
  obtain ⟨d, rfl⟩ : ∃ e, d = e + 1 := ⟨d - 1, by omega⟩
  have hd : 1 ≤ d := Nat.le_of_succ_le_succ hd
  refine Mt.of (M := qM_X4_race) rfl (by rw [sl_1 (q_is_cat f0 (Or.inr rfl)), sl_1 (q_is_cat f1 (Or.inr rfl)), sl_1 (q_is_cat f2 (Or.inr rfl)), sl_0]; decide) ?_
  rw [la_1 (q_is_cat f0 (Or.inr rfl)), la_1 (q_is_cat f1 (Or.inr rfl)), la_1 (q_is_cat f2 (Or.inr rfl)), la_0]
  obtain ⟨L, hL⟩ : ∃ L : QL, L = [(0, v0), (0 + 1, v1), (0 + 1 + 1, v2)] := ⟨_, rfl⟩
  rw [← hL]
  have l0 : q_lo L 0 = some v0 := by rw [hL]; rfl
  have l1 : q_lo L 1 = some v1 := by rw [hL]; rfl
  have l2 : q_lo L 2 = some v2 := by rw [hL]; rfl
  have hQ : Ext m0 rm → ∀ o S1, Rp S1 rm → q_out 9 o rz → (Cr 9 m0 rm rz) o S1 := fun a o S1 b e => ⟨b, a, e⟩
  unfold fm_X4_race at h
  refine go_aload_n (n := 2) (by decide +kernel) l2 f2 ?_
  refine go_ifnonnull (o := 4) (t := 5) (by decide +kernel) (by decide +kernel) f2 (fun hp_1 => ?_) (fun hp_1 => ?_)
  · have h := it_f hp_1 h
    refine go_aload_n (n := 0) (by decide +kernel) l0 f0 ?_
    refine go_getf (x := 10) (ci := 5) (kf := 0) (fin := 1) (t := 2) (by decide +kernel) (by decide +kernel) (by decide +kernel) R f0 (fx_k (c := 5) R (by decide +kernel)) fun v_2 f_3 => ?_
    have f_4 := q_is_eq (b := 17) f_3 (fx_v R (by decide +kernel)).symm
    refine go_aload_n (n := 1) (by decide +kernel) l1 f1 ?_
    obtain ⟨g_7, h⟩ := gd_s h
    obtain ⟨x_9, e_10, h⟩ := lx_s h
    refine go_getf (x := 289) (ci := 2) (kf := 3) (fin := 0) (t := 0) (by decide +kernel) (by decide +kernel) (by decide +kernel) R f1 g_7 fun v_5 f_6 => ?_
    have f_8 := q_is_eq f_6 e_10
    obtain ⟨x_12, hc_11, h⟩ := bp_s h
    refine go_callV (x := 286) (mi := 85) (n := 1) (ci := 9) (as := [v_5]) (rest := []) (by decide +kernel) (by decide +kernel) rfl rfl (q_sum8 _ (Nat.le_of_ble_eq_true rfl)) R f_4 (fx_k (c := 9) R (by decide +kernel)) (om_X8_find (Nat.le_trans (by decide) hd) R f_4 f_8 hc_11) (fun _ S_16 q_19 => ?_) (fun _ _ qq => kr_x qq)
    refine kr_z (by decide) q_19 fun v_14 f_15 R_17 E_18 => ?_
    refine go_astore_n (n := 3) (by decide +kernel) (by decide +kernel) f_15 fun L_20 l_21 kp_22 => ?_
    have l_23 := kp_22 1 _ l1 (by decide) (Or.inl (by decide))
    have l_24 := kp_22 2 _ l2 (by decide) (Or.inr (q_is_cat f2 (Or.inr rfl)))
    refine go_aload_n (n := 3) (by decide +kernel) l_21 f_15 ?_
    refine go_ifnull (o := 8) (t := 26) (by decide +kernel) (by decide +kernel) f_15 (fun hp_25 => ?_) (fun hp_25 => ?_)
    · have h := it_t hp_25 h
      exact oj_X4_race_26 hd R_17 l_23 f1 l_24 f2 hQ h
    · have h := it_f hp_25 h
      refine go_aload_n (n := 3) (by decide +kernel) l_21 f_15 ?_
      refine go_iconst (n := (-1)) (z := (-1)) (by decide +kernel) (by decide) fun v_52 f_53 => ?_
      obtain ⟨g_54, h⟩ := gd_s h
      obtain ⟨m_55, e_56, h⟩ := up_s h
      refine go_putf (x := 289) (ci := 2) (kf := 3) (fin := 0) (zt := 0) (by decide +kernel) (by decide +kernel) (by decide) (by decide +kernel) (by decide) (Or.inl rfl) R_17 f_15 f_53 (fun hq => absurd hq (by decide)) g_54 e_56 (fx_f (j := 3) R_17.2 g_54 (by decide +kernel)) fun S_57 R_58 E_59 => ?_
      have E_60 := E_59
      exact oj_X4_race_26 hd R_58 l_23 f1 l_24 f2 (fun b => hQ (Ext.tr E_60 b)) h
  · have h := it_n hp_1 h
    cases h
    exact go_vret (by decide +kernel) rfl (hQ (Ext.rf _) _ _ R q_out_n)
noncomputable def fl_X8_doom_7 : Nat → Int → MM → Option (Int × MM)
  | 0, _, _ => none
  | n + 1, y2, m => lx (m 17 5) fun x_19 =>
if y2 < x_19 then
if y2 < 12 then
gd (0 ≤ y2 ∧ y2 < 12) <| lx (m 19 y2) fun x_36 =>
gd (okc m x_36 2) <| lx (m x_36 2) fun x_42 =>
bp (fm_X8_find x_42 m) fun x_45 =>
if x_45 = 0 then
lx (w32 (y2 + 1)) fun x_64 =>
fl_X8_doom_7 n x_64 m
else
gd (okc m x_45 2) <| lx (m x_45 9) fun x_72 =>
if x_72 = 0 then
lx (w32 (y2 + 1)) fun x_80 =>
fl_X8_doom_7 n x_80 m
else
up m x_36 9 1 fun m_92 =>
lx (w32 (y2 + 1)) fun x_103 =>
fl_X8_doom_7 n x_103 m_92
else
some (0, m)
else
some (0, m)
set_option maxHeartbeats 4000000 in
theorem ol_X8_doom_7 {xs : List Int32} {d : Nat} {Q : QO → QS → Prop} {mb : MM} {rz : Int} {rm : MM}
  (hd : 1 ≤ d)
  (hQ : Ext mb rm → ∀ o S1, Rp S1 rm → q_out 9 o rz → Q o S1) :
  ∀ (n : Nat) {m : MM} {S : QS} {L : QL} {y2 : Int} {v0 : Value} {v2 : Value} , Ext mb m → fl_X8_doom_7 n y2 m = some (rz, rm) → Rp S m → q_lo L 0 = some v0 → q_is 2 v0 17 → q_lo L 2 = some v2 → q_is 0 v2 y2 → Go xs d qM_X8_doom 7 L [] S Q := by
  intro n
  induction n with
  | zero => intro m S L y2 v0 v2; intro E h R l0 f0 l2 f2; cases h
  | succ n ih0 =>
    intro m S L y2 v0 v2; intro E h R l0 f0 l2 f2
    have ih : ∀ mq : MM, Ext mb mq → ∀ {z2 : Int} {Sq : QS} {Lq : QL} {u0 : Value} {u2 : Value}, fl_X8_doom_7 n z2 mq = some (rz, rm) → Rp Sq mq → q_lo Lq 0 = some u0 → q_is 2 u0 17 → q_lo Lq 2 = some u2 → q_is 0 u2 z2 → Go xs d qM_X8_doom 7 Lq [] Sq Q := fun mq b => by intros; exact ih0 b ‹_› ‹_› ‹_› ‹_› ‹_› ‹_›
    unfold fl_X8_doom_7 at h
    refine go_iload_n (n := 2) (by decide +kernel) l2 f2 ?_
    refine go_aload_n (n := 0) (by decide +kernel) l0 f0 ?_
    obtain ⟨x_19, e_20, h⟩ := lx_s h
    refine go_getf (x := 36) (ci := 9) (kf := 5) (fin := 0) (t := 0) (by decide +kernel) (by decide +kernel) (by decide +kernel) R f0 (fx_k (c := 9) R (by decide +kernel)) fun v_16 f_17 => ?_
    have f_18 := q_is_eq f_17 e_20
    refine go_icmp (c := .ge) (o := 53) (t := 65) (P := ¬ (y2 < x_19)) (by decide +kernel) (by decide +kernel) f2 f_18 (Int.not_lt.symm) (fun hp_21 => ?_) (fun hp_21 => ?_)
    · have h := it_f hp_21 h
      cases h
      exact go_vret (by decide +kernel) rfl (hQ E _ _ R q_out_n)
    · have h := it_n hp_21 h
      refine go_iload_n (n := 2) (by decide +kernel) l2 f2 ?_
      refine go_aload_n (n := 0) (by decide +kernel) l0 f0 ?_
      refine go_getf (x := 17) (ci := 9) (kf := 1) (fin := 1) (t := 2) (by decide +kernel) (by decide +kernel) (by decide +kernel) R f0 (fx_k (c := 9) R (by decide +kernel)) fun v_22 f_23 => ?_
      have f_24 := q_is_eq (b := 19) f_23 (fx_v R (by decide +kernel)).symm
      refine go_alen (by decide +kernel) R f_24 (okl_of (fx_k (c := 103) R (by decide +kernel)) (by decide)) fun v_25 f_26 => ?_
      have f_27 := q_is_eq (b := 12) f_26 (by rw [fx_l R (ln := 12) (by decide +kernel)]; decide)
      refine go_icmp (c := .ge) (o := 44) (t := 65) (P := ¬ (y2 < 12)) (by decide +kernel) (by decide +kernel) f2 f_27 (Int.not_lt.symm) (fun hp_28 => ?_) (fun hp_28 => ?_)
      · have h := it_f hp_28 h
        cases h
        exact go_vret (by decide +kernel) rfl (hQ E _ _ R q_out_n)
      · have h := it_n hp_28 h
        refine go_aload_n (n := 0) (by decide +kernel) l0 f0 ?_
        refine go_aload_n (n := 0) (by decide +kernel) l0 f0 ?_
        refine go_getf (x := 17) (ci := 9) (kf := 1) (fin := 1) (t := 2) (by decide +kernel) (by decide +kernel) (by decide +kernel) R f0 (fx_k (c := 9) R (by decide +kernel)) fun v_29 f_30 => ?_
        have f_31 := q_is_eq (b := 19) f_30 (fx_v R (by decide +kernel)).symm
        refine go_iload_n (n := 2) (by decide +kernel) l2 f2 ?_
        obtain ⟨g_34, h⟩ := gd_s h
        obtain ⟨x_36, e_37, h⟩ := lx_s h
        refine go_aald (kd := 103) (by decide +kernel) (by decide) R f_31 f2 (fx_k (c := 103) R (by decide +kernel)) (fx_x (a := 19) (ln := 12) R (by decide +kernel) g_34) fun v_32 f_33 => ?_
        have f_35 := q_is_eq f_33 e_37
        obtain ⟨g_40, h⟩ := gd_s h
        obtain ⟨x_42, e_43, h⟩ := lx_s h
        refine go_getf (x := 101) (ci := 2) (kf := 2) (fin := 0) (t := 0) (by decide +kernel) (by decide +kernel) (by decide +kernel) R f_35 g_40 fun v_38 f_39 => ?_
        have f_41 := q_is_eq f_39 e_43
        obtain ⟨x_45, hc_44, h⟩ := bp_s h
        refine go_callV (x := 132) (mi := 85) (n := 1) (ci := 9) (as := [v_38]) (rest := []) (by decide +kernel) (by decide +kernel) rfl rfl (q_sum8 _ (Nat.le_of_ble_eq_true rfl)) R f0 (fx_k (c := 9) R (by decide +kernel)) (om_X8_find (Nat.le_trans (by decide) hd) R f0 f_41 hc_44) (fun _ S_49 q_52 => ?_) (fun _ _ qq => kr_x qq)
        refine kr_z (by decide) q_52 fun v_47 f_48 R_50 E_51 => ?_
        refine go_astore_n (n := 3) (by decide +kernel) (by decide +kernel) f_48 fun L_53 l_54 kp_55 => ?_
        have l_56 := kp_55 0 _ l0 (by decide) (Or.inl (by decide))
        have l_57 := kp_55 2 _ l2 (by decide) (Or.inr (q_is_cat f2 (Or.inl rfl)))
        refine go_aload_n (n := 3) (by decide +kernel) l_54 f_48 ?_
        refine go_ifnull (o := 20) (t := 59) (by decide +kernel) (by decide +kernel) f_48 (fun hp_58 => ?_) (fun hp_58 => ?_)
        · have h := it_t hp_58 h
          refine go_iinc (n := 2) (c := 1) (c' := 1) (by decide +kernel) (by decide +kernel) l_57 f2 (by decide) fun L_59 v_60 f_61 l_62 kp_63 => ?_
          obtain ⟨x_64, e_65, h⟩ := lx_s h
          have f_66 := q_is_eq f_61 e_65
          have l_67 := kp_63 0 _ l_56 (by decide) (Or.inl (by decide))
          refine go_goto (o := (-55)) (t := 7) (by decide +kernel) (by decide +kernel) ?_
          exact ih m E h R_50 l_67 f0 l_62 f_66
        · have h := it_f hp_58 h
          refine go_aload_n (n := 3) (by decide +kernel) l_54 f_48 ?_
          obtain ⟨g_70, h⟩ := gd_s h
          obtain ⟨x_72, e_73, h⟩ := lx_s h
          refine go_getf (x := 129) (ci := 2) (kf := 9) (fin := 0) (t := 0) (by decide +kernel) (by decide +kernel) (by decide +kernel) R_50 f_48 g_70 fun v_68 f_69 => ?_
          have f_71 := q_is_eq f_69 e_73
          refine go_if (c := .eq) (o := 13) (t := 59) (P := x_72 = 0) (by decide +kernel) (by decide +kernel) f_71 (Iff.rfl) (fun hp_74 => ?_) (fun hp_74 => ?_)
          · have h := it_t hp_74 h
            refine go_iinc (n := 2) (c := 1) (c' := 1) (by decide +kernel) (by decide +kernel) l_57 f2 (by decide) fun L_75 v_76 f_77 l_78 kp_79 => ?_
            obtain ⟨x_80, e_81, h⟩ := lx_s h
            have f_82 := q_is_eq f_77 e_81
            have l_83 := kp_79 0 _ l_56 (by decide) (Or.inl (by decide))
            refine go_goto (o := (-55)) (t := 7) (by decide +kernel) (by decide +kernel) ?_
            exact ih m E h R_50 l_83 f0 l_78 f_82
          · have h := it_f hp_74 h
            refine go_aload_n (n := 0) (by decide +kernel) l_56 f0 ?_
            refine go_getf (x := 17) (ci := 9) (kf := 1) (fin := 1) (t := 2) (by decide +kernel) (by decide +kernel) (by decide +kernel) R_50 f0 (fx_k (c := 9) R_50 (by decide +kernel)) fun v_84 f_85 => ?_
            have f_86 := q_is_eq (b := 19) f_85 (fx_v R_50 (by decide +kernel)).symm
            refine go_iload_n (n := 2) (by decide +kernel) l_57 f2 ?_
            refine go_aald (kd := 103) (by decide +kernel) (by decide) R_50 f_86 f2 (fx_k (c := 103) R_50 (by decide +kernel)) (fx_x (a := 19) (ln := 12) R_50 (by decide +kernel) g_34) fun v_87 f_88 => ?_
            have f_89 := q_is_eq f_88 e_37
            refine go_iconst (n := 1) (z := 1) (by decide +kernel) (by decide) fun v_90 f_91 => ?_
            obtain ⟨m_92, e_93, h⟩ := up_s h
            refine go_putf (x := 129) (ci := 2) (kf := 9) (fin := 0) (zt := 1) (by decide +kernel) (by decide +kernel) (by decide) (by decide +kernel) (by decide) (Or.inl rfl) R_50 f_89 f_91 (fun _ => by decide) g_40 e_93 (fx_f (j := 9) R_50.2 g_40 (by decide +kernel)) fun S_94 R_95 E_96 => ?_
            have E_97 := Ext.tr E E_96
            refine go_iinc (n := 2) (c := 1) (c' := 1) (by decide +kernel) (by decide +kernel) l_57 f2 (by decide) fun L_98 v_99 f_100 l_101 kp_102 => ?_
            obtain ⟨x_103, e_104, h⟩ := lx_s h
            have f_105 := q_is_eq f_100 e_104
            have l_106 := kp_102 0 _ l_56 (by decide) (Or.inl (by decide))
            refine go_goto (o := (-55)) (t := 7) (by decide +kernel) (by decide +kernel) ?_
            exact ih m_92 E_97 h R_95 l_106 f0 l_101 f_105
noncomputable def fm_X8_doom (p1 : Int) (m0 : MM) : Option (Int × MM) := gd (okc m0 p1 2) <| up m0 p1 9 1 fun m_4 =>
fl_X8_doom_7   BIG 0 m_4
set_option maxHeartbeats 4000000 in
theorem om_X8_doom {xs : List Int32} {d : Nat} {S : QS} {m0 : MM} {p1 : Int} {v0 : Value} {v1 : Value} {rz : Int} {rm : MM}
  (hd : 2 ≤ d) (R : Rp S m0) (f0 : q_is 2 v0 17) (f1 : q_is 2 v1 p1)
  (h : fm_X8_doom p1 m0 = some (rz, rm)) : Mt xs d 93 [v0, v1] S (Cr 9 m0 rm rz) := by
  obtain ⟨d, rfl⟩ : ∃ e, d = e + 1 := ⟨d - 1, by omega⟩
  have hd : 1 ≤ d := Nat.le_of_succ_le_succ hd
  refine Mt.of (M := qM_X8_doom) rfl (by rw [sl_1 (q_is_cat f0 (Or.inr rfl)), sl_1 (q_is_cat f1 (Or.inr rfl)), sl_0]; decide) ?_
  rw [la_1 (q_is_cat f0 (Or.inr rfl)), la_1 (q_is_cat f1 (Or.inr rfl)), la_0]
  obtain ⟨L, hL⟩ : ∃ L : QL, L = [(0, v0), (0 + 1, v1)] := ⟨_, rfl⟩
  rw [← hL]
  have l0 : q_lo L 0 = some v0 := by rw [hL]; rfl
  have l1 : q_lo L 1 = some v1 := by rw [hL]; rfl
  have hQ : Ext m0 rm → ∀ o S1, Rp S1 rm → q_out 9 o rz → (Cr 9 m0 rm rz) o S1 := fun a o S1 b e => ⟨b, a, e⟩
  unfold fm_X8_doom at h
  refine go_aload_n (n := 1) (by decide +kernel) l1 f1 ?_
  refine go_iconst (n := 1) (z := 1) (by decide +kernel) (by decide) fun v_1 f_2 => ?_
  obtain ⟨g_3, h⟩ := gd_s h
  obtain ⟨m_4, e_5, h⟩ := up_s h
  refine go_putf (x := 129) (ci := 2) (kf := 9) (fin := 0) (zt := 1) (by decide +kernel) (by decide +kernel) (by decide) (by decide +kernel) (by decide) (Or.inl rfl) R f1 f_2 (fun _ => by decide) g_3 e_5 (fx_f (j := 9) R.2 g_3 (by decide +kernel)) fun S_6 R_7 E_8 => ?_
  have E_9 := E_8
  refine go_iconst (n := 0) (z := 0) (by decide +kernel) (by decide) fun v_10 f_11 => ?_
  refine go_istore_n (n := 2) (by decide +kernel) (by decide +kernel) f_11 fun L_12 l_13 kp_14 => ?_
  have l_15 := kp_14 0 _ l0 (by decide) (Or.inl (by decide))
  refine ol_X8_doom_7 hd   (fun b => hQ (Ext.tr E_9 b)) BIG (Ext.rf _) h R_7 l_15 f0 l_13 f_11
noncomputable def fj_X4_win_70 (y1 y2 : Int) (m : MM) : Option (Int × MM) := gd (okc m y1 2) <| lx (m y1 4) fun x_69 =>
gd (okc m y2 2) <| bd (fm_X1_goOnAt y2 x_69 m) fun x_73 m_74 =>
bd (fm_X8_doom y1 m_74) fun x_86 m_87 =>
some (0, m_87)
set_option maxHeartbeats 4000000 in
theorem oj_X4_win_70 {xs : List Int32} {d : Nat} {S : QS} {L : QL} {Q : QO → QS → Prop} {m : MM} {y1 y2 : Int} {v0 : Value} {v1 : Value} {v2 : Value}  {rz : Int} {rm : MM}
  (hd : 3 ≤ d) (R : Rp S m) (l0 : q_lo L 0 = some v0) (f0 : q_is 2 v0 16) (l1 : q_lo L 1 = some v1) (f1 : q_is 2 v1 y1) (l2 : q_lo L 2 = some v2) (f2 : q_is 2 v2 y2)
  (hQ : Ext m rm → ∀ o S1, Rp S1 rm → q_out 9 o rz → Q o S1)
  (h : fj_X4_win_70 y1 y2 m = some (rz, rm)) : Go xs d qM_X4_win 70 L [] S Q := by
  unfold fj_X4_win_70 at h
  refine go_aload_n (n := 2) (by decide +kernel) l2 f2 ?_
  refine go_aload_n (n := 1) (by decide +kernel) l1 f1 ?_
  obtain ⟨g_67, h⟩ := gd_s h
  obtain ⟨x_69, e_70, h⟩ := lx_s h
  refine go_getf (x := 168) (ci := 2) (kf := 4) (fin := 0) (t := 0) (by decide +kernel) (by decide +kernel) (by decide +kernel) R f1 g_67 fun v_65 f_66 => ?_
  have f_68 := q_is_eq f_66 e_70
  obtain ⟨g_71, h⟩ := gd_s h
  obtain ⟨x_73, m_74, hc_72, h⟩ := bd_s h
  refine go_callV (x := 171) (mi := 5) (n := 1) (ci := 2) (as := [v_65]) (rest := []) (by decide +kernel) (by decide +kernel) rfl rfl (q_sum8 _ (Nat.le_of_ble_eq_true rfl)) R f2 g_71 (om_X1_goOnAt (Nat.le_trans (by decide) hd) R g_71 f2 f_68 hc_72) (fun _ S_77 q_80 => ?_) (fun _ _ qq => kr_x qq)
  refine kr_v q_80 fun R_78 E_79 => ?_
  have E_81 := E_79
  refine go_aload_n (n := 0) (by decide +kernel) l0 f0 ?_
  refine go_getf (x := 10) (ci := 5) (kf := 0) (fin := 1) (t := 2) (by decide +kernel) (by decide +kernel) (by decide +kernel) R_78 f0 (fx_k (c := 5) R_78 (by decide +kernel)) fun v_82 f_83 => ?_
  have f_84 := q_is_eq (b := 17) f_83 (fx_v R_78 (by decide +kernel)).symm
  refine go_aload_n (n := 1) (by decide +kernel) l1 f1 ?_
  obtain ⟨x_86, m_87, hc_85, h⟩ := bd_s h
  refine go_callV (x := 295) (mi := 93) (n := 1) (ci := 9) (as := [v1]) (rest := []) (by decide +kernel) (by decide +kernel) rfl rfl (q_sum8 _ (Nat.le_of_ble_eq_true rfl)) R_78 f_84 (fx_k (c := 9) R_78 (by decide +kernel)) (om_X8_doom (Nat.le_trans (by decide) hd) R_78 f_84 f1 hc_85) (fun _ S_90 q_93 => ?_) (fun _ _ qq => kr_x qq)
  refine kr_v q_93 fun R_91 E_92 => ?_
  have E_94 := Ext.tr E_81 E_92
  cases h
  exact go_vret (by decide +kernel) rfl (hQ E_94 _ _ R_91 q_out_n)
noncomputable def fm_X4_win (p1 : Int) (m0 : MM) : Option (Int × MM) := gd (okc m0 p1 2) <| lx (m0 p1 3) fun x_8 =>
bp (fm_X8_find x_8 m0) fun x_11 =>
if x_11 = 0 then
some (0, m0)
else
up m0 p1 3 (-1) fun m_27 =>
gd (okc m_27 x_11 2) <| up m_27 x_11 3 (-1) fun m_36 =>
lx (m_36 x_11 0) fun x_46 =>
lx (m_36 p1 1) fun x_52 =>
if x_46 = x_52 then
bp (fm_X1_waitsForEvent x_11 m_36) fun x_56 =>
if x_56 = 0 then
fj_X4_win_70 p1 x_11 m_36
else
lx (m_36 x_11 8) fun x_100 =>
bd (fm_X4_command 11 x_100 0 m_36) fun x_105 m_106 =>
if x_105 < 0 then
some (0, m_106)
else
fj_X4_win_70 p1 x_11 m_106
else
bd (fm_X8_doom x_11 m_36) fun x_119 m_120 =>
some (0, m_120)
set_option maxHeartbeats 4000000 in
theorem om_X4_win {xs : List Int32} {d : Nat} {S : QS} {m0 : MM} {p1 : Int} {v0 : Value} {v1 : Value} {rz : Int} {rm : MM}
  (hd : 4 ≤ d) (R : Rp S m0) (f0 : q_is 2 v0 16) (f1 : q_is 2 v1 p1)
  (h : fm_X4_win p1 m0 = some (rz, rm)) : Mt xs d 51 [v0, v1] S (Cr 9 m0 rm rz) := by
  obtain ⟨d, rfl⟩ : ∃ e, d = e + 1 := ⟨d - 1, by omega⟩
  have hd : 3 ≤ d := Nat.le_of_succ_le_succ hd
  refine Mt.of (M := qM_X4_win) rfl (by rw [sl_1 (q_is_cat f0 (Or.inr rfl)), sl_1 (q_is_cat f1 (Or.inr rfl)), sl_0]; decide) ?_
  rw [la_1 (q_is_cat f0 (Or.inr rfl)), la_1 (q_is_cat f1 (Or.inr rfl)), la_0]
  obtain ⟨L, hL⟩ : ∃ L : QL, L = [(0, v0), (0 + 1, v1)] := ⟨_, rfl⟩
  rw [← hL]
  have l0 : q_lo L 0 = some v0 := by rw [hL]; rfl
  have l1 : q_lo L 1 = some v1 := by rw [hL]; rfl
  have hQ : Ext m0 rm → ∀ o S1, Rp S1 rm → q_out 9 o rz → (Cr 9 m0 rm rz) o S1 := fun a o S1 b e => ⟨b, a, e⟩
  unfold fm_X4_win at h
  refine go_aload_n (n := 0) (by decide +kernel) l0 f0 ?_
  refine go_getf (x := 10) (ci := 5) (kf := 0) (fin := 1) (t := 2) (by decide +kernel) (by decide +kernel) (by decide +kernel) R f0 (fx_k (c := 5) R (by decide +kernel)) fun v_1 f_2 => ?_
  have f_3 := q_is_eq (b := 17) f_2 (fx_v R (by decide +kernel)).symm
  refine go_aload_n (n := 1) (by decide +kernel) l1 f1 ?_
  obtain ⟨g_6, h⟩ := gd_s h
  obtain ⟨x_8, e_9, h⟩ := lx_s h
  refine go_getf (x := 289) (ci := 2) (kf := 3) (fin := 0) (t := 0) (by decide +kernel) (by decide +kernel) (by decide +kernel) R f1 g_6 fun v_4 f_5 => ?_
  have f_7 := q_is_eq f_5 e_9
  obtain ⟨x_11, hc_10, h⟩ := bp_s h
  refine go_callV (x := 286) (mi := 85) (n := 1) (ci := 9) (as := [v_4]) (rest := []) (by decide +kernel) (by decide +kernel) rfl rfl (q_sum8 _ (Nat.le_of_ble_eq_true rfl)) R f_3 (fx_k (c := 9) R (by decide +kernel)) (om_X8_find (Nat.le_trans (by decide) hd) R f_3 f_7 hc_10) (fun _ S_15 q_18 => ?_) (fun _ _ qq => kr_x qq)
  refine kr_z (by decide) q_18 fun v_13 f_14 R_16 E_17 => ?_
  refine go_astore_n (n := 2) (by decide +kernel) (by decide +kernel) f_14 fun L_19 l_20 kp_21 => ?_
  have l_22 := kp_21 0 _ l0 (by decide) (Or.inl (by decide))
  have l_23 := kp_21 1 _ l1 (by decide) (Or.inr (q_is_cat f1 (Or.inr rfl)))
  refine go_aload_n (n := 2) (by decide +kernel) l_20 f_14 ?_
  refine go_ifnonnull (o := 4) (t := 17) (by decide +kernel) (by decide +kernel) f_14 (fun hp_24 => ?_) (fun hp_24 => ?_)
  · have h := it_f hp_24 h
    refine go_aload_n (n := 1) (by decide +kernel) l_23 f1 ?_
    refine go_iconst (n := (-1)) (z := (-1)) (by decide +kernel) (by decide) fun v_25 f_26 => ?_
    obtain ⟨m_27, e_28, h⟩ := up_s h
    refine go_putf (x := 289) (ci := 2) (kf := 3) (fin := 0) (zt := 0) (by decide +kernel) (by decide +kernel) (by decide) (by decide +kernel) (by decide) (Or.inl rfl) R_16 f1 f_26 (fun hq => absurd hq (by decide)) g_6 e_28 (fx_f (j := 3) R_16.2 g_6 (by decide +kernel)) fun S_29 R_30 E_31 => ?_
    have E_32 := E_31
    refine go_aload_n (n := 2) (by decide +kernel) l_20 f_14 ?_
    refine go_iconst (n := (-1)) (z := (-1)) (by decide +kernel) (by decide) fun v_33 f_34 => ?_
    obtain ⟨g_35, h⟩ := gd_s h
    obtain ⟨m_36, e_37, h⟩ := up_s h
    refine go_putf (x := 289) (ci := 2) (kf := 3) (fin := 0) (zt := 0) (by decide +kernel) (by decide +kernel) (by decide) (by decide +kernel) (by decide) (Or.inl rfl) R_30 f_14 f_34 (fun hq => absurd hq (by decide)) g_35 e_37 (fx_f (j := 3) R_30.2 g_35 (by decide +kernel)) fun S_38 R_39 E_40 => ?_
    have E_41 := Ext.tr E_32 E_40
    refine go_aload_n (n := 2) (by decide +kernel) l_20 f_14 ?_
    have g_44 := Ext.ok E_40 g_35
    obtain ⟨x_46, e_47, h⟩ := lx_s h
    refine go_getf (x := 211) (ci := 2) (kf := 0) (fin := 0) (t := 0) (by decide +kernel) (by decide +kernel) (by decide +kernel) R_39 f_14 g_44 fun v_42 f_43 => ?_
    have f_45 := q_is_eq f_43 e_47
    refine go_aload_n (n := 1) (by decide +kernel) l_23 f1 ?_
    have g_50 := Ext.ok (Ext.tr E_31 E_40) g_6
    obtain ⟨x_52, e_53, h⟩ := lx_s h
    refine go_getf (x := 292) (ci := 2) (kf := 1) (fin := 0) (t := 0) (by decide +kernel) (by decide +kernel) (by decide +kernel) R_39 f1 g_50 fun v_48 f_49 => ?_
    have f_51 := q_is_eq f_49 e_53
    refine go_icmp (c := .eq) (o := 14) (t := 49) (P := x_46 = x_52) (by decide +kernel) (by decide +kernel) f_45 f_51 (Iff.rfl) (fun hp_54 => ?_) (fun hp_54 => ?_)
    · have h := it_t hp_54 h
      refine go_aload_n (n := 2) (by decide +kernel) l_20 f_14 ?_
      obtain ⟨x_56, hc_55, h⟩ := bp_s h
      refine go_callV (x := 192) (mi := 7) (n := 0) (ci := 2) (as := []) (rest := []) (by decide +kernel) (by decide +kernel) rfl rfl (q_sum8 _ (Nat.le_of_ble_eq_true rfl)) R_39 f_14 g_44 (om_X1_waitsForEvent (Nat.le_trans (by decide) hd) R_39 g_44 f_14 hc_55) (fun _ S_60 q_63 => ?_) (fun _ _ qq => kr_x qq)
      refine kr_z (by decide) q_63 fun v_58 f_59 R_61 E_62 => ?_
      refine go_if (c := .eq) (o := 17) (t := 70) (P := x_56 = 0) (by decide +kernel) (by decide +kernel) f_59 (Iff.rfl) (fun hp_64 => ?_) (fun hp_64 => ?_)
      · have h := it_t hp_64 h
        exact oj_X4_win_70 hd R_61 l_22 f0 l_23 f1 l_20 f_14 (fun b => hQ (Ext.tr E_41 b)) h
      · have h := it_f hp_64 h
        refine go_aload_n (n := 0) (by decide +kernel) l_22 f0 ?_
        refine go_bipush (n := 11) (z := 11) (by decide +kernel) (by decide) fun v_95 f_96 => ?_
        refine go_aload_n (n := 2) (by decide +kernel) l_20 f_14 ?_
        obtain ⟨x_100, e_101, h⟩ := lx_s h
        refine go_getf (x := 195) (ci := 2) (kf := 8) (fin := 0) (t := 0) (by decide +kernel) (by decide +kernel) (by decide +kernel) R_61 f_14 g_44 fun v_97 f_98 => ?_
        have f_99 := q_is_eq f_98 e_101
        refine go_iconst (n := 0) (z := 0) (by decide +kernel) (by decide) fun v_102 f_103 => ?_
        obtain ⟨x_105, m_106, hc_104, h⟩ := bd_s h
        refine go_callV (x := 198) (mi := 44) (n := 3) (ci := 5) (as := [v_95, v_97, v_102]) (rest := []) (by decide +kernel) (by decide +kernel) rfl rfl (q_sum8 _ (Nat.le_of_ble_eq_true rfl)) R_61 f0 (fx_k (c := 5) R_61 (by decide +kernel)) (om_X4_command (Nat.le_trans (by decide) hd) R_61 f0 f_96 f_99 f_103 hc_104) (fun _ S_109 q_112 => ?_) (fun _ _ qq => kr_x qq)
        refine kr_z (by decide) q_112 fun v_107 f_108 R_110 E_111 => ?_
        have E_113 := Ext.tr E_41 E_111
        refine go_if (c := .lt) (o := 19) (t := 86) (P := x_105 < 0) (by decide +kernel) (by decide +kernel) f_108 (Iff.rfl) (fun hp_114 => ?_) (fun hp_114 => ?_)
        · have h := it_t hp_114 h
          cases h
          exact go_vret (by decide +kernel) rfl (hQ E_113 _ _ R_110 q_out_n)
        · have h := it_f hp_114 h
          exact oj_X4_win_70 hd R_110 l_22 f0 l_23 f1 l_20 f_14 (fun b => hQ (Ext.tr E_113 b)) h
    · have h := it_f hp_54 h
      refine go_aload_n (n := 0) (by decide +kernel) l_22 f0 ?_
      refine go_getf (x := 10) (ci := 5) (kf := 0) (fin := 1) (t := 2) (by decide +kernel) (by decide +kernel) (by decide +kernel) R_39 f0 (fx_k (c := 5) R_39 (by decide +kernel)) fun v_115 f_116 => ?_
      have f_117 := q_is_eq (b := 17) f_116 (fx_v R_39 (by decide +kernel)).symm
      refine go_aload_n (n := 2) (by decide +kernel) l_20 f_14 ?_
      obtain ⟨x_119, m_120, hc_118, h⟩ := bd_s h
      refine go_callV (x := 295) (mi := 93) (n := 1) (ci := 9) (as := [v_13]) (rest := []) (by decide +kernel) (by decide +kernel) rfl rfl (q_sum8 _ (Nat.le_of_ble_eq_true rfl)) R_39 f_117 (fx_k (c := 9) R_39 (by decide +kernel)) (om_X8_doom (Nat.le_trans (by decide) hd) R_39 f_117 f_14 hc_118) (fun _ S_123 q_126 => ?_) (fun _ _ qq => kr_x qq)
      refine kr_v q_126 fun R_124 E_125 => ?_
      have E_127 := Ext.tr E_41 E_125
      refine go_goto (o := 40) (t := 86) (by decide +kernel) (by decide +kernel) ?_
      cases h
      exact go_vret (by decide +kernel) rfl (hQ E_127 _ _ R_124 q_out_n)
  · have h := it_n hp_24 h
    cases h
    exact go_vret (by decide +kernel) rfl (hQ (Ext.rf _) _ _ R_16 q_out_n)
noncomputable def fl_X4_dropDoomed_2 (k65 : MM → Option (Int × MM)) : Nat → Int → MM → Option (Int × MM)
  | 0, _, _ => none
  | n + 1, y1, m => lx (m 17 5) fun x_13 =>
if y1 < x_13 then
bp (fm_X4_goes m) fun x_17 =>
if x_17 = 0 then
k65 m
else
bp (fm_X8_branchAt y1 m) fun x_30 =>
if x_30 = 0 then
lx (w32 (y1 + 1)) fun x_49 =>
fl_X4_dropDoomed_2 k65 n x_49 m
else
gd (okc m x_30 2) <| lx (m x_30 9) fun x_57 =>
if x_57 = 0 then
lx (w32 (y1 + 1)) fun x_65 =>
fl_X4_dropDoomed_2 k65 n x_65 m
else
bp (fm_X1_waitsForEvent x_30 m) fun x_70 =>
if x_70 = 0 then
lx (w32 (y1 + 1)) fun x_84 =>
fl_X4_dropDoomed_2 k65 n x_84 m
else
lx (m x_30 8) fun x_93 =>
bd (fm_X4_command 11 x_93 0 m) fun x_98 m_99 =>
lx (w32 (y1 + 1)) fun x_112 =>
fl_X4_dropDoomed_2 k65 n x_112 m_99
else
k65 m
set_option maxHeartbeats 4000000 in
theorem ol_X4_dropDoomed_2 {xs : List Int32} {d : Nat} {Q : QO → QS → Prop} {mb : MM} {k65 : MM → Option (Int × MM)} {rz : Int} {rm : MM}
  (hd : 3 ≤ d)
  (hk65 : ∀ mq : MM, Ext mb mq → ∀ {Sq : QS} {Lq : QL} {u0 : Value}, k65 mq = some (rz, rm) → Rp Sq mq → q_lo Lq 0 = some u0 → q_is 2 u0 16 → Go xs d qM_X4_dropDoomed 65 Lq [] Sq Q)
  (hQ : Ext mb rm → ∀ o S1, Rp S1 rm → q_out 9 o rz → Q o S1) :
  ∀ (n : Nat) {m : MM} {S : QS} {L : QL} {y1 : Int} {v0 : Value} {v1 : Value} , Ext mb m → fl_X4_dropDoomed_2 k65 n y1 m = some (rz, rm) → Rp S m → q_lo L 0 = some v0 → q_is 2 v0 16 → q_lo L 1 = some v1 → q_is 0 v1 y1 → Go xs d qM_X4_dropDoomed 2 L [] S Q := by
  intro n
  induction n with
  | zero => intro m S L y1 v0 v1; intro E h R l0 f0 l1 f1; cases h
  | succ n ih0 =>
    intro m S L y1 v0 v1; intro E h R l0 f0 l1 f1
    have ih : ∀ mq : MM, Ext mb mq → ∀ {z1 : Int} {Sq : QS} {Lq : QL} {u0 : Value} {u1 : Value}, fl_X4_dropDoomed_2 k65 n z1 mq = some (rz, rm) → Rp Sq mq → q_lo Lq 0 = some u0 → q_is 2 u0 16 → q_lo Lq 1 = some u1 → q_is 0 u1 z1 → Go xs d qM_X4_dropDoomed 2 Lq [] Sq Q := fun mq b => by intros; exact ih0 b ‹_› ‹_› ‹_› ‹_› ‹_› ‹_›
    unfold fl_X4_dropDoomed_2 at h
    refine go_iload_n (n := 1) (by decide +kernel) l1 f1 ?_
    refine go_aload_n (n := 0) (by decide +kernel) l0 f0 ?_
    refine go_getf (x := 10) (ci := 5) (kf := 0) (fin := 1) (t := 2) (by decide +kernel) (by decide +kernel) (by decide +kernel) R f0 (fx_k (c := 5) R (by decide +kernel)) fun v_7 f_8 => ?_
    have f_9 := q_is_eq (b := 17) f_8 (fx_v R (by decide +kernel)).symm
    obtain ⟨x_13, e_14, h⟩ := lx_s h
    refine go_getf (x := 180) (ci := 9) (kf := 5) (fin := 0) (t := 0) (by decide +kernel) (by decide +kernel) (by decide +kernel) R f_9 (fx_k (c := 9) R (by decide +kernel)) fun v_10 f_11 => ?_
    have f_12 := q_is_eq f_11 e_14
    refine go_icmp (c := .ge) (o := 55) (t := 65) (P := ¬ (y1 < x_13)) (by decide +kernel) (by decide +kernel) f1 f_12 (Int.not_lt.symm) (fun hp_15 => ?_) (fun hp_15 => ?_)
    · have h := it_f hp_15 h
      exact hk65 m E h R l0 f0
    · have h := it_n hp_15 h
      refine go_aload_n (n := 0) (by decide +kernel) l0 f0 ?_
      obtain ⟨x_17, hc_16, h⟩ := bp_s h
      refine go_callV (x := 69) (mi := 33) (n := 0) (ci := 5) (as := []) (rest := []) (by decide +kernel) (by decide +kernel) rfl rfl (q_sum8 _ (Nat.le_of_ble_eq_true rfl)) R f0 (fx_k (c := 5) R (by decide +kernel)) (om_X4_goes (Nat.le_trans (by decide) hd) R f0 hc_16) (fun _ S_21 q_24 => ?_) (fun _ _ qq => kr_x qq)
      refine kr_z (by decide) q_24 fun v_19 f_20 R_22 E_23 => ?_
      refine go_if (c := .eq) (o := 48) (t := 65) (P := x_17 = 0) (by decide +kernel) (by decide +kernel) f_20 (Iff.rfl) (fun hp_25 => ?_) (fun hp_25 => ?_)
      · have h := it_t hp_25 h
        exact hk65 m E h R_22 l0 f0
      · have h := it_f hp_25 h
        refine go_aload_n (n := 0) (by decide +kernel) l0 f0 ?_
        refine go_getf (x := 10) (ci := 5) (kf := 0) (fin := 1) (t := 2) (by decide +kernel) (by decide +kernel) (by decide +kernel) R_22 f0 (fx_k (c := 5) R_22 (by decide +kernel)) fun v_26 f_27 => ?_
        have f_28 := q_is_eq (b := 17) f_27 (fx_v R_22 (by decide +kernel)).symm
        refine go_iload_n (n := 1) (by decide +kernel) l1 f1 ?_
        obtain ⟨x_30, hc_29, h⟩ := bp_s h
        refine go_callV (x := 183) (mi := 84) (n := 1) (ci := 9) (as := [v1]) (rest := []) (by decide +kernel) (by decide +kernel) rfl rfl (q_sum8 _ (Nat.le_of_ble_eq_true rfl)) R_22 f_28 (fx_k (c := 9) R_22 (by decide +kernel)) (om_X8_branchAt (Nat.le_trans (by decide) hd) R_22 f_28 f1 hc_29) (fun _ S_34 q_37 => ?_) (fun _ _ qq => kr_x qq)
        refine kr_z (by decide) q_37 fun v_32 f_33 R_35 E_36 => ?_
        refine go_astore_n (n := 2) (by decide +kernel) (by decide +kernel) f_33 fun L_38 l_39 kp_40 => ?_
        have l_41 := kp_40 0 _ l0 (by decide) (Or.inl (by decide))
        have l_42 := kp_40 1 _ l1 (by decide) (Or.inr (q_is_cat f1 (Or.inl rfl)))
        refine go_aload_n (n := 2) (by decide +kernel) l_39 f_33 ?_
        refine go_ifnull (o := 29) (t := 59) (by decide +kernel) (by decide +kernel) f_33 (fun hp_43 => ?_) (fun hp_43 => ?_)
        · have h := it_t hp_43 h
          refine go_iinc (n := 1) (c := 1) (c' := 1) (by decide +kernel) (by decide +kernel) l_42 f1 (by decide) fun L_44 v_45 f_46 l_47 kp_48 => ?_
          obtain ⟨x_49, e_50, h⟩ := lx_s h
          have f_51 := q_is_eq f_46 e_50
          have l_52 := kp_48 0 _ l_41 (by decide) (Or.inr (q_is_cat f0 (Or.inr rfl)))
          refine go_goto (o := (-60)) (t := 2) (by decide +kernel) (by decide +kernel) ?_
          exact ih m E h R_35 l_52 f0 l_47 f_51
        · have h := it_f hp_43 h
          refine go_aload_n (n := 2) (by decide +kernel) l_39 f_33 ?_
          obtain ⟨g_55, h⟩ := gd_s h
          obtain ⟨x_57, e_58, h⟩ := lx_s h
          refine go_getf (x := 298) (ci := 2) (kf := 9) (fin := 0) (t := 0) (by decide +kernel) (by decide +kernel) (by decide +kernel) R_35 f_33 g_55 fun v_53 f_54 => ?_
          have f_56 := q_is_eq f_54 e_58
          refine go_if (c := .eq) (o := 22) (t := 59) (P := x_57 = 0) (by decide +kernel) (by decide +kernel) f_56 (Iff.rfl) (fun hp_59 => ?_) (fun hp_59 => ?_)
          · have h := it_t hp_59 h
            refine go_iinc (n := 1) (c := 1) (c' := 1) (by decide +kernel) (by decide +kernel) l_42 f1 (by decide) fun L_60 v_61 f_62 l_63 kp_64 => ?_
            obtain ⟨x_65, e_66, h⟩ := lx_s h
            have f_67 := q_is_eq f_62 e_66
            have l_68 := kp_64 0 _ l_41 (by decide) (Or.inr (q_is_cat f0 (Or.inr rfl)))
            refine go_goto (o := (-60)) (t := 2) (by decide +kernel) (by decide +kernel) ?_
            exact ih m E h R_35 l_68 f0 l_63 f_67
          · have h := it_f hp_59 h
            refine go_aload_n (n := 2) (by decide +kernel) l_39 f_33 ?_
            obtain ⟨x_70, hc_69, h⟩ := bp_s h
            refine go_callV (x := 192) (mi := 7) (n := 0) (ci := 2) (as := []) (rest := []) (by decide +kernel) (by decide +kernel) rfl rfl (q_sum8 _ (Nat.le_of_ble_eq_true rfl)) R_35 f_33 g_55 (om_X1_waitsForEvent (Nat.le_trans (by decide) hd) R_35 g_55 f_33 hc_69) (fun _ S_74 q_77 => ?_) (fun _ _ qq => kr_x qq)
            refine kr_z (by decide) q_77 fun v_72 f_73 R_75 E_76 => ?_
            refine go_if (c := .eq) (o := 15) (t := 59) (P := x_70 = 0) (by decide +kernel) (by decide +kernel) f_73 (Iff.rfl) (fun hp_78 => ?_) (fun hp_78 => ?_)
            · have h := it_t hp_78 h
              refine go_iinc (n := 1) (c := 1) (c' := 1) (by decide +kernel) (by decide +kernel) l_42 f1 (by decide) fun L_79 v_80 f_81 l_82 kp_83 => ?_
              obtain ⟨x_84, e_85, h⟩ := lx_s h
              have f_86 := q_is_eq f_81 e_85
              have l_87 := kp_83 0 _ l_41 (by decide) (Or.inr (q_is_cat f0 (Or.inr rfl)))
              refine go_goto (o := (-60)) (t := 2) (by decide +kernel) (by decide +kernel) ?_
              exact ih m E h R_75 l_87 f0 l_82 f_86
            · have h := it_f hp_78 h
              refine go_aload_n (n := 0) (by decide +kernel) l_41 f0 ?_
              refine go_bipush (n := 11) (z := 11) (by decide +kernel) (by decide) fun v_88 f_89 => ?_
              refine go_aload_n (n := 2) (by decide +kernel) l_39 f_33 ?_
              obtain ⟨x_93, e_94, h⟩ := lx_s h
              refine go_getf (x := 195) (ci := 2) (kf := 8) (fin := 0) (t := 0) (by decide +kernel) (by decide +kernel) (by decide +kernel) R_75 f_33 g_55 fun v_90 f_91 => ?_
              have f_92 := q_is_eq f_91 e_94
              refine go_iconst (n := 0) (z := 0) (by decide +kernel) (by decide) fun v_95 f_96 => ?_
              obtain ⟨x_98, m_99, hc_97, h⟩ := bd_s h
              refine go_callV (x := 198) (mi := 44) (n := 3) (ci := 5) (as := [v_88, v_90, v_95]) (rest := []) (by decide +kernel) (by decide +kernel) rfl rfl (q_sum8 _ (Nat.le_of_ble_eq_true rfl)) R_75 f0 (fx_k (c := 5) R_75 (by decide +kernel)) (om_X4_command (Nat.le_trans (by decide) hd) R_75 f0 f_89 f_92 f_96 hc_97) (fun _ S_102 q_105 => ?_) (fun _ _ qq => kr_x qq)
              refine kr_z (by decide) q_105 fun v_100 f_101 R_103 E_104 => ?_
              have E_106 := Ext.tr E E_104
              refine go_pop (by decide +kernel) f_101 (Or.inl rfl) ?_
              refine go_iinc (n := 1) (c := 1) (c' := 1) (by decide +kernel) (by decide +kernel) l_42 f1 (by decide) fun L_107 v_108 f_109 l_110 kp_111 => ?_
              obtain ⟨x_112, e_113, h⟩ := lx_s h
              have f_114 := q_is_eq f_109 e_113
              have l_115 := kp_111 0 _ l_41 (by decide) (Or.inr (q_is_cat f0 (Or.inr rfl)))
              refine go_goto (o := (-60)) (t := 2) (by decide +kernel) (by decide +kernel) ?_
              exact ih m_99 E_106 h R_103 l_115 f0 l_110 f_114
noncomputable def fl_X4_dropDoomed_75 : Nat → Int → MM → Option (Int × MM)
  | 0, _, _ => none
  | n + 1, y1, m => if y1 < 0 then
some (0, m)
else
bp (fm_X8_branchAt y1 m) fun x_149 =>
if x_149 = 0 then
lx (w32 (y1 + (-1))) fun x_168 =>
fl_X4_dropDoomed_75 n x_168 m
else
gd (okc m x_149 2) <| lx (m x_149 9) fun x_176 =>
if x_176 = 0 then
lx (w32 (y1 + (-1))) fun x_184 =>
fl_X4_dropDoomed_75 n x_184 m
else
bd (fm_X8_remove x_149 m) fun x_192 m_193 =>
lx (w32 (y1 + (-1))) fun x_206 =>
fl_X4_dropDoomed_75 n x_206 m_193
set_option maxHeartbeats 4000000 in
theorem ol_X4_dropDoomed_75 {xs : List Int32} {d : Nat} {Q : QO → QS → Prop} {mb : MM} {rz : Int} {rm : MM}
  (hd : 3 ≤ d)
  (hQ : Ext mb rm → ∀ o S1, Rp S1 rm → q_out 9 o rz → Q o S1) :
  ∀ (n : Nat) {m : MM} {S : QS} {L : QL} {y1 : Int} {v0 : Value} {v1 : Value} , Ext mb m → fl_X4_dropDoomed_75 n y1 m = some (rz, rm) → Rp S m → q_lo L 0 = some v0 → q_is 2 v0 16 → q_lo L 1 = some v1 → q_is 0 v1 y1 → Go xs d qM_X4_dropDoomed 75 L [] S Q := by
  intro n
  induction n with
  | zero => intro m S L y1 v0 v1; intro E h R l0 f0 l1 f1; cases h
  | succ n ih0 =>
    intro m S L y1 v0 v1; intro E h R l0 f0 l1 f1
    have ih : ∀ mq : MM, Ext mb mq → ∀ {z1 : Int} {Sq : QS} {Lq : QL} {u0 : Value} {u1 : Value}, fl_X4_dropDoomed_75 n z1 mq = some (rz, rm) → Rp Sq mq → q_lo Lq 0 = some u0 → q_is 2 u0 16 → q_lo Lq 1 = some u1 → q_is 0 u1 z1 → Go xs d qM_X4_dropDoomed 75 Lq [] Sq Q := fun mq b => by intros; exact ih0 b ‹_› ‹_› ‹_› ‹_› ‹_› ‹_›
    unfold fl_X4_dropDoomed_75 at h
    refine go_iload_n (n := 1) (by decide +kernel) l1 f1 ?_
    refine go_if (c := .lt) (o := 37) (t := 113) (P := y1 < 0) (by decide +kernel) (by decide +kernel) f1 (Iff.rfl) (fun hp_144 => ?_) (fun hp_144 => ?_)
    · have h := it_t hp_144 h
      cases h
      exact go_vret (by decide +kernel) rfl (hQ E _ _ R q_out_n)
    · have h := it_f hp_144 h
      refine go_aload_n (n := 0) (by decide +kernel) l0 f0 ?_
      refine go_getf (x := 10) (ci := 5) (kf := 0) (fin := 1) (t := 2) (by decide +kernel) (by decide +kernel) (by decide +kernel) R f0 (fx_k (c := 5) R (by decide +kernel)) fun v_145 f_146 => ?_
      have f_147 := q_is_eq (b := 17) f_146 (fx_v R (by decide +kernel)).symm
      refine go_iload_n (n := 1) (by decide +kernel) l1 f1 ?_
      obtain ⟨x_149, hc_148, h⟩ := bp_s h
      refine go_callV (x := 183) (mi := 84) (n := 1) (ci := 9) (as := [v1]) (rest := []) (by decide +kernel) (by decide +kernel) rfl rfl (q_sum8 _ (Nat.le_of_ble_eq_true rfl)) R f_147 (fx_k (c := 9) R (by decide +kernel)) (om_X8_branchAt (Nat.le_trans (by decide) hd) R f_147 f1 hc_148) (fun _ S_153 q_156 => ?_) (fun _ _ qq => kr_x qq)
      refine kr_z (by decide) q_156 fun v_151 f_152 R_154 E_155 => ?_
      refine go_astore_n (n := 2) (by decide +kernel) (by decide +kernel) f_152 fun L_157 l_158 kp_159 => ?_
      have l_160 := kp_159 0 _ l0 (by decide) (Or.inl (by decide))
      have l_161 := kp_159 1 _ l1 (by decide) (Or.inr (q_is_cat f1 (Or.inl rfl)))
      refine go_aload_n (n := 2) (by decide +kernel) l_158 f_152 ?_
      refine go_ifnull (o := 18) (t := 107) (by decide +kernel) (by decide +kernel) f_152 (fun hp_162 => ?_) (fun hp_162 => ?_)
      · have h := it_t hp_162 h
        refine go_iinc (n := 1) (c := (-1)) (c' := (-1)) (by decide +kernel) (by decide +kernel) l_161 f1 (by decide) fun L_163 v_164 f_165 l_166 kp_167 => ?_
        obtain ⟨x_168, e_169, h⟩ := lx_s h
        have f_170 := q_is_eq f_165 e_169
        have l_171 := kp_167 0 _ l_160 (by decide) (Or.inr (q_is_cat f0 (Or.inr rfl)))
        refine go_goto (o := (-35)) (t := 75) (by decide +kernel) (by decide +kernel) ?_
        exact ih m E h R_154 l_171 f0 l_166 f_170
      · have h := it_f hp_162 h
        refine go_aload_n (n := 2) (by decide +kernel) l_158 f_152 ?_
        obtain ⟨g_174, h⟩ := gd_s h
        obtain ⟨x_176, e_177, h⟩ := lx_s h
        refine go_getf (x := 298) (ci := 2) (kf := 9) (fin := 0) (t := 0) (by decide +kernel) (by decide +kernel) (by decide +kernel) R_154 f_152 g_174 fun v_172 f_173 => ?_
        have f_175 := q_is_eq f_173 e_177
        refine go_if (c := .eq) (o := 11) (t := 107) (P := x_176 = 0) (by decide +kernel) (by decide +kernel) f_175 (Iff.rfl) (fun hp_178 => ?_) (fun hp_178 => ?_)
        · have h := it_t hp_178 h
          refine go_iinc (n := 1) (c := (-1)) (c' := (-1)) (by decide +kernel) (by decide +kernel) l_161 f1 (by decide) fun L_179 v_180 f_181 l_182 kp_183 => ?_
          obtain ⟨x_184, e_185, h⟩ := lx_s h
          have f_186 := q_is_eq f_181 e_185
          have l_187 := kp_183 0 _ l_160 (by decide) (Or.inr (q_is_cat f0 (Or.inr rfl)))
          refine go_goto (o := (-35)) (t := 75) (by decide +kernel) (by decide +kernel) ?_
          exact ih m E h R_154 l_187 f0 l_182 f_186
        · have h := it_f hp_178 h
          refine go_aload_n (n := 0) (by decide +kernel) l_160 f0 ?_
          refine go_getf (x := 10) (ci := 5) (kf := 0) (fin := 1) (t := 2) (by decide +kernel) (by decide +kernel) (by decide +kernel) R_154 f0 (fx_k (c := 5) R_154 (by decide +kernel)) fun v_188 f_189 => ?_
          have f_190 := q_is_eq (b := 17) f_189 (fx_v R_154 (by decide +kernel)).symm
          refine go_aload_n (n := 2) (by decide +kernel) l_158 f_152 ?_
          obtain ⟨x_192, m_193, hc_191, h⟩ := bd_s h
          refine go_callV (x := 214) (mi := 87) (n := 1) (ci := 9) (as := [v_151]) (rest := []) (by decide +kernel) (by decide +kernel) rfl rfl (q_sum8 _ (Nat.le_of_ble_eq_true rfl)) R_154 f_190 (fx_k (c := 9) R_154 (by decide +kernel)) (om_X8_remove (Nat.le_trans (by decide) hd) R_154 f_190 f_152 hc_191) (fun _ S_196 q_199 => ?_) (fun _ _ qq => kr_x qq)
          refine kr_v q_199 fun R_197 E_198 => ?_
          have E_200 := Ext.tr E E_198
          refine go_iinc (n := 1) (c := (-1)) (c' := (-1)) (by decide +kernel) (by decide +kernel) l_161 f1 (by decide) fun L_201 v_202 f_203 l_204 kp_205 => ?_
          obtain ⟨x_206, e_207, h⟩ := lx_s h
          have f_208 := q_is_eq f_203 e_207
          have l_209 := kp_205 0 _ l_160 (by decide) (Or.inr (q_is_cat f0 (Or.inr rfl)))
          refine go_goto (o := (-35)) (t := 75) (by decide +kernel) (by decide +kernel) ?_
          exact ih m_193 E_200 h R_197 l_209 f0 l_204 f_208
noncomputable def fm_X4_dropDoomed (m0 : MM) : Option (Int × MM) := fl_X4_dropDoomed_2  (fun m_122 =>
lx (m_122 17 5) fun x_131 =>
lx (w32 (x_131 - 1)) fun x_137 =>
fl_X4_dropDoomed_75   BIG x_137 m_122) BIG 0 m0
set_option maxHeartbeats 4000000 in
theorem om_X4_dropDoomed {xs : List Int32} {d : Nat} {S : QS} {m0 : MM} {v0 : Value} {rz : Int} {rm : MM}
  (hd : 4 ≤ d) (R : Rp S m0) (f0 : q_is 2 v0 16)
  (h : fm_X4_dropDoomed m0 = some (rz, rm)) : Mt xs d 52 [v0] S (Cr 9 m0 rm rz) := by
  obtain ⟨d, rfl⟩ : ∃ e, d = e + 1 := ⟨d - 1, by omega⟩
  have hd : 3 ≤ d := Nat.le_of_succ_le_succ hd
  refine Mt.of (M := qM_X4_dropDoomed) rfl (by rw [sl_1 (q_is_cat f0 (Or.inr rfl)), sl_0]; decide) ?_
  rw [la_1 (q_is_cat f0 (Or.inr rfl)), la_0]
  obtain ⟨L, hL⟩ : ∃ L : QL, L = [(0, v0)] := ⟨_, rfl⟩
  rw [← hL]
  have l0 : q_lo L 0 = some v0 := by rw [hL]; rfl
  have hQ : Ext m0 rm → ∀ o S1, Rp S1 rm → q_out 9 o rz → (Cr 9 m0 rm rz) o S1 := fun a o S1 b e => ⟨b, a, e⟩
  unfold fm_X4_dropDoomed at h
  refine go_iconst (n := 0) (z := 0) (by decide +kernel) (by decide) fun v_1 f_2 => ?_
  refine go_istore_n (n := 1) (by decide +kernel) (by decide +kernel) f_2 fun L_3 l_4 kp_5 => ?_
  have l_6 := kp_5 0 _ l0 (by decide) (Or.inr (q_is_cat f0 (Or.inr rfl)))
  refine ol_X4_dropDoomed_2 hd  ?_ hQ BIG (Ext.rf _) h R l_6 f0 l_4 f_2
  intro m_122 E_123
  intro S_119 L_120 v_116
  intro h R_121 l_117 f_118
  have E_124 := E_123
  refine go_aload_n (n := 0) (by decide +kernel) l_117 f_118 ?_
  refine go_getf (x := 10) (ci := 5) (kf := 0) (fin := 1) (t := 2) (by decide +kernel) (by decide +kernel) (by decide +kernel) R_121 f_118 (fx_k (c := 5) R_121 (by decide +kernel)) fun v_125 f_126 => ?_
  have f_127 := q_is_eq (b := 17) f_126 (fx_v R_121 (by decide +kernel)).symm
  obtain ⟨x_131, e_132, h⟩ := lx_s h
  refine go_getf (x := 180) (ci := 9) (kf := 5) (fin := 0) (t := 0) (by decide +kernel) (by decide +kernel) (by decide +kernel) R_121 f_127 (fx_k (c := 9) R_121 (by decide +kernel)) fun v_128 f_129 => ?_
  have f_130 := q_is_eq f_129 e_132
  refine go_iconst (n := 1) (z := 1) (by decide +kernel) (by decide) fun v_133 f_134 => ?_
  refine go_isub (by decide +kernel) f_130 f_134 fun v_135 f_136 => ?_
  obtain ⟨x_137, e_138, h⟩ := lx_s h
  have f_139 := q_is_eq f_136 e_138
  refine go_istore_n (n := 1) (by decide +kernel) (by decide +kernel) f_139 fun L_140 l_141 kp_142 => ?_
  have l_143 := kp_142 0 _ l_117 (by decide) (Or.inr (q_is_cat f_118 (Or.inr rfl)))
  refine ol_X4_dropDoomed_75 hd   (fun b => hQ (Ext.tr E_124 b)) BIG (Ext.rf _) h R_121 l_143 f_118 l_141 f_139
noncomputable def fm_X8_pushed (p1 p2 : Int) (m0 : MM) : Option (Int × MM) := bd (fm_X5_add 21 (w64 ((w64 (p1 * 10000)) + p2)) m0) fun x_15 m_16 =>
lx (m_16 21 2) fun x_30 =>
some (x_30, m_16)
set_option maxHeartbeats 4000000 in
theorem om_X8_pushed {xs : List Int32} {d : Nat} {S : QS} {m0 : MM} {p1 p2 : Int} {v0 : Value} {v1 : Value} {v2 : Value} {rz : Int} {rm : MM}
  (hd : 2 ≤ d) (R : Rp S m0) (f0 : q_is 2 v0 17) (f1 : q_is 0 v1 p1) (f2 : q_is 0 v2 p2)
  (h : fm_X8_pushed p1 p2 m0 = some (rz, rm)) : Mt xs d 78 [v0, v1, v2] S (Cr 0 m0 rm rz) := by
  obtain ⟨d, rfl⟩ : ∃ e, d = e + 1 := ⟨d - 1, by omega⟩
  have hd : 1 ≤ d := Nat.le_of_succ_le_succ hd
  refine Mt.of (M := qM_X8_pushed) rfl (by rw [sl_1 (q_is_cat f0 (Or.inr rfl)), sl_1 (q_is_cat f1 (Or.inl rfl)), sl_1 (q_is_cat f2 (Or.inl rfl)), sl_0]; decide) ?_
  rw [la_1 (q_is_cat f0 (Or.inr rfl)), la_1 (q_is_cat f1 (Or.inl rfl)), la_1 (q_is_cat f2 (Or.inl rfl)), la_0]
  obtain ⟨L, hL⟩ : ∃ L : QL, L = [(0, v0), (0 + 1, v1), (0 + 1 + 1, v2)] := ⟨_, rfl⟩
  rw [← hL]
  have l0 : q_lo L 0 = some v0 := by rw [hL]; rfl
  have l1 : q_lo L 1 = some v1 := by rw [hL]; rfl
  have l2 : q_lo L 2 = some v2 := by rw [hL]; rfl
  have hQ : Ext m0 rm → ∀ o S1, Rp S1 rm → q_out 0 o rz → (Cr 0 m0 rm rz) o S1 := fun a o S1 b e => ⟨b, a, e⟩
  unfold fm_X8_pushed at h
  refine go_aload_n (n := 0) (by decide +kernel) l0 f0 ?_
  refine go_getf (x := 28) (ci := 9) (kf := 3) (fin := 1) (t := 2) (by decide +kernel) (by decide +kernel) (by decide +kernel) R f0 (fx_k (c := 9) R (by decide +kernel)) fun v_1 f_2 => ?_
  have f_3 := q_is_eq (b := 21) f_2 (fx_v R (by decide +kernel)).symm
  refine go_iload_n (n := 1) (by decide +kernel) l1 f1 ?_
  refine go_i2l (by decide +kernel) f1 fun v_4 f_5 => ?_
  refine go_ldc2_w (x := 75) (n := 10000) (a := 0) (b := 0) (z := 10000) (by decide +kernel) (by decide +kernel) (by decide +kernel) fun v_6 f_7 => ?_
  refine go_lmul (by decide +kernel) f_5 f_7 fun v_8 f_9 => ?_
  refine go_iload_n (n := 2) (by decide +kernel) l2 f2 ?_
  refine go_i2l (by decide +kernel) f2 fun v_10 f_11 => ?_
  refine go_ladd (by decide +kernel) f_9 f_11 fun v_12 f_13 => ?_
  obtain ⟨x_15, m_16, hc_14, h⟩ := bd_s h
  refine go_callV (x := 77) (mi := 60) (n := 1) (ci := 6) (as := [v_12]) (rest := []) (by decide +kernel) (by decide +kernel) rfl rfl (q_sum8 _ (Nat.le_of_ble_eq_true rfl)) R f_3 (fx_k (c := 6) R (by decide +kernel)) (om_X5_add (Nat.le_trans (by decide) hd) R (fx_k (c := 6) R (by decide +kernel)) f_3 f_13 hc_14) (fun _ S_19 q_22 => ?_) (fun _ _ qq => kr_x qq)
  refine kr_v q_22 fun R_20 E_21 => ?_
  have E_23 := E_21
  refine go_aload_n (n := 0) (by decide +kernel) l0 f0 ?_
  refine go_getf (x := 28) (ci := 9) (kf := 3) (fin := 1) (t := 2) (by decide +kernel) (by decide +kernel) (by decide +kernel) R_20 f0 (fx_k (c := 9) R_20 (by decide +kernel)) fun v_24 f_25 => ?_
  have f_26 := q_is_eq (b := 21) f_25 (fx_v R_20 (by decide +kernel)).symm
  obtain ⟨x_30, e_31, h⟩ := lx_s h
  refine go_getf (x := 81) (ci := 6) (kf := 2) (fin := 0) (t := 0) (by decide +kernel) (by decide +kernel) (by decide +kernel) R_20 f_26 (fx_k (c := 6) R_20 (by decide +kernel)) fun v_27 f_28 => ?_
  have f_29 := q_is_eq f_28 e_31
  cases h
  exact go_iret (by decide +kernel) rfl (Or.inl rfl) f_29 (hQ E_23 _ _ R_20 (q_out_v (by decide) f_29))
end DF7
