/-! Methods as functions (written by wip/whole/dec.py), 5: X8_waiterFor, X4_noteFailure, X5_at, X4_noteEnd, X4_note, X8_isParent, X8_isAble, X8_firstAble, X5_put. -/
section DF5
noncomputable def fl_X8_waiterFor_2 (y1 : Int) (m0 : MM) : Nat → Int → Option Int
  | 0, _ => none
  | n + 1, y2 => lx (m0 17 5) fun x_11 =>
if y2 < x_11 then
if y2 < 12 then
gd (0 ≤ y2 ∧ y2 < 12) <| lx (m0 19 y2) fun x_32 =>
gd (okc m0 x_32 2) <| bp (fm_X1_waitsForEvent x_32 m0) fun x_36 =>
if x_36 = 0 then
lx (w32 (y2 + 1)) fun x_50 =>
fl_X8_waiterFor_2 y1 m0 n x_50
else
lx (m0 x_32 8) fun x_64 =>
if x_64 = y1 then
some x_32
else
lx (w32 (y2 + 1)) fun x_72 =>
fl_X8_waiterFor_2 y1 m0 n x_72
else
some 0
else
some 0
set_option maxHeartbeats 4000000 in
theorem ol_X8_waiterFor_2 {xs : List Int32} {d : Nat} {Q : QO → QS → Prop} {m0 : MM} {y1 : Int} {rz : Int}
  (hd : 1 ≤ d)
  (hQ : ∀ o S1, Rp S1 m0 → q_out 2 o rz → Q o S1) :
  ∀ (n : Nat) {S : QS} {L : QL} {y2 : Int} {v0 : Value} {v1 : Value} {v2 : Value} , fl_X8_waiterFor_2 y1 m0 n y2 = some rz → Rp S m0 → q_lo L 0 = some v0 → q_is 2 v0 17 → q_lo L 1 = some v1 → q_is 0 v1 y1 → q_lo L 2 = some v2 → q_is 0 v2 y2 → Go xs d qM_X8_waiterFor 2 L [] S Q := by
  intro n
  induction n with
  | zero => intro S L y2 v0 v1 v2; intro h R l0 f0 l1 f1 l2 f2; cases h
  | succ n ih0 =>
    intro S L y2 v0 v1 v2; intro h R l0 f0 l1 f1 l2 f2
    have ih : ∀ {z2 : Int} {Sq : QS} {Lq : QL} {u0 : Value} {u1 : Value} {u2 : Value}, fl_X8_waiterFor_2 y1 m0 n z2 = some rz → Rp Sq m0 → q_lo Lq 0 = some u0 → q_is 2 u0 17 → q_lo Lq 1 = some u1 → q_is 0 u1 y1 → q_lo Lq 2 = some u2 → q_is 0 u2 z2 → Go xs d qM_X8_waiterFor 2 Lq [] Sq Q := by intros; exact ih0 ‹_› ‹_› ‹_› ‹_› ‹_› ‹_› ‹_› ‹_›
    unfold fl_X8_waiterFor_2 at h
    refine go_iload_n (n := 2) (by decide +kernel) l2 f2 ?_
    refine go_aload_n (n := 0) (by decide +kernel) l0 f0 ?_
    obtain ⟨x_11, e_12, h⟩ := lx_s h
    refine go_getf (x := 36) (ci := 9) (kf := 5) (fin := 0) (t := 0) (by decide +kernel) (by decide +kernel) (by decide +kernel) R f0 (fx_k (c := 9) R (by decide +kernel)) fun v_8 f_9 => ?_
    have f_10 := q_is_eq f_9 e_12
    refine go_icmp (c := .ge) (o := 50) (t := 57) (P := ¬ (y2 < x_11)) (by decide +kernel) (by decide +kernel) f2 f_10 (Int.not_lt.symm) (fun hp_13 => ?_) (fun hp_13 => ?_)
    · have h := it_f hp_13 h
      refine go_null (by decide +kernel) fun v_14 f_15 => ?_
      cases h
      exact go_aret (by decide +kernel) rfl rfl f_15 (hQ _ _ R (q_out_v (by decide) f_15))
    · have h := it_n hp_13 h
      refine go_iload_n (n := 2) (by decide +kernel) l2 f2 ?_
      refine go_aload_n (n := 0) (by decide +kernel) l0 f0 ?_
      refine go_getf (x := 17) (ci := 9) (kf := 1) (fin := 1) (t := 2) (by decide +kernel) (by decide +kernel) (by decide +kernel) R f0 (fx_k (c := 9) R (by decide +kernel)) fun v_16 f_17 => ?_
      have f_18 := q_is_eq (b := 19) f_17 (fx_v R (by decide +kernel)).symm
      refine go_alen (by decide +kernel) R f_18 (okl_of (fx_k (c := 103) R (by decide +kernel)) (by decide)) fun v_19 f_20 => ?_
      have f_21 := q_is_eq (b := 12) f_20 (by rw [fx_l R (ln := 12) (by decide +kernel)]; decide)
      refine go_icmp (c := .ge) (o := 41) (t := 57) (P := ¬ (y2 < 12)) (by decide +kernel) (by decide +kernel) f2 f_21 (Int.not_lt.symm) (fun hp_22 => ?_) (fun hp_22 => ?_)
      · have h := it_f hp_22 h
        refine go_null (by decide +kernel) fun v_23 f_24 => ?_
        cases h
        exact go_aret (by decide +kernel) rfl rfl f_24 (hQ _ _ R (q_out_v (by decide) f_24))
      · have h := it_n hp_22 h
        refine go_aload_n (n := 0) (by decide +kernel) l0 f0 ?_
        refine go_getf (x := 17) (ci := 9) (kf := 1) (fin := 1) (t := 2) (by decide +kernel) (by decide +kernel) (by decide +kernel) R f0 (fx_k (c := 9) R (by decide +kernel)) fun v_25 f_26 => ?_
        have f_27 := q_is_eq (b := 19) f_26 (fx_v R (by decide +kernel)).symm
        refine go_iload_n (n := 2) (by decide +kernel) l2 f2 ?_
        obtain ⟨g_30, h⟩ := gd_s h
        obtain ⟨x_32, e_33, h⟩ := lx_s h
        refine go_aald (kd := 103) (by decide +kernel) (by decide) R f_27 f2 (fx_k (c := 103) R (by decide +kernel)) (fx_x (a := 19) (ln := 12) R (by decide +kernel) g_30) fun v_28 f_29 => ?_
        have f_31 := q_is_eq f_29 e_33
        obtain ⟨g_34, h⟩ := gd_s h
        obtain ⟨x_36, hc_35, h⟩ := bp_s h
        refine go_callV (x := 125) (mi := 7) (n := 0) (ci := 2) (as := []) (rest := []) (by decide +kernel) (by decide +kernel) rfl rfl (q_sum8 _ (Nat.le_of_ble_eq_true rfl)) R f_31 g_34 (om_X1_waitsForEvent (Nat.le_trans (by decide) hd) R g_34 f_31 hc_35) (fun _ S_40 q_43 => ?_) (fun _ _ qq => kr_x qq)
        refine kr_z (by decide) q_43 fun v_38 f_39 R_41 E_42 => ?_
        refine go_if (c := .eq) (o := 23) (t := 51) (P := x_36 = 0) (by decide +kernel) (by decide +kernel) f_39 (Iff.rfl) (fun hp_44 => ?_) (fun hp_44 => ?_)
        · have h := it_t hp_44 h
          refine go_iinc (n := 2) (c := 1) (c' := 1) (by decide +kernel) (by decide +kernel) l2 f2 (by decide) fun L_45 v_46 f_47 l_48 kp_49 => ?_
          obtain ⟨x_50, e_51, h⟩ := lx_s h
          have f_52 := q_is_eq f_47 e_51
          have l_53 := kp_49 0 _ l0 (by decide) (Or.inl (by decide))
          have l_54 := kp_49 1 _ l1 (by decide) (Or.inr (q_is_cat f1 (Or.inl rfl)))
          refine go_goto (o := (-52)) (t := 2) (by decide +kernel) (by decide +kernel) ?_
          exact ih h R_41 l_53 f0 l_54 f1 l_48 f_52
        · have h := it_f hp_44 h
          refine go_aload_n (n := 0) (by decide +kernel) l0 f0 ?_
          refine go_getf (x := 17) (ci := 9) (kf := 1) (fin := 1) (t := 2) (by decide +kernel) (by decide +kernel) (by decide +kernel) R_41 f0 (fx_k (c := 9) R_41 (by decide +kernel)) fun v_55 f_56 => ?_
          have f_57 := q_is_eq (b := 19) f_56 (fx_v R_41 (by decide +kernel)).symm
          refine go_iload_n (n := 2) (by decide +kernel) l2 f2 ?_
          refine go_aald (kd := 103) (by decide +kernel) (by decide) R_41 f_57 f2 (fx_k (c := 103) R_41 (by decide +kernel)) (fx_x (a := 19) (ln := 12) R_41 (by decide +kernel) g_30) fun v_58 f_59 => ?_
          have f_60 := q_is_eq f_59 e_33
          obtain ⟨x_64, e_65, h⟩ := lx_s h
          refine go_getf (x := 111) (ci := 2) (kf := 8) (fin := 0) (t := 0) (by decide +kernel) (by decide +kernel) (by decide +kernel) R_41 f_60 g_34 fun v_61 f_62 => ?_
          have f_63 := q_is_eq f_62 e_65
          refine go_iload_n (n := 1) (by decide +kernel) l1 f1 ?_
          refine go_icmp (c := .ne) (o := 10) (t := 51) (P := ¬ (x_64 = y1)) (by decide +kernel) (by decide +kernel) f_63 f1 (Iff.rfl) (fun hp_66 => ?_) (fun hp_66 => ?_)
          · have h := it_f hp_66 h
            refine go_iinc (n := 2) (c := 1) (c' := 1) (by decide +kernel) (by decide +kernel) l2 f2 (by decide) fun L_67 v_68 f_69 l_70 kp_71 => ?_
            obtain ⟨x_72, e_73, h⟩ := lx_s h
            have f_74 := q_is_eq f_69 e_73
            have l_75 := kp_71 0 _ l0 (by decide) (Or.inl (by decide))
            have l_76 := kp_71 1 _ l1 (by decide) (Or.inr (q_is_cat f1 (Or.inl rfl)))
            refine go_goto (o := (-52)) (t := 2) (by decide +kernel) (by decide +kernel) ?_
            exact ih h R_41 l_75 f0 l_76 f1 l_70 f_74
          · have h := it_n hp_66 h
            refine go_aload_n (n := 0) (by decide +kernel) l0 f0 ?_
            refine go_getf (x := 17) (ci := 9) (kf := 1) (fin := 1) (t := 2) (by decide +kernel) (by decide +kernel) (by decide +kernel) R_41 f0 (fx_k (c := 9) R_41 (by decide +kernel)) fun v_77 f_78 => ?_
            have f_79 := q_is_eq (b := 19) f_78 (fx_v R_41 (by decide +kernel)).symm
            refine go_iload_n (n := 2) (by decide +kernel) l2 f2 ?_
            refine go_aald (kd := 103) (by decide +kernel) (by decide) R_41 f_79 f2 (fx_k (c := 103) R_41 (by decide +kernel)) (fx_x (a := 19) (ln := 12) R_41 (by decide +kernel) g_30) fun v_80 f_81 => ?_
            have f_82 := q_is_eq f_81 e_33
            cases h
            exact go_aret (by decide +kernel) rfl rfl f_82 (hQ _ _ R_41 (q_out_v (by decide) f_82))
noncomputable def fm_X8_waiterFor (p1 : Int) (m0 : MM) : Option Int := fl_X8_waiterFor_2 p1 m0  BIG 0
set_option maxHeartbeats 4000000 in
theorem om_X8_waiterFor {xs : List Int32} {d : Nat} {S : QS} {m0 : MM} {p1 : Int} {v0 : Value} {v1 : Value} {rz : Int}
  (hd : 2 ≤ d) (R : Rp S m0) (f0 : q_is 2 v0 17) (f1 : q_is 0 v1 p1)
  (h : fm_X8_waiterFor p1 m0 = some rz) : Mt xs d 91 [v0, v1] S (Cr 2 m0 m0 rz) := by
  obtain ⟨d, rfl⟩ : ∃ e, d = e + 1 := ⟨d - 1, by omega⟩
  have hd : 1 ≤ d := Nat.le_of_succ_le_succ hd
  refine Mt.of (M := qM_X8_waiterFor) rfl (by rw [sl_1 (q_is_cat f0 (Or.inr rfl)), sl_1 (q_is_cat f1 (Or.inl rfl)), sl_0]; decide) ?_
  rw [la_1 (q_is_cat f0 (Or.inr rfl)), la_1 (q_is_cat f1 (Or.inl rfl)), la_0]
  obtain ⟨L, hL⟩ : ∃ L : QL, L = [(0, v0), (0 + 1, v1)] := ⟨_, rfl⟩
  rw [← hL]
  have l0 : q_lo L 0 = some v0 := by rw [hL]; rfl
  have l1 : q_lo L 1 = some v1 := by rw [hL]; rfl
  have hQ : ∀ o S1, Rp S1 m0 → q_out 2 o rz → (Cr 2 m0 m0 rz) o S1 := fun o S1 a b => ⟨a, Ext.rf _, b⟩
  unfold fm_X8_waiterFor at h
  refine go_iconst (n := 0) (z := 0) (by decide +kernel) (by decide) fun v_1 f_2 => ?_
  refine go_istore_n (n := 2) (by decide +kernel) (by decide +kernel) f_2 fun L_3 l_4 kp_5 => ?_
  have l_6 := kp_5 0 _ l0 (by decide) (Or.inl (by decide))
  have l_7 := kp_5 1 _ l1 (by decide) (Or.inr (q_is_cat f1 (Or.inl rfl)))
  refine ol_X8_waiterFor_2 hd   hQ BIG h R l_6 f0 l_7 f1 l_4 f_2
noncomputable def fm_X4_noteFailure (p1 : Int) (m0 : MM) : Option (Int × MM) := if p1 = 0 then
some (0, m0)
else
gd (okc m0 p1 2) <| lx (m0 p1 7) fun x_6 =>
if x_6 = 2 then
lx (m0 p1 4) fun x_26 =>
bd (fm_X1_goOnAt p1 x_26 m0) fun x_29 m_30 =>
some (0, m_30)
else
bd (fm_X4_failBranch p1 m0) fun x_12 m_13 =>
some (0, m_13)
set_option maxHeartbeats 4000000 in
theorem om_X4_noteFailure {xs : List Int32} {d : Nat} {S : QS} {m0 : MM} {p1 : Int} {v0 : Value} {v1 : Value} {rz : Int} {rm : MM}
  (hd : 5 ≤ d) (R : Rp S m0) (f0 : q_is 2 v0 16) (f1 : q_is 2 v1 p1)
  (h : fm_X4_noteFailure p1 m0 = some (rz, rm)) : Mt xs d 40 [v0, v1] S (Cr 9 m0 rm rz) := by
  obtain ⟨d, rfl⟩ : ∃ e, d = e + 1 := ⟨d - 1, by omega⟩
  have hd : 4 ≤ d := Nat.le_of_succ_le_succ hd
  refine Mt.of (M := qM_X4_noteFailure) rfl (by rw [sl_1 (q_is_cat f0 (Or.inr rfl)), sl_1 (q_is_cat f1 (Or.inr rfl)), sl_0]; decide) ?_
  rw [la_1 (q_is_cat f0 (Or.inr rfl)), la_1 (q_is_cat f1 (Or.inr rfl)), la_0]
  obtain ⟨L, hL⟩ : ∃ L : QL, L = [(0, v0), (0 + 1, v1)] := ⟨_, rfl⟩
  rw [← hL]
  have l0 : q_lo L 0 = some v0 := by rw [hL]; rfl
  have l1 : q_lo L 1 = some v1 := by rw [hL]; rfl
  have hQ : Ext m0 rm → ∀ o S1, Rp S1 rm → q_out 9 o rz → (Cr 9 m0 rm rz) o S1 := fun a o S1 b e => ⟨b, a, e⟩
  unfold fm_X4_noteFailure at h
  refine go_aload_n (n := 1) (by decide +kernel) l1 f1 ?_
  refine go_ifnonnull (o := 4) (t := 5) (by decide +kernel) (by decide +kernel) f1 (fun hp_1 => ?_) (fun hp_1 => ?_)
  · have h := it_f hp_1 h
    refine go_aload_n (n := 1) (by decide +kernel) l1 f1 ?_
    obtain ⟨g_4, h⟩ := gd_s h
    obtain ⟨x_6, e_7, h⟩ := lx_s h
    refine go_getf (x := 163) (ci := 2) (kf := 7) (fin := 0) (t := 0) (by decide +kernel) (by decide +kernel) (by decide +kernel) R f1 g_4 fun v_2 f_3 => ?_
    have f_5 := q_is_eq f_3 e_7
    refine go_iconst (n := 2) (z := 2) (by decide +kernel) (by decide) fun v_8 f_9 => ?_
    refine go_icmp (c := .ne) (o := 14) (t := 24) (P := ¬ (x_6 = 2)) (by decide +kernel) (by decide +kernel) f_5 f_9 (Iff.rfl) (fun hp_10 => ?_) (fun hp_10 => ?_)
    · have h := it_f hp_10 h
      refine go_aload_n (n := 0) (by decide +kernel) l0 f0 ?_
      refine go_aload_n (n := 1) (by decide +kernel) l1 f1 ?_
      obtain ⟨x_12, m_13, hc_11, h⟩ := bd_s h
      refine go_callV (x := 177) (mi := 42) (n := 1) (ci := 5) (as := [v1]) (rest := []) (by decide +kernel) (by decide +kernel) rfl rfl (q_sum8 _ (Nat.le_of_ble_eq_true rfl)) R f0 (fx_k (c := 5) R (by decide +kernel)) (om_X4_failBranch (Nat.le_trans (by decide) hd) R f0 f1 hc_11) (fun _ S_16 q_19 => ?_) (fun _ _ qq => kr_x qq)
      refine kr_v q_19 fun R_17 E_18 => ?_
      have E_22 := E_18
      cases h
      exact go_vret (by decide +kernel) rfl (hQ E_22 _ _ R_17 q_out_n)
    · have h := it_n hp_10 h
      refine go_aload_n (n := 1) (by decide +kernel) l1 f1 ?_
      refine go_aload_n (n := 1) (by decide +kernel) l1 f1 ?_
      obtain ⟨x_26, e_27, h⟩ := lx_s h
      refine go_getf (x := 168) (ci := 2) (kf := 4) (fin := 0) (t := 0) (by decide +kernel) (by decide +kernel) (by decide +kernel) R f1 g_4 fun v_23 f_24 => ?_
      have f_25 := q_is_eq f_24 e_27
      obtain ⟨x_29, m_30, hc_28, h⟩ := bd_s h
      refine go_callV (x := 171) (mi := 5) (n := 1) (ci := 2) (as := [v_23]) (rest := []) (by decide +kernel) (by decide +kernel) rfl rfl (q_sum8 _ (Nat.le_of_ble_eq_true rfl)) R f1 g_4 (om_X1_goOnAt (Nat.le_trans (by decide) hd) R g_4 f1 f_25 hc_28) (fun _ S_33 q_36 => ?_) (fun _ _ qq => kr_x qq)
      refine kr_v q_36 fun R_34 E_35 => ?_
      have E_39 := E_35
      refine go_goto (o := 8) (t := 29) (by decide +kernel) (by decide +kernel) ?_
      cases h
      exact go_vret (by decide +kernel) rfl (hQ E_39 _ _ R_34 q_out_n)
  · have h := it_n hp_1 h
    cases h
    exact go_vret (by decide +kernel) rfl (hQ (Ext.rf _) _ _ R q_out_n)
noncomputable def fm_X5_at (p0 p1 : Int) (m0 : MM) : Option Int := bp (fm_X5_wide p0 p1 m0) fun x_2 =>
some (w32 x_2)
set_option maxHeartbeats 4000000 in
theorem om_X5_at {xs : List Int32} {d : Nat} {S : QS} {m0 : MM} {p0 p1 : Int} {v0 : Value} {v1 : Value} {rz : Int}
  (hd : 2 ≤ d) (R : Rp S m0) (g0 : okc m0 p0 6) (f0 : q_is 2 v0 p0) (f1 : q_is 0 v1 p1)
  (h : fm_X5_at p0 p1 m0 = some rz) : Mt xs d 59 [v0, v1] S (Cr 0 m0 m0 rz) := by
  obtain ⟨d, rfl⟩ : ∃ e, d = e + 1 := ⟨d - 1, by omega⟩
  have hd : 1 ≤ d := Nat.le_of_succ_le_succ hd
  refine Mt.of (M := qM_X5_at) rfl (by rw [sl_1 (q_is_cat f0 (Or.inr rfl)), sl_1 (q_is_cat f1 (Or.inl rfl)), sl_0]; decide) ?_
  rw [la_1 (q_is_cat f0 (Or.inr rfl)), la_1 (q_is_cat f1 (Or.inl rfl)), la_0]
  obtain ⟨L, hL⟩ : ∃ L : QL, L = [(0, v0), (0 + 1, v1)] := ⟨_, rfl⟩
  rw [← hL]
  have l0 : q_lo L 0 = some v0 := by rw [hL]; rfl
  have l1 : q_lo L 1 = some v1 := by rw [hL]; rfl
  have hQ : ∀ o S1, Rp S1 m0 → q_out 0 o rz → (Cr 0 m0 m0 rz) o S1 := fun o S1 a b => ⟨a, Ext.rf _, b⟩
  unfold fm_X5_at at h
  refine go_aload_n (n := 0) (by decide +kernel) l0 f0 ?_
  refine go_iload_n (n := 1) (by decide +kernel) l1 f1 ?_
  obtain ⟨x_2, hc_1, h⟩ := bp_s h
  refine go_callV (x := 22) (mi := 58) (n := 1) (ci := 6) (as := [v1]) (rest := []) (by decide +kernel) (by decide +kernel) rfl rfl (q_sum8 _ (Nat.le_of_ble_eq_true rfl)) R f0 g0 (om_X5_wide (Nat.le_trans (by decide) hd) R g0 f0 f1 hc_1) (fun _ S_6 q_9 => ?_) (fun _ _ qq => kr_x qq)
  refine kr_z (by decide) q_9 fun v_4 f_5 R_7 E_8 => ?_
  refine go_l2i (by decide +kernel) f_5 fun v_10 f_11 => ?_
  cases h
  exact go_iret (by decide +kernel) rfl (Or.inl rfl) f_11 (hQ _ _ R_7 (q_out_v (by decide) f_11))
noncomputable def fj_X4_noteEnd_50 (y1 : Int) (m : MM) : Option (Int × MM) := gd (okc m y1 2) <| lx (m y1 4) fun x_18 =>
bd (fm_X1_goOnAt y1 (w32 (x_18 + 1)) m) fun x_25 m_26 =>
some (0, m_26)
set_option maxHeartbeats 4000000 in
theorem oj_X4_noteEnd_50 {xs : List Int32} {d : Nat} {S : QS} {L : QL} {Q : QO → QS → Prop} {m : MM} {y1 : Int} {v1 : Value}  {rz : Int} {rm : MM}
  (hd : 2 ≤ d) (R : Rp S m) (l1 : q_lo L 1 = some v1) (f1 : q_is 2 v1 y1)
  (hQ : Ext m rm → ∀ o S1, Rp S1 rm → q_out 9 o rz → Q o S1)
  (h : fj_X4_noteEnd_50 y1 m = some (rz, rm)) : Go xs d qM_X4_noteEnd 50 L [] S Q := by
  unfold fj_X4_noteEnd_50 at h
  refine go_aload_n (n := 1) (by decide +kernel) l1 f1 ?_
  refine go_aload_n (n := 1) (by decide +kernel) l1 f1 ?_
  obtain ⟨g_16, h⟩ := gd_s h
  obtain ⟨x_18, e_19, h⟩ := lx_s h
  refine go_getf (x := 168) (ci := 2) (kf := 4) (fin := 0) (t := 0) (by decide +kernel) (by decide +kernel) (by decide +kernel) R f1 g_16 fun v_14 f_15 => ?_
  have f_17 := q_is_eq f_15 e_19
  refine go_iconst (n := 1) (z := 1) (by decide +kernel) (by decide) fun v_20 f_21 => ?_
  refine go_iadd (by decide +kernel) f_17 f_21 fun v_22 f_23 => ?_
  obtain ⟨x_25, m_26, hc_24, h⟩ := bd_s h
  refine go_callV (x := 171) (mi := 5) (n := 1) (ci := 2) (as := [v_22]) (rest := []) (by decide +kernel) (by decide +kernel) rfl rfl (q_sum8 _ (Nat.le_of_ble_eq_true rfl)) R f1 g_16 (om_X1_goOnAt (Nat.le_trans (by decide) hd) R g_16 f1 f_23 hc_24) (fun _ S_29 q_32 => ?_) (fun _ _ qq => kr_x qq)
  refine kr_v q_32 fun R_30 E_31 => ?_
  have E_35 := E_31
  cases h
  exact go_vret (by decide +kernel) rfl (hQ E_35 _ _ R_30 q_out_n)
noncomputable def fm_X4_noteEnd (p1 p2 p3 : Int) (m0 : MM) : Option (Int × MM) := if p1 = 0 then
some (0, m0)
else
gd (okc m0 p1 2) <| lx (m0 p1 7) fun x_6 =>
if x_6 = 2 then
lx (m0 p1 4) fun x_78 =>
bd (fm_X1_goOnAt p1 x_78 m0) fun x_81 m_82 =>
some (0, m_82)
else
if p2 = 3 then
fj_X4_noteEnd_50 p1 m0
else
lx (m0 16 3) fun x_42 =>
lx (m0 p1 4) fun x_47 =>
gd (okc m0 x_42 6) <| bp (fm_X5_at x_42 x_47 m0) fun x_51 =>
bd (fm_X8_set (Int.tmod x_51 1000) p3 m0) fun x_64 m_65 =>
fj_X4_noteEnd_50 p1 m_65
set_option maxHeartbeats 4000000 in
theorem om_X4_noteEnd {xs : List Int32} {d : Nat} {S : QS} {m0 : MM} {p1 p2 p3 : Int} {v0 : Value} {v1 : Value} {v2 : Value} {v3 : Value} {rz : Int} {rm : MM}
  (hd : 3 ≤ d) (R : Rp S m0) (f0 : q_is 2 v0 16) (f1 : q_is 2 v1 p1) (f2 : q_is 0 v2 p2) (f3 : q_is 0 v3 p3)
  (h : fm_X4_noteEnd p1 p2 p3 m0 = some (rz, rm)) : Mt xs d 39 [v0, v1, v2, v3] S (Cr 9 m0 rm rz) := by
  obtain ⟨d, rfl⟩ : ∃ e, d = e + 1 := ⟨d - 1, by omega⟩
  have hd : 2 ≤ d := Nat.le_of_succ_le_succ hd
  refine Mt.of (M := qM_X4_noteEnd) rfl (by rw [sl_1 (q_is_cat f0 (Or.inr rfl)), sl_1 (q_is_cat f1 (Or.inr rfl)), sl_1 (q_is_cat f2 (Or.inl rfl)), sl_1 (q_is_cat f3 (Or.inl rfl)), sl_0]; decide) ?_
  rw [la_1 (q_is_cat f0 (Or.inr rfl)), la_1 (q_is_cat f1 (Or.inr rfl)), la_1 (q_is_cat f2 (Or.inl rfl)), la_1 (q_is_cat f3 (Or.inl rfl)), la_0]
  obtain ⟨L, hL⟩ : ∃ L : QL, L = [(0, v0), (0 + 1, v1), (0 + 1 + 1, v2), (0 + 1 + 1 + 1, v3)] := ⟨_, rfl⟩
  rw [← hL]
  have l0 : q_lo L 0 = some v0 := by rw [hL]; rfl
  have l1 : q_lo L 1 = some v1 := by rw [hL]; rfl
  have l2 : q_lo L 2 = some v2 := by rw [hL]; rfl
  have l3 : q_lo L 3 = some v3 := by rw [hL]; rfl
  have hQ : Ext m0 rm → ∀ o S1, Rp S1 rm → q_out 9 o rz → (Cr 9 m0 rm rz) o S1 := fun a o S1 b e => ⟨b, a, e⟩
  unfold fm_X4_noteEnd at h
  refine go_aload_n (n := 1) (by decide +kernel) l1 f1 ?_
  refine go_ifnonnull (o := 4) (t := 5) (by decide +kernel) (by decide +kernel) f1 (fun hp_1 => ?_) (fun hp_1 => ?_)
  · have h := it_f hp_1 h
    refine go_aload_n (n := 1) (by decide +kernel) l1 f1 ?_
    obtain ⟨g_4, h⟩ := gd_s h
    obtain ⟨x_6, e_7, h⟩ := lx_s h
    refine go_getf (x := 163) (ci := 2) (kf := 7) (fin := 0) (t := 0) (by decide +kernel) (by decide +kernel) (by decide +kernel) R f1 g_4 fun v_2 f_3 => ?_
    have f_5 := q_is_eq f_3 e_7
    refine go_iconst (n := 2) (z := 2) (by decide +kernel) (by decide) fun v_8 f_9 => ?_
    refine go_icmp (c := .ne) (o := 12) (t := 22) (P := ¬ (x_6 = 2)) (by decide +kernel) (by decide +kernel) f_5 f_9 (Iff.rfl) (fun hp_10 => ?_) (fun hp_10 => ?_)
    · have h := it_f hp_10 h
      refine go_iload_n (n := 2) (by decide +kernel) l2 f2 ?_
      refine go_iconst (n := 3) (z := 3) (by decide +kernel) (by decide) fun v_11 f_12 => ?_
      refine go_icmp (c := .eq) (o := 26) (t := 50) (P := p2 = 3) (by decide +kernel) (by decide +kernel) f2 f_12 (Iff.rfl) (fun hp_13 => ?_) (fun hp_13 => ?_)
      · have h := it_t hp_13 h
        exact oj_X4_noteEnd_50 hd R l1 f1 hQ h
      · have h := it_f hp_13 h
        refine go_aload_n (n := 0) (by decide +kernel) l0 f0 ?_
        refine go_getf (x := 10) (ci := 5) (kf := 0) (fin := 1) (t := 2) (by decide +kernel) (by decide +kernel) (by decide +kernel) R f0 (fx_k (c := 5) R (by decide +kernel)) fun v_36 f_37 => ?_
        have f_38 := q_is_eq (b := 17) f_37 (fx_v R (by decide +kernel)).symm
        refine go_aload_n (n := 0) (by decide +kernel) l0 f0 ?_
        obtain ⟨x_42, e_43, h⟩ := lx_s h
        refine go_getf (x := 31) (ci := 5) (kf := 3) (fin := 0) (t := 2) (by decide +kernel) (by decide +kernel) (by decide +kernel) R f0 (fx_k (c := 5) R (by decide +kernel)) fun v_39 f_40 => ?_
        have f_41 := q_is_eq f_40 e_43
        refine go_aload_n (n := 1) (by decide +kernel) l1 f1 ?_
        obtain ⟨x_47, e_48, h⟩ := lx_s h
        refine go_getf (x := 168) (ci := 2) (kf := 4) (fin := 0) (t := 0) (by decide +kernel) (by decide +kernel) (by decide +kernel) R f1 g_4 fun v_44 f_45 => ?_
        have f_46 := q_is_eq f_45 e_48
        obtain ⟨g_49, h⟩ := gd_s h
        obtain ⟨x_51, hc_50, h⟩ := bp_s h
        refine go_callV (x := 174) (mi := 59) (n := 1) (ci := 6) (as := [v_44]) (rest := [v_36]) (by decide +kernel) (by decide +kernel) rfl rfl (q_sum8 _ (Nat.le_of_ble_eq_true rfl)) R f_41 g_49 (om_X5_at (Nat.le_trans (by decide) hd) R g_49 f_41 f_46 hc_50) (fun _ S_55 q_58 => ?_) (fun _ _ qq => kr_x qq)
        refine kr_z (by decide) q_58 fun v_53 f_54 R_56 E_57 => ?_
        refine go_sipush (n := 1000) (z := 1000) (by decide +kernel) (by decide) fun v_59 f_60 => ?_
        refine go_irem (by decide +kernel) f_54 f_60 (by decide) fun v_61 f_62 => ?_
        refine go_iload_n (n := 3) (by decide +kernel) l3 f3 ?_
        obtain ⟨x_64, m_65, hc_63, h⟩ := bd_s h
        refine go_callV (x := 129) (mi := 82) (n := 2) (ci := 9) (as := [v_61, v3]) (rest := []) (by decide +kernel) (by decide +kernel) rfl rfl (q_sum8 _ (Nat.le_of_ble_eq_true rfl)) R_56 f_38 (fx_k (c := 9) R_56 (by decide +kernel)) (om_X8_set (Nat.le_trans (by decide) hd) R_56 f_38 f_62 f3 hc_63) (fun _ S_68 q_71 => ?_) (fun _ _ qq => kr_x qq)
        refine kr_v q_71 fun R_69 E_70 => ?_
        have E_74 := E_70
        exact oj_X4_noteEnd_50 hd R_69 l1 f1 (fun b => hQ (Ext.tr E_74 b)) h
    · have h := it_n hp_10 h
      refine go_aload_n (n := 1) (by decide +kernel) l1 f1 ?_
      refine go_aload_n (n := 1) (by decide +kernel) l1 f1 ?_
      obtain ⟨x_78, e_79, h⟩ := lx_s h
      refine go_getf (x := 168) (ci := 2) (kf := 4) (fin := 0) (t := 0) (by decide +kernel) (by decide +kernel) (by decide +kernel) R f1 g_4 fun v_75 f_76 => ?_
      have f_77 := q_is_eq f_76 e_79
      obtain ⟨x_81, m_82, hc_80, h⟩ := bd_s h
      refine go_callV (x := 171) (mi := 5) (n := 1) (ci := 2) (as := [v_75]) (rest := []) (by decide +kernel) (by decide +kernel) rfl rfl (q_sum8 _ (Nat.le_of_ble_eq_true rfl)) R f1 g_4 (om_X1_goOnAt (Nat.le_trans (by decide) hd) R g_4 f1 f_77 hc_80) (fun _ S_85 q_88 => ?_) (fun _ _ qq => kr_x qq)
      refine kr_v q_88 fun R_86 E_87 => ?_
      have E_91 := E_87
      cases h
      exact go_vret (by decide +kernel) rfl (hQ E_91 _ _ R_86 q_out_n)
  · have h := it_n hp_1 h
    cases h
    exact go_vret (by decide +kernel) rfl (hQ (Ext.rf _) _ _ R q_out_n)
noncomputable def fj_X4_note_101 (y2 : Int) (m : MM) : Option (Int × MM) := bp (fm_X8_waiterFor y2 m) fun x_45 =>
bd (fm_X4_noteFailure x_45 m) fun x_54 m_55 =>
some (0, m_55)
set_option maxHeartbeats 4000000 in
theorem oj_X4_note_101 {xs : List Int32} {d : Nat} {S : QS} {L : QL} {Q : QO → QS → Prop} {m : MM} {y2 : Int} {v0 : Value} {v2 : Value}  {rz : Int} {rm : MM}
  (hd : 5 ≤ d) (R : Rp S m) (l0 : q_lo L 0 = some v0) (f0 : q_is 2 v0 16) (l2 : q_lo L 2 = some v2) (f2 : q_is 0 v2 y2)
  (hQ : Ext m rm → ∀ o S1, Rp S1 rm → q_out 9 o rz → Q o S1)
  (h : fj_X4_note_101 y2 m = some (rz, rm)) : Go xs d qM_X4_note 101 L [] S Q := by
  unfold fj_X4_note_101 at h
  refine go_aload_n (n := 0) (by decide +kernel) l0 f0 ?_
  refine go_aload_n (n := 0) (by decide +kernel) l0 f0 ?_
  refine go_getf (x := 10) (ci := 5) (kf := 0) (fin := 1) (t := 2) (by decide +kernel) (by decide +kernel) (by decide +kernel) R f0 (fx_k (c := 5) R (by decide +kernel)) fun v_41 f_42 => ?_
  have f_43 := q_is_eq (b := 17) f_42 (fx_v R (by decide +kernel)).symm
  refine go_iload_n (n := 2) (by decide +kernel) l2 f2 ?_
  obtain ⟨x_45, hc_44, h⟩ := bp_s h
  refine go_callV (x := 151) (mi := 91) (n := 1) (ci := 9) (as := [v2]) (rest := [v0]) (by decide +kernel) (by decide +kernel) rfl rfl (q_sum8 _ (Nat.le_of_ble_eq_true rfl)) R f_43 (fx_k (c := 9) R (by decide +kernel)) (om_X8_waiterFor (Nat.le_trans (by decide) hd) R f_43 f2 hc_44) (fun _ S_49 q_52 => ?_) (fun _ _ qq => kr_x qq)
  refine kr_z (by decide) q_52 fun v_47 f_48 R_50 E_51 => ?_
  obtain ⟨x_54, m_55, hc_53, h⟩ := bd_s h
  refine go_callV (x := 155) (mi := 40) (n := 1) (ci := 5) (as := [v_47]) (rest := []) (by decide +kernel) (by decide +kernel) rfl rfl (q_sum8 _ (Nat.le_of_ble_eq_true rfl)) R_50 f0 (fx_k (c := 5) R_50 (by decide +kernel)) (om_X4_noteFailure (Nat.le_trans (by decide) hd) R_50 f0 f_48 hc_53) (fun _ S_58 q_61 => ?_) (fun _ _ qq => kr_x qq)
  refine kr_v q_61 fun R_59 E_60 => ?_
  have E_64 := E_60
  refine go_goto (o := 17) (t := 130) (by decide +kernel) (by decide +kernel) ?_
  cases h
  exact go_vret (by decide +kernel) rfl (hQ E_64 _ _ R_59 q_out_n)
noncomputable def fj_X4_note_116 (y1 y2 y3 : Int) (m : MM) : Option (Int × MM) := bp (fm_X8_waiterFor y2 m) fun x_125 =>
bd (fm_X4_noteEnd x_125 y1 y3 m) fun x_134 m_135 =>
some (0, m_135)
set_option maxHeartbeats 4000000 in
theorem oj_X4_note_116 {xs : List Int32} {d : Nat} {S : QS} {L : QL} {Q : QO → QS → Prop} {m : MM} {y1 y2 y3 : Int} {v0 : Value} {v1 : Value} {v2 : Value} {v3 : Value}  {rz : Int} {rm : MM}
  (hd : 5 ≤ d) (R : Rp S m) (l0 : q_lo L 0 = some v0) (f0 : q_is 2 v0 16) (l1 : q_lo L 1 = some v1) (f1 : q_is 0 v1 y1) (l2 : q_lo L 2 = some v2) (f2 : q_is 0 v2 y2) (l3 : q_lo L 3 = some v3) (f3 : q_is 0 v3 y3)
  (hQ : Ext m rm → ∀ o S1, Rp S1 rm → q_out 9 o rz → Q o S1)
  (h : fj_X4_note_116 y1 y2 y3 m = some (rz, rm)) : Go xs d qM_X4_note 116 L [] S Q := by
  unfold fj_X4_note_116 at h
  refine go_aload_n (n := 0) (by decide +kernel) l0 f0 ?_
  refine go_aload_n (n := 0) (by decide +kernel) l0 f0 ?_
  refine go_getf (x := 10) (ci := 5) (kf := 0) (fin := 1) (t := 2) (by decide +kernel) (by decide +kernel) (by decide +kernel) R f0 (fx_k (c := 5) R (by decide +kernel)) fun v_121 f_122 => ?_
  have f_123 := q_is_eq (b := 17) f_122 (fx_v R (by decide +kernel)).symm
  refine go_iload_n (n := 2) (by decide +kernel) l2 f2 ?_
  obtain ⟨x_125, hc_124, h⟩ := bp_s h
  refine go_callV (x := 151) (mi := 91) (n := 1) (ci := 9) (as := [v2]) (rest := [v0]) (by decide +kernel) (by decide +kernel) rfl rfl (q_sum8 _ (Nat.le_of_ble_eq_true rfl)) R f_123 (fx_k (c := 9) R (by decide +kernel)) (om_X8_waiterFor (Nat.le_trans (by decide) hd) R f_123 f2 hc_124) (fun _ S_129 q_132 => ?_) (fun _ _ qq => kr_x qq)
  refine kr_z (by decide) q_132 fun v_127 f_128 R_130 E_131 => ?_
  refine go_iload_n (n := 1) (by decide +kernel) l1 f1 ?_
  refine go_iload_n (n := 3) (by decide +kernel) l3 f3 ?_
  obtain ⟨x_134, m_135, hc_133, h⟩ := bd_s h
  refine go_callV (x := 159) (mi := 39) (n := 3) (ci := 5) (as := [v_127, v1, v3]) (rest := []) (by decide +kernel) (by decide +kernel) rfl rfl (q_sum8 _ (Nat.le_of_ble_eq_true rfl)) R_130 f0 (fx_k (c := 5) R_130 (by decide +kernel)) (om_X4_noteEnd (Nat.le_trans (by decide) hd) R_130 f0 f_128 f1 f3 hc_133) (fun _ S_138 q_141 => ?_) (fun _ _ qq => kr_x qq)
  refine kr_v q_141 fun R_139 E_140 => ?_
  have E_144 := E_140
  cases h
  exact go_vret (by decide +kernel) rfl (hQ E_144 _ _ R_139 q_out_n)
noncomputable def fm_X4_note (p1 p2 p3 : Int) (m0 : MM) : Option (Int × MM) := if p1 = 0 then
bd (fm_X8_set 0 p2 m0) fun x_9 m_10 =>
bd (fm_X8_beginBranch (-1) 0 m_10) fun x_28 m_29 =>
some (0, m_29)
else if p1 = 2 then
fj_X4_note_101 p2 m0
else if p1 = 6 then
fj_X4_note_101 p2 m0
else if p1 = 4 then
bp (fm_X8_queue p2 m0) fun x_72 =>
gd (okc m0 x_72 6) <| bd (fm_X5_add x_72 p3 m0) fun x_84 m_85 =>
some (0, m_85)
else if p1 = 7 then
up m0 17 8 1 fun m_102 =>
bd (fm_X4_tellCancel m_102) fun x_110 m_111 =>
some (0, m_111)
else 
fj_X4_note_116 p1 p2 p3 m0
set_option maxHeartbeats 4000000 in
theorem om_X4_note {xs : List Int32} {d : Nat} {S : QS} {m0 : MM} {p1 p2 p3 : Int} {v0 : Value} {v1 : Value} {v2 : Value} {v3 : Value} {rz : Int} {rm : MM}
  (hd : 6 ≤ d) (R : Rp S m0) (f0 : q_is 2 v0 16) (f1 : q_is 0 v1 p1) (f2 : q_is 0 v2 p2) (f3 : q_is 0 v3 p3)
  (h : fm_X4_note p1 p2 p3 m0 = some (rz, rm)) : Mt xs d 38 [v0, v1, v2, v3] S (Cr 9 m0 rm rz) := by
  obtain ⟨d, rfl⟩ : ∃ e, d = e + 1 := ⟨d - 1, by omega⟩
  have hd : 5 ≤ d := Nat.le_of_succ_le_succ hd
  refine Mt.of (M := qM_X4_note) rfl (by rw [sl_1 (q_is_cat f0 (Or.inr rfl)), sl_1 (q_is_cat f1 (Or.inl rfl)), sl_1 (q_is_cat f2 (Or.inl rfl)), sl_1 (q_is_cat f3 (Or.inl rfl)), sl_0]; decide) ?_
  rw [la_1 (q_is_cat f0 (Or.inr rfl)), la_1 (q_is_cat f1 (Or.inl rfl)), la_1 (q_is_cat f2 (Or.inl rfl)), la_1 (q_is_cat f3 (Or.inl rfl)), la_0]
  obtain ⟨L, hL⟩ : ∃ L : QL, L = [(0, v0), (0 + 1, v1), (0 + 1 + 1, v2), (0 + 1 + 1 + 1, v3)] := ⟨_, rfl⟩
  rw [← hL]
  have l0 : q_lo L 0 = some v0 := by rw [hL]; rfl
  have l1 : q_lo L 1 = some v1 := by rw [hL]; rfl
  have l2 : q_lo L 2 = some v2 := by rw [hL]; rfl
  have l3 : q_lo L 3 = some v3 := by rw [hL]; rfl
  have hQ : Ext m0 rm → ∀ o S1, Rp S1 rm → q_out 9 o rz → (Cr 9 m0 rm rz) o S1 := fun a o S1 b e => ⟨b, a, e⟩
  unfold fm_X4_note at h
  refine go_iload_n (n := 1) (by decide +kernel) l1 f1 ?_
  by_cases hp_2 : p1 = 0
  · have h := it_t hp_2 h
    refine go_tsin (dflt := 115) (lo := 0) (hi := 7) (offs := #[47, 115, 100, 115, 69, 115, 100, 85]) (o := 47) (t := 48) (by decide +kernel) f1 (by omega) (by omega) (by rw [hp_2]; decide) (by decide +kernel) ?_
    refine go_aload_n (n := 0) (by decide +kernel) l0 f0 ?_
    refine go_getf (x := 10) (ci := 5) (kf := 0) (fin := 1) (t := 2) (by decide +kernel) (by decide +kernel) (by decide +kernel) R f0 (fx_k (c := 5) R (by decide +kernel)) fun v_3 f_4 => ?_
    have f_5 := q_is_eq (b := 17) f_4 (fx_v R (by decide +kernel)).symm
    refine go_iconst (n := 0) (z := 0) (by decide +kernel) (by decide) fun v_6 f_7 => ?_
    refine go_iload_n (n := 2) (by decide +kernel) l2 f2 ?_
    obtain ⟨x_9, m_10, hc_8, h⟩ := bd_s h
    refine go_callV (x := 129) (mi := 82) (n := 2) (ci := 9) (as := [v_6, v2]) (rest := []) (by decide +kernel) (by decide +kernel) rfl rfl (q_sum8 _ (Nat.le_of_ble_eq_true rfl)) R f_5 (fx_k (c := 9) R (by decide +kernel)) (om_X8_set (Nat.le_trans (by decide) hd) R f_5 f_7 f2 hc_8) (fun _ S_13 q_16 => ?_) (fun _ _ qq => kr_x qq)
    refine kr_v q_16 fun R_14 E_15 => ?_
    have E_19 := E_15
    refine go_aload_n (n := 0) (by decide +kernel) l0 f0 ?_
    refine go_getf (x := 10) (ci := 5) (kf := 0) (fin := 1) (t := 2) (by decide +kernel) (by decide +kernel) (by decide +kernel) R_14 f0 (fx_k (c := 5) R_14 (by decide +kernel)) fun v_20 f_21 => ?_
    have f_22 := q_is_eq (b := 17) f_21 (fx_v R_14 (by decide +kernel)).symm
    refine go_iconst (n := (-1)) (z := (-1)) (by decide +kernel) (by decide) fun v_23 f_24 => ?_
    refine go_iconst (n := 0) (z := 0) (by decide +kernel) (by decide) fun v_25 f_26 => ?_
    obtain ⟨x_28, m_29, hc_27, h⟩ := bd_s h
    refine go_callV (x := 133) (mi := 86) (n := 2) (ci := 9) (as := [v_23, v_25]) (rest := []) (by decide +kernel) (by decide +kernel) rfl rfl (q_sum8 _ (Nat.le_of_ble_eq_true rfl)) R_14 f_22 (fx_k (c := 9) R_14 (by decide +kernel)) (om_X8_beginBranch (Nat.le_trans (by decide) hd) R_14 f_22 f_24 f_26 hc_27) (fun _ S_32 q_35 => ?_) (fun _ _ qq => kr_x qq)
    refine kr_z (by decide) q_35 fun v_30 f_31 R_33 E_34 => ?_
    have E_38 := Ext.tr E_19 E_34
    refine go_pop (by decide +kernel) f_31 (Or.inl rfl) ?_
    refine go_goto (o := 63) (t := 130) (by decide +kernel) (by decide +kernel) ?_
    cases h
    exact go_vret (by decide +kernel) rfl (hQ E_38 _ _ R_33 q_out_n)
  have h := it_f hp_2 h
  by_cases hp_40 : p1 = 2
  · have h := it_t hp_40 h
    refine go_tsin (dflt := 115) (lo := 0) (hi := 7) (offs := #[47, 115, 100, 115, 69, 115, 100, 85]) (o := 100) (t := 101) (by decide +kernel) f1 (by omega) (by omega) (by rw [hp_40]; decide) (by decide +kernel) ?_
    exact oj_X4_note_101 hd R l0 f0 l2 f2 hQ h
  have h := it_f hp_40 h
  by_cases hp_65 : p1 = 6
  · have h := it_t hp_65 h
    refine go_tsin (dflt := 115) (lo := 0) (hi := 7) (offs := #[47, 115, 100, 115, 69, 115, 100, 85]) (o := 100) (t := 101) (by decide +kernel) f1 (by omega) (by omega) (by rw [hp_65]; decide) (by decide +kernel) ?_
    exact oj_X4_note_101 hd R l0 f0 l2 f2 hQ h
  have h := it_f hp_65 h
  by_cases hp_67 : p1 = 4
  · have h := it_t hp_67 h
    refine go_tsin (dflt := 115) (lo := 0) (hi := 7) (offs := #[47, 115, 100, 115, 69, 115, 100, 85]) (o := 69) (t := 70) (by decide +kernel) f1 (by omega) (by omega) (by rw [hp_67]; decide) (by decide +kernel) ?_
    refine go_aload_n (n := 0) (by decide +kernel) l0 f0 ?_
    refine go_getf (x := 10) (ci := 5) (kf := 0) (fin := 1) (t := 2) (by decide +kernel) (by decide +kernel) (by decide +kernel) R f0 (fx_k (c := 5) R (by decide +kernel)) fun v_68 f_69 => ?_
    have f_70 := q_is_eq (b := 17) f_69 (fx_v R (by decide +kernel)).symm
    refine go_iload_n (n := 2) (by decide +kernel) l2 f2 ?_
    obtain ⟨x_72, hc_71, h⟩ := bp_s h
    refine go_callV (x := 137) (mi := 83) (n := 1) (ci := 9) (as := [v2]) (rest := []) (by decide +kernel) (by decide +kernel) rfl rfl (q_sum8 _ (Nat.le_of_ble_eq_true rfl)) R f_70 (fx_k (c := 9) R (by decide +kernel)) (om_X8_queue (Nat.le_trans (by decide) hd) R f_70 f2 hc_71) (fun _ S_76 q_79 => ?_) (fun _ _ qq => kr_x qq)
    refine kr_z (by decide) q_79 fun v_74 f_75 R_77 E_78 => ?_
    refine go_iload_n (n := 3) (by decide +kernel) l3 f3 ?_
    refine go_i2l (by decide +kernel) f3 fun v_80 f_81 => ?_
    obtain ⟨g_82, h⟩ := gd_s h
    obtain ⟨x_84, m_85, hc_83, h⟩ := bd_s h
    refine go_callV (x := 141) (mi := 60) (n := 1) (ci := 6) (as := [v_80]) (rest := []) (by decide +kernel) (by decide +kernel) rfl rfl (q_sum8 _ (Nat.le_of_ble_eq_true rfl)) R_77 f_75 g_82 (om_X5_add (Nat.le_trans (by decide) hd) R_77 g_82 f_75 f_81 hc_83) (fun _ S_88 q_91 => ?_) (fun _ _ qq => kr_x qq)
    refine kr_v q_91 fun R_89 E_90 => ?_
    have E_94 := E_90
    refine go_goto (o := 47) (t := 130) (by decide +kernel) (by decide +kernel) ?_
    cases h
    exact go_vret (by decide +kernel) rfl (hQ E_94 _ _ R_89 q_out_n)
  have h := it_f hp_67 h
  by_cases hp_96 : p1 = 7
  · have h := it_t hp_96 h
    refine go_tsin (dflt := 115) (lo := 0) (hi := 7) (offs := #[47, 115, 100, 115, 69, 115, 100, 85]) (o := 85) (t := 86) (by decide +kernel) f1 (by omega) (by omega) (by rw [hp_96]; decide) (by decide +kernel) ?_
    refine go_aload_n (n := 0) (by decide +kernel) l0 f0 ?_
    refine go_getf (x := 10) (ci := 5) (kf := 0) (fin := 1) (t := 2) (by decide +kernel) (by decide +kernel) (by decide +kernel) R f0 (fx_k (c := 5) R (by decide +kernel)) fun v_97 f_98 => ?_
    have f_99 := q_is_eq (b := 17) f_98 (fx_v R (by decide +kernel)).symm
    refine go_iconst (n := 1) (z := 1) (by decide +kernel) (by decide) fun v_100 f_101 => ?_
    obtain ⟨m_102, e_103, h⟩ := up_s h
    refine go_putf (x := 145) (ci := 9) (kf := 8) (fin := 0) (zt := 1) (by decide +kernel) (by decide +kernel) (by decide) (by decide +kernel) (by decide) (Or.inl rfl) R f_99 f_101 (fun _ => by decide) (fx_k (c := 9) R (by decide +kernel)) e_103 (fx_f (j := 8) R.2 (fx_k (c := 9) R (by decide +kernel)) (by decide +kernel)) fun S_104 R_105 E_106 => ?_
    have E_108 := E_106
    refine go_aload_n (n := 0) (by decide +kernel) l0 f0 ?_
    obtain ⟨x_110, m_111, hc_109, h⟩ := bd_s h
    refine go_callV (x := 148) (mi := 41) (n := 0) (ci := 5) (as := []) (rest := []) (by decide +kernel) (by decide +kernel) rfl rfl (q_sum8 _ (Nat.le_of_ble_eq_true rfl)) R_105 f0 (fx_k (c := 5) R_105 (by decide +kernel)) (om_X4_tellCancel (Nat.le_trans (by decide) hd) R_105 f0 hc_109) (fun _ S_114 q_117 => ?_) (fun _ _ qq => kr_x qq)
    refine kr_v q_117 fun R_115 E_116 => ?_
    have E_120 := Ext.tr E_108 E_116
    refine go_goto (o := 32) (t := 130) (by decide +kernel) (by decide +kernel) ?_
    cases h
    exact go_vret (by decide +kernel) rfl (hQ E_120 _ _ R_115 q_out_n)
  have h := it_f hp_96 h
  by_cases hp_145 : p1 = 1
  · refine go_tsin (dflt := 115) (lo := 0) (hi := 7) (offs := #[47, 115, 100, 115, 69, 115, 100, 85]) (o := 115) (t := 116) (by decide +kernel) f1 (by omega) (by omega) (by rw [hp_145]; decide) (by decide +kernel) ?_
    exact oj_X4_note_116 hd R l0 f0 l1 f1 l2 f2 l3 f3 hQ h
  by_cases hp_146 : p1 = 3
  · refine go_tsin (dflt := 115) (lo := 0) (hi := 7) (offs := #[47, 115, 100, 115, 69, 115, 100, 85]) (o := 115) (t := 116) (by decide +kernel) f1 (by omega) (by omega) (by rw [hp_146]; decide) (by decide +kernel) ?_
    exact oj_X4_note_116 hd R l0 f0 l1 f1 l2 f2 l3 f3 hQ h
  by_cases hp_147 : p1 = 5
  · refine go_tsin (dflt := 115) (lo := 0) (hi := 7) (offs := #[47, 115, 100, 115, 69, 115, 100, 85]) (o := 115) (t := 116) (by decide +kernel) f1 (by omega) (by omega) (by rw [hp_147]; decide) (by decide +kernel) ?_
    exact oj_X4_note_116 hd R l0 f0 l1 f1 l2 f2 l3 f3 hQ h
  refine go_tsout (dflt := 115) (lo := 0) (hi := 7) (offs := #[47, 115, 100, 115, 69, 115, 100, 85]) (t := 116) (by decide +kernel) f1 (by omega) (by decide +kernel) ?_
  exact oj_X4_note_116 hd R l0 f0 l1 f1 l2 f2 l3 f3 hQ h
noncomputable def fl_X8_isParent_2 (y1 : Int) (m0 : MM) : Nat → Int → Option Int
  | 0, _ => none
  | n + 1, y2 => lx (m0 17 5) fun x_11 =>
if y2 < x_11 then
if y2 < 12 then
gd (0 ≤ y2 ∧ y2 < 12) <| lx (m0 19 y2) fun x_32 =>
gd (okc m0 x_32 2) <| lx (m0 x_32 1) fun x_38 =>
if x_38 = y1 then
some 1
else
lx (w32 (y2 + 1)) fun x_46 =>
fl_X8_isParent_2 y1 m0 n x_46
else
some 0
else
some 0
set_option maxHeartbeats 4000000 in
theorem ol_X8_isParent_2 {xs : List Int32} {d : Nat} {Q : QO → QS → Prop} {m0 : MM} {y1 : Int} {rz : Int}
  (hd : 0 ≤ d)
  (hQ : ∀ o S1, Rp S1 m0 → q_out 0 o rz → Q o S1) :
  ∀ (n : Nat) {S : QS} {L : QL} {y2 : Int} {v0 : Value} {v1 : Value} {v2 : Value} , fl_X8_isParent_2 y1 m0 n y2 = some rz → Rp S m0 → q_lo L 0 = some v0 → q_is 2 v0 17 → q_lo L 1 = some v1 → q_is 0 v1 y1 → q_lo L 2 = some v2 → q_is 0 v2 y2 → Go xs d qM_X8_isParent 2 L [] S Q := by
  intro n
  induction n with
  | zero => intro S L y2 v0 v1 v2; intro h R l0 f0 l1 f1 l2 f2; cases h
  | succ n ih0 =>
    intro S L y2 v0 v1 v2; intro h R l0 f0 l1 f1 l2 f2
    have ih : ∀ {z2 : Int} {Sq : QS} {Lq : QL} {u0 : Value} {u1 : Value} {u2 : Value}, fl_X8_isParent_2 y1 m0 n z2 = some rz → Rp Sq m0 → q_lo Lq 0 = some u0 → q_is 2 u0 17 → q_lo Lq 1 = some u1 → q_is 0 u1 y1 → q_lo Lq 2 = some u2 → q_is 0 u2 z2 → Go xs d qM_X8_isParent 2 Lq [] Sq Q := by intros; exact ih0 ‹_› ‹_› ‹_› ‹_› ‹_› ‹_› ‹_› ‹_›
    unfold fl_X8_isParent_2 at h
    refine go_iload_n (n := 2) (by decide +kernel) l2 f2 ?_
    refine go_aload_n (n := 0) (by decide +kernel) l0 f0 ?_
    obtain ⟨x_11, e_12, h⟩ := lx_s h
    refine go_getf (x := 36) (ci := 9) (kf := 5) (fin := 0) (t := 0) (by decide +kernel) (by decide +kernel) (by decide +kernel) R f0 (fx_k (c := 9) R (by decide +kernel)) fun v_8 f_9 => ?_
    have f_10 := q_is_eq f_9 e_12
    refine go_icmp (c := .ge) (o := 33) (t := 40) (P := ¬ (y2 < x_11)) (by decide +kernel) (by decide +kernel) f2 f_10 (Int.not_lt.symm) (fun hp_13 => ?_) (fun hp_13 => ?_)
    · have h := it_f hp_13 h
      refine go_iconst (n := 0) (z := 0) (by decide +kernel) (by decide) fun v_14 f_15 => ?_
      cases h
      exact go_iret (by decide +kernel) rfl (Or.inr ⟨rfl, by decide⟩) f_15 (hQ _ _ R (q_out_v (by decide) f_15))
    · have h := it_n hp_13 h
      refine go_iload_n (n := 2) (by decide +kernel) l2 f2 ?_
      refine go_aload_n (n := 0) (by decide +kernel) l0 f0 ?_
      refine go_getf (x := 17) (ci := 9) (kf := 1) (fin := 1) (t := 2) (by decide +kernel) (by decide +kernel) (by decide +kernel) R f0 (fx_k (c := 9) R (by decide +kernel)) fun v_16 f_17 => ?_
      have f_18 := q_is_eq (b := 19) f_17 (fx_v R (by decide +kernel)).symm
      refine go_alen (by decide +kernel) R f_18 (okl_of (fx_k (c := 103) R (by decide +kernel)) (by decide)) fun v_19 f_20 => ?_
      have f_21 := q_is_eq (b := 12) f_20 (by rw [fx_l R (ln := 12) (by decide +kernel)]; decide)
      refine go_icmp (c := .ge) (o := 24) (t := 40) (P := ¬ (y2 < 12)) (by decide +kernel) (by decide +kernel) f2 f_21 (Int.not_lt.symm) (fun hp_22 => ?_) (fun hp_22 => ?_)
      · have h := it_f hp_22 h
        refine go_iconst (n := 0) (z := 0) (by decide +kernel) (by decide) fun v_23 f_24 => ?_
        cases h
        exact go_iret (by decide +kernel) rfl (Or.inr ⟨rfl, by decide⟩) f_24 (hQ _ _ R (q_out_v (by decide) f_24))
      · have h := it_n hp_22 h
        refine go_aload_n (n := 0) (by decide +kernel) l0 f0 ?_
        refine go_getf (x := 17) (ci := 9) (kf := 1) (fin := 1) (t := 2) (by decide +kernel) (by decide +kernel) (by decide +kernel) R f0 (fx_k (c := 9) R (by decide +kernel)) fun v_25 f_26 => ?_
        have f_27 := q_is_eq (b := 19) f_26 (fx_v R (by decide +kernel)).symm
        refine go_iload_n (n := 2) (by decide +kernel) l2 f2 ?_
        obtain ⟨g_30, h⟩ := gd_s h
        obtain ⟨x_32, e_33, h⟩ := lx_s h
        refine go_aald (kd := 103) (by decide +kernel) (by decide) R f_27 f2 (fx_k (c := 103) R (by decide +kernel)) (fx_x (a := 19) (ln := 12) R (by decide +kernel) g_30) fun v_28 f_29 => ?_
        have f_31 := q_is_eq f_29 e_33
        obtain ⟨g_36, h⟩ := gd_s h
        obtain ⟨x_38, e_39, h⟩ := lx_s h
        refine go_getf (x := 122) (ci := 2) (kf := 1) (fin := 0) (t := 0) (by decide +kernel) (by decide +kernel) (by decide +kernel) R f_31 g_36 fun v_34 f_35 => ?_
        have f_37 := q_is_eq f_35 e_39
        refine go_iload_n (n := 1) (by decide +kernel) l1 f1 ?_
        refine go_icmp (c := .ne) (o := 5) (t := 34) (P := ¬ (x_38 = y1)) (by decide +kernel) (by decide +kernel) f_37 f1 (Iff.rfl) (fun hp_40 => ?_) (fun hp_40 => ?_)
        · have h := it_f hp_40 h
          refine go_iinc (n := 2) (c := 1) (c' := 1) (by decide +kernel) (by decide +kernel) l2 f2 (by decide) fun L_41 v_42 f_43 l_44 kp_45 => ?_
          obtain ⟨x_46, e_47, h⟩ := lx_s h
          have f_48 := q_is_eq f_43 e_47
          have l_49 := kp_45 0 _ l0 (by decide) (Or.inl (by decide))
          have l_50 := kp_45 1 _ l1 (by decide) (Or.inr (q_is_cat f1 (Or.inl rfl)))
          refine go_goto (o := (-35)) (t := 2) (by decide +kernel) (by decide +kernel) ?_
          exact ih h R l_49 f0 l_50 f1 l_44 f_48
        · have h := it_n hp_40 h
          refine go_iconst (n := 1) (z := 1) (by decide +kernel) (by decide) fun v_51 f_52 => ?_
          cases h
          exact go_iret (by decide +kernel) rfl (Or.inr ⟨rfl, by decide⟩) f_52 (hQ _ _ R (q_out_v (by decide) f_52))
noncomputable def fm_X8_isParent (p1 : Int) (m0 : MM) : Option Int := fl_X8_isParent_2 p1 m0  BIG 0
set_option maxHeartbeats 4000000 in
theorem om_X8_isParent {xs : List Int32} {d : Nat} {S : QS} {m0 : MM} {p1 : Int} {v0 : Value} {v1 : Value} {rz : Int}
  (hd : 1 ≤ d) (R : Rp S m0) (f0 : q_is 2 v0 17) (f1 : q_is 0 v1 p1)
  (h : fm_X8_isParent p1 m0 = some rz) : Mt xs d 90 [v0, v1] S (Cr 0 m0 m0 rz) := by
  obtain ⟨d, rfl⟩ : ∃ e, d = e + 1 := ⟨d - 1, by omega⟩
  have hd : 0 ≤ d := Nat.le_of_succ_le_succ hd
  refine Mt.of (M := qM_X8_isParent) rfl (by rw [sl_1 (q_is_cat f0 (Or.inr rfl)), sl_1 (q_is_cat f1 (Or.inl rfl)), sl_0]; decide) ?_
  rw [la_1 (q_is_cat f0 (Or.inr rfl)), la_1 (q_is_cat f1 (Or.inl rfl)), la_0]
  obtain ⟨L, hL⟩ : ∃ L : QL, L = [(0, v0), (0 + 1, v1)] := ⟨_, rfl⟩
  rw [← hL]
  have l0 : q_lo L 0 = some v0 := by rw [hL]; rfl
  have l1 : q_lo L 1 = some v1 := by rw [hL]; rfl
  have hQ : ∀ o S1, Rp S1 m0 → q_out 0 o rz → (Cr 0 m0 m0 rz) o S1 := fun o S1 a b => ⟨a, Ext.rf _, b⟩
  unfold fm_X8_isParent at h
  refine go_iconst (n := 0) (z := 0) (by decide +kernel) (by decide) fun v_1 f_2 => ?_
  refine go_istore_n (n := 2) (by decide +kernel) (by decide +kernel) f_2 fun L_3 l_4 kp_5 => ?_
  have l_6 := kp_5 0 _ l0 (by decide) (Or.inl (by decide))
  have l_7 := kp_5 1 _ l1 (by decide) (Or.inr (q_is_cat f1 (Or.inl rfl)))
  refine ol_X8_isParent_2 hd   hQ BIG h R l_6 f0 l_7 f1 l_4 f_2
noncomputable def fm_X8_isAble (p1 : Int) (m0 : MM) : Option Int := gd (okc m0 p1 2) <| lx (m0 p1 7) fun x_5 =>
if x_5 = 0 then
some 1
else if x_5 = 3 then
lx (m0 p1 8) fun x_16 =>
bp (fm_X8_queue x_16 m0) fun x_19 =>
gd (okc m0 x_19 6) <| lx (m0 x_19 2) fun x_31 =>
if 0 < x_31 then
some 1
else
some 0
else if x_5 = 4 then
lx (m0 p1 0) fun x_43 =>
bp (fm_X8_isParent x_43 m0) fun x_46 =>
if x_46 = 0 then
some 1
else
some 0
else 
some 0
set_option maxHeartbeats 4000000 in
theorem om_X8_isAble {xs : List Int32} {d : Nat} {S : QS} {m0 : MM} {p1 : Int} {v0 : Value} {v1 : Value} {rz : Int}
  (hd : 3 ≤ d) (R : Rp S m0) (f0 : q_is 2 v0 17) (f1 : q_is 2 v1 p1)
  (h : fm_X8_isAble p1 m0 = some rz) : Mt xs d 89 [v0, v1] S (Cr 0 m0 m0 rz) := by
  obtain ⟨d, rfl⟩ : ∃ e, d = e + 1 := ⟨d - 1, by omega⟩
  have hd : 2 ≤ d := Nat.le_of_succ_le_succ hd
  refine Mt.of (M := qM_X8_isAble) rfl (by rw [sl_1 (q_is_cat f0 (Or.inr rfl)), sl_1 (q_is_cat f1 (Or.inr rfl)), sl_0]; decide) ?_
  rw [la_1 (q_is_cat f0 (Or.inr rfl)), la_1 (q_is_cat f1 (Or.inr rfl)), la_0]
  obtain ⟨L, hL⟩ : ∃ L : QL, L = [(0, v0), (0 + 1, v1)] := ⟨_, rfl⟩
  rw [← hL]
  have l0 : q_lo L 0 = some v0 := by rw [hL]; rfl
  have l1 : q_lo L 1 = some v1 := by rw [hL]; rfl
  have hQ : ∀ o S1, Rp S1 m0 → q_out 0 o rz → (Cr 0 m0 m0 rz) o S1 := fun o S1 a b => ⟨a, Ext.rf _, b⟩
  unfold fm_X8_isAble at h
  refine go_aload_n (n := 1) (by decide +kernel) l1 f1 ?_
  obtain ⟨g_3, h⟩ := gd_s h
  obtain ⟨x_5, e_6, h⟩ := lx_s h
  refine go_getf (x := 108) (ci := 2) (kf := 7) (fin := 0) (t := 0) (by decide +kernel) (by decide +kernel) (by decide +kernel) R f1 g_3 fun v_1 f_2 => ?_
  have f_4 := q_is_eq f_2 e_6
  by_cases hp_8 : x_5 = 0
  · have h := it_t hp_8 h
    refine go_tsin (dflt := 75) (lo := 0) (hi := 4) (offs := #[36, 75, 75, 38, 58]) (o := 36) (t := 40) (by decide +kernel) f_4 (by omega) (by omega) (by rw [hp_8]; decide) (by decide +kernel) ?_
    refine go_iconst (n := 1) (z := 1) (by decide +kernel) (by decide) fun v_9 f_10 => ?_
    cases h
    exact go_iret (by decide +kernel) rfl (Or.inr ⟨rfl, by decide⟩) f_10 (hQ _ _ R (q_out_v (by decide) f_10))
  have h := it_f hp_8 h
  by_cases hp_12 : x_5 = 3
  · have h := it_t hp_12 h
    refine go_tsin (dflt := 75) (lo := 0) (hi := 4) (offs := #[36, 75, 75, 38, 58]) (o := 38) (t := 42) (by decide +kernel) f_4 (by omega) (by omega) (by rw [hp_12]; decide) (by decide +kernel) ?_
    refine go_aload_n (n := 0) (by decide +kernel) l0 f0 ?_
    refine go_aload_n (n := 1) (by decide +kernel) l1 f1 ?_
    obtain ⟨x_16, e_17, h⟩ := lx_s h
    refine go_getf (x := 111) (ci := 2) (kf := 8) (fin := 0) (t := 0) (by decide +kernel) (by decide +kernel) (by decide +kernel) R f1 g_3 fun v_13 f_14 => ?_
    have f_15 := q_is_eq f_14 e_17
    obtain ⟨x_19, hc_18, h⟩ := bp_s h
    refine go_callV (x := 114) (mi := 83) (n := 1) (ci := 9) (as := [v_13]) (rest := []) (by decide +kernel) (by decide +kernel) rfl rfl (q_sum8 _ (Nat.le_of_ble_eq_true rfl)) R f0 (fx_k (c := 9) R (by decide +kernel)) (om_X8_queue (Nat.le_trans (by decide) hd) R f0 f_15 hc_18) (fun _ S_23 q_26 => ?_) (fun _ _ qq => kr_x qq)
    refine kr_z (by decide) q_26 fun v_21 f_22 R_24 E_25 => ?_
    obtain ⟨g_29, h⟩ := gd_s h
    obtain ⟨x_31, e_32, h⟩ := lx_s h
    refine go_getf (x := 81) (ci := 6) (kf := 2) (fin := 0) (t := 0) (by decide +kernel) (by decide +kernel) (by decide +kernel) R_24 f_22 g_29 fun v_27 f_28 => ?_
    have f_30 := q_is_eq f_28 e_32
    refine go_if (c := .le) (o := 7) (t := 60) (P := ¬ (0 < x_31)) (by decide +kernel) (by decide +kernel) f_30 (Int.not_lt.symm) (fun hp_33 => ?_) (fun hp_33 => ?_)
    · have h := it_f hp_33 h
      refine go_iconst (n := 0) (z := 0) (by decide +kernel) (by decide) fun v_34 f_35 => ?_
      cases h
      exact go_iret (by decide +kernel) rfl (Or.inr ⟨rfl, by decide⟩) f_35 (hQ _ _ R_24 (q_out_v (by decide) f_35))
    · have h := it_n hp_33 h
      refine go_iconst (n := 1) (z := 1) (by decide +kernel) (by decide) fun v_36 f_37 => ?_
      refine go_goto (o := 4) (t := 61) (by decide +kernel) (by decide +kernel) ?_
      cases h
      exact go_iret (by decide +kernel) rfl (Or.inr ⟨rfl, by decide⟩) f_37 (hQ _ _ R_24 (q_out_v (by decide) f_37))
  have h := it_f hp_12 h
  by_cases hp_39 : x_5 = 4
  · have h := it_t hp_39 h
    refine go_tsin (dflt := 75) (lo := 0) (hi := 4) (offs := #[36, 75, 75, 38, 58]) (o := 58) (t := 62) (by decide +kernel) f_4 (by omega) (by omega) (by rw [hp_39]; decide) (by decide +kernel) ?_
    refine go_aload_n (n := 0) (by decide +kernel) l0 f0 ?_
    refine go_aload_n (n := 1) (by decide +kernel) l1 f1 ?_
    obtain ⟨x_43, e_44, h⟩ := lx_s h
    refine go_getf (x := 94) (ci := 2) (kf := 0) (fin := 0) (t := 0) (by decide +kernel) (by decide +kernel) (by decide +kernel) R f1 g_3 fun v_40 f_41 => ?_
    have f_42 := q_is_eq f_41 e_44
    obtain ⟨x_46, hc_45, h⟩ := bp_s h
    refine go_callV (x := 118) (mi := 90) (n := 1) (ci := 9) (as := [v_40]) (rest := []) (by decide +kernel) (by decide +kernel) rfl rfl (q_sum8 _ (Nat.le_of_ble_eq_true rfl)) R f0 (fx_k (c := 9) R (by decide +kernel)) (om_X8_isParent (Nat.le_trans (by decide) hd) R f0 f_42 hc_45) (fun _ S_50 q_53 => ?_) (fun _ _ qq => kr_x qq)
    refine kr_z (by decide) q_53 fun v_48 f_49 R_51 E_52 => ?_
    refine go_if (c := .ne) (o := 7) (t := 77) (P := ¬ (x_46 = 0)) (by decide +kernel) (by decide +kernel) f_49 (Iff.rfl) (fun hp_54 => ?_) (fun hp_54 => ?_)
    · have h := it_f hp_54 h
      refine go_iconst (n := 0) (z := 0) (by decide +kernel) (by decide) fun v_55 f_56 => ?_
      cases h
      exact go_iret (by decide +kernel) rfl (Or.inr ⟨rfl, by decide⟩) f_56 (hQ _ _ R_51 (q_out_v (by decide) f_56))
    · have h := it_n hp_54 h
      refine go_iconst (n := 1) (z := 1) (by decide +kernel) (by decide) fun v_57 f_58 => ?_
      refine go_goto (o := 4) (t := 78) (by decide +kernel) (by decide +kernel) ?_
      cases h
      exact go_iret (by decide +kernel) rfl (Or.inr ⟨rfl, by decide⟩) f_58 (hQ _ _ R_51 (q_out_v (by decide) f_58))
  have h := it_f hp_39 h
  by_cases hp_61 : x_5 = 1
  · refine go_tsin (dflt := 75) (lo := 0) (hi := 4) (offs := #[36, 75, 75, 38, 58]) (o := 75) (t := 79) (by decide +kernel) f_4 (by omega) (by omega) (by rw [hp_61]; decide) (by decide +kernel) ?_
    refine go_iconst (n := 0) (z := 0) (by decide +kernel) (by decide) fun v_59 f_60 => ?_
    cases h
    exact go_iret (by decide +kernel) rfl (Or.inr ⟨rfl, by decide⟩) f_60 (hQ _ _ R (q_out_v (by decide) f_60))
  by_cases hp_62 : x_5 = 2
  · refine go_tsin (dflt := 75) (lo := 0) (hi := 4) (offs := #[36, 75, 75, 38, 58]) (o := 75) (t := 79) (by decide +kernel) f_4 (by omega) (by omega) (by rw [hp_62]; decide) (by decide +kernel) ?_
    refine go_iconst (n := 0) (z := 0) (by decide +kernel) (by decide) fun v_59 f_60 => ?_
    cases h
    exact go_iret (by decide +kernel) rfl (Or.inr ⟨rfl, by decide⟩) f_60 (hQ _ _ R (q_out_v (by decide) f_60))
  refine go_tsout (dflt := 75) (lo := 0) (hi := 4) (offs := #[36, 75, 75, 38, 58]) (t := 79) (by decide +kernel) f_4 (by omega) (by decide +kernel) ?_
  refine go_iconst (n := 0) (z := 0) (by decide +kernel) (by decide) fun v_59 f_60 => ?_
  cases h
  exact go_iret (by decide +kernel) rfl (Or.inr ⟨rfl, by decide⟩) f_60 (hQ _ _ R (q_out_v (by decide) f_60))
noncomputable def fl_X8_firstAble_2 (m0 : MM) : Nat → Int → Option Int
  | 0, _ => none
  | n + 1, y1 => lx (m0 17 5) fun x_10 =>
if y1 < x_10 then
if y1 < 12 then
gd (0 ≤ y1 ∧ y1 < 12) <| lx (m0 19 y1) fun x_31 =>
bp (fm_X8_isAble x_31 m0) fun x_34 =>
if x_34 = 0 then
lx (w32 (y1 + 1)) fun x_48 =>
fl_X8_firstAble_2 m0 n x_48
else
some x_31
else
some 0
else
some 0
set_option maxHeartbeats 4000000 in
theorem ol_X8_firstAble_2 {xs : List Int32} {d : Nat} {Q : QO → QS → Prop} {m0 : MM} {rz : Int}
  (hd : 3 ≤ d)
  (hQ : ∀ o S1, Rp S1 m0 → q_out 2 o rz → Q o S1) :
  ∀ (n : Nat) {S : QS} {L : QL} {y1 : Int} {v0 : Value} {v1 : Value} , fl_X8_firstAble_2 m0 n y1 = some rz → Rp S m0 → q_lo L 0 = some v0 → q_is 2 v0 17 → q_lo L 1 = some v1 → q_is 0 v1 y1 → Go xs d qM_X8_firstAble 2 L [] S Q := by
  intro n
  induction n with
  | zero => intro S L y1 v0 v1; intro h R l0 f0 l1 f1; cases h
  | succ n ih0 =>
    intro S L y1 v0 v1; intro h R l0 f0 l1 f1
    have ih : ∀ {z1 : Int} {Sq : QS} {Lq : QL} {u0 : Value} {u1 : Value}, fl_X8_firstAble_2 m0 n z1 = some rz → Rp Sq m0 → q_lo Lq 0 = some u0 → q_is 2 u0 17 → q_lo Lq 1 = some u1 → q_is 0 u1 z1 → Go xs d qM_X8_firstAble 2 Lq [] Sq Q := by intros; exact ih0 ‹_› ‹_› ‹_› ‹_› ‹_› ‹_›
    unfold fl_X8_firstAble_2 at h
    refine go_iload_n (n := 1) (by decide +kernel) l1 f1 ?_
    refine go_aload_n (n := 0) (by decide +kernel) l0 f0 ?_
    obtain ⟨x_10, e_11, h⟩ := lx_s h
    refine go_getf (x := 36) (ci := 9) (kf := 5) (fin := 0) (t := 0) (by decide +kernel) (by decide +kernel) (by decide +kernel) R f0 (fx_k (c := 9) R (by decide +kernel)) fun v_7 f_8 => ?_
    have f_9 := q_is_eq f_8 e_11
    refine go_icmp (c := .ge) (o := 38) (t := 45) (P := ¬ (y1 < x_10)) (by decide +kernel) (by decide +kernel) f1 f_9 (Int.not_lt.symm) (fun hp_12 => ?_) (fun hp_12 => ?_)
    · have h := it_f hp_12 h
      refine go_null (by decide +kernel) fun v_13 f_14 => ?_
      cases h
      exact go_aret (by decide +kernel) rfl rfl f_14 (hQ _ _ R (q_out_v (by decide) f_14))
    · have h := it_n hp_12 h
      refine go_iload_n (n := 1) (by decide +kernel) l1 f1 ?_
      refine go_aload_n (n := 0) (by decide +kernel) l0 f0 ?_
      refine go_getf (x := 17) (ci := 9) (kf := 1) (fin := 1) (t := 2) (by decide +kernel) (by decide +kernel) (by decide +kernel) R f0 (fx_k (c := 9) R (by decide +kernel)) fun v_15 f_16 => ?_
      have f_17 := q_is_eq (b := 19) f_16 (fx_v R (by decide +kernel)).symm
      refine go_alen (by decide +kernel) R f_17 (okl_of (fx_k (c := 103) R (by decide +kernel)) (by decide)) fun v_18 f_19 => ?_
      have f_20 := q_is_eq (b := 12) f_19 (by rw [fx_l R (ln := 12) (by decide +kernel)]; decide)
      refine go_icmp (c := .ge) (o := 29) (t := 45) (P := ¬ (y1 < 12)) (by decide +kernel) (by decide +kernel) f1 f_20 (Int.not_lt.symm) (fun hp_21 => ?_) (fun hp_21 => ?_)
      · have h := it_f hp_21 h
        refine go_null (by decide +kernel) fun v_22 f_23 => ?_
        cases h
        exact go_aret (by decide +kernel) rfl rfl f_23 (hQ _ _ R (q_out_v (by decide) f_23))
      · have h := it_n hp_21 h
        refine go_aload_n (n := 0) (by decide +kernel) l0 f0 ?_
        refine go_aload_n (n := 0) (by decide +kernel) l0 f0 ?_
        refine go_getf (x := 17) (ci := 9) (kf := 1) (fin := 1) (t := 2) (by decide +kernel) (by decide +kernel) (by decide +kernel) R f0 (fx_k (c := 9) R (by decide +kernel)) fun v_24 f_25 => ?_
        have f_26 := q_is_eq (b := 19) f_25 (fx_v R (by decide +kernel)).symm
        refine go_iload_n (n := 1) (by decide +kernel) l1 f1 ?_
        obtain ⟨g_29, h⟩ := gd_s h
        obtain ⟨x_31, e_32, h⟩ := lx_s h
        refine go_aald (kd := 103) (by decide +kernel) (by decide) R f_26 f1 (fx_k (c := 103) R (by decide +kernel)) (fx_x (a := 19) (ln := 12) R (by decide +kernel) g_29) fun v_27 f_28 => ?_
        have f_30 := q_is_eq f_28 e_32
        obtain ⟨x_34, hc_33, h⟩ := bp_s h
        refine go_callV (x := 104) (mi := 89) (n := 1) (ci := 9) (as := [v_27]) (rest := []) (by decide +kernel) (by decide +kernel) rfl rfl (q_sum8 _ (Nat.le_of_ble_eq_true rfl)) R f0 (fx_k (c := 9) R (by decide +kernel)) (om_X8_isAble (Nat.le_trans (by decide) hd) R f0 f_30 hc_33) (fun _ S_38 q_41 => ?_) (fun _ _ qq => kr_x qq)
        refine kr_z (by decide) q_41 fun v_36 f_37 R_39 E_40 => ?_
        refine go_if (c := .eq) (o := 10) (t := 39) (P := x_34 = 0) (by decide +kernel) (by decide +kernel) f_37 (Iff.rfl) (fun hp_42 => ?_) (fun hp_42 => ?_)
        · have h := it_t hp_42 h
          refine go_iinc (n := 1) (c := 1) (c' := 1) (by decide +kernel) (by decide +kernel) l1 f1 (by decide) fun L_43 v_44 f_45 l_46 kp_47 => ?_
          obtain ⟨x_48, e_49, h⟩ := lx_s h
          have f_50 := q_is_eq f_45 e_49
          have l_51 := kp_47 0 _ l0 (by decide) (Or.inr (q_is_cat f0 (Or.inr rfl)))
          refine go_goto (o := (-40)) (t := 2) (by decide +kernel) (by decide +kernel) ?_
          exact ih h R_39 l_51 f0 l_46 f_50
        · have h := it_f hp_42 h
          refine go_aload_n (n := 0) (by decide +kernel) l0 f0 ?_
          refine go_getf (x := 17) (ci := 9) (kf := 1) (fin := 1) (t := 2) (by decide +kernel) (by decide +kernel) (by decide +kernel) R_39 f0 (fx_k (c := 9) R_39 (by decide +kernel)) fun v_52 f_53 => ?_
          have f_54 := q_is_eq (b := 19) f_53 (fx_v R_39 (by decide +kernel)).symm
          refine go_iload_n (n := 1) (by decide +kernel) l1 f1 ?_
          refine go_aald (kd := 103) (by decide +kernel) (by decide) R_39 f_54 f1 (fx_k (c := 103) R_39 (by decide +kernel)) (fx_x (a := 19) (ln := 12) R_39 (by decide +kernel) g_29) fun v_55 f_56 => ?_
          have f_57 := q_is_eq f_56 e_32
          cases h
          exact go_aret (by decide +kernel) rfl rfl f_57 (hQ _ _ R_39 (q_out_v (by decide) f_57))
noncomputable def fm_X8_firstAble (m0 : MM) : Option Int := fl_X8_firstAble_2 m0  BIG 0
set_option maxHeartbeats 4000000 in
theorem om_X8_firstAble {xs : List Int32} {d : Nat} {S : QS} {m0 : MM} {v0 : Value} {rz : Int}
  (hd : 4 ≤ d) (R : Rp S m0) (f0 : q_is 2 v0 17)
  (h : fm_X8_firstAble m0 = some rz) : Mt xs d 88 [v0] S (Cr 2 m0 m0 rz) := by
  obtain ⟨d, rfl⟩ : ∃ e, d = e + 1 := ⟨d - 1, by omega⟩
  have hd : 3 ≤ d := Nat.le_of_succ_le_succ hd
  refine Mt.of (M := qM_X8_firstAble) rfl (by rw [sl_1 (q_is_cat f0 (Or.inr rfl)), sl_0]; decide) ?_
  rw [la_1 (q_is_cat f0 (Or.inr rfl)), la_0]
  obtain ⟨L, hL⟩ : ∃ L : QL, L = [(0, v0)] := ⟨_, rfl⟩
  rw [← hL]
  have l0 : q_lo L 0 = some v0 := by rw [hL]; rfl
  have hQ : ∀ o S1, Rp S1 m0 → q_out 2 o rz → (Cr 2 m0 m0 rz) o S1 := fun o S1 a b => ⟨a, Ext.rf _, b⟩
  unfold fm_X8_firstAble at h
  refine go_iconst (n := 0) (z := 0) (by decide +kernel) (by decide) fun v_1 f_2 => ?_
  refine go_istore_n (n := 1) (by decide +kernel) (by decide +kernel) f_2 fun L_3 l_4 kp_5 => ?_
  have l_6 := kp_5 0 _ l0 (by decide) (Or.inr (q_is_cat f0 (Or.inr rfl)))
  refine ol_X8_firstAble_2 hd   hQ BIG h R l_6 f0 l_4 f_2
noncomputable def fm_X5_put (p0 p1 p2 : Int) (m0 : MM) : Option (Int × MM) := lx (iShr p1 6) fun x_5 =>
lx (iAnd p1 63) fun x_18 =>
if p1 < 0 then
some (0, m0)
else
lx (m0 p0 2) fun x_32 =>
if p1 < x_32 then
lx (m0 p0 0) fun x_38 =>
gd (okc m0 x_38 108) <| if x_5 < w32 (m0 x_38 (-2)) then
gd (okx m0 x_38 x_5) <| lx (m0 x_38 x_5) fun x_51 =>
if x_51 = 0 then
some (0, m0)
else
gd (okc m0 x_51 101) <| if x_18 < w32 (m0 x_51 (-2)) then
gd (okx m0 x_51 x_18) <| gd (163 ≤ x_51) <| up m0 x_51 x_18 p2 fun m_72 =>
some (0, m_72)
else
some (0, m0)
else
some (0, m0)
else
some (0, m0)
set_option maxHeartbeats 4000000 in
theorem om_X5_put {xs : List Int32} {d : Nat} {S : QS} {m0 : MM} {p0 p1 p2 : Int} {v0 : Value} {v1 : Value} {v2 : Value} {rz : Int} {rm : MM}
  (hd : 1 ≤ d) (R : Rp S m0) (g0 : okc m0 p0 6) (f0 : q_is 2 v0 p0) (f1 : q_is 0 v1 p1) (f2 : q_is 1 v2 p2)
  (h : fm_X5_put p0 p1 p2 m0 = some (rz, rm)) : Mt xs d 62 [v0, v1, v2] S (Cr 9 m0 rm rz) := by
  obtain ⟨d, rfl⟩ : ∃ e, d = e + 1 := ⟨d - 1, by omega⟩
  have hd : 0 ≤ d := Nat.le_of_succ_le_succ hd
  refine Mt.of (M := qM_X5_put) rfl (by rw [sl_1 (q_is_cat f0 (Or.inr rfl)), sl_1 (q_is_cat f1 (Or.inl rfl)), sl_2 (q_is_cat2 f2), sl_0]; decide) ?_
  rw [la_1 (q_is_cat f0 (Or.inr rfl)), la_1 (q_is_cat f1 (Or.inl rfl)), la_2 (q_is_cat2 f2), la_0]
  obtain ⟨L, hL⟩ : ∃ L : QL, L = [(0, v0), (0 + 1, v1), (0 + 1 + 1, v2)] := ⟨_, rfl⟩
  rw [← hL]
  have l0 : q_lo L 0 = some v0 := by rw [hL]; rfl
  have l1 : q_lo L 1 = some v1 := by rw [hL]; rfl
  have l2 : q_lo L 2 = some v2 := by rw [hL]; rfl
  have hQ : Ext m0 rm → ∀ o S1, Rp S1 rm → q_out 9 o rz → (Cr 9 m0 rm rz) o S1 := fun a o S1 b e => ⟨b, a, e⟩
  unfold fm_X5_put at h
  refine go_iload_n (n := 1) (by decide +kernel) l1 f1 ?_
  refine go_bipush (n := 6) (z := 6) (by decide +kernel) (by decide) fun v_1 f_2 => ?_
  refine go_ishr (by decide +kernel) f1 f_2 fun v_3 f_4 => ?_
  obtain ⟨x_5, e_6, h⟩ := lx_s h
  have f_7 := q_is_eq f_4 e_6
  refine go_istore (n := 4) (by decide +kernel) (by decide +kernel) f_7 fun L_8 l_9 kp_10 => ?_
  have l_11 := kp_10 0 _ l0 (by decide) (Or.inl (by decide))
  have l_12 := kp_10 1 _ l1 (by decide) (Or.inl (by decide))
  have l_13 := kp_10 2 _ l2 (by decide) (Or.inl (by decide))
  refine go_iload_n (n := 1) (by decide +kernel) l_12 f1 ?_
  refine go_bipush (n := 63) (z := 63) (by decide +kernel) (by decide) fun v_14 f_15 => ?_
  refine go_iand (by decide +kernel) f1 f_15 fun v_16 f_17 => ?_
  obtain ⟨x_18, e_19, h⟩ := lx_s h
  have f_20 := q_is_eq f_17 e_19
  refine go_istore (n := 5) (by decide +kernel) (by decide +kernel) f_20 fun L_21 l_22 kp_23 => ?_
  have l_24 := kp_23 0 _ l_11 (by decide) (Or.inl (by decide))
  have l_25 := kp_23 1 _ l_12 (by decide) (Or.inl (by decide))
  have l_26 := kp_23 2 _ l_13 (by decide) (Or.inl (by decide))
  have l_27 := kp_23 4 _ l_9 (by decide) (Or.inr (q_is_cat f_7 (Or.inl rfl)))
  refine go_iload_n (n := 1) (by decide +kernel) l_25 f1 ?_
  refine go_if (c := .lt) (o := 55) (t := 68) (P := p1 < 0) (by decide +kernel) (by decide +kernel) f1 (Iff.rfl) (fun hp_28 => ?_) (fun hp_28 => ?_)
  · have h := it_t hp_28 h
    cases h
    exact go_vret (by decide +kernel) rfl (hQ (Ext.rf _) _ _ R q_out_n)
  · have h := it_f hp_28 h
    refine go_iload_n (n := 1) (by decide +kernel) l_25 f1 ?_
    refine go_aload_n (n := 0) (by decide +kernel) l_24 f0 ?_
    obtain ⟨x_32, e_33, h⟩ := lx_s h
    refine go_getf (x := 19) (ci := 6) (kf := 2) (fin := 0) (t := 0) (by decide +kernel) (by decide +kernel) (by decide +kernel) R f0 g0 fun v_29 f_30 => ?_
    have f_31 := q_is_eq f_30 e_33
    refine go_icmp (c := .ge) (o := 47) (t := 68) (P := ¬ (p1 < x_32)) (by decide +kernel) (by decide +kernel) f1 f_31 (Int.not_lt.symm) (fun hp_34 => ?_) (fun hp_34 => ?_)
    · have h := it_f hp_34 h
      cases h
      exact go_vret (by decide +kernel) rfl (hQ (Ext.rf _) _ _ R q_out_n)
    · have h := it_n hp_34 h
      refine go_iload (n := 4) (by decide +kernel) l_27 f_7 ?_
      refine go_aload_n (n := 0) (by decide +kernel) l_24 f0 ?_
      obtain ⟨x_38, e_39, h⟩ := lx_s h
      refine go_getf (x := 11) (ci := 6) (kf := 0) (fin := 0) (t := 2) (by decide +kernel) (by decide +kernel) (by decide +kernel) R f0 g0 fun v_35 f_36 => ?_
      have f_37 := q_is_eq f_36 e_39
      obtain ⟨g_42, h⟩ := gd_s h
      refine go_alen (by decide +kernel) R f_37 (okl_of g_42 (by decide)) fun v_40 f_41 => ?_
      refine go_icmp (c := .ge) (o := 37) (t := 68) (P := ¬ (x_5 < w32 (m0 x_38 (-2)))) (by decide +kernel) (by decide +kernel) f_7 f_41 (Int.not_lt.symm) (fun hp_43 => ?_) (fun hp_43 => ?_)
      · have h := it_f hp_43 h
        cases h
        exact go_vret (by decide +kernel) rfl (hQ (Ext.rf _) _ _ R q_out_n)
      · have h := it_n hp_43 h
        refine go_aload_n (n := 0) (by decide +kernel) l_24 f0 ?_
        refine go_getf (x := 11) (ci := 6) (kf := 0) (fin := 0) (t := 2) (by decide +kernel) (by decide +kernel) (by decide +kernel) R f0 g0 fun v_44 f_45 => ?_
        have f_46 := q_is_eq f_45 e_39
        refine go_iload (n := 4) (by decide +kernel) l_27 f_7 ?_
        obtain ⟨g_49, h⟩ := gd_s h
        obtain ⟨x_51, e_52, h⟩ := lx_s h
        refine go_aald (kd := 108) (by decide +kernel) (by decide) R f_46 f_7 g_42 g_49 fun v_47 f_48 => ?_
        have f_50 := q_is_eq f_48 e_52
        refine go_ifnull (o := 27) (t := 68) (by decide +kernel) (by decide +kernel) f_50 (fun hp_53 => ?_) (fun hp_53 => ?_)
        · have h := it_t hp_53 h
          cases h
          exact go_vret (by decide +kernel) rfl (hQ (Ext.rf _) _ _ R q_out_n)
        · have h := it_f hp_53 h
          refine go_iload (n := 5) (by decide +kernel) l_22 f_20 ?_
          refine go_aload_n (n := 0) (by decide +kernel) l_24 f0 ?_
          refine go_getf (x := 11) (ci := 6) (kf := 0) (fin := 0) (t := 2) (by decide +kernel) (by decide +kernel) (by decide +kernel) R f0 g0 fun v_54 f_55 => ?_
          have f_56 := q_is_eq f_55 e_39
          refine go_iload (n := 4) (by decide +kernel) l_27 f_7 ?_
          refine go_aald (kd := 108) (by decide +kernel) (by decide) R f_56 f_7 g_42 g_49 fun v_57 f_58 => ?_
          have f_59 := q_is_eq f_58 e_52
          obtain ⟨g_62, h⟩ := gd_s h
          refine go_alen (by decide +kernel) R f_59 (okl_of g_62 (by decide)) fun v_60 f_61 => ?_
          refine go_icmp (c := .ge) (o := 14) (t := 68) (P := ¬ (x_18 < w32 (m0 x_51 (-2)))) (by decide +kernel) (by decide +kernel) f_20 f_61 (Int.not_lt.symm) (fun hp_63 => ?_) (fun hp_63 => ?_)
          · have h := it_f hp_63 h
            cases h
            exact go_vret (by decide +kernel) rfl (hQ (Ext.rf _) _ _ R q_out_n)
          · have h := it_n hp_63 h
            refine go_aload_n (n := 0) (by decide +kernel) l_24 f0 ?_
            refine go_getf (x := 11) (ci := 6) (kf := 0) (fin := 0) (t := 2) (by decide +kernel) (by decide +kernel) (by decide +kernel) R f0 g0 fun v_64 f_65 => ?_
            have f_66 := q_is_eq f_65 e_39
            refine go_iload (n := 4) (by decide +kernel) l_27 f_7 ?_
            refine go_aald (kd := 108) (by decide +kernel) (by decide) R f_66 f_7 g_42 g_49 fun v_67 f_68 => ?_
            have f_69 := q_is_eq f_68 e_52
            refine go_iload (n := 5) (by decide +kernel) l_22 f_20 ?_
            refine go_lload_n (n := 2) (by decide +kernel) l_26 f2 ?_
            obtain ⟨g_70, h⟩ := gd_s h
            obtain ⟨g_71, h⟩ := gd_s h
            obtain ⟨m_72, e_73, h⟩ := up_s h
            refine go_last (kd := 101) (by decide +kernel) rfl R f_69 f_20 f2 g_62 g_70 e_73 (fx_a R.2 g_62 (And.left g_70) (by decide +kernel)) fun S_74 R_75 E_76 => ?_
            have E_78 := E_76
            cases h
            exact go_vret (by decide +kernel) rfl (hQ E_78 _ _ R_75 q_out_n)
end DF5
