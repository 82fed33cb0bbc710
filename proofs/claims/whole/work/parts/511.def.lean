/-! Methods as functions (written by wip/whole/dec.py), 11: X7_isPoint, X7_pointsSoFar, X8_waitsForSignal, X9_init, X10_packed, Jx4a65c_size_8abf5, J3_checkIndex_8e157, J15_checkIndex_7cf53, Jx4a65c_elementData_915e3, Jx4a65c_get_915e3, X10_code, J8_hugeLength_7cf53, J8_newLength_cabcc, Jx4a65c_grow_92f84, Jx4a65c_grow_d5877, Jx4a65c_add_72be8. -/
section DF11
noncomputable def fm_X7_isPoint (p0 p1 : Int) (m0 : MM) : Option Int := lx (m0 p0 2) fun x_4 =>
if 0 < x_4 then
bp (fm_J9_floorMod_7cf53 p1 x_4 m0) fun x_13 =>
if x_13 = 0 then
some 1
else
some 0
else
some 0
set_option maxHeartbeats 4000000 in
theorem om_X7_isPoint {xs : List Int32} {d : Nat} {S : QS} {m0 : MM} {p0 p1 : Int} {v0 : Value} {v1 : Value} {rz : Int}
  (hd : 2 ≤ d) (R : Rp S m0) (g0 : okc m0 p0 8) (f0 : q_is 2 v0 p0) (f1 : q_is 0 v1 p1)
  (h : fm_X7_isPoint p0 p1 m0 = some rz) : Mt xs d 74 [v0, v1] S (Cr 0 m0 m0 rz) := by
  obtain ⟨d, rfl⟩ : ∃ e, d = e + 1 := ⟨d - 1, by omega⟩
  have hd : 1 ≤ d := Nat.le_of_succ_le_succ hd
  refine Mt.of (M := qM_X7_isPoint) rfl (by rw [sl_1 (q_is_cat f0 (Or.inr rfl)), sl_1 (q_is_cat f1 (Or.inl rfl)), sl_0]; decide) ?_
  rw [la_1 (q_is_cat f0 (Or.inr rfl)), la_1 (q_is_cat f1 (Or.inl rfl)), la_0]
  obtain ⟨L, hL⟩ : ∃ L : QL, L = [(0, v0), (0 + 1, v1)] := ⟨_, rfl⟩
  rw [← hL]
  have l0 : q_lo L 0 = some v0 := by rw [hL]; rfl
  have l1 : q_lo L 1 = some v1 := by rw [hL]; rfl
  have hQ : ∀ o S1, Rp S1 m0 → q_out 0 o rz → (Cr 0 m0 m0 rz) o S1 := fun o S1 a b => ⟨a, Ext.rf _, b⟩
  unfold fm_X7_isPoint at h
  refine go_aload_n (n := 0) (by decide +kernel) l0 f0 ?_
  obtain ⟨x_4, e_5, h⟩ := lx_s h
  refine go_getf (x := 29) (ci := 8) (kf := 2) (fin := 1) (t := 0) (by decide +kernel) (by decide +kernel) (by decide +kernel) R f0 g0 fun v_1 f_2 => ?_
  have f_3 := q_is_eq f_2 e_5
  refine go_if (c := .le) (o := 18) (t := 22) (P := ¬ (0 < x_4)) (by decide +kernel) (by decide +kernel) f_3 (Int.not_lt.symm) (fun hp_6 => ?_) (fun hp_6 => ?_)
  · have h := it_f hp_6 h
    refine go_iconst (n := 0) (z := 0) (by decide +kernel) (by decide) fun v_7 f_8 => ?_
    cases h
    exact go_iret (by decide +kernel) rfl (Or.inr ⟨rfl, by decide⟩) f_8 (hQ _ _ R (q_out_v (by decide) f_8))
  · have h := it_n hp_6 h
    refine go_iload_n (n := 1) (by decide +kernel) l1 f1 ?_
    refine go_aload_n (n := 0) (by decide +kernel) l0 f0 ?_
    refine go_getf (x := 29) (ci := 8) (kf := 2) (fin := 1) (t := 0) (by decide +kernel) (by decide +kernel) (by decide +kernel) R f0 g0 fun v_9 f_10 => ?_
    have f_11 := q_is_eq f_10 e_5
    obtain ⟨x_13, hc_12, h⟩ := bp_s h
    refine go_callS (x := 38) (mi := 318) (n := 2) (b := 0) (as := [v1, v_9]) (rest := []) (by decide +kernel) (by decide +kernel) rfl rfl (q_sum8 _ (Nat.le_of_ble_eq_true rfl)) (om_J9_floorMod_7cf53 (Nat.le_trans (by decide) hd) R f1 f_11 hc_12) (fun _ S_17 q_20 => ?_) (fun _ _ qq => kr_x qq)
    refine kr_z (by decide) q_20 fun v_15 f_16 R_18 E_19 => ?_
    refine go_if (c := .ne) (o := 7) (t := 22) (P := ¬ (x_13 = 0)) (by decide +kernel) (by decide +kernel) f_16 (Iff.rfl) (fun hp_21 => ?_) (fun hp_21 => ?_)
    · have h := it_f hp_21 h
      refine go_iconst (n := 0) (z := 0) (by decide +kernel) (by decide) fun v_22 f_23 => ?_
      cases h
      exact go_iret (by decide +kernel) rfl (Or.inr ⟨rfl, by decide⟩) f_23 (hQ _ _ R_18 (q_out_v (by decide) f_23))
    · have h := it_n hp_21 h
      refine go_iconst (n := 1) (z := 1) (by decide +kernel) (by decide) fun v_24 f_25 => ?_
      refine go_goto (o := 4) (t := 23) (by decide +kernel) (by decide +kernel) ?_
      cases h
      exact go_iret (by decide +kernel) rfl (Or.inr ⟨rfl, by decide⟩) f_25 (hQ _ _ R_18 (q_out_v (by decide) f_25))
noncomputable def fm_X7_pointsSoFar (p0 : Int) (m0 : MM) : Option Int := lx (m0 p0 2) fun x_4 =>
if 0 < x_4 then
lx (m0 p0 4) fun x_12 =>
if 0 < x_12 then
gd (x_4 ≠ 0) <| some (w32 (Int.tdiv x_12 x_4))
else
some 0
else
some 0
set_option maxHeartbeats 4000000 in
theorem om_X7_pointsSoFar {xs : List Int32} {d : Nat} {S : QS} {m0 : MM} {p0 : Int} {v0 : Value} {rz : Int}
  (hd : 1 ≤ d) (R : Rp S m0) (g0 : okc m0 p0 8) (f0 : q_is 2 v0 p0)
  (h : fm_X7_pointsSoFar p0 m0 = some rz) : Mt xs d 75 [v0] S (Cr 0 m0 m0 rz) := by
  obtain ⟨d, rfl⟩ : ∃ e, d = e + 1 := ⟨d - 1, by omega⟩
  have hd : 0 ≤ d := Nat.le_of_succ_le_succ hd
  refine Mt.of (M := qM_X7_pointsSoFar) rfl (by rw [sl_1 (q_is_cat f0 (Or.inr rfl)), sl_0]; decide) ?_
  rw [la_1 (q_is_cat f0 (Or.inr rfl)), la_0]
  obtain ⟨L, hL⟩ : ∃ L : QL, L = [(0, v0)] := ⟨_, rfl⟩
  rw [← hL]
  have l0 : q_lo L 0 = some v0 := by rw [hL]; rfl
  have hQ : ∀ o S1, Rp S1 m0 → q_out 0 o rz → (Cr 0 m0 m0 rz) o S1 := fun o S1 a b => ⟨a, Ext.rf _, b⟩
  unfold fm_X7_pointsSoFar at h
  refine go_aload_n (n := 0) (by decide +kernel) l0 f0 ?_
  obtain ⟨x_4, e_5, h⟩ := lx_s h
  refine go_getf (x := 29) (ci := 8) (kf := 2) (fin := 1) (t := 0) (by decide +kernel) (by decide +kernel) (by decide +kernel) R f0 g0 fun v_1 f_2 => ?_
  have f_3 := q_is_eq f_2 e_5
  refine go_if (c := .le) (o := 22) (t := 26) (P := ¬ (0 < x_4)) (by decide +kernel) (by decide +kernel) f_3 (Int.not_lt.symm) (fun hp_6 => ?_) (fun hp_6 => ?_)
  · have h := it_f hp_6 h
    refine go_iconst (n := 0) (z := 0) (by decide +kernel) (by decide) fun v_7 f_8 => ?_
    cases h
    exact go_iret (by decide +kernel) rfl (Or.inl rfl) f_8 (hQ _ _ R (q_out_v (by decide) f_8))
  · have h := it_n hp_6 h
    refine go_aload_n (n := 0) (by decide +kernel) l0 f0 ?_
    obtain ⟨x_12, e_13, h⟩ := lx_s h
    refine go_getf (x := 35) (ci := 8) (kf := 4) (fin := 0) (t := 0) (by decide +kernel) (by decide +kernel) (by decide +kernel) R f0 g0 fun v_9 f_10 => ?_
    have f_11 := q_is_eq f_10 e_13
    refine go_if (c := .le) (o := 15) (t := 26) (P := ¬ (0 < x_12)) (by decide +kernel) (by decide +kernel) f_11 (Int.not_lt.symm) (fun hp_14 => ?_) (fun hp_14 => ?_)
    · have h := it_f hp_14 h
      refine go_iconst (n := 0) (z := 0) (by decide +kernel) (by decide) fun v_15 f_16 => ?_
      cases h
      exact go_iret (by decide +kernel) rfl (Or.inl rfl) f_16 (hQ _ _ R (q_out_v (by decide) f_16))
    · have h := it_n hp_14 h
      refine go_aload_n (n := 0) (by decide +kernel) l0 f0 ?_
      refine go_getf (x := 35) (ci := 8) (kf := 4) (fin := 0) (t := 0) (by decide +kernel) (by decide +kernel) (by decide +kernel) R f0 g0 fun v_17 f_18 => ?_
      have f_19 := q_is_eq f_18 e_13
      refine go_aload_n (n := 0) (by decide +kernel) l0 f0 ?_
      refine go_getf (x := 29) (ci := 8) (kf := 2) (fin := 1) (t := 0) (by decide +kernel) (by decide +kernel) (by decide +kernel) R f0 g0 fun v_20 f_21 => ?_
      have f_22 := q_is_eq f_21 e_5
      obtain ⟨g_25, h⟩ := gd_s h
      refine go_idiv (by decide +kernel) f_19 f_22 g_25 fun v_23 f_24 => ?_
      refine go_goto (o := 4) (t := 27) (by decide +kernel) (by decide +kernel) ?_
      cases h
      exact go_iret (by decide +kernel) rfl (Or.inl rfl) f_24 (hQ _ _ R (q_out_v (by decide) f_24))
noncomputable def fl_X8_waitsForSignal_2 (y1 : Int) (m0 : MM) : Nat → Int → Option Int
  | 0, _ => none
  | n + 1, y2 => lx (m0 17 5) fun x_11 =>
if y2 < x_11 then
if y2 < 12 then
gd (0 ≤ y2 ∧ y2 < 12) <| lx (m0 19 y2) fun x_32 =>
gd (okc m0 x_32 2) <| lx (m0 x_32 7) fun x_38 =>
if x_38 = 3 then
lx (m0 x_32 8) fun x_62 =>
if x_62 = y1 then
some 1
else
lx (w32 (y2 + 1)) fun x_70 =>
fl_X8_waitsForSignal_2 y1 m0 n x_70
else
lx (w32 (y2 + 1)) fun x_48 =>
fl_X8_waitsForSignal_2 y1 m0 n x_48
else
some 0
else
some 0
set_option maxHeartbeats 4000000 in
theorem ol_X8_waitsForSignal_2 {xs : List Int32} {d : Nat} {Q : QO → QS → Prop} {m0 : MM} {y1 : Int} {rz : Int}
  (hd : 0 ≤ d)
  (hQ : ∀ o S1, Rp S1 m0 → q_out 0 o rz → Q o S1) :
  ∀ (n : Nat) {S : QS} {L : QL} {y2 : Int} {v0 : Value} {v1 : Value} {v2 : Value} , fl_X8_waitsForSignal_2 y1 m0 n y2 = some rz → Rp S m0 → q_lo L 0 = some v0 → q_is 2 v0 17 → q_lo L 1 = some v1 → q_is 0 v1 y1 → q_lo L 2 = some v2 → q_is 0 v2 y2 → Go xs d qM_X8_waitsForSignal 2 L [] S Q := by
  intro n
  induction n with
  | zero => intro S L y2 v0 v1 v2; intro h R l0 f0 l1 f1 l2 f2; cases h
  | succ n ih0 =>
    intro S L y2 v0 v1 v2; intro h R l0 f0 l1 f1 l2 f2
    have ih : ∀ {z2 : Int} {Sq : QS} {Lq : QL} {u0 : Value} {u1 : Value} {u2 : Value}, fl_X8_waitsForSignal_2 y1 m0 n z2 = some rz → Rp Sq m0 → q_lo Lq 0 = some u0 → q_is 2 u0 17 → q_lo Lq 1 = some u1 → q_is 0 u1 y1 → q_lo Lq 2 = some u2 → q_is 0 u2 z2 → Go xs d qM_X8_waitsForSignal 2 Lq [] Sq Q := by intros; exact ih0 ‹_› ‹_› ‹_› ‹_› ‹_› ‹_› ‹_› ‹_›
    unfold fl_X8_waitsForSignal_2 at h
    refine go_iload_n (n := 2) (by decide +kernel) l2 f2 ?_
    refine go_aload_n (n := 0) (by decide +kernel) l0 f0 ?_
    obtain ⟨x_11, e_12, h⟩ := lx_s h
    refine go_getf (x := 36) (ci := 9) (kf := 5) (fin := 0) (t := 0) (by decide +kernel) (by decide +kernel) (by decide +kernel) R f0 (fx_k (c := 9) R (by decide +kernel)) fun v_8 f_9 => ?_
    have f_10 := q_is_eq f_9 e_12
    refine go_icmp (c := .ge) (o := 46) (t := 53) (P := ¬ (y2 < x_11)) (by decide +kernel) (by decide +kernel) f2 f_10 (Int.not_lt.symm) (fun hp_13 => ?_) (fun hp_13 => ?_)
    · have h := it_f hp_13 h
      refine go_iconst (n := 0) (z := 0) (by decide +kernel) (by decide) fun v_14 f_15 => ?_
      cases h
      exact go_iret (by decide +kernel) rfl (Or.inr ⟨rfl, by decide⟩) f_15 (hQ _ _ R (q_out_v (by decide) f_15))
    · have h := it_n hp_13 h
      refine go_iload_n (n := 2) (by decide +kernel) l2 f2 ?_
      refine go_aload_n (n := 0) (by decide +kernel) l0 f0 ?_
      refine go_getf (x := 17) (ci := 9) (kf := 1) (fin := 1) (t := 2) (by decide +kernel) (by decide +kernel) (by decide +kernel) R f0 (fx_k (c := 9) R (by decide +kernel)) fun v_16 f_17 => ?_
      have f_18 := q_is_eq (b := 19) f_17 (fx_v R (by decide +kernel)).symm
      refine go_alen (by decide +kernel) R f_18 (okl_of (fx_k (c := 103) R (by decide +kernel)) (by decide)) fun v_19 f_20 => ?_
      have f_21 := q_is_eq (b := 12) f_20 (by rw [fx_l R (ln := 12) (by decide +kernel)]; decide)
      refine go_icmp (c := .ge) (o := 37) (t := 53) (P := ¬ (y2 < 12)) (by decide +kernel) (by decide +kernel) f2 f_21 (Int.not_lt.symm) (fun hp_22 => ?_) (fun hp_22 => ?_)
      · have h := it_f hp_22 h
        refine go_iconst (n := 0) (z := 0) (by decide +kernel) (by decide) fun v_23 f_24 => ?_
        cases h
        exact go_iret (by decide +kernel) rfl (Or.inr ⟨rfl, by decide⟩) f_24 (hQ _ _ R (q_out_v (by decide) f_24))
      · have h := it_n hp_22 h
        refine go_aload_n (n := 0) (by decide +kernel) l0 f0 ?_
        refine go_getf (x := 17) (ci := 9) (kf := 1) (fin := 1) (t := 2) (by decide +kernel) (by decide +kernel) (by decide +kernel) R f0 (fx_k (c := 9) R (by decide +kernel)) fun v_25 f_26 => ?_
        have f_27 := q_is_eq (b := 19) f_26 (fx_v R (by decide +kernel)).symm
        refine go_iload_n (n := 2) (by decide +kernel) l2 f2 ?_
        obtain ⟨g_30, h⟩ := gd_s h
        obtain ⟨x_32, e_33, h⟩ := lx_s h
        refine go_aald (kd := 103) (by decide +kernel) (by decide) R f_27 f2 (fx_k (c := 103) R (by decide +kernel)) (fx_x (a := 19) (ln := 12) R (by decide +kernel) g_30) fun v_28 f_29 => ?_
        have f_31 := q_is_eq f_29 e_33
        obtain ⟨g_36, h⟩ := gd_s h
        obtain ⟨x_38, e_39, h⟩ := lx_s h
        refine go_getf (x := 108) (ci := 2) (kf := 7) (fin := 0) (t := 0) (by decide +kernel) (by decide +kernel) (by decide +kernel) R f_31 g_36 fun v_34 f_35 => ?_
        have f_37 := q_is_eq f_35 e_39
        refine go_iconst (n := 3) (z := 3) (by decide +kernel) (by decide) fun v_40 f_41 => ?_
        refine go_icmp (c := .ne) (o := 18) (t := 47) (P := ¬ (x_38 = 3)) (by decide +kernel) (by decide +kernel) f_37 f_41 (Iff.rfl) (fun hp_42 => ?_) (fun hp_42 => ?_)
        · have h := it_f hp_42 h
          refine go_iinc (n := 2) (c := 1) (c' := 1) (by decide +kernel) (by decide +kernel) l2 f2 (by decide) fun L_43 v_44 f_45 l_46 kp_47 => ?_
          obtain ⟨x_48, e_49, h⟩ := lx_s h
          have f_50 := q_is_eq f_45 e_49
          have l_51 := kp_47 0 _ l0 (by decide) (Or.inl (by decide))
          have l_52 := kp_47 1 _ l1 (by decide) (Or.inr (q_is_cat f1 (Or.inl rfl)))
          refine go_goto (o := (-48)) (t := 2) (by decide +kernel) (by decide +kernel) ?_
          exact ih h R l_51 f0 l_52 f1 l_46 f_50
        · have h := it_n hp_42 h
          refine go_aload_n (n := 0) (by decide +kernel) l0 f0 ?_
          refine go_getf (x := 17) (ci := 9) (kf := 1) (fin := 1) (t := 2) (by decide +kernel) (by decide +kernel) (by decide +kernel) R f0 (fx_k (c := 9) R (by decide +kernel)) fun v_53 f_54 => ?_
          have f_55 := q_is_eq (b := 19) f_54 (fx_v R (by decide +kernel)).symm
          refine go_iload_n (n := 2) (by decide +kernel) l2 f2 ?_
          refine go_aald (kd := 103) (by decide +kernel) (by decide) R f_55 f2 (fx_k (c := 103) R (by decide +kernel)) (fx_x (a := 19) (ln := 12) R (by decide +kernel) g_30) fun v_56 f_57 => ?_
          have f_58 := q_is_eq f_57 e_33
          obtain ⟨x_62, e_63, h⟩ := lx_s h
          refine go_getf (x := 111) (ci := 2) (kf := 8) (fin := 0) (t := 0) (by decide +kernel) (by decide +kernel) (by decide +kernel) R f_58 g_36 fun v_59 f_60 => ?_
          have f_61 := q_is_eq f_60 e_63
          refine go_iload_n (n := 1) (by decide +kernel) l1 f1 ?_
          refine go_icmp (c := .ne) (o := 5) (t := 47) (P := ¬ (x_62 = y1)) (by decide +kernel) (by decide +kernel) f_61 f1 (Iff.rfl) (fun hp_64 => ?_) (fun hp_64 => ?_)
          · have h := it_f hp_64 h
            refine go_iinc (n := 2) (c := 1) (c' := 1) (by decide +kernel) (by decide +kernel) l2 f2 (by decide) fun L_65 v_66 f_67 l_68 kp_69 => ?_
            obtain ⟨x_70, e_71, h⟩ := lx_s h
            have f_72 := q_is_eq f_67 e_71
            have l_73 := kp_69 0 _ l0 (by decide) (Or.inl (by decide))
            have l_74 := kp_69 1 _ l1 (by decide) (Or.inr (q_is_cat f1 (Or.inl rfl)))
            refine go_goto (o := (-48)) (t := 2) (by decide +kernel) (by decide +kernel) ?_
            exact ih h R l_73 f0 l_74 f1 l_68 f_72
          · have h := it_n hp_64 h
            refine go_iconst (n := 1) (z := 1) (by decide +kernel) (by decide) fun v_75 f_76 => ?_
            cases h
            exact go_iret (by decide +kernel) rfl (Or.inr ⟨rfl, by decide⟩) f_76 (hQ _ _ R (q_out_v (by decide) f_76))
noncomputable def fm_X8_waitsForSignal (p1 : Int) (m0 : MM) : Option Int := fl_X8_waitsForSignal_2 p1 m0  BIG 0
set_option maxHeartbeats 4000000 in
theorem om_X8_waitsForSignal {xs : List Int32} {d : Nat} {S : QS} {m0 : MM} {p1 : Int} {v0 : Value} {v1 : Value} {rz : Int}
  (hd : 1 ≤ d) (R : Rp S m0) (f0 : q_is 2 v0 17) (f1 : q_is 0 v1 p1)
  (h : fm_X8_waitsForSignal p1 m0 = some rz) : Mt xs d 92 [v0, v1] S (Cr 0 m0 m0 rz) := by
  obtain ⟨d, rfl⟩ : ∃ e, d = e + 1 := ⟨d - 1, by omega⟩
  have hd : 0 ≤ d := Nat.le_of_succ_le_succ hd
  refine Mt.of (M := qM_X8_waitsForSignal) rfl (by rw [sl_1 (q_is_cat f0 (Or.inr rfl)), sl_1 (q_is_cat f1 (Or.inl rfl)), sl_0]; decide) ?_
  rw [la_1 (q_is_cat f0 (Or.inr rfl)), la_1 (q_is_cat f1 (Or.inl rfl)), la_0]
  obtain ⟨L, hL⟩ : ∃ L : QL, L = [(0, v0), (0 + 1, v1)] := ⟨_, rfl⟩
  rw [← hL]
  have l0 : q_lo L 0 = some v0 := by rw [hL]; rfl
  have l1 : q_lo L 1 = some v1 := by rw [hL]; rfl
  have hQ : ∀ o S1, Rp S1 m0 → q_out 0 o rz → (Cr 0 m0 m0 rz) o S1 := fun o S1 a b => ⟨a, Ext.rf _, b⟩
  unfold fm_X8_waitsForSignal at h
  refine go_iconst (n := 0) (z := 0) (by decide +kernel) (by decide) fun v_1 f_2 => ?_
  refine go_istore_n (n := 2) (by decide +kernel) (by decide +kernel) f_2 fun L_3 l_4 kp_5 => ?_
  have l_6 := kp_5 0 _ l0 (by decide) (Or.inl (by decide))
  have l_7 := kp_5 1 _ l1 (by decide) (Or.inr (q_is_cat f1 (Or.inl rfl)))
  refine ol_X8_waitsForSignal_2 hd   hQ BIG h R l_6 f0 l_7 f1 l_4 f_2
noncomputable def fm_X9_init (p0 p1 p2 p3 : Int) (m0 : MM) : Option (Int × MM) := up m0 p0 5 0 fun m_3 =>
up m_3 p0 0 p1 fun m_11 =>
up m_11 p0 1 p2 fun m_19 =>
up m_19 p0 2 p3 fun m_27 =>
gd (okc m_27 p2 7) <| lx (m_27 p2 16) fun x_38 =>
gd (okc m_27 x_38 3) <| lx (m_27 x_38 2) fun x_44 =>
up m_27 p0 3 x_44 fun m_47 =>
bp (fm_X6_mark p2 m_47) fun x_56 =>
up m_47 p0 4 x_56 fun m_65 =>
some (0, m_65)
set_option maxHeartbeats 4000000 in
theorem om_X9_init {xs : List Int32} {d : Nat} {S : QS} {m0 : MM} {p0 p1 p2 p3 : Int} {v0 : Value} {v1 : Value} {v2 : Value} {v3 : Value} {rz : Int} {rm : MM}
  (hd : 2 ≤ d) (R : Rp S m0) (g0 : okc m0 p0 10) (f0 : q_is 2 v0 p0) (f1 : q_is 0 v1 p1) (f2 : q_is 2 v2 p2) (f3 : q_is 0 v3 p3)
  (h : fm_X9_init p0 p1 p2 p3 m0 = some (rz, rm)) : Mt xs d 94 [v0, v1, v2, v3] S (Cr 9 m0 rm rz) := by
  obtain ⟨d, rfl⟩ : ∃ e, d = e + 1 := ⟨d - 1, by omega⟩
  have hd : 1 ≤ d := Nat.le_of_succ_le_succ hd
  refine Mt.of (M := qM_X9_init) rfl (by rw [sl_1 (q_is_cat f0 (Or.inr rfl)), sl_1 (q_is_cat f1 (Or.inl rfl)), sl_1 (q_is_cat f2 (Or.inr rfl)), sl_1 (q_is_cat f3 (Or.inl rfl)), sl_0]; decide) ?_
  rw [la_1 (q_is_cat f0 (Or.inr rfl)), la_1 (q_is_cat f1 (Or.inl rfl)), la_1 (q_is_cat f2 (Or.inr rfl)), la_1 (q_is_cat f3 (Or.inl rfl)), la_0]
  obtain ⟨L, hL⟩ : ∃ L : QL, L = [(0, v0), (0 + 1, v1), (0 + 1 + 1, v2), (0 + 1 + 1 + 1, v3)] := ⟨_, rfl⟩
  rw [← hL]
  have l0 : q_lo L 0 = some v0 := by rw [hL]; rfl
  have l1 : q_lo L 1 = some v1 := by rw [hL]; rfl
  have l2 : q_lo L 2 = some v2 := by rw [hL]; rfl
  have l3 : q_lo L 3 = some v3 := by rw [hL]; rfl
  have hQ : Ext m0 rm → ∀ o S1, Rp S1 rm → q_out 9 o rz → (Cr 9 m0 rm rz) o S1 := fun a o S1 b e => ⟨b, a, e⟩
  unfold fm_X9_init at h
  refine go_aload_n (n := 0) (by decide +kernel) l0 f0 ?_
  refine go_oinit (x := 1) (a := 0) (b := 0) (e := 0) (by decide +kernel) (by decide +kernel) f0 (okc_ne g0) (q_sum8 _ (Nat.le_of_ble_eq_true rfl)) ?_
  refine go_aload_n (n := 0) (by decide +kernel) l0 f0 ?_
  refine go_iconst (n := 0) (z := 0) (by decide +kernel) (by decide) fun v_1 f_2 => ?_
  obtain ⟨m_3, e_4, h⟩ := up_s h
  refine go_putf (x := 7) (ci := 10) (kf := 5) (fin := 0) (zt := 1) (by decide +kernel) (by decide +kernel) (by decide) (by decide +kernel) (by decide) (Or.inl rfl) R f0 f_2 (fun _ => by decide) g0 e_4 (fx_f (j := 5) R.2 g0 (by decide +kernel)) fun S_5 R_6 E_7 => ?_
  have E_9 := E_7
  refine go_aload_n (n := 0) (by decide +kernel) l0 f0 ?_
  refine go_iload_n (n := 1) (by decide +kernel) l1 f1 ?_
  have g_10 := Ext.ok E_7 g0
  obtain ⟨m_11, e_12, h⟩ := up_s h
  refine go_putf (x := 13) (ci := 10) (kf := 0) (fin := 1) (zt := 0) (by decide +kernel) (by decide +kernel) (by decide) (by decide +kernel) (by decide) (Or.inr ⟨rfl, rfl⟩) R_6 f0 f1 (fun hq => absurd hq (by decide)) g_10 e_12 (fx_f (j := 0) R_6.2 g_10 (by decide +kernel)) fun S_13 R_14 E_15 => ?_
  have E_17 := Ext.tr E_9 E_15
  refine go_aload_n (n := 0) (by decide +kernel) l0 f0 ?_
  refine go_aload_n (n := 2) (by decide +kernel) l2 f2 ?_
  have g_18 := Ext.ok E_15 g_10
  obtain ⟨m_19, e_20, h⟩ := up_s h
  refine go_putf (x := 17) (ci := 10) (kf := 1) (fin := 1) (zt := 2) (by decide +kernel) (by decide +kernel) (by decide) (by decide +kernel) (by decide) (Or.inr ⟨rfl, rfl⟩) R_14 f0 f2 (fun hq => absurd hq (by decide)) g_18 e_20 (fx_f (j := 1) R_14.2 g_18 (by decide +kernel)) fun S_21 R_22 E_23 => ?_
  have E_25 := Ext.tr E_17 E_23
  refine go_aload_n (n := 0) (by decide +kernel) l0 f0 ?_
  refine go_iload_n (n := 3) (by decide +kernel) l3 f3 ?_
  have g_26 := Ext.ok E_23 g_18
  obtain ⟨m_27, e_28, h⟩ := up_s h
  refine go_putf (x := 21) (ci := 10) (kf := 2) (fin := 1) (zt := 0) (by decide +kernel) (by decide +kernel) (by decide) (by decide +kernel) (by decide) (Or.inr ⟨rfl, rfl⟩) R_22 f0 f3 (fun hq => absurd hq (by decide)) g_26 e_28 (fx_f (j := 2) R_22.2 g_26 (by decide +kernel)) fun S_29 R_30 E_31 => ?_
  have E_33 := Ext.tr E_25 E_31
  refine go_aload_n (n := 0) (by decide +kernel) l0 f0 ?_
  refine go_aload_n (n := 2) (by decide +kernel) l2 f2 ?_
  obtain ⟨g_36, h⟩ := gd_s h
  obtain ⟨x_38, e_39, h⟩ := lx_s h
  refine go_getf (x := 24) (ci := 7) (kf := 16) (fin := 2) (t := 2) (by decide +kernel) (by decide +kernel) (by decide +kernel) R_30 f2 g_36 fun v_34 f_35 => ?_
  have f_37 := q_is_eq f_35 e_39
  obtain ⟨g_42, h⟩ := gd_s h
  obtain ⟨x_44, e_45, h⟩ := lx_s h
  refine go_getf (x := 30) (ci := 3) (kf := 2) (fin := 0) (t := 0) (by decide +kernel) (by decide +kernel) (by decide +kernel) R_30 f_37 g_42 fun v_40 f_41 => ?_
  have f_43 := q_is_eq f_41 e_45
  have g_46 := Ext.ok E_31 g_26
  obtain ⟨m_47, e_48, h⟩ := up_s h
  refine go_putf (x := 35) (ci := 10) (kf := 3) (fin := 1) (zt := 0) (by decide +kernel) (by decide +kernel) (by decide) (by decide +kernel) (by decide) (Or.inr ⟨rfl, rfl⟩) R_30 f0 f_43 (fun hq => absurd hq (by decide)) g_46 e_48 (fx_f (j := 3) R_30.2 g_46 (by decide +kernel)) fun S_49 R_50 E_51 => ?_
  have E_53 := Ext.tr E_33 E_51
  refine go_aload_n (n := 0) (by decide +kernel) l0 f0 ?_
  refine go_aload_n (n := 2) (by decide +kernel) l2 f2 ?_
  have g_54 := Ext.ok E_51 g_36
  obtain ⟨x_56, hc_55, h⟩ := bp_s h
  refine go_callV (x := 36) (mi := 69) (n := 0) (ci := 7) (as := []) (rest := [v0]) (by decide +kernel) (by decide +kernel) rfl rfl (q_sum8 _ (Nat.le_of_ble_eq_true rfl)) R_50 f2 g_54 (om_X6_mark (Nat.le_trans (by decide) hd) R_50 g_54 f2 hc_55) (fun _ S_60 q_63 => ?_) (fun _ _ qq => kr_x qq)
  refine kr_z (by decide) q_63 fun v_58 f_59 R_61 E_62 => ?_
  have g_64 := Ext.ok E_51 g_46
  obtain ⟨m_65, e_66, h⟩ := up_s h
  refine go_putf (x := 40) (ci := 10) (kf := 4) (fin := 1) (zt := 0) (by decide +kernel) (by decide +kernel) (by decide) (by decide +kernel) (by decide) (Or.inr ⟨rfl, rfl⟩) R_61 f0 f_59 (fun hq => absurd hq (by decide)) g_64 e_66 (fx_f (j := 4) R_61.2 g_64 (by decide +kernel)) fun S_67 R_68 E_69 => ?_
  have E_71 := Ext.tr E_53 E_69
  cases h
  exact go_vret (by decide +kernel) rfl (hQ E_71 _ _ R_68 q_out_n)
noncomputable def fm_X10_packed (p0 p1 p2 : Int) (m0 : MM) : Option Int := some (w32 ((w32 ((w32 (p0 * 1000000)) + (w32 (p1 * 1000)))) + p2))
set_option maxHeartbeats 4000000 in
theorem om_X10_packed {xs : List Int32} {d : Nat} {S : QS} {m0 : MM} {p0 p1 p2 : Int} {v0 : Value} {v1 : Value} {v2 : Value} {rz : Int}
  (hd : 1 ≤ d) (R : Rp S m0) (f0 : q_is 0 v0 p0) (f1 : q_is 0 v1 p1) (f2 : q_is 0 v2 p2)
  (h : fm_X10_packed p0 p1 p2 m0 = some rz) : Mt xs d 96 [v0, v1, v2] S (Cr 0 m0 m0 rz) := by
  obtain ⟨d, rfl⟩ : ∃ e, d = e + 1 := ⟨d - 1, by omega⟩
  have hd : 0 ≤ d := Nat.le_of_succ_le_succ hd
  refine Mt.of (M := qM_X10_packed) rfl (by rw [sl_1 (q_is_cat f0 (Or.inl rfl)), sl_1 (q_is_cat f1 (Or.inl rfl)), sl_1 (q_is_cat f2 (Or.inl rfl)), sl_0]; decide) ?_
  rw [la_1 (q_is_cat f0 (Or.inl rfl)), la_1 (q_is_cat f1 (Or.inl rfl)), la_1 (q_is_cat f2 (Or.inl rfl)), la_0]
  obtain ⟨L, hL⟩ : ∃ L : QL, L = [(0, v0), (0 + 1, v1), (0 + 1 + 1, v2)] := ⟨_, rfl⟩
  rw [← hL]
  have l0 : q_lo L 0 = some v0 := by rw [hL]; rfl
  have l1 : q_lo L 1 = some v1 := by rw [hL]; rfl
  have l2 : q_lo L 2 = some v2 := by rw [hL]; rfl
  have hQ : ∀ o S1, Rp S1 m0 → q_out 0 o rz → (Cr 0 m0 m0 rz) o S1 := fun o S1 a b => ⟨a, Ext.rf _, b⟩
  unfold fm_X10_packed at h
  refine go_iload_n (n := 0) (by decide +kernel) l0 f0 ?_
  refine go_ldc (x := 27) (n := 1000000) (a := 0) (b := 0) (z := 1000000) (by decide +kernel) (by decide +kernel) (by decide +kernel) fun v_1 f_2 => ?_
  refine go_imul (by decide +kernel) f0 f_2 fun v_3 f_4 => ?_
  refine go_iload_n (n := 1) (by decide +kernel) l1 f1 ?_
  refine go_sipush (n := 1000) (z := 1000) (by decide +kernel) (by decide) fun v_5 f_6 => ?_
  refine go_imul (by decide +kernel) f1 f_6 fun v_7 f_8 => ?_
  refine go_iadd (by decide +kernel) f_4 f_8 fun v_9 f_10 => ?_
  refine go_iload_n (n := 2) (by decide +kernel) l2 f2 ?_
  refine go_iadd (by decide +kernel) f_10 f2 fun v_11 f_12 => ?_
  cases h
  exact go_iret (by decide +kernel) rfl (Or.inl rfl) f_12 (hQ _ _ R (q_out_v (by decide) f_12))
noncomputable def fm_Jx4a65c_size_8abf5 (p0 : Int) (m0 : MM) : Option Int := lx (m0 p0 2) fun x_4 =>
some x_4
set_option maxHeartbeats 4000000 in
theorem om_Jx4a65c_size_8abf5 {xs : List Int32} {d : Nat} {S : QS} {m0 : MM} {p0 : Int} {v0 : Value} {rz : Int}
  (hd : 1 ≤ d) (R : Rp S m0) (g0 : okc m0 p0 0) (f0 : q_is 2 v0 p0)
  (h : fm_Jx4a65c_size_8abf5 p0 m0 = some rz) : Mt xs d 326 [v0] S (Cr 0 m0 m0 rz) := by
  obtain ⟨d, rfl⟩ : ∃ e, d = e + 1 := ⟨d - 1, by omega⟩
  have hd : 0 ≤ d := Nat.le_of_succ_le_succ hd
  refine Mt.of (M := qM_Jx4a65c_size_8abf5) rfl (by rw [sl_1 (q_is_cat f0 (Or.inr rfl)), sl_0]; decide) ?_
  rw [la_1 (q_is_cat f0 (Or.inr rfl)), la_0]
  obtain ⟨L, hL⟩ : ∃ L : QL, L = [(0, v0)] := ⟨_, rfl⟩
  rw [← hL]
  have l0 : q_lo L 0 = some v0 := by rw [hL]; rfl
  have hQ : ∀ o S1, Rp S1 m0 → q_out 0 o rz → (Cr 0 m0 m0 rz) o S1 := fun o S1 a b => ⟨a, Ext.rf _, b⟩
  unfold fm_Jx4a65c_size_8abf5 at h
  refine go_aload_n (n := 0) (by decide +kernel) l0 f0 ?_
  obtain ⟨x_4, e_5, h⟩ := lx_s h
  refine go_getf (x := 48) (ci := 0) (kf := 2) (fin := 0) (t := 0) (by decide +kernel) (by decide +kernel) (by decide +kernel) R f0 g0 fun v_1 f_2 => ?_
  have f_3 := q_is_eq f_2 e_5
  cases h
  exact go_iret (by decide +kernel) rfl (Or.inl rfl) f_3 (hQ _ _ R (q_out_v (by decide) f_3))
noncomputable def fm_J3_checkIndex_8e157 (p0 p1 p2 : Int) (m0 : MM) : Option Int := if p0 < 0 then
none
else
if p0 < p1 then
some p0
else
none
set_option maxHeartbeats 4000000 in
theorem om_J3_checkIndex_8e157 {xs : List Int32} {d : Nat} {S : QS} {m0 : MM} {p0 p1 p2 : Int} {v0 : Value} {v1 : Value} {v2 : Value} {rz : Int}
  (hd : 1 ≤ d) (R : Rp S m0) (f0 : q_is 0 v0 p0) (f1 : q_is 0 v1 p1) (f2 : q_is 2 v2 p2)
  (h : fm_J3_checkIndex_8e157 p0 p1 p2 m0 = some rz) : Mt xs d 339 [v0, v1, v2] S (Cr 0 m0 m0 rz) := by
  obtain ⟨d, rfl⟩ : ∃ e, d = e + 1 := ⟨d - 1, by omega⟩
  have hd : 0 ≤ d := Nat.le_of_succ_le_succ hd
  refine Mt.of (M := qM_J3_checkIndex_8e157) rfl (by rw [sl_1 (q_is_cat f0 (Or.inl rfl)), sl_1 (q_is_cat f1 (Or.inl rfl)), sl_1 (q_is_cat f2 (Or.inr rfl)), sl_0]; decide) ?_
  rw [la_1 (q_is_cat f0 (Or.inl rfl)), la_1 (q_is_cat f1 (Or.inl rfl)), la_1 (q_is_cat f2 (Or.inr rfl)), la_0]
  obtain ⟨L, hL⟩ : ∃ L : QL, L = [(0, v0), (0 + 1, v1), (0 + 1 + 1, v2)] := ⟨_, rfl⟩
  rw [← hL]
  have l0 : q_lo L 0 = some v0 := by rw [hL]; rfl
  have l1 : q_lo L 1 = some v1 := by rw [hL]; rfl
  have l2 : q_lo L 2 = some v2 := by rw [hL]; rfl
  have hQ : ∀ o S1, Rp S1 m0 → q_out 0 o rz → (Cr 0 m0 m0 rz) o S1 := fun o S1 a b => ⟨a, Ext.rf _, b⟩
  unfold fm_J3_checkIndex_8e157 at h
  refine go_iload_n (n := 0) (by decide +kernel) l0 f0 ?_
  refine go_if (c := .lt) (o := 8) (t := 9) (P := p0 < 0) (by decide +kernel) (by decide +kernel) f0 (Iff.rfl) (fun hp_1 => ?_) (fun hp_1 => ?_)
  · have h := it_t hp_1 h
    refine go_aload_n (n := 2) (by decide +kernel) l2 f2 ?_
    refine go_iload_n (n := 0) (by decide +kernel) l0 f0 ?_
    refine go_iload_n (n := 1) (by decide +kernel) l1 f1 ?_
    cases h
  · have h := it_f hp_1 h
    refine go_iload_n (n := 0) (by decide +kernel) l0 f0 ?_
    refine go_iload_n (n := 1) (by decide +kernel) l1 f1 ?_
    refine go_icmp (c := .lt) (o := 10) (t := 16) (P := p0 < p1) (by decide +kernel) (by decide +kernel) f0 f1 (Iff.rfl) (fun hp_2 => ?_) (fun hp_2 => ?_)
    · have h := it_t hp_2 h
      refine go_iload_n (n := 0) (by decide +kernel) l0 f0 ?_
      cases h
      exact go_iret (by decide +kernel) rfl (Or.inl rfl) f0 (hQ _ _ R (q_out_v (by decide) f0))
    · have h := it_f hp_2 h
      refine go_aload_n (n := 2) (by decide +kernel) l2 f2 ?_
      refine go_iload_n (n := 0) (by decide +kernel) l0 f0 ?_
      refine go_iload_n (n := 1) (by decide +kernel) l1 f1 ?_
      cases h
noncomputable def fm_J15_checkIndex_7cf53 (p0 p1 : Int) (m0 : MM) : Option Int := bp (fm_J3_checkIndex_8e157 p0 p1 0 m0) fun x_4 =>
some x_4
set_option maxHeartbeats 4000000 in
theorem om_J15_checkIndex_7cf53 {xs : List Int32} {d : Nat} {S : QS} {m0 : MM} {p0 p1 : Int} {v0 : Value} {v1 : Value} {rz : Int}
  (hd : 2 ≤ d) (R : Rp S m0) (f0 : q_is 0 v0 p0) (f1 : q_is 0 v1 p1)
  (h : fm_J15_checkIndex_7cf53 p0 p1 m0 = some rz) : Mt xs d 336 [v0, v1] S (Cr 0 m0 m0 rz) := by
  obtain ⟨d, rfl⟩ : ∃ e, d = e + 1 := ⟨d - 1, by omega⟩
  have hd : 1 ≤ d := Nat.le_of_succ_le_succ hd
  refine Mt.of (M := qM_J15_checkIndex_7cf53) rfl (by rw [sl_1 (q_is_cat f0 (Or.inl rfl)), sl_1 (q_is_cat f1 (Or.inl rfl)), sl_0]; decide) ?_
  rw [la_1 (q_is_cat f0 (Or.inl rfl)), la_1 (q_is_cat f1 (Or.inl rfl)), la_0]
  obtain ⟨L, hL⟩ : ∃ L : QL, L = [(0, v0), (0 + 1, v1)] := ⟨_, rfl⟩
  rw [← hL]
  have l0 : q_lo L 0 = some v0 := by rw [hL]; rfl
  have l1 : q_lo L 1 = some v1 := by rw [hL]; rfl
  have hQ : ∀ o S1, Rp S1 m0 → q_out 0 o rz → (Cr 0 m0 m0 rz) o S1 := fun o S1 a b => ⟨a, Ext.rf _, b⟩
  unfold fm_J15_checkIndex_7cf53 at h
  refine go_iload_n (n := 0) (by decide +kernel) l0 f0 ?_
  refine go_iload_n (n := 1) (by decide +kernel) l1 f1 ?_
  refine go_null (by decide +kernel) fun v_1 f_2 => ?_
  obtain ⟨x_4, hc_3, h⟩ := bp_s h
  refine go_callS (x := 105) (mi := 339) (n := 3) (b := 0) (as := [v0, v1, v_1]) (rest := []) (by decide +kernel) (by decide +kernel) rfl rfl (q_sum8 _ (Nat.le_of_ble_eq_true rfl)) (om_J3_checkIndex_8e157 (Nat.le_trans (by decide) hd) R f0 f1 f_2 hc_3) (fun _ S_8 q_11 => ?_) (fun _ _ qq => kr_x qq)
  refine kr_z (by decide) q_11 fun v_6 f_7 R_9 E_10 => ?_
  cases h
  exact go_iret (by decide +kernel) rfl (Or.inl rfl) f_7 (hQ _ _ R_9 (q_out_v (by decide) f_7))
noncomputable def fm_Jx4a65c_elementData_915e3 (p0 p1 : Int) (m0 : MM) : Option Int := lx (m0 p0 1) fun x_4 =>
gd (okc m0 x_4 107) <| gd (okx m0 x_4 p1) <| lx (m0 x_4 p1) fun x_11 =>
some x_11
set_option maxHeartbeats 4000000 in
theorem om_Jx4a65c_elementData_915e3 {xs : List Int32} {d : Nat} {S : QS} {m0 : MM} {p0 p1 : Int} {v0 : Value} {v1 : Value} {rz : Int}
  (hd : 1 ≤ d) (R : Rp S m0) (g0 : okc m0 p0 0) (f0 : q_is 2 v0 p0) (f1 : q_is 0 v1 p1)
  (h : fm_Jx4a65c_elementData_915e3 p0 p1 m0 = some rz) : Mt xs d 328 [v0, v1] S (Cr 2 m0 m0 rz) := by
  obtain ⟨d, rfl⟩ : ∃ e, d = e + 1 := ⟨d - 1, by omega⟩
  have hd : 0 ≤ d := Nat.le_of_succ_le_succ hd
  refine Mt.of (M := qM_Jx4a65c_elementData_915e3) rfl (by rw [sl_1 (q_is_cat f0 (Or.inr rfl)), sl_1 (q_is_cat f1 (Or.inl rfl)), sl_0]; decide) ?_
  rw [la_1 (q_is_cat f0 (Or.inr rfl)), la_1 (q_is_cat f1 (Or.inl rfl)), la_0]
  obtain ⟨L, hL⟩ : ∃ L : QL, L = [(0, v0), (0 + 1, v1)] := ⟨_, rfl⟩
  rw [← hL]
  have l0 : q_lo L 0 = some v0 := by rw [hL]; rfl
  have l1 : q_lo L 1 = some v1 := by rw [hL]; rfl
  have hQ : ∀ o S1, Rp S1 m0 → q_out 2 o rz → (Cr 2 m0 m0 rz) o S1 := fun o S1 a b => ⟨a, Ext.rf _, b⟩
  unfold fm_Jx4a65c_elementData_915e3 at h
  refine go_aload_n (n := 0) (by decide +kernel) l0 f0 ?_
  obtain ⟨x_4, e_5, h⟩ := lx_s h
  refine go_getf (x := 9) (ci := 0) (kf := 1) (fin := 0) (t := 2) (by decide +kernel) (by decide +kernel) (by decide +kernel) R f0 g0 fun v_1 f_2 => ?_
  have f_3 := q_is_eq f_2 e_5
  refine go_iload_n (n := 1) (by decide +kernel) l1 f1 ?_
  obtain ⟨g_8, h⟩ := gd_s h
  obtain ⟨g_9, h⟩ := gd_s h
  obtain ⟨x_11, e_12, h⟩ := lx_s h
  refine go_aald (kd := 107) (by decide +kernel) (by decide) R f_3 f1 g_8 g_9 fun v_6 f_7 => ?_
  have f_10 := q_is_eq f_7 e_12
  cases h
  exact go_aret (by decide +kernel) rfl rfl f_10 (hQ _ _ R (q_out_v (by decide) f_10))
noncomputable def fm_Jx4a65c_get_915e3 (p0 p1 : Int) (m0 : MM) : Option Int := lx (m0 p0 2) fun x_4 =>
bp (fm_J15_checkIndex_7cf53 p1 x_4 m0) fun x_7 =>
bp (fm_Jx4a65c_elementData_915e3 p0 p1 m0) fun x_16 =>
some x_16
set_option maxHeartbeats 4000000 in
theorem om_Jx4a65c_get_915e3 {xs : List Int32} {d : Nat} {S : QS} {m0 : MM} {p0 p1 : Int} {v0 : Value} {v1 : Value} {rz : Int}
  (hd : 3 ≤ d) (R : Rp S m0) (g0 : okc m0 p0 0) (f0 : q_is 2 v0 p0) (f1 : q_is 0 v1 p1)
  (h : fm_Jx4a65c_get_915e3 p0 p1 m0 = some rz) : Mt xs d 329 [v0, v1] S (Cr 2 m0 m0 rz) := by
  obtain ⟨d, rfl⟩ : ∃ e, d = e + 1 := ⟨d - 1, by omega⟩
  have hd : 2 ≤ d := Nat.le_of_succ_le_succ hd
  refine Mt.of (M := qM_Jx4a65c_get_915e3) rfl (by rw [sl_1 (q_is_cat f0 (Or.inr rfl)), sl_1 (q_is_cat f1 (Or.inl rfl)), sl_0]; decide) ?_
  rw [la_1 (q_is_cat f0 (Or.inr rfl)), la_1 (q_is_cat f1 (Or.inl rfl)), la_0]
  obtain ⟨L, hL⟩ : ∃ L : QL, L = [(0, v0), (0 + 1, v1)] := ⟨_, rfl⟩
  rw [← hL]
  have l0 : q_lo L 0 = some v0 := by rw [hL]; rfl
  have l1 : q_lo L 1 = some v1 := by rw [hL]; rfl
  have hQ : ∀ o S1, Rp S1 m0 → q_out 2 o rz → (Cr 2 m0 m0 rz) o S1 := fun o S1 a b => ⟨a, Ext.rf _, b⟩
  unfold fm_Jx4a65c_get_915e3 at h
  refine go_iload_n (n := 1) (by decide +kernel) l1 f1 ?_
  refine go_aload_n (n := 0) (by decide +kernel) l0 f0 ?_
  obtain ⟨x_4, e_5, h⟩ := lx_s h
  refine go_getf (x := 48) (ci := 0) (kf := 2) (fin := 0) (t := 0) (by decide +kernel) (by decide +kernel) (by decide +kernel) R f0 g0 fun v_1 f_2 => ?_
  have f_3 := q_is_eq f_2 e_5
  obtain ⟨x_7, hc_6, h⟩ := bp_s h
  refine go_callS (x := 118) (mi := 336) (n := 2) (b := 0) (as := [v1, v_1]) (rest := []) (by decide +kernel) (by decide +kernel) rfl rfl (q_sum8 _ (Nat.le_of_ble_eq_true rfl)) (om_J15_checkIndex_7cf53 (Nat.le_trans (by decide) hd) R f1 f_3 hc_6) (fun _ S_11 q_14 => ?_) (fun _ _ qq => kr_x qq)
  refine kr_z (by decide) q_14 fun v_9 f_10 R_12 E_13 => ?_
  refine go_pop (by decide +kernel) f_10 (Or.inl rfl) ?_
  refine go_aload_n (n := 0) (by decide +kernel) l0 f0 ?_
  refine go_iload_n (n := 1) (by decide +kernel) l1 f1 ?_
  obtain ⟨x_16, hc_15, h⟩ := bp_s h
  refine go_callV (x := 123) (mi := 328) (n := 1) (ci := 0) (as := [v1]) (rest := []) (by decide +kernel) (by decide +kernel) rfl rfl (q_sum8 _ (Nat.le_of_ble_eq_true rfl)) R_12 f0 g0 (om_Jx4a65c_elementData_915e3 (Nat.le_trans (by decide) hd) R_12 g0 f0 f1 hc_15) (fun _ S_20 q_23 => ?_) (fun _ _ qq => kr_x qq)
  refine kr_z (by decide) q_23 fun v_18 f_19 R_21 E_22 => ?_
  cases h
  exact go_aret (by decide +kernel) rfl rfl f_19 (hQ _ _ R_21 (q_out_v (by decide) f_19))
noncomputable def fm_X10_code (p0 p1 : Int) (m0 : MM) : Option Int := if p1 < 0 then
lx (m0 p0 1) fun x_5 =>
some x_5
else
lx (m0 p0 0) fun x_10 =>
gd (okc m0 x_10 0) <| bp (fm_Jx4a65c_size_8abf5 x_10 m0) fun x_14 =>
if p1 < x_14 then
bp (fm_Jx4a65c_get_915e3 x_10 p1 m0) fun x_32 =>
gd (okc m0 x_32 6) <| some x_32
else
lx (m0 p0 1) fun x_26 =>
some x_26
set_option maxHeartbeats 4000000 in
theorem om_X10_code {xs : List Int32} {d : Nat} {S : QS} {m0 : MM} {p0 p1 : Int} {v0 : Value} {v1 : Value} {rz : Int}
  (hd : 4 ≤ d) (R : Rp S m0) (g0 : okc m0 p0 11) (f0 : q_is 2 v0 p0) (f1 : q_is 0 v1 p1)
  (h : fm_X10_code p0 p1 m0 = some rz) : Mt xs d 97 [v0, v1] S (Cr 2 m0 m0 rz) := by
  obtain ⟨d, rfl⟩ : ∃ e, d = e + 1 := ⟨d - 1, by omega⟩
  have hd : 3 ≤ d := Nat.le_of_succ_le_succ hd
  refine Mt.of (M := qM_X10_code) rfl (by rw [sl_1 (q_is_cat f0 (Or.inr rfl)), sl_1 (q_is_cat f1 (Or.inl rfl)), sl_0]; decide) ?_
  rw [la_1 (q_is_cat f0 (Or.inr rfl)), la_1 (q_is_cat f1 (Or.inl rfl)), la_0]
  obtain ⟨L, hL⟩ : ∃ L : QL, L = [(0, v0), (0 + 1, v1)] := ⟨_, rfl⟩
  rw [← hL]
  have l0 : q_lo L 0 = some v0 := by rw [hL]; rfl
  have l1 : q_lo L 1 = some v1 := by rw [hL]; rfl
  have hQ : ∀ o S1, Rp S1 m0 → q_out 2 o rz → (Cr 2 m0 m0 rz) o S1 := fun o S1 a b => ⟨a, Ext.rf _, b⟩
  unfold fm_X10_code at h
  refine go_iload_n (n := 1) (by decide +kernel) l1 f1 ?_
  refine go_if (c := .lt) (o := 28) (t := 29) (P := p1 < 0) (by decide +kernel) (by decide +kernel) f1 (Iff.rfl) (fun hp_1 => ?_) (fun hp_1 => ?_)
  · have h := it_t hp_1 h
    refine go_aload_n (n := 0) (by decide +kernel) l0 f0 ?_
    obtain ⟨x_5, e_6, h⟩ := lx_s h
    refine go_getf (x := 19) (ci := 11) (kf := 1) (fin := 0) (t := 2) (by decide +kernel) (by decide +kernel) (by decide +kernel) R f0 g0 fun v_2 f_3 => ?_
    have f_4 := q_is_eq f_3 e_6
    cases h
    exact go_aret (by decide +kernel) rfl rfl f_4 (hQ _ _ R (q_out_v (by decide) f_4))
  · have h := it_f hp_1 h
    refine go_iload_n (n := 1) (by decide +kernel) l1 f1 ?_
    refine go_aload_n (n := 0) (by decide +kernel) l0 f0 ?_
    obtain ⟨x_10, e_11, h⟩ := lx_s h
    refine go_getf (x := 10) (ci := 11) (kf := 0) (fin := 1) (t := 2) (by decide +kernel) (by decide +kernel) (by decide +kernel) R f0 g0 fun v_7 f_8 => ?_
    have f_9 := q_is_eq f_8 e_11
    obtain ⟨g_12, h⟩ := gd_s h
    obtain ⟨x_14, hc_13, h⟩ := bp_s h
    refine go_callV (x := 28) (mi := 326) (n := 0) (ci := 0) (as := []) (rest := [v1]) (by decide +kernel) (by decide +kernel) rfl rfl (q_sum8 _ (Nat.le_of_ble_eq_true rfl)) R f_9 g_12 (om_Jx4a65c_size_8abf5 (Nat.le_trans (by decide) hd) R g_12 f_9 hc_13) (fun _ S_18 q_21 => ?_) (fun _ _ qq => kr_x qq)
    refine kr_z (by decide) q_21 fun v_16 f_17 R_19 E_20 => ?_
    refine go_icmp (c := .ge) (o := 17) (t := 29) (P := ¬ (p1 < x_14)) (by decide +kernel) (by decide +kernel) f1 f_17 (Int.not_lt.symm) (fun hp_22 => ?_) (fun hp_22 => ?_)
    · have h := it_f hp_22 h
      refine go_aload_n (n := 0) (by decide +kernel) l0 f0 ?_
      obtain ⟨x_26, e_27, h⟩ := lx_s h
      refine go_getf (x := 19) (ci := 11) (kf := 1) (fin := 0) (t := 2) (by decide +kernel) (by decide +kernel) (by decide +kernel) R_19 f0 g0 fun v_23 f_24 => ?_
      have f_25 := q_is_eq f_24 e_27
      cases h
      exact go_aret (by decide +kernel) rfl rfl f_25 (hQ _ _ R_19 (q_out_v (by decide) f_25))
    · have h := it_n hp_22 h
      refine go_aload_n (n := 0) (by decide +kernel) l0 f0 ?_
      refine go_getf (x := 10) (ci := 11) (kf := 0) (fin := 1) (t := 2) (by decide +kernel) (by decide +kernel) (by decide +kernel) R_19 f0 g0 fun v_28 f_29 => ?_
      have f_30 := q_is_eq f_29 e_11
      refine go_iload_n (n := 1) (by decide +kernel) l1 f1 ?_
      obtain ⟨x_32, hc_31, h⟩ := bp_s h
      refine go_callV (x := 32) (mi := 329) (n := 1) (ci := 0) (as := [v1]) (rest := []) (by decide +kernel) (by decide +kernel) rfl rfl (q_sum8 _ (Nat.le_of_ble_eq_true rfl)) R_19 f_30 g_12 (om_Jx4a65c_get_915e3 (Nat.le_trans (by decide) hd) R_19 g_12 f_30 f1 hc_31) (fun _ S_36 q_39 => ?_) (fun _ _ qq => kr_x qq)
      refine kr_z (by decide) q_39 fun v_34 f_35 R_37 E_38 => ?_
      obtain ⟨g_40, h⟩ := gd_s h
      refine go_cast (x := 16) (kd := 6) (a := 0) (b := 0) (by decide +kernel) (by decide +kernel) R_37 f_35 g_40 ?_
      refine go_goto (o := 7) (t := 33) (by decide +kernel) (by decide +kernel) ?_
      cases h
      exact go_aret (by decide +kernel) rfl rfl f_35 (hQ _ _ R_37 (q_out_v (by decide) f_35))
noncomputable def fm_J8_hugeLength_7cf53 (p0 p1 : Int) (m0 : MM) : Option Int := lx (w32 (p0 + p1)) fun x_3 =>
if x_3 < 0 then
none
else
if 2147483639 < x_3 then
some x_3
else
some 2147483639
set_option maxHeartbeats 4000000 in
theorem om_J8_hugeLength_7cf53 {xs : List Int32} {d : Nat} {S : QS} {m0 : MM} {p0 p1 : Int} {v0 : Value} {v1 : Value} {rz : Int}
  (hd : 1 ≤ d) (R : Rp S m0) (f0 : q_is 0 v0 p0) (f1 : q_is 0 v1 p1)
  (h : fm_J8_hugeLength_7cf53 p0 p1 m0 = some rz) : Mt xs d 338 [v0, v1] S (Cr 0 m0 m0 rz) := by
  obtain ⟨d, rfl⟩ : ∃ e, d = e + 1 := ⟨d - 1, by omega⟩
  have hd : 0 ≤ d := Nat.le_of_succ_le_succ hd
  refine Mt.of (M := qM_J8_hugeLength_7cf53) rfl (by rw [sl_1 (q_is_cat f0 (Or.inl rfl)), sl_1 (q_is_cat f1 (Or.inl rfl)), sl_0]; decide) ?_
  rw [la_1 (q_is_cat f0 (Or.inl rfl)), la_1 (q_is_cat f1 (Or.inl rfl)), la_0]
  obtain ⟨L, hL⟩ : ∃ L : QL, L = [(0, v0), (0 + 1, v1)] := ⟨_, rfl⟩
  rw [← hL]
  have l0 : q_lo L 0 = some v0 := by rw [hL]; rfl
  have l1 : q_lo L 1 = some v1 := by rw [hL]; rfl
  have hQ : ∀ o S1, Rp S1 m0 → q_out 0 o rz → (Cr 0 m0 m0 rz) o S1 := fun o S1 a b => ⟨a, Ext.rf _, b⟩
  unfold fm_J8_hugeLength_7cf53 at h
  refine go_iload_n (n := 0) (by decide +kernel) l0 f0 ?_
  refine go_iload_n (n := 1) (by decide +kernel) l1 f1 ?_
  refine go_iadd (by decide +kernel) f0 f1 fun v_1 f_2 => ?_
  obtain ⟨x_3, e_4, h⟩ := lx_s h
  have f_5 := q_is_eq f_2 e_4
  refine go_istore_n (n := 2) (by decide +kernel) (by decide +kernel) f_5 fun L_6 l_7 kp_8 => ?_
  refine go_iload_n (n := 2) (by decide +kernel) l_7 f_5 ?_
  refine go_if (c := .ge) (o := 44) (t := 49) (P := ¬ (x_3 < 0)) (by decide +kernel) (by decide +kernel) f_5 (Int.not_lt.symm) (fun hp_9 => ?_) (fun hp_9 => ?_)
  · have h := it_f hp_9 h
    refine go_iload_n (n := 2) (by decide +kernel) l_7 f_5 ?_
    refine go_ldc (x := 200) (n := 2147483639) (a := 0) (b := 0) (z := 2147483639) (by decide +kernel) (by decide +kernel) (by decide +kernel) fun v_10 f_11 => ?_
    refine go_icmp (c := .gt) (o := 6) (t := 58) (P := 2147483639 < x_3) (by decide +kernel) (by decide +kernel) f_5 f_11 (Iff.rfl) (fun hp_12 => ?_) (fun hp_12 => ?_)
    · have h := it_t hp_12 h
      refine go_iload_n (n := 2) (by decide +kernel) l_7 f_5 ?_
      cases h
      exact go_iret (by decide +kernel) rfl (Or.inl rfl) f_5 (hQ _ _ R (q_out_v (by decide) f_5))
    · have h := it_f hp_12 h
      refine go_ldc (x := 200) (n := 2147483639) (a := 0) (b := 0) (z := 2147483639) (by decide +kernel) (by decide +kernel) (by decide +kernel) fun v_13 f_14 => ?_
      cases h
      exact go_iret (by decide +kernel) rfl (Or.inl rfl) f_14 (hQ _ _ R (q_out_v (by decide) f_14))
  · have h := it_n hp_9 h
    cases h
noncomputable def fj_J8_newLength_cabcc_21 (y0 y1 : Int) (m0 : MM) : Option Int := bp (fm_J8_hugeLength_7cf53 y0 y1 m0) fun x_24 =>
some x_24
set_option maxHeartbeats 4000000 in
theorem oj_J8_newLength_cabcc_21 {xs : List Int32} {d : Nat} {S : QS} {L : QL} {Q : QO → QS → Prop} {m0 : MM} {y0 y1 : Int} {v0 : Value} {v1 : Value}  {rz : Int}
  (hd : 1 ≤ d) (R : Rp S m0) (l0 : q_lo L 0 = some v0) (f0 : q_is 0 v0 y0) (l1 : q_lo L 1 = some v1) (f1 : q_is 0 v1 y1)
  (hQ : ∀ o S1, Rp S1 m0 → q_out 0 o rz → Q o S1)
  (h : fj_J8_newLength_cabcc_21 y0 y1 m0 = some rz) : Go xs d qM_J8_newLength_cabcc 21 L [] S Q := by
  unfold fj_J8_newLength_cabcc_21 at h
  refine go_iload_n (n := 0) (by decide +kernel) l0 f0 ?_
  refine go_iload_n (n := 1) (by decide +kernel) l1 f1 ?_
  obtain ⟨x_24, hc_23, h⟩ := bp_s h
  refine go_callS (x := 201) (mi := 338) (n := 2) (b := 0) (as := [v0, v1]) (rest := []) (by decide +kernel) (by decide +kernel) rfl rfl (q_sum8 _ (Nat.le_of_ble_eq_true rfl)) (om_J8_hugeLength_7cf53 (Nat.le_trans (by decide) hd) R f0 f1 hc_23) (fun _ S_28 q_31 => ?_) (fun _ _ qq => kr_x qq)
  refine kr_z (by decide) q_31 fun v_26 f_27 R_29 E_30 => ?_
  cases h
  exact go_iret (by decide +kernel) rfl (Or.inl rfl) f_27 (hQ _ _ R_29 (q_out_v (by decide) f_27))
noncomputable def fm_J8_newLength_cabcc (p0 p1 p2 : Int) (m0 : MM) : Option Int := bp (fm_J9_max_7cf53 p1 p2 m0) fun x_2 =>
lx (w32 (p0 + x_2)) fun x_12 =>
if 0 < x_12 then
if 2147483639 < x_12 then
fj_J8_newLength_cabcc_21 p0 p1 m0
else
some x_12
else
fj_J8_newLength_cabcc_21 p0 p1 m0
set_option maxHeartbeats 4000000 in
theorem om_J8_newLength_cabcc {xs : List Int32} {d : Nat} {S : QS} {m0 : MM} {p0 p1 p2 : Int} {v0 : Value} {v1 : Value} {v2 : Value} {rz : Int}
  (hd : 2 ≤ d) (R : Rp S m0) (f0 : q_is 0 v0 p0) (f1 : q_is 0 v1 p1) (f2 : q_is 0 v2 p2)
  (h : fm_J8_newLength_cabcc p0 p1 p2 m0 = some rz) : Mt xs d 337 [v0, v1, v2] S (Cr 0 m0 m0 rz) := by
  obtain ⟨d, rfl⟩ : ∃ e, d = e + 1 := ⟨d - 1, by omega⟩
  have hd : 1 ≤ d := Nat.le_of_succ_le_succ hd
  refine Mt.of (M := qM_J8_newLength_cabcc) rfl (by rw [sl_1 (q_is_cat f0 (Or.inl rfl)), sl_1 (q_is_cat f1 (Or.inl rfl)), sl_1 (q_is_cat f2 (Or.inl rfl)), sl_0]; decide) ?_
  rw [la_1 (q_is_cat f0 (Or.inl rfl)), la_1 (q_is_cat f1 (Or.inl rfl)), la_1 (q_is_cat f2 (Or.inl rfl)), la_0]
  obtain ⟨L, hL⟩ : ∃ L : QL, L = [(0, v0), (0 + 1, v1), (0 + 1 + 1, v2)] := ⟨_, rfl⟩
  rw [← hL]
  have l0 : q_lo L 0 = some v0 := by rw [hL]; rfl
  have l1 : q_lo L 1 = some v1 := by rw [hL]; rfl
  have l2 : q_lo L 2 = some v2 := by rw [hL]; rfl
  have hQ : ∀ o S1, Rp S1 m0 → q_out 0 o rz → (Cr 0 m0 m0 rz) o S1 := fun o S1 a b => ⟨a, Ext.rf _, b⟩
  unfold fm_J8_newLength_cabcc at h
  refine go_iload_n (n := 0) (by decide +kernel) l0 f0 ?_
  refine go_iload_n (n := 1) (by decide +kernel) l1 f1 ?_
  refine go_iload_n (n := 2) (by decide +kernel) l2 f2 ?_
  obtain ⟨x_2, hc_1, h⟩ := bp_s h
  refine go_callS (x := 194) (mi := 319) (n := 2) (b := 0) (as := [v1, v2]) (rest := [v0]) (by decide +kernel) (by decide +kernel) rfl rfl (q_sum8 _ (Nat.le_of_ble_eq_true rfl)) (om_J9_max_7cf53 (Nat.le_trans (by decide) hd) R f1 f2 hc_1) (fun _ S_6 q_9 => ?_) (fun _ _ qq => kr_x qq)
  refine kr_z (by decide) q_9 fun v_4 f_5 R_7 E_8 => ?_
  refine go_iadd (by decide +kernel) f0 f_5 fun v_10 f_11 => ?_
  obtain ⟨x_12, e_13, h⟩ := lx_s h
  have f_14 := q_is_eq f_11 e_13
  refine go_istore_n (n := 3) (by decide +kernel) (by decide +kernel) f_14 fun L_15 l_16 kp_17 => ?_
  have l_18 := kp_17 0 _ l0 (by decide) (Or.inl (by decide))
  have l_19 := kp_17 1 _ l1 (by decide) (Or.inl (by decide))
  refine go_iconst (n := 0) (z := 0) (by decide +kernel) (by decide) fun v_20 f_21 => ?_
  refine go_iload_n (n := 3) (by decide +kernel) l_16 f_14 ?_
  refine go_icmp (c := .ge) (o := 11) (t := 21) (P := ¬ (0 < x_12)) (by decide +kernel) (by decide +kernel) f_21 f_14 (Int.not_lt.symm) (fun hp_22 => ?_) (fun hp_22 => ?_)
  · have h := it_f hp_22 h
    exact oj_J8_newLength_cabcc_21 hd R_7 l_18 f0 l_19 f1 hQ h
  · have h := it_n hp_22 h
    refine go_iload_n (n := 3) (by decide +kernel) l_16 f_14 ?_
    refine go_ldc (x := 200) (n := 2147483639) (a := 0) (b := 0) (z := 2147483639) (by decide +kernel) (by decide +kernel) (by decide +kernel) fun v_32 f_33 => ?_
    refine go_icmp (c := .gt) (o := 5) (t := 21) (P := 2147483639 < x_12) (by decide +kernel) (by decide +kernel) f_14 f_33 (Iff.rfl) (fun hp_34 => ?_) (fun hp_34 => ?_)
    · have h := it_t hp_34 h
      exact oj_J8_newLength_cabcc_21 hd R_7 l_18 f0 l_19 f1 hQ h
    · have h := it_f hp_34 h
      refine go_iload_n (n := 3) (by decide +kernel) l_16 f_14 ?_
      cases h
      exact go_iret (by decide +kernel) rfl (Or.inl rfl) f_14 (hQ _ _ R_7 (q_out_v (by decide) f_14))
noncomputable def fj_Jx4a65c_grow_92f84_20 (p0 y1 y2 : Int) (m : MM) : Option (Int × MM) := bp (fm_J8_newLength_cabcc y2 (w32 (y1 - y2)) (iShr y2 1) m) fun x_25 =>
lx (m p0 1) fun x_40 =>
bd (fm_J7_copyOf_1904c x_40 x_25 m) fun x_43 m_44 =>
up m_44 p0 1 x_43 fun m_55 =>
some (x_43, m_55)
set_option maxHeartbeats 4000000 in
theorem oj_Jx4a65c_grow_92f84_20 {xs : List Int32} {d : Nat} {S : QS} {L : QL} {Q : QO → QS → Prop} {m : MM} {p0 y1 y2 : Int} {v0 : Value} {v1 : Value} {v2 : Value}  {rz : Int} {rm : MM}
  (hd : 4 ≤ d) (R : Rp S m) (g0 : okc m p0 0) (l0 : q_lo L 0 = some v0) (f0 : q_is 2 v0 p0) (l1 : q_lo L 1 = some v1) (f1 : q_is 0 v1 y1) (l2 : q_lo L 2 = some v2) (f2 : q_is 0 v2 y2)
  (hQ : Ext m rm → ∀ o S1, Rp S1 rm → q_out 2 o rz → Q o S1)
  (h : fj_Jx4a65c_grow_92f84_20 p0 y1 y2 m = some (rz, rm)) : Go xs d qM_Jx4a65c_grow_92f84 20 L [] S Q := by
  unfold fj_Jx4a65c_grow_92f84_20 at h
  refine go_iload_n (n := 2) (by decide +kernel) l2 f2 ?_
  refine go_iload_n (n := 1) (by decide +kernel) l1 f1 ?_
  refine go_iload_n (n := 2) (by decide +kernel) l2 f2 ?_
  refine go_isub (by decide +kernel) f1 f2 fun v_18 f_19 => ?_
  refine go_iload_n (n := 2) (by decide +kernel) l2 f2 ?_
  refine go_iconst (n := 1) (z := 1) (by decide +kernel) (by decide) fun v_20 f_21 => ?_
  refine go_ishr (by decide +kernel) f2 f_21 fun v_22 f_23 => ?_
  obtain ⟨x_25, hc_24, h⟩ := bp_s h
  refine go_callS (x := 73) (mi := 337) (n := 3) (b := 0) (as := [v2, v_18, v_22]) (rest := []) (by decide +kernel) (by decide +kernel) rfl rfl (q_sum8 _ (Nat.le_of_ble_eq_true rfl)) (om_J8_newLength_cabcc (Nat.le_trans (by decide) hd) R f2 f_19 f_23 hc_24) (fun _ S_29 q_32 => ?_) (fun _ _ qq => kr_x qq)
  refine kr_z (by decide) q_32 fun v_27 f_28 R_30 E_31 => ?_
  refine go_istore_n (n := 3) (by decide +kernel) (by decide +kernel) f_28 fun L_33 l_34 kp_35 => ?_
  have l_36 := kp_35 0 _ l0 (by decide) (Or.inl (by decide))
  refine go_aload_n (n := 0) (by decide +kernel) l_36 f0 ?_
  refine go_aload_n (n := 0) (by decide +kernel) l_36 f0 ?_
  obtain ⟨x_40, e_41, h⟩ := lx_s h
  refine go_getf (x := 9) (ci := 0) (kf := 1) (fin := 0) (t := 2) (by decide +kernel) (by decide +kernel) (by decide +kernel) R_30 f0 g0 fun v_37 f_38 => ?_
  have f_39 := q_is_eq f_38 e_41
  refine go_iload_n (n := 3) (by decide +kernel) l_34 f_28 ?_
  obtain ⟨x_43, m_44, hc_42, h⟩ := bd_s h
  refine go_callS (x := 66) (mi := 333) (n := 2) (b := 0) (as := [v_37, v_27]) (rest := [v0]) (by decide +kernel) (by decide +kernel) rfl rfl (q_sum8 _ (Nat.le_of_ble_eq_true rfl)) (om_J7_copyOf_1904c (Nat.le_trans (by decide) hd) R_30 f_39 f_28 hc_42) (fun _ S_47 q_50 => ?_) (fun _ _ qq => kr_x qq)
  refine kr_z (by decide) q_50 fun v_45 f_46 R_48 E_49 => ?_
  have E_53 := E_49
  refine go_dup_x1 (by decide +kernel) f_46 (Or.inr rfl) f0 (Or.inr rfl) ?_
  have g_54 := Ext.ok E_49 g0
  obtain ⟨m_55, e_56, h⟩ := up_s h
  refine go_putf (x := 9) (ci := 0) (kf := 1) (fin := 0) (zt := 2) (by decide +kernel) (by decide +kernel) (by decide) (by decide +kernel) (by decide) (Or.inl rfl) R_48 f0 f_46 (fun hq => absurd hq (by decide)) g_54 e_56 (fx_f (j := 1) R_48.2 g_54 (by decide +kernel)) fun S_57 R_58 E_59 => ?_
  have E_61 := Ext.tr E_53 E_59
  cases h
  exact go_aret (by decide +kernel) rfl rfl f_46 (hQ E_61 _ _ R_58 (q_out_v (by decide) f_46))
noncomputable def fm_Jx4a65c_grow_92f84 (p0 p1 : Int) (m0 : MM) : Option (Int × MM) := lx (m0 p0 1) fun x_4 =>
gd (okl m0 x_4) <| lx (w32 (m0 x_4 (-2))) fun x_9 =>
if 0 < x_9 then
fj_Jx4a65c_grow_92f84_20 p0 p1 x_9 m0
else
gd (x_4 = 0 ∨ x_4 = 1 ∨ 4 ≤ x_4) <| if x_4 = 1 then
bp (fm_J9_max_7cf53 10 p1 m0) fun x_72 =>
gd (0 ≤ x_72 ∧ x_72 < 60000000) <| nw m0 107 x_72 fun x_81 m_82 =>
up m_82 p0 1 x_81 fun m_95 =>
some (x_81, m_95)
else
fj_Jx4a65c_grow_92f84_20 p0 p1 x_9 m0
set_option maxHeartbeats 4000000 in
theorem om_Jx4a65c_grow_92f84 {xs : List Int32} {d : Nat} {S : QS} {m0 : MM} {p0 p1 : Int} {v0 : Value} {v1 : Value} {rz : Int} {rm : MM}
  (hd : 5 ≤ d) (R : Rp S m0) (g0 : okc m0 p0 0) (f0 : q_is 2 v0 p0) (f1 : q_is 0 v1 p1)
  (h : fm_Jx4a65c_grow_92f84 p0 p1 m0 = some (rz, rm)) : Mt xs d 324 [v0, v1] S (Cr 2 m0 rm rz) := by
  obtain ⟨d, rfl⟩ : ∃ e, d = e + 1 := ⟨d - 1, by omega⟩
  have hd : 4 ≤ d := Nat.le_of_succ_le_succ hd
  refine Mt.of (M := qM_Jx4a65c_grow_92f84) rfl (by rw [sl_1 (q_is_cat f0 (Or.inr rfl)), sl_1 (q_is_cat f1 (Or.inl rfl)), sl_0]; decide) ?_
  rw [la_1 (q_is_cat f0 (Or.inr rfl)), la_1 (q_is_cat f1 (Or.inl rfl)), la_0]
  obtain ⟨L, hL⟩ : ∃ L : QL, L = [(0, v0), (0 + 1, v1)] := ⟨_, rfl⟩
  rw [← hL]
  have l0 : q_lo L 0 = some v0 := by rw [hL]; rfl
  have l1 : q_lo L 1 = some v1 := by rw [hL]; rfl
  have hQ : Ext m0 rm → ∀ o S1, Rp S1 rm → q_out 2 o rz → (Cr 2 m0 rm rz) o S1 := fun a o S1 b e => ⟨b, a, e⟩
  unfold fm_Jx4a65c_grow_92f84 at h
  refine go_aload_n (n := 0) (by decide +kernel) l0 f0 ?_
  obtain ⟨x_4, e_5, h⟩ := lx_s h
  refine go_getf (x := 9) (ci := 0) (kf := 1) (fin := 0) (t := 2) (by decide +kernel) (by decide +kernel) (by decide +kernel) R f0 g0 fun v_1 f_2 => ?_
  have f_3 := q_is_eq f_2 e_5
  obtain ⟨g_8, h⟩ := gd_s h
  refine go_alen (by decide +kernel) R f_3 g_8 fun v_6 f_7 => ?_
  obtain ⟨x_9, e_10, h⟩ := lx_s h
  have f_11 := q_is_eq f_7 e_10
  refine go_istore_n (n := 2) (by decide +kernel) (by decide +kernel) f_11 fun L_12 l_13 kp_14 => ?_
  have l_15 := kp_14 0 _ l0 (by decide) (Or.inl (by decide))
  have l_16 := kp_14 1 _ l1 (by decide) (Or.inr (q_is_cat f1 (Or.inl rfl)))
  refine go_iload_n (n := 2) (by decide +kernel) l_13 f_11 ?_
  refine go_if (c := .gt) (o := 13) (t := 20) (P := 0 < x_9) (by decide +kernel) (by decide +kernel) f_11 (Iff.rfl) (fun hp_17 => ?_) (fun hp_17 => ?_)
  · have h := it_t hp_17 h
    exact oj_Jx4a65c_grow_92f84_20 hd R g0 l_15 f0 l_16 f1 l_13 f_11 hQ h
  · have h := it_f hp_17 h
    refine go_aload_n (n := 0) (by decide +kernel) l_15 f0 ?_
    refine go_getf (x := 9) (ci := 0) (kf := 1) (fin := 0) (t := 2) (by decide +kernel) (by decide +kernel) (by decide +kernel) R f0 g0 fun v_62 f_63 => ?_
    have f_64 := q_is_eq f_63 e_5
    refine go_getst (x := 39) (n := 1) (a := 0) (b := 0) (z := 1) (by decide +kernel) (by decide +kernel) (by decide) (by decide) fun v_65 f_66 => ?_
    obtain ⟨g_68, h⟩ := gd_s h
    refine go_acmp (c := .eq) (o := 28) (t := 45) (P := x_4 = 1) (by decide +kernel) (by decide +kernel) f_64 f_66 g_68 (by decide) Iff.rfl (fun hp_67 => ?_) (fun hp_67 => ?_)
    · have h := it_t hp_67 h
      refine go_aload_n (n := 0) (by decide +kernel) l_15 f0 ?_
      refine go_bipush (n := 10) (z := 10) (by decide +kernel) (by decide) fun v_69 f_70 => ?_
      refine go_iload_n (n := 1) (by decide +kernel) l_16 f1 ?_
      obtain ⟨x_72, hc_71, h⟩ := bp_s h
      refine go_callS (x := 79) (mi := 319) (n := 2) (b := 0) (as := [v_69, v1]) (rest := [v0]) (by decide +kernel) (by decide +kernel) rfl rfl (q_sum8 _ (Nat.le_of_ble_eq_true rfl)) (om_J9_max_7cf53 (Nat.le_trans (by decide) hd) R f_70 f1 hc_71) (fun _ S_76 q_79 => ?_) (fun _ _ qq => kr_x qq)
      refine kr_z (by decide) q_79 fun v_74 f_75 R_77 E_78 => ?_
      obtain ⟨g_80, h⟩ := gd_s h
      obtain ⟨x_81, m_82, e_83, e_84, h⟩ := nw_s h
      have g_90 := okc_nw (c := 107) R_77 e_83 e_84
      refine go_anewa (x := 7) (kd := 107) (a := 0) (b := 0) (by decide +kernel) (by decide +kernel) f_75 g_80 R_77 e_83 e_84 fun v_85 S_87 f_86 R_88 E_89 => ?_
      have E_93 := E_89
      refine go_dup_x1 (by decide +kernel) f_86 (Or.inr rfl) f0 (Or.inr rfl) ?_
      have g_94 := Ext.ok E_89 g0
      obtain ⟨m_95, e_96, h⟩ := up_s h
      refine go_putf (x := 9) (ci := 0) (kf := 1) (fin := 0) (zt := 2) (by decide +kernel) (by decide +kernel) (by decide) (by decide +kernel) (by decide) (Or.inl rfl) R_88 f0 f_86 (fun hq => absurd hq (by decide)) g_94 e_96 (fx_f (j := 1) R_88.2 g_94 (by decide +kernel)) fun S_97 R_98 E_99 => ?_
      have E_101 := Ext.tr E_93 E_99
      cases h
      exact go_aret (by decide +kernel) rfl rfl f_86 (hQ E_101 _ _ R_98 (q_out_v (by decide) f_86))
    · have h := it_f hp_67 h
      exact oj_Jx4a65c_grow_92f84_20 hd R g0 l_15 f0 l_16 f1 l_13 f_11 hQ h
noncomputable def fm_Jx4a65c_grow_d5877 (p0 : Int) (m0 : MM) : Option (Int × MM) := lx (m0 p0 2) fun x_4 =>
bd (fm_Jx4a65c_grow_92f84 p0 (w32 (x_4 + 1)) m0) fun x_11 m_12 =>
some (x_11, m_12)
set_option maxHeartbeats 4000000 in
theorem om_Jx4a65c_grow_d5877 {xs : List Int32} {d : Nat} {S : QS} {m0 : MM} {p0 : Int} {v0 : Value} {rz : Int} {rm : MM}
  (hd : 6 ≤ d) (R : Rp S m0) (g0 : okc m0 p0 0) (f0 : q_is 2 v0 p0)
  (h : fm_Jx4a65c_grow_d5877 p0 m0 = some (rz, rm)) : Mt xs d 325 [v0] S (Cr 2 m0 rm rz) := by
  obtain ⟨d, rfl⟩ : ∃ e, d = e + 1 := ⟨d - 1, by omega⟩
  have hd : 5 ≤ d := Nat.le_of_succ_le_succ hd
  refine Mt.of (M := qM_Jx4a65c_grow_d5877) rfl (by rw [sl_1 (q_is_cat f0 (Or.inr rfl)), sl_0]; decide) ?_
  rw [la_1 (q_is_cat f0 (Or.inr rfl)), la_0]
  obtain ⟨L, hL⟩ : ∃ L : QL, L = [(0, v0)] := ⟨_, rfl⟩
  rw [← hL]
  have l0 : q_lo L 0 = some v0 := by rw [hL]; rfl
  have hQ : Ext m0 rm → ∀ o S1, Rp S1 rm → q_out 2 o rz → (Cr 2 m0 rm rz) o S1 := fun a o S1 b e => ⟨b, a, e⟩
  unfold fm_Jx4a65c_grow_d5877 at h
  refine go_aload_n (n := 0) (by decide +kernel) l0 f0 ?_
  refine go_aload_n (n := 0) (by decide +kernel) l0 f0 ?_
  obtain ⟨x_4, e_5, h⟩ := lx_s h
  refine go_getf (x := 48) (ci := 0) (kf := 2) (fin := 0) (t := 0) (by decide +kernel) (by decide +kernel) (by decide +kernel) R f0 g0 fun v_1 f_2 => ?_
  have f_3 := q_is_eq f_2 e_5
  refine go_iconst (n := 1) (z := 1) (by decide +kernel) (by decide) fun v_6 f_7 => ?_
  refine go_iadd (by decide +kernel) f_3 f_7 fun v_8 f_9 => ?_
  obtain ⟨x_11, m_12, hc_10, h⟩ := bd_s h
  refine go_callV (x := 69) (mi := 324) (n := 1) (ci := 0) (as := [v_8]) (rest := []) (by decide +kernel) (by decide +kernel) rfl rfl (q_sum8 _ (Nat.le_of_ble_eq_true rfl)) R f0 g0 (om_Jx4a65c_grow_92f84 (Nat.le_trans (by decide) hd) R g0 f0 f_9 hc_10) (fun _ S_15 q_18 => ?_) (fun _ _ qq => kr_x qq)
  refine kr_z (by decide) q_18 fun v_13 f_14 R_16 E_17 => ?_
  have E_21 := E_17
  cases h
  exact go_aret (by decide +kernel) rfl rfl f_14 (hQ E_21 _ _ R_16 (q_out_v (by decide) f_14))
noncomputable def fj_Jx4a65c_add_72be8_11 (p0 y1 y2 y3 : Int) (m : MM) : Option (Int × MM) := gd (okc m y2 107) <| gd (okx m y2 y3) <| gd (okob m y1) <| up m y2 y3 y1 fun m_7 =>
up m_7 p0 2 (w32 (y3 + 1)) fun m_20 =>
some (0, m_20)
set_option maxHeartbeats 4000000 in
theorem oj_Jx4a65c_add_72be8_11 {xs : List Int32} {d : Nat} {S : QS} {L : QL} {Q : QO → QS → Prop} {m : MM} {p0 y1 y2 y3 : Int} {v0 : Value} {v1 : Value} {v2 : Value} {v3 : Value}  {rz : Int} {rm : MM}
  (hd : 6 ≤ d) (R : Rp S m) (g0 : okc m p0 0) (l0 : q_lo L 0 = some v0) (f0 : q_is 2 v0 p0) (l1 : q_lo L 1 = some v1) (f1 : q_is 2 v1 y1) (l2 : q_lo L 2 = some v2) (f2 : q_is 2 v2 y2) (l3 : q_lo L 3 = some v3) (f3 : q_is 0 v3 y3)
  (hQ : Ext m rm → ∀ o S1, Rp S1 rm → q_out 9 o rz → Q o S1)
  (h : fj_Jx4a65c_add_72be8_11 p0 y1 y2 y3 m = some (rz, rm)) : Go xs d qM_Jx4a65c_add_72be8 11 L [] S Q := by
  unfold fj_Jx4a65c_add_72be8_11 at h
  refine go_aload_n (n := 2) (by decide +kernel) l2 f2 ?_
  refine go_iload_n (n := 3) (by decide +kernel) l3 f3 ?_
  refine go_aload_n (n := 1) (by decide +kernel) l1 f1 ?_
  obtain ⟨g_5, h⟩ := gd_s h
  obtain ⟨g_6, h⟩ := gd_s h
  obtain ⟨g_12, h⟩ := gd_s h
  obtain ⟨m_7, e_8, h⟩ := up_s h
  refine go_aastO (by decide +kernel) R f2 f3 f1 g_5 g_6 g_12 e_8 (fx_a R.2 g_5 (And.left g_6) (by decide +kernel)) fun S_9 R_10 E_11 => ?_
  have E_14 := E_11
  refine go_aload_n (n := 0) (by decide +kernel) l0 f0 ?_
  refine go_iload_n (n := 3) (by decide +kernel) l3 f3 ?_
  refine go_iconst (n := 1) (z := 1) (by decide +kernel) (by decide) fun v_15 f_16 => ?_
  refine go_iadd (by decide +kernel) f3 f_16 fun v_17 f_18 => ?_
  have g_19 := Ext.ok E_11 g0
  obtain ⟨m_20, e_21, h⟩ := up_s h
  refine go_putf (x := 48) (ci := 0) (kf := 2) (fin := 0) (zt := 0) (by decide +kernel) (by decide +kernel) (by decide) (by decide +kernel) (by decide) (Or.inl rfl) R_10 f0 f_18 (fun hq => absurd hq (by decide)) g_19 e_21 (fx_f (j := 2) R_10.2 g_19 (by decide +kernel)) fun S_22 R_23 E_24 => ?_
  have E_26 := Ext.tr E_14 E_24
  cases h
  exact go_vret (by decide +kernel) rfl (hQ E_26 _ _ R_23 q_out_n)
noncomputable def fm_Jx4a65c_add_72be8 (p0 p1 p2 p3 : Int) (m0 : MM) : Option (Int × MM) := gd (okl m0 p2) <| if p3 = w32 (m0 p2 (-2)) then
bd (fm_Jx4a65c_grow_d5877 p0 m0) fun x_28 m_29 =>
fj_Jx4a65c_add_72be8_11 p0 p1 x_28 p3 m_29
else
fj_Jx4a65c_add_72be8_11 p0 p1 p2 p3 m0
set_option maxHeartbeats 4000000 in
theorem om_Jx4a65c_add_72be8 {xs : List Int32} {d : Nat} {S : QS} {m0 : MM} {p0 p1 p2 p3 : Int} {v0 : Value} {v1 : Value} {v2 : Value} {v3 : Value} {rz : Int} {rm : MM}
  (hd : 7 ≤ d) (R : Rp S m0) (g0 : okc m0 p0 0) (f0 : q_is 2 v0 p0) (f1 : q_is 2 v1 p1) (f2 : q_is 2 v2 p2) (f3 : q_is 0 v3 p3)
  (h : fm_Jx4a65c_add_72be8 p0 p1 p2 p3 m0 = some (rz, rm)) : Mt xs d 330 [v0, v1, v2, v3] S (Cr 9 m0 rm rz) := by
  obtain ⟨d, rfl⟩ : ∃ e, d = e + 1 := ⟨d - 1, by omega⟩
  have hd : 6 ≤ d := Nat.le_of_succ_le_succ hd
  refine Mt.of (M := qM_Jx4a65c_add_72be8) rfl (by rw [sl_1 (q_is_cat f0 (Or.inr rfl)), sl_1 (q_is_cat f1 (Or.inr rfl)), sl_1 (q_is_cat f2 (Or.inr rfl)), sl_1 (q_is_cat f3 (Or.inl rfl)), sl_0]; decide) ?_
  rw [la_1 (q_is_cat f0 (Or.inr rfl)), la_1 (q_is_cat f1 (Or.inr rfl)), la_1 (q_is_cat f2 (Or.inr rfl)), la_1 (q_is_cat f3 (Or.inl rfl)), la_0]
  obtain ⟨L, hL⟩ : ∃ L : QL, L = [(0, v0), (0 + 1, v1), (0 + 1 + 1, v2), (0 + 1 + 1 + 1, v3)] := ⟨_, rfl⟩
  rw [← hL]
  have l0 : q_lo L 0 = some v0 := by rw [hL]; rfl
  have l1 : q_lo L 1 = some v1 := by rw [hL]; rfl
  have l2 : q_lo L 2 = some v2 := by rw [hL]; rfl
  have l3 : q_lo L 3 = some v3 := by rw [hL]; rfl
  have hQ : Ext m0 rm → ∀ o S1, Rp S1 rm → q_out 9 o rz → (Cr 9 m0 rm rz) o S1 := fun a o S1 b e => ⟨b, a, e⟩
  unfold fm_Jx4a65c_add_72be8 at h
  refine go_iload_n (n := 3) (by decide +kernel) l3 f3 ?_
  refine go_aload_n (n := 2) (by decide +kernel) l2 f2 ?_
  obtain ⟨g_3, h⟩ := gd_s h
  refine go_alen (by decide +kernel) R f2 g_3 fun v_1 f_2 => ?_
  refine go_icmp (c := .ne) (o := 8) (t := 11) (P := ¬ (p3 = w32 (m0 p2 (-2)))) (by decide +kernel) (by decide +kernel) f3 f_2 (Iff.rfl) (fun hp_4 => ?_) (fun hp_4 => ?_)
  · have h := it_f hp_4 h
    exact oj_Jx4a65c_add_72be8_11 hd R g0 l0 f0 l1 f1 l2 f2 l3 f3 hQ h
  · have h := it_n hp_4 h
    refine go_aload_n (n := 0) (by decide +kernel) l0 f0 ?_
    obtain ⟨x_28, m_29, hc_27, h⟩ := bd_s h
    refine go_callV (x := 129) (mi := 325) (n := 0) (ci := 0) (as := []) (rest := []) (by decide +kernel) (by decide +kernel) rfl rfl (q_sum8 _ (Nat.le_of_ble_eq_true rfl)) R f0 g0 (om_Jx4a65c_grow_d5877 (Nat.le_trans (by decide) hd) R g0 f0 hc_27) (fun _ S_32 q_35 => ?_) (fun _ _ qq => kr_x qq)
    refine kr_z (by decide) q_35 fun v_30 f_31 R_33 E_34 => ?_
    have E_38 := E_34
    refine go_astore_n (n := 2) (by decide +kernel) (by decide +kernel) f_31 fun L_39 l_40 kp_41 => ?_
    have l_42 := kp_41 0 _ l0 (by decide) (Or.inl (by decide))
    have l_43 := kp_41 1 _ l1 (by decide) (Or.inr (q_is_cat f1 (Or.inr rfl)))
    have l_44 := kp_41 3 _ l3 (by decide) (Or.inl (by decide))
    have g_45 := Ext.ok E_34 g0
    exact oj_Jx4a65c_add_72be8_11 hd R_33 g_45 l_42 f0 l_43 f1 l_40 f_31 l_44 f3 (fun b => hQ (Ext.tr E_38 b)) h
end DF11
