/-! Methods as functions (written by wip/whole/dec.py), 3: X2_firstNew, X2_hasNewSignal, X2_hasEnded, J7_fill_53178, X8_clear, X4_load, X4_goes, X8_set. -/
section DF3
noncomputable def fl_X2_firstNew_4 (p0 : Int) (m0 : MM) : Nat → Int → Int → Option Int
  | 0, _, _ => none
  | n + 1, y1, y2 => lx (m0 p0 1) fun x_17 =>
if y2 < x_17 then
bp (fm_X2_kind p0 y2 m0) fun x_24 =>
if 7 < x_24 then
lx (w32 (y2 + 1)) fun x_40 =>
fl_X2_firstNew_4 p0 m0 n y1 x_40
else
lx (m0 p0 4) fun x_48 =>
if y1 < x_48 then
lx (w32 (y1 + 1)) fun x_56 =>
lx (w32 (y2 + 1)) fun x_66 =>
fl_X2_firstNew_4 p0 m0 n x_56 x_66
else
some y2
else
some x_17
set_option maxHeartbeats 4000000 in
theorem ol_X2_firstNew_4 {xs : List Int32} {d : Nat} {Q : QO → QS → Prop} {m0 : MM} {p0 : Int} {rz : Int}
  (hd : 2 ≤ d) (gb : okc m0 p0 3)
  (hQ : ∀ o S1, Rp S1 m0 → q_out 0 o rz → Q o S1) :
  ∀ (n : Nat) {S : QS} {L : QL} {y1 y2 : Int} {v0 : Value} {v1 : Value} {v2 : Value} , fl_X2_firstNew_4 p0 m0 n y1 y2 = some rz → Rp S m0 → q_lo L 0 = some v0 → q_is 2 v0 p0 → q_lo L 1 = some v1 → q_is 0 v1 y1 → q_lo L 2 = some v2 → q_is 0 v2 y2 → Go xs d qM_X2_firstNew 4 L [] S Q := by
  intro n
  induction n with
  | zero => intro S L y1 y2 v0 v1 v2; intro h R l0 f0 l1 f1 l2 f2; cases h
  | succ n ih0 =>
    intro S L y1 y2 v0 v1 v2; intro h R l0 f0 l1 f1 l2 f2
    have ih : ∀ {z1 : Int} {z2 : Int} {Sq : QS} {Lq : QL} {u0 : Value} {u1 : Value} {u2 : Value}, fl_X2_firstNew_4 p0 m0 n z1 z2 = some rz → Rp Sq m0 → q_lo Lq 0 = some u0 → q_is 2 u0 p0 → q_lo Lq 1 = some u1 → q_is 0 u1 z1 → q_lo Lq 2 = some u2 → q_is 0 u2 z2 → Go xs d qM_X2_firstNew 4 Lq [] Sq Q := by intros; exact ih0 ‹_› ‹_› ‹_› ‹_› ‹_› ‹_› ‹_› ‹_›
    have g0 := gb
    unfold fl_X2_firstNew_4 at h
    refine go_iload_n (n := 2) (by decide +kernel) l2 f2 ?_
    refine go_aload_n (n := 0) (by decide +kernel) l0 f0 ?_
    obtain ⟨x_17, e_18, h⟩ := lx_s h
    refine go_getf (x := 9) (ci := 3) (kf := 1) (fin := 0) (t := 0) (by decide +kernel) (by decide +kernel) (by decide +kernel) R f0 g0 fun v_14 f_15 => ?_
    have f_16 := q_is_eq f_15 e_18
    refine go_icmp (c := .ge) (o := 32) (t := 41) (P := ¬ (y2 < x_17)) (by decide +kernel) (by decide +kernel) f2 f_16 (Int.not_lt.symm) (fun hp_19 => ?_) (fun hp_19 => ?_)
    · have h := it_f hp_19 h
      refine go_aload_n (n := 0) (by decide +kernel) l0 f0 ?_
      refine go_getf (x := 9) (ci := 3) (kf := 1) (fin := 0) (t := 0) (by decide +kernel) (by decide +kernel) (by decide +kernel) R f0 g0 fun v_20 f_21 => ?_
      have f_22 := q_is_eq f_21 e_18
      cases h
      exact go_iret (by decide +kernel) rfl (Or.inl rfl) f_22 (hQ _ _ R (q_out_v (by decide) f_22))
    · have h := it_n hp_19 h
      refine go_aload_n (n := 0) (by decide +kernel) l0 f0 ?_
      refine go_iload_n (n := 2) (by decide +kernel) l2 f2 ?_
      obtain ⟨x_24, hc_23, h⟩ := bp_s h
      refine go_callV (x := 51) (mi := 9) (n := 1) (ci := 3) (as := [v2]) (rest := []) (by decide +kernel) (by decide +kernel) rfl rfl (q_sum8 _ (Nat.le_of_ble_eq_true rfl)) R f0 g0 (om_X2_kind (Nat.le_trans (by decide) hd) R g0 f0 f2 hc_23) (fun _ S_28 q_31 => ?_) (fun _ _ qq => kr_x qq)
      refine kr_z (by decide) q_31 fun v_26 f_27 R_29 E_30 => ?_
      refine go_bipush (n := 7) (z := 7) (by decide +kernel) (by decide) fun v_32 f_33 => ?_
      refine go_icmp (c := .gt) (o := 16) (t := 35) (P := 7 < x_24) (by decide +kernel) (by decide +kernel) f_27 f_33 (Iff.rfl) (fun hp_34 => ?_) (fun hp_34 => ?_)
      · have h := it_t hp_34 h
        refine go_iinc (n := 2) (c := 1) (c' := 1) (by decide +kernel) (by decide +kernel) l2 f2 (by decide) fun L_35 v_36 f_37 l_38 kp_39 => ?_
        obtain ⟨x_40, e_41, h⟩ := lx_s h
        have f_42 := q_is_eq f_37 e_41
        have l_43 := kp_39 0 _ l0 (by decide) (Or.inl (by decide))
        have l_44 := kp_39 1 _ l1 (by decide) (Or.inr (q_is_cat f1 (Or.inl rfl)))
        refine go_goto (o := (-34)) (t := 4) (by decide +kernel) (by decide +kernel) ?_
        exact ih h R_29 l_43 f0 l_44 f1 l_38 f_42
      · have h := it_f hp_34 h
        refine go_iload_n (n := 1) (by decide +kernel) l1 f1 ?_
        refine go_aload_n (n := 0) (by decide +kernel) l0 f0 ?_
        obtain ⟨x_48, e_49, h⟩ := lx_s h
        refine go_getf (x := 19) (ci := 3) (kf := 4) (fin := 0) (t := 0) (by decide +kernel) (by decide +kernel) (by decide +kernel) R_29 f0 g0 fun v_45 f_46 => ?_
        have f_47 := q_is_eq f_46 e_49
        refine go_icmp (c := .lt) (o := 5) (t := 32) (P := y1 < x_48) (by decide +kernel) (by decide +kernel) f1 f_47 (Iff.rfl) (fun hp_50 => ?_) (fun hp_50 => ?_)
        · have h := it_t hp_50 h
          refine go_iinc (n := 1) (c := 1) (c' := 1) (by decide +kernel) (by decide +kernel) l1 f1 (by decide) fun L_51 v_52 f_53 l_54 kp_55 => ?_
          obtain ⟨x_56, e_57, h⟩ := lx_s h
          have f_58 := q_is_eq f_53 e_57
          have l_59 := kp_55 0 _ l0 (by decide) (Or.inr (q_is_cat f0 (Or.inr rfl)))
          have l_60 := kp_55 2 _ l2 (by decide) (Or.inl (by decide))
          refine go_iinc (n := 2) (c := 1) (c' := 1) (by decide +kernel) (by decide +kernel) l_60 f2 (by decide) fun L_61 v_62 f_63 l_64 kp_65 => ?_
          obtain ⟨x_66, e_67, h⟩ := lx_s h
          have f_68 := q_is_eq f_63 e_67
          have l_69 := kp_65 0 _ l_59 (by decide) (Or.inl (by decide))
          have l_70 := kp_65 1 _ l_54 (by decide) (Or.inr (q_is_cat f_58 (Or.inl rfl)))
          refine go_goto (o := (-34)) (t := 4) (by decide +kernel) (by decide +kernel) ?_
          exact ih h R_29 l_69 f0 l_70 f_58 l_64 f_68
        · have h := it_f hp_50 h
          refine go_iload_n (n := 2) (by decide +kernel) l2 f2 ?_
          cases h
          exact go_iret (by decide +kernel) rfl (Or.inl rfl) f2 (hQ _ _ R_29 (q_out_v (by decide) f2))
noncomputable def fm_X2_firstNew (p0 : Int) (m0 : MM) : Option Int := fl_X2_firstNew_4 p0 m0  BIG 0 0
set_option maxHeartbeats 4000000 in
theorem om_X2_firstNew {xs : List Int32} {d : Nat} {S : QS} {m0 : MM} {p0 : Int} {v0 : Value} {rz : Int}
  (hd : 3 ≤ d) (R : Rp S m0) (g0 : okc m0 p0 3) (f0 : q_is 2 v0 p0)
  (h : fm_X2_firstNew p0 m0 = some rz) : Mt xs d 25 [v0] S (Cr 0 m0 m0 rz) := by
  obtain ⟨d, rfl⟩ : ∃ e, d = e + 1 := ⟨d - 1, by omega⟩
  have hd : 2 ≤ d := Nat.le_of_succ_le_succ hd
  refine Mt.of (M := qM_X2_firstNew) rfl (by rw [sl_1 (q_is_cat f0 (Or.inr rfl)), sl_0]; decide) ?_
  rw [la_1 (q_is_cat f0 (Or.inr rfl)), la_0]
  obtain ⟨L, hL⟩ : ∃ L : QL, L = [(0, v0)] := ⟨_, rfl⟩
  rw [← hL]
  have l0 : q_lo L 0 = some v0 := by rw [hL]; rfl
  have hQ : ∀ o S1, Rp S1 m0 → q_out 0 o rz → (Cr 0 m0 m0 rz) o S1 := fun o S1 a b => ⟨a, Ext.rf _, b⟩
  unfold fm_X2_firstNew at h
  refine go_iconst (n := 0) (z := 0) (by decide +kernel) (by decide) fun v_1 f_2 => ?_
  refine go_istore_n (n := 1) (by decide +kernel) (by decide +kernel) f_2 fun L_3 l_4 kp_5 => ?_
  have l_6 := kp_5 0 _ l0 (by decide) (Or.inr (q_is_cat f0 (Or.inr rfl)))
  refine go_iconst (n := 0) (z := 0) (by decide +kernel) (by decide) fun v_7 f_8 => ?_
  refine go_istore_n (n := 2) (by decide +kernel) (by decide +kernel) f_8 fun L_9 l_10 kp_11 => ?_
  have l_12 := kp_11 0 _ l_6 (by decide) (Or.inl (by decide))
  have l_13 := kp_11 1 _ l_4 (by decide) (Or.inr (q_is_cat f_2 (Or.inl rfl)))
  refine ol_X2_firstNew_4 hd  g0  hQ BIG h R l_12 f0 l_13 f_2 l_10 f_8
noncomputable def fl_X2_hasNewSignal_5 (p0 y1 : Int) (m0 : MM) : Nat → Int → Option Int
  | 0, _ => none
  | n + 1, y2 => lx (m0 p0 1) fun x_18 =>
if y2 < x_18 then
bp (fm_X2_kind p0 y2 m0) fun x_24 =>
if x_24 = 4 then
bp (fm_X2_x p0 y2 m0) fun x_46 =>
if x_46 = y1 then
some 1
else
lx (w32 (y2 + 1)) fun x_60 =>
fl_X2_hasNewSignal_5 p0 y1 m0 n x_60
else
lx (w32 (y2 + 1)) fun x_40 =>
fl_X2_hasNewSignal_5 p0 y1 m0 n x_40
else
some 0
set_option maxHeartbeats 4000000 in
theorem ol_X2_hasNewSignal_5 {xs : List Int32} {d : Nat} {Q : QO → QS → Prop} {m0 : MM} {p0 y1 : Int} {rz : Int}
  (hd : 3 ≤ d) (gb : okc m0 p0 3)
  (hQ : ∀ o S1, Rp S1 m0 → q_out 0 o rz → Q o S1) :
  ∀ (n : Nat) {S : QS} {L : QL} {y2 : Int} {v0 : Value} {v1 : Value} {v2 : Value} , fl_X2_hasNewSignal_5 p0 y1 m0 n y2 = some rz → Rp S m0 → q_lo L 0 = some v0 → q_is 2 v0 p0 → q_lo L 1 = some v1 → q_is 0 v1 y1 → q_lo L 2 = some v2 → q_is 0 v2 y2 → Go xs d qM_X2_hasNewSignal 5 L [] S Q := by
  intro n
  induction n with
  | zero => intro S L y2 v0 v1 v2; intro h R l0 f0 l1 f1 l2 f2; cases h
  | succ n ih0 =>
    intro S L y2 v0 v1 v2; intro h R l0 f0 l1 f1 l2 f2
    have ih : ∀ {z2 : Int} {Sq : QS} {Lq : QL} {u0 : Value} {u1 : Value} {u2 : Value}, fl_X2_hasNewSignal_5 p0 y1 m0 n z2 = some rz → Rp Sq m0 → q_lo Lq 0 = some u0 → q_is 2 u0 p0 → q_lo Lq 1 = some u1 → q_is 0 u1 y1 → q_lo Lq 2 = some u2 → q_is 0 u2 z2 → Go xs d qM_X2_hasNewSignal 5 Lq [] Sq Q := by intros; exact ih0 ‹_› ‹_› ‹_› ‹_› ‹_› ‹_› ‹_› ‹_›
    have g0 := gb
    unfold fl_X2_hasNewSignal_5 at h
    refine go_iload_n (n := 2) (by decide +kernel) l2 f2 ?_
    refine go_aload_n (n := 0) (by decide +kernel) l0 f0 ?_
    obtain ⟨x_18, e_19, h⟩ := lx_s h
    refine go_getf (x := 9) (ci := 3) (kf := 1) (fin := 0) (t := 0) (by decide +kernel) (by decide +kernel) (by decide +kernel) R f0 g0 fun v_15 f_16 => ?_
    have f_17 := q_is_eq f_16 e_19
    refine go_icmp (c := .ge) (o := 29) (t := 39) (P := ¬ (y2 < x_18)) (by decide +kernel) (by decide +kernel) f2 f_17 (Int.not_lt.symm) (fun hp_20 => ?_) (fun hp_20 => ?_)
    · have h := it_f hp_20 h
      refine go_iconst (n := 0) (z := 0) (by decide +kernel) (by decide) fun v_21 f_22 => ?_
      cases h
      exact go_iret (by decide +kernel) rfl (Or.inr ⟨rfl, by decide⟩) f_22 (hQ _ _ R (q_out_v (by decide) f_22))
    · have h := it_n hp_20 h
      refine go_aload_n (n := 0) (by decide +kernel) l0 f0 ?_
      refine go_iload_n (n := 2) (by decide +kernel) l2 f2 ?_
      obtain ⟨x_24, hc_23, h⟩ := bp_s h
      refine go_callV (x := 51) (mi := 9) (n := 1) (ci := 3) (as := [v2]) (rest := []) (by decide +kernel) (by decide +kernel) rfl rfl (q_sum8 _ (Nat.le_of_ble_eq_true rfl)) R f0 g0 (om_X2_kind (Nat.le_trans (by decide) hd) R g0 f0 f2 hc_23) (fun _ S_28 q_31 => ?_) (fun _ _ qq => kr_x qq)
      refine kr_z (by decide) q_31 fun v_26 f_27 R_29 E_30 => ?_
      refine go_iconst (n := 4) (z := 4) (by decide +kernel) (by decide) fun v_32 f_33 => ?_
      refine go_icmp (c := .ne) (o := 14) (t := 33) (P := ¬ (x_24 = 4)) (by decide +kernel) (by decide +kernel) f_27 f_33 (Iff.rfl) (fun hp_34 => ?_) (fun hp_34 => ?_)
      · have h := it_f hp_34 h
        refine go_iinc (n := 2) (c := 1) (c' := 1) (by decide +kernel) (by decide +kernel) l2 f2 (by decide) fun L_35 v_36 f_37 l_38 kp_39 => ?_
        obtain ⟨x_40, e_41, h⟩ := lx_s h
        have f_42 := q_is_eq f_37 e_41
        have l_43 := kp_39 0 _ l0 (by decide) (Or.inl (by decide))
        have l_44 := kp_39 1 _ l1 (by decide) (Or.inr (q_is_cat f1 (Or.inl rfl)))
        refine go_goto (o := (-31)) (t := 5) (by decide +kernel) (by decide +kernel) ?_
        exact ih h R_29 l_43 f0 l_44 f1 l_38 f_42
      · have h := it_n hp_34 h
        refine go_aload_n (n := 0) (by decide +kernel) l0 f0 ?_
        refine go_iload_n (n := 2) (by decide +kernel) l2 f2 ?_
        obtain ⟨x_46, hc_45, h⟩ := bp_s h
        refine go_callV (x := 55) (mi := 10) (n := 1) (ci := 3) (as := [v2]) (rest := []) (by decide +kernel) (by decide +kernel) rfl rfl (q_sum8 _ (Nat.le_of_ble_eq_true rfl)) R_29 f0 g0 (om_X2_x (Nat.le_trans (by decide) hd) R_29 g0 f0 f2 hc_45) (fun _ S_50 q_53 => ?_) (fun _ _ qq => kr_x qq)
        refine kr_z (by decide) q_53 fun v_48 f_49 R_51 E_52 => ?_
        refine go_iload_n (n := 1) (by decide +kernel) l1 f1 ?_
        refine go_icmp (c := .ne) (o := 5) (t := 33) (P := ¬ (x_46 = y1)) (by decide +kernel) (by decide +kernel) f_49 f1 (Iff.rfl) (fun hp_54 => ?_) (fun hp_54 => ?_)
        · have h := it_f hp_54 h
          refine go_iinc (n := 2) (c := 1) (c' := 1) (by decide +kernel) (by decide +kernel) l2 f2 (by decide) fun L_55 v_56 f_57 l_58 kp_59 => ?_
          obtain ⟨x_60, e_61, h⟩ := lx_s h
          have f_62 := q_is_eq f_57 e_61
          have l_63 := kp_59 0 _ l0 (by decide) (Or.inl (by decide))
          have l_64 := kp_59 1 _ l1 (by decide) (Or.inr (q_is_cat f1 (Or.inl rfl)))
          refine go_goto (o := (-31)) (t := 5) (by decide +kernel) (by decide +kernel) ?_
          exact ih h R_51 l_63 f0 l_64 f1 l_58 f_62
        · have h := it_n hp_54 h
          refine go_iconst (n := 1) (z := 1) (by decide +kernel) (by decide) fun v_65 f_66 => ?_
          cases h
          exact go_iret (by decide +kernel) rfl (Or.inr ⟨rfl, by decide⟩) f_66 (hQ _ _ R_51 (q_out_v (by decide) f_66))
noncomputable def fm_X2_hasNewSignal (p0 p1 : Int) (m0 : MM) : Option Int := bp (fm_X2_firstNew p0 m0) fun x_2 =>
fl_X2_hasNewSignal_5 p0 p1 m0  BIG x_2
set_option maxHeartbeats 4000000 in
theorem om_X2_hasNewSignal {xs : List Int32} {d : Nat} {S : QS} {m0 : MM} {p0 p1 : Int} {v0 : Value} {v1 : Value} {rz : Int}
  (hd : 4 ≤ d) (R : Rp S m0) (g0 : okc m0 p0 3) (f0 : q_is 2 v0 p0) (f1 : q_is 0 v1 p1)
  (h : fm_X2_hasNewSignal p0 p1 m0 = some rz) : Mt xs d 26 [v0, v1] S (Cr 0 m0 m0 rz) := by
  obtain ⟨d, rfl⟩ : ∃ e, d = e + 1 := ⟨d - 1, by omega⟩
  have hd : 3 ≤ d := Nat.le_of_succ_le_succ hd
  refine Mt.of (M := qM_X2_hasNewSignal) rfl (by rw [sl_1 (q_is_cat f0 (Or.inr rfl)), sl_1 (q_is_cat f1 (Or.inl rfl)), sl_0]; decide) ?_
  rw [la_1 (q_is_cat f0 (Or.inr rfl)), la_1 (q_is_cat f1 (Or.inl rfl)), la_0]
  obtain ⟨L, hL⟩ : ∃ L : QL, L = [(0, v0), (0 + 1, v1)] := ⟨_, rfl⟩
  rw [← hL]
  have l0 : q_lo L 0 = some v0 := by rw [hL]; rfl
  have l1 : q_lo L 1 = some v1 := by rw [hL]; rfl
  have hQ : ∀ o S1, Rp S1 m0 → q_out 0 o rz → (Cr 0 m0 m0 rz) o S1 := fun o S1 a b => ⟨a, Ext.rf _, b⟩
  unfold fm_X2_hasNewSignal at h
  refine go_aload_n (n := 0) (by decide +kernel) l0 f0 ?_
  obtain ⟨x_2, hc_1, h⟩ := bp_s h
  refine go_callV (x := 68) (mi := 25) (n := 0) (ci := 3) (as := []) (rest := []) (by decide +kernel) (by decide +kernel) rfl rfl (q_sum8 _ (Nat.le_of_ble_eq_true rfl)) R f0 g0 (om_X2_firstNew (Nat.le_trans (by decide) hd) R g0 f0 hc_1) (fun _ S_6 q_9 => ?_) (fun _ _ qq => kr_x qq)
  refine kr_z (by decide) q_9 fun v_4 f_5 R_7 E_8 => ?_
  refine go_istore_n (n := 2) (by decide +kernel) (by decide +kernel) f_5 fun L_10 l_11 kp_12 => ?_
  have l_13 := kp_12 0 _ l0 (by decide) (Or.inl (by decide))
  have l_14 := kp_12 1 _ l1 (by decide) (Or.inr (q_is_cat f1 (Or.inl rfl)))
  refine ol_X2_hasNewSignal_5 hd  g0  hQ BIG h R_7 l_13 f0 l_14 f1 l_11 f_5
noncomputable def fl_X2_hasEnded_4 (p0 y1 : Int) (m0 : MM) : Nat → Int → Option Int
  | 0, _ => none
  | n + 1, y2 => lx (m0 p0 1) fun x_16 =>
if y2 < x_16 then
bp (fm_X2_kind p0 y2 m0) fun x_22 =>
bp (fm_X2_x p0 y2 m0) fun x_37 =>
if x_37 = y1 then
if x_22 = 1 then
some 1
else
if x_22 = 2 then
some 1
else
if x_22 = 3 then
some 1
else
if x_22 = 11 then
some 1
else
lx (w32 (y2 + 1)) fun x_79 =>
fl_X2_hasEnded_4 p0 y1 m0 n x_79
else
lx (w32 (y2 + 1)) fun x_51 =>
fl_X2_hasEnded_4 p0 y1 m0 n x_51
else
some 0
set_option maxHeartbeats 4000000 in
theorem ol_X2_hasEnded_4 {xs : List Int32} {d : Nat} {Q : QO → QS → Prop} {m0 : MM} {p0 y1 : Int} {rz : Int}
  (hd : 2 ≤ d) (gb : okc m0 p0 3)
  (hQ : ∀ o S1, Rp S1 m0 → q_out 0 o rz → Q o S1) :
  ∀ (n : Nat) {S : QS} {L : QL} {y2 : Int} {v0 : Value} {v1 : Value} {v2 : Value} , fl_X2_hasEnded_4 p0 y1 m0 n y2 = some rz → Rp S m0 → q_lo L 0 = some v0 → q_is 2 v0 p0 → q_lo L 1 = some v1 → q_is 0 v1 y1 → q_lo L 2 = some v2 → q_is 0 v2 y2 → Go xs d qM_X2_hasEnded 4 L [] S Q := by
  intro n
  induction n with
  | zero => intro S L y2 v0 v1 v2; intro h R l0 f0 l1 f1 l2 f2; cases h
  | succ n ih0 =>
    intro S L y2 v0 v1 v2; intro h R l0 f0 l1 f1 l2 f2
    have ih : ∀ {z2 : Int} {Sq : QS} {Lq : QL} {u0 : Value} {u1 : Value} {u2 : Value}, fl_X2_hasEnded_4 p0 y1 m0 n z2 = some rz → Rp Sq m0 → q_lo Lq 0 = some u0 → q_is 2 u0 p0 → q_lo Lq 1 = some u1 → q_is 0 u1 y1 → q_lo Lq 2 = some u2 → q_is 0 u2 z2 → Go xs d qM_X2_hasEnded 4 Lq [] Sq Q := by intros; exact ih0 ‹_› ‹_› ‹_› ‹_› ‹_› ‹_› ‹_› ‹_›
    have g0 := gb
    unfold fl_X2_hasEnded_4 at h
    refine go_iload_n (n := 2) (by decide +kernel) l2 f2 ?_
    refine go_aload_n (n := 0) (by decide +kernel) l0 f0 ?_
    obtain ⟨x_16, e_17, h⟩ := lx_s h
    refine go_getf (x := 9) (ci := 3) (kf := 1) (fin := 0) (t := 0) (by decide +kernel) (by decide +kernel) (by decide +kernel) R f0 g0 fun v_13 f_14 => ?_
    have f_15 := q_is_eq f_14 e_17
    refine go_icmp (c := .ge) (o := 47) (t := 56) (P := ¬ (y2 < x_16)) (by decide +kernel) (by decide +kernel) f2 f_15 (Int.not_lt.symm) (fun hp_18 => ?_) (fun hp_18 => ?_)
    · have h := it_f hp_18 h
      refine go_iconst (n := 0) (z := 0) (by decide +kernel) (by decide) fun v_19 f_20 => ?_
      cases h
      exact go_iret (by decide +kernel) rfl (Or.inr ⟨rfl, by decide⟩) f_20 (hQ _ _ R (q_out_v (by decide) f_20))
    · have h := it_n hp_18 h
      refine go_aload_n (n := 0) (by decide +kernel) l0 f0 ?_
      refine go_iload_n (n := 2) (by decide +kernel) l2 f2 ?_
      obtain ⟨x_22, hc_21, h⟩ := bp_s h
      refine go_callV (x := 51) (mi := 9) (n := 1) (ci := 3) (as := [v2]) (rest := []) (by decide +kernel) (by decide +kernel) rfl rfl (q_sum8 _ (Nat.le_of_ble_eq_true rfl)) R f0 g0 (om_X2_kind (Nat.le_trans (by decide) hd) R g0 f0 f2 hc_21) (fun _ S_26 q_29 => ?_) (fun _ _ qq => kr_x qq)
      refine kr_z (by decide) q_29 fun v_24 f_25 R_27 E_28 => ?_
      refine go_istore_n (n := 3) (by decide +kernel) (by decide +kernel) f_25 fun L_30 l_31 kp_32 => ?_
      have l_33 := kp_32 0 _ l0 (by decide) (Or.inl (by decide))
      have l_34 := kp_32 1 _ l1 (by decide) (Or.inl (by decide))
      have l_35 := kp_32 2 _ l2 (by decide) (Or.inr (q_is_cat f2 (Or.inl rfl)))
      refine go_aload_n (n := 0) (by decide +kernel) l_33 f0 ?_
      refine go_iload_n (n := 2) (by decide +kernel) l_35 f2 ?_
      obtain ⟨x_37, hc_36, h⟩ := bp_s h
      refine go_callV (x := 55) (mi := 10) (n := 1) (ci := 3) (as := [v2]) (rest := []) (by decide +kernel) (by decide +kernel) rfl rfl (q_sum8 _ (Nat.le_of_ble_eq_true rfl)) R_27 f0 g0 (om_X2_x (Nat.le_trans (by decide) hd) R_27 g0 f0 f2 hc_36) (fun _ S_41 q_44 => ?_) (fun _ _ qq => kr_x qq)
      refine kr_z (by decide) q_44 fun v_39 f_40 R_42 E_43 => ?_
      refine go_iload_n (n := 1) (by decide +kernel) l_34 f1 ?_
      refine go_icmp (c := .ne) (o := 26) (t := 50) (P := ¬ (x_37 = y1)) (by decide +kernel) (by decide +kernel) f_40 f1 (Iff.rfl) (fun hp_45 => ?_) (fun hp_45 => ?_)
      · have h := it_f hp_45 h
        refine go_iinc (n := 2) (c := 1) (c' := 1) (by decide +kernel) (by decide +kernel) l_35 f2 (by decide) fun L_46 v_47 f_48 l_49 kp_50 => ?_
        obtain ⟨x_51, e_52, h⟩ := lx_s h
        have f_53 := q_is_eq f_48 e_52
        have l_54 := kp_50 0 _ l_33 (by decide) (Or.inl (by decide))
        have l_55 := kp_50 1 _ l_34 (by decide) (Or.inr (q_is_cat f1 (Or.inl rfl)))
        refine go_goto (o := (-49)) (t := 4) (by decide +kernel) (by decide +kernel) ?_
        exact ih h R_42 l_54 f0 l_55 f1 l_49 f_53
      · have h := it_n hp_45 h
        refine go_iload_n (n := 3) (by decide +kernel) l_31 f_25 ?_
        refine go_iconst (n := 1) (z := 1) (by decide +kernel) (by decide) fun v_56 f_57 => ?_
        refine go_icmp (c := .eq) (o := 19) (t := 48) (P := x_22 = 1) (by decide +kernel) (by decide +kernel) f_25 f_57 (Iff.rfl) (fun hp_58 => ?_) (fun hp_58 => ?_)
        · have h := it_t hp_58 h
          refine go_iconst (n := 1) (z := 1) (by decide +kernel) (by decide) fun v_59 f_60 => ?_
          cases h
          exact go_iret (by decide +kernel) rfl (Or.inr ⟨rfl, by decide⟩) f_60 (hQ _ _ R_42 (q_out_v (by decide) f_60))
        · have h := it_f hp_58 h
          refine go_iload_n (n := 3) (by decide +kernel) l_31 f_25 ?_
          refine go_iconst (n := 2) (z := 2) (by decide +kernel) (by decide) fun v_61 f_62 => ?_
          refine go_icmp (c := .eq) (o := 14) (t := 48) (P := x_22 = 2) (by decide +kernel) (by decide +kernel) f_25 f_62 (Iff.rfl) (fun hp_63 => ?_) (fun hp_63 => ?_)
          · have h := it_t hp_63 h
            refine go_iconst (n := 1) (z := 1) (by decide +kernel) (by decide) fun v_64 f_65 => ?_
            cases h
            exact go_iret (by decide +kernel) rfl (Or.inr ⟨rfl, by decide⟩) f_65 (hQ _ _ R_42 (q_out_v (by decide) f_65))
          · have h := it_f hp_63 h
            refine go_iload_n (n := 3) (by decide +kernel) l_31 f_25 ?_
            refine go_iconst (n := 3) (z := 3) (by decide +kernel) (by decide) fun v_66 f_67 => ?_
            refine go_icmp (c := .eq) (o := 9) (t := 48) (P := x_22 = 3) (by decide +kernel) (by decide +kernel) f_25 f_67 (Iff.rfl) (fun hp_68 => ?_) (fun hp_68 => ?_)
            · have h := it_t hp_68 h
              refine go_iconst (n := 1) (z := 1) (by decide +kernel) (by decide) fun v_69 f_70 => ?_
              cases h
              exact go_iret (by decide +kernel) rfl (Or.inr ⟨rfl, by decide⟩) f_70 (hQ _ _ R_42 (q_out_v (by decide) f_70))
            · have h := it_f hp_68 h
              refine go_iload_n (n := 3) (by decide +kernel) l_31 f_25 ?_
              refine go_bipush (n := 11) (z := 11) (by decide +kernel) (by decide) fun v_71 f_72 => ?_
              refine go_icmp (c := .ne) (o := 5) (t := 50) (P := ¬ (x_22 = 11)) (by decide +kernel) (by decide +kernel) f_25 f_72 (Iff.rfl) (fun hp_73 => ?_) (fun hp_73 => ?_)
              · have h := it_f hp_73 h
                refine go_iinc (n := 2) (c := 1) (c' := 1) (by decide +kernel) (by decide +kernel) l_35 f2 (by decide) fun L_74 v_75 f_76 l_77 kp_78 => ?_
                obtain ⟨x_79, e_80, h⟩ := lx_s h
                have f_81 := q_is_eq f_76 e_80
                have l_82 := kp_78 0 _ l_33 (by decide) (Or.inl (by decide))
                have l_83 := kp_78 1 _ l_34 (by decide) (Or.inr (q_is_cat f1 (Or.inl rfl)))
                refine go_goto (o := (-49)) (t := 4) (by decide +kernel) (by decide +kernel) ?_
                exact ih h R_42 l_82 f0 l_83 f1 l_77 f_81
              · have h := it_n hp_73 h
                refine go_iconst (n := 1) (z := 1) (by decide +kernel) (by decide) fun v_84 f_85 => ?_
                cases h
                exact go_iret (by decide +kernel) rfl (Or.inr ⟨rfl, by decide⟩) f_85 (hQ _ _ R_42 (q_out_v (by decide) f_85))
noncomputable def fm_X2_hasEnded (p0 p1 : Int) (m0 : MM) : Option Int := lx (w32 (p1 + 1)) fun x_5 =>
fl_X2_hasEnded_4 p0 p1 m0  BIG x_5
set_option maxHeartbeats 4000000 in
theorem om_X2_hasEnded {xs : List Int32} {d : Nat} {S : QS} {m0 : MM} {p0 p1 : Int} {v0 : Value} {v1 : Value} {rz : Int}
  (hd : 3 ≤ d) (R : Rp S m0) (g0 : okc m0 p0 3) (f0 : q_is 2 v0 p0) (f1 : q_is 0 v1 p1)
  (h : fm_X2_hasEnded p0 p1 m0 = some rz) : Mt xs d 27 [v0, v1] S (Cr 0 m0 m0 rz) := by
  obtain ⟨d, rfl⟩ : ∃ e, d = e + 1 := ⟨d - 1, by omega⟩
  have hd : 2 ≤ d := Nat.le_of_succ_le_succ hd
  refine Mt.of (M := qM_X2_hasEnded) rfl (by rw [sl_1 (q_is_cat f0 (Or.inr rfl)), sl_1 (q_is_cat f1 (Or.inl rfl)), sl_0]; decide) ?_
  rw [la_1 (q_is_cat f0 (Or.inr rfl)), la_1 (q_is_cat f1 (Or.inl rfl)), la_0]
  obtain ⟨L, hL⟩ : ∃ L : QL, L = [(0, v0), (0 + 1, v1)] := ⟨_, rfl⟩
  rw [← hL]
  have l0 : q_lo L 0 = some v0 := by rw [hL]; rfl
  have l1 : q_lo L 1 = some v1 := by rw [hL]; rfl
  have hQ : ∀ o S1, Rp S1 m0 → q_out 0 o rz → (Cr 0 m0 m0 rz) o S1 := fun o S1 a b => ⟨a, Ext.rf _, b⟩
  unfold fm_X2_hasEnded at h
  refine go_iload_n (n := 1) (by decide +kernel) l1 f1 ?_
  refine go_iconst (n := 1) (z := 1) (by decide +kernel) (by decide) fun v_1 f_2 => ?_
  refine go_iadd (by decide +kernel) f1 f_2 fun v_3 f_4 => ?_
  obtain ⟨x_5, e_6, h⟩ := lx_s h
  have f_7 := q_is_eq f_4 e_6
  refine go_istore_n (n := 2) (by decide +kernel) (by decide +kernel) f_7 fun L_8 l_9 kp_10 => ?_
  have l_11 := kp_10 0 _ l0 (by decide) (Or.inl (by decide))
  have l_12 := kp_10 1 _ l1 (by decide) (Or.inr (q_is_cat f1 (Or.inl rfl)))
  refine ol_X2_hasEnded_4 hd  g0  hQ BIG h R l_11 f0 l_12 f1 l_9 f_7
noncomputable def fl_J7_fill_53178_5 (y1 y3 : Int) : Nat → Int → MM → Option (Int × MM)
  | 0, _, _ => none
  | n + 1, y2, m => if y2 < y3 then
gd (0 ≤ y2 ∧ y2 < 6) <| up m 18 y2 y1 fun m_19 =>
lx (w32 (y2 + 1)) fun x_31 =>
fl_J7_fill_53178_5 y1 y3 n x_31 m_19
else
some (0, m)
set_option maxHeartbeats 4000000 in
theorem ol_J7_fill_53178_5 {xs : List Int32} {d : Nat} {Q : QO → QS → Prop} {mb : MM} {y1 y3 : Int} {rz : Int} {rm : MM}
  (hd : 0 ≤ d)
  (hQ : Ext mb rm → ∀ o S1, Rp S1 rm → q_out 9 o rz → Q o S1) :
  ∀ (n : Nat) {m : MM} {S : QS} {L : QL} {y2 : Int} {v0 : Value} {v1 : Value} {v2 : Value} {v3 : Value} , Ext mb m → fl_J7_fill_53178_5 y1 y3 n y2 m = some (rz, rm) → Rp S m → q_lo L 0 = some v0 → q_is 2 v0 18 → q_lo L 1 = some v1 → q_is 0 v1 y1 → q_lo L 2 = some v2 → q_is 0 v2 y2 → q_lo L 3 = some v3 → q_is 0 v3 y3 → Go xs d qM_J7_fill_53178 5 L [] S Q := by
  intro n
  induction n with
  | zero => intro m S L y2 v0 v1 v2 v3; intro E h R l0 f0 l1 f1 l2 f2 l3 f3; cases h
  | succ n ih0 =>
    intro m S L y2 v0 v1 v2 v3; intro E h R l0 f0 l1 f1 l2 f2 l3 f3
    have ih : ∀ mq : MM, Ext mb mq → ∀ {z2 : Int} {Sq : QS} {Lq : QL} {u0 : Value} {u1 : Value} {u2 : Value} {u3 : Value}, fl_J7_fill_53178_5 y1 y3 n z2 mq = some (rz, rm) → Rp Sq mq → q_lo Lq 0 = some u0 → q_is 2 u0 18 → q_lo Lq 1 = some u1 → q_is 0 u1 y1 → q_lo Lq 2 = some u2 → q_is 0 u2 z2 → q_lo Lq 3 = some u3 → q_is 0 u3 y3 → Go xs d qM_J7_fill_53178 5 Lq [] Sq Q := fun mq b => by intros; exact ih0 b ‹_› ‹_› ‹_› ‹_› ‹_› ‹_› ‹_› ‹_› ‹_› ‹_›
    unfold fl_J7_fill_53178_5 at h
    refine go_iload_n (n := 2) (by decide +kernel) l2 f2 ?_
    refine go_iload_n (n := 3) (by decide +kernel) l3 f3 ?_
    refine go_icmp (c := .ge) (o := 13) (t := 20) (P := ¬ (y2 < y3)) (by decide +kernel) (by decide +kernel) f2 f3 (Int.not_lt.symm) (fun hp_17 => ?_) (fun hp_17 => ?_)
    · have h := it_f hp_17 h
      cases h
      exact go_vret (by decide +kernel) rfl (hQ E _ _ R q_out_n)
    · have h := it_n hp_17 h
      refine go_aload_n (n := 0) (by decide +kernel) l0 f0 ?_
      refine go_iload_n (n := 2) (by decide +kernel) l2 f2 ?_
      refine go_iload_n (n := 1) (by decide +kernel) l1 f1 ?_
      obtain ⟨g_18, h⟩ := gd_s h
      obtain ⟨m_19, e_20, h⟩ := up_s h
      refine go_iast (kd := 100) (by decide +kernel) rfl R f0 f2 f1 (fx_k (c := 100) R (by decide +kernel)) (fx_x (a := 18) (ln := 6) R (by decide +kernel) g_18) e_20 (fx_a R.2 (fx_k (c := 100) R (by decide +kernel)) (And.left (fx_x (a := 18) (ln := 6) R (by decide +kernel) g_18)) (by decide +kernel)) fun S_21 R_22 E_23 => ?_
      have E_25 := Ext.tr E E_23
      refine go_iinc (n := 2) (c := 1) (c' := 1) (by decide +kernel) (by decide +kernel) l2 f2 (by decide) fun L_26 v_27 f_28 l_29 kp_30 => ?_
      obtain ⟨x_31, e_32, h⟩ := lx_s h
      have f_33 := q_is_eq f_28 e_32
      have l_34 := kp_30 0 _ l0 (by decide) (Or.inl (by decide))
      have l_35 := kp_30 1 _ l1 (by decide) (Or.inr (q_is_cat f1 (Or.inl rfl)))
      have l_36 := kp_30 3 _ l3 (by decide) (Or.inl (by decide))
      refine go_goto (o := (-12)) (t := 5) (by decide +kernel) (by decide +kernel) ?_
      exact ih m_19 E_25 h R_22 l_34 f0 l_35 f1 l_29 f_33 l_36 f3
noncomputable def fm_J7_fill_53178 (p1 : Int) (m0 : MM) : Option (Int × MM) := fl_J7_fill_53178_5 p1 6  BIG 0 m0
set_option maxHeartbeats 4000000 in
theorem om_J7_fill_53178 {xs : List Int32} {d : Nat} {S : QS} {m0 : MM} {p1 : Int} {v0 : Value} {v1 : Value} {rz : Int} {rm : MM}
  (hd : 1 ≤ d) (R : Rp S m0) (f0 : q_is 2 v0 18) (f1 : q_is 0 v1 p1)
  (h : fm_J7_fill_53178 p1 m0 = some (rz, rm)) : Mt xs d 332 [v0, v1] S (Cr 9 m0 rm rz) := by
  obtain ⟨d, rfl⟩ : ∃ e, d = e + 1 := ⟨d - 1, by omega⟩
  have hd : 0 ≤ d := Nat.le_of_succ_le_succ hd
  refine Mt.of (M := qM_J7_fill_53178) rfl (by rw [sl_1 (q_is_cat f0 (Or.inr rfl)), sl_1 (q_is_cat f1 (Or.inl rfl)), sl_0]; decide) ?_
  rw [la_1 (q_is_cat f0 (Or.inr rfl)), la_1 (q_is_cat f1 (Or.inl rfl)), la_0]
  obtain ⟨L, hL⟩ : ∃ L : QL, L = [(0, v0), (0 + 1, v1)] := ⟨_, rfl⟩
  rw [← hL]
  have l0 : q_lo L 0 = some v0 := by rw [hL]; rfl
  have l1 : q_lo L 1 = some v1 := by rw [hL]; rfl
  have hQ : Ext m0 rm → ∀ o S1, Rp S1 rm → q_out 9 o rz → (Cr 9 m0 rm rz) o S1 := fun a o S1 b e => ⟨b, a, e⟩
  unfold fm_J7_fill_53178 at h
  refine go_iconst (n := 0) (z := 0) (by decide +kernel) (by decide) fun v_1 f_2 => ?_
  refine go_istore_n (n := 2) (by decide +kernel) (by decide +kernel) f_2 fun L_3 l_4 kp_5 => ?_
  have l_6 := kp_5 0 _ l0 (by decide) (Or.inl (by decide))
  have l_7 := kp_5 1 _ l1 (by decide) (Or.inr (q_is_cat f1 (Or.inl rfl)))
  refine go_aload_n (n := 0) (by decide +kernel) l_6 f0 ?_
  refine go_alen (by decide +kernel) R f0 (okl_of (fx_k (c := 100) R (by decide +kernel)) (by decide)) fun v_8 f_9 => ?_
  have f_10 := q_is_eq (b := 6) f_9 (by rw [fx_l R (ln := 6) (by decide +kernel)]; decide)
  refine go_istore_n (n := 3) (by decide +kernel) (by decide +kernel) f_10 fun L_11 l_12 kp_13 => ?_
  have l_14 := kp_13 0 _ l_6 (by decide) (Or.inl (by decide))
  have l_15 := kp_13 1 _ l_7 (by decide) (Or.inl (by decide))
  have l_16 := kp_13 2 _ l_4 (by decide) (Or.inr (q_is_cat f_2 (Or.inl rfl)))
  refine ol_J7_fill_53178_5 hd   hQ BIG (Ext.rf _) h R l_14 f0 l_15 f1 l_16 f_2 l_12 f_10
noncomputable def fl_X8_clear_10 (k35 : MM → Option (Int × MM)) : Nat → Int → MM → Option (Int × MM)
  | 0, _, _ => none
  | n + 1, y1, m => if y1 < 4 then
gd (0 ≤ y1 ∧ y1 < 4) <| lx (m 20 y1) fun x_38 =>
gd (okc m x_38 6) <| bd (fm_X5_cut x_38 0 m) fun x_44 m_45 =>
lx (w32 (y1 + 1)) fun x_60 =>
fl_X8_clear_10 k35 n x_60 m_45
else
k35 m
set_option maxHeartbeats 4000000 in
theorem ol_X8_clear_10 {xs : List Int32} {d : Nat} {Q : QO → QS → Prop} {mb : MM} {k35 : MM → Option (Int × MM)} {rz : Int} {rm : MM}
  (hd : 3 ≤ d)
  (hk35 : ∀ mq : MM, Ext mb mq → ∀ {Sq : QS} {Lq : QL} {u0 : Value}, k35 mq = some (rz, rm) → Rp Sq mq → q_lo Lq 0 = some u0 → q_is 2 u0 17 → Go xs d qM_X8_clear 35 Lq [] Sq Q)
  (hQ : Ext mb rm → ∀ o S1, Rp S1 rm → q_out 9 o rz → Q o S1) :
  ∀ (n : Nat) {m : MM} {S : QS} {L : QL} {y1 : Int} {v0 : Value} {v1 : Value} , Ext mb m → fl_X8_clear_10 k35 n y1 m = some (rz, rm) → Rp S m → q_lo L 0 = some v0 → q_is 2 v0 17 → q_lo L 1 = some v1 → q_is 0 v1 y1 → Go xs d qM_X8_clear 10 L [] S Q := by
  intro n
  induction n with
  | zero => intro m S L y1 v0 v1; intro E h R l0 f0 l1 f1; cases h
  | succ n ih0 =>
    intro m S L y1 v0 v1; intro E h R l0 f0 l1 f1
    have ih : ∀ mq : MM, Ext mb mq → ∀ {z1 : Int} {Sq : QS} {Lq : QL} {u0 : Value} {u1 : Value}, fl_X8_clear_10 k35 n z1 mq = some (rz, rm) → Rp Sq mq → q_lo Lq 0 = some u0 → q_is 2 u0 17 → q_lo Lq 1 = some u1 → q_is 0 u1 z1 → Go xs d qM_X8_clear 10 Lq [] Sq Q := fun mq b => by intros; exact ih0 b ‹_› ‹_› ‹_› ‹_› ‹_› ‹_›
    unfold fl_X8_clear_10 at h
    refine go_iload_n (n := 1) (by decide +kernel) l1 f1 ?_
    refine go_aload_n (n := 0) (by decide +kernel) l0 f0 ?_
    refine go_getf (x := 23) (ci := 9) (kf := 2) (fin := 1) (t := 2) (by decide +kernel) (by decide +kernel) (by decide +kernel) R f0 (fx_k (c := 9) R (by decide +kernel)) fun v_24 f_25 => ?_
    have f_26 := q_is_eq (b := 20) f_25 (fx_v R (by decide +kernel)).symm
    refine go_alen (by decide +kernel) R f_26 (okl_of (fx_k (c := 105) R (by decide +kernel)) (by decide)) fun v_27 f_28 => ?_
    have f_29 := q_is_eq (b := 4) f_28 (by rw [fx_l R (ln := 4) (by decide +kernel)]; decide)
    refine go_icmp (c := .ge) (o := 19) (t := 35) (P := ¬ (y1 < 4)) (by decide +kernel) (by decide +kernel) f1 f_29 (Int.not_lt.symm) (fun hp_30 => ?_) (fun hp_30 => ?_)
    · have h := it_f hp_30 h
      exact hk35 m E h R l0 f0
    · have h := it_n hp_30 h
      refine go_aload_n (n := 0) (by decide +kernel) l0 f0 ?_
      refine go_getf (x := 23) (ci := 9) (kf := 2) (fin := 1) (t := 2) (by decide +kernel) (by decide +kernel) (by decide +kernel) R f0 (fx_k (c := 9) R (by decide +kernel)) fun v_31 f_32 => ?_
      have f_33 := q_is_eq (b := 20) f_32 (fx_v R (by decide +kernel)).symm
      refine go_iload_n (n := 1) (by decide +kernel) l1 f1 ?_
      obtain ⟨g_36, h⟩ := gd_s h
      obtain ⟨x_38, e_39, h⟩ := lx_s h
      refine go_aald (kd := 105) (by decide +kernel) (by decide) R f_33 f1 (fx_k (c := 105) R (by decide +kernel)) (fx_x (a := 20) (ln := 4) R (by decide +kernel) g_36) fun v_34 f_35 => ?_
      have f_37 := q_is_eq f_35 e_39
      refine go_iconst (n := 0) (z := 0) (by decide +kernel) (by decide) fun v_40 f_41 => ?_
      obtain ⟨g_42, h⟩ := gd_s h
      obtain ⟨x_44, m_45, hc_43, h⟩ := bd_s h
      refine go_callV (x := 71) (mi := 63) (n := 1) (ci := 6) (as := [v_40]) (rest := []) (by decide +kernel) (by decide +kernel) rfl rfl (q_sum8 _ (Nat.le_of_ble_eq_true rfl)) R f_37 g_42 (om_X5_cut (Nat.le_trans (by decide) hd) R g_42 f_37 f_41 hc_43) (fun _ S_48 q_51 => ?_) (fun _ _ qq => kr_x qq)
      refine kr_v q_51 fun R_49 E_50 => ?_
      have E_54 := Ext.tr E E_50
      refine go_iinc (n := 1) (c := 1) (c' := 1) (by decide +kernel) (by decide +kernel) l1 f1 (by decide) fun L_55 v_56 f_57 l_58 kp_59 => ?_
      obtain ⟨x_60, e_61, h⟩ := lx_s h
      have f_62 := q_is_eq f_57 e_61
      have l_63 := kp_59 0 _ l0 (by decide) (Or.inr (q_is_cat f0 (Or.inr rfl)))
      refine go_goto (o := (-22)) (t := 10) (by decide +kernel) (by decide +kernel) ?_
      exact ih m_45 E_54 h R_49 l_63 f0 l_58 f_62
noncomputable def fm_X8_clear (m0 : MM) : Option (Int × MM) := bd (fm_J7_fill_53178 0 m0) fun x_7 m_8 =>
fl_X8_clear_10  (fun m_70 =>
bd (fm_X5_cut 21 0 m_70) fun x_81 m_82 =>
up m_82 17 4 0 fun m_94 =>
up m_94 17 5 0 fun m_103 =>
up m_103 17 6 0 fun m_112 =>
up m_112 17 7 0 fun m_121 =>
up m_121 17 8 0 fun m_130 =>
up m_130 17 9 0 fun m_139 =>
up m_139 17 10 0 fun m_148 =>
up m_148 17 11 0 fun m_157 =>
up m_157 17 12 0 fun m_166 =>
up m_166 17 13 0 fun m_175 =>
some (0, m_175)) BIG 0 m_8
set_option maxHeartbeats 4000000 in
theorem om_X8_clear {xs : List Int32} {d : Nat} {S : QS} {m0 : MM} {v0 : Value} {rz : Int} {rm : MM}
  (hd : 4 ≤ d) (R : Rp S m0) (f0 : q_is 2 v0 17)
  (h : fm_X8_clear m0 = some (rz, rm)) : Mt xs d 77 [v0] S (Cr 9 m0 rm rz) := by
  obtain ⟨d, rfl⟩ : ∃ e, d = e + 1 := ⟨d - 1, by omega⟩
  have hd : 3 ≤ d := Nat.le_of_succ_le_succ hd
  refine Mt.of (M := qM_X8_clear) rfl (by rw [sl_1 (q_is_cat f0 (Or.inr rfl)), sl_0]; decide) ?_
  rw [la_1 (q_is_cat f0 (Or.inr rfl)), la_0]
  obtain ⟨L, hL⟩ : ∃ L : QL, L = [(0, v0)] := ⟨_, rfl⟩
  rw [← hL]
  have l0 : q_lo L 0 = some v0 := by rw [hL]; rfl
  have hQ : Ext m0 rm → ∀ o S1, Rp S1 rm → q_out 9 o rz → (Cr 9 m0 rm rz) o S1 := fun a o S1 b e => ⟨b, a, e⟩
  unfold fm_X8_clear at h
  refine go_aload_n (n := 0) (by decide +kernel) l0 f0 ?_
  refine go_getf (x := 9) (ci := 9) (kf := 0) (fin := 1) (t := 2) (by decide +kernel) (by decide +kernel) (by decide +kernel) R f0 (fx_k (c := 9) R (by decide +kernel)) fun v_1 f_2 => ?_
  have f_3 := q_is_eq (b := 18) f_2 (fx_v R (by decide +kernel)).symm
  refine go_iconst (n := 0) (z := 0) (by decide +kernel) (by decide) fun v_4 f_5 => ?_
  obtain ⟨x_7, m_8, hc_6, h⟩ := bd_s h
  refine go_callS (x := 65) (mi := 332) (n := 2) (b := 0) (as := [v_1, v_4]) (rest := []) (by decide +kernel) (by decide +kernel) rfl rfl (q_sum8 _ (Nat.le_of_ble_eq_true rfl)) (om_J7_fill_53178 (Nat.le_trans (by decide) hd) R f_3 f_5 hc_6) (fun _ S_11 q_14 => ?_) (fun _ _ qq => kr_x qq)
  refine kr_v q_14 fun R_12 E_13 => ?_
  have E_17 := E_13
  refine go_iconst (n := 0) (z := 0) (by decide +kernel) (by decide) fun v_18 f_19 => ?_
  refine go_istore_n (n := 1) (by decide +kernel) (by decide +kernel) f_19 fun L_20 l_21 kp_22 => ?_
  have l_23 := kp_22 0 _ l0 (by decide) (Or.inr (q_is_cat f0 (Or.inr rfl)))
  refine ol_X8_clear_10 hd  ?_ (fun b => hQ (Ext.tr E_17 b)) BIG (Ext.rf _) h R_12 l_23 f0 l_21 f_19
  intro m_70 E_71
  intro S_67 L_68 v_64
  intro h R_69 l_65 f_66
  have E_72 := Ext.tr E_17 E_71
  refine go_aload_n (n := 0) (by decide +kernel) l_65 f_66 ?_
  refine go_getf (x := 28) (ci := 9) (kf := 3) (fin := 1) (t := 2) (by decide +kernel) (by decide +kernel) (by decide +kernel) R_69 f_66 (fx_k (c := 9) R_69 (by decide +kernel)) fun v_75 f_76 => ?_
  have f_77 := q_is_eq (b := 21) f_76 (fx_v R_69 (by decide +kernel)).symm
  refine go_iconst (n := 0) (z := 0) (by decide +kernel) (by decide) fun v_78 f_79 => ?_
  obtain ⟨x_81, m_82, hc_80, h⟩ := bd_s h
  refine go_callV (x := 71) (mi := 63) (n := 1) (ci := 6) (as := [v_78]) (rest := []) (by decide +kernel) (by decide +kernel) rfl rfl (q_sum8 _ (Nat.le_of_ble_eq_true rfl)) R_69 f_77 (fx_k (c := 6) R_69 (by decide +kernel)) (om_X5_cut (Nat.le_trans (by decide) hd) R_69 (fx_k (c := 6) R_69 (by decide +kernel)) f_77 f_79 hc_80) (fun _ S_85 q_88 => ?_) (fun _ _ qq => kr_x qq)
  refine kr_v q_88 fun R_86 E_87 => ?_
  have E_91 := Ext.tr E_72 E_87
  refine go_aload_n (n := 0) (by decide +kernel) l_65 f_66 ?_
  refine go_iconst (n := 0) (z := 0) (by decide +kernel) (by decide) fun v_92 f_93 => ?_
  obtain ⟨m_94, e_95, h⟩ := up_s h
  refine go_putf (x := 32) (ci := 9) (kf := 4) (fin := 0) (zt := 0) (by decide +kernel) (by decide +kernel) (by decide) (by decide +kernel) (by decide) (Or.inl rfl) R_86 f_66 f_93 (fun hq => absurd hq (by decide)) (fx_k (c := 9) R_86 (by decide +kernel)) e_95 (fx_f (j := 4) R_86.2 (fx_k (c := 9) R_86 (by decide +kernel)) (by decide +kernel)) fun S_96 R_97 E_98 => ?_
  have E_100 := Ext.tr E_91 E_98
  refine go_aload_n (n := 0) (by decide +kernel) l_65 f_66 ?_
  refine go_iconst (n := 0) (z := 0) (by decide +kernel) (by decide) fun v_101 f_102 => ?_
  obtain ⟨m_103, e_104, h⟩ := up_s h
  refine go_putf (x := 36) (ci := 9) (kf := 5) (fin := 0) (zt := 0) (by decide +kernel) (by decide +kernel) (by decide) (by decide +kernel) (by decide) (Or.inl rfl) R_97 f_66 f_102 (fun hq => absurd hq (by decide)) (fx_k (c := 9) R_97 (by decide +kernel)) e_104 (fx_f (j := 5) R_97.2 (fx_k (c := 9) R_97 (by decide +kernel)) (by decide +kernel)) fun S_105 R_106 E_107 => ?_
  have E_109 := Ext.tr E_100 E_107
  refine go_aload_n (n := 0) (by decide +kernel) l_65 f_66 ?_
  refine go_iconst (n := 0) (z := 0) (by decide +kernel) (by decide) fun v_110 f_111 => ?_
  obtain ⟨m_112, e_113, h⟩ := up_s h
  refine go_putf (x := 39) (ci := 9) (kf := 6) (fin := 0) (zt := 0) (by decide +kernel) (by decide +kernel) (by decide) (by decide +kernel) (by decide) (Or.inl rfl) R_106 f_66 f_111 (fun hq => absurd hq (by decide)) (fx_k (c := 9) R_106 (by decide +kernel)) e_113 (fx_f (j := 6) R_106.2 (fx_k (c := 9) R_106 (by decide +kernel)) (by decide +kernel)) fun S_114 R_115 E_116 => ?_
  have E_118 := Ext.tr E_109 E_116
  refine go_aload_n (n := 0) (by decide +kernel) l_65 f_66 ?_
  refine go_iconst (n := 0) (z := 0) (by decide +kernel) (by decide) fun v_119 f_120 => ?_
  obtain ⟨m_121, e_122, h⟩ := up_s h
  refine go_putf (x := 42) (ci := 9) (kf := 7) (fin := 0) (zt := 0) (by decide +kernel) (by decide +kernel) (by decide) (by decide +kernel) (by decide) (Or.inl rfl) R_115 f_66 f_120 (fun hq => absurd hq (by decide)) (fx_k (c := 9) R_115 (by decide +kernel)) e_122 (fx_f (j := 7) R_115.2 (fx_k (c := 9) R_115 (by decide +kernel)) (by decide +kernel)) fun S_123 R_124 E_125 => ?_
  have E_127 := Ext.tr E_118 E_125
  refine go_aload_n (n := 0) (by decide +kernel) l_65 f_66 ?_
  refine go_iconst (n := 0) (z := 0) (by decide +kernel) (by decide) fun v_128 f_129 => ?_
  obtain ⟨m_130, e_131, h⟩ := up_s h
  refine go_putf (x := 45) (ci := 9) (kf := 8) (fin := 0) (zt := 1) (by decide +kernel) (by decide +kernel) (by decide) (by decide +kernel) (by decide) (Or.inl rfl) R_124 f_66 f_129 (fun _ => by decide) (fx_k (c := 9) R_124 (by decide +kernel)) e_131 (fx_f (j := 8) R_124.2 (fx_k (c := 9) R_124 (by decide +kernel)) (by decide +kernel)) fun S_132 R_133 E_134 => ?_
  have E_136 := Ext.tr E_127 E_134
  refine go_aload_n (n := 0) (by decide +kernel) l_65 f_66 ?_
  refine go_iconst (n := 0) (z := 0) (by decide +kernel) (by decide) fun v_137 f_138 => ?_
  obtain ⟨m_139, e_140, h⟩ := up_s h
  refine go_putf (x := 49) (ci := 9) (kf := 9) (fin := 0) (zt := 0) (by decide +kernel) (by decide +kernel) (by decide) (by decide +kernel) (by decide) (Or.inl rfl) R_133 f_66 f_138 (fun hq => absurd hq (by decide)) (fx_k (c := 9) R_133 (by decide +kernel)) e_140 (fx_f (j := 9) R_133.2 (fx_k (c := 9) R_133 (by decide +kernel)) (by decide +kernel)) fun S_141 R_142 E_143 => ?_
  have E_145 := Ext.tr E_136 E_143
  refine go_aload_n (n := 0) (by decide +kernel) l_65 f_66 ?_
  refine go_iconst (n := 0) (z := 0) (by decide +kernel) (by decide) fun v_146 f_147 => ?_
  obtain ⟨m_148, e_149, h⟩ := up_s h
  refine go_putf (x := 52) (ci := 9) (kf := 10) (fin := 0) (zt := 0) (by decide +kernel) (by decide +kernel) (by decide) (by decide +kernel) (by decide) (Or.inl rfl) R_142 f_66 f_147 (fun hq => absurd hq (by decide)) (fx_k (c := 9) R_142 (by decide +kernel)) e_149 (fx_f (j := 10) R_142.2 (fx_k (c := 9) R_142 (by decide +kernel)) (by decide +kernel)) fun S_150 R_151 E_152 => ?_
  have E_154 := Ext.tr E_145 E_152
  refine go_aload_n (n := 0) (by decide +kernel) l_65 f_66 ?_
  refine go_iconst (n := 0) (z := 0) (by decide +kernel) (by decide) fun v_155 f_156 => ?_
  obtain ⟨m_157, e_158, h⟩ := up_s h
  refine go_putf (x := 55) (ci := 9) (kf := 11) (fin := 0) (zt := 0) (by decide +kernel) (by decide +kernel) (by decide) (by decide +kernel) (by decide) (Or.inl rfl) R_151 f_66 f_156 (fun hq => absurd hq (by decide)) (fx_k (c := 9) R_151 (by decide +kernel)) e_158 (fx_f (j := 11) R_151.2 (fx_k (c := 9) R_151 (by decide +kernel)) (by decide +kernel)) fun S_159 R_160 E_161 => ?_
  have E_163 := Ext.tr E_154 E_161
  refine go_aload_n (n := 0) (by decide +kernel) l_65 f_66 ?_
  refine go_iconst (n := 0) (z := 0) (by decide +kernel) (by decide) fun v_164 f_165 => ?_
  obtain ⟨m_166, e_167, h⟩ := up_s h
  refine go_putf (x := 58) (ci := 9) (kf := 12) (fin := 0) (zt := 0) (by decide +kernel) (by decide +kernel) (by decide) (by decide +kernel) (by decide) (Or.inl rfl) R_160 f_66 f_165 (fun hq => absurd hq (by decide)) (fx_k (c := 9) R_160 (by decide +kernel)) e_167 (fx_f (j := 12) R_160.2 (fx_k (c := 9) R_160 (by decide +kernel)) (by decide +kernel)) fun S_168 R_169 E_170 => ?_
  have E_172 := Ext.tr E_163 E_170
  refine go_aload_n (n := 0) (by decide +kernel) l_65 f_66 ?_
  refine go_iconst (n := 0) (z := 0) (by decide +kernel) (by decide) fun v_173 f_174 => ?_
  obtain ⟨m_175, e_176, h⟩ := up_s h
  refine go_putf (x := 61) (ci := 9) (kf := 13) (fin := 0) (zt := 0) (by decide +kernel) (by decide +kernel) (by decide) (by decide +kernel) (by decide) (Or.inl rfl) R_169 f_66 f_174 (fun hq => absurd hq (by decide)) (fx_k (c := 9) R_169 (by decide +kernel)) e_176 (fx_f (j := 13) R_169.2 (fx_k (c := 9) R_169 (by decide +kernel)) (by decide +kernel)) fun S_177 R_178 E_179 => ?_
  have E_181 := Ext.tr E_172 E_179
  cases h
  exact go_vret (by decide +kernel) rfl (hQ E_181 _ _ R_178 q_out_n)
noncomputable def fj_X4_load_63 (m : MM) : Option (Int × MM) := up m 16 7 0 fun m_73 =>
bd (fm_X2_cut 43 0 m_73) fun x_86 m_87 =>
up m_87 16 8 0 fun m_99 =>
up m_99 16 9 0 fun m_108 =>
up m_108 16 10 0 fun m_117 =>
up m_117 16 11 (-1) fun m_126 =>
some (0, m_126)
set_option maxHeartbeats 4000000 in
theorem oj_X4_load_63 {xs : List Int32} {d : Nat} {S : QS} {L : QL} {Q : QO → QS → Prop} {m : MM} {v0 : Value}  {rz : Int} {rm : MM}
  (hd : 4 ≤ d) (R : Rp S m) (l0 : q_lo L 0 = some v0) (f0 : q_is 2 v0 16)
  (hQ : Ext m rm → ∀ o S1, Rp S1 rm → q_out 9 o rz → Q o S1)
  (h : fj_X4_load_63 m = some (rz, rm)) : Go xs d qM_X4_load 63 L [] S Q := by
  unfold fj_X4_load_63 at h
  refine go_aload_n (n := 0) (by decide +kernel) l0 f0 ?_
  refine go_null (by decide +kernel) fun v_71 f_72 => ?_
  obtain ⟨m_73, e_74, h⟩ := up_s h
  refine go_putf (x := 45) (ci := 5) (kf := 7) (fin := 0) (zt := 2) (by decide +kernel) (by decide +kernel) (by decide) (by decide +kernel) (by decide) (Or.inl rfl) R f0 f_72 (fun hq => absurd hq (by decide)) (fx_k (c := 5) R (by decide +kernel)) e_74 (fx_f (j := 7) R.2 (fx_k (c := 5) R (by decide +kernel)) (by decide +kernel)) fun S_75 R_76 E_77 => ?_
  have E_79 := E_77
  refine go_aload_n (n := 0) (by decide +kernel) l0 f0 ?_
  refine go_getf (x := 24) (ci := 5) (kf := 1) (fin := 1) (t := 2) (by decide +kernel) (by decide +kernel) (by decide +kernel) R_76 f0 (fx_k (c := 5) R_76 (by decide +kernel)) fun v_80 f_81 => ?_
  have f_82 := q_is_eq (b := 43) f_81 (fx_v R_76 (by decide +kernel)).symm
  refine go_iconst (n := 0) (z := 0) (by decide +kernel) (by decide) fun v_83 f_84 => ?_
  obtain ⟨x_86, m_87, hc_85, h⟩ := bd_s h
  refine go_callV (x := 110) (mi := 16) (n := 1) (ci := 3) (as := [v_83]) (rest := []) (by decide +kernel) (by decide +kernel) rfl rfl (q_sum8 _ (Nat.le_of_ble_eq_true rfl)) R_76 f_82 (fx_k (c := 3) R_76 (by decide +kernel)) (om_X2_cut (Nat.le_trans (by decide) hd) R_76 (fx_k (c := 3) R_76 (by decide +kernel)) f_82 f_84 hc_85) (fun _ S_90 q_93 => ?_) (fun _ _ qq => kr_x qq)
  refine kr_v q_93 fun R_91 E_92 => ?_
  have E_96 := Ext.tr E_79 E_92
  refine go_aload_n (n := 0) (by decide +kernel) l0 f0 ?_
  refine go_iconst (n := 0) (z := 0) (by decide +kernel) (by decide) fun v_97 f_98 => ?_
  obtain ⟨m_99, e_100, h⟩ := up_s h
  refine go_putf (x := 49) (ci := 5) (kf := 8) (fin := 0) (zt := 0) (by decide +kernel) (by decide +kernel) (by decide) (by decide +kernel) (by decide) (Or.inl rfl) R_91 f0 f_98 (fun hq => absurd hq (by decide)) (fx_k (c := 5) R_91 (by decide +kernel)) e_100 (fx_f (j := 8) R_91.2 (fx_k (c := 5) R_91 (by decide +kernel)) (by decide +kernel)) fun S_101 R_102 E_103 => ?_
  have E_105 := Ext.tr E_96 E_103
  refine go_aload_n (n := 0) (by decide +kernel) l0 f0 ?_
  refine go_iconst (n := 0) (z := 0) (by decide +kernel) (by decide) fun v_106 f_107 => ?_
  obtain ⟨m_108, e_109, h⟩ := up_s h
  refine go_putf (x := 52) (ci := 5) (kf := 9) (fin := 0) (zt := 0) (by decide +kernel) (by decide +kernel) (by decide) (by decide +kernel) (by decide) (Or.inl rfl) R_102 f0 f_107 (fun hq => absurd hq (by decide)) (fx_k (c := 5) R_102 (by decide +kernel)) e_109 (fx_f (j := 9) R_102.2 (fx_k (c := 5) R_102 (by decide +kernel)) (by decide +kernel)) fun S_110 R_111 E_112 => ?_
  have E_114 := Ext.tr E_105 E_112
  refine go_aload_n (n := 0) (by decide +kernel) l0 f0 ?_
  refine go_iconst (n := 0) (z := 0) (by decide +kernel) (by decide) fun v_115 f_116 => ?_
  obtain ⟨m_117, e_118, h⟩ := up_s h
  refine go_putf (x := 55) (ci := 5) (kf := 10) (fin := 0) (zt := 1) (by decide +kernel) (by decide +kernel) (by decide) (by decide +kernel) (by decide) (Or.inl rfl) R_111 f0 f_116 (fun _ => by decide) (fx_k (c := 5) R_111 (by decide +kernel)) e_118 (fx_f (j := 10) R_111.2 (fx_k (c := 5) R_111 (by decide +kernel)) (by decide +kernel)) fun S_119 R_120 E_121 => ?_
  have E_123 := Ext.tr E_114 E_121
  refine go_aload_n (n := 0) (by decide +kernel) l0 f0 ?_
  refine go_iconst (n := (-1)) (z := (-1)) (by decide +kernel) (by decide) fun v_124 f_125 => ?_
  obtain ⟨m_126, e_127, h⟩ := up_s h
  refine go_putf (x := 59) (ci := 5) (kf := 11) (fin := 0) (zt := 0) (by decide +kernel) (by decide +kernel) (by decide) (by decide +kernel) (by decide) (Or.inl rfl) R_120 f0 f_125 (fun hq => absurd hq (by decide)) (fx_k (c := 5) R_120 (by decide +kernel)) e_127 (fx_f (j := 11) R_120.2 (fx_k (c := 5) R_120 (by decide +kernel)) (by decide +kernel)) fun S_128 R_129 E_130 => ?_
  have E_132 := Ext.tr E_123 E_130
  cases h
  exact go_vret (by decide +kernel) rfl (hQ E_132 _ _ R_129 q_out_n)
noncomputable def fj_X4_load_56 (m : MM) : Option (Int × MM) := bd (fm_X8_clear m) fun x_60 m_61 =>
fj_X4_load_63 m_61
set_option maxHeartbeats 4000000 in
theorem oj_X4_load_56 {xs : List Int32} {d : Nat} {S : QS} {L : QL} {Q : QO → QS → Prop} {m : MM} {v0 : Value}  {rz : Int} {rm : MM}
  (hd : 4 ≤ d) (R : Rp S m) (l0 : q_lo L 0 = some v0) (f0 : q_is 2 v0 16)
  (hQ : Ext m rm → ∀ o S1, Rp S1 rm → q_out 9 o rz → Q o S1)
  (h : fj_X4_load_56 m = some (rz, rm)) : Go xs d qM_X4_load 56 L [] S Q := by
  unfold fj_X4_load_56 at h
  refine go_aload_n (n := 0) (by decide +kernel) l0 f0 ?_
  refine go_getf (x := 10) (ci := 5) (kf := 0) (fin := 1) (t := 2) (by decide +kernel) (by decide +kernel) (by decide +kernel) R f0 (fx_k (c := 5) R (by decide +kernel)) fun v_56 f_57 => ?_
  have f_58 := q_is_eq (b := 17) f_57 (fx_v R (by decide +kernel)).symm
  obtain ⟨x_60, m_61, hc_59, h⟩ := bd_s h
  refine go_callV (x := 107) (mi := 77) (n := 0) (ci := 9) (as := []) (rest := []) (by decide +kernel) (by decide +kernel) rfl rfl (q_sum8 _ (Nat.le_of_ble_eq_true rfl)) R f_58 (fx_k (c := 9) R (by decide +kernel)) (om_X8_clear (Nat.le_trans (by decide) hd) R f_58 hc_59) (fun _ S_64 q_67 => ?_) (fun _ _ qq => kr_x qq)
  refine kr_v q_67 fun R_65 E_66 => ?_
  have E_70 := E_66
  exact oj_X4_load_63 hd R_65 l0 f0 (fun b => hQ (Ext.tr E_70 b)) h
noncomputable def fj_X4_load_32 (y1 y3 s0 : Int) (m : MM) : Option (Int × MM) := up m 16 5 s0 fun m_33 =>
gd (okc m_33 y1 7) <| lx (m_33 y1 15) fun x_44 =>
up m_33 16 6 x_44 fun m_46 =>
if y3 = 2 then
lx (m_46 16 7) fun x_136 =>
gd (x_136 = 0 ∨ x_136 = 1 ∨ 4 ≤ x_136) <| if x_136 = y1 then
fj_X4_load_63 m_46
else
fj_X4_load_56 m_46
else
fj_X4_load_56 m_46
set_option maxHeartbeats 4000000 in
theorem oj_X4_load_32 {xs : List Int32} {d : Nat} {S : QS} {L : QL} {Q : QO → QS → Prop} {m : MM} {y1 y3 s0 : Int} {v0 : Value} {v1 : Value} {v3 : Value} {w0 : Value} {w1 : Value}  {rz : Int} {rm : MM}
  (hd : 4 ≤ d) (R : Rp S m) (l0 : q_lo L 0 = some v0) (f0 : q_is 2 v0 16) (l1 : q_lo L 1 = some v1) (f1 : q_is 2 v1 y1) (l3 : q_lo L 3 = some v3) (f3 : q_is 0 v3 y3) (fs0 : q_is 0 w0 s0) (fs1 : q_is 2 w1 16)
  (hQ : Ext m rm → ∀ o S1, Rp S1 rm → q_out 9 o rz → Q o S1)
  (h : fj_X4_load_32 y1 y3 s0 m = some (rz, rm)) : Go xs d qM_X4_load 32 L [w0, w1] S Q := by
  unfold fj_X4_load_32 at h
  obtain ⟨m_33, e_34, h⟩ := up_s h
  refine go_putf (x := 39) (ci := 5) (kf := 5) (fin := 0) (zt := 0) (by decide +kernel) (by decide +kernel) (by decide) (by decide +kernel) (by decide) (Or.inl rfl) R fs1 fs0 (fun hq => absurd hq (by decide)) (fx_k (c := 5) R (by decide +kernel)) e_34 (fx_f (j := 5) R.2 (fx_k (c := 5) R (by decide +kernel)) (by decide +kernel)) fun S_35 R_36 E_37 => ?_
  have E_39 := E_37
  refine go_aload_n (n := 0) (by decide +kernel) l0 f0 ?_
  refine go_aload_n (n := 1) (by decide +kernel) l1 f1 ?_
  obtain ⟨g_42, h⟩ := gd_s h
  obtain ⟨x_44, e_45, h⟩ := lx_s h
  refine go_getf (x := 106) (ci := 7) (kf := 15) (fin := 0) (t := 0) (by decide +kernel) (by decide +kernel) (by decide +kernel) R_36 f1 g_42 fun v_40 f_41 => ?_
  have f_43 := q_is_eq f_41 e_45
  obtain ⟨m_46, e_47, h⟩ := up_s h
  refine go_putf (x := 42) (ci := 5) (kf := 6) (fin := 0) (zt := 0) (by decide +kernel) (by decide +kernel) (by decide) (by decide +kernel) (by decide) (Or.inl rfl) R_36 f0 f_43 (fun hq => absurd hq (by decide)) (fx_k (c := 5) R_36 (by decide +kernel)) e_47 (fx_f (j := 6) R_36.2 (fx_k (c := 5) R_36 (by decide +kernel)) (by decide +kernel)) fun S_48 R_49 E_50 => ?_
  have E_52 := Ext.tr E_39 E_50
  refine go_iload_n (n := 3) (by decide +kernel) l3 f3 ?_
  refine go_iconst (n := 2) (z := 2) (by decide +kernel) (by decide) fun v_53 f_54 => ?_
  refine go_icmp (c := .ne) (o := 11) (t := 56) (P := ¬ (y3 = 2)) (by decide +kernel) (by decide +kernel) f3 f_54 (Iff.rfl) (fun hp_55 => ?_) (fun hp_55 => ?_)
  · have h := it_f hp_55 h
    exact oj_X4_load_56 hd R_49 l0 f0 (fun b => hQ (Ext.tr E_52 b)) h
  · have h := it_n hp_55 h
    refine go_aload_n (n := 0) (by decide +kernel) l0 f0 ?_
    obtain ⟨x_136, e_137, h⟩ := lx_s h
    refine go_getf (x := 45) (ci := 5) (kf := 7) (fin := 0) (t := 2) (by decide +kernel) (by decide +kernel) (by decide +kernel) R_49 f0 (fx_k (c := 5) R_49 (by decide +kernel)) fun v_133 f_134 => ?_
    have f_135 := q_is_eq f_134 e_137
    refine go_aload_n (n := 1) (by decide +kernel) l1 f1 ?_
    obtain ⟨g_139, h⟩ := gd_s h
    have g_140 := Ext.ok E_50 g_42
    refine go_acmp (c := .eq) (o := 10) (t := 63) (P := x_136 = y1) (by decide +kernel) (by decide +kernel) f_135 f1 g_139 (Or.inr (Or.inr (And.left g_140))) Iff.rfl (fun hp_138 => ?_) (fun hp_138 => ?_)
    · have h := it_t hp_138 h
      exact oj_X4_load_63 hd R_49 l0 f0 (fun b => hQ (Ext.tr E_52 b)) h
    · have h := it_f hp_138 h
      exact oj_X4_load_56 hd R_49 l0 f0 (fun b => hQ (Ext.tr E_52 b)) h
noncomputable def fm_X4_load (p1 p2 p3 : Int) (m0 : MM) : Option (Int × MM) := gd (okc m0 p1 7) <| lx (m0 p1 16) fun x_5 =>
up m0 16 2 x_5 fun m_7 =>
up m_7 16 3 p2 fun m_14 =>
up m_14 16 4 p3 fun m_21 =>
if p3 = 2 then
lx (m_21 p1 14) fun x_145 =>
fj_X4_load_32 p1 p3 x_145 m_21
else
fj_X4_load_32 p1 p3 0 m_21
set_option maxHeartbeats 4000000 in
theorem om_X4_load {xs : List Int32} {d : Nat} {S : QS} {m0 : MM} {p1 p2 p3 : Int} {v0 : Value} {v1 : Value} {v2 : Value} {v3 : Value} {rz : Int} {rm : MM}
  (hd : 5 ≤ d) (R : Rp S m0) (f0 : q_is 2 v0 16) (f1 : q_is 2 v1 p1) (f2 : q_is 2 v2 p2) (f3 : q_is 0 v3 p3)
  (h : fm_X4_load p1 p2 p3 m0 = some (rz, rm)) : Mt xs d 31 [v0, v1, v2, v3] S (Cr 9 m0 rm rz) := by
  obtain ⟨d, rfl⟩ : ∃ e, d = e + 1 := ⟨d - 1, by omega⟩
  have hd : 4 ≤ d := Nat.le_of_succ_le_succ hd
  refine Mt.of (M := qM_X4_load) rfl (by rw [sl_1 (q_is_cat f0 (Or.inr rfl)), sl_1 (q_is_cat f1 (Or.inr rfl)), sl_1 (q_is_cat f2 (Or.inr rfl)), sl_1 (q_is_cat f3 (Or.inl rfl)), sl_0]; decide) ?_
  rw [la_1 (q_is_cat f0 (Or.inr rfl)), la_1 (q_is_cat f1 (Or.inr rfl)), la_1 (q_is_cat f2 (Or.inr rfl)), la_1 (q_is_cat f3 (Or.inl rfl)), la_0]
  obtain ⟨L, hL⟩ : ∃ L : QL, L = [(0, v0), (0 + 1, v1), (0 + 1 + 1, v2), (0 + 1 + 1 + 1, v3)] := ⟨_, rfl⟩
  rw [← hL]
  have l0 : q_lo L 0 = some v0 := by rw [hL]; rfl
  have l1 : q_lo L 1 = some v1 := by rw [hL]; rfl
  have l2 : q_lo L 2 = some v2 := by rw [hL]; rfl
  have l3 : q_lo L 3 = some v3 := by rw [hL]; rfl
  have hQ : Ext m0 rm → ∀ o S1, Rp S1 rm → q_out 9 o rz → (Cr 9 m0 rm rz) o S1 := fun a o S1 b e => ⟨b, a, e⟩
  unfold fm_X4_load at h
  refine go_aload_n (n := 0) (by decide +kernel) l0 f0 ?_
  refine go_aload_n (n := 1) (by decide +kernel) l1 f1 ?_
  obtain ⟨g_3, h⟩ := gd_s h
  obtain ⟨x_5, e_6, h⟩ := lx_s h
  refine go_getf (x := 102) (ci := 7) (kf := 16) (fin := 2) (t := 2) (by decide +kernel) (by decide +kernel) (by decide +kernel) R f1 g_3 fun v_1 f_2 => ?_
  have f_4 := q_is_eq f_2 e_6
  obtain ⟨m_7, e_8, h⟩ := up_s h
  refine go_putf (x := 28) (ci := 5) (kf := 2) (fin := 0) (zt := 2) (by decide +kernel) (by decide +kernel) (by decide) (by decide +kernel) (by decide) (Or.inl rfl) R f0 f_4 (fun hq => absurd hq (by decide)) (fx_k (c := 5) R (by decide +kernel)) e_8 (fx_f (j := 2) R.2 (fx_k (c := 5) R (by decide +kernel)) (by decide +kernel)) fun S_9 R_10 E_11 => ?_
  have E_13 := E_11
  refine go_aload_n (n := 0) (by decide +kernel) l0 f0 ?_
  refine go_aload_n (n := 2) (by decide +kernel) l2 f2 ?_
  obtain ⟨m_14, e_15, h⟩ := up_s h
  refine go_putf (x := 31) (ci := 5) (kf := 3) (fin := 0) (zt := 2) (by decide +kernel) (by decide +kernel) (by decide) (by decide +kernel) (by decide) (Or.inl rfl) R_10 f0 f2 (fun hq => absurd hq (by decide)) (fx_k (c := 5) R_10 (by decide +kernel)) e_15 (fx_f (j := 3) R_10.2 (fx_k (c := 5) R_10 (by decide +kernel)) (by decide +kernel)) fun S_16 R_17 E_18 => ?_
  have E_20 := Ext.tr E_13 E_18
  refine go_aload_n (n := 0) (by decide +kernel) l0 f0 ?_
  refine go_iload_n (n := 3) (by decide +kernel) l3 f3 ?_
  obtain ⟨m_21, e_22, h⟩ := up_s h
  refine go_putf (x := 35) (ci := 5) (kf := 4) (fin := 0) (zt := 0) (by decide +kernel) (by decide +kernel) (by decide) (by decide +kernel) (by decide) (Or.inl rfl) R_17 f0 f3 (fun hq => absurd hq (by decide)) (fx_k (c := 5) R_17 (by decide +kernel)) e_22 (fx_f (j := 4) R_17.2 (fx_k (c := 5) R_17 (by decide +kernel)) (by decide +kernel)) fun S_23 R_24 E_25 => ?_
  have E_27 := Ext.tr E_20 E_25
  refine go_aload_n (n := 0) (by decide +kernel) l0 f0 ?_
  refine go_iload_n (n := 3) (by decide +kernel) l3 f3 ?_
  refine go_iconst (n := 2) (z := 2) (by decide +kernel) (by decide) fun v_28 f_29 => ?_
  refine go_icmp (c := .ne) (o := 10) (t := 31) (P := ¬ (p3 = 2)) (by decide +kernel) (by decide +kernel) f3 f_29 (Iff.rfl) (fun hp_30 => ?_) (fun hp_30 => ?_)
  · have h := it_f hp_30 h
    refine go_iconst (n := 0) (z := 0) (by decide +kernel) (by decide) fun v_31 f_32 => ?_
    exact oj_X4_load_32 hd R_24 l0 f0 l1 f1 l3 f3 f_32 f0 (fun b => hQ (Ext.tr E_27 b)) h
  · have h := it_n hp_30 h
    refine go_aload_n (n := 1) (by decide +kernel) l1 f1 ?_
    have g_143 := Ext.ok (Ext.tr (Ext.tr E_11 E_18) E_25) g_3
    obtain ⟨x_145, e_146, h⟩ := lx_s h
    refine go_getf (x := 105) (ci := 7) (kf := 14) (fin := 0) (t := 0) (by decide +kernel) (by decide +kernel) (by decide +kernel) R_24 f1 g_143 fun v_141 f_142 => ?_
    have f_144 := q_is_eq f_142 e_146
    refine go_goto (o := 4) (t := 32) (by decide +kernel) (by decide +kernel) ?_
    exact oj_X4_load_32 hd R_24 l0 f0 l1 f1 l3 f3 f_144 f0 (fun b => hQ (Ext.tr E_27 b)) h
noncomputable def fm_X4_goes (m0 : MM) : Option Int := lx (m0 16 10) fun x_4 =>
if x_4 = 0 then
lx (m0 17 9) fun x_15 =>
if x_15 = 0 then
some 1
else
some 0
else
some 0
set_option maxHeartbeats 4000000 in
theorem om_X4_goes {xs : List Int32} {d : Nat} {S : QS} {m0 : MM} {v0 : Value} {rz : Int}
  (hd : 1 ≤ d) (R : Rp S m0) (f0 : q_is 2 v0 16)
  (h : fm_X4_goes m0 = some rz) : Mt xs d 33 [v0] S (Cr 0 m0 m0 rz) := by
  obtain ⟨d, rfl⟩ : ∃ e, d = e + 1 := ⟨d - 1, by omega⟩
  have hd : 0 ≤ d := Nat.le_of_succ_le_succ hd
  refine Mt.of (M := qM_X4_goes) rfl (by rw [sl_1 (q_is_cat f0 (Or.inr rfl)), sl_0]; decide) ?_
  rw [la_1 (q_is_cat f0 (Or.inr rfl)), la_0]
  obtain ⟨L, hL⟩ : ∃ L : QL, L = [(0, v0)] := ⟨_, rfl⟩
  rw [← hL]
  have l0 : q_lo L 0 = some v0 := by rw [hL]; rfl
  have hQ : ∀ o S1, Rp S1 m0 → q_out 0 o rz → (Cr 0 m0 m0 rz) o S1 := fun o S1 a b => ⟨a, Ext.rf _, b⟩
  unfold fm_X4_goes at h
  refine go_aload_n (n := 0) (by decide +kernel) l0 f0 ?_
  obtain ⟨x_4, e_5, h⟩ := lx_s h
  refine go_getf (x := 55) (ci := 5) (kf := 10) (fin := 0) (t := 0) (by decide +kernel) (by decide +kernel) (by decide +kernel) R f0 (fx_k (c := 5) R (by decide +kernel)) fun v_1 f_2 => ?_
  have f_3 := q_is_eq f_2 e_5
  refine go_if (c := .ne) (o := 17) (t := 21) (P := ¬ (x_4 = 0)) (by decide +kernel) (by decide +kernel) f_3 (Iff.rfl) (fun hp_6 => ?_) (fun hp_6 => ?_)
  · have h := it_f hp_6 h
    refine go_iconst (n := 0) (z := 0) (by decide +kernel) (by decide) fun v_7 f_8 => ?_
    cases h
    exact go_iret (by decide +kernel) rfl (Or.inr ⟨rfl, by decide⟩) f_8 (hQ _ _ R (q_out_v (by decide) f_8))
  · have h := it_n hp_6 h
    refine go_aload_n (n := 0) (by decide +kernel) l0 f0 ?_
    refine go_getf (x := 10) (ci := 5) (kf := 0) (fin := 1) (t := 2) (by decide +kernel) (by decide +kernel) (by decide +kernel) R f0 (fx_k (c := 5) R (by decide +kernel)) fun v_9 f_10 => ?_
    have f_11 := q_is_eq (b := 17) f_10 (fx_v R (by decide +kernel)).symm
    obtain ⟨x_15, e_16, h⟩ := lx_s h
    refine go_getf (x := 120) (ci := 9) (kf := 9) (fin := 0) (t := 0) (by decide +kernel) (by decide +kernel) (by decide +kernel) R f_11 (fx_k (c := 9) R (by decide +kernel)) fun v_12 f_13 => ?_
    have f_14 := q_is_eq f_13 e_16
    refine go_if (c := .ne) (o := 7) (t := 21) (P := ¬ (x_15 = 0)) (by decide +kernel) (by decide +kernel) f_14 (Iff.rfl) (fun hp_17 => ?_) (fun hp_17 => ?_)
    · have h := it_f hp_17 h
      refine go_iconst (n := 0) (z := 0) (by decide +kernel) (by decide) fun v_18 f_19 => ?_
      cases h
      exact go_iret (by decide +kernel) rfl (Or.inr ⟨rfl, by decide⟩) f_19 (hQ _ _ R (q_out_v (by decide) f_19))
    · have h := it_n hp_17 h
      refine go_iconst (n := 1) (z := 1) (by decide +kernel) (by decide) fun v_20 f_21 => ?_
      refine go_goto (o := 4) (t := 22) (by decide +kernel) (by decide +kernel) ?_
      cases h
      exact go_iret (by decide +kernel) rfl (Or.inr ⟨rfl, by decide⟩) f_21 (hQ _ _ R (q_out_v (by decide) f_21))
noncomputable def fm_X8_set (p1 p2 : Int) (m0 : MM) : Option (Int × MM) := if p1 < 0 then
some (0, m0)
else
if p1 < 6 then
gd (0 ≤ p1 ∧ p1 < 6) <| up m0 18 p1 p2 fun m_13 =>
some (0, m_13)
else
some (0, m0)
set_option maxHeartbeats 4000000 in
theorem om_X8_set {xs : List Int32} {d : Nat} {S : QS} {m0 : MM} {p1 p2 : Int} {v0 : Value} {v1 : Value} {v2 : Value} {rz : Int} {rm : MM}
  (hd : 1 ≤ d) (R : Rp S m0) (f0 : q_is 2 v0 17) (f1 : q_is 0 v1 p1) (f2 : q_is 0 v2 p2)
  (h : fm_X8_set p1 p2 m0 = some (rz, rm)) : Mt xs d 82 [v0, v1, v2] S (Cr 9 m0 rm rz) := by
  obtain ⟨d, rfl⟩ : ∃ e, d = e + 1 := ⟨d - 1, by omega⟩
  have hd : 0 ≤ d := Nat.le_of_succ_le_succ hd
  refine Mt.of (M := qM_X8_set) rfl (by rw [sl_1 (q_is_cat f0 (Or.inr rfl)), sl_1 (q_is_cat f1 (Or.inl rfl)), sl_1 (q_is_cat f2 (Or.inl rfl)), sl_0]; decide) ?_
  rw [la_1 (q_is_cat f0 (Or.inr rfl)), la_1 (q_is_cat f1 (Or.inl rfl)), la_1 (q_is_cat f2 (Or.inl rfl)), la_0]
  obtain ⟨L, hL⟩ : ∃ L : QL, L = [(0, v0), (0 + 1, v1), (0 + 1 + 1, v2)] := ⟨_, rfl⟩
  rw [← hL]
  have l0 : q_lo L 0 = some v0 := by rw [hL]; rfl
  have l1 : q_lo L 1 = some v1 := by rw [hL]; rfl
  have l2 : q_lo L 2 = some v2 := by rw [hL]; rfl
  have hQ : Ext m0 rm → ∀ o S1, Rp S1 rm → q_out 9 o rz → (Cr 9 m0 rm rz) o S1 := fun a o S1 b e => ⟨b, a, e⟩
  unfold fm_X8_set at h
  refine go_iload_n (n := 1) (by decide +kernel) l1 f1 ?_
  refine go_if (c := .lt) (o := 19) (t := 20) (P := p1 < 0) (by decide +kernel) (by decide +kernel) f1 (Iff.rfl) (fun hp_1 => ?_) (fun hp_1 => ?_)
  · have h := it_t hp_1 h
    cases h
    exact go_vret (by decide +kernel) rfl (hQ (Ext.rf _) _ _ R q_out_n)
  · have h := it_f hp_1 h
    refine go_iload_n (n := 1) (by decide +kernel) l1 f1 ?_
    refine go_aload_n (n := 0) (by decide +kernel) l0 f0 ?_
    refine go_getf (x := 9) (ci := 9) (kf := 0) (fin := 1) (t := 2) (by decide +kernel) (by decide +kernel) (by decide +kernel) R f0 (fx_k (c := 9) R (by decide +kernel)) fun v_2 f_3 => ?_
    have f_4 := q_is_eq (b := 18) f_3 (fx_v R (by decide +kernel)).symm
    refine go_alen (by decide +kernel) R f_4 (okl_of (fx_k (c := 100) R (by decide +kernel)) (by decide)) fun v_5 f_6 => ?_
    have f_7 := q_is_eq (b := 6) f_6 (by rw [fx_l R (ln := 6) (by decide +kernel)]; decide)
    refine go_icmp (c := .ge) (o := 10) (t := 20) (P := ¬ (p1 < 6)) (by decide +kernel) (by decide +kernel) f1 f_7 (Int.not_lt.symm) (fun hp_8 => ?_) (fun hp_8 => ?_)
    · have h := it_f hp_8 h
      cases h
      exact go_vret (by decide +kernel) rfl (hQ (Ext.rf _) _ _ R q_out_n)
    · have h := it_n hp_8 h
      refine go_aload_n (n := 0) (by decide +kernel) l0 f0 ?_
      refine go_getf (x := 9) (ci := 9) (kf := 0) (fin := 1) (t := 2) (by decide +kernel) (by decide +kernel) (by decide +kernel) R f0 (fx_k (c := 9) R (by decide +kernel)) fun v_9 f_10 => ?_
      have f_11 := q_is_eq (b := 18) f_10 (fx_v R (by decide +kernel)).symm
      refine go_iload_n (n := 1) (by decide +kernel) l1 f1 ?_
      refine go_iload_n (n := 2) (by decide +kernel) l2 f2 ?_
      obtain ⟨g_12, h⟩ := gd_s h
      obtain ⟨m_13, e_14, h⟩ := up_s h
      refine go_iast (kd := 100) (by decide +kernel) rfl R f_11 f1 f2 (fx_k (c := 100) R (by decide +kernel)) (fx_x (a := 18) (ln := 6) R (by decide +kernel) g_12) e_14 (fx_a R.2 (fx_k (c := 100) R (by decide +kernel)) (And.left (fx_x (a := 18) (ln := 6) R (by decide +kernel) g_12)) (by decide +kernel)) fun S_15 R_16 E_17 => ?_
      have E_19 := E_17
      cases h
      exact go_vret (by decide +kernel) rfl (hQ E_19 _ _ R_16 q_out_n)
end DF3
