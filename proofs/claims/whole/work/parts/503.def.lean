/-! Methods as functions (written by wip/whole/dec.py), 3: X2_firstNew, X2_hasNewSignal, X2_hasEnded, J7_fill_53178, X8_clear, X4_load, X4_goes, X8_set. -/
section DF3
noncomputable def fl_X2_firstNew_4 (p0 : Int) (m0 : MM) : Nat → Int → Int → Option Int
  | 0, _, _ => none
  | n + 1, y1, y2 => lx (m0 p0 1) fun x_17 =>
if y2 < x_17 then
bp (fm_X2_kind p0 y2 m0) fun x_24 =>
if 7 < x_24 then
lx (w32 (y2 + 1)) fun x_40 =>
fl_X2_firstNew_4 p0 m0 n y1 x_40
else
lx (m0 p0 4) fun x_48 =>
if y1 < x_48 then
lx (w32 (y1 + 1)) fun x_56 =>
lx (w32 (y2 + 1)) fun x_66 =>
fl_X2_firstNew_4 p0 m0 n x_56 x_66
else
some y2
else
some x_17
set_option maxHeartbeats 4000000 in
theorem ol_X2_firstNew_4 {xs : List Int32} {d : Nat} {Q : QO → QS → Prop} {m0 : MM} {p0 : Int} {rz : Int}
  (hd : 2 ≤ d) (gb : okc m0 p0 3)
  (hQ : ∀ o S1, Rp S1 m0 → q_out 0 o rz → Q o S1) :
  ∀ (n : Nat) {S : QS} {L : QL} {y1 y2 : Int} {v0 : Value} {v1 : Value} {v2 : Value} , fl_X2_firstNew_4 p0 m0 n y1 y2 = some rz → Rp S m0 → q_lo L 0 = some v0 → q_is 2 v0 p0 → q_lo L 1 = some v1 → q_is 0 v1 y1 → q_lo L 2 = some v2 → q_is 0 v2 y2 → Go xs d qM_X2_firstNew 4 L [] S Q := by
  intro n
  induction n with
  | zero => intro S L y1 y2 v0 v1 v2; intro h R l0 f0 l1 f1 l2 f2; cases h
  | succ n ih0 =>
    intro S L y1 y2 v0 v1 v2; intro h R l0 f0 l1 f1 l2 f2
    have ih : ∀ {z1 : Int} {z2 : Int} {Sq : QS} {Lq : QL} {u0 : Value} {u1 : Value} {u2 : Value}, fl_X2_firstNew_4 p0 m0 n z1 z2 = some rz → Rp Sq m0 → q_lo Lq 0 = some u0 → q_is 2 u0 p0 → q_lo Lq 1 = some u1 → q_is 0 u1 z1 → q_lo Lq 2 = some u2 → q_is 0 u2 z2 → Go xs d qM_X2_firstNew 4 Lq [] Sq Q := by intros; exact ih0 ‹_› ‹_› ‹_› ‹_› ‹_› ‹_› ‹_› ‹_›
    have g0 := gb
    unfold fl_X2_firstNew_4 at h
    refine go_iload_n (n := 2) (by decide +kernel) l2 f2 ?_
    refine go_aload_n (n := 0) (by decide +kernel) l0 f0 ?_
    obtain ⟨x_17, e_18, h⟩ := lx_s h
    refine go_getf (x := 9) (ci := 3) (kf := 1) (fin := 0) (t := 0) (by decide +kernel) (by decide +kernel) (by decide +kernel) R f0 g0 fun v_14 f_15 => ?_
    have f_16 := q_is_eq f_15 e_18
    refine go_icmp (c := .ge) (o := 32) (t := 41) (P := ¬ (y2 < x_17)) (by decide +kernel) (by decide +kernel) f2 f_16 (Int.not_lt.symm) (fun hp_19 => ?_) (fun hp_19 => ?_)
    · have h := it_f hp_19 h
      refine go_aload_n (n := 0) (by decide +kernel) l0 f0 ?_
      refine go_getf (x := 9) (ci := 3) (kf := 1) (fin := 0) (t := 0) (by decide +kernel) (by decide +kernel) (by decide +kernel) R f0 g0 fun v_20 f_21 => ?_
      have f_22 := q_is_eq f_21 e_18
      cases h
      exact go_iret (by decide +kernel) rfl (Or.inl rfl) f_22 (hQ _ _ R (q_out_v (by decide) f_22))
    · have h := it_n hp_19 h
      refine go_aload_n (n := 0) (by decide +kernel) l0 f0 ?_
      refine go_iload_n (n := 2) (by decide +kernel) l2 f2 ?_
      obtain ⟨x_24, hc_23, h⟩ := bp_s h
      refine go_callV (x := 51) (mi := 9) (n := 1) (ci := 3) (as := [v2]) (rest := []) (by decide +kernel) (by decide +kernel) rfl rfl (q_sum8 _ (Nat.le_of_ble_eq_true rfl)) R f0 g0 (om_X2_kind (Nat.le_trans (by decide) hd) R g0 f0 f2 hc_23) (fun _ S_28 q_31 => ?_) (fun _ _ qq => kr_x qq)
      refine kr_z (by decide) q_31 fun v_26 f_27 R_29 E_30 => ?_
      refine go_bipush (n := 7) (z := 7) (by decide +kernel) (by decide) fun v_32 f_33 => ?_
      refine go_icmp (c := .gt) (o := 16) (t := 35) (P := 7 < x_24) (by decide +kernel) (by decide +kernel) f_27 f_33 (Iff.rfl) (fun hp_34 => ?_) (fun hp_34 => ?_)
      · have h := it_t hp_34 h
        refine go_iinc (n := 2) (c := 1) (c' := 1) (by decide +kernel) (by decide +kernel) l2 f2 (by decide) fun L_35 v_36 f_37 l_38 kp_39 => ?_
        obtain ⟨x_40, e_41, h⟩ := lx_s h
        have f_42 := q_is_eq f_37 e_41
        have l_43 := kp_39 0 _ l0 (by decide) (Or.inl (by decide))
        have l_44 := kp_39 1 _ l1 (by decide) (Or.inr (q_is_cat f1 (Or.inl rfl)))
        refine go_goto (o := (-34)) (t := 4) (by decide +kernel) (by decide +kernel) ?_
        exact ih h R_29 l_43 f0 l_44 f1 l_38 f_42
      · have h := it_f hp_34 h
        refine go_iload_n (n := 1) (by decide +kernel) l1 f1 ?_
        refine go_aload_n (n := 0) (by decide +kernel) l0 f0 ?_
        obtain ⟨x_48, e_49, h⟩ := lx_s h
        refine go_getf (x := 19) (ci := 3) (kf := 4) (fin := 0) (t := 0) (by decide +kernel) (by decide +kernel) (by decide +kernel) R_29 f0 g0 fun v_45 f_46 => ?_
        have f_47 := q_is_eq f_46 e_49
        refine go_icmp (c := .lt) (o := 5) (t := 32) (P := y1 < x_48) (by decide +kernel) (by decide +kernel) f1 f_47 (Iff.rfl) (fun hp_50 => ?_) (fun hp_50 => ?_)
        · have h := it_t hp_50 h
          refine go_iinc (n := 1) (c := 1) (c' := 1) (by decide +kernel) (by decide +kernel) l1 f1 (by decide) fun L_51 v_52 f_53 l_54 kp_55 => ?_
          obtain ⟨x_56, e_57, h⟩ := lx_s h
          have f_58 := q_is_eq f_53 e_57
          have l_59 := kp_55 0 _ l0 (by decide) (Or.inr (q_is_cat f0 (Or.inr rfl)))
          have l_60 := kp_55 2 _ l2 (by decide) (Or.inl (by decide))
          refine go_iinc (n := 2) (c := 1) (c' := 1) (by decide +kernel) (by decide +kernel) l_60 f2 (by decide) fun L_61 v_62 f_63 l_64 kp_65 => ?_
          obtain ⟨x_66, e_67, h⟩ := lx_s h
          have f_68 := q_is_eq f_63 e_67
          have l_69 := kp_65 0 _ l_59 (by decide) (Or.inl (by decide))
          have l_70 := kp_65 1 _ l_54 (by decide) (Or.inr (q_is_cat f_58 (Or.inl rfl)))
          refine go_goto (o := (-34)) (t := 4) (by decide +kernel) (by decide +kernel) ?_
          exact ih h R_29 l_69 f0 l_70 f_58 l_64 f_68
        · have h := it_f hp_50 h
          refine go_iload_n (n := 2) (by decide +kernel) l2 f2 ?_
          cases h
          exact go_iret (by decide +kernel) rfl (Or.inl rfl) f2 (hQ _ _ R_29 (q_out_v (by decide) f2))
noncomputable def fm_X2_firstNew (p0 : Int) (m0 : MM) : Option Int := fl_X2_firstNew_4 p0 m0  BIG 0 0
set_option maxHeartbeats 4000000 in
theorem om_X2_firstNew {xs : List Int32} {d : Nat} {S : QS} {m0 : MM} {p0 : Int} {v0 : Value} {rz : Int}
  (hd : 3 ≤ d) (R : Rp S m0) (g0 : okc m0 p0 3) (f0 : q_is 2 v0 p0)
  (h : fm_X2_firstNew p0 m0 = some rz) : Mt xs d 25 [v0] S (Cr 0 m0 m0 rz) := by
  obtain ⟨d, rfl⟩ : ∃ e, d = e + 1 := ⟨d - 1, by omega⟩
  have hd : 2 ≤ d := Nat.le_of_succ_le_succ hd
  refine Mt.of (M := qM_X2_firstNew) rfl (by rw [sl_1 (q_is_cat f0 (Or.inr rfl)), sl_0]; decide) ?_
  rw [la_1 (q_is_cat f0 (Or.inr rfl)), la_0]
  obtain ⟨L, hL⟩ : ∃ L : QL, L = [(0, v0)] := ⟨_, rfl⟩
  rw [← hL]
  have l0 : q_lo L 0 = some v0 := by rw [hL]; rfl
  have hQ : ∀ o S1, Rp S1 m0 → q_out 0 o rz → (Cr 0 m0 m0 rz) o S1 := fun o S1 a b => ⟨a, Ext.rf _, b⟩
  unfold fm_X2_firstNew at h
  refine go_iconst (n := 0) (z := 0) (by decide +kernel) (by decide) fun v_1 f_2 => ?_
  refine go_istore_n (n := 1) (by decide +kernel) (by decide +kernel) f_2 fun L_3 l_4 kp_5 => ?_
  have l_6 := kp_5 0 _ l0 (by decide) (Or.inr (q_is_cat f0 (Or.inr rfl)))
  refine go_iconst (n := 0) (z := 0) (by decide +kernel) (by decide) fun v_7 f_8 => ?_
  refine go_istore_n (n := 2) (by decide +kernel) (by decide +kernel) f_8 fun L_9 l_10 kp_11 => ?_
  have l_12 := kp_11 0 _ l_6 (by decide) (Or.inl (by decide))
  have l_13 := kp_11 1 _ l_4 (by decide) (Or.inr (q_is_cat f_2 (Or.inl rfl)))
  refine ol_X2_firstNew_4 hd  g0  hQ BIG h R l_12 f0 l_13 f_2 l_10 f_8
noncomputable def fl_X2_hasNewSignal_5 (p0 y1 : Int) (m0 : MM) : Nat → Int → Option Int
  | 0, _ => none
  | n + 1, y2 => lx (m0 p0 1) fun x_18 =>
if y2 < x_18 then
bp (fm_X2_kind p0 y2 m0) fun x_24 =>
if x_24 = 4 then
bp (fm_X2_x p0 y2 m0) fun x_46 =>
if x_46 = y1 then
some 1
else
lx (w32 (y2 + 1)) fun x_60 =>
fl_X2_hasNewSignal_5 p0 y1 m0 n x_60
else
lx (w32 (y2 + 1)) fun x_40 =>
fl_X2_hasNewSignal_5 p0 y1 m0 n x_40
else
some 0
set_option maxHeartbeats 4000000 in
theorem ol_X2_hasNewSignal_5 {xs : List Int32} {d : Nat} {Q : QO → QS → Prop} {m0 : MM} {p0 y1 : Int} {rz : Int}
  (hd : 3 ≤ d) (gb : okc m0 p0 3)
  (hQ : ∀ o S1, Rp S1 m0 → q_out 0 o rz → Q o S1) :
  ∀ (n : Nat) {S : QS} {L : QL} {y2 : Int} {v0 : Value} {v1 : Value} {v2 : Value} , fl_X2_hasNewSignal_5 p0 y1 m0 n y2 = some rz → Rp S m0 → q_lo L 0 = some v0 → q_is 2 v0 p0 → q_lo L 1 = some v1 → q_is 0 v1 y1 → q_lo L 2 = some v2 → q_is 0 v2 y2 → Go xs d qM_X2_hasNewSignal 5 L [] S Q := by
  intro n
  induction n with
  | zero => intro S L y2 v0 v1 v2; intro h R l0 f0 l1 f1 l2 f2; cases h
  | succ n ih0 =>
    intro S L y2 v0 v1 v2; intro h R l0 f0 l1 f1 l2 f2
    have ih : ∀ {z2 : Int} {Sq : QS} {Lq : QL} {u0 : Value} {u1 : Value} {u2 : Value}, fl_X2_hasNewSignal_5 p0 y1 m0 n z2 = some rz → Rp Sq m0 → q_lo Lq 0 = some u0 → q_is 2 u0 p0 → q_lo Lq 1 = some u1 → q_is 0 u1 y1 → q_lo Lq 2 = some u2 → q_is 0 u2 z2 → Go xs d qM_X2_hasNewSignal 5 Lq [] Sq Q := by intros; exact ih0 ‹_› ‹_› ‹_› ‹_› ‹_› ‹_› ‹_› ‹_›
    have g0 := gb
    unfold fl_X2_hasNewSignal_5 at h
    refine go_iload_n (n := 2) (by decide +kernel) l2 f2 ?_
    refine go_aload_n (n := 0) (by decide +kernel) l0 f0 ?_
    obtain ⟨x_18, e_19, h⟩ := lx_s h
    refine go_getf (x := 9) (ci := 3) (kf := 1) (fin := 0) (t := 0) (by decide +kernel) (by decide +kernel) (by decide +kernel) R f0 g0 fun v_15 f_16 => ?_
    have f_17 := q_is_eq f_16 e_19
    refine go_icmp (c := .ge) (o := 29) (t := 39) (P := ¬ (y2 < x_18)) (by decide +kernel) (by decide +kernel) f2 f_17 (Int.not_lt.symm) (fun hp_20 => ?_) (fun hp_20 => ?_)
    · have h := it_f hp_20 h
      refine go_iconst (n := 0) (z := 0) (by decide +kernel) (by decide) fun v_21 f_22 => ?_
      cases h
      exact go_iret (by decide +kernel) rfl (Or.inr ⟨rfl, by decide⟩) f_22 (hQ _ _ R (q_out_v (by decide) f_22))
    · have h := it_n hp_20 h
      refine go_aload_n (n := 0) (by decide +kernel) l0 f0 ?_
      refine go_iload_n (n := 2) (by decide +kernel) l2 f2 ?_
      obtain ⟨x_24, hc_23, h⟩ := bp_s h
      refine go_callV (x := 51) (mi := 9) (n := 1) (ci := 3) (as := [v2]) (rest := []) (by decide +kernel) (by decide +kernel) rfl rfl (q_sum8 _ (Nat.le_of_ble_eq_true rfl)) R f0 g0 (om_X2_kind (Nat.le_trans (by decide) hd) R g0 f0 f2 hc_23) (fun _ S_28 q_31 => ?_) (fun _ _ qq => kr_x qq)
      refine kr_z (by decide) q_31 fun v_26 f_27 R_29 E_30 => ?_
      refine go_iconst (n := 4) (z := 4) (by decide +kernel) (by decide) fun v_32 f_33 => ?_
      refine go_icmp (c := .ne) (o := 14) (t := 33) (P := ¬ (x_24 = 4)) (by decide +kernel) (by decide +kernel) f_27 f_33 (Iff.rfl) (fun hp_34 => ?_) (fun hp_34 => ?_)
      · have h := it_f hp_34 h
        refine go_iinc (n := 2) (c := 1) (c' := 1) (by decide +kernel) (by decide +kernel) l2 f2 (by decide) fun L_35 v_36 f_37 l_38 kp_39 => ?_
        obtain ⟨x_40, e_41, h⟩ := lx_s h
        have f_42 := q_is_eq f_37 e_41
        have l_43 := kp_39 0 _ l0 (by decide) (Or.inl (by decide))
        have l_44 := kp_39 1 _ l1 (by decide) (Or.inr (q_is_cat f1 (Or.inl rfl)))
        refine go_goto (o := (-31)) (t := 5) (by decide +kernel) (by decide +kernel) ?_
        exact ih h R_29 l_43 f0 l_44 f1 l_38 f_42
      · have h := it_n hp_34 h
        refine go_aload_n (n := 0) (by decide +kernel) l0 f0 ?_
        refine go_iload_n (n := 2) (by decide +kernel) l2 f2 ?_
        obtain ⟨x_46, hc_45, h⟩ := bp_s h
        refine go_callV (x := 55) (mi := 10) (n := 1) (ci := 3) (as := [v2]) (rest := []) (by decide +kernel) (by decide +kernel) rfl rfl (q_sum8 _ (Nat.le_of_ble_eq_true rfl)) R_29 f0 g0 (om_X2_x (Nat.le_trans (by decide) hd) R_29 g0 f0 f2 hc_45) (fun _ S_50 q_53 => ?_) (fun _ _ qq => kr_x qq)
        refine kr_z (by decide) q_53 fun v_48 f_49 R_51 E_52 => ?_
        refine go_iload_n (n := 1) (by decide +kernel) l1 f1 ?_
        refine go_icmp (c := .ne) (o := 5) (t := 33) (P := ¬ (x_46 = y1)) (by decide +kernel) (by decide +kernel) f_49 f1 (Iff.rfl) (fun hp_54 => ?_) (fun hp_54 => ?_)
        · have h := it_f hp_54 h
          refine go_iinc (n := 2) (c := 1) (c' := 1) (by decide +kernel) (by decide +kernel) l2 f2 (by decide) fun L_55 v_56 f_57 l_58 kp_59 => ?_
          obtain ⟨x_60, e_61, h⟩ := lx_s h
          have f_62 := q_is_eq f_57 e_61
          have l_63 := kp_59 0 _ l0 (by decide) (Or.inl (by decide))
          have l_64 := kp_59 1 _ l1 (by decide) (Or.inr (q_is_cat f1 (Or.inl rfl)))
          refine go_goto (o := (-31)) (t := 5) (by decide +kernel) (by decide +kernel) ?_
          exact ih h R_51 l_63 f0 l_64 f1 l_58 f_62
        · have h := it_n hp_54 h
          refine go_iconst (n := 1) (z := 1) (by decide +kernel) (by decide) fun v_65 f_66 => ?_
          cases h
          exact go_iret (by decide +kernel) rfl (Or.inr ⟨rfl, by decide⟩) f_66 (hQ _ _ R_51 (q_out_v (by decide) f_66))
noncomputable def fm_X2_hasNewSignal (p0 p1 : Int) (m0 : MM) : Option Int := bp (fm_X2_firstNew p0 m0) fun x_2 =>
fl_X2_hasNewSignal_5 p0 p1 m0  BIG x_2
set_option maxHeartbeats 4000000 in
theorem om_X2_hasNewSignal {xs : List Int32} {d : Nat} {S : QS} {m0 : MM} {p0 p1 : Int} {v0 : Value} {v1 : Value} {rz : Int}
  (hd : 4 ≤ d) (R : Rp S m0) (g0 : okc m0 p0 3) (f0 : q_is 2 v0 p0) (f1 : q_is 0 v1 p1)
  (h : fm_X2_hasNewSignal p0 p1 m0 = some rz) : Mt xs d 26 [v0, v1] S (Cr 0 m0 m0 rz) := by
  obtain ⟨d, rfl⟩ : ∃ e, d = e + 1 := ⟨d - 1, by omega⟩
  have hd : 3 ≤ d := Nat.le_of_succ_le_succ hd
  refine Mt.of (M := qM_X2_hasNewSignal) rfl (by rw [sl_1 (q_is_cat f0 (Or.inr rfl)), sl_1 (q_is_cat f1 (Or.inl rfl)), sl_0]; decide) ?_
  rw [la_1 (q_is_cat f0 (Or.inr rfl)), la_1 (q_is_cat f1 (Or.inl rfl)), la_0]
  obtain ⟨L, hL⟩ : ∃ L : QL, L = [(0, v0), (0 + 1, v1)] := ⟨_, rfl⟩
  rw [← hL]
  have l0 : q_lo L 0 = some v0 := by rw [hL]; rfl
  have l1 : q_lo L 1 = some v1 := by rw [hL]; rfl
  have hQ : ∀ o S1, Rp S1 m0 → q_out 0 o rz → (Cr 0 m0 m0 rz) o S1 := fun o S1 a b => ⟨a, Ext.rf _, b⟩
  unfold fm_X2_hasNewSignal at h
  refine go_aload_n (n := 0) (by decide +kernel) l0 f0 ?_
  obtain ⟨x_2, hc_1, h⟩ := bp_s h
  refine go_callV (x := 68) (mi := 25) (n := 0) (ci := 3) (as := []) (rest := []) (by decide +kernel) (by decide +kernel) rfl rfl (q_sum8 _ (Nat.le_of_ble_eq_true rfl)) R f0 g0 (om_X2_firstNew (Nat.le_trans (by decide) hd) R g0 f0 hc_1) (fun _ S_6 q_9 => ?_) (fun _ _ qq => kr_x qq)
  refine kr_z (by decide) q_9 fun v_4 f_5 R_7 E_8 => ?_
  refine go_istore_n (n := 2) (by decide +kernel) (by decide +kernel) f_5 fun L_10 l_11 kp_12 => ?_
  have l_13 := kp_12 0 _ l0 (by decide) (Or.inl (by decide))
  have l_14 := kp_12 1 _ l1 (by decide) (Or.inr (q_is_cat f1 (Or.inl rfl)))
  refine ol_X2_hasNewSignal_5 hd  g0  hQ BIG h R_7 l_13 f0 l_14 f1 l_11 f_5
noncomputable def fl_X2_hasEnded_4 (p0 y1 : Int) (m0 : MM) : Nat → Int → Option Int
  | 0, _ => none
  | n + 1, y2 => lx (m0 p0 1) fun x_16 =>
if y2 < x_16 then
bp (fm_X2_kind p0 y2 m0) fun x_22 =>
bp (fm_X2_x p0 y2 m0) fun x_37 =>
if x_37 = y1 then
if x_22 = 1 then
some 1
else
if x_22 = 2 then
some 1
else
if x_22 = 3 then
some 1
else
if x_22 = 11 then
some 1
else
lx (w32 (y2 + 1)) fun x_79 =>
fl_X2_hasEnded_4 p0 y1 m0 n x_79
else
lx (w32 (y2 + 1)) fun x_51 =>
fl_X2_hasEnded_4 p0 y1 m0 n x_51
else
some 0
set_option maxHeartbeats 4000000 in
theorem ol_X2_hasEnded_4 {xs : List Int32} {d : Nat} {Q : QO → QS → Prop} {m0 : MM} {p0 y1 : Int} {rz : Int}
  (hd : 2 ≤ d) (gb : okc m0 p0 3)
  (hQ : ∀ o S1, Rp S1 m0 → q_out 0 o rz → Q o S1) :
  ∀ (n : Nat) {S : QS} {L : QL} {y2 : Int} {v0 : Value} {v1 : Value} {v2 : Value} , fl_X2_hasEnded_4 p0 y1 m0 n y2 = some rz → Rp S m0 → q_lo L 0 = some v0 → q_is 2 v0 p0 → q_lo L 1 = some v1 → q_is 0 v1 y1 → q_lo L 2 = some v2 → q_is 0 v2 y2 → Go xs d qM_X2_hasEnded 4 L [] S Q := by
  intro n
  induction n with
  | zero => intro S L y2 v0 v1 v2; intro h R l0 f0 l1 f1 l2 f2; cases h
  | succ n ih0 =>
    intro S L y2 v0 v1 v2; intro h R l0 f0 l1 f1 l2 f2
    have ih : ∀ {z2 : Int} {Sq : QS} {Lq : QL} {u0 : Value} {u1 : Value} {u2 : Value}, fl_X2_hasEnded_4 p0 y1 m0 n z2 = some rz → Rp Sq m0 → q_lo Lq 0 = some u0 → q_is 2 u0 p0 → q_lo Lq 1 = some u1 → q_is 0 u1 y1 → q_lo Lq 2 = some u2 → q_is 0 u2 z2 → Go xs d qM_X2_hasEnded 4 Lq [] Sq Q := by intros; exact ih0 ‹_› ‹_› ‹_› ‹_› ‹_› ‹_› ‹_› ‹_›
    have g0 := gb
    unfold fl_X2_hasEnded_4 at h
    refine go_iload_n (n := 2) (by decide +kernel) l2 f2 ?_
    refine go_aload_n (n := 0) (by decide +kernel) l0 f0 ?_
    obtain ⟨x_16, e_17, h⟩ := lx_s h
    refine go_getf (x := 9) (ci := 3) (kf := 1) (fin := 0) (t := 0) (by decide +kernel) (by decide +kernel) (by decide +kernel) R f0 g0 fun v_13 f_14 => ?_
    have f_15 := q_is_eq f_14 e_17
    refine go_icmp (c := .ge) (o := 47) (t := 56) (P := ¬ (y2 < x_16)) (by decide +kernel) (by decide +kernel) f2 f_15 (Int.not_lt.symm) (fun hp_18 => ?_) (fun hp_18 => ?_)
    · have h := it_f hp_18 h
      refine go_iconst (n := 0) (z := 0) (by decide +kernel) (by decide) fun v_19 f_20 => ?_
      cases h
      exact go_iret (by decide +kernel) rfl (Or.inr ⟨rfl, by decide⟩) f_20 (hQ _ _ R (q_out_v (by decide) f_20))
    · have h := it_n hp_18 h
      refine go_aload_n (n := 0) (by decide +kernel) l0 f0 ?_
      refine go_iload_n (n := 2) (by decide +kernel) l2 f2 ?_
      obtain ⟨x_22, hc_21, h⟩ := bp_s h
      refine go_callV (x := 51) (mi := 9) (n := 1) (ci := 3) (as := [v2]) (rest := []) (by decide +kernel) (by decide +kernel) rfl rfl (q_sum8 _ (Nat.le_of_ble_eq_true rfl)) R f0 g0 (om_X2_kind (Nat.le_trans (by decide) hd) R g0 f0 f2 hc_21) (fun _ S_26 q_29 => ?_) (fun _ _ qq => kr_x qq)
      refine kr_z (by decide) q_29 fun v_24 f_25 R_27 E_28 => ?_
      refine go_istore_n (n := 3) (by decide +kernel) (by decide +kernel) f_25 fun L_30 l_31 kp_32 => ?_
      have l_33 := kp_32 0 _ l0 (by decide) (Or.inl (by decide))
      have l_34 := kp_32 1 _ l1 (by decide) (Or.inl (by decide))
      have l_35 := kp_32 2 _ l2 (by decide) (Or.inr (q_is_cat f2 (Or.inl rfl)))
      refine go_aload_n (n := 0) (by decide +kernel) l_33 f0 ?_
      refine go_iload_n (n := 2) (by decide +kernel) l_35 f2 ?_
      obtain ⟨x_37, hc_36, h⟩ := bp_s h
      refine go_callV (x := 55) (mi := 10) (n := 1) (ci := 3) (as := [v2]) (rest := []) (by decide +kernel) (by decide +kernel) rfl rfl (q_sum8 _ (Nat.le_of_ble_eq_true rfl)) R_27 f0 g0 (om_X2_x (Nat.le_trans (by decide) hd) R_27 g0 f0 f2 hc_36) (fun _ S_41 q_44 => ?_) (fun _ _ qq => kr_x qq)
      refine kr_z (by decide) q_44 fun v_39 f_40 R_42 E_43 => ?_
      refine go_iload_n (n := 1) (by decide +kernel) l_34 f1 ?_
      refine go_icmp (c := .ne) (o := 26) (t := 50) (P := ¬ (x_37 = y1)) (by decide +kernel) (by decide +kernel) f_40 f1 (Iff.rfl) (fun hp_45 => ?_) (fun hp_45 => ?_)
      · have h := it_f hp_45 h
        refine go_iinc (n := 2) (c := 1) (c' := 1) (by decide +kernel) (by decide +kernel) l_35 f2 (by decide) fun L_46 v_47 f_48 l_49 kp_50 => ?_
        obtain ⟨x_51, e_52, h⟩ := lx_s h
        have f_53 := q_is_eq f_48 e_52
        have l_54 := kp_50 0 _ l_33 (by decide) (Or.inl (by decide))
        have l_55 := kp_50 1 _ l_34 (by decide) (Or.inr (q_is_cat f1 (Or.inl rfl)))
        refine go_goto (o := (-49)) (t := 4) (by decide +kernel) (by decide +kernel) ?_
        exact ih h R_42 l_54 f0 l_55 f1 l_49 f_53
      · have h := it_n hp_45 h
        refine go_iload_n (n := 3) (by decide +kernel) l_31 f_25 ?_
        refine go_iconst (n := 1) (z := 1) (by decide +kernel) (by decide) fun v_56 f_57 => ?_
        refine go_icmp (c := .eq) (o := 19) (t := 48) (P := x_22 = 1) (by decide +kernel) (by decide +kernel) f_25 f_57 (Iff.rfl) (fun hp_58 => ?_) (fun hp_58 => ?_)
        · have h := it_t hp_58 h
          refine go_iconst (n := 1) (z := 1) (by decide +kernel) (by decide) fun v_59 f_60 => ?_
          cases h
          exact go_iret (by decide +kernel) rfl (Or.inr ⟨rfl, by decide⟩) f_60 (hQ _ _ R_42 (q_out_v (by decide) f_60))
        · have h := it_f hp_58 h
          refine go_iload_n (n := 3) (by decide +kernel) l_31 f_25 ?_
          refine go_iconst (n := 2) (z := 2) (by decide +kernel) (by decide) fun v_61 f_62 => ?_
          refine go_icmp (c := .eq) (o := 14) (t := 48) (P := x_22 = 2) (by decide +kernel) (by decide +kernel) f_25 f_62 (Iff.rfl) (fun hp_63 => ?_) (fun hp_63 => ?_)
          · have h := it_t hp_63 h
            refine go_iconst (n := 1) (z := 1) (by decide +kernel) (by decide) fun v_64 f_65 => ?_
            cases h
            exact go_iret (by decide +kernel) rfl (Or.inr ⟨rfl, by decide⟩) f_65 (hQ _ _ R_42 (q_out_v (by decide) f_65))
          · have h := it_f hp_63 h
            refine go_iload_n (n := 3) (by decide +kernel) l_31 f_25 ?_
            refine go_iconst (n := 3) (z := 3) (by decide +kernel) (by decide) fun v_66 f_67 => ?_
            refine go_icmp (c := .eq) (o := 9) (t := 48) (P := x_22 = 3) (by decide +kernel) (by decide +kernel) f_25 f_67 (Iff.rfl) (fun hp_68 => ?_) (fun hp_68 => ?_)
            · have h := it_t hp_68 h
              refine go_iconst (n := 1) (z := 1) (by decide +kernel) (by decide) fun v_69 f_70 => ?_
              cases h
              exact go_iret (by decide +kernel) rfl (Or.inr ⟨rfl, by decide⟩) f_70 (hQ _ _ R_42 (q_out_v (by decide) f_70))
            · have h := it_f hp_68 h
              refine go_iload_n (n := 3) (by decide +kernel) l_31 f_25 ?_
              refine go_bipush (n := 11) (z := 11) (by decide +kernel) (by decide) fun v_71 f_72 => ?_
              refine go_icmp (c := .ne) (o := 5) (t := 50) (P := ¬ (x_22 = 11)) (by decide +kernel) (by decide +kernel) f_25 f_72 (Iff.rfl) (fun hp_73 => ?_) (fun hp_73 => ?_)
              · have h := it_f hp_73 h
                refine go_iinc (n := 2) (c := 1) (c' := 1) (by decide +kernel) (by decide +kernel) l_35 f2 (by decide) fun L_74 v_75 f_76 l_77 kp_78 => ?_
                obtain ⟨x_79, e_80, h⟩ := lx_s h
                have f_81 := q_is_eq f_76 e_80
                have l_82 := kp_78 0 _ l_33 (by decide) (Or.inl (by decide))
                have l_83 := kp_78 1 _ l_34 (by decide) (Or.inr (q_is_cat f1 (Or.inl rfl)))
                refine go_goto (o := (-49)) (t := 4) (by decide +kernel) (by decide +kernel) ?_
                exact ih h R_42 l_82 f0 l_83 f1 l_77 f_81
              · have h := it_n hp_73 h
                refine go_iconst (n := 1) (z := 1) (by decide +kernel) (by decide) fun v_84 f_85 => ?_
                cases h
                exact go_iret (by decide +kernel) rfl (Or.inr ⟨rfl, by decide⟩) f_85 (hQ _ _ R_42 (q_out_v (by decide) f_85))
noncomputable def fm_X2_hasEnded (p0 p1 : Int) (m0 : MM) : Option Int := lx (w32 (p1 + 1)) fun x_5 =>
fl_X2_hasEnded_4 p0 p1 m0  BIG x_5
set_option maxHeartbeats 4000000 in
theorem om_X2_hasEnded {xs : List Int32} {d : Nat} {S : QS} {m0 : MM} {p0 p1 : Int} {v0 : Value} {v1 : Value} {rz : Int}
  (hd : 3 ≤ d) (R : Rp S m0) (g0 : okc m0 p0 3) (f0 : q_is 2 v0 p0) (f1 : q_is 0 v1 p1)
  (h : fm_X2_hasEnded p0 p1 m0 = some rz) : Mt xs d 27 [v0, v1] S (Cr 0 m0 m0 rz) := by
  obtain ⟨d, rfl⟩ : ∃ e, d = e + 1 := ⟨d - 1, by omega⟩
  have hd : 2 ≤ d := Nat.le_of_succ_le_succ hd
  refine Mt.of (M := qM_X2_hasEnded) rfl (by rw [sl_1 (q_is_cat f0 (Or.inr rfl)), sl_1 (q_is_cat f1 (Or.inl rfl)), sl_0]; decide) ?_
  rw [la_1 (q_is_cat f0 (Or.inr rfl)), la_1 (q_is_cat f1 (Or.inl rfl)), la_0]
  obtain ⟨L, hL⟩ : ∃ L : QL, L = [(0, v0), (0 + 1, v1)] := ⟨_, rfl⟩
  rw [← hL]
  have l0 : q_lo L 0 = some v0 := by rw [hL]; rfl
  have l1 : q_lo L 1 = some v1 := by rw [hL]; rfl
  have hQ : ∀ o S1, Rp S1 m0 → q_out 0 o rz → (Cr 0 m0 m0 rz) o S1 := fun o S1 a b => ⟨a, Ext.rf _, b⟩
  unfold fm_X2_hasEnded at h
  refine go_iload_n (n := 1) (by decide +kernel) l1 f1 ?_
  refine go_iconst (n := 1) (z := 1) (by decide +kernel) (by decide) fun v_1 f_2 => ?_
  refine go_iadd (by decide +kernel) f1 f_2 fun v_3 f_4 => ?_
  obtain ⟨x_5, e_6, h⟩ := lx_s h
  have f_7 := q_is_eq f_4 e_6
  refine go_istore_n (n := 2) (by decide +kernel) (by decide +kernel) f_7 fun L_8 l_9 kp_10 => ?_
  have l_11 := kp_10 0 _ l0 (by decide) (Or.inl (by decide))
  have l_12 := kp_10 1 _ l1 (by decide) (Or.inr (q_is_cat f1 (Or.inl rfl)))
  refine ol_X2_hasEnded_4 hd  g0  hQ BIG h R l_11 f0 l_12 f1 l_9 f_7
noncomputable def fl_J7_fill_53178_5 (y0 y1 y3 : Int) : Nat → Int → MM → Option (Int × MM)
  | 0, _, _ => none
  | n + 1, y2, m => if y2 < y3 then
gd (okc m y0 100) <| gd (okx m y0 y2) <| up m y0 y2 y1 fun m_23 =>
lx (w32 (y2 + 1)) fun x_34 =>
fl_J7_fill_53178_5 y0 y1 y3 n x_34 m_23
else
some (0, m)
set_option maxHeartbeats 4000000 in
theorem ol_J7_fill_53178_5 {xs : List Int32} {d : Nat} {Q : QO → QS → Prop} {mb : MM} {y0 y1 y3 : Int} {rz : Int} {rm : MM}
  (hd : 0 ≤ d)
  (hQ : Ext mb rm → ∀ o S1, Rp S1 rm → q_out 9 o rz → Q o S1) :
  ∀ (n : Nat) {m : MM} {S : QS} {L : QL} {y2 : Int} {v0 : Value} {v1 : Value} {v2 : Value} {v3 : Value} , Ext mb m → fl_J7_fill_53178_5 y0 y1 y3 n y2 m = some (rz, rm) → Rp S m → q_lo L 0 = some v0 → q_is 2 v0 y0 → q_lo L 1 = some v1 → q_is 0 v1 y1 → q_lo L 2 = some v2 → q_is 0 v2 y2 → q_lo L 3 = some v3 → q_is 0 v3 y3 → Go xs d qM_J7_fill_53178 5 L [] S Q := by
  intro n
  induction n with
  | zero => intro m S L y2 v0 v1 v2 v3; intro E h R l0 f0 l1 f1 l2 f2 l3 f3; cases h
  | succ n ih0 =>
    intro m S L y2 v0 v1 v2 v3; intro E h R l0 f0 l1 f1 l2 f2 l3 f3
    have ih : ∀ mq : MM, Ext mb mq → ∀ {z2 : Int} {Sq : QS} {Lq : QL} {u0 : Value} {u1 : Value} {u2 : Value} {u3 : Value}, fl_J7_fill_53178_5 y0 y1 y3 n z2 mq = some (rz, rm) → Rp Sq mq → q_lo Lq 0 = some u0 → q_is 2 u0 y0 → q_lo Lq 1 = some u1 → q_is 0 u1 y1 → q_lo Lq 2 = some u2 → q_is 0 u2 z2 → q_lo Lq 3 = some u3 → q_is 0 u3 y3 → Go xs d qM_J7_fill_53178 5 Lq [] Sq Q := fun mq b => by intros; exact ih0 b ‹_› ‹_› ‹_› ‹_› ‹_› ‹_› ‹_› ‹_› ‹_› ‹_›
    unfold fl_J7_fill_53178_5 at h
    refine go_iload_n (n := 2) (by decide +kernel) l2 f2 ?_
    refine go_iload_n (n := 3) (by decide +kernel) l3 f3 ?_
    refine go_icmp (c := .ge) (o := 13) (t := 20) (P := ¬ (y2 < y3)) (by decide +kernel) (by decide +kernel) f2 f3 (Int.not_lt.symm) (fun hp_20 => ?_) (fun hp_20 => ?_)
    · have h := it_f hp_20 h
      cases h
      exact go_vret (by decide +kernel) rfl (hQ E _ _ R q_out_n)
    · have h := it_n hp_20 h
      refine go_aload_n (n := 0) (by decide +kernel) l0 f0 ?_
      refine go_iload_n (n := 2) (by decide +kernel) l2 f2 ?_
      refine go_iload_n (n := 1) (by decide +kernel) l1 f1 ?_
      obtain ⟨g_21, h⟩ := gd_s h
      obtain ⟨g_22, h⟩ := gd_s h
      obtain ⟨m_23, e_24, h⟩ := up_s h
      refine go_iast (kd := 100) (by decide +kernel) rfl R f0 f2 f1 g_21 g_22 e_24 (fx_a R.2 g_21 (And.left g_22) (by decide +kernel)) fun S_25 R_26 E_27 => ?_
      have E_28 := Ext.tr E E_27
      refine go_iinc (n := 2) (c := 1) (c' := 1) (by decide +kernel) (by decide +kernel) l2 f2 (by decide) fun L_29 v_30 f_31 l_32 kp_33 => ?_
      obtain ⟨x_34, e_35, h⟩ := lx_s h
      have f_36 := q_is_eq f_31 e_35
      have l_37 := kp_33 0 _ l0 (by decide) (Or.inl (by decide))
      have l_38 := kp_33 1 _ l1 (by decide) (Or.inr (q_is_cat f1 (Or.inl rfl)))
      have l_39 := kp_33 3 _ l3 (by decide) (Or.inl (by decide))
      refine go_goto (o := (-12)) (t := 5) (by decide +kernel) (by decide +kernel) ?_
      exact ih m_23 E_28 h R_26 l_37 f0 l_38 f1 l_32 f_36 l_39 f3
noncomputable def fm_J7_fill_53178 (p0 p1 : Int) (m0 : MM) : Option (Int × MM) := gd (okc m0 p0 100) <| lx (w32 (m0 p0 (-2))) fun x_11 =>
fl_J7_fill_53178_5 p0 p1 x_11  BIG 0 m0
set_option maxHeartbeats 4000000 in
theorem om_J7_fill_53178 {xs : List Int32} {d : Nat} {S : QS} {m0 : MM} {p0 p1 : Int} {v0 : Value} {v1 : Value} {rz : Int} {rm : MM}
  (hd : 1 ≤ d) (R : Rp S m0) (f0 : q_is 2 v0 p0) (f1 : q_is 0 v1 p1)
  (h : fm_J7_fill_53178 p0 p1 m0 = some (rz, rm)) : Mt xs d 332 [v0, v1] S (Cr 9 m0 rm rz) := by
  obtain ⟨d, rfl⟩ : ∃ e, d = e + 1 := ⟨d - 1, by omega⟩
  have hd : 0 ≤ d := Nat.le_of_succ_le_succ hd
  refine Mt.of (M := qM_J7_fill_53178) rfl (by rw [sl_1 (q_is_cat f0 (Or.inr rfl)), sl_1 (q_is_cat f1 (Or.inl rfl)), sl_0]; decide) ?_
  rw [la_1 (q_is_cat f0 (Or.inr rfl)), la_1 (q_is_cat f1 (Or.inl rfl)), la_0]
  obtain ⟨L, hL⟩ : ∃ L : QL, L = [(0, v0), (0 + 1, v1)] := ⟨_, rfl⟩
  rw [← hL]
  have l0 : q_lo L 0 = some v0 := by rw [hL]; rfl
  have l1 : q_lo L 1 = some v1 := by rw [hL]; rfl
  have hQ : Ext m0 rm → ∀ o S1, Rp S1 rm → q_out 9 o rz → (Cr 9 m0 rm rz) o S1 := fun a o S1 b e => ⟨b, a, e⟩
  unfold fm_J7_fill_53178 at h
  refine go_iconst (n := 0) (z := 0) (by decide +kernel) (by decide) fun v_1 f_2 => ?_
  refine go_istore_n (n := 2) (by decide +kernel) (by decide +kernel) f_2 fun L_3 l_4 kp_5 => ?_
  have l_6 := kp_5 0 _ l0 (by decide) (Or.inl (by decide))
  have l_7 := kp_5 1 _ l1 (by decide) (Or.inr (q_is_cat f1 (Or.inl rfl)))
  refine go_aload_n (n := 0) (by decide +kernel) l_6 f0 ?_
  obtain ⟨g_10, h⟩ := gd_s h
  refine go_alen (by decide +kernel) R f0 (okl_of g_10 (by decide)) fun v_8 f_9 => ?_
  obtain ⟨x_11, e_12, h⟩ := lx_s h
  have f_13 := q_is_eq f_9 e_12
  refine go_istore_n (n := 3) (by decide +kernel) (by decide +kernel) f_13 fun L_14 l_15 kp_16 => ?_
  have l_17 := kp_16 0 _ l_6 (by decide) (Or.inl (by decide))
  have l_18 := kp_16 1 _ l_7 (by decide) (Or.inl (by decide))
  have l_19 := kp_16 2 _ l_4 (by decide) (Or.inr (q_is_cat f_2 (Or.inl rfl)))
  refine ol_J7_fill_53178_5 hd   hQ BIG (Ext.rf _) h R l_17 f0 l_18 f1 l_19 f_2 l_15 f_13
noncomputable def fl_X8_clear_10 (k35 : MM → Option (Int × MM)) : Nat → Int → MM → Option (Int × MM)
  | 0, _, _ => none
  | n + 1, y1, m => if y1 < 4 then
gd (0 ≤ y1 ∧ y1 < 4) <| lx (m 20 y1) fun x_36 =>
gd (okc m x_36 6) <| bd (fm_X5_cut x_36 0 m) fun x_42 m_43 =>
lx (w32 (y1 + 1)) fun x_56 =>
fl_X8_clear_10 k35 n x_56 m_43
else
k35 m
set_option maxHeartbeats 4000000 in
theorem ol_X8_clear_10 {xs : List Int32} {d : Nat} {Q : QO → QS → Prop} {mb : MM} {k35 : MM → Option (Int × MM)} {rz : Int} {rm : MM}
  (hd : 3 ≤ d)
  (hk35 : ∀ mq : MM, Ext mb mq → ∀ {Sq : QS} {Lq : QL} {u0 : Value}, k35 mq = some (rz, rm) → Rp Sq mq → q_lo Lq 0 = some u0 → q_is 2 u0 17 → Go xs d qM_X8_clear 35 Lq [] Sq Q)
  (hQ : Ext mb rm → ∀ o S1, Rp S1 rm → q_out 9 o rz → Q o S1) :
  ∀ (n : Nat) {m : MM} {S : QS} {L : QL} {y1 : Int} {v0 : Value} {v1 : Value} , Ext mb m → fl_X8_clear_10 k35 n y1 m = some (rz, rm) → Rp S m → q_lo L 0 = some v0 → q_is 2 v0 17 → q_lo L 1 = some v1 → q_is 0 v1 y1 → Go xs d qM_X8_clear 10 L [] S Q := by
  intro n
  induction n with
  | zero => intro m S L y1 v0 v1; intro E h R l0 f0 l1 f1; cases h
  | succ n ih0 =>
    intro m S L y1 v0 v1; intro E h R l0 f0 l1 f1
    have ih : ∀ mq : MM, Ext mb mq → ∀ {z1 : Int} {Sq : QS} {Lq : QL} {u0 : Value} {u1 : Value}, fl_X8_clear_10 k35 n z1 mq = some (rz, rm) → Rp Sq mq → q_lo Lq 0 = some u0 → q_is 2 u0 17 → q_lo Lq 1 = some u1 → q_is 0 u1 z1 → Go xs d qM_X8_clear 10 Lq [] Sq Q := fun mq b => by intros; exact ih0 b ‹_› ‹_› ‹_› ‹_› ‹_› ‹_›
    unfold fl_X8_clear_10 at h
    refine go_iload_n (n := 1) (by decide +kernel) l1 f1 ?_
    refine go_aload_n (n := 0) (by decide +kernel) l0 f0 ?_
    refine go_getf (x := 23) (ci := 9) (kf := 2) (fin := 1) (t := 2) (by decide +kernel) (by decide +kernel) (by decide +kernel) R f0 (fx_k (c := 9) R (by decide +kernel)) fun v_22 f_23 => ?_
    have f_24 := q_is_eq (b := 20) f_23 (fx_v R (by decide +kernel)).symm
    refine go_alen (by decide +kernel) R f_24 (okl_of (fx_k (c := 105) R (by decide +kernel)) (by decide)) fun v_25 f_26 => ?_
    have f_27 := q_is_eq (b := 4) f_26 (by rw [fx_l R (ln := 4) (by decide +kernel)]; decide)
    refine go_icmp (c := .ge) (o := 19) (t := 35) (P := ¬ (y1 < 4)) (by decide +kernel) (by decide +kernel) f1 f_27 (Int.not_lt.symm) (fun hp_28 => ?_) (fun hp_28 => ?_)
    · have h := it_f hp_28 h
      exact hk35 m E h R l0 f0
    · have h := it_n hp_28 h
      refine go_aload_n (n := 0) (by decide +kernel) l0 f0 ?_
      refine go_getf (x := 23) (ci := 9) (kf := 2) (fin := 1) (t := 2) (by decide +kernel) (by decide +kernel) (by decide +kernel) R f0 (fx_k (c := 9) R (by decide +kernel)) fun v_29 f_30 => ?_
      have f_31 := q_is_eq (b := 20) f_30 (fx_v R (by decide +kernel)).symm
      refine go_iload_n (n := 1) (by decide +kernel) l1 f1 ?_
      obtain ⟨g_34, h⟩ := gd_s h
      obtain ⟨x_36, e_37, h⟩ := lx_s h
      refine go_aald (kd := 105) (by decide +kernel) (by decide) R f_31 f1 (fx_k (c := 105) R (by decide +kernel)) (fx_x (a := 20) (ln := 4) R (by decide +kernel) g_34) fun v_32 f_33 => ?_
      have f_35 := q_is_eq f_33 e_37
      refine go_iconst (n := 0) (z := 0) (by decide +kernel) (by decide) fun v_38 f_39 => ?_
      obtain ⟨g_40, h⟩ := gd_s h
      obtain ⟨x_42, m_43, hc_41, h⟩ := bd_s h
      refine go_callV (x := 71) (mi := 63) (n := 1) (ci := 6) (as := [v_38]) (rest := []) (by decide +kernel) (by decide +kernel) rfl rfl (q_sum8 _ (Nat.le_of_ble_eq_true rfl)) R f_35 g_40 (om_X5_cut (Nat.le_trans (by decide) hd) R g_40 f_35 f_39 hc_41) (fun _ S_46 q_49 => ?_) (fun _ _ qq => kr_x qq)
      refine kr_v q_49 fun R_47 E_48 => ?_
      have E_50 := Ext.tr E E_48
      refine go_iinc (n := 1) (c := 1) (c' := 1) (by decide +kernel) (by decide +kernel) l1 f1 (by decide) fun L_51 v_52 f_53 l_54 kp_55 => ?_
      obtain ⟨x_56, e_57, h⟩ := lx_s h
      have f_58 := q_is_eq f_53 e_57
      have l_59 := kp_55 0 _ l0 (by decide) (Or.inr (q_is_cat f0 (Or.inr rfl)))
      refine go_goto (o := (-22)) (t := 10) (by decide +kernel) (by decide +kernel) ?_
      exact ih m_43 E_50 h R_47 l_59 f0 l_54 f_58
noncomputable def fm_X8_clear (m0 : MM) : Option (Int × MM) := bd (fm_J7_fill_53178 18 0 m0) fun x_7 m_8 =>
fl_X8_clear_10  (fun m_66 =>
bd (fm_X5_cut 21 0 m_66) fun x_75 m_76 =>
up m_76 17 4 0 fun m_86 =>
up m_86 17 5 0 fun m_94 =>
up m_94 17 6 0 fun m_102 =>
up m_102 17 7 0 fun m_110 =>
up m_110 17 8 0 fun m_118 =>
up m_118 17 9 0 fun m_126 =>
up m_126 17 10 0 fun m_134 =>
up m_134 17 11 0 fun m_142 =>
up m_142 17 12 0 fun m_150 =>
up m_150 17 13 0 fun m_158 =>
some (0, m_158)) BIG 0 m_8
set_option maxHeartbeats 4000000 in
theorem om_X8_clear {xs : List Int32} {d : Nat} {S : QS} {m0 : MM} {v0 : Value} {rz : Int} {rm : MM}
  (hd : 4 ≤ d) (R : Rp S m0) (f0 : q_is 2 v0 17)
  (h : fm_X8_clear m0 = some (rz, rm)) : Mt xs d 77 [v0] S (Cr 9 m0 rm rz) := by
  obtain ⟨d, rfl⟩ : ∃ e, d = e + 1 := ⟨d - 1, by omega⟩
  have hd : 3 ≤ d := Nat.le_of_succ_le_succ hd
  refine Mt.of (M := qM_X8_clear) rfl (by rw [sl_1 (q_is_cat f0 (Or.inr rfl)), sl_0]; decide) ?_
  rw [la_1 (q_is_cat f0 (Or.inr rfl)), la_0]
  obtain ⟨L, hL⟩ : ∃ L : QL, L = [(0, v0)] := ⟨_, rfl⟩
  rw [← hL]
  have l0 : q_lo L 0 = some v0 := by rw [hL]; rfl
  have hQ : Ext m0 rm → ∀ o S1, Rp S1 rm → q_out 9 o rz → (Cr 9 m0 rm rz) o S1 := fun a o S1 b e => ⟨b, a, e⟩
  unfold fm_X8_clear at h
  refine go_aload_n (n := 0) (by decide +kernel) l0 f0 ?_
  refine go_getf (x := 9) (ci := 9) (kf := 0) (fin := 1) (t := 2) (by decide +kernel) (by decide +kernel) (by decide +kernel) R f0 (fx_k (c := 9) R (by decide +kernel)) fun v_1 f_2 => ?_
  have f_3 := q_is_eq (b := 18) f_2 (fx_v R (by decide +kernel)).symm
  refine go_iconst (n := 0) (z := 0) (by decide +kernel) (by decide) fun v_4 f_5 => ?_
  obtain ⟨x_7, m_8, hc_6, h⟩ := bd_s h
  refine go_callS (x := 65) (mi := 332) (n := 2) (b := 0) (as := [v_1, v_4]) (rest := []) (by decide +kernel) (by decide +kernel) rfl rfl (q_sum8 _ (Nat.le_of_ble_eq_true rfl)) (om_J7_fill_53178 (Nat.le_trans (by decide) hd) R f_3 f_5 hc_6) (fun _ S_11 q_14 => ?_) (fun _ _ qq => kr_x qq)
  refine kr_v q_14 fun R_12 E_13 => ?_
  have E_15 := E_13
  refine go_iconst (n := 0) (z := 0) (by decide +kernel) (by decide) fun v_16 f_17 => ?_
  refine go_istore_n (n := 1) (by decide +kernel) (by decide +kernel) f_17 fun L_18 l_19 kp_20 => ?_
  have l_21 := kp_20 0 _ l0 (by decide) (Or.inr (q_is_cat f0 (Or.inr rfl)))
  refine ol_X8_clear_10 hd  ?_ (fun b => hQ (Ext.tr E_15 b)) BIG (Ext.rf _) h R_12 l_21 f0 l_19 f_17
  intro m_66 E_67
  intro S_63 L_64 v_60
  intro h R_65 l_61 f_62
  have E_68 := Ext.tr E_15 E_67
  refine go_aload_n (n := 0) (by decide +kernel) l_61 f_62 ?_
  refine go_getf (x := 28) (ci := 9) (kf := 3) (fin := 1) (t := 2) (by decide +kernel) (by decide +kernel) (by decide +kernel) R_65 f_62 (fx_k (c := 9) R_65 (by decide +kernel)) fun v_69 f_70 => ?_
  have f_71 := q_is_eq (b := 21) f_70 (fx_v R_65 (by decide +kernel)).symm
  refine go_iconst (n := 0) (z := 0) (by decide +kernel) (by decide) fun v_72 f_73 => ?_
  obtain ⟨x_75, m_76, hc_74, h⟩ := bd_s h
  refine go_callV (x := 71) (mi := 63) (n := 1) (ci := 6) (as := [v_72]) (rest := []) (by decide +kernel) (by decide +kernel) rfl rfl (q_sum8 _ (Nat.le_of_ble_eq_true rfl)) R_65 f_71 (fx_k (c := 6) R_65 (by decide +kernel)) (om_X5_cut (Nat.le_trans (by decide) hd) R_65 (fx_k (c := 6) R_65 (by decide +kernel)) f_71 f_73 hc_74) (fun _ S_79 q_82 => ?_) (fun _ _ qq => kr_x qq)
  refine kr_v q_82 fun R_80 E_81 => ?_
  have E_83 := Ext.tr E_68 E_81
  refine go_aload_n (n := 0) (by decide +kernel) l_61 f_62 ?_
  refine go_iconst (n := 0) (z := 0) (by decide +kernel) (by decide) fun v_84 f_85 => ?_
  obtain ⟨m_86, e_87, h⟩ := up_s h
  refine go_putf (x := 32) (ci := 9) (kf := 4) (fin := 0) (zt := 0) (by decide +kernel) (by decide +kernel) (by decide) (by decide +kernel) (by decide) (Or.inl rfl) R_80 f_62 f_85 (fun hq => absurd hq (by decide)) (fx_k (c := 9) R_80 (by decide +kernel)) e_87 (fx_f (j := 4) R_80.2 (fx_k (c := 9) R_80 (by decide +kernel)) (by decide +kernel)) fun S_88 R_89 E_90 => ?_
  have E_91 := Ext.tr E_83 E_90
  refine go_aload_n (n := 0) (by decide +kernel) l_61 f_62 ?_
  refine go_iconst (n := 0) (z := 0) (by decide +kernel) (by decide) fun v_92 f_93 => ?_
  obtain ⟨m_94, e_95, h⟩ := up_s h
  refine go_putf (x := 36) (ci := 9) (kf := 5) (fin := 0) (zt := 0) (by decide +kernel) (by decide +kernel) (by decide) (by decide +kernel) (by decide) (Or.inl rfl) R_89 f_62 f_93 (fun hq => absurd hq (by decide)) (fx_k (c := 9) R_89 (by decide +kernel)) e_95 (fx_f (j := 5) R_89.2 (fx_k (c := 9) R_89 (by decide +kernel)) (by decide +kernel)) fun S_96 R_97 E_98 => ?_
  have E_99 := Ext.tr E_91 E_98
  refine go_aload_n (n := 0) (by decide +kernel) l_61 f_62 ?_
  refine go_iconst (n := 0) (z := 0) (by decide +kernel) (by decide) fun v_100 f_101 => ?_
  obtain ⟨m_102, e_103, h⟩ := up_s h
  refine go_putf (x := 39) (ci := 9) (kf := 6) (fin := 0) (zt := 0) (by decide +kernel) (by decide +kernel) (by decide) (by decide +kernel) (by decide) (Or.inl rfl) R_97 f_62 f_101 (fun hq => absurd hq (by decide)) (fx_k (c := 9) R_97 (by decide +kernel)) e_103 (fx_f (j := 6) R_97.2 (fx_k (c := 9) R_97 (by decide +kernel)) (by decide +kernel)) fun S_104 R_105 E_106 => ?_
  have E_107 := Ext.tr E_99 E_106
  refine go_aload_n (n := 0) (by decide +kernel) l_61 f_62 ?_
  refine go_iconst (n := 0) (z := 0) (by decide +kernel) (by decide) fun v_108 f_109 => ?_
  obtain ⟨m_110, e_111, h⟩ := up_s h
  refine go_putf (x := 42) (ci := 9) (kf := 7) (fin := 0) (zt := 0) (by decide +kernel) (by decide +kernel) (by decide) (by decide +kernel) (by decide) (Or.inl rfl) R_105 f_62 f_109 (fun hq => absurd hq (by decide)) (fx_k (c := 9) R_105 (by decide +kernel)) e_111 (fx_f (j := 7) R_105.2 (fx_k (c := 9) R_105 (by decide +kernel)) (by decide +kernel)) fun S_112 R_113 E_114 => ?_
  have E_115 := Ext.tr E_107 E_114
  refine go_aload_n (n := 0) (by decide +kernel) l_61 f_62 ?_
  refine go_iconst (n := 0) (z := 0) (by decide +kernel) (by decide) fun v_116 f_117 => ?_
  obtain ⟨m_118, e_119, h⟩ := up_s h
  refine go_putf (x := 45) (ci := 9) (kf := 8) (fin := 0) (zt := 1) (by decide +kernel) (by decide +kernel) (by decide) (by decide +kernel) (by decide) (Or.inl rfl) R_113 f_62 f_117 (fun _ => by decide) (fx_k (c := 9) R_113 (by decide +kernel)) e_119 (fx_f (j := 8) R_113.2 (fx_k (c := 9) R_113 (by decide +kernel)) (by decide +kernel)) fun S_120 R_121 E_122 => ?_
  have E_123 := Ext.tr E_115 E_122
  refine go_aload_n (n := 0) (by decide +kernel) l_61 f_62 ?_
  refine go_iconst (n := 0) (z := 0) (by decide +kernel) (by decide) fun v_124 f_125 => ?_
  obtain ⟨m_126, e_127, h⟩ := up_s h
  refine go_putf (x := 49) (ci := 9) (kf := 9) (fin := 0) (zt := 0) (by decide +kernel) (by decide +kernel) (by decide) (by decide +kernel) (by decide) (Or.inl rfl) R_121 f_62 f_125 (fun hq => absurd hq (by decide)) (fx_k (c := 9) R_121 (by decide +kernel)) e_127 (fx_f (j := 9) R_121.2 (fx_k (c := 9) R_121 (by decide +kernel)) (by decide +kernel)) fun S_128 R_129 E_130 => ?_
  have E_131 := Ext.tr E_123 E_130
  refine go_aload_n (n := 0) (by decide +kernel) l_61 f_62 ?_
  refine go_iconst (n := 0) (z := 0) (by decide +kernel) (by decide) fun v_132 f_133 => ?_
  obtain ⟨m_134, e_135, h⟩ := up_s h
  refine go_putf (x := 52) (ci := 9) (kf := 10) (fin := 0) (zt := 0) (by decide +kernel) (by decide +kernel) (by decide) (by decide +kernel) (by decide) (Or.inl rfl) R_129 f_62 f_133 (fun hq => absurd hq (by decide)) (fx_k (c := 9) R_129 (by decide +kernel)) e_135 (fx_f (j := 10) R_129.2 (fx_k (c := 9) R_129 (by decide +kernel)) (by decide +kernel)) fun S_136 R_137 E_138 => ?_
  have E_139 := Ext.tr E_131 E_138
  refine go_aload_n (n := 0) (by decide +kernel) l_61 f_62 ?_
  refine go_iconst (n := 0) (z := 0) (by decide +kernel) (by decide) fun v_140 f_141 => ?_
  obtain ⟨m_142, e_143, h⟩ := up_s h
  refine go_putf (x := 55) (ci := 9) (kf := 11) (fin := 0) (zt := 0) (by decide +kernel) (by decide +kernel) (by decide) (by decide +kernel) (by decide) (Or.inl rfl) R_137 f_62 f_141 (fun hq => absurd hq (by decide)) (fx_k (c := 9) R_137 (by decide +kernel)) e_143 (fx_f (j := 11) R_137.2 (fx_k (c := 9) R_137 (by decide +kernel)) (by decide +kernel)) fun S_144 R_145 E_146 => ?_
  have E_147 := Ext.tr E_139 E_146
  refine go_aload_n (n := 0) (by decide +kernel) l_61 f_62 ?_
  refine go_iconst (n := 0) (z := 0) (by decide +kernel) (by decide) fun v_148 f_149 => ?_
  obtain ⟨m_150, e_151, h⟩ := up_s h
  refine go_putf (x := 58) (ci := 9) (kf := 12) (fin := 0) (zt := 0) (by decide +kernel) (by decide +kernel) (by decide) (by decide +kernel) (by decide) (Or.inl rfl) R_145 f_62 f_149 (fun hq => absurd hq (by decide)) (fx_k (c := 9) R_145 (by decide +kernel)) e_151 (fx_f (j := 12) R_145.2 (fx_k (c := 9) R_145 (by decide +kernel)) (by decide +kernel)) fun S_152 R_153 E_154 => ?_
  have E_155 := Ext.tr E_147 E_154
  refine go_aload_n (n := 0) (by decide +kernel) l_61 f_62 ?_
  refine go_iconst (n := 0) (z := 0) (by decide +kernel) (by decide) fun v_156 f_157 => ?_
  obtain ⟨m_158, e_159, h⟩ := up_s h
  refine go_putf (x := 61) (ci := 9) (kf := 13) (fin := 0) (zt := 0) (by decide +kernel) (by decide +kernel) (by decide) (by decide +kernel) (by decide) (Or.inl rfl) R_153 f_62 f_157 (fun hq => absurd hq (by decide)) (fx_k (c := 9) R_153 (by decide +kernel)) e_159 (fx_f (j := 13) R_153.2 (fx_k (c := 9) R_153 (by decide +kernel)) (by decide +kernel)) fun S_160 R_161 E_162 => ?_
  have E_163 := Ext.tr E_155 E_162
  cases h
  exact go_vret (by decide +kernel) rfl (hQ E_163 _ _ R_161 q_out_n)
noncomputable def fj_X4_load_63 (m : MM) : Option (Int × MM) := up m 16 7 0 fun m_66 =>
bd (fm_X2_cut 43 0 m_66) fun x_78 m_79 =>
up m_79 16 8 0 fun m_89 =>
up m_89 16 9 0 fun m_97 =>
up m_97 16 10 0 fun m_105 =>
up m_105 16 11 (-1) fun m_113 =>
some (0, m_113)
set_option maxHeartbeats 4000000 in
theorem oj_X4_load_63 {xs : List Int32} {d : Nat} {S : QS} {L : QL} {Q : QO → QS → Prop} {m : MM} {v0 : Value}  {rz : Int} {rm : MM}
  (hd : 4 ≤ d) (R : Rp S m) (l0 : q_lo L 0 = some v0) (f0 : q_is 2 v0 16)
  (hQ : Ext m rm → ∀ o S1, Rp S1 rm → q_out 9 o rz → Q o S1)
  (h : fj_X4_load_63 m = some (rz, rm)) : Go xs d qM_X4_load 63 L [] S Q := by
  unfold fj_X4_load_63 at h
  refine go_aload_n (n := 0) (by decide +kernel) l0 f0 ?_
  refine go_null (by decide +kernel) fun v_64 f_65 => ?_
  obtain ⟨m_66, e_67, h⟩ := up_s h
  refine go_putf (x := 45) (ci := 5) (kf := 7) (fin := 0) (zt := 2) (by decide +kernel) (by decide +kernel) (by decide) (by decide +kernel) (by decide) (Or.inl rfl) R f0 f_65 (fun hq => absurd hq (by decide)) (fx_k (c := 5) R (by decide +kernel)) e_67 (fx_f (j := 7) R.2 (fx_k (c := 5) R (by decide +kernel)) (by decide +kernel)) fun S_68 R_69 E_70 => ?_
  have E_71 := E_70
  refine go_aload_n (n := 0) (by decide +kernel) l0 f0 ?_
  refine go_getf (x := 24) (ci := 5) (kf := 1) (fin := 1) (t := 2) (by decide +kernel) (by decide +kernel) (by decide +kernel) R_69 f0 (fx_k (c := 5) R_69 (by decide +kernel)) fun v_72 f_73 => ?_
  have f_74 := q_is_eq (b := 43) f_73 (fx_v R_69 (by decide +kernel)).symm
  refine go_iconst (n := 0) (z := 0) (by decide +kernel) (by decide) fun v_75 f_76 => ?_
  obtain ⟨x_78, m_79, hc_77, h⟩ := bd_s h
  refine go_callV (x := 110) (mi := 16) (n := 1) (ci := 3) (as := [v_75]) (rest := []) (by decide +kernel) (by decide +kernel) rfl rfl (q_sum8 _ (Nat.le_of_ble_eq_true rfl)) R_69 f_74 (fx_k (c := 3) R_69 (by decide +kernel)) (om_X2_cut (Nat.le_trans (by decide) hd) R_69 (fx_k (c := 3) R_69 (by decide +kernel)) f_74 f_76 hc_77) (fun _ S_82 q_85 => ?_) (fun _ _ qq => kr_x qq)
  refine kr_v q_85 fun R_83 E_84 => ?_
  have E_86 := Ext.tr E_71 E_84
  refine go_aload_n (n := 0) (by decide +kernel) l0 f0 ?_
  refine go_iconst (n := 0) (z := 0) (by decide +kernel) (by decide) fun v_87 f_88 => ?_
  obtain ⟨m_89, e_90, h⟩ := up_s h
  refine go_putf (x := 49) (ci := 5) (kf := 8) (fin := 0) (zt := 0) (by decide +kernel) (by decide +kernel) (by decide) (by decide +kernel) (by decide) (Or.inl rfl) R_83 f0 f_88 (fun hq => absurd hq (by decide)) (fx_k (c := 5) R_83 (by decide +kernel)) e_90 (fx_f (j := 8) R_83.2 (fx_k (c := 5) R_83 (by decide +kernel)) (by decide +kernel)) fun S_91 R_92 E_93 => ?_
  have E_94 := Ext.tr E_86 E_93
  refine go_aload_n (n := 0) (by decide +kernel) l0 f0 ?_
  refine go_iconst (n := 0) (z := 0) (by decide +kernel) (by decide) fun v_95 f_96 => ?_
  obtain ⟨m_97, e_98, h⟩ := up_s h
  refine go_putf (x := 52) (ci := 5) (kf := 9) (fin := 0) (zt := 0) (by decide +kernel) (by decide +kernel) (by decide) (by decide +kernel) (by decide) (Or.inl rfl) R_92 f0 f_96 (fun hq => absurd hq (by decide)) (fx_k (c := 5) R_92 (by decide +kernel)) e_98 (fx_f (j := 9) R_92.2 (fx_k (c := 5) R_92 (by decide +kernel)) (by decide +kernel)) fun S_99 R_100 E_101 => ?_
  have E_102 := Ext.tr E_94 E_101
  refine go_aload_n (n := 0) (by decide +kernel) l0 f0 ?_
  refine go_iconst (n := 0) (z := 0) (by decide +kernel) (by decide) fun v_103 f_104 => ?_
  obtain ⟨m_105, e_106, h⟩ := up_s h
  refine go_putf (x := 55) (ci := 5) (kf := 10) (fin := 0) (zt := 1) (by decide +kernel) (by decide +kernel) (by decide) (by decide +kernel) (by decide) (Or.inl rfl) R_100 f0 f_104 (fun _ => by decide) (fx_k (c := 5) R_100 (by decide +kernel)) e_106 (fx_f (j := 10) R_100.2 (fx_k (c := 5) R_100 (by decide +kernel)) (by decide +kernel)) fun S_107 R_108 E_109 => ?_
  have E_110 := Ext.tr E_102 E_109
  refine go_aload_n (n := 0) (by decide +kernel) l0 f0 ?_
  refine go_iconst (n := (-1)) (z := (-1)) (by decide +kernel) (by decide) fun v_111 f_112 => ?_
  obtain ⟨m_113, e_114, h⟩ := up_s h
  refine go_putf (x := 59) (ci := 5) (kf := 11) (fin := 0) (zt := 0) (by decide +kernel) (by decide +kernel) (by decide) (by decide +kernel) (by decide) (Or.inl rfl) R_108 f0 f_112 (fun hq => absurd hq (by decide)) (fx_k (c := 5) R_108 (by decide +kernel)) e_114 (fx_f (j := 11) R_108.2 (fx_k (c := 5) R_108 (by decide +kernel)) (by decide +kernel)) fun S_115 R_116 E_117 => ?_
  have E_118 := Ext.tr E_110 E_117
  cases h
  exact go_vret (by decide +kernel) rfl (hQ E_118 _ _ R_116 q_out_n)
noncomputable def fj_X4_load_56 (m : MM) : Option (Int × MM) := bd (fm_X8_clear m) fun x_55 m_56 =>
fj_X4_load_63 m_56
set_option maxHeartbeats 4000000 in
theorem oj_X4_load_56 {xs : List Int32} {d : Nat} {S : QS} {L : QL} {Q : QO → QS → Prop} {m : MM} {v0 : Value}  {rz : Int} {rm : MM}
  (hd : 4 ≤ d) (R : Rp S m) (l0 : q_lo L 0 = some v0) (f0 : q_is 2 v0 16)
  (hQ : Ext m rm → ∀ o S1, Rp S1 rm → q_out 9 o rz → Q o S1)
  (h : fj_X4_load_56 m = some (rz, rm)) : Go xs d qM_X4_load 56 L [] S Q := by
  unfold fj_X4_load_56 at h
  refine go_aload_n (n := 0) (by decide +kernel) l0 f0 ?_
  refine go_getf (x := 10) (ci := 5) (kf := 0) (fin := 1) (t := 2) (by decide +kernel) (by decide +kernel) (by decide +kernel) R f0 (fx_k (c := 5) R (by decide +kernel)) fun v_51 f_52 => ?_
  have f_53 := q_is_eq (b := 17) f_52 (fx_v R (by decide +kernel)).symm
  obtain ⟨x_55, m_56, hc_54, h⟩ := bd_s h
  refine go_callV (x := 107) (mi := 77) (n := 0) (ci := 9) (as := []) (rest := []) (by decide +kernel) (by decide +kernel) rfl rfl (q_sum8 _ (Nat.le_of_ble_eq_true rfl)) R f_53 (fx_k (c := 9) R (by decide +kernel)) (om_X8_clear (Nat.le_trans (by decide) hd) R f_53 hc_54) (fun _ S_59 q_62 => ?_) (fun _ _ qq => kr_x qq)
  refine kr_v q_62 fun R_60 E_61 => ?_
  have E_63 := E_61
  exact oj_X4_load_63 hd R_60 l0 f0 (fun b => hQ (Ext.tr E_63 b)) h
noncomputable def fj_X4_load_32 (y1 y3 s0 : Int) (m : MM) : Option (Int × MM) := up m 16 5 s0 fun m_30 =>
gd (okc m_30 y1 7) <| lx (m_30 y1 15) fun x_40 =>
up m_30 16 6 x_40 fun m_42 =>
if y3 = 2 then
lx (m_42 16 7) fun x_122 =>
gd (x_122 = 0 ∨ x_122 = 1 ∨ 4 ≤ x_122) <| if x_122 = y1 then
fj_X4_load_63 m_42
else
fj_X4_load_56 m_42
else
fj_X4_load_56 m_42
set_option maxHeartbeats 4000000 in
theorem oj_X4_load_32 {xs : List Int32} {d : Nat} {S : QS} {L : QL} {Q : QO → QS → Prop} {m : MM} {y1 y3 s0 : Int} {v0 : Value} {v1 : Value} {v3 : Value} {w0 : Value} {w1 : Value}  {rz : Int} {rm : MM}
  (hd : 4 ≤ d) (R : Rp S m) (l0 : q_lo L 0 = some v0) (f0 : q_is 2 v0 16) (l1 : q_lo L 1 = some v1) (f1 : q_is 2 v1 y1) (l3 : q_lo L 3 = some v3) (f3 : q_is 0 v3 y3) (fs0 : q_is 0 w0 s0) (fs1 : q_is 2 w1 16)
  (hQ : Ext m rm → ∀ o S1, Rp S1 rm → q_out 9 o rz → Q o S1)
  (h : fj_X4_load_32 y1 y3 s0 m = some (rz, rm)) : Go xs d qM_X4_load 32 L [w0, w1] S Q := by
  unfold fj_X4_load_32 at h
  obtain ⟨m_30, e_31, h⟩ := up_s h
  refine go_putf (x := 39) (ci := 5) (kf := 5) (fin := 0) (zt := 0) (by decide +kernel) (by decide +kernel) (by decide) (by decide +kernel) (by decide) (Or.inl rfl) R fs1 fs0 (fun hq => absurd hq (by decide)) (fx_k (c := 5) R (by decide +kernel)) e_31 (fx_f (j := 5) R.2 (fx_k (c := 5) R (by decide +kernel)) (by decide +kernel)) fun S_32 R_33 E_34 => ?_
  have E_35 := E_34
  refine go_aload_n (n := 0) (by decide +kernel) l0 f0 ?_
  refine go_aload_n (n := 1) (by decide +kernel) l1 f1 ?_
  obtain ⟨g_38, h⟩ := gd_s h
  obtain ⟨x_40, e_41, h⟩ := lx_s h
  refine go_getf (x := 106) (ci := 7) (kf := 15) (fin := 0) (t := 0) (by decide +kernel) (by decide +kernel) (by decide +kernel) R_33 f1 g_38 fun v_36 f_37 => ?_
  have f_39 := q_is_eq f_37 e_41
  obtain ⟨m_42, e_43, h⟩ := up_s h
  refine go_putf (x := 42) (ci := 5) (kf := 6) (fin := 0) (zt := 0) (by decide +kernel) (by decide +kernel) (by decide) (by decide +kernel) (by decide) (Or.inl rfl) R_33 f0 f_39 (fun hq => absurd hq (by decide)) (fx_k (c := 5) R_33 (by decide +kernel)) e_43 (fx_f (j := 6) R_33.2 (fx_k (c := 5) R_33 (by decide +kernel)) (by decide +kernel)) fun S_44 R_45 E_46 => ?_
  have E_47 := Ext.tr E_35 E_46
  refine go_iload_n (n := 3) (by decide +kernel) l3 f3 ?_
  refine go_iconst (n := 2) (z := 2) (by decide +kernel) (by decide) fun v_48 f_49 => ?_
  refine go_icmp (c := .ne) (o := 11) (t := 56) (P := ¬ (y3 = 2)) (by decide +kernel) (by decide +kernel) f3 f_49 (Iff.rfl) (fun hp_50 => ?_) (fun hp_50 => ?_)
  · have h := it_f hp_50 h
    exact oj_X4_load_56 hd R_45 l0 f0 (fun b => hQ (Ext.tr E_47 b)) h
  · have h := it_n hp_50 h
    refine go_aload_n (n := 0) (by decide +kernel) l0 f0 ?_
    obtain ⟨x_122, e_123, h⟩ := lx_s h
    refine go_getf (x := 45) (ci := 5) (kf := 7) (fin := 0) (t := 2) (by decide +kernel) (by decide +kernel) (by decide +kernel) R_45 f0 (fx_k (c := 5) R_45 (by decide +kernel)) fun v_119 f_120 => ?_
    have f_121 := q_is_eq f_120 e_123
    refine go_aload_n (n := 1) (by decide +kernel) l1 f1 ?_
    obtain ⟨g_125, h⟩ := gd_s h
    have g_126 := Ext.ok E_46 g_38
    refine go_acmp (c := .eq) (o := 10) (t := 63) (P := x_122 = y1) (by decide +kernel) (by decide +kernel) f_121 f1 g_125 (Or.inr (Or.inr (And.left g_126))) Iff.rfl (fun hp_124 => ?_) (fun hp_124 => ?_)
    · have h := it_t hp_124 h
      exact oj_X4_load_63 hd R_45 l0 f0 (fun b => hQ (Ext.tr E_47 b)) h
    · have h := it_f hp_124 h
      exact oj_X4_load_56 hd R_45 l0 f0 (fun b => hQ (Ext.tr E_47 b)) h
noncomputable def fm_X4_load (p1 p2 p3 : Int) (m0 : MM) : Option (Int × MM) := gd (okc m0 p1 7) <| lx (m0 p1 16) fun x_5 =>
up m0 16 2 x_5 fun m_7 =>
up m_7 16 3 p2 fun m_13 =>
up m_13 16 4 p3 fun m_19 =>
if p3 = 2 then
lx (m_19 p1 14) fun x_131 =>
fj_X4_load_32 p1 p3 x_131 m_19
else
fj_X4_load_32 p1 p3 0 m_19
set_option maxHeartbeats 4000000 in
theorem om_X4_load {xs : List Int32} {d : Nat} {S : QS} {m0 : MM} {p1 p2 p3 : Int} {v0 : Value} {v1 : Value} {v2 : Value} {v3 : Value} {rz : Int} {rm : MM}
  (hd : 5 ≤ d) (R : Rp S m0) (f0 : q_is 2 v0 16) (f1 : q_is 2 v1 p1) (f2 : q_is 2 v2 p2) (f3 : q_is 0 v3 p3)
  (h : fm_X4_load p1 p2 p3 m0 = some (rz, rm)) : Mt xs d 31 [v0, v1, v2, v3] S (Cr 9 m0 rm rz) := by
  obtain ⟨d, rfl⟩ : ∃ e, d = e + 1 := ⟨d - 1, by omega⟩
  have hd : 4 ≤ d := Nat.le_of_succ_le_succ hd
  refine Mt.of (M := qM_X4_load) rfl (by rw [sl_1 (q_is_cat f0 (Or.inr rfl)), sl_1 (q_is_cat f1 (Or.inr rfl)), sl_1 (q_is_cat f2 (Or.inr rfl)), sl_1 (q_is_cat f3 (Or.inl rfl)), sl_0]; decide) ?_
  rw [la_1 (q_is_cat f0 (Or.inr rfl)), la_1 (q_is_cat f1 (Or.inr rfl)), la_1 (q_is_cat f2 (Or.inr rfl)), la_1 (q_is_cat f3 (Or.inl rfl)), la_0]
  obtain ⟨L, hL⟩ : ∃ L : QL, L = [(0, v0), (0 + 1, v1), (0 + 1 + 1, v2), (0 + 1 + 1 + 1, v3)] := ⟨_, rfl⟩
  rw [← hL]
  have l0 : q_lo L 0 = some v0 := by rw [hL]; rfl
  have l1 : q_lo L 1 = some v1 := by rw [hL]; rfl
  have l2 : q_lo L 2 = some v2 := by rw [hL]; rfl
  have l3 : q_lo L 3 = some v3 := by rw [hL]; rfl
  have hQ : Ext m0 rm → ∀ o S1, Rp S1 rm → q_out 9 o rz → (Cr 9 m0 rm rz) o S1 := fun a o S1 b e => ⟨b, a, e⟩
  unfold fm_X4_load at h
  refine go_aload_n (n := 0) (by decide +kernel) l0 f0 ?_
  refine go_aload_n (n := 1) (by decide +kernel) l1 f1 ?_
  obtain ⟨g_3, h⟩ := gd_s h
  obtain ⟨x_5, e_6, h⟩ := lx_s h
  refine go_getf (x := 102) (ci := 7) (kf := 16) (fin := 2) (t := 2) (by decide +kernel) (by decide +kernel) (by decide +kernel) R f1 g_3 fun v_1 f_2 => ?_
  have f_4 := q_is_eq f_2 e_6
  obtain ⟨m_7, e_8, h⟩ := up_s h
  refine go_putf (x := 28) (ci := 5) (kf := 2) (fin := 0) (zt := 2) (by decide +kernel) (by decide +kernel) (by decide) (by decide +kernel) (by decide) (Or.inl rfl) R f0 f_4 (fun hq => absurd hq (by decide)) (fx_k (c := 5) R (by decide +kernel)) e_8 (fx_f (j := 2) R.2 (fx_k (c := 5) R (by decide +kernel)) (by decide +kernel)) fun S_9 R_10 E_11 => ?_
  have E_12 := E_11
  refine go_aload_n (n := 0) (by decide +kernel) l0 f0 ?_
  refine go_aload_n (n := 2) (by decide +kernel) l2 f2 ?_
  obtain ⟨m_13, e_14, h⟩ := up_s h
  refine go_putf (x := 31) (ci := 5) (kf := 3) (fin := 0) (zt := 2) (by decide +kernel) (by decide +kernel) (by decide) (by decide +kernel) (by decide) (Or.inl rfl) R_10 f0 f2 (fun hq => absurd hq (by decide)) (fx_k (c := 5) R_10 (by decide +kernel)) e_14 (fx_f (j := 3) R_10.2 (fx_k (c := 5) R_10 (by decide +kernel)) (by decide +kernel)) fun S_15 R_16 E_17 => ?_
  have E_18 := Ext.tr E_12 E_17
  refine go_aload_n (n := 0) (by decide +kernel) l0 f0 ?_
  refine go_iload_n (n := 3) (by decide +kernel) l3 f3 ?_
  obtain ⟨m_19, e_20, h⟩ := up_s h
  refine go_putf (x := 35) (ci := 5) (kf := 4) (fin := 0) (zt := 0) (by decide +kernel) (by decide +kernel) (by decide) (by decide +kernel) (by decide) (Or.inl rfl) R_16 f0 f3 (fun hq => absurd hq (by decide)) (fx_k (c := 5) R_16 (by decide +kernel)) e_20 (fx_f (j := 4) R_16.2 (fx_k (c := 5) R_16 (by decide +kernel)) (by decide +kernel)) fun S_21 R_22 E_23 => ?_
  have E_24 := Ext.tr E_18 E_23
  refine go_aload_n (n := 0) (by decide +kernel) l0 f0 ?_
  refine go_iload_n (n := 3) (by decide +kernel) l3 f3 ?_
  refine go_iconst (n := 2) (z := 2) (by decide +kernel) (by decide) fun v_25 f_26 => ?_
  refine go_icmp (c := .ne) (o := 10) (t := 31) (P := ¬ (p3 = 2)) (by decide +kernel) (by decide +kernel) f3 f_26 (Iff.rfl) (fun hp_27 => ?_) (fun hp_27 => ?_)
  · have h := it_f hp_27 h
    refine go_iconst (n := 0) (z := 0) (by decide +kernel) (by decide) fun v_28 f_29 => ?_
    exact oj_X4_load_32 hd R_22 l0 f0 l1 f1 l3 f3 f_29 f0 (fun b => hQ (Ext.tr E_24 b)) h
  · have h := it_n hp_27 h
    refine go_aload_n (n := 1) (by decide +kernel) l1 f1 ?_
    have g_129 := Ext.ok (Ext.tr (Ext.tr E_11 E_17) E_23) g_3
    obtain ⟨x_131, e_132, h⟩ := lx_s h
    refine go_getf (x := 105) (ci := 7) (kf := 14) (fin := 0) (t := 0) (by decide +kernel) (by decide +kernel) (by decide +kernel) R_22 f1 g_129 fun v_127 f_128 => ?_
    have f_130 := q_is_eq f_128 e_132
    refine go_goto (o := 4) (t := 32) (by decide +kernel) (by decide +kernel) ?_
    exact oj_X4_load_32 hd R_22 l0 f0 l1 f1 l3 f3 f_130 f0 (fun b => hQ (Ext.tr E_24 b)) h
noncomputable def fm_X4_goes (m0 : MM) : Option Int := lx (m0 16 10) fun x_4 =>
if x_4 = 0 then
lx (m0 17 9) fun x_15 =>
if x_15 = 0 then
some 1
else
some 0
else
some 0
set_option maxHeartbeats 4000000 in
theorem om_X4_goes {xs : List Int32} {d : Nat} {S : QS} {m0 : MM} {v0 : Value} {rz : Int}
  (hd : 1 ≤ d) (R : Rp S m0) (f0 : q_is 2 v0 16)
  (h : fm_X4_goes m0 = some rz) : Mt xs d 33 [v0] S (Cr 0 m0 m0 rz) := by
  obtain ⟨d, rfl⟩ : ∃ e, d = e + 1 := ⟨d - 1, by omega⟩
  have hd : 0 ≤ d := Nat.le_of_succ_le_succ hd
  refine Mt.of (M := qM_X4_goes) rfl (by rw [sl_1 (q_is_cat f0 (Or.inr rfl)), sl_0]; decide) ?_
  rw [la_1 (q_is_cat f0 (Or.inr rfl)), la_0]
  obtain ⟨L, hL⟩ : ∃ L : QL, L = [(0, v0)] := ⟨_, rfl⟩
  rw [← hL]
  have l0 : q_lo L 0 = some v0 := by rw [hL]; rfl
  have hQ : ∀ o S1, Rp S1 m0 → q_out 0 o rz → (Cr 0 m0 m0 rz) o S1 := fun o S1 a b => ⟨a, Ext.rf _, b⟩
  unfold fm_X4_goes at h
  refine go_aload_n (n := 0) (by decide +kernel) l0 f0 ?_
  obtain ⟨x_4, e_5, h⟩ := lx_s h
  refine go_getf (x := 55) (ci := 5) (kf := 10) (fin := 0) (t := 0) (by decide +kernel) (by decide +kernel) (by decide +kernel) R f0 (fx_k (c := 5) R (by decide +kernel)) fun v_1 f_2 => ?_
  have f_3 := q_is_eq f_2 e_5
  refine go_if (c := .ne) (o := 17) (t := 21) (P := ¬ (x_4 = 0)) (by decide +kernel) (by decide +kernel) f_3 (Iff.rfl) (fun hp_6 => ?_) (fun hp_6 => ?_)
  · have h := it_f hp_6 h
    refine go_iconst (n := 0) (z := 0) (by decide +kernel) (by decide) fun v_7 f_8 => ?_
    cases h
    exact go_iret (by decide +kernel) rfl (Or.inr ⟨rfl, by decide⟩) f_8 (hQ _ _ R (q_out_v (by decide) f_8))
  · have h := it_n hp_6 h
    refine go_aload_n (n := 0) (by decide +kernel) l0 f0 ?_
    refine go_getf (x := 10) (ci := 5) (kf := 0) (fin := 1) (t := 2) (by decide +kernel) (by decide +kernel) (by decide +kernel) R f0 (fx_k (c := 5) R (by decide +kernel)) fun v_9 f_10 => ?_
    have f_11 := q_is_eq (b := 17) f_10 (fx_v R (by decide +kernel)).symm
    obtain ⟨x_15, e_16, h⟩ := lx_s h
    refine go_getf (x := 120) (ci := 9) (kf := 9) (fin := 0) (t := 0) (by decide +kernel) (by decide +kernel) (by decide +kernel) R f_11 (fx_k (c := 9) R (by decide +kernel)) fun v_12 f_13 => ?_
    have f_14 := q_is_eq f_13 e_16
    refine go_if (c := .ne) (o := 7) (t := 21) (P := ¬ (x_15 = 0)) (by decide +kernel) (by decide +kernel) f_14 (Iff.rfl) (fun hp_17 => ?_) (fun hp_17 => ?_)
    · have h := it_f hp_17 h
      refine go_iconst (n := 0) (z := 0) (by decide +kernel) (by decide) fun v_18 f_19 => ?_
      cases h
      exact go_iret (by decide +kernel) rfl (Or.inr ⟨rfl, by decide⟩) f_19 (hQ _ _ R (q_out_v (by decide) f_19))
    · have h := it_n hp_17 h
      refine go_iconst (n := 1) (z := 1) (by decide +kernel) (by decide) fun v_20 f_21 => ?_
      refine go_goto (o := 4) (t := 22) (by decide +kernel) (by decide +kernel) ?_
      cases h
      exact go_iret (by decide +kernel) rfl (Or.inr ⟨rfl, by decide⟩) f_21 (hQ _ _ R (q_out_v (by decide) f_21))
noncomputable def fm_X8_set (p1 p2 : Int) (m0 : MM) : Option (Int × MM) := if p1 < 0 then
some (0, m0)
else
if p1 < 6 then
gd (0 ≤ p1 ∧ p1 < 6) <| up m0 18 p1 p2 fun m_13 =>
some (0, m_13)
else
some (0, m0)
set_option maxHeartbeats 4000000 in
theorem om_X8_set {xs : List Int32} {d : Nat} {S : QS} {m0 : MM} {p1 p2 : Int} {v0 : Value} {v1 : Value} {v2 : Value} {rz : Int} {rm : MM}
  (hd : 1 ≤ d) (R : Rp S m0) (f0 : q_is 2 v0 17) (f1 : q_is 0 v1 p1) (f2 : q_is 0 v2 p2)
  (h : fm_X8_set p1 p2 m0 = some (rz, rm)) : Mt xs d 82 [v0, v1, v2] S (Cr 9 m0 rm rz) := by
  obtain ⟨d, rfl⟩ : ∃ e, d = e + 1 := ⟨d - 1, by omega⟩
  have hd : 0 ≤ d := Nat.le_of_succ_le_succ hd
  refine Mt.of (M := qM_X8_set) rfl (by rw [sl_1 (q_is_cat f0 (Or.inr rfl)), sl_1 (q_is_cat f1 (Or.inl rfl)), sl_1 (q_is_cat f2 (Or.inl rfl)), sl_0]; decide) ?_
  rw [la_1 (q_is_cat f0 (Or.inr rfl)), la_1 (q_is_cat f1 (Or.inl rfl)), la_1 (q_is_cat f2 (Or.inl rfl)), la_0]
  obtain ⟨L, hL⟩ : ∃ L : QL, L = [(0, v0), (0 + 1, v1), (0 + 1 + 1, v2)] := ⟨_, rfl⟩
  rw [← hL]
  have l0 : q_lo L 0 = some v0 := by rw [hL]; rfl
  have l1 : q_lo L 1 = some v1 := by rw [hL]; rfl
  have l2 : q_lo L 2 = some v2 := by rw [hL]; rfl
  have hQ : Ext m0 rm → ∀ o S1, Rp S1 rm → q_out 9 o rz → (Cr 9 m0 rm rz) o S1 := fun a o S1 b e => ⟨b, a, e⟩
  unfold fm_X8_set at h
  refine go_iload_n (n := 1) (by decide +kernel) l1 f1 ?_
  refine go_if (c := .lt) (o := 19) (t := 20) (P := p1 < 0) (by decide +kernel) (by decide +kernel) f1 (Iff.rfl) (fun hp_1 => ?_) (fun hp_1 => ?_)
  · have h := it_t hp_1 h
    cases h
    exact go_vret (by decide +kernel) rfl (hQ (Ext.rf _) _ _ R q_out_n)
  · have h := it_f hp_1 h
    refine go_iload_n (n := 1) (by decide +kernel) l1 f1 ?_
    refine go_aload_n (n := 0) (by decide +kernel) l0 f0 ?_
    refine go_getf (x := 9) (ci := 9) (kf := 0) (fin := 1) (t := 2) (by decide +kernel) (by decide +kernel) (by decide +kernel) R f0 (fx_k (c := 9) R (by decide +kernel)) fun v_2 f_3 => ?_
    have f_4 := q_is_eq (b := 18) f_3 (fx_v R (by decide +kernel)).symm
    refine go_alen (by decide +kernel) R f_4 (okl_of (fx_k (c := 100) R (by decide +kernel)) (by decide)) fun v_5 f_6 => ?_
    have f_7 := q_is_eq (b := 6) f_6 (by rw [fx_l R (ln := 6) (by decide +kernel)]; decide)
    refine go_icmp (c := .ge) (o := 10) (t := 20) (P := ¬ (p1 < 6)) (by decide +kernel) (by decide +kernel) f1 f_7 (Int.not_lt.symm) (fun hp_8 => ?_) (fun hp_8 => ?_)
    · have h := it_f hp_8 h
      cases h
      exact go_vret (by decide +kernel) rfl (hQ (Ext.rf _) _ _ R q_out_n)
    · have h := it_n hp_8 h
      refine go_aload_n (n := 0) (by decide +kernel) l0 f0 ?_
      refine go_getf (x := 9) (ci := 9) (kf := 0) (fin := 1) (t := 2) (by decide +kernel) (by decide +kernel) (by decide +kernel) R f0 (fx_k (c := 9) R (by decide +kernel)) fun v_9 f_10 => ?_
      have f_11 := q_is_eq (b := 18) f_10 (fx_v R (by decide +kernel)).symm
      refine go_iload_n (n := 1) (by decide +kernel) l1 f1 ?_
      refine go_iload_n (n := 2) (by decide +kernel) l2 f2 ?_
      obtain ⟨g_12, h⟩ := gd_s h
      obtain ⟨m_13, e_14, h⟩ := up_s h
      refine go_iast (kd := 100) (by decide +kernel) rfl R f_11 f1 f2 (fx_k (c := 100) R (by decide +kernel)) (fx_x (a := 18) (ln := 6) R (by decide +kernel) g_12) e_14 (fx_a R.2 (fx_k (c := 100) R (by decide +kernel)) (And.left (fx_x (a := 18) (ln := 6) R (by decide +kernel) g_12)) (by decide +kernel)) fun S_15 R_16 E_17 => ?_
      have E_18 := E_17
      cases h
      exact go_vret (by decide +kernel) rfl (hQ E_18 _ _ R_16 q_out_n)
end DF3
