/-! Methods as functions (written by wip/whole/dec.py), 15: X11_givenTo, X11_countGiven, X11_poll, X11_isStale, X11_countReplay, X11_putNews, X11_makeActivity. -/
section DF15
noncomputable def fm_X11_givenTo (p1 : Int) (m0 : MM) : Option Int := if p1 < 0 then
some 0
else
if p1 < 3 then
gd (0 ≤ p1 ∧ p1 < 3) <| lx (m0 12 p1) fun x_20 =>
some x_20
else
some 0
set_option maxHeartbeats 4000000 in
theorem om_X11_givenTo {xs : List Int32} {d : Nat} {S : QS} {m0 : MM} {p1 : Int} {v0 : Value} {v1 : Value} {rz : Int}
  (hd : 1 ≤ d) (R : Rp S m0) (f0 : q_is 2 v0 4) (f1 : q_is 0 v1 p1)
  (h : fm_X11_givenTo p1 m0 = some rz) : Mt xs d 161 [v0, v1] S (Cr 0 m0 m0 rz) := by
  obtain ⟨d, rfl⟩ : ∃ e, d = e + 1 := ⟨d - 1, by omega⟩
  have hd : 0 ≤ d := Nat.le_of_succ_le_succ hd
  refine Mt.of (M := qM_X11_givenTo) rfl (by rw [sl_1 (q_is_cat f0 (Or.inr rfl)), sl_1 (q_is_cat f1 (Or.inl rfl)), sl_0]; decide) ?_
  rw [la_1 (q_is_cat f0 (Or.inr rfl)), la_1 (q_is_cat f1 (Or.inl rfl)), la_0]
  obtain ⟨L, hL⟩ : ∃ L : QL, L = [(0, v0), (0 + 1, v1)] := ⟨_, rfl⟩
  rw [← hL]
  have l0 : q_lo L 0 = some v0 := by rw [hL]; rfl
  have l1 : q_lo L 1 = some v1 := by rw [hL]; rfl
  have hQ : ∀ o S1, Rp S1 m0 → q_out 0 o rz → (Cr 0 m0 m0 rz) o S1 := fun o S1 a b => ⟨a, Ext.rf _, b⟩
  unfold fm_X11_givenTo at h
  refine go_iload_n (n := 1) (by decide +kernel) l1 f1 ?_
  refine go_if (c := .lt) (o := 21) (t := 22) (P := p1 < 0) (by decide +kernel) (by decide +kernel) f1 (Iff.rfl) (fun hp_1 => ?_) (fun hp_1 => ?_)
  · have h := it_t hp_1 h
    refine go_iconst (n := 0) (z := 0) (by decide +kernel) (by decide) fun v_2 f_3 => ?_
    cases h
    exact go_iret (by decide +kernel) rfl (Or.inl rfl) f_3 (hQ _ _ R (q_out_v (by decide) f_3))
  · have h := it_f hp_1 h
    refine go_iload_n (n := 1) (by decide +kernel) l1 f1 ?_
    refine go_aload_n (n := 0) (by decide +kernel) l0 f0 ?_
    refine go_getf (x := 41) (ci := 12) (kf := 7) (fin := 1) (t := 2) (by decide +kernel) (by decide +kernel) (by decide +kernel) R f0 (fx_k (c := 12) R (by decide +kernel)) fun v_4 f_5 => ?_
    have f_6 := q_is_eq (b := 12) f_5 (fx_v R (by decide +kernel)).symm
    refine go_alen (by decide +kernel) R f_6 (okl_of (fx_k (c := 100) R (by decide +kernel)) (by decide)) fun v_7 f_8 => ?_
    have f_9 := q_is_eq (b := 3) f_8 (by rw [fx_l R (ln := 3) (by decide +kernel)]; decide)
    refine go_icmp (c := .ge) (o := 12) (t := 22) (P := ¬ (p1 < 3)) (by decide +kernel) (by decide +kernel) f1 f_9 (Int.not_lt.symm) (fun hp_10 => ?_) (fun hp_10 => ?_)
    · have h := it_f hp_10 h
      refine go_iconst (n := 0) (z := 0) (by decide +kernel) (by decide) fun v_11 f_12 => ?_
      cases h
      exact go_iret (by decide +kernel) rfl (Or.inl rfl) f_12 (hQ _ _ R (q_out_v (by decide) f_12))
    · have h := it_n hp_10 h
      refine go_aload_n (n := 0) (by decide +kernel) l0 f0 ?_
      refine go_getf (x := 41) (ci := 12) (kf := 7) (fin := 1) (t := 2) (by decide +kernel) (by decide +kernel) (by decide +kernel) R f0 (fx_k (c := 12) R (by decide +kernel)) fun v_13 f_14 => ?_
      have f_15 := q_is_eq (b := 12) f_14 (fx_v R (by decide +kernel)).symm
      refine go_iload_n (n := 1) (by decide +kernel) l1 f1 ?_
      obtain ⟨g_18, h⟩ := gd_s h
      obtain ⟨x_20, e_21, h⟩ := lx_s h
      refine go_iald (kd := 100) (by decide +kernel) rfl R f_15 f1 (fx_k (c := 100) R (by decide +kernel)) (fx_x (a := 12) (ln := 3) R (by decide +kernel) g_18) fun v_16 f_17 => ?_
      have f_19 := q_is_eq f_17 e_21
      refine go_goto (o := 4) (t := 23) (by decide +kernel) (by decide +kernel) ?_
      cases h
      exact go_iret (by decide +kernel) rfl (Or.inl rfl) f_19 (hQ _ _ R (q_out_v (by decide) f_19))
noncomputable def fm_X11_countGiven (p1 : Int) (m0 : MM) : Option (Int × MM) := if p1 < 0 then
some (0, m0)
else
if p1 < 3 then
if p1 < 3 then
gd (0 ≤ p1 ∧ p1 < 3) <| lx (m0 12 p1) fun x_23 =>
up m0 12 p1 (w32 (x_23 + 1)) fun m_29 =>
lx (m_29 13 p1) fun x_42 =>
up m_29 13 p1 (w32 (x_42 + 1)) fun m_48 =>
some (0, m_48)
else
some (0, m0)
else
some (0, m0)
set_option maxHeartbeats 4000000 in
theorem om_X11_countGiven {xs : List Int32} {d : Nat} {S : QS} {m0 : MM} {p1 : Int} {v0 : Value} {v1 : Value} {rz : Int} {rm : MM}
  (hd : 1 ≤ d) (R : Rp S m0) (f0 : q_is 2 v0 4) (f1 : q_is 0 v1 p1)
  (h : fm_X11_countGiven p1 m0 = some (rz, rm)) : Mt xs d 162 [v0, v1] S (Cr 9 m0 rm rz) := by
  obtain ⟨d, rfl⟩ : ∃ e, d = e + 1 := ⟨d - 1, by omega⟩
  have hd : 0 ≤ d := Nat.le_of_succ_le_succ hd
  refine Mt.of (M := qM_X11_countGiven) rfl (by rw [sl_1 (q_is_cat f0 (Or.inr rfl)), sl_1 (q_is_cat f1 (Or.inl rfl)), sl_0]; decide) ?_
  rw [la_1 (q_is_cat f0 (Or.inr rfl)), la_1 (q_is_cat f1 (Or.inl rfl)), la_0]
  obtain ⟨L, hL⟩ : ∃ L : QL, L = [(0, v0), (0 + 1, v1)] := ⟨_, rfl⟩
  rw [← hL]
  have l0 : q_lo L 0 = some v0 := by rw [hL]; rfl
  have l1 : q_lo L 1 = some v1 := by rw [hL]; rfl
  have hQ : Ext m0 rm → ∀ o S1, Rp S1 rm → q_out 9 o rz → (Cr 9 m0 rm rz) o S1 := fun a o S1 b e => ⟨b, a, e⟩
  unfold fm_X11_countGiven at h
  refine go_iload_n (n := 1) (by decide +kernel) l1 f1 ?_
  refine go_if (c := .lt) (o := 41) (t := 42) (P := p1 < 0) (by decide +kernel) (by decide +kernel) f1 (Iff.rfl) (fun hp_1 => ?_) (fun hp_1 => ?_)
  · have h := it_t hp_1 h
    cases h
    exact go_vret (by decide +kernel) rfl (hQ (Ext.rf _) _ _ R q_out_n)
  · have h := it_f hp_1 h
    refine go_iload_n (n := 1) (by decide +kernel) l1 f1 ?_
    refine go_aload_n (n := 0) (by decide +kernel) l0 f0 ?_
    refine go_getf (x := 41) (ci := 12) (kf := 7) (fin := 1) (t := 2) (by decide +kernel) (by decide +kernel) (by decide +kernel) R f0 (fx_k (c := 12) R (by decide +kernel)) fun v_2 f_3 => ?_
    have f_4 := q_is_eq (b := 12) f_3 (fx_v R (by decide +kernel)).symm
    refine go_alen (by decide +kernel) R f_4 (okl_of (fx_k (c := 100) R (by decide +kernel)) (by decide)) fun v_5 f_6 => ?_
    have f_7 := q_is_eq (b := 3) f_6 (by rw [fx_l R (ln := 3) (by decide +kernel)]; decide)
    refine go_icmp (c := .ge) (o := 32) (t := 42) (P := ¬ (p1 < 3)) (by decide +kernel) (by decide +kernel) f1 f_7 (Int.not_lt.symm) (fun hp_8 => ?_) (fun hp_8 => ?_)
    · have h := it_f hp_8 h
      cases h
      exact go_vret (by decide +kernel) rfl (hQ (Ext.rf _) _ _ R q_out_n)
    · have h := it_n hp_8 h
      refine go_iload_n (n := 1) (by decide +kernel) l1 f1 ?_
      refine go_aload_n (n := 0) (by decide +kernel) l0 f0 ?_
      refine go_getf (x := 44) (ci := 12) (kf := 8) (fin := 1) (t := 2) (by decide +kernel) (by decide +kernel) (by decide +kernel) R f0 (fx_k (c := 12) R (by decide +kernel)) fun v_9 f_10 => ?_
      have f_11 := q_is_eq (b := 13) f_10 (fx_v R (by decide +kernel)).symm
      refine go_alen (by decide +kernel) R f_11 (okl_of (fx_k (c := 100) R (by decide +kernel)) (by decide)) fun v_12 f_13 => ?_
      have f_14 := q_is_eq (b := 3) f_13 (by rw [fx_l R (ln := 3) (by decide +kernel)]; decide)
      refine go_icmp (c := .ge) (o := 23) (t := 42) (P := ¬ (p1 < 3)) (by decide +kernel) (by decide +kernel) f1 f_14 (Int.not_lt.symm) (fun hp_15 => ?_) (fun hp_15 => ?_)
      · have h := it_f hp_15 h
        cases h
        exact go_vret (by decide +kernel) rfl (hQ (Ext.rf _) _ _ R q_out_n)
      · have h := it_n hp_15 h
        refine go_aload_n (n := 0) (by decide +kernel) l0 f0 ?_
        refine go_getf (x := 41) (ci := 12) (kf := 7) (fin := 1) (t := 2) (by decide +kernel) (by decide +kernel) (by decide +kernel) R f0 (fx_k (c := 12) R (by decide +kernel)) fun v_16 f_17 => ?_
        have f_18 := q_is_eq (b := 12) f_17 (fx_v R (by decide +kernel)).symm
        refine go_iload_n (n := 1) (by decide +kernel) l1 f1 ?_
        refine go_dup2 (by decide +kernel) f1 (Or.inl rfl) f_18 (Or.inr rfl) ?_
        obtain ⟨g_21, h⟩ := gd_s h
        obtain ⟨x_23, e_24, h⟩ := lx_s h
        refine go_iald (kd := 100) (by decide +kernel) rfl R f_18 f1 (fx_k (c := 100) R (by decide +kernel)) (fx_x (a := 12) (ln := 3) R (by decide +kernel) g_21) fun v_19 f_20 => ?_
        have f_22 := q_is_eq f_20 e_24
        refine go_iconst (n := 1) (z := 1) (by decide +kernel) (by decide) fun v_25 f_26 => ?_
        refine go_iadd (by decide +kernel) f_22 f_26 fun v_27 f_28 => ?_
        obtain ⟨m_29, e_30, h⟩ := up_s h
        refine go_iast (kd := 100) (by decide +kernel) rfl R f_18 f1 f_28 (fx_k (c := 100) R (by decide +kernel)) (fx_x (a := 12) (ln := 3) R (by decide +kernel) g_21) e_30 (fx_a R.2 (fx_k (c := 100) R (by decide +kernel)) (And.left (fx_x (a := 12) (ln := 3) R (by decide +kernel) g_21)) (by decide +kernel)) fun S_31 R_32 E_33 => ?_
        have E_35 := E_33
        refine go_aload_n (n := 0) (by decide +kernel) l0 f0 ?_
        refine go_getf (x := 44) (ci := 12) (kf := 8) (fin := 1) (t := 2) (by decide +kernel) (by decide +kernel) (by decide +kernel) R_32 f0 (fx_k (c := 12) R_32 (by decide +kernel)) fun v_36 f_37 => ?_
        have f_38 := q_is_eq (b := 13) f_37 (fx_v R_32 (by decide +kernel)).symm
        refine go_iload_n (n := 1) (by decide +kernel) l1 f1 ?_
        refine go_dup2 (by decide +kernel) f1 (Or.inl rfl) f_38 (Or.inr rfl) ?_
        obtain ⟨x_42, e_43, h⟩ := lx_s h
        refine go_iald (kd := 100) (by decide +kernel) rfl R_32 f_38 f1 (fx_k (c := 100) R_32 (by decide +kernel)) (fx_x (a := 13) (ln := 3) R_32 (by decide +kernel) g_21) fun v_39 f_40 => ?_
        have f_41 := q_is_eq f_40 e_43
        refine go_iconst (n := 1) (z := 1) (by decide +kernel) (by decide) fun v_44 f_45 => ?_
        refine go_iadd (by decide +kernel) f_41 f_45 fun v_46 f_47 => ?_
        obtain ⟨m_48, e_49, h⟩ := up_s h
        refine go_iast (kd := 100) (by decide +kernel) rfl R_32 f_38 f1 f_47 (fx_k (c := 100) R_32 (by decide +kernel)) (fx_x (a := 13) (ln := 3) R_32 (by decide +kernel) g_21) e_49 (fx_a R_32.2 (fx_k (c := 100) R_32 (by decide +kernel)) (And.left (fx_x (a := 13) (ln := 3) R_32 (by decide +kernel) g_21)) (by decide +kernel)) fun S_50 R_51 E_52 => ?_
        have E_54 := Ext.tr E_35 E_52
        cases h
        exact go_vret (by decide +kernel) rfl (hQ E_54 _ _ R_51 q_out_n)
noncomputable def fl_X11_poll_9 (y1 : Int) (m : MM) (k69 : Int → Option ((Int ⊕ Nat) × MM)) : Nat → Int → Int → Option ((Int ⊕ Nat) × MM)
  | 0, _, _ => none
  | n + 1, y2, y3 => if y3 < 3 then
bp (fm_X11_firstRunWithWork y3 m) fun x_36 =>
if x_36 = 0 then
lx (w32 (y3 + 1)) fun x_57 =>
fl_X11_poll_9 y1 m k69 n y2 x_57
else
gd (0 ≤ y3 ∧ y3 < 3) <| lx (m 13 y3) fun x_70 =>
lx (m 4 13) fun x_75 =>
if x_70 < x_75 then
if y2 = 0 then
lx (w32 (y3 + 1)) fun x_101 =>
fl_X11_poll_9 y1 m k69 n x_36 x_101
else
lx (m 12 y3) fun x_113 =>
gd (okc m y2 7) <| lx (m y2 2) fun x_119 =>
bp (fm_X11_givenTo x_119 m) fun x_122 =>
if x_113 < x_122 then
lx (w32 (y3 + 1)) fun x_153 =>
fl_X11_poll_9 y1 m k69 n x_36 x_153
else
lx (w32 (y3 + 1)) fun x_136 =>
fl_X11_poll_9 y1 m k69 n y2 x_136
else
lx (w32 (y3 + 1)) fun x_83 =>
fl_X11_poll_9 y1 m k69 n y2 x_83
else
k69 y2
set_option maxHeartbeats 4000000 in
theorem ol_X11_poll_9 {xs : List Int32} {d : Nat} {Q : QO → QS → Prop} {m : MM} {y1 : Int} {k69 : Int → Option ((Int ⊕ Nat) × MM)} {rr : Int ⊕ Nat} {rm : MM}
  (hd : 8 ≤ d)
  (hk69 : ∀ {z2 : Int} {Sq : QS} {Lq : QL} {u0 : Value} {u1 : Value} {u2 : Value}, k69 z2 = some (rr, rm) → Rp Sq m → q_lo Lq 0 = some u0 → q_is 2 u0 4 → q_lo Lq 1 = some u1 → q_is 0 u1 y1 → q_lo Lq 2 = some u2 → q_is 2 u2 z2 → Go xs d qM_X11_poll 69 Lq [] Sq Q)
  (hQ : Ext m rm → ∀ o S1, Rp S1 rm → q_oux 0 o rr → Q o S1) :
  ∀ (n : Nat) {S : QS} {L : QL} {y2 y3 : Int} {v0 : Value} {v1 : Value} {v2 : Value} {v3 : Value} , fl_X11_poll_9 y1 m k69 n y2 y3 = some (rr, rm) → Rp S m → q_lo L 0 = some v0 → q_is 2 v0 4 → q_lo L 1 = some v1 → q_is 0 v1 y1 → q_lo L 2 = some v2 → q_is 2 v2 y2 → q_lo L 3 = some v3 → q_is 0 v3 y3 → Go xs d qM_X11_poll 9 L [] S Q := by
  intro n
  induction n with
  | zero => intro S L y2 y3 v0 v1 v2 v3; intro h R l0 f0 l1 f1 l2 f2 l3 f3; cases h
  | succ n ih0 =>
    intro S L y2 y3 v0 v1 v2 v3; intro h R l0 f0 l1 f1 l2 f2 l3 f3
    have ih : ∀ {z2 : Int} {z3 : Int} {Sq : QS} {Lq : QL} {u0 : Value} {u1 : Value} {u2 : Value} {u3 : Value}, fl_X11_poll_9 y1 m k69 n z2 z3 = some (rr, rm) → Rp Sq m → q_lo Lq 0 = some u0 → q_is 2 u0 4 → q_lo Lq 1 = some u1 → q_is 0 u1 y1 → q_lo Lq 2 = some u2 → q_is 2 u2 z2 → q_lo Lq 3 = some u3 → q_is 0 u3 z3 → Go xs d qM_X11_poll 9 Lq [] Sq Q := by intros; exact ih0 ‹_› ‹_› ‹_› ‹_› ‹_› ‹_› ‹_› ‹_› ‹_› ‹_›
    unfold fl_X11_poll_9 at h
    refine go_iload_n (n := 3) (by decide +kernel) l3 f3 ?_
    refine go_iconst (n := 3) (z := 3) (by decide +kernel) (by decide) fun v_32 f_33 => ?_
    refine go_icmp (c := .ge) (o := 58) (t := 69) (P := ¬ (y3 < 3)) (by decide +kernel) (by decide +kernel) f3 f_33 (Int.not_lt.symm) (fun hp_34 => ?_) (fun hp_34 => ?_)
    · have h := it_f hp_34 h
      exact hk69 h R l0 f0 l1 f1 l2 f2
    · have h := it_n hp_34 h
      refine go_aload_n (n := 0) (by decide +kernel) l0 f0 ?_
      refine go_iload_n (n := 3) (by decide +kernel) l3 f3 ?_
      obtain ⟨x_36, hc_35, h⟩ := bp_s h
      refine go_callV (x := 280) (mi := 159) (n := 1) (ci := 12) (as := [v3]) (rest := []) (by decide +kernel) (by decide +kernel) rfl rfl (q_sum8 _ (Nat.le_of_ble_eq_true rfl)) R f0 (fx_k (c := 12) R (by decide +kernel)) (om_X11_firstRunWithWork (Nat.le_trans (by decide) hd) R f0 f3 hc_35) (fun _ S_40 q_43 => ?_) (fun _ _ qq => kr_x qq)
      refine kr_z (by decide) q_43 fun v_38 f_39 R_41 E_42 => ?_
      refine go_astore (n := 4) (by decide +kernel) (by decide +kernel) f_39 fun L_44 l_45 kp_46 => ?_
      have l_47 := kp_46 0 _ l0 (by decide) (Or.inl (by decide))
      have l_48 := kp_46 1 _ l1 (by decide) (Or.inl (by decide))
      have l_49 := kp_46 2 _ l2 (by decide) (Or.inl (by decide))
      have l_50 := kp_46 3 _ l3 (by decide) (Or.inr (q_is_cat f3 (Or.inl rfl)))
      refine go_aload (n := 4) (by decide +kernel) l_45 f_39 ?_
      refine go_ifnull (o := 40) (t := 63) (by decide +kernel) (by decide +kernel) f_39 (fun hp_51 => ?_) (fun hp_51 => ?_)
      · have h := it_t hp_51 h
        refine go_iinc (n := 3) (c := 1) (c' := 1) (by decide +kernel) (by decide +kernel) l_50 f3 (by decide) fun L_52 v_53 f_54 l_55 kp_56 => ?_
        obtain ⟨x_57, e_58, h⟩ := lx_s h
        have f_59 := q_is_eq f_54 e_58
        have l_60 := kp_56 0 _ l_47 (by decide) (Or.inl (by decide))
        have l_61 := kp_56 1 _ l_48 (by decide) (Or.inl (by decide))
        have l_62 := kp_56 2 _ l_49 (by decide) (Or.inr (q_is_cat f2 (Or.inr rfl)))
        refine go_goto (o := (-57)) (t := 9) (by decide +kernel) (by decide +kernel) ?_
        exact ih h R_41 l_60 f0 l_61 f1 l_62 f2 l_55 f_59
      · have h := it_f hp_51 h
        refine go_aload_n (n := 0) (by decide +kernel) l_47 f0 ?_
        refine go_getf (x := 44) (ci := 12) (kf := 8) (fin := 1) (t := 2) (by decide +kernel) (by decide +kernel) (by decide +kernel) R_41 f0 (fx_k (c := 12) R_41 (by decide +kernel)) fun v_63 f_64 => ?_
        have f_65 := q_is_eq (b := 13) f_64 (fx_v R_41 (by decide +kernel)).symm
        refine go_iload_n (n := 3) (by decide +kernel) l_50 f3 ?_
        obtain ⟨g_68, h⟩ := gd_s h
        obtain ⟨x_70, e_71, h⟩ := lx_s h
        refine go_iald (kd := 100) (by decide +kernel) rfl R_41 f_65 f3 (fx_k (c := 100) R_41 (by decide +kernel)) (fx_x (a := 13) (ln := 3) R_41 (by decide +kernel) g_68) fun v_66 f_67 => ?_
        have f_69 := q_is_eq f_67 e_71
        refine go_aload_n (n := 0) (by decide +kernel) l_47 f0 ?_
        obtain ⟨x_75, e_76, h⟩ := lx_s h
        refine go_getf (x := 68) (ci := 12) (kf := 13) (fin := 0) (t := 0) (by decide +kernel) (by decide +kernel) (by decide +kernel) R_41 f0 (fx_k (c := 12) R_41 (by decide +kernel)) fun v_72 f_73 => ?_
        have f_74 := q_is_eq f_73 e_76
        refine go_icmp (c := .ge) (o := 27) (t := 63) (P := ¬ (x_70 < x_75)) (by decide +kernel) (by decide +kernel) f_69 f_74 (Int.not_lt.symm) (fun hp_77 => ?_) (fun hp_77 => ?_)
        · have h := it_f hp_77 h
          refine go_iinc (n := 3) (c := 1) (c' := 1) (by decide +kernel) (by decide +kernel) l_50 f3 (by decide) fun L_78 v_79 f_80 l_81 kp_82 => ?_
          obtain ⟨x_83, e_84, h⟩ := lx_s h
          have f_85 := q_is_eq f_80 e_84
          have l_86 := kp_82 0 _ l_47 (by decide) (Or.inl (by decide))
          have l_87 := kp_82 1 _ l_48 (by decide) (Or.inl (by decide))
          have l_88 := kp_82 2 _ l_49 (by decide) (Or.inr (q_is_cat f2 (Or.inr rfl)))
          refine go_goto (o := (-57)) (t := 9) (by decide +kernel) (by decide +kernel) ?_
          exact ih h R_41 l_86 f0 l_87 f1 l_88 f2 l_81 f_85
        · have h := it_n hp_77 h
          refine go_aload_n (n := 2) (by decide +kernel) l_49 f2 ?_
          refine go_ifnull (o := 20) (t := 60) (by decide +kernel) (by decide +kernel) f2 (fun hp_89 => ?_) (fun hp_89 => ?_)
          · have h := it_t hp_89 h
            refine go_aload (n := 4) (by decide +kernel) l_45 f_39 ?_
            refine go_astore_n (n := 2) (by decide +kernel) (by decide +kernel) f_39 fun L_90 l_91 kp_92 => ?_
            have l_93 := kp_92 0 _ l_47 (by decide) (Or.inl (by decide))
            have l_94 := kp_92 1 _ l_48 (by decide) (Or.inr (q_is_cat f1 (Or.inl rfl)))
            have l_95 := kp_92 3 _ l_50 (by decide) (Or.inl (by decide))
            refine go_iinc (n := 3) (c := 1) (c' := 1) (by decide +kernel) (by decide +kernel) l_95 f3 (by decide) fun L_96 v_97 f_98 l_99 kp_100 => ?_
            obtain ⟨x_101, e_102, h⟩ := lx_s h
            have f_103 := q_is_eq f_98 e_102
            have l_104 := kp_100 0 _ l_93 (by decide) (Or.inl (by decide))
            have l_105 := kp_100 1 _ l_94 (by decide) (Or.inl (by decide))
            have l_106 := kp_100 2 _ l_91 (by decide) (Or.inr (q_is_cat f_39 (Or.inr rfl)))
            refine go_goto (o := (-57)) (t := 9) (by decide +kernel) (by decide +kernel) ?_
            exact ih h R_41 l_104 f0 l_105 f1 l_106 f_39 l_99 f_103
          · have h := it_f hp_89 h
            refine go_aload_n (n := 0) (by decide +kernel) l_47 f0 ?_
            refine go_getf (x := 41) (ci := 12) (kf := 7) (fin := 1) (t := 2) (by decide +kernel) (by decide +kernel) (by decide +kernel) R_41 f0 (fx_k (c := 12) R_41 (by decide +kernel)) fun v_107 f_108 => ?_
            have f_109 := q_is_eq (b := 12) f_108 (fx_v R_41 (by decide +kernel)).symm
            refine go_iload_n (n := 3) (by decide +kernel) l_50 f3 ?_
            obtain ⟨x_113, e_114, h⟩ := lx_s h
            refine go_iald (kd := 100) (by decide +kernel) rfl R_41 f_109 f3 (fx_k (c := 100) R_41 (by decide +kernel)) (fx_x (a := 12) (ln := 3) R_41 (by decide +kernel) g_68) fun v_110 f_111 => ?_
            have f_112 := q_is_eq f_111 e_114
            refine go_aload_n (n := 0) (by decide +kernel) l_47 f0 ?_
            refine go_aload_n (n := 2) (by decide +kernel) l_49 f2 ?_
            obtain ⟨g_117, h⟩ := gd_s h
            obtain ⟨x_119, e_120, h⟩ := lx_s h
            refine go_getf (x := 283) (ci := 7) (kf := 2) (fin := 2) (t := 0) (by decide +kernel) (by decide +kernel) (by decide +kernel) R_41 f2 g_117 fun v_115 f_116 => ?_
            have f_118 := q_is_eq f_116 e_120
            obtain ⟨x_122, hc_121, h⟩ := bp_s h
            refine go_callV (x := 286) (mi := 161) (n := 1) (ci := 12) (as := [v_115]) (rest := [v_110]) (by decide +kernel) (by decide +kernel) rfl rfl (q_sum8 _ (Nat.le_of_ble_eq_true rfl)) R_41 f0 (fx_k (c := 12) R_41 (by decide +kernel)) (om_X11_givenTo (Nat.le_trans (by decide) hd) R_41 f0 f_118 hc_121) (fun _ S_126 q_129 => ?_) (fun _ _ qq => kr_x qq)
            refine kr_z (by decide) q_129 fun v_124 f_125 R_127 E_128 => ?_
            refine go_icmp (c := .ge) (o := 6) (t := 63) (P := ¬ (x_113 < x_122)) (by decide +kernel) (by decide +kernel) f_112 f_125 (Int.not_lt.symm) (fun hp_130 => ?_) (fun hp_130 => ?_)
            · have h := it_f hp_130 h
              refine go_iinc (n := 3) (c := 1) (c' := 1) (by decide +kernel) (by decide +kernel) l_50 f3 (by decide) fun L_131 v_132 f_133 l_134 kp_135 => ?_
              obtain ⟨x_136, e_137, h⟩ := lx_s h
              have f_138 := q_is_eq f_133 e_137
              have l_139 := kp_135 0 _ l_47 (by decide) (Or.inl (by decide))
              have l_140 := kp_135 1 _ l_48 (by decide) (Or.inl (by decide))
              have l_141 := kp_135 2 _ l_49 (by decide) (Or.inr (q_is_cat f2 (Or.inr rfl)))
              refine go_goto (o := (-57)) (t := 9) (by decide +kernel) (by decide +kernel) ?_
              exact ih h R_127 l_139 f0 l_140 f1 l_141 f2 l_134 f_138
            · have h := it_n hp_130 h
              refine go_aload (n := 4) (by decide +kernel) l_45 f_39 ?_
              refine go_astore_n (n := 2) (by decide +kernel) (by decide +kernel) f_39 fun L_142 l_143 kp_144 => ?_
              have l_145 := kp_144 0 _ l_47 (by decide) (Or.inl (by decide))
              have l_146 := kp_144 1 _ l_48 (by decide) (Or.inr (q_is_cat f1 (Or.inl rfl)))
              have l_147 := kp_144 3 _ l_50 (by decide) (Or.inl (by decide))
              refine go_iinc (n := 3) (c := 1) (c' := 1) (by decide +kernel) (by decide +kernel) l_147 f3 (by decide) fun L_148 v_149 f_150 l_151 kp_152 => ?_
              obtain ⟨x_153, e_154, h⟩ := lx_s h
              have f_155 := q_is_eq f_150 e_154
              have l_156 := kp_152 0 _ l_145 (by decide) (Or.inl (by decide))
              have l_157 := kp_152 1 _ l_146 (by decide) (Or.inl (by decide))
              have l_158 := kp_152 2 _ l_143 (by decide) (Or.inr (q_is_cat f_39 (Or.inr rfl)))
              refine go_goto (o := (-57)) (t := 9) (by decide +kernel) (by decide +kernel) ?_
              exact ih h R_127 l_156 f0 l_157 f1 l_158 f_39 l_151 f_155
noncomputable def fm_X11_poll (p1 : Int) (m0 : MM) : Option ((Int ⊕ Nat) × MM) := bx (fm_X11_checkWorker p1 m0) (fun q_10 m_3 => some (.inr q_10, m_3)) fun x_2 m_3 =>
fl_X11_poll_9 p1 m_3 (fun x_159 =>
if x_159 = 0 then
some (.inl (-1), m_3)
else
gd (okc m_3 x_159 7) <| lx (m_3 x_159 2) fun x_177 =>
bd (fm_X11_countGiven x_177 m_3) fun x_180 m_181 =>
nw m_181 10 6 fun x_191 m_192 =>
lx (m_192 4 14) fun x_207 =>
bd (fm_X9_init x_191 p1 x_159 x_207 m_192) fun x_210 m_211 =>
bp (fm_Jx4a65c_size_8abf5 9 m_211) fun x_230 =>
up m_211 x_159 10 x_230 fun m_239 =>
bd (fm_Jx4a65c_add_9ea2d 9 x_191 m_239) fun x_250 m_251 =>
lx (m_251 x_159 10) fun x_267 =>
lx (m_251 x_159 0) fun x_274 =>
some (.inl (w32 ((w32 (100 * x_267)) + x_274)), m_251)) BIG 0 0
set_option maxHeartbeats 4000000 in
theorem om_X11_poll {xs : List Int32} {d : Nat} {S : QS} {m0 : MM} {p1 : Int} {v0 : Value} {v1 : Value} {rr : Int ⊕ Nat} {rm : MM}
  (hd : 9 ≤ d) (R : Rp S m0) (f0 : q_is 2 v0 4) (f1 : q_is 0 v1 p1)
  (h : fm_X11_poll p1 m0 = some (rr, rm)) : Mt xs d 115 [v0, v1] S (Cx 0 m0 rm rr) := by
  obtain ⟨d, rfl⟩ : ∃ e, d = e + 1 := ⟨d - 1, by omega⟩
  have hd : 8 ≤ d := Nat.le_of_succ_le_succ hd
  refine Mt.of (M := qM_X11_poll) rfl (by rw [sl_1 (q_is_cat f0 (Or.inr rfl)), sl_1 (q_is_cat f1 (Or.inl rfl)), sl_0]; decide) ?_
  rw [la_1 (q_is_cat f0 (Or.inr rfl)), la_1 (q_is_cat f1 (Or.inl rfl)), la_0]
  obtain ⟨L, hL⟩ : ∃ L : QL, L = [(0, v0), (0 + 1, v1)] := ⟨_, rfl⟩
  rw [← hL]
  have l0 : q_lo L 0 = some v0 := by rw [hL]; rfl
  have l1 : q_lo L 1 = some v1 := by rw [hL]; rfl
  have hQ : Ext m0 rm → ∀ o S1, Rp S1 rm → q_oux 0 o rr → (Cx 0 m0 rm rr) o S1 := fun a o S1 b e => ⟨b, a, e⟩
  unfold fm_X11_poll at h
  refine go_aload_n (n := 0) (by decide +kernel) l0 f0 ?_
  refine go_iload_n (n := 1) (by decide +kernel) l1 f1 ?_
  obtain ⟨rr5, m_3, hc_1, h⟩ := bx_s h
  rcases h with ⟨q_10, rfl, h⟩ | ⟨x_2, rfl, h⟩
  · cases h
    exact go_callV (x := 277) (mi := 144) (n := 1) (ci := 12) (as := [v1]) (rest := []) (by decide +kernel) (by decide +kernel) rfl rfl (q_sum8 _ (Nat.le_of_ble_eq_true rfl)) R f0 (fx_k (c := 12) R (by decide +kernel)) (om_X11_checkWorker (Nat.le_trans (by decide) hd) R f0 f1 hc_1) (fun _ _ qq => kx_lx qq) (fun _ _ qq => by
      obtain ⟨rfl, Rq, Eq⟩ := kx_e qq
      exact Or.inl ⟨rfl, hQ Eq _ _ Rq rfl⟩)
  refine go_callV (x := 277) (mi := 144) (n := 1) (ci := 12) (as := [v1]) (rest := []) (by decide +kernel) (by decide +kernel) rfl rfl (q_sum8 _ (Nat.le_of_ble_eq_true rfl)) R f0 (fx_k (c := 12) R (by decide +kernel)) (om_X11_checkWorker (Nat.le_trans (by decide) hd) R f0 f1 hc_1) (fun _ S_6 q_9 => ?_) (fun _ _ qq => kr_x (kx_l qq))
  have q_9 := kx_l q_9
  refine kr_v q_9 fun R_7 E_8 => ?_
  have E_16 := E_8
  refine go_null (by decide +kernel) fun v_17 f_18 => ?_
  refine go_astore_n (n := 2) (by decide +kernel) (by decide +kernel) f_18 fun L_19 l_20 kp_21 => ?_
  have l_22 := kp_21 0 _ l0 (by decide) (Or.inl (by decide))
  have l_23 := kp_21 1 _ l1 (by decide) (Or.inr (q_is_cat f1 (Or.inl rfl)))
  refine go_iconst (n := 0) (z := 0) (by decide +kernel) (by decide) fun v_24 f_25 => ?_
  refine go_istore_n (n := 3) (by decide +kernel) (by decide +kernel) f_25 fun L_26 l_27 kp_28 => ?_
  have l_29 := kp_28 0 _ l_22 (by decide) (Or.inl (by decide))
  have l_30 := kp_28 1 _ l_23 (by decide) (Or.inl (by decide))
  have l_31 := kp_28 2 _ l_20 (by decide) (Or.inr (q_is_cat f_18 (Or.inr rfl)))
  refine ol_X11_poll_9 hd  ?_ (fun b => hQ (Ext.tr E_16 b)) BIG h R_7 l_29 f0 l_30 f1 l_31 f_18 l_27 f_25
  intro x_159 S_169 L_170 v_160 v_161 v_162
  intro h R_171 l_163 f_166 l_164 f_167 l_165 f_168
  refine go_aload_n (n := 2) (by decide +kernel) l_165 f_168 ?_
  refine go_ifnonnull (o := 5) (t := 75) (by decide +kernel) (by decide +kernel) f_168 (fun hp_172 => ?_) (fun hp_172 => ?_)
  · have h := it_f hp_172 h
    refine go_aload_n (n := 0) (by decide +kernel) l_163 f_166 ?_
    refine go_aload_n (n := 2) (by decide +kernel) l_165 f_168 ?_
    obtain ⟨g_175, h⟩ := gd_s h
    obtain ⟨x_177, e_178, h⟩ := lx_s h
    refine go_getf (x := 283) (ci := 7) (kf := 2) (fin := 2) (t := 0) (by decide +kernel) (by decide +kernel) (by decide +kernel) R_171 f_168 g_175 fun v_173 f_174 => ?_
    have f_176 := q_is_eq f_174 e_178
    obtain ⟨x_180, m_181, hc_179, h⟩ := bd_s h
    refine go_callV (x := 289) (mi := 162) (n := 1) (ci := 12) (as := [v_173]) (rest := []) (by decide +kernel) (by decide +kernel) rfl rfl (q_sum8 _ (Nat.le_of_ble_eq_true rfl)) R_171 f_166 (fx_k (c := 12) R_171 (by decide +kernel)) (om_X11_countGiven (Nat.le_trans (by decide) hd) R_171 f_166 f_176 hc_179) (fun _ S_184 q_187 => ?_) (fun _ _ qq => kr_x qq)
    refine kr_v q_187 fun R_185 E_186 => ?_
    have E_190 := Ext.tr E_16 E_186
    obtain ⟨x_191, m_192, e_193, e_194, h⟩ := nw_s h
    have g_200 := okc_nw (c := 10) R_185 e_193 e_194
    refine go_new (x := 292) (ci := 10) (n := 6) (b := 0) (by decide +kernel) (by decide +kernel) R_185 e_193 e_194 fun v_195 S_197 f_196 R_198 E_199 => ?_
    have E_203 := Ext.tr E_190 E_199
    refine go_dup (by decide +kernel) f_196 (Or.inr rfl) ?_
    refine go_iload_n (n := 1) (by decide +kernel) l_164 f_167 ?_
    refine go_aload_n (n := 2) (by decide +kernel) l_165 f_168 ?_
    refine go_aload_n (n := 0) (by decide +kernel) l_163 f_166 ?_
    obtain ⟨x_207, e_208, h⟩ := lx_s h
    refine go_getf (x := 71) (ci := 12) (kf := 14) (fin := 0) (t := 0) (by decide +kernel) (by decide +kernel) (by decide +kernel) R_198 f_166 (fx_k (c := 12) R_198 (by decide +kernel)) fun v_204 f_205 => ?_
    have f_206 := q_is_eq f_205 e_208
    obtain ⟨x_210, m_211, hc_209, h⟩ := bd_s h
    refine go_callI (x := 294) (mi := 94) (n := 3) (b := 0) (tg := 3) (as := [v_161, v_162, v_204]) (rest := [v_195]) (by decide +kernel) (by decide +kernel) (by decide) rfl rfl (q_sum8 _ (Nat.le_of_ble_eq_true rfl)) f_196 (okc_ne g_200) (om_X9_init (Nat.le_trans (by decide) hd) R_198 g_200 f_196 f_167 f_168 f_206 hc_209) (fun _ S_214 q_217 => ?_) (fun _ _ qq => kr_x qq)
    refine kr_v q_217 fun R_215 E_216 => ?_
    have E_220 := Ext.tr E_203 E_216
    refine go_astore_n (n := 3) (by decide +kernel) (by decide +kernel) f_196 fun L_221 l_222 kp_223 => ?_
    have l_224 := kp_223 0 _ l_163 (by decide) (Or.inl (by decide))
    have l_225 := kp_223 2 _ l_165 (by decide) (Or.inr (q_is_cat f_168 (Or.inr rfl)))
    refine go_aload_n (n := 2) (by decide +kernel) l_225 f_168 ?_
    refine go_aload_n (n := 0) (by decide +kernel) l_224 f_166 ?_
    refine go_getf (x := 31) (ci := 12) (kf := 4) (fin := 1) (t := 2) (by decide +kernel) (by decide +kernel) (by decide +kernel) R_215 f_166 (fx_k (c := 12) R_215 (by decide +kernel)) fun v_226 f_227 => ?_
    have f_228 := q_is_eq (b := 9) f_227 (fx_v R_215 (by decide +kernel)).symm
    obtain ⟨x_230, hc_229, h⟩ := bp_s h
    refine go_callV (x := 127) (mi := 326) (n := 0) (ci := 0) (as := []) (rest := [v_162]) (by decide +kernel) (by decide +kernel) rfl rfl (q_sum8 _ (Nat.le_of_ble_eq_true rfl)) R_215 f_228 (fx_k (c := 0) R_215 (by decide +kernel)) (om_Jx4a65c_size_8abf5 (Nat.le_trans (by decide) hd) R_215 (fx_k (c := 0) R_215 (by decide +kernel)) f_228 hc_229) (fun _ S_234 q_237 => ?_) (fun _ _ qq => kr_x qq)
    refine kr_z (by decide) q_237 fun v_232 f_233 R_235 E_236 => ?_
    have g_238 := Ext.ok (Ext.tr (Ext.tr E_186 E_199) E_216) g_175
    obtain ⟨m_239, e_240, h⟩ := up_s h
    refine go_putf (x := 297) (ci := 7) (kf := 10) (fin := 0) (zt := 0) (by decide +kernel) (by decide +kernel) (by decide) (by decide +kernel) (by decide) (Or.inl rfl) R_235 f_168 f_233 (fun hq => absurd hq (by decide)) g_238 e_240 (fx_f (j := 10) R_235.2 g_238 (by decide +kernel)) fun S_241 R_242 E_243 => ?_
    have E_245 := Ext.tr E_220 E_243
    refine go_aload_n (n := 0) (by decide +kernel) l_224 f_166 ?_
    refine go_getf (x := 31) (ci := 12) (kf := 4) (fin := 1) (t := 2) (by decide +kernel) (by decide +kernel) (by decide +kernel) R_242 f_166 (fx_k (c := 12) R_242 (by decide +kernel)) fun v_246 f_247 => ?_
    have f_248 := q_is_eq (b := 9) f_247 (fx_v R_242 (by decide +kernel)).symm
    refine go_aload_n (n := 3) (by decide +kernel) l_222 f_196 ?_
    obtain ⟨x_250, m_251, hc_249, h⟩ := bd_s h
    refine go_callV (x := 300) (mi := 331) (n := 1) (ci := 0) (as := [v_195]) (rest := []) (by decide +kernel) (by decide +kernel) rfl rfl (q_sum8 _ (Nat.le_of_ble_eq_true rfl)) R_242 f_248 (fx_k (c := 0) R_242 (by decide +kernel)) (om_Jx4a65c_add_9ea2d (Nat.le_trans (by decide) hd) R_242 (fx_k (c := 0) R_242 (by decide +kernel)) f_248 f_196 hc_249) (fun _ S_254 q_257 => ?_) (fun _ _ qq => kr_x qq)
    refine kr_z (by decide) q_257 fun v_252 f_253 R_255 E_256 => ?_
    have E_260 := Ext.tr E_245 E_256
    refine go_pop (by decide +kernel) f_253 (Or.inl rfl) ?_
    refine go_bipush (n := 100) (z := 100) (by decide +kernel) (by decide) fun v_261 f_262 => ?_
    refine go_aload_n (n := 2) (by decide +kernel) l_225 f_168 ?_
    have g_265 := Ext.ok (Ext.tr E_243 E_256) g_238
    obtain ⟨x_267, e_268, h⟩ := lx_s h
    refine go_getf (x := 297) (ci := 7) (kf := 10) (fin := 0) (t := 0) (by decide +kernel) (by decide +kernel) (by decide +kernel) R_255 f_168 g_265 fun v_263 f_264 => ?_
    have f_266 := q_is_eq f_264 e_268
    refine go_imul (by decide +kernel) f_262 f_266 fun v_269 f_270 => ?_
    refine go_aload_n (n := 2) (by decide +kernel) l_225 f_168 ?_
    obtain ⟨x_274, e_275, h⟩ := lx_s h
    refine go_getf (x := 180) (ci := 7) (kf := 0) (fin := 2) (t := 0) (by decide +kernel) (by decide +kernel) (by decide +kernel) R_255 f_168 g_265 fun v_271 f_272 => ?_
    have f_273 := q_is_eq f_272 e_275
    refine go_iadd (by decide +kernel) f_270 f_273 fun v_276 f_277 => ?_
    cases h
    exact go_iret (by decide +kernel) rfl (Or.inl rfl) f_277 (hQ E_260 _ _ R_255 (q_out_v (by decide) f_277))
  · have h := it_n hp_172 h
    refine go_iconst (n := (-1)) (z := (-1)) (by decide +kernel) (by decide) fun v_278 f_279 => ?_
    cases h
    exact go_iret (by decide +kernel) rfl (Or.inl rfl) f_279 (hQ E_16 _ _ R_171 (q_out_v (by decide) f_279))
noncomputable def fm_X11_isStale (p1 : Int) (m0 : MM) : Option Int := gd (okc m0 p1 10) <| lx (m0 p1 1) fun x_5 =>
lx (m0 p1 5) fun x_14 =>
if x_14 = 0 then
gd (okc m0 x_5 7) <| lx (m0 x_5 6) fun x_23 =>
if x_23 = 0 then
bp (fm_X6_mark x_5 m0) fun x_29 =>
lx (m0 p1 4) fun x_40 =>
if x_29 = x_40 then
some 0
else
some 1
else
some 1
else
some 1
set_option maxHeartbeats 4000000 in
theorem om_X11_isStale {xs : List Int32} {d : Nat} {S : QS} {m0 : MM} {p1 : Int} {v0 : Value} {v1 : Value} {rz : Int}
  (hd : 2 ≤ d) (R : Rp S m0) (f0 : q_is 2 v0 4) (f1 : q_is 2 v1 p1)
  (h : fm_X11_isStale p1 m0 = some rz) : Mt xs d 163 [v0, v1] S (Cr 0 m0 m0 rz) := by
  obtain ⟨d, rfl⟩ : ∃ e, d = e + 1 := ⟨d - 1, by omega⟩
  have hd : 1 ≤ d := Nat.le_of_succ_le_succ hd
  refine Mt.of (M := qM_X11_isStale) rfl (by rw [sl_1 (q_is_cat f0 (Or.inr rfl)), sl_1 (q_is_cat f1 (Or.inr rfl)), sl_0]; decide) ?_
  rw [la_1 (q_is_cat f0 (Or.inr rfl)), la_1 (q_is_cat f1 (Or.inr rfl)), la_0]
  obtain ⟨L, hL⟩ : ∃ L : QL, L = [(0, v0), (0 + 1, v1)] := ⟨_, rfl⟩
  rw [← hL]
  have l0 : q_lo L 0 = some v0 := by rw [hL]; rfl
  have l1 : q_lo L 1 = some v1 := by rw [hL]; rfl
  have hQ : ∀ o S1, Rp S1 m0 → q_out 0 o rz → (Cr 0 m0 m0 rz) o S1 := fun o S1 a b => ⟨a, Ext.rf _, b⟩
  unfold fm_X11_isStale at h
  refine go_aload_n (n := 1) (by decide +kernel) l1 f1 ?_
  obtain ⟨g_3, h⟩ := gd_s h
  obtain ⟨x_5, e_6, h⟩ := lx_s h
  refine go_getf (x := 309) (ci := 10) (kf := 1) (fin := 2) (t := 2) (by decide +kernel) (by decide +kernel) (by decide +kernel) R f1 g_3 fun v_1 f_2 => ?_
  have f_4 := q_is_eq f_2 e_6
  refine go_astore_n (n := 2) (by decide +kernel) (by decide +kernel) f_4 fun L_7 l_8 kp_9 => ?_
  have l_10 := kp_9 1 _ l1 (by decide) (Or.inr (q_is_cat f1 (Or.inr rfl)))
  refine go_aload_n (n := 1) (by decide +kernel) l_10 f1 ?_
  obtain ⟨x_14, e_15, h⟩ := lx_s h
  refine go_getf (x := 317) (ci := 10) (kf := 5) (fin := 0) (t := 0) (by decide +kernel) (by decide +kernel) (by decide +kernel) R f1 g_3 fun v_11 f_12 => ?_
  have f_13 := q_is_eq f_12 e_15
  refine go_if (c := .ne) (o := 21) (t := 30) (P := ¬ (x_14 = 0)) (by decide +kernel) (by decide +kernel) f_13 (Iff.rfl) (fun hp_16 => ?_) (fun hp_16 => ?_)
  · have h := it_f hp_16 h
    refine go_iconst (n := 1) (z := 1) (by decide +kernel) (by decide) fun v_17 f_18 => ?_
    refine go_goto (o := 4) (t := 35) (by decide +kernel) (by decide +kernel) ?_
    cases h
    exact go_iret (by decide +kernel) rfl (Or.inr ⟨rfl, by decide⟩) f_18 (hQ _ _ R (q_out_v (by decide) f_18))
  · have h := it_n hp_16 h
    refine go_aload_n (n := 2) (by decide +kernel) l_8 f_4 ?_
    obtain ⟨g_21, h⟩ := gd_s h
    obtain ⟨x_23, e_24, h⟩ := lx_s h
    refine go_getf (x := 208) (ci := 7) (kf := 6) (fin := 0) (t := 0) (by decide +kernel) (by decide +kernel) (by decide +kernel) R f_4 g_21 fun v_19 f_20 => ?_
    have f_22 := q_is_eq f_20 e_24
    refine go_if (c := .ne) (o := 14) (t := 30) (P := ¬ (x_23 = 0)) (by decide +kernel) (by decide +kernel) f_22 (Iff.rfl) (fun hp_25 => ?_) (fun hp_25 => ?_)
    · have h := it_f hp_25 h
      refine go_iconst (n := 1) (z := 1) (by decide +kernel) (by decide) fun v_26 f_27 => ?_
      refine go_goto (o := 4) (t := 35) (by decide +kernel) (by decide +kernel) ?_
      cases h
      exact go_iret (by decide +kernel) rfl (Or.inr ⟨rfl, by decide⟩) f_27 (hQ _ _ R (q_out_v (by decide) f_27))
    · have h := it_n hp_25 h
      refine go_aload_n (n := 2) (by decide +kernel) l_8 f_4 ?_
      obtain ⟨x_29, hc_28, h⟩ := bp_s h
      refine go_callV (x := 568) (mi := 69) (n := 0) (ci := 7) (as := []) (rest := []) (by decide +kernel) (by decide +kernel) rfl rfl (q_sum8 _ (Nat.le_of_ble_eq_true rfl)) R f_4 g_21 (om_X6_mark (Nat.le_trans (by decide) hd) R g_21 f_4 hc_28) (fun _ S_33 q_36 => ?_) (fun _ _ qq => kr_x qq)
      refine kr_z (by decide) q_36 fun v_31 f_32 R_34 E_35 => ?_
      refine go_aload_n (n := 1) (by decide +kernel) l_10 f1 ?_
      obtain ⟨x_40, e_41, h⟩ := lx_s h
      refine go_getf (x := 571) (ci := 10) (kf := 4) (fin := 2) (t := 0) (by decide +kernel) (by decide +kernel) (by decide +kernel) R_34 f1 g_3 fun v_37 f_38 => ?_
      have f_39 := q_is_eq f_38 e_41
      refine go_icmp (c := .eq) (o := 7) (t := 34) (P := x_29 = x_40) (by decide +kernel) (by decide +kernel) f_32 f_39 (Iff.rfl) (fun hp_42 => ?_) (fun hp_42 => ?_)
      · have h := it_t hp_42 h
        refine go_iconst (n := 0) (z := 0) (by decide +kernel) (by decide) fun v_43 f_44 => ?_
        cases h
        exact go_iret (by decide +kernel) rfl (Or.inr ⟨rfl, by decide⟩) f_44 (hQ _ _ R_34 (q_out_v (by decide) f_44))
      · have h := it_f hp_42 h
        refine go_iconst (n := 1) (z := 1) (by decide +kernel) (by decide) fun v_45 f_46 => ?_
        refine go_goto (o := 4) (t := 35) (by decide +kernel) (by decide +kernel) ?_
        cases h
        exact go_iret (by decide +kernel) rfl (Or.inr ⟨rfl, by decide⟩) f_46 (hQ _ _ R_34 (q_out_v (by decide) f_46))
noncomputable def fm_X11_countReplay (p1 : Int) (m0 : MM) : Option (Int × MM) := if p1 < 0 then
some (0, m0)
else
if p1 < 3 then
gd (0 ≤ p1 ∧ p1 < 3) <| lx (m0 11 p1) fun x_16 =>
up m0 11 p1 (w32 (x_16 + 1)) fun m_22 =>
some (0, m_22)
else
some (0, m0)
set_option maxHeartbeats 4000000 in
theorem om_X11_countReplay {xs : List Int32} {d : Nat} {S : QS} {m0 : MM} {p1 : Int} {v0 : Value} {v1 : Value} {rz : Int} {rm : MM}
  (hd : 1 ≤ d) (R : Rp S m0) (f0 : q_is 2 v0 4) (f1 : q_is 0 v1 p1)
  (h : fm_X11_countReplay p1 m0 = some (rz, rm)) : Mt xs d 164 [v0, v1] S (Cr 9 m0 rm rz) := by
  obtain ⟨d, rfl⟩ : ∃ e, d = e + 1 := ⟨d - 1, by omega⟩
  have hd : 0 ≤ d := Nat.le_of_succ_le_succ hd
  refine Mt.of (M := qM_X11_countReplay) rfl (by rw [sl_1 (q_is_cat f0 (Or.inr rfl)), sl_1 (q_is_cat f1 (Or.inl rfl)), sl_0]; decide) ?_
  rw [la_1 (q_is_cat f0 (Or.inr rfl)), la_1 (q_is_cat f1 (Or.inl rfl)), la_0]
  obtain ⟨L, hL⟩ : ∃ L : QL, L = [(0, v0), (0 + 1, v1)] := ⟨_, rfl⟩
  rw [← hL]
  have l0 : q_lo L 0 = some v0 := by rw [hL]; rfl
  have l1 : q_lo L 1 = some v1 := by rw [hL]; rfl
  have hQ : Ext m0 rm → ∀ o S1, Rp S1 rm → q_out 9 o rz → (Cr 9 m0 rm rz) o S1 := fun a o S1 b e => ⟨b, a, e⟩
  unfold fm_X11_countReplay at h
  refine go_iload_n (n := 1) (by decide +kernel) l1 f1 ?_
  refine go_if (c := .lt) (o := 22) (t := 23) (P := p1 < 0) (by decide +kernel) (by decide +kernel) f1 (Iff.rfl) (fun hp_1 => ?_) (fun hp_1 => ?_)
  · have h := it_t hp_1 h
    cases h
    exact go_vret (by decide +kernel) rfl (hQ (Ext.rf _) _ _ R q_out_n)
  · have h := it_f hp_1 h
    refine go_iload_n (n := 1) (by decide +kernel) l1 f1 ?_
    refine go_aload_n (n := 0) (by decide +kernel) l0 f0 ?_
    refine go_getf (x := 37) (ci := 12) (kf := 6) (fin := 1) (t := 2) (by decide +kernel) (by decide +kernel) (by decide +kernel) R f0 (fx_k (c := 12) R (by decide +kernel)) fun v_2 f_3 => ?_
    have f_4 := q_is_eq (b := 11) f_3 (fx_v R (by decide +kernel)).symm
    refine go_alen (by decide +kernel) R f_4 (okl_of (fx_k (c := 100) R (by decide +kernel)) (by decide)) fun v_5 f_6 => ?_
    have f_7 := q_is_eq (b := 3) f_6 (by rw [fx_l R (ln := 3) (by decide +kernel)]; decide)
    refine go_icmp (c := .ge) (o := 13) (t := 23) (P := ¬ (p1 < 3)) (by decide +kernel) (by decide +kernel) f1 f_7 (Int.not_lt.symm) (fun hp_8 => ?_) (fun hp_8 => ?_)
    · have h := it_f hp_8 h
      cases h
      exact go_vret (by decide +kernel) rfl (hQ (Ext.rf _) _ _ R q_out_n)
    · have h := it_n hp_8 h
      refine go_aload_n (n := 0) (by decide +kernel) l0 f0 ?_
      refine go_getf (x := 37) (ci := 12) (kf := 6) (fin := 1) (t := 2) (by decide +kernel) (by decide +kernel) (by decide +kernel) R f0 (fx_k (c := 12) R (by decide +kernel)) fun v_9 f_10 => ?_
      have f_11 := q_is_eq (b := 11) f_10 (fx_v R (by decide +kernel)).symm
      refine go_iload_n (n := 1) (by decide +kernel) l1 f1 ?_
      refine go_dup2 (by decide +kernel) f1 (Or.inl rfl) f_11 (Or.inr rfl) ?_
      obtain ⟨g_14, h⟩ := gd_s h
      obtain ⟨x_16, e_17, h⟩ := lx_s h
      refine go_iald (kd := 100) (by decide +kernel) rfl R f_11 f1 (fx_k (c := 100) R (by decide +kernel)) (fx_x (a := 11) (ln := 3) R (by decide +kernel) g_14) fun v_12 f_13 => ?_
      have f_15 := q_is_eq f_13 e_17
      refine go_iconst (n := 1) (z := 1) (by decide +kernel) (by decide) fun v_18 f_19 => ?_
      refine go_iadd (by decide +kernel) f_15 f_19 fun v_20 f_21 => ?_
      obtain ⟨m_22, e_23, h⟩ := up_s h
      refine go_iast (kd := 100) (by decide +kernel) rfl R f_11 f1 f_21 (fx_k (c := 100) R (by decide +kernel)) (fx_x (a := 11) (ln := 3) R (by decide +kernel) g_14) e_23 (fx_a R.2 (fx_k (c := 100) R (by decide +kernel)) (And.left (fx_x (a := 11) (ln := 3) R (by decide +kernel) g_14)) (by decide +kernel)) fun S_24 R_25 E_26 => ?_
      have E_28 := E_26
      cases h
      exact go_vret (by decide +kernel) rfl (hQ E_28 _ _ R_25 q_out_n)
noncomputable def fl_X11_putNews_38 (y1 y2 y4 : Int) (k87 : MM → Option (Int × MM)) : Nat → Int → MM → Option (Int × MM)
  | 0, _, _ => none
  | n + 1, y5, m => gd (okc m y4 3) <| lx (m y4 1) fun x_27 =>
if y5 < x_27 then
gd (okc m y1 7) <| lx (m y1 16) fun x_34 =>
bp (fm_X2_kind y4 y5 m) fun x_37 =>
bp (fm_X2_x y4 y5 m) fun x_46 =>
bp (fm_X2_y y4 y5 m) fun x_55 =>
lx (m 4 14) fun x_66 =>
gd (okc m x_34 3) <| bd (fm_X2_put x_34 x_37 x_46 x_55 x_66 0 m) fun x_72 m_73 =>
lx (w32 (y5 + 1)) fun x_88 =>
fl_X11_putNews_38 y1 y2 y4 k87 n x_88 m_73
else
k87 m
set_option maxHeartbeats 4000000 in
theorem ol_X11_putNews_38 {xs : List Int32} {d : Nat} {Q : QO → QS → Prop} {mb : MM} {y1 y2 y4 : Int} {k87 : MM → Option (Int × MM)} {rz : Int} {rm : MM}
  (hd : 2 ≤ d)
  (hk87 : ∀ mq : MM, Ext mb mq → ∀ {Sq : QS} {Lq : QL} {u0 : Value} {u1 : Value} {u2 : Value} {u4 : Value}, k87 mq = some (rz, rm) → Rp Sq mq → q_lo Lq 0 = some u0 → q_is 2 u0 4 → q_lo Lq 1 = some u1 → q_is 2 u1 y1 → q_lo Lq 2 = some u2 → q_is 2 u2 y2 → q_lo Lq 4 = some u4 → q_is 2 u4 y4 → Go xs d qM_X11_putNews 87 Lq [] Sq Q)
  (hQ : Ext mb rm → ∀ o S1, Rp S1 rm → q_out 0 o rz → Q o S1) :
  ∀ (n : Nat) {m : MM} {S : QS} {L : QL} {y5 : Int} {v0 : Value} {v1 : Value} {v2 : Value} {v4 : Value} {v5 : Value} , Ext mb m → fl_X11_putNews_38 y1 y2 y4 k87 n y5 m = some (rz, rm) → Rp S m → q_lo L 0 = some v0 → q_is 2 v0 4 → q_lo L 1 = some v1 → q_is 2 v1 y1 → q_lo L 2 = some v2 → q_is 2 v2 y2 → q_lo L 4 = some v4 → q_is 2 v4 y4 → q_lo L 5 = some v5 → q_is 0 v5 y5 → Go xs d qM_X11_putNews 38 L [] S Q := by
  intro n
  induction n with
  | zero => intro m S L y5 v0 v1 v2 v4 v5; intro E h R l0 f0 l1 f1 l2 f2 l4 f4 l5 f5; cases h
  | succ n ih0 =>
    intro m S L y5 v0 v1 v2 v4 v5; intro E h R l0 f0 l1 f1 l2 f2 l4 f4 l5 f5
    have ih : ∀ mq : MM, Ext mb mq → ∀ {z5 : Int} {Sq : QS} {Lq : QL} {u0 : Value} {u1 : Value} {u2 : Value} {u4 : Value} {u5 : Value}, fl_X11_putNews_38 y1 y2 y4 k87 n z5 mq = some (rz, rm) → Rp Sq mq → q_lo Lq 0 = some u0 → q_is 2 u0 4 → q_lo Lq 1 = some u1 → q_is 2 u1 y1 → q_lo Lq 2 = some u2 → q_is 2 u2 y2 → q_lo Lq 4 = some u4 → q_is 2 u4 y4 → q_lo Lq 5 = some u5 → q_is 0 u5 z5 → Go xs d qM_X11_putNews 38 Lq [] Sq Q := fun mq b => by intros; exact ih0 b ‹_› ‹_› ‹_› ‹_› ‹_› ‹_› ‹_› ‹_› ‹_› ‹_› ‹_› ‹_›
    unfold fl_X11_putNews_38 at h
    refine go_iload (n := 5) (by decide +kernel) l5 f5 ?_
    refine go_aload (n := 4) (by decide +kernel) l4 f4 ?_
    obtain ⟨g_25, h⟩ := gd_s h
    obtain ⟨x_27, e_28, h⟩ := lx_s h
    refine go_getf (x := 199) (ci := 3) (kf := 1) (fin := 0) (t := 0) (by decide +kernel) (by decide +kernel) (by decide +kernel) R f4 g_25 fun v_23 f_24 => ?_
    have f_26 := q_is_eq f_24 e_28
    refine go_icmp (c := .ge) (o := 42) (t := 87) (P := ¬ (y5 < x_27)) (by decide +kernel) (by decide +kernel) f5 f_26 (Int.not_lt.symm) (fun hp_29 => ?_) (fun hp_29 => ?_)
    · have h := it_f hp_29 h
      exact hk87 m E h R l0 f0 l1 f1 l2 f2 l4 f4
    · have h := it_n hp_29 h
      refine go_aload_n (n := 1) (by decide +kernel) l1 f1 ?_
      obtain ⟨g_32, h⟩ := gd_s h
      obtain ⟨x_34, e_35, h⟩ := lx_s h
      refine go_getf (x := 195) (ci := 7) (kf := 16) (fin := 2) (t := 2) (by decide +kernel) (by decide +kernel) (by decide +kernel) R f1 g_32 fun v_30 f_31 => ?_
      have f_33 := q_is_eq f_31 e_35
      refine go_aload (n := 4) (by decide +kernel) l4 f4 ?_
      refine go_iload (n := 5) (by decide +kernel) l5 f5 ?_
      obtain ⟨x_37, hc_36, h⟩ := bp_s h
      refine go_callV (x := 261) (mi := 9) (n := 1) (ci := 3) (as := [v5]) (rest := [v_30]) (by decide +kernel) (by decide +kernel) rfl rfl (q_sum8 _ (Nat.le_of_ble_eq_true rfl)) R f4 g_25 (om_X2_kind (Nat.le_trans (by decide) hd) R g_25 f4 f5 hc_36) (fun _ S_41 q_44 => ?_) (fun _ _ qq => kr_x qq)
      refine kr_z (by decide) q_44 fun v_39 f_40 R_42 E_43 => ?_
      refine go_aload (n := 4) (by decide +kernel) l4 f4 ?_
      refine go_iload (n := 5) (by decide +kernel) l5 f5 ?_
      obtain ⟨x_46, hc_45, h⟩ := bp_s h
      refine go_callV (x := 264) (mi := 10) (n := 1) (ci := 3) (as := [v5]) (rest := [v_39, v_30]) (by decide +kernel) (by decide +kernel) rfl rfl (q_sum8 _ (Nat.le_of_ble_eq_true rfl)) R_42 f4 g_25 (om_X2_x (Nat.le_trans (by decide) hd) R_42 g_25 f4 f5 hc_45) (fun _ S_50 q_53 => ?_) (fun _ _ qq => kr_x qq)
      refine kr_z (by decide) q_53 fun v_48 f_49 R_51 E_52 => ?_
      refine go_aload (n := 4) (by decide +kernel) l4 f4 ?_
      refine go_iload (n := 5) (by decide +kernel) l5 f5 ?_
      obtain ⟨x_55, hc_54, h⟩ := bp_s h
      refine go_callV (x := 267) (mi := 11) (n := 1) (ci := 3) (as := [v5]) (rest := [v_48, v_39, v_30]) (by decide +kernel) (by decide +kernel) rfl rfl (q_sum8 _ (Nat.le_of_ble_eq_true rfl)) R_51 f4 g_25 (om_X2_y (Nat.le_trans (by decide) hd) R_51 g_25 f4 f5 hc_54) (fun _ S_59 q_62 => ?_) (fun _ _ qq => kr_x qq)
      refine kr_z (by decide) q_62 fun v_57 f_58 R_60 E_61 => ?_
      refine go_aload_n (n := 0) (by decide +kernel) l0 f0 ?_
      obtain ⟨x_66, e_67, h⟩ := lx_s h
      refine go_getf (x := 71) (ci := 12) (kf := 14) (fin := 0) (t := 0) (by decide +kernel) (by decide +kernel) (by decide +kernel) R_60 f0 (fx_k (c := 12) R_60 (by decide +kernel)) fun v_63 f_64 => ?_
      have f_65 := q_is_eq f_64 e_67
      refine go_iconst (n := 0) (z := 0) (by decide +kernel) (by decide) fun v_68 f_69 => ?_
      obtain ⟨g_70, h⟩ := gd_s h
      obtain ⟨x_72, m_73, hc_71, h⟩ := bd_s h
      refine go_callV (x := 537) (mi := 15) (n := 5) (ci := 3) (as := [v_39, v_48, v_57, v_63, v_68]) (rest := []) (by decide +kernel) (by decide +kernel) rfl rfl (q_sum8 _ (Nat.le_of_ble_eq_true rfl)) R_60 f_33 g_70 (om_X2_put (Nat.le_trans (by decide) hd) R_60 g_70 f_33 f_40 f_49 f_58 f_65 f_69 hc_71) (fun _ S_76 q_79 => ?_) (fun _ _ qq => kr_x qq)
      refine kr_v q_79 fun R_77 E_78 => ?_
      have E_82 := Ext.tr E E_78
      refine go_iinc (n := 5) (c := 1) (c' := 1) (by decide +kernel) (by decide +kernel) l5 f5 (by decide) fun L_83 v_84 f_85 l_86 kp_87 => ?_
      obtain ⟨x_88, e_89, h⟩ := lx_s h
      have f_90 := q_is_eq f_85 e_89
      have l_91 := kp_87 0 _ l0 (by decide) (Or.inl (by decide))
      have l_92 := kp_87 1 _ l1 (by decide) (Or.inl (by decide))
      have l_93 := kp_87 2 _ l2 (by decide) (Or.inl (by decide))
      have l_94 := kp_87 4 _ l4 (by decide) (Or.inr (q_is_cat f4 (Or.inr rfl)))
      refine go_goto (o := (-46)) (t := 38) (by decide +kernel) (by decide +kernel) ?_
      exact ih m_73 E_82 h R_77 l_91 f0 l_92 f1 l_93 f2 l_94 f4 l_86 f_90
noncomputable def fj_X11_putNews_26 (y1 y2 : Int) (m : MM) : Option (Int × MM) := fl_X11_putNews_38 y1 y2 43 (fun m_110 =>
gd (okc m_110 y1 7) <| lx (m_110 y1 16) fun x_119 =>
gd (okc m_110 y2 10) <| lx (m_110 y2 3) fun x_127 =>
lx (m_110 4 14) fun x_134 =>
gd (okc m_110 x_119 3) <| bd (fm_X2_put x_119 17 x_127 0 x_134 0 m_110) fun x_140 m_141 =>
lx (m_141 y2 0) fun x_155 =>
up m_141 y1 12 x_155 fun m_158 =>
bp (fm_X6_mark y1 m_158) fun x_167 =>
up m_158 y1 13 x_167 fun m_175 =>
bd (fm_X4_knows y1 m_175) fun x_186 m_187 =>
lx (m_187 43 1) fun x_200 =>
some (x_200, m_187)) BIG 0 m
set_option maxHeartbeats 4000000 in
theorem oj_X11_putNews_26 {xs : List Int32} {d : Nat} {S : QS} {L : QL} {Q : QO → QS → Prop} {m : MM} {y1 y2 : Int} {v0 : Value} {v1 : Value} {v2 : Value}  {rz : Int} {rm : MM}
  (hd : 2 ≤ d) (R : Rp S m) (l0 : q_lo L 0 = some v0) (f0 : q_is 2 v0 4) (l1 : q_lo L 1 = some v1) (f1 : q_is 2 v1 y1) (l2 : q_lo L 2 = some v2) (f2 : q_is 2 v2 y2)
  (hQ : Ext m rm → ∀ o S1, Rp S1 rm → q_out 0 o rz → Q o S1)
  (h : fj_X11_putNews_26 y1 y2 m = some (rz, rm)) : Go xs d qM_X11_putNews 26 L [] S Q := by
  unfold fj_X11_putNews_26 at h
  refine go_aload_n (n := 0) (by decide +kernel) l0 f0 ?_
  refine go_getf (x := 57) (ci := 12) (kf := 10) (fin := 1) (t := 2) (by decide +kernel) (by decide +kernel) (by decide +kernel) R f0 (fx_k (c := 12) R (by decide +kernel)) fun v_2 f_3 => ?_
  have f_4 := q_is_eq (b := 16) f_3 (fx_v R (by decide +kernel)).symm
  refine go_getf (x := 579) (ci := 5) (kf := 1) (fin := 2) (t := 2) (by decide +kernel) (by decide +kernel) (by decide +kernel) R f_4 (fx_k (c := 5) R (by decide +kernel)) fun v_5 f_6 => ?_
  have f_7 := q_is_eq (b := 43) f_6 (fx_v R (by decide +kernel)).symm
  refine go_astore (n := 4) (by decide +kernel) (by decide +kernel) f_7 fun L_8 l_9 kp_10 => ?_
  have l_11 := kp_10 0 _ l0 (by decide) (Or.inl (by decide))
  have l_12 := kp_10 1 _ l1 (by decide) (Or.inl (by decide))
  have l_13 := kp_10 2 _ l2 (by decide) (Or.inl (by decide))
  refine go_iconst (n := 0) (z := 0) (by decide +kernel) (by decide) fun v_14 f_15 => ?_
  refine go_istore (n := 5) (by decide +kernel) (by decide +kernel) f_15 fun L_16 l_17 kp_18 => ?_
  have l_19 := kp_18 0 _ l_11 (by decide) (Or.inl (by decide))
  have l_20 := kp_18 1 _ l_12 (by decide) (Or.inl (by decide))
  have l_21 := kp_18 2 _ l_13 (by decide) (Or.inl (by decide))
  have l_22 := kp_18 4 _ l_9 (by decide) (Or.inr (q_is_cat f_7 (Or.inr rfl)))
  refine ol_X11_putNews_38 hd  ?_ hQ BIG (Ext.rf _) h R l_19 f0 l_20 f1 l_21 f2 l_22 f_7 l_17 f_15
  intro m_110 E_111
  intro S_107 L_108 v_95 v_96 v_97 v_98
  intro h R_109 l_99 f_103 l_100 f_104 l_101 f_105 l_102 f_106
  have E_112 := E_111
  refine go_aload_n (n := 1) (by decide +kernel) l_100 f_104 ?_
  obtain ⟨g_117, h⟩ := gd_s h
  obtain ⟨x_119, e_120, h⟩ := lx_s h
  refine go_getf (x := 195) (ci := 7) (kf := 16) (fin := 2) (t := 2) (by decide +kernel) (by decide +kernel) (by decide +kernel) R_109 f_104 g_117 fun v_115 f_116 => ?_
  have f_118 := q_is_eq f_116 e_120
  refine go_bipush (n := 17) (z := 17) (by decide +kernel) (by decide) fun v_121 f_122 => ?_
  refine go_aload_n (n := 2) (by decide +kernel) l_101 f_105 ?_
  obtain ⟨g_125, h⟩ := gd_s h
  obtain ⟨x_127, e_128, h⟩ := lx_s h
  refine go_getf (x := 329) (ci := 10) (kf := 3) (fin := 2) (t := 0) (by decide +kernel) (by decide +kernel) (by decide +kernel) R_109 f_105 g_125 fun v_123 f_124 => ?_
  have f_126 := q_is_eq f_124 e_128
  refine go_iconst (n := 0) (z := 0) (by decide +kernel) (by decide) fun v_129 f_130 => ?_
  refine go_aload_n (n := 0) (by decide +kernel) l_99 f_103 ?_
  obtain ⟨x_134, e_135, h⟩ := lx_s h
  refine go_getf (x := 71) (ci := 12) (kf := 14) (fin := 0) (t := 0) (by decide +kernel) (by decide +kernel) (by decide +kernel) R_109 f_103 (fx_k (c := 12) R_109 (by decide +kernel)) fun v_131 f_132 => ?_
  have f_133 := q_is_eq f_132 e_135
  refine go_iconst (n := 0) (z := 0) (by decide +kernel) (by decide) fun v_136 f_137 => ?_
  obtain ⟨g_138, h⟩ := gd_s h
  obtain ⟨x_140, m_141, hc_139, h⟩ := bd_s h
  refine go_callV (x := 537) (mi := 15) (n := 5) (ci := 3) (as := [v_121, v_123, v_129, v_131, v_136]) (rest := []) (by decide +kernel) (by decide +kernel) rfl rfl (q_sum8 _ (Nat.le_of_ble_eq_true rfl)) R_109 f_118 g_138 (om_X2_put (Nat.le_trans (by decide) hd) R_109 g_138 f_118 f_122 f_126 f_130 f_133 f_137 hc_139) (fun _ S_144 q_147 => ?_) (fun _ _ qq => kr_x qq)
  refine kr_v q_147 fun R_145 E_146 => ?_
  have E_150 := Ext.tr E_112 E_146
  refine go_aload_n (n := 1) (by decide +kernel) l_100 f_104 ?_
  refine go_aload_n (n := 2) (by decide +kernel) l_101 f_105 ?_
  have g_153 := Ext.ok E_146 g_125
  obtain ⟨x_155, e_156, h⟩ := lx_s h
  refine go_getf (x := 320) (ci := 10) (kf := 0) (fin := 2) (t := 0) (by decide +kernel) (by decide +kernel) (by decide +kernel) R_145 f_105 g_153 fun v_151 f_152 => ?_
  have f_154 := q_is_eq f_152 e_156
  have g_157 := Ext.ok E_146 g_117
  obtain ⟨m_158, e_159, h⟩ := up_s h
  refine go_putf (x := 344) (ci := 7) (kf := 12) (fin := 0) (zt := 0) (by decide +kernel) (by decide +kernel) (by decide) (by decide +kernel) (by decide) (Or.inl rfl) R_145 f_104 f_154 (fun hq => absurd hq (by decide)) g_157 e_159 (fx_f (j := 12) R_145.2 g_157 (by decide +kernel)) fun S_160 R_161 E_162 => ?_
  have E_164 := Ext.tr E_150 E_162
  refine go_aload_n (n := 1) (by decide +kernel) l_100 f_104 ?_
  refine go_aload_n (n := 1) (by decide +kernel) l_100 f_104 ?_
  have g_165 := Ext.ok E_162 g_157
  obtain ⟨x_167, hc_166, h⟩ := bp_s h
  refine go_callV (x := 568) (mi := 69) (n := 0) (ci := 7) (as := []) (rest := [v_96]) (by decide +kernel) (by decide +kernel) rfl rfl (q_sum8 _ (Nat.le_of_ble_eq_true rfl)) R_161 f_104 g_165 (om_X6_mark (Nat.le_trans (by decide) hd) R_161 g_165 f_104 hc_166) (fun _ S_171 q_174 => ?_) (fun _ _ qq => kr_x qq)
  refine kr_z (by decide) q_174 fun v_169 f_170 R_172 E_173 => ?_
  obtain ⟨m_175, e_176, h⟩ := up_s h
  refine go_putf (x := 582) (ci := 7) (kf := 13) (fin := 0) (zt := 0) (by decide +kernel) (by decide +kernel) (by decide) (by decide +kernel) (by decide) (Or.inl rfl) R_172 f_104 f_170 (fun hq => absurd hq (by decide)) g_165 e_176 (fx_f (j := 13) R_172.2 g_165 (by decide +kernel)) fun S_177 R_178 E_179 => ?_
  have E_181 := Ext.tr E_164 E_179
  refine go_aload_n (n := 0) (by decide +kernel) l_99 f_103 ?_
  refine go_getf (x := 57) (ci := 12) (kf := 10) (fin := 1) (t := 2) (by decide +kernel) (by decide +kernel) (by decide +kernel) R_178 f_103 (fx_k (c := 12) R_178 (by decide +kernel)) fun v_182 f_183 => ?_
  have f_184 := q_is_eq (b := 16) f_183 (fx_v R_178 (by decide +kernel)).symm
  refine go_aload_n (n := 1) (by decide +kernel) l_100 f_104 ?_
  obtain ⟨x_186, m_187, hc_185, h⟩ := bd_s h
  refine go_callV (x := 585) (mi := 32) (n := 1) (ci := 5) (as := [v_96]) (rest := []) (by decide +kernel) (by decide +kernel) rfl rfl (q_sum8 _ (Nat.le_of_ble_eq_true rfl)) R_178 f_184 (fx_k (c := 5) R_178 (by decide +kernel)) (om_X4_knows (Nat.le_trans (by decide) hd) R_178 f_184 f_104 hc_185) (fun _ S_190 q_193 => ?_) (fun _ _ qq => kr_x qq)
  refine kr_v q_193 fun R_191 E_192 => ?_
  have E_196 := Ext.tr E_181 E_192
  refine go_aload (n := 4) (by decide +kernel) l_102 f_106 ?_
  obtain ⟨x_200, e_201, h⟩ := lx_s h
  refine go_getf (x := 199) (ci := 3) (kf := 1) (fin := 0) (t := 0) (by decide +kernel) (by decide +kernel) (by decide +kernel) R_191 f_106 (fx_k (c := 3) R_191 (by decide +kernel)) fun v_197 f_198 => ?_
  have f_199 := q_is_eq f_198 e_201
  cases h
  exact go_iret (by decide +kernel) rfl (Or.inl rfl) f_199 (hQ E_196 _ _ R_191 (q_out_v (by decide) f_199))
noncomputable def fm_X11_putNews (p1 p2 p3 : Int) (m0 : MM) : Option (Int × MM) := if p3 = 0 then
gd (okc m0 p1 7) <| lx (m0 p1 16) fun x_206 =>
gd (okc m0 x_206 3) <| lx (m0 x_206 1) fun x_212 =>
up m0 p1 15 x_212 fun m_214 =>
lx (m_214 p1 16) fun x_225 =>
gd (okc m_214 x_225 3) <| lx (m_214 x_225 4) fun x_231 =>
up m_214 p1 14 x_231 fun m_233 =>
fj_X11_putNews_26 p1 p2 m_233
else
fj_X11_putNews_26 p1 p2 m0
set_option maxHeartbeats 4000000 in
theorem om_X11_putNews {xs : List Int32} {d : Nat} {S : QS} {m0 : MM} {p1 p2 p3 : Int} {v0 : Value} {v1 : Value} {v2 : Value} {v3 : Value} {rz : Int} {rm : MM}
  (hd : 3 ≤ d) (R : Rp S m0) (f0 : q_is 2 v0 4) (f1 : q_is 2 v1 p1) (f2 : q_is 2 v2 p2) (f3 : q_is 0 v3 p3)
  (h : fm_X11_putNews p1 p2 p3 m0 = some (rz, rm)) : Mt xs d 165 [v0, v1, v2, v3] S (Cr 0 m0 rm rz) := by
  obtain ⟨d, rfl⟩ : ∃ e, d = e + 1 := ⟨d - 1, by omega⟩
  have hd : 2 ≤ d := Nat.le_of_succ_le_succ hd
  refine Mt.of (M := qM_X11_putNews) rfl (by rw [sl_1 (q_is_cat f0 (Or.inr rfl)), sl_1 (q_is_cat f1 (Or.inr rfl)), sl_1 (q_is_cat f2 (Or.inr rfl)), sl_1 (q_is_cat f3 (Or.inl rfl)), sl_0]; decide) ?_
  rw [la_1 (q_is_cat f0 (Or.inr rfl)), la_1 (q_is_cat f1 (Or.inr rfl)), la_1 (q_is_cat f2 (Or.inr rfl)), la_1 (q_is_cat f3 (Or.inl rfl)), la_0]
  obtain ⟨L, hL⟩ : ∃ L : QL, L = [(0, v0), (0 + 1, v1), (0 + 1 + 1, v2), (0 + 1 + 1 + 1, v3)] := ⟨_, rfl⟩
  rw [← hL]
  have l0 : q_lo L 0 = some v0 := by rw [hL]; rfl
  have l1 : q_lo L 1 = some v1 := by rw [hL]; rfl
  have l2 : q_lo L 2 = some v2 := by rw [hL]; rfl
  have l3 : q_lo L 3 = some v3 := by rw [hL]; rfl
  have hQ : Ext m0 rm → ∀ o S1, Rp S1 rm → q_out 0 o rz → (Cr 0 m0 rm rz) o S1 := fun a o S1 b e => ⟨b, a, e⟩
  unfold fm_X11_putNews at h
  refine go_iload_n (n := 3) (by decide +kernel) l3 f3 ?_
  refine go_if (c := .ne) (o := 25) (t := 26) (P := ¬ (p3 = 0)) (by decide +kernel) (by decide +kernel) f3 (Iff.rfl) (fun hp_1 => ?_) (fun hp_1 => ?_)
  · have h := it_f hp_1 h
    exact oj_X11_putNews_26 hd R l0 f0 l1 f1 l2 f2 hQ h
  · have h := it_n hp_1 h
    refine go_aload_n (n := 1) (by decide +kernel) l1 f1 ?_
    refine go_aload_n (n := 1) (by decide +kernel) l1 f1 ?_
    obtain ⟨g_204, h⟩ := gd_s h
    obtain ⟨x_206, e_207, h⟩ := lx_s h
    refine go_getf (x := 195) (ci := 7) (kf := 16) (fin := 2) (t := 2) (by decide +kernel) (by decide +kernel) (by decide +kernel) R f1 g_204 fun v_202 f_203 => ?_
    have f_205 := q_is_eq f_203 e_207
    obtain ⟨g_210, h⟩ := gd_s h
    obtain ⟨x_212, e_213, h⟩ := lx_s h
    refine go_getf (x := 199) (ci := 3) (kf := 1) (fin := 0) (t := 0) (by decide +kernel) (by decide +kernel) (by decide +kernel) R f_205 g_210 fun v_208 f_209 => ?_
    have f_211 := q_is_eq f_209 e_213
    obtain ⟨m_214, e_215, h⟩ := up_s h
    refine go_putf (x := 573) (ci := 7) (kf := 15) (fin := 0) (zt := 0) (by decide +kernel) (by decide +kernel) (by decide) (by decide +kernel) (by decide) (Or.inl rfl) R f1 f_211 (fun hq => absurd hq (by decide)) g_204 e_215 (fx_f (j := 15) R.2 g_204 (by decide +kernel)) fun S_216 R_217 E_218 => ?_
    have E_220 := E_218
    refine go_aload_n (n := 1) (by decide +kernel) l1 f1 ?_
    refine go_aload_n (n := 1) (by decide +kernel) l1 f1 ?_
    have g_223 := Ext.ok E_218 g_204
    obtain ⟨x_225, e_226, h⟩ := lx_s h
    refine go_getf (x := 195) (ci := 7) (kf := 16) (fin := 2) (t := 2) (by decide +kernel) (by decide +kernel) (by decide +kernel) R_217 f1 g_223 fun v_221 f_222 => ?_
    have f_224 := q_is_eq f_222 e_226
    obtain ⟨g_229, h⟩ := gd_s h
    obtain ⟨x_231, e_232, h⟩ := lx_s h
    refine go_getf (x := 220) (ci := 3) (kf := 4) (fin := 0) (t := 0) (by decide +kernel) (by decide +kernel) (by decide +kernel) R_217 f_224 g_229 fun v_227 f_228 => ?_
    have f_230 := q_is_eq f_228 e_232
    obtain ⟨m_233, e_234, h⟩ := up_s h
    refine go_putf (x := 576) (ci := 7) (kf := 14) (fin := 0) (zt := 0) (by decide +kernel) (by decide +kernel) (by decide) (by decide +kernel) (by decide) (Or.inl rfl) R_217 f1 f_230 (fun hq => absurd hq (by decide)) g_223 e_234 (fx_f (j := 14) R_217.2 g_223 (by decide +kernel)) fun S_235 R_236 E_237 => ?_
    have E_239 := Ext.tr E_220 E_237
    exact oj_X11_putNews_26 hd R_236 l0 f0 l1 f1 l2 f2 (fun b => hQ (Ext.tr E_239 b)) h
noncomputable def fm_X11_makeActivity (p1 p2 p3 p4 : Int) (m0 : MM) : Option (Int × MM) := bp (fm_Jx4a65c_size_8abf5 8 m0) fun x_5 =>
if x_5 < 60 then
nw m0 1 11 fun x_19 m_20 =>
lx (m_20 4 14) fun x_35 =>
bd (fm_X0_init x_19 p1 p2 p3 p4 x_35 m_20) fun x_38 m_39 =>
bd (fm_Jx4a65c_add_9ea2d 8 x_19 m_39) fun x_50 m_51 =>
some (0, m_51)
else
bd (fm_X11_arrive p1 2 p2 0 m0) fun x_66 m_67 =>
some (0, m_67)
set_option maxHeartbeats 4000000 in
theorem om_X11_makeActivity {xs : List Int32} {d : Nat} {S : QS} {m0 : MM} {p1 p2 p3 p4 : Int} {v0 : Value} {v1 : Value} {v2 : Value} {v3 : Value} {v4 : Value} {rz : Int} {rm : MM}
  (hd : 9 ≤ d) (R : Rp S m0) (f0 : q_is 2 v0 4) (f1 : q_is 2 v1 p1) (f2 : q_is 0 v2 p2) (f3 : q_is 0 v3 p3) (f4 : q_is 0 v4 p4)
  (h : fm_X11_makeActivity p1 p2 p3 p4 m0 = some (rz, rm)) : Mt xs d 168 [v0, v1, v2, v3, v4] S (Cr 9 m0 rm rz) := by
  obtain ⟨d, rfl⟩ : ∃ e, d = e + 1 := ⟨d - 1, by omega⟩
  have hd : 8 ≤ d := Nat.le_of_succ_le_succ hd
  refine Mt.of (M := qM_X11_makeActivity) rfl (by rw [sl_1 (q_is_cat f0 (Or.inr rfl)), sl_1 (q_is_cat f1 (Or.inr rfl)), sl_1 (q_is_cat f2 (Or.inl rfl)), sl_1 (q_is_cat f3 (Or.inl rfl)), sl_1 (q_is_cat f4 (Or.inl rfl)), sl_0]; decide) ?_
  rw [la_1 (q_is_cat f0 (Or.inr rfl)), la_1 (q_is_cat f1 (Or.inr rfl)), la_1 (q_is_cat f2 (Or.inl rfl)), la_1 (q_is_cat f3 (Or.inl rfl)), la_1 (q_is_cat f4 (Or.inl rfl)), la_0]
  obtain ⟨L, hL⟩ : ∃ L : QL, L = [(0, v0), (0 + 1, v1), (0 + 1 + 1, v2), (0 + 1 + 1 + 1, v3), (0 + 1 + 1 + 1 + 1, v4)] := ⟨_, rfl⟩
  rw [← hL]
  have l0 : q_lo L 0 = some v0 := by rw [hL]; rfl
  have l1 : q_lo L 1 = some v1 := by rw [hL]; rfl
  have l2 : q_lo L 2 = some v2 := by rw [hL]; rfl
  have l3 : q_lo L 3 = some v3 := by rw [hL]; rfl
  have l4 : q_lo L 4 = some v4 := by rw [hL]; rfl
  have hQ : Ext m0 rm → ∀ o S1, Rp S1 rm → q_out 9 o rz → (Cr 9 m0 rm rz) o S1 := fun a o S1 b e => ⟨b, a, e⟩
  unfold fm_X11_makeActivity at h
  refine go_aload_n (n := 0) (by decide +kernel) l0 f0 ?_
  refine go_getf (x := 28) (ci := 12) (kf := 3) (fin := 1) (t := 2) (by decide +kernel) (by decide +kernel) (by decide +kernel) R f0 (fx_k (c := 12) R (by decide +kernel)) fun v_1 f_2 => ?_
  have f_3 := q_is_eq (b := 8) f_2 (fx_v R (by decide +kernel)).symm
  obtain ⟨x_5, hc_4, h⟩ := bp_s h
  refine go_callV (x := 127) (mi := 326) (n := 0) (ci := 0) (as := []) (rest := []) (by decide +kernel) (by decide +kernel) rfl rfl (q_sum8 _ (Nat.le_of_ble_eq_true rfl)) R f_3 (fx_k (c := 0) R (by decide +kernel)) (om_Jx4a65c_size_8abf5 (Nat.le_trans (by decide) hd) R (fx_k (c := 0) R (by decide +kernel)) f_3 hc_4) (fun _ S_9 q_12 => ?_) (fun _ _ qq => kr_x qq)
  refine kr_z (by decide) q_12 fun v_7 f_8 R_10 E_11 => ?_
  refine go_bipush (n := 60) (z := 60) (by decide +kernel) (by decide) fun v_13 f_14 => ?_
  refine go_icmp (c := .lt) (o := 14) (t := 23) (P := x_5 < 60) (by decide +kernel) (by decide +kernel) f_8 f_14 (Iff.rfl) (fun hp_15 => ?_) (fun hp_15 => ?_)
  · have h := it_t hp_15 h
    refine go_aload_n (n := 0) (by decide +kernel) l0 f0 ?_
    refine go_getf (x := 28) (ci := 12) (kf := 3) (fin := 1) (t := 2) (by decide +kernel) (by decide +kernel) (by decide +kernel) R_10 f0 (fx_k (c := 12) R_10 (by decide +kernel)) fun v_16 f_17 => ?_
    have f_18 := q_is_eq (b := 8) f_17 (fx_v R_10 (by decide +kernel)).symm
    obtain ⟨x_19, m_20, e_21, e_22, h⟩ := nw_s h
    have g_28 := okc_nw (c := 1) R_10 e_21 e_22
    refine go_new (x := 347) (ci := 1) (n := 11) (b := 0) (by decide +kernel) (by decide +kernel) R_10 e_21 e_22 fun v_23 S_25 f_24 R_26 E_27 => ?_
    have E_31 := E_27
    refine go_dup (by decide +kernel) f_24 (Or.inr rfl) ?_
    refine go_aload_n (n := 1) (by decide +kernel) l1 f1 ?_
    refine go_iload_n (n := 2) (by decide +kernel) l2 f2 ?_
    refine go_iload_n (n := 3) (by decide +kernel) l3 f3 ?_
    refine go_iload (n := 4) (by decide +kernel) l4 f4 ?_
    refine go_aload_n (n := 0) (by decide +kernel) l0 f0 ?_
    obtain ⟨x_35, e_36, h⟩ := lx_s h
    refine go_getf (x := 71) (ci := 12) (kf := 14) (fin := 0) (t := 0) (by decide +kernel) (by decide +kernel) (by decide +kernel) R_26 f0 (fx_k (c := 12) R_26 (by decide +kernel)) fun v_32 f_33 => ?_
    have f_34 := q_is_eq f_33 e_36
    obtain ⟨x_38, m_39, hc_37, h⟩ := bd_s h
    refine go_callI (x := 610) (mi := 0) (n := 5) (b := 0) (tg := 3) (as := [v1, v2, v3, v4, v_32]) (rest := [v_23, v_16]) (by decide +kernel) (by decide +kernel) (by decide) rfl rfl (q_sum8 _ (Nat.le_of_ble_eq_true rfl)) f_24 (okc_ne g_28) (om_X0_init (Nat.le_trans (by decide) hd) R_26 g_28 f_24 f1 f2 f3 f4 f_34 hc_37) (fun _ S_42 q_45 => ?_) (fun _ _ qq => kr_x qq)
    refine kr_v q_45 fun R_43 E_44 => ?_
    have E_48 := Ext.tr E_31 E_44
    obtain ⟨x_50, m_51, hc_49, h⟩ := bd_s h
    refine go_callV (x := 300) (mi := 331) (n := 1) (ci := 0) (as := [v_23]) (rest := []) (by decide +kernel) (by decide +kernel) rfl rfl (q_sum8 _ (Nat.le_of_ble_eq_true rfl)) R_43 f_18 (fx_k (c := 0) R_43 (by decide +kernel)) (om_Jx4a65c_add_9ea2d (Nat.le_trans (by decide) hd) R_43 (fx_k (c := 0) R_43 (by decide +kernel)) f_18 f_24 hc_49) (fun _ S_54 q_57 => ?_) (fun _ _ qq => kr_x qq)
    refine kr_z (by decide) q_57 fun v_52 f_53 R_55 E_56 => ?_
    have E_60 := Ext.tr E_48 E_56
    refine go_pop (by decide +kernel) f_53 (Or.inl rfl) ?_
    cases h
    exact go_vret (by decide +kernel) rfl (hQ E_60 _ _ R_55 q_out_n)
  · have h := it_f hp_15 h
    refine go_aload_n (n := 0) (by decide +kernel) l0 f0 ?_
    refine go_aload_n (n := 1) (by decide +kernel) l1 f1 ?_
    refine go_iconst (n := 2) (z := 2) (by decide +kernel) (by decide) fun v_61 f_62 => ?_
    refine go_iload_n (n := 2) (by decide +kernel) l2 f2 ?_
    refine go_iconst (n := 0) (z := 0) (by decide +kernel) (by decide) fun v_63 f_64 => ?_
    obtain ⟨x_66, m_67, hc_65, h⟩ := bd_s h
    refine go_callV (x := 204) (mi := 152) (n := 4) (ci := 12) (as := [v1, v_61, v2, v_63]) (rest := []) (by decide +kernel) (by decide +kernel) rfl rfl (q_sum8 _ (Nat.le_of_ble_eq_true rfl)) R_10 f0 (fx_k (c := 12) R_10 (by decide +kernel)) (om_X11_arrive (Nat.le_trans (by decide) hd) R_10 f0 f1 f_62 f2 f_64 hc_65) (fun _ S_70 q_73 => ?_) (fun _ _ qq => kr_x qq)
    refine kr_v q_73 fun R_71 E_72 => ?_
    have E_76 := E_72
    refine go_goto (o := 27) (t := 47) (by decide +kernel) (by decide +kernel) ?_
    cases h
    exact go_vret (by decide +kernel) rfl (hQ E_76 _ _ R_71 q_out_n)
end DF15
