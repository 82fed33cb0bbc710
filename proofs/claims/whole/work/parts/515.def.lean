/-! Methods as functions (written by wip/whole/dec.py), 15: X11_givenTo, X11_countGiven, X11_poll, X11_isStale, X11_countReplay, X11_putNews, X11_makeActivity. -/
section DF15
noncomputable def fm_X11_givenTo (p1 : Int) (m0 : MM) : Option Int := if p1 < 0 then
some 0
else
if p1 < 3 then
gd (0 ≤ p1 ∧ p1 < 3) <| lx (m0 12 p1) fun x_20 =>
some x_20
else
some 0
set_option maxHeartbeats 4000000 in
theorem om_X11_givenTo {xs : List Int32} {d : Nat} {S : QS} {m0 : MM} {p1 : Int} {v0 : Value} {v1 : Value} {rz : Int}
  (hd : 1 ≤ d) (R : Rp S m0) (f0 : q_is 2 v0 4) (f1 : q_is 0 v1 p1)
  (h : fm_X11_givenTo p1 m0 = some rz) : Mt xs d 161 [v0, v1] S (Cr 0 m0 m0 rz) := by
  obtain ⟨d, rfl⟩ : ∃ e, d = e + 1 := ⟨d - 1, by omega⟩
  have hd : 0 ≤ d := Nat.le_of_succ_le_succ hd
  refine Mt.of (M := qM_X11_givenTo) rfl (by rw [sl_1 (q_is_cat f0 (Or.inr rfl)), sl_1 (q_is_cat f1 (Or.inl rfl)), sl_0]; decide) ?_
  rw [la_1 (q_is_cat f0 (Or.inr rfl)), la_1 (q_is_cat f1 (Or.inl rfl)), la_0]
  obtain ⟨L, hL⟩ : ∃ L : QL, L = [(0, v0), (0 + 1, v1)] := ⟨_, rfl⟩
  rw [← hL]
  have l0 : q_lo L 0 = some v0 := by rw [hL]; rfl
  have l1 : q_lo L 1 = some v1 := by rw [hL]; rfl
  have hQ : ∀ o S1, Rp S1 m0 → q_out 0 o rz → (Cr 0 m0 m0 rz) o S1 := fun o S1 a b => ⟨a, Ext.rf _, b⟩
  unfold fm_X11_givenTo at h
  refine go_iload_n (n := 1) (by decide +kernel) l1 f1 ?_
  refine go_if (c := .lt) (o := 21) (t := 22) (P := p1 < 0) (by decide +kernel) (by decide +kernel) f1 (Iff.rfl) (fun hp_1 => ?_) (fun hp_1 => ?_)
  · have h := it_t hp_1 h
    refine go_iconst (n := 0) (z := 0) (by decide +kernel) (by decide) fun v_2 f_3 => ?_
    cases h
    exact go_iret (by decide +kernel) rfl (Or.inl rfl) f_3 (hQ _ _ R (q_out_v (by decide) f_3))
  · have h := it_f hp_1 h
    refine go_iload_n (n := 1) (by decide +kernel) l1 f1 ?_
    refine go_aload_n (n := 0) (by decide +kernel) l0 f0 ?_
    refine go_getf (x := 41) (ci := 12) (kf := 7) (fin := 1) (t := 2) (by decide +kernel) (by decide +kernel) (by decide +kernel) R f0 (fx_k (c := 12) R (by decide +kernel)) fun v_4 f_5 => ?_
    have f_6 := q_is_eq (b := 12) f_5 (fx_v R (by decide +kernel)).symm
    refine go_alen (by decide +kernel) R f_6 (okl_of (fx_k (c := 100) R (by decide +kernel)) (by decide)) fun v_7 f_8 => ?_
    have f_9 := q_is_eq (b := 3) f_8 (by rw [fx_l R (ln := 3) (by decide +kernel)]; decide)
    refine go_icmp (c := .ge) (o := 12) (t := 22) (P := ¬ (p1 < 3)) (by decide +kernel) (by decide +kernel) f1 f_9 (Int.not_lt.symm) (fun hp_10 => ?_) (fun hp_10 => ?_)
    · have h := it_f hp_10 h
      refine go_iconst (n := 0) (z := 0) (by decide +kernel) (by decide) fun v_11 f_12 => ?_
      cases h
      exact go_iret (by decide +kernel) rfl (Or.inl rfl) f_12 (hQ _ _ R (q_out_v (by decide) f_12))
    · have h := it_n hp_10 h
      refine go_aload_n (n := 0) (by decide +kernel) l0 f0 ?_
      refine go_getf (x := 41) (ci := 12) (kf := 7) (fin := 1) (t := 2) (by decide +kernel) (by decide +kernel) (by decide +kernel) R f0 (fx_k (c := 12) R (by decide +kernel)) fun v_13 f_14 => ?_
      have f_15 := q_is_eq (b := 12) f_14 (fx_v R (by decide +kernel)).symm
      refine go_iload_n (n := 1) (by decide +kernel) l1 f1 ?_
      obtain ⟨g_18, h⟩ := gd_s h
      obtain ⟨x_20, e_21, h⟩ := lx_s h
      refine go_iald (kd := 100) (by decide +kernel) rfl R f_15 f1 (fx_k (c := 100) R (by decide +kernel)) (fx_x (a := 12) (ln := 3) R (by decide +kernel) g_18) fun v_16 f_17 => ?_
      have f_19 := q_is_eq f_17 e_21
      refine go_goto (o := 4) (t := 23) (by decide +kernel) (by decide +kernel) ?_
      cases h
      exact go_iret (by decide +kernel) rfl (Or.inl rfl) f_19 (hQ _ _ R (q_out_v (by decide) f_19))
noncomputable def fm_X11_countGiven (p1 : Int) (m0 : MM) : Option (Int × MM) := if p1 < 0 then
some (0, m0)
else
if p1 < 3 then
if p1 < 3 then
gd (0 ≤ p1 ∧ p1 < 3) <| lx (m0 12 p1) fun x_23 =>
up m0 12 p1 (w32 (x_23 + 1)) fun m_29 =>
lx (m_29 13 p1) fun x_41 =>
up m_29 13 p1 (w32 (x_41 + 1)) fun m_47 =>
some (0, m_47)
else
some (0, m0)
else
some (0, m0)
set_option maxHeartbeats 4000000 in
theorem om_X11_countGiven {xs : List Int32} {d : Nat} {S : QS} {m0 : MM} {p1 : Int} {v0 : Value} {v1 : Value} {rz : Int} {rm : MM}
  (hd : 1 ≤ d) (R : Rp S m0) (f0 : q_is 2 v0 4) (f1 : q_is 0 v1 p1)
  (h : fm_X11_countGiven p1 m0 = some (rz, rm)) : Mt xs d 162 [v0, v1] S (Cr 9 m0 rm rz) := by
  obtain ⟨d, rfl⟩ : ∃ e, d = e + 1 := ⟨d - 1, by omega⟩
  have hd : 0 ≤ d := Nat.le_of_succ_le_succ hd
  refine Mt.of (M := qM_X11_countGiven) rfl (by rw [sl_1 (q_is_cat f0 (Or.inr rfl)), sl_1 (q_is_cat f1 (Or.inl rfl)), sl_0]; decide) ?_
  rw [la_1 (q_is_cat f0 (Or.inr rfl)), la_1 (q_is_cat f1 (Or.inl rfl)), la_0]
  obtain ⟨L, hL⟩ : ∃ L : QL, L = [(0, v0), (0 + 1, v1)] := ⟨_, rfl⟩
  rw [← hL]
  have l0 : q_lo L 0 = some v0 := by rw [hL]; rfl
  have l1 : q_lo L 1 = some v1 := by rw [hL]; rfl
  have hQ : Ext m0 rm → ∀ o S1, Rp S1 rm → q_out 9 o rz → (Cr 9 m0 rm rz) o S1 := fun a o S1 b e => ⟨b, a, e⟩
  unfold fm_X11_countGiven at h
  refine go_iload_n (n := 1) (by decide +kernel) l1 f1 ?_
  refine go_if (c := .lt) (o := 41) (t := 42) (P := p1 < 0) (by decide +kernel) (by decide +kernel) f1 (Iff.rfl) (fun hp_1 => ?_) (fun hp_1 => ?_)
  · have h := it_t hp_1 h
    cases h
    exact go_vret (by decide +kernel) rfl (hQ (Ext.rf _) _ _ R q_out_n)
  · have h := it_f hp_1 h
    refine go_iload_n (n := 1) (by decide +kernel) l1 f1 ?_
    refine go_aload_n (n := 0) (by decide +kernel) l0 f0 ?_
    refine go_getf (x := 41) (ci := 12) (kf := 7) (fin := 1) (t := 2) (by decide +kernel) (by decide +kernel) (by decide +kernel) R f0 (fx_k (c := 12) R (by decide +kernel)) fun v_2 f_3 => ?_
    have f_4 := q_is_eq (b := 12) f_3 (fx_v R (by decide +kernel)).symm
    refine go_alen (by decide +kernel) R f_4 (okl_of (fx_k (c := 100) R (by decide +kernel)) (by decide)) fun v_5 f_6 => ?_
    have f_7 := q_is_eq (b := 3) f_6 (by rw [fx_l R (ln := 3) (by decide +kernel)]; decide)
    refine go_icmp (c := .ge) (o := 32) (t := 42) (P := ¬ (p1 < 3)) (by decide +kernel) (by decide +kernel) f1 f_7 (Int.not_lt.symm) (fun hp_8 => ?_) (fun hp_8 => ?_)
    · have h := it_f hp_8 h
      cases h
      exact go_vret (by decide +kernel) rfl (hQ (Ext.rf _) _ _ R q_out_n)
    · have h := it_n hp_8 h
      refine go_iload_n (n := 1) (by decide +kernel) l1 f1 ?_
      refine go_aload_n (n := 0) (by decide +kernel) l0 f0 ?_
      refine go_getf (x := 44) (ci := 12) (kf := 8) (fin := 1) (t := 2) (by decide +kernel) (by decide +kernel) (by decide +kernel) R f0 (fx_k (c := 12) R (by decide +kernel)) fun v_9 f_10 => ?_
      have f_11 := q_is_eq (b := 13) f_10 (fx_v R (by decide +kernel)).symm
      refine go_alen (by decide +kernel) R f_11 (okl_of (fx_k (c := 100) R (by decide +kernel)) (by decide)) fun v_12 f_13 => ?_
      have f_14 := q_is_eq (b := 3) f_13 (by rw [fx_l R (ln := 3) (by decide +kernel)]; decide)
      refine go_icmp (c := .ge) (o := 23) (t := 42) (P := ¬ (p1 < 3)) (by decide +kernel) (by decide +kernel) f1 f_14 (Int.not_lt.symm) (fun hp_15 => ?_) (fun hp_15 => ?_)
      · have h := it_f hp_15 h
        cases h
        exact go_vret (by decide +kernel) rfl (hQ (Ext.rf _) _ _ R q_out_n)
      · have h := it_n hp_15 h
        refine go_aload_n (n := 0) (by decide +kernel) l0 f0 ?_
        refine go_getf (x := 41) (ci := 12) (kf := 7) (fin := 1) (t := 2) (by decide +kernel) (by decide +kernel) (by decide +kernel) R f0 (fx_k (c := 12) R (by decide +kernel)) fun v_16 f_17 => ?_
        have f_18 := q_is_eq (b := 12) f_17 (fx_v R (by decide +kernel)).symm
        refine go_iload_n (n := 1) (by decide +kernel) l1 f1 ?_
        refine go_dup2 (by decide +kernel) f1 (Or.inl rfl) f_18 (Or.inr rfl) ?_
        obtain ⟨g_21, h⟩ := gd_s h
        obtain ⟨x_23, e_24, h⟩ := lx_s h
        refine go_iald (kd := 100) (by decide +kernel) rfl R f_18 f1 (fx_k (c := 100) R (by decide +kernel)) (fx_x (a := 12) (ln := 3) R (by decide +kernel) g_21) fun v_19 f_20 => ?_
        have f_22 := q_is_eq f_20 e_24
        refine go_iconst (n := 1) (z := 1) (by decide +kernel) (by decide) fun v_25 f_26 => ?_
        refine go_iadd (by decide +kernel) f_22 f_26 fun v_27 f_28 => ?_
        obtain ⟨m_29, e_30, h⟩ := up_s h
        refine go_iast (kd := 100) (by decide +kernel) rfl R f_18 f1 f_28 (fx_k (c := 100) R (by decide +kernel)) (fx_x (a := 12) (ln := 3) R (by decide +kernel) g_21) e_30 (fx_a R.2 (fx_k (c := 100) R (by decide +kernel)) (And.left (fx_x (a := 12) (ln := 3) R (by decide +kernel) g_21)) (by decide +kernel)) fun S_31 R_32 E_33 => ?_
        have E_34 := E_33
        refine go_aload_n (n := 0) (by decide +kernel) l0 f0 ?_
        refine go_getf (x := 44) (ci := 12) (kf := 8) (fin := 1) (t := 2) (by decide +kernel) (by decide +kernel) (by decide +kernel) R_32 f0 (fx_k (c := 12) R_32 (by decide +kernel)) fun v_35 f_36 => ?_
        have f_37 := q_is_eq (b := 13) f_36 (fx_v R_32 (by decide +kernel)).symm
        refine go_iload_n (n := 1) (by decide +kernel) l1 f1 ?_
        refine go_dup2 (by decide +kernel) f1 (Or.inl rfl) f_37 (Or.inr rfl) ?_
        obtain ⟨x_41, e_42, h⟩ := lx_s h
        refine go_iald (kd := 100) (by decide +kernel) rfl R_32 f_37 f1 (fx_k (c := 100) R_32 (by decide +kernel)) (fx_x (a := 13) (ln := 3) R_32 (by decide +kernel) g_21) fun v_38 f_39 => ?_
        have f_40 := q_is_eq f_39 e_42
        refine go_iconst (n := 1) (z := 1) (by decide +kernel) (by decide) fun v_43 f_44 => ?_
        refine go_iadd (by decide +kernel) f_40 f_44 fun v_45 f_46 => ?_
        obtain ⟨m_47, e_48, h⟩ := up_s h
        refine go_iast (kd := 100) (by decide +kernel) rfl R_32 f_37 f1 f_46 (fx_k (c := 100) R_32 (by decide +kernel)) (fx_x (a := 13) (ln := 3) R_32 (by decide +kernel) g_21) e_48 (fx_a R_32.2 (fx_k (c := 100) R_32 (by decide +kernel)) (And.left (fx_x (a := 13) (ln := 3) R_32 (by decide +kernel) g_21)) (by decide +kernel)) fun S_49 R_50 E_51 => ?_
        have E_52 := Ext.tr E_34 E_51
        cases h
        exact go_vret (by decide +kernel) rfl (hQ E_52 _ _ R_50 q_out_n)
noncomputable def fl_X11_poll_9 (y1 : Int) (m : MM) (k69 : Int → Option ((Int ⊕ Nat) × MM)) : Nat → Int → Int → Option ((Int ⊕ Nat) × MM)
  | 0, _, _ => none
  | n + 1, y2, y3 => if y3 < 3 then
bp (fm_X11_firstRunWithWork y3 m) fun x_32 =>
if x_32 = 0 then
lx (w32 (y3 + 1)) fun x_53 =>
fl_X11_poll_9 y1 m k69 n y2 x_53
else
gd (0 ≤ y3 ∧ y3 < 3) <| lx (m 13 y3) fun x_66 =>
lx (m 4 13) fun x_71 =>
if x_66 < x_71 then
if y2 = 0 then
lx (w32 (y3 + 1)) fun x_97 =>
fl_X11_poll_9 y1 m k69 n x_32 x_97
else
lx (m 12 y3) fun x_109 =>
gd (okc m y2 7) <| lx (m y2 2) fun x_115 =>
bp (fm_X11_givenTo x_115 m) fun x_118 =>
if x_109 < x_118 then
lx (w32 (y3 + 1)) fun x_149 =>
fl_X11_poll_9 y1 m k69 n x_32 x_149
else
lx (w32 (y3 + 1)) fun x_132 =>
fl_X11_poll_9 y1 m k69 n y2 x_132
else
lx (w32 (y3 + 1)) fun x_79 =>
fl_X11_poll_9 y1 m k69 n y2 x_79
else
k69 y2
set_option maxHeartbeats 4000000 in
theorem ol_X11_poll_9 {xs : List Int32} {d : Nat} {Q : QO → QS → Prop} {m : MM} {y1 : Int} {k69 : Int → Option ((Int ⊕ Nat) × MM)} {rr : Int ⊕ Nat} {rm : MM}
  (hd : 8 ≤ d)
  (hk69 : ∀ {z2 : Int} {Sq : QS} {Lq : QL} {u0 : Value} {u1 : Value} {u2 : Value}, k69 z2 = some (rr, rm) → Rp Sq m → q_lo Lq 0 = some u0 → q_is 2 u0 4 → q_lo Lq 1 = some u1 → q_is 0 u1 y1 → q_lo Lq 2 = some u2 → q_is 2 u2 z2 → Go xs d qM_X11_poll 69 Lq [] Sq Q)
  (hQ : Ext m rm → ∀ o S1, Rp S1 rm → q_oux 0 o rr → Q o S1) :
  ∀ (n : Nat) {S : QS} {L : QL} {y2 y3 : Int} {v0 : Value} {v1 : Value} {v2 : Value} {v3 : Value} , fl_X11_poll_9 y1 m k69 n y2 y3 = some (rr, rm) → Rp S m → q_lo L 0 = some v0 → q_is 2 v0 4 → q_lo L 1 = some v1 → q_is 0 v1 y1 → q_lo L 2 = some v2 → q_is 2 v2 y2 → q_lo L 3 = some v3 → q_is 0 v3 y3 → Go xs d qM_X11_poll 9 L [] S Q := by
  intro n
  induction n with
  | zero => intro S L y2 y3 v0 v1 v2 v3; intro h R l0 f0 l1 f1 l2 f2 l3 f3; cases h
  | succ n ih0 =>
    intro S L y2 y3 v0 v1 v2 v3; intro h R l0 f0 l1 f1 l2 f2 l3 f3
    have ih : ∀ {z2 : Int} {z3 : Int} {Sq : QS} {Lq : QL} {u0 : Value} {u1 : Value} {u2 : Value} {u3 : Value}, fl_X11_poll_9 y1 m k69 n z2 z3 = some (rr, rm) → Rp Sq m → q_lo Lq 0 = some u0 → q_is 2 u0 4 → q_lo Lq 1 = some u1 → q_is 0 u1 y1 → q_lo Lq 2 = some u2 → q_is 2 u2 z2 → q_lo Lq 3 = some u3 → q_is 0 u3 z3 → Go xs d qM_X11_poll 9 Lq [] Sq Q := by intros; exact ih0 ‹_› ‹_› ‹_› ‹_› ‹_› ‹_› ‹_› ‹_› ‹_› ‹_›
    unfold fl_X11_poll_9 at h
    refine go_iload_n (n := 3) (by decide +kernel) l3 f3 ?_
    refine go_iconst (n := 3) (z := 3) (by decide +kernel) (by decide) fun v_28 f_29 => ?_
    refine go_icmp (c := .ge) (o := 58) (t := 69) (P := ¬ (y3 < 3)) (by decide +kernel) (by decide +kernel) f3 f_29 (Int.not_lt.symm) (fun hp_30 => ?_) (fun hp_30 => ?_)
    · have h := it_f hp_30 h
      exact hk69 h R l0 f0 l1 f1 l2 f2
    · have h := it_n hp_30 h
      refine go_aload_n (n := 0) (by decide +kernel) l0 f0 ?_
      refine go_iload_n (n := 3) (by decide +kernel) l3 f3 ?_
      obtain ⟨x_32, hc_31, h⟩ := bp_s h
      refine go_callV (x := 280) (mi := 159) (n := 1) (ci := 12) (as := [v3]) (rest := []) (by decide +kernel) (by decide +kernel) rfl rfl (q_sum8 _ (Nat.le_of_ble_eq_true rfl)) R f0 (fx_k (c := 12) R (by decide +kernel)) (om_X11_firstRunWithWork (Nat.le_trans (by decide) hd) R f0 f3 hc_31) (fun _ S_36 q_39 => ?_) (fun _ _ qq => kr_x qq)
      refine kr_z (by decide) q_39 fun v_34 f_35 R_37 E_38 => ?_
      refine go_astore (n := 4) (by decide +kernel) (by decide +kernel) f_35 fun L_40 l_41 kp_42 => ?_
      have l_43 := kp_42 0 _ l0 (by decide) (Or.inl (by decide))
      have l_44 := kp_42 1 _ l1 (by decide) (Or.inl (by decide))
      have l_45 := kp_42 2 _ l2 (by decide) (Or.inl (by decide))
      have l_46 := kp_42 3 _ l3 (by decide) (Or.inr (q_is_cat f3 (Or.inl rfl)))
      refine go_aload (n := 4) (by decide +kernel) l_41 f_35 ?_
      refine go_ifnull (o := 40) (t := 63) (by decide +kernel) (by decide +kernel) f_35 (fun hp_47 => ?_) (fun hp_47 => ?_)
      · have h := it_t hp_47 h
        refine go_iinc (n := 3) (c := 1) (c' := 1) (by decide +kernel) (by decide +kernel) l_46 f3 (by decide) fun L_48 v_49 f_50 l_51 kp_52 => ?_
        obtain ⟨x_53, e_54, h⟩ := lx_s h
        have f_55 := q_is_eq f_50 e_54
        have l_56 := kp_52 0 _ l_43 (by decide) (Or.inl (by decide))
        have l_57 := kp_52 1 _ l_44 (by decide) (Or.inl (by decide))
        have l_58 := kp_52 2 _ l_45 (by decide) (Or.inr (q_is_cat f2 (Or.inr rfl)))
        refine go_goto (o := (-57)) (t := 9) (by decide +kernel) (by decide +kernel) ?_
        exact ih h R_37 l_56 f0 l_57 f1 l_58 f2 l_51 f_55
      · have h := it_f hp_47 h
        refine go_aload_n (n := 0) (by decide +kernel) l_43 f0 ?_
        refine go_getf (x := 44) (ci := 12) (kf := 8) (fin := 1) (t := 2) (by decide +kernel) (by decide +kernel) (by decide +kernel) R_37 f0 (fx_k (c := 12) R_37 (by decide +kernel)) fun v_59 f_60 => ?_
        have f_61 := q_is_eq (b := 13) f_60 (fx_v R_37 (by decide +kernel)).symm
        refine go_iload_n (n := 3) (by decide +kernel) l_46 f3 ?_
        obtain ⟨g_64, h⟩ := gd_s h
        obtain ⟨x_66, e_67, h⟩ := lx_s h
        refine go_iald (kd := 100) (by decide +kernel) rfl R_37 f_61 f3 (fx_k (c := 100) R_37 (by decide +kernel)) (fx_x (a := 13) (ln := 3) R_37 (by decide +kernel) g_64) fun v_62 f_63 => ?_
        have f_65 := q_is_eq f_63 e_67
        refine go_aload_n (n := 0) (by decide +kernel) l_43 f0 ?_
        obtain ⟨x_71, e_72, h⟩ := lx_s h
        refine go_getf (x := 68) (ci := 12) (kf := 13) (fin := 0) (t := 0) (by decide +kernel) (by decide +kernel) (by decide +kernel) R_37 f0 (fx_k (c := 12) R_37 (by decide +kernel)) fun v_68 f_69 => ?_
        have f_70 := q_is_eq f_69 e_72
        refine go_icmp (c := .ge) (o := 27) (t := 63) (P := ¬ (x_66 < x_71)) (by decide +kernel) (by decide +kernel) f_65 f_70 (Int.not_lt.symm) (fun hp_73 => ?_) (fun hp_73 => ?_)
        · have h := it_f hp_73 h
          refine go_iinc (n := 3) (c := 1) (c' := 1) (by decide +kernel) (by decide +kernel) l_46 f3 (by decide) fun L_74 v_75 f_76 l_77 kp_78 => ?_
          obtain ⟨x_79, e_80, h⟩ := lx_s h
          have f_81 := q_is_eq f_76 e_80
          have l_82 := kp_78 0 _ l_43 (by decide) (Or.inl (by decide))
          have l_83 := kp_78 1 _ l_44 (by decide) (Or.inl (by decide))
          have l_84 := kp_78 2 _ l_45 (by decide) (Or.inr (q_is_cat f2 (Or.inr rfl)))
          refine go_goto (o := (-57)) (t := 9) (by decide +kernel) (by decide +kernel) ?_
          exact ih h R_37 l_82 f0 l_83 f1 l_84 f2 l_77 f_81
        · have h := it_n hp_73 h
          refine go_aload_n (n := 2) (by decide +kernel) l_45 f2 ?_
          refine go_ifnull (o := 20) (t := 60) (by decide +kernel) (by decide +kernel) f2 (fun hp_85 => ?_) (fun hp_85 => ?_)
          · have h := it_t hp_85 h
            refine go_aload (n := 4) (by decide +kernel) l_41 f_35 ?_
            refine go_astore_n (n := 2) (by decide +kernel) (by decide +kernel) f_35 fun L_86 l_87 kp_88 => ?_
            have l_89 := kp_88 0 _ l_43 (by decide) (Or.inl (by decide))
            have l_90 := kp_88 1 _ l_44 (by decide) (Or.inr (q_is_cat f1 (Or.inl rfl)))
            have l_91 := kp_88 3 _ l_46 (by decide) (Or.inl (by decide))
            refine go_iinc (n := 3) (c := 1) (c' := 1) (by decide +kernel) (by decide +kernel) l_91 f3 (by decide) fun L_92 v_93 f_94 l_95 kp_96 => ?_
            obtain ⟨x_97, e_98, h⟩ := lx_s h
            have f_99 := q_is_eq f_94 e_98
            have l_100 := kp_96 0 _ l_89 (by decide) (Or.inl (by decide))
            have l_101 := kp_96 1 _ l_90 (by decide) (Or.inl (by decide))
            have l_102 := kp_96 2 _ l_87 (by decide) (Or.inr (q_is_cat f_35 (Or.inr rfl)))
            refine go_goto (o := (-57)) (t := 9) (by decide +kernel) (by decide +kernel) ?_
            exact ih h R_37 l_100 f0 l_101 f1 l_102 f_35 l_95 f_99
          · have h := it_f hp_85 h
            refine go_aload_n (n := 0) (by decide +kernel) l_43 f0 ?_
            refine go_getf (x := 41) (ci := 12) (kf := 7) (fin := 1) (t := 2) (by decide +kernel) (by decide +kernel) (by decide +kernel) R_37 f0 (fx_k (c := 12) R_37 (by decide +kernel)) fun v_103 f_104 => ?_
            have f_105 := q_is_eq (b := 12) f_104 (fx_v R_37 (by decide +kernel)).symm
            refine go_iload_n (n := 3) (by decide +kernel) l_46 f3 ?_
            obtain ⟨x_109, e_110, h⟩ := lx_s h
            refine go_iald (kd := 100) (by decide +kernel) rfl R_37 f_105 f3 (fx_k (c := 100) R_37 (by decide +kernel)) (fx_x (a := 12) (ln := 3) R_37 (by decide +kernel) g_64) fun v_106 f_107 => ?_
            have f_108 := q_is_eq f_107 e_110
            refine go_aload_n (n := 0) (by decide +kernel) l_43 f0 ?_
            refine go_aload_n (n := 2) (by decide +kernel) l_45 f2 ?_
            obtain ⟨g_113, h⟩ := gd_s h
            obtain ⟨x_115, e_116, h⟩ := lx_s h
            refine go_getf (x := 283) (ci := 7) (kf := 2) (fin := 2) (t := 0) (by decide +kernel) (by decide +kernel) (by decide +kernel) R_37 f2 g_113 fun v_111 f_112 => ?_
            have f_114 := q_is_eq f_112 e_116
            obtain ⟨x_118, hc_117, h⟩ := bp_s h
            refine go_callV (x := 286) (mi := 161) (n := 1) (ci := 12) (as := [v_111]) (rest := [v_106]) (by decide +kernel) (by decide +kernel) rfl rfl (q_sum8 _ (Nat.le_of_ble_eq_true rfl)) R_37 f0 (fx_k (c := 12) R_37 (by decide +kernel)) (om_X11_givenTo (Nat.le_trans (by decide) hd) R_37 f0 f_114 hc_117) (fun _ S_122 q_125 => ?_) (fun _ _ qq => kr_x qq)
            refine kr_z (by decide) q_125 fun v_120 f_121 R_123 E_124 => ?_
            refine go_icmp (c := .ge) (o := 6) (t := 63) (P := ¬ (x_109 < x_118)) (by decide +kernel) (by decide +kernel) f_108 f_121 (Int.not_lt.symm) (fun hp_126 => ?_) (fun hp_126 => ?_)
            · have h := it_f hp_126 h
              refine go_iinc (n := 3) (c := 1) (c' := 1) (by decide +kernel) (by decide +kernel) l_46 f3 (by decide) fun L_127 v_128 f_129 l_130 kp_131 => ?_
              obtain ⟨x_132, e_133, h⟩ := lx_s h
              have f_134 := q_is_eq f_129 e_133
              have l_135 := kp_131 0 _ l_43 (by decide) (Or.inl (by decide))
              have l_136 := kp_131 1 _ l_44 (by decide) (Or.inl (by decide))
              have l_137 := kp_131 2 _ l_45 (by decide) (Or.inr (q_is_cat f2 (Or.inr rfl)))
              refine go_goto (o := (-57)) (t := 9) (by decide +kernel) (by decide +kernel) ?_
              exact ih h R_123 l_135 f0 l_136 f1 l_137 f2 l_130 f_134
            · have h := it_n hp_126 h
              refine go_aload (n := 4) (by decide +kernel) l_41 f_35 ?_
              refine go_astore_n (n := 2) (by decide +kernel) (by decide +kernel) f_35 fun L_138 l_139 kp_140 => ?_
              have l_141 := kp_140 0 _ l_43 (by decide) (Or.inl (by decide))
              have l_142 := kp_140 1 _ l_44 (by decide) (Or.inr (q_is_cat f1 (Or.inl rfl)))
              have l_143 := kp_140 3 _ l_46 (by decide) (Or.inl (by decide))
              refine go_iinc (n := 3) (c := 1) (c' := 1) (by decide +kernel) (by decide +kernel) l_143 f3 (by decide) fun L_144 v_145 f_146 l_147 kp_148 => ?_
              obtain ⟨x_149, e_150, h⟩ := lx_s h
              have f_151 := q_is_eq f_146 e_150
              have l_152 := kp_148 0 _ l_141 (by decide) (Or.inl (by decide))
              have l_153 := kp_148 1 _ l_142 (by decide) (Or.inl (by decide))
              have l_154 := kp_148 2 _ l_139 (by decide) (Or.inr (q_is_cat f_35 (Or.inr rfl)))
              refine go_goto (o := (-57)) (t := 9) (by decide +kernel) (by decide +kernel) ?_
              exact ih h R_123 l_152 f0 l_153 f1 l_154 f_35 l_147 f_151
noncomputable def fm_X11_poll (p1 : Int) (m0 : MM) : Option ((Int ⊕ Nat) × MM) := bx (fm_X11_checkWorker p1 m0) (fun q_10 m_3 => some (.inr q_10, m_3)) fun x_2 m_3 =>
fl_X11_poll_9 p1 m_3 (fun x_155 =>
if x_155 = 0 then
some (.inl (-1), m_3)
else
gd (okc m_3 x_155 7) <| lx (m_3 x_155 2) fun x_173 =>
bd (fm_X11_countGiven x_173 m_3) fun x_176 m_177 =>
nw m_177 10 6 fun x_185 m_186 =>
lx (m_186 4 14) fun x_199 =>
bd (fm_X9_init x_185 p1 x_155 x_199 m_186) fun x_202 m_203 =>
bp (fm_Jx4a65c_size_8abf5 9 m_203) fun x_220 =>
up m_203 x_155 10 x_220 fun m_229 =>
bd (fm_Jx4a65c_add_9ea2d 9 x_185 m_229) fun x_239 m_240 =>
lx (m_240 x_155 10) fun x_254 =>
lx (m_240 x_155 0) fun x_261 =>
some (.inl (w32 ((w32 (100 * x_254)) + x_261)), m_240)) BIG 0 0
set_option maxHeartbeats 4000000 in
theorem om_X11_poll {xs : List Int32} {d : Nat} {S : QS} {m0 : MM} {p1 : Int} {v0 : Value} {v1 : Value} {rr : Int ⊕ Nat} {rm : MM}
  (hd : 9 ≤ d) (R : Rp S m0) (f0 : q_is 2 v0 4) (f1 : q_is 0 v1 p1)
  (h : fm_X11_poll p1 m0 = some (rr, rm)) : Mt xs d 115 [v0, v1] S (Cx 0 m0 rm rr) := by
  obtain ⟨d, rfl⟩ : ∃ e, d = e + 1 := ⟨d - 1, by omega⟩
  have hd : 8 ≤ d := Nat.le_of_succ_le_succ hd
  refine Mt.of (M := qM_X11_poll) rfl (by rw [sl_1 (q_is_cat f0 (Or.inr rfl)), sl_1 (q_is_cat f1 (Or.inl rfl)), sl_0]; decide) ?_
  rw [la_1 (q_is_cat f0 (Or.inr rfl)), la_1 (q_is_cat f1 (Or.inl rfl)), la_0]
  obtain ⟨L, hL⟩ : ∃ L : QL, L = [(0, v0), (0 + 1, v1)] := ⟨_, rfl⟩
  rw [← hL]
  have l0 : q_lo L 0 = some v0 := by rw [hL]; rfl
  have l1 : q_lo L 1 = some v1 := by rw [hL]; rfl
  have hQ : Ext m0 rm → ∀ o S1, Rp S1 rm → q_oux 0 o rr → (Cx 0 m0 rm rr) o S1 := fun a o S1 b e => ⟨b, a, e⟩
  unfold fm_X11_poll at h
  refine go_aload_n (n := 0) (by decide +kernel) l0 f0 ?_
  refine go_iload_n (n := 1) (by decide +kernel) l1 f1 ?_
  obtain ⟨rr5, m_3, hc_1, h⟩ := bx_s h
  rcases h with ⟨q_10, rfl, h⟩ | ⟨x_2, rfl, h⟩
  · cases h
    exact go_callV (x := 277) (mi := 144) (n := 1) (ci := 12) (as := [v1]) (rest := []) (by decide +kernel) (by decide +kernel) rfl rfl (q_sum8 _ (Nat.le_of_ble_eq_true rfl)) R f0 (fx_k (c := 12) R (by decide +kernel)) (om_X11_checkWorker (Nat.le_trans (by decide) hd) R f0 f1 hc_1) (fun _ _ qq => kx_lx qq) (fun _ _ qq => by
      obtain ⟨rfl, Rq, Eq⟩ := kx_e qq
      exact Or.inl ⟨rfl, hQ Eq _ _ Rq rfl⟩)
  refine go_callV (x := 277) (mi := 144) (n := 1) (ci := 12) (as := [v1]) (rest := []) (by decide +kernel) (by decide +kernel) rfl rfl (q_sum8 _ (Nat.le_of_ble_eq_true rfl)) R f0 (fx_k (c := 12) R (by decide +kernel)) (om_X11_checkWorker (Nat.le_trans (by decide) hd) R f0 f1 hc_1) (fun _ S_6 q_9 => ?_) (fun _ _ qq => kr_x (kx_l qq))
  have q_9 := kx_l q_9
  refine kr_v q_9 fun R_7 E_8 => ?_
  have E_12 := E_8
  refine go_null (by decide +kernel) fun v_13 f_14 => ?_
  refine go_astore_n (n := 2) (by decide +kernel) (by decide +kernel) f_14 fun L_15 l_16 kp_17 => ?_
  have l_18 := kp_17 0 _ l0 (by decide) (Or.inl (by decide))
  have l_19 := kp_17 1 _ l1 (by decide) (Or.inr (q_is_cat f1 (Or.inl rfl)))
  refine go_iconst (n := 0) (z := 0) (by decide +kernel) (by decide) fun v_20 f_21 => ?_
  refine go_istore_n (n := 3) (by decide +kernel) (by decide +kernel) f_21 fun L_22 l_23 kp_24 => ?_
  have l_25 := kp_24 0 _ l_18 (by decide) (Or.inl (by decide))
  have l_26 := kp_24 1 _ l_19 (by decide) (Or.inl (by decide))
  have l_27 := kp_24 2 _ l_16 (by decide) (Or.inr (q_is_cat f_14 (Or.inr rfl)))
  refine ol_X11_poll_9 hd  ?_ (fun b => hQ (Ext.tr E_12 b)) BIG h R_7 l_25 f0 l_26 f1 l_27 f_14 l_23 f_21
  intro x_155 S_165 L_166 v_156 v_157 v_158
  intro h R_167 l_159 f_162 l_160 f_163 l_161 f_164
  refine go_aload_n (n := 2) (by decide +kernel) l_161 f_164 ?_
  refine go_ifnonnull (o := 5) (t := 75) (by decide +kernel) (by decide +kernel) f_164 (fun hp_168 => ?_) (fun hp_168 => ?_)
  · have h := it_f hp_168 h
    refine go_aload_n (n := 0) (by decide +kernel) l_159 f_162 ?_
    refine go_aload_n (n := 2) (by decide +kernel) l_161 f_164 ?_
    obtain ⟨g_171, h⟩ := gd_s h
    obtain ⟨x_173, e_174, h⟩ := lx_s h
    refine go_getf (x := 283) (ci := 7) (kf := 2) (fin := 2) (t := 0) (by decide +kernel) (by decide +kernel) (by decide +kernel) R_167 f_164 g_171 fun v_169 f_170 => ?_
    have f_172 := q_is_eq f_170 e_174
    obtain ⟨x_176, m_177, hc_175, h⟩ := bd_s h
    refine go_callV (x := 289) (mi := 162) (n := 1) (ci := 12) (as := [v_169]) (rest := []) (by decide +kernel) (by decide +kernel) rfl rfl (q_sum8 _ (Nat.le_of_ble_eq_true rfl)) R_167 f_162 (fx_k (c := 12) R_167 (by decide +kernel)) (om_X11_countGiven (Nat.le_trans (by decide) hd) R_167 f_162 f_172 hc_175) (fun _ S_180 q_183 => ?_) (fun _ _ qq => kr_x qq)
    refine kr_v q_183 fun R_181 E_182 => ?_
    have E_184 := Ext.tr E_12 E_182
    obtain ⟨x_185, m_186, e_187, e_188, h⟩ := nw_s h
    have g_194 := okc_nw (c := 10) R_181 e_187 e_188
    refine go_new (x := 292) (ci := 10) (n := 6) (b := 0) (by decide +kernel) (by decide +kernel) R_181 e_187 e_188 fun v_189 S_191 f_190 R_192 E_193 => ?_
    have E_195 := Ext.tr E_184 E_193
    refine go_dup (by decide +kernel) f_190 (Or.inr rfl) ?_
    refine go_iload_n (n := 1) (by decide +kernel) l_160 f_163 ?_
    refine go_aload_n (n := 2) (by decide +kernel) l_161 f_164 ?_
    refine go_aload_n (n := 0) (by decide +kernel) l_159 f_162 ?_
    obtain ⟨x_199, e_200, h⟩ := lx_s h
    refine go_getf (x := 71) (ci := 12) (kf := 14) (fin := 0) (t := 0) (by decide +kernel) (by decide +kernel) (by decide +kernel) R_192 f_162 (fx_k (c := 12) R_192 (by decide +kernel)) fun v_196 f_197 => ?_
    have f_198 := q_is_eq f_197 e_200
    obtain ⟨x_202, m_203, hc_201, h⟩ := bd_s h
    refine go_callI (x := 294) (mi := 94) (n := 3) (b := 0) (tg := 3) (as := [v_157, v_158, v_196]) (rest := [v_189]) (by decide +kernel) (by decide +kernel) (by decide) rfl rfl (q_sum8 _ (Nat.le_of_ble_eq_true rfl)) f_190 (okc_ne g_194) (om_X9_init (Nat.le_trans (by decide) hd) R_192 g_194 f_190 f_163 f_164 f_198 hc_201) (fun _ S_206 q_209 => ?_) (fun _ _ qq => kr_x qq)
    refine kr_v q_209 fun R_207 E_208 => ?_
    have E_210 := Ext.tr E_195 E_208
    refine go_astore_n (n := 3) (by decide +kernel) (by decide +kernel) f_190 fun L_211 l_212 kp_213 => ?_
    have l_214 := kp_213 0 _ l_159 (by decide) (Or.inl (by decide))
    have l_215 := kp_213 2 _ l_161 (by decide) (Or.inr (q_is_cat f_164 (Or.inr rfl)))
    refine go_aload_n (n := 2) (by decide +kernel) l_215 f_164 ?_
    refine go_aload_n (n := 0) (by decide +kernel) l_214 f_162 ?_
    refine go_getf (x := 31) (ci := 12) (kf := 4) (fin := 1) (t := 2) (by decide +kernel) (by decide +kernel) (by decide +kernel) R_207 f_162 (fx_k (c := 12) R_207 (by decide +kernel)) fun v_216 f_217 => ?_
    have f_218 := q_is_eq (b := 9) f_217 (fx_v R_207 (by decide +kernel)).symm
    obtain ⟨x_220, hc_219, h⟩ := bp_s h
    refine go_callV (x := 127) (mi := 326) (n := 0) (ci := 0) (as := []) (rest := [v_158]) (by decide +kernel) (by decide +kernel) rfl rfl (q_sum8 _ (Nat.le_of_ble_eq_true rfl)) R_207 f_218 (fx_k (c := 0) R_207 (by decide +kernel)) (om_Jx4a65c_size_8abf5 (Nat.le_trans (by decide) hd) R_207 (fx_k (c := 0) R_207 (by decide +kernel)) f_218 hc_219) (fun _ S_224 q_227 => ?_) (fun _ _ qq => kr_x qq)
    refine kr_z (by decide) q_227 fun v_222 f_223 R_225 E_226 => ?_
    have g_228 := Ext.ok (Ext.tr (Ext.tr E_182 E_193) E_208) g_171
    obtain ⟨m_229, e_230, h⟩ := up_s h
    refine go_putf (x := 297) (ci := 7) (kf := 10) (fin := 0) (zt := 0) (by decide +kernel) (by decide +kernel) (by decide) (by decide +kernel) (by decide) (Or.inl rfl) R_225 f_164 f_223 (fun hq => absurd hq (by decide)) g_228 e_230 (fx_f (j := 10) R_225.2 g_228 (by decide +kernel)) fun S_231 R_232 E_233 => ?_
    have E_234 := Ext.tr E_210 E_233
    refine go_aload_n (n := 0) (by decide +kernel) l_214 f_162 ?_
    refine go_getf (x := 31) (ci := 12) (kf := 4) (fin := 1) (t := 2) (by decide +kernel) (by decide +kernel) (by decide +kernel) R_232 f_162 (fx_k (c := 12) R_232 (by decide +kernel)) fun v_235 f_236 => ?_
    have f_237 := q_is_eq (b := 9) f_236 (fx_v R_232 (by decide +kernel)).symm
    refine go_aload_n (n := 3) (by decide +kernel) l_212 f_190 ?_
    obtain ⟨x_239, m_240, hc_238, h⟩ := bd_s h
    refine go_callV (x := 300) (mi := 331) (n := 1) (ci := 0) (as := [v_189]) (rest := []) (by decide +kernel) (by decide +kernel) rfl rfl (q_sum8 _ (Nat.le_of_ble_eq_true rfl)) R_232 f_237 (fx_k (c := 0) R_232 (by decide +kernel)) (om_Jx4a65c_add_9ea2d (Nat.le_trans (by decide) hd) R_232 (fx_k (c := 0) R_232 (by decide +kernel)) f_237 f_190 hc_238) (fun _ S_243 q_246 => ?_) (fun _ _ qq => kr_x qq)
    refine kr_z (by decide) q_246 fun v_241 f_242 R_244 E_245 => ?_
    have E_247 := Ext.tr E_234 E_245
    refine go_pop (by decide +kernel) f_242 (Or.inl rfl) ?_
    refine go_bipush (n := 100) (z := 100) (by decide +kernel) (by decide) fun v_248 f_249 => ?_
    refine go_aload_n (n := 2) (by decide +kernel) l_215 f_164 ?_
    have g_252 := Ext.ok (Ext.tr E_233 E_245) g_228
    obtain ⟨x_254, e_255, h⟩ := lx_s h
    refine go_getf (x := 297) (ci := 7) (kf := 10) (fin := 0) (t := 0) (by decide +kernel) (by decide +kernel) (by decide +kernel) R_244 f_164 g_252 fun v_250 f_251 => ?_
    have f_253 := q_is_eq f_251 e_255
    refine go_imul (by decide +kernel) f_249 f_253 fun v_256 f_257 => ?_
    refine go_aload_n (n := 2) (by decide +kernel) l_215 f_164 ?_
    obtain ⟨x_261, e_262, h⟩ := lx_s h
    refine go_getf (x := 180) (ci := 7) (kf := 0) (fin := 2) (t := 0) (by decide +kernel) (by decide +kernel) (by decide +kernel) R_244 f_164 g_252 fun v_258 f_259 => ?_
    have f_260 := q_is_eq f_259 e_262
    refine go_iadd (by decide +kernel) f_257 f_260 fun v_263 f_264 => ?_
    cases h
    exact go_iret (by decide +kernel) rfl (Or.inl rfl) f_264 (hQ E_247 _ _ R_244 (q_out_v (by decide) f_264))
  · have h := it_n hp_168 h
    refine go_iconst (n := (-1)) (z := (-1)) (by decide +kernel) (by decide) fun v_265 f_266 => ?_
    cases h
    exact go_iret (by decide +kernel) rfl (Or.inl rfl) f_266 (hQ E_12 _ _ R_167 (q_out_v (by decide) f_266))
noncomputable def fm_X11_isStale (p1 : Int) (m0 : MM) : Option Int := gd (okc m0 p1 10) <| lx (m0 p1 1) fun x_5 =>
lx (m0 p1 5) fun x_14 =>
if x_14 = 0 then
gd (okc m0 x_5 7) <| lx (m0 x_5 6) fun x_23 =>
if x_23 = 0 then
bp (fm_X6_mark x_5 m0) fun x_29 =>
lx (m0 p1 4) fun x_40 =>
if x_29 = x_40 then
some 0
else
some 1
else
some 1
else
some 1
set_option maxHeartbeats 4000000 in
theorem om_X11_isStale {xs : List Int32} {d : Nat} {S : QS} {m0 : MM} {p1 : Int} {v0 : Value} {v1 : Value} {rz : Int}
  (hd : 2 ≤ d) (R : Rp S m0) (f0 : q_is 2 v0 4) (f1 : q_is 2 v1 p1)
  (h : fm_X11_isStale p1 m0 = some rz) : Mt xs d 163 [v0, v1] S (Cr 0 m0 m0 rz) := by
  obtain ⟨d, rfl⟩ : ∃ e, d = e + 1 := ⟨d - 1, by omega⟩
  have hd : 1 ≤ d := Nat.le_of_succ_le_succ hd
  refine Mt.of (M := qM_X11_isStale) rfl (by rw [sl_1 (q_is_cat f0 (Or.inr rfl)), sl_1 (q_is_cat f1 (Or.inr rfl)), sl_0]; decide) ?_
  rw [la_1 (q_is_cat f0 (Or.inr rfl)), la_1 (q_is_cat f1 (Or.inr rfl)), la_0]
  obtain ⟨L, hL⟩ : ∃ L : QL, L = [(0, v0), (0 + 1, v1)] := ⟨_, rfl⟩
  rw [← hL]
  have l0 : q_lo L 0 = some v0 := by rw [hL]; rfl
  have l1 : q_lo L 1 = some v1 := by rw [hL]; rfl
  have hQ : ∀ o S1, Rp S1 m0 → q_out 0 o rz → (Cr 0 m0 m0 rz) o S1 := fun o S1 a b => ⟨a, Ext.rf _, b⟩
  unfold fm_X11_isStale at h
  refine go_aload_n (n := 1) (by decide +kernel) l1 f1 ?_
  obtain ⟨g_3, h⟩ := gd_s h
  obtain ⟨x_5, e_6, h⟩ := lx_s h
  refine go_getf (x := 309) (ci := 10) (kf := 1) (fin := 2) (t := 2) (by decide +kernel) (by decide +kernel) (by decide +kernel) R f1 g_3 fun v_1 f_2 => ?_
  have f_4 := q_is_eq f_2 e_6
  refine go_astore_n (n := 2) (by decide +kernel) (by decide +kernel) f_4 fun L_7 l_8 kp_9 => ?_
  have l_10 := kp_9 1 _ l1 (by decide) (Or.inr (q_is_cat f1 (Or.inr rfl)))
  refine go_aload_n (n := 1) (by decide +kernel) l_10 f1 ?_
  obtain ⟨x_14, e_15, h⟩ := lx_s h
  refine go_getf (x := 317) (ci := 10) (kf := 5) (fin := 0) (t := 0) (by decide +kernel) (by decide +kernel) (by decide +kernel) R f1 g_3 fun v_11 f_12 => ?_
  have f_13 := q_is_eq f_12 e_15
  refine go_if (c := .ne) (o := 21) (t := 30) (P := ¬ (x_14 = 0)) (by decide +kernel) (by decide +kernel) f_13 (Iff.rfl) (fun hp_16 => ?_) (fun hp_16 => ?_)
  · have h := it_f hp_16 h
    refine go_iconst (n := 1) (z := 1) (by decide +kernel) (by decide) fun v_17 f_18 => ?_
    refine go_goto (o := 4) (t := 35) (by decide +kernel) (by decide +kernel) ?_
    cases h
    exact go_iret (by decide +kernel) rfl (Or.inr ⟨rfl, by decide⟩) f_18 (hQ _ _ R (q_out_v (by decide) f_18))
  · have h := it_n hp_16 h
    refine go_aload_n (n := 2) (by decide +kernel) l_8 f_4 ?_
    obtain ⟨g_21, h⟩ := gd_s h
    obtain ⟨x_23, e_24, h⟩ := lx_s h
    refine go_getf (x := 208) (ci := 7) (kf := 6) (fin := 0) (t := 0) (by decide +kernel) (by decide +kernel) (by decide +kernel) R f_4 g_21 fun v_19 f_20 => ?_
    have f_22 := q_is_eq f_20 e_24
    refine go_if (c := .ne) (o := 14) (t := 30) (P := ¬ (x_23 = 0)) (by decide +kernel) (by decide +kernel) f_22 (Iff.rfl) (fun hp_25 => ?_) (fun hp_25 => ?_)
    · have h := it_f hp_25 h
      refine go_iconst (n := 1) (z := 1) (by decide +kernel) (by decide) fun v_26 f_27 => ?_
      refine go_goto (o := 4) (t := 35) (by decide +kernel) (by decide +kernel) ?_
      cases h
      exact go_iret (by decide +kernel) rfl (Or.inr ⟨rfl, by decide⟩) f_27 (hQ _ _ R (q_out_v (by decide) f_27))
    · have h := it_n hp_25 h
      refine go_aload_n (n := 2) (by decide +kernel) l_8 f_4 ?_
      obtain ⟨x_29, hc_28, h⟩ := bp_s h
      refine go_callV (x := 568) (mi := 69) (n := 0) (ci := 7) (as := []) (rest := []) (by decide +kernel) (by decide +kernel) rfl rfl (q_sum8 _ (Nat.le_of_ble_eq_true rfl)) R f_4 g_21 (om_X6_mark (Nat.le_trans (by decide) hd) R g_21 f_4 hc_28) (fun _ S_33 q_36 => ?_) (fun _ _ qq => kr_x qq)
      refine kr_z (by decide) q_36 fun v_31 f_32 R_34 E_35 => ?_
      refine go_aload_n (n := 1) (by decide +kernel) l_10 f1 ?_
      obtain ⟨x_40, e_41, h⟩ := lx_s h
      refine go_getf (x := 571) (ci := 10) (kf := 4) (fin := 2) (t := 0) (by decide +kernel) (by decide +kernel) (by decide +kernel) R_34 f1 g_3 fun v_37 f_38 => ?_
      have f_39 := q_is_eq f_38 e_41
      refine go_icmp (c := .eq) (o := 7) (t := 34) (P := x_29 = x_40) (by decide +kernel) (by decide +kernel) f_32 f_39 (Iff.rfl) (fun hp_42 => ?_) (fun hp_42 => ?_)
      · have h := it_t hp_42 h
        refine go_iconst (n := 0) (z := 0) (by decide +kernel) (by decide) fun v_43 f_44 => ?_
        cases h
        exact go_iret (by decide +kernel) rfl (Or.inr ⟨rfl, by decide⟩) f_44 (hQ _ _ R_34 (q_out_v (by decide) f_44))
      · have h := it_f hp_42 h
        refine go_iconst (n := 1) (z := 1) (by decide +kernel) (by decide) fun v_45 f_46 => ?_
        refine go_goto (o := 4) (t := 35) (by decide +kernel) (by decide +kernel) ?_
        cases h
        exact go_iret (by decide +kernel) rfl (Or.inr ⟨rfl, by decide⟩) f_46 (hQ _ _ R_34 (q_out_v (by decide) f_46))
noncomputable def fm_X11_countReplay (p1 : Int) (m0 : MM) : Option (Int × MM) := if p1 < 0 then
some (0, m0)
else
if p1 < 3 then
gd (0 ≤ p1 ∧ p1 < 3) <| lx (m0 11 p1) fun x_16 =>
up m0 11 p1 (w32 (x_16 + 1)) fun m_22 =>
some (0, m_22)
else
some (0, m0)
set_option maxHeartbeats 4000000 in
theorem om_X11_countReplay {xs : List Int32} {d : Nat} {S : QS} {m0 : MM} {p1 : Int} {v0 : Value} {v1 : Value} {rz : Int} {rm : MM}
  (hd : 1 ≤ d) (R : Rp S m0) (f0 : q_is 2 v0 4) (f1 : q_is 0 v1 p1)
  (h : fm_X11_countReplay p1 m0 = some (rz, rm)) : Mt xs d 164 [v0, v1] S (Cr 9 m0 rm rz) := by
  obtain ⟨d, rfl⟩ : ∃ e, d = e + 1 := ⟨d - 1, by omega⟩
  have hd : 0 ≤ d := Nat.le_of_succ_le_succ hd
  refine Mt.of (M := qM_X11_countReplay) rfl (by rw [sl_1 (q_is_cat f0 (Or.inr rfl)), sl_1 (q_is_cat f1 (Or.inl rfl)), sl_0]; decide) ?_
  rw [la_1 (q_is_cat f0 (Or.inr rfl)), la_1 (q_is_cat f1 (Or.inl rfl)), la_0]
  obtain ⟨L, hL⟩ : ∃ L : QL, L = [(0, v0), (0 + 1, v1)] := ⟨_, rfl⟩
  rw [← hL]
  have l0 : q_lo L 0 = some v0 := by rw [hL]; rfl
  have l1 : q_lo L 1 = some v1 := by rw [hL]; rfl
  have hQ : Ext m0 rm → ∀ o S1, Rp S1 rm → q_out 9 o rz → (Cr 9 m0 rm rz) o S1 := fun a o S1 b e => ⟨b, a, e⟩
  unfold fm_X11_countReplay at h
  refine go_iload_n (n := 1) (by decide +kernel) l1 f1 ?_
  refine go_if (c := .lt) (o := 22) (t := 23) (P := p1 < 0) (by decide +kernel) (by decide +kernel) f1 (Iff.rfl) (fun hp_1 => ?_) (fun hp_1 => ?_)
  · have h := it_t hp_1 h
    cases h
    exact go_vret (by decide +kernel) rfl (hQ (Ext.rf _) _ _ R q_out_n)
  · have h := it_f hp_1 h
    refine go_iload_n (n := 1) (by decide +kernel) l1 f1 ?_
    refine go_aload_n (n := 0) (by decide +kernel) l0 f0 ?_
    refine go_getf (x := 37) (ci := 12) (kf := 6) (fin := 1) (t := 2) (by decide +kernel) (by decide +kernel) (by decide +kernel) R f0 (fx_k (c := 12) R (by decide +kernel)) fun v_2 f_3 => ?_
    have f_4 := q_is_eq (b := 11) f_3 (fx_v R (by decide +kernel)).symm
    refine go_alen (by decide +kernel) R f_4 (okl_of (fx_k (c := 100) R (by decide +kernel)) (by decide)) fun v_5 f_6 => ?_
    have f_7 := q_is_eq (b := 3) f_6 (by rw [fx_l R (ln := 3) (by decide +kernel)]; decide)
    refine go_icmp (c := .ge) (o := 13) (t := 23) (P := ¬ (p1 < 3)) (by decide +kernel) (by decide +kernel) f1 f_7 (Int.not_lt.symm) (fun hp_8 => ?_) (fun hp_8 => ?_)
    · have h := it_f hp_8 h
      cases h
      exact go_vret (by decide +kernel) rfl (hQ (Ext.rf _) _ _ R q_out_n)
    · have h := it_n hp_8 h
      refine go_aload_n (n := 0) (by decide +kernel) l0 f0 ?_
      refine go_getf (x := 37) (ci := 12) (kf := 6) (fin := 1) (t := 2) (by decide +kernel) (by decide +kernel) (by decide +kernel) R f0 (fx_k (c := 12) R (by decide +kernel)) fun v_9 f_10 => ?_
      have f_11 := q_is_eq (b := 11) f_10 (fx_v R (by decide +kernel)).symm
      refine go_iload_n (n := 1) (by decide +kernel) l1 f1 ?_
      refine go_dup2 (by decide +kernel) f1 (Or.inl rfl) f_11 (Or.inr rfl) ?_
      obtain ⟨g_14, h⟩ := gd_s h
      obtain ⟨x_16, e_17, h⟩ := lx_s h
      refine go_iald (kd := 100) (by decide +kernel) rfl R f_11 f1 (fx_k (c := 100) R (by decide +kernel)) (fx_x (a := 11) (ln := 3) R (by decide +kernel) g_14) fun v_12 f_13 => ?_
      have f_15 := q_is_eq f_13 e_17
      refine go_iconst (n := 1) (z := 1) (by decide +kernel) (by decide) fun v_18 f_19 => ?_
      refine go_iadd (by decide +kernel) f_15 f_19 fun v_20 f_21 => ?_
      obtain ⟨m_22, e_23, h⟩ := up_s h
      refine go_iast (kd := 100) (by decide +kernel) rfl R f_11 f1 f_21 (fx_k (c := 100) R (by decide +kernel)) (fx_x (a := 11) (ln := 3) R (by decide +kernel) g_14) e_23 (fx_a R.2 (fx_k (c := 100) R (by decide +kernel)) (And.left (fx_x (a := 11) (ln := 3) R (by decide +kernel) g_14)) (by decide +kernel)) fun S_24 R_25 E_26 => ?_
      have E_27 := E_26
      cases h
      exact go_vret (by decide +kernel) rfl (hQ E_27 _ _ R_25 q_out_n)
noncomputable def fl_X11_putNews_38 (y1 y2 y4 : Int) (k87 : MM → Option (Int × MM)) : Nat → Int → MM → Option (Int × MM)
  | 0, _, _ => none
  | n + 1, y5, m => gd (okc m y4 3) <| lx (m y4 1) fun x_27 =>
if y5 < x_27 then
gd (okc m y1 7) <| lx (m y1 16) fun x_34 =>
bp (fm_X2_kind y4 y5 m) fun x_37 =>
bp (fm_X2_x y4 y5 m) fun x_46 =>
bp (fm_X2_y y4 y5 m) fun x_55 =>
lx (m 4 14) fun x_66 =>
gd (okc m x_34 3) <| bd (fm_X2_put x_34 x_37 x_46 x_55 x_66 0 m) fun x_72 m_73 =>
lx (w32 (y5 + 1)) fun x_86 =>
fl_X11_putNews_38 y1 y2 y4 k87 n x_86 m_73
else
k87 m
set_option maxHeartbeats 4000000 in
theorem ol_X11_putNews_38 {xs : List Int32} {d : Nat} {Q : QO → QS → Prop} {mb : MM} {y1 y2 y4 : Int} {k87 : MM → Option (Int × MM)} {rz : Int} {rm : MM}
  (hd : 2 ≤ d)
  (hk87 : ∀ mq : MM, Ext mb mq → ∀ {Sq : QS} {Lq : QL} {u0 : Value} {u1 : Value} {u2 : Value} {u4 : Value}, k87 mq = some (rz, rm) → Rp Sq mq → q_lo Lq 0 = some u0 → q_is 2 u0 4 → q_lo Lq 1 = some u1 → q_is 2 u1 y1 → q_lo Lq 2 = some u2 → q_is 2 u2 y2 → q_lo Lq 4 = some u4 → q_is 2 u4 y4 → Go xs d qM_X11_putNews 87 Lq [] Sq Q)
  (hQ : Ext mb rm → ∀ o S1, Rp S1 rm → q_out 0 o rz → Q o S1) :
  ∀ (n : Nat) {m : MM} {S : QS} {L : QL} {y5 : Int} {v0 : Value} {v1 : Value} {v2 : Value} {v4 : Value} {v5 : Value} , Ext mb m → fl_X11_putNews_38 y1 y2 y4 k87 n y5 m = some (rz, rm) → Rp S m → q_lo L 0 = some v0 → q_is 2 v0 4 → q_lo L 1 = some v1 → q_is 2 v1 y1 → q_lo L 2 = some v2 → q_is 2 v2 y2 → q_lo L 4 = some v4 → q_is 2 v4 y4 → q_lo L 5 = some v5 → q_is 0 v5 y5 → Go xs d qM_X11_putNews 38 L [] S Q := by
  intro n
  induction n with
  | zero => intro m S L y5 v0 v1 v2 v4 v5; intro E h R l0 f0 l1 f1 l2 f2 l4 f4 l5 f5; cases h
  | succ n ih0 =>
    intro m S L y5 v0 v1 v2 v4 v5; intro E h R l0 f0 l1 f1 l2 f2 l4 f4 l5 f5
    have ih : ∀ mq : MM, Ext mb mq → ∀ {z5 : Int} {Sq : QS} {Lq : QL} {u0 : Value} {u1 : Value} {u2 : Value} {u4 : Value} {u5 : Value}, fl_X11_putNews_38 y1 y2 y4 k87 n z5 mq = some (rz, rm) → Rp Sq mq → q_lo Lq 0 = some u0 → q_is 2 u0 4 → q_lo Lq 1 = some u1 → q_is 2 u1 y1 → q_lo Lq 2 = some u2 → q_is 2 u2 y2 → q_lo Lq 4 = some u4 → q_is 2 u4 y4 → q_lo Lq 5 = some u5 → q_is 0 u5 z5 → Go xs d qM_X11_putNews 38 Lq [] Sq Q := fun mq b => by intros; exact ih0 b ‹_› ‹_› ‹_› ‹_› ‹_› ‹_› ‹_› ‹_› ‹_› ‹_› ‹_› ‹_›
    unfold fl_X11_putNews_38 at h
    refine go_iload (n := 5) (by decide +kernel) l5 f5 ?_
    refine go_aload (n := 4) (by decide +kernel) l4 f4 ?_
    obtain ⟨g_25, h⟩ := gd_s h
    obtain ⟨x_27, e_28, h⟩ := lx_s h
    refine go_getf (x := 199) (ci := 3) (kf := 1) (fin := 0) (t := 0) (by decide +kernel) (by decide +kernel) (by decide +kernel) R f4 g_25 fun v_23 f_24 => ?_
    have f_26 := q_is_eq f_24 e_28
    refine go_icmp (c := .ge) (o := 42) (t := 87) (P := ¬ (y5 < x_27)) (by decide +kernel) (by decide +kernel) f5 f_26 (Int.not_lt.symm) (fun hp_29 => ?_) (fun hp_29 => ?_)
    · have h := it_f hp_29 h
      exact hk87 m E h R l0 f0 l1 f1 l2 f2 l4 f4
    · have h := it_n hp_29 h
      refine go_aload_n (n := 1) (by decide +kernel) l1 f1 ?_
      obtain ⟨g_32, h⟩ := gd_s h
      obtain ⟨x_34, e_35, h⟩ := lx_s h
      refine go_getf (x := 195) (ci := 7) (kf := 16) (fin := 2) (t := 2) (by decide +kernel) (by decide +kernel) (by decide +kernel) R f1 g_32 fun v_30 f_31 => ?_
      have f_33 := q_is_eq f_31 e_35
      refine go_aload (n := 4) (by decide +kernel) l4 f4 ?_
      refine go_iload (n := 5) (by decide +kernel) l5 f5 ?_
      obtain ⟨x_37, hc_36, h⟩ := bp_s h
      refine go_callV (x := 261) (mi := 9) (n := 1) (ci := 3) (as := [v5]) (rest := [v_30]) (by decide +kernel) (by decide +kernel) rfl rfl (q_sum8 _ (Nat.le_of_ble_eq_true rfl)) R f4 g_25 (om_X2_kind (Nat.le_trans (by decide) hd) R g_25 f4 f5 hc_36) (fun _ S_41 q_44 => ?_) (fun _ _ qq => kr_x qq)
      refine kr_z (by decide) q_44 fun v_39 f_40 R_42 E_43 => ?_
      refine go_aload (n := 4) (by decide +kernel) l4 f4 ?_
      refine go_iload (n := 5) (by decide +kernel) l5 f5 ?_
      obtain ⟨x_46, hc_45, h⟩ := bp_s h
      refine go_callV (x := 264) (mi := 10) (n := 1) (ci := 3) (as := [v5]) (rest := [v_39, v_30]) (by decide +kernel) (by decide +kernel) rfl rfl (q_sum8 _ (Nat.le_of_ble_eq_true rfl)) R_42 f4 g_25 (om_X2_x (Nat.le_trans (by decide) hd) R_42 g_25 f4 f5 hc_45) (fun _ S_50 q_53 => ?_) (fun _ _ qq => kr_x qq)
      refine kr_z (by decide) q_53 fun v_48 f_49 R_51 E_52 => ?_
      refine go_aload (n := 4) (by decide +kernel) l4 f4 ?_
      refine go_iload (n := 5) (by decide +kernel) l5 f5 ?_
      obtain ⟨x_55, hc_54, h⟩ := bp_s h
      refine go_callV (x := 267) (mi := 11) (n := 1) (ci := 3) (as := [v5]) (rest := [v_48, v_39, v_30]) (by decide +kernel) (by decide +kernel) rfl rfl (q_sum8 _ (Nat.le_of_ble_eq_true rfl)) R_51 f4 g_25 (om_X2_y (Nat.le_trans (by decide) hd) R_51 g_25 f4 f5 hc_54) (fun _ S_59 q_62 => ?_) (fun _ _ qq => kr_x qq)
      refine kr_z (by decide) q_62 fun v_57 f_58 R_60 E_61 => ?_
      refine go_aload_n (n := 0) (by decide +kernel) l0 f0 ?_
      obtain ⟨x_66, e_67, h⟩ := lx_s h
      refine go_getf (x := 71) (ci := 12) (kf := 14) (fin := 0) (t := 0) (by decide +kernel) (by decide +kernel) (by decide +kernel) R_60 f0 (fx_k (c := 12) R_60 (by decide +kernel)) fun v_63 f_64 => ?_
      have f_65 := q_is_eq f_64 e_67
      refine go_iconst (n := 0) (z := 0) (by decide +kernel) (by decide) fun v_68 f_69 => ?_
      obtain ⟨g_70, h⟩ := gd_s h
      obtain ⟨x_72, m_73, hc_71, h⟩ := bd_s h
      refine go_callV (x := 537) (mi := 15) (n := 5) (ci := 3) (as := [v_39, v_48, v_57, v_63, v_68]) (rest := []) (by decide +kernel) (by decide +kernel) rfl rfl (q_sum8 _ (Nat.le_of_ble_eq_true rfl)) R_60 f_33 g_70 (om_X2_put (Nat.le_trans (by decide) hd) R_60 g_70 f_33 f_40 f_49 f_58 f_65 f_69 hc_71) (fun _ S_76 q_79 => ?_) (fun _ _ qq => kr_x qq)
      refine kr_v q_79 fun R_77 E_78 => ?_
      have E_80 := Ext.tr E E_78
      refine go_iinc (n := 5) (c := 1) (c' := 1) (by decide +kernel) (by decide +kernel) l5 f5 (by decide) fun L_81 v_82 f_83 l_84 kp_85 => ?_
      obtain ⟨x_86, e_87, h⟩ := lx_s h
      have f_88 := q_is_eq f_83 e_87
      have l_89 := kp_85 0 _ l0 (by decide) (Or.inl (by decide))
      have l_90 := kp_85 1 _ l1 (by decide) (Or.inl (by decide))
      have l_91 := kp_85 2 _ l2 (by decide) (Or.inl (by decide))
      have l_92 := kp_85 4 _ l4 (by decide) (Or.inr (q_is_cat f4 (Or.inr rfl)))
      refine go_goto (o := (-46)) (t := 38) (by decide +kernel) (by decide +kernel) ?_
      exact ih m_73 E_80 h R_77 l_89 f0 l_90 f1 l_91 f2 l_92 f4 l_84 f_88
noncomputable def fj_X11_putNews_26 (y1 y2 : Int) (m : MM) : Option (Int × MM) := fl_X11_putNews_38 y1 y2 43 (fun m_108 =>
gd (okc m_108 y1 7) <| lx (m_108 y1 16) fun x_115 =>
gd (okc m_108 y2 10) <| lx (m_108 y2 3) fun x_123 =>
lx (m_108 4 14) fun x_130 =>
gd (okc m_108 x_115 3) <| bd (fm_X2_put x_115 17 x_123 0 x_130 0 m_108) fun x_136 m_137 =>
lx (m_137 y2 0) fun x_149 =>
up m_137 y1 12 x_149 fun m_152 =>
bp (fm_X6_mark y1 m_152) fun x_160 =>
up m_152 y1 13 x_160 fun m_168 =>
bd (fm_X4_knows y1 m_168) fun x_178 m_179 =>
lx (m_179 43 1) fun x_190 =>
some (x_190, m_179)) BIG 0 m
set_option maxHeartbeats 4000000 in
theorem oj_X11_putNews_26 {xs : List Int32} {d : Nat} {S : QS} {L : QL} {Q : QO → QS → Prop} {m : MM} {y1 y2 : Int} {v0 : Value} {v1 : Value} {v2 : Value}  {rz : Int} {rm : MM}
  (hd : 2 ≤ d) (R : Rp S m) (l0 : q_lo L 0 = some v0) (f0 : q_is 2 v0 4) (l1 : q_lo L 1 = some v1) (f1 : q_is 2 v1 y1) (l2 : q_lo L 2 = some v2) (f2 : q_is 2 v2 y2)
  (hQ : Ext m rm → ∀ o S1, Rp S1 rm → q_out 0 o rz → Q o S1)
  (h : fj_X11_putNews_26 y1 y2 m = some (rz, rm)) : Go xs d qM_X11_putNews 26 L [] S Q := by
  unfold fj_X11_putNews_26 at h
  refine go_aload_n (n := 0) (by decide +kernel) l0 f0 ?_
  refine go_getf (x := 57) (ci := 12) (kf := 10) (fin := 1) (t := 2) (by decide +kernel) (by decide +kernel) (by decide +kernel) R f0 (fx_k (c := 12) R (by decide +kernel)) fun v_2 f_3 => ?_
  have f_4 := q_is_eq (b := 16) f_3 (fx_v R (by decide +kernel)).symm
  refine go_getf (x := 579) (ci := 5) (kf := 1) (fin := 2) (t := 2) (by decide +kernel) (by decide +kernel) (by decide +kernel) R f_4 (fx_k (c := 5) R (by decide +kernel)) fun v_5 f_6 => ?_
  have f_7 := q_is_eq (b := 43) f_6 (fx_v R (by decide +kernel)).symm
  refine go_astore (n := 4) (by decide +kernel) (by decide +kernel) f_7 fun L_8 l_9 kp_10 => ?_
  have l_11 := kp_10 0 _ l0 (by decide) (Or.inl (by decide))
  have l_12 := kp_10 1 _ l1 (by decide) (Or.inl (by decide))
  have l_13 := kp_10 2 _ l2 (by decide) (Or.inl (by decide))
  refine go_iconst (n := 0) (z := 0) (by decide +kernel) (by decide) fun v_14 f_15 => ?_
  refine go_istore (n := 5) (by decide +kernel) (by decide +kernel) f_15 fun L_16 l_17 kp_18 => ?_
  have l_19 := kp_18 0 _ l_11 (by decide) (Or.inl (by decide))
  have l_20 := kp_18 1 _ l_12 (by decide) (Or.inl (by decide))
  have l_21 := kp_18 2 _ l_13 (by decide) (Or.inl (by decide))
  have l_22 := kp_18 4 _ l_9 (by decide) (Or.inr (q_is_cat f_7 (Or.inr rfl)))
  refine ol_X11_putNews_38 hd  ?_ hQ BIG (Ext.rf _) h R l_19 f0 l_20 f1 l_21 f2 l_22 f_7 l_17 f_15
  intro m_108 E_109
  intro S_105 L_106 v_93 v_94 v_95 v_96
  intro h R_107 l_97 f_101 l_98 f_102 l_99 f_103 l_100 f_104
  have E_110 := E_109
  refine go_aload_n (n := 1) (by decide +kernel) l_98 f_102 ?_
  obtain ⟨g_113, h⟩ := gd_s h
  obtain ⟨x_115, e_116, h⟩ := lx_s h
  refine go_getf (x := 195) (ci := 7) (kf := 16) (fin := 2) (t := 2) (by decide +kernel) (by decide +kernel) (by decide +kernel) R_107 f_102 g_113 fun v_111 f_112 => ?_
  have f_114 := q_is_eq f_112 e_116
  refine go_bipush (n := 17) (z := 17) (by decide +kernel) (by decide) fun v_117 f_118 => ?_
  refine go_aload_n (n := 2) (by decide +kernel) l_99 f_103 ?_
  obtain ⟨g_121, h⟩ := gd_s h
  obtain ⟨x_123, e_124, h⟩ := lx_s h
  refine go_getf (x := 329) (ci := 10) (kf := 3) (fin := 2) (t := 0) (by decide +kernel) (by decide +kernel) (by decide +kernel) R_107 f_103 g_121 fun v_119 f_120 => ?_
  have f_122 := q_is_eq f_120 e_124
  refine go_iconst (n := 0) (z := 0) (by decide +kernel) (by decide) fun v_125 f_126 => ?_
  refine go_aload_n (n := 0) (by decide +kernel) l_97 f_101 ?_
  obtain ⟨x_130, e_131, h⟩ := lx_s h
  refine go_getf (x := 71) (ci := 12) (kf := 14) (fin := 0) (t := 0) (by decide +kernel) (by decide +kernel) (by decide +kernel) R_107 f_101 (fx_k (c := 12) R_107 (by decide +kernel)) fun v_127 f_128 => ?_
  have f_129 := q_is_eq f_128 e_131
  refine go_iconst (n := 0) (z := 0) (by decide +kernel) (by decide) fun v_132 f_133 => ?_
  obtain ⟨g_134, h⟩ := gd_s h
  obtain ⟨x_136, m_137, hc_135, h⟩ := bd_s h
  refine go_callV (x := 537) (mi := 15) (n := 5) (ci := 3) (as := [v_117, v_119, v_125, v_127, v_132]) (rest := []) (by decide +kernel) (by decide +kernel) rfl rfl (q_sum8 _ (Nat.le_of_ble_eq_true rfl)) R_107 f_114 g_134 (om_X2_put (Nat.le_trans (by decide) hd) R_107 g_134 f_114 f_118 f_122 f_126 f_129 f_133 hc_135) (fun _ S_140 q_143 => ?_) (fun _ _ qq => kr_x qq)
  refine kr_v q_143 fun R_141 E_142 => ?_
  have E_144 := Ext.tr E_110 E_142
  refine go_aload_n (n := 1) (by decide +kernel) l_98 f_102 ?_
  refine go_aload_n (n := 2) (by decide +kernel) l_99 f_103 ?_
  have g_147 := Ext.ok E_142 g_121
  obtain ⟨x_149, e_150, h⟩ := lx_s h
  refine go_getf (x := 320) (ci := 10) (kf := 0) (fin := 2) (t := 0) (by decide +kernel) (by decide +kernel) (by decide +kernel) R_141 f_103 g_147 fun v_145 f_146 => ?_
  have f_148 := q_is_eq f_146 e_150
  have g_151 := Ext.ok E_142 g_113
  obtain ⟨m_152, e_153, h⟩ := up_s h
  refine go_putf (x := 344) (ci := 7) (kf := 12) (fin := 0) (zt := 0) (by decide +kernel) (by decide +kernel) (by decide) (by decide +kernel) (by decide) (Or.inl rfl) R_141 f_102 f_148 (fun hq => absurd hq (by decide)) g_151 e_153 (fx_f (j := 12) R_141.2 g_151 (by decide +kernel)) fun S_154 R_155 E_156 => ?_
  have E_157 := Ext.tr E_144 E_156
  refine go_aload_n (n := 1) (by decide +kernel) l_98 f_102 ?_
  refine go_aload_n (n := 1) (by decide +kernel) l_98 f_102 ?_
  have g_158 := Ext.ok E_156 g_151
  obtain ⟨x_160, hc_159, h⟩ := bp_s h
  refine go_callV (x := 568) (mi := 69) (n := 0) (ci := 7) (as := []) (rest := [v_94]) (by decide +kernel) (by decide +kernel) rfl rfl (q_sum8 _ (Nat.le_of_ble_eq_true rfl)) R_155 f_102 g_158 (om_X6_mark (Nat.le_trans (by decide) hd) R_155 g_158 f_102 hc_159) (fun _ S_164 q_167 => ?_) (fun _ _ qq => kr_x qq)
  refine kr_z (by decide) q_167 fun v_162 f_163 R_165 E_166 => ?_
  obtain ⟨m_168, e_169, h⟩ := up_s h
  refine go_putf (x := 582) (ci := 7) (kf := 13) (fin := 0) (zt := 0) (by decide +kernel) (by decide +kernel) (by decide) (by decide +kernel) (by decide) (Or.inl rfl) R_165 f_102 f_163 (fun hq => absurd hq (by decide)) g_158 e_169 (fx_f (j := 13) R_165.2 g_158 (by decide +kernel)) fun S_170 R_171 E_172 => ?_
  have E_173 := Ext.tr E_157 E_172
  refine go_aload_n (n := 0) (by decide +kernel) l_97 f_101 ?_
  refine go_getf (x := 57) (ci := 12) (kf := 10) (fin := 1) (t := 2) (by decide +kernel) (by decide +kernel) (by decide +kernel) R_171 f_101 (fx_k (c := 12) R_171 (by decide +kernel)) fun v_174 f_175 => ?_
  have f_176 := q_is_eq (b := 16) f_175 (fx_v R_171 (by decide +kernel)).symm
  refine go_aload_n (n := 1) (by decide +kernel) l_98 f_102 ?_
  obtain ⟨x_178, m_179, hc_177, h⟩ := bd_s h
  refine go_callV (x := 585) (mi := 32) (n := 1) (ci := 5) (as := [v_94]) (rest := []) (by decide +kernel) (by decide +kernel) rfl rfl (q_sum8 _ (Nat.le_of_ble_eq_true rfl)) R_171 f_176 (fx_k (c := 5) R_171 (by decide +kernel)) (om_X4_knows (Nat.le_trans (by decide) hd) R_171 f_176 f_102 hc_177) (fun _ S_182 q_185 => ?_) (fun _ _ qq => kr_x qq)
  refine kr_v q_185 fun R_183 E_184 => ?_
  have E_186 := Ext.tr E_173 E_184
  refine go_aload (n := 4) (by decide +kernel) l_100 f_104 ?_
  obtain ⟨x_190, e_191, h⟩ := lx_s h
  refine go_getf (x := 199) (ci := 3) (kf := 1) (fin := 0) (t := 0) (by decide +kernel) (by decide +kernel) (by decide +kernel) R_183 f_104 (fx_k (c := 3) R_183 (by decide +kernel)) fun v_187 f_188 => ?_
  have f_189 := q_is_eq f_188 e_191
  cases h
  exact go_iret (by decide +kernel) rfl (Or.inl rfl) f_189 (hQ E_186 _ _ R_183 (q_out_v (by decide) f_189))
noncomputable def fm_X11_putNews (p1 p2 p3 : Int) (m0 : MM) : Option (Int × MM) := if p3 = 0 then
gd (okc m0 p1 7) <| lx (m0 p1 16) fun x_196 =>
gd (okc m0 x_196 3) <| lx (m0 x_196 1) fun x_202 =>
up m0 p1 15 x_202 fun m_204 =>
lx (m_204 p1 16) fun x_214 =>
gd (okc m_204 x_214 3) <| lx (m_204 x_214 4) fun x_220 =>
up m_204 p1 14 x_220 fun m_222 =>
fj_X11_putNews_26 p1 p2 m_222
else
fj_X11_putNews_26 p1 p2 m0
set_option maxHeartbeats 4000000 in
theorem om_X11_putNews {xs : List Int32} {d : Nat} {S : QS} {m0 : MM} {p1 p2 p3 : Int} {v0 : Value} {v1 : Value} {v2 : Value} {v3 : Value} {rz : Int} {rm : MM}
  (hd : 3 ≤ d) (R : Rp S m0) (f0 : q_is 2 v0 4) (f1 : q_is 2 v1 p1) (f2 : q_is 2 v2 p2) (f3 : q_is 0 v3 p3)
  (h : fm_X11_putNews p1 p2 p3 m0 = some (rz, rm)) : Mt xs d 165 [v0, v1, v2, v3] S (Cr 0 m0 rm rz) := by
  obtain ⟨d, rfl⟩ : ∃ e, d = e + 1 := ⟨d - 1, by omega⟩
  have hd : 2 ≤ d := Nat.le_of_succ_le_succ hd
  refine Mt.of (M := qM_X11_putNews) rfl (by rw [sl_1 (q_is_cat f0 (Or.inr rfl)), sl_1 (q_is_cat f1 (Or.inr rfl)), sl_1 (q_is_cat f2 (Or.inr rfl)), sl_1 (q_is_cat f3 (Or.inl rfl)), sl_0]; decide) ?_
  rw [la_1 (q_is_cat f0 (Or.inr rfl)), la_1 (q_is_cat f1 (Or.inr rfl)), la_1 (q_is_cat f2 (Or.inr rfl)), la_1 (q_is_cat f3 (Or.inl rfl)), la_0]
  obtain ⟨L, hL⟩ : ∃ L : QL, L = [(0, v0), (0 + 1, v1), (0 + 1 + 1, v2), (0 + 1 + 1 + 1, v3)] := ⟨_, rfl⟩
  rw [← hL]
  have l0 : q_lo L 0 = some v0 := by rw [hL]; rfl
  have l1 : q_lo L 1 = some v1 := by rw [hL]; rfl
  have l2 : q_lo L 2 = some v2 := by rw [hL]; rfl
  have l3 : q_lo L 3 = some v3 := by rw [hL]; rfl
  have hQ : Ext m0 rm → ∀ o S1, Rp S1 rm → q_out 0 o rz → (Cr 0 m0 rm rz) o S1 := fun a o S1 b e => ⟨b, a, e⟩
  unfold fm_X11_putNews at h
  refine go_iload_n (n := 3) (by decide +kernel) l3 f3 ?_
  refine go_if (c := .ne) (o := 25) (t := 26) (P := ¬ (p3 = 0)) (by decide +kernel) (by decide +kernel) f3 (Iff.rfl) (fun hp_1 => ?_) (fun hp_1 => ?_)
  · have h := it_f hp_1 h
    exact oj_X11_putNews_26 hd R l0 f0 l1 f1 l2 f2 hQ h
  · have h := it_n hp_1 h
    refine go_aload_n (n := 1) (by decide +kernel) l1 f1 ?_
    refine go_aload_n (n := 1) (by decide +kernel) l1 f1 ?_
    obtain ⟨g_194, h⟩ := gd_s h
    obtain ⟨x_196, e_197, h⟩ := lx_s h
    refine go_getf (x := 195) (ci := 7) (kf := 16) (fin := 2) (t := 2) (by decide +kernel) (by decide +kernel) (by decide +kernel) R f1 g_194 fun v_192 f_193 => ?_
    have f_195 := q_is_eq f_193 e_197
    obtain ⟨g_200, h⟩ := gd_s h
    obtain ⟨x_202, e_203, h⟩ := lx_s h
    refine go_getf (x := 199) (ci := 3) (kf := 1) (fin := 0) (t := 0) (by decide +kernel) (by decide +kernel) (by decide +kernel) R f_195 g_200 fun v_198 f_199 => ?_
    have f_201 := q_is_eq f_199 e_203
    obtain ⟨m_204, e_205, h⟩ := up_s h
    refine go_putf (x := 573) (ci := 7) (kf := 15) (fin := 0) (zt := 0) (by decide +kernel) (by decide +kernel) (by decide) (by decide +kernel) (by decide) (Or.inl rfl) R f1 f_201 (fun hq => absurd hq (by decide)) g_194 e_205 (fx_f (j := 15) R.2 g_194 (by decide +kernel)) fun S_206 R_207 E_208 => ?_
    have E_209 := E_208
    refine go_aload_n (n := 1) (by decide +kernel) l1 f1 ?_
    refine go_aload_n (n := 1) (by decide +kernel) l1 f1 ?_
    have g_212 := Ext.ok E_208 g_194
    obtain ⟨x_214, e_215, h⟩ := lx_s h
    refine go_getf (x := 195) (ci := 7) (kf := 16) (fin := 2) (t := 2) (by decide +kernel) (by decide +kernel) (by decide +kernel) R_207 f1 g_212 fun v_210 f_211 => ?_
    have f_213 := q_is_eq f_211 e_215
    obtain ⟨g_218, h⟩ := gd_s h
    obtain ⟨x_220, e_221, h⟩ := lx_s h
    refine go_getf (x := 220) (ci := 3) (kf := 4) (fin := 0) (t := 0) (by decide +kernel) (by decide +kernel) (by decide +kernel) R_207 f_213 g_218 fun v_216 f_217 => ?_
    have f_219 := q_is_eq f_217 e_221
    obtain ⟨m_222, e_223, h⟩ := up_s h
    refine go_putf (x := 576) (ci := 7) (kf := 14) (fin := 0) (zt := 0) (by decide +kernel) (by decide +kernel) (by decide) (by decide +kernel) (by decide) (Or.inl rfl) R_207 f1 f_219 (fun hq => absurd hq (by decide)) g_212 e_223 (fx_f (j := 14) R_207.2 g_212 (by decide +kernel)) fun S_224 R_225 E_226 => ?_
    have E_227 := Ext.tr E_209 E_226
    exact oj_X11_putNews_26 hd R_225 l0 f0 l1 f1 l2 f2 (fun b => hQ (Ext.tr E_227 b)) h
noncomputable def fm_X11_makeActivity (p1 p2 p3 p4 : Int) (m0 : MM) : Option (Int × MM) := bp (fm_Jx4a65c_size_8abf5 8 m0) fun x_5 =>
if x_5 < 60 then
nw m0 1 11 fun x_19 m_20 =>
lx (m_20 4 14) fun x_33 =>
bd (fm_X0_init x_19 p1 p2 p3 p4 x_33 m_20) fun x_36 m_37 =>
bd (fm_Jx4a65c_add_9ea2d 8 x_19 m_37) fun x_46 m_47 =>
some (0, m_47)
else
bd (fm_X11_arrive p1 2 p2 0 m0) fun x_60 m_61 =>
some (0, m_61)
set_option maxHeartbeats 4000000 in
theorem om_X11_makeActivity {xs : List Int32} {d : Nat} {S : QS} {m0 : MM} {p1 p2 p3 p4 : Int} {v0 : Value} {v1 : Value} {v2 : Value} {v3 : Value} {v4 : Value} {rz : Int} {rm : MM}
  (hd : 9 ≤ d) (R : Rp S m0) (f0 : q_is 2 v0 4) (f1 : q_is 2 v1 p1) (f2 : q_is 0 v2 p2) (f3 : q_is 0 v3 p3) (f4 : q_is 0 v4 p4)
  (h : fm_X11_makeActivity p1 p2 p3 p4 m0 = some (rz, rm)) : Mt xs d 168 [v0, v1, v2, v3, v4] S (Cr 9 m0 rm rz) := by
  obtain ⟨d, rfl⟩ : ∃ e, d = e + 1 := ⟨d - 1, by omega⟩
  have hd : 8 ≤ d := Nat.le_of_succ_le_succ hd
  refine Mt.of (M := qM_X11_makeActivity) rfl (by rw [sl_1 (q_is_cat f0 (Or.inr rfl)), sl_1 (q_is_cat f1 (Or.inr rfl)), sl_1 (q_is_cat f2 (Or.inl rfl)), sl_1 (q_is_cat f3 (Or.inl rfl)), sl_1 (q_is_cat f4 (Or.inl rfl)), sl_0]; decide) ?_
  rw [la_1 (q_is_cat f0 (Or.inr rfl)), la_1 (q_is_cat f1 (Or.inr rfl)), la_1 (q_is_cat f2 (Or.inl rfl)), la_1 (q_is_cat f3 (Or.inl rfl)), la_1 (q_is_cat f4 (Or.inl rfl)), la_0]
  obtain ⟨L, hL⟩ : ∃ L : QL, L = [(0, v0), (0 + 1, v1), (0 + 1 + 1, v2), (0 + 1 + 1 + 1, v3), (0 + 1 + 1 + 1 + 1, v4)] := ⟨_, rfl⟩
  rw [← hL]
  have l0 : q_lo L 0 = some v0 := by rw [hL]; rfl
  have l1 : q_lo L 1 = some v1 := by rw [hL]; rfl
  have l2 : q_lo L 2 = some v2 := by rw [hL]; rfl
  have l3 : q_lo L 3 = some v3 := by rw [hL]; rfl
  have l4 : q_lo L 4 = some v4 := by rw [hL]; rfl
  have hQ : Ext m0 rm → ∀ o S1, Rp S1 rm → q_out 9 o rz → (Cr 9 m0 rm rz) o S1 := fun a o S1 b e => ⟨b, a, e⟩
  unfold fm_X11_makeActivity at h
  refine go_aload_n (n := 0) (by decide +kernel) l0 f0 ?_
  refine go_getf (x := 28) (ci := 12) (kf := 3) (fin := 1) (t := 2) (by decide +kernel) (by decide +kernel) (by decide +kernel) R f0 (fx_k (c := 12) R (by decide +kernel)) fun v_1 f_2 => ?_
  have f_3 := q_is_eq (b := 8) f_2 (fx_v R (by decide +kernel)).symm
  obtain ⟨x_5, hc_4, h⟩ := bp_s h
  refine go_callV (x := 127) (mi := 326) (n := 0) (ci := 0) (as := []) (rest := []) (by decide +kernel) (by decide +kernel) rfl rfl (q_sum8 _ (Nat.le_of_ble_eq_true rfl)) R f_3 (fx_k (c := 0) R (by decide +kernel)) (om_Jx4a65c_size_8abf5 (Nat.le_trans (by decide) hd) R (fx_k (c := 0) R (by decide +kernel)) f_3 hc_4) (fun _ S_9 q_12 => ?_) (fun _ _ qq => kr_x qq)
  refine kr_z (by decide) q_12 fun v_7 f_8 R_10 E_11 => ?_
  refine go_bipush (n := 60) (z := 60) (by decide +kernel) (by decide) fun v_13 f_14 => ?_
  refine go_icmp (c := .lt) (o := 14) (t := 23) (P := x_5 < 60) (by decide +kernel) (by decide +kernel) f_8 f_14 (Iff.rfl) (fun hp_15 => ?_) (fun hp_15 => ?_)
  · have h := it_t hp_15 h
    refine go_aload_n (n := 0) (by decide +kernel) l0 f0 ?_
    refine go_getf (x := 28) (ci := 12) (kf := 3) (fin := 1) (t := 2) (by decide +kernel) (by decide +kernel) (by decide +kernel) R_10 f0 (fx_k (c := 12) R_10 (by decide +kernel)) fun v_16 f_17 => ?_
    have f_18 := q_is_eq (b := 8) f_17 (fx_v R_10 (by decide +kernel)).symm
    obtain ⟨x_19, m_20, e_21, e_22, h⟩ := nw_s h
    have g_28 := okc_nw (c := 1) R_10 e_21 e_22
    refine go_new (x := 347) (ci := 1) (n := 11) (b := 0) (by decide +kernel) (by decide +kernel) R_10 e_21 e_22 fun v_23 S_25 f_24 R_26 E_27 => ?_
    have E_29 := E_27
    refine go_dup (by decide +kernel) f_24 (Or.inr rfl) ?_
    refine go_aload_n (n := 1) (by decide +kernel) l1 f1 ?_
    refine go_iload_n (n := 2) (by decide +kernel) l2 f2 ?_
    refine go_iload_n (n := 3) (by decide +kernel) l3 f3 ?_
    refine go_iload (n := 4) (by decide +kernel) l4 f4 ?_
    refine go_aload_n (n := 0) (by decide +kernel) l0 f0 ?_
    obtain ⟨x_33, e_34, h⟩ := lx_s h
    refine go_getf (x := 71) (ci := 12) (kf := 14) (fin := 0) (t := 0) (by decide +kernel) (by decide +kernel) (by decide +kernel) R_26 f0 (fx_k (c := 12) R_26 (by decide +kernel)) fun v_30 f_31 => ?_
    have f_32 := q_is_eq f_31 e_34
    obtain ⟨x_36, m_37, hc_35, h⟩ := bd_s h
    refine go_callI (x := 610) (mi := 0) (n := 5) (b := 0) (tg := 3) (as := [v1, v2, v3, v4, v_30]) (rest := [v_23, v_16]) (by decide +kernel) (by decide +kernel) (by decide) rfl rfl (q_sum8 _ (Nat.le_of_ble_eq_true rfl)) f_24 (okc_ne g_28) (om_X0_init (Nat.le_trans (by decide) hd) R_26 g_28 f_24 f1 f2 f3 f4 f_32 hc_35) (fun _ S_40 q_43 => ?_) (fun _ _ qq => kr_x qq)
    refine kr_v q_43 fun R_41 E_42 => ?_
    have E_44 := Ext.tr E_29 E_42
    obtain ⟨x_46, m_47, hc_45, h⟩ := bd_s h
    refine go_callV (x := 300) (mi := 331) (n := 1) (ci := 0) (as := [v_23]) (rest := []) (by decide +kernel) (by decide +kernel) rfl rfl (q_sum8 _ (Nat.le_of_ble_eq_true rfl)) R_41 f_18 (fx_k (c := 0) R_41 (by decide +kernel)) (om_Jx4a65c_add_9ea2d (Nat.le_trans (by decide) hd) R_41 (fx_k (c := 0) R_41 (by decide +kernel)) f_18 f_24 hc_45) (fun _ S_50 q_53 => ?_) (fun _ _ qq => kr_x qq)
    refine kr_z (by decide) q_53 fun v_48 f_49 R_51 E_52 => ?_
    have E_54 := Ext.tr E_44 E_52
    refine go_pop (by decide +kernel) f_49 (Or.inl rfl) ?_
    cases h
    exact go_vret (by decide +kernel) rfl (hQ E_54 _ _ R_51 q_out_n)
  · have h := it_f hp_15 h
    refine go_aload_n (n := 0) (by decide +kernel) l0 f0 ?_
    refine go_aload_n (n := 1) (by decide +kernel) l1 f1 ?_
    refine go_iconst (n := 2) (z := 2) (by decide +kernel) (by decide) fun v_55 f_56 => ?_
    refine go_iload_n (n := 2) (by decide +kernel) l2 f2 ?_
    refine go_iconst (n := 0) (z := 0) (by decide +kernel) (by decide) fun v_57 f_58 => ?_
    obtain ⟨x_60, m_61, hc_59, h⟩ := bd_s h
    refine go_callV (x := 204) (mi := 152) (n := 4) (ci := 12) (as := [v1, v_55, v2, v_57]) (rest := []) (by decide +kernel) (by decide +kernel) rfl rfl (q_sum8 _ (Nat.le_of_ble_eq_true rfl)) R_10 f0 (fx_k (c := 12) R_10 (by decide +kernel)) (om_X11_arrive (Nat.le_trans (by decide) hd) R_10 f0 f1 f_56 f2 f_58 hc_59) (fun _ S_64 q_67 => ?_) (fun _ _ qq => kr_x qq)
    refine kr_v q_67 fun R_65 E_66 => ?_
    have E_68 := E_66
    refine go_goto (o := 27) (t := 47) (by decide +kernel) (by decide +kernel) ?_
    cases h
    exact go_vret (by decide +kernel) rfl (hQ E_68 _ _ R_65 q_out_n)
end DF15
