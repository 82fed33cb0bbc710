/-! Methods as functions (written by wip/whole/dec.py), 29: X12_cancelsBranch, X12_isBelow, X12_dropsBranch, X12_wins, X12_races, X12_hasChild. -/
section DF29
noncomputable def fm_X12_cancelsBranch (p1 : Int) (m0 : MM) : Option (Int × MM) := gd (0 ≤ p1 ∧ p1 < 12) <| up m0 151 p1 0 fun m_7 =>
bd (fm_X12_lets p1 m_7) fun x_14 m_15 =>
bp (fm_X12_goes m_15) fun x_24 =>
if x_24 = 0 then
some (0, m_15)
else
bd (fm_X12_failsBranch p1 m_15) fun x_34 m_35 =>
some (0, m_35)
set_option maxHeartbeats 4000000 in
theorem om_X12_cancelsBranch {xs : List Int32} {d : Nat} {S : QS} {m0 : MM} {p1 : Int} {v0 : Value} {v1 : Value} {rz : Int} {rm : MM}
  (hd : 7 ≤ d) (R : Rp S m0) (f0 : q_is 2 v0 68) (f1 : q_is 0 v1 p1)
  (h : fm_X12_cancelsBranch p1 m0 = some (rz, rm)) : Mt xs d 229 [v0, v1] S (Cr 9 m0 rm rz) := by
  obtain ⟨d, rfl⟩ : ∃ e, d = e + 1 := ⟨d - 1, by omega⟩
  have hd : 6 ≤ d := Nat.le_of_succ_le_succ hd
  refine Mt.of (M := qM_X12_cancelsBranch) rfl (by rw [sl_1 (q_is_cat f0 (Or.inr rfl)), sl_1 (q_is_cat f1 (Or.inl rfl)), sl_0]; decide) ?_
  rw [la_1 (q_is_cat f0 (Or.inr rfl)), la_1 (q_is_cat f1 (Or.inl rfl)), la_0]
  obtain ⟨L, hL⟩ : ∃ L : QL, L = [(0, v0), (0 + 1, v1)] := ⟨_, rfl⟩
  rw [← hL]
  have l0 : q_lo L 0 = some v0 := by rw [hL]; rfl
  have l1 : q_lo L 1 = some v1 := by rw [hL]; rfl
  have hQ : Ext m0 rm → ∀ o S1, Rp S1 rm → q_out 9 o rz → (Cr 9 m0 rm rz) o S1 := fun a o S1 b e => ⟨b, a, e⟩
  unfold fm_X12_cancelsBranch at h
  refine go_aload_n (n := 0) (by decide +kernel) l0 f0 ?_
  refine go_getf (x := 268) (ci := 13) (kf := 101) (fin := 1) (t := 2) (by decide +kernel) (by decide +kernel) (by decide +kernel) R f0 (fx_k (c := 13) R (by decide +kernel)) fun v_1 f_2 => ?_
  have f_3 := q_is_eq (b := 151) f_2 (fx_v R (by decide +kernel)).symm
  refine go_iload_n (n := 1) (by decide +kernel) l1 f1 ?_
  refine go_iconst (n := 0) (z := 0) (by decide +kernel) (by decide) fun v_4 f_5 => ?_
  obtain ⟨g_6, h⟩ := gd_s h
  obtain ⟨m_7, e_8, h⟩ := up_s h
  refine go_bast (kd := 102) (by decide +kernel) rfl R f_3 f1 f_5 (by decide) (fx_k (c := 102) R (by decide +kernel)) (fx_x (a := 151) (ln := 12) R (by decide +kernel) g_6) e_8 (fx_a R.2 (fx_k (c := 102) R (by decide +kernel)) (And.left (fx_x (a := 151) (ln := 12) R (by decide +kernel) g_6)) (by decide +kernel)) fun S_9 R_10 E_11 => ?_
  have E_12 := E_11
  refine go_aload_n (n := 0) (by decide +kernel) l0 f0 ?_
  refine go_iload_n (n := 1) (by decide +kernel) l1 f1 ?_
  obtain ⟨x_14, m_15, hc_13, h⟩ := bd_s h
  refine go_callV (x := 436) (mi := 228) (n := 1) (ci := 13) (as := [v1]) (rest := []) (by decide +kernel) (by decide +kernel) rfl rfl (q_sum8 _ (Nat.le_of_ble_eq_true rfl)) R_10 f0 (fx_k (c := 13) R_10 (by decide +kernel)) (om_X12_lets (Nat.le_trans (by decide) hd) R_10 f0 f1 hc_13) (fun _ S_18 q_21 => ?_) (fun _ _ qq => kr_x qq)
  refine kr_v q_21 fun R_19 E_20 => ?_
  have E_22 := Ext.tr E_12 E_20
  refine go_aload_n (n := 0) (by decide +kernel) l0 f0 ?_
  obtain ⟨x_24, hc_23, h⟩ := bp_s h
  refine go_callV (x := 439) (mi := 216) (n := 0) (ci := 13) (as := []) (rest := []) (by decide +kernel) (by decide +kernel) rfl rfl (q_sum8 _ (Nat.le_of_ble_eq_true rfl)) R_19 f0 (fx_k (c := 13) R_19 (by decide +kernel)) (om_X12_goes (Nat.le_trans (by decide) hd) R_19 f0 hc_23) (fun _ S_28 q_31 => ?_) (fun _ _ qq => kr_x qq)
  refine kr_z (by decide) q_31 fun v_26 f_27 R_29 E_30 => ?_
  refine go_if (c := .eq) (o := 8) (t := 24) (P := x_24 = 0) (by decide +kernel) (by decide +kernel) f_27 (Iff.rfl) (fun hp_32 => ?_) (fun hp_32 => ?_)
  · have h := it_t hp_32 h
    cases h
    exact go_vret (by decide +kernel) rfl (hQ E_22 _ _ R_29 q_out_n)
  · have h := it_f hp_32 h
    refine go_aload_n (n := 0) (by decide +kernel) l0 f0 ?_
    refine go_iload_n (n := 1) (by decide +kernel) l1 f1 ?_
    obtain ⟨x_34, m_35, hc_33, h⟩ := bd_s h
    refine go_callV (x := 443) (mi := 227) (n := 1) (ci := 13) (as := [v1]) (rest := []) (by decide +kernel) (by decide +kernel) rfl rfl (q_sum8 _ (Nat.le_of_ble_eq_true rfl)) R_29 f0 (fx_k (c := 13) R_29 (by decide +kernel)) (om_X12_failsBranch (Nat.le_trans (by decide) hd) R_29 f0 f1 hc_33) (fun _ S_38 q_41 => ?_) (fun _ _ qq => kr_x qq)
    refine kr_v q_41 fun R_39 E_40 => ?_
    have E_42 := Ext.tr E_22 E_40
    cases h
    exact go_vret (by decide +kernel) rfl (hQ E_42 _ _ R_39 q_out_n)
noncomputable def fl_X12_isBelow_2 (y2 : Int) (m0 : MM) (k22 : Int → Option Int) : Nat → Int → Option Int
  | 0, _ => none
  | n + 1, y3 => if y3 = (-1) then
k22 y3
else
if y3 = y2 then
k22 y3
else
gd (0 ≤ y3 ∧ y3 < 196608) <| lx (m0 152 y3) fun x_17 =>
fl_X12_isBelow_2 y2 m0 k22 n x_17
set_option maxHeartbeats 4000000 in
theorem ol_X12_isBelow_2 {xs : List Int32} {d : Nat} {Q : QO → QS → Prop} {m0 : MM} {y2 : Int} {k22 : Int → Option Int} {rz : Int}
  (hd : 0 ≤ d)
  (hk22 : ∀ {z3 : Int} {Sq : QS} {Lq : QL} {u2 : Value} {u3 : Value}, k22 z3 = some rz → Rp Sq m0 → q_lo Lq 2 = some u2 → q_is 0 u2 y2 → q_lo Lq 3 = some u3 → q_is 0 u3 z3 → Go xs d qM_X12_isBelow 22 Lq [] Sq Q)
  (hQ : ∀ o S1, Rp S1 m0 → q_out 0 o rz → Q o S1) :
  ∀ (n : Nat) {S : QS} {L : QL} {y3 : Int} {v0 : Value} {v2 : Value} {v3 : Value} , fl_X12_isBelow_2 y2 m0 k22 n y3 = some rz → Rp S m0 → q_lo L 0 = some v0 → q_is 2 v0 68 → q_lo L 2 = some v2 → q_is 0 v2 y2 → q_lo L 3 = some v3 → q_is 0 v3 y3 → Go xs d qM_X12_isBelow 2 L [] S Q := by
  intro n
  induction n with
  | zero => intro S L y3 v0 v2 v3; intro h R l0 f0 l2 f2 l3 f3; cases h
  | succ n ih0 =>
    intro S L y3 v0 v2 v3; intro h R l0 f0 l2 f2 l3 f3
    have ih : ∀ {z3 : Int} {Sq : QS} {Lq : QL} {u0 : Value} {u2 : Value} {u3 : Value}, fl_X12_isBelow_2 y2 m0 k22 n z3 = some rz → Rp Sq m0 → q_lo Lq 0 = some u0 → q_is 2 u0 68 → q_lo Lq 2 = some u2 → q_is 0 u2 y2 → q_lo Lq 3 = some u3 → q_is 0 u3 z3 → Go xs d qM_X12_isBelow 2 Lq [] Sq Q := by intros; exact ih0 ‹_› ‹_› ‹_› ‹_› ‹_› ‹_› ‹_› ‹_›
    unfold fl_X12_isBelow_2 at h
    refine go_iload_n (n := 3) (by decide +kernel) l3 f3 ?_
    refine go_iconst (n := (-1)) (z := (-1)) (by decide +kernel) (by decide) fun v_6 f_7 => ?_
    refine go_icmp (c := .eq) (o := 18) (t := 22) (P := y3 = (-1)) (by decide +kernel) (by decide +kernel) f3 f_7 (Iff.rfl) (fun hp_8 => ?_) (fun hp_8 => ?_)
    · have h := it_t hp_8 h
      exact hk22 h R l2 f2 l3 f3
    · have h := it_f hp_8 h
      refine go_iload_n (n := 3) (by decide +kernel) l3 f3 ?_
      refine go_iload_n (n := 2) (by decide +kernel) l2 f2 ?_
      refine go_icmp (c := .eq) (o := 13) (t := 22) (P := y3 = y2) (by decide +kernel) (by decide +kernel) f3 f2 (Iff.rfl) (fun hp_9 => ?_) (fun hp_9 => ?_)
      · have h := it_t hp_9 h
        exact hk22 h R l2 f2 l3 f3
      · have h := it_f hp_9 h
        refine go_aload_n (n := 0) (by decide +kernel) l0 f0 ?_
        refine go_getf (x := 272) (ci := 13) (kf := 102) (fin := 1) (t := 2) (by decide +kernel) (by decide +kernel) (by decide +kernel) R f0 (fx_k (c := 13) R (by decide +kernel)) fun v_10 f_11 => ?_
        have f_12 := q_is_eq (b := 152) f_11 (fx_v R (by decide +kernel)).symm
        refine go_iload_n (n := 3) (by decide +kernel) l3 f3 ?_
        obtain ⟨g_15, h⟩ := gd_s h
        obtain ⟨x_17, e_18, h⟩ := lx_s h
        refine go_iald (kd := 100) (by decide +kernel) rfl R f_12 f3 (fx_k (c := 100) R (by decide +kernel)) (fx_x (a := 152) (ln := 196608) R (by decide +kernel) g_15) fun v_13 f_14 => ?_
        have f_16 := q_is_eq f_14 e_18
        refine go_istore_n (n := 3) (by decide +kernel) (by decide +kernel) f_16 fun L_19 l_20 kp_21 => ?_
        have l_22 := kp_21 0 _ l0 (by decide) (Or.inl (by decide))
        have l_23 := kp_21 2 _ l2 (by decide) (Or.inr (q_is_cat f2 (Or.inl rfl)))
        refine go_goto (o := (-17)) (t := 2) (by decide +kernel) (by decide +kernel) ?_
        exact ih h R l_22 f0 l_23 f2 l_20 f_16
noncomputable def fm_X12_isBelow (p1 p2 : Int) (m0 : MM) : Option Int := fl_X12_isBelow_2 p2 m0 (fun x_24 =>
if x_24 = p2 then
some 1
else
some 0) BIG p1
set_option maxHeartbeats 4000000 in
theorem om_X12_isBelow {xs : List Int32} {d : Nat} {S : QS} {m0 : MM} {p1 p2 : Int} {v0 : Value} {v1 : Value} {v2 : Value} {rz : Int}
  (hd : 1 ≤ d) (R : Rp S m0) (f0 : q_is 2 v0 68) (f1 : q_is 0 v1 p1) (f2 : q_is 0 v2 p2)
  (h : fm_X12_isBelow p1 p2 m0 = some rz) : Mt xs d 230 [v0, v1, v2] S (Cr 0 m0 m0 rz) := by
  obtain ⟨d, rfl⟩ : ∃ e, d = e + 1 := ⟨d - 1, by omega⟩
  have hd : 0 ≤ d := Nat.le_of_succ_le_succ hd
  refine Mt.of (M := qM_X12_isBelow) rfl (by rw [sl_1 (q_is_cat f0 (Or.inr rfl)), sl_1 (q_is_cat f1 (Or.inl rfl)), sl_1 (q_is_cat f2 (Or.inl rfl)), sl_0]; decide) ?_
  rw [la_1 (q_is_cat f0 (Or.inr rfl)), la_1 (q_is_cat f1 (Or.inl rfl)), la_1 (q_is_cat f2 (Or.inl rfl)), la_0]
  obtain ⟨L, hL⟩ : ∃ L : QL, L = [(0, v0), (0 + 1, v1), (0 + 1 + 1, v2)] := ⟨_, rfl⟩
  rw [← hL]
  have l0 : q_lo L 0 = some v0 := by rw [hL]; rfl
  have l1 : q_lo L 1 = some v1 := by rw [hL]; rfl
  have l2 : q_lo L 2 = some v2 := by rw [hL]; rfl
  have hQ : ∀ o S1, Rp S1 m0 → q_out 0 o rz → (Cr 0 m0 m0 rz) o S1 := fun o S1 a b => ⟨a, Ext.rf _, b⟩
  unfold fm_X12_isBelow at h
  refine go_iload_n (n := 1) (by decide +kernel) l1 f1 ?_
  refine go_istore_n (n := 3) (by decide +kernel) (by decide +kernel) f1 fun L_1 l_2 kp_3 => ?_
  have l_4 := kp_3 0 _ l0 (by decide) (Or.inl (by decide))
  have l_5 := kp_3 2 _ l2 (by decide) (Or.inr (q_is_cat f2 (Or.inl rfl)))
  refine ol_X12_isBelow_2 hd  ?_ hQ BIG h R l_4 f0 l_5 f2 l_2 f1
  intro x_24 S_31 L_32 v_25 v_26
  intro h R_33 l_27 f_29 l_28 f_30
  refine go_iload_n (n := 3) (by decide +kernel) l_28 f_30 ?_
  refine go_iload_n (n := 2) (by decide +kernel) l_27 f_29 ?_
  refine go_icmp (c := .ne) (o := 7) (t := 31) (P := ¬ (x_24 = p2)) (by decide +kernel) (by decide +kernel) f_30 f_29 (Iff.rfl) (fun hp_34 => ?_) (fun hp_34 => ?_)
  · have h := it_f hp_34 h
    refine go_iconst (n := 0) (z := 0) (by decide +kernel) (by decide) fun v_35 f_36 => ?_
    cases h
    exact go_iret (by decide +kernel) rfl (Or.inr ⟨rfl, by decide⟩) f_36 (hQ _ _ R_33 (q_out_v (by decide) f_36))
  · have h := it_n hp_34 h
    refine go_iconst (n := 1) (z := 1) (by decide +kernel) (by decide) fun v_37 f_38 => ?_
    refine go_goto (o := 4) (t := 32) (by decide +kernel) (by decide +kernel) ?_
    cases h
    exact go_iret (by decide +kernel) rfl (Or.inr ⟨rfl, by decide⟩) f_38 (hQ _ _ R_33 (q_out_v (by decide) f_38))
noncomputable def fl_X12_dropsBranch_2 (y1 : Int) (k42 : MM → Option (Int × MM)) : Nat → Int → MM → Option (Int × MM)
  | 0, _, _ => none
  | n + 1, y2, m => lx (m 68 91) fun x_11 =>
if y2 < x_11 then
bp (fm_X12_goes m) fun x_15 =>
if x_15 = 0 then
k42 m
else
gd (0 ≤ y2 ∧ y2 < 12) <| lx (m 143 y2) fun x_31 =>
bp (fm_X12_isBelow x_31 y1 m) fun x_34 =>
if x_34 = 0 then
lx (w32 (y2 + 1)) fun x_48 =>
fl_X12_dropsBranch_2 y1 k42 n x_48 m
else
bd (fm_X12_lets y2 m) fun x_54 m_55 =>
lx (w32 (y2 + 1)) fun x_68 =>
fl_X12_dropsBranch_2 y1 k42 n x_68 m_55
else
k42 m
set_option maxHeartbeats 4000000 in
theorem ol_X12_dropsBranch_2 {xs : List Int32} {d : Nat} {Q : QO → QS → Prop} {mb : MM} {y1 : Int} {k42 : MM → Option (Int × MM)} {rz : Int} {rm : MM}
  (hd : 5 ≤ d)
  (hk42 : ∀ mq : MM, Ext mb mq → ∀ {Sq : QS} {Lq : QL} {u0 : Value} {u1 : Value}, k42 mq = some (rz, rm) → Rp Sq mq → q_lo Lq 0 = some u0 → q_is 2 u0 68 → q_lo Lq 1 = some u1 → q_is 0 u1 y1 → Go xs d qM_X12_dropsBranch 42 Lq [] Sq Q)
  (hQ : Ext mb rm → ∀ o S1, Rp S1 rm → q_out 9 o rz → Q o S1) :
  ∀ (n : Nat) {m : MM} {S : QS} {L : QL} {y2 : Int} {v0 : Value} {v1 : Value} {v2 : Value} , Ext mb m → fl_X12_dropsBranch_2 y1 k42 n y2 m = some (rz, rm) → Rp S m → q_lo L 0 = some v0 → q_is 2 v0 68 → q_lo L 1 = some v1 → q_is 0 v1 y1 → q_lo L 2 = some v2 → q_is 0 v2 y2 → Go xs d qM_X12_dropsBranch 2 L [] S Q := by
  intro n
  induction n with
  | zero => intro m S L y2 v0 v1 v2; intro E h R l0 f0 l1 f1 l2 f2; cases h
  | succ n ih0 =>
    intro m S L y2 v0 v1 v2; intro E h R l0 f0 l1 f1 l2 f2
    have ih : ∀ mq : MM, Ext mb mq → ∀ {z2 : Int} {Sq : QS} {Lq : QL} {u0 : Value} {u1 : Value} {u2 : Value}, fl_X12_dropsBranch_2 y1 k42 n z2 mq = some (rz, rm) → Rp Sq mq → q_lo Lq 0 = some u0 → q_is 2 u0 68 → q_lo Lq 1 = some u1 → q_is 0 u1 y1 → q_lo Lq 2 = some u2 → q_is 0 u2 z2 → Go xs d qM_X12_dropsBranch 2 Lq [] Sq Q := fun mq b => by intros; exact ih0 b ‹_› ‹_› ‹_› ‹_› ‹_› ‹_› ‹_› ‹_›
    unfold fl_X12_dropsBranch_2 at h
    refine go_iload_n (n := 2) (by decide +kernel) l2 f2 ?_
    refine go_aload_n (n := 0) (by decide +kernel) l0 f0 ?_
    obtain ⟨x_11, e_12, h⟩ := lx_s h
    refine go_getf (x := 368) (ci := 13) (kf := 91) (fin := 0) (t := 0) (by decide +kernel) (by decide +kernel) (by decide +kernel) R f0 (fx_k (c := 13) R (by decide +kernel)) fun v_8 f_9 => ?_
    have f_10 := q_is_eq f_9 e_12
    refine go_icmp (c := .ge) (o := 35) (t := 42) (P := ¬ (y2 < x_11)) (by decide +kernel) (by decide +kernel) f2 f_10 (Int.not_lt.symm) (fun hp_13 => ?_) (fun hp_13 => ?_)
    · have h := it_f hp_13 h
      exact hk42 m E h R l0 f0 l1 f1
    · have h := it_n hp_13 h
      refine go_aload_n (n := 0) (by decide +kernel) l0 f0 ?_
      obtain ⟨x_15, hc_14, h⟩ := bp_s h
      refine go_callV (x := 439) (mi := 216) (n := 0) (ci := 13) (as := []) (rest := []) (by decide +kernel) (by decide +kernel) rfl rfl (q_sum8 _ (Nat.le_of_ble_eq_true rfl)) R f0 (fx_k (c := 13) R (by decide +kernel)) (om_X12_goes (Nat.le_trans (by decide) hd) R f0 hc_14) (fun _ S_19 q_22 => ?_) (fun _ _ qq => kr_x qq)
      refine kr_z (by decide) q_22 fun v_17 f_18 R_20 E_21 => ?_
      refine go_if (c := .eq) (o := 28) (t := 42) (P := x_15 = 0) (by decide +kernel) (by decide +kernel) f_18 (Iff.rfl) (fun hp_23 => ?_) (fun hp_23 => ?_)
      · have h := it_t hp_23 h
        exact hk42 m E h R_20 l0 f0 l1 f1
      · have h := it_f hp_23 h
        refine go_aload_n (n := 0) (by decide +kernel) l0 f0 ?_
        refine go_aload_n (n := 0) (by decide +kernel) l0 f0 ?_
        refine go_getf (x := 244) (ci := 13) (kf := 93) (fin := 1) (t := 2) (by decide +kernel) (by decide +kernel) (by decide +kernel) R_20 f0 (fx_k (c := 13) R_20 (by decide +kernel)) fun v_24 f_25 => ?_
        have f_26 := q_is_eq (b := 143) f_25 (fx_v R_20 (by decide +kernel)).symm
        refine go_iload_n (n := 2) (by decide +kernel) l2 f2 ?_
        obtain ⟨g_29, h⟩ := gd_s h
        obtain ⟨x_31, e_32, h⟩ := lx_s h
        refine go_iald (kd := 100) (by decide +kernel) rfl R_20 f_26 f2 (fx_k (c := 100) R_20 (by decide +kernel)) (fx_x (a := 143) (ln := 12) R_20 (by decide +kernel) g_29) fun v_27 f_28 => ?_
        have f_30 := q_is_eq f_28 e_32
        refine go_iload_n (n := 1) (by decide +kernel) l1 f1 ?_
        obtain ⟨x_34, hc_33, h⟩ := bp_s h
        refine go_callV (x := 446) (mi := 230) (n := 2) (ci := 13) (as := [v_27, v1]) (rest := []) (by decide +kernel) (by decide +kernel) rfl rfl (q_sum8 _ (Nat.le_of_ble_eq_true rfl)) R_20 f0 (fx_k (c := 13) R_20 (by decide +kernel)) (om_X12_isBelow (Nat.le_trans (by decide) hd) R_20 f0 f_30 f1 hc_33) (fun _ S_38 q_41 => ?_) (fun _ _ qq => kr_x qq)
        refine kr_z (by decide) q_41 fun v_36 f_37 R_39 E_40 => ?_
        refine go_if (c := .eq) (o := 8) (t := 36) (P := x_34 = 0) (by decide +kernel) (by decide +kernel) f_37 (Iff.rfl) (fun hp_42 => ?_) (fun hp_42 => ?_)
        · have h := it_t hp_42 h
          refine go_iinc (n := 2) (c := 1) (c' := 1) (by decide +kernel) (by decide +kernel) l2 f2 (by decide) fun L_43 v_44 f_45 l_46 kp_47 => ?_
          obtain ⟨x_48, e_49, h⟩ := lx_s h
          have f_50 := q_is_eq f_45 e_49
          have l_51 := kp_47 0 _ l0 (by decide) (Or.inl (by decide))
          have l_52 := kp_47 1 _ l1 (by decide) (Or.inr (q_is_cat f1 (Or.inl rfl)))
          refine go_goto (o := (-37)) (t := 2) (by decide +kernel) (by decide +kernel) ?_
          exact ih m E h R_39 l_51 f0 l_52 f1 l_46 f_50
        · have h := it_f hp_42 h
          refine go_aload_n (n := 0) (by decide +kernel) l0 f0 ?_
          refine go_iload_n (n := 2) (by decide +kernel) l2 f2 ?_
          obtain ⟨x_54, m_55, hc_53, h⟩ := bd_s h
          refine go_callV (x := 436) (mi := 228) (n := 1) (ci := 13) (as := [v2]) (rest := []) (by decide +kernel) (by decide +kernel) rfl rfl (q_sum8 _ (Nat.le_of_ble_eq_true rfl)) R_39 f0 (fx_k (c := 13) R_39 (by decide +kernel)) (om_X12_lets (Nat.le_trans (by decide) hd) R_39 f0 f2 hc_53) (fun _ S_58 q_61 => ?_) (fun _ _ qq => kr_x qq)
          refine kr_v q_61 fun R_59 E_60 => ?_
          have E_62 := Ext.tr E E_60
          refine go_iinc (n := 2) (c := 1) (c' := 1) (by decide +kernel) (by decide +kernel) l2 f2 (by decide) fun L_63 v_64 f_65 l_66 kp_67 => ?_
          obtain ⟨x_68, e_69, h⟩ := lx_s h
          have f_70 := q_is_eq f_65 e_69
          have l_71 := kp_67 0 _ l0 (by decide) (Or.inl (by decide))
          have l_72 := kp_67 1 _ l1 (by decide) (Or.inr (q_is_cat f1 (Or.inl rfl)))
          refine go_goto (o := (-37)) (t := 2) (by decide +kernel) (by decide +kernel) ?_
          exact ih m_55 E_62 h R_59 l_71 f0 l_72 f1 l_66 f_70
noncomputable def fl_X12_dropsBranch_49 (y1 : Int) : Nat → Int → MM → Option (Int × MM)
  | 0, _, _ => none
  | n + 1, y2, m => if y2 < 0 then
some (0, m)
else
bp (fm_X12_goes m) fun x_104 =>
if x_104 = 0 then
some (0, m)
else
gd (0 ≤ y2 ∧ y2 < 12) <| lx (m 143 y2) fun x_120 =>
bp (fm_X12_isBelow x_120 y1 m) fun x_123 =>
if x_123 = 0 then
lx (w32 (y2 + (-1))) fun x_137 =>
fl_X12_dropsBranch_49 y1 n x_137 m
else
bd (fm_X12_removes y2 m) fun x_143 m_144 =>
lx (w32 (y2 + (-1))) fun x_157 =>
fl_X12_dropsBranch_49 y1 n x_157 m_144
set_option maxHeartbeats 4000000 in
theorem ol_X12_dropsBranch_49 {xs : List Int32} {d : Nat} {Q : QO → QS → Prop} {mb : MM} {y1 : Int} {rz : Int} {rm : MM}
  (hd : 5 ≤ d)
  (hQ : Ext mb rm → ∀ o S1, Rp S1 rm → q_out 9 o rz → Q o S1) :
  ∀ (n : Nat) {m : MM} {S : QS} {L : QL} {y2 : Int} {v0 : Value} {v1 : Value} {v2 : Value} , Ext mb m → fl_X12_dropsBranch_49 y1 n y2 m = some (rz, rm) → Rp S m → q_lo L 0 = some v0 → q_is 2 v0 68 → q_lo L 1 = some v1 → q_is 0 v1 y1 → q_lo L 2 = some v2 → q_is 0 v2 y2 → Go xs d qM_X12_dropsBranch 49 L [] S Q := by
  intro n
  induction n with
  | zero => intro m S L y2 v0 v1 v2; intro E h R l0 f0 l1 f1 l2 f2; cases h
  | succ n ih0 =>
    intro m S L y2 v0 v1 v2; intro E h R l0 f0 l1 f1 l2 f2
    have ih : ∀ mq : MM, Ext mb mq → ∀ {z2 : Int} {Sq : QS} {Lq : QL} {u0 : Value} {u1 : Value} {u2 : Value}, fl_X12_dropsBranch_49 y1 n z2 mq = some (rz, rm) → Rp Sq mq → q_lo Lq 0 = some u0 → q_is 2 u0 68 → q_lo Lq 1 = some u1 → q_is 0 u1 y1 → q_lo Lq 2 = some u2 → q_is 0 u2 z2 → Go xs d qM_X12_dropsBranch 49 Lq [] Sq Q := fun mq b => by intros; exact ih0 b ‹_› ‹_› ‹_› ‹_› ‹_› ‹_› ‹_› ‹_›
    unfold fl_X12_dropsBranch_49 at h
    refine go_iload_n (n := 2) (by decide +kernel) l2 f2 ?_
    refine go_if (c := .lt) (o := 35) (t := 85) (P := y2 < 0) (by decide +kernel) (by decide +kernel) f2 (Iff.rfl) (fun hp_102 => ?_) (fun hp_102 => ?_)
    · have h := it_t hp_102 h
      cases h
      exact go_vret (by decide +kernel) rfl (hQ E _ _ R q_out_n)
    · have h := it_f hp_102 h
      refine go_aload_n (n := 0) (by decide +kernel) l0 f0 ?_
      obtain ⟨x_104, hc_103, h⟩ := bp_s h
      refine go_callV (x := 439) (mi := 216) (n := 0) (ci := 13) (as := []) (rest := []) (by decide +kernel) (by decide +kernel) rfl rfl (q_sum8 _ (Nat.le_of_ble_eq_true rfl)) R f0 (fx_k (c := 13) R (by decide +kernel)) (om_X12_goes (Nat.le_trans (by decide) hd) R f0 hc_103) (fun _ S_108 q_111 => ?_) (fun _ _ qq => kr_x qq)
      refine kr_z (by decide) q_111 fun v_106 f_107 R_109 E_110 => ?_
      refine go_if (c := .eq) (o := 28) (t := 85) (P := x_104 = 0) (by decide +kernel) (by decide +kernel) f_107 (Iff.rfl) (fun hp_112 => ?_) (fun hp_112 => ?_)
      · have h := it_t hp_112 h
        cases h
        exact go_vret (by decide +kernel) rfl (hQ E _ _ R_109 q_out_n)
      · have h := it_f hp_112 h
        refine go_aload_n (n := 0) (by decide +kernel) l0 f0 ?_
        refine go_aload_n (n := 0) (by decide +kernel) l0 f0 ?_
        refine go_getf (x := 244) (ci := 13) (kf := 93) (fin := 1) (t := 2) (by decide +kernel) (by decide +kernel) (by decide +kernel) R_109 f0 (fx_k (c := 13) R_109 (by decide +kernel)) fun v_113 f_114 => ?_
        have f_115 := q_is_eq (b := 143) f_114 (fx_v R_109 (by decide +kernel)).symm
        refine go_iload_n (n := 2) (by decide +kernel) l2 f2 ?_
        obtain ⟨g_118, h⟩ := gd_s h
        obtain ⟨x_120, e_121, h⟩ := lx_s h
        refine go_iald (kd := 100) (by decide +kernel) rfl R_109 f_115 f2 (fx_k (c := 100) R_109 (by decide +kernel)) (fx_x (a := 143) (ln := 12) R_109 (by decide +kernel) g_118) fun v_116 f_117 => ?_
        have f_119 := q_is_eq f_117 e_121
        refine go_iload_n (n := 1) (by decide +kernel) l1 f1 ?_
        obtain ⟨x_123, hc_122, h⟩ := bp_s h
        refine go_callV (x := 446) (mi := 230) (n := 2) (ci := 13) (as := [v_116, v1]) (rest := []) (by decide +kernel) (by decide +kernel) rfl rfl (q_sum8 _ (Nat.le_of_ble_eq_true rfl)) R_109 f0 (fx_k (c := 13) R_109 (by decide +kernel)) (om_X12_isBelow (Nat.le_trans (by decide) hd) R_109 f0 f_119 f1 hc_122) (fun _ S_127 q_130 => ?_) (fun _ _ qq => kr_x qq)
        refine kr_z (by decide) q_130 fun v_125 f_126 R_128 E_129 => ?_
        refine go_if (c := .eq) (o := 8) (t := 79) (P := x_123 = 0) (by decide +kernel) (by decide +kernel) f_126 (Iff.rfl) (fun hp_131 => ?_) (fun hp_131 => ?_)
        · have h := it_t hp_131 h
          refine go_iinc (n := 2) (c := (-1)) (c' := (-1)) (by decide +kernel) (by decide +kernel) l2 f2 (by decide) fun L_132 v_133 f_134 l_135 kp_136 => ?_
          obtain ⟨x_137, e_138, h⟩ := lx_s h
          have f_139 := q_is_eq f_134 e_138
          have l_140 := kp_136 0 _ l0 (by decide) (Or.inl (by decide))
          have l_141 := kp_136 1 _ l1 (by decide) (Or.inr (q_is_cat f1 (Or.inl rfl)))
          refine go_goto (o := (-33)) (t := 49) (by decide +kernel) (by decide +kernel) ?_
          exact ih m E h R_128 l_140 f0 l_141 f1 l_135 f_139
        · have h := it_f hp_131 h
          refine go_aload_n (n := 0) (by decide +kernel) l0 f0 ?_
          refine go_iload_n (n := 2) (by decide +kernel) l2 f2 ?_
          obtain ⟨x_143, m_144, hc_142, h⟩ := bd_s h
          refine go_callV (x := 433) (mi := 224) (n := 1) (ci := 13) (as := [v2]) (rest := []) (by decide +kernel) (by decide +kernel) rfl rfl (q_sum8 _ (Nat.le_of_ble_eq_true rfl)) R_128 f0 (fx_k (c := 13) R_128 (by decide +kernel)) (om_X12_removes (Nat.le_trans (by decide) hd) R_128 f0 f2 hc_142) (fun _ S_147 q_150 => ?_) (fun _ _ qq => kr_x qq)
          refine kr_v q_150 fun R_148 E_149 => ?_
          have E_151 := Ext.tr E E_149
          refine go_iinc (n := 2) (c := (-1)) (c' := (-1)) (by decide +kernel) (by decide +kernel) l2 f2 (by decide) fun L_152 v_153 f_154 l_155 kp_156 => ?_
          obtain ⟨x_157, e_158, h⟩ := lx_s h
          have f_159 := q_is_eq f_154 e_158
          have l_160 := kp_156 0 _ l0 (by decide) (Or.inl (by decide))
          have l_161 := kp_156 1 _ l1 (by decide) (Or.inr (q_is_cat f1 (Or.inl rfl)))
          refine go_goto (o := (-33)) (t := 49) (by decide +kernel) (by decide +kernel) ?_
          exact ih m_144 E_151 h R_148 l_160 f0 l_161 f1 l_155 f_159
noncomputable def fm_X12_dropsBranch (p1 : Int) (m0 : MM) : Option (Int × MM) := fl_X12_dropsBranch_2 p1 (fun m_82 =>
lx (m_82 68 91) fun x_88 =>
lx (w32 (x_88 - 1)) fun x_94 =>
fl_X12_dropsBranch_49 p1  BIG x_94 m_82) BIG 0 m0
set_option maxHeartbeats 4000000 in
theorem om_X12_dropsBranch {xs : List Int32} {d : Nat} {S : QS} {m0 : MM} {p1 : Int} {v0 : Value} {v1 : Value} {rz : Int} {rm : MM}
  (hd : 6 ≤ d) (R : Rp S m0) (f0 : q_is 2 v0 68) (f1 : q_is 0 v1 p1)
  (h : fm_X12_dropsBranch p1 m0 = some (rz, rm)) : Mt xs d 231 [v0, v1] S (Cr 9 m0 rm rz) := by
  obtain ⟨d, rfl⟩ : ∃ e, d = e + 1 := ⟨d - 1, by omega⟩
  have hd : 5 ≤ d := Nat.le_of_succ_le_succ hd
  refine Mt.of (M := qM_X12_dropsBranch) rfl (by rw [sl_1 (q_is_cat f0 (Or.inr rfl)), sl_1 (q_is_cat f1 (Or.inl rfl)), sl_0]; decide) ?_
  rw [la_1 (q_is_cat f0 (Or.inr rfl)), la_1 (q_is_cat f1 (Or.inl rfl)), la_0]
  obtain ⟨L, hL⟩ : ∃ L : QL, L = [(0, v0), (0 + 1, v1)] := ⟨_, rfl⟩
  rw [← hL]
  have l0 : q_lo L 0 = some v0 := by rw [hL]; rfl
  have l1 : q_lo L 1 = some v1 := by rw [hL]; rfl
  have hQ : Ext m0 rm → ∀ o S1, Rp S1 rm → q_out 9 o rz → (Cr 9 m0 rm rz) o S1 := fun a o S1 b e => ⟨b, a, e⟩
  unfold fm_X12_dropsBranch at h
  refine go_iconst (n := 0) (z := 0) (by decide +kernel) (by decide) fun v_1 f_2 => ?_
  refine go_istore_n (n := 2) (by decide +kernel) (by decide +kernel) f_2 fun L_3 l_4 kp_5 => ?_
  have l_6 := kp_5 0 _ l0 (by decide) (Or.inl (by decide))
  have l_7 := kp_5 1 _ l1 (by decide) (Or.inr (q_is_cat f1 (Or.inl rfl)))
  refine ol_X12_dropsBranch_2 hd  ?_ hQ BIG (Ext.rf _) h R l_6 f0 l_7 f1 l_4 f_2
  intro m_82 E_83
  intro S_79 L_80 v_73 v_74
  intro h R_81 l_75 f_77 l_76 f_78
  have E_84 := E_83
  refine go_aload_n (n := 0) (by decide +kernel) l_75 f_77 ?_
  obtain ⟨x_88, e_89, h⟩ := lx_s h
  refine go_getf (x := 368) (ci := 13) (kf := 91) (fin := 0) (t := 0) (by decide +kernel) (by decide +kernel) (by decide +kernel) R_81 f_77 (fx_k (c := 13) R_81 (by decide +kernel)) fun v_85 f_86 => ?_
  have f_87 := q_is_eq f_86 e_89
  refine go_iconst (n := 1) (z := 1) (by decide +kernel) (by decide) fun v_90 f_91 => ?_
  refine go_isub (by decide +kernel) f_87 f_91 fun v_92 f_93 => ?_
  obtain ⟨x_94, e_95, h⟩ := lx_s h
  have f_96 := q_is_eq f_93 e_95
  refine go_istore_n (n := 2) (by decide +kernel) (by decide +kernel) f_96 fun L_97 l_98 kp_99 => ?_
  have l_100 := kp_99 0 _ l_75 (by decide) (Or.inl (by decide))
  have l_101 := kp_99 1 _ l_76 (by decide) (Or.inr (q_is_cat f_78 (Or.inl rfl)))
  refine ol_X12_dropsBranch_49 hd   (fun b => hQ (Ext.tr E_84 b)) BIG (Ext.rf _) h R_81 l_100 f_77 l_101 f_78 l_98 f_96
noncomputable def fj_X12_wins_28 (y1 y2 y3 s0 : Int) (m : MM) : Option (Int × MM) := gd (0 ≤ y1 ∧ y1 < 12) <| lx (m 144 y1) fun x_55 =>
up m 144 y1 (w32 (x_55 + 1)) fun m_61 =>
up m_61 149 y1 (-1) fun m_72 =>
if s0 = (-1) then
some (0, m_72)
else
gd (0 ≤ s0 ∧ s0 < 12) <| up m_72 149 s0 (-1) fun m_87 =>
gd (0 ≤ y2 ∧ y2 < 196608) <| lx (m_87 152 y2) fun x_100 =>
if x_100 = y3 then
lx (m_87 144 y1) fun x_119 =>
bd (fm_X12_lets s0 m_87) fun x_128 m_129 =>
up m_129 144 s0 x_119 fun m_140 =>
bp (fm_X12_goes m_140) fun x_147 =>
if x_147 = 0 then
some (0, m_140)
else
bd (fm_X12_dropsBranch y2 m_140) fun x_157 m_158 =>
some (0, m_158)
else
bd (fm_X12_dropsBranch y3 m_87) fun x_104 m_105 =>
some (0, m_105)
set_option maxHeartbeats 4000000 in
theorem oj_X12_wins_28 {xs : List Int32} {d : Nat} {S : QS} {L : QL} {Q : QO → QS → Prop} {m : MM} {y1 y2 y3 s0 : Int} {v0 : Value} {v1 : Value} {v2 : Value} {v3 : Value} {w0 : Value}  {rz : Int} {rm : MM}
  (hd : 6 ≤ d) (R : Rp S m) (l0 : q_lo L 0 = some v0) (f0 : q_is 2 v0 68) (l1 : q_lo L 1 = some v1) (f1 : q_is 0 v1 y1) (l2 : q_lo L 2 = some v2) (f2 : q_is 0 v2 y2) (l3 : q_lo L 3 = some v3) (f3 : q_is 0 v3 y3) (fs0 : q_is 0 w0 s0)
  (hQ : Ext m rm → ∀ o S1, Rp S1 rm → q_out 9 o rz → Q o S1)
  (h : fj_X12_wins_28 y1 y2 y3 s0 m = some (rz, rm)) : Go xs d qM_X12_wins 28 L [w0] S Q := by
  unfold fj_X12_wins_28 at h
  refine go_istore (n := 4) (by decide +kernel) (by decide +kernel) fs0 fun L_41 l_42 kp_43 => ?_
  have l_44 := kp_43 0 _ l0 (by decide) (Or.inl (by decide))
  have l_45 := kp_43 1 _ l1 (by decide) (Or.inl (by decide))
  have l_46 := kp_43 2 _ l2 (by decide) (Or.inl (by decide))
  have l_47 := kp_43 3 _ l3 (by decide) (Or.inr (q_is_cat f3 (Or.inl rfl)))
  refine go_aload_n (n := 0) (by decide +kernel) l_44 f0 ?_
  refine go_getf (x := 247) (ci := 13) (kf := 94) (fin := 1) (t := 2) (by decide +kernel) (by decide +kernel) (by decide +kernel) R f0 (fx_k (c := 13) R (by decide +kernel)) fun v_48 f_49 => ?_
  have f_50 := q_is_eq (b := 144) f_49 (fx_v R (by decide +kernel)).symm
  refine go_iload_n (n := 1) (by decide +kernel) l_45 f1 ?_
  refine go_dup2 (by decide +kernel) f1 (Or.inl rfl) f_50 (Or.inr rfl) ?_
  obtain ⟨g_53, h⟩ := gd_s h
  obtain ⟨x_55, e_56, h⟩ := lx_s h
  refine go_iald (kd := 100) (by decide +kernel) rfl R f_50 f1 (fx_k (c := 100) R (by decide +kernel)) (fx_x (a := 144) (ln := 12) R (by decide +kernel) g_53) fun v_51 f_52 => ?_
  have f_54 := q_is_eq f_52 e_56
  refine go_iconst (n := 1) (z := 1) (by decide +kernel) (by decide) fun v_57 f_58 => ?_
  refine go_iadd (by decide +kernel) f_54 f_58 fun v_59 f_60 => ?_
  obtain ⟨m_61, e_62, h⟩ := up_s h
  refine go_iast (kd := 100) (by decide +kernel) rfl R f_50 f1 f_60 (fx_k (c := 100) R (by decide +kernel)) (fx_x (a := 144) (ln := 12) R (by decide +kernel) g_53) e_62 (fx_a R.2 (fx_k (c := 100) R (by decide +kernel)) (And.left (fx_x (a := 144) (ln := 12) R (by decide +kernel) g_53)) (by decide +kernel)) fun S_63 R_64 E_65 => ?_
  have E_66 := E_65
  refine go_aload_n (n := 0) (by decide +kernel) l_44 f0 ?_
  refine go_getf (x := 262) (ci := 13) (kf := 99) (fin := 1) (t := 2) (by decide +kernel) (by decide +kernel) (by decide +kernel) R_64 f0 (fx_k (c := 13) R_64 (by decide +kernel)) fun v_67 f_68 => ?_
  have f_69 := q_is_eq (b := 149) f_68 (fx_v R_64 (by decide +kernel)).symm
  refine go_iload_n (n := 1) (by decide +kernel) l_45 f1 ?_
  refine go_iconst (n := (-1)) (z := (-1)) (by decide +kernel) (by decide) fun v_70 f_71 => ?_
  obtain ⟨m_72, e_73, h⟩ := up_s h
  refine go_iast (kd := 100) (by decide +kernel) rfl R_64 f_69 f1 f_71 (fx_k (c := 100) R_64 (by decide +kernel)) (fx_x (a := 149) (ln := 12) R_64 (by decide +kernel) g_53) e_73 (fx_a R_64.2 (fx_k (c := 100) R_64 (by decide +kernel)) (And.left (fx_x (a := 149) (ln := 12) R_64 (by decide +kernel) g_53)) (by decide +kernel)) fun S_74 R_75 E_76 => ?_
  have E_77 := Ext.tr E_66 E_76
  refine go_iload (n := 4) (by decide +kernel) l_42 fs0 ?_
  refine go_iconst (n := (-1)) (z := (-1)) (by decide +kernel) (by decide) fun v_78 f_79 => ?_
  refine go_icmp (c := .ne) (o := 4) (t := 54) (P := ¬ (s0 = (-1))) (by decide +kernel) (by decide +kernel) fs0 f_79 (Iff.rfl) (fun hp_80 => ?_) (fun hp_80 => ?_)
  · have h := it_f hp_80 h
    refine go_aload_n (n := 0) (by decide +kernel) l_44 f0 ?_
    refine go_getf (x := 262) (ci := 13) (kf := 99) (fin := 1) (t := 2) (by decide +kernel) (by decide +kernel) (by decide +kernel) R_75 f0 (fx_k (c := 13) R_75 (by decide +kernel)) fun v_81 f_82 => ?_
    have f_83 := q_is_eq (b := 149) f_82 (fx_v R_75 (by decide +kernel)).symm
    refine go_iload (n := 4) (by decide +kernel) l_42 fs0 ?_
    refine go_iconst (n := (-1)) (z := (-1)) (by decide +kernel) (by decide) fun v_84 f_85 => ?_
    obtain ⟨g_86, h⟩ := gd_s h
    obtain ⟨m_87, e_88, h⟩ := up_s h
    refine go_iast (kd := 100) (by decide +kernel) rfl R_75 f_83 fs0 f_85 (fx_k (c := 100) R_75 (by decide +kernel)) (fx_x (a := 149) (ln := 12) R_75 (by decide +kernel) g_86) e_88 (fx_a R_75.2 (fx_k (c := 100) R_75 (by decide +kernel)) (And.left (fx_x (a := 149) (ln := 12) R_75 (by decide +kernel) g_86)) (by decide +kernel)) fun S_89 R_90 E_91 => ?_
    have E_92 := Ext.tr E_77 E_91
    refine go_aload_n (n := 0) (by decide +kernel) l_44 f0 ?_
    refine go_getf (x := 272) (ci := 13) (kf := 102) (fin := 1) (t := 2) (by decide +kernel) (by decide +kernel) (by decide +kernel) R_90 f0 (fx_k (c := 13) R_90 (by decide +kernel)) fun v_93 f_94 => ?_
    have f_95 := q_is_eq (b := 152) f_94 (fx_v R_90 (by decide +kernel)).symm
    refine go_iload_n (n := 2) (by decide +kernel) l_46 f2 ?_
    obtain ⟨g_98, h⟩ := gd_s h
    obtain ⟨x_100, e_101, h⟩ := lx_s h
    refine go_iald (kd := 100) (by decide +kernel) rfl R_90 f_95 f2 (fx_k (c := 100) R_90 (by decide +kernel)) (fx_x (a := 152) (ln := 196608) R_90 (by decide +kernel) g_98) fun v_96 f_97 => ?_
    have f_99 := q_is_eq f_97 e_101
    refine go_iload_n (n := 3) (by decide +kernel) l_47 f3 ?_
    refine go_icmp (c := .ne) (o := 41) (t := 110) (P := ¬ (x_100 = y3)) (by decide +kernel) (by decide +kernel) f_99 f3 (Iff.rfl) (fun hp_102 => ?_) (fun hp_102 => ?_)
    · have h := it_f hp_102 h
      refine go_aload_n (n := 0) (by decide +kernel) l_44 f0 ?_
      refine go_iload_n (n := 3) (by decide +kernel) l_47 f3 ?_
      obtain ⟨x_104, m_105, hc_103, h⟩ := bd_s h
      refine go_callV (x := 452) (mi := 231) (n := 1) (ci := 13) (as := [v3]) (rest := []) (by decide +kernel) (by decide +kernel) rfl rfl (q_sum8 _ (Nat.le_of_ble_eq_true rfl)) R_90 f0 (fx_k (c := 13) R_90 (by decide +kernel)) (om_X12_dropsBranch (Nat.le_trans (by decide) hd) R_90 f0 f3 hc_103) (fun _ S_108 q_111 => ?_) (fun _ _ qq => kr_x qq)
      refine kr_v q_111 fun R_109 E_110 => ?_
      have E_112 := Ext.tr E_92 E_110
      cases h
      exact go_vret (by decide +kernel) rfl (hQ E_112 _ _ R_109 q_out_n)
    · have h := it_n hp_102 h
      refine go_aload_n (n := 0) (by decide +kernel) l_44 f0 ?_
      refine go_getf (x := 247) (ci := 13) (kf := 94) (fin := 1) (t := 2) (by decide +kernel) (by decide +kernel) (by decide +kernel) R_90 f0 (fx_k (c := 13) R_90 (by decide +kernel)) fun v_113 f_114 => ?_
      have f_115 := q_is_eq (b := 144) f_114 (fx_v R_90 (by decide +kernel)).symm
      refine go_iload_n (n := 1) (by decide +kernel) l_45 f1 ?_
      obtain ⟨x_119, e_120, h⟩ := lx_s h
      refine go_iald (kd := 100) (by decide +kernel) rfl R_90 f_115 f1 (fx_k (c := 100) R_90 (by decide +kernel)) (fx_x (a := 144) (ln := 12) R_90 (by decide +kernel) g_53) fun v_116 f_117 => ?_
      have f_118 := q_is_eq f_117 e_120
      refine go_istore (n := 5) (by decide +kernel) (by decide +kernel) f_118 fun L_121 l_122 kp_123 => ?_
      have l_124 := kp_123 0 _ l_44 (by decide) (Or.inl (by decide))
      have l_125 := kp_123 2 _ l_46 (by decide) (Or.inl (by decide))
      have l_126 := kp_123 4 _ l_42 (by decide) (Or.inr (q_is_cat fs0 (Or.inl rfl)))
      refine go_aload_n (n := 0) (by decide +kernel) l_124 f0 ?_
      refine go_iload (n := 4) (by decide +kernel) l_126 fs0 ?_
      obtain ⟨x_128, m_129, hc_127, h⟩ := bd_s h
      refine go_callV (x := 436) (mi := 228) (n := 1) (ci := 13) (as := [w0]) (rest := []) (by decide +kernel) (by decide +kernel) rfl rfl (q_sum8 _ (Nat.le_of_ble_eq_true rfl)) R_90 f0 (fx_k (c := 13) R_90 (by decide +kernel)) (om_X12_lets (Nat.le_trans (by decide) hd) R_90 f0 fs0 hc_127) (fun _ S_132 q_135 => ?_) (fun _ _ qq => kr_x qq)
      refine kr_v q_135 fun R_133 E_134 => ?_
      have E_136 := Ext.tr E_92 E_134
      refine go_aload_n (n := 0) (by decide +kernel) l_124 f0 ?_
      refine go_getf (x := 247) (ci := 13) (kf := 94) (fin := 1) (t := 2) (by decide +kernel) (by decide +kernel) (by decide +kernel) R_133 f0 (fx_k (c := 13) R_133 (by decide +kernel)) fun v_137 f_138 => ?_
      have f_139 := q_is_eq (b := 144) f_138 (fx_v R_133 (by decide +kernel)).symm
      refine go_iload (n := 4) (by decide +kernel) l_126 fs0 ?_
      refine go_iload (n := 5) (by decide +kernel) l_122 f_118 ?_
      obtain ⟨m_140, e_141, h⟩ := up_s h
      refine go_iast (kd := 100) (by decide +kernel) rfl R_133 f_139 fs0 f_118 (fx_k (c := 100) R_133 (by decide +kernel)) (fx_x (a := 144) (ln := 12) R_133 (by decide +kernel) g_86) e_141 (fx_a R_133.2 (fx_k (c := 100) R_133 (by decide +kernel)) (And.left (fx_x (a := 144) (ln := 12) R_133 (by decide +kernel) g_86)) (by decide +kernel)) fun S_142 R_143 E_144 => ?_
      have E_145 := Ext.tr E_136 E_144
      refine go_aload_n (n := 0) (by decide +kernel) l_124 f0 ?_
      obtain ⟨x_147, hc_146, h⟩ := bp_s h
      refine go_callV (x := 439) (mi := 216) (n := 0) (ci := 13) (as := []) (rest := []) (by decide +kernel) (by decide +kernel) rfl rfl (q_sum8 _ (Nat.le_of_ble_eq_true rfl)) R_143 f0 (fx_k (c := 13) R_143 (by decide +kernel)) (om_X12_goes (Nat.le_trans (by decide) hd) R_143 f0 hc_146) (fun _ S_151 q_154 => ?_) (fun _ _ qq => kr_x qq)
      refine kr_z (by decide) q_154 fun v_149 f_150 R_152 E_153 => ?_
      refine go_if (c := .eq) (o := 8) (t := 107) (P := x_147 = 0) (by decide +kernel) (by decide +kernel) f_150 (Iff.rfl) (fun hp_155 => ?_) (fun hp_155 => ?_)
      · have h := it_t hp_155 h
        refine go_goto (o := 8) (t := 115) (by decide +kernel) (by decide +kernel) ?_
        cases h
        exact go_vret (by decide +kernel) rfl (hQ E_145 _ _ R_152 q_out_n)
      · have h := it_f hp_155 h
        refine go_aload_n (n := 0) (by decide +kernel) l_124 f0 ?_
        refine go_iload_n (n := 2) (by decide +kernel) l_125 f2 ?_
        obtain ⟨x_157, m_158, hc_156, h⟩ := bd_s h
        refine go_callV (x := 452) (mi := 231) (n := 1) (ci := 13) (as := [v2]) (rest := []) (by decide +kernel) (by decide +kernel) rfl rfl (q_sum8 _ (Nat.le_of_ble_eq_true rfl)) R_152 f0 (fx_k (c := 13) R_152 (by decide +kernel)) (om_X12_dropsBranch (Nat.le_trans (by decide) hd) R_152 f0 f2 hc_156) (fun _ S_161 q_164 => ?_) (fun _ _ qq => kr_x qq)
        refine kr_v q_164 fun R_162 E_163 => ?_
        have E_165 := Ext.tr E_145 E_163
        refine go_goto (o := 8) (t := 115) (by decide +kernel) (by decide +kernel) ?_
        cases h
        exact go_vret (by decide +kernel) rfl (hQ E_165 _ _ R_162 q_out_n)
  · have h := it_n hp_80 h
    cases h
    exact go_vret (by decide +kernel) rfl (hQ E_77 _ _ R_75 q_out_n)
noncomputable def fm_X12_wins (p1 : Int) (m0 : MM) : Option (Int × MM) := gd (0 ≤ p1 ∧ p1 < 12) <| lx (m0 143 p1) fun x_8 =>
lx (m0 149 p1) fun x_21 =>
if x_21 = (-1) then
fj_X12_wins_28 p1 x_8 x_21 (-1) m0
else
bp (fm_X12_slot x_21 m0) fun x_33 =>
fj_X12_wins_28 p1 x_8 x_21 x_33 m0
set_option maxHeartbeats 4000000 in
theorem om_X12_wins {xs : List Int32} {d : Nat} {S : QS} {m0 : MM} {p1 : Int} {v0 : Value} {v1 : Value} {rz : Int} {rm : MM}
  (hd : 7 ≤ d) (R : Rp S m0) (f0 : q_is 2 v0 68) (f1 : q_is 0 v1 p1)
  (h : fm_X12_wins p1 m0 = some (rz, rm)) : Mt xs d 232 [v0, v1] S (Cr 9 m0 rm rz) := by
  obtain ⟨d, rfl⟩ : ∃ e, d = e + 1 := ⟨d - 1, by omega⟩
  have hd : 6 ≤ d := Nat.le_of_succ_le_succ hd
  refine Mt.of (M := qM_X12_wins) rfl (by rw [sl_1 (q_is_cat f0 (Or.inr rfl)), sl_1 (q_is_cat f1 (Or.inl rfl)), sl_0]; decide) ?_
  rw [la_1 (q_is_cat f0 (Or.inr rfl)), la_1 (q_is_cat f1 (Or.inl rfl)), la_0]
  obtain ⟨L, hL⟩ : ∃ L : QL, L = [(0, v0), (0 + 1, v1)] := ⟨_, rfl⟩
  rw [← hL]
  have l0 : q_lo L 0 = some v0 := by rw [hL]; rfl
  have l1 : q_lo L 1 = some v1 := by rw [hL]; rfl
  have hQ : Ext m0 rm → ∀ o S1, Rp S1 rm → q_out 9 o rz → (Cr 9 m0 rm rz) o S1 := fun a o S1 b e => ⟨b, a, e⟩
  unfold fm_X12_wins at h
  refine go_aload_n (n := 0) (by decide +kernel) l0 f0 ?_
  refine go_getf (x := 244) (ci := 13) (kf := 93) (fin := 1) (t := 2) (by decide +kernel) (by decide +kernel) (by decide +kernel) R f0 (fx_k (c := 13) R (by decide +kernel)) fun v_1 f_2 => ?_
  have f_3 := q_is_eq (b := 143) f_2 (fx_v R (by decide +kernel)).symm
  refine go_iload_n (n := 1) (by decide +kernel) l1 f1 ?_
  obtain ⟨g_6, h⟩ := gd_s h
  obtain ⟨x_8, e_9, h⟩ := lx_s h
  refine go_iald (kd := 100) (by decide +kernel) rfl R f_3 f1 (fx_k (c := 100) R (by decide +kernel)) (fx_x (a := 143) (ln := 12) R (by decide +kernel) g_6) fun v_4 f_5 => ?_
  have f_7 := q_is_eq f_5 e_9
  refine go_istore_n (n := 2) (by decide +kernel) (by decide +kernel) f_7 fun L_10 l_11 kp_12 => ?_
  have l_13 := kp_12 0 _ l0 (by decide) (Or.inl (by decide))
  have l_14 := kp_12 1 _ l1 (by decide) (Or.inr (q_is_cat f1 (Or.inl rfl)))
  refine go_aload_n (n := 0) (by decide +kernel) l_13 f0 ?_
  refine go_getf (x := 262) (ci := 13) (kf := 99) (fin := 1) (t := 2) (by decide +kernel) (by decide +kernel) (by decide +kernel) R f0 (fx_k (c := 13) R (by decide +kernel)) fun v_15 f_16 => ?_
  have f_17 := q_is_eq (b := 149) f_16 (fx_v R (by decide +kernel)).symm
  refine go_iload_n (n := 1) (by decide +kernel) l_14 f1 ?_
  obtain ⟨x_21, e_22, h⟩ := lx_s h
  refine go_iald (kd := 100) (by decide +kernel) rfl R f_17 f1 (fx_k (c := 100) R (by decide +kernel)) (fx_x (a := 149) (ln := 12) R (by decide +kernel) g_6) fun v_18 f_19 => ?_
  have f_20 := q_is_eq f_19 e_22
  refine go_istore_n (n := 3) (by decide +kernel) (by decide +kernel) f_20 fun L_23 l_24 kp_25 => ?_
  have l_26 := kp_25 0 _ l_13 (by decide) (Or.inl (by decide))
  have l_27 := kp_25 1 _ l_14 (by decide) (Or.inl (by decide))
  have l_28 := kp_25 2 _ l_11 (by decide) (Or.inr (q_is_cat f_7 (Or.inl rfl)))
  refine go_iload_n (n := 3) (by decide +kernel) l_24 f_20 ?_
  refine go_iconst (n := (-1)) (z := (-1)) (by decide +kernel) (by decide) fun v_29 f_30 => ?_
  refine go_icmp (c := .ne) (o := 7) (t := 23) (P := ¬ (x_21 = (-1))) (by decide +kernel) (by decide +kernel) f_20 f_30 (Iff.rfl) (fun hp_31 => ?_) (fun hp_31 => ?_)
  · have h := it_f hp_31 h
    refine go_aload_n (n := 0) (by decide +kernel) l_26 f0 ?_
    refine go_iload_n (n := 3) (by decide +kernel) l_24 f_20 ?_
    obtain ⟨x_33, hc_32, h⟩ := bp_s h
    refine go_callV (x := 449) (mi := 215) (n := 1) (ci := 13) (as := [v_18]) (rest := []) (by decide +kernel) (by decide +kernel) rfl rfl (q_sum8 _ (Nat.le_of_ble_eq_true rfl)) R f0 (fx_k (c := 13) R (by decide +kernel)) (om_X12_slot (Nat.le_trans (by decide) hd) R f0 f_20 hc_32) (fun _ S_37 q_40 => ?_) (fun _ _ qq => kr_x qq)
    refine kr_z (by decide) q_40 fun v_35 f_36 R_38 E_39 => ?_
    exact oj_X12_wins_28 hd R_38 l_26 f0 l_27 f1 l_28 f_7 l_24 f_20 f_36 hQ h
  · have h := it_n hp_31 h
    refine go_iconst (n := (-1)) (z := (-1)) (by decide +kernel) (by decide) fun v_166 f_167 => ?_
    refine go_goto (o := 8) (t := 28) (by decide +kernel) (by decide +kernel) ?_
    exact oj_X12_wins_28 hd R l_26 f0 l_27 f1 l_28 f_7 l_24 f_20 f_167 hQ h
noncomputable def fj_X12_races_37 (y1 y2 : Int) (m : MM) : Option (Int × MM) := gd (0 ≤ y1 ∧ y1 < 12) <| lx (m 143 y1) fun x_44 =>
bd (fm_X12_begins y2 x_44 m) fun x_47 m_48 =>
lx (m_48 68 114) fun x_59 =>
if x_59 = 0 then
lx (m_48 68 91) fun x_71 =>
gd (0 ≤ w32 (x_71 - 1) ∧ w32 (x_71 - 1) < 12) <| lx (m_48 143 (w32 (x_71 - 1))) fun x_81 =>
up m_48 149 y1 x_81 fun m_83 =>
lx (m_83 68 91) fun x_95 =>
lx (m_83 143 y1) fun x_107 =>
gd (0 ≤ w32 (x_95 - 1) ∧ w32 (x_95 - 1) < 12) <| up m_83 149 (w32 (x_95 - 1)) x_107 fun m_110 =>
some (0, m_110)
else
some (0, m_48)
set_option maxHeartbeats 4000000 in
theorem oj_X12_races_37 {xs : List Int32} {d : Nat} {S : QS} {L : QL} {Q : QO → QS → Prop} {m : MM} {y1 y2 : Int} {v0 : Value} {v1 : Value} {v2 : Value}  {rz : Int} {rm : MM}
  (hd : 2 ≤ d) (R : Rp S m) (l0 : q_lo L 0 = some v0) (f0 : q_is 2 v0 68) (l1 : q_lo L 1 = some v1) (f1 : q_is 0 v1 y1) (l2 : q_lo L 2 = some v2) (f2 : q_is 0 v2 y2)
  (hQ : Ext m rm → ∀ o S1, Rp S1 rm → q_out 9 o rz → Q o S1)
  (h : fj_X12_races_37 y1 y2 m = some (rz, rm)) : Go xs d qM_X12_races 37 L [] S Q := by
  unfold fj_X12_races_37 at h
  refine go_aload_n (n := 0) (by decide +kernel) l0 f0 ?_
  refine go_iload_n (n := 2) (by decide +kernel) l2 f2 ?_
  refine go_aload_n (n := 0) (by decide +kernel) l0 f0 ?_
  refine go_getf (x := 244) (ci := 13) (kf := 93) (fin := 1) (t := 2) (by decide +kernel) (by decide +kernel) (by decide +kernel) R f0 (fx_k (c := 13) R (by decide +kernel)) fun v_37 f_38 => ?_
  have f_39 := q_is_eq (b := 143) f_38 (fx_v R (by decide +kernel)).symm
  refine go_iload_n (n := 1) (by decide +kernel) l1 f1 ?_
  obtain ⟨g_42, h⟩ := gd_s h
  obtain ⟨x_44, e_45, h⟩ := lx_s h
  refine go_iald (kd := 100) (by decide +kernel) rfl R f_39 f1 (fx_k (c := 100) R (by decide +kernel)) (fx_x (a := 143) (ln := 12) R (by decide +kernel) g_42) fun v_40 f_41 => ?_
  have f_43 := q_is_eq f_41 e_45
  obtain ⟨x_47, m_48, hc_46, h⟩ := bd_s h
  refine go_callV (x := 455) (mi := 223) (n := 2) (ci := 13) (as := [v2, v_40]) (rest := []) (by decide +kernel) (by decide +kernel) rfl rfl (q_sum8 _ (Nat.le_of_ble_eq_true rfl)) R f0 (fx_k (c := 13) R (by decide +kernel)) (om_X12_begins (Nat.le_trans (by decide) hd) R f0 f2 f_43 hc_46) (fun _ S_51 q_54 => ?_) (fun _ _ qq => kr_x qq)
  refine kr_v q_54 fun R_52 E_53 => ?_
  have E_55 := E_53
  refine go_aload_n (n := 0) (by decide +kernel) l0 f0 ?_
  obtain ⟨x_59, e_60, h⟩ := lx_s h
  refine go_getf (x := 374) (ci := 13) (kf := 114) (fin := 0) (t := 0) (by decide +kernel) (by decide +kernel) (by decide +kernel) R_52 f0 (fx_k (c := 13) R_52 (by decide +kernel)) fun v_56 f_57 => ?_
  have f_58 := q_is_eq f_57 e_60
  refine go_if (c := .ne) (o := 37) (t := 89) (P := ¬ (x_59 = 0)) (by decide +kernel) (by decide +kernel) f_58 (Iff.rfl) (fun hp_61 => ?_) (fun hp_61 => ?_)
  · have h := it_f hp_61 h
    cases h
    exact go_vret (by decide +kernel) rfl (hQ E_55 _ _ R_52 q_out_n)
  · have h := it_n hp_61 h
    refine go_aload_n (n := 0) (by decide +kernel) l0 f0 ?_
    refine go_getf (x := 262) (ci := 13) (kf := 99) (fin := 1) (t := 2) (by decide +kernel) (by decide +kernel) (by decide +kernel) R_52 f0 (fx_k (c := 13) R_52 (by decide +kernel)) fun v_62 f_63 => ?_
    have f_64 := q_is_eq (b := 149) f_63 (fx_v R_52 (by decide +kernel)).symm
    refine go_iload_n (n := 1) (by decide +kernel) l1 f1 ?_
    refine go_aload_n (n := 0) (by decide +kernel) l0 f0 ?_
    refine go_getf (x := 244) (ci := 13) (kf := 93) (fin := 1) (t := 2) (by decide +kernel) (by decide +kernel) (by decide +kernel) R_52 f0 (fx_k (c := 13) R_52 (by decide +kernel)) fun v_65 f_66 => ?_
    have f_67 := q_is_eq (b := 143) f_66 (fx_v R_52 (by decide +kernel)).symm
    refine go_aload_n (n := 0) (by decide +kernel) l0 f0 ?_
    obtain ⟨x_71, e_72, h⟩ := lx_s h
    refine go_getf (x := 368) (ci := 13) (kf := 91) (fin := 0) (t := 0) (by decide +kernel) (by decide +kernel) (by decide +kernel) R_52 f0 (fx_k (c := 13) R_52 (by decide +kernel)) fun v_68 f_69 => ?_
    have f_70 := q_is_eq f_69 e_72
    refine go_iconst (n := 1) (z := 1) (by decide +kernel) (by decide) fun v_73 f_74 => ?_
    refine go_isub (by decide +kernel) f_70 f_74 fun v_75 f_76 => ?_
    obtain ⟨g_79, h⟩ := gd_s h
    obtain ⟨x_81, e_82, h⟩ := lx_s h
    refine go_iald (kd := 100) (by decide +kernel) rfl R_52 f_67 f_76 (fx_k (c := 100) R_52 (by decide +kernel)) (fx_x (a := 143) (ln := 12) R_52 (by decide +kernel) g_79) fun v_77 f_78 => ?_
    have f_80 := q_is_eq f_78 e_82
    obtain ⟨m_83, e_84, h⟩ := up_s h
    refine go_iast (kd := 100) (by decide +kernel) rfl R_52 f_64 f1 f_80 (fx_k (c := 100) R_52 (by decide +kernel)) (fx_x (a := 149) (ln := 12) R_52 (by decide +kernel) g_42) e_84 (fx_a R_52.2 (fx_k (c := 100) R_52 (by decide +kernel)) (And.left (fx_x (a := 149) (ln := 12) R_52 (by decide +kernel) g_42)) (by decide +kernel)) fun S_85 R_86 E_87 => ?_
    have E_88 := Ext.tr E_55 E_87
    refine go_aload_n (n := 0) (by decide +kernel) l0 f0 ?_
    refine go_getf (x := 262) (ci := 13) (kf := 99) (fin := 1) (t := 2) (by decide +kernel) (by decide +kernel) (by decide +kernel) R_86 f0 (fx_k (c := 13) R_86 (by decide +kernel)) fun v_89 f_90 => ?_
    have f_91 := q_is_eq (b := 149) f_90 (fx_v R_86 (by decide +kernel)).symm
    refine go_aload_n (n := 0) (by decide +kernel) l0 f0 ?_
    obtain ⟨x_95, e_96, h⟩ := lx_s h
    refine go_getf (x := 368) (ci := 13) (kf := 91) (fin := 0) (t := 0) (by decide +kernel) (by decide +kernel) (by decide +kernel) R_86 f0 (fx_k (c := 13) R_86 (by decide +kernel)) fun v_92 f_93 => ?_
    have f_94 := q_is_eq f_93 e_96
    refine go_iconst (n := 1) (z := 1) (by decide +kernel) (by decide) fun v_97 f_98 => ?_
    refine go_isub (by decide +kernel) f_94 f_98 fun v_99 f_100 => ?_
    refine go_aload_n (n := 0) (by decide +kernel) l0 f0 ?_
    refine go_getf (x := 244) (ci := 13) (kf := 93) (fin := 1) (t := 2) (by decide +kernel) (by decide +kernel) (by decide +kernel) R_86 f0 (fx_k (c := 13) R_86 (by decide +kernel)) fun v_101 f_102 => ?_
    have f_103 := q_is_eq (b := 143) f_102 (fx_v R_86 (by decide +kernel)).symm
    refine go_iload_n (n := 1) (by decide +kernel) l1 f1 ?_
    obtain ⟨x_107, e_108, h⟩ := lx_s h
    refine go_iald (kd := 100) (by decide +kernel) rfl R_86 f_103 f1 (fx_k (c := 100) R_86 (by decide +kernel)) (fx_x (a := 143) (ln := 12) R_86 (by decide +kernel) g_42) fun v_104 f_105 => ?_
    have f_106 := q_is_eq f_105 e_108
    obtain ⟨g_109, h⟩ := gd_s h
    obtain ⟨m_110, e_111, h⟩ := up_s h
    refine go_iast (kd := 100) (by decide +kernel) rfl R_86 f_91 f_100 f_106 (fx_k (c := 100) R_86 (by decide +kernel)) (fx_x (a := 149) (ln := 12) R_86 (by decide +kernel) g_109) e_111 (fx_a R_86.2 (fx_k (c := 100) R_86 (by decide +kernel)) (And.left (fx_x (a := 149) (ln := 12) R_86 (by decide +kernel) g_109)) (by decide +kernel)) fun S_112 R_113 E_114 => ?_
    have E_115 := Ext.tr E_88 E_114
    cases h
    exact go_vret (by decide +kernel) rfl (hQ E_115 _ _ R_113 q_out_n)
noncomputable def fj_X12_races_24 (y1 y2 s0 : Int) (m : MM) : Option (Int × MM) := if s0 = (-1) then
fj_X12_races_37 y1 y2 m
else
gd (0 ≤ s0 ∧ s0 < 12) <| up m 149 s0 (-1) fun m_122 =>
fj_X12_races_37 y1 y2 m_122
set_option maxHeartbeats 4000000 in
theorem oj_X12_races_24 {xs : List Int32} {d : Nat} {S : QS} {L : QL} {Q : QO → QS → Prop} {m : MM} {y1 y2 s0 : Int} {v0 : Value} {v1 : Value} {v2 : Value} {w0 : Value}  {rz : Int} {rm : MM}
  (hd : 2 ≤ d) (R : Rp S m) (l0 : q_lo L 0 = some v0) (f0 : q_is 2 v0 68) (l1 : q_lo L 1 = some v1) (f1 : q_is 0 v1 y1) (l2 : q_lo L 2 = some v2) (f2 : q_is 0 v2 y2) (fs0 : q_is 0 w0 s0)
  (hQ : Ext m rm → ∀ o S1, Rp S1 rm → q_out 9 o rz → Q o S1)
  (h : fj_X12_races_24 y1 y2 s0 m = some (rz, rm)) : Go xs d qM_X12_races 24 L [w0] S Q := by
  unfold fj_X12_races_24 at h
  refine go_istore_n (n := 3) (by decide +kernel) (by decide +kernel) fs0 fun L_28 l_29 kp_30 => ?_
  have l_31 := kp_30 0 _ l0 (by decide) (Or.inl (by decide))
  have l_32 := kp_30 1 _ l1 (by decide) (Or.inl (by decide))
  have l_33 := kp_30 2 _ l2 (by decide) (Or.inr (q_is_cat f2 (Or.inl rfl)))
  refine go_iload_n (n := 3) (by decide +kernel) l_29 fs0 ?_
  refine go_iconst (n := (-1)) (z := (-1)) (by decide +kernel) (by decide) fun v_34 f_35 => ?_
  refine go_icmp (c := .eq) (o := 10) (t := 37) (P := s0 = (-1)) (by decide +kernel) (by decide +kernel) fs0 f_35 (Iff.rfl) (fun hp_36 => ?_) (fun hp_36 => ?_)
  · have h := it_t hp_36 h
    exact oj_X12_races_37 hd R l_31 f0 l_32 f1 l_33 f2 hQ h
  · have h := it_f hp_36 h
    refine go_aload_n (n := 0) (by decide +kernel) l_31 f0 ?_
    refine go_getf (x := 262) (ci := 13) (kf := 99) (fin := 1) (t := 2) (by decide +kernel) (by decide +kernel) (by decide +kernel) R f0 (fx_k (c := 13) R (by decide +kernel)) fun v_116 f_117 => ?_
    have f_118 := q_is_eq (b := 149) f_117 (fx_v R (by decide +kernel)).symm
    refine go_iload_n (n := 3) (by decide +kernel) l_29 fs0 ?_
    refine go_iconst (n := (-1)) (z := (-1)) (by decide +kernel) (by decide) fun v_119 f_120 => ?_
    obtain ⟨g_121, h⟩ := gd_s h
    obtain ⟨m_122, e_123, h⟩ := up_s h
    refine go_iast (kd := 100) (by decide +kernel) rfl R f_118 fs0 f_120 (fx_k (c := 100) R (by decide +kernel)) (fx_x (a := 149) (ln := 12) R (by decide +kernel) g_121) e_123 (fx_a R.2 (fx_k (c := 100) R (by decide +kernel)) (And.left (fx_x (a := 149) (ln := 12) R (by decide +kernel) g_121)) (by decide +kernel)) fun S_124 R_125 E_126 => ?_
    have E_127 := E_126
    exact oj_X12_races_37 hd R_125 l_31 f0 l_32 f1 l_33 f2 (fun b => hQ (Ext.tr E_127 b)) h
noncomputable def fm_X12_races (p1 p2 : Int) (m0 : MM) : Option (Int × MM) := gd (0 ≤ p1 ∧ p1 < 12) <| lx (m0 149 p1) fun x_8 =>
if x_8 = (-1) then
fj_X12_races_24 p1 p2 (-1) m0
else
bp (fm_X12_slot x_8 m0) fun x_20 =>
fj_X12_races_24 p1 p2 x_20 m0
set_option maxHeartbeats 4000000 in
theorem om_X12_races {xs : List Int32} {d : Nat} {S : QS} {m0 : MM} {p1 p2 : Int} {v0 : Value} {v1 : Value} {v2 : Value} {rz : Int} {rm : MM}
  (hd : 3 ≤ d) (R : Rp S m0) (f0 : q_is 2 v0 68) (f1 : q_is 0 v1 p1) (f2 : q_is 0 v2 p2)
  (h : fm_X12_races p1 p2 m0 = some (rz, rm)) : Mt xs d 233 [v0, v1, v2] S (Cr 9 m0 rm rz) := by
  obtain ⟨d, rfl⟩ : ∃ e, d = e + 1 := ⟨d - 1, by omega⟩
  have hd : 2 ≤ d := Nat.le_of_succ_le_succ hd
  refine Mt.of (M := qM_X12_races) rfl (by rw [sl_1 (q_is_cat f0 (Or.inr rfl)), sl_1 (q_is_cat f1 (Or.inl rfl)), sl_1 (q_is_cat f2 (Or.inl rfl)), sl_0]; decide) ?_
  rw [la_1 (q_is_cat f0 (Or.inr rfl)), la_1 (q_is_cat f1 (Or.inl rfl)), la_1 (q_is_cat f2 (Or.inl rfl)), la_0]
  obtain ⟨L, hL⟩ : ∃ L : QL, L = [(0, v0), (0 + 1, v1), (0 + 1 + 1, v2)] := ⟨_, rfl⟩
  rw [← hL]
  have l0 : q_lo L 0 = some v0 := by rw [hL]; rfl
  have l1 : q_lo L 1 = some v1 := by rw [hL]; rfl
  have l2 : q_lo L 2 = some v2 := by rw [hL]; rfl
  have hQ : Ext m0 rm → ∀ o S1, Rp S1 rm → q_out 9 o rz → (Cr 9 m0 rm rz) o S1 := fun a o S1 b e => ⟨b, a, e⟩
  unfold fm_X12_races at h
  refine go_aload_n (n := 0) (by decide +kernel) l0 f0 ?_
  refine go_getf (x := 262) (ci := 13) (kf := 99) (fin := 1) (t := 2) (by decide +kernel) (by decide +kernel) (by decide +kernel) R f0 (fx_k (c := 13) R (by decide +kernel)) fun v_1 f_2 => ?_
  have f_3 := q_is_eq (b := 149) f_2 (fx_v R (by decide +kernel)).symm
  refine go_iload_n (n := 1) (by decide +kernel) l1 f1 ?_
  obtain ⟨g_6, h⟩ := gd_s h
  obtain ⟨x_8, e_9, h⟩ := lx_s h
  refine go_iald (kd := 100) (by decide +kernel) rfl R f_3 f1 (fx_k (c := 100) R (by decide +kernel)) (fx_x (a := 149) (ln := 12) R (by decide +kernel) g_6) fun v_4 f_5 => ?_
  have f_7 := q_is_eq f_5 e_9
  refine go_iconst (n := (-1)) (z := (-1)) (by decide +kernel) (by decide) fun v_10 f_11 => ?_
  refine go_icmp (c := .ne) (o := 7) (t := 14) (P := ¬ (x_8 = (-1))) (by decide +kernel) (by decide +kernel) f_7 f_11 (Iff.rfl) (fun hp_12 => ?_) (fun hp_12 => ?_)
  · have h := it_f hp_12 h
    refine go_aload_n (n := 0) (by decide +kernel) l0 f0 ?_
    refine go_aload_n (n := 0) (by decide +kernel) l0 f0 ?_
    refine go_getf (x := 262) (ci := 13) (kf := 99) (fin := 1) (t := 2) (by decide +kernel) (by decide +kernel) (by decide +kernel) R f0 (fx_k (c := 13) R (by decide +kernel)) fun v_13 f_14 => ?_
    have f_15 := q_is_eq (b := 149) f_14 (fx_v R (by decide +kernel)).symm
    refine go_iload_n (n := 1) (by decide +kernel) l1 f1 ?_
    refine go_iald (kd := 100) (by decide +kernel) rfl R f_15 f1 (fx_k (c := 100) R (by decide +kernel)) (fx_x (a := 149) (ln := 12) R (by decide +kernel) g_6) fun v_16 f_17 => ?_
    have f_18 := q_is_eq f_17 e_9
    obtain ⟨x_20, hc_19, h⟩ := bp_s h
    refine go_callV (x := 449) (mi := 215) (n := 1) (ci := 13) (as := [v_16]) (rest := []) (by decide +kernel) (by decide +kernel) rfl rfl (q_sum8 _ (Nat.le_of_ble_eq_true rfl)) R f0 (fx_k (c := 13) R (by decide +kernel)) (om_X12_slot (Nat.le_trans (by decide) hd) R f0 f_18 hc_19) (fun _ S_24 q_27 => ?_) (fun _ _ qq => kr_x qq)
    refine kr_z (by decide) q_27 fun v_22 f_23 R_25 E_26 => ?_
    exact oj_X12_races_24 hd R_25 l0 f0 l1 f1 l2 f2 f_23 hQ h
  · have h := it_n hp_12 h
    refine go_iconst (n := (-1)) (z := (-1)) (by decide +kernel) (by decide) fun v_128 f_129 => ?_
    refine go_goto (o := 13) (t := 24) (by decide +kernel) (by decide +kernel) ?_
    exact oj_X12_races_24 hd R l0 f0 l1 f1 l2 f2 f_129 hQ h
noncomputable def fl_X12_hasChild_4 (y1 : Int) (m0 : MM) : Nat → Int → Int → Option Int
  | 0, _, _ => none
  | n + 1, y2, y3 => lx (m0 68 91) fun x_19 =>
if y3 < x_19 then
if y2 = 0 then
gd (0 ≤ y3 ∧ y3 < 12) <| lx (m0 143 y3) fun x_53 =>
gd (0 ≤ x_53 ∧ x_53 < 196608) <| lx (m0 152 x_53) fun x_59 =>
if x_59 = y1 then
lx (w32 (y3 + 1)) fun x_94 =>
fl_X12_hasChild_4 y1 m0 n 1 x_94
else
lx (w32 (y3 + 1)) fun x_75 =>
fl_X12_hasChild_4 y1 m0 n 0 x_75
else
lx (w32 (y3 + 1)) fun x_37 =>
fl_X12_hasChild_4 y1 m0 n 1 x_37
else
gd (y2 = 0 ∨ y2 = 1) <| some y2
set_option maxHeartbeats 4000000 in
theorem ol_X12_hasChild_4 {xs : List Int32} {d : Nat} {Q : QO → QS → Prop} {m0 : MM} {y1 : Int} {rz : Int}
  (hd : 0 ≤ d)
  (hQ : ∀ o S1, Rp S1 m0 → q_out 0 o rz → Q o S1) :
  ∀ (n : Nat) {S : QS} {L : QL} {y2 y3 : Int} {v0 : Value} {v1 : Value} {v2 : Value} {v3 : Value} , fl_X12_hasChild_4 y1 m0 n y2 y3 = some rz → Rp S m0 → q_lo L 0 = some v0 → q_is 2 v0 68 → q_lo L 1 = some v1 → q_is 0 v1 y1 → q_lo L 2 = some v2 → q_is 0 v2 y2 → q_lo L 3 = some v3 → q_is 0 v3 y3 → Go xs d qM_X12_hasChild 4 L [] S Q := by
  intro n
  induction n with
  | zero => intro S L y2 y3 v0 v1 v2 v3; intro h R l0 f0 l1 f1 l2 f2 l3 f3; cases h
  | succ n ih0 =>
    intro S L y2 y3 v0 v1 v2 v3; intro h R l0 f0 l1 f1 l2 f2 l3 f3
    have ih : ∀ {z2 : Int} {z3 : Int} {Sq : QS} {Lq : QL} {u0 : Value} {u1 : Value} {u2 : Value} {u3 : Value}, fl_X12_hasChild_4 y1 m0 n z2 z3 = some rz → Rp Sq m0 → q_lo Lq 0 = some u0 → q_is 2 u0 68 → q_lo Lq 1 = some u1 → q_is 0 u1 y1 → q_lo Lq 2 = some u2 → q_is 0 u2 z2 → q_lo Lq 3 = some u3 → q_is 0 u3 z3 → Go xs d qM_X12_hasChild 4 Lq [] Sq Q := by intros; exact ih0 ‹_› ‹_› ‹_› ‹_› ‹_› ‹_› ‹_› ‹_› ‹_› ‹_›
    unfold fl_X12_hasChild_4 at h
    refine go_iload_n (n := 3) (by decide +kernel) l3 f3 ?_
    refine go_aload_n (n := 0) (by decide +kernel) l0 f0 ?_
    obtain ⟨x_19, e_20, h⟩ := lx_s h
    refine go_getf (x := 368) (ci := 13) (kf := 91) (fin := 0) (t := 0) (by decide +kernel) (by decide +kernel) (by decide +kernel) R f0 (fx_k (c := 13) R (by decide +kernel)) fun v_16 f_17 => ?_
    have f_18 := q_is_eq f_17 e_20
    refine go_icmp (c := .ge) (o := 34) (t := 43) (P := ¬ (y3 < x_19)) (by decide +kernel) (by decide +kernel) f3 f_18 (Int.not_lt.symm) (fun hp_21 => ?_) (fun hp_21 => ?_)
    · have h := it_f hp_21 h
      refine go_iload_n (n := 2) (by decide +kernel) l2 f2 ?_
      obtain ⟨g_22, h⟩ := gd_s h
      cases h
      exact go_iret (by decide +kernel) rfl (Or.inr ⟨rfl, g_22⟩) f2 (hQ _ _ R (q_out_v (by decide) f2))
    · have h := it_n hp_21 h
      refine go_iload_n (n := 2) (by decide +kernel) l2 f2 ?_
      refine go_if (c := .ne) (o := 18) (t := 31) (P := ¬ (y2 = 0)) (by decide +kernel) (by decide +kernel) f2 (Iff.rfl) (fun hp_23 => ?_) (fun hp_23 => ?_)
      · have h := it_f hp_23 h
        refine go_iconst (n := 1) (z := 1) (by decide +kernel) (by decide) fun v_24 f_25 => ?_
        refine go_goto (o := 4) (t := 36) (by decide +kernel) (by decide +kernel) ?_
        refine go_istore_n (n := 2) (by decide +kernel) (by decide +kernel) f_25 fun L_26 l_27 kp_28 => ?_
        have l_29 := kp_28 0 _ l0 (by decide) (Or.inl (by decide))
        have l_30 := kp_28 1 _ l1 (by decide) (Or.inr (q_is_cat f1 (Or.inl rfl)))
        have l_31 := kp_28 3 _ l3 (by decide) (Or.inl (by decide))
        refine go_iinc (n := 3) (c := 1) (c' := 1) (by decide +kernel) (by decide +kernel) l_31 f3 (by decide) fun L_32 v_33 f_34 l_35 kp_36 => ?_
        obtain ⟨x_37, e_38, h⟩ := lx_s h
        have f_39 := q_is_eq f_34 e_38
        have l_40 := kp_36 0 _ l_29 (by decide) (Or.inl (by decide))
        have l_41 := kp_36 1 _ l_30 (by decide) (Or.inl (by decide))
        have l_42 := kp_36 2 _ l_27 (by decide) (Or.inr (q_is_cat f_25 (Or.inl rfl)))
        refine go_goto (o := (-36)) (t := 4) (by decide +kernel) (by decide +kernel) ?_
        exact ih h R l_40 f0 l_41 f1 l_42 f_25 l_35 f_39
      · have h := it_n hp_23 h
        refine go_aload_n (n := 0) (by decide +kernel) l0 f0 ?_
        refine go_getf (x := 272) (ci := 13) (kf := 102) (fin := 1) (t := 2) (by decide +kernel) (by decide +kernel) (by decide +kernel) R f0 (fx_k (c := 13) R (by decide +kernel)) fun v_43 f_44 => ?_
        have f_45 := q_is_eq (b := 152) f_44 (fx_v R (by decide +kernel)).symm
        refine go_aload_n (n := 0) (by decide +kernel) l0 f0 ?_
        refine go_getf (x := 244) (ci := 13) (kf := 93) (fin := 1) (t := 2) (by decide +kernel) (by decide +kernel) (by decide +kernel) R f0 (fx_k (c := 13) R (by decide +kernel)) fun v_46 f_47 => ?_
        have f_48 := q_is_eq (b := 143) f_47 (fx_v R (by decide +kernel)).symm
        refine go_iload_n (n := 3) (by decide +kernel) l3 f3 ?_
        obtain ⟨g_51, h⟩ := gd_s h
        obtain ⟨x_53, e_54, h⟩ := lx_s h
        refine go_iald (kd := 100) (by decide +kernel) rfl R f_48 f3 (fx_k (c := 100) R (by decide +kernel)) (fx_x (a := 143) (ln := 12) R (by decide +kernel) g_51) fun v_49 f_50 => ?_
        have f_52 := q_is_eq f_50 e_54
        obtain ⟨g_57, h⟩ := gd_s h
        obtain ⟨x_59, e_60, h⟩ := lx_s h
        refine go_iald (kd := 100) (by decide +kernel) rfl R f_45 f_52 (fx_k (c := 100) R (by decide +kernel)) (fx_x (a := 152) (ln := 196608) R (by decide +kernel) g_57) fun v_55 f_56 => ?_
        have f_58 := q_is_eq f_56 e_60
        refine go_iload_n (n := 1) (by decide +kernel) l1 f1 ?_
        refine go_icmp (c := .ne) (o := 7) (t := 35) (P := ¬ (x_59 = y1)) (by decide +kernel) (by decide +kernel) f_58 f1 (Iff.rfl) (fun hp_61 => ?_) (fun hp_61 => ?_)
        · have h := it_f hp_61 h
          refine go_iconst (n := 0) (z := 0) (by decide +kernel) (by decide) fun v_62 f_63 => ?_
          refine go_istore_n (n := 2) (by decide +kernel) (by decide +kernel) f_63 fun L_64 l_65 kp_66 => ?_
          have l_67 := kp_66 0 _ l0 (by decide) (Or.inl (by decide))
          have l_68 := kp_66 1 _ l1 (by decide) (Or.inr (q_is_cat f1 (Or.inl rfl)))
          have l_69 := kp_66 3 _ l3 (by decide) (Or.inl (by decide))
          refine go_iinc (n := 3) (c := 1) (c' := 1) (by decide +kernel) (by decide +kernel) l_69 f3 (by decide) fun L_70 v_71 f_72 l_73 kp_74 => ?_
          obtain ⟨x_75, e_76, h⟩ := lx_s h
          have f_77 := q_is_eq f_72 e_76
          have l_78 := kp_74 0 _ l_67 (by decide) (Or.inl (by decide))
          have l_79 := kp_74 1 _ l_68 (by decide) (Or.inl (by decide))
          have l_80 := kp_74 2 _ l_65 (by decide) (Or.inr (q_is_cat f_63 (Or.inl rfl)))
          refine go_goto (o := (-36)) (t := 4) (by decide +kernel) (by decide +kernel) ?_
          exact ih h R l_78 f0 l_79 f1 l_80 f_63 l_73 f_77
        · have h := it_n hp_61 h
          refine go_iconst (n := 1) (z := 1) (by decide +kernel) (by decide) fun v_81 f_82 => ?_
          refine go_goto (o := 4) (t := 36) (by decide +kernel) (by decide +kernel) ?_
          refine go_istore_n (n := 2) (by decide +kernel) (by decide +kernel) f_82 fun L_83 l_84 kp_85 => ?_
          have l_86 := kp_85 0 _ l0 (by decide) (Or.inl (by decide))
          have l_87 := kp_85 1 _ l1 (by decide) (Or.inr (q_is_cat f1 (Or.inl rfl)))
          have l_88 := kp_85 3 _ l3 (by decide) (Or.inl (by decide))
          refine go_iinc (n := 3) (c := 1) (c' := 1) (by decide +kernel) (by decide +kernel) l_88 f3 (by decide) fun L_89 v_90 f_91 l_92 kp_93 => ?_
          obtain ⟨x_94, e_95, h⟩ := lx_s h
          have f_96 := q_is_eq f_91 e_95
          have l_97 := kp_93 0 _ l_86 (by decide) (Or.inl (by decide))
          have l_98 := kp_93 1 _ l_87 (by decide) (Or.inl (by decide))
          have l_99 := kp_93 2 _ l_84 (by decide) (Or.inr (q_is_cat f_82 (Or.inl rfl)))
          refine go_goto (o := (-36)) (t := 4) (by decide +kernel) (by decide +kernel) ?_
          exact ih h R l_97 f0 l_98 f1 l_99 f_82 l_92 f_96
noncomputable def fm_X12_hasChild (p1 : Int) (m0 : MM) : Option Int := fl_X12_hasChild_4 p1 m0  BIG 0 0
set_option maxHeartbeats 4000000 in
theorem om_X12_hasChild {xs : List Int32} {d : Nat} {S : QS} {m0 : MM} {p1 : Int} {v0 : Value} {v1 : Value} {rz : Int}
  (hd : 1 ≤ d) (R : Rp S m0) (f0 : q_is 2 v0 68) (f1 : q_is 0 v1 p1)
  (h : fm_X12_hasChild p1 m0 = some rz) : Mt xs d 234 [v0, v1] S (Cr 0 m0 m0 rz) := by
  obtain ⟨d, rfl⟩ : ∃ e, d = e + 1 := ⟨d - 1, by omega⟩
  have hd : 0 ≤ d := Nat.le_of_succ_le_succ hd
  refine Mt.of (M := qM_X12_hasChild) rfl (by rw [sl_1 (q_is_cat f0 (Or.inr rfl)), sl_1 (q_is_cat f1 (Or.inl rfl)), sl_0]; decide) ?_
  rw [la_1 (q_is_cat f0 (Or.inr rfl)), la_1 (q_is_cat f1 (Or.inl rfl)), la_0]
  obtain ⟨L, hL⟩ : ∃ L : QL, L = [(0, v0), (0 + 1, v1)] := ⟨_, rfl⟩
  rw [← hL]
  have l0 : q_lo L 0 = some v0 := by rw [hL]; rfl
  have l1 : q_lo L 1 = some v1 := by rw [hL]; rfl
  have hQ : ∀ o S1, Rp S1 m0 → q_out 0 o rz → (Cr 0 m0 m0 rz) o S1 := fun o S1 a b => ⟨a, Ext.rf _, b⟩
  unfold fm_X12_hasChild at h
  refine go_iconst (n := 0) (z := 0) (by decide +kernel) (by decide) fun v_1 f_2 => ?_
  refine go_istore_n (n := 2) (by decide +kernel) (by decide +kernel) f_2 fun L_3 l_4 kp_5 => ?_
  have l_6 := kp_5 0 _ l0 (by decide) (Or.inl (by decide))
  have l_7 := kp_5 1 _ l1 (by decide) (Or.inr (q_is_cat f1 (Or.inl rfl)))
  refine go_iconst (n := 0) (z := 0) (by decide +kernel) (by decide) fun v_8 f_9 => ?_
  refine go_istore_n (n := 3) (by decide +kernel) (by decide +kernel) f_9 fun L_10 l_11 kp_12 => ?_
  have l_13 := kp_12 0 _ l_6 (by decide) (Or.inl (by decide))
  have l_14 := kp_12 1 _ l_7 (by decide) (Or.inl (by decide))
  have l_15 := kp_12 2 _ l_4 (by decide) (Or.inr (q_is_cat f_2 (Or.inl rfl)))
  refine ol_X12_hasChild_4 hd   hQ BIG h R l_13 f0 l_14 f1 l_15 f_2 l_11 f_9
end DF29
