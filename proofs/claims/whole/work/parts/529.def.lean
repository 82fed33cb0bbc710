/-! Methods as functions (written by wip/whole/dec.py), 29: X12_cancelsBranch, X12_isBelow, X12_dropsBranch, X12_wins, X12_races, X12_hasChild. -/
section DF29
noncomputable def fm_X12_cancelsBranch (p1 : Int) (m0 : MM) : Option (Int × MM) := gd (0 ≤ p1 ∧ p1 < 12) <| up m0 151 p1 0 fun m_7 =>
bd (fm_X12_lets p1 m_7) fun x_15 m_16 =>
bp (fm_X12_goes m_16) fun x_27 =>
if x_27 = 0 then
some (0, m_16)
else
bd (fm_X12_failsBranch p1 m_16) fun x_37 m_38 =>
some (0, m_38)
set_option maxHeartbeats 4000000 in
theorem om_X12_cancelsBranch {xs : List Int32} {d : Nat} {S : QS} {m0 : MM} {p1 : Int} {v0 : Value} {v1 : Value} {rz : Int} {rm : MM}
  (hd : 7 ≤ d) (R : Rp S m0) (f0 : q_is 2 v0 68) (f1 : q_is 0 v1 p1)
  (h : fm_X12_cancelsBranch p1 m0 = some (rz, rm)) : Mt xs d 229 [v0, v1] S (Cr 9 m0 rm rz) := by
  obtain ⟨d, rfl⟩ : ∃ e, d = e + 1 := ⟨d - 1, by omega⟩
  have hd : 6 ≤ d := Nat.le_of_succ_le_succ hd
  refine Mt.of (M := qM_X12_cancelsBranch) rfl (by rw [sl_1 (q_is_cat f0 (Or.inr rfl)), sl_1 (q_is_cat f1 (Or.inl rfl)), sl_0]; decide) ?_
  rw [la_1 (q_is_cat f0 (Or.inr rfl)), la_1 (q_is_cat f1 (Or.inl rfl)), la_0]
  obtain ⟨L, hL⟩ : ∃ L : QL, L = [(0, v0), (0 + 1, v1)] := ⟨_, rfl⟩
  rw [← hL]
  have l0 : q_lo L 0 = some v0 := by rw [hL]; rfl
  have l1 : q_lo L 1 = some v1 := by rw [hL]; rfl
  have hQ : Ext m0 rm → ∀ o S1, Rp S1 rm → q_out 9 o rz → (Cr 9 m0 rm rz) o S1 := fun a o S1 b e => ⟨b, a, e⟩
  unfold fm_X12_cancelsBranch at h
  refine go_aload_n (n := 0) (by decide +kernel) l0 f0 ?_
  refine go_getf (x := 268) (ci := 13) (kf := 101) (fin := 1) (t := 2) (by decide +kernel) (by decide +kernel) (by decide +kernel) R f0 (fx_k (c := 13) R (by decide +kernel)) fun v_1 f_2 => ?_
  have f_3 := q_is_eq (b := 151) f_2 (fx_v R (by decide +kernel)).symm
  refine go_iload_n (n := 1) (by decide +kernel) l1 f1 ?_
  refine go_iconst (n := 0) (z := 0) (by decide +kernel) (by decide) fun v_4 f_5 => ?_
  obtain ⟨g_6, h⟩ := gd_s h
  obtain ⟨m_7, e_8, h⟩ := up_s h
  refine go_bast (kd := 102) (by decide +kernel) rfl R f_3 f1 f_5 (by decide) (fx_k (c := 102) R (by decide +kernel)) (fx_x (a := 151) (ln := 12) R (by decide +kernel) g_6) e_8 (fx_a R.2 (fx_k (c := 102) R (by decide +kernel)) (And.left (fx_x (a := 151) (ln := 12) R (by decide +kernel) g_6)) (by decide +kernel)) fun S_9 R_10 E_11 => ?_
  have E_13 := E_11
  refine go_aload_n (n := 0) (by decide +kernel) l0 f0 ?_
  refine go_iload_n (n := 1) (by decide +kernel) l1 f1 ?_
  obtain ⟨x_15, m_16, hc_14, h⟩ := bd_s h
  refine go_callV (x := 436) (mi := 228) (n := 1) (ci := 13) (as := [v1]) (rest := []) (by decide +kernel) (by decide +kernel) rfl rfl (q_sum8 _ (Nat.le_of_ble_eq_true rfl)) R_10 f0 (fx_k (c := 13) R_10 (by decide +kernel)) (om_X12_lets (Nat.le_trans (by decide) hd) R_10 f0 f1 hc_14) (fun _ S_19 q_22 => ?_) (fun _ _ qq => kr_x qq)
  refine kr_v q_22 fun R_20 E_21 => ?_
  have E_25 := Ext.tr E_13 E_21
  refine go_aload_n (n := 0) (by decide +kernel) l0 f0 ?_
  obtain ⟨x_27, hc_26, h⟩ := bp_s h
  refine go_callV (x := 439) (mi := 216) (n := 0) (ci := 13) (as := []) (rest := []) (by decide +kernel) (by decide +kernel) rfl rfl (q_sum8 _ (Nat.le_of_ble_eq_true rfl)) R_20 f0 (fx_k (c := 13) R_20 (by decide +kernel)) (om_X12_goes (Nat.le_trans (by decide) hd) R_20 f0 hc_26) (fun _ S_31 q_34 => ?_) (fun _ _ qq => kr_x qq)
  refine kr_z (by decide) q_34 fun v_29 f_30 R_32 E_33 => ?_
  refine go_if (c := .eq) (o := 8) (t := 24) (P := x_27 = 0) (by decide +kernel) (by decide +kernel) f_30 (Iff.rfl) (fun hp_35 => ?_) (fun hp_35 => ?_)
  · have h := it_t hp_35 h
    cases h
    exact go_vret (by decide +kernel) rfl (hQ E_25 _ _ R_32 q_out_n)
  · have h := it_f hp_35 h
    refine go_aload_n (n := 0) (by decide +kernel) l0 f0 ?_
    refine go_iload_n (n := 1) (by decide +kernel) l1 f1 ?_
    obtain ⟨x_37, m_38, hc_36, h⟩ := bd_s h
    refine go_callV (x := 443) (mi := 227) (n := 1) (ci := 13) (as := [v1]) (rest := []) (by decide +kernel) (by decide +kernel) rfl rfl (q_sum8 _ (Nat.le_of_ble_eq_true rfl)) R_32 f0 (fx_k (c := 13) R_32 (by decide +kernel)) (om_X12_failsBranch (Nat.le_trans (by decide) hd) R_32 f0 f1 hc_36) (fun _ S_41 q_44 => ?_) (fun _ _ qq => kr_x qq)
    refine kr_v q_44 fun R_42 E_43 => ?_
    have E_47 := Ext.tr E_25 E_43
    cases h
    exact go_vret (by decide +kernel) rfl (hQ E_47 _ _ R_42 q_out_n)
noncomputable def fl_X12_isBelow_2 (y2 : Int) (m0 : MM) (k22 : Int → Option Int) : Nat → Int → Option Int
  | 0, _ => none
  | n + 1, y3 => if y3 = (-1) then
k22 y3
else
if y3 = y2 then
k22 y3
else
gd (0 ≤ y3 ∧ y3 < 196608) <| lx (m0 152 y3) fun x_17 =>
fl_X12_isBelow_2 y2 m0 k22 n x_17
set_option maxHeartbeats 4000000 in
theorem ol_X12_isBelow_2 {xs : List Int32} {d : Nat} {Q : QO → QS → Prop} {m0 : MM} {y2 : Int} {k22 : Int → Option Int} {rz : Int}
  (hd : 0 ≤ d)
  (hk22 : ∀ {z3 : Int} {Sq : QS} {Lq : QL} {u2 : Value} {u3 : Value}, k22 z3 = some rz → Rp Sq m0 → q_lo Lq 2 = some u2 → q_is 0 u2 y2 → q_lo Lq 3 = some u3 → q_is 0 u3 z3 → Go xs d qM_X12_isBelow 22 Lq [] Sq Q)
  (hQ : ∀ o S1, Rp S1 m0 → q_out 0 o rz → Q o S1) :
  ∀ (n : Nat) {S : QS} {L : QL} {y3 : Int} {v0 : Value} {v2 : Value} {v3 : Value} , fl_X12_isBelow_2 y2 m0 k22 n y3 = some rz → Rp S m0 → q_lo L 0 = some v0 → q_is 2 v0 68 → q_lo L 2 = some v2 → q_is 0 v2 y2 → q_lo L 3 = some v3 → q_is 0 v3 y3 → Go xs d qM_X12_isBelow 2 L [] S Q := by
  intro n
  induction n with
  | zero => intro S L y3 v0 v2 v3; intro h R l0 f0 l2 f2 l3 f3; cases h
  | succ n ih0 =>
    intro S L y3 v0 v2 v3; intro h R l0 f0 l2 f2 l3 f3
    have ih : ∀ {z3 : Int} {Sq : QS} {Lq : QL} {u0 : Value} {u2 : Value} {u3 : Value}, fl_X12_isBelow_2 y2 m0 k22 n z3 = some rz → Rp Sq m0 → q_lo Lq 0 = some u0 → q_is 2 u0 68 → q_lo Lq 2 = some u2 → q_is 0 u2 y2 → q_lo Lq 3 = some u3 → q_is 0 u3 z3 → Go xs d qM_X12_isBelow 2 Lq [] Sq Q := by intros; exact ih0 ‹_› ‹_› ‹_› ‹_› ‹_› ‹_› ‹_› ‹_›
    unfold fl_X12_isBelow_2 at h
    refine go_iload_n (n := 3) (by decide +kernel) l3 f3 ?_
    refine go_iconst (n := (-1)) (z := (-1)) (by decide +kernel) (by decide) fun v_6 f_7 => ?_
    refine go_icmp (c := .eq) (o := 18) (t := 22) (P := y3 = (-1)) (by decide +kernel) (by decide +kernel) f3 f_7 (Iff.rfl) (fun hp_8 => ?_) (fun hp_8 => ?_)
    · have h := it_t hp_8 h
      exact hk22 h R l2 f2 l3 f3
    · have h := it_f hp_8 h
      refine go_iload_n (n := 3) (by decide +kernel) l3 f3 ?_
      refine go_iload_n (n := 2) (by decide +kernel) l2 f2 ?_
      refine go_icmp (c := .eq) (o := 13) (t := 22) (P := y3 = y2) (by decide +kernel) (by decide +kernel) f3 f2 (Iff.rfl) (fun hp_9 => ?_) (fun hp_9 => ?_)
      · have h := it_t hp_9 h
        exact hk22 h R l2 f2 l3 f3
      · have h := it_f hp_9 h
        refine go_aload_n (n := 0) (by decide +kernel) l0 f0 ?_
        refine go_getf (x := 272) (ci := 13) (kf := 102) (fin := 1) (t := 2) (by decide +kernel) (by decide +kernel) (by decide +kernel) R f0 (fx_k (c := 13) R (by decide +kernel)) fun v_10 f_11 => ?_
        have f_12 := q_is_eq (b := 152) f_11 (fx_v R (by decide +kernel)).symm
        refine go_iload_n (n := 3) (by decide +kernel) l3 f3 ?_
        obtain ⟨g_15, h⟩ := gd_s h
        obtain ⟨x_17, e_18, h⟩ := lx_s h
        refine go_iald (kd := 100) (by decide +kernel) rfl R f_12 f3 (fx_k (c := 100) R (by decide +kernel)) (fx_x (a := 152) (ln := 196608) R (by decide +kernel) g_15) fun v_13 f_14 => ?_
        have f_16 := q_is_eq f_14 e_18
        refine go_istore_n (n := 3) (by decide +kernel) (by decide +kernel) f_16 fun L_19 l_20 kp_21 => ?_
        have l_22 := kp_21 0 _ l0 (by decide) (Or.inl (by decide))
        have l_23 := kp_21 2 _ l2 (by decide) (Or.inr (q_is_cat f2 (Or.inl rfl)))
        refine go_goto (o := (-17)) (t := 2) (by decide +kernel) (by decide +kernel) ?_
        exact ih h R l_22 f0 l_23 f2 l_20 f_16
noncomputable def fm_X12_isBelow (p1 p2 : Int) (m0 : MM) : Option Int := fl_X12_isBelow_2 p2 m0 (fun x_24 =>
if x_24 = p2 then
some 1
else
some 0) BIG p1
set_option maxHeartbeats 4000000 in
theorem om_X12_isBelow {xs : List Int32} {d : Nat} {S : QS} {m0 : MM} {p1 p2 : Int} {v0 : Value} {v1 : Value} {v2 : Value} {rz : Int}
  (hd : 1 ≤ d) (R : Rp S m0) (f0 : q_is 2 v0 68) (f1 : q_is 0 v1 p1) (f2 : q_is 0 v2 p2)
  (h : fm_X12_isBelow p1 p2 m0 = some rz) : Mt xs d 230 [v0, v1, v2] S (Cr 0 m0 m0 rz) := by
  obtain ⟨d, rfl⟩ : ∃ e, d = e + 1 := ⟨d - 1, by omega⟩
  have hd : 0 ≤ d := Nat.le_of_succ_le_succ hd
  refine Mt.of (M := qM_X12_isBelow) rfl (by rw [sl_1 (q_is_cat f0 (Or.inr rfl)), sl_1 (q_is_cat f1 (Or.inl rfl)), sl_1 (q_is_cat f2 (Or.inl rfl)), sl_0]; decide) ?_
  rw [la_1 (q_is_cat f0 (Or.inr rfl)), la_1 (q_is_cat f1 (Or.inl rfl)), la_1 (q_is_cat f2 (Or.inl rfl)), la_0]
  obtain ⟨L, hL⟩ : ∃ L : QL, L = [(0, v0), (0 + 1, v1), (0 + 1 + 1, v2)] := ⟨_, rfl⟩
  rw [← hL]
  have l0 : q_lo L 0 = some v0 := by rw [hL]; rfl
  have l1 : q_lo L 1 = some v1 := by rw [hL]; rfl
  have l2 : q_lo L 2 = some v2 := by rw [hL]; rfl
  have hQ : ∀ o S1, Rp S1 m0 → q_out 0 o rz → (Cr 0 m0 m0 rz) o S1 := fun o S1 a b => ⟨a, Ext.rf _, b⟩
  unfold fm_X12_isBelow at h
  refine go_iload_n (n := 1) (by decide +kernel) l1 f1 ?_
  refine go_istore_n (n := 3) (by decide +kernel) (by decide +kernel) f1 fun L_1 l_2 kp_3 => ?_
  have l_4 := kp_3 0 _ l0 (by decide) (Or.inl (by decide))
  have l_5 := kp_3 2 _ l2 (by decide) (Or.inr (q_is_cat f2 (Or.inl rfl)))
  refine ol_X12_isBelow_2 hd  ?_ hQ BIG h R l_4 f0 l_5 f2 l_2 f1
  intro x_24 S_31 L_32 v_25 v_26
  intro h R_33 l_27 f_29 l_28 f_30
  refine go_iload_n (n := 3) (by decide +kernel) l_28 f_30 ?_
  refine go_iload_n (n := 2) (by decide +kernel) l_27 f_29 ?_
  refine go_icmp (c := .ne) (o := 7) (t := 31) (P := ¬ (x_24 = p2)) (by decide +kernel) (by decide +kernel) f_30 f_29 (Iff.rfl) (fun hp_34 => ?_) (fun hp_34 => ?_)
  · have h := it_f hp_34 h
    refine go_iconst (n := 0) (z := 0) (by decide +kernel) (by decide) fun v_35 f_36 => ?_
    cases h
    exact go_iret (by decide +kernel) rfl (Or.inr ⟨rfl, by decide⟩) f_36 (hQ _ _ R_33 (q_out_v (by decide) f_36))
  · have h := it_n hp_34 h
    refine go_iconst (n := 1) (z := 1) (by decide +kernel) (by decide) fun v_37 f_38 => ?_
    refine go_goto (o := 4) (t := 32) (by decide +kernel) (by decide +kernel) ?_
    cases h
    exact go_iret (by decide +kernel) rfl (Or.inr ⟨rfl, by decide⟩) f_38 (hQ _ _ R_33 (q_out_v (by decide) f_38))
noncomputable def fl_X12_dropsBranch_2 (y1 : Int) (k42 : MM → Option (Int × MM)) : Nat → Int → MM → Option (Int × MM)
  | 0, _, _ => none
  | n + 1, y2, m => lx (m 68 91) fun x_11 =>
if y2 < x_11 then
bp (fm_X12_goes m) fun x_15 =>
if x_15 = 0 then
k42 m
else
gd (0 ≤ y2 ∧ y2 < 12) <| lx (m 143 y2) fun x_31 =>
bp (fm_X12_isBelow x_31 y1 m) fun x_34 =>
if x_34 = 0 then
lx (w32 (y2 + 1)) fun x_48 =>
fl_X12_dropsBranch_2 y1 k42 n x_48 m
else
bd (fm_X12_lets y2 m) fun x_54 m_55 =>
lx (w32 (y2 + 1)) fun x_70 =>
fl_X12_dropsBranch_2 y1 k42 n x_70 m_55
else
k42 m
set_option maxHeartbeats 4000000 in
theorem ol_X12_dropsBranch_2 {xs : List Int32} {d : Nat} {Q : QO → QS → Prop} {mb : MM} {y1 : Int} {k42 : MM → Option (Int × MM)} {rz : Int} {rm : MM}
  (hd : 5 ≤ d)
  (hk42 : ∀ mq : MM, Ext mb mq → ∀ {Sq : QS} {Lq : QL} {u0 : Value} {u1 : Value}, k42 mq = some (rz, rm) → Rp Sq mq → q_lo Lq 0 = some u0 → q_is 2 u0 68 → q_lo Lq 1 = some u1 → q_is 0 u1 y1 → Go xs d qM_X12_dropsBranch 42 Lq [] Sq Q)
  (hQ : Ext mb rm → ∀ o S1, Rp S1 rm → q_out 9 o rz → Q o S1) :
  ∀ (n : Nat) {m : MM} {S : QS} {L : QL} {y2 : Int} {v0 : Value} {v1 : Value} {v2 : Value} , Ext mb m → fl_X12_dropsBranch_2 y1 k42 n y2 m = some (rz, rm) → Rp S m → q_lo L 0 = some v0 → q_is 2 v0 68 → q_lo L 1 = some v1 → q_is 0 v1 y1 → q_lo L 2 = some v2 → q_is 0 v2 y2 → Go xs d qM_X12_dropsBranch 2 L [] S Q := by
  intro n
  induction n with
  | zero => intro m S L y2 v0 v1 v2; intro E h R l0 f0 l1 f1 l2 f2; cases h
  | succ n ih0 =>
    intro m S L y2 v0 v1 v2; intro E h R l0 f0 l1 f1 l2 f2
    have ih : ∀ mq : MM, Ext mb mq → ∀ {z2 : Int} {Sq : QS} {Lq : QL} {u0 : Value} {u1 : Value} {u2 : Value}, fl_X12_dropsBranch_2 y1 k42 n z2 mq = some (rz, rm) → Rp Sq mq → q_lo Lq 0 = some u0 → q_is 2 u0 68 → q_lo Lq 1 = some u1 → q_is 0 u1 y1 → q_lo Lq 2 = some u2 → q_is 0 u2 z2 → Go xs d qM_X12_dropsBranch 2 Lq [] Sq Q := fun mq b => by intros; exact ih0 b ‹_› ‹_› ‹_› ‹_› ‹_› ‹_› ‹_› ‹_›
    unfold fl_X12_dropsBranch_2 at h
    refine go_iload_n (n := 2) (by decide +kernel) l2 f2 ?_
    refine go_aload_n (n := 0) (by decide +kernel) l0 f0 ?_
    obtain ⟨x_11, e_12, h⟩ := lx_s h
    refine go_getf (x := 368) (ci := 13) (kf := 91) (fin := 0) (t := 0) (by decide +kernel) (by decide +kernel) (by decide +kernel) R f0 (fx_k (c := 13) R (by decide +kernel)) fun v_8 f_9 => ?_
    have f_10 := q_is_eq f_9 e_12
    refine go_icmp (c := .ge) (o := 35) (t := 42) (P := ¬ (y2 < x_11)) (by decide +kernel) (by decide +kernel) f2 f_10 (Int.not_lt.symm) (fun hp_13 => ?_) (fun hp_13 => ?_)
    · have h := it_f hp_13 h
      exact hk42 m E h R l0 f0 l1 f1
    · have h := it_n hp_13 h
      refine go_aload_n (n := 0) (by decide +kernel) l0 f0 ?_
      obtain ⟨x_15, hc_14, h⟩ := bp_s h
      refine go_callV (x := 439) (mi := 216) (n := 0) (ci := 13) (as := []) (rest := []) (by decide +kernel) (by decide +kernel) rfl rfl (q_sum8 _ (Nat.le_of_ble_eq_true rfl)) R f0 (fx_k (c := 13) R (by decide +kernel)) (om_X12_goes (Nat.le_trans (by decide) hd) R f0 hc_14) (fun _ S_19 q_22 => ?_) (fun _ _ qq => kr_x qq)
      refine kr_z (by decide) q_22 fun v_17 f_18 R_20 E_21 => ?_
      refine go_if (c := .eq) (o := 28) (t := 42) (P := x_15 = 0) (by decide +kernel) (by decide +kernel) f_18 (Iff.rfl) (fun hp_23 => ?_) (fun hp_23 => ?_)
      · have h := it_t hp_23 h
        exact hk42 m E h R_20 l0 f0 l1 f1
      · have h := it_f hp_23 h
        refine go_aload_n (n := 0) (by decide +kernel) l0 f0 ?_
        refine go_aload_n (n := 0) (by decide +kernel) l0 f0 ?_
        refine go_getf (x := 244) (ci := 13) (kf := 93) (fin := 1) (t := 2) (by decide +kernel) (by decide +kernel) (by decide +kernel) R_20 f0 (fx_k (c := 13) R_20 (by decide +kernel)) fun v_24 f_25 => ?_
        have f_26 := q_is_eq (b := 143) f_25 (fx_v R_20 (by decide +kernel)).symm
        refine go_iload_n (n := 2) (by decide +kernel) l2 f2 ?_
        obtain ⟨g_29, h⟩ := gd_s h
        obtain ⟨x_31, e_32, h⟩ := lx_s h
        refine go_iald (kd := 100) (by decide +kernel) rfl R_20 f_26 f2 (fx_k (c := 100) R_20 (by decide +kernel)) (fx_x (a := 143) (ln := 12) R_20 (by decide +kernel) g_29) fun v_27 f_28 => ?_
        have f_30 := q_is_eq f_28 e_32
        refine go_iload_n (n := 1) (by decide +kernel) l1 f1 ?_
        obtain ⟨x_34, hc_33, h⟩ := bp_s h
        refine go_callV (x := 446) (mi := 230) (n := 2) (ci := 13) (as := [v_27, v1]) (rest := []) (by decide +kernel) (by decide +kernel) rfl rfl (q_sum8 _ (Nat.le_of_ble_eq_true rfl)) R_20 f0 (fx_k (c := 13) R_20 (by decide +kernel)) (om_X12_isBelow (Nat.le_trans (by decide) hd) R_20 f0 f_30 f1 hc_33) (fun _ S_38 q_41 => ?_) (fun _ _ qq => kr_x qq)
        refine kr_z (by decide) q_41 fun v_36 f_37 R_39 E_40 => ?_
        refine go_if (c := .eq) (o := 8) (t := 36) (P := x_34 = 0) (by decide +kernel) (by decide +kernel) f_37 (Iff.rfl) (fun hp_42 => ?_) (fun hp_42 => ?_)
        · have h := it_t hp_42 h
          refine go_iinc (n := 2) (c := 1) (c' := 1) (by decide +kernel) (by decide +kernel) l2 f2 (by decide) fun L_43 v_44 f_45 l_46 kp_47 => ?_
          obtain ⟨x_48, e_49, h⟩ := lx_s h
          have f_50 := q_is_eq f_45 e_49
          have l_51 := kp_47 0 _ l0 (by decide) (Or.inl (by decide))
          have l_52 := kp_47 1 _ l1 (by decide) (Or.inr (q_is_cat f1 (Or.inl rfl)))
          refine go_goto (o := (-37)) (t := 2) (by decide +kernel) (by decide +kernel) ?_
          exact ih m E h R_39 l_51 f0 l_52 f1 l_46 f_50
        · have h := it_f hp_42 h
          refine go_aload_n (n := 0) (by decide +kernel) l0 f0 ?_
          refine go_iload_n (n := 2) (by decide +kernel) l2 f2 ?_
          obtain ⟨x_54, m_55, hc_53, h⟩ := bd_s h
          refine go_callV (x := 436) (mi := 228) (n := 1) (ci := 13) (as := [v2]) (rest := []) (by decide +kernel) (by decide +kernel) rfl rfl (q_sum8 _ (Nat.le_of_ble_eq_true rfl)) R_39 f0 (fx_k (c := 13) R_39 (by decide +kernel)) (om_X12_lets (Nat.le_trans (by decide) hd) R_39 f0 f2 hc_53) (fun _ S_58 q_61 => ?_) (fun _ _ qq => kr_x qq)
          refine kr_v q_61 fun R_59 E_60 => ?_
          have E_64 := Ext.tr E E_60
          refine go_iinc (n := 2) (c := 1) (c' := 1) (by decide +kernel) (by decide +kernel) l2 f2 (by decide) fun L_65 v_66 f_67 l_68 kp_69 => ?_
          obtain ⟨x_70, e_71, h⟩ := lx_s h
          have f_72 := q_is_eq f_67 e_71
          have l_73 := kp_69 0 _ l0 (by decide) (Or.inl (by decide))
          have l_74 := kp_69 1 _ l1 (by decide) (Or.inr (q_is_cat f1 (Or.inl rfl)))
          refine go_goto (o := (-37)) (t := 2) (by decide +kernel) (by decide +kernel) ?_
          exact ih m_55 E_64 h R_59 l_73 f0 l_74 f1 l_68 f_72
noncomputable def fl_X12_dropsBranch_49 (y1 : Int) : Nat → Int → MM → Option (Int × MM)
  | 0, _, _ => none
  | n + 1, y2, m => if y2 < 0 then
some (0, m)
else
bp (fm_X12_goes m) fun x_108 =>
if x_108 = 0 then
some (0, m)
else
gd (0 ≤ y2 ∧ y2 < 12) <| lx (m 143 y2) fun x_124 =>
bp (fm_X12_isBelow x_124 y1 m) fun x_127 =>
if x_127 = 0 then
lx (w32 (y2 + (-1))) fun x_141 =>
fl_X12_dropsBranch_49 y1 n x_141 m
else
bd (fm_X12_removes y2 m) fun x_147 m_148 =>
lx (w32 (y2 + (-1))) fun x_163 =>
fl_X12_dropsBranch_49 y1 n x_163 m_148
set_option maxHeartbeats 4000000 in
theorem ol_X12_dropsBranch_49 {xs : List Int32} {d : Nat} {Q : QO → QS → Prop} {mb : MM} {y1 : Int} {rz : Int} {rm : MM}
  (hd : 5 ≤ d)
  (hQ : Ext mb rm → ∀ o S1, Rp S1 rm → q_out 9 o rz → Q o S1) :
  ∀ (n : Nat) {m : MM} {S : QS} {L : QL} {y2 : Int} {v0 : Value} {v1 : Value} {v2 : Value} , Ext mb m → fl_X12_dropsBranch_49 y1 n y2 m = some (rz, rm) → Rp S m → q_lo L 0 = some v0 → q_is 2 v0 68 → q_lo L 1 = some v1 → q_is 0 v1 y1 → q_lo L 2 = some v2 → q_is 0 v2 y2 → Go xs d qM_X12_dropsBranch 49 L [] S Q := by
  intro n
  induction n with
  | zero => intro m S L y2 v0 v1 v2; intro E h R l0 f0 l1 f1 l2 f2; cases h
  | succ n ih0 =>
    intro m S L y2 v0 v1 v2; intro E h R l0 f0 l1 f1 l2 f2
    have ih : ∀ mq : MM, Ext mb mq → ∀ {z2 : Int} {Sq : QS} {Lq : QL} {u0 : Value} {u1 : Value} {u2 : Value}, fl_X12_dropsBranch_49 y1 n z2 mq = some (rz, rm) → Rp Sq mq → q_lo Lq 0 = some u0 → q_is 2 u0 68 → q_lo Lq 1 = some u1 → q_is 0 u1 y1 → q_lo Lq 2 = some u2 → q_is 0 u2 z2 → Go xs d qM_X12_dropsBranch 49 Lq [] Sq Q := fun mq b => by intros; exact ih0 b ‹_› ‹_› ‹_› ‹_› ‹_› ‹_› ‹_› ‹_›
    unfold fl_X12_dropsBranch_49 at h
    refine go_iload_n (n := 2) (by decide +kernel) l2 f2 ?_
    refine go_if (c := .lt) (o := 35) (t := 85) (P := y2 < 0) (by decide +kernel) (by decide +kernel) f2 (Iff.rfl) (fun hp_106 => ?_) (fun hp_106 => ?_)
    · have h := it_t hp_106 h
      cases h
      exact go_vret (by decide +kernel) rfl (hQ E _ _ R q_out_n)
    · have h := it_f hp_106 h
      refine go_aload_n (n := 0) (by decide +kernel) l0 f0 ?_
      obtain ⟨x_108, hc_107, h⟩ := bp_s h
      refine go_callV (x := 439) (mi := 216) (n := 0) (ci := 13) (as := []) (rest := []) (by decide +kernel) (by decide +kernel) rfl rfl (q_sum8 _ (Nat.le_of_ble_eq_true rfl)) R f0 (fx_k (c := 13) R (by decide +kernel)) (om_X12_goes (Nat.le_trans (by decide) hd) R f0 hc_107) (fun _ S_112 q_115 => ?_) (fun _ _ qq => kr_x qq)
      refine kr_z (by decide) q_115 fun v_110 f_111 R_113 E_114 => ?_
      refine go_if (c := .eq) (o := 28) (t := 85) (P := x_108 = 0) (by decide +kernel) (by decide +kernel) f_111 (Iff.rfl) (fun hp_116 => ?_) (fun hp_116 => ?_)
      · have h := it_t hp_116 h
        cases h
        exact go_vret (by decide +kernel) rfl (hQ E _ _ R_113 q_out_n)
      · have h := it_f hp_116 h
        refine go_aload_n (n := 0) (by decide +kernel) l0 f0 ?_
        refine go_aload_n (n := 0) (by decide +kernel) l0 f0 ?_
        refine go_getf (x := 244) (ci := 13) (kf := 93) (fin := 1) (t := 2) (by decide +kernel) (by decide +kernel) (by decide +kernel) R_113 f0 (fx_k (c := 13) R_113 (by decide +kernel)) fun v_117 f_118 => ?_
        have f_119 := q_is_eq (b := 143) f_118 (fx_v R_113 (by decide +kernel)).symm
        refine go_iload_n (n := 2) (by decide +kernel) l2 f2 ?_
        obtain ⟨g_122, h⟩ := gd_s h
        obtain ⟨x_124, e_125, h⟩ := lx_s h
        refine go_iald (kd := 100) (by decide +kernel) rfl R_113 f_119 f2 (fx_k (c := 100) R_113 (by decide +kernel)) (fx_x (a := 143) (ln := 12) R_113 (by decide +kernel) g_122) fun v_120 f_121 => ?_
        have f_123 := q_is_eq f_121 e_125
        refine go_iload_n (n := 1) (by decide +kernel) l1 f1 ?_
        obtain ⟨x_127, hc_126, h⟩ := bp_s h
        refine go_callV (x := 446) (mi := 230) (n := 2) (ci := 13) (as := [v_120, v1]) (rest := []) (by decide +kernel) (by decide +kernel) rfl rfl (q_sum8 _ (Nat.le_of_ble_eq_true rfl)) R_113 f0 (fx_k (c := 13) R_113 (by decide +kernel)) (om_X12_isBelow (Nat.le_trans (by decide) hd) R_113 f0 f_123 f1 hc_126) (fun _ S_131 q_134 => ?_) (fun _ _ qq => kr_x qq)
        refine kr_z (by decide) q_134 fun v_129 f_130 R_132 E_133 => ?_
        refine go_if (c := .eq) (o := 8) (t := 79) (P := x_127 = 0) (by decide +kernel) (by decide +kernel) f_130 (Iff.rfl) (fun hp_135 => ?_) (fun hp_135 => ?_)
        · have h := it_t hp_135 h
          refine go_iinc (n := 2) (c := (-1)) (c' := (-1)) (by decide +kernel) (by decide +kernel) l2 f2 (by decide) fun L_136 v_137 f_138 l_139 kp_140 => ?_
          obtain ⟨x_141, e_142, h⟩ := lx_s h
          have f_143 := q_is_eq f_138 e_142
          have l_144 := kp_140 0 _ l0 (by decide) (Or.inl (by decide))
          have l_145 := kp_140 1 _ l1 (by decide) (Or.inr (q_is_cat f1 (Or.inl rfl)))
          refine go_goto (o := (-33)) (t := 49) (by decide +kernel) (by decide +kernel) ?_
          exact ih m E h R_132 l_144 f0 l_145 f1 l_139 f_143
        · have h := it_f hp_135 h
          refine go_aload_n (n := 0) (by decide +kernel) l0 f0 ?_
          refine go_iload_n (n := 2) (by decide +kernel) l2 f2 ?_
          obtain ⟨x_147, m_148, hc_146, h⟩ := bd_s h
          refine go_callV (x := 433) (mi := 224) (n := 1) (ci := 13) (as := [v2]) (rest := []) (by decide +kernel) (by decide +kernel) rfl rfl (q_sum8 _ (Nat.le_of_ble_eq_true rfl)) R_132 f0 (fx_k (c := 13) R_132 (by decide +kernel)) (om_X12_removes (Nat.le_trans (by decide) hd) R_132 f0 f2 hc_146) (fun _ S_151 q_154 => ?_) (fun _ _ qq => kr_x qq)
          refine kr_v q_154 fun R_152 E_153 => ?_
          have E_157 := Ext.tr E E_153
          refine go_iinc (n := 2) (c := (-1)) (c' := (-1)) (by decide +kernel) (by decide +kernel) l2 f2 (by decide) fun L_158 v_159 f_160 l_161 kp_162 => ?_
          obtain ⟨x_163, e_164, h⟩ := lx_s h
          have f_165 := q_is_eq f_160 e_164
          have l_166 := kp_162 0 _ l0 (by decide) (Or.inl (by decide))
          have l_167 := kp_162 1 _ l1 (by decide) (Or.inr (q_is_cat f1 (Or.inl rfl)))
          refine go_goto (o := (-33)) (t := 49) (by decide +kernel) (by decide +kernel) ?_
          exact ih m_148 E_157 h R_152 l_166 f0 l_167 f1 l_161 f_165
noncomputable def fm_X12_dropsBranch (p1 : Int) (m0 : MM) : Option (Int × MM) := fl_X12_dropsBranch_2 p1 (fun m_84 =>
lx (m_84 68 91) fun x_92 =>
lx (w32 (x_92 - 1)) fun x_98 =>
fl_X12_dropsBranch_49 p1  BIG x_98 m_84) BIG 0 m0
set_option maxHeartbeats 4000000 in
theorem om_X12_dropsBranch {xs : List Int32} {d : Nat} {S : QS} {m0 : MM} {p1 : Int} {v0 : Value} {v1 : Value} {rz : Int} {rm : MM}
  (hd : 6 ≤ d) (R : Rp S m0) (f0 : q_is 2 v0 68) (f1 : q_is 0 v1 p1)
  (h : fm_X12_dropsBranch p1 m0 = some (rz, rm)) : Mt xs d 231 [v0, v1] S (Cr 9 m0 rm rz) := by
  obtain ⟨d, rfl⟩ : ∃ e, d = e + 1 := ⟨d - 1, by omega⟩
  have hd : 5 ≤ d := Nat.le_of_succ_le_succ hd
  refine Mt.of (M := qM_X12_dropsBranch) rfl (by rw [sl_1 (q_is_cat f0 (Or.inr rfl)), sl_1 (q_is_cat f1 (Or.inl rfl)), sl_0]; decide) ?_
  rw [la_1 (q_is_cat f0 (Or.inr rfl)), la_1 (q_is_cat f1 (Or.inl rfl)), la_0]
  obtain ⟨L, hL⟩ : ∃ L : QL, L = [(0, v0), (0 + 1, v1)] := ⟨_, rfl⟩
  rw [← hL]
  have l0 : q_lo L 0 = some v0 := by rw [hL]; rfl
  have l1 : q_lo L 1 = some v1 := by rw [hL]; rfl
  have hQ : Ext m0 rm → ∀ o S1, Rp S1 rm → q_out 9 o rz → (Cr 9 m0 rm rz) o S1 := fun a o S1 b e => ⟨b, a, e⟩
  unfold fm_X12_dropsBranch at h
  refine go_iconst (n := 0) (z := 0) (by decide +kernel) (by decide) fun v_1 f_2 => ?_
  refine go_istore_n (n := 2) (by decide +kernel) (by decide +kernel) f_2 fun L_3 l_4 kp_5 => ?_
  have l_6 := kp_5 0 _ l0 (by decide) (Or.inl (by decide))
  have l_7 := kp_5 1 _ l1 (by decide) (Or.inr (q_is_cat f1 (Or.inl rfl)))
  refine ol_X12_dropsBranch_2 hd  ?_ hQ BIG (Ext.rf _) h R l_6 f0 l_7 f1 l_4 f_2
  intro m_84 E_85
  intro S_81 L_82 v_75 v_76
  intro h R_83 l_77 f_79 l_78 f_80
  have E_86 := E_85
  refine go_aload_n (n := 0) (by decide +kernel) l_77 f_79 ?_
  obtain ⟨x_92, e_93, h⟩ := lx_s h
  refine go_getf (x := 368) (ci := 13) (kf := 91) (fin := 0) (t := 0) (by decide +kernel) (by decide +kernel) (by decide +kernel) R_83 f_79 (fx_k (c := 13) R_83 (by decide +kernel)) fun v_89 f_90 => ?_
  have f_91 := q_is_eq f_90 e_93
  refine go_iconst (n := 1) (z := 1) (by decide +kernel) (by decide) fun v_94 f_95 => ?_
  refine go_isub (by decide +kernel) f_91 f_95 fun v_96 f_97 => ?_
  obtain ⟨x_98, e_99, h⟩ := lx_s h
  have f_100 := q_is_eq f_97 e_99
  refine go_istore_n (n := 2) (by decide +kernel) (by decide +kernel) f_100 fun L_101 l_102 kp_103 => ?_
  have l_104 := kp_103 0 _ l_77 (by decide) (Or.inl (by decide))
  have l_105 := kp_103 1 _ l_78 (by decide) (Or.inr (q_is_cat f_80 (Or.inl rfl)))
  refine ol_X12_dropsBranch_49 hd   (fun b => hQ (Ext.tr E_86 b)) BIG (Ext.rf _) h R_83 l_104 f_79 l_105 f_80 l_102 f_100
noncomputable def fj_X12_wins_28 (y1 y2 y3 s0 : Int) (m : MM) : Option (Int × MM) := gd (0 ≤ y1 ∧ y1 < 12) <| lx (m 144 y1) fun x_55 =>
up m 144 y1 (w32 (x_55 + 1)) fun m_61 =>
up m_61 149 y1 (-1) fun m_73 =>
if s0 = (-1) then
some (0, m_73)
else
gd (0 ≤ s0 ∧ s0 < 12) <| up m_73 149 s0 (-1) fun m_89 =>
gd (0 ≤ y2 ∧ y2 < 196608) <| lx (m_89 152 y2) fun x_103 =>
if x_103 = y3 then
lx (m_89 144 y1) fun x_124 =>
bd (fm_X12_lets s0 m_89) fun x_133 m_134 =>
up m_134 144 s0 x_124 fun m_147 =>
bp (fm_X12_goes m_147) fun x_155 =>
if x_155 = 0 then
some (0, m_147)
else
bd (fm_X12_dropsBranch y2 m_147) fun x_165 m_166 =>
some (0, m_166)
else
bd (fm_X12_dropsBranch y3 m_89) fun x_107 m_108 =>
some (0, m_108)
set_option maxHeartbeats 4000000 in
theorem oj_X12_wins_28 {xs : List Int32} {d : Nat} {S : QS} {L : QL} {Q : QO → QS → Prop} {m : MM} {y1 y2 y3 s0 : Int} {v0 : Value} {v1 : Value} {v2 : Value} {v3 : Value} {w0 : Value}  {rz : Int} {rm : MM}
  (hd : 6 ≤ d) (R : Rp S m) (l0 : q_lo L 0 = some v0) (f0 : q_is 2 v0 68) (l1 : q_lo L 1 = some v1) (f1 : q_is 0 v1 y1) (l2 : q_lo L 2 = some v2) (f2 : q_is 0 v2 y2) (l3 : q_lo L 3 = some v3) (f3 : q_is 0 v3 y3) (fs0 : q_is 0 w0 s0)
  (hQ : Ext m rm → ∀ o S1, Rp S1 rm → q_out 9 o rz → Q o S1)
  (h : fj_X12_wins_28 y1 y2 y3 s0 m = some (rz, rm)) : Go xs d qM_X12_wins 28 L [w0] S Q := by
  unfold fj_X12_wins_28 at h
  refine go_istore (n := 4) (by decide +kernel) (by decide +kernel) fs0 fun L_41 l_42 kp_43 => ?_
  have l_44 := kp_43 0 _ l0 (by decide) (Or.inl (by decide))
  have l_45 := kp_43 1 _ l1 (by decide) (Or.inl (by decide))
  have l_46 := kp_43 2 _ l2 (by decide) (Or.inl (by decide))
  have l_47 := kp_43 3 _ l3 (by decide) (Or.inr (q_is_cat f3 (Or.inl rfl)))
  refine go_aload_n (n := 0) (by decide +kernel) l_44 f0 ?_
  refine go_getf (x := 247) (ci := 13) (kf := 94) (fin := 1) (t := 2) (by decide +kernel) (by decide +kernel) (by decide +kernel) R f0 (fx_k (c := 13) R (by decide +kernel)) fun v_48 f_49 => ?_
  have f_50 := q_is_eq (b := 144) f_49 (fx_v R (by decide +kernel)).symm
  refine go_iload_n (n := 1) (by decide +kernel) l_45 f1 ?_
  refine go_dup2 (by decide +kernel) f1 (Or.inl rfl) f_50 (Or.inr rfl) ?_
  obtain ⟨g_53, h⟩ := gd_s h
  obtain ⟨x_55, e_56, h⟩ := lx_s h
  refine go_iald (kd := 100) (by decide +kernel) rfl R f_50 f1 (fx_k (c := 100) R (by decide +kernel)) (fx_x (a := 144) (ln := 12) R (by decide +kernel) g_53) fun v_51 f_52 => ?_
  have f_54 := q_is_eq f_52 e_56
  refine go_iconst (n := 1) (z := 1) (by decide +kernel) (by decide) fun v_57 f_58 => ?_
  refine go_iadd (by decide +kernel) f_54 f_58 fun v_59 f_60 => ?_
  obtain ⟨m_61, e_62, h⟩ := up_s h
  refine go_iast (kd := 100) (by decide +kernel) rfl R f_50 f1 f_60 (fx_k (c := 100) R (by decide +kernel)) (fx_x (a := 144) (ln := 12) R (by decide +kernel) g_53) e_62 (fx_a R.2 (fx_k (c := 100) R (by decide +kernel)) (And.left (fx_x (a := 144) (ln := 12) R (by decide +kernel) g_53)) (by decide +kernel)) fun S_63 R_64 E_65 => ?_
  have E_67 := E_65
  refine go_aload_n (n := 0) (by decide +kernel) l_44 f0 ?_
  refine go_getf (x := 262) (ci := 13) (kf := 99) (fin := 1) (t := 2) (by decide +kernel) (by decide +kernel) (by decide +kernel) R_64 f0 (fx_k (c := 13) R_64 (by decide +kernel)) fun v_68 f_69 => ?_
  have f_70 := q_is_eq (b := 149) f_69 (fx_v R_64 (by decide +kernel)).symm
  refine go_iload_n (n := 1) (by decide +kernel) l_45 f1 ?_
  refine go_iconst (n := (-1)) (z := (-1)) (by decide +kernel) (by decide) fun v_71 f_72 => ?_
  obtain ⟨m_73, e_74, h⟩ := up_s h
  refine go_iast (kd := 100) (by decide +kernel) rfl R_64 f_70 f1 f_72 (fx_k (c := 100) R_64 (by decide +kernel)) (fx_x (a := 149) (ln := 12) R_64 (by decide +kernel) g_53) e_74 (fx_a R_64.2 (fx_k (c := 100) R_64 (by decide +kernel)) (And.left (fx_x (a := 149) (ln := 12) R_64 (by decide +kernel) g_53)) (by decide +kernel)) fun S_75 R_76 E_77 => ?_
  have E_79 := Ext.tr E_67 E_77
  refine go_iload (n := 4) (by decide +kernel) l_42 fs0 ?_
  refine go_iconst (n := (-1)) (z := (-1)) (by decide +kernel) (by decide) fun v_80 f_81 => ?_
  refine go_icmp (c := .ne) (o := 4) (t := 54) (P := ¬ (s0 = (-1))) (by decide +kernel) (by decide +kernel) fs0 f_81 (Iff.rfl) (fun hp_82 => ?_) (fun hp_82 => ?_)
  · have h := it_f hp_82 h
    refine go_aload_n (n := 0) (by decide +kernel) l_44 f0 ?_
    refine go_getf (x := 262) (ci := 13) (kf := 99) (fin := 1) (t := 2) (by decide +kernel) (by decide +kernel) (by decide +kernel) R_76 f0 (fx_k (c := 13) R_76 (by decide +kernel)) fun v_83 f_84 => ?_
    have f_85 := q_is_eq (b := 149) f_84 (fx_v R_76 (by decide +kernel)).symm
    refine go_iload (n := 4) (by decide +kernel) l_42 fs0 ?_
    refine go_iconst (n := (-1)) (z := (-1)) (by decide +kernel) (by decide) fun v_86 f_87 => ?_
    obtain ⟨g_88, h⟩ := gd_s h
    obtain ⟨m_89, e_90, h⟩ := up_s h
    refine go_iast (kd := 100) (by decide +kernel) rfl R_76 f_85 fs0 f_87 (fx_k (c := 100) R_76 (by decide +kernel)) (fx_x (a := 149) (ln := 12) R_76 (by decide +kernel) g_88) e_90 (fx_a R_76.2 (fx_k (c := 100) R_76 (by decide +kernel)) (And.left (fx_x (a := 149) (ln := 12) R_76 (by decide +kernel) g_88)) (by decide +kernel)) fun S_91 R_92 E_93 => ?_
    have E_95 := Ext.tr E_79 E_93
    refine go_aload_n (n := 0) (by decide +kernel) l_44 f0 ?_
    refine go_getf (x := 272) (ci := 13) (kf := 102) (fin := 1) (t := 2) (by decide +kernel) (by decide +kernel) (by decide +kernel) R_92 f0 (fx_k (c := 13) R_92 (by decide +kernel)) fun v_96 f_97 => ?_
    have f_98 := q_is_eq (b := 152) f_97 (fx_v R_92 (by decide +kernel)).symm
    refine go_iload_n (n := 2) (by decide +kernel) l_46 f2 ?_
    obtain ⟨g_101, h⟩ := gd_s h
    obtain ⟨x_103, e_104, h⟩ := lx_s h
    refine go_iald (kd := 100) (by decide +kernel) rfl R_92 f_98 f2 (fx_k (c := 100) R_92 (by decide +kernel)) (fx_x (a := 152) (ln := 196608) R_92 (by decide +kernel) g_101) fun v_99 f_100 => ?_
    have f_102 := q_is_eq f_100 e_104
    refine go_iload_n (n := 3) (by decide +kernel) l_47 f3 ?_
    refine go_icmp (c := .ne) (o := 41) (t := 110) (P := ¬ (x_103 = y3)) (by decide +kernel) (by decide +kernel) f_102 f3 (Iff.rfl) (fun hp_105 => ?_) (fun hp_105 => ?_)
    · have h := it_f hp_105 h
      refine go_aload_n (n := 0) (by decide +kernel) l_44 f0 ?_
      refine go_iload_n (n := 3) (by decide +kernel) l_47 f3 ?_
      obtain ⟨x_107, m_108, hc_106, h⟩ := bd_s h
      refine go_callV (x := 452) (mi := 231) (n := 1) (ci := 13) (as := [v3]) (rest := []) (by decide +kernel) (by decide +kernel) rfl rfl (q_sum8 _ (Nat.le_of_ble_eq_true rfl)) R_92 f0 (fx_k (c := 13) R_92 (by decide +kernel)) (om_X12_dropsBranch (Nat.le_trans (by decide) hd) R_92 f0 f3 hc_106) (fun _ S_111 q_114 => ?_) (fun _ _ qq => kr_x qq)
      refine kr_v q_114 fun R_112 E_113 => ?_
      have E_117 := Ext.tr E_95 E_113
      cases h
      exact go_vret (by decide +kernel) rfl (hQ E_117 _ _ R_112 q_out_n)
    · have h := it_n hp_105 h
      refine go_aload_n (n := 0) (by decide +kernel) l_44 f0 ?_
      refine go_getf (x := 247) (ci := 13) (kf := 94) (fin := 1) (t := 2) (by decide +kernel) (by decide +kernel) (by decide +kernel) R_92 f0 (fx_k (c := 13) R_92 (by decide +kernel)) fun v_118 f_119 => ?_
      have f_120 := q_is_eq (b := 144) f_119 (fx_v R_92 (by decide +kernel)).symm
      refine go_iload_n (n := 1) (by decide +kernel) l_45 f1 ?_
      obtain ⟨x_124, e_125, h⟩ := lx_s h
      refine go_iald (kd := 100) (by decide +kernel) rfl R_92 f_120 f1 (fx_k (c := 100) R_92 (by decide +kernel)) (fx_x (a := 144) (ln := 12) R_92 (by decide +kernel) g_53) fun v_121 f_122 => ?_
      have f_123 := q_is_eq f_122 e_125
      refine go_istore (n := 5) (by decide +kernel) (by decide +kernel) f_123 fun L_126 l_127 kp_128 => ?_
      have l_129 := kp_128 0 _ l_44 (by decide) (Or.inl (by decide))
      have l_130 := kp_128 2 _ l_46 (by decide) (Or.inl (by decide))
      have l_131 := kp_128 4 _ l_42 (by decide) (Or.inr (q_is_cat fs0 (Or.inl rfl)))
      refine go_aload_n (n := 0) (by decide +kernel) l_129 f0 ?_
      refine go_iload (n := 4) (by decide +kernel) l_131 fs0 ?_
      obtain ⟨x_133, m_134, hc_132, h⟩ := bd_s h
      refine go_callV (x := 436) (mi := 228) (n := 1) (ci := 13) (as := [w0]) (rest := []) (by decide +kernel) (by decide +kernel) rfl rfl (q_sum8 _ (Nat.le_of_ble_eq_true rfl)) R_92 f0 (fx_k (c := 13) R_92 (by decide +kernel)) (om_X12_lets (Nat.le_trans (by decide) hd) R_92 f0 fs0 hc_132) (fun _ S_137 q_140 => ?_) (fun _ _ qq => kr_x qq)
      refine kr_v q_140 fun R_138 E_139 => ?_
      have E_143 := Ext.tr E_95 E_139
      refine go_aload_n (n := 0) (by decide +kernel) l_129 f0 ?_
      refine go_getf (x := 247) (ci := 13) (kf := 94) (fin := 1) (t := 2) (by decide +kernel) (by decide +kernel) (by decide +kernel) R_138 f0 (fx_k (c := 13) R_138 (by decide +kernel)) fun v_144 f_145 => ?_
      have f_146 := q_is_eq (b := 144) f_145 (fx_v R_138 (by decide +kernel)).symm
      refine go_iload (n := 4) (by decide +kernel) l_131 fs0 ?_
      refine go_iload (n := 5) (by decide +kernel) l_127 f_123 ?_
      obtain ⟨m_147, e_148, h⟩ := up_s h
      refine go_iast (kd := 100) (by decide +kernel) rfl R_138 f_146 fs0 f_123 (fx_k (c := 100) R_138 (by decide +kernel)) (fx_x (a := 144) (ln := 12) R_138 (by decide +kernel) g_88) e_148 (fx_a R_138.2 (fx_k (c := 100) R_138 (by decide +kernel)) (And.left (fx_x (a := 144) (ln := 12) R_138 (by decide +kernel) g_88)) (by decide +kernel)) fun S_149 R_150 E_151 => ?_
      have E_153 := Ext.tr E_143 E_151
      refine go_aload_n (n := 0) (by decide +kernel) l_129 f0 ?_
      obtain ⟨x_155, hc_154, h⟩ := bp_s h
      refine go_callV (x := 439) (mi := 216) (n := 0) (ci := 13) (as := []) (rest := []) (by decide +kernel) (by decide +kernel) rfl rfl (q_sum8 _ (Nat.le_of_ble_eq_true rfl)) R_150 f0 (fx_k (c := 13) R_150 (by decide +kernel)) (om_X12_goes (Nat.le_trans (by decide) hd) R_150 f0 hc_154) (fun _ S_159 q_162 => ?_) (fun _ _ qq => kr_x qq)
      refine kr_z (by decide) q_162 fun v_157 f_158 R_160 E_161 => ?_
      refine go_if (c := .eq) (o := 8) (t := 107) (P := x_155 = 0) (by decide +kernel) (by decide +kernel) f_158 (Iff.rfl) (fun hp_163 => ?_) (fun hp_163 => ?_)
      · have h := it_t hp_163 h
        refine go_goto (o := 8) (t := 115) (by decide +kernel) (by decide +kernel) ?_
        cases h
        exact go_vret (by decide +kernel) rfl (hQ E_153 _ _ R_160 q_out_n)
      · have h := it_f hp_163 h
        refine go_aload_n (n := 0) (by decide +kernel) l_129 f0 ?_
        refine go_iload_n (n := 2) (by decide +kernel) l_130 f2 ?_
        obtain ⟨x_165, m_166, hc_164, h⟩ := bd_s h
        refine go_callV (x := 452) (mi := 231) (n := 1) (ci := 13) (as := [v2]) (rest := []) (by decide +kernel) (by decide +kernel) rfl rfl (q_sum8 _ (Nat.le_of_ble_eq_true rfl)) R_160 f0 (fx_k (c := 13) R_160 (by decide +kernel)) (om_X12_dropsBranch (Nat.le_trans (by decide) hd) R_160 f0 f2 hc_164) (fun _ S_169 q_172 => ?_) (fun _ _ qq => kr_x qq)
        refine kr_v q_172 fun R_170 E_171 => ?_
        have E_175 := Ext.tr E_153 E_171
        refine go_goto (o := 8) (t := 115) (by decide +kernel) (by decide +kernel) ?_
        cases h
        exact go_vret (by decide +kernel) rfl (hQ E_175 _ _ R_170 q_out_n)
  · have h := it_n hp_82 h
    cases h
    exact go_vret (by decide +kernel) rfl (hQ E_79 _ _ R_76 q_out_n)
noncomputable def fm_X12_wins (p1 : Int) (m0 : MM) : Option (Int × MM) := gd (0 ≤ p1 ∧ p1 < 12) <| lx (m0 143 p1) fun x_8 =>
lx (m0 149 p1) fun x_21 =>
if x_21 = (-1) then
fj_X12_wins_28 p1 x_8 x_21 (-1) m0
else
bp (fm_X12_slot x_21 m0) fun x_33 =>
fj_X12_wins_28 p1 x_8 x_21 x_33 m0
set_option maxHeartbeats 4000000 in
theorem om_X12_wins {xs : List Int32} {d : Nat} {S : QS} {m0 : MM} {p1 : Int} {v0 : Value} {v1 : Value} {rz : Int} {rm : MM}
  (hd : 7 ≤ d) (R : Rp S m0) (f0 : q_is 2 v0 68) (f1 : q_is 0 v1 p1)
  (h : fm_X12_wins p1 m0 = some (rz, rm)) : Mt xs d 232 [v0, v1] S (Cr 9 m0 rm rz) := by
  obtain ⟨d, rfl⟩ : ∃ e, d = e + 1 := ⟨d - 1, by omega⟩
  have hd : 6 ≤ d := Nat.le_of_succ_le_succ hd
  refine Mt.of (M := qM_X12_wins) rfl (by rw [sl_1 (q_is_cat f0 (Or.inr rfl)), sl_1 (q_is_cat f1 (Or.inl rfl)), sl_0]; decide) ?_
  rw [la_1 (q_is_cat f0 (Or.inr rfl)), la_1 (q_is_cat f1 (Or.inl rfl)), la_0]
  obtain ⟨L, hL⟩ : ∃ L : QL, L = [(0, v0), (0 + 1, v1)] := ⟨_, rfl⟩
  rw [← hL]
  have l0 : q_lo L 0 = some v0 := by rw [hL]; rfl
  have l1 : q_lo L 1 = some v1 := by rw [hL]; rfl
  have hQ : Ext m0 rm → ∀ o S1, Rp S1 rm → q_out 9 o rz → (Cr 9 m0 rm rz) o S1 := fun a o S1 b e => ⟨b, a, e⟩
  unfold fm_X12_wins at h
  refine go_aload_n (n := 0) (by decide +kernel) l0 f0 ?_
  refine go_getf (x := 244) (ci := 13) (kf := 93) (fin := 1) (t := 2) (by decide +kernel) (by decide +kernel) (by decide +kernel) R f0 (fx_k (c := 13) R (by decide +kernel)) fun v_1 f_2 => ?_
  have f_3 := q_is_eq (b := 143) f_2 (fx_v R (by decide +kernel)).symm
  refine go_iload_n (n := 1) (by decide +kernel) l1 f1 ?_
  obtain ⟨g_6, h⟩ := gd_s h
  obtain ⟨x_8, e_9, h⟩ := lx_s h
  refine go_iald (kd := 100) (by decide +kernel) rfl R f_3 f1 (fx_k (c := 100) R (by decide +kernel)) (fx_x (a := 143) (ln := 12) R (by decide +kernel) g_6) fun v_4 f_5 => ?_
  have f_7 := q_is_eq f_5 e_9
  refine go_istore_n (n := 2) (by decide +kernel) (by decide +kernel) f_7 fun L_10 l_11 kp_12 => ?_
  have l_13 := kp_12 0 _ l0 (by decide) (Or.inl (by decide))
  have l_14 := kp_12 1 _ l1 (by decide) (Or.inr (q_is_cat f1 (Or.inl rfl)))
  refine go_aload_n (n := 0) (by decide +kernel) l_13 f0 ?_
  refine go_getf (x := 262) (ci := 13) (kf := 99) (fin := 1) (t := 2) (by decide +kernel) (by decide +kernel) (by decide +kernel) R f0 (fx_k (c := 13) R (by decide +kernel)) fun v_15 f_16 => ?_
  have f_17 := q_is_eq (b := 149) f_16 (fx_v R (by decide +kernel)).symm
  refine go_iload_n (n := 1) (by decide +kernel) l_14 f1 ?_
  obtain ⟨x_21, e_22, h⟩ := lx_s h
  refine go_iald (kd := 100) (by decide +kernel) rfl R f_17 f1 (fx_k (c := 100) R (by decide +kernel)) (fx_x (a := 149) (ln := 12) R (by decide +kernel) g_6) fun v_18 f_19 => ?_
  have f_20 := q_is_eq f_19 e_22
  refine go_istore_n (n := 3) (by decide +kernel) (by decide +kernel) f_20 fun L_23 l_24 kp_25 => ?_
  have l_26 := kp_25 0 _ l_13 (by decide) (Or.inl (by decide))
  have l_27 := kp_25 1 _ l_14 (by decide) (Or.inl (by decide))
  have l_28 := kp_25 2 _ l_11 (by decide) (Or.inr (q_is_cat f_7 (Or.inl rfl)))
  refine go_iload_n (n := 3) (by decide +kernel) l_24 f_20 ?_
  refine go_iconst (n := (-1)) (z := (-1)) (by decide +kernel) (by decide) fun v_29 f_30 => ?_
  refine go_icmp (c := .ne) (o := 7) (t := 23) (P := ¬ (x_21 = (-1))) (by decide +kernel) (by decide +kernel) f_20 f_30 (Iff.rfl) (fun hp_31 => ?_) (fun hp_31 => ?_)
  · have h := it_f hp_31 h
    refine go_aload_n (n := 0) (by decide +kernel) l_26 f0 ?_
    refine go_iload_n (n := 3) (by decide +kernel) l_24 f_20 ?_
    obtain ⟨x_33, hc_32, h⟩ := bp_s h
    refine go_callV (x := 449) (mi := 215) (n := 1) (ci := 13) (as := [v_18]) (rest := []) (by decide +kernel) (by decide +kernel) rfl rfl (q_sum8 _ (Nat.le_of_ble_eq_true rfl)) R f0 (fx_k (c := 13) R (by decide +kernel)) (om_X12_slot (Nat.le_trans (by decide) hd) R f0 f_20 hc_32) (fun _ S_37 q_40 => ?_) (fun _ _ qq => kr_x qq)
    refine kr_z (by decide) q_40 fun v_35 f_36 R_38 E_39 => ?_
    exact oj_X12_wins_28 hd R_38 l_26 f0 l_27 f1 l_28 f_7 l_24 f_20 f_36 hQ h
  · have h := it_n hp_31 h
    refine go_iconst (n := (-1)) (z := (-1)) (by decide +kernel) (by decide) fun v_176 f_177 => ?_
    refine go_goto (o := 8) (t := 28) (by decide +kernel) (by decide +kernel) ?_
    exact oj_X12_wins_28 hd R l_26 f0 l_27 f1 l_28 f_7 l_24 f_20 f_177 hQ h
noncomputable def fj_X12_races_37 (y1 y2 : Int) (m : MM) : Option (Int × MM) := gd (0 ≤ y1 ∧ y1 < 12) <| lx (m 143 y1) fun x_44 =>
bd (fm_X12_begins y2 x_44 m) fun x_47 m_48 =>
lx (m_48 68 114) fun x_61 =>
if x_61 = 0 then
lx (m_48 68 91) fun x_73 =>
gd (0 ≤ w32 (x_73 - 1) ∧ w32 (x_73 - 1) < 12) <| lx (m_48 143 (w32 (x_73 - 1))) fun x_83 =>
up m_48 149 y1 x_83 fun m_85 =>
lx (m_85 68 91) fun x_98 =>
lx (m_85 143 y1) fun x_110 =>
gd (0 ≤ w32 (x_98 - 1) ∧ w32 (x_98 - 1) < 12) <| up m_85 149 (w32 (x_98 - 1)) x_110 fun m_113 =>
some (0, m_113)
else
some (0, m_48)
set_option maxHeartbeats 4000000 in
theorem oj_X12_races_37 {xs : List Int32} {d : Nat} {S : QS} {L : QL} {Q : QO → QS → Prop} {m : MM} {y1 y2 : Int} {v0 : Value} {v1 : Value} {v2 : Value}  {rz : Int} {rm : MM}
  (hd : 2 ≤ d) (R : Rp S m) (l0 : q_lo L 0 = some v0) (f0 : q_is 2 v0 68) (l1 : q_lo L 1 = some v1) (f1 : q_is 0 v1 y1) (l2 : q_lo L 2 = some v2) (f2 : q_is 0 v2 y2)
  (hQ : Ext m rm → ∀ o S1, Rp S1 rm → q_out 9 o rz → Q o S1)
  (h : fj_X12_races_37 y1 y2 m = some (rz, rm)) : Go xs d qM_X12_races 37 L [] S Q := by
  unfold fj_X12_races_37 at h
  refine go_aload_n (n := 0) (by decide +kernel) l0 f0 ?_
  refine go_iload_n (n := 2) (by decide +kernel) l2 f2 ?_
  refine go_aload_n (n := 0) (by decide +kernel) l0 f0 ?_
  refine go_getf (x := 244) (ci := 13) (kf := 93) (fin := 1) (t := 2) (by decide +kernel) (by decide +kernel) (by decide +kernel) R f0 (fx_k (c := 13) R (by decide +kernel)) fun v_37 f_38 => ?_
  have f_39 := q_is_eq (b := 143) f_38 (fx_v R (by decide +kernel)).symm
  refine go_iload_n (n := 1) (by decide +kernel) l1 f1 ?_
  obtain ⟨g_42, h⟩ := gd_s h
  obtain ⟨x_44, e_45, h⟩ := lx_s h
  refine go_iald (kd := 100) (by decide +kernel) rfl R f_39 f1 (fx_k (c := 100) R (by decide +kernel)) (fx_x (a := 143) (ln := 12) R (by decide +kernel) g_42) fun v_40 f_41 => ?_
  have f_43 := q_is_eq f_41 e_45
  obtain ⟨x_47, m_48, hc_46, h⟩ := bd_s h
  refine go_callV (x := 455) (mi := 223) (n := 2) (ci := 13) (as := [v2, v_40]) (rest := []) (by decide +kernel) (by decide +kernel) rfl rfl (q_sum8 _ (Nat.le_of_ble_eq_true rfl)) R f0 (fx_k (c := 13) R (by decide +kernel)) (om_X12_begins (Nat.le_trans (by decide) hd) R f0 f2 f_43 hc_46) (fun _ S_51 q_54 => ?_) (fun _ _ qq => kr_x qq)
  refine kr_v q_54 fun R_52 E_53 => ?_
  have E_57 := E_53
  refine go_aload_n (n := 0) (by decide +kernel) l0 f0 ?_
  obtain ⟨x_61, e_62, h⟩ := lx_s h
  refine go_getf (x := 374) (ci := 13) (kf := 114) (fin := 0) (t := 0) (by decide +kernel) (by decide +kernel) (by decide +kernel) R_52 f0 (fx_k (c := 13) R_52 (by decide +kernel)) fun v_58 f_59 => ?_
  have f_60 := q_is_eq f_59 e_62
  refine go_if (c := .ne) (o := 37) (t := 89) (P := ¬ (x_61 = 0)) (by decide +kernel) (by decide +kernel) f_60 (Iff.rfl) (fun hp_63 => ?_) (fun hp_63 => ?_)
  · have h := it_f hp_63 h
    cases h
    exact go_vret (by decide +kernel) rfl (hQ E_57 _ _ R_52 q_out_n)
  · have h := it_n hp_63 h
    refine go_aload_n (n := 0) (by decide +kernel) l0 f0 ?_
    refine go_getf (x := 262) (ci := 13) (kf := 99) (fin := 1) (t := 2) (by decide +kernel) (by decide +kernel) (by decide +kernel) R_52 f0 (fx_k (c := 13) R_52 (by decide +kernel)) fun v_64 f_65 => ?_
    have f_66 := q_is_eq (b := 149) f_65 (fx_v R_52 (by decide +kernel)).symm
    refine go_iload_n (n := 1) (by decide +kernel) l1 f1 ?_
    refine go_aload_n (n := 0) (by decide +kernel) l0 f0 ?_
    refine go_getf (x := 244) (ci := 13) (kf := 93) (fin := 1) (t := 2) (by decide +kernel) (by decide +kernel) (by decide +kernel) R_52 f0 (fx_k (c := 13) R_52 (by decide +kernel)) fun v_67 f_68 => ?_
    have f_69 := q_is_eq (b := 143) f_68 (fx_v R_52 (by decide +kernel)).symm
    refine go_aload_n (n := 0) (by decide +kernel) l0 f0 ?_
    obtain ⟨x_73, e_74, h⟩ := lx_s h
    refine go_getf (x := 368) (ci := 13) (kf := 91) (fin := 0) (t := 0) (by decide +kernel) (by decide +kernel) (by decide +kernel) R_52 f0 (fx_k (c := 13) R_52 (by decide +kernel)) fun v_70 f_71 => ?_
    have f_72 := q_is_eq f_71 e_74
    refine go_iconst (n := 1) (z := 1) (by decide +kernel) (by decide) fun v_75 f_76 => ?_
    refine go_isub (by decide +kernel) f_72 f_76 fun v_77 f_78 => ?_
    obtain ⟨g_81, h⟩ := gd_s h
    obtain ⟨x_83, e_84, h⟩ := lx_s h
    refine go_iald (kd := 100) (by decide +kernel) rfl R_52 f_69 f_78 (fx_k (c := 100) R_52 (by decide +kernel)) (fx_x (a := 143) (ln := 12) R_52 (by decide +kernel) g_81) fun v_79 f_80 => ?_
    have f_82 := q_is_eq f_80 e_84
    obtain ⟨m_85, e_86, h⟩ := up_s h
    refine go_iast (kd := 100) (by decide +kernel) rfl R_52 f_66 f1 f_82 (fx_k (c := 100) R_52 (by decide +kernel)) (fx_x (a := 149) (ln := 12) R_52 (by decide +kernel) g_42) e_86 (fx_a R_52.2 (fx_k (c := 100) R_52 (by decide +kernel)) (And.left (fx_x (a := 149) (ln := 12) R_52 (by decide +kernel) g_42)) (by decide +kernel)) fun S_87 R_88 E_89 => ?_
    have E_91 := Ext.tr E_57 E_89
    refine go_aload_n (n := 0) (by decide +kernel) l0 f0 ?_
    refine go_getf (x := 262) (ci := 13) (kf := 99) (fin := 1) (t := 2) (by decide +kernel) (by decide +kernel) (by decide +kernel) R_88 f0 (fx_k (c := 13) R_88 (by decide +kernel)) fun v_92 f_93 => ?_
    have f_94 := q_is_eq (b := 149) f_93 (fx_v R_88 (by decide +kernel)).symm
    refine go_aload_n (n := 0) (by decide +kernel) l0 f0 ?_
    obtain ⟨x_98, e_99, h⟩ := lx_s h
    refine go_getf (x := 368) (ci := 13) (kf := 91) (fin := 0) (t := 0) (by decide +kernel) (by decide +kernel) (by decide +kernel) R_88 f0 (fx_k (c := 13) R_88 (by decide +kernel)) fun v_95 f_96 => ?_
    have f_97 := q_is_eq f_96 e_99
    refine go_iconst (n := 1) (z := 1) (by decide +kernel) (by decide) fun v_100 f_101 => ?_
    refine go_isub (by decide +kernel) f_97 f_101 fun v_102 f_103 => ?_
    refine go_aload_n (n := 0) (by decide +kernel) l0 f0 ?_
    refine go_getf (x := 244) (ci := 13) (kf := 93) (fin := 1) (t := 2) (by decide +kernel) (by decide +kernel) (by decide +kernel) R_88 f0 (fx_k (c := 13) R_88 (by decide +kernel)) fun v_104 f_105 => ?_
    have f_106 := q_is_eq (b := 143) f_105 (fx_v R_88 (by decide +kernel)).symm
    refine go_iload_n (n := 1) (by decide +kernel) l1 f1 ?_
    obtain ⟨x_110, e_111, h⟩ := lx_s h
    refine go_iald (kd := 100) (by decide +kernel) rfl R_88 f_106 f1 (fx_k (c := 100) R_88 (by decide +kernel)) (fx_x (a := 143) (ln := 12) R_88 (by decide +kernel) g_42) fun v_107 f_108 => ?_
    have f_109 := q_is_eq f_108 e_111
    obtain ⟨g_112, h⟩ := gd_s h
    obtain ⟨m_113, e_114, h⟩ := up_s h
    refine go_iast (kd := 100) (by decide +kernel) rfl R_88 f_94 f_103 f_109 (fx_k (c := 100) R_88 (by decide +kernel)) (fx_x (a := 149) (ln := 12) R_88 (by decide +kernel) g_112) e_114 (fx_a R_88.2 (fx_k (c := 100) R_88 (by decide +kernel)) (And.left (fx_x (a := 149) (ln := 12) R_88 (by decide +kernel) g_112)) (by decide +kernel)) fun S_115 R_116 E_117 => ?_
    have E_119 := Ext.tr E_91 E_117
    cases h
    exact go_vret (by decide +kernel) rfl (hQ E_119 _ _ R_116 q_out_n)
noncomputable def fj_X12_races_24 (y1 y2 s0 : Int) (m : MM) : Option (Int × MM) := if s0 = (-1) then
fj_X12_races_37 y1 y2 m
else
gd (0 ≤ s0 ∧ s0 < 12) <| up m 149 s0 (-1) fun m_126 =>
fj_X12_races_37 y1 y2 m_126
set_option maxHeartbeats 4000000 in
theorem oj_X12_races_24 {xs : List Int32} {d : Nat} {S : QS} {L : QL} {Q : QO → QS → Prop} {m : MM} {y1 y2 s0 : Int} {v0 : Value} {v1 : Value} {v2 : Value} {w0 : Value}  {rz : Int} {rm : MM}
  (hd : 2 ≤ d) (R : Rp S m) (l0 : q_lo L 0 = some v0) (f0 : q_is 2 v0 68) (l1 : q_lo L 1 = some v1) (f1 : q_is 0 v1 y1) (l2 : q_lo L 2 = some v2) (f2 : q_is 0 v2 y2) (fs0 : q_is 0 w0 s0)
  (hQ : Ext m rm → ∀ o S1, Rp S1 rm → q_out 9 o rz → Q o S1)
  (h : fj_X12_races_24 y1 y2 s0 m = some (rz, rm)) : Go xs d qM_X12_races 24 L [w0] S Q := by
  unfold fj_X12_races_24 at h
  refine go_istore_n (n := 3) (by decide +kernel) (by decide +kernel) fs0 fun L_28 l_29 kp_30 => ?_
  have l_31 := kp_30 0 _ l0 (by decide) (Or.inl (by decide))
  have l_32 := kp_30 1 _ l1 (by decide) (Or.inl (by decide))
  have l_33 := kp_30 2 _ l2 (by decide) (Or.inr (q_is_cat f2 (Or.inl rfl)))
  refine go_iload_n (n := 3) (by decide +kernel) l_29 fs0 ?_
  refine go_iconst (n := (-1)) (z := (-1)) (by decide +kernel) (by decide) fun v_34 f_35 => ?_
  refine go_icmp (c := .eq) (o := 10) (t := 37) (P := s0 = (-1)) (by decide +kernel) (by decide +kernel) fs0 f_35 (Iff.rfl) (fun hp_36 => ?_) (fun hp_36 => ?_)
  · have h := it_t hp_36 h
    exact oj_X12_races_37 hd R l_31 f0 l_32 f1 l_33 f2 hQ h
  · have h := it_f hp_36 h
    refine go_aload_n (n := 0) (by decide +kernel) l_31 f0 ?_
    refine go_getf (x := 262) (ci := 13) (kf := 99) (fin := 1) (t := 2) (by decide +kernel) (by decide +kernel) (by decide +kernel) R f0 (fx_k (c := 13) R (by decide +kernel)) fun v_120 f_121 => ?_
    have f_122 := q_is_eq (b := 149) f_121 (fx_v R (by decide +kernel)).symm
    refine go_iload_n (n := 3) (by decide +kernel) l_29 fs0 ?_
    refine go_iconst (n := (-1)) (z := (-1)) (by decide +kernel) (by decide) fun v_123 f_124 => ?_
    obtain ⟨g_125, h⟩ := gd_s h
    obtain ⟨m_126, e_127, h⟩ := up_s h
    refine go_iast (kd := 100) (by decide +kernel) rfl R f_122 fs0 f_124 (fx_k (c := 100) R (by decide +kernel)) (fx_x (a := 149) (ln := 12) R (by decide +kernel) g_125) e_127 (fx_a R.2 (fx_k (c := 100) R (by decide +kernel)) (And.left (fx_x (a := 149) (ln := 12) R (by decide +kernel) g_125)) (by decide +kernel)) fun S_128 R_129 E_130 => ?_
    have E_132 := E_130
    exact oj_X12_races_37 hd R_129 l_31 f0 l_32 f1 l_33 f2 (fun b => hQ (Ext.tr E_132 b)) h
noncomputable def fm_X12_races (p1 p2 : Int) (m0 : MM) : Option (Int × MM) := gd (0 ≤ p1 ∧ p1 < 12) <| lx (m0 149 p1) fun x_8 =>
if x_8 = (-1) then
fj_X12_races_24 p1 p2 (-1) m0
else
bp (fm_X12_slot x_8 m0) fun x_20 =>
fj_X12_races_24 p1 p2 x_20 m0
set_option maxHeartbeats 4000000 in
theorem om_X12_races {xs : List Int32} {d : Nat} {S : QS} {m0 : MM} {p1 p2 : Int} {v0 : Value} {v1 : Value} {v2 : Value} {rz : Int} {rm : MM}
  (hd : 3 ≤ d) (R : Rp S m0) (f0 : q_is 2 v0 68) (f1 : q_is 0 v1 p1) (f2 : q_is 0 v2 p2)
  (h : fm_X12_races p1 p2 m0 = some (rz, rm)) : Mt xs d 233 [v0, v1, v2] S (Cr 9 m0 rm rz) := by
  obtain ⟨d, rfl⟩ : ∃ e, d = e + 1 := ⟨d - 1, by omega⟩
  have hd : 2 ≤ d := Nat.le_of_succ_le_succ hd
  refine Mt.of (M := qM_X12_races) rfl (by rw [sl_1 (q_is_cat f0 (Or.inr rfl)), sl_1 (q_is_cat f1 (Or.inl rfl)), sl_1 (q_is_cat f2 (Or.inl rfl)), sl_0]; decide) ?_
  rw [la_1 (q_is_cat f0 (Or.inr rfl)), la_1 (q_is_cat f1 (Or.inl rfl)), la_1 (q_is_cat f2 (Or.inl rfl)), la_0]
  obtain ⟨L, hL⟩ : ∃ L : QL, L = [(0, v0), (0 + 1, v1), (0 + 1 + 1, v2)] := ⟨_, rfl⟩
  rw [← hL]
  have l0 : q_lo L 0 = some v0 := by rw [hL]; rfl
  have l1 : q_lo L 1 = some v1 := by rw [hL]; rfl
  have l2 : q_lo L 2 = some v2 := by rw [hL]; rfl
  have hQ : Ext m0 rm → ∀ o S1, Rp S1 rm → q_out 9 o rz → (Cr 9 m0 rm rz) o S1 := fun a o S1 b e => ⟨b, a, e⟩
  unfold fm_X12_races at h
  refine go_aload_n (n := 0) (by decide +kernel) l0 f0 ?_
  refine go_getf (x := 262) (ci := 13) (kf := 99) (fin := 1) (t := 2) (by decide +kernel) (by decide +kernel) (by decide +kernel) R f0 (fx_k (c := 13) R (by decide +kernel)) fun v_1 f_2 => ?_
  have f_3 := q_is_eq (b := 149) f_2 (fx_v R (by decide +kernel)).symm
  refine go_iload_n (n := 1) (by decide +kernel) l1 f1 ?_
  obtain ⟨g_6, h⟩ := gd_s h
  obtain ⟨x_8, e_9, h⟩ := lx_s h
  refine go_iald (kd := 100) (by decide +kernel) rfl R f_3 f1 (fx_k (c := 100) R (by decide +kernel)) (fx_x (a := 149) (ln := 12) R (by decide +kernel) g_6) fun v_4 f_5 => ?_
  have f_7 := q_is_eq f_5 e_9
  refine go_iconst (n := (-1)) (z := (-1)) (by decide +kernel) (by decide) fun v_10 f_11 => ?_
  refine go_icmp (c := .ne) (o := 7) (t := 14) (P := ¬ (x_8 = (-1))) (by decide +kernel) (by decide +kernel) f_7 f_11 (Iff.rfl) (fun hp_12 => ?_) (fun hp_12 => ?_)
  · have h := it_f hp_12 h
    refine go_aload_n (n := 0) (by decide +kernel) l0 f0 ?_
    refine go_aload_n (n := 0) (by decide +kernel) l0 f0 ?_
    refine go_getf (x := 262) (ci := 13) (kf := 99) (fin := 1) (t := 2) (by decide +kernel) (by decide +kernel) (by decide +kernel) R f0 (fx_k (c := 13) R (by decide +kernel)) fun v_13 f_14 => ?_
    have f_15 := q_is_eq (b := 149) f_14 (fx_v R (by decide +kernel)).symm
    refine go_iload_n (n := 1) (by decide +kernel) l1 f1 ?_
    refine go_iald (kd := 100) (by decide +kernel) rfl R f_15 f1 (fx_k (c := 100) R (by decide +kernel)) (fx_x (a := 149) (ln := 12) R (by decide +kernel) g_6) fun v_16 f_17 => ?_
    have f_18 := q_is_eq f_17 e_9
    obtain ⟨x_20, hc_19, h⟩ := bp_s h
    refine go_callV (x := 449) (mi := 215) (n := 1) (ci := 13) (as := [v_16]) (rest := []) (by decide +kernel) (by decide +kernel) rfl rfl (q_sum8 _ (Nat.le_of_ble_eq_true rfl)) R f0 (fx_k (c := 13) R (by decide +kernel)) (om_X12_slot (Nat.le_trans (by decide) hd) R f0 f_18 hc_19) (fun _ S_24 q_27 => ?_) (fun _ _ qq => kr_x qq)
    refine kr_z (by decide) q_27 fun v_22 f_23 R_25 E_26 => ?_
    exact oj_X12_races_24 hd R_25 l0 f0 l1 f1 l2 f2 f_23 hQ h
  · have h := it_n hp_12 h
    refine go_iconst (n := (-1)) (z := (-1)) (by decide +kernel) (by decide) fun v_133 f_134 => ?_
    refine go_goto (o := 13) (t := 24) (by decide +kernel) (by decide +kernel) ?_
    exact oj_X12_races_24 hd R l0 f0 l1 f1 l2 f2 f_134 hQ h
noncomputable def fl_X12_hasChild_4 (y1 : Int) (m0 : MM) : Nat → Int → Int → Option Int
  | 0, _, _ => none
  | n + 1, y2, y3 => lx (m0 68 91) fun x_19 =>
if y3 < x_19 then
if y2 = 0 then
gd (0 ≤ y3 ∧ y3 < 12) <| lx (m0 143 y3) fun x_53 =>
gd (0 ≤ x_53 ∧ x_53 < 196608) <| lx (m0 152 x_53) fun x_59 =>
if x_59 = y1 then
lx (w32 (y3 + 1)) fun x_94 =>
fl_X12_hasChild_4 y1 m0 n 1 x_94
else
lx (w32 (y3 + 1)) fun x_75 =>
fl_X12_hasChild_4 y1 m0 n 0 x_75
else
lx (w32 (y3 + 1)) fun x_37 =>
fl_X12_hasChild_4 y1 m0 n 1 x_37
else
gd (y2 = 0 ∨ y2 = 1) <| some y2
set_option maxHeartbeats 4000000 in
theorem ol_X12_hasChild_4 {xs : List Int32} {d : Nat} {Q : QO → QS → Prop} {m0 : MM} {y1 : Int} {rz : Int}
  (hd : 0 ≤ d)
  (hQ : ∀ o S1, Rp S1 m0 → q_out 0 o rz → Q o S1) :
  ∀ (n : Nat) {S : QS} {L : QL} {y2 y3 : Int} {v0 : Value} {v1 : Value} {v2 : Value} {v3 : Value} , fl_X12_hasChild_4 y1 m0 n y2 y3 = some rz → Rp S m0 → q_lo L 0 = some v0 → q_is 2 v0 68 → q_lo L 1 = some v1 → q_is 0 v1 y1 → q_lo L 2 = some v2 → q_is 0 v2 y2 → q_lo L 3 = some v3 → q_is 0 v3 y3 → Go xs d qM_X12_hasChild 4 L [] S Q := by
  intro n
  induction n with
  | zero => intro S L y2 y3 v0 v1 v2 v3; intro h R l0 f0 l1 f1 l2 f2 l3 f3; cases h
  | succ n ih0 =>
    intro S L y2 y3 v0 v1 v2 v3; intro h R l0 f0 l1 f1 l2 f2 l3 f3
    have ih : ∀ {z2 : Int} {z3 : Int} {Sq : QS} {Lq : QL} {u0 : Value} {u1 : Value} {u2 : Value} {u3 : Value}, fl_X12_hasChild_4 y1 m0 n z2 z3 = some rz → Rp Sq m0 → q_lo Lq 0 = some u0 → q_is 2 u0 68 → q_lo Lq 1 = some u1 → q_is 0 u1 y1 → q_lo Lq 2 = some u2 → q_is 0 u2 z2 → q_lo Lq 3 = some u3 → q_is 0 u3 z3 → Go xs d qM_X12_hasChild 4 Lq [] Sq Q := by intros; exact ih0 ‹_› ‹_› ‹_› ‹_› ‹_› ‹_› ‹_› ‹_› ‹_› ‹_›
    unfold fl_X12_hasChild_4 at h
    refine go_iload_n (n := 3) (by decide +kernel) l3 f3 ?_
    refine go_aload_n (n := 0) (by decide +kernel) l0 f0 ?_
    obtain ⟨x_19, e_20, h⟩ := lx_s h
    refine go_getf (x := 368) (ci := 13) (kf := 91) (fin := 0) (t := 0) (by decide +kernel) (by decide +kernel) (by decide +kernel) R f0 (fx_k (c := 13) R (by decide +kernel)) fun v_16 f_17 => ?_
    have f_18 := q_is_eq f_17 e_20
    refine go_icmp (c := .ge) (o := 34) (t := 43) (P := ¬ (y3 < x_19)) (by decide +kernel) (by decide +kernel) f3 f_18 (Int.not_lt.symm) (fun hp_21 => ?_) (fun hp_21 => ?_)
    · have h := it_f hp_21 h
      refine go_iload_n (n := 2) (by decide +kernel) l2 f2 ?_
      obtain ⟨g_22, h⟩ := gd_s h
      cases h
      exact go_iret (by decide +kernel) rfl (Or.inr ⟨rfl, g_22⟩) f2 (hQ _ _ R (q_out_v (by decide) f2))
    · have h := it_n hp_21 h
      refine go_iload_n (n := 2) (by decide +kernel) l2 f2 ?_
      refine go_if (c := .ne) (o := 18) (t := 31) (P := ¬ (y2 = 0)) (by decide +kernel) (by decide +kernel) f2 (Iff.rfl) (fun hp_23 => ?_) (fun hp_23 => ?_)
      · have h := it_f hp_23 h
        refine go_iconst (n := 1) (z := 1) (by decide +kernel) (by decide) fun v_24 f_25 => ?_
        refine go_goto (o := 4) (t := 36) (by decide +kernel) (by decide +kernel) ?_
        refine go_istore_n (n := 2) (by decide +kernel) (by decide +kernel) f_25 fun L_26 l_27 kp_28 => ?_
        have l_29 := kp_28 0 _ l0 (by decide) (Or.inl (by decide))
        have l_30 := kp_28 1 _ l1 (by decide) (Or.inr (q_is_cat f1 (Or.inl rfl)))
        have l_31 := kp_28 3 _ l3 (by decide) (Or.inl (by decide))
        refine go_iinc (n := 3) (c := 1) (c' := 1) (by decide +kernel) (by decide +kernel) l_31 f3 (by decide) fun L_32 v_33 f_34 l_35 kp_36 => ?_
        obtain ⟨x_37, e_38, h⟩ := lx_s h
        have f_39 := q_is_eq f_34 e_38
        have l_40 := kp_36 0 _ l_29 (by decide) (Or.inl (by decide))
        have l_41 := kp_36 1 _ l_30 (by decide) (Or.inl (by decide))
        have l_42 := kp_36 2 _ l_27 (by decide) (Or.inr (q_is_cat f_25 (Or.inl rfl)))
        refine go_goto (o := (-36)) (t := 4) (by decide +kernel) (by decide +kernel) ?_
        exact ih h R l_40 f0 l_41 f1 l_42 f_25 l_35 f_39
      · have h := it_n hp_23 h
        refine go_aload_n (n := 0) (by decide +kernel) l0 f0 ?_
        refine go_getf (x := 272) (ci := 13) (kf := 102) (fin := 1) (t := 2) (by decide +kernel) (by decide +kernel) (by decide +kernel) R f0 (fx_k (c := 13) R (by decide +kernel)) fun v_43 f_44 => ?_
        have f_45 := q_is_eq (b := 152) f_44 (fx_v R (by decide +kernel)).symm
        refine go_aload_n (n := 0) (by decide +kernel) l0 f0 ?_
        refine go_getf (x := 244) (ci := 13) (kf := 93) (fin := 1) (t := 2) (by decide +kernel) (by decide +kernel) (by decide +kernel) R f0 (fx_k (c := 13) R (by decide +kernel)) fun v_46 f_47 => ?_
        have f_48 := q_is_eq (b := 143) f_47 (fx_v R (by decide +kernel)).symm
        refine go_iload_n (n := 3) (by decide +kernel) l3 f3 ?_
        obtain ⟨g_51, h⟩ := gd_s h
        obtain ⟨x_53, e_54, h⟩ := lx_s h
        refine go_iald (kd := 100) (by decide +kernel) rfl R f_48 f3 (fx_k (c := 100) R (by decide +kernel)) (fx_x (a := 143) (ln := 12) R (by decide +kernel) g_51) fun v_49 f_50 => ?_
        have f_52 := q_is_eq f_50 e_54
        obtain ⟨g_57, h⟩ := gd_s h
        obtain ⟨x_59, e_60, h⟩ := lx_s h
        refine go_iald (kd := 100) (by decide +kernel) rfl R f_45 f_52 (fx_k (c := 100) R (by decide +kernel)) (fx_x (a := 152) (ln := 196608) R (by decide +kernel) g_57) fun v_55 f_56 => ?_
        have f_58 := q_is_eq f_56 e_60
        refine go_iload_n (n := 1) (by decide +kernel) l1 f1 ?_
        refine go_icmp (c := .ne) (o := 7) (t := 35) (P := ¬ (x_59 = y1)) (by decide +kernel) (by decide +kernel) f_58 f1 (Iff.rfl) (fun hp_61 => ?_) (fun hp_61 => ?_)
        · have h := it_f hp_61 h
          refine go_iconst (n := 0) (z := 0) (by decide +kernel) (by decide) fun v_62 f_63 => ?_
          refine go_istore_n (n := 2) (by decide +kernel) (by decide +kernel) f_63 fun L_64 l_65 kp_66 => ?_
          have l_67 := kp_66 0 _ l0 (by decide) (Or.inl (by decide))
          have l_68 := kp_66 1 _ l1 (by decide) (Or.inr (q_is_cat f1 (Or.inl rfl)))
          have l_69 := kp_66 3 _ l3 (by decide) (Or.inl (by decide))
          refine go_iinc (n := 3) (c := 1) (c' := 1) (by decide +kernel) (by decide +kernel) l_69 f3 (by decide) fun L_70 v_71 f_72 l_73 kp_74 => ?_
          obtain ⟨x_75, e_76, h⟩ := lx_s h
          have f_77 := q_is_eq f_72 e_76
          have l_78 := kp_74 0 _ l_67 (by decide) (Or.inl (by decide))
          have l_79 := kp_74 1 _ l_68 (by decide) (Or.inl (by decide))
          have l_80 := kp_74 2 _ l_65 (by decide) (Or.inr (q_is_cat f_63 (Or.inl rfl)))
          refine go_goto (o := (-36)) (t := 4) (by decide +kernel) (by decide +kernel) ?_
          exact ih h R l_78 f0 l_79 f1 l_80 f_63 l_73 f_77
        · have h := it_n hp_61 h
          refine go_iconst (n := 1) (z := 1) (by decide +kernel) (by decide) fun v_81 f_82 => ?_
          refine go_goto (o := 4) (t := 36) (by decide +kernel) (by decide +kernel) ?_
          refine go_istore_n (n := 2) (by decide +kernel) (by decide +kernel) f_82 fun L_83 l_84 kp_85 => ?_
          have l_86 := kp_85 0 _ l0 (by decide) (Or.inl (by decide))
          have l_87 := kp_85 1 _ l1 (by decide) (Or.inr (q_is_cat f1 (Or.inl rfl)))
          have l_88 := kp_85 3 _ l3 (by decide) (Or.inl (by decide))
          refine go_iinc (n := 3) (c := 1) (c' := 1) (by decide +kernel) (by decide +kernel) l_88 f3 (by decide) fun L_89 v_90 f_91 l_92 kp_93 => ?_
          obtain ⟨x_94, e_95, h⟩ := lx_s h
          have f_96 := q_is_eq f_91 e_95
          have l_97 := kp_93 0 _ l_86 (by decide) (Or.inl (by decide))
          have l_98 := kp_93 1 _ l_87 (by decide) (Or.inl (by decide))
          have l_99 := kp_93 2 _ l_84 (by decide) (Or.inr (q_is_cat f_82 (Or.inl rfl)))
          refine go_goto (o := (-36)) (t := 4) (by decide +kernel) (by decide +kernel) ?_
          exact ih h R l_97 f0 l_98 f1 l_99 f_82 l_92 f_96
noncomputable def fm_X12_hasChild (p1 : Int) (m0 : MM) : Option Int := fl_X12_hasChild_4 p1 m0  BIG 0 0
set_option maxHeartbeats 4000000 in
theorem om_X12_hasChild {xs : List Int32} {d : Nat} {S : QS} {m0 : MM} {p1 : Int} {v0 : Value} {v1 : Value} {rz : Int}
  (hd : 1 ≤ d) (R : Rp S m0) (f0 : q_is 2 v0 68) (f1 : q_is 0 v1 p1)
  (h : fm_X12_hasChild p1 m0 = some rz) : Mt xs d 234 [v0, v1] S (Cr 0 m0 m0 rz) := by
  obtain ⟨d, rfl⟩ : ∃ e, d = e + 1 := ⟨d - 1, by omega⟩
  have hd : 0 ≤ d := Nat.le_of_succ_le_succ hd
  refine Mt.of (M := qM_X12_hasChild) rfl (by rw [sl_1 (q_is_cat f0 (Or.inr rfl)), sl_1 (q_is_cat f1 (Or.inl rfl)), sl_0]; decide) ?_
  rw [la_1 (q_is_cat f0 (Or.inr rfl)), la_1 (q_is_cat f1 (Or.inl rfl)), la_0]
  obtain ⟨L, hL⟩ : ∃ L : QL, L = [(0, v0), (0 + 1, v1)] := ⟨_, rfl⟩
  rw [← hL]
  have l0 : q_lo L 0 = some v0 := by rw [hL]; rfl
  have l1 : q_lo L 1 = some v1 := by rw [hL]; rfl
  have hQ : ∀ o S1, Rp S1 m0 → q_out 0 o rz → (Cr 0 m0 m0 rz) o S1 := fun o S1 a b => ⟨a, Ext.rf _, b⟩
  unfold fm_X12_hasChild at h
  refine go_iconst (n := 0) (z := 0) (by decide +kernel) (by decide) fun v_1 f_2 => ?_
  refine go_istore_n (n := 2) (by decide +kernel) (by decide +kernel) f_2 fun L_3 l_4 kp_5 => ?_
  have l_6 := kp_5 0 _ l0 (by decide) (Or.inl (by decide))
  have l_7 := kp_5 1 _ l1 (by decide) (Or.inr (q_is_cat f1 (Or.inl rfl)))
  refine go_iconst (n := 0) (z := 0) (by decide +kernel) (by decide) fun v_8 f_9 => ?_
  refine go_istore_n (n := 3) (by decide +kernel) (by decide +kernel) f_9 fun L_10 l_11 kp_12 => ?_
  have l_13 := kp_12 0 _ l_6 (by decide) (Or.inl (by decide))
  have l_14 := kp_12 1 _ l_7 (by decide) (Or.inl (by decide))
  have l_15 := kp_12 2 _ l_4 (by decide) (Or.inr (q_is_cat f_2 (Or.inl rfl)))
  refine ol_X12_hasChild_4 hd   hQ BIG h R l_13 f0 l_14 f1 l_15 f_2 l_11 f_9
end DF29
