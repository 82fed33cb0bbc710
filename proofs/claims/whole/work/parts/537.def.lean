/-! Methods as functions (written by wip/whole/dec.py), 37: X12_query, X12_plain, X12_standing, X12_event, X12_difference, X12_runs, X12_setRate, X12_isHeld, X12_isReady, X12_firstOrder. -/
section DF37
noncomputable def fm_X12_query (p1 p2 : Int) (m0 : MM) : Option (Int × MM) := bd (fm_X12_asks p1 p2 m0) fun x_2 m_3 =>
some (x_2, m_3)
set_option maxHeartbeats 4000000 in
theorem om_X12_query {xs : List Int32} {d : Nat} {S : QS} {m0 : MM} {p1 p2 : Int} {v0 : Value} {v1 : Value} {v2 : Value} {rz : Int} {rm : MM}
  (hd : 17 ≤ d) (R : Rp S m0) (f0 : q_is 2 v0 68) (f1 : q_is 0 v1 p1) (f2 : q_is 0 v2 p2)
  (h : fm_X12_query p1 p2 m0 = some (rz, rm)) : Mt xs d 265 [v0, v1, v2] S (Cr 0 m0 rm rz) := by
  obtain ⟨d, rfl⟩ : ∃ e, d = e + 1 := ⟨d - 1, by omega⟩
  have hd : 16 ≤ d := Nat.le_of_succ_le_succ hd
  refine Mt.of (M := qM_X12_query) rfl (by rw [sl_1 (q_is_cat f0 (Or.inr rfl)), sl_1 (q_is_cat f1 (Or.inl rfl)), sl_1 (q_is_cat f2 (Or.inl rfl)), sl_0]; decide) ?_
  rw [la_1 (q_is_cat f0 (Or.inr rfl)), la_1 (q_is_cat f1 (Or.inl rfl)), la_1 (q_is_cat f2 (Or.inl rfl)), la_0]
  obtain ⟨L, hL⟩ : ∃ L : QL, L = [(0, v0), (0 + 1, v1), (0 + 1 + 1, v2)] := ⟨_, rfl⟩
  rw [← hL]
  have l0 : q_lo L 0 = some v0 := by rw [hL]; rfl
  have l1 : q_lo L 1 = some v1 := by rw [hL]; rfl
  have l2 : q_lo L 2 = some v2 := by rw [hL]; rfl
  have hQ : Ext m0 rm → ∀ o S1, Rp S1 rm → q_out 0 o rz → (Cr 0 m0 rm rz) o S1 := fun a o S1 b e => ⟨b, a, e⟩
  unfold fm_X12_query at h
  refine go_aload_n (n := 0) (by decide +kernel) l0 f0 ?_
  refine go_iload_n (n := 1) (by decide +kernel) l1 f1 ?_
  refine go_iload_n (n := 2) (by decide +kernel) l2 f2 ?_
  obtain ⟨x_2, m_3, hc_1, h⟩ := bd_s h
  refine go_callV (x := 592) (mi := 264) (n := 2) (ci := 13) (as := [v1, v2]) (rest := []) (by decide +kernel) (by decide +kernel) rfl rfl (q_sum8 _ (Nat.le_of_ble_eq_true rfl)) R f0 (fx_k (c := 13) R (by decide +kernel)) (om_X12_asks (Nat.le_trans (by decide) hd) R f0 f1 f2 hc_1) (fun _ S_6 q_9 => ?_) (fun _ _ qq => kr_x qq)
  refine kr_z (by decide) q_9 fun v_4 f_5 R_7 E_8 => ?_
  have E_12 := E_8
  cases h
  exact go_iret (by decide +kernel) rfl (Or.inl rfl) f_5 (hQ E_12 _ _ R_7 (q_out_v (by decide) f_5))
noncomputable def fm_X12_plain (p1 p2 : Int) (m0 : MM) : Option (Int × MM) := bd (fm_X12_asks p1 p2 m0) fun x_2 m_3 =>
some (x_2, m_3)
set_option maxHeartbeats 4000000 in
theorem om_X12_plain {xs : List Int32} {d : Nat} {S : QS} {m0 : MM} {p1 p2 : Int} {v0 : Value} {v1 : Value} {v2 : Value} {rz : Int} {rm : MM}
  (hd : 17 ≤ d) (R : Rp S m0) (f0 : q_is 2 v0 68) (f1 : q_is 0 v1 p1) (f2 : q_is 0 v2 p2)
  (h : fm_X12_plain p1 p2 m0 = some (rz, rm)) : Mt xs d 266 [v0, v1, v2] S (Cr 0 m0 rm rz) := by
  obtain ⟨d, rfl⟩ : ∃ e, d = e + 1 := ⟨d - 1, by omega⟩
  have hd : 16 ≤ d := Nat.le_of_succ_le_succ hd
  refine Mt.of (M := qM_X12_plain) rfl (by rw [sl_1 (q_is_cat f0 (Or.inr rfl)), sl_1 (q_is_cat f1 (Or.inl rfl)), sl_1 (q_is_cat f2 (Or.inl rfl)), sl_0]; decide) ?_
  rw [la_1 (q_is_cat f0 (Or.inr rfl)), la_1 (q_is_cat f1 (Or.inl rfl)), la_1 (q_is_cat f2 (Or.inl rfl)), la_0]
  obtain ⟨L, hL⟩ : ∃ L : QL, L = [(0, v0), (0 + 1, v1), (0 + 1 + 1, v2)] := ⟨_, rfl⟩
  rw [← hL]
  have l0 : q_lo L 0 = some v0 := by rw [hL]; rfl
  have l1 : q_lo L 1 = some v1 := by rw [hL]; rfl
  have l2 : q_lo L 2 = some v2 := by rw [hL]; rfl
  have hQ : Ext m0 rm → ∀ o S1, Rp S1 rm → q_out 0 o rz → (Cr 0 m0 rm rz) o S1 := fun a o S1 b e => ⟨b, a, e⟩
  unfold fm_X12_plain at h
  refine go_aload_n (n := 0) (by decide +kernel) l0 f0 ?_
  refine go_iload_n (n := 1) (by decide +kernel) l1 f1 ?_
  refine go_iload_n (n := 2) (by decide +kernel) l2 f2 ?_
  obtain ⟨x_2, m_3, hc_1, h⟩ := bd_s h
  refine go_callV (x := 592) (mi := 264) (n := 2) (ci := 13) (as := [v1, v2]) (rest := []) (by decide +kernel) (by decide +kernel) rfl rfl (q_sum8 _ (Nat.le_of_ble_eq_true rfl)) R f0 (fx_k (c := 13) R (by decide +kernel)) (om_X12_asks (Nat.le_trans (by decide) hd) R f0 f1 f2 hc_1) (fun _ S_6 q_9 => ?_) (fun _ _ qq => kr_x qq)
  refine kr_z (by decide) q_9 fun v_4 f_5 R_7 E_8 => ?_
  have E_12 := E_8
  cases h
  exact go_iret (by decide +kernel) rfl (Or.inl rfl) f_5 (hQ E_12 _ _ R_7 (q_out_v (by decide) f_5))
noncomputable def fj_X12_standing_14 (y1 s0 : Int) (m : MM) : Option (Int × MM) := bd (fm_X12_fails s0 m) fun x_14 m_15 =>
if x_14 = 0 then
gd (0 ≤ y1 ∧ y1 < 30) <| lx (m_15 86 y1) fun x_35 =>
lx (m_15 83 y1) fun x_45 =>
some (w32 ((w32 (10 * x_35)) + x_45), m_15)
else
some (0, m_15)
set_option maxHeartbeats 4000000 in
theorem oj_X12_standing_14 {xs : List Int32} {d : Nat} {S : QS} {L : QL} {Q : QO → QS → Prop} {m : MM} {y1 s0 : Int} {v0 : Value} {v1 : Value} {w0 : Value} {w1 : Value}  {rz : Int} {rm : MM}
  (hd : 2 ≤ d) (R : Rp S m) (l0 : q_lo L 0 = some v0) (f0 : q_is 2 v0 68) (l1 : q_lo L 1 = some v1) (f1 : q_is 0 v1 y1) (fs0 : q_is 0 w0 s0) (fs1 : q_is 2 w1 68)
  (hQ : Ext m rm → ∀ o S1, Rp S1 rm → q_out 0 o rz → Q o S1)
  (h : fj_X12_standing_14 y1 s0 m = some (rz, rm)) : Go xs d qM_X12_standing 14 L [w0, w1] S Q := by
  unfold fj_X12_standing_14 at h
  obtain ⟨x_14, m_15, hc_13, h⟩ := bd_s h
  refine go_callV (x := 324) (mi := 186) (n := 1) (ci := 13) (as := [w0]) (rest := []) (by decide +kernel) (by decide +kernel) rfl rfl (q_sum8 _ (Nat.le_of_ble_eq_true rfl)) R fs1 (fx_k (c := 13) R (by decide +kernel)) (om_X12_fails (Nat.le_trans (by decide) hd) R fs1 fs0 hc_13) (fun _ S_18 q_21 => ?_) (fun _ _ qq => kr_x qq)
  refine kr_z (by decide) q_21 fun v_16 f_17 R_19 E_20 => ?_
  have E_24 := E_20
  refine go_if (c := .eq) (o := 7) (t := 24) (P := x_14 = 0) (by decide +kernel) (by decide +kernel) f_17 (Iff.rfl) (fun hp_25 => ?_) (fun hp_25 => ?_)
  · have h := it_t hp_25 h
    refine go_bipush (n := 10) (z := 10) (by decide +kernel) (by decide) fun v_26 f_27 => ?_
    refine go_aload_n (n := 0) (by decide +kernel) l0 f0 ?_
    refine go_getf (x := 61) (ci := 13) (kf := 19) (fin := 1) (t := 2) (by decide +kernel) (by decide +kernel) (by decide +kernel) R_19 f0 (fx_k (c := 13) R_19 (by decide +kernel)) fun v_28 f_29 => ?_
    have f_30 := q_is_eq (b := 86) f_29 (fx_v R_19 (by decide +kernel)).symm
    refine go_iload_n (n := 1) (by decide +kernel) l1 f1 ?_
    obtain ⟨g_33, h⟩ := gd_s h
    obtain ⟨x_35, e_36, h⟩ := lx_s h
    refine go_iald (kd := 100) (by decide +kernel) rfl R_19 f_30 f1 (fx_k (c := 100) R_19 (by decide +kernel)) (fx_x (a := 86) (ln := 30) R_19 (by decide +kernel) g_33) fun v_31 f_32 => ?_
    have f_34 := q_is_eq f_32 e_36
    refine go_imul (by decide +kernel) f_27 f_34 fun v_37 f_38 => ?_
    refine go_aload_n (n := 0) (by decide +kernel) l0 f0 ?_
    refine go_getf (x := 52) (ci := 13) (kf := 16) (fin := 1) (t := 2) (by decide +kernel) (by decide +kernel) (by decide +kernel) R_19 f0 (fx_k (c := 13) R_19 (by decide +kernel)) fun v_39 f_40 => ?_
    have f_41 := q_is_eq (b := 83) f_40 (fx_v R_19 (by decide +kernel)).symm
    refine go_iload_n (n := 1) (by decide +kernel) l1 f1 ?_
    obtain ⟨x_45, e_46, h⟩ := lx_s h
    refine go_iald (kd := 100) (by decide +kernel) rfl R_19 f_41 f1 (fx_k (c := 100) R_19 (by decide +kernel)) (fx_x (a := 83) (ln := 30) R_19 (by decide +kernel) g_33) fun v_42 f_43 => ?_
    have f_44 := q_is_eq f_43 e_46
    refine go_iadd (by decide +kernel) f_38 f_44 fun v_47 f_48 => ?_
    cases h
    exact go_iret (by decide +kernel) rfl (Or.inl rfl) f_48 (hQ E_24 _ _ R_19 (q_out_v (by decide) f_48))
  · have h := it_f hp_25 h
    refine go_iconst (n := 0) (z := 0) (by decide +kernel) (by decide) fun v_49 f_50 => ?_
    refine go_goto (o := 19) (t := 40) (by decide +kernel) (by decide +kernel) ?_
    cases h
    exact go_iret (by decide +kernel) rfl (Or.inl rfl) f_50 (hQ E_24 _ _ R_19 (q_out_v (by decide) f_50))
noncomputable def fm_X12_standing (p1 : Int) (m0 : MM) : Option (Int × MM) := bp (fm_X12_isRun p1 m0) fun x_2 =>
if x_2 = 0 then
fj_X12_standing_14 p1 1 m0
else
fj_X12_standing_14 p1 0 m0
set_option maxHeartbeats 4000000 in
theorem om_X12_standing {xs : List Int32} {d : Nat} {S : QS} {m0 : MM} {p1 : Int} {v0 : Value} {v1 : Value} {rz : Int} {rm : MM}
  (hd : 3 ≤ d) (R : Rp S m0) (f0 : q_is 2 v0 68) (f1 : q_is 0 v1 p1)
  (h : fm_X12_standing p1 m0 = some (rz, rm)) : Mt xs d 267 [v0, v1] S (Cr 0 m0 rm rz) := by
  obtain ⟨d, rfl⟩ : ∃ e, d = e + 1 := ⟨d - 1, by omega⟩
  have hd : 2 ≤ d := Nat.le_of_succ_le_succ hd
  refine Mt.of (M := qM_X12_standing) rfl (by rw [sl_1 (q_is_cat f0 (Or.inr rfl)), sl_1 (q_is_cat f1 (Or.inl rfl)), sl_0]; decide) ?_
  rw [la_1 (q_is_cat f0 (Or.inr rfl)), la_1 (q_is_cat f1 (Or.inl rfl)), la_0]
  obtain ⟨L, hL⟩ : ∃ L : QL, L = [(0, v0), (0 + 1, v1)] := ⟨_, rfl⟩
  rw [← hL]
  have l0 : q_lo L 0 = some v0 := by rw [hL]; rfl
  have l1 : q_lo L 1 = some v1 := by rw [hL]; rfl
  have hQ : Ext m0 rm → ∀ o S1, Rp S1 rm → q_out 0 o rz → (Cr 0 m0 rm rz) o S1 := fun a o S1 b e => ⟨b, a, e⟩
  unfold fm_X12_standing at h
  refine go_aload_n (n := 0) (by decide +kernel) l0 f0 ?_
  refine go_aload_n (n := 0) (by decide +kernel) l0 f0 ?_
  refine go_iload_n (n := 1) (by decide +kernel) l1 f1 ?_
  obtain ⟨x_2, hc_1, h⟩ := bp_s h
  refine go_callV (x := 580) (mi := 193) (n := 1) (ci := 13) (as := [v1]) (rest := [v0]) (by decide +kernel) (by decide +kernel) rfl rfl (q_sum8 _ (Nat.le_of_ble_eq_true rfl)) R f0 (fx_k (c := 13) R (by decide +kernel)) (om_X12_isRun (Nat.le_trans (by decide) hd) R f0 f1 hc_1) (fun _ S_6 q_9 => ?_) (fun _ _ qq => kr_x qq)
  refine kr_z (by decide) q_9 fun v_4 f_5 R_7 E_8 => ?_
  refine go_if (c := .eq) (o := 7) (t := 13) (P := x_2 = 0) (by decide +kernel) (by decide +kernel) f_5 (Iff.rfl) (fun hp_10 => ?_) (fun hp_10 => ?_)
  · have h := it_t hp_10 h
    refine go_iconst (n := 1) (z := 1) (by decide +kernel) (by decide) fun v_11 f_12 => ?_
    exact oj_X12_standing_14 hd R_7 l0 f0 l1 f1 f_12 f0 hQ h
  · have h := it_f hp_10 h
    refine go_iconst (n := 0) (z := 0) (by decide +kernel) (by decide) fun v_51 f_52 => ?_
    refine go_goto (o := 4) (t := 14) (by decide +kernel) (by decide +kernel) ?_
    exact oj_X12_standing_14 hd R_7 l0 f0 l1 f1 f_52 f0 hQ h
noncomputable def fj_X12_event_40 (y1 y2 s0 : Int) (m : MM) : Option (Int × MM) := bd (fm_X12_fails s0 m) fun x_23 m_24 =>
if x_23 = 0 then
bp (fm_X12_kindAt y1 y2 m_24) fun x_38 =>
bp (fm_X12_xAt y1 y2 m_24) fun x_51 =>
bp (fm_X12_yAt y1 y2 m_24) fun x_64 =>
some (w32 ((w32 ((w32 (1000000 * x_38)) + (w32 (1000 * x_51)))) + x_64), m_24)
else
some (0, m_24)
set_option maxHeartbeats 4000000 in
theorem oj_X12_event_40 {xs : List Int32} {d : Nat} {S : QS} {L : QL} {Q : QO → QS → Prop} {m : MM} {y1 y2 s0 : Int} {v0 : Value} {v1 : Value} {v2 : Value} {w0 : Value} {w1 : Value}  {rz : Int} {rm : MM}
  (hd : 2 ≤ d) (R : Rp S m) (l0 : q_lo L 0 = some v0) (f0 : q_is 2 v0 68) (l1 : q_lo L 1 = some v1) (f1 : q_is 0 v1 y1) (l2 : q_lo L 2 = some v2) (f2 : q_is 0 v2 y2) (fs0 : q_is 0 w0 s0) (fs1 : q_is 2 w1 68)
  (hQ : Ext m rm → ∀ o S1, Rp S1 rm → q_out 0 o rz → Q o S1)
  (h : fj_X12_event_40 y1 y2 s0 m = some (rz, rm)) : Go xs d qM_X12_event 40 L [w0, w1] S Q := by
  unfold fj_X12_event_40 at h
  obtain ⟨x_23, m_24, hc_22, h⟩ := bd_s h
  refine go_callV (x := 324) (mi := 186) (n := 1) (ci := 13) (as := [w0]) (rest := []) (by decide +kernel) (by decide +kernel) rfl rfl (q_sum8 _ (Nat.le_of_ble_eq_true rfl)) R fs1 (fx_k (c := 13) R (by decide +kernel)) (om_X12_fails (Nat.le_trans (by decide) hd) R fs1 fs0 hc_22) (fun _ S_27 q_30 => ?_) (fun _ _ qq => kr_x qq)
  refine kr_z (by decide) q_30 fun v_25 f_26 R_28 E_29 => ?_
  have E_33 := E_29
  refine go_if (c := .eq) (o := 5) (t := 48) (P := x_23 = 0) (by decide +kernel) (by decide +kernel) f_26 (Iff.rfl) (fun hp_34 => ?_) (fun hp_34 => ?_)
  · have h := it_t hp_34 h
    refine go_ldc_w (x := 595) (n := 1000000) (a := 0) (b := 0) (z := 1000000) (by decide +kernel) (by decide +kernel) (by decide +kernel) fun v_35 f_36 => ?_
    refine go_aload_n (n := 0) (by decide +kernel) l0 f0 ?_
    refine go_iload_n (n := 1) (by decide +kernel) l1 f1 ?_
    refine go_iload_n (n := 2) (by decide +kernel) l2 f2 ?_
    obtain ⟨x_38, hc_37, h⟩ := bp_s h
    refine go_callV (x := 341) (mi := 204) (n := 2) (ci := 13) (as := [v1, v2]) (rest := [v_35]) (by decide +kernel) (by decide +kernel) rfl rfl (q_sum8 _ (Nat.le_of_ble_eq_true rfl)) R_28 f0 (fx_k (c := 13) R_28 (by decide +kernel)) (om_X12_kindAt (Nat.le_trans (by decide) hd) R_28 f0 f1 f2 hc_37) (fun _ S_42 q_45 => ?_) (fun _ _ qq => kr_x qq)
    refine kr_z (by decide) q_45 fun v_40 f_41 R_43 E_44 => ?_
    refine go_imul (by decide +kernel) f_36 f_41 fun v_46 f_47 => ?_
    refine go_sipush (n := 1000) (z := 1000) (by decide +kernel) (by decide) fun v_48 f_49 => ?_
    refine go_aload_n (n := 0) (by decide +kernel) l0 f0 ?_
    refine go_iload_n (n := 1) (by decide +kernel) l1 f1 ?_
    refine go_iload_n (n := 2) (by decide +kernel) l2 f2 ?_
    obtain ⟨x_51, hc_50, h⟩ := bp_s h
    refine go_callV (x := 344) (mi := 206) (n := 2) (ci := 13) (as := [v1, v2]) (rest := [v_48, v_46]) (by decide +kernel) (by decide +kernel) rfl rfl (q_sum8 _ (Nat.le_of_ble_eq_true rfl)) R_43 f0 (fx_k (c := 13) R_43 (by decide +kernel)) (om_X12_xAt (Nat.le_trans (by decide) hd) R_43 f0 f1 f2 hc_50) (fun _ S_55 q_58 => ?_) (fun _ _ qq => kr_x qq)
    refine kr_z (by decide) q_58 fun v_53 f_54 R_56 E_57 => ?_
    refine go_imul (by decide +kernel) f_49 f_54 fun v_59 f_60 => ?_
    refine go_iadd (by decide +kernel) f_47 f_60 fun v_61 f_62 => ?_
    refine go_aload_n (n := 0) (by decide +kernel) l0 f0 ?_
    refine go_iload_n (n := 1) (by decide +kernel) l1 f1 ?_
    refine go_iload_n (n := 2) (by decide +kernel) l2 f2 ?_
    obtain ⟨x_64, hc_63, h⟩ := bp_s h
    refine go_callV (x := 397) (mi := 205) (n := 2) (ci := 13) (as := [v1, v2]) (rest := [v_61]) (by decide +kernel) (by decide +kernel) rfl rfl (q_sum8 _ (Nat.le_of_ble_eq_true rfl)) R_56 f0 (fx_k (c := 13) R_56 (by decide +kernel)) (om_X12_yAt (Nat.le_trans (by decide) hd) R_56 f0 f1 f2 hc_63) (fun _ S_68 q_71 => ?_) (fun _ _ qq => kr_x qq)
    refine kr_z (by decide) q_71 fun v_66 f_67 R_69 E_70 => ?_
    refine go_iadd (by decide +kernel) f_62 f_67 fun v_72 f_73 => ?_
    cases h
    exact go_iret (by decide +kernel) rfl (Or.inl rfl) f_73 (hQ E_33 _ _ R_69 (q_out_v (by decide) f_73))
  · have h := it_f hp_34 h
    refine go_iconst (n := 0) (z := 0) (by decide +kernel) (by decide) fun v_74 f_75 => ?_
    cases h
    exact go_iret (by decide +kernel) rfl (Or.inl rfl) f_75 (hQ E_33 _ _ R_28 (q_out_v (by decide) f_75))
noncomputable def fj_X12_event_29 (y1 y2 s0 : Int) (m : MM) : Option (Int × MM) := if s0 = 0 then
fj_X12_event_40 y1 y2 1 m
else
fj_X12_event_40 y1 y2 0 m
set_option maxHeartbeats 4000000 in
theorem oj_X12_event_29 {xs : List Int32} {d : Nat} {S : QS} {L : QL} {Q : QO → QS → Prop} {m : MM} {y1 y2 s0 : Int} {v0 : Value} {v1 : Value} {v2 : Value} {w0 : Value}  {rz : Int} {rm : MM}
  (hd : 2 ≤ d) (R : Rp S m) (l0 : q_lo L 0 = some v0) (f0 : q_is 2 v0 68) (l1 : q_lo L 1 = some v1) (f1 : q_is 0 v1 y1) (l2 : q_lo L 2 = some v2) (f2 : q_is 0 v2 y2) (fs0 : q_is 0 w0 s0)
  (hQ : Ext m rm → ∀ o S1, Rp S1 rm → q_out 0 o rz → Q o S1)
  (h : fj_X12_event_29 y1 y2 s0 m = some (rz, rm)) : Go xs d qM_X12_event 29 L [w0] S Q := by
  unfold fj_X12_event_29 at h
  refine go_istore_n (n := 3) (by decide +kernel) (by decide +kernel) fs0 fun L_13 l_14 kp_15 => ?_
  have l_16 := kp_15 0 _ l0 (by decide) (Or.inl (by decide))
  have l_17 := kp_15 1 _ l1 (by decide) (Or.inl (by decide))
  have l_18 := kp_15 2 _ l2 (by decide) (Or.inr (q_is_cat f2 (Or.inl rfl)))
  refine go_aload_n (n := 0) (by decide +kernel) l_16 f0 ?_
  refine go_iload_n (n := 3) (by decide +kernel) l_14 fs0 ?_
  refine go_if (c := .eq) (o := 7) (t := 39) (P := s0 = 0) (by decide +kernel) (by decide +kernel) fs0 (Iff.rfl) (fun hp_19 => ?_) (fun hp_19 => ?_)
  · have h := it_t hp_19 h
    refine go_iconst (n := 1) (z := 1) (by decide +kernel) (by decide) fun v_20 f_21 => ?_
    exact oj_X12_event_40 hd R l_16 f0 l_17 f1 l_18 f2 f_21 f0 hQ h
  · have h := it_f hp_19 h
    refine go_iconst (n := 0) (z := 0) (by decide +kernel) (by decide) fun v_76 f_77 => ?_
    refine go_goto (o := 4) (t := 40) (by decide +kernel) (by decide +kernel) ?_
    exact oj_X12_event_40 hd R l_16 f0 l_17 f1 l_18 f2 f_77 f0 hQ h
noncomputable def fm_X12_event (p1 p2 : Int) (m0 : MM) : Option (Int × MM) := bp (fm_X12_isRun p1 m0) fun x_2 =>
if x_2 = 0 then
fj_X12_event_29 p1 p2 0 m0
else
gd (0 ≤ p1 ∧ p1 < 30) <| lx (m0 86 p1) fun x_87 =>
bp (fm_X12_isIn p2 0 (w32 (x_87 - 1)) m0) fun x_94 =>
if x_94 = 0 then
fj_X12_event_29 p1 p2 0 m0
else
fj_X12_event_29 p1 p2 1 m0
set_option maxHeartbeats 4000000 in
theorem om_X12_event {xs : List Int32} {d : Nat} {S : QS} {m0 : MM} {p1 p2 : Int} {v0 : Value} {v1 : Value} {v2 : Value} {rz : Int} {rm : MM}
  (hd : 3 ≤ d) (R : Rp S m0) (f0 : q_is 2 v0 68) (f1 : q_is 0 v1 p1) (f2 : q_is 0 v2 p2)
  (h : fm_X12_event p1 p2 m0 = some (rz, rm)) : Mt xs d 268 [v0, v1, v2] S (Cr 0 m0 rm rz) := by
  obtain ⟨d, rfl⟩ : ∃ e, d = e + 1 := ⟨d - 1, by omega⟩
  have hd : 2 ≤ d := Nat.le_of_succ_le_succ hd
  refine Mt.of (M := qM_X12_event) rfl (by rw [sl_1 (q_is_cat f0 (Or.inr rfl)), sl_1 (q_is_cat f1 (Or.inl rfl)), sl_1 (q_is_cat f2 (Or.inl rfl)), sl_0]; decide) ?_
  rw [la_1 (q_is_cat f0 (Or.inr rfl)), la_1 (q_is_cat f1 (Or.inl rfl)), la_1 (q_is_cat f2 (Or.inl rfl)), la_0]
  obtain ⟨L, hL⟩ : ∃ L : QL, L = [(0, v0), (0 + 1, v1), (0 + 1 + 1, v2)] := ⟨_, rfl⟩
  rw [← hL]
  have l0 : q_lo L 0 = some v0 := by rw [hL]; rfl
  have l1 : q_lo L 1 = some v1 := by rw [hL]; rfl
  have l2 : q_lo L 2 = some v2 := by rw [hL]; rfl
  have hQ : Ext m0 rm → ∀ o S1, Rp S1 rm → q_out 0 o rz → (Cr 0 m0 rm rz) o S1 := fun a o S1 b e => ⟨b, a, e⟩
  unfold fm_X12_event at h
  refine go_aload_n (n := 0) (by decide +kernel) l0 f0 ?_
  refine go_iload_n (n := 1) (by decide +kernel) l1 f1 ?_
  obtain ⟨x_2, hc_1, h⟩ := bp_s h
  refine go_callV (x := 580) (mi := 193) (n := 1) (ci := 13) (as := [v1]) (rest := []) (by decide +kernel) (by decide +kernel) rfl rfl (q_sum8 _ (Nat.le_of_ble_eq_true rfl)) R f0 (fx_k (c := 13) R (by decide +kernel)) (om_X12_isRun (Nat.le_trans (by decide) hd) R f0 f1 hc_1) (fun _ S_6 q_9 => ?_) (fun _ _ qq => kr_x qq)
  refine kr_z (by decide) q_9 fun v_4 f_5 R_7 E_8 => ?_
  refine go_if (c := .eq) (o := 23) (t := 28) (P := x_2 = 0) (by decide +kernel) (by decide +kernel) f_5 (Iff.rfl) (fun hp_10 => ?_) (fun hp_10 => ?_)
  · have h := it_t hp_10 h
    refine go_iconst (n := 0) (z := 0) (by decide +kernel) (by decide) fun v_11 f_12 => ?_
    exact oj_X12_event_29 hd R_7 l0 f0 l1 f1 l2 f2 f_12 hQ h
  · have h := it_f hp_10 h
    refine go_iload_n (n := 2) (by decide +kernel) l2 f2 ?_
    refine go_iconst (n := 0) (z := 0) (by decide +kernel) (by decide) fun v_78 f_79 => ?_
    refine go_aload_n (n := 0) (by decide +kernel) l0 f0 ?_
    refine go_getf (x := 61) (ci := 13) (kf := 19) (fin := 1) (t := 2) (by decide +kernel) (by decide +kernel) (by decide +kernel) R_7 f0 (fx_k (c := 13) R_7 (by decide +kernel)) fun v_80 f_81 => ?_
    have f_82 := q_is_eq (b := 86) f_81 (fx_v R_7 (by decide +kernel)).symm
    refine go_iload_n (n := 1) (by decide +kernel) l1 f1 ?_
    obtain ⟨g_85, h⟩ := gd_s h
    obtain ⟨x_87, e_88, h⟩ := lx_s h
    refine go_iald (kd := 100) (by decide +kernel) rfl R_7 f_82 f1 (fx_k (c := 100) R_7 (by decide +kernel)) (fx_x (a := 86) (ln := 30) R_7 (by decide +kernel) g_85) fun v_83 f_84 => ?_
    have f_86 := q_is_eq f_84 e_88
    refine go_iconst (n := 1) (z := 1) (by decide +kernel) (by decide) fun v_89 f_90 => ?_
    refine go_isub (by decide +kernel) f_86 f_90 fun v_91 f_92 => ?_
    obtain ⟨x_94, hc_93, h⟩ := bp_s h
    refine go_callS (x := 306) (mi := 188) (n := 3) (b := 0) (as := [v2, v_78, v_91]) (rest := []) (by decide +kernel) (by decide +kernel) rfl rfl (q_sum8 _ (Nat.le_of_ble_eq_true rfl)) (om_X12_isIn (Nat.le_trans (by decide) hd) R_7 f2 f_79 f_92 hc_93) (fun _ S_98 q_101 => ?_) (fun _ _ qq => kr_x qq)
    refine kr_z (by decide) q_101 fun v_96 f_97 R_99 E_100 => ?_
    refine go_if (c := .eq) (o := 7) (t := 28) (P := x_94 = 0) (by decide +kernel) (by decide +kernel) f_97 (Iff.rfl) (fun hp_102 => ?_) (fun hp_102 => ?_)
    · have h := it_t hp_102 h
      refine go_iconst (n := 0) (z := 0) (by decide +kernel) (by decide) fun v_103 f_104 => ?_
      exact oj_X12_event_29 hd R_99 l0 f0 l1 f1 l2 f2 f_104 hQ h
    · have h := it_f hp_102 h
      refine go_iconst (n := 1) (z := 1) (by decide +kernel) (by decide) fun v_105 f_106 => ?_
      refine go_goto (o := 4) (t := 29) (by decide +kernel) (by decide +kernel) ?_
      exact oj_X12_event_29 hd R_99 l0 f0 l1 f1 l2 f2 f_106 hQ h
noncomputable def fj_X12_difference_31 (y1 s0 : Int) (m : MM) : Option (Int × MM) := bd (fm_X12_fails s0 m) fun x_31 m_32 =>
if x_31 = 0 then
gd (0 ≤ y1 ∧ y1 < 30) <| lx (m_32 94 y1) fun x_50 =>
some (x_50, m_32)
else
some (0, m_32)
set_option maxHeartbeats 4000000 in
theorem oj_X12_difference_31 {xs : List Int32} {d : Nat} {S : QS} {L : QL} {Q : QO → QS → Prop} {m : MM} {y1 s0 : Int} {v0 : Value} {v1 : Value} {w0 : Value} {w1 : Value}  {rz : Int} {rm : MM}
  (hd : 2 ≤ d) (R : Rp S m) (l0 : q_lo L 0 = some v0) (f0 : q_is 2 v0 68) (l1 : q_lo L 1 = some v1) (f1 : q_is 0 v1 y1) (fs0 : q_is 0 w0 s0) (fs1 : q_is 2 w1 68)
  (hQ : Ext m rm → ∀ o S1, Rp S1 rm → q_out 0 o rz → Q o S1)
  (h : fj_X12_difference_31 y1 s0 m = some (rz, rm)) : Go xs d qM_X12_difference 31 L [w0, w1] S Q := by
  unfold fj_X12_difference_31 at h
  obtain ⟨x_31, m_32, hc_30, h⟩ := bd_s h
  refine go_callV (x := 324) (mi := 186) (n := 1) (ci := 13) (as := [w0]) (rest := []) (by decide +kernel) (by decide +kernel) rfl rfl (q_sum8 _ (Nat.le_of_ble_eq_true rfl)) R fs1 (fx_k (c := 13) R (by decide +kernel)) (om_X12_fails (Nat.le_trans (by decide) hd) R fs1 fs0 hc_30) (fun _ S_35 q_38 => ?_) (fun _ _ qq => kr_x qq)
  refine kr_z (by decide) q_38 fun v_33 f_34 R_36 E_37 => ?_
  have E_41 := E_37
  refine go_if (c := .eq) (o := 7) (t := 41) (P := x_31 = 0) (by decide +kernel) (by decide +kernel) f_34 (Iff.rfl) (fun hp_42 => ?_) (fun hp_42 => ?_)
  · have h := it_t hp_42 h
    refine go_aload_n (n := 0) (by decide +kernel) l0 f0 ?_
    refine go_getf (x := 85) (ci := 13) (kf := 27) (fin := 1) (t := 2) (by decide +kernel) (by decide +kernel) (by decide +kernel) R_36 f0 (fx_k (c := 13) R_36 (by decide +kernel)) fun v_43 f_44 => ?_
    have f_45 := q_is_eq (b := 94) f_44 (fx_v R_36 (by decide +kernel)).symm
    refine go_iload_n (n := 1) (by decide +kernel) l1 f1 ?_
    obtain ⟨g_48, h⟩ := gd_s h
    obtain ⟨x_50, e_51, h⟩ := lx_s h
    refine go_iald (kd := 100) (by decide +kernel) rfl R_36 f_45 f1 (fx_k (c := 100) R_36 (by decide +kernel)) (fx_x (a := 94) (ln := 30) R_36 (by decide +kernel) g_48) fun v_46 f_47 => ?_
    have f_49 := q_is_eq f_47 e_51
    cases h
    exact go_iret (by decide +kernel) rfl (Or.inl rfl) f_49 (hQ E_41 _ _ R_36 (q_out_v (by decide) f_49))
  · have h := it_f hp_42 h
    refine go_iconst (n := 0) (z := 0) (by decide +kernel) (by decide) fun v_52 f_53 => ?_
    refine go_goto (o := 9) (t := 47) (by decide +kernel) (by decide +kernel) ?_
    cases h
    exact go_iret (by decide +kernel) rfl (Or.inl rfl) f_53 (hQ E_41 _ _ R_36 (q_out_v (by decide) f_53))
noncomputable def fm_X12_difference (p1 : Int) (m0 : MM) : Option (Int × MM) := bp (fm_X12_isRun p1 m0) fun x_2 =>
if x_2 = 0 then
fj_X12_difference_31 p1 1 m0
else
gd (0 ≤ p1 ∧ p1 < 30) <| lx (m0 83 p1) fun x_23 =>
if x_23 = 6 then
fj_X12_difference_31 p1 0 m0
else
fj_X12_difference_31 p1 2 m0
set_option maxHeartbeats 4000000 in
theorem om_X12_difference {xs : List Int32} {d : Nat} {S : QS} {m0 : MM} {p1 : Int} {v0 : Value} {v1 : Value} {rz : Int} {rm : MM}
  (hd : 3 ≤ d) (R : Rp S m0) (f0 : q_is 2 v0 68) (f1 : q_is 0 v1 p1)
  (h : fm_X12_difference p1 m0 = some (rz, rm)) : Mt xs d 269 [v0, v1] S (Cr 0 m0 rm rz) := by
  obtain ⟨d, rfl⟩ : ∃ e, d = e + 1 := ⟨d - 1, by omega⟩
  have hd : 2 ≤ d := Nat.le_of_succ_le_succ hd
  refine Mt.of (M := qM_X12_difference) rfl (by rw [sl_1 (q_is_cat f0 (Or.inr rfl)), sl_1 (q_is_cat f1 (Or.inl rfl)), sl_0]; decide) ?_
  rw [la_1 (q_is_cat f0 (Or.inr rfl)), la_1 (q_is_cat f1 (Or.inl rfl)), la_0]
  obtain ⟨L, hL⟩ : ∃ L : QL, L = [(0, v0), (0 + 1, v1)] := ⟨_, rfl⟩
  rw [← hL]
  have l0 : q_lo L 0 = some v0 := by rw [hL]; rfl
  have l1 : q_lo L 1 = some v1 := by rw [hL]; rfl
  have hQ : Ext m0 rm → ∀ o S1, Rp S1 rm → q_out 0 o rz → (Cr 0 m0 rm rz) o S1 := fun a o S1 b e => ⟨b, a, e⟩
  unfold fm_X12_difference at h
  refine go_aload_n (n := 0) (by decide +kernel) l0 f0 ?_
  refine go_iload_n (n := 1) (by decide +kernel) l1 f1 ?_
  obtain ⟨x_2, hc_1, h⟩ := bp_s h
  refine go_callV (x := 580) (mi := 193) (n := 1) (ci := 13) (as := [v1]) (rest := []) (by decide +kernel) (by decide +kernel) rfl rfl (q_sum8 _ (Nat.le_of_ble_eq_true rfl)) R f0 (fx_k (c := 13) R (by decide +kernel)) (om_X12_isRun (Nat.le_trans (by decide) hd) R f0 f1 hc_1) (fun _ S_6 q_9 => ?_) (fun _ _ qq => kr_x qq)
  refine kr_z (by decide) q_9 fun v_4 f_5 R_7 E_8 => ?_
  refine go_istore_n (n := 2) (by decide +kernel) (by decide +kernel) f_5 fun L_10 l_11 kp_12 => ?_
  have l_13 := kp_12 0 _ l0 (by decide) (Or.inl (by decide))
  have l_14 := kp_12 1 _ l1 (by decide) (Or.inr (q_is_cat f1 (Or.inl rfl)))
  refine go_aload_n (n := 0) (by decide +kernel) l_13 f0 ?_
  refine go_iload_n (n := 2) (by decide +kernel) l_11 f_5 ?_
  refine go_if (c := .ne) (o := 7) (t := 15) (P := ¬ (x_2 = 0)) (by decide +kernel) (by decide +kernel) f_5 (Iff.rfl) (fun hp_15 => ?_) (fun hp_15 => ?_)
  · have h := it_f hp_15 h
    refine go_aload_n (n := 0) (by decide +kernel) l_13 f0 ?_
    refine go_getf (x := 52) (ci := 13) (kf := 16) (fin := 1) (t := 2) (by decide +kernel) (by decide +kernel) (by decide +kernel) R_7 f0 (fx_k (c := 13) R_7 (by decide +kernel)) fun v_16 f_17 => ?_
    have f_18 := q_is_eq (b := 83) f_17 (fx_v R_7 (by decide +kernel)).symm
    refine go_iload_n (n := 1) (by decide +kernel) l_14 f1 ?_
    obtain ⟨g_21, h⟩ := gd_s h
    obtain ⟨x_23, e_24, h⟩ := lx_s h
    refine go_iald (kd := 100) (by decide +kernel) rfl R_7 f_18 f1 (fx_k (c := 100) R_7 (by decide +kernel)) (fx_x (a := 83) (ln := 30) R_7 (by decide +kernel) g_21) fun v_19 f_20 => ?_
    have f_22 := q_is_eq f_20 e_24
    refine go_bipush (n := 6) (z := 6) (by decide +kernel) (by decide) fun v_25 f_26 => ?_
    refine go_icmp (c := .ne) (o := 7) (t := 30) (P := ¬ (x_23 = 6)) (by decide +kernel) (by decide +kernel) f_22 f_26 (Iff.rfl) (fun hp_27 => ?_) (fun hp_27 => ?_)
    · have h := it_f hp_27 h
      refine go_iconst (n := 2) (z := 2) (by decide +kernel) (by decide) fun v_28 f_29 => ?_
      exact oj_X12_difference_31 hd R_7 l_13 f0 l_14 f1 f_29 f0 hQ h
    · have h := it_n hp_27 h
      refine go_iconst (n := 0) (z := 0) (by decide +kernel) (by decide) fun v_54 f_55 => ?_
      refine go_goto (o := 4) (t := 31) (by decide +kernel) (by decide +kernel) ?_
      exact oj_X12_difference_31 hd R_7 l_13 f0 l_14 f1 f_55 f0 hQ h
  · have h := it_n hp_15 h
    refine go_iconst (n := 1) (z := 1) (by decide +kernel) (by decide) fun v_56 f_57 => ?_
    refine go_goto (o := 19) (t := 31) (by decide +kernel) (by decide +kernel) ?_
    exact oj_X12_difference_31 hd R_7 l_13 f0 l_14 f1 f_57 f0 hQ h
noncomputable def fm_X12_runs (m0 : MM) : Option (Int × MM) := lx (m0 68 12) fun x_4 =>
bd (fm_X12_tells x_4 m0) fun x_7 m_8 =>
some (x_7, m_8)
set_option maxHeartbeats 4000000 in
theorem om_X12_runs {xs : List Int32} {d : Nat} {S : QS} {m0 : MM} {v0 : Value} {rz : Int} {rm : MM}
  (hd : 2 ≤ d) (R : Rp S m0) (f0 : q_is 2 v0 68)
  (h : fm_X12_runs m0 = some (rz, rm)) : Mt xs d 270 [v0] S (Cr 0 m0 rm rz) := by
  obtain ⟨d, rfl⟩ : ∃ e, d = e + 1 := ⟨d - 1, by omega⟩
  have hd : 1 ≤ d := Nat.le_of_succ_le_succ hd
  refine Mt.of (M := qM_X12_runs) rfl (by rw [sl_1 (q_is_cat f0 (Or.inr rfl)), sl_0]; decide) ?_
  rw [la_1 (q_is_cat f0 (Or.inr rfl)), la_0]
  obtain ⟨L, hL⟩ : ∃ L : QL, L = [(0, v0)] := ⟨_, rfl⟩
  rw [← hL]
  have l0 : q_lo L 0 = some v0 := by rw [hL]; rfl
  have hQ : Ext m0 rm → ∀ o S1, Rp S1 rm → q_out 0 o rz → (Cr 0 m0 rm rz) o S1 := fun a o S1 b e => ⟨b, a, e⟩
  unfold fm_X12_runs at h
  refine go_aload_n (n := 0) (by decide +kernel) l0 f0 ?_
  refine go_aload_n (n := 0) (by decide +kernel) l0 f0 ?_
  obtain ⟨x_4, e_5, h⟩ := lx_s h
  refine go_getf (x := 310) (ci := 13) (kf := 12) (fin := 0) (t := 0) (by decide +kernel) (by decide +kernel) (by decide +kernel) R f0 (fx_k (c := 13) R (by decide +kernel)) fun v_1 f_2 => ?_
  have f_3 := q_is_eq f_2 e_5
  obtain ⟨x_7, m_8, hc_6, h⟩ := bd_s h
  refine go_callV (x := 596) (mi := 187) (n := 1) (ci := 13) (as := [v_1]) (rest := []) (by decide +kernel) (by decide +kernel) rfl rfl (q_sum8 _ (Nat.le_of_ble_eq_true rfl)) R f0 (fx_k (c := 13) R (by decide +kernel)) (om_X12_tells (Nat.le_trans (by decide) hd) R f0 f_3 hc_6) (fun _ S_11 q_14 => ?_) (fun _ _ qq => kr_x qq)
  refine kr_z (by decide) q_14 fun v_9 f_10 R_12 E_13 => ?_
  have E_17 := E_13
  cases h
  exact go_iret (by decide +kernel) rfl (Or.inl rfl) f_10 (hQ E_17 _ _ R_12 (q_out_v (by decide) f_10))
noncomputable def fj_X12_setRate_16 (y1 s0 : Int) (m : MM) : Option (Int × MM) := bd (fm_X12_fails s0 m) fun x_18 m_19 =>
if x_18 = 0 then
lx (m_19 68 50) fun x_33 =>
up m_19 68 50 y1 fun m_40 =>
some (x_33, m_40)
else
some (0, m_19)
set_option maxHeartbeats 4000000 in
theorem oj_X12_setRate_16 {xs : List Int32} {d : Nat} {S : QS} {L : QL} {Q : QO → QS → Prop} {m : MM} {y1 s0 : Int} {v0 : Value} {v1 : Value} {w0 : Value} {w1 : Value}  {rz : Int} {rm : MM}
  (hd : 1 ≤ d) (R : Rp S m) (l0 : q_lo L 0 = some v0) (f0 : q_is 2 v0 68) (l1 : q_lo L 1 = some v1) (f1 : q_is 0 v1 y1) (fs0 : q_is 0 w0 s0) (fs1 : q_is 2 w1 68)
  (hQ : Ext m rm → ∀ o S1, Rp S1 rm → q_out 0 o rz → Q o S1)
  (h : fj_X12_setRate_16 y1 s0 m = some (rz, rm)) : Go xs d qM_X12_setRate 16 L [w0, w1] S Q := by
  unfold fj_X12_setRate_16 at h
  obtain ⟨x_18, m_19, hc_17, h⟩ := bd_s h
  refine go_callV (x := 324) (mi := 186) (n := 1) (ci := 13) (as := [w0]) (rest := []) (by decide +kernel) (by decide +kernel) rfl rfl (q_sum8 _ (Nat.le_of_ble_eq_true rfl)) R fs1 (fx_k (c := 13) R (by decide +kernel)) (om_X12_fails (Nat.le_trans (by decide) hd) R fs1 fs0 hc_17) (fun _ S_22 q_25 => ?_) (fun _ _ qq => kr_x qq)
  refine kr_z (by decide) q_25 fun v_20 f_21 R_23 E_24 => ?_
  have E_28 := E_24
  refine go_if (c := .eq) (o := 5) (t := 24) (P := x_18 = 0) (by decide +kernel) (by decide +kernel) f_21 (Iff.rfl) (fun hp_29 => ?_) (fun hp_29 => ?_)
  · have h := it_t hp_29 h
    refine go_aload_n (n := 0) (by decide +kernel) l0 f0 ?_
    obtain ⟨x_33, e_34, h⟩ := lx_s h
    refine go_getf (x := 146) (ci := 13) (kf := 50) (fin := 0) (t := 0) (by decide +kernel) (by decide +kernel) (by decide +kernel) R_23 f0 (fx_k (c := 13) R_23 (by decide +kernel)) fun v_30 f_31 => ?_
    have f_32 := q_is_eq f_31 e_34
    refine go_istore_n (n := 2) (by decide +kernel) (by decide +kernel) f_32 fun L_35 l_36 kp_37 => ?_
    have l_38 := kp_37 0 _ l0 (by decide) (Or.inl (by decide))
    have l_39 := kp_37 1 _ l1 (by decide) (Or.inr (q_is_cat f1 (Or.inl rfl)))
    refine go_aload_n (n := 0) (by decide +kernel) l_38 f0 ?_
    refine go_iload_n (n := 1) (by decide +kernel) l_39 f1 ?_
    obtain ⟨m_40, e_41, h⟩ := up_s h
    refine go_putf (x := 146) (ci := 13) (kf := 50) (fin := 0) (zt := 0) (by decide +kernel) (by decide +kernel) (by decide) (by decide +kernel) (by decide) (Or.inl rfl) R_23 f0 f1 (fun hq => absurd hq (by decide)) (fx_k (c := 13) R_23 (by decide +kernel)) e_41 (fx_f (j := 50) R_23.2 (fx_k (c := 13) R_23 (by decide +kernel)) (by decide +kernel)) fun S_42 R_43 E_44 => ?_
    have E_46 := Ext.tr E_28 E_44
    refine go_iload_n (n := 2) (by decide +kernel) l_36 f_32 ?_
    cases h
    exact go_iret (by decide +kernel) rfl (Or.inl rfl) f_32 (hQ E_46 _ _ R_43 (q_out_v (by decide) f_32))
  · have h := it_f hp_29 h
    refine go_iconst (n := 0) (z := 0) (by decide +kernel) (by decide) fun v_47 f_48 => ?_
    cases h
    exact go_iret (by decide +kernel) rfl (Or.inl rfl) f_48 (hQ E_28 _ _ R_23 (q_out_v (by decide) f_48))
noncomputable def fm_X12_setRate (p1 : Int) (m0 : MM) : Option (Int × MM) := bp (fm_X12_isIn p1 1 10 m0) fun x_6 =>
if x_6 = 0 then
fj_X12_setRate_16 p1 1 m0
else
fj_X12_setRate_16 p1 0 m0
set_option maxHeartbeats 4000000 in
theorem om_X12_setRate {xs : List Int32} {d : Nat} {S : QS} {m0 : MM} {p1 : Int} {v0 : Value} {v1 : Value} {rz : Int} {rm : MM}
  (hd : 2 ≤ d) (R : Rp S m0) (f0 : q_is 2 v0 68) (f1 : q_is 0 v1 p1)
  (h : fm_X12_setRate p1 m0 = some (rz, rm)) : Mt xs d 271 [v0, v1] S (Cr 0 m0 rm rz) := by
  obtain ⟨d, rfl⟩ : ∃ e, d = e + 1 := ⟨d - 1, by omega⟩
  have hd : 1 ≤ d := Nat.le_of_succ_le_succ hd
  refine Mt.of (M := qM_X12_setRate) rfl (by rw [sl_1 (q_is_cat f0 (Or.inr rfl)), sl_1 (q_is_cat f1 (Or.inl rfl)), sl_0]; decide) ?_
  rw [la_1 (q_is_cat f0 (Or.inr rfl)), la_1 (q_is_cat f1 (Or.inl rfl)), la_0]
  obtain ⟨L, hL⟩ : ∃ L : QL, L = [(0, v0), (0 + 1, v1)] := ⟨_, rfl⟩
  rw [← hL]
  have l0 : q_lo L 0 = some v0 := by rw [hL]; rfl
  have l1 : q_lo L 1 = some v1 := by rw [hL]; rfl
  have hQ : Ext m0 rm → ∀ o S1, Rp S1 rm → q_out 0 o rz → (Cr 0 m0 rm rz) o S1 := fun a o S1 b e => ⟨b, a, e⟩
  unfold fm_X12_setRate at h
  refine go_aload_n (n := 0) (by decide +kernel) l0 f0 ?_
  refine go_iload_n (n := 1) (by decide +kernel) l1 f1 ?_
  refine go_iconst (n := 1) (z := 1) (by decide +kernel) (by decide) fun v_1 f_2 => ?_
  refine go_bipush (n := 10) (z := 10) (by decide +kernel) (by decide) fun v_3 f_4 => ?_
  obtain ⟨x_6, hc_5, h⟩ := bp_s h
  refine go_callS (x := 306) (mi := 188) (n := 3) (b := 0) (as := [v1, v_1, v_3]) (rest := [v0]) (by decide +kernel) (by decide +kernel) rfl rfl (q_sum8 _ (Nat.le_of_ble_eq_true rfl)) (om_X12_isIn (Nat.le_trans (by decide) hd) R f1 f_2 f_4 hc_5) (fun _ S_10 q_13 => ?_) (fun _ _ qq => kr_x qq)
  refine kr_z (by decide) q_13 fun v_8 f_9 R_11 E_12 => ?_
  refine go_if (c := .eq) (o := 7) (t := 15) (P := x_6 = 0) (by decide +kernel) (by decide +kernel) f_9 (Iff.rfl) (fun hp_14 => ?_) (fun hp_14 => ?_)
  · have h := it_t hp_14 h
    refine go_iconst (n := 1) (z := 1) (by decide +kernel) (by decide) fun v_15 f_16 => ?_
    exact oj_X12_setRate_16 hd R_11 l0 f0 l1 f1 f_16 f0 hQ h
  · have h := it_f hp_14 h
    refine go_iconst (n := 0) (z := 0) (by decide +kernel) (by decide) fun v_49 f_50 => ?_
    refine go_goto (o := 4) (t := 16) (by decide +kernel) (by decide +kernel) ?_
    exact oj_X12_setRate_16 hd R_11 l0 f0 l1 f1 f_50 f0 hQ h
noncomputable def fl_X12_isHeld_4 (y1 : Int) (m0 : MM) : Nat → Int → Int → Option Int
  | 0, _, _ => none
  | n + 1, y2, y3 => lx (m0 68 51) fun x_19 =>
if y3 < x_19 then
if y2 = 0 then
gd (0 ≤ y3 ∧ y3 < 4096) <| lx (m0 113 y3) fun x_50 =>
if x_50 = y1 then
lx (m0 119 y3) fun x_78 =>
if x_78 = 0 then
lx (m0 68 0) fun x_103 =>
lx (m0 115 y3) fun x_111 =>
if w32 (x_103 - x_111) < 5 then
lx (w32 (y3 + 1)) fun x_150 =>
fl_X12_isHeld_4 y1 m0 n 1 x_150
else
lx (w32 (y3 + 1)) fun x_131 =>
fl_X12_isHeld_4 y1 m0 n 0 x_131
else
lx (w32 (y3 + 1)) fun x_94 =>
fl_X12_isHeld_4 y1 m0 n 0 x_94
else
lx (w32 (y3 + 1)) fun x_66 =>
fl_X12_isHeld_4 y1 m0 n 0 x_66
else
lx (w32 (y3 + 1)) fun x_37 =>
fl_X12_isHeld_4 y1 m0 n 1 x_37
else
gd (y2 = 0 ∨ y2 = 1) <| some y2
set_option maxHeartbeats 4000000 in
theorem ol_X12_isHeld_4 {xs : List Int32} {d : Nat} {Q : QO → QS → Prop} {m0 : MM} {y1 : Int} {rz : Int}
  (hd : 0 ≤ d)
  (hQ : ∀ o S1, Rp S1 m0 → q_out 0 o rz → Q o S1) :
  ∀ (n : Nat) {S : QS} {L : QL} {y2 y3 : Int} {v0 : Value} {v1 : Value} {v2 : Value} {v3 : Value} , fl_X12_isHeld_4 y1 m0 n y2 y3 = some rz → Rp S m0 → q_lo L 0 = some v0 → q_is 2 v0 68 → q_lo L 1 = some v1 → q_is 0 v1 y1 → q_lo L 2 = some v2 → q_is 0 v2 y2 → q_lo L 3 = some v3 → q_is 0 v3 y3 → Go xs d qM_X12_isHeld 4 L [] S Q := by
  intro n
  induction n with
  | zero => intro S L y2 y3 v0 v1 v2 v3; intro h R l0 f0 l1 f1 l2 f2 l3 f3; cases h
  | succ n ih0 =>
    intro S L y2 y3 v0 v1 v2 v3; intro h R l0 f0 l1 f1 l2 f2 l3 f3
    have ih : ∀ {z2 : Int} {z3 : Int} {Sq : QS} {Lq : QL} {u0 : Value} {u1 : Value} {u2 : Value} {u3 : Value}, fl_X12_isHeld_4 y1 m0 n z2 z3 = some rz → Rp Sq m0 → q_lo Lq 0 = some u0 → q_is 2 u0 68 → q_lo Lq 1 = some u1 → q_is 0 u1 y1 → q_lo Lq 2 = some u2 → q_is 0 u2 z2 → q_lo Lq 3 = some u3 → q_is 0 u3 z3 → Go xs d qM_X12_isHeld 4 Lq [] Sq Q := by intros; exact ih0 ‹_› ‹_› ‹_› ‹_› ‹_› ‹_› ‹_› ‹_› ‹_› ‹_›
    unfold fl_X12_isHeld_4 at h
    refine go_iload_n (n := 3) (by decide +kernel) l3 f3 ?_
    refine go_aload_n (n := 0) (by decide +kernel) l0 f0 ?_
    obtain ⟨x_19, e_20, h⟩ := lx_s h
    refine go_getf (x := 599) (ci := 13) (kf := 51) (fin := 0) (t := 0) (by decide +kernel) (by decide +kernel) (by decide +kernel) R f0 (fx_k (c := 13) R (by decide +kernel)) fun v_16 f_17 => ?_
    have f_18 := q_is_eq f_17 e_20
    refine go_icmp (c := .ge) (o := 53) (t := 62) (P := ¬ (y3 < x_19)) (by decide +kernel) (by decide +kernel) f3 f_18 (Int.not_lt.symm) (fun hp_21 => ?_) (fun hp_21 => ?_)
    · have h := it_f hp_21 h
      refine go_iload_n (n := 2) (by decide +kernel) l2 f2 ?_
      obtain ⟨g_22, h⟩ := gd_s h
      cases h
      exact go_iret (by decide +kernel) rfl (Or.inr ⟨rfl, g_22⟩) f2 (hQ _ _ R (q_out_v (by decide) f2))
    · have h := it_n hp_21 h
      refine go_iload_n (n := 2) (by decide +kernel) l2 f2 ?_
      refine go_if (c := .ne) (o := 37) (t := 50) (P := ¬ (y2 = 0)) (by decide +kernel) (by decide +kernel) f2 (Iff.rfl) (fun hp_23 => ?_) (fun hp_23 => ?_)
      · have h := it_f hp_23 h
        refine go_iconst (n := 1) (z := 1) (by decide +kernel) (by decide) fun v_24 f_25 => ?_
        refine go_goto (o := 4) (t := 55) (by decide +kernel) (by decide +kernel) ?_
        refine go_istore_n (n := 2) (by decide +kernel) (by decide +kernel) f_25 fun L_26 l_27 kp_28 => ?_
        have l_29 := kp_28 0 _ l0 (by decide) (Or.inl (by decide))
        have l_30 := kp_28 1 _ l1 (by decide) (Or.inr (q_is_cat f1 (Or.inl rfl)))
        have l_31 := kp_28 3 _ l3 (by decide) (Or.inl (by decide))
        refine go_iinc (n := 3) (c := 1) (c' := 1) (by decide +kernel) (by decide +kernel) l_31 f3 (by decide) fun L_32 v_33 f_34 l_35 kp_36 => ?_
        obtain ⟨x_37, e_38, h⟩ := lx_s h
        have f_39 := q_is_eq f_34 e_38
        have l_40 := kp_36 0 _ l_29 (by decide) (Or.inl (by decide))
        have l_41 := kp_36 1 _ l_30 (by decide) (Or.inl (by decide))
        have l_42 := kp_36 2 _ l_27 (by decide) (Or.inr (q_is_cat f_25 (Or.inl rfl)))
        refine go_goto (o := (-55)) (t := 4) (by decide +kernel) (by decide +kernel) ?_
        exact ih h R l_40 f0 l_41 f1 l_42 f_25 l_35 f_39
      · have h := it_n hp_23 h
        refine go_aload_n (n := 0) (by decide +kernel) l0 f0 ?_
        refine go_getf (x := 152) (ci := 13) (kf := 53) (fin := 1) (t := 2) (by decide +kernel) (by decide +kernel) (by decide +kernel) R f0 (fx_k (c := 13) R (by decide +kernel)) fun v_43 f_44 => ?_
        have f_45 := q_is_eq (b := 113) f_44 (fx_v R (by decide +kernel)).symm
        refine go_iload_n (n := 3) (by decide +kernel) l3 f3 ?_
        obtain ⟨g_48, h⟩ := gd_s h
        obtain ⟨x_50, e_51, h⟩ := lx_s h
        refine go_iald (kd := 100) (by decide +kernel) rfl R f_45 f3 (fx_k (c := 100) R (by decide +kernel)) (fx_x (a := 113) (ln := 4096) R (by decide +kernel) g_48) fun v_46 f_47 => ?_
        have f_49 := q_is_eq f_47 e_51
        refine go_iload_n (n := 1) (by decide +kernel) l1 f1 ?_
        refine go_icmp (c := .ne) (o := 31) (t := 54) (P := ¬ (x_50 = y1)) (by decide +kernel) (by decide +kernel) f_49 f1 (Iff.rfl) (fun hp_52 => ?_) (fun hp_52 => ?_)
        · have h := it_f hp_52 h
          refine go_iconst (n := 0) (z := 0) (by decide +kernel) (by decide) fun v_53 f_54 => ?_
          refine go_istore_n (n := 2) (by decide +kernel) (by decide +kernel) f_54 fun L_55 l_56 kp_57 => ?_
          have l_58 := kp_57 0 _ l0 (by decide) (Or.inl (by decide))
          have l_59 := kp_57 1 _ l1 (by decide) (Or.inr (q_is_cat f1 (Or.inl rfl)))
          have l_60 := kp_57 3 _ l3 (by decide) (Or.inl (by decide))
          refine go_iinc (n := 3) (c := 1) (c' := 1) (by decide +kernel) (by decide +kernel) l_60 f3 (by decide) fun L_61 v_62 f_63 l_64 kp_65 => ?_
          obtain ⟨x_66, e_67, h⟩ := lx_s h
          have f_68 := q_is_eq f_63 e_67
          have l_69 := kp_65 0 _ l_58 (by decide) (Or.inl (by decide))
          have l_70 := kp_65 1 _ l_59 (by decide) (Or.inl (by decide))
          have l_71 := kp_65 2 _ l_56 (by decide) (Or.inr (q_is_cat f_54 (Or.inl rfl)))
          refine go_goto (o := (-55)) (t := 4) (by decide +kernel) (by decide +kernel) ?_
          exact ih h R l_69 f0 l_70 f1 l_71 f_54 l_64 f_68
        · have h := it_n hp_52 h
          refine go_aload_n (n := 0) (by decide +kernel) l0 f0 ?_
          refine go_getf (x := 170) (ci := 13) (kf := 59) (fin := 1) (t := 2) (by decide +kernel) (by decide +kernel) (by decide +kernel) R f0 (fx_k (c := 13) R (by decide +kernel)) fun v_72 f_73 => ?_
          have f_74 := q_is_eq (b := 119) f_73 (fx_v R (by decide +kernel)).symm
          refine go_iload_n (n := 3) (by decide +kernel) l3 f3 ?_
          obtain ⟨x_78, e_79, h⟩ := lx_s h
          refine go_bald (kd := 102) (by decide +kernel) rfl R f_74 f3 (fx_k (c := 102) R (by decide +kernel)) (fx_x (a := 119) (ln := 4096) R (by decide +kernel) g_48) fun v_75 f_76 => ?_
          have f_77 := q_is_eq f_76 e_79
          refine go_if (c := .ne) (o := 22) (t := 54) (P := ¬ (x_78 = 0)) (by decide +kernel) (by decide +kernel) f_77 (Iff.rfl) (fun hp_80 => ?_) (fun hp_80 => ?_)
          · have h := it_f hp_80 h
            refine go_iconst (n := 0) (z := 0) (by decide +kernel) (by decide) fun v_81 f_82 => ?_
            refine go_istore_n (n := 2) (by decide +kernel) (by decide +kernel) f_82 fun L_83 l_84 kp_85 => ?_
            have l_86 := kp_85 0 _ l0 (by decide) (Or.inl (by decide))
            have l_87 := kp_85 1 _ l1 (by decide) (Or.inr (q_is_cat f1 (Or.inl rfl)))
            have l_88 := kp_85 3 _ l3 (by decide) (Or.inl (by decide))
            refine go_iinc (n := 3) (c := 1) (c' := 1) (by decide +kernel) (by decide +kernel) l_88 f3 (by decide) fun L_89 v_90 f_91 l_92 kp_93 => ?_
            obtain ⟨x_94, e_95, h⟩ := lx_s h
            have f_96 := q_is_eq f_91 e_95
            have l_97 := kp_93 0 _ l_86 (by decide) (Or.inl (by decide))
            have l_98 := kp_93 1 _ l_87 (by decide) (Or.inl (by decide))
            have l_99 := kp_93 2 _ l_84 (by decide) (Or.inr (q_is_cat f_82 (Or.inl rfl)))
            refine go_goto (o := (-55)) (t := 4) (by decide +kernel) (by decide +kernel) ?_
            exact ih h R l_97 f0 l_98 f1 l_99 f_82 l_92 f_96
          · have h := it_n hp_80 h
            refine go_aload_n (n := 0) (by decide +kernel) l0 f0 ?_
            obtain ⟨x_103, e_104, h⟩ := lx_s h
            refine go_getf (x := 357) (ci := 13) (kf := 0) (fin := 0) (t := 0) (by decide +kernel) (by decide +kernel) (by decide +kernel) R f0 (fx_k (c := 13) R (by decide +kernel)) fun v_100 f_101 => ?_
            have f_102 := q_is_eq f_101 e_104
            refine go_aload_n (n := 0) (by decide +kernel) l0 f0 ?_
            refine go_getf (x := 158) (ci := 13) (kf := 55) (fin := 1) (t := 2) (by decide +kernel) (by decide +kernel) (by decide +kernel) R f0 (fx_k (c := 13) R (by decide +kernel)) fun v_105 f_106 => ?_
            have f_107 := q_is_eq (b := 115) f_106 (fx_v R (by decide +kernel)).symm
            refine go_iload_n (n := 3) (by decide +kernel) l3 f3 ?_
            obtain ⟨x_111, e_112, h⟩ := lx_s h
            refine go_iald (kd := 100) (by decide +kernel) rfl R f_107 f3 (fx_k (c := 100) R (by decide +kernel)) (fx_x (a := 115) (ln := 4096) R (by decide +kernel) g_48) fun v_108 f_109 => ?_
            have f_110 := q_is_eq f_109 e_112
            refine go_isub (by decide +kernel) f_102 f_110 fun v_113 f_114 => ?_
            refine go_iconst (n := 5) (z := 5) (by decide +kernel) (by decide) fun v_115 f_116 => ?_
            refine go_icmp (c := .ge) (o := 7) (t := 54) (P := ¬ (w32 (x_103 - x_111) < 5)) (by decide +kernel) (by decide +kernel) f_114 f_116 (Int.not_lt.symm) (fun hp_117 => ?_) (fun hp_117 => ?_)
            · have h := it_f hp_117 h
              refine go_iconst (n := 0) (z := 0) (by decide +kernel) (by decide) fun v_118 f_119 => ?_
              refine go_istore_n (n := 2) (by decide +kernel) (by decide +kernel) f_119 fun L_120 l_121 kp_122 => ?_
              have l_123 := kp_122 0 _ l0 (by decide) (Or.inl (by decide))
              have l_124 := kp_122 1 _ l1 (by decide) (Or.inr (q_is_cat f1 (Or.inl rfl)))
              have l_125 := kp_122 3 _ l3 (by decide) (Or.inl (by decide))
              refine go_iinc (n := 3) (c := 1) (c' := 1) (by decide +kernel) (by decide +kernel) l_125 f3 (by decide) fun L_126 v_127 f_128 l_129 kp_130 => ?_
              obtain ⟨x_131, e_132, h⟩ := lx_s h
              have f_133 := q_is_eq f_128 e_132
              have l_134 := kp_130 0 _ l_123 (by decide) (Or.inl (by decide))
              have l_135 := kp_130 1 _ l_124 (by decide) (Or.inl (by decide))
              have l_136 := kp_130 2 _ l_121 (by decide) (Or.inr (q_is_cat f_119 (Or.inl rfl)))
              refine go_goto (o := (-55)) (t := 4) (by decide +kernel) (by decide +kernel) ?_
              exact ih h R l_134 f0 l_135 f1 l_136 f_119 l_129 f_133
            · have h := it_n hp_117 h
              refine go_iconst (n := 1) (z := 1) (by decide +kernel) (by decide) fun v_137 f_138 => ?_
              refine go_goto (o := 4) (t := 55) (by decide +kernel) (by decide +kernel) ?_
              refine go_istore_n (n := 2) (by decide +kernel) (by decide +kernel) f_138 fun L_139 l_140 kp_141 => ?_
              have l_142 := kp_141 0 _ l0 (by decide) (Or.inl (by decide))
              have l_143 := kp_141 1 _ l1 (by decide) (Or.inr (q_is_cat f1 (Or.inl rfl)))
              have l_144 := kp_141 3 _ l3 (by decide) (Or.inl (by decide))
              refine go_iinc (n := 3) (c := 1) (c' := 1) (by decide +kernel) (by decide +kernel) l_144 f3 (by decide) fun L_145 v_146 f_147 l_148 kp_149 => ?_
              obtain ⟨x_150, e_151, h⟩ := lx_s h
              have f_152 := q_is_eq f_147 e_151
              have l_153 := kp_149 0 _ l_142 (by decide) (Or.inl (by decide))
              have l_154 := kp_149 1 _ l_143 (by decide) (Or.inl (by decide))
              have l_155 := kp_149 2 _ l_140 (by decide) (Or.inr (q_is_cat f_138 (Or.inl rfl)))
              refine go_goto (o := (-55)) (t := 4) (by decide +kernel) (by decide +kernel) ?_
              exact ih h R l_153 f0 l_154 f1 l_155 f_138 l_148 f_152
noncomputable def fm_X12_isHeld (p1 : Int) (m0 : MM) : Option Int := fl_X12_isHeld_4 p1 m0  BIG 0 0
set_option maxHeartbeats 4000000 in
theorem om_X12_isHeld {xs : List Int32} {d : Nat} {S : QS} {m0 : MM} {p1 : Int} {v0 : Value} {v1 : Value} {rz : Int}
  (hd : 1 ≤ d) (R : Rp S m0) (f0 : q_is 2 v0 68) (f1 : q_is 0 v1 p1)
  (h : fm_X12_isHeld p1 m0 = some rz) : Mt xs d 272 [v0, v1] S (Cr 0 m0 m0 rz) := by
  obtain ⟨d, rfl⟩ : ∃ e, d = e + 1 := ⟨d - 1, by omega⟩
  have hd : 0 ≤ d := Nat.le_of_succ_le_succ hd
  refine Mt.of (M := qM_X12_isHeld) rfl (by rw [sl_1 (q_is_cat f0 (Or.inr rfl)), sl_1 (q_is_cat f1 (Or.inl rfl)), sl_0]; decide) ?_
  rw [la_1 (q_is_cat f0 (Or.inr rfl)), la_1 (q_is_cat f1 (Or.inl rfl)), la_0]
  obtain ⟨L, hL⟩ : ∃ L : QL, L = [(0, v0), (0 + 1, v1)] := ⟨_, rfl⟩
  rw [← hL]
  have l0 : q_lo L 0 = some v0 := by rw [hL]; rfl
  have l1 : q_lo L 1 = some v1 := by rw [hL]; rfl
  have hQ : ∀ o S1, Rp S1 m0 → q_out 0 o rz → (Cr 0 m0 m0 rz) o S1 := fun o S1 a b => ⟨a, Ext.rf _, b⟩
  unfold fm_X12_isHeld at h
  refine go_iconst (n := 0) (z := 0) (by decide +kernel) (by decide) fun v_1 f_2 => ?_
  refine go_istore_n (n := 2) (by decide +kernel) (by decide +kernel) f_2 fun L_3 l_4 kp_5 => ?_
  have l_6 := kp_5 0 _ l0 (by decide) (Or.inl (by decide))
  have l_7 := kp_5 1 _ l1 (by decide) (Or.inr (q_is_cat f1 (Or.inl rfl)))
  refine go_iconst (n := 0) (z := 0) (by decide +kernel) (by decide) fun v_8 f_9 => ?_
  refine go_istore_n (n := 3) (by decide +kernel) (by decide +kernel) f_9 fun L_10 l_11 kp_12 => ?_
  have l_13 := kp_12 0 _ l_6 (by decide) (Or.inl (by decide))
  have l_14 := kp_12 1 _ l_7 (by decide) (Or.inl (by decide))
  have l_15 := kp_12 2 _ l_4 (by decide) (Or.inr (q_is_cat f_2 (Or.inl rfl)))
  refine ol_X12_isHeld_4 hd   hQ BIG h R l_13 f0 l_14 f1 l_15 f_2 l_11 f_9
noncomputable def fm_X12_isReady (p1 : Int) (m0 : MM) : Option Int := gd (0 ≤ p1 ∧ p1 < 30) <| lx (m0 83 p1) fun x_8 =>
if x_8 = 0 then
lx (m0 89 p1) fun x_19 =>
lx (m0 91 p1) fun x_27 =>
if x_27 < x_19 then
bp (fm_X12_isHeld p1 m0) fun x_33 =>
if x_33 = 0 then
some 1
else
some 0
else
some 0
else
some 0
set_option maxHeartbeats 4000000 in
theorem om_X12_isReady {xs : List Int32} {d : Nat} {S : QS} {m0 : MM} {p1 : Int} {v0 : Value} {v1 : Value} {rz : Int}
  (hd : 2 ≤ d) (R : Rp S m0) (f0 : q_is 2 v0 68) (f1 : q_is 0 v1 p1)
  (h : fm_X12_isReady p1 m0 = some rz) : Mt xs d 273 [v0, v1] S (Cr 0 m0 m0 rz) := by
  obtain ⟨d, rfl⟩ : ∃ e, d = e + 1 := ⟨d - 1, by omega⟩
  have hd : 1 ≤ d := Nat.le_of_succ_le_succ hd
  refine Mt.of (M := qM_X12_isReady) rfl (by rw [sl_1 (q_is_cat f0 (Or.inr rfl)), sl_1 (q_is_cat f1 (Or.inl rfl)), sl_0]; decide) ?_
  rw [la_1 (q_is_cat f0 (Or.inr rfl)), la_1 (q_is_cat f1 (Or.inl rfl)), la_0]
  obtain ⟨L, hL⟩ : ∃ L : QL, L = [(0, v0), (0 + 1, v1)] := ⟨_, rfl⟩
  rw [← hL]
  have l0 : q_lo L 0 = some v0 := by rw [hL]; rfl
  have l1 : q_lo L 1 = some v1 := by rw [hL]; rfl
  have hQ : ∀ o S1, Rp S1 m0 → q_out 0 o rz → (Cr 0 m0 m0 rz) o S1 := fun o S1 a b => ⟨a, Ext.rf _, b⟩
  unfold fm_X12_isReady at h
  refine go_aload_n (n := 0) (by decide +kernel) l0 f0 ?_
  refine go_getf (x := 52) (ci := 13) (kf := 16) (fin := 1) (t := 2) (by decide +kernel) (by decide +kernel) (by decide +kernel) R f0 (fx_k (c := 13) R (by decide +kernel)) fun v_1 f_2 => ?_
  have f_3 := q_is_eq (b := 83) f_2 (fx_v R (by decide +kernel)).symm
  refine go_iload_n (n := 1) (by decide +kernel) l1 f1 ?_
  obtain ⟨g_6, h⟩ := gd_s h
  obtain ⟨x_8, e_9, h⟩ := lx_s h
  refine go_iald (kd := 100) (by decide +kernel) rfl R f_3 f1 (fx_k (c := 100) R (by decide +kernel)) (fx_x (a := 83) (ln := 30) R (by decide +kernel) g_6) fun v_4 f_5 => ?_
  have f_7 := q_is_eq f_5 e_9
  refine go_if (c := .ne) (o := 30) (t := 36) (P := ¬ (x_8 = 0)) (by decide +kernel) (by decide +kernel) f_7 (Iff.rfl) (fun hp_10 => ?_) (fun hp_10 => ?_)
  · have h := it_f hp_10 h
    refine go_iconst (n := 0) (z := 0) (by decide +kernel) (by decide) fun v_11 f_12 => ?_
    cases h
    exact go_iret (by decide +kernel) rfl (Or.inr ⟨rfl, by decide⟩) f_12 (hQ _ _ R (q_out_v (by decide) f_12))
  · have h := it_n hp_10 h
    refine go_aload_n (n := 0) (by decide +kernel) l0 f0 ?_
    refine go_getf (x := 70) (ci := 13) (kf := 22) (fin := 1) (t := 2) (by decide +kernel) (by decide +kernel) (by decide +kernel) R f0 (fx_k (c := 13) R (by decide +kernel)) fun v_13 f_14 => ?_
    have f_15 := q_is_eq (b := 89) f_14 (fx_v R (by decide +kernel)).symm
    refine go_iload_n (n := 1) (by decide +kernel) l1 f1 ?_
    obtain ⟨x_19, e_20, h⟩ := lx_s h
    refine go_iald (kd := 100) (by decide +kernel) rfl R f_15 f1 (fx_k (c := 100) R (by decide +kernel)) (fx_x (a := 89) (ln := 30) R (by decide +kernel) g_6) fun v_16 f_17 => ?_
    have f_18 := q_is_eq f_17 e_20
    refine go_aload_n (n := 0) (by decide +kernel) l0 f0 ?_
    refine go_getf (x := 76) (ci := 13) (kf := 24) (fin := 1) (t := 2) (by decide +kernel) (by decide +kernel) (by decide +kernel) R f0 (fx_k (c := 13) R (by decide +kernel)) fun v_21 f_22 => ?_
    have f_23 := q_is_eq (b := 91) f_22 (fx_v R (by decide +kernel)).symm
    refine go_iload_n (n := 1) (by decide +kernel) l1 f1 ?_
    obtain ⟨x_27, e_28, h⟩ := lx_s h
    refine go_iald (kd := 100) (by decide +kernel) rfl R f_23 f1 (fx_k (c := 100) R (by decide +kernel)) (fx_x (a := 91) (ln := 30) R (by decide +kernel) g_6) fun v_24 f_25 => ?_
    have f_26 := q_is_eq f_25 e_28
    refine go_icmp (c := .le) (o := 15) (t := 36) (P := ¬ (x_27 < x_19)) (by decide +kernel) (by decide +kernel) f_18 f_26 (Int.not_lt.symm) (fun hp_29 => ?_) (fun hp_29 => ?_)
    · have h := it_f hp_29 h
      refine go_iconst (n := 0) (z := 0) (by decide +kernel) (by decide) fun v_30 f_31 => ?_
      cases h
      exact go_iret (by decide +kernel) rfl (Or.inr ⟨rfl, by decide⟩) f_31 (hQ _ _ R (q_out_v (by decide) f_31))
    · have h := it_n hp_29 h
      refine go_aload_n (n := 0) (by decide +kernel) l0 f0 ?_
      refine go_iload_n (n := 1) (by decide +kernel) l1 f1 ?_
      obtain ⟨x_33, hc_32, h⟩ := bp_s h
      refine go_callV (x := 602) (mi := 272) (n := 1) (ci := 13) (as := [v1]) (rest := []) (by decide +kernel) (by decide +kernel) rfl rfl (q_sum8 _ (Nat.le_of_ble_eq_true rfl)) R f0 (fx_k (c := 13) R (by decide +kernel)) (om_X12_isHeld (Nat.le_trans (by decide) hd) R f0 f1 hc_32) (fun _ S_37 q_40 => ?_) (fun _ _ qq => kr_x qq)
      refine kr_z (by decide) q_40 fun v_35 f_36 R_38 E_39 => ?_
      refine go_if (c := .ne) (o := 7) (t := 36) (P := ¬ (x_33 = 0)) (by decide +kernel) (by decide +kernel) f_36 (Iff.rfl) (fun hp_41 => ?_) (fun hp_41 => ?_)
      · have h := it_f hp_41 h
        refine go_iconst (n := 0) (z := 0) (by decide +kernel) (by decide) fun v_42 f_43 => ?_
        cases h
        exact go_iret (by decide +kernel) rfl (Or.inr ⟨rfl, by decide⟩) f_43 (hQ _ _ R_38 (q_out_v (by decide) f_43))
      · have h := it_n hp_41 h
        refine go_iconst (n := 1) (z := 1) (by decide +kernel) (by decide) fun v_44 f_45 => ?_
        refine go_goto (o := 4) (t := 37) (by decide +kernel) (by decide +kernel) ?_
        cases h
        exact go_iret (by decide +kernel) rfl (Or.inr ⟨rfl, by decide⟩) f_45 (hQ _ _ R_38 (q_out_v (by decide) f_45))
noncomputable def fj_X12_firstOrder_24 (c : Int → Int → Option Int) (k49 : Int → Option Int) (y1 y2 y3 : Int) (m0 : MM) : Option Int := bp (fm_X12_kindAt y1 y3 m0) fun x_36 =>
if 7 < x_36 then
lx (w32 (y2 - 0)) fun x_51 =>
lx (w32 (y3 + 1)) fun x_65 =>
c x_51 x_65
else
lx (w32 (y2 - 1)) fun x_75 =>
lx (w32 (y3 + 1)) fun x_89 =>
c x_75 x_89
set_option maxHeartbeats 4000000 in
theorem oj_X12_firstOrder_24 {xs : List Int32} {d : Nat} {S : QS} {L : QL} {Q : QO → QS → Prop} {m0 : MM} {y1 y2 y3 : Int} {v0 : Value} {v1 : Value} {v2 : Value} {v3 : Value}  {rz : Int} {c : Int → Int → Option Int} {k49 : Int → Option Int} 
  (hd : 2 ≤ d) (R : Rp S m0) (l0 : q_lo L 0 = some v0) (f0 : q_is 2 v0 68) (l1 : q_lo L 1 = some v1) (f1 : q_is 0 v1 y1) (l2 : q_lo L 2 = some v2) (f2 : q_is 0 v2 y2) (l3 : q_lo L 3 = some v3) (f3 : q_is 0 v3 y3)
  (hc : ∀ {z2 : Int} {z3 : Int} {Sq : QS} {Lq : QL} {u0 : Value} {u1 : Value} {u2 : Value} {u3 : Value}, c z2 z3 = some rz → Rp Sq m0 → q_lo Lq 0 = some u0 → q_is 2 u0 68 → q_lo Lq 1 = some u1 → q_is 0 u1 y1 → q_lo Lq 2 = some u2 → q_is 0 u2 z2 → q_lo Lq 3 = some u3 → q_is 0 u3 z3 → Go xs d qM_X12_firstOrder 9 Lq [] Sq Q)
  (hk49 : ∀ {z3 : Int} {Sq : QS} {Lq : QL} {u0 : Value} {u1 : Value} {u3 : Value}, k49 z3 = some rz → Rp Sq m0 → q_lo Lq 0 = some u0 → q_is 2 u0 68 → q_lo Lq 1 = some u1 → q_is 0 u1 y1 → q_lo Lq 3 = some u3 → q_is 0 u3 z3 → Go xs d qM_X12_firstOrder 49 Lq [] Sq Q)
  (hQ : ∀ o S1, Rp S1 m0 → q_out 0 o rz → Q o S1)
  (h : fj_X12_firstOrder_24 c k49 y1 y2 y3 m0 = some rz) : Go xs d qM_X12_firstOrder 24 L [] S Q := by
  unfold fj_X12_firstOrder_24 at h
  refine go_iload_n (n := 2) (by decide +kernel) l2 f2 ?_
  refine go_aload_n (n := 0) (by decide +kernel) l0 f0 ?_
  refine go_iload_n (n := 1) (by decide +kernel) l1 f1 ?_
  refine go_iload_n (n := 3) (by decide +kernel) l3 f3 ?_
  obtain ⟨x_36, hc_35, h⟩ := bp_s h
  refine go_callV (x := 341) (mi := 204) (n := 2) (ci := 13) (as := [v1, v3]) (rest := [v2]) (by decide +kernel) (by decide +kernel) rfl rfl (q_sum8 _ (Nat.le_of_ble_eq_true rfl)) R f0 (fx_k (c := 13) R (by decide +kernel)) (om_X12_kindAt (Nat.le_trans (by decide) hd) R f0 f1 f3 hc_35) (fun _ S_40 q_43 => ?_) (fun _ _ qq => kr_x qq)
  refine kr_z (by decide) q_43 fun v_38 f_39 R_41 E_42 => ?_
  refine go_bipush (n := 7) (z := 7) (by decide +kernel) (by decide) fun v_44 f_45 => ?_
  refine go_icmp (c := .gt) (o := 7) (t := 40) (P := 7 < x_36) (by decide +kernel) (by decide +kernel) f_39 f_45 (Iff.rfl) (fun hp_46 => ?_) (fun hp_46 => ?_)
  · have h := it_t hp_46 h
    refine go_iconst (n := 0) (z := 0) (by decide +kernel) (by decide) fun v_47 f_48 => ?_
    refine go_isub (by decide +kernel) f2 f_48 fun v_49 f_50 => ?_
    obtain ⟨x_51, e_52, h⟩ := lx_s h
    have f_53 := q_is_eq f_50 e_52
    refine go_istore_n (n := 2) (by decide +kernel) (by decide +kernel) f_53 fun L_54 l_55 kp_56 => ?_
    have l_57 := kp_56 0 _ l0 (by decide) (Or.inl (by decide))
    have l_58 := kp_56 1 _ l1 (by decide) (Or.inr (q_is_cat f1 (Or.inl rfl)))
    have l_59 := kp_56 3 _ l3 (by decide) (Or.inl (by decide))
    refine go_iinc (n := 3) (c := 1) (c' := 1) (by decide +kernel) (by decide +kernel) l_59 f3 (by decide) fun L_60 v_61 f_62 l_63 kp_64 => ?_
    obtain ⟨x_65, e_66, h⟩ := lx_s h
    have f_67 := q_is_eq f_62 e_66
    have l_68 := kp_64 0 _ l_57 (by decide) (Or.inl (by decide))
    have l_69 := kp_64 1 _ l_58 (by decide) (Or.inl (by decide))
    have l_70 := kp_64 2 _ l_55 (by decide) (Or.inr (q_is_cat f_53 (Or.inl rfl)))
    refine go_goto (o := (-37)) (t := 9) (by decide +kernel) (by decide +kernel) ?_
    exact hc h R_41 l_68 f0 l_69 f1 l_70 f_53 l_63 f_67
  · have h := it_f hp_46 h
    refine go_iconst (n := 1) (z := 1) (by decide +kernel) (by decide) fun v_71 f_72 => ?_
    refine go_goto (o := 4) (t := 41) (by decide +kernel) (by decide +kernel) ?_
    refine go_isub (by decide +kernel) f2 f_72 fun v_73 f_74 => ?_
    obtain ⟨x_75, e_76, h⟩ := lx_s h
    have f_77 := q_is_eq f_74 e_76
    refine go_istore_n (n := 2) (by decide +kernel) (by decide +kernel) f_77 fun L_78 l_79 kp_80 => ?_
    have l_81 := kp_80 0 _ l0 (by decide) (Or.inl (by decide))
    have l_82 := kp_80 1 _ l1 (by decide) (Or.inr (q_is_cat f1 (Or.inl rfl)))
    have l_83 := kp_80 3 _ l3 (by decide) (Or.inl (by decide))
    refine go_iinc (n := 3) (c := 1) (c' := 1) (by decide +kernel) (by decide +kernel) l_83 f3 (by decide) fun L_84 v_85 f_86 l_87 kp_88 => ?_
    obtain ⟨x_89, e_90, h⟩ := lx_s h
    have f_91 := q_is_eq f_86 e_90
    have l_92 := kp_88 0 _ l_81 (by decide) (Or.inl (by decide))
    have l_93 := kp_88 1 _ l_82 (by decide) (Or.inl (by decide))
    have l_94 := kp_88 2 _ l_79 (by decide) (Or.inr (q_is_cat f_77 (Or.inl rfl)))
    refine go_goto (o := (-37)) (t := 9) (by decide +kernel) (by decide +kernel) ?_
    exact hc h R_41 l_92 f0 l_93 f1 l_94 f_77 l_87 f_91
noncomputable def fl_X12_firstOrder_9 (y1 : Int) (m0 : MM) (k49 : Int → Option Int) : Nat → Int → Int → Option Int
  | 0, _, _ => none
  | n + 1, y2, y3 => bp (fm_X12_kindAt y1 y3 m0) fun x_24 =>
if 7 < x_24 then
fj_X12_firstOrder_24 (fl_X12_firstOrder_9 y1 m0 k49 n) k49 y1 y2 y3 m0
else
if 0 < y2 then
fj_X12_firstOrder_24 (fl_X12_firstOrder_9 y1 m0 k49 n) k49 y1 y2 y3 m0
else
k49 y3
set_option maxHeartbeats 4000000 in
theorem ol_X12_firstOrder_9 {xs : List Int32} {d : Nat} {Q : QO → QS → Prop} {m0 : MM} {y1 : Int} {k49 : Int → Option Int} {rz : Int}
  (hd : 2 ≤ d)
  (hk49 : ∀ {z3 : Int} {Sq : QS} {Lq : QL} {u0 : Value} {u1 : Value} {u3 : Value}, k49 z3 = some rz → Rp Sq m0 → q_lo Lq 0 = some u0 → q_is 2 u0 68 → q_lo Lq 1 = some u1 → q_is 0 u1 y1 → q_lo Lq 3 = some u3 → q_is 0 u3 z3 → Go xs d qM_X12_firstOrder 49 Lq [] Sq Q)
  (hQ : ∀ o S1, Rp S1 m0 → q_out 0 o rz → Q o S1) :
  ∀ (n : Nat) {S : QS} {L : QL} {y2 y3 : Int} {v0 : Value} {v1 : Value} {v2 : Value} {v3 : Value} , fl_X12_firstOrder_9 y1 m0 k49 n y2 y3 = some rz → Rp S m0 → q_lo L 0 = some v0 → q_is 2 v0 68 → q_lo L 1 = some v1 → q_is 0 v1 y1 → q_lo L 2 = some v2 → q_is 0 v2 y2 → q_lo L 3 = some v3 → q_is 0 v3 y3 → Go xs d qM_X12_firstOrder 9 L [] S Q := by
  intro n
  induction n with
  | zero => intro S L y2 y3 v0 v1 v2 v3; intro h R l0 f0 l1 f1 l2 f2 l3 f3; cases h
  | succ n ih0 =>
    intro S L y2 y3 v0 v1 v2 v3; intro h R l0 f0 l1 f1 l2 f2 l3 f3
    have ih : ∀ {z2 : Int} {z3 : Int} {Sq : QS} {Lq : QL} {u0 : Value} {u1 : Value} {u2 : Value} {u3 : Value}, fl_X12_firstOrder_9 y1 m0 k49 n z2 z3 = some rz → Rp Sq m0 → q_lo Lq 0 = some u0 → q_is 2 u0 68 → q_lo Lq 1 = some u1 → q_is 0 u1 y1 → q_lo Lq 2 = some u2 → q_is 0 u2 z2 → q_lo Lq 3 = some u3 → q_is 0 u3 z3 → Go xs d qM_X12_firstOrder 9 Lq [] Sq Q := by intros; exact ih0 ‹_› ‹_› ‹_› ‹_› ‹_› ‹_› ‹_› ‹_› ‹_› ‹_›
    unfold fl_X12_firstOrder_9 at h
    refine go_aload_n (n := 0) (by decide +kernel) l0 f0 ?_
    refine go_iload_n (n := 1) (by decide +kernel) l1 f1 ?_
    refine go_iload_n (n := 3) (by decide +kernel) l3 f3 ?_
    obtain ⟨x_24, hc_23, h⟩ := bp_s h
    refine go_callV (x := 341) (mi := 204) (n := 2) (ci := 13) (as := [v1, v3]) (rest := []) (by decide +kernel) (by decide +kernel) rfl rfl (q_sum8 _ (Nat.le_of_ble_eq_true rfl)) R f0 (fx_k (c := 13) R (by decide +kernel)) (om_X12_kindAt (Nat.le_trans (by decide) hd) R f0 f1 f3 hc_23) (fun _ S_28 q_31 => ?_) (fun _ _ qq => kr_x qq)
    refine kr_z (by decide) q_31 fun v_26 f_27 R_29 E_30 => ?_
    refine go_bipush (n := 7) (z := 7) (by decide +kernel) (by decide) fun v_32 f_33 => ?_
    refine go_icmp (c := .gt) (o := 7) (t := 24) (P := 7 < x_24) (by decide +kernel) (by decide +kernel) f_27 f_33 (Iff.rfl) (fun hp_34 => ?_) (fun hp_34 => ?_)
    · have h := it_t hp_34 h
      exact oj_X12_firstOrder_24 hd R_29 l0 f0 l1 f1 l2 f2 l3 f3 ih hk49 hQ h
    · have h := it_f hp_34 h
      refine go_iload_n (n := 2) (by decide +kernel) l2 f2 ?_
      refine go_if (c := .le) (o := 28) (t := 49) (P := ¬ (0 < y2)) (by decide +kernel) (by decide +kernel) f2 (Int.not_lt.symm) (fun hp_95 => ?_) (fun hp_95 => ?_)
      · have h := it_f hp_95 h
        exact hk49 h R_29 l0 f0 l1 f1 l3 f3
      · have h := it_n hp_95 h
        exact oj_X12_firstOrder_24 hd R_29 l0 f0 l1 f1 l2 f2 l3 f3 ih hk49 hQ h
noncomputable def fm_X12_firstOrder (p1 : Int) (m0 : MM) : Option Int := gd (0 ≤ p1 ∧ p1 < 30) <| lx (m0 91 p1) fun x_8 =>
fl_X12_firstOrder_9 p1 m0 (fun x_96 =>
bp (fm_X12_whenAt p1 x_96 m0) fun x_110 =>
some (w32 (Int.tdiv x_110 1000))) BIG x_8 0
set_option maxHeartbeats 4000000 in
theorem om_X12_firstOrder {xs : List Int32} {d : Nat} {S : QS} {m0 : MM} {p1 : Int} {v0 : Value} {v1 : Value} {rz : Int}
  (hd : 3 ≤ d) (R : Rp S m0) (f0 : q_is 2 v0 68) (f1 : q_is 0 v1 p1)
  (h : fm_X12_firstOrder p1 m0 = some rz) : Mt xs d 274 [v0, v1] S (Cr 0 m0 m0 rz) := by
  obtain ⟨d, rfl⟩ : ∃ e, d = e + 1 := ⟨d - 1, by omega⟩
  have hd : 2 ≤ d := Nat.le_of_succ_le_succ hd
  refine Mt.of (M := qM_X12_firstOrder) rfl (by rw [sl_1 (q_is_cat f0 (Or.inr rfl)), sl_1 (q_is_cat f1 (Or.inl rfl)), sl_0]; decide) ?_
  rw [la_1 (q_is_cat f0 (Or.inr rfl)), la_1 (q_is_cat f1 (Or.inl rfl)), la_0]
  obtain ⟨L, hL⟩ : ∃ L : QL, L = [(0, v0), (0 + 1, v1)] := ⟨_, rfl⟩
  rw [← hL]
  have l0 : q_lo L 0 = some v0 := by rw [hL]; rfl
  have l1 : q_lo L 1 = some v1 := by rw [hL]; rfl
  have hQ : ∀ o S1, Rp S1 m0 → q_out 0 o rz → (Cr 0 m0 m0 rz) o S1 := fun o S1 a b => ⟨a, Ext.rf _, b⟩
  unfold fm_X12_firstOrder at h
  refine go_aload_n (n := 0) (by decide +kernel) l0 f0 ?_
  refine go_getf (x := 76) (ci := 13) (kf := 24) (fin := 1) (t := 2) (by decide +kernel) (by decide +kernel) (by decide +kernel) R f0 (fx_k (c := 13) R (by decide +kernel)) fun v_1 f_2 => ?_
  have f_3 := q_is_eq (b := 91) f_2 (fx_v R (by decide +kernel)).symm
  refine go_iload_n (n := 1) (by decide +kernel) l1 f1 ?_
  obtain ⟨g_6, h⟩ := gd_s h
  obtain ⟨x_8, e_9, h⟩ := lx_s h
  refine go_iald (kd := 100) (by decide +kernel) rfl R f_3 f1 (fx_k (c := 100) R (by decide +kernel)) (fx_x (a := 91) (ln := 30) R (by decide +kernel) g_6) fun v_4 f_5 => ?_
  have f_7 := q_is_eq f_5 e_9
  refine go_istore_n (n := 2) (by decide +kernel) (by decide +kernel) f_7 fun L_10 l_11 kp_12 => ?_
  have l_13 := kp_12 0 _ l0 (by decide) (Or.inl (by decide))
  have l_14 := kp_12 1 _ l1 (by decide) (Or.inr (q_is_cat f1 (Or.inl rfl)))
  refine go_iconst (n := 0) (z := 0) (by decide +kernel) (by decide) fun v_15 f_16 => ?_
  refine go_istore_n (n := 3) (by decide +kernel) (by decide +kernel) f_16 fun L_17 l_18 kp_19 => ?_
  have l_20 := kp_19 0 _ l_13 (by decide) (Or.inl (by decide))
  have l_21 := kp_19 1 _ l_14 (by decide) (Or.inl (by decide))
  have l_22 := kp_19 2 _ l_11 (by decide) (Or.inr (q_is_cat f_7 (Or.inl rfl)))
  refine ol_X12_firstOrder_9 hd  ?_ hQ BIG h R l_20 f0 l_21 f1 l_22 f_7 l_18 f_16
  intro x_96 S_106 L_107 v_97 v_98 v_99
  intro h R_108 l_100 f_103 l_101 f_104 l_102 f_105
  refine go_aload_n (n := 0) (by decide +kernel) l_100 f_103 ?_
  refine go_iload_n (n := 1) (by decide +kernel) l_101 f_104 ?_
  refine go_iload_n (n := 3) (by decide +kernel) l_102 f_105 ?_
  obtain ⟨x_110, hc_109, h⟩ := bp_s h
  refine go_callV (x := 521) (mi := 207) (n := 2) (ci := 13) (as := [v_98, v_99]) (rest := []) (by decide +kernel) (by decide +kernel) rfl rfl (q_sum8 _ (Nat.le_of_ble_eq_true rfl)) R_108 f_103 (fx_k (c := 13) R_108 (by decide +kernel)) (om_X12_whenAt (Nat.le_trans (by decide) hd) R_108 f_103 f_104 f_105 hc_109) (fun _ S_114 q_117 => ?_) (fun _ _ qq => kr_x qq)
  refine kr_z (by decide) q_117 fun v_112 f_113 R_115 E_116 => ?_
  refine go_sipush (n := 1000) (z := 1000) (by decide +kernel) (by decide) fun v_118 f_119 => ?_
  refine go_idiv (by decide +kernel) f_113 f_119 (by decide) fun v_120 f_121 => ?_
  cases h
  exact go_iret (by decide +kernel) rfl (Or.inl rfl) f_121 (hQ _ _ R_115 (q_out_v (by decide) f_121))
end DF37
