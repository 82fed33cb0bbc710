/-! Methods as functions (written by wip/whole/dec.py), 39: X12_isStale, X12_hasState, X12_goesOnAsNew, X12_carriesOut. -/
section DF39
noncomputable def fm_X12_isStale (p1 : Int) (m0 : MM) : Option Int := gd (0 ≤ p1 ∧ p1 < 4096) <| lx (m0 113 p1) fun x_8 =>
lx (m0 119 p1) fun x_21 =>
if x_21 = 0 then
gd (0 ≤ x_8 ∧ x_8 < 30) <| lx (m0 83 x_8) fun x_33 =>
if x_33 = 0 then
lx (m0 116 p1) fun x_44 =>
lx (m0 90 x_8) fun x_52 =>
if x_44 = x_52 then
lx (m0 117 p1) fun x_63 =>
lx (m0 82 x_8) fun x_71 =>
if x_63 = x_71 then
lx (m0 118 p1) fun x_82 =>
lx (m0 93 x_8) fun x_90 =>
if x_82 = x_90 then
some 0
else
some 1
else
some 1
else
some 1
else
some 1
else
some 1
set_option maxHeartbeats 4000000 in
theorem om_X12_isStale {xs : List Int32} {d : Nat} {S : QS} {m0 : MM} {p1 : Int} {v0 : Value} {v1 : Value} {rz : Int}
  (hd : 1 ≤ d) (R : Rp S m0) (f0 : q_is 2 v0 68) (f1 : q_is 0 v1 p1)
  (h : fm_X12_isStale p1 m0 = some rz) : Mt xs d 277 [v0, v1] S (Cr 0 m0 m0 rz) := by
  obtain ⟨d, rfl⟩ : ∃ e, d = e + 1 := ⟨d - 1, by omega⟩
  have hd : 0 ≤ d := Nat.le_of_succ_le_succ hd
  refine Mt.of (M := qM_X12_isStale) rfl (by rw [sl_1 (q_is_cat f0 (Or.inr rfl)), sl_1 (q_is_cat f1 (Or.inl rfl)), sl_0]; decide) ?_
  rw [la_1 (q_is_cat f0 (Or.inr rfl)), la_1 (q_is_cat f1 (Or.inl rfl)), la_0]
  obtain ⟨L, hL⟩ : ∃ L : QL, L = [(0, v0), (0 + 1, v1)] := ⟨_, rfl⟩
  rw [← hL]
  have l0 : q_lo L 0 = some v0 := by rw [hL]; rfl
  have l1 : q_lo L 1 = some v1 := by rw [hL]; rfl
  have hQ : ∀ o S1, Rp S1 m0 → q_out 0 o rz → (Cr 0 m0 m0 rz) o S1 := fun o S1 a b => ⟨a, Ext.rf _, b⟩
  unfold fm_X12_isStale at h
  refine go_aload_n (n := 0) (by decide +kernel) l0 f0 ?_
  refine go_getf (x := 152) (ci := 13) (kf := 53) (fin := 1) (t := 2) (by decide +kernel) (by decide +kernel) (by decide +kernel) R f0 (fx_k (c := 13) R (by decide +kernel)) fun v_1 f_2 => ?_
  have f_3 := q_is_eq (b := 113) f_2 (fx_v R (by decide +kernel)).symm
  refine go_iload_n (n := 1) (by decide +kernel) l1 f1 ?_
  obtain ⟨g_6, h⟩ := gd_s h
  obtain ⟨x_8, e_9, h⟩ := lx_s h
  refine go_iald (kd := 100) (by decide +kernel) rfl R f_3 f1 (fx_k (c := 100) R (by decide +kernel)) (fx_x (a := 113) (ln := 4096) R (by decide +kernel) g_6) fun v_4 f_5 => ?_
  have f_7 := q_is_eq f_5 e_9
  refine go_istore_n (n := 2) (by decide +kernel) (by decide +kernel) f_7 fun L_10 l_11 kp_12 => ?_
  have l_13 := kp_12 0 _ l0 (by decide) (Or.inl (by decide))
  have l_14 := kp_12 1 _ l1 (by decide) (Or.inr (q_is_cat f1 (Or.inl rfl)))
  refine go_aload_n (n := 0) (by decide +kernel) l_13 f0 ?_
  refine go_getf (x := 170) (ci := 13) (kf := 59) (fin := 1) (t := 2) (by decide +kernel) (by decide +kernel) (by decide +kernel) R f0 (fx_k (c := 13) R (by decide +kernel)) fun v_15 f_16 => ?_
  have f_17 := q_is_eq (b := 119) f_16 (fx_v R (by decide +kernel)).symm
  refine go_iload_n (n := 1) (by decide +kernel) l_14 f1 ?_
  obtain ⟨x_21, e_22, h⟩ := lx_s h
  refine go_bald (kd := 102) (by decide +kernel) rfl R f_17 f1 (fx_k (c := 102) R (by decide +kernel)) (fx_x (a := 119) (ln := 4096) R (by decide +kernel) g_6) fun v_18 f_19 => ?_
  have f_20 := q_is_eq f_19 e_22
  refine go_if (c := .ne) (o := 57) (t := 70) (P := ¬ (x_21 = 0)) (by decide +kernel) (by decide +kernel) f_20 (Iff.rfl) (fun hp_23 => ?_) (fun hp_23 => ?_)
  · have h := it_f hp_23 h
    refine go_iconst (n := 1) (z := 1) (by decide +kernel) (by decide) fun v_24 f_25 => ?_
    refine go_goto (o := 4) (t := 75) (by decide +kernel) (by decide +kernel) ?_
    cases h
    exact go_iret (by decide +kernel) rfl (Or.inr ⟨rfl, by decide⟩) f_25 (hQ _ _ R (q_out_v (by decide) f_25))
  · have h := it_n hp_23 h
    refine go_aload_n (n := 0) (by decide +kernel) l_13 f0 ?_
    refine go_getf (x := 52) (ci := 13) (kf := 16) (fin := 1) (t := 2) (by decide +kernel) (by decide +kernel) (by decide +kernel) R f0 (fx_k (c := 13) R (by decide +kernel)) fun v_26 f_27 => ?_
    have f_28 := q_is_eq (b := 83) f_27 (fx_v R (by decide +kernel)).symm
    refine go_iload_n (n := 2) (by decide +kernel) l_11 f_7 ?_
    obtain ⟨g_31, h⟩ := gd_s h
    obtain ⟨x_33, e_34, h⟩ := lx_s h
    refine go_iald (kd := 100) (by decide +kernel) rfl R f_28 f_7 (fx_k (c := 100) R (by decide +kernel)) (fx_x (a := 83) (ln := 30) R (by decide +kernel) g_31) fun v_29 f_30 => ?_
    have f_32 := q_is_eq f_30 e_34
    refine go_if (c := .ne) (o := 48) (t := 70) (P := ¬ (x_33 = 0)) (by decide +kernel) (by decide +kernel) f_32 (Iff.rfl) (fun hp_35 => ?_) (fun hp_35 => ?_)
    · have h := it_f hp_35 h
      refine go_iconst (n := 1) (z := 1) (by decide +kernel) (by decide) fun v_36 f_37 => ?_
      refine go_goto (o := 4) (t := 75) (by decide +kernel) (by decide +kernel) ?_
      cases h
      exact go_iret (by decide +kernel) rfl (Or.inr ⟨rfl, by decide⟩) f_37 (hQ _ _ R (q_out_v (by decide) f_37))
    · have h := it_n hp_35 h
      refine go_aload_n (n := 0) (by decide +kernel) l_13 f0 ?_
      refine go_getf (x := 161) (ci := 13) (kf := 56) (fin := 1) (t := 2) (by decide +kernel) (by decide +kernel) (by decide +kernel) R f0 (fx_k (c := 13) R (by decide +kernel)) fun v_38 f_39 => ?_
      have f_40 := q_is_eq (b := 116) f_39 (fx_v R (by decide +kernel)).symm
      refine go_iload_n (n := 1) (by decide +kernel) l_14 f1 ?_
      obtain ⟨x_44, e_45, h⟩ := lx_s h
      refine go_iald (kd := 100) (by decide +kernel) rfl R f_40 f1 (fx_k (c := 100) R (by decide +kernel)) (fx_x (a := 116) (ln := 4096) R (by decide +kernel) g_6) fun v_41 f_42 => ?_
      have f_43 := q_is_eq f_42 e_45
      refine go_aload_n (n := 0) (by decide +kernel) l_13 f0 ?_
      refine go_getf (x := 73) (ci := 13) (kf := 23) (fin := 1) (t := 2) (by decide +kernel) (by decide +kernel) (by decide +kernel) R f0 (fx_k (c := 13) R (by decide +kernel)) fun v_46 f_47 => ?_
      have f_48 := q_is_eq (b := 90) f_47 (fx_v R (by decide +kernel)).symm
      refine go_iload_n (n := 2) (by decide +kernel) l_11 f_7 ?_
      obtain ⟨x_52, e_53, h⟩ := lx_s h
      refine go_iald (kd := 100) (by decide +kernel) rfl R f_48 f_7 (fx_k (c := 100) R (by decide +kernel)) (fx_x (a := 90) (ln := 30) R (by decide +kernel) g_31) fun v_49 f_50 => ?_
      have f_51 := q_is_eq f_50 e_53
      refine go_icmp (c := .ne) (o := 33) (t := 70) (P := ¬ (x_44 = x_52)) (by decide +kernel) (by decide +kernel) f_43 f_51 (Iff.rfl) (fun hp_54 => ?_) (fun hp_54 => ?_)
      · have h := it_f hp_54 h
        refine go_iconst (n := 1) (z := 1) (by decide +kernel) (by decide) fun v_55 f_56 => ?_
        refine go_goto (o := 4) (t := 75) (by decide +kernel) (by decide +kernel) ?_
        cases h
        exact go_iret (by decide +kernel) rfl (Or.inr ⟨rfl, by decide⟩) f_56 (hQ _ _ R (q_out_v (by decide) f_56))
      · have h := it_n hp_54 h
        refine go_aload_n (n := 0) (by decide +kernel) l_13 f0 ?_
        refine go_getf (x := 164) (ci := 13) (kf := 57) (fin := 1) (t := 2) (by decide +kernel) (by decide +kernel) (by decide +kernel) R f0 (fx_k (c := 13) R (by decide +kernel)) fun v_57 f_58 => ?_
        have f_59 := q_is_eq (b := 117) f_58 (fx_v R (by decide +kernel)).symm
        refine go_iload_n (n := 1) (by decide +kernel) l_14 f1 ?_
        obtain ⟨x_63, e_64, h⟩ := lx_s h
        refine go_iald (kd := 100) (by decide +kernel) rfl R f_59 f1 (fx_k (c := 100) R (by decide +kernel)) (fx_x (a := 117) (ln := 4096) R (by decide +kernel) g_6) fun v_60 f_61 => ?_
        have f_62 := q_is_eq f_61 e_64
        refine go_aload_n (n := 0) (by decide +kernel) l_13 f0 ?_
        refine go_getf (x := 49) (ci := 13) (kf := 15) (fin := 1) (t := 2) (by decide +kernel) (by decide +kernel) (by decide +kernel) R f0 (fx_k (c := 13) R (by decide +kernel)) fun v_65 f_66 => ?_
        have f_67 := q_is_eq (b := 82) f_66 (fx_v R (by decide +kernel)).symm
        refine go_iload_n (n := 2) (by decide +kernel) l_11 f_7 ?_
        obtain ⟨x_71, e_72, h⟩ := lx_s h
        refine go_iald (kd := 100) (by decide +kernel) rfl R f_67 f_7 (fx_k (c := 100) R (by decide +kernel)) (fx_x (a := 82) (ln := 30) R (by decide +kernel) g_31) fun v_68 f_69 => ?_
        have f_70 := q_is_eq f_69 e_72
        refine go_icmp (c := .ne) (o := 18) (t := 70) (P := ¬ (x_63 = x_71)) (by decide +kernel) (by decide +kernel) f_62 f_70 (Iff.rfl) (fun hp_73 => ?_) (fun hp_73 => ?_)
        · have h := it_f hp_73 h
          refine go_iconst (n := 1) (z := 1) (by decide +kernel) (by decide) fun v_74 f_75 => ?_
          refine go_goto (o := 4) (t := 75) (by decide +kernel) (by decide +kernel) ?_
          cases h
          exact go_iret (by decide +kernel) rfl (Or.inr ⟨rfl, by decide⟩) f_75 (hQ _ _ R (q_out_v (by decide) f_75))
        · have h := it_n hp_73 h
          refine go_aload_n (n := 0) (by decide +kernel) l_13 f0 ?_
          refine go_getf (x := 167) (ci := 13) (kf := 58) (fin := 1) (t := 2) (by decide +kernel) (by decide +kernel) (by decide +kernel) R f0 (fx_k (c := 13) R (by decide +kernel)) fun v_76 f_77 => ?_
          have f_78 := q_is_eq (b := 118) f_77 (fx_v R (by decide +kernel)).symm
          refine go_iload_n (n := 1) (by decide +kernel) l_14 f1 ?_
          obtain ⟨x_82, e_83, h⟩ := lx_s h
          refine go_iald (kd := 100) (by decide +kernel) rfl R f_78 f1 (fx_k (c := 100) R (by decide +kernel)) (fx_x (a := 118) (ln := 4096) R (by decide +kernel) g_6) fun v_79 f_80 => ?_
          have f_81 := q_is_eq f_80 e_83
          refine go_aload_n (n := 0) (by decide +kernel) l_13 f0 ?_
          refine go_getf (x := 82) (ci := 13) (kf := 26) (fin := 1) (t := 2) (by decide +kernel) (by decide +kernel) (by decide +kernel) R f0 (fx_k (c := 13) R (by decide +kernel)) fun v_84 f_85 => ?_
          have f_86 := q_is_eq (b := 93) f_85 (fx_v R (by decide +kernel)).symm
          refine go_iload_n (n := 2) (by decide +kernel) l_11 f_7 ?_
          obtain ⟨x_90, e_91, h⟩ := lx_s h
          refine go_iald (kd := 100) (by decide +kernel) rfl R f_86 f_7 (fx_k (c := 100) R (by decide +kernel)) (fx_x (a := 93) (ln := 30) R (by decide +kernel) g_31) fun v_87 f_88 => ?_
          have f_89 := q_is_eq f_88 e_91
          refine go_icmp (c := .eq) (o := 7) (t := 74) (P := x_82 = x_90) (by decide +kernel) (by decide +kernel) f_81 f_89 (Iff.rfl) (fun hp_92 => ?_) (fun hp_92 => ?_)
          · have h := it_t hp_92 h
            refine go_iconst (n := 0) (z := 0) (by decide +kernel) (by decide) fun v_93 f_94 => ?_
            cases h
            exact go_iret (by decide +kernel) rfl (Or.inr ⟨rfl, by decide⟩) f_94 (hQ _ _ R (q_out_v (by decide) f_94))
          · have h := it_f hp_92 h
            refine go_iconst (n := 1) (z := 1) (by decide +kernel) (by decide) fun v_95 f_96 => ?_
            refine go_goto (o := 4) (t := 75) (by decide +kernel) (by decide +kernel) ?_
            cases h
            exact go_iret (by decide +kernel) rfl (Or.inr ⟨rfl, by decide⟩) f_96 (hQ _ _ R (q_out_v (by decide) f_96))
noncomputable def fm_X12_hasState (p1 p2 : Int) (m0 : MM) : Option Int := lx (w32 ((w32 (30 * p1)) + p2)) fun x_7 =>
gd (0 ≤ x_7 ∧ x_7 < 90) <| lx (m0 123 x_7) fun x_22 =>
if 0 < x_22 then
gd (0 ≤ p2 ∧ p2 < 30) <| lx (m0 90 p2) fun x_40 =>
if x_22 = x_40 then
lx (m0 124 x_7) fun x_51 =>
lx (m0 82 p2) fun x_59 =>
if x_51 = x_59 then
lx (m0 125 x_7) fun x_70 =>
lx (m0 93 p2) fun x_78 =>
if x_70 = x_78 then
some 1
else
some 0
else
some 0
else
some 0
else
some 0
set_option maxHeartbeats 4000000 in
theorem om_X12_hasState {xs : List Int32} {d : Nat} {S : QS} {m0 : MM} {p1 p2 : Int} {v0 : Value} {v1 : Value} {v2 : Value} {rz : Int}
  (hd : 1 ≤ d) (R : Rp S m0) (f0 : q_is 2 v0 68) (f1 : q_is 0 v1 p1) (f2 : q_is 0 v2 p2)
  (h : fm_X12_hasState p1 p2 m0 = some rz) : Mt xs d 278 [v0, v1, v2] S (Cr 0 m0 m0 rz) := by
  obtain ⟨d, rfl⟩ : ∃ e, d = e + 1 := ⟨d - 1, by omega⟩
  have hd : 0 ≤ d := Nat.le_of_succ_le_succ hd
  refine Mt.of (M := qM_X12_hasState) rfl (by rw [sl_1 (q_is_cat f0 (Or.inr rfl)), sl_1 (q_is_cat f1 (Or.inl rfl)), sl_1 (q_is_cat f2 (Or.inl rfl)), sl_0]; decide) ?_
  rw [la_1 (q_is_cat f0 (Or.inr rfl)), la_1 (q_is_cat f1 (Or.inl rfl)), la_1 (q_is_cat f2 (Or.inl rfl)), la_0]
  obtain ⟨L, hL⟩ : ∃ L : QL, L = [(0, v0), (0 + 1, v1), (0 + 1 + 1, v2)] := ⟨_, rfl⟩
  rw [← hL]
  have l0 : q_lo L 0 = some v0 := by rw [hL]; rfl
  have l1 : q_lo L 1 = some v1 := by rw [hL]; rfl
  have l2 : q_lo L 2 = some v2 := by rw [hL]; rfl
  have hQ : ∀ o S1, Rp S1 m0 → q_out 0 o rz → (Cr 0 m0 m0 rz) o S1 := fun o S1 a b => ⟨a, Ext.rf _, b⟩
  unfold fm_X12_hasState at h
  refine go_bipush (n := 30) (z := 30) (by decide +kernel) (by decide) fun v_1 f_2 => ?_
  refine go_iload_n (n := 1) (by decide +kernel) l1 f1 ?_
  refine go_imul (by decide +kernel) f_2 f1 fun v_3 f_4 => ?_
  refine go_iload_n (n := 2) (by decide +kernel) l2 f2 ?_
  refine go_iadd (by decide +kernel) f_4 f2 fun v_5 f_6 => ?_
  obtain ⟨x_7, e_8, h⟩ := lx_s h
  have f_9 := q_is_eq f_6 e_8
  refine go_istore_n (n := 3) (by decide +kernel) (by decide +kernel) f_9 fun L_10 l_11 kp_12 => ?_
  have l_13 := kp_12 0 _ l0 (by decide) (Or.inl (by decide))
  have l_14 := kp_12 2 _ l2 (by decide) (Or.inr (q_is_cat f2 (Or.inl rfl)))
  refine go_aload_n (n := 0) (by decide +kernel) l_13 f0 ?_
  refine go_getf (x := 183) (ci := 13) (kf := 63) (fin := 1) (t := 2) (by decide +kernel) (by decide +kernel) (by decide +kernel) R f0 (fx_k (c := 13) R (by decide +kernel)) fun v_15 f_16 => ?_
  have f_17 := q_is_eq (b := 123) f_16 (fx_v R (by decide +kernel)).symm
  refine go_iload_n (n := 3) (by decide +kernel) l_11 f_9 ?_
  obtain ⟨g_20, h⟩ := gd_s h
  obtain ⟨x_22, e_23, h⟩ := lx_s h
  refine go_iald (kd := 100) (by decide +kernel) rfl R f_17 f_9 (fx_k (c := 100) R (by decide +kernel)) (fx_x (a := 123) (ln := 90) R (by decide +kernel) g_20) fun v_18 f_19 => ?_
  have f_21 := q_is_eq f_19 e_23
  refine go_if (c := .le) (o := 52) (t := 65) (P := ¬ (0 < x_22)) (by decide +kernel) (by decide +kernel) f_21 (Int.not_lt.symm) (fun hp_24 => ?_) (fun hp_24 => ?_)
  · have h := it_f hp_24 h
    refine go_iconst (n := 0) (z := 0) (by decide +kernel) (by decide) fun v_25 f_26 => ?_
    cases h
    exact go_iret (by decide +kernel) rfl (Or.inr ⟨rfl, by decide⟩) f_26 (hQ _ _ R (q_out_v (by decide) f_26))
  · have h := it_n hp_24 h
    refine go_aload_n (n := 0) (by decide +kernel) l_13 f0 ?_
    refine go_getf (x := 183) (ci := 13) (kf := 63) (fin := 1) (t := 2) (by decide +kernel) (by decide +kernel) (by decide +kernel) R f0 (fx_k (c := 13) R (by decide +kernel)) fun v_27 f_28 => ?_
    have f_29 := q_is_eq (b := 123) f_28 (fx_v R (by decide +kernel)).symm
    refine go_iload_n (n := 3) (by decide +kernel) l_11 f_9 ?_
    refine go_iald (kd := 100) (by decide +kernel) rfl R f_29 f_9 (fx_k (c := 100) R (by decide +kernel)) (fx_x (a := 123) (ln := 90) R (by decide +kernel) g_20) fun v_30 f_31 => ?_
    have f_32 := q_is_eq f_31 e_23
    refine go_aload_n (n := 0) (by decide +kernel) l_13 f0 ?_
    refine go_getf (x := 73) (ci := 13) (kf := 23) (fin := 1) (t := 2) (by decide +kernel) (by decide +kernel) (by decide +kernel) R f0 (fx_k (c := 13) R (by decide +kernel)) fun v_33 f_34 => ?_
    have f_35 := q_is_eq (b := 90) f_34 (fx_v R (by decide +kernel)).symm
    refine go_iload_n (n := 2) (by decide +kernel) l_14 f2 ?_
    obtain ⟨g_38, h⟩ := gd_s h
    obtain ⟨x_40, e_41, h⟩ := lx_s h
    refine go_iald (kd := 100) (by decide +kernel) rfl R f_35 f2 (fx_k (c := 100) R (by decide +kernel)) (fx_x (a := 90) (ln := 30) R (by decide +kernel) g_38) fun v_36 f_37 => ?_
    have f_39 := q_is_eq f_37 e_41
    refine go_icmp (c := .ne) (o := 37) (t := 65) (P := ¬ (x_22 = x_40)) (by decide +kernel) (by decide +kernel) f_32 f_39 (Iff.rfl) (fun hp_42 => ?_) (fun hp_42 => ?_)
    · have h := it_f hp_42 h
      refine go_iconst (n := 0) (z := 0) (by decide +kernel) (by decide) fun v_43 f_44 => ?_
      cases h
      exact go_iret (by decide +kernel) rfl (Or.inr ⟨rfl, by decide⟩) f_44 (hQ _ _ R (q_out_v (by decide) f_44))
    · have h := it_n hp_42 h
      refine go_aload_n (n := 0) (by decide +kernel) l_13 f0 ?_
      refine go_getf (x := 186) (ci := 13) (kf := 64) (fin := 1) (t := 2) (by decide +kernel) (by decide +kernel) (by decide +kernel) R f0 (fx_k (c := 13) R (by decide +kernel)) fun v_45 f_46 => ?_
      have f_47 := q_is_eq (b := 124) f_46 (fx_v R (by decide +kernel)).symm
      refine go_iload_n (n := 3) (by decide +kernel) l_11 f_9 ?_
      obtain ⟨x_51, e_52, h⟩ := lx_s h
      refine go_iald (kd := 100) (by decide +kernel) rfl R f_47 f_9 (fx_k (c := 100) R (by decide +kernel)) (fx_x (a := 124) (ln := 90) R (by decide +kernel) g_20) fun v_48 f_49 => ?_
      have f_50 := q_is_eq f_49 e_52
      refine go_aload_n (n := 0) (by decide +kernel) l_13 f0 ?_
      refine go_getf (x := 49) (ci := 13) (kf := 15) (fin := 1) (t := 2) (by decide +kernel) (by decide +kernel) (by decide +kernel) R f0 (fx_k (c := 13) R (by decide +kernel)) fun v_53 f_54 => ?_
      have f_55 := q_is_eq (b := 82) f_54 (fx_v R (by decide +kernel)).symm
      refine go_iload_n (n := 2) (by decide +kernel) l_14 f2 ?_
      obtain ⟨x_59, e_60, h⟩ := lx_s h
      refine go_iald (kd := 100) (by decide +kernel) rfl R f_55 f2 (fx_k (c := 100) R (by decide +kernel)) (fx_x (a := 82) (ln := 30) R (by decide +kernel) g_38) fun v_56 f_57 => ?_
      have f_58 := q_is_eq f_57 e_60
      refine go_icmp (c := .ne) (o := 22) (t := 65) (P := ¬ (x_51 = x_59)) (by decide +kernel) (by decide +kernel) f_50 f_58 (Iff.rfl) (fun hp_61 => ?_) (fun hp_61 => ?_)
      · have h := it_f hp_61 h
        refine go_iconst (n := 0) (z := 0) (by decide +kernel) (by decide) fun v_62 f_63 => ?_
        cases h
        exact go_iret (by decide +kernel) rfl (Or.inr ⟨rfl, by decide⟩) f_63 (hQ _ _ R (q_out_v (by decide) f_63))
      · have h := it_n hp_61 h
        refine go_aload_n (n := 0) (by decide +kernel) l_13 f0 ?_
        refine go_getf (x := 189) (ci := 13) (kf := 65) (fin := 1) (t := 2) (by decide +kernel) (by decide +kernel) (by decide +kernel) R f0 (fx_k (c := 13) R (by decide +kernel)) fun v_64 f_65 => ?_
        have f_66 := q_is_eq (b := 125) f_65 (fx_v R (by decide +kernel)).symm
        refine go_iload_n (n := 3) (by decide +kernel) l_11 f_9 ?_
        obtain ⟨x_70, e_71, h⟩ := lx_s h
        refine go_iald (kd := 100) (by decide +kernel) rfl R f_66 f_9 (fx_k (c := 100) R (by decide +kernel)) (fx_x (a := 125) (ln := 90) R (by decide +kernel) g_20) fun v_67 f_68 => ?_
        have f_69 := q_is_eq f_68 e_71
        refine go_aload_n (n := 0) (by decide +kernel) l_13 f0 ?_
        refine go_getf (x := 82) (ci := 13) (kf := 26) (fin := 1) (t := 2) (by decide +kernel) (by decide +kernel) (by decide +kernel) R f0 (fx_k (c := 13) R (by decide +kernel)) fun v_72 f_73 => ?_
        have f_74 := q_is_eq (b := 93) f_73 (fx_v R (by decide +kernel)).symm
        refine go_iload_n (n := 2) (by decide +kernel) l_14 f2 ?_
        obtain ⟨x_78, e_79, h⟩ := lx_s h
        refine go_iald (kd := 100) (by decide +kernel) rfl R f_74 f2 (fx_k (c := 100) R (by decide +kernel)) (fx_x (a := 93) (ln := 30) R (by decide +kernel) g_38) fun v_75 f_76 => ?_
        have f_77 := q_is_eq f_76 e_79
        refine go_icmp (c := .ne) (o := 7) (t := 65) (P := ¬ (x_70 = x_78)) (by decide +kernel) (by decide +kernel) f_69 f_77 (Iff.rfl) (fun hp_80 => ?_) (fun hp_80 => ?_)
        · have h := it_f hp_80 h
          refine go_iconst (n := 0) (z := 0) (by decide +kernel) (by decide) fun v_81 f_82 => ?_
          cases h
          exact go_iret (by decide +kernel) rfl (Or.inr ⟨rfl, by decide⟩) f_82 (hQ _ _ R (q_out_v (by decide) f_82))
        · have h := it_n hp_80 h
          refine go_iconst (n := 1) (z := 1) (by decide +kernel) (by decide) fun v_83 f_84 => ?_
          refine go_goto (o := 4) (t := 66) (by decide +kernel) (by decide +kernel) ?_
          cases h
          exact go_iret (by decide +kernel) rfl (Or.inr ⟨rfl, by decide⟩) f_84 (hQ _ _ R (q_out_v (by decide) f_84))
noncomputable def fl_X12_goesOnAsNew_92 (y1 y3 y4 : Int) (k133 : MM → Option (Int × MM)) : Nat → Int → MM → Option (Int × MM)
  | 0, _, _ => none
  | n + 1, y5, m => gd (0 ≤ y4 ∧ y4 < 4) <| lx (m 155 y4) fun x_124 =>
if y5 < x_124 then
gd (0 ≤ w32 ((w32 (2048 * y4)) + y5) ∧ w32 ((w32 (2048 * y4)) + y5) < 8192) <| lx (m 157 (w32 ((w32 (2048 * y4)) + y5))) fun x_142 =>
bd (fm_X12_puts y3 4 y4 x_142 m) fun x_145 m_146 =>
lx (w32 (y5 + 1)) fun x_161 =>
fl_X12_goesOnAsNew_92 y1 y3 y4 k133 n x_161 m_146
else
k133 m
set_option maxHeartbeats 4000000 in
theorem ol_X12_goesOnAsNew_92 {xs : List Int32} {d : Nat} {Q : QO → QS → Prop} {mb : MM} {y1 y3 y4 : Int} {k133 : MM → Option (Int × MM)} {rz : Int} {rm : MM}
  (hd : 5 ≤ d)
  (hk133 : ∀ mq : MM, Ext mb mq → ∀ {Sq : QS} {Lq : QL} {u0 : Value} {u1 : Value} {u3 : Value} {u4 : Value}, k133 mq = some (rz, rm) → Rp Sq mq → q_lo Lq 0 = some u0 → q_is 2 u0 68 → q_lo Lq 1 = some u1 → q_is 0 u1 y1 → q_lo Lq 3 = some u3 → q_is 0 u3 y3 → q_lo Lq 4 = some u4 → q_is 0 u4 y4 → Go xs d qM_X12_goesOnAsNew 133 Lq [] Sq Q)
  (hQ : Ext mb rm → ∀ o S1, Rp S1 rm → q_out 9 o rz → Q o S1) :
  ∀ (n : Nat) {m : MM} {S : QS} {L : QL} {y5 : Int} {v0 : Value} {v1 : Value} {v3 : Value} {v4 : Value} {v5 : Value} , Ext mb m → fl_X12_goesOnAsNew_92 y1 y3 y4 k133 n y5 m = some (rz, rm) → Rp S m → q_lo L 0 = some v0 → q_is 2 v0 68 → q_lo L 1 = some v1 → q_is 0 v1 y1 → q_lo L 3 = some v3 → q_is 0 v3 y3 → q_lo L 4 = some v4 → q_is 0 v4 y4 → q_lo L 5 = some v5 → q_is 0 v5 y5 → Go xs d qM_X12_goesOnAsNew 92 L [] S Q := by
  intro n
  induction n with
  | zero => intro m S L y5 v0 v1 v3 v4 v5; intro E h R l0 f0 l1 f1 l3 f3 l4 f4 l5 f5; cases h
  | succ n ih0 =>
    intro m S L y5 v0 v1 v3 v4 v5; intro E h R l0 f0 l1 f1 l3 f3 l4 f4 l5 f5
    have ih : ∀ mq : MM, Ext mb mq → ∀ {z5 : Int} {Sq : QS} {Lq : QL} {u0 : Value} {u1 : Value} {u3 : Value} {u4 : Value} {u5 : Value}, fl_X12_goesOnAsNew_92 y1 y3 y4 k133 n z5 mq = some (rz, rm) → Rp Sq mq → q_lo Lq 0 = some u0 → q_is 2 u0 68 → q_lo Lq 1 = some u1 → q_is 0 u1 y1 → q_lo Lq 3 = some u3 → q_is 0 u3 y3 → q_lo Lq 4 = some u4 → q_is 0 u4 y4 → q_lo Lq 5 = some u5 → q_is 0 u5 z5 → Go xs d qM_X12_goesOnAsNew 92 Lq [] Sq Q := fun mq b => by intros; exact ih0 b ‹_› ‹_› ‹_› ‹_› ‹_› ‹_› ‹_› ‹_› ‹_› ‹_› ‹_› ‹_›
    unfold fl_X12_goesOnAsNew_92 at h
    refine go_iload (n := 5) (by decide +kernel) l5 f5 ?_
    refine go_aload_n (n := 0) (by decide +kernel) l0 f0 ?_
    refine go_getf (x := 281) (ci := 13) (kf := 107) (fin := 1) (t := 2) (by decide +kernel) (by decide +kernel) (by decide +kernel) R f0 (fx_k (c := 13) R (by decide +kernel)) fun v_117 f_118 => ?_
    have f_119 := q_is_eq (b := 155) f_118 (fx_v R (by decide +kernel)).symm
    refine go_iload (n := 4) (by decide +kernel) l4 f4 ?_
    obtain ⟨g_122, h⟩ := gd_s h
    obtain ⟨x_124, e_125, h⟩ := lx_s h
    refine go_iald (kd := 100) (by decide +kernel) rfl R f_119 f4 (fx_k (c := 100) R (by decide +kernel)) (fx_x (a := 155) (ln := 4) R (by decide +kernel) g_122) fun v_120 f_121 => ?_
    have f_123 := q_is_eq f_121 e_125
    refine go_icmp (c := .ge) (o := 32) (t := 133) (P := ¬ (y5 < x_124)) (by decide +kernel) (by decide +kernel) f5 f_123 (Int.not_lt.symm) (fun hp_126 => ?_) (fun hp_126 => ?_)
    · have h := it_f hp_126 h
      exact hk133 m E h R l0 f0 l1 f1 l3 f3 l4 f4
    · have h := it_n hp_126 h
      refine go_aload_n (n := 0) (by decide +kernel) l0 f0 ?_
      refine go_iload_n (n := 3) (by decide +kernel) l3 f3 ?_
      refine go_iconst (n := 4) (z := 4) (by decide +kernel) (by decide) fun v_127 f_128 => ?_
      refine go_iload (n := 4) (by decide +kernel) l4 f4 ?_
      refine go_aload_n (n := 0) (by decide +kernel) l0 f0 ?_
      refine go_getf (x := 287) (ci := 13) (kf := 109) (fin := 1) (t := 2) (by decide +kernel) (by decide +kernel) (by decide +kernel) R f0 (fx_k (c := 13) R (by decide +kernel)) fun v_129 f_130 => ?_
      have f_131 := q_is_eq (b := 157) f_130 (fx_v R (by decide +kernel)).symm
      refine go_sipush (n := 2048) (z := 2048) (by decide +kernel) (by decide) fun v_132 f_133 => ?_
      refine go_iload (n := 4) (by decide +kernel) l4 f4 ?_
      refine go_imul (by decide +kernel) f_133 f4 fun v_134 f_135 => ?_
      refine go_iload (n := 5) (by decide +kernel) l5 f5 ?_
      refine go_iadd (by decide +kernel) f_135 f5 fun v_136 f_137 => ?_
      obtain ⟨g_140, h⟩ := gd_s h
      obtain ⟨x_142, e_143, h⟩ := lx_s h
      refine go_iald (kd := 100) (by decide +kernel) rfl R f_131 f_137 (fx_k (c := 100) R (by decide +kernel)) (fx_x (a := 157) (ln := 8192) R (by decide +kernel) g_140) fun v_138 f_139 => ?_
      have f_141 := q_is_eq f_139 e_143
      obtain ⟨x_145, m_146, hc_144, h⟩ := bd_s h
      refine go_callV (x := 360) (mi := 210) (n := 4) (ci := 13) (as := [v3, v_127, v4, v_138]) (rest := []) (by decide +kernel) (by decide +kernel) rfl rfl (q_sum8 _ (Nat.le_of_ble_eq_true rfl)) R f0 (fx_k (c := 13) R (by decide +kernel)) (om_X12_puts (Nat.le_trans (by decide) hd) R f0 f3 f_128 f4 f_141 hc_144) (fun _ S_149 q_152 => ?_) (fun _ _ qq => kr_x qq)
      refine kr_z (by decide) q_152 fun v_147 f_148 R_150 E_151 => ?_
      have E_155 := Ext.tr E E_151
      refine go_pop (by decide +kernel) f_148 (Or.inl rfl) ?_
      refine go_iinc (n := 5) (c := 1) (c' := 1) (by decide +kernel) (by decide +kernel) l5 f5 (by decide) fun L_156 v_157 f_158 l_159 kp_160 => ?_
      obtain ⟨x_161, e_162, h⟩ := lx_s h
      have f_163 := q_is_eq f_158 e_162
      have l_164 := kp_160 0 _ l0 (by decide) (Or.inl (by decide))
      have l_165 := kp_160 1 _ l1 (by decide) (Or.inl (by decide))
      have l_166 := kp_160 3 _ l3 (by decide) (Or.inl (by decide))
      have l_167 := kp_160 4 _ l4 (by decide) (Or.inr (q_is_cat f4 (Or.inl rfl)))
      refine go_goto (o := (-38)) (t := 92) (by decide +kernel) (by decide +kernel) ?_
      exact ih m_146 E_155 h R_150 l_164 f0 l_165 f1 l_166 f3 l_167 f4 l_159 f_163
noncomputable def fl_X12_goesOnAsNew_77 (y1 y3 : Int) (k139 : MM → Option (Int × MM)) : Nat → Int → MM → Option (Int × MM)
  | 0, _, _ => none
  | n + 1, y4, m => if y4 < 4 then
gd (0 ≤ y4 ∧ y4 < 4) <| lx (m 156 y4) fun x_108 =>
fl_X12_goesOnAsNew_92 y1 y3 y4 (fun m_183 =>
lx (w32 (y4 + 1)) fun x_193 =>
fl_X12_goesOnAsNew_77 y1 y3 k139 n x_193 m_183) BIG x_108 m
else
k139 m
set_option maxHeartbeats 4000000 in
theorem ol_X12_goesOnAsNew_77 {xs : List Int32} {d : Nat} {Q : QO → QS → Prop} {mb : MM} {y1 y3 : Int} {k139 : MM → Option (Int × MM)} {rz : Int} {rm : MM}
  (hd : 5 ≤ d)
  (hk139 : ∀ mq : MM, Ext mb mq → ∀ {Sq : QS} {Lq : QL} {u0 : Value} {u1 : Value} {u3 : Value}, k139 mq = some (rz, rm) → Rp Sq mq → q_lo Lq 0 = some u0 → q_is 2 u0 68 → q_lo Lq 1 = some u1 → q_is 0 u1 y1 → q_lo Lq 3 = some u3 → q_is 0 u3 y3 → Go xs d qM_X12_goesOnAsNew 139 Lq [] Sq Q)
  (hQ : Ext mb rm → ∀ o S1, Rp S1 rm → q_out 9 o rz → Q o S1) :
  ∀ (n : Nat) {m : MM} {S : QS} {L : QL} {y4 : Int} {v0 : Value} {v1 : Value} {v3 : Value} {v4 : Value} , Ext mb m → fl_X12_goesOnAsNew_77 y1 y3 k139 n y4 m = some (rz, rm) → Rp S m → q_lo L 0 = some v0 → q_is 2 v0 68 → q_lo L 1 = some v1 → q_is 0 v1 y1 → q_lo L 3 = some v3 → q_is 0 v3 y3 → q_lo L 4 = some v4 → q_is 0 v4 y4 → Go xs d qM_X12_goesOnAsNew 77 L [] S Q := by
  intro n
  induction n with
  | zero => intro m S L y4 v0 v1 v3 v4; intro E h R l0 f0 l1 f1 l3 f3 l4 f4; cases h
  | succ n ih0 =>
    intro m S L y4 v0 v1 v3 v4; intro E h R l0 f0 l1 f1 l3 f3 l4 f4
    have ih : ∀ mq : MM, Ext mb mq → ∀ {z4 : Int} {Sq : QS} {Lq : QL} {u0 : Value} {u1 : Value} {u3 : Value} {u4 : Value}, fl_X12_goesOnAsNew_77 y1 y3 k139 n z4 mq = some (rz, rm) → Rp Sq mq → q_lo Lq 0 = some u0 → q_is 2 u0 68 → q_lo Lq 1 = some u1 → q_is 0 u1 y1 → q_lo Lq 3 = some u3 → q_is 0 u3 y3 → q_lo Lq 4 = some u4 → q_is 0 u4 z4 → Go xs d qM_X12_goesOnAsNew 77 Lq [] Sq Q := fun mq b => by intros; exact ih0 b ‹_› ‹_› ‹_› ‹_› ‹_› ‹_› ‹_› ‹_› ‹_› ‹_›
    unfold fl_X12_goesOnAsNew_77 at h
    refine go_iload (n := 4) (by decide +kernel) l4 f4 ?_
    refine go_iconst (n := 4) (z := 4) (by decide +kernel) (by decide) fun v_98 f_99 => ?_
    refine go_icmp (c := .ge) (o := 59) (t := 139) (P := ¬ (y4 < 4)) (by decide +kernel) (by decide +kernel) f4 f_99 (Int.not_lt.symm) (fun hp_100 => ?_) (fun hp_100 => ?_)
    · have h := it_f hp_100 h
      exact hk139 m E h R l0 f0 l1 f1 l3 f3
    · have h := it_n hp_100 h
      refine go_aload_n (n := 0) (by decide +kernel) l0 f0 ?_
      refine go_getf (x := 284) (ci := 13) (kf := 108) (fin := 1) (t := 2) (by decide +kernel) (by decide +kernel) (by decide +kernel) R f0 (fx_k (c := 13) R (by decide +kernel)) fun v_101 f_102 => ?_
      have f_103 := q_is_eq (b := 156) f_102 (fx_v R (by decide +kernel)).symm
      refine go_iload (n := 4) (by decide +kernel) l4 f4 ?_
      obtain ⟨g_106, h⟩ := gd_s h
      obtain ⟨x_108, e_109, h⟩ := lx_s h
      refine go_iald (kd := 100) (by decide +kernel) rfl R f_103 f4 (fx_k (c := 100) R (by decide +kernel)) (fx_x (a := 156) (ln := 4) R (by decide +kernel) g_106) fun v_104 f_105 => ?_
      have f_107 := q_is_eq f_105 e_109
      refine go_istore (n := 5) (by decide +kernel) (by decide +kernel) f_107 fun L_110 l_111 kp_112 => ?_
      have l_113 := kp_112 0 _ l0 (by decide) (Or.inl (by decide))
      have l_114 := kp_112 1 _ l1 (by decide) (Or.inl (by decide))
      have l_115 := kp_112 3 _ l3 (by decide) (Or.inl (by decide))
      have l_116 := kp_112 4 _ l4 (by decide) (Or.inr (q_is_cat f4 (Or.inl rfl)))
      refine ol_X12_goesOnAsNew_92 hd  ?_ (fun b => hQ (Ext.tr E b)) BIG (Ext.rf _) h R l_113 f0 l_114 f1 l_115 f3 l_116 f4 l_111 f_107
      intro m_183 E_184
      intro S_180 L_181 v_168 v_169 v_170 v_171
      intro h R_182 l_172 f_176 l_173 f_177 l_174 f_178 l_175 f_179
      have E_185 := Ext.tr E E_184
      refine go_iinc (n := 4) (c := 1) (c' := 1) (by decide +kernel) (by decide +kernel) l_175 f_179 (by decide) fun L_188 v_189 f_190 l_191 kp_192 => ?_
      obtain ⟨x_193, e_194, h⟩ := lx_s h
      have f_195 := q_is_eq f_190 e_194
      have l_196 := kp_192 0 _ l_172 (by decide) (Or.inl (by decide))
      have l_197 := kp_192 1 _ l_173 (by decide) (Or.inl (by decide))
      have l_198 := kp_192 3 _ l_174 (by decide) (Or.inr (q_is_cat f_178 (Or.inl rfl)))
      refine go_goto (o := (-59)) (t := 77) (by decide +kernel) (by decide +kernel) ?_
      exact ih m_183 E_185 h R_182 l_196 f_176 l_197 f_177 l_198 f_178 l_191 f_195
noncomputable def fj_X12_goesOnAsNew_179 (c : Int → Int → MM → Option (Int × MM)) (k224 : MM → Option (Int × MM)) (y1 y3 y5 y6 s0 s1 : Int) (m : MM) : Option (Int × MM) := lx (w32 (s1 + s0)) fun x_267 =>
if y6 = 4 then
lx (m 68 123) fun x_296 =>
if x_296 < x_267 then
bp (fm_X12_xAt y1 y5 m) fun x_314 =>
bp (fm_X12_yAt y1 y5 m) fun x_323 =>
bd (fm_X12_puts y3 4 x_314 x_323 m) fun x_332 m_333 =>
lx (w32 (y5 + 1)) fun x_348 =>
c x_267 x_348 m_333
else
lx (w32 (y5 + 1)) fun x_304 =>
c x_267 x_304 m
else
lx (w32 (y5 + 1)) fun x_286 =>
c x_267 x_286 m
set_option maxHeartbeats 4000000 in
theorem oj_X12_goesOnAsNew_179 {xs : List Int32} {d : Nat} {S : QS} {L : QL} {Q : QO → QS → Prop} {m : MM} {y1 y3 y5 y6 s0 s1 : Int} {v0 : Value} {v1 : Value} {v3 : Value} {v5 : Value} {v6 : Value} {w0 : Value} {w1 : Value}  {rz : Int} {rm : MM} {c : Int → Int → MM → Option (Int × MM)} {k224 : MM → Option (Int × MM)} 
  (hd : 5 ≤ d) (R : Rp S m) (l0 : q_lo L 0 = some v0) (f0 : q_is 2 v0 68) (l1 : q_lo L 1 = some v1) (f1 : q_is 0 v1 y1) (l3 : q_lo L 3 = some v3) (f3 : q_is 0 v3 y3) (l5 : q_lo L 5 = some v5) (f5 : q_is 0 v5 y5) (l6 : q_lo L 6 = some v6) (f6 : q_is 0 v6 y6) (fs0 : q_is 0 w0 s0) (fs1 : q_is 0 w1 s1)
  (hc : ∀ mq : MM, Ext m mq → ∀ {z4 : Int} {z5 : Int} {Sq : QS} {Lq : QL} {u0 : Value} {u1 : Value} {u3 : Value} {u4 : Value} {u5 : Value}, c z4 z5 mq = some (rz, rm) → Rp Sq mq → q_lo Lq 0 = some u0 → q_is 2 u0 68 → q_lo Lq 1 = some u1 → q_is 0 u1 y1 → q_lo Lq 3 = some u3 → q_is 0 u3 y3 → q_lo Lq 4 = some u4 → q_is 0 u4 z4 → q_lo Lq 5 = some u5 → q_is 0 u5 z5 → Go xs d qM_X12_goesOnAsNew 145 Lq [] Sq Q)
  (hk224 : ∀ mq : MM, Ext m mq → ∀ {Sq : QS} {Lq : QL} {u0 : Value} {u1 : Value}, k224 mq = some (rz, rm) → Rp Sq mq → q_lo Lq 0 = some u0 → q_is 2 u0 68 → q_lo Lq 1 = some u1 → q_is 0 u1 y1 → Go xs d qM_X12_goesOnAsNew 224 Lq [] Sq Q)
  (hQ : Ext m rm → ∀ o S1, Rp S1 rm → q_out 9 o rz → Q o S1)
  (h : fj_X12_goesOnAsNew_179 c k224 y1 y3 y5 y6 s0 s1 m = some (rz, rm)) : Go xs d qM_X12_goesOnAsNew 179 L [w0, w1] S Q := by
  unfold fj_X12_goesOnAsNew_179 at h
  refine go_iadd (by decide +kernel) fs1 fs0 fun v_265 f_266 => ?_
  obtain ⟨x_267, e_268, h⟩ := lx_s h
  have f_269 := q_is_eq f_266 e_268
  refine go_istore (n := 4) (by decide +kernel) (by decide +kernel) f_269 fun L_270 l_271 kp_272 => ?_
  have l_273 := kp_272 0 _ l0 (by decide) (Or.inl (by decide))
  have l_274 := kp_272 1 _ l1 (by decide) (Or.inl (by decide))
  have l_275 := kp_272 3 _ l3 (by decide) (Or.inr (q_is_cat f3 (Or.inl rfl)))
  have l_276 := kp_272 5 _ l5 (by decide) (Or.inl (by decide))
  have l_277 := kp_272 6 _ l6 (by decide) (Or.inl (by decide))
  refine go_iload (n := 6) (by decide +kernel) l_277 f6 ?_
  refine go_iconst (n := 4) (z := 4) (by decide +kernel) (by decide) fun v_278 f_279 => ?_
  refine go_icmp (c := .ne) (o := 33) (t := 218) (P := ¬ (y6 = 4)) (by decide +kernel) (by decide +kernel) f6 f_279 (Iff.rfl) (fun hp_280 => ?_) (fun hp_280 => ?_)
  · have h := it_f hp_280 h
    refine go_iinc (n := 5) (c := 1) (c' := 1) (by decide +kernel) (by decide +kernel) l_276 f5 (by decide) fun L_281 v_282 f_283 l_284 kp_285 => ?_
    obtain ⟨x_286, e_287, h⟩ := lx_s h
    have f_288 := q_is_eq f_283 e_287
    have l_289 := kp_285 0 _ l_273 (by decide) (Or.inl (by decide))
    have l_290 := kp_285 1 _ l_274 (by decide) (Or.inl (by decide))
    have l_291 := kp_285 3 _ l_275 (by decide) (Or.inl (by decide))
    have l_292 := kp_285 4 _ l_271 (by decide) (Or.inr (q_is_cat f_269 (Or.inl rfl)))
    refine go_goto (o := (-76)) (t := 145) (by decide +kernel) (by decide +kernel) ?_
    exact hc m (Ext.rf _) h R l_289 f0 l_290 f1 l_291 f3 l_292 f_269 l_284 f_288
  · have h := it_n hp_280 h
    refine go_iload (n := 4) (by decide +kernel) l_271 f_269 ?_
    refine go_aload_n (n := 0) (by decide +kernel) l_273 f0 ?_
    obtain ⟨x_296, e_297, h⟩ := lx_s h
    refine go_getf (x := 536) (ci := 13) (kf := 123) (fin := 0) (t := 0) (by decide +kernel) (by decide +kernel) (by decide +kernel) R f0 (fx_k (c := 13) R (by decide +kernel)) fun v_293 f_294 => ?_
    have f_295 := q_is_eq f_294 e_297
    refine go_icmp (c := .le) (o := 24) (t := 218) (P := ¬ (x_296 < x_267)) (by decide +kernel) (by decide +kernel) f_269 f_295 (Int.not_lt.symm) (fun hp_298 => ?_) (fun hp_298 => ?_)
    · have h := it_f hp_298 h
      refine go_iinc (n := 5) (c := 1) (c' := 1) (by decide +kernel) (by decide +kernel) l_276 f5 (by decide) fun L_299 v_300 f_301 l_302 kp_303 => ?_
      obtain ⟨x_304, e_305, h⟩ := lx_s h
      have f_306 := q_is_eq f_301 e_305
      have l_307 := kp_303 0 _ l_273 (by decide) (Or.inl (by decide))
      have l_308 := kp_303 1 _ l_274 (by decide) (Or.inl (by decide))
      have l_309 := kp_303 3 _ l_275 (by decide) (Or.inl (by decide))
      have l_310 := kp_303 4 _ l_271 (by decide) (Or.inr (q_is_cat f_269 (Or.inl rfl)))
      refine go_goto (o := (-76)) (t := 145) (by decide +kernel) (by decide +kernel) ?_
      exact hc m (Ext.rf _) h R l_307 f0 l_308 f1 l_309 f3 l_310 f_269 l_302 f_306
    · have h := it_n hp_298 h
      refine go_aload_n (n := 0) (by decide +kernel) l_273 f0 ?_
      refine go_iload_n (n := 3) (by decide +kernel) l_275 f3 ?_
      refine go_iconst (n := 4) (z := 4) (by decide +kernel) (by decide) fun v_311 f_312 => ?_
      refine go_aload_n (n := 0) (by decide +kernel) l_273 f0 ?_
      refine go_iload_n (n := 1) (by decide +kernel) l_274 f1 ?_
      refine go_iload (n := 5) (by decide +kernel) l_276 f5 ?_
      obtain ⟨x_314, hc_313, h⟩ := bp_s h
      refine go_callV (x := 344) (mi := 206) (n := 2) (ci := 13) (as := [v1, v5]) (rest := [v_311, v3, v0]) (by decide +kernel) (by decide +kernel) rfl rfl (q_sum8 _ (Nat.le_of_ble_eq_true rfl)) R f0 (fx_k (c := 13) R (by decide +kernel)) (om_X12_xAt (Nat.le_trans (by decide) hd) R f0 f1 f5 hc_313) (fun _ S_318 q_321 => ?_) (fun _ _ qq => kr_x qq)
      refine kr_z (by decide) q_321 fun v_316 f_317 R_319 E_320 => ?_
      refine go_aload_n (n := 0) (by decide +kernel) l_273 f0 ?_
      refine go_iload_n (n := 1) (by decide +kernel) l_274 f1 ?_
      refine go_iload (n := 5) (by decide +kernel) l_276 f5 ?_
      obtain ⟨x_323, hc_322, h⟩ := bp_s h
      refine go_callV (x := 397) (mi := 205) (n := 2) (ci := 13) (as := [v1, v5]) (rest := [v_316, v_311, v3, v0]) (by decide +kernel) (by decide +kernel) rfl rfl (q_sum8 _ (Nat.le_of_ble_eq_true rfl)) R_319 f0 (fx_k (c := 13) R_319 (by decide +kernel)) (om_X12_yAt (Nat.le_trans (by decide) hd) R_319 f0 f1 f5 hc_322) (fun _ S_327 q_330 => ?_) (fun _ _ qq => kr_x qq)
      refine kr_z (by decide) q_330 fun v_325 f_326 R_328 E_329 => ?_
      obtain ⟨x_332, m_333, hc_331, h⟩ := bd_s h
      refine go_callV (x := 360) (mi := 210) (n := 4) (ci := 13) (as := [v3, v_311, v_316, v_325]) (rest := []) (by decide +kernel) (by decide +kernel) rfl rfl (q_sum8 _ (Nat.le_of_ble_eq_true rfl)) R_328 f0 (fx_k (c := 13) R_328 (by decide +kernel)) (om_X12_puts (Nat.le_trans (by decide) hd) R_328 f0 f3 f_312 f_317 f_326 hc_331) (fun _ S_336 q_339 => ?_) (fun _ _ qq => kr_x qq)
      refine kr_z (by decide) q_339 fun v_334 f_335 R_337 E_338 => ?_
      have E_342 := E_338
      refine go_pop (by decide +kernel) f_335 (Or.inl rfl) ?_
      refine go_iinc (n := 5) (c := 1) (c' := 1) (by decide +kernel) (by decide +kernel) l_276 f5 (by decide) fun L_343 v_344 f_345 l_346 kp_347 => ?_
      obtain ⟨x_348, e_349, h⟩ := lx_s h
      have f_350 := q_is_eq f_345 e_349
      have l_351 := kp_347 0 _ l_273 (by decide) (Or.inl (by decide))
      have l_352 := kp_347 1 _ l_274 (by decide) (Or.inl (by decide))
      have l_353 := kp_347 3 _ l_275 (by decide) (Or.inl (by decide))
      have l_354 := kp_347 4 _ l_271 (by decide) (Or.inr (q_is_cat f_269 (Or.inl rfl)))
      refine go_goto (o := (-76)) (t := 145) (by decide +kernel) (by decide +kernel) ?_
      exact hc m_333 E_342 h R_337 l_351 f0 l_352 f1 l_353 f3 l_354 f_269 l_346 f_350
noncomputable def fl_X12_goesOnAsNew_145 (y1 y3 : Int) (k224 : MM → Option (Int × MM)) : Nat → Int → Int → MM → Option (Int × MM)
  | 0, _, _, _ => none
  | n + 1, y4, y5, m => gd (0 ≤ y1 ∧ y1 < 30) <| lx (m 86 y1) fun x_240 =>
if y5 < x_240 then
bp (fm_X12_kindAt y1 y5 m) fun x_244 =>
if 7 < x_244 then
fj_X12_goesOnAsNew_179 (fl_X12_goesOnAsNew_145 y1 y3 k224 n) k224 y1 y3 y5 x_244 0 y4 m
else
fj_X12_goesOnAsNew_179 (fl_X12_goesOnAsNew_145 y1 y3 k224 n) k224 y1 y3 y5 x_244 1 y4 m
else
k224 m
set_option maxHeartbeats 4000000 in
theorem ol_X12_goesOnAsNew_145 {xs : List Int32} {d : Nat} {Q : QO → QS → Prop} {mb : MM} {y1 y3 : Int} {k224 : MM → Option (Int × MM)} {rz : Int} {rm : MM}
  (hd : 5 ≤ d)
  (hk224 : ∀ mq : MM, Ext mb mq → ∀ {Sq : QS} {Lq : QL} {u0 : Value} {u1 : Value}, k224 mq = some (rz, rm) → Rp Sq mq → q_lo Lq 0 = some u0 → q_is 2 u0 68 → q_lo Lq 1 = some u1 → q_is 0 u1 y1 → Go xs d qM_X12_goesOnAsNew 224 Lq [] Sq Q)
  (hQ : Ext mb rm → ∀ o S1, Rp S1 rm → q_out 9 o rz → Q o S1) :
  ∀ (n : Nat) {m : MM} {S : QS} {L : QL} {y4 y5 : Int} {v0 : Value} {v1 : Value} {v3 : Value} {v4 : Value} {v5 : Value} , Ext mb m → fl_X12_goesOnAsNew_145 y1 y3 k224 n y4 y5 m = some (rz, rm) → Rp S m → q_lo L 0 = some v0 → q_is 2 v0 68 → q_lo L 1 = some v1 → q_is 0 v1 y1 → q_lo L 3 = some v3 → q_is 0 v3 y3 → q_lo L 4 = some v4 → q_is 0 v4 y4 → q_lo L 5 = some v5 → q_is 0 v5 y5 → Go xs d qM_X12_goesOnAsNew 145 L [] S Q := by
  intro n
  induction n with
  | zero => intro m S L y4 y5 v0 v1 v3 v4 v5; intro E h R l0 f0 l1 f1 l3 f3 l4 f4 l5 f5; cases h
  | succ n ih0 =>
    intro m S L y4 y5 v0 v1 v3 v4 v5; intro E h R l0 f0 l1 f1 l3 f3 l4 f4 l5 f5
    have ih : ∀ mq : MM, Ext mb mq → ∀ {z4 : Int} {z5 : Int} {Sq : QS} {Lq : QL} {u0 : Value} {u1 : Value} {u3 : Value} {u4 : Value} {u5 : Value}, fl_X12_goesOnAsNew_145 y1 y3 k224 n z4 z5 mq = some (rz, rm) → Rp Sq mq → q_lo Lq 0 = some u0 → q_is 2 u0 68 → q_lo Lq 1 = some u1 → q_is 0 u1 y1 → q_lo Lq 3 = some u3 → q_is 0 u3 y3 → q_lo Lq 4 = some u4 → q_is 0 u4 z4 → q_lo Lq 5 = some u5 → q_is 0 u5 z5 → Go xs d qM_X12_goesOnAsNew 145 Lq [] Sq Q := fun mq b => by intros; exact ih0 b ‹_› ‹_› ‹_› ‹_› ‹_› ‹_› ‹_› ‹_› ‹_› ‹_› ‹_› ‹_›
    unfold fl_X12_goesOnAsNew_145 at h
    refine go_iload (n := 5) (by decide +kernel) l5 f5 ?_
    refine go_aload_n (n := 0) (by decide +kernel) l0 f0 ?_
    refine go_getf (x := 61) (ci := 13) (kf := 19) (fin := 1) (t := 2) (by decide +kernel) (by decide +kernel) (by decide +kernel) R f0 (fx_k (c := 13) R (by decide +kernel)) fun v_233 f_234 => ?_
    have f_235 := q_is_eq (b := 86) f_234 (fx_v R (by decide +kernel)).symm
    refine go_iload_n (n := 1) (by decide +kernel) l1 f1 ?_
    obtain ⟨g_238, h⟩ := gd_s h
    obtain ⟨x_240, e_241, h⟩ := lx_s h
    refine go_iald (kd := 100) (by decide +kernel) rfl R f_235 f1 (fx_k (c := 100) R (by decide +kernel)) (fx_x (a := 86) (ln := 30) R (by decide +kernel) g_238) fun v_236 f_237 => ?_
    have f_239 := q_is_eq f_237 e_241
    refine go_icmp (c := .ge) (o := 71) (t := 224) (P := ¬ (y5 < x_240)) (by decide +kernel) (by decide +kernel) f5 f_239 (Int.not_lt.symm) (fun hp_242 => ?_) (fun hp_242 => ?_)
    · have h := it_f hp_242 h
      exact hk224 m E h R l0 f0 l1 f1
    · have h := it_n hp_242 h
      refine go_aload_n (n := 0) (by decide +kernel) l0 f0 ?_
      refine go_iload_n (n := 1) (by decide +kernel) l1 f1 ?_
      refine go_iload (n := 5) (by decide +kernel) l5 f5 ?_
      obtain ⟨x_244, hc_243, h⟩ := bp_s h
      refine go_callV (x := 341) (mi := 204) (n := 2) (ci := 13) (as := [v1, v5]) (rest := []) (by decide +kernel) (by decide +kernel) rfl rfl (q_sum8 _ (Nat.le_of_ble_eq_true rfl)) R f0 (fx_k (c := 13) R (by decide +kernel)) (om_X12_kindAt (Nat.le_trans (by decide) hd) R f0 f1 f5 hc_243) (fun _ S_248 q_251 => ?_) (fun _ _ qq => kr_x qq)
      refine kr_z (by decide) q_251 fun v_246 f_247 R_249 E_250 => ?_
      refine go_istore (n := 6) (by decide +kernel) (by decide +kernel) f_247 fun L_252 l_253 kp_254 => ?_
      have l_255 := kp_254 0 _ l0 (by decide) (Or.inl (by decide))
      have l_256 := kp_254 1 _ l1 (by decide) (Or.inl (by decide))
      have l_257 := kp_254 3 _ l3 (by decide) (Or.inl (by decide))
      have l_258 := kp_254 4 _ l4 (by decide) (Or.inl (by decide))
      have l_259 := kp_254 5 _ l5 (by decide) (Or.inr (q_is_cat f5 (Or.inl rfl)))
      refine go_iload (n := 4) (by decide +kernel) l_258 f4 ?_
      refine go_iload (n := 6) (by decide +kernel) l_253 f_247 ?_
      refine go_bipush (n := 7) (z := 7) (by decide +kernel) (by decide) fun v_260 f_261 => ?_
      refine go_icmp (c := .gt) (o := 7) (t := 178) (P := 7 < x_244) (by decide +kernel) (by decide +kernel) f_247 f_261 (Iff.rfl) (fun hp_262 => ?_) (fun hp_262 => ?_)
      · have h := it_t hp_262 h
        refine go_iconst (n := 0) (z := 0) (by decide +kernel) (by decide) fun v_263 f_264 => ?_
        exact oj_X12_goesOnAsNew_179 hd R_249 l_255 f0 l_256 f1 l_257 f3 l_259 f5 l_253 f_247 f_264 f4 (fun mq b => ih mq (Ext.tr E b)) (fun mq b => hk224 mq (Ext.tr E b)) (fun b => hQ (Ext.tr E b)) h
      · have h := it_f hp_262 h
        refine go_iconst (n := 1) (z := 1) (by decide +kernel) (by decide) fun v_355 f_356 => ?_
        refine go_goto (o := 4) (t := 179) (by decide +kernel) (by decide +kernel) ?_
        exact oj_X12_goesOnAsNew_179 hd R_249 l_255 f0 l_256 f1 l_257 f3 l_259 f5 l_253 f_247 f_356 f4 (fun mq b => ih mq (Ext.tr E b)) (fun mq b => hk224 mq (Ext.tr E b)) (fun b => hQ (Ext.tr E b)) h
noncomputable def fm_X12_goesOnAsNew (p1 p2 : Int) (m0 : MM) : Option (Int × MM) := lx (m0 68 12) fun x_4 =>
if x_4 = 30 then
gd (0 ≤ p1 ∧ p1 < 30) <| up m0 83 p1 2 fun m_393 =>
bd (fm_X12_closes p1 1 0 m_393) fun x_405 m_406 =>
some (0, m_406)
else
gd (0 ≤ p1 ∧ p1 < 30) <| up m0 83 p1 4 fun m_15 =>
lx (m_15 80 p1) fun x_28 =>
lx (m_15 81 p1) fun x_36 =>
gd (0 ≤ x_28 ∧ x_28 < 4) <| lx (m_15 69 x_28) fun x_51 =>
lx (m_15 84 p1) fun x_63 =>
lx (m_15 85 p1) fun x_71 =>
bd (fm_X12_makes x_28 x_36 (w32 (x_51 - 1)) p2 x_63 x_71 m_15) fun x_74 m_75 =>
fl_X12_goesOnAsNew_77 p1 x_74 (fun m_211 =>
fl_X12_goesOnAsNew_145 p1 x_74 (fun m_366 =>
bd (fm_X12_closes p1 0 0 m_366) fun x_376 m_377 =>
some (0, m_377)) BIG 0 0 m_211) BIG 0 m_75
set_option maxHeartbeats 4000000 in
theorem om_X12_goesOnAsNew {xs : List Int32} {d : Nat} {S : QS} {m0 : MM} {p1 p2 : Int} {v0 : Value} {v1 : Value} {v2 : Value} {rz : Int} {rm : MM}
  (hd : 6 ≤ d) (R : Rp S m0) (f0 : q_is 2 v0 68) (f1 : q_is 0 v1 p1) (f2 : q_is 0 v2 p2)
  (h : fm_X12_goesOnAsNew p1 p2 m0 = some (rz, rm)) : Mt xs d 281 [v0, v1, v2] S (Cr 9 m0 rm rz) := by
  obtain ⟨d, rfl⟩ : ∃ e, d = e + 1 := ⟨d - 1, by omega⟩
  have hd : 5 ≤ d := Nat.le_of_succ_le_succ hd
  refine Mt.of (M := qM_X12_goesOnAsNew) rfl (by rw [sl_1 (q_is_cat f0 (Or.inr rfl)), sl_1 (q_is_cat f1 (Or.inl rfl)), sl_1 (q_is_cat f2 (Or.inl rfl)), sl_0]; decide) ?_
  rw [la_1 (q_is_cat f0 (Or.inr rfl)), la_1 (q_is_cat f1 (Or.inl rfl)), la_1 (q_is_cat f2 (Or.inl rfl)), la_0]
  obtain ⟨L, hL⟩ : ∃ L : QL, L = [(0, v0), (0 + 1, v1), (0 + 1 + 1, v2)] := ⟨_, rfl⟩
  rw [← hL]
  have l0 : q_lo L 0 = some v0 := by rw [hL]; rfl
  have l1 : q_lo L 1 = some v1 := by rw [hL]; rfl
  have l2 : q_lo L 2 = some v2 := by rw [hL]; rfl
  have hQ : Ext m0 rm → ∀ o S1, Rp S1 rm → q_out 9 o rz → (Cr 9 m0 rm rz) o S1 := fun a o S1 b e => ⟨b, a, e⟩
  unfold fm_X12_goesOnAsNew at h
  refine go_aload_n (n := 0) (by decide +kernel) l0 f0 ?_
  obtain ⟨x_4, e_5, h⟩ := lx_s h
  refine go_getf (x := 310) (ci := 13) (kf := 12) (fin := 0) (t := 0) (by decide +kernel) (by decide +kernel) (by decide +kernel) R f0 (fx_k (c := 13) R (by decide +kernel)) fun v_1 f_2 => ?_
  have f_3 := q_is_eq f_2 e_5
  refine go_bipush (n := 30) (z := 30) (by decide +kernel) (by decide) fun v_6 f_7 => ?_
  refine go_icmp (c := .ne) (o := 18) (t := 24) (P := ¬ (x_4 = 30)) (by decide +kernel) (by decide +kernel) f_3 f_7 (Iff.rfl) (fun hp_8 => ?_) (fun hp_8 => ?_)
  · have h := it_f hp_8 h
    refine go_aload_n (n := 0) (by decide +kernel) l0 f0 ?_
    refine go_getf (x := 52) (ci := 13) (kf := 16) (fin := 1) (t := 2) (by decide +kernel) (by decide +kernel) (by decide +kernel) R f0 (fx_k (c := 13) R (by decide +kernel)) fun v_9 f_10 => ?_
    have f_11 := q_is_eq (b := 83) f_10 (fx_v R (by decide +kernel)).symm
    refine go_iload_n (n := 1) (by decide +kernel) l1 f1 ?_
    refine go_iconst (n := 4) (z := 4) (by decide +kernel) (by decide) fun v_12 f_13 => ?_
    obtain ⟨g_14, h⟩ := gd_s h
    obtain ⟨m_15, e_16, h⟩ := up_s h
    refine go_iast (kd := 100) (by decide +kernel) rfl R f_11 f1 f_13 (fx_k (c := 100) R (by decide +kernel)) (fx_x (a := 83) (ln := 30) R (by decide +kernel) g_14) e_16 (fx_a R.2 (fx_k (c := 100) R (by decide +kernel)) (And.left (fx_x (a := 83) (ln := 30) R (by decide +kernel) g_14)) (by decide +kernel)) fun S_17 R_18 E_19 => ?_
    have E_21 := E_19
    refine go_aload_n (n := 0) (by decide +kernel) l0 f0 ?_
    refine go_aload_n (n := 0) (by decide +kernel) l0 f0 ?_
    refine go_getf (x := 43) (ci := 13) (kf := 13) (fin := 1) (t := 2) (by decide +kernel) (by decide +kernel) (by decide +kernel) R_18 f0 (fx_k (c := 13) R_18 (by decide +kernel)) fun v_22 f_23 => ?_
    have f_24 := q_is_eq (b := 80) f_23 (fx_v R_18 (by decide +kernel)).symm
    refine go_iload_n (n := 1) (by decide +kernel) l1 f1 ?_
    obtain ⟨x_28, e_29, h⟩ := lx_s h
    refine go_iald (kd := 100) (by decide +kernel) rfl R_18 f_24 f1 (fx_k (c := 100) R_18 (by decide +kernel)) (fx_x (a := 80) (ln := 30) R_18 (by decide +kernel) g_14) fun v_25 f_26 => ?_
    have f_27 := q_is_eq f_26 e_29
    refine go_aload_n (n := 0) (by decide +kernel) l0 f0 ?_
    refine go_getf (x := 46) (ci := 13) (kf := 14) (fin := 1) (t := 2) (by decide +kernel) (by decide +kernel) (by decide +kernel) R_18 f0 (fx_k (c := 13) R_18 (by decide +kernel)) fun v_30 f_31 => ?_
    have f_32 := q_is_eq (b := 81) f_31 (fx_v R_18 (by decide +kernel)).symm
    refine go_iload_n (n := 1) (by decide +kernel) l1 f1 ?_
    obtain ⟨x_36, e_37, h⟩ := lx_s h
    refine go_iald (kd := 100) (by decide +kernel) rfl R_18 f_32 f1 (fx_k (c := 100) R_18 (by decide +kernel)) (fx_x (a := 81) (ln := 30) R_18 (by decide +kernel) g_14) fun v_33 f_34 => ?_
    have f_35 := q_is_eq f_34 e_37
    refine go_aload_n (n := 0) (by decide +kernel) l0 f0 ?_
    refine go_getf (x := 7) (ci := 13) (kf := 1) (fin := 1) (t := 2) (by decide +kernel) (by decide +kernel) (by decide +kernel) R_18 f0 (fx_k (c := 13) R_18 (by decide +kernel)) fun v_38 f_39 => ?_
    have f_40 := q_is_eq (b := 69) f_39 (fx_v R_18 (by decide +kernel)).symm
    refine go_aload_n (n := 0) (by decide +kernel) l0 f0 ?_
    refine go_getf (x := 43) (ci := 13) (kf := 13) (fin := 1) (t := 2) (by decide +kernel) (by decide +kernel) (by decide +kernel) R_18 f0 (fx_k (c := 13) R_18 (by decide +kernel)) fun v_41 f_42 => ?_
    have f_43 := q_is_eq (b := 80) f_42 (fx_v R_18 (by decide +kernel)).symm
    refine go_iload_n (n := 1) (by decide +kernel) l1 f1 ?_
    refine go_iald (kd := 100) (by decide +kernel) rfl R_18 f_43 f1 (fx_k (c := 100) R_18 (by decide +kernel)) (fx_x (a := 80) (ln := 30) R_18 (by decide +kernel) g_14) fun v_44 f_45 => ?_
    have f_46 := q_is_eq f_45 e_29
    obtain ⟨g_49, h⟩ := gd_s h
    obtain ⟨x_51, e_52, h⟩ := lx_s h
    refine go_iald (kd := 100) (by decide +kernel) rfl R_18 f_40 f_46 (fx_k (c := 100) R_18 (by decide +kernel)) (fx_x (a := 69) (ln := 4) R_18 (by decide +kernel) g_49) fun v_47 f_48 => ?_
    have f_50 := q_is_eq f_48 e_52
    refine go_iconst (n := 1) (z := 1) (by decide +kernel) (by decide) fun v_53 f_54 => ?_
    refine go_isub (by decide +kernel) f_50 f_54 fun v_55 f_56 => ?_
    refine go_iload_n (n := 2) (by decide +kernel) l2 f2 ?_
    refine go_aload_n (n := 0) (by decide +kernel) l0 f0 ?_
    refine go_getf (x := 55) (ci := 13) (kf := 17) (fin := 1) (t := 2) (by decide +kernel) (by decide +kernel) (by decide +kernel) R_18 f0 (fx_k (c := 13) R_18 (by decide +kernel)) fun v_57 f_58 => ?_
    have f_59 := q_is_eq (b := 84) f_58 (fx_v R_18 (by decide +kernel)).symm
    refine go_iload_n (n := 1) (by decide +kernel) l1 f1 ?_
    obtain ⟨x_63, e_64, h⟩ := lx_s h
    refine go_iald (kd := 100) (by decide +kernel) rfl R_18 f_59 f1 (fx_k (c := 100) R_18 (by decide +kernel)) (fx_x (a := 84) (ln := 30) R_18 (by decide +kernel) g_14) fun v_60 f_61 => ?_
    have f_62 := q_is_eq f_61 e_64
    refine go_aload_n (n := 0) (by decide +kernel) l0 f0 ?_
    refine go_getf (x := 58) (ci := 13) (kf := 18) (fin := 1) (t := 2) (by decide +kernel) (by decide +kernel) (by decide +kernel) R_18 f0 (fx_k (c := 13) R_18 (by decide +kernel)) fun v_65 f_66 => ?_
    have f_67 := q_is_eq (b := 85) f_66 (fx_v R_18 (by decide +kernel)).symm
    refine go_iload_n (n := 1) (by decide +kernel) l1 f1 ?_
    obtain ⟨x_71, e_72, h⟩ := lx_s h
    refine go_iald (kd := 100) (by decide +kernel) rfl R_18 f_67 f1 (fx_k (c := 100) R_18 (by decide +kernel)) (fx_x (a := 85) (ln := 30) R_18 (by decide +kernel) g_14) fun v_68 f_69 => ?_
    have f_70 := q_is_eq f_69 e_72
    obtain ⟨x_74, m_75, hc_73, h⟩ := bd_s h
    refine go_callV (x := 576) (mi := 212) (n := 6) (ci := 13) (as := [v_25, v_33, v_55, v2, v_60, v_68]) (rest := []) (by decide +kernel) (by decide +kernel) rfl rfl (q_sum8 _ (Nat.le_of_ble_eq_true rfl)) R_18 f0 (fx_k (c := 13) R_18 (by decide +kernel)) (om_X12_makes (Nat.le_trans (by decide) hd) R_18 f0 f_27 f_35 f_56 f2 f_62 f_70 hc_73) (fun _ S_78 q_81 => ?_) (fun _ _ qq => kr_x qq)
    refine kr_z (by decide) q_81 fun v_76 f_77 R_79 E_80 => ?_
    have E_84 := Ext.tr E_21 E_80
    refine go_istore_n (n := 3) (by decide +kernel) (by decide +kernel) f_77 fun L_85 l_86 kp_87 => ?_
    have l_88 := kp_87 0 _ l0 (by decide) (Or.inl (by decide))
    have l_89 := kp_87 1 _ l1 (by decide) (Or.inl (by decide))
    refine go_iconst (n := 0) (z := 0) (by decide +kernel) (by decide) fun v_90 f_91 => ?_
    refine go_istore (n := 4) (by decide +kernel) (by decide +kernel) f_91 fun L_92 l_93 kp_94 => ?_
    have l_95 := kp_94 0 _ l_88 (by decide) (Or.inl (by decide))
    have l_96 := kp_94 1 _ l_89 (by decide) (Or.inl (by decide))
    have l_97 := kp_94 3 _ l_86 (by decide) (Or.inr (q_is_cat f_77 (Or.inl rfl)))
    refine ol_X12_goesOnAsNew_77 hd  ?_ (fun b => hQ (Ext.tr E_84 b)) BIG (Ext.rf _) h R_79 l_95 f0 l_96 f1 l_97 f_77 l_93 f_91
    intro m_211 E_212
    intro S_208 L_209 v_199 v_200 v_201
    intro h R_210 l_202 f_205 l_203 f_206 l_204 f_207
    have E_213 := Ext.tr E_84 E_212
    refine go_iconst (n := 0) (z := 0) (by decide +kernel) (by decide) fun v_216 f_217 => ?_
    refine go_istore (n := 4) (by decide +kernel) (by decide +kernel) f_217 fun L_218 l_219 kp_220 => ?_
    have l_221 := kp_220 0 _ l_202 (by decide) (Or.inl (by decide))
    have l_222 := kp_220 1 _ l_203 (by decide) (Or.inl (by decide))
    have l_223 := kp_220 3 _ l_204 (by decide) (Or.inr (q_is_cat f_207 (Or.inl rfl)))
    refine go_iconst (n := 0) (z := 0) (by decide +kernel) (by decide) fun v_224 f_225 => ?_
    refine go_istore (n := 5) (by decide +kernel) (by decide +kernel) f_225 fun L_226 l_227 kp_228 => ?_
    have l_229 := kp_228 0 _ l_221 (by decide) (Or.inl (by decide))
    have l_230 := kp_228 1 _ l_222 (by decide) (Or.inl (by decide))
    have l_231 := kp_228 3 _ l_223 (by decide) (Or.inl (by decide))
    have l_232 := kp_228 4 _ l_219 (by decide) (Or.inr (q_is_cat f_217 (Or.inl rfl)))
    refine ol_X12_goesOnAsNew_145 hd  ?_ (fun b => hQ (Ext.tr E_213 b)) BIG (Ext.rf _) h R_210 l_229 f_205 l_230 f_206 l_231 f_207 l_232 f_217 l_227 f_225
    intro m_366 E_367
    intro S_363 L_364 v_357 v_358
    intro h R_365 l_359 f_361 l_360 f_362
    have E_368 := Ext.tr E_213 E_367
    refine go_aload_n (n := 0) (by decide +kernel) l_359 f_361 ?_
    refine go_iload_n (n := 1) (by decide +kernel) l_360 f_362 ?_
    refine go_iconst (n := 0) (z := 0) (by decide +kernel) (by decide) fun v_371 f_372 => ?_
    refine go_iconst (n := 0) (z := 0) (by decide +kernel) (by decide) fun v_373 f_374 => ?_
    obtain ⟨x_376, m_377, hc_375, h⟩ := bd_s h
    refine go_callV (x := 635) (mi := 257) (n := 3) (ci := 13) (as := [v_358, v_371, v_373]) (rest := []) (by decide +kernel) (by decide +kernel) rfl rfl (q_sum8 _ (Nat.le_of_ble_eq_true rfl)) R_365 f_361 (fx_k (c := 13) R_365 (by decide +kernel)) (om_X12_closes (Nat.le_trans (by decide) hd) R_365 f_361 f_362 f_372 f_374 hc_375) (fun _ S_380 q_383 => ?_) (fun _ _ qq => kr_x qq)
    refine kr_v q_383 fun R_381 E_382 => ?_
    have E_386 := Ext.tr E_368 E_382
    cases h
    exact go_vret (by decide +kernel) rfl (hQ E_386 _ _ R_381 q_out_n)
  · have h := it_n hp_8 h
    refine go_aload_n (n := 0) (by decide +kernel) l0 f0 ?_
    refine go_getf (x := 52) (ci := 13) (kf := 16) (fin := 1) (t := 2) (by decide +kernel) (by decide +kernel) (by decide +kernel) R f0 (fx_k (c := 13) R (by decide +kernel)) fun v_387 f_388 => ?_
    have f_389 := q_is_eq (b := 83) f_388 (fx_v R (by decide +kernel)).symm
    refine go_iload_n (n := 1) (by decide +kernel) l1 f1 ?_
    refine go_iconst (n := 2) (z := 2) (by decide +kernel) (by decide) fun v_390 f_391 => ?_
    obtain ⟨g_392, h⟩ := gd_s h
    obtain ⟨m_393, e_394, h⟩ := up_s h
    refine go_iast (kd := 100) (by decide +kernel) rfl R f_389 f1 f_391 (fx_k (c := 100) R (by decide +kernel)) (fx_x (a := 83) (ln := 30) R (by decide +kernel) g_392) e_394 (fx_a R.2 (fx_k (c := 100) R (by decide +kernel)) (And.left (fx_x (a := 83) (ln := 30) R (by decide +kernel) g_392)) (by decide +kernel)) fun S_395 R_396 E_397 => ?_
    have E_399 := E_397
    refine go_aload_n (n := 0) (by decide +kernel) l0 f0 ?_
    refine go_iload_n (n := 1) (by decide +kernel) l1 f1 ?_
    refine go_iconst (n := 1) (z := 1) (by decide +kernel) (by decide) fun v_400 f_401 => ?_
    refine go_iconst (n := 0) (z := 0) (by decide +kernel) (by decide) fun v_402 f_403 => ?_
    obtain ⟨x_405, m_406, hc_404, h⟩ := bd_s h
    refine go_callV (x := 635) (mi := 257) (n := 3) (ci := 13) (as := [v1, v_400, v_402]) (rest := []) (by decide +kernel) (by decide +kernel) rfl rfl (q_sum8 _ (Nat.le_of_ble_eq_true rfl)) R_396 f0 (fx_k (c := 13) R_396 (by decide +kernel)) (om_X12_closes (Nat.le_trans (by decide) hd) R_396 f0 f1 f_401 f_403 hc_404) (fun _ S_409 q_412 => ?_) (fun _ _ qq => kr_x qq)
    refine kr_v q_412 fun R_410 E_411 => ?_
    have E_415 := Ext.tr E_399 E_411
    cases h
    exact go_vret (by decide +kernel) rfl (hQ E_415 _ _ R_410 q_out_n)
noncomputable def fj_X12_carriesOut_207 (y1 s0 s1 : Int) (m : MM) : Option (Int × MM) := gd (0 ≤ s1 ∧ s1 < 30) <| up m 83 s1 s0 fun m_49 =>
bd (fm_X12_closes y1 1 0 m_49) fun x_61 m_62 =>
some (0, m_62)
set_option maxHeartbeats 4000000 in
theorem oj_X12_carriesOut_207 {xs : List Int32} {d : Nat} {S : QS} {L : QL} {Q : QO → QS → Prop} {m : MM} {y1 s0 s1 : Int} {v0 : Value} {v1 : Value} {w0 : Value} {w1 : Value} {w2 : Value}  {rz : Int} {rm : MM}
  (hd : 6 ≤ d) (R : Rp S m) (l0 : q_lo L 0 = some v0) (f0 : q_is 2 v0 68) (l1 : q_lo L 1 = some v1) (f1 : q_is 0 v1 y1) (fs0 : q_is 0 w0 s0) (fs1 : q_is 0 w1 s1) (fs2 : q_is 2 w2 83)
  (hQ : Ext m rm → ∀ o S1, Rp S1 rm → q_out 9 o rz → Q o S1)
  (h : fj_X12_carriesOut_207 y1 s0 s1 m = some (rz, rm)) : Go xs d qM_X12_carriesOut 207 L [w0, w1, w2] S Q := by
  unfold fj_X12_carriesOut_207 at h
  obtain ⟨g_48, h⟩ := gd_s h
  obtain ⟨m_49, e_50, h⟩ := up_s h
  refine go_iast (kd := 100) (by decide +kernel) rfl R fs2 fs1 fs0 (fx_k (c := 100) R (by decide +kernel)) (fx_x (a := 83) (ln := 30) R (by decide +kernel) g_48) e_50 (fx_a R.2 (fx_k (c := 100) R (by decide +kernel)) (And.left (fx_x (a := 83) (ln := 30) R (by decide +kernel) g_48)) (by decide +kernel)) fun S_51 R_52 E_53 => ?_
  have E_55 := E_53
  refine go_aload_n (n := 0) (by decide +kernel) l0 f0 ?_
  refine go_iload_n (n := 1) (by decide +kernel) l1 f1 ?_
  refine go_iconst (n := 1) (z := 1) (by decide +kernel) (by decide) fun v_56 f_57 => ?_
  refine go_iconst (n := 0) (z := 0) (by decide +kernel) (by decide) fun v_58 f_59 => ?_
  obtain ⟨x_61, m_62, hc_60, h⟩ := bd_s h
  refine go_callV (x := 635) (mi := 257) (n := 3) (ci := 13) (as := [v1, v_56, v_58]) (rest := []) (by decide +kernel) (by decide +kernel) rfl rfl (q_sum8 _ (Nat.le_of_ble_eq_true rfl)) R_52 f0 (fx_k (c := 13) R_52 (by decide +kernel)) (om_X12_closes (Nat.le_trans (by decide) hd) R_52 f0 f1 f_57 f_59 hc_60) (fun _ S_65 q_68 => ?_) (fun _ _ qq => kr_x qq)
  refine kr_v q_68 fun R_66 E_67 => ?_
  have E_71 := Ext.tr E_55 E_67
  refine go_goto (o := 16) (t := 231) (by decide +kernel) (by decide +kernel) ?_
  cases h
  exact go_vret (by decide +kernel) rfl (hQ E_71 _ _ R_66 q_out_n)
noncomputable def fj_X12_carriesOut_66 (y1 y2 : Int) (m : MM) : Option (Int × MM) := bd (fm_X12_puts y1 6 y2 0 m) fun x_164 m_165 =>
some (0, m_165)
set_option maxHeartbeats 4000000 in
theorem oj_X12_carriesOut_66 {xs : List Int32} {d : Nat} {S : QS} {L : QL} {Q : QO → QS → Prop} {m : MM} {y1 y2 : Int} {v0 : Value} {v1 : Value} {v2 : Value}  {rz : Int} {rm : MM}
  (hd : 6 ≤ d) (R : Rp S m) (l0 : q_lo L 0 = some v0) (f0 : q_is 2 v0 68) (l1 : q_lo L 1 = some v1) (f1 : q_is 0 v1 y1) (l2 : q_lo L 2 = some v2) (f2 : q_is 0 v2 y2)
  (hQ : Ext m rm → ∀ o S1, Rp S1 rm → q_out 9 o rz → Q o S1)
  (h : fj_X12_carriesOut_66 y1 y2 m = some (rz, rm)) : Go xs d qM_X12_carriesOut 66 L [] S Q := by
  unfold fj_X12_carriesOut_66 at h
  refine go_aload_n (n := 0) (by decide +kernel) l0 f0 ?_
  refine go_iload_n (n := 1) (by decide +kernel) l1 f1 ?_
  refine go_bipush (n := 6) (z := 6) (by decide +kernel) (by decide) fun v_159 f_160 => ?_
  refine go_iload_n (n := 2) (by decide +kernel) l2 f2 ?_
  refine go_iconst (n := 0) (z := 0) (by decide +kernel) (by decide) fun v_161 f_162 => ?_
  obtain ⟨x_164, m_165, hc_163, h⟩ := bd_s h
  refine go_callV (x := 360) (mi := 210) (n := 4) (ci := 13) (as := [v1, v_159, v2, v_161]) (rest := []) (by decide +kernel) (by decide +kernel) rfl rfl (q_sum8 _ (Nat.le_of_ble_eq_true rfl)) R f0 (fx_k (c := 13) R (by decide +kernel)) (om_X12_puts (Nat.le_trans (by decide) hd) R f0 f1 f_160 f2 f_162 hc_163) (fun _ S_168 q_171 => ?_) (fun _ _ qq => kr_x qq)
  refine kr_z (by decide) q_171 fun v_166 f_167 R_169 E_170 => ?_
  have E_174 := E_170
  refine go_pop (by decide +kernel) f_167 (Or.inl rfl) ?_
  refine go_goto (o := 155) (t := 231) (by decide +kernel) (by decide +kernel) ?_
  cases h
  exact go_vret (by decide +kernel) rfl (hQ E_174 _ _ R_169 q_out_n)
noncomputable def fm_X12_carriesOut (p1 p2 p3 p4 p5 : Int) (m0 : MM) : Option (Int × MM) := if p3 = 8 then
bd (fm_X12_makesActivity p1 p2 p4 p5 m0) fun x_236 m_237 =>
some (0, m_237)
else
if p3 = 9 then
lx (m0 68 0) fun x_219 =>
bd (fm_X12_makesTimer p1 p2 (w32 (x_219 + p4)) m0) fun x_224 m_225 =>
some (0, m_225)
else
if p3 = 10 then
lx (m0 68 12) fun x_154 =>
if x_154 = 30 then
fj_X12_carriesOut_66 p1 p2 m0
else
gd (0 ≤ p4 ∧ p4 < 4) <| lx (m0 69 p4) fun x_182 =>
if x_182 = 0 then
fj_X12_carriesOut_66 p1 p2 m0
else
gd (0 ≤ p1 ∧ p1 < 30) <| lx (m0 81 p1) fun x_192 =>
bd (fm_X12_makes p4 x_192 (w32 (x_182 - 1)) p5 p1 p2 m0) fun x_205 m_206 =>
some (0, m_206)
else
if p3 = 11 then
bd (fm_X12_drops p1 p4 m0) fun x_140 m_141 =>
some (0, m_141)
else
if p3 = 13 then
lx (m0 68 80) fun x_107 =>
gd (0 ≤ x_107 ∧ x_107 < 1048576) <| up m0 137 x_107 (w32 ((w32 (1000 * p1)) + p4)) fun m_116 =>
lx (m_116 68 80) fun x_126 =>
up m_116 68 80 (w32 (x_126 + 1)) fun m_132 =>
some (0, m_132)
else
if p3 = 14 then
gd (0 ≤ p1 ∧ p1 < 30) <| up m0 83 p1 1 fun m_80 =>
bd (fm_X12_closes p1 1 p4 m_80) fun x_90 m_91 =>
some (0, m_91)
else
if p3 = 15 then
lx (m0 68 111) fun x_43 =>
if x_43 = 0 then
fj_X12_carriesOut_207 p1 2 p1 m0
else
fj_X12_carriesOut_207 p1 3 p1 m0
else
if p3 = 16 then
bd (fm_X12_goesOnAsNew p1 p4 m0) fun x_26 m_27 =>
some (0, m_27)
else
some (0, m0)
set_option maxHeartbeats 4000000 in
theorem om_X12_carriesOut {xs : List Int32} {d : Nat} {S : QS} {m0 : MM} {p1 p2 p3 p4 p5 : Int} {v0 : Value} {v1 : Value} {v2 : Value} {v3 : Value} {v4 : Value} {v5 : Value} {rz : Int} {rm : MM}
  (hd : 7 ≤ d) (R : Rp S m0) (f0 : q_is 2 v0 68) (f1 : q_is 0 v1 p1) (f2 : q_is 0 v2 p2) (f3 : q_is 0 v3 p3) (f4 : q_is 0 v4 p4) (f5 : q_is 0 v5 p5)
  (h : fm_X12_carriesOut p1 p2 p3 p4 p5 m0 = some (rz, rm)) : Mt xs d 280 [v0, v1, v2, v3, v4, v5] S (Cr 9 m0 rm rz) := by
  obtain ⟨d, rfl⟩ : ∃ e, d = e + 1 := ⟨d - 1, by omega⟩
  have hd : 6 ≤ d := Nat.le_of_succ_le_succ hd
  refine Mt.of (M := qM_X12_carriesOut) rfl (by rw [sl_1 (q_is_cat f0 (Or.inr rfl)), sl_1 (q_is_cat f1 (Or.inl rfl)), sl_1 (q_is_cat f2 (Or.inl rfl)), sl_1 (q_is_cat f3 (Or.inl rfl)), sl_1 (q_is_cat f4 (Or.inl rfl)), sl_1 (q_is_cat f5 (Or.inl rfl)), sl_0]; decide) ?_
  rw [la_1 (q_is_cat f0 (Or.inr rfl)), la_1 (q_is_cat f1 (Or.inl rfl)), la_1 (q_is_cat f2 (Or.inl rfl)), la_1 (q_is_cat f3 (Or.inl rfl)), la_1 (q_is_cat f4 (Or.inl rfl)), la_1 (q_is_cat f5 (Or.inl rfl)), la_0]
  obtain ⟨L, hL⟩ : ∃ L : QL, L = [(0, v0), (0 + 1, v1), (0 + 1 + 1, v2), (0 + 1 + 1 + 1, v3), (0 + 1 + 1 + 1 + 1, v4), (0 + 1 + 1 + 1 + 1 + 1, v5)] := ⟨_, rfl⟩
  rw [← hL]
  have l0 : q_lo L 0 = some v0 := by rw [hL]; rfl
  have l1 : q_lo L 1 = some v1 := by rw [hL]; rfl
  have l2 : q_lo L 2 = some v2 := by rw [hL]; rfl
  have l3 : q_lo L 3 = some v3 := by rw [hL]; rfl
  have l4 : q_lo L 4 = some v4 := by rw [hL]; rfl
  have l5 : q_lo L 5 = some v5 := by rw [hL]; rfl
  have hQ : Ext m0 rm → ∀ o S1, Rp S1 rm → q_out 9 o rz → (Cr 9 m0 rm rz) o S1 := fun a o S1 b e => ⟨b, a, e⟩
  unfold fm_X12_carriesOut at h
  refine go_iload_n (n := 3) (by decide +kernel) l3 f3 ?_
  refine go_bipush (n := 8) (z := 8) (by decide +kernel) (by decide) fun v_1 f_2 => ?_
  refine go_icmp (c := .ne) (o := 16) (t := 19) (P := ¬ (p3 = 8)) (by decide +kernel) (by decide +kernel) f3 f_2 (Iff.rfl) (fun hp_3 => ?_) (fun hp_3 => ?_)
  · have h := it_f hp_3 h
    refine go_iload_n (n := 3) (by decide +kernel) l3 f3 ?_
    refine go_bipush (n := 9) (z := 9) (by decide +kernel) (by decide) fun v_4 f_5 => ?_
    refine go_icmp (c := .ne) (o := 19) (t := 41) (P := ¬ (p3 = 9)) (by decide +kernel) (by decide +kernel) f3 f_5 (Iff.rfl) (fun hp_6 => ?_) (fun hp_6 => ?_)
    · have h := it_f hp_6 h
      refine go_iload_n (n := 3) (by decide +kernel) l3 f3 ?_
      refine go_bipush (n := 10) (z := 10) (by decide +kernel) (by decide) fun v_7 f_8 => ?_
      refine go_icmp (c := .ne) (o := 64) (t := 108) (P := ¬ (p3 = 10)) (by decide +kernel) (by decide +kernel) f3 f_8 (Iff.rfl) (fun hp_9 => ?_) (fun hp_9 => ?_)
      · have h := it_f hp_9 h
        refine go_iload_n (n := 3) (by decide +kernel) l3 f3 ?_
        refine go_bipush (n := 11) (z := 11) (by decide +kernel) (by decide) fun v_10 f_11 => ?_
        refine go_icmp (c := .ne) (o := 13) (t := 124) (P := ¬ (p3 = 11)) (by decide +kernel) (by decide +kernel) f3 f_11 (Iff.rfl) (fun hp_12 => ?_) (fun hp_12 => ?_)
        · have h := it_f hp_12 h
          refine go_iload_n (n := 3) (by decide +kernel) l3 f3 ?_
          refine go_bipush (n := 13) (z := 13) (by decide +kernel) (by decide) fun v_13 f_14 => ?_
          refine go_icmp (c := .ne) (o := 33) (t := 160) (P := ¬ (p3 = 13)) (by decide +kernel) (by decide +kernel) f3 f_14 (Iff.rfl) (fun hp_15 => ?_) (fun hp_15 => ?_)
          · have h := it_f hp_15 h
            refine go_iload_n (n := 3) (by decide +kernel) l3 f3 ?_
            refine go_bipush (n := 14) (z := 14) (by decide +kernel) (by decide) fun v_16 f_17 => ?_
            refine go_icmp (c := .ne) (o := 21) (t := 184) (P := ¬ (p3 = 14)) (by decide +kernel) (by decide +kernel) f3 f_17 (Iff.rfl) (fun hp_18 => ?_) (fun hp_18 => ?_)
            · have h := it_f hp_18 h
              refine go_iload_n (n := 3) (by decide +kernel) l3 f3 ?_
              refine go_bipush (n := 15) (z := 15) (by decide +kernel) (by decide) fun v_19 f_20 => ?_
              refine go_icmp (c := .ne) (o := 31) (t := 218) (P := ¬ (p3 = 15)) (by decide +kernel) (by decide +kernel) f3 f_20 (Iff.rfl) (fun hp_21 => ?_) (fun hp_21 => ?_)
              · have h := it_f hp_21 h
                refine go_iload_n (n := 3) (by decide +kernel) l3 f3 ?_
                refine go_bipush (n := 16) (z := 16) (by decide +kernel) (by decide) fun v_22 f_23 => ?_
                refine go_icmp (c := .ne) (o := 10) (t := 231) (P := ¬ (p3 = 16)) (by decide +kernel) (by decide +kernel) f3 f_23 (Iff.rfl) (fun hp_24 => ?_) (fun hp_24 => ?_)
                · have h := it_f hp_24 h
                  cases h
                  exact go_vret (by decide +kernel) rfl (hQ (Ext.rf _) _ _ R q_out_n)
                · have h := it_n hp_24 h
                  refine go_aload_n (n := 0) (by decide +kernel) l0 f0 ?_
                  refine go_iload_n (n := 1) (by decide +kernel) l1 f1 ?_
                  refine go_iload (n := 4) (by decide +kernel) l4 f4 ?_
                  obtain ⟨x_26, m_27, hc_25, h⟩ := bd_s h
                  refine go_callV (x := 639) (mi := 281) (n := 2) (ci := 13) (as := [v1, v4]) (rest := []) (by decide +kernel) (by decide +kernel) rfl rfl (q_sum8 _ (Nat.le_of_ble_eq_true rfl)) R f0 (fx_k (c := 13) R (by decide +kernel)) (om_X12_goesOnAsNew (Nat.le_trans (by decide) hd) R f0 f1 f4 hc_25) (fun _ S_30 q_33 => ?_) (fun _ _ qq => kr_x qq)
                  refine kr_v q_33 fun R_31 E_32 => ?_
                  have E_36 := E_32
                  cases h
                  exact go_vret (by decide +kernel) rfl (hQ E_36 _ _ R_31 q_out_n)
              · have h := it_n hp_21 h
                refine go_aload_n (n := 0) (by decide +kernel) l0 f0 ?_
                refine go_getf (x := 52) (ci := 13) (kf := 16) (fin := 1) (t := 2) (by decide +kernel) (by decide +kernel) (by decide +kernel) R f0 (fx_k (c := 13) R (by decide +kernel)) fun v_37 f_38 => ?_
                have f_39 := q_is_eq (b := 83) f_38 (fx_v R (by decide +kernel)).symm
                refine go_iload_n (n := 1) (by decide +kernel) l1 f1 ?_
                refine go_aload_n (n := 0) (by decide +kernel) l0 f0 ?_
                obtain ⟨x_43, e_44, h⟩ := lx_s h
                refine go_getf (x := 518) (ci := 13) (kf := 111) (fin := 0) (t := 0) (by decide +kernel) (by decide +kernel) (by decide +kernel) R f0 (fx_k (c := 13) R (by decide +kernel)) fun v_40 f_41 => ?_
                have f_42 := q_is_eq f_41 e_44
                refine go_if (c := .eq) (o := 7) (t := 206) (P := x_43 = 0) (by decide +kernel) (by decide +kernel) f_42 (Iff.rfl) (fun hp_45 => ?_) (fun hp_45 => ?_)
                · have h := it_t hp_45 h
                  refine go_iconst (n := 2) (z := 2) (by decide +kernel) (by decide) fun v_46 f_47 => ?_
                  exact oj_X12_carriesOut_207 hd R l0 f0 l1 f1 f_47 f1 f_39 hQ h
                · have h := it_f hp_45 h
                  refine go_iconst (n := 3) (z := 3) (by decide +kernel) (by decide) fun v_72 f_73 => ?_
                  refine go_goto (o := 4) (t := 207) (by decide +kernel) (by decide +kernel) ?_
                  exact oj_X12_carriesOut_207 hd R l0 f0 l1 f1 f_73 f1 f_39 hQ h
            · have h := it_n hp_18 h
              refine go_aload_n (n := 0) (by decide +kernel) l0 f0 ?_
              refine go_getf (x := 52) (ci := 13) (kf := 16) (fin := 1) (t := 2) (by decide +kernel) (by decide +kernel) (by decide +kernel) R f0 (fx_k (c := 13) R (by decide +kernel)) fun v_74 f_75 => ?_
              have f_76 := q_is_eq (b := 83) f_75 (fx_v R (by decide +kernel)).symm
              refine go_iload_n (n := 1) (by decide +kernel) l1 f1 ?_
              refine go_iconst (n := 1) (z := 1) (by decide +kernel) (by decide) fun v_77 f_78 => ?_
              obtain ⟨g_79, h⟩ := gd_s h
              obtain ⟨m_80, e_81, h⟩ := up_s h
              refine go_iast (kd := 100) (by decide +kernel) rfl R f_76 f1 f_78 (fx_k (c := 100) R (by decide +kernel)) (fx_x (a := 83) (ln := 30) R (by decide +kernel) g_79) e_81 (fx_a R.2 (fx_k (c := 100) R (by decide +kernel)) (And.left (fx_x (a := 83) (ln := 30) R (by decide +kernel) g_79)) (by decide +kernel)) fun S_82 R_83 E_84 => ?_
              have E_86 := E_84
              refine go_aload_n (n := 0) (by decide +kernel) l0 f0 ?_
              refine go_iload_n (n := 1) (by decide +kernel) l1 f1 ?_
              refine go_iconst (n := 1) (z := 1) (by decide +kernel) (by decide) fun v_87 f_88 => ?_
              refine go_iload (n := 4) (by decide +kernel) l4 f4 ?_
              obtain ⟨x_90, m_91, hc_89, h⟩ := bd_s h
              refine go_callV (x := 635) (mi := 257) (n := 3) (ci := 13) (as := [v1, v_87, v4]) (rest := []) (by decide +kernel) (by decide +kernel) rfl rfl (q_sum8 _ (Nat.le_of_ble_eq_true rfl)) R_83 f0 (fx_k (c := 13) R_83 (by decide +kernel)) (om_X12_closes (Nat.le_trans (by decide) hd) R_83 f0 f1 f_88 f4 hc_89) (fun _ S_94 q_97 => ?_) (fun _ _ qq => kr_x qq)
              refine kr_v q_97 fun R_95 E_96 => ?_
              have E_100 := Ext.tr E_86 E_96
              refine go_goto (o := 50) (t := 231) (by decide +kernel) (by decide +kernel) ?_
              cases h
              exact go_vret (by decide +kernel) rfl (hQ E_100 _ _ R_95 q_out_n)
          · have h := it_n hp_15 h
            refine go_aload_n (n := 0) (by decide +kernel) l0 f0 ?_
            refine go_getf (x := 226) (ci := 13) (kf := 81) (fin := 1) (t := 2) (by decide +kernel) (by decide +kernel) (by decide +kernel) R f0 (fx_k (c := 13) R (by decide +kernel)) fun v_101 f_102 => ?_
            have f_103 := q_is_eq (b := 137) f_102 (fx_v R (by decide +kernel)).symm
            refine go_aload_n (n := 0) (by decide +kernel) l0 f0 ?_
            obtain ⟨x_107, e_108, h⟩ := lx_s h
            refine go_getf (x := 632) (ci := 13) (kf := 80) (fin := 0) (t := 0) (by decide +kernel) (by decide +kernel) (by decide +kernel) R f0 (fx_k (c := 13) R (by decide +kernel)) fun v_104 f_105 => ?_
            have f_106 := q_is_eq f_105 e_108
            refine go_sipush (n := 1000) (z := 1000) (by decide +kernel) (by decide) fun v_109 f_110 => ?_
            refine go_iload_n (n := 1) (by decide +kernel) l1 f1 ?_
            refine go_imul (by decide +kernel) f_110 f1 fun v_111 f_112 => ?_
            refine go_iload (n := 4) (by decide +kernel) l4 f4 ?_
            refine go_iadd (by decide +kernel) f_112 f4 fun v_113 f_114 => ?_
            obtain ⟨g_115, h⟩ := gd_s h
            obtain ⟨m_116, e_117, h⟩ := up_s h
            refine go_iast (kd := 100) (by decide +kernel) rfl R f_103 f_106 f_114 (fx_k (c := 100) R (by decide +kernel)) (fx_x (a := 137) (ln := 1048576) R (by decide +kernel) g_115) e_117 (fx_a R.2 (fx_k (c := 100) R (by decide +kernel)) (And.left (fx_x (a := 137) (ln := 1048576) R (by decide +kernel) g_115)) (by decide +kernel)) fun S_118 R_119 E_120 => ?_
            have E_122 := E_120
            refine go_aload_n (n := 0) (by decide +kernel) l0 f0 ?_
            refine go_dup (by decide +kernel) f0 (Or.inr rfl) ?_
            obtain ⟨x_126, e_127, h⟩ := lx_s h
            refine go_getf (x := 632) (ci := 13) (kf := 80) (fin := 0) (t := 0) (by decide +kernel) (by decide +kernel) (by decide +kernel) R_119 f0 (fx_k (c := 13) R_119 (by decide +kernel)) fun v_123 f_124 => ?_
            have f_125 := q_is_eq f_124 e_127
            refine go_iconst (n := 1) (z := 1) (by decide +kernel) (by decide) fun v_128 f_129 => ?_
            refine go_iadd (by decide +kernel) f_125 f_129 fun v_130 f_131 => ?_
            obtain ⟨m_132, e_133, h⟩ := up_s h
            refine go_putf (x := 632) (ci := 13) (kf := 80) (fin := 0) (zt := 0) (by decide +kernel) (by decide +kernel) (by decide) (by decide +kernel) (by decide) (Or.inl rfl) R_119 f0 f_131 (fun hq => absurd hq (by decide)) (fx_k (c := 13) R_119 (by decide +kernel)) e_133 (fx_f (j := 80) R_119.2 (fx_k (c := 13) R_119 (by decide +kernel)) (by decide +kernel)) fun S_134 R_135 E_136 => ?_
            have E_138 := Ext.tr E_122 E_136
            refine go_goto (o := 74) (t := 231) (by decide +kernel) (by decide +kernel) ?_
            cases h
            exact go_vret (by decide +kernel) rfl (hQ E_138 _ _ R_135 q_out_n)
        · have h := it_n hp_12 h
          refine go_aload_n (n := 0) (by decide +kernel) l0 f0 ?_
          refine go_iload_n (n := 1) (by decide +kernel) l1 f1 ?_
          refine go_iload (n := 4) (by decide +kernel) l4 f4 ?_
          obtain ⟨x_140, m_141, hc_139, h⟩ := bd_s h
          refine go_callV (x := 629) (mi := 255) (n := 2) (ci := 13) (as := [v1, v4]) (rest := []) (by decide +kernel) (by decide +kernel) rfl rfl (q_sum8 _ (Nat.le_of_ble_eq_true rfl)) R f0 (fx_k (c := 13) R (by decide +kernel)) (om_X12_drops (Nat.le_trans (by decide) hd) R f0 f1 f4 hc_139) (fun _ S_144 q_147 => ?_) (fun _ _ qq => kr_x qq)
          refine kr_v q_147 fun R_145 E_146 => ?_
          have E_150 := E_146
          refine go_goto (o := 110) (t := 231) (by decide +kernel) (by decide +kernel) ?_
          cases h
          exact go_vret (by decide +kernel) rfl (hQ E_150 _ _ R_145 q_out_n)
      · have h := it_n hp_9 h
        refine go_aload_n (n := 0) (by decide +kernel) l0 f0 ?_
        obtain ⟨x_154, e_155, h⟩ := lx_s h
        refine go_getf (x := 310) (ci := 13) (kf := 12) (fin := 0) (t := 0) (by decide +kernel) (by decide +kernel) (by decide +kernel) R f0 (fx_k (c := 13) R (by decide +kernel)) fun v_151 f_152 => ?_
        have f_153 := q_is_eq f_152 e_155
        refine go_bipush (n := 30) (z := 30) (by decide +kernel) (by decide) fun v_156 f_157 => ?_
        refine go_icmp (c := .eq) (o := 13) (t := 66) (P := x_154 = 30) (by decide +kernel) (by decide +kernel) f_153 f_157 (Iff.rfl) (fun hp_158 => ?_) (fun hp_158 => ?_)
        · have h := it_t hp_158 h
          exact oj_X12_carriesOut_66 hd R l0 f0 l1 f1 l2 f2 hQ h
        · have h := it_f hp_158 h
          refine go_aload_n (n := 0) (by decide +kernel) l0 f0 ?_
          refine go_getf (x := 7) (ci := 13) (kf := 1) (fin := 1) (t := 2) (by decide +kernel) (by decide +kernel) (by decide +kernel) R f0 (fx_k (c := 13) R (by decide +kernel)) fun v_175 f_176 => ?_
          have f_177 := q_is_eq (b := 69) f_176 (fx_v R (by decide +kernel)).symm
          refine go_iload (n := 4) (by decide +kernel) l4 f4 ?_
          obtain ⟨g_180, h⟩ := gd_s h
          obtain ⟨x_182, e_183, h⟩ := lx_s h
          refine go_iald (kd := 100) (by decide +kernel) rfl R f_177 f4 (fx_k (c := 100) R (by decide +kernel)) (fx_x (a := 69) (ln := 4) R (by decide +kernel) g_180) fun v_178 f_179 => ?_
          have f_181 := q_is_eq f_179 e_183
          refine go_if (c := .ne) (o := 16) (t := 79) (P := ¬ (x_182 = 0)) (by decide +kernel) (by decide +kernel) f_181 (Iff.rfl) (fun hp_184 => ?_) (fun hp_184 => ?_)
          · have h := it_f hp_184 h
            refine go_aload_n (n := 0) (by decide +kernel) l0 f0 ?_
            refine go_iload (n := 4) (by decide +kernel) l4 f4 ?_
            refine go_aload_n (n := 0) (by decide +kernel) l0 f0 ?_
            refine go_getf (x := 46) (ci := 13) (kf := 14) (fin := 1) (t := 2) (by decide +kernel) (by decide +kernel) (by decide +kernel) R f0 (fx_k (c := 13) R (by decide +kernel)) fun v_185 f_186 => ?_
            have f_187 := q_is_eq (b := 81) f_186 (fx_v R (by decide +kernel)).symm
            refine go_iload_n (n := 1) (by decide +kernel) l1 f1 ?_
            obtain ⟨g_190, h⟩ := gd_s h
            obtain ⟨x_192, e_193, h⟩ := lx_s h
            refine go_iald (kd := 100) (by decide +kernel) rfl R f_187 f1 (fx_k (c := 100) R (by decide +kernel)) (fx_x (a := 81) (ln := 30) R (by decide +kernel) g_190) fun v_188 f_189 => ?_
            have f_191 := q_is_eq f_189 e_193
            refine go_aload_n (n := 0) (by decide +kernel) l0 f0 ?_
            refine go_getf (x := 7) (ci := 13) (kf := 1) (fin := 1) (t := 2) (by decide +kernel) (by decide +kernel) (by decide +kernel) R f0 (fx_k (c := 13) R (by decide +kernel)) fun v_194 f_195 => ?_
            have f_196 := q_is_eq (b := 69) f_195 (fx_v R (by decide +kernel)).symm
            refine go_iload (n := 4) (by decide +kernel) l4 f4 ?_
            refine go_iald (kd := 100) (by decide +kernel) rfl R f_196 f4 (fx_k (c := 100) R (by decide +kernel)) (fx_x (a := 69) (ln := 4) R (by decide +kernel) g_180) fun v_197 f_198 => ?_
            have f_199 := q_is_eq f_198 e_183
            refine go_iconst (n := 1) (z := 1) (by decide +kernel) (by decide) fun v_200 f_201 => ?_
            refine go_isub (by decide +kernel) f_199 f_201 fun v_202 f_203 => ?_
            refine go_iload (n := 5) (by decide +kernel) l5 f5 ?_
            refine go_iload_n (n := 1) (by decide +kernel) l1 f1 ?_
            refine go_iload_n (n := 2) (by decide +kernel) l2 f2 ?_
            obtain ⟨x_205, m_206, hc_204, h⟩ := bd_s h
            refine go_callV (x := 576) (mi := 212) (n := 6) (ci := 13) (as := [v4, v_188, v_202, v5, v1, v2]) (rest := []) (by decide +kernel) (by decide +kernel) rfl rfl (q_sum8 _ (Nat.le_of_ble_eq_true rfl)) R f0 (fx_k (c := 13) R (by decide +kernel)) (om_X12_makes (Nat.le_trans (by decide) hd) R f0 f4 f_191 f_203 f5 f1 f2 hc_204) (fun _ S_209 q_212 => ?_) (fun _ _ qq => kr_x qq)
            refine kr_z (by decide) q_212 fun v_207 f_208 R_210 E_211 => ?_
            have E_215 := E_211
            refine go_pop (by decide +kernel) f_208 (Or.inl rfl) ?_
            refine go_goto (o := 126) (t := 231) (by decide +kernel) (by decide +kernel) ?_
            cases h
            exact go_vret (by decide +kernel) rfl (hQ E_215 _ _ R_210 q_out_n)
          · have h := it_n hp_184 h
            exact oj_X12_carriesOut_66 hd R l0 f0 l1 f1 l2 f2 hQ h
    · have h := it_n hp_6 h
      refine go_aload_n (n := 0) (by decide +kernel) l0 f0 ?_
      refine go_iload_n (n := 1) (by decide +kernel) l1 f1 ?_
      refine go_iload_n (n := 2) (by decide +kernel) l2 f2 ?_
      refine go_aload_n (n := 0) (by decide +kernel) l0 f0 ?_
      obtain ⟨x_219, e_220, h⟩ := lx_s h
      refine go_getf (x := 357) (ci := 13) (kf := 0) (fin := 0) (t := 0) (by decide +kernel) (by decide +kernel) (by decide +kernel) R f0 (fx_k (c := 13) R (by decide +kernel)) fun v_216 f_217 => ?_
      have f_218 := q_is_eq f_217 e_220
      refine go_iload (n := 4) (by decide +kernel) l4 f4 ?_
      refine go_iadd (by decide +kernel) f_218 f4 fun v_221 f_222 => ?_
      obtain ⟨x_224, m_225, hc_223, h⟩ := bd_s h
      refine go_callV (x := 626) (mi := 252) (n := 3) (ci := 13) (as := [v1, v2, v_221]) (rest := []) (by decide +kernel) (by decide +kernel) rfl rfl (q_sum8 _ (Nat.le_of_ble_eq_true rfl)) R f0 (fx_k (c := 13) R (by decide +kernel)) (om_X12_makesTimer (Nat.le_trans (by decide) hd) R f0 f1 f2 f_222 hc_223) (fun _ S_228 q_231 => ?_) (fun _ _ qq => kr_x qq)
      refine kr_v q_231 fun R_229 E_230 => ?_
      have E_234 := E_230
      refine go_goto (o := 193) (t := 231) (by decide +kernel) (by decide +kernel) ?_
      cases h
      exact go_vret (by decide +kernel) rfl (hQ E_234 _ _ R_229 q_out_n)
  · have h := it_n hp_3 h
    refine go_aload_n (n := 0) (by decide +kernel) l0 f0 ?_
    refine go_iload_n (n := 1) (by decide +kernel) l1 f1 ?_
    refine go_iload_n (n := 2) (by decide +kernel) l2 f2 ?_
    refine go_iload (n := 4) (by decide +kernel) l4 f4 ?_
    refine go_iload (n := 5) (by decide +kernel) l5 f5 ?_
    obtain ⟨x_236, m_237, hc_235, h⟩ := bd_s h
    refine go_callV (x := 623) (mi := 251) (n := 4) (ci := 13) (as := [v1, v2, v4, v5]) (rest := []) (by decide +kernel) (by decide +kernel) rfl rfl (q_sum8 _ (Nat.le_of_ble_eq_true rfl)) R f0 (fx_k (c := 13) R (by decide +kernel)) (om_X12_makesActivity (Nat.le_trans (by decide) hd) R f0 f1 f2 f4 f5 hc_235) (fun _ S_240 q_243 => ?_) (fun _ _ qq => kr_x qq)
    refine kr_v q_243 fun R_241 E_242 => ?_
    have E_246 := E_242
    refine go_goto (o := 215) (t := 231) (by decide +kernel) (by decide +kernel) ?_
    cases h
    exact go_vret (by decide +kernel) rfl (hQ E_246 _ _ R_241 q_out_n)
end DF39
