/-! Methods as functions (written by wip/whole/dec.py), 39: X12_isStale, X12_hasState, X12_goesOnAsNew, X12_carriesOut. -/
section DF39
noncomputable def fm_X12_isStale (p1 : Int) (m0 : MM) : Option Int := gd (0 ≤ p1 ∧ p1 < 4096) <| lx (m0 113 p1) fun x_8 =>
lx (m0 119 p1) fun x_21 =>
if x_21 = 0 then
gd (0 ≤ x_8 ∧ x_8 < 30) <| lx (m0 83 x_8) fun x_33 =>
if x_33 = 0 then
lx (m0 116 p1) fun x_44 =>
lx (m0 90 x_8) fun x_52 =>
if x_44 = x_52 then
lx (m0 117 p1) fun x_63 =>
lx (m0 82 x_8) fun x_71 =>
if x_63 = x_71 then
lx (m0 118 p1) fun x_82 =>
lx (m0 93 x_8) fun x_90 =>
if x_82 = x_90 then
some 0
else
some 1
else
some 1
else
some 1
else
some 1
else
some 1
set_option maxHeartbeats 4000000 in
theorem om_X12_isStale {xs : List Int32} {d : Nat} {S : QS} {m0 : MM} {p1 : Int} {v0 : Value} {v1 : Value} {rz : Int}
  (hd : 1 ≤ d) (R : Rp S m0) (f0 : q_is 2 v0 68) (f1 : q_is 0 v1 p1)
  (h : fm_X12_isStale p1 m0 = some rz) : Mt xs d 277 [v0, v1] S (Cr 0 m0 m0 rz) := by
  obtain ⟨d, rfl⟩ : ∃ e, d = e + 1 := ⟨d - 1, by omega⟩
  have hd : 0 ≤ d := Nat.le_of_succ_le_succ hd
  refine Mt.of (M := qM_X12_isStale) rfl (by rw [sl_1 (q_is_cat f0 (Or.inr rfl)), sl_1 (q_is_cat f1 (Or.inl rfl)), sl_0]; decide) ?_
  rw [la_1 (q_is_cat f0 (Or.inr rfl)), la_1 (q_is_cat f1 (Or.inl rfl)), la_0]
  obtain ⟨L, hL⟩ : ∃ L : QL, L = [(0, v0), (0 + 1, v1)] := ⟨_, rfl⟩
  rw [← hL]
  have l0 : q_lo L 0 = some v0 := by rw [hL]; rfl
  have l1 : q_lo L 1 = some v1 := by rw [hL]; rfl
  have hQ : ∀ o S1, Rp S1 m0 → q_out 0 o rz → (Cr 0 m0 m0 rz) o S1 := fun o S1 a b => ⟨a, Ext.rf _, b⟩
  unfold fm_X12_isStale at h
  refine go_aload_n (n := 0) (by decide +kernel) l0 f0 ?_
  refine go_getf (x := 152) (ci := 13) (kf := 53) (fin := 1) (t := 2) (by decide +kernel) (by decide +kernel) (by decide +kernel) R f0 (fx_k (c := 13) R (by decide +kernel)) fun v_1 f_2 => ?_
  have f_3 := q_is_eq (b := 113) f_2 (fx_v R (by decide +kernel)).symm
  refine go_iload_n (n := 1) (by decide +kernel) l1 f1 ?_
  obtain ⟨g_6, h⟩ := gd_s h
  obtain ⟨x_8, e_9, h⟩ := lx_s h
  refine go_iald (kd := 100) (by decide +kernel) rfl R f_3 f1 (fx_k (c := 100) R (by decide +kernel)) (fx_x (a := 113) (ln := 4096) R (by decide +kernel) g_6) fun v_4 f_5 => ?_
  have f_7 := q_is_eq f_5 e_9
  refine go_istore_n (n := 2) (by decide +kernel) (by decide +kernel) f_7 fun L_10 l_11 kp_12 => ?_
  have l_13 := kp_12 0 _ l0 (by decide) (Or.inl (by decide))
  have l_14 := kp_12 1 _ l1 (by decide) (Or.inr (q_is_cat f1 (Or.inl rfl)))
  refine go_aload_n (n := 0) (by decide +kernel) l_13 f0 ?_
  refine go_getf (x := 170) (ci := 13) (kf := 59) (fin := 1) (t := 2) (by decide +kernel) (by decide +kernel) (by decide +kernel) R f0 (fx_k (c := 13) R (by decide +kernel)) fun v_15 f_16 => ?_
  have f_17 := q_is_eq (b := 119) f_16 (fx_v R (by decide +kernel)).symm
  refine go_iload_n (n := 1) (by decide +kernel) l_14 f1 ?_
  obtain ⟨x_21, e_22, h⟩ := lx_s h
  refine go_bald (kd := 102) (by decide +kernel) rfl R f_17 f1 (fx_k (c := 102) R (by decide +kernel)) (fx_x (a := 119) (ln := 4096) R (by decide +kernel) g_6) fun v_18 f_19 => ?_
  have f_20 := q_is_eq f_19 e_22
  refine go_if (c := .ne) (o := 57) (t := 70) (P := ¬ (x_21 = 0)) (by decide +kernel) (by decide +kernel) f_20 (Iff.rfl) (fun hp_23 => ?_) (fun hp_23 => ?_)
  · have h := it_f hp_23 h
    refine go_iconst (n := 1) (z := 1) (by decide +kernel) (by decide) fun v_24 f_25 => ?_
    refine go_goto (o := 4) (t := 75) (by decide +kernel) (by decide +kernel) ?_
    cases h
    exact go_iret (by decide +kernel) rfl (Or.inr ⟨rfl, by decide⟩) f_25 (hQ _ _ R (q_out_v (by decide) f_25))
  · have h := it_n hp_23 h
    refine go_aload_n (n := 0) (by decide +kernel) l_13 f0 ?_
    refine go_getf (x := 52) (ci := 13) (kf := 16) (fin := 1) (t := 2) (by decide +kernel) (by decide +kernel) (by decide +kernel) R f0 (fx_k (c := 13) R (by decide +kernel)) fun v_26 f_27 => ?_
    have f_28 := q_is_eq (b := 83) f_27 (fx_v R (by decide +kernel)).symm
    refine go_iload_n (n := 2) (by decide +kernel) l_11 f_7 ?_
    obtain ⟨g_31, h⟩ := gd_s h
    obtain ⟨x_33, e_34, h⟩ := lx_s h
    refine go_iald (kd := 100) (by decide +kernel) rfl R f_28 f_7 (fx_k (c := 100) R (by decide +kernel)) (fx_x (a := 83) (ln := 30) R (by decide +kernel) g_31) fun v_29 f_30 => ?_
    have f_32 := q_is_eq f_30 e_34
    refine go_if (c := .ne) (o := 48) (t := 70) (P := ¬ (x_33 = 0)) (by decide +kernel) (by decide +kernel) f_32 (Iff.rfl) (fun hp_35 => ?_) (fun hp_35 => ?_)
    · have h := it_f hp_35 h
      refine go_iconst (n := 1) (z := 1) (by decide +kernel) (by decide) fun v_36 f_37 => ?_
      refine go_goto (o := 4) (t := 75) (by decide +kernel) (by decide +kernel) ?_
      cases h
      exact go_iret (by decide +kernel) rfl (Or.inr ⟨rfl, by decide⟩) f_37 (hQ _ _ R (q_out_v (by decide) f_37))
    · have h := it_n hp_35 h
      refine go_aload_n (n := 0) (by decide +kernel) l_13 f0 ?_
      refine go_getf (x := 161) (ci := 13) (kf := 56) (fin := 1) (t := 2) (by decide +kernel) (by decide +kernel) (by decide +kernel) R f0 (fx_k (c := 13) R (by decide +kernel)) fun v_38 f_39 => ?_
      have f_40 := q_is_eq (b := 116) f_39 (fx_v R (by decide +kernel)).symm
      refine go_iload_n (n := 1) (by decide +kernel) l_14 f1 ?_
      obtain ⟨x_44, e_45, h⟩ := lx_s h
      refine go_iald (kd := 100) (by decide +kernel) rfl R f_40 f1 (fx_k (c := 100) R (by decide +kernel)) (fx_x (a := 116) (ln := 4096) R (by decide +kernel) g_6) fun v_41 f_42 => ?_
      have f_43 := q_is_eq f_42 e_45
      refine go_aload_n (n := 0) (by decide +kernel) l_13 f0 ?_
      refine go_getf (x := 73) (ci := 13) (kf := 23) (fin := 1) (t := 2) (by decide +kernel) (by decide +kernel) (by decide +kernel) R f0 (fx_k (c := 13) R (by decide +kernel)) fun v_46 f_47 => ?_
      have f_48 := q_is_eq (b := 90) f_47 (fx_v R (by decide +kernel)).symm
      refine go_iload_n (n := 2) (by decide +kernel) l_11 f_7 ?_
      obtain ⟨x_52, e_53, h⟩ := lx_s h
      refine go_iald (kd := 100) (by decide +kernel) rfl R f_48 f_7 (fx_k (c := 100) R (by decide +kernel)) (fx_x (a := 90) (ln := 30) R (by decide +kernel) g_31) fun v_49 f_50 => ?_
      have f_51 := q_is_eq f_50 e_53
      refine go_icmp (c := .ne) (o := 33) (t := 70) (P := ¬ (x_44 = x_52)) (by decide +kernel) (by decide +kernel) f_43 f_51 (Iff.rfl) (fun hp_54 => ?_) (fun hp_54 => ?_)
      · have h := it_f hp_54 h
        refine go_iconst (n := 1) (z := 1) (by decide +kernel) (by decide) fun v_55 f_56 => ?_
        refine go_goto (o := 4) (t := 75) (by decide +kernel) (by decide +kernel) ?_
        cases h
        exact go_iret (by decide +kernel) rfl (Or.inr ⟨rfl, by decide⟩) f_56 (hQ _ _ R (q_out_v (by decide) f_56))
      · have h := it_n hp_54 h
        refine go_aload_n (n := 0) (by decide +kernel) l_13 f0 ?_
        refine go_getf (x := 164) (ci := 13) (kf := 57) (fin := 1) (t := 2) (by decide +kernel) (by decide +kernel) (by decide +kernel) R f0 (fx_k (c := 13) R (by decide +kernel)) fun v_57 f_58 => ?_
        have f_59 := q_is_eq (b := 117) f_58 (fx_v R (by decide +kernel)).symm
        refine go_iload_n (n := 1) (by decide +kernel) l_14 f1 ?_
        obtain ⟨x_63, e_64, h⟩ := lx_s h
        refine go_iald (kd := 100) (by decide +kernel) rfl R f_59 f1 (fx_k (c := 100) R (by decide +kernel)) (fx_x (a := 117) (ln := 4096) R (by decide +kernel) g_6) fun v_60 f_61 => ?_
        have f_62 := q_is_eq f_61 e_64
        refine go_aload_n (n := 0) (by decide +kernel) l_13 f0 ?_
        refine go_getf (x := 49) (ci := 13) (kf := 15) (fin := 1) (t := 2) (by decide +kernel) (by decide +kernel) (by decide +kernel) R f0 (fx_k (c := 13) R (by decide +kernel)) fun v_65 f_66 => ?_
        have f_67 := q_is_eq (b := 82) f_66 (fx_v R (by decide +kernel)).symm
        refine go_iload_n (n := 2) (by decide +kernel) l_11 f_7 ?_
        obtain ⟨x_71, e_72, h⟩ := lx_s h
        refine go_iald (kd := 100) (by decide +kernel) rfl R f_67 f_7 (fx_k (c := 100) R (by decide +kernel)) (fx_x (a := 82) (ln := 30) R (by decide +kernel) g_31) fun v_68 f_69 => ?_
        have f_70 := q_is_eq f_69 e_72
        refine go_icmp (c := .ne) (o := 18) (t := 70) (P := ¬ (x_63 = x_71)) (by decide +kernel) (by decide +kernel) f_62 f_70 (Iff.rfl) (fun hp_73 => ?_) (fun hp_73 => ?_)
        · have h := it_f hp_73 h
          refine go_iconst (n := 1) (z := 1) (by decide +kernel) (by decide) fun v_74 f_75 => ?_
          refine go_goto (o := 4) (t := 75) (by decide +kernel) (by decide +kernel) ?_
          cases h
          exact go_iret (by decide +kernel) rfl (Or.inr ⟨rfl, by decide⟩) f_75 (hQ _ _ R (q_out_v (by decide) f_75))
        · have h := it_n hp_73 h
          refine go_aload_n (n := 0) (by decide +kernel) l_13 f0 ?_
          refine go_getf (x := 167) (ci := 13) (kf := 58) (fin := 1) (t := 2) (by decide +kernel) (by decide +kernel) (by decide +kernel) R f0 (fx_k (c := 13) R (by decide +kernel)) fun v_76 f_77 => ?_
          have f_78 := q_is_eq (b := 118) f_77 (fx_v R (by decide +kernel)).symm
          refine go_iload_n (n := 1) (by decide +kernel) l_14 f1 ?_
          obtain ⟨x_82, e_83, h⟩ := lx_s h
          refine go_iald (kd := 100) (by decide +kernel) rfl R f_78 f1 (fx_k (c := 100) R (by decide +kernel)) (fx_x (a := 118) (ln := 4096) R (by decide +kernel) g_6) fun v_79 f_80 => ?_
          have f_81 := q_is_eq f_80 e_83
          refine go_aload_n (n := 0) (by decide +kernel) l_13 f0 ?_
          refine go_getf (x := 82) (ci := 13) (kf := 26) (fin := 1) (t := 2) (by decide +kernel) (by decide +kernel) (by decide +kernel) R f0 (fx_k (c := 13) R (by decide +kernel)) fun v_84 f_85 => ?_
          have f_86 := q_is_eq (b := 93) f_85 (fx_v R (by decide +kernel)).symm
          refine go_iload_n (n := 2) (by decide +kernel) l_11 f_7 ?_
          obtain ⟨x_90, e_91, h⟩ := lx_s h
          refine go_iald (kd := 100) (by decide +kernel) rfl R f_86 f_7 (fx_k (c := 100) R (by decide +kernel)) (fx_x (a := 93) (ln := 30) R (by decide +kernel) g_31) fun v_87 f_88 => ?_
          have f_89 := q_is_eq f_88 e_91
          refine go_icmp (c := .eq) (o := 7) (t := 74) (P := x_82 = x_90) (by decide +kernel) (by decide +kernel) f_81 f_89 (Iff.rfl) (fun hp_92 => ?_) (fun hp_92 => ?_)
          · have h := it_t hp_92 h
            refine go_iconst (n := 0) (z := 0) (by decide +kernel) (by decide) fun v_93 f_94 => ?_
            cases h
            exact go_iret (by decide +kernel) rfl (Or.inr ⟨rfl, by decide⟩) f_94 (hQ _ _ R (q_out_v (by decide) f_94))
          · have h := it_f hp_92 h
            refine go_iconst (n := 1) (z := 1) (by decide +kernel) (by decide) fun v_95 f_96 => ?_
            refine go_goto (o := 4) (t := 75) (by decide +kernel) (by decide +kernel) ?_
            cases h
            exact go_iret (by decide +kernel) rfl (Or.inr ⟨rfl, by decide⟩) f_96 (hQ _ _ R (q_out_v (by decide) f_96))
noncomputable def fm_X12_hasState (p1 p2 : Int) (m0 : MM) : Option Int := lx (w32 ((w32 (30 * p1)) + p2)) fun x_7 =>
gd (0 ≤ x_7 ∧ x_7 < 90) <| lx (m0 123 x_7) fun x_22 =>
if 0 < x_22 then
gd (0 ≤ p2 ∧ p2 < 30) <| lx (m0 90 p2) fun x_40 =>
if x_22 = x_40 then
lx (m0 124 x_7) fun x_51 =>
lx (m0 82 p2) fun x_59 =>
if x_51 = x_59 then
lx (m0 125 x_7) fun x_70 =>
lx (m0 93 p2) fun x_78 =>
if x_70 = x_78 then
some 1
else
some 0
else
some 0
else
some 0
else
some 0
set_option maxHeartbeats 4000000 in
theorem om_X12_hasState {xs : List Int32} {d : Nat} {S : QS} {m0 : MM} {p1 p2 : Int} {v0 : Value} {v1 : Value} {v2 : Value} {rz : Int}
  (hd : 1 ≤ d) (R : Rp S m0) (f0 : q_is 2 v0 68) (f1 : q_is 0 v1 p1) (f2 : q_is 0 v2 p2)
  (h : fm_X12_hasState p1 p2 m0 = some rz) : Mt xs d 278 [v0, v1, v2] S (Cr 0 m0 m0 rz) := by
  obtain ⟨d, rfl⟩ : ∃ e, d = e + 1 := ⟨d - 1, by omega⟩
  have hd : 0 ≤ d := Nat.le_of_succ_le_succ hd
  refine Mt.of (M := qM_X12_hasState) rfl (by rw [sl_1 (q_is_cat f0 (Or.inr rfl)), sl_1 (q_is_cat f1 (Or.inl rfl)), sl_1 (q_is_cat f2 (Or.inl rfl)), sl_0]; decide) ?_
  rw [la_1 (q_is_cat f0 (Or.inr rfl)), la_1 (q_is_cat f1 (Or.inl rfl)), la_1 (q_is_cat f2 (Or.inl rfl)), la_0]
  obtain ⟨L, hL⟩ : ∃ L : QL, L = [(0, v0), (0 + 1, v1), (0 + 1 + 1, v2)] := ⟨_, rfl⟩
  rw [← hL]
  have l0 : q_lo L 0 = some v0 := by rw [hL]; rfl
  have l1 : q_lo L 1 = some v1 := by rw [hL]; rfl
  have l2 : q_lo L 2 = some v2 := by rw [hL]; rfl
  have hQ : ∀ o S1, Rp S1 m0 → q_out 0 o rz → (Cr 0 m0 m0 rz) o S1 := fun o S1 a b => ⟨a, Ext.rf _, b⟩
  unfold fm_X12_hasState at h
  refine go_bipush (n := 30) (z := 30) (by decide +kernel) (by decide) fun v_1 f_2 => ?_
  refine go_iload_n (n := 1) (by decide +kernel) l1 f1 ?_
  refine go_imul (by decide +kernel) f_2 f1 fun v_3 f_4 => ?_
  refine go_iload_n (n := 2) (by decide +kernel) l2 f2 ?_
  refine go_iadd (by decide +kernel) f_4 f2 fun v_5 f_6 => ?_
  obtain ⟨x_7, e_8, h⟩ := lx_s h
  have f_9 := q_is_eq f_6 e_8
  refine go_istore_n (n := 3) (by decide +kernel) (by decide +kernel) f_9 fun L_10 l_11 kp_12 => ?_
  have l_13 := kp_12 0 _ l0 (by decide) (Or.inl (by decide))
  have l_14 := kp_12 2 _ l2 (by decide) (Or.inr (q_is_cat f2 (Or.inl rfl)))
  refine go_aload_n (n := 0) (by decide +kernel) l_13 f0 ?_
  refine go_getf (x := 183) (ci := 13) (kf := 63) (fin := 1) (t := 2) (by decide +kernel) (by decide +kernel) (by decide +kernel) R f0 (fx_k (c := 13) R (by decide +kernel)) fun v_15 f_16 => ?_
  have f_17 := q_is_eq (b := 123) f_16 (fx_v R (by decide +kernel)).symm
  refine go_iload_n (n := 3) (by decide +kernel) l_11 f_9 ?_
  obtain ⟨g_20, h⟩ := gd_s h
  obtain ⟨x_22, e_23, h⟩ := lx_s h
  refine go_iald (kd := 100) (by decide +kernel) rfl R f_17 f_9 (fx_k (c := 100) R (by decide +kernel)) (fx_x (a := 123) (ln := 90) R (by decide +kernel) g_20) fun v_18 f_19 => ?_
  have f_21 := q_is_eq f_19 e_23
  refine go_if (c := .le) (o := 52) (t := 65) (P := ¬ (0 < x_22)) (by decide +kernel) (by decide +kernel) f_21 (Int.not_lt.symm) (fun hp_24 => ?_) (fun hp_24 => ?_)
  · have h := it_f hp_24 h
    refine go_iconst (n := 0) (z := 0) (by decide +kernel) (by decide) fun v_25 f_26 => ?_
    cases h
    exact go_iret (by decide +kernel) rfl (Or.inr ⟨rfl, by decide⟩) f_26 (hQ _ _ R (q_out_v (by decide) f_26))
  · have h := it_n hp_24 h
    refine go_aload_n (n := 0) (by decide +kernel) l_13 f0 ?_
    refine go_getf (x := 183) (ci := 13) (kf := 63) (fin := 1) (t := 2) (by decide +kernel) (by decide +kernel) (by decide +kernel) R f0 (fx_k (c := 13) R (by decide +kernel)) fun v_27 f_28 => ?_
    have f_29 := q_is_eq (b := 123) f_28 (fx_v R (by decide +kernel)).symm
    refine go_iload_n (n := 3) (by decide +kernel) l_11 f_9 ?_
    refine go_iald (kd := 100) (by decide +kernel) rfl R f_29 f_9 (fx_k (c := 100) R (by decide +kernel)) (fx_x (a := 123) (ln := 90) R (by decide +kernel) g_20) fun v_30 f_31 => ?_
    have f_32 := q_is_eq f_31 e_23
    refine go_aload_n (n := 0) (by decide +kernel) l_13 f0 ?_
    refine go_getf (x := 73) (ci := 13) (kf := 23) (fin := 1) (t := 2) (by decide +kernel) (by decide +kernel) (by decide +kernel) R f0 (fx_k (c := 13) R (by decide +kernel)) fun v_33 f_34 => ?_
    have f_35 := q_is_eq (b := 90) f_34 (fx_v R (by decide +kernel)).symm
    refine go_iload_n (n := 2) (by decide +kernel) l_14 f2 ?_
    obtain ⟨g_38, h⟩ := gd_s h
    obtain ⟨x_40, e_41, h⟩ := lx_s h
    refine go_iald (kd := 100) (by decide +kernel) rfl R f_35 f2 (fx_k (c := 100) R (by decide +kernel)) (fx_x (a := 90) (ln := 30) R (by decide +kernel) g_38) fun v_36 f_37 => ?_
    have f_39 := q_is_eq f_37 e_41
    refine go_icmp (c := .ne) (o := 37) (t := 65) (P := ¬ (x_22 = x_40)) (by decide +kernel) (by decide +kernel) f_32 f_39 (Iff.rfl) (fun hp_42 => ?_) (fun hp_42 => ?_)
    · have h := it_f hp_42 h
      refine go_iconst (n := 0) (z := 0) (by decide +kernel) (by decide) fun v_43 f_44 => ?_
      cases h
      exact go_iret (by decide +kernel) rfl (Or.inr ⟨rfl, by decide⟩) f_44 (hQ _ _ R (q_out_v (by decide) f_44))
    · have h := it_n hp_42 h
      refine go_aload_n (n := 0) (by decide +kernel) l_13 f0 ?_
      refine go_getf (x := 186) (ci := 13) (kf := 64) (fin := 1) (t := 2) (by decide +kernel) (by decide +kernel) (by decide +kernel) R f0 (fx_k (c := 13) R (by decide +kernel)) fun v_45 f_46 => ?_
      have f_47 := q_is_eq (b := 124) f_46 (fx_v R (by decide +kernel)).symm
      refine go_iload_n (n := 3) (by decide +kernel) l_11 f_9 ?_
      obtain ⟨x_51, e_52, h⟩ := lx_s h
      refine go_iald (kd := 100) (by decide +kernel) rfl R f_47 f_9 (fx_k (c := 100) R (by decide +kernel)) (fx_x (a := 124) (ln := 90) R (by decide +kernel) g_20) fun v_48 f_49 => ?_
      have f_50 := q_is_eq f_49 e_52
      refine go_aload_n (n := 0) (by decide +kernel) l_13 f0 ?_
      refine go_getf (x := 49) (ci := 13) (kf := 15) (fin := 1) (t := 2) (by decide +kernel) (by decide +kernel) (by decide +kernel) R f0 (fx_k (c := 13) R (by decide +kernel)) fun v_53 f_54 => ?_
      have f_55 := q_is_eq (b := 82) f_54 (fx_v R (by decide +kernel)).symm
      refine go_iload_n (n := 2) (by decide +kernel) l_14 f2 ?_
      obtain ⟨x_59, e_60, h⟩ := lx_s h
      refine go_iald (kd := 100) (by decide +kernel) rfl R f_55 f2 (fx_k (c := 100) R (by decide +kernel)) (fx_x (a := 82) (ln := 30) R (by decide +kernel) g_38) fun v_56 f_57 => ?_
      have f_58 := q_is_eq f_57 e_60
      refine go_icmp (c := .ne) (o := 22) (t := 65) (P := ¬ (x_51 = x_59)) (by decide +kernel) (by decide +kernel) f_50 f_58 (Iff.rfl) (fun hp_61 => ?_) (fun hp_61 => ?_)
      · have h := it_f hp_61 h
        refine go_iconst (n := 0) (z := 0) (by decide +kernel) (by decide) fun v_62 f_63 => ?_
        cases h
        exact go_iret (by decide +kernel) rfl (Or.inr ⟨rfl, by decide⟩) f_63 (hQ _ _ R (q_out_v (by decide) f_63))
      · have h := it_n hp_61 h
        refine go_aload_n (n := 0) (by decide +kernel) l_13 f0 ?_
        refine go_getf (x := 189) (ci := 13) (kf := 65) (fin := 1) (t := 2) (by decide +kernel) (by decide +kernel) (by decide +kernel) R f0 (fx_k (c := 13) R (by decide +kernel)) fun v_64 f_65 => ?_
        have f_66 := q_is_eq (b := 125) f_65 (fx_v R (by decide +kernel)).symm
        refine go_iload_n (n := 3) (by decide +kernel) l_11 f_9 ?_
        obtain ⟨x_70, e_71, h⟩ := lx_s h
        refine go_iald (kd := 100) (by decide +kernel) rfl R f_66 f_9 (fx_k (c := 100) R (by decide +kernel)) (fx_x (a := 125) (ln := 90) R (by decide +kernel) g_20) fun v_67 f_68 => ?_
        have f_69 := q_is_eq f_68 e_71
        refine go_aload_n (n := 0) (by decide +kernel) l_13 f0 ?_
        refine go_getf (x := 82) (ci := 13) (kf := 26) (fin := 1) (t := 2) (by decide +kernel) (by decide +kernel) (by decide +kernel) R f0 (fx_k (c := 13) R (by decide +kernel)) fun v_72 f_73 => ?_
        have f_74 := q_is_eq (b := 93) f_73 (fx_v R (by decide +kernel)).symm
        refine go_iload_n (n := 2) (by decide +kernel) l_14 f2 ?_
        obtain ⟨x_78, e_79, h⟩ := lx_s h
        refine go_iald (kd := 100) (by decide +kernel) rfl R f_74 f2 (fx_k (c := 100) R (by decide +kernel)) (fx_x (a := 93) (ln := 30) R (by decide +kernel) g_38) fun v_75 f_76 => ?_
        have f_77 := q_is_eq f_76 e_79
        refine go_icmp (c := .ne) (o := 7) (t := 65) (P := ¬ (x_70 = x_78)) (by decide +kernel) (by decide +kernel) f_69 f_77 (Iff.rfl) (fun hp_80 => ?_) (fun hp_80 => ?_)
        · have h := it_f hp_80 h
          refine go_iconst (n := 0) (z := 0) (by decide +kernel) (by decide) fun v_81 f_82 => ?_
          cases h
          exact go_iret (by decide +kernel) rfl (Or.inr ⟨rfl, by decide⟩) f_82 (hQ _ _ R (q_out_v (by decide) f_82))
        · have h := it_n hp_80 h
          refine go_iconst (n := 1) (z := 1) (by decide +kernel) (by decide) fun v_83 f_84 => ?_
          refine go_goto (o := 4) (t := 66) (by decide +kernel) (by decide +kernel) ?_
          cases h
          exact go_iret (by decide +kernel) rfl (Or.inr ⟨rfl, by decide⟩) f_84 (hQ _ _ R (q_out_v (by decide) f_84))
noncomputable def fl_X12_goesOnAsNew_92 (y1 y3 y4 : Int) (k133 : MM → Option (Int × MM)) : Nat → Int → MM → Option (Int × MM)
  | 0, _, _ => none
  | n + 1, y5, m => gd (0 ≤ y4 ∧ y4 < 4) <| lx (m 155 y4) fun x_121 =>
if y5 < x_121 then
gd (0 ≤ w32 ((w32 (2048 * y4)) + y5) ∧ w32 ((w32 (2048 * y4)) + y5) < 8192) <| lx (m 157 (w32 ((w32 (2048 * y4)) + y5))) fun x_139 =>
bd (fm_X12_puts y3 4 y4 x_139 m) fun x_142 m_143 =>
lx (w32 (y5 + 1)) fun x_156 =>
fl_X12_goesOnAsNew_92 y1 y3 y4 k133 n x_156 m_143
else
k133 m
set_option maxHeartbeats 4000000 in
theorem ol_X12_goesOnAsNew_92 {xs : List Int32} {d : Nat} {Q : QO → QS → Prop} {mb : MM} {y1 y3 y4 : Int} {k133 : MM → Option (Int × MM)} {rz : Int} {rm : MM}
  (hd : 5 ≤ d)
  (hk133 : ∀ mq : MM, Ext mb mq → ∀ {Sq : QS} {Lq : QL} {u0 : Value} {u1 : Value} {u3 : Value} {u4 : Value}, k133 mq = some (rz, rm) → Rp Sq mq → q_lo Lq 0 = some u0 → q_is 2 u0 68 → q_lo Lq 1 = some u1 → q_is 0 u1 y1 → q_lo Lq 3 = some u3 → q_is 0 u3 y3 → q_lo Lq 4 = some u4 → q_is 0 u4 y4 → Go xs d qM_X12_goesOnAsNew 133 Lq [] Sq Q)
  (hQ : Ext mb rm → ∀ o S1, Rp S1 rm → q_out 9 o rz → Q o S1) :
  ∀ (n : Nat) {m : MM} {S : QS} {L : QL} {y5 : Int} {v0 : Value} {v1 : Value} {v3 : Value} {v4 : Value} {v5 : Value} , Ext mb m → fl_X12_goesOnAsNew_92 y1 y3 y4 k133 n y5 m = some (rz, rm) → Rp S m → q_lo L 0 = some v0 → q_is 2 v0 68 → q_lo L 1 = some v1 → q_is 0 v1 y1 → q_lo L 3 = some v3 → q_is 0 v3 y3 → q_lo L 4 = some v4 → q_is 0 v4 y4 → q_lo L 5 = some v5 → q_is 0 v5 y5 → Go xs d qM_X12_goesOnAsNew 92 L [] S Q := by
  intro n
  induction n with
  | zero => intro m S L y5 v0 v1 v3 v4 v5; intro E h R l0 f0 l1 f1 l3 f3 l4 f4 l5 f5; cases h
  | succ n ih0 =>
    intro m S L y5 v0 v1 v3 v4 v5; intro E h R l0 f0 l1 f1 l3 f3 l4 f4 l5 f5
    have ih : ∀ mq : MM, Ext mb mq → ∀ {z5 : Int} {Sq : QS} {Lq : QL} {u0 : Value} {u1 : Value} {u3 : Value} {u4 : Value} {u5 : Value}, fl_X12_goesOnAsNew_92 y1 y3 y4 k133 n z5 mq = some (rz, rm) → Rp Sq mq → q_lo Lq 0 = some u0 → q_is 2 u0 68 → q_lo Lq 1 = some u1 → q_is 0 u1 y1 → q_lo Lq 3 = some u3 → q_is 0 u3 y3 → q_lo Lq 4 = some u4 → q_is 0 u4 y4 → q_lo Lq 5 = some u5 → q_is 0 u5 z5 → Go xs d qM_X12_goesOnAsNew 92 Lq [] Sq Q := fun mq b => by intros; exact ih0 b ‹_› ‹_› ‹_› ‹_› ‹_› ‹_› ‹_› ‹_› ‹_› ‹_› ‹_› ‹_›
    unfold fl_X12_goesOnAsNew_92 at h
    refine go_iload (n := 5) (by decide +kernel) l5 f5 ?_
    refine go_aload_n (n := 0) (by decide +kernel) l0 f0 ?_
    refine go_getf (x := 281) (ci := 13) (kf := 107) (fin := 1) (t := 2) (by decide +kernel) (by decide +kernel) (by decide +kernel) R f0 (fx_k (c := 13) R (by decide +kernel)) fun v_114 f_115 => ?_
    have f_116 := q_is_eq (b := 155) f_115 (fx_v R (by decide +kernel)).symm
    refine go_iload (n := 4) (by decide +kernel) l4 f4 ?_
    obtain ⟨g_119, h⟩ := gd_s h
    obtain ⟨x_121, e_122, h⟩ := lx_s h
    refine go_iald (kd := 100) (by decide +kernel) rfl R f_116 f4 (fx_k (c := 100) R (by decide +kernel)) (fx_x (a := 155) (ln := 4) R (by decide +kernel) g_119) fun v_117 f_118 => ?_
    have f_120 := q_is_eq f_118 e_122
    refine go_icmp (c := .ge) (o := 32) (t := 133) (P := ¬ (y5 < x_121)) (by decide +kernel) (by decide +kernel) f5 f_120 (Int.not_lt.symm) (fun hp_123 => ?_) (fun hp_123 => ?_)
    · have h := it_f hp_123 h
      exact hk133 m E h R l0 f0 l1 f1 l3 f3 l4 f4
    · have h := it_n hp_123 h
      refine go_aload_n (n := 0) (by decide +kernel) l0 f0 ?_
      refine go_iload_n (n := 3) (by decide +kernel) l3 f3 ?_
      refine go_iconst (n := 4) (z := 4) (by decide +kernel) (by decide) fun v_124 f_125 => ?_
      refine go_iload (n := 4) (by decide +kernel) l4 f4 ?_
      refine go_aload_n (n := 0) (by decide +kernel) l0 f0 ?_
      refine go_getf (x := 287) (ci := 13) (kf := 109) (fin := 1) (t := 2) (by decide +kernel) (by decide +kernel) (by decide +kernel) R f0 (fx_k (c := 13) R (by decide +kernel)) fun v_126 f_127 => ?_
      have f_128 := q_is_eq (b := 157) f_127 (fx_v R (by decide +kernel)).symm
      refine go_sipush (n := 2048) (z := 2048) (by decide +kernel) (by decide) fun v_129 f_130 => ?_
      refine go_iload (n := 4) (by decide +kernel) l4 f4 ?_
      refine go_imul (by decide +kernel) f_130 f4 fun v_131 f_132 => ?_
      refine go_iload (n := 5) (by decide +kernel) l5 f5 ?_
      refine go_iadd (by decide +kernel) f_132 f5 fun v_133 f_134 => ?_
      obtain ⟨g_137, h⟩ := gd_s h
      obtain ⟨x_139, e_140, h⟩ := lx_s h
      refine go_iald (kd := 100) (by decide +kernel) rfl R f_128 f_134 (fx_k (c := 100) R (by decide +kernel)) (fx_x (a := 157) (ln := 8192) R (by decide +kernel) g_137) fun v_135 f_136 => ?_
      have f_138 := q_is_eq f_136 e_140
      obtain ⟨x_142, m_143, hc_141, h⟩ := bd_s h
      refine go_callV (x := 360) (mi := 210) (n := 4) (ci := 13) (as := [v3, v_124, v4, v_135]) (rest := []) (by decide +kernel) (by decide +kernel) rfl rfl (q_sum8 _ (Nat.le_of_ble_eq_true rfl)) R f0 (fx_k (c := 13) R (by decide +kernel)) (om_X12_puts (Nat.le_trans (by decide) hd) R f0 f3 f_125 f4 f_138 hc_141) (fun _ S_146 q_149 => ?_) (fun _ _ qq => kr_x qq)
      refine kr_z (by decide) q_149 fun v_144 f_145 R_147 E_148 => ?_
      have E_150 := Ext.tr E E_148
      refine go_pop (by decide +kernel) f_145 (Or.inl rfl) ?_
      refine go_iinc (n := 5) (c := 1) (c' := 1) (by decide +kernel) (by decide +kernel) l5 f5 (by decide) fun L_151 v_152 f_153 l_154 kp_155 => ?_
      obtain ⟨x_156, e_157, h⟩ := lx_s h
      have f_158 := q_is_eq f_153 e_157
      have l_159 := kp_155 0 _ l0 (by decide) (Or.inl (by decide))
      have l_160 := kp_155 1 _ l1 (by decide) (Or.inl (by decide))
      have l_161 := kp_155 3 _ l3 (by decide) (Or.inl (by decide))
      have l_162 := kp_155 4 _ l4 (by decide) (Or.inr (q_is_cat f4 (Or.inl rfl)))
      refine go_goto (o := (-38)) (t := 92) (by decide +kernel) (by decide +kernel) ?_
      exact ih m_143 E_150 h R_147 l_159 f0 l_160 f1 l_161 f3 l_162 f4 l_154 f_158
noncomputable def fl_X12_goesOnAsNew_77 (y1 y3 : Int) (k139 : MM → Option (Int × MM)) : Nat → Int → MM → Option (Int × MM)
  | 0, _, _ => none
  | n + 1, y4, m => if y4 < 4 then
gd (0 ≤ y4 ∧ y4 < 4) <| lx (m 156 y4) fun x_105 =>
fl_X12_goesOnAsNew_92 y1 y3 y4 (fun m_178 =>
lx (w32 (y4 + 1)) fun x_186 =>
fl_X12_goesOnAsNew_77 y1 y3 k139 n x_186 m_178) BIG x_105 m
else
k139 m
set_option maxHeartbeats 4000000 in
theorem ol_X12_goesOnAsNew_77 {xs : List Int32} {d : Nat} {Q : QO → QS → Prop} {mb : MM} {y1 y3 : Int} {k139 : MM → Option (Int × MM)} {rz : Int} {rm : MM}
  (hd : 5 ≤ d)
  (hk139 : ∀ mq : MM, Ext mb mq → ∀ {Sq : QS} {Lq : QL} {u0 : Value} {u1 : Value} {u3 : Value}, k139 mq = some (rz, rm) → Rp Sq mq → q_lo Lq 0 = some u0 → q_is 2 u0 68 → q_lo Lq 1 = some u1 → q_is 0 u1 y1 → q_lo Lq 3 = some u3 → q_is 0 u3 y3 → Go xs d qM_X12_goesOnAsNew 139 Lq [] Sq Q)
  (hQ : Ext mb rm → ∀ o S1, Rp S1 rm → q_out 9 o rz → Q o S1) :
  ∀ (n : Nat) {m : MM} {S : QS} {L : QL} {y4 : Int} {v0 : Value} {v1 : Value} {v3 : Value} {v4 : Value} , Ext mb m → fl_X12_goesOnAsNew_77 y1 y3 k139 n y4 m = some (rz, rm) → Rp S m → q_lo L 0 = some v0 → q_is 2 v0 68 → q_lo L 1 = some v1 → q_is 0 v1 y1 → q_lo L 3 = some v3 → q_is 0 v3 y3 → q_lo L 4 = some v4 → q_is 0 v4 y4 → Go xs d qM_X12_goesOnAsNew 77 L [] S Q := by
  intro n
  induction n with
  | zero => intro m S L y4 v0 v1 v3 v4; intro E h R l0 f0 l1 f1 l3 f3 l4 f4; cases h
  | succ n ih0 =>
    intro m S L y4 v0 v1 v3 v4; intro E h R l0 f0 l1 f1 l3 f3 l4 f4
    have ih : ∀ mq : MM, Ext mb mq → ∀ {z4 : Int} {Sq : QS} {Lq : QL} {u0 : Value} {u1 : Value} {u3 : Value} {u4 : Value}, fl_X12_goesOnAsNew_77 y1 y3 k139 n z4 mq = some (rz, rm) → Rp Sq mq → q_lo Lq 0 = some u0 → q_is 2 u0 68 → q_lo Lq 1 = some u1 → q_is 0 u1 y1 → q_lo Lq 3 = some u3 → q_is 0 u3 y3 → q_lo Lq 4 = some u4 → q_is 0 u4 z4 → Go xs d qM_X12_goesOnAsNew 77 Lq [] Sq Q := fun mq b => by intros; exact ih0 b ‹_› ‹_› ‹_› ‹_› ‹_› ‹_› ‹_› ‹_› ‹_› ‹_›
    unfold fl_X12_goesOnAsNew_77 at h
    refine go_iload (n := 4) (by decide +kernel) l4 f4 ?_
    refine go_iconst (n := 4) (z := 4) (by decide +kernel) (by decide) fun v_95 f_96 => ?_
    refine go_icmp (c := .ge) (o := 59) (t := 139) (P := ¬ (y4 < 4)) (by decide +kernel) (by decide +kernel) f4 f_96 (Int.not_lt.symm) (fun hp_97 => ?_) (fun hp_97 => ?_)
    · have h := it_f hp_97 h
      exact hk139 m E h R l0 f0 l1 f1 l3 f3
    · have h := it_n hp_97 h
      refine go_aload_n (n := 0) (by decide +kernel) l0 f0 ?_
      refine go_getf (x := 284) (ci := 13) (kf := 108) (fin := 1) (t := 2) (by decide +kernel) (by decide +kernel) (by decide +kernel) R f0 (fx_k (c := 13) R (by decide +kernel)) fun v_98 f_99 => ?_
      have f_100 := q_is_eq (b := 156) f_99 (fx_v R (by decide +kernel)).symm
      refine go_iload (n := 4) (by decide +kernel) l4 f4 ?_
      obtain ⟨g_103, h⟩ := gd_s h
      obtain ⟨x_105, e_106, h⟩ := lx_s h
      refine go_iald (kd := 100) (by decide +kernel) rfl R f_100 f4 (fx_k (c := 100) R (by decide +kernel)) (fx_x (a := 156) (ln := 4) R (by decide +kernel) g_103) fun v_101 f_102 => ?_
      have f_104 := q_is_eq f_102 e_106
      refine go_istore (n := 5) (by decide +kernel) (by decide +kernel) f_104 fun L_107 l_108 kp_109 => ?_
      have l_110 := kp_109 0 _ l0 (by decide) (Or.inl (by decide))
      have l_111 := kp_109 1 _ l1 (by decide) (Or.inl (by decide))
      have l_112 := kp_109 3 _ l3 (by decide) (Or.inl (by decide))
      have l_113 := kp_109 4 _ l4 (by decide) (Or.inr (q_is_cat f4 (Or.inl rfl)))
      refine ol_X12_goesOnAsNew_92 hd  ?_ (fun b => hQ (Ext.tr E b)) BIG (Ext.rf _) h R l_110 f0 l_111 f1 l_112 f3 l_113 f4 l_108 f_104
      intro m_178 E_179
      intro S_175 L_176 v_163 v_164 v_165 v_166
      intro h R_177 l_167 f_171 l_168 f_172 l_169 f_173 l_170 f_174
      have E_180 := Ext.tr E E_179
      refine go_iinc (n := 4) (c := 1) (c' := 1) (by decide +kernel) (by decide +kernel) l_170 f_174 (by decide) fun L_181 v_182 f_183 l_184 kp_185 => ?_
      obtain ⟨x_186, e_187, h⟩ := lx_s h
      have f_188 := q_is_eq f_183 e_187
      have l_189 := kp_185 0 _ l_167 (by decide) (Or.inl (by decide))
      have l_190 := kp_185 1 _ l_168 (by decide) (Or.inl (by decide))
      have l_191 := kp_185 3 _ l_169 (by decide) (Or.inr (q_is_cat f_173 (Or.inl rfl)))
      refine go_goto (o := (-59)) (t := 77) (by decide +kernel) (by decide +kernel) ?_
      exact ih m_178 E_180 h R_177 l_189 f_171 l_190 f_172 l_191 f_173 l_184 f_188
noncomputable def fj_X12_goesOnAsNew_179 (c : Int → Int → MM → Option (Int × MM)) (k224 : MM → Option (Int × MM)) (y1 y3 y5 y6 s0 s1 : Int) (m : MM) : Option (Int × MM) := lx (w32 (s1 + s0)) fun x_258 =>
if y6 = 4 then
lx (m 68 123) fun x_287 =>
if x_287 < x_258 then
bp (fm_X12_xAt y1 y5 m) fun x_305 =>
bp (fm_X12_yAt y1 y5 m) fun x_314 =>
bd (fm_X12_puts y3 4 x_305 x_314 m) fun x_323 m_324 =>
lx (w32 (y5 + 1)) fun x_337 =>
c x_258 x_337 m_324
else
lx (w32 (y5 + 1)) fun x_295 =>
c x_258 x_295 m
else
lx (w32 (y5 + 1)) fun x_277 =>
c x_258 x_277 m
set_option maxHeartbeats 4000000 in
theorem oj_X12_goesOnAsNew_179 {xs : List Int32} {d : Nat} {S : QS} {L : QL} {Q : QO → QS → Prop} {m : MM} {y1 y3 y5 y6 s0 s1 : Int} {v0 : Value} {v1 : Value} {v3 : Value} {v5 : Value} {v6 : Value} {w0 : Value} {w1 : Value}  {rz : Int} {rm : MM} {c : Int → Int → MM → Option (Int × MM)} {k224 : MM → Option (Int × MM)} 
  (hd : 5 ≤ d) (R : Rp S m) (l0 : q_lo L 0 = some v0) (f0 : q_is 2 v0 68) (l1 : q_lo L 1 = some v1) (f1 : q_is 0 v1 y1) (l3 : q_lo L 3 = some v3) (f3 : q_is 0 v3 y3) (l5 : q_lo L 5 = some v5) (f5 : q_is 0 v5 y5) (l6 : q_lo L 6 = some v6) (f6 : q_is 0 v6 y6) (fs0 : q_is 0 w0 s0) (fs1 : q_is 0 w1 s1)
  (hc : ∀ mq : MM, Ext m mq → ∀ {z4 : Int} {z5 : Int} {Sq : QS} {Lq : QL} {u0 : Value} {u1 : Value} {u3 : Value} {u4 : Value} {u5 : Value}, c z4 z5 mq = some (rz, rm) → Rp Sq mq → q_lo Lq 0 = some u0 → q_is 2 u0 68 → q_lo Lq 1 = some u1 → q_is 0 u1 y1 → q_lo Lq 3 = some u3 → q_is 0 u3 y3 → q_lo Lq 4 = some u4 → q_is 0 u4 z4 → q_lo Lq 5 = some u5 → q_is 0 u5 z5 → Go xs d qM_X12_goesOnAsNew 145 Lq [] Sq Q)
  (hk224 : ∀ mq : MM, Ext m mq → ∀ {Sq : QS} {Lq : QL} {u0 : Value} {u1 : Value}, k224 mq = some (rz, rm) → Rp Sq mq → q_lo Lq 0 = some u0 → q_is 2 u0 68 → q_lo Lq 1 = some u1 → q_is 0 u1 y1 → Go xs d qM_X12_goesOnAsNew 224 Lq [] Sq Q)
  (hQ : Ext m rm → ∀ o S1, Rp S1 rm → q_out 9 o rz → Q o S1)
  (h : fj_X12_goesOnAsNew_179 c k224 y1 y3 y5 y6 s0 s1 m = some (rz, rm)) : Go xs d qM_X12_goesOnAsNew 179 L [w0, w1] S Q := by
  unfold fj_X12_goesOnAsNew_179 at h
  refine go_iadd (by decide +kernel) fs1 fs0 fun v_256 f_257 => ?_
  obtain ⟨x_258, e_259, h⟩ := lx_s h
  have f_260 := q_is_eq f_257 e_259
  refine go_istore (n := 4) (by decide +kernel) (by decide +kernel) f_260 fun L_261 l_262 kp_263 => ?_
  have l_264 := kp_263 0 _ l0 (by decide) (Or.inl (by decide))
  have l_265 := kp_263 1 _ l1 (by decide) (Or.inl (by decide))
  have l_266 := kp_263 3 _ l3 (by decide) (Or.inr (q_is_cat f3 (Or.inl rfl)))
  have l_267 := kp_263 5 _ l5 (by decide) (Or.inl (by decide))
  have l_268 := kp_263 6 _ l6 (by decide) (Or.inl (by decide))
  refine go_iload (n := 6) (by decide +kernel) l_268 f6 ?_
  refine go_iconst (n := 4) (z := 4) (by decide +kernel) (by decide) fun v_269 f_270 => ?_
  refine go_icmp (c := .ne) (o := 33) (t := 218) (P := ¬ (y6 = 4)) (by decide +kernel) (by decide +kernel) f6 f_270 (Iff.rfl) (fun hp_271 => ?_) (fun hp_271 => ?_)
  · have h := it_f hp_271 h
    refine go_iinc (n := 5) (c := 1) (c' := 1) (by decide +kernel) (by decide +kernel) l_267 f5 (by decide) fun L_272 v_273 f_274 l_275 kp_276 => ?_
    obtain ⟨x_277, e_278, h⟩ := lx_s h
    have f_279 := q_is_eq f_274 e_278
    have l_280 := kp_276 0 _ l_264 (by decide) (Or.inl (by decide))
    have l_281 := kp_276 1 _ l_265 (by decide) (Or.inl (by decide))
    have l_282 := kp_276 3 _ l_266 (by decide) (Or.inl (by decide))
    have l_283 := kp_276 4 _ l_262 (by decide) (Or.inr (q_is_cat f_260 (Or.inl rfl)))
    refine go_goto (o := (-76)) (t := 145) (by decide +kernel) (by decide +kernel) ?_
    exact hc m (Ext.rf _) h R l_280 f0 l_281 f1 l_282 f3 l_283 f_260 l_275 f_279
  · have h := it_n hp_271 h
    refine go_iload (n := 4) (by decide +kernel) l_262 f_260 ?_
    refine go_aload_n (n := 0) (by decide +kernel) l_264 f0 ?_
    obtain ⟨x_287, e_288, h⟩ := lx_s h
    refine go_getf (x := 536) (ci := 13) (kf := 123) (fin := 0) (t := 0) (by decide +kernel) (by decide +kernel) (by decide +kernel) R f0 (fx_k (c := 13) R (by decide +kernel)) fun v_284 f_285 => ?_
    have f_286 := q_is_eq f_285 e_288
    refine go_icmp (c := .le) (o := 24) (t := 218) (P := ¬ (x_287 < x_258)) (by decide +kernel) (by decide +kernel) f_260 f_286 (Int.not_lt.symm) (fun hp_289 => ?_) (fun hp_289 => ?_)
    · have h := it_f hp_289 h
      refine go_iinc (n := 5) (c := 1) (c' := 1) (by decide +kernel) (by decide +kernel) l_267 f5 (by decide) fun L_290 v_291 f_292 l_293 kp_294 => ?_
      obtain ⟨x_295, e_296, h⟩ := lx_s h
      have f_297 := q_is_eq f_292 e_296
      have l_298 := kp_294 0 _ l_264 (by decide) (Or.inl (by decide))
      have l_299 := kp_294 1 _ l_265 (by decide) (Or.inl (by decide))
      have l_300 := kp_294 3 _ l_266 (by decide) (Or.inl (by decide))
      have l_301 := kp_294 4 _ l_262 (by decide) (Or.inr (q_is_cat f_260 (Or.inl rfl)))
      refine go_goto (o := (-76)) (t := 145) (by decide +kernel) (by decide +kernel) ?_
      exact hc m (Ext.rf _) h R l_298 f0 l_299 f1 l_300 f3 l_301 f_260 l_293 f_297
    · have h := it_n hp_289 h
      refine go_aload_n (n := 0) (by decide +kernel) l_264 f0 ?_
      refine go_iload_n (n := 3) (by decide +kernel) l_266 f3 ?_
      refine go_iconst (n := 4) (z := 4) (by decide +kernel) (by decide) fun v_302 f_303 => ?_
      refine go_aload_n (n := 0) (by decide +kernel) l_264 f0 ?_
      refine go_iload_n (n := 1) (by decide +kernel) l_265 f1 ?_
      refine go_iload (n := 5) (by decide +kernel) l_267 f5 ?_
      obtain ⟨x_305, hc_304, h⟩ := bp_s h
      refine go_callV (x := 344) (mi := 206) (n := 2) (ci := 13) (as := [v1, v5]) (rest := [v_302, v3, v0]) (by decide +kernel) (by decide +kernel) rfl rfl (q_sum8 _ (Nat.le_of_ble_eq_true rfl)) R f0 (fx_k (c := 13) R (by decide +kernel)) (om_X12_xAt (Nat.le_trans (by decide) hd) R f0 f1 f5 hc_304) (fun _ S_309 q_312 => ?_) (fun _ _ qq => kr_x qq)
      refine kr_z (by decide) q_312 fun v_307 f_308 R_310 E_311 => ?_
      refine go_aload_n (n := 0) (by decide +kernel) l_264 f0 ?_
      refine go_iload_n (n := 1) (by decide +kernel) l_265 f1 ?_
      refine go_iload (n := 5) (by decide +kernel) l_267 f5 ?_
      obtain ⟨x_314, hc_313, h⟩ := bp_s h
      refine go_callV (x := 397) (mi := 205) (n := 2) (ci := 13) (as := [v1, v5]) (rest := [v_307, v_302, v3, v0]) (by decide +kernel) (by decide +kernel) rfl rfl (q_sum8 _ (Nat.le_of_ble_eq_true rfl)) R_310 f0 (fx_k (c := 13) R_310 (by decide +kernel)) (om_X12_yAt (Nat.le_trans (by decide) hd) R_310 f0 f1 f5 hc_313) (fun _ S_318 q_321 => ?_) (fun _ _ qq => kr_x qq)
      refine kr_z (by decide) q_321 fun v_316 f_317 R_319 E_320 => ?_
      obtain ⟨x_323, m_324, hc_322, h⟩ := bd_s h
      refine go_callV (x := 360) (mi := 210) (n := 4) (ci := 13) (as := [v3, v_302, v_307, v_316]) (rest := []) (by decide +kernel) (by decide +kernel) rfl rfl (q_sum8 _ (Nat.le_of_ble_eq_true rfl)) R_319 f0 (fx_k (c := 13) R_319 (by decide +kernel)) (om_X12_puts (Nat.le_trans (by decide) hd) R_319 f0 f3 f_303 f_308 f_317 hc_322) (fun _ S_327 q_330 => ?_) (fun _ _ qq => kr_x qq)
      refine kr_z (by decide) q_330 fun v_325 f_326 R_328 E_329 => ?_
      have E_331 := E_329
      refine go_pop (by decide +kernel) f_326 (Or.inl rfl) ?_
      refine go_iinc (n := 5) (c := 1) (c' := 1) (by decide +kernel) (by decide +kernel) l_267 f5 (by decide) fun L_332 v_333 f_334 l_335 kp_336 => ?_
      obtain ⟨x_337, e_338, h⟩ := lx_s h
      have f_339 := q_is_eq f_334 e_338
      have l_340 := kp_336 0 _ l_264 (by decide) (Or.inl (by decide))
      have l_341 := kp_336 1 _ l_265 (by decide) (Or.inl (by decide))
      have l_342 := kp_336 3 _ l_266 (by decide) (Or.inl (by decide))
      have l_343 := kp_336 4 _ l_262 (by decide) (Or.inr (q_is_cat f_260 (Or.inl rfl)))
      refine go_goto (o := (-76)) (t := 145) (by decide +kernel) (by decide +kernel) ?_
      exact hc m_324 E_331 h R_328 l_340 f0 l_341 f1 l_342 f3 l_343 f_260 l_335 f_339
noncomputable def fl_X12_goesOnAsNew_145 (y1 y3 : Int) (k224 : MM → Option (Int × MM)) : Nat → Int → Int → MM → Option (Int × MM)
  | 0, _, _, _ => none
  | n + 1, y4, y5, m => gd (0 ≤ y1 ∧ y1 < 30) <| lx (m 86 y1) fun x_231 =>
if y5 < x_231 then
bp (fm_X12_kindAt y1 y5 m) fun x_235 =>
if 7 < x_235 then
fj_X12_goesOnAsNew_179 (fl_X12_goesOnAsNew_145 y1 y3 k224 n) k224 y1 y3 y5 x_235 0 y4 m
else
fj_X12_goesOnAsNew_179 (fl_X12_goesOnAsNew_145 y1 y3 k224 n) k224 y1 y3 y5 x_235 1 y4 m
else
k224 m
set_option maxHeartbeats 4000000 in
theorem ol_X12_goesOnAsNew_145 {xs : List Int32} {d : Nat} {Q : QO → QS → Prop} {mb : MM} {y1 y3 : Int} {k224 : MM → Option (Int × MM)} {rz : Int} {rm : MM}
  (hd : 5 ≤ d)
  (hk224 : ∀ mq : MM, Ext mb mq → ∀ {Sq : QS} {Lq : QL} {u0 : Value} {u1 : Value}, k224 mq = some (rz, rm) → Rp Sq mq → q_lo Lq 0 = some u0 → q_is 2 u0 68 → q_lo Lq 1 = some u1 → q_is 0 u1 y1 → Go xs d qM_X12_goesOnAsNew 224 Lq [] Sq Q)
  (hQ : Ext mb rm → ∀ o S1, Rp S1 rm → q_out 9 o rz → Q o S1) :
  ∀ (n : Nat) {m : MM} {S : QS} {L : QL} {y4 y5 : Int} {v0 : Value} {v1 : Value} {v3 : Value} {v4 : Value} {v5 : Value} , Ext mb m → fl_X12_goesOnAsNew_145 y1 y3 k224 n y4 y5 m = some (rz, rm) → Rp S m → q_lo L 0 = some v0 → q_is 2 v0 68 → q_lo L 1 = some v1 → q_is 0 v1 y1 → q_lo L 3 = some v3 → q_is 0 v3 y3 → q_lo L 4 = some v4 → q_is 0 v4 y4 → q_lo L 5 = some v5 → q_is 0 v5 y5 → Go xs d qM_X12_goesOnAsNew 145 L [] S Q := by
  intro n
  induction n with
  | zero => intro m S L y4 y5 v0 v1 v3 v4 v5; intro E h R l0 f0 l1 f1 l3 f3 l4 f4 l5 f5; cases h
  | succ n ih0 =>
    intro m S L y4 y5 v0 v1 v3 v4 v5; intro E h R l0 f0 l1 f1 l3 f3 l4 f4 l5 f5
    have ih : ∀ mq : MM, Ext mb mq → ∀ {z4 : Int} {z5 : Int} {Sq : QS} {Lq : QL} {u0 : Value} {u1 : Value} {u3 : Value} {u4 : Value} {u5 : Value}, fl_X12_goesOnAsNew_145 y1 y3 k224 n z4 z5 mq = some (rz, rm) → Rp Sq mq → q_lo Lq 0 = some u0 → q_is 2 u0 68 → q_lo Lq 1 = some u1 → q_is 0 u1 y1 → q_lo Lq 3 = some u3 → q_is 0 u3 y3 → q_lo Lq 4 = some u4 → q_is 0 u4 z4 → q_lo Lq 5 = some u5 → q_is 0 u5 z5 → Go xs d qM_X12_goesOnAsNew 145 Lq [] Sq Q := fun mq b => by intros; exact ih0 b ‹_› ‹_› ‹_› ‹_› ‹_› ‹_› ‹_› ‹_› ‹_› ‹_› ‹_› ‹_›
    unfold fl_X12_goesOnAsNew_145 at h
    refine go_iload (n := 5) (by decide +kernel) l5 f5 ?_
    refine go_aload_n (n := 0) (by decide +kernel) l0 f0 ?_
    refine go_getf (x := 61) (ci := 13) (kf := 19) (fin := 1) (t := 2) (by decide +kernel) (by decide +kernel) (by decide +kernel) R f0 (fx_k (c := 13) R (by decide +kernel)) fun v_224 f_225 => ?_
    have f_226 := q_is_eq (b := 86) f_225 (fx_v R (by decide +kernel)).symm
    refine go_iload_n (n := 1) (by decide +kernel) l1 f1 ?_
    obtain ⟨g_229, h⟩ := gd_s h
    obtain ⟨x_231, e_232, h⟩ := lx_s h
    refine go_iald (kd := 100) (by decide +kernel) rfl R f_226 f1 (fx_k (c := 100) R (by decide +kernel)) (fx_x (a := 86) (ln := 30) R (by decide +kernel) g_229) fun v_227 f_228 => ?_
    have f_230 := q_is_eq f_228 e_232
    refine go_icmp (c := .ge) (o := 71) (t := 224) (P := ¬ (y5 < x_231)) (by decide +kernel) (by decide +kernel) f5 f_230 (Int.not_lt.symm) (fun hp_233 => ?_) (fun hp_233 => ?_)
    · have h := it_f hp_233 h
      exact hk224 m E h R l0 f0 l1 f1
    · have h := it_n hp_233 h
      refine go_aload_n (n := 0) (by decide +kernel) l0 f0 ?_
      refine go_iload_n (n := 1) (by decide +kernel) l1 f1 ?_
      refine go_iload (n := 5) (by decide +kernel) l5 f5 ?_
      obtain ⟨x_235, hc_234, h⟩ := bp_s h
      refine go_callV (x := 341) (mi := 204) (n := 2) (ci := 13) (as := [v1, v5]) (rest := []) (by decide +kernel) (by decide +kernel) rfl rfl (q_sum8 _ (Nat.le_of_ble_eq_true rfl)) R f0 (fx_k (c := 13) R (by decide +kernel)) (om_X12_kindAt (Nat.le_trans (by decide) hd) R f0 f1 f5 hc_234) (fun _ S_239 q_242 => ?_) (fun _ _ qq => kr_x qq)
      refine kr_z (by decide) q_242 fun v_237 f_238 R_240 E_241 => ?_
      refine go_istore (n := 6) (by decide +kernel) (by decide +kernel) f_238 fun L_243 l_244 kp_245 => ?_
      have l_246 := kp_245 0 _ l0 (by decide) (Or.inl (by decide))
      have l_247 := kp_245 1 _ l1 (by decide) (Or.inl (by decide))
      have l_248 := kp_245 3 _ l3 (by decide) (Or.inl (by decide))
      have l_249 := kp_245 4 _ l4 (by decide) (Or.inl (by decide))
      have l_250 := kp_245 5 _ l5 (by decide) (Or.inr (q_is_cat f5 (Or.inl rfl)))
      refine go_iload (n := 4) (by decide +kernel) l_249 f4 ?_
      refine go_iload (n := 6) (by decide +kernel) l_244 f_238 ?_
      refine go_bipush (n := 7) (z := 7) (by decide +kernel) (by decide) fun v_251 f_252 => ?_
      refine go_icmp (c := .gt) (o := 7) (t := 178) (P := 7 < x_235) (by decide +kernel) (by decide +kernel) f_238 f_252 (Iff.rfl) (fun hp_253 => ?_) (fun hp_253 => ?_)
      · have h := it_t hp_253 h
        refine go_iconst (n := 0) (z := 0) (by decide +kernel) (by decide) fun v_254 f_255 => ?_
        exact oj_X12_goesOnAsNew_179 hd R_240 l_246 f0 l_247 f1 l_248 f3 l_250 f5 l_244 f_238 f_255 f4 (fun mq b => ih mq (Ext.tr E b)) (fun mq b => hk224 mq (Ext.tr E b)) (fun b => hQ (Ext.tr E b)) h
      · have h := it_f hp_253 h
        refine go_iconst (n := 1) (z := 1) (by decide +kernel) (by decide) fun v_344 f_345 => ?_
        refine go_goto (o := 4) (t := 179) (by decide +kernel) (by decide +kernel) ?_
        exact oj_X12_goesOnAsNew_179 hd R_240 l_246 f0 l_247 f1 l_248 f3 l_250 f5 l_244 f_238 f_345 f4 (fun mq b => ih mq (Ext.tr E b)) (fun mq b => hk224 mq (Ext.tr E b)) (fun b => hQ (Ext.tr E b)) h
noncomputable def fm_X12_goesOnAsNew (p1 p2 : Int) (m0 : MM) : Option (Int × MM) := lx (m0 68 12) fun x_4 =>
if x_4 = 30 then
gd (0 ≤ p1 ∧ p1 < 30) <| up m0 83 p1 2 fun m_378 =>
bd (fm_X12_closes p1 1 0 m_378) fun x_389 m_390 =>
some (0, m_390)
else
gd (0 ≤ p1 ∧ p1 < 30) <| up m0 83 p1 4 fun m_15 =>
lx (m_15 80 p1) fun x_27 =>
lx (m_15 81 p1) fun x_35 =>
gd (0 ≤ x_27 ∧ x_27 < 4) <| lx (m_15 69 x_27) fun x_50 =>
lx (m_15 84 p1) fun x_62 =>
lx (m_15 85 p1) fun x_70 =>
bd (fm_X12_makes x_27 x_35 (w32 (x_50 - 1)) p2 x_62 x_70 m_15) fun x_73 m_74 =>
fl_X12_goesOnAsNew_77 p1 x_73 (fun m_204 =>
fl_X12_goesOnAsNew_145 p1 x_73 (fun m_355 =>
bd (fm_X12_closes p1 0 0 m_355) fun x_363 m_364 =>
some (0, m_364)) BIG 0 0 m_204) BIG 0 m_74
set_option maxHeartbeats 4000000 in
theorem om_X12_goesOnAsNew {xs : List Int32} {d : Nat} {S : QS} {m0 : MM} {p1 p2 : Int} {v0 : Value} {v1 : Value} {v2 : Value} {rz : Int} {rm : MM}
  (hd : 6 ≤ d) (R : Rp S m0) (f0 : q_is 2 v0 68) (f1 : q_is 0 v1 p1) (f2 : q_is 0 v2 p2)
  (h : fm_X12_goesOnAsNew p1 p2 m0 = some (rz, rm)) : Mt xs d 281 [v0, v1, v2] S (Cr 9 m0 rm rz) := by
  obtain ⟨d, rfl⟩ : ∃ e, d = e + 1 := ⟨d - 1, by omega⟩
  have hd : 5 ≤ d := Nat.le_of_succ_le_succ hd
  refine Mt.of (M := qM_X12_goesOnAsNew) rfl (by rw [sl_1 (q_is_cat f0 (Or.inr rfl)), sl_1 (q_is_cat f1 (Or.inl rfl)), sl_1 (q_is_cat f2 (Or.inl rfl)), sl_0]; decide) ?_
  rw [la_1 (q_is_cat f0 (Or.inr rfl)), la_1 (q_is_cat f1 (Or.inl rfl)), la_1 (q_is_cat f2 (Or.inl rfl)), la_0]
  obtain ⟨L, hL⟩ : ∃ L : QL, L = [(0, v0), (0 + 1, v1), (0 + 1 + 1, v2)] := ⟨_, rfl⟩
  rw [← hL]
  have l0 : q_lo L 0 = some v0 := by rw [hL]; rfl
  have l1 : q_lo L 1 = some v1 := by rw [hL]; rfl
  have l2 : q_lo L 2 = some v2 := by rw [hL]; rfl
  have hQ : Ext m0 rm → ∀ o S1, Rp S1 rm → q_out 9 o rz → (Cr 9 m0 rm rz) o S1 := fun a o S1 b e => ⟨b, a, e⟩
  unfold fm_X12_goesOnAsNew at h
  refine go_aload_n (n := 0) (by decide +kernel) l0 f0 ?_
  obtain ⟨x_4, e_5, h⟩ := lx_s h
  refine go_getf (x := 310) (ci := 13) (kf := 12) (fin := 0) (t := 0) (by decide +kernel) (by decide +kernel) (by decide +kernel) R f0 (fx_k (c := 13) R (by decide +kernel)) fun v_1 f_2 => ?_
  have f_3 := q_is_eq f_2 e_5
  refine go_bipush (n := 30) (z := 30) (by decide +kernel) (by decide) fun v_6 f_7 => ?_
  refine go_icmp (c := .ne) (o := 18) (t := 24) (P := ¬ (x_4 = 30)) (by decide +kernel) (by decide +kernel) f_3 f_7 (Iff.rfl) (fun hp_8 => ?_) (fun hp_8 => ?_)
  · have h := it_f hp_8 h
    refine go_aload_n (n := 0) (by decide +kernel) l0 f0 ?_
    refine go_getf (x := 52) (ci := 13) (kf := 16) (fin := 1) (t := 2) (by decide +kernel) (by decide +kernel) (by decide +kernel) R f0 (fx_k (c := 13) R (by decide +kernel)) fun v_9 f_10 => ?_
    have f_11 := q_is_eq (b := 83) f_10 (fx_v R (by decide +kernel)).symm
    refine go_iload_n (n := 1) (by decide +kernel) l1 f1 ?_
    refine go_iconst (n := 4) (z := 4) (by decide +kernel) (by decide) fun v_12 f_13 => ?_
    obtain ⟨g_14, h⟩ := gd_s h
    obtain ⟨m_15, e_16, h⟩ := up_s h
    refine go_iast (kd := 100) (by decide +kernel) rfl R f_11 f1 f_13 (fx_k (c := 100) R (by decide +kernel)) (fx_x (a := 83) (ln := 30) R (by decide +kernel) g_14) e_16 (fx_a R.2 (fx_k (c := 100) R (by decide +kernel)) (And.left (fx_x (a := 83) (ln := 30) R (by decide +kernel) g_14)) (by decide +kernel)) fun S_17 R_18 E_19 => ?_
    have E_20 := E_19
    refine go_aload_n (n := 0) (by decide +kernel) l0 f0 ?_
    refine go_aload_n (n := 0) (by decide +kernel) l0 f0 ?_
    refine go_getf (x := 43) (ci := 13) (kf := 13) (fin := 1) (t := 2) (by decide +kernel) (by decide +kernel) (by decide +kernel) R_18 f0 (fx_k (c := 13) R_18 (by decide +kernel)) fun v_21 f_22 => ?_
    have f_23 := q_is_eq (b := 80) f_22 (fx_v R_18 (by decide +kernel)).symm
    refine go_iload_n (n := 1) (by decide +kernel) l1 f1 ?_
    obtain ⟨x_27, e_28, h⟩ := lx_s h
    refine go_iald (kd := 100) (by decide +kernel) rfl R_18 f_23 f1 (fx_k (c := 100) R_18 (by decide +kernel)) (fx_x (a := 80) (ln := 30) R_18 (by decide +kernel) g_14) fun v_24 f_25 => ?_
    have f_26 := q_is_eq f_25 e_28
    refine go_aload_n (n := 0) (by decide +kernel) l0 f0 ?_
    refine go_getf (x := 46) (ci := 13) (kf := 14) (fin := 1) (t := 2) (by decide +kernel) (by decide +kernel) (by decide +kernel) R_18 f0 (fx_k (c := 13) R_18 (by decide +kernel)) fun v_29 f_30 => ?_
    have f_31 := q_is_eq (b := 81) f_30 (fx_v R_18 (by decide +kernel)).symm
    refine go_iload_n (n := 1) (by decide +kernel) l1 f1 ?_
    obtain ⟨x_35, e_36, h⟩ := lx_s h
    refine go_iald (kd := 100) (by decide +kernel) rfl R_18 f_31 f1 (fx_k (c := 100) R_18 (by decide +kernel)) (fx_x (a := 81) (ln := 30) R_18 (by decide +kernel) g_14) fun v_32 f_33 => ?_
    have f_34 := q_is_eq f_33 e_36
    refine go_aload_n (n := 0) (by decide +kernel) l0 f0 ?_
    refine go_getf (x := 7) (ci := 13) (kf := 1) (fin := 1) (t := 2) (by decide +kernel) (by decide +kernel) (by decide +kernel) R_18 f0 (fx_k (c := 13) R_18 (by decide +kernel)) fun v_37 f_38 => ?_
    have f_39 := q_is_eq (b := 69) f_38 (fx_v R_18 (by decide +kernel)).symm
    refine go_aload_n (n := 0) (by decide +kernel) l0 f0 ?_
    refine go_getf (x := 43) (ci := 13) (kf := 13) (fin := 1) (t := 2) (by decide +kernel) (by decide +kernel) (by decide +kernel) R_18 f0 (fx_k (c := 13) R_18 (by decide +kernel)) fun v_40 f_41 => ?_
    have f_42 := q_is_eq (b := 80) f_41 (fx_v R_18 (by decide +kernel)).symm
    refine go_iload_n (n := 1) (by decide +kernel) l1 f1 ?_
    refine go_iald (kd := 100) (by decide +kernel) rfl R_18 f_42 f1 (fx_k (c := 100) R_18 (by decide +kernel)) (fx_x (a := 80) (ln := 30) R_18 (by decide +kernel) g_14) fun v_43 f_44 => ?_
    have f_45 := q_is_eq f_44 e_28
    obtain ⟨g_48, h⟩ := gd_s h
    obtain ⟨x_50, e_51, h⟩ := lx_s h
    refine go_iald (kd := 100) (by decide +kernel) rfl R_18 f_39 f_45 (fx_k (c := 100) R_18 (by decide +kernel)) (fx_x (a := 69) (ln := 4) R_18 (by decide +kernel) g_48) fun v_46 f_47 => ?_
    have f_49 := q_is_eq f_47 e_51
    refine go_iconst (n := 1) (z := 1) (by decide +kernel) (by decide) fun v_52 f_53 => ?_
    refine go_isub (by decide +kernel) f_49 f_53 fun v_54 f_55 => ?_
    refine go_iload_n (n := 2) (by decide +kernel) l2 f2 ?_
    refine go_aload_n (n := 0) (by decide +kernel) l0 f0 ?_
    refine go_getf (x := 55) (ci := 13) (kf := 17) (fin := 1) (t := 2) (by decide +kernel) (by decide +kernel) (by decide +kernel) R_18 f0 (fx_k (c := 13) R_18 (by decide +kernel)) fun v_56 f_57 => ?_
    have f_58 := q_is_eq (b := 84) f_57 (fx_v R_18 (by decide +kernel)).symm
    refine go_iload_n (n := 1) (by decide +kernel) l1 f1 ?_
    obtain ⟨x_62, e_63, h⟩ := lx_s h
    refine go_iald (kd := 100) (by decide +kernel) rfl R_18 f_58 f1 (fx_k (c := 100) R_18 (by decide +kernel)) (fx_x (a := 84) (ln := 30) R_18 (by decide +kernel) g_14) fun v_59 f_60 => ?_
    have f_61 := q_is_eq f_60 e_63
    refine go_aload_n (n := 0) (by decide +kernel) l0 f0 ?_
    refine go_getf (x := 58) (ci := 13) (kf := 18) (fin := 1) (t := 2) (by decide +kernel) (by decide +kernel) (by decide +kernel) R_18 f0 (fx_k (c := 13) R_18 (by decide +kernel)) fun v_64 f_65 => ?_
    have f_66 := q_is_eq (b := 85) f_65 (fx_v R_18 (by decide +kernel)).symm
    refine go_iload_n (n := 1) (by decide +kernel) l1 f1 ?_
    obtain ⟨x_70, e_71, h⟩ := lx_s h
    refine go_iald (kd := 100) (by decide +kernel) rfl R_18 f_66 f1 (fx_k (c := 100) R_18 (by decide +kernel)) (fx_x (a := 85) (ln := 30) R_18 (by decide +kernel) g_14) fun v_67 f_68 => ?_
    have f_69 := q_is_eq f_68 e_71
    obtain ⟨x_73, m_74, hc_72, h⟩ := bd_s h
    refine go_callV (x := 576) (mi := 212) (n := 6) (ci := 13) (as := [v_24, v_32, v_54, v2, v_59, v_67]) (rest := []) (by decide +kernel) (by decide +kernel) rfl rfl (q_sum8 _ (Nat.le_of_ble_eq_true rfl)) R_18 f0 (fx_k (c := 13) R_18 (by decide +kernel)) (om_X12_makes (Nat.le_trans (by decide) hd) R_18 f0 f_26 f_34 f_55 f2 f_61 f_69 hc_72) (fun _ S_77 q_80 => ?_) (fun _ _ qq => kr_x qq)
    refine kr_z (by decide) q_80 fun v_75 f_76 R_78 E_79 => ?_
    have E_81 := Ext.tr E_20 E_79
    refine go_istore_n (n := 3) (by decide +kernel) (by decide +kernel) f_76 fun L_82 l_83 kp_84 => ?_
    have l_85 := kp_84 0 _ l0 (by decide) (Or.inl (by decide))
    have l_86 := kp_84 1 _ l1 (by decide) (Or.inl (by decide))
    refine go_iconst (n := 0) (z := 0) (by decide +kernel) (by decide) fun v_87 f_88 => ?_
    refine go_istore (n := 4) (by decide +kernel) (by decide +kernel) f_88 fun L_89 l_90 kp_91 => ?_
    have l_92 := kp_91 0 _ l_85 (by decide) (Or.inl (by decide))
    have l_93 := kp_91 1 _ l_86 (by decide) (Or.inl (by decide))
    have l_94 := kp_91 3 _ l_83 (by decide) (Or.inr (q_is_cat f_76 (Or.inl rfl)))
    refine ol_X12_goesOnAsNew_77 hd  ?_ (fun b => hQ (Ext.tr E_81 b)) BIG (Ext.rf _) h R_78 l_92 f0 l_93 f1 l_94 f_76 l_90 f_88
    intro m_204 E_205
    intro S_201 L_202 v_192 v_193 v_194
    intro h R_203 l_195 f_198 l_196 f_199 l_197 f_200
    have E_206 := Ext.tr E_81 E_205
    refine go_iconst (n := 0) (z := 0) (by decide +kernel) (by decide) fun v_207 f_208 => ?_
    refine go_istore (n := 4) (by decide +kernel) (by decide +kernel) f_208 fun L_209 l_210 kp_211 => ?_
    have l_212 := kp_211 0 _ l_195 (by decide) (Or.inl (by decide))
    have l_213 := kp_211 1 _ l_196 (by decide) (Or.inl (by decide))
    have l_214 := kp_211 3 _ l_197 (by decide) (Or.inr (q_is_cat f_200 (Or.inl rfl)))
    refine go_iconst (n := 0) (z := 0) (by decide +kernel) (by decide) fun v_215 f_216 => ?_
    refine go_istore (n := 5) (by decide +kernel) (by decide +kernel) f_216 fun L_217 l_218 kp_219 => ?_
    have l_220 := kp_219 0 _ l_212 (by decide) (Or.inl (by decide))
    have l_221 := kp_219 1 _ l_213 (by decide) (Or.inl (by decide))
    have l_222 := kp_219 3 _ l_214 (by decide) (Or.inl (by decide))
    have l_223 := kp_219 4 _ l_210 (by decide) (Or.inr (q_is_cat f_208 (Or.inl rfl)))
    refine ol_X12_goesOnAsNew_145 hd  ?_ (fun b => hQ (Ext.tr E_206 b)) BIG (Ext.rf _) h R_203 l_220 f_198 l_221 f_199 l_222 f_200 l_223 f_208 l_218 f_216
    intro m_355 E_356
    intro S_352 L_353 v_346 v_347
    intro h R_354 l_348 f_350 l_349 f_351
    have E_357 := Ext.tr E_206 E_356
    refine go_aload_n (n := 0) (by decide +kernel) l_348 f_350 ?_
    refine go_iload_n (n := 1) (by decide +kernel) l_349 f_351 ?_
    refine go_iconst (n := 0) (z := 0) (by decide +kernel) (by decide) fun v_358 f_359 => ?_
    refine go_iconst (n := 0) (z := 0) (by decide +kernel) (by decide) fun v_360 f_361 => ?_
    obtain ⟨x_363, m_364, hc_362, h⟩ := bd_s h
    refine go_callV (x := 635) (mi := 257) (n := 3) (ci := 13) (as := [v_347, v_358, v_360]) (rest := []) (by decide +kernel) (by decide +kernel) rfl rfl (q_sum8 _ (Nat.le_of_ble_eq_true rfl)) R_354 f_350 (fx_k (c := 13) R_354 (by decide +kernel)) (om_X12_closes (Nat.le_trans (by decide) hd) R_354 f_350 f_351 f_359 f_361 hc_362) (fun _ S_367 q_370 => ?_) (fun _ _ qq => kr_x qq)
    refine kr_v q_370 fun R_368 E_369 => ?_
    have E_371 := Ext.tr E_357 E_369
    cases h
    exact go_vret (by decide +kernel) rfl (hQ E_371 _ _ R_368 q_out_n)
  · have h := it_n hp_8 h
    refine go_aload_n (n := 0) (by decide +kernel) l0 f0 ?_
    refine go_getf (x := 52) (ci := 13) (kf := 16) (fin := 1) (t := 2) (by decide +kernel) (by decide +kernel) (by decide +kernel) R f0 (fx_k (c := 13) R (by decide +kernel)) fun v_372 f_373 => ?_
    have f_374 := q_is_eq (b := 83) f_373 (fx_v R (by decide +kernel)).symm
    refine go_iload_n (n := 1) (by decide +kernel) l1 f1 ?_
    refine go_iconst (n := 2) (z := 2) (by decide +kernel) (by decide) fun v_375 f_376 => ?_
    obtain ⟨g_377, h⟩ := gd_s h
    obtain ⟨m_378, e_379, h⟩ := up_s h
    refine go_iast (kd := 100) (by decide +kernel) rfl R f_374 f1 f_376 (fx_k (c := 100) R (by decide +kernel)) (fx_x (a := 83) (ln := 30) R (by decide +kernel) g_377) e_379 (fx_a R.2 (fx_k (c := 100) R (by decide +kernel)) (And.left (fx_x (a := 83) (ln := 30) R (by decide +kernel) g_377)) (by decide +kernel)) fun S_380 R_381 E_382 => ?_
    have E_383 := E_382
    refine go_aload_n (n := 0) (by decide +kernel) l0 f0 ?_
    refine go_iload_n (n := 1) (by decide +kernel) l1 f1 ?_
    refine go_iconst (n := 1) (z := 1) (by decide +kernel) (by decide) fun v_384 f_385 => ?_
    refine go_iconst (n := 0) (z := 0) (by decide +kernel) (by decide) fun v_386 f_387 => ?_
    obtain ⟨x_389, m_390, hc_388, h⟩ := bd_s h
    refine go_callV (x := 635) (mi := 257) (n := 3) (ci := 13) (as := [v1, v_384, v_386]) (rest := []) (by decide +kernel) (by decide +kernel) rfl rfl (q_sum8 _ (Nat.le_of_ble_eq_true rfl)) R_381 f0 (fx_k (c := 13) R_381 (by decide +kernel)) (om_X12_closes (Nat.le_trans (by decide) hd) R_381 f0 f1 f_385 f_387 hc_388) (fun _ S_393 q_396 => ?_) (fun _ _ qq => kr_x qq)
    refine kr_v q_396 fun R_394 E_395 => ?_
    have E_397 := Ext.tr E_383 E_395
    cases h
    exact go_vret (by decide +kernel) rfl (hQ E_397 _ _ R_394 q_out_n)
noncomputable def fj_X12_carriesOut_207 (y1 s0 s1 s2 : Int) (m : MM) : Option (Int × MM) := gd (okc m s2 100) <| gd (okx m s2 s1) <| up m s2 s1 s0 fun m_48 =>
bd (fm_X12_closes y1 1 0 m_48) fun x_59 m_60 =>
some (0, m_60)
set_option maxHeartbeats 4000000 in
theorem oj_X12_carriesOut_207 {xs : List Int32} {d : Nat} {S : QS} {L : QL} {Q : QO → QS → Prop} {m : MM} {y1 s0 s1 s2 : Int} {v0 : Value} {v1 : Value} {w0 : Value} {w1 : Value} {w2 : Value}  {rz : Int} {rm : MM}
  (hd : 6 ≤ d) (R : Rp S m) (l0 : q_lo L 0 = some v0) (f0 : q_is 2 v0 68) (l1 : q_lo L 1 = some v1) (f1 : q_is 0 v1 y1) (fs0 : q_is 0 w0 s0) (fs1 : q_is 0 w1 s1) (fs2 : q_is 2 w2 s2)
  (hQ : Ext m rm → ∀ o S1, Rp S1 rm → q_out 9 o rz → Q o S1)
  (h : fj_X12_carriesOut_207 y1 s0 s1 s2 m = some (rz, rm)) : Go xs d qM_X12_carriesOut 207 L [w0, w1, w2] S Q := by
  unfold fj_X12_carriesOut_207 at h
  obtain ⟨g_46, h⟩ := gd_s h
  obtain ⟨g_47, h⟩ := gd_s h
  obtain ⟨m_48, e_49, h⟩ := up_s h
  refine go_iast (kd := 100) (by decide +kernel) rfl R fs2 fs1 fs0 g_46 g_47 e_49 (fx_a R.2 g_46 (And.left g_47) (by decide +kernel)) fun S_50 R_51 E_52 => ?_
  have E_53 := E_52
  refine go_aload_n (n := 0) (by decide +kernel) l0 f0 ?_
  refine go_iload_n (n := 1) (by decide +kernel) l1 f1 ?_
  refine go_iconst (n := 1) (z := 1) (by decide +kernel) (by decide) fun v_54 f_55 => ?_
  refine go_iconst (n := 0) (z := 0) (by decide +kernel) (by decide) fun v_56 f_57 => ?_
  obtain ⟨x_59, m_60, hc_58, h⟩ := bd_s h
  refine go_callV (x := 635) (mi := 257) (n := 3) (ci := 13) (as := [v1, v_54, v_56]) (rest := []) (by decide +kernel) (by decide +kernel) rfl rfl (q_sum8 _ (Nat.le_of_ble_eq_true rfl)) R_51 f0 (fx_k (c := 13) R_51 (by decide +kernel)) (om_X12_closes (Nat.le_trans (by decide) hd) R_51 f0 f1 f_55 f_57 hc_58) (fun _ S_63 q_66 => ?_) (fun _ _ qq => kr_x qq)
  refine kr_v q_66 fun R_64 E_65 => ?_
  have E_67 := Ext.tr E_53 E_65
  refine go_goto (o := 16) (t := 231) (by decide +kernel) (by decide +kernel) ?_
  cases h
  exact go_vret (by decide +kernel) rfl (hQ E_67 _ _ R_64 q_out_n)
noncomputable def fj_X12_carriesOut_66 (y1 y2 : Int) (m : MM) : Option (Int × MM) := bd (fm_X12_puts y1 6 y2 0 m) fun x_153 m_154 =>
some (0, m_154)
set_option maxHeartbeats 4000000 in
theorem oj_X12_carriesOut_66 {xs : List Int32} {d : Nat} {S : QS} {L : QL} {Q : QO → QS → Prop} {m : MM} {y1 y2 : Int} {v0 : Value} {v1 : Value} {v2 : Value}  {rz : Int} {rm : MM}
  (hd : 6 ≤ d) (R : Rp S m) (l0 : q_lo L 0 = some v0) (f0 : q_is 2 v0 68) (l1 : q_lo L 1 = some v1) (f1 : q_is 0 v1 y1) (l2 : q_lo L 2 = some v2) (f2 : q_is 0 v2 y2)
  (hQ : Ext m rm → ∀ o S1, Rp S1 rm → q_out 9 o rz → Q o S1)
  (h : fj_X12_carriesOut_66 y1 y2 m = some (rz, rm)) : Go xs d qM_X12_carriesOut 66 L [] S Q := by
  unfold fj_X12_carriesOut_66 at h
  refine go_aload_n (n := 0) (by decide +kernel) l0 f0 ?_
  refine go_iload_n (n := 1) (by decide +kernel) l1 f1 ?_
  refine go_bipush (n := 6) (z := 6) (by decide +kernel) (by decide) fun v_148 f_149 => ?_
  refine go_iload_n (n := 2) (by decide +kernel) l2 f2 ?_
  refine go_iconst (n := 0) (z := 0) (by decide +kernel) (by decide) fun v_150 f_151 => ?_
  obtain ⟨x_153, m_154, hc_152, h⟩ := bd_s h
  refine go_callV (x := 360) (mi := 210) (n := 4) (ci := 13) (as := [v1, v_148, v2, v_150]) (rest := []) (by decide +kernel) (by decide +kernel) rfl rfl (q_sum8 _ (Nat.le_of_ble_eq_true rfl)) R f0 (fx_k (c := 13) R (by decide +kernel)) (om_X12_puts (Nat.le_trans (by decide) hd) R f0 f1 f_149 f2 f_151 hc_152) (fun _ S_157 q_160 => ?_) (fun _ _ qq => kr_x qq)
  refine kr_z (by decide) q_160 fun v_155 f_156 R_158 E_159 => ?_
  have E_161 := E_159
  refine go_pop (by decide +kernel) f_156 (Or.inl rfl) ?_
  refine go_goto (o := 155) (t := 231) (by decide +kernel) (by decide +kernel) ?_
  cases h
  exact go_vret (by decide +kernel) rfl (hQ E_161 _ _ R_158 q_out_n)
noncomputable def fm_X12_carriesOut (p1 p2 p3 p4 p5 : Int) (m0 : MM) : Option (Int × MM) := if p3 = 8 then
bd (fm_X12_makesActivity p1 p2 p4 p5 m0) fun x_219 m_220 =>
some (0, m_220)
else
if p3 = 9 then
lx (m0 68 0) fun x_204 =>
bd (fm_X12_makesTimer p1 p2 (w32 (x_204 + p4)) m0) fun x_209 m_210 =>
some (0, m_210)
else
if p3 = 10 then
lx (m0 68 12) fun x_143 =>
if x_143 = 30 then
fj_X12_carriesOut_66 p1 p2 m0
else
gd (0 ≤ p4 ∧ p4 < 4) <| lx (m0 69 p4) fun x_169 =>
if x_169 = 0 then
fj_X12_carriesOut_66 p1 p2 m0
else
gd (0 ≤ p1 ∧ p1 < 30) <| lx (m0 81 p1) fun x_179 =>
bd (fm_X12_makes p4 x_179 (w32 (x_169 - 1)) p5 p1 p2 m0) fun x_192 m_193 =>
some (0, m_193)
else
if p3 = 11 then
bd (fm_X12_drops p1 p4 m0) fun x_131 m_132 =>
some (0, m_132)
else
if p3 = 13 then
lx (m0 68 80) fun x_100 =>
gd (0 ≤ x_100 ∧ x_100 < 1048576) <| up m0 137 x_100 (w32 ((w32 (1000 * p1)) + p4)) fun m_109 =>
lx (m_109 68 80) fun x_118 =>
up m_109 68 80 (w32 (x_118 + 1)) fun m_124 =>
some (0, m_124)
else
if p3 = 14 then
gd (0 ≤ p1 ∧ p1 < 30) <| up m0 83 p1 1 fun m_76 =>
bd (fm_X12_closes p1 1 p4 m_76) fun x_85 m_86 =>
some (0, m_86)
else
if p3 = 15 then
lx (m0 68 111) fun x_41 =>
if x_41 = 0 then
fj_X12_carriesOut_207 p1 2 p1 83 m0
else
fj_X12_carriesOut_207 p1 3 p1 83 m0
else
if p3 = 16 then
bd (fm_X12_goesOnAsNew p1 p4 m0) fun x_26 m_27 =>
some (0, m_27)
else
some (0, m0)
set_option maxHeartbeats 4000000 in
theorem om_X12_carriesOut {xs : List Int32} {d : Nat} {S : QS} {m0 : MM} {p1 p2 p3 p4 p5 : Int} {v0 : Value} {v1 : Value} {v2 : Value} {v3 : Value} {v4 : Value} {v5 : Value} {rz : Int} {rm : MM}
  (hd : 7 ≤ d) (R : Rp S m0) (f0 : q_is 2 v0 68) (f1 : q_is 0 v1 p1) (f2 : q_is 0 v2 p2) (f3 : q_is 0 v3 p3) (f4 : q_is 0 v4 p4) (f5 : q_is 0 v5 p5)
  (h : fm_X12_carriesOut p1 p2 p3 p4 p5 m0 = some (rz, rm)) : Mt xs d 280 [v0, v1, v2, v3, v4, v5] S (Cr 9 m0 rm rz) := by
  obtain ⟨d, rfl⟩ : ∃ e, d = e + 1 := ⟨d - 1, by omega⟩
  have hd : 6 ≤ d := Nat.le_of_succ_le_succ hd
  refine Mt.of (M := qM_X12_carriesOut) rfl (by rw [sl_1 (q_is_cat f0 (Or.inr rfl)), sl_1 (q_is_cat f1 (Or.inl rfl)), sl_1 (q_is_cat f2 (Or.inl rfl)), sl_1 (q_is_cat f3 (Or.inl rfl)), sl_1 (q_is_cat f4 (Or.inl rfl)), sl_1 (q_is_cat f5 (Or.inl rfl)), sl_0]; decide) ?_
  rw [la_1 (q_is_cat f0 (Or.inr rfl)), la_1 (q_is_cat f1 (Or.inl rfl)), la_1 (q_is_cat f2 (Or.inl rfl)), la_1 (q_is_cat f3 (Or.inl rfl)), la_1 (q_is_cat f4 (Or.inl rfl)), la_1 (q_is_cat f5 (Or.inl rfl)), la_0]
  obtain ⟨L, hL⟩ : ∃ L : QL, L = [(0, v0), (0 + 1, v1), (0 + 1 + 1, v2), (0 + 1 + 1 + 1, v3), (0 + 1 + 1 + 1 + 1, v4), (0 + 1 + 1 + 1 + 1 + 1, v5)] := ⟨_, rfl⟩
  rw [← hL]
  have l0 : q_lo L 0 = some v0 := by rw [hL]; rfl
  have l1 : q_lo L 1 = some v1 := by rw [hL]; rfl
  have l2 : q_lo L 2 = some v2 := by rw [hL]; rfl
  have l3 : q_lo L 3 = some v3 := by rw [hL]; rfl
  have l4 : q_lo L 4 = some v4 := by rw [hL]; rfl
  have l5 : q_lo L 5 = some v5 := by rw [hL]; rfl
  have hQ : Ext m0 rm → ∀ o S1, Rp S1 rm → q_out 9 o rz → (Cr 9 m0 rm rz) o S1 := fun a o S1 b e => ⟨b, a, e⟩
  unfold fm_X12_carriesOut at h
  refine go_iload_n (n := 3) (by decide +kernel) l3 f3 ?_
  refine go_bipush (n := 8) (z := 8) (by decide +kernel) (by decide) fun v_1 f_2 => ?_
  refine go_icmp (c := .ne) (o := 16) (t := 19) (P := ¬ (p3 = 8)) (by decide +kernel) (by decide +kernel) f3 f_2 (Iff.rfl) (fun hp_3 => ?_) (fun hp_3 => ?_)
  · have h := it_f hp_3 h
    refine go_iload_n (n := 3) (by decide +kernel) l3 f3 ?_
    refine go_bipush (n := 9) (z := 9) (by decide +kernel) (by decide) fun v_4 f_5 => ?_
    refine go_icmp (c := .ne) (o := 19) (t := 41) (P := ¬ (p3 = 9)) (by decide +kernel) (by decide +kernel) f3 f_5 (Iff.rfl) (fun hp_6 => ?_) (fun hp_6 => ?_)
    · have h := it_f hp_6 h
      refine go_iload_n (n := 3) (by decide +kernel) l3 f3 ?_
      refine go_bipush (n := 10) (z := 10) (by decide +kernel) (by decide) fun v_7 f_8 => ?_
      refine go_icmp (c := .ne) (o := 64) (t := 108) (P := ¬ (p3 = 10)) (by decide +kernel) (by decide +kernel) f3 f_8 (Iff.rfl) (fun hp_9 => ?_) (fun hp_9 => ?_)
      · have h := it_f hp_9 h
        refine go_iload_n (n := 3) (by decide +kernel) l3 f3 ?_
        refine go_bipush (n := 11) (z := 11) (by decide +kernel) (by decide) fun v_10 f_11 => ?_
        refine go_icmp (c := .ne) (o := 13) (t := 124) (P := ¬ (p3 = 11)) (by decide +kernel) (by decide +kernel) f3 f_11 (Iff.rfl) (fun hp_12 => ?_) (fun hp_12 => ?_)
        · have h := it_f hp_12 h
          refine go_iload_n (n := 3) (by decide +kernel) l3 f3 ?_
          refine go_bipush (n := 13) (z := 13) (by decide +kernel) (by decide) fun v_13 f_14 => ?_
          refine go_icmp (c := .ne) (o := 33) (t := 160) (P := ¬ (p3 = 13)) (by decide +kernel) (by decide +kernel) f3 f_14 (Iff.rfl) (fun hp_15 => ?_) (fun hp_15 => ?_)
          · have h := it_f hp_15 h
            refine go_iload_n (n := 3) (by decide +kernel) l3 f3 ?_
            refine go_bipush (n := 14) (z := 14) (by decide +kernel) (by decide) fun v_16 f_17 => ?_
            refine go_icmp (c := .ne) (o := 21) (t := 184) (P := ¬ (p3 = 14)) (by decide +kernel) (by decide +kernel) f3 f_17 (Iff.rfl) (fun hp_18 => ?_) (fun hp_18 => ?_)
            · have h := it_f hp_18 h
              refine go_iload_n (n := 3) (by decide +kernel) l3 f3 ?_
              refine go_bipush (n := 15) (z := 15) (by decide +kernel) (by decide) fun v_19 f_20 => ?_
              refine go_icmp (c := .ne) (o := 31) (t := 218) (P := ¬ (p3 = 15)) (by decide +kernel) (by decide +kernel) f3 f_20 (Iff.rfl) (fun hp_21 => ?_) (fun hp_21 => ?_)
              · have h := it_f hp_21 h
                refine go_iload_n (n := 3) (by decide +kernel) l3 f3 ?_
                refine go_bipush (n := 16) (z := 16) (by decide +kernel) (by decide) fun v_22 f_23 => ?_
                refine go_icmp (c := .ne) (o := 10) (t := 231) (P := ¬ (p3 = 16)) (by decide +kernel) (by decide +kernel) f3 f_23 (Iff.rfl) (fun hp_24 => ?_) (fun hp_24 => ?_)
                · have h := it_f hp_24 h
                  cases h
                  exact go_vret (by decide +kernel) rfl (hQ (Ext.rf _) _ _ R q_out_n)
                · have h := it_n hp_24 h
                  refine go_aload_n (n := 0) (by decide +kernel) l0 f0 ?_
                  refine go_iload_n (n := 1) (by decide +kernel) l1 f1 ?_
                  refine go_iload (n := 4) (by decide +kernel) l4 f4 ?_
                  obtain ⟨x_26, m_27, hc_25, h⟩ := bd_s h
                  refine go_callV (x := 639) (mi := 281) (n := 2) (ci := 13) (as := [v1, v4]) (rest := []) (by decide +kernel) (by decide +kernel) rfl rfl (q_sum8 _ (Nat.le_of_ble_eq_true rfl)) R f0 (fx_k (c := 13) R (by decide +kernel)) (om_X12_goesOnAsNew (Nat.le_trans (by decide) hd) R f0 f1 f4 hc_25) (fun _ S_30 q_33 => ?_) (fun _ _ qq => kr_x qq)
                  refine kr_v q_33 fun R_31 E_32 => ?_
                  have E_34 := E_32
                  cases h
                  exact go_vret (by decide +kernel) rfl (hQ E_34 _ _ R_31 q_out_n)
              · have h := it_n hp_21 h
                refine go_aload_n (n := 0) (by decide +kernel) l0 f0 ?_
                refine go_getf (x := 52) (ci := 13) (kf := 16) (fin := 1) (t := 2) (by decide +kernel) (by decide +kernel) (by decide +kernel) R f0 (fx_k (c := 13) R (by decide +kernel)) fun v_35 f_36 => ?_
                have f_37 := q_is_eq (b := 83) f_36 (fx_v R (by decide +kernel)).symm
                refine go_iload_n (n := 1) (by decide +kernel) l1 f1 ?_
                refine go_aload_n (n := 0) (by decide +kernel) l0 f0 ?_
                obtain ⟨x_41, e_42, h⟩ := lx_s h
                refine go_getf (x := 518) (ci := 13) (kf := 111) (fin := 0) (t := 0) (by decide +kernel) (by decide +kernel) (by decide +kernel) R f0 (fx_k (c := 13) R (by decide +kernel)) fun v_38 f_39 => ?_
                have f_40 := q_is_eq f_39 e_42
                refine go_if (c := .eq) (o := 7) (t := 206) (P := x_41 = 0) (by decide +kernel) (by decide +kernel) f_40 (Iff.rfl) (fun hp_43 => ?_) (fun hp_43 => ?_)
                · have h := it_t hp_43 h
                  refine go_iconst (n := 2) (z := 2) (by decide +kernel) (by decide) fun v_44 f_45 => ?_
                  exact oj_X12_carriesOut_207 hd R l0 f0 l1 f1 f_45 f1 f_37 hQ h
                · have h := it_f hp_43 h
                  refine go_iconst (n := 3) (z := 3) (by decide +kernel) (by decide) fun v_68 f_69 => ?_
                  refine go_goto (o := 4) (t := 207) (by decide +kernel) (by decide +kernel) ?_
                  exact oj_X12_carriesOut_207 hd R l0 f0 l1 f1 f_69 f1 f_37 hQ h
            · have h := it_n hp_18 h
              refine go_aload_n (n := 0) (by decide +kernel) l0 f0 ?_
              refine go_getf (x := 52) (ci := 13) (kf := 16) (fin := 1) (t := 2) (by decide +kernel) (by decide +kernel) (by decide +kernel) R f0 (fx_k (c := 13) R (by decide +kernel)) fun v_70 f_71 => ?_
              have f_72 := q_is_eq (b := 83) f_71 (fx_v R (by decide +kernel)).symm
              refine go_iload_n (n := 1) (by decide +kernel) l1 f1 ?_
              refine go_iconst (n := 1) (z := 1) (by decide +kernel) (by decide) fun v_73 f_74 => ?_
              obtain ⟨g_75, h⟩ := gd_s h
              obtain ⟨m_76, e_77, h⟩ := up_s h
              refine go_iast (kd := 100) (by decide +kernel) rfl R f_72 f1 f_74 (fx_k (c := 100) R (by decide +kernel)) (fx_x (a := 83) (ln := 30) R (by decide +kernel) g_75) e_77 (fx_a R.2 (fx_k (c := 100) R (by decide +kernel)) (And.left (fx_x (a := 83) (ln := 30) R (by decide +kernel) g_75)) (by decide +kernel)) fun S_78 R_79 E_80 => ?_
              have E_81 := E_80
              refine go_aload_n (n := 0) (by decide +kernel) l0 f0 ?_
              refine go_iload_n (n := 1) (by decide +kernel) l1 f1 ?_
              refine go_iconst (n := 1) (z := 1) (by decide +kernel) (by decide) fun v_82 f_83 => ?_
              refine go_iload (n := 4) (by decide +kernel) l4 f4 ?_
              obtain ⟨x_85, m_86, hc_84, h⟩ := bd_s h
              refine go_callV (x := 635) (mi := 257) (n := 3) (ci := 13) (as := [v1, v_82, v4]) (rest := []) (by decide +kernel) (by decide +kernel) rfl rfl (q_sum8 _ (Nat.le_of_ble_eq_true rfl)) R_79 f0 (fx_k (c := 13) R_79 (by decide +kernel)) (om_X12_closes (Nat.le_trans (by decide) hd) R_79 f0 f1 f_83 f4 hc_84) (fun _ S_89 q_92 => ?_) (fun _ _ qq => kr_x qq)
              refine kr_v q_92 fun R_90 E_91 => ?_
              have E_93 := Ext.tr E_81 E_91
              refine go_goto (o := 50) (t := 231) (by decide +kernel) (by decide +kernel) ?_
              cases h
              exact go_vret (by decide +kernel) rfl (hQ E_93 _ _ R_90 q_out_n)
          · have h := it_n hp_15 h
            refine go_aload_n (n := 0) (by decide +kernel) l0 f0 ?_
            refine go_getf (x := 226) (ci := 13) (kf := 81) (fin := 1) (t := 2) (by decide +kernel) (by decide +kernel) (by decide +kernel) R f0 (fx_k (c := 13) R (by decide +kernel)) fun v_94 f_95 => ?_
            have f_96 := q_is_eq (b := 137) f_95 (fx_v R (by decide +kernel)).symm
            refine go_aload_n (n := 0) (by decide +kernel) l0 f0 ?_
            obtain ⟨x_100, e_101, h⟩ := lx_s h
            refine go_getf (x := 632) (ci := 13) (kf := 80) (fin := 0) (t := 0) (by decide +kernel) (by decide +kernel) (by decide +kernel) R f0 (fx_k (c := 13) R (by decide +kernel)) fun v_97 f_98 => ?_
            have f_99 := q_is_eq f_98 e_101
            refine go_sipush (n := 1000) (z := 1000) (by decide +kernel) (by decide) fun v_102 f_103 => ?_
            refine go_iload_n (n := 1) (by decide +kernel) l1 f1 ?_
            refine go_imul (by decide +kernel) f_103 f1 fun v_104 f_105 => ?_
            refine go_iload (n := 4) (by decide +kernel) l4 f4 ?_
            refine go_iadd (by decide +kernel) f_105 f4 fun v_106 f_107 => ?_
            obtain ⟨g_108, h⟩ := gd_s h
            obtain ⟨m_109, e_110, h⟩ := up_s h
            refine go_iast (kd := 100) (by decide +kernel) rfl R f_96 f_99 f_107 (fx_k (c := 100) R (by decide +kernel)) (fx_x (a := 137) (ln := 1048576) R (by decide +kernel) g_108) e_110 (fx_a R.2 (fx_k (c := 100) R (by decide +kernel)) (And.left (fx_x (a := 137) (ln := 1048576) R (by decide +kernel) g_108)) (by decide +kernel)) fun S_111 R_112 E_113 => ?_
            have E_114 := E_113
            refine go_aload_n (n := 0) (by decide +kernel) l0 f0 ?_
            refine go_dup (by decide +kernel) f0 (Or.inr rfl) ?_
            obtain ⟨x_118, e_119, h⟩ := lx_s h
            refine go_getf (x := 632) (ci := 13) (kf := 80) (fin := 0) (t := 0) (by decide +kernel) (by decide +kernel) (by decide +kernel) R_112 f0 (fx_k (c := 13) R_112 (by decide +kernel)) fun v_115 f_116 => ?_
            have f_117 := q_is_eq f_116 e_119
            refine go_iconst (n := 1) (z := 1) (by decide +kernel) (by decide) fun v_120 f_121 => ?_
            refine go_iadd (by decide +kernel) f_117 f_121 fun v_122 f_123 => ?_
            obtain ⟨m_124, e_125, h⟩ := up_s h
            refine go_putf (x := 632) (ci := 13) (kf := 80) (fin := 0) (zt := 0) (by decide +kernel) (by decide +kernel) (by decide) (by decide +kernel) (by decide) (Or.inl rfl) R_112 f0 f_123 (fun hq => absurd hq (by decide)) (fx_k (c := 13) R_112 (by decide +kernel)) e_125 (fx_f (j := 80) R_112.2 (fx_k (c := 13) R_112 (by decide +kernel)) (by decide +kernel)) fun S_126 R_127 E_128 => ?_
            have E_129 := Ext.tr E_114 E_128
            refine go_goto (o := 74) (t := 231) (by decide +kernel) (by decide +kernel) ?_
            cases h
            exact go_vret (by decide +kernel) rfl (hQ E_129 _ _ R_127 q_out_n)
        · have h := it_n hp_12 h
          refine go_aload_n (n := 0) (by decide +kernel) l0 f0 ?_
          refine go_iload_n (n := 1) (by decide +kernel) l1 f1 ?_
          refine go_iload (n := 4) (by decide +kernel) l4 f4 ?_
          obtain ⟨x_131, m_132, hc_130, h⟩ := bd_s h
          refine go_callV (x := 629) (mi := 255) (n := 2) (ci := 13) (as := [v1, v4]) (rest := []) (by decide +kernel) (by decide +kernel) rfl rfl (q_sum8 _ (Nat.le_of_ble_eq_true rfl)) R f0 (fx_k (c := 13) R (by decide +kernel)) (om_X12_drops (Nat.le_trans (by decide) hd) R f0 f1 f4 hc_130) (fun _ S_135 q_138 => ?_) (fun _ _ qq => kr_x qq)
          refine kr_v q_138 fun R_136 E_137 => ?_
          have E_139 := E_137
          refine go_goto (o := 110) (t := 231) (by decide +kernel) (by decide +kernel) ?_
          cases h
          exact go_vret (by decide +kernel) rfl (hQ E_139 _ _ R_136 q_out_n)
      · have h := it_n hp_9 h
        refine go_aload_n (n := 0) (by decide +kernel) l0 f0 ?_
        obtain ⟨x_143, e_144, h⟩ := lx_s h
        refine go_getf (x := 310) (ci := 13) (kf := 12) (fin := 0) (t := 0) (by decide +kernel) (by decide +kernel) (by decide +kernel) R f0 (fx_k (c := 13) R (by decide +kernel)) fun v_140 f_141 => ?_
        have f_142 := q_is_eq f_141 e_144
        refine go_bipush (n := 30) (z := 30) (by decide +kernel) (by decide) fun v_145 f_146 => ?_
        refine go_icmp (c := .eq) (o := 13) (t := 66) (P := x_143 = 30) (by decide +kernel) (by decide +kernel) f_142 f_146 (Iff.rfl) (fun hp_147 => ?_) (fun hp_147 => ?_)
        · have h := it_t hp_147 h
          exact oj_X12_carriesOut_66 hd R l0 f0 l1 f1 l2 f2 hQ h
        · have h := it_f hp_147 h
          refine go_aload_n (n := 0) (by decide +kernel) l0 f0 ?_
          refine go_getf (x := 7) (ci := 13) (kf := 1) (fin := 1) (t := 2) (by decide +kernel) (by decide +kernel) (by decide +kernel) R f0 (fx_k (c := 13) R (by decide +kernel)) fun v_162 f_163 => ?_
          have f_164 := q_is_eq (b := 69) f_163 (fx_v R (by decide +kernel)).symm
          refine go_iload (n := 4) (by decide +kernel) l4 f4 ?_
          obtain ⟨g_167, h⟩ := gd_s h
          obtain ⟨x_169, e_170, h⟩ := lx_s h
          refine go_iald (kd := 100) (by decide +kernel) rfl R f_164 f4 (fx_k (c := 100) R (by decide +kernel)) (fx_x (a := 69) (ln := 4) R (by decide +kernel) g_167) fun v_165 f_166 => ?_
          have f_168 := q_is_eq f_166 e_170
          refine go_if (c := .ne) (o := 16) (t := 79) (P := ¬ (x_169 = 0)) (by decide +kernel) (by decide +kernel) f_168 (Iff.rfl) (fun hp_171 => ?_) (fun hp_171 => ?_)
          · have h := it_f hp_171 h
            refine go_aload_n (n := 0) (by decide +kernel) l0 f0 ?_
            refine go_iload (n := 4) (by decide +kernel) l4 f4 ?_
            refine go_aload_n (n := 0) (by decide +kernel) l0 f0 ?_
            refine go_getf (x := 46) (ci := 13) (kf := 14) (fin := 1) (t := 2) (by decide +kernel) (by decide +kernel) (by decide +kernel) R f0 (fx_k (c := 13) R (by decide +kernel)) fun v_172 f_173 => ?_
            have f_174 := q_is_eq (b := 81) f_173 (fx_v R (by decide +kernel)).symm
            refine go_iload_n (n := 1) (by decide +kernel) l1 f1 ?_
            obtain ⟨g_177, h⟩ := gd_s h
            obtain ⟨x_179, e_180, h⟩ := lx_s h
            refine go_iald (kd := 100) (by decide +kernel) rfl R f_174 f1 (fx_k (c := 100) R (by decide +kernel)) (fx_x (a := 81) (ln := 30) R (by decide +kernel) g_177) fun v_175 f_176 => ?_
            have f_178 := q_is_eq f_176 e_180
            refine go_aload_n (n := 0) (by decide +kernel) l0 f0 ?_
            refine go_getf (x := 7) (ci := 13) (kf := 1) (fin := 1) (t := 2) (by decide +kernel) (by decide +kernel) (by decide +kernel) R f0 (fx_k (c := 13) R (by decide +kernel)) fun v_181 f_182 => ?_
            have f_183 := q_is_eq (b := 69) f_182 (fx_v R (by decide +kernel)).symm
            refine go_iload (n := 4) (by decide +kernel) l4 f4 ?_
            refine go_iald (kd := 100) (by decide +kernel) rfl R f_183 f4 (fx_k (c := 100) R (by decide +kernel)) (fx_x (a := 69) (ln := 4) R (by decide +kernel) g_167) fun v_184 f_185 => ?_
            have f_186 := q_is_eq f_185 e_170
            refine go_iconst (n := 1) (z := 1) (by decide +kernel) (by decide) fun v_187 f_188 => ?_
            refine go_isub (by decide +kernel) f_186 f_188 fun v_189 f_190 => ?_
            refine go_iload (n := 5) (by decide +kernel) l5 f5 ?_
            refine go_iload_n (n := 1) (by decide +kernel) l1 f1 ?_
            refine go_iload_n (n := 2) (by decide +kernel) l2 f2 ?_
            obtain ⟨x_192, m_193, hc_191, h⟩ := bd_s h
            refine go_callV (x := 576) (mi := 212) (n := 6) (ci := 13) (as := [v4, v_175, v_189, v5, v1, v2]) (rest := []) (by decide +kernel) (by decide +kernel) rfl rfl (q_sum8 _ (Nat.le_of_ble_eq_true rfl)) R f0 (fx_k (c := 13) R (by decide +kernel)) (om_X12_makes (Nat.le_trans (by decide) hd) R f0 f4 f_178 f_190 f5 f1 f2 hc_191) (fun _ S_196 q_199 => ?_) (fun _ _ qq => kr_x qq)
            refine kr_z (by decide) q_199 fun v_194 f_195 R_197 E_198 => ?_
            have E_200 := E_198
            refine go_pop (by decide +kernel) f_195 (Or.inl rfl) ?_
            refine go_goto (o := 126) (t := 231) (by decide +kernel) (by decide +kernel) ?_
            cases h
            exact go_vret (by decide +kernel) rfl (hQ E_200 _ _ R_197 q_out_n)
          · have h := it_n hp_171 h
            exact oj_X12_carriesOut_66 hd R l0 f0 l1 f1 l2 f2 hQ h
    · have h := it_n hp_6 h
      refine go_aload_n (n := 0) (by decide +kernel) l0 f0 ?_
      refine go_iload_n (n := 1) (by decide +kernel) l1 f1 ?_
      refine go_iload_n (n := 2) (by decide +kernel) l2 f2 ?_
      refine go_aload_n (n := 0) (by decide +kernel) l0 f0 ?_
      obtain ⟨x_204, e_205, h⟩ := lx_s h
      refine go_getf (x := 357) (ci := 13) (kf := 0) (fin := 0) (t := 0) (by decide +kernel) (by decide +kernel) (by decide +kernel) R f0 (fx_k (c := 13) R (by decide +kernel)) fun v_201 f_202 => ?_
      have f_203 := q_is_eq f_202 e_205
      refine go_iload (n := 4) (by decide +kernel) l4 f4 ?_
      refine go_iadd (by decide +kernel) f_203 f4 fun v_206 f_207 => ?_
      obtain ⟨x_209, m_210, hc_208, h⟩ := bd_s h
      refine go_callV (x := 626) (mi := 252) (n := 3) (ci := 13) (as := [v1, v2, v_206]) (rest := []) (by decide +kernel) (by decide +kernel) rfl rfl (q_sum8 _ (Nat.le_of_ble_eq_true rfl)) R f0 (fx_k (c := 13) R (by decide +kernel)) (om_X12_makesTimer (Nat.le_trans (by decide) hd) R f0 f1 f2 f_207 hc_208) (fun _ S_213 q_216 => ?_) (fun _ _ qq => kr_x qq)
      refine kr_v q_216 fun R_214 E_215 => ?_
      have E_217 := E_215
      refine go_goto (o := 193) (t := 231) (by decide +kernel) (by decide +kernel) ?_
      cases h
      exact go_vret (by decide +kernel) rfl (hQ E_217 _ _ R_214 q_out_n)
  · have h := it_n hp_3 h
    refine go_aload_n (n := 0) (by decide +kernel) l0 f0 ?_
    refine go_iload_n (n := 1) (by decide +kernel) l1 f1 ?_
    refine go_iload_n (n := 2) (by decide +kernel) l2 f2 ?_
    refine go_iload (n := 4) (by decide +kernel) l4 f4 ?_
    refine go_iload (n := 5) (by decide +kernel) l5 f5 ?_
    obtain ⟨x_219, m_220, hc_218, h⟩ := bd_s h
    refine go_callV (x := 623) (mi := 251) (n := 4) (ci := 13) (as := [v1, v2, v4, v5]) (rest := []) (by decide +kernel) (by decide +kernel) rfl rfl (q_sum8 _ (Nat.le_of_ble_eq_true rfl)) R f0 (fx_k (c := 13) R (by decide +kernel)) (om_X12_makesActivity (Nat.le_trans (by decide) hd) R f0 f1 f2 f4 f5 hc_218) (fun _ S_223 q_226 => ?_) (fun _ _ qq => kr_x qq)
    refine kr_v q_226 fun R_224 E_225 => ?_
    have E_227 := E_225
    refine go_goto (o := 215) (t := 231) (by decide +kernel) (by decide +kernel) ?_
    cases h
    exact go_vret (by decide +kernel) rfl (hQ E_227 _ _ R_224 q_out_n)
end DF39
