/-! Methods as functions (written by wip/whole/dec.py), 20: X11_lastIsOpen, X11_startFor, X11_meetPoint, X11_lookAtSchedule, X11_pass. -/
section DF20
noncomputable def fm_X11_lastIsOpen (p1 : Int) (m0 : MM) : Option Int := gd (okc m0 p1 8) <| lx (m0 p1 6) fun x_5 =>
if x_5 < 0 then
some 0
else
bp (fm_Jx4a65c_size_8abf5 7 m0) fun x_17 =>
if x_5 < x_17 then
bp (fm_Jx4a65c_get_915e3 7 x_5 m0) fun x_35 =>
gd (okc m0 x_35 7) <| lx (m0 x_35 6) fun x_47 =>
if x_47 = 0 then
some 1
else
some 0
else
some 0
set_option maxHeartbeats 4000000 in
theorem om_X11_lastIsOpen {xs : List Int32} {d : Nat} {S : QS} {m0 : MM} {p1 : Int} {v0 : Value} {v1 : Value} {rz : Int}
  (hd : 4 ≤ d) (R : Rp S m0) (f0 : q_is 2 v0 4) (f1 : q_is 2 v1 p1)
  (h : fm_X11_lastIsOpen p1 m0 = some rz) : Mt xs d 182 [v0, v1] S (Cr 0 m0 m0 rz) := by
  obtain ⟨d, rfl⟩ : ∃ e, d = e + 1 := ⟨d - 1, by omega⟩
  have hd : 3 ≤ d := Nat.le_of_succ_le_succ hd
  refine Mt.of (M := qM_X11_lastIsOpen) rfl (by rw [sl_1 (q_is_cat f0 (Or.inr rfl)), sl_1 (q_is_cat f1 (Or.inr rfl)), sl_0]; decide) ?_
  rw [la_1 (q_is_cat f0 (Or.inr rfl)), la_1 (q_is_cat f1 (Or.inr rfl)), la_0]
  obtain ⟨L, hL⟩ : ∃ L : QL, L = [(0, v0), (0 + 1, v1)] := ⟨_, rfl⟩
  rw [← hL]
  have l0 : q_lo L 0 = some v0 := by rw [hL]; rfl
  have l1 : q_lo L 1 = some v1 := by rw [hL]; rfl
  have hQ : ∀ o S1, Rp S1 m0 → q_out 0 o rz → (Cr 0 m0 m0 rz) o S1 := fun o S1 a b => ⟨a, Ext.rf _, b⟩
  unfold fm_X11_lastIsOpen at h
  refine go_aload_n (n := 1) (by decide +kernel) l1 f1 ?_
  obtain ⟨g_3, h⟩ := gd_s h
  obtain ⟨x_5, e_6, h⟩ := lx_s h
  refine go_getf (x := 674) (ci := 8) (kf := 6) (fin := 0) (t := 0) (by decide +kernel) (by decide +kernel) (by decide +kernel) R f1 g_3 fun v_1 f_2 => ?_
  have f_4 := q_is_eq f_2 e_6
  refine go_if (c := .lt) (o := 41) (t := 45) (P := x_5 < 0) (by decide +kernel) (by decide +kernel) f_4 (Iff.rfl) (fun hp_7 => ?_) (fun hp_7 => ?_)
  · have h := it_t hp_7 h
    refine go_iconst (n := 0) (z := 0) (by decide +kernel) (by decide) fun v_8 f_9 => ?_
    cases h
    exact go_iret (by decide +kernel) rfl (Or.inr ⟨rfl, by decide⟩) f_9 (hQ _ _ R (q_out_v (by decide) f_9))
  · have h := it_f hp_7 h
    refine go_aload_n (n := 1) (by decide +kernel) l1 f1 ?_
    refine go_getf (x := 674) (ci := 8) (kf := 6) (fin := 0) (t := 0) (by decide +kernel) (by decide +kernel) (by decide +kernel) R f1 g_3 fun v_10 f_11 => ?_
    have f_12 := q_is_eq f_11 e_6
    refine go_aload_n (n := 0) (by decide +kernel) l0 f0 ?_
    refine go_getf (x := 24) (ci := 12) (kf := 2) (fin := 1) (t := 2) (by decide +kernel) (by decide +kernel) (by decide +kernel) R f0 (fx_k (c := 12) R (by decide +kernel)) fun v_13 f_14 => ?_
    have f_15 := q_is_eq (b := 7) f_14 (fx_v R (by decide +kernel)).symm
    obtain ⟨x_17, hc_16, h⟩ := bp_s h
    refine go_callV (x := 127) (mi := 326) (n := 0) (ci := 0) (as := []) (rest := [v_10]) (by decide +kernel) (by decide +kernel) rfl rfl (q_sum8 _ (Nat.le_of_ble_eq_true rfl)) R f_15 (fx_k (c := 0) R (by decide +kernel)) (om_Jx4a65c_size_8abf5 (Nat.le_trans (by decide) hd) R (fx_k (c := 0) R (by decide +kernel)) f_15 hc_16) (fun _ S_21 q_24 => ?_) (fun _ _ qq => kr_x qq)
    refine kr_z (by decide) q_24 fun v_19 f_20 R_22 E_23 => ?_
    refine go_icmp (c := .ge) (o := 27) (t := 45) (P := ¬ (x_5 < x_17)) (by decide +kernel) (by decide +kernel) f_12 f_20 (Int.not_lt.symm) (fun hp_25 => ?_) (fun hp_25 => ?_)
    · have h := it_f hp_25 h
      refine go_iconst (n := 0) (z := 0) (by decide +kernel) (by decide) fun v_26 f_27 => ?_
      cases h
      exact go_iret (by decide +kernel) rfl (Or.inr ⟨rfl, by decide⟩) f_27 (hQ _ _ R_22 (q_out_v (by decide) f_27))
    · have h := it_n hp_25 h
      refine go_aload_n (n := 0) (by decide +kernel) l0 f0 ?_
      refine go_getf (x := 24) (ci := 12) (kf := 2) (fin := 1) (t := 2) (by decide +kernel) (by decide +kernel) (by decide +kernel) R_22 f0 (fx_k (c := 12) R_22 (by decide +kernel)) fun v_28 f_29 => ?_
      have f_30 := q_is_eq (b := 7) f_29 (fx_v R_22 (by decide +kernel)).symm
      refine go_aload_n (n := 1) (by decide +kernel) l1 f1 ?_
      refine go_getf (x := 674) (ci := 8) (kf := 6) (fin := 0) (t := 0) (by decide +kernel) (by decide +kernel) (by decide +kernel) R_22 f1 g_3 fun v_31 f_32 => ?_
      have f_33 := q_is_eq f_32 e_6
      obtain ⟨x_35, hc_34, h⟩ := bp_s h
      refine go_callV (x := 305) (mi := 329) (n := 1) (ci := 0) (as := [v_31]) (rest := []) (by decide +kernel) (by decide +kernel) rfl rfl (q_sum8 _ (Nat.le_of_ble_eq_true rfl)) R_22 f_30 (fx_k (c := 0) R_22 (by decide +kernel)) (om_Jx4a65c_get_915e3 (Nat.le_trans (by decide) hd) R_22 (fx_k (c := 0) R_22 (by decide +kernel)) f_30 f_33 hc_34) (fun _ S_39 q_42 => ?_) (fun _ _ qq => kr_x qq)
      refine kr_z (by decide) q_42 fun v_37 f_38 R_40 E_41 => ?_
      obtain ⟨g_43, h⟩ := gd_s h
      refine go_cast (x := 181) (kd := 7) (a := 0) (b := 0) (by decide +kernel) (by decide +kernel) R_40 f_38 g_43 ?_
      obtain ⟨x_47, e_48, h⟩ := lx_s h
      refine go_getf (x := 208) (ci := 7) (kf := 6) (fin := 0) (t := 0) (by decide +kernel) (by decide +kernel) (by decide +kernel) R_40 f_38 g_43 fun v_44 f_45 => ?_
      have f_46 := q_is_eq f_45 e_48
      refine go_if (c := .ne) (o := 7) (t := 45) (P := ¬ (x_47 = 0)) (by decide +kernel) (by decide +kernel) f_46 (Iff.rfl) (fun hp_49 => ?_) (fun hp_49 => ?_)
      · have h := it_f hp_49 h
        refine go_iconst (n := 0) (z := 0) (by decide +kernel) (by decide) fun v_50 f_51 => ?_
        cases h
        exact go_iret (by decide +kernel) rfl (Or.inr ⟨rfl, by decide⟩) f_51 (hQ _ _ R_40 (q_out_v (by decide) f_51))
      · have h := it_n hp_49 h
        refine go_iconst (n := 1) (z := 1) (by decide +kernel) (by decide) fun v_52 f_53 => ?_
        refine go_goto (o := 4) (t := 46) (by decide +kernel) (by decide +kernel) ?_
        cases h
        exact go_iret (by decide +kernel) rfl (Or.inr ⟨rfl, by decide⟩) f_53 (hQ _ _ R_40 (q_out_v (by decide) f_53))
noncomputable def fm_X11_startFor (p1 p2 : Int) (m0 : MM) : Option (Int × MM) := bp (fm_Jx4a65c_size_8abf5 7 m0) fun x_5 =>
if x_5 < 30 then
gd (okc m0 p1 8) <| lx (m0 p1 0) fun x_20 =>
lx (m0 p1 1) fun x_25 =>
bd (fm_X11_startRun x_20 x_25 p2 (-1) 0 m0) fun x_32 m_33 =>
gd (okc m_33 x_32 7) <| lx (m_33 x_32 0) fun x_47 =>
up m_33 p1 6 x_47 fun m_50 =>
some (0, m_50)
else
some (0, m0)
set_option maxHeartbeats 4000000 in
theorem om_X11_startFor {xs : List Int32} {d : Nat} {S : QS} {m0 : MM} {p1 p2 : Int} {v0 : Value} {v1 : Value} {v2 : Value} {rz : Int} {rm : MM}
  (hd : 11 ≤ d) (R : Rp S m0) (f0 : q_is 2 v0 4) (f1 : q_is 2 v1 p1) (f2 : q_is 0 v2 p2)
  (h : fm_X11_startFor p1 p2 m0 = some (rz, rm)) : Mt xs d 183 [v0, v1, v2] S (Cr 9 m0 rm rz) := by
  obtain ⟨d, rfl⟩ : ∃ e, d = e + 1 := ⟨d - 1, by omega⟩
  have hd : 10 ≤ d := Nat.le_of_succ_le_succ hd
  refine Mt.of (M := qM_X11_startFor) rfl (by rw [sl_1 (q_is_cat f0 (Or.inr rfl)), sl_1 (q_is_cat f1 (Or.inr rfl)), sl_1 (q_is_cat f2 (Or.inl rfl)), sl_0]; decide) ?_
  rw [la_1 (q_is_cat f0 (Or.inr rfl)), la_1 (q_is_cat f1 (Or.inr rfl)), la_1 (q_is_cat f2 (Or.inl rfl)), la_0]
  obtain ⟨L, hL⟩ : ∃ L : QL, L = [(0, v0), (0 + 1, v1), (0 + 1 + 1, v2)] := ⟨_, rfl⟩
  rw [← hL]
  have l0 : q_lo L 0 = some v0 := by rw [hL]; rfl
  have l1 : q_lo L 1 = some v1 := by rw [hL]; rfl
  have l2 : q_lo L 2 = some v2 := by rw [hL]; rfl
  have hQ : Ext m0 rm → ∀ o S1, Rp S1 rm → q_out 9 o rz → (Cr 9 m0 rm rz) o S1 := fun a o S1 b e => ⟨b, a, e⟩
  unfold fm_X11_startFor at h
  refine go_aload_n (n := 0) (by decide +kernel) l0 f0 ?_
  refine go_getf (x := 24) (ci := 12) (kf := 2) (fin := 1) (t := 2) (by decide +kernel) (by decide +kernel) (by decide +kernel) R f0 (fx_k (c := 12) R (by decide +kernel)) fun v_1 f_2 => ?_
  have f_3 := q_is_eq (b := 7) f_2 (fx_v R (by decide +kernel)).symm
  obtain ⟨x_5, hc_4, h⟩ := bp_s h
  refine go_callV (x := 127) (mi := 326) (n := 0) (ci := 0) (as := []) (rest := []) (by decide +kernel) (by decide +kernel) rfl rfl (q_sum8 _ (Nat.le_of_ble_eq_true rfl)) R f_3 (fx_k (c := 0) R (by decide +kernel)) (om_Jx4a65c_size_8abf5 (Nat.le_trans (by decide) hd) R (fx_k (c := 0) R (by decide +kernel)) f_3 hc_4) (fun _ S_9 q_12 => ?_) (fun _ _ qq => kr_x qq)
  refine kr_z (by decide) q_12 fun v_7 f_8 R_10 E_11 => ?_
  refine go_bipush (n := 30) (z := 30) (by decide +kernel) (by decide) fun v_13 f_14 => ?_
  refine go_icmp (c := .ge) (o := 25) (t := 34) (P := ¬ (x_5 < 30)) (by decide +kernel) (by decide +kernel) f_8 f_14 (Int.not_lt.symm) (fun hp_15 => ?_) (fun hp_15 => ?_)
  · have h := it_f hp_15 h
    cases h
    exact go_vret (by decide +kernel) rfl (hQ (Ext.rf _) _ _ R_10 q_out_n)
  · have h := it_n hp_15 h
    refine go_aload_n (n := 1) (by decide +kernel) l1 f1 ?_
    refine go_aload_n (n := 0) (by decide +kernel) l0 f0 ?_
    refine go_aload_n (n := 1) (by decide +kernel) l1 f1 ?_
    obtain ⟨g_18, h⟩ := gd_s h
    obtain ⟨x_20, e_21, h⟩ := lx_s h
    refine go_getf (x := 491) (ci := 8) (kf := 0) (fin := 2) (t := 0) (by decide +kernel) (by decide +kernel) (by decide +kernel) R_10 f1 g_18 fun v_16 f_17 => ?_
    have f_19 := q_is_eq f_17 e_21
    refine go_aload_n (n := 1) (by decide +kernel) l1 f1 ?_
    obtain ⟨x_25, e_26, h⟩ := lx_s h
    refine go_getf (x := 492) (ci := 8) (kf := 1) (fin := 2) (t := 0) (by decide +kernel) (by decide +kernel) (by decide +kernel) R_10 f1 g_18 fun v_22 f_23 => ?_
    have f_24 := q_is_eq f_23 e_26
    refine go_iload_n (n := 2) (by decide +kernel) l2 f2 ?_
    refine go_iconst (n := (-1)) (z := (-1)) (by decide +kernel) (by decide) fun v_27 f_28 => ?_
    refine go_iconst (n := 0) (z := 0) (by decide +kernel) (by decide) fun v_29 f_30 => ?_
    obtain ⟨x_32, m_33, hc_31, h⟩ := bd_s h
    refine go_callV (x := 176) (mi := 151) (n := 5) (ci := 12) (as := [v_16, v_22, v2, v_27, v_29]) (rest := [v1]) (by decide +kernel) (by decide +kernel) rfl rfl (q_sum8 _ (Nat.le_of_ble_eq_true rfl)) R_10 f0 (fx_k (c := 12) R_10 (by decide +kernel)) (om_X11_startRun (Nat.le_trans (by decide) hd) R_10 f0 f_19 f_24 f2 f_28 f_30 hc_31) (fun _ S_36 q_39 => ?_) (fun _ _ qq => kr_x qq)
    refine kr_z (by decide) q_39 fun v_34 f_35 R_37 E_38 => ?_
    have E_42 := E_38
    obtain ⟨g_45, h⟩ := gd_s h
    obtain ⟨x_47, e_48, h⟩ := lx_s h
    refine go_getf (x := 180) (ci := 7) (kf := 0) (fin := 2) (t := 0) (by decide +kernel) (by decide +kernel) (by decide +kernel) R_37 f_35 g_45 fun v_43 f_44 => ?_
    have f_46 := q_is_eq f_44 e_48
    have g_49 := Ext.ok E_38 g_18
    obtain ⟨m_50, e_51, h⟩ := up_s h
    refine go_putf (x := 674) (ci := 8) (kf := 6) (fin := 0) (zt := 0) (by decide +kernel) (by decide +kernel) (by decide) (by decide +kernel) (by decide) (Or.inl rfl) R_37 f1 f_46 (fun hq => absurd hq (by decide)) g_49 e_51 (fx_f (j := 6) R_37.2 g_49 (by decide +kernel)) fun S_52 R_53 E_54 => ?_
    have E_56 := Ext.tr E_42 E_54
    cases h
    exact go_vret (by decide +kernel) rfl (hQ E_56 _ _ R_53 q_out_n)
noncomputable def fj_X11_meetPoint_16 (y1 y2 : Int) (m : MM) : Option (Int × MM) := bd (fm_X11_startFor y1 y2 m) fun x_12 m_13 =>
some (0, m_13)
set_option maxHeartbeats 4000000 in
theorem oj_X11_meetPoint_16 {xs : List Int32} {d : Nat} {S : QS} {L : QL} {Q : QO → QS → Prop} {m : MM} {y1 y2 : Int} {v0 : Value} {v1 : Value} {v2 : Value}  {rz : Int} {rm : MM}
  (hd : 11 ≤ d) (R : Rp S m) (l0 : q_lo L 0 = some v0) (f0 : q_is 2 v0 4) (l1 : q_lo L 1 = some v1) (f1 : q_is 2 v1 y1) (l2 : q_lo L 2 = some v2) (f2 : q_is 0 v2 y2)
  (hQ : Ext m rm → ∀ o S1, Rp S1 rm → q_out 9 o rz → Q o S1)
  (h : fj_X11_meetPoint_16 y1 y2 m = some (rz, rm)) : Go xs d qM_X11_meetPoint 16 L [] S Q := by
  unfold fj_X11_meetPoint_16 at h
  refine go_aload_n (n := 0) (by decide +kernel) l0 f0 ?_
  refine go_aload_n (n := 1) (by decide +kernel) l1 f1 ?_
  refine go_iload_n (n := 2) (by decide +kernel) l2 f2 ?_
  obtain ⟨x_12, m_13, hc_11, h⟩ := bd_s h
  refine go_callV (x := 658) (mi := 183) (n := 2) (ci := 12) (as := [v1, v2]) (rest := []) (by decide +kernel) (by decide +kernel) rfl rfl (q_sum8 _ (Nat.le_of_ble_eq_true rfl)) R f0 (fx_k (c := 12) R (by decide +kernel)) (om_X11_startFor (Nat.le_trans (by decide) hd) R f0 f1 f2 hc_11) (fun _ S_16 q_19 => ?_) (fun _ _ qq => kr_x qq)
  refine kr_v q_19 fun R_17 E_18 => ?_
  have E_22 := E_18
  refine go_goto (o := 64) (t := 86) (by decide +kernel) (by decide +kernel) ?_
  cases h
  exact go_vret (by decide +kernel) rfl (hQ E_22 _ _ R_17 q_out_n)
noncomputable def fm_X11_meetPoint (p1 p2 : Int) (m0 : MM) : Option (Int × MM) := bp (fm_X11_lastIsOpen p1 m0) fun x_2 =>
if x_2 = 0 then
fj_X11_meetPoint_16 p1 p2 m0
else
gd (okc m0 p1 8) <| lx (m0 p1 3) fun x_27 =>
if x_27 = 3 then
fj_X11_meetPoint_16 p1 p2 m0
else
if x_27 = 1 then
lx (m0 p1 7) fun x_89 =>
if x_89 = 0 then
up m0 p1 7 1 fun m_94 =>
up m_94 p1 8 p2 fun m_102 =>
some (0, m_102)
else
some (0, m0)
else
if x_27 = 2 then
lx (m0 p1 6) fun x_50 =>
bp (fm_Jx4a65c_get_915e3 7 x_50 m0) fun x_53 =>
gd (okc m0 x_53 7) <| bd (fm_X11_cancelRun x_53 m0) fun x_63 m_64 =>
bd (fm_X11_startFor p1 p2 m_64) fun x_75 m_76 =>
some (0, m_76)
else
some (0, m0)
set_option maxHeartbeats 4000000 in
theorem om_X11_meetPoint {xs : List Int32} {d : Nat} {S : QS} {m0 : MM} {p1 p2 : Int} {v0 : Value} {v1 : Value} {v2 : Value} {rz : Int} {rm : MM}
  (hd : 12 ≤ d) (R : Rp S m0) (f0 : q_is 2 v0 4) (f1 : q_is 2 v1 p1) (f2 : q_is 0 v2 p2)
  (h : fm_X11_meetPoint p1 p2 m0 = some (rz, rm)) : Mt xs d 181 [v0, v1, v2] S (Cr 9 m0 rm rz) := by
  obtain ⟨d, rfl⟩ : ∃ e, d = e + 1 := ⟨d - 1, by omega⟩
  have hd : 11 ≤ d := Nat.le_of_succ_le_succ hd
  refine Mt.of (M := qM_X11_meetPoint) rfl (by rw [sl_1 (q_is_cat f0 (Or.inr rfl)), sl_1 (q_is_cat f1 (Or.inr rfl)), sl_1 (q_is_cat f2 (Or.inl rfl)), sl_0]; decide) ?_
  rw [la_1 (q_is_cat f0 (Or.inr rfl)), la_1 (q_is_cat f1 (Or.inr rfl)), la_1 (q_is_cat f2 (Or.inl rfl)), la_0]
  obtain ⟨L, hL⟩ : ∃ L : QL, L = [(0, v0), (0 + 1, v1), (0 + 1 + 1, v2)] := ⟨_, rfl⟩
  rw [← hL]
  have l0 : q_lo L 0 = some v0 := by rw [hL]; rfl
  have l1 : q_lo L 1 = some v1 := by rw [hL]; rfl
  have l2 : q_lo L 2 = some v2 := by rw [hL]; rfl
  have hQ : Ext m0 rm → ∀ o S1, Rp S1 rm → q_out 9 o rz → (Cr 9 m0 rm rz) o S1 := fun a o S1 b e => ⟨b, a, e⟩
  unfold fm_X11_meetPoint at h
  refine go_aload_n (n := 0) (by decide +kernel) l0 f0 ?_
  refine go_aload_n (n := 1) (by decide +kernel) l1 f1 ?_
  obtain ⟨x_2, hc_1, h⟩ := bp_s h
  refine go_callV (x := 651) (mi := 182) (n := 1) (ci := 12) (as := [v1]) (rest := []) (by decide +kernel) (by decide +kernel) rfl rfl (q_sum8 _ (Nat.le_of_ble_eq_true rfl)) R f0 (fx_k (c := 12) R (by decide +kernel)) (om_X11_lastIsOpen (Nat.le_trans (by decide) hd) R f0 f1 hc_1) (fun _ S_6 q_9 => ?_) (fun _ _ qq => kr_x qq)
  refine kr_z (by decide) q_9 fun v_4 f_5 R_7 E_8 => ?_
  refine go_if (c := .eq) (o := 11) (t := 16) (P := x_2 = 0) (by decide +kernel) (by decide +kernel) f_5 (Iff.rfl) (fun hp_10 => ?_) (fun hp_10 => ?_)
  · have h := it_t hp_10 h
    exact oj_X11_meetPoint_16 hd R_7 l0 f0 l1 f1 l2 f2 hQ h
  · have h := it_f hp_10 h
    refine go_aload_n (n := 1) (by decide +kernel) l1 f1 ?_
    obtain ⟨g_25, h⟩ := gd_s h
    obtain ⟨x_27, e_28, h⟩ := lx_s h
    refine go_getf (x := 671) (ci := 8) (kf := 3) (fin := 2) (t := 0) (by decide +kernel) (by decide +kernel) (by decide +kernel) R_7 f1 g_25 fun v_23 f_24 => ?_
    have f_26 := q_is_eq f_24 e_28
    refine go_iconst (n := 3) (z := 3) (by decide +kernel) (by decide) fun v_29 f_30 => ?_
    refine go_icmp (c := .ne) (o := 12) (t := 25) (P := ¬ (x_27 = 3)) (by decide +kernel) (by decide +kernel) f_26 f_30 (Iff.rfl) (fun hp_31 => ?_) (fun hp_31 => ?_)
    · have h := it_f hp_31 h
      refine go_aload_n (n := 1) (by decide +kernel) l1 f1 ?_
      refine go_getf (x := 671) (ci := 8) (kf := 3) (fin := 2) (t := 0) (by decide +kernel) (by decide +kernel) (by decide +kernel) R_7 f1 g_25 fun v_32 f_33 => ?_
      have f_34 := q_is_eq f_33 e_28
      refine go_iconst (n := 1) (z := 1) (by decide +kernel) (by decide) fun v_35 f_36 => ?_
      refine go_icmp (c := .ne) (o := 23) (t := 53) (P := ¬ (x_27 = 1)) (by decide +kernel) (by decide +kernel) f_34 f_36 (Iff.rfl) (fun hp_37 => ?_) (fun hp_37 => ?_)
      · have h := it_f hp_37 h
        refine go_aload_n (n := 1) (by decide +kernel) l1 f1 ?_
        refine go_getf (x := 671) (ci := 8) (kf := 3) (fin := 2) (t := 0) (by decide +kernel) (by decide +kernel) (by decide +kernel) R_7 f1 g_25 fun v_38 f_39 => ?_
        have f_40 := q_is_eq f_39 e_28
        refine go_iconst (n := 2) (z := 2) (by decide +kernel) (by decide) fun v_41 f_42 => ?_
        refine go_icmp (c := .ne) (o := 28) (t := 86) (P := ¬ (x_27 = 2)) (by decide +kernel) (by decide +kernel) f_40 f_42 (Iff.rfl) (fun hp_43 => ?_) (fun hp_43 => ?_)
        · have h := it_f hp_43 h
          cases h
          exact go_vret (by decide +kernel) rfl (hQ (Ext.rf _) _ _ R_7 q_out_n)
        · have h := it_n hp_43 h
          refine go_aload_n (n := 0) (by decide +kernel) l0 f0 ?_
          refine go_aload_n (n := 0) (by decide +kernel) l0 f0 ?_
          refine go_getf (x := 24) (ci := 12) (kf := 2) (fin := 1) (t := 2) (by decide +kernel) (by decide +kernel) (by decide +kernel) R_7 f0 (fx_k (c := 12) R_7 (by decide +kernel)) fun v_44 f_45 => ?_
          have f_46 := q_is_eq (b := 7) f_45 (fx_v R_7 (by decide +kernel)).symm
          refine go_aload_n (n := 1) (by decide +kernel) l1 f1 ?_
          obtain ⟨x_50, e_51, h⟩ := lx_s h
          refine go_getf (x := 674) (ci := 8) (kf := 6) (fin := 0) (t := 0) (by decide +kernel) (by decide +kernel) (by decide +kernel) R_7 f1 g_25 fun v_47 f_48 => ?_
          have f_49 := q_is_eq f_48 e_51
          obtain ⟨x_53, hc_52, h⟩ := bp_s h
          refine go_callV (x := 305) (mi := 329) (n := 1) (ci := 0) (as := [v_47]) (rest := [v0]) (by decide +kernel) (by decide +kernel) rfl rfl (q_sum8 _ (Nat.le_of_ble_eq_true rfl)) R_7 f_46 (fx_k (c := 0) R_7 (by decide +kernel)) (om_Jx4a65c_get_915e3 (Nat.le_trans (by decide) hd) R_7 (fx_k (c := 0) R_7 (by decide +kernel)) f_46 f_49 hc_52) (fun _ S_57 q_60 => ?_) (fun _ _ qq => kr_x qq)
          refine kr_z (by decide) q_60 fun v_55 f_56 R_58 E_59 => ?_
          obtain ⟨g_61, h⟩ := gd_s h
          refine go_cast (x := 181) (kd := 7) (a := 0) (b := 0) (by decide +kernel) (by decide +kernel) R_58 f_56 g_61 ?_
          obtain ⟨x_63, m_64, hc_62, h⟩ := bd_s h
          refine go_callV (x := 242) (mi := 153) (n := 1) (ci := 12) (as := [v_55]) (rest := []) (by decide +kernel) (by decide +kernel) rfl rfl (q_sum8 _ (Nat.le_of_ble_eq_true rfl)) R_58 f0 (fx_k (c := 12) R_58 (by decide +kernel)) (om_X11_cancelRun (Nat.le_trans (by decide) hd) R_58 f0 f_56 hc_62) (fun _ S_67 q_70 => ?_) (fun _ _ qq => kr_x qq)
          refine kr_z (by decide) q_70 fun v_65 f_66 R_68 E_69 => ?_
          have E_73 := E_69
          refine go_pop (by decide +kernel) f_66 (Or.inl rfl) ?_
          refine go_aload_n (n := 0) (by decide +kernel) l0 f0 ?_
          refine go_aload_n (n := 1) (by decide +kernel) l1 f1 ?_
          refine go_iload_n (n := 2) (by decide +kernel) l2 f2 ?_
          obtain ⟨x_75, m_76, hc_74, h⟩ := bd_s h
          refine go_callV (x := 658) (mi := 183) (n := 2) (ci := 12) (as := [v1, v2]) (rest := []) (by decide +kernel) (by decide +kernel) rfl rfl (q_sum8 _ (Nat.le_of_ble_eq_true rfl)) R_68 f0 (fx_k (c := 12) R_68 (by decide +kernel)) (om_X11_startFor (Nat.le_trans (by decide) hd) R_68 f0 f1 f2 hc_74) (fun _ S_79 q_82 => ?_) (fun _ _ qq => kr_x qq)
          refine kr_v q_82 fun R_80 E_81 => ?_
          have E_85 := Ext.tr E_73 E_81
          cases h
          exact go_vret (by decide +kernel) rfl (hQ E_85 _ _ R_80 q_out_n)
      · have h := it_n hp_37 h
        refine go_aload_n (n := 1) (by decide +kernel) l1 f1 ?_
        obtain ⟨x_89, e_90, h⟩ := lx_s h
        refine go_getf (x := 648) (ci := 8) (kf := 7) (fin := 0) (t := 0) (by decide +kernel) (by decide +kernel) (by decide +kernel) R_7 f1 g_25 fun v_86 f_87 => ?_
        have f_88 := q_is_eq f_87 e_90
        refine go_if (c := .ne) (o := 49) (t := 86) (P := ¬ (x_89 = 0)) (by decide +kernel) (by decide +kernel) f_88 (Iff.rfl) (fun hp_91 => ?_) (fun hp_91 => ?_)
        · have h := it_f hp_91 h
          cases h
          exact go_vret (by decide +kernel) rfl (hQ (Ext.rf _) _ _ R_7 q_out_n)
        · have h := it_n hp_91 h
          refine go_aload_n (n := 1) (by decide +kernel) l1 f1 ?_
          refine go_iconst (n := 1) (z := 1) (by decide +kernel) (by decide) fun v_92 f_93 => ?_
          obtain ⟨m_94, e_95, h⟩ := up_s h
          refine go_putf (x := 648) (ci := 8) (kf := 7) (fin := 0) (zt := 1) (by decide +kernel) (by decide +kernel) (by decide) (by decide +kernel) (by decide) (Or.inl rfl) R_7 f1 f_93 (fun _ => by decide) g_25 e_95 (fx_f (j := 7) R_7.2 g_25 (by decide +kernel)) fun S_96 R_97 E_98 => ?_
          have E_100 := E_98
          refine go_aload_n (n := 1) (by decide +kernel) l1 f1 ?_
          refine go_iload_n (n := 2) (by decide +kernel) l2 f2 ?_
          have g_101 := Ext.ok E_98 g_25
          obtain ⟨m_102, e_103, h⟩ := up_s h
          refine go_putf (x := 655) (ci := 8) (kf := 8) (fin := 0) (zt := 0) (by decide +kernel) (by decide +kernel) (by decide) (by decide +kernel) (by decide) (Or.inl rfl) R_97 f1 f2 (fun hq => absurd hq (by decide)) g_101 e_103 (fx_f (j := 8) R_97.2 g_101 (by decide +kernel)) fun S_104 R_105 E_106 => ?_
          have E_108 := Ext.tr E_100 E_106
          refine go_goto (o := 36) (t := 86) (by decide +kernel) (by decide +kernel) ?_
          cases h
          exact go_vret (by decide +kernel) rfl (hQ E_108 _ _ R_105 q_out_n)
    · have h := it_n hp_31 h
      exact oj_X11_meetPoint_16 hd R_7 l0 f0 l1 f1 l2 f2 hQ h
noncomputable def fl_X11_lookAtSchedule_46 (y1 y2 : Int) (k84 : MM → Option (Int × MM)) : Nat → Int → MM → Option (Int × MM)
  | 0, _, _ => none
  | n + 1, y3, m => if y2 < y3 then
k84 m
else
gd (okc m y1 8) <| bp (fm_X7_isPoint y1 y3 m) fun x_50 =>
if x_50 = 0 then
lx (w32 (y3 + 1)) fun x_64 =>
fl_X11_lookAtSchedule_46 y1 y2 k84 n x_64 m
else
lx (m y1 5) fun x_73 =>
if x_73 = 0 then
bp (fm_J9_floorMod_7cf53 y3 1000 m) fun x_90 =>
bd (fm_X11_meetPoint y1 x_90 m) fun x_99 m_100 =>
lx (w32 (y3 + 1)) fun x_115 =>
fl_X11_lookAtSchedule_46 y1 y2 k84 n x_115 m_100
else
lx (w32 (y3 + 1)) fun x_81 =>
fl_X11_lookAtSchedule_46 y1 y2 k84 n x_81 m
set_option maxHeartbeats 4000000 in
theorem ol_X11_lookAtSchedule_46 {xs : List Int32} {d : Nat} {Q : QO → QS → Prop} {mb : MM} {y1 y2 : Int} {k84 : MM → Option (Int × MM)} {rz : Int} {rm : MM}
  (hd : 12 ≤ d)
  (hk84 : ∀ mq : MM, Ext mb mq → ∀ {Sq : QS} {Lq : QL} {u1 : Value} {u2 : Value}, k84 mq = some (rz, rm) → Rp Sq mq → q_lo Lq 1 = some u1 → q_is 2 u1 y1 → q_lo Lq 2 = some u2 → q_is 0 u2 y2 → Go xs d qM_X11_lookAtSchedule 84 Lq [] Sq Q)
  (hQ : Ext mb rm → ∀ o S1, Rp S1 rm → q_out 9 o rz → Q o S1) :
  ∀ (n : Nat) {m : MM} {S : QS} {L : QL} {y3 : Int} {v0 : Value} {v1 : Value} {v2 : Value} {v3 : Value} , Ext mb m → fl_X11_lookAtSchedule_46 y1 y2 k84 n y3 m = some (rz, rm) → Rp S m → q_lo L 0 = some v0 → q_is 2 v0 4 → q_lo L 1 = some v1 → q_is 2 v1 y1 → q_lo L 2 = some v2 → q_is 0 v2 y2 → q_lo L 3 = some v3 → q_is 0 v3 y3 → Go xs d qM_X11_lookAtSchedule 46 L [] S Q := by
  intro n
  induction n with
  | zero => intro m S L y3 v0 v1 v2 v3; intro E h R l0 f0 l1 f1 l2 f2 l3 f3; cases h
  | succ n ih0 =>
    intro m S L y3 v0 v1 v2 v3; intro E h R l0 f0 l1 f1 l2 f2 l3 f3
    have ih : ∀ mq : MM, Ext mb mq → ∀ {z3 : Int} {Sq : QS} {Lq : QL} {u0 : Value} {u1 : Value} {u2 : Value} {u3 : Value}, fl_X11_lookAtSchedule_46 y1 y2 k84 n z3 mq = some (rz, rm) → Rp Sq mq → q_lo Lq 0 = some u0 → q_is 2 u0 4 → q_lo Lq 1 = some u1 → q_is 2 u1 y1 → q_lo Lq 2 = some u2 → q_is 0 u2 y2 → q_lo Lq 3 = some u3 → q_is 0 u3 z3 → Go xs d qM_X11_lookAtSchedule 46 Lq [] Sq Q := fun mq b => by intros; exact ih0 b ‹_› ‹_› ‹_› ‹_› ‹_› ‹_› ‹_› ‹_› ‹_› ‹_›
    unfold fl_X11_lookAtSchedule_46 at h
    refine go_iload_n (n := 3) (by decide +kernel) l3 f3 ?_
    refine go_iload_n (n := 2) (by decide +kernel) l2 f2 ?_
    refine go_icmp (c := .gt) (o := 36) (t := 84) (P := y2 < y3) (by decide +kernel) (by decide +kernel) f3 f2 (Iff.rfl) (fun hp_47 => ?_) (fun hp_47 => ?_)
    · have h := it_t hp_47 h
      exact hk84 m E h R l1 f1 l2 f2
    · have h := it_f hp_47 h
      refine go_aload_n (n := 1) (by decide +kernel) l1 f1 ?_
      refine go_iload_n (n := 3) (by decide +kernel) l3 f3 ?_
      obtain ⟨g_48, h⟩ := gd_s h
      obtain ⟨x_50, hc_49, h⟩ := bp_s h
      refine go_callV (x := 665) (mi := 74) (n := 1) (ci := 8) (as := [v3]) (rest := []) (by decide +kernel) (by decide +kernel) rfl rfl (q_sum8 _ (Nat.le_of_ble_eq_true rfl)) R f1 g_48 (om_X7_isPoint (Nat.le_trans (by decide) hd) R g_48 f1 f3 hc_49) (fun _ S_54 q_57 => ?_) (fun _ _ qq => kr_x qq)
      refine kr_z (by decide) q_57 fun v_52 f_53 R_55 E_56 => ?_
      refine go_if (c := .eq) (o := 22) (t := 78) (P := x_50 = 0) (by decide +kernel) (by decide +kernel) f_53 (Iff.rfl) (fun hp_58 => ?_) (fun hp_58 => ?_)
      · have h := it_t hp_58 h
        refine go_iinc (n := 3) (c := 1) (c' := 1) (by decide +kernel) (by decide +kernel) l3 f3 (by decide) fun L_59 v_60 f_61 l_62 kp_63 => ?_
        obtain ⟨x_64, e_65, h⟩ := lx_s h
        have f_66 := q_is_eq f_61 e_65
        have l_67 := kp_63 0 _ l0 (by decide) (Or.inl (by decide))
        have l_68 := kp_63 1 _ l1 (by decide) (Or.inl (by decide))
        have l_69 := kp_63 2 _ l2 (by decide) (Or.inr (q_is_cat f2 (Or.inl rfl)))
        refine go_goto (o := (-35)) (t := 46) (by decide +kernel) (by decide +kernel) ?_
        exact ih m E h R_55 l_67 f0 l_68 f1 l_69 f2 l_62 f_66
      · have h := it_f hp_58 h
        refine go_aload_n (n := 1) (by decide +kernel) l1 f1 ?_
        obtain ⟨x_73, e_74, h⟩ := lx_s h
        refine go_getf (x := 483) (ci := 8) (kf := 5) (fin := 0) (t := 0) (by decide +kernel) (by decide +kernel) (by decide +kernel) R_55 f1 g_48 fun v_70 f_71 => ?_
        have f_72 := q_is_eq f_71 e_74
        refine go_if (c := .ne) (o := 15) (t := 78) (P := ¬ (x_73 = 0)) (by decide +kernel) (by decide +kernel) f_72 (Iff.rfl) (fun hp_75 => ?_) (fun hp_75 => ?_)
        · have h := it_f hp_75 h
          refine go_iinc (n := 3) (c := 1) (c' := 1) (by decide +kernel) (by decide +kernel) l3 f3 (by decide) fun L_76 v_77 f_78 l_79 kp_80 => ?_
          obtain ⟨x_81, e_82, h⟩ := lx_s h
          have f_83 := q_is_eq f_78 e_82
          have l_84 := kp_80 0 _ l0 (by decide) (Or.inl (by decide))
          have l_85 := kp_80 1 _ l1 (by decide) (Or.inl (by decide))
          have l_86 := kp_80 2 _ l2 (by decide) (Or.inr (q_is_cat f2 (Or.inl rfl)))
          refine go_goto (o := (-35)) (t := 46) (by decide +kernel) (by decide +kernel) ?_
          exact ih m E h R_55 l_84 f0 l_85 f1 l_86 f2 l_79 f_83
        · have h := it_n hp_75 h
          refine go_aload_n (n := 0) (by decide +kernel) l0 f0 ?_
          refine go_aload_n (n := 1) (by decide +kernel) l1 f1 ?_
          refine go_iload_n (n := 3) (by decide +kernel) l3 f3 ?_
          refine go_sipush (n := 1000) (z := 1000) (by decide +kernel) (by decide) fun v_87 f_88 => ?_
          obtain ⟨x_90, hc_89, h⟩ := bp_s h
          refine go_callS (x := 496) (mi := 318) (n := 2) (b := 0) (as := [v3, v_87]) (rest := [v1, v0]) (by decide +kernel) (by decide +kernel) rfl rfl (q_sum8 _ (Nat.le_of_ble_eq_true rfl)) (om_J9_floorMod_7cf53 (Nat.le_trans (by decide) hd) R_55 f3 f_88 hc_89) (fun _ S_94 q_97 => ?_) (fun _ _ qq => kr_x qq)
          refine kr_z (by decide) q_97 fun v_92 f_93 R_95 E_96 => ?_
          obtain ⟨x_99, m_100, hc_98, h⟩ := bd_s h
          refine go_callV (x := 668) (mi := 181) (n := 2) (ci := 12) (as := [v1, v_92]) (rest := []) (by decide +kernel) (by decide +kernel) rfl rfl (q_sum8 _ (Nat.le_of_ble_eq_true rfl)) R_95 f0 (fx_k (c := 12) R_95 (by decide +kernel)) (om_X11_meetPoint (Nat.le_trans (by decide) hd) R_95 f0 f1 f_93 hc_98) (fun _ S_103 q_106 => ?_) (fun _ _ qq => kr_x qq)
          refine kr_v q_106 fun R_104 E_105 => ?_
          have E_109 := Ext.tr E E_105
          refine go_iinc (n := 3) (c := 1) (c' := 1) (by decide +kernel) (by decide +kernel) l3 f3 (by decide) fun L_110 v_111 f_112 l_113 kp_114 => ?_
          obtain ⟨x_115, e_116, h⟩ := lx_s h
          have f_117 := q_is_eq f_112 e_116
          have l_118 := kp_114 0 _ l0 (by decide) (Or.inl (by decide))
          have l_119 := kp_114 1 _ l1 (by decide) (Or.inl (by decide))
          have l_120 := kp_114 2 _ l2 (by decide) (Or.inr (q_is_cat f2 (Or.inl rfl)))
          refine go_goto (o := (-35)) (t := 46) (by decide +kernel) (by decide +kernel) ?_
          exact ih m_100 E_109 h R_104 l_118 f0 l_119 f1 l_120 f2 l_113 f_117
noncomputable def fj_X11_lookAtSchedule_29 (y1 : Int) (m : MM) : Option (Int × MM) := lx (m 4 14) fun x_11 =>
lx (m 4 15) fun x_16 =>
lx (w32 (x_11 + x_16)) fun x_20 =>
gd (okc m y1 8) <| lx (m y1 4) fun x_32 =>
lx (w32 (x_32 + 1)) fun x_38 =>
fl_X11_lookAtSchedule_46 y1 x_20 (fun m_130 =>
lx (m_130 y1 4) fun x_139 =>
bp (fm_J9_max_7cf53 x_139 x_20 m_130) fun x_142 =>
up m_130 y1 4 x_142 fun m_150 =>
some (0, m_150)) BIG x_38 m
set_option maxHeartbeats 4000000 in
theorem oj_X11_lookAtSchedule_29 {xs : List Int32} {d : Nat} {S : QS} {L : QL} {Q : QO → QS → Prop} {m : MM} {y1 : Int} {v0 : Value} {v1 : Value}  {rz : Int} {rm : MM}
  (hd : 12 ≤ d) (R : Rp S m) (l0 : q_lo L 0 = some v0) (f0 : q_is 2 v0 4) (l1 : q_lo L 1 = some v1) (f1 : q_is 2 v1 y1)
  (hQ : Ext m rm → ∀ o S1, Rp S1 rm → q_out 9 o rz → Q o S1)
  (h : fj_X11_lookAtSchedule_29 y1 m = some (rz, rm)) : Go xs d qM_X11_lookAtSchedule 29 L [] S Q := by
  unfold fj_X11_lookAtSchedule_29 at h
  refine go_aload_n (n := 0) (by decide +kernel) l0 f0 ?_
  obtain ⟨x_11, e_12, h⟩ := lx_s h
  refine go_getf (x := 71) (ci := 12) (kf := 14) (fin := 0) (t := 0) (by decide +kernel) (by decide +kernel) (by decide +kernel) R f0 (fx_k (c := 12) R (by decide +kernel)) fun v_8 f_9 => ?_
  have f_10 := q_is_eq f_9 e_12
  refine go_aload_n (n := 0) (by decide +kernel) l0 f0 ?_
  obtain ⟨x_16, e_17, h⟩ := lx_s h
  refine go_getf (x := 74) (ci := 12) (kf := 15) (fin := 0) (t := 0) (by decide +kernel) (by decide +kernel) (by decide +kernel) R f0 (fx_k (c := 12) R (by decide +kernel)) fun v_13 f_14 => ?_
  have f_15 := q_is_eq f_14 e_17
  refine go_iadd (by decide +kernel) f_10 f_15 fun v_18 f_19 => ?_
  obtain ⟨x_20, e_21, h⟩ := lx_s h
  have f_22 := q_is_eq f_19 e_21
  refine go_istore_n (n := 2) (by decide +kernel) (by decide +kernel) f_22 fun L_23 l_24 kp_25 => ?_
  have l_26 := kp_25 0 _ l0 (by decide) (Or.inl (by decide))
  have l_27 := kp_25 1 _ l1 (by decide) (Or.inr (q_is_cat f1 (Or.inr rfl)))
  refine go_aload_n (n := 1) (by decide +kernel) l_27 f1 ?_
  obtain ⟨g_30, h⟩ := gd_s h
  obtain ⟨x_32, e_33, h⟩ := lx_s h
  refine go_getf (x := 662) (ci := 8) (kf := 4) (fin := 0) (t := 0) (by decide +kernel) (by decide +kernel) (by decide +kernel) R f1 g_30 fun v_28 f_29 => ?_
  have f_31 := q_is_eq f_29 e_33
  refine go_iconst (n := 1) (z := 1) (by decide +kernel) (by decide) fun v_34 f_35 => ?_
  refine go_iadd (by decide +kernel) f_31 f_35 fun v_36 f_37 => ?_
  obtain ⟨x_38, e_39, h⟩ := lx_s h
  have f_40 := q_is_eq f_37 e_39
  refine go_istore_n (n := 3) (by decide +kernel) (by decide +kernel) f_40 fun L_41 l_42 kp_43 => ?_
  have l_44 := kp_43 0 _ l_26 (by decide) (Or.inl (by decide))
  have l_45 := kp_43 1 _ l_27 (by decide) (Or.inl (by decide))
  have l_46 := kp_43 2 _ l_24 (by decide) (Or.inr (q_is_cat f_22 (Or.inl rfl)))
  refine ol_X11_lookAtSchedule_46 hd  ?_ hQ BIG (Ext.rf _) h R l_44 f0 l_45 f1 l_46 f_22 l_42 f_40
  intro m_130 E_131
  intro S_127 L_128 v_121 v_122
  intro h R_129 l_123 f_125 l_124 f_126
  have E_132 := E_131
  refine go_aload_n (n := 1) (by decide +kernel) l_123 f_125 ?_
  refine go_aload_n (n := 1) (by decide +kernel) l_123 f_125 ?_
  have g_137 := Ext.ok E_131 g_30
  obtain ⟨x_139, e_140, h⟩ := lx_s h
  refine go_getf (x := 662) (ci := 8) (kf := 4) (fin := 0) (t := 0) (by decide +kernel) (by decide +kernel) (by decide +kernel) R_129 f_125 g_137 fun v_135 f_136 => ?_
  have f_138 := q_is_eq f_136 e_140
  refine go_iload_n (n := 2) (by decide +kernel) l_124 f_126 ?_
  obtain ⟨x_142, hc_141, h⟩ := bp_s h
  refine go_callS (x := 632) (mi := 319) (n := 2) (b := 0) (as := [v_135, v_122]) (rest := [v_121]) (by decide +kernel) (by decide +kernel) rfl rfl (q_sum8 _ (Nat.le_of_ble_eq_true rfl)) (om_J9_max_7cf53 (Nat.le_trans (by decide) hd) R_129 f_138 f_126 hc_141) (fun _ S_146 q_149 => ?_) (fun _ _ qq => kr_x qq)
  refine kr_z (by decide) q_149 fun v_144 f_145 R_147 E_148 => ?_
  obtain ⟨m_150, e_151, h⟩ := up_s h
  refine go_putf (x := 662) (ci := 8) (kf := 4) (fin := 0) (zt := 0) (by decide +kernel) (by decide +kernel) (by decide) (by decide +kernel) (by decide) (Or.inl rfl) R_147 f_125 f_145 (fun hq => absurd hq (by decide)) g_137 e_151 (fx_f (j := 4) R_147.2 g_137 (by decide +kernel)) fun S_152 R_153 E_154 => ?_
  have E_156 := Ext.tr E_132 E_154
  cases h
  exact go_vret (by decide +kernel) rfl (hQ E_156 _ _ R_153 q_out_n)
noncomputable def fm_X11_lookAtSchedule (p1 : Int) (m0 : MM) : Option (Int × MM) := gd (okc m0 p1 8) <| lx (m0 p1 7) fun x_5 =>
if x_5 = 0 then
fj_X11_lookAtSchedule_29 p1 m0
else
bp (fm_X11_lastIsOpen p1 m0) fun x_158 =>
if x_158 = 0 then
up m0 p1 7 0 fun m_169 =>
lx (m_169 p1 8) fun x_180 =>
bd (fm_X11_startFor p1 x_180 m_169) fun x_183 m_184 =>
fj_X11_lookAtSchedule_29 p1 m_184
else
fj_X11_lookAtSchedule_29 p1 m0
set_option maxHeartbeats 4000000 in
theorem om_X11_lookAtSchedule {xs : List Int32} {d : Nat} {S : QS} {m0 : MM} {p1 : Int} {v0 : Value} {v1 : Value} {rz : Int} {rm : MM}
  (hd : 13 ≤ d) (R : Rp S m0) (f0 : q_is 2 v0 4) (f1 : q_is 2 v1 p1)
  (h : fm_X11_lookAtSchedule p1 m0 = some (rz, rm)) : Mt xs d 180 [v0, v1] S (Cr 9 m0 rm rz) := by
  obtain ⟨d, rfl⟩ : ∃ e, d = e + 1 := ⟨d - 1, by omega⟩
  have hd : 12 ≤ d := Nat.le_of_succ_le_succ hd
  refine Mt.of (M := qM_X11_lookAtSchedule) rfl (by rw [sl_1 (q_is_cat f0 (Or.inr rfl)), sl_1 (q_is_cat f1 (Or.inr rfl)), sl_0]; decide) ?_
  rw [la_1 (q_is_cat f0 (Or.inr rfl)), la_1 (q_is_cat f1 (Or.inr rfl)), la_0]
  obtain ⟨L, hL⟩ : ∃ L : QL, L = [(0, v0), (0 + 1, v1)] := ⟨_, rfl⟩
  rw [← hL]
  have l0 : q_lo L 0 = some v0 := by rw [hL]; rfl
  have l1 : q_lo L 1 = some v1 := by rw [hL]; rfl
  have hQ : Ext m0 rm → ∀ o S1, Rp S1 rm → q_out 9 o rz → (Cr 9 m0 rm rz) o S1 := fun a o S1 b e => ⟨b, a, e⟩
  unfold fm_X11_lookAtSchedule at h
  refine go_aload_n (n := 1) (by decide +kernel) l1 f1 ?_
  obtain ⟨g_3, h⟩ := gd_s h
  obtain ⟨x_5, e_6, h⟩ := lx_s h
  refine go_getf (x := 648) (ci := 8) (kf := 7) (fin := 0) (t := 0) (by decide +kernel) (by decide +kernel) (by decide +kernel) R f1 g_3 fun v_1 f_2 => ?_
  have f_4 := q_is_eq f_2 e_6
  refine go_if (c := .eq) (o := 25) (t := 29) (P := x_5 = 0) (by decide +kernel) (by decide +kernel) f_4 (Iff.rfl) (fun hp_7 => ?_) (fun hp_7 => ?_)
  · have h := it_t hp_7 h
    exact oj_X11_lookAtSchedule_29 hd R l0 f0 l1 f1 hQ h
  · have h := it_f hp_7 h
    refine go_aload_n (n := 0) (by decide +kernel) l0 f0 ?_
    refine go_aload_n (n := 1) (by decide +kernel) l1 f1 ?_
    obtain ⟨x_158, hc_157, h⟩ := bp_s h
    refine go_callV (x := 651) (mi := 182) (n := 1) (ci := 12) (as := [v1]) (rest := []) (by decide +kernel) (by decide +kernel) rfl rfl (q_sum8 _ (Nat.le_of_ble_eq_true rfl)) R f0 (fx_k (c := 12) R (by decide +kernel)) (om_X11_lastIsOpen (Nat.le_trans (by decide) hd) R f0 f1 hc_157) (fun _ S_162 q_165 => ?_) (fun _ _ qq => kr_x qq)
    refine kr_z (by decide) q_165 fun v_160 f_161 R_163 E_164 => ?_
    refine go_if (c := .ne) (o := 17) (t := 29) (P := ¬ (x_158 = 0)) (by decide +kernel) (by decide +kernel) f_161 (Iff.rfl) (fun hp_166 => ?_) (fun hp_166 => ?_)
    · have h := it_f hp_166 h
      exact oj_X11_lookAtSchedule_29 hd R_163 l0 f0 l1 f1 hQ h
    · have h := it_n hp_166 h
      refine go_aload_n (n := 1) (by decide +kernel) l1 f1 ?_
      refine go_iconst (n := 0) (z := 0) (by decide +kernel) (by decide) fun v_167 f_168 => ?_
      obtain ⟨m_169, e_170, h⟩ := up_s h
      refine go_putf (x := 648) (ci := 8) (kf := 7) (fin := 0) (zt := 1) (by decide +kernel) (by decide +kernel) (by decide) (by decide +kernel) (by decide) (Or.inl rfl) R_163 f1 f_168 (fun _ => by decide) g_3 e_170 (fx_f (j := 7) R_163.2 g_3 (by decide +kernel)) fun S_171 R_172 E_173 => ?_
      have E_175 := E_173
      refine go_aload_n (n := 0) (by decide +kernel) l0 f0 ?_
      refine go_aload_n (n := 1) (by decide +kernel) l1 f1 ?_
      refine go_aload_n (n := 1) (by decide +kernel) l1 f1 ?_
      have g_178 := Ext.ok E_173 g_3
      obtain ⟨x_180, e_181, h⟩ := lx_s h
      refine go_getf (x := 655) (ci := 8) (kf := 8) (fin := 0) (t := 0) (by decide +kernel) (by decide +kernel) (by decide +kernel) R_172 f1 g_178 fun v_176 f_177 => ?_
      have f_179 := q_is_eq f_177 e_181
      obtain ⟨x_183, m_184, hc_182, h⟩ := bd_s h
      refine go_callV (x := 658) (mi := 183) (n := 2) (ci := 12) (as := [v1, v_176]) (rest := []) (by decide +kernel) (by decide +kernel) rfl rfl (q_sum8 _ (Nat.le_of_ble_eq_true rfl)) R_172 f0 (fx_k (c := 12) R_172 (by decide +kernel)) (om_X11_startFor (Nat.le_trans (by decide) hd) R_172 f0 f1 f_179 hc_182) (fun _ S_187 q_190 => ?_) (fun _ _ qq => kr_x qq)
      refine kr_v q_190 fun R_188 E_189 => ?_
      have E_193 := Ext.tr E_175 E_189
      exact oj_X11_lookAtSchedule_29 hd R_188 l0 f0 l1 f1 (fun b => hQ (Ext.tr E_193 b)) h
noncomputable def fl_X11_pass_35 (y1 y2 : Int) (k67 : MM → Option ((Int ⊕ Nat) × MM)) : Nat → Int → MM → Option ((Int ⊕ Nat) × MM)
  | 0, _, _ => none
  | n + 1, y3, m => bp (fm_Jx4a65c_size_8abf5 7 m) fun x_44 =>
if y3 < x_44 then
bp (fm_Jx4a65c_get_915e3 7 y3 m) fun x_57 =>
gd (okc m x_57 7) <| bd (fm_X11_fireTimers x_57 m) fun x_67 m_68 =>
lx (w32 (y3 + 1)) fun x_83 =>
fl_X11_pass_35 y1 y2 k67 n x_83 m_68
else
k67 m
set_option maxHeartbeats 4000000 in
theorem ol_X11_pass_35 {xs : List Int32} {d : Nat} {Q : QO → QS → Prop} {mb : MM} {y1 y2 : Int} {k67 : MM → Option ((Int ⊕ Nat) × MM)} {rr : Int ⊕ Nat} {rm : MM}
  (hd : 13 ≤ d)
  (hk67 : ∀ mq : MM, Ext mb mq → ∀ {Sq : QS} {Lq : QL} {u0 : Value} {u1 : Value} {u2 : Value}, k67 mq = some (rr, rm) → Rp Sq mq → q_lo Lq 0 = some u0 → q_is 2 u0 4 → q_lo Lq 1 = some u1 → q_is 0 u1 y1 → q_lo Lq 2 = some u2 → q_is 0 u2 y2 → Go xs d qM_X11_pass 67 Lq [] Sq Q)
  (hQ : Ext mb rm → ∀ o S1, Rp S1 rm → q_oux 0 o rr → Q o S1) :
  ∀ (n : Nat) {m : MM} {S : QS} {L : QL} {y3 : Int} {v0 : Value} {v1 : Value} {v2 : Value} {v3 : Value} , Ext mb m → fl_X11_pass_35 y1 y2 k67 n y3 m = some (rr, rm) → Rp S m → q_lo L 0 = some v0 → q_is 2 v0 4 → q_lo L 1 = some v1 → q_is 0 v1 y1 → q_lo L 2 = some v2 → q_is 0 v2 y2 → q_lo L 3 = some v3 → q_is 0 v3 y3 → Go xs d qM_X11_pass 35 L [] S Q := by
  intro n
  induction n with
  | zero => intro m S L y3 v0 v1 v2 v3; intro E h R l0 f0 l1 f1 l2 f2 l3 f3; cases h
  | succ n ih0 =>
    intro m S L y3 v0 v1 v2 v3; intro E h R l0 f0 l1 f1 l2 f2 l3 f3
    have ih : ∀ mq : MM, Ext mb mq → ∀ {z3 : Int} {Sq : QS} {Lq : QL} {u0 : Value} {u1 : Value} {u2 : Value} {u3 : Value}, fl_X11_pass_35 y1 y2 k67 n z3 mq = some (rr, rm) → Rp Sq mq → q_lo Lq 0 = some u0 → q_is 2 u0 4 → q_lo Lq 1 = some u1 → q_is 0 u1 y1 → q_lo Lq 2 = some u2 → q_is 0 u2 y2 → q_lo Lq 3 = some u3 → q_is 0 u3 z3 → Go xs d qM_X11_pass 35 Lq [] Sq Q := fun mq b => by intros; exact ih0 b ‹_› ‹_› ‹_› ‹_› ‹_› ‹_› ‹_› ‹_› ‹_› ‹_›
    unfold fl_X11_pass_35 at h
    refine go_iload_n (n := 3) (by decide +kernel) l3 f3 ?_
    refine go_aload_n (n := 0) (by decide +kernel) l0 f0 ?_
    refine go_getf (x := 24) (ci := 12) (kf := 2) (fin := 1) (t := 2) (by decide +kernel) (by decide +kernel) (by decide +kernel) R f0 (fx_k (c := 12) R (by decide +kernel)) fun v_40 f_41 => ?_
    have f_42 := q_is_eq (b := 7) f_41 (fx_v R (by decide +kernel)).symm
    obtain ⟨x_44, hc_43, h⟩ := bp_s h
    refine go_callV (x := 127) (mi := 326) (n := 0) (ci := 0) (as := []) (rest := [v3]) (by decide +kernel) (by decide +kernel) rfl rfl (q_sum8 _ (Nat.le_of_ble_eq_true rfl)) R f_42 (fx_k (c := 0) R (by decide +kernel)) (om_Jx4a65c_size_8abf5 (Nat.le_trans (by decide) hd) R (fx_k (c := 0) R (by decide +kernel)) f_42 hc_43) (fun _ S_48 q_51 => ?_) (fun _ _ qq => kr_x qq)
    refine kr_z (by decide) q_51 fun v_46 f_47 R_49 E_50 => ?_
    refine go_icmp (c := .ge) (o := 24) (t := 67) (P := ¬ (y3 < x_44)) (by decide +kernel) (by decide +kernel) f3 f_47 (Int.not_lt.symm) (fun hp_52 => ?_) (fun hp_52 => ?_)
    · have h := it_f hp_52 h
      exact hk67 m E h R_49 l0 f0 l1 f1 l2 f2
    · have h := it_n hp_52 h
      refine go_aload_n (n := 0) (by decide +kernel) l0 f0 ?_
      refine go_aload_n (n := 0) (by decide +kernel) l0 f0 ?_
      refine go_getf (x := 24) (ci := 12) (kf := 2) (fin := 1) (t := 2) (by decide +kernel) (by decide +kernel) (by decide +kernel) R_49 f0 (fx_k (c := 12) R_49 (by decide +kernel)) fun v_53 f_54 => ?_
      have f_55 := q_is_eq (b := 7) f_54 (fx_v R_49 (by decide +kernel)).symm
      refine go_iload_n (n := 3) (by decide +kernel) l3 f3 ?_
      obtain ⟨x_57, hc_56, h⟩ := bp_s h
      refine go_callV (x := 305) (mi := 329) (n := 1) (ci := 0) (as := [v3]) (rest := [v0]) (by decide +kernel) (by decide +kernel) rfl rfl (q_sum8 _ (Nat.le_of_ble_eq_true rfl)) R_49 f_55 (fx_k (c := 0) R_49 (by decide +kernel)) (om_Jx4a65c_get_915e3 (Nat.le_trans (by decide) hd) R_49 (fx_k (c := 0) R_49 (by decide +kernel)) f_55 f3 hc_56) (fun _ S_61 q_64 => ?_) (fun _ _ qq => kr_x qq)
      refine kr_z (by decide) q_64 fun v_59 f_60 R_62 E_63 => ?_
      obtain ⟨g_65, h⟩ := gd_s h
      refine go_cast (x := 181) (kd := 7) (a := 0) (b := 0) (by decide +kernel) (by decide +kernel) R_62 f_60 g_65 ?_
      obtain ⟨x_67, m_68, hc_66, h⟩ := bd_s h
      refine go_callV (x := 386) (mi := 176) (n := 1) (ci := 12) (as := [v_59]) (rest := []) (by decide +kernel) (by decide +kernel) rfl rfl (q_sum8 _ (Nat.le_of_ble_eq_true rfl)) R_62 f0 (fx_k (c := 12) R_62 (by decide +kernel)) (om_X11_fireTimers (Nat.le_trans (by decide) hd) R_62 f0 f_60 hc_66) (fun _ S_71 q_74 => ?_) (fun _ _ qq => kr_x qq)
      refine kr_v q_74 fun R_72 E_73 => ?_
      have E_77 := Ext.tr E E_73
      refine go_iinc (n := 3) (c := 1) (c' := 1) (by decide +kernel) (by decide +kernel) l3 f3 (by decide) fun L_78 v_79 f_80 l_81 kp_82 => ?_
      obtain ⟨x_83, e_84, h⟩ := lx_s h
      have f_85 := q_is_eq f_80 e_84
      have l_86 := kp_82 0 _ l0 (by decide) (Or.inl (by decide))
      have l_87 := kp_82 1 _ l1 (by decide) (Or.inl (by decide))
      have l_88 := kp_82 2 _ l2 (by decide) (Or.inr (q_is_cat f2 (Or.inl rfl)))
      refine go_goto (o := (-29)) (t := 35) (by decide +kernel) (by decide +kernel) ?_
      exact ih m_68 E_77 h R_72 l_86 f0 l_87 f1 l_88 f2 l_81 f_85
noncomputable def fl_X11_pass_69 (y1 y2 : Int) (k101 : MM → Option ((Int ⊕ Nat) × MM)) : Nat → Int → MM → Option ((Int ⊕ Nat) × MM)
  | 0, _, _ => none
  | n + 1, y3, m => bp (fm_Jx4a65c_size_8abf5 8 m) fun x_118 =>
if y3 < x_118 then
bp (fm_Jx4a65c_get_915e3 8 y3 m) fun x_131 =>
gd (okc m x_131 1) <| bd (fm_X11_lookAtActivity x_131 m) fun x_141 m_142 =>
lx (w32 (y3 + 1)) fun x_157 =>
fl_X11_pass_69 y1 y2 k101 n x_157 m_142
else
k101 m
set_option maxHeartbeats 4000000 in
theorem ol_X11_pass_69 {xs : List Int32} {d : Nat} {Q : QO → QS → Prop} {mb : MM} {y1 y2 : Int} {k101 : MM → Option ((Int ⊕ Nat) × MM)} {rr : Int ⊕ Nat} {rm : MM}
  (hd : 13 ≤ d)
  (hk101 : ∀ mq : MM, Ext mb mq → ∀ {Sq : QS} {Lq : QL} {u0 : Value} {u1 : Value} {u2 : Value}, k101 mq = some (rr, rm) → Rp Sq mq → q_lo Lq 0 = some u0 → q_is 2 u0 4 → q_lo Lq 1 = some u1 → q_is 0 u1 y1 → q_lo Lq 2 = some u2 → q_is 0 u2 y2 → Go xs d qM_X11_pass 101 Lq [] Sq Q)
  (hQ : Ext mb rm → ∀ o S1, Rp S1 rm → q_oux 0 o rr → Q o S1) :
  ∀ (n : Nat) {m : MM} {S : QS} {L : QL} {y3 : Int} {v0 : Value} {v1 : Value} {v2 : Value} {v3 : Value} , Ext mb m → fl_X11_pass_69 y1 y2 k101 n y3 m = some (rr, rm) → Rp S m → q_lo L 0 = some v0 → q_is 2 v0 4 → q_lo L 1 = some v1 → q_is 0 v1 y1 → q_lo L 2 = some v2 → q_is 0 v2 y2 → q_lo L 3 = some v3 → q_is 0 v3 y3 → Go xs d qM_X11_pass 69 L [] S Q := by
  intro n
  induction n with
  | zero => intro m S L y3 v0 v1 v2 v3; intro E h R l0 f0 l1 f1 l2 f2 l3 f3; cases h
  | succ n ih0 =>
    intro m S L y3 v0 v1 v2 v3; intro E h R l0 f0 l1 f1 l2 f2 l3 f3
    have ih : ∀ mq : MM, Ext mb mq → ∀ {z3 : Int} {Sq : QS} {Lq : QL} {u0 : Value} {u1 : Value} {u2 : Value} {u3 : Value}, fl_X11_pass_69 y1 y2 k101 n z3 mq = some (rr, rm) → Rp Sq mq → q_lo Lq 0 = some u0 → q_is 2 u0 4 → q_lo Lq 1 = some u1 → q_is 0 u1 y1 → q_lo Lq 2 = some u2 → q_is 0 u2 y2 → q_lo Lq 3 = some u3 → q_is 0 u3 z3 → Go xs d qM_X11_pass 69 Lq [] Sq Q := fun mq b => by intros; exact ih0 b ‹_› ‹_› ‹_› ‹_› ‹_› ‹_› ‹_› ‹_› ‹_› ‹_›
    unfold fl_X11_pass_69 at h
    refine go_iload_n (n := 3) (by decide +kernel) l3 f3 ?_
    refine go_aload_n (n := 0) (by decide +kernel) l0 f0 ?_
    refine go_getf (x := 28) (ci := 12) (kf := 3) (fin := 1) (t := 2) (by decide +kernel) (by decide +kernel) (by decide +kernel) R f0 (fx_k (c := 12) R (by decide +kernel)) fun v_114 f_115 => ?_
    have f_116 := q_is_eq (b := 8) f_115 (fx_v R (by decide +kernel)).symm
    obtain ⟨x_118, hc_117, h⟩ := bp_s h
    refine go_callV (x := 127) (mi := 326) (n := 0) (ci := 0) (as := []) (rest := [v3]) (by decide +kernel) (by decide +kernel) rfl rfl (q_sum8 _ (Nat.le_of_ble_eq_true rfl)) R f_116 (fx_k (c := 0) R (by decide +kernel)) (om_Jx4a65c_size_8abf5 (Nat.le_trans (by decide) hd) R (fx_k (c := 0) R (by decide +kernel)) f_116 hc_117) (fun _ S_122 q_125 => ?_) (fun _ _ qq => kr_x qq)
    refine kr_z (by decide) q_125 fun v_120 f_121 R_123 E_124 => ?_
    refine go_icmp (c := .ge) (o := 24) (t := 101) (P := ¬ (y3 < x_118)) (by decide +kernel) (by decide +kernel) f3 f_121 (Int.not_lt.symm) (fun hp_126 => ?_) (fun hp_126 => ?_)
    · have h := it_f hp_126 h
      exact hk101 m E h R_123 l0 f0 l1 f1 l2 f2
    · have h := it_n hp_126 h
      refine go_aload_n (n := 0) (by decide +kernel) l0 f0 ?_
      refine go_aload_n (n := 0) (by decide +kernel) l0 f0 ?_
      refine go_getf (x := 28) (ci := 12) (kf := 3) (fin := 1) (t := 2) (by decide +kernel) (by decide +kernel) (by decide +kernel) R_123 f0 (fx_k (c := 12) R_123 (by decide +kernel)) fun v_127 f_128 => ?_
      have f_129 := q_is_eq (b := 8) f_128 (fx_v R_123 (by decide +kernel)).symm
      refine go_iload_n (n := 3) (by decide +kernel) l3 f3 ?_
      obtain ⟨x_131, hc_130, h⟩ := bp_s h
      refine go_callV (x := 305) (mi := 329) (n := 1) (ci := 0) (as := [v3]) (rest := [v0]) (by decide +kernel) (by decide +kernel) rfl rfl (q_sum8 _ (Nat.le_of_ble_eq_true rfl)) R_123 f_129 (fx_k (c := 0) R_123 (by decide +kernel)) (om_Jx4a65c_get_915e3 (Nat.le_trans (by decide) hd) R_123 (fx_k (c := 0) R_123 (by decide +kernel)) f_129 f3 hc_130) (fun _ S_135 q_138 => ?_) (fun _ _ qq => kr_x qq)
      refine kr_z (by decide) q_138 fun v_133 f_134 R_136 E_137 => ?_
      obtain ⟨g_139, h⟩ := gd_s h
      refine go_cast (x := 347) (kd := 1) (a := 0) (b := 0) (by decide +kernel) (by decide +kernel) R_136 f_134 g_139 ?_
      obtain ⟨x_141, m_142, hc_140, h⟩ := bd_s h
      refine go_callV (x := 390) (mi := 177) (n := 1) (ci := 12) (as := [v_133]) (rest := []) (by decide +kernel) (by decide +kernel) rfl rfl (q_sum8 _ (Nat.le_of_ble_eq_true rfl)) R_136 f0 (fx_k (c := 12) R_136 (by decide +kernel)) (om_X11_lookAtActivity (Nat.le_trans (by decide) hd) R_136 f0 f_134 hc_140) (fun _ S_145 q_148 => ?_) (fun _ _ qq => kr_x qq)
      refine kr_v q_148 fun R_146 E_147 => ?_
      have E_151 := Ext.tr E E_147
      refine go_iinc (n := 3) (c := 1) (c' := 1) (by decide +kernel) (by decide +kernel) l3 f3 (by decide) fun L_152 v_153 f_154 l_155 kp_156 => ?_
      obtain ⟨x_157, e_158, h⟩ := lx_s h
      have f_159 := q_is_eq f_154 e_158
      have l_160 := kp_156 0 _ l0 (by decide) (Or.inl (by decide))
      have l_161 := kp_156 1 _ l1 (by decide) (Or.inl (by decide))
      have l_162 := kp_156 2 _ l2 (by decide) (Or.inr (q_is_cat f2 (Or.inl rfl)))
      refine go_goto (o := (-29)) (t := 69) (by decide +kernel) (by decide +kernel) ?_
      exact ih m_142 E_151 h R_146 l_160 f0 l_161 f1 l_162 f2 l_155 f_159
noncomputable def fl_X11_pass_103 (y1 y2 : Int) (k135 : MM → Option ((Int ⊕ Nat) × MM)) : Nat → Int → MM → Option ((Int ⊕ Nat) × MM)
  | 0, _, _ => none
  | n + 1, y3, m => bp (fm_Jx4a65c_size_8abf5 10 m) fun x_192 =>
if y3 < x_192 then
bp (fm_Jx4a65c_get_915e3 10 y3 m) fun x_205 =>
gd (okc m x_205 8) <| bd (fm_X11_lookAtSchedule x_205 m) fun x_215 m_216 =>
lx (w32 (y3 + 1)) fun x_231 =>
fl_X11_pass_103 y1 y2 k135 n x_231 m_216
else
k135 m
set_option maxHeartbeats 4000000 in
theorem ol_X11_pass_103 {xs : List Int32} {d : Nat} {Q : QO → QS → Prop} {mb : MM} {y1 y2 : Int} {k135 : MM → Option ((Int ⊕ Nat) × MM)} {rr : Int ⊕ Nat} {rm : MM}
  (hd : 13 ≤ d)
  (hk135 : ∀ mq : MM, Ext mb mq → ∀ {Sq : QS} {Lq : QL} {u0 : Value} {u1 : Value} {u2 : Value}, k135 mq = some (rr, rm) → Rp Sq mq → q_lo Lq 0 = some u0 → q_is 2 u0 4 → q_lo Lq 1 = some u1 → q_is 0 u1 y1 → q_lo Lq 2 = some u2 → q_is 0 u2 y2 → Go xs d qM_X11_pass 135 Lq [] Sq Q)
  (hQ : Ext mb rm → ∀ o S1, Rp S1 rm → q_oux 0 o rr → Q o S1) :
  ∀ (n : Nat) {m : MM} {S : QS} {L : QL} {y3 : Int} {v0 : Value} {v1 : Value} {v2 : Value} {v3 : Value} , Ext mb m → fl_X11_pass_103 y1 y2 k135 n y3 m = some (rr, rm) → Rp S m → q_lo L 0 = some v0 → q_is 2 v0 4 → q_lo L 1 = some v1 → q_is 0 v1 y1 → q_lo L 2 = some v2 → q_is 0 v2 y2 → q_lo L 3 = some v3 → q_is 0 v3 y3 → Go xs d qM_X11_pass 103 L [] S Q := by
  intro n
  induction n with
  | zero => intro m S L y3 v0 v1 v2 v3; intro E h R l0 f0 l1 f1 l2 f2 l3 f3; cases h
  | succ n ih0 =>
    intro m S L y3 v0 v1 v2 v3; intro E h R l0 f0 l1 f1 l2 f2 l3 f3
    have ih : ∀ mq : MM, Ext mb mq → ∀ {z3 : Int} {Sq : QS} {Lq : QL} {u0 : Value} {u1 : Value} {u2 : Value} {u3 : Value}, fl_X11_pass_103 y1 y2 k135 n z3 mq = some (rr, rm) → Rp Sq mq → q_lo Lq 0 = some u0 → q_is 2 u0 4 → q_lo Lq 1 = some u1 → q_is 0 u1 y1 → q_lo Lq 2 = some u2 → q_is 0 u2 y2 → q_lo Lq 3 = some u3 → q_is 0 u3 z3 → Go xs d qM_X11_pass 103 Lq [] Sq Q := fun mq b => by intros; exact ih0 b ‹_› ‹_› ‹_› ‹_› ‹_› ‹_› ‹_› ‹_› ‹_› ‹_›
    unfold fl_X11_pass_103 at h
    refine go_iload_n (n := 3) (by decide +kernel) l3 f3 ?_
    refine go_aload_n (n := 0) (by decide +kernel) l0 f0 ?_
    refine go_getf (x := 34) (ci := 12) (kf := 5) (fin := 1) (t := 2) (by decide +kernel) (by decide +kernel) (by decide +kernel) R f0 (fx_k (c := 12) R (by decide +kernel)) fun v_188 f_189 => ?_
    have f_190 := q_is_eq (b := 10) f_189 (fx_v R (by decide +kernel)).symm
    obtain ⟨x_192, hc_191, h⟩ := bp_s h
    refine go_callV (x := 127) (mi := 326) (n := 0) (ci := 0) (as := []) (rest := [v3]) (by decide +kernel) (by decide +kernel) rfl rfl (q_sum8 _ (Nat.le_of_ble_eq_true rfl)) R f_190 (fx_k (c := 0) R (by decide +kernel)) (om_Jx4a65c_size_8abf5 (Nat.le_trans (by decide) hd) R (fx_k (c := 0) R (by decide +kernel)) f_190 hc_191) (fun _ S_196 q_199 => ?_) (fun _ _ qq => kr_x qq)
    refine kr_z (by decide) q_199 fun v_194 f_195 R_197 E_198 => ?_
    refine go_icmp (c := .ge) (o := 24) (t := 135) (P := ¬ (y3 < x_192)) (by decide +kernel) (by decide +kernel) f3 f_195 (Int.not_lt.symm) (fun hp_200 => ?_) (fun hp_200 => ?_)
    · have h := it_f hp_200 h
      exact hk135 m E h R_197 l0 f0 l1 f1 l2 f2
    · have h := it_n hp_200 h
      refine go_aload_n (n := 0) (by decide +kernel) l0 f0 ?_
      refine go_aload_n (n := 0) (by decide +kernel) l0 f0 ?_
      refine go_getf (x := 34) (ci := 12) (kf := 5) (fin := 1) (t := 2) (by decide +kernel) (by decide +kernel) (by decide +kernel) R_197 f0 (fx_k (c := 12) R_197 (by decide +kernel)) fun v_201 f_202 => ?_
      have f_203 := q_is_eq (b := 10) f_202 (fx_v R_197 (by decide +kernel)).symm
      refine go_iload_n (n := 3) (by decide +kernel) l3 f3 ?_
      obtain ⟨x_205, hc_204, h⟩ := bp_s h
      refine go_callV (x := 305) (mi := 329) (n := 1) (ci := 0) (as := [v3]) (rest := [v0]) (by decide +kernel) (by decide +kernel) rfl rfl (q_sum8 _ (Nat.le_of_ble_eq_true rfl)) R_197 f_203 (fx_k (c := 0) R_197 (by decide +kernel)) (om_Jx4a65c_get_915e3 (Nat.le_trans (by decide) hd) R_197 (fx_k (c := 0) R_197 (by decide +kernel)) f_203 f3 hc_204) (fun _ S_209 q_212 => ?_) (fun _ _ qq => kr_x qq)
      refine kr_z (by decide) q_212 fun v_207 f_208 R_210 E_211 => ?_
      obtain ⟨g_213, h⟩ := gd_s h
      refine go_cast (x := 394) (kd := 8) (a := 0) (b := 0) (by decide +kernel) (by decide +kernel) R_210 f_208 g_213 ?_
      obtain ⟨x_215, m_216, hc_214, h⟩ := bd_s h
      refine go_callV (x := 396) (mi := 180) (n := 1) (ci := 12) (as := [v_207]) (rest := []) (by decide +kernel) (by decide +kernel) rfl rfl (q_sum8 _ (Nat.le_of_ble_eq_true rfl)) R_210 f0 (fx_k (c := 12) R_210 (by decide +kernel)) (om_X11_lookAtSchedule (Nat.le_trans (by decide) hd) R_210 f0 f_208 hc_214) (fun _ S_219 q_222 => ?_) (fun _ _ qq => kr_x qq)
      refine kr_v q_222 fun R_220 E_221 => ?_
      have E_225 := Ext.tr E E_221
      refine go_iinc (n := 3) (c := 1) (c' := 1) (by decide +kernel) (by decide +kernel) l3 f3 (by decide) fun L_226 v_227 f_228 l_229 kp_230 => ?_
      obtain ⟨x_231, e_232, h⟩ := lx_s h
      have f_233 := q_is_eq f_228 e_232
      have l_234 := kp_230 0 _ l0 (by decide) (Or.inl (by decide))
      have l_235 := kp_230 1 _ l1 (by decide) (Or.inl (by decide))
      have l_236 := kp_230 2 _ l2 (by decide) (Or.inr (q_is_cat f2 (Or.inl rfl)))
      refine go_goto (o := (-29)) (t := 103) (by decide +kernel) (by decide +kernel) ?_
      exact ih m_216 E_225 h R_220 l_234 f0 l_235 f1 l_236 f2 l_229 f_233
noncomputable def fl_X11_pass_24 (y1 : Int) : Nat → Int → MM → Option ((Int ⊕ Nat) × MM)
  | 0, _, _ => none
  | n + 1, y2, m => if y2 < y1 then
bd (fm_X11_beginTick m) fun x_21 m_22 =>
fl_X11_pass_35 y1 y2 (fun m_101 =>
fl_X11_pass_69 y1 y2 (fun m_175 =>
fl_X11_pass_103 y1 y2 (fun m_249 =>
lx (w32 (y2 + 1)) fun x_259 =>
fl_X11_pass_24 y1 n x_259 m_249) BIG 0 m_175) BIG 0 m_101) BIG 0 m_22
else
lx (m 4 14) fun x_18 =>
some (.inl x_18, m)
set_option maxHeartbeats 4000000 in
theorem ol_X11_pass_24 {xs : List Int32} {d : Nat} {Q : QO → QS → Prop} {mb : MM} {y1 : Int} {rr : Int ⊕ Nat} {rm : MM}
  (hd : 13 ≤ d)
  (hQ : Ext mb rm → ∀ o S1, Rp S1 rm → q_oux 0 o rr → Q o S1) :
  ∀ (n : Nat) {m : MM} {S : QS} {L : QL} {y2 : Int} {v0 : Value} {v1 : Value} {v2 : Value} , Ext mb m → fl_X11_pass_24 y1 n y2 m = some (rr, rm) → Rp S m → q_lo L 0 = some v0 → q_is 2 v0 4 → q_lo L 1 = some v1 → q_is 0 v1 y1 → q_lo L 2 = some v2 → q_is 0 v2 y2 → Go xs d qM_X11_pass 24 L [] S Q := by
  intro n
  induction n with
  | zero => intro m S L y2 v0 v1 v2; intro E h R l0 f0 l1 f1 l2 f2; cases h
  | succ n ih0 =>
    intro m S L y2 v0 v1 v2; intro E h R l0 f0 l1 f1 l2 f2
    have ih : ∀ mq : MM, Ext mb mq → ∀ {z2 : Int} {Sq : QS} {Lq : QL} {u0 : Value} {u1 : Value} {u2 : Value}, fl_X11_pass_24 y1 n z2 mq = some (rr, rm) → Rp Sq mq → q_lo Lq 0 = some u0 → q_is 2 u0 4 → q_lo Lq 1 = some u1 → q_is 0 u1 y1 → q_lo Lq 2 = some u2 → q_is 0 u2 z2 → Go xs d qM_X11_pass 24 Lq [] Sq Q := fun mq b => by intros; exact ih0 b ‹_› ‹_› ‹_› ‹_› ‹_› ‹_› ‹_› ‹_›
    unfold fl_X11_pass_24 at h
    refine go_iload_n (n := 2) (by decide +kernel) l2 f2 ?_
    refine go_iload_n (n := 1) (by decide +kernel) l1 f1 ?_
    refine go_icmp (c := .ge) (o := 115) (t := 141) (P := ¬ (y2 < y1)) (by decide +kernel) (by decide +kernel) f2 f1 (Int.not_lt.symm) (fun hp_14 => ?_) (fun hp_14 => ?_)
    · have h := it_f hp_14 h
      refine go_aload_n (n := 0) (by decide +kernel) l0 f0 ?_
      obtain ⟨x_18, e_19, h⟩ := lx_s h
      refine go_getf (x := 71) (ci := 12) (kf := 14) (fin := 0) (t := 0) (by decide +kernel) (by decide +kernel) (by decide +kernel) R f0 (fx_k (c := 12) R (by decide +kernel)) fun v_15 f_16 => ?_
      have f_17 := q_is_eq f_16 e_19
      cases h
      exact go_iret (by decide +kernel) rfl (Or.inl rfl) f_17 (hQ E _ _ R (q_out_v (by decide) f_17))
    · have h := it_n hp_14 h
      refine go_aload_n (n := 0) (by decide +kernel) l0 f0 ?_
      obtain ⟨x_21, m_22, hc_20, h⟩ := bd_s h
      refine go_callV (x := 383) (mi := 175) (n := 0) (ci := 12) (as := []) (rest := []) (by decide +kernel) (by decide +kernel) rfl rfl (q_sum8 _ (Nat.le_of_ble_eq_true rfl)) R f0 (fx_k (c := 12) R (by decide +kernel)) (om_X11_beginTick (Nat.le_trans (by decide) hd) R f0 hc_20) (fun _ S_25 q_28 => ?_) (fun _ _ qq => kr_x qq)
      refine kr_v q_28 fun R_26 E_27 => ?_
      have E_31 := Ext.tr E E_27
      refine go_iconst (n := 0) (z := 0) (by decide +kernel) (by decide) fun v_32 f_33 => ?_
      refine go_istore_n (n := 3) (by decide +kernel) (by decide +kernel) f_33 fun L_34 l_35 kp_36 => ?_
      have l_37 := kp_36 0 _ l0 (by decide) (Or.inl (by decide))
      have l_38 := kp_36 1 _ l1 (by decide) (Or.inl (by decide))
      have l_39 := kp_36 2 _ l2 (by decide) (Or.inr (q_is_cat f2 (Or.inl rfl)))
      refine ol_X11_pass_35 hd  ?_ (fun b => hQ (Ext.tr E_31 b)) BIG (Ext.rf _) h R_26 l_37 f0 l_38 f1 l_39 f2 l_35 f_33
      intro m_101 E_102
      intro S_98 L_99 v_89 v_90 v_91
      intro h R_100 l_92 f_95 l_93 f_96 l_94 f_97
      have E_103 := Ext.tr E_31 E_102
      refine go_iconst (n := 0) (z := 0) (by decide +kernel) (by decide) fun v_106 f_107 => ?_
      refine go_istore_n (n := 3) (by decide +kernel) (by decide +kernel) f_107 fun L_108 l_109 kp_110 => ?_
      have l_111 := kp_110 0 _ l_92 (by decide) (Or.inl (by decide))
      have l_112 := kp_110 1 _ l_93 (by decide) (Or.inl (by decide))
      have l_113 := kp_110 2 _ l_94 (by decide) (Or.inr (q_is_cat f_97 (Or.inl rfl)))
      refine ol_X11_pass_69 hd  ?_ (fun b => hQ (Ext.tr E_103 b)) BIG (Ext.rf _) h R_100 l_111 f_95 l_112 f_96 l_113 f_97 l_109 f_107
      intro m_175 E_176
      intro S_172 L_173 v_163 v_164 v_165
      intro h R_174 l_166 f_169 l_167 f_170 l_168 f_171
      have E_177 := Ext.tr E_103 E_176
      refine go_iconst (n := 0) (z := 0) (by decide +kernel) (by decide) fun v_180 f_181 => ?_
      refine go_istore_n (n := 3) (by decide +kernel) (by decide +kernel) f_181 fun L_182 l_183 kp_184 => ?_
      have l_185 := kp_184 0 _ l_166 (by decide) (Or.inl (by decide))
      have l_186 := kp_184 1 _ l_167 (by decide) (Or.inl (by decide))
      have l_187 := kp_184 2 _ l_168 (by decide) (Or.inr (q_is_cat f_171 (Or.inl rfl)))
      refine ol_X11_pass_103 hd  ?_ (fun b => hQ (Ext.tr E_177 b)) BIG (Ext.rf _) h R_174 l_185 f_169 l_186 f_170 l_187 f_171 l_183 f_181
      intro m_249 E_250
      intro S_246 L_247 v_237 v_238 v_239
      intro h R_248 l_240 f_243 l_241 f_244 l_242 f_245
      have E_251 := Ext.tr E_177 E_250
      refine go_iinc (n := 2) (c := 1) (c' := 1) (by decide +kernel) (by decide +kernel) l_242 f_245 (by decide) fun L_254 v_255 f_256 l_257 kp_258 => ?_
      obtain ⟨x_259, e_260, h⟩ := lx_s h
      have f_261 := q_is_eq f_256 e_260
      have l_262 := kp_258 0 _ l_240 (by decide) (Or.inl (by decide))
      have l_263 := kp_258 1 _ l_241 (by decide) (Or.inr (q_is_cat f_244 (Or.inl rfl)))
      refine go_goto (o := (-114)) (t := 24) (by decide +kernel) (by decide +kernel) ?_
      exact ih m_249 E_251 h R_248 l_262 f_243 l_263 f_244 l_257 f_261
noncomputable def fm_X11_pass (p1 : Int) (m0 : MM) : Option ((Int ⊕ Nat) × MM) := if p1 < 1 then
some (.inr 1, mthr m0)
else
if 100 < p1 then
some (.inr 1, mthr m0)
else
fl_X11_pass_24 p1  BIG 0 m0
set_option maxHeartbeats 4000000 in
theorem om_X11_pass {xs : List Int32} {d : Nat} {S : QS} {m0 : MM} {p1 : Int} {v0 : Value} {v1 : Value} {rr : Int ⊕ Nat} {rm : MM}
  (hd : 14 ≤ d) (R : Rp S m0) (f0 : q_is 2 v0 4) (f1 : q_is 0 v1 p1)
  (h : fm_X11_pass p1 m0 = some (rr, rm)) : Mt xs d 124 [v0, v1] S (Cx 0 m0 rm rr) := by
  obtain ⟨d, rfl⟩ : ∃ e, d = e + 1 := ⟨d - 1, by omega⟩
  have hd : 13 ≤ d := Nat.le_of_succ_le_succ hd
  refine Mt.of (M := qM_X11_pass) rfl (by rw [sl_1 (q_is_cat f0 (Or.inr rfl)), sl_1 (q_is_cat f1 (Or.inl rfl)), sl_0]; decide) ?_
  rw [la_1 (q_is_cat f0 (Or.inr rfl)), la_1 (q_is_cat f1 (Or.inl rfl)), la_0]
  obtain ⟨L, hL⟩ : ∃ L : QL, L = [(0, v0), (0 + 1, v1)] := ⟨_, rfl⟩
  rw [← hL]
  have l0 : q_lo L 0 = some v0 := by rw [hL]; rfl
  have l1 : q_lo L 1 = some v1 := by rw [hL]; rfl
  have hQ : Ext m0 rm → ∀ o S1, Rp S1 rm → q_oux 0 o rr → (Cx 0 m0 rm rr) o S1 := fun a o S1 b e => ⟨b, a, e⟩
  unfold fm_X11_pass at h
  refine go_iload_n (n := 1) (by decide +kernel) l1 f1 ?_
  refine go_iconst (n := 1) (z := 1) (by decide +kernel) (by decide) fun v_1 f_2 => ?_
  refine go_icmp (c := .lt) (o := 9) (t := 11) (P := p1 < 1) (by decide +kernel) (by decide +kernel) f1 f_2 (Iff.rfl) (fun hp_3 => ?_) (fun hp_3 => ?_)
  · have h := it_t hp_3 h
    cases h
    exact go_thr (x := 96) (e := 1) (ic := 100) (b := 0) (by decide +kernel) (by decide +kernel) (by decide +kernel) R rfl fun Sq Rq Eq => hQ Eq _ _ Rq rfl
  · have h := it_f hp_3 h
    refine go_iload_n (n := 1) (by decide +kernel) l1 f1 ?_
    refine go_bipush (n := 100) (z := 100) (by decide +kernel) (by decide) fun v_4 f_5 => ?_
    refine go_icmp (c := .le) (o := 14) (t := 22) (P := ¬ (100 < p1)) (by decide +kernel) (by decide +kernel) f1 f_5 (Int.not_lt.symm) (fun hp_6 => ?_) (fun hp_6 => ?_)
    · have h := it_f hp_6 h
      refine go_iconst (n := 0) (z := 0) (by decide +kernel) (by decide) fun v_7 f_8 => ?_
      refine go_istore_n (n := 2) (by decide +kernel) (by decide +kernel) f_8 fun L_9 l_10 kp_11 => ?_
      have l_12 := kp_11 0 _ l0 (by decide) (Or.inl (by decide))
      have l_13 := kp_11 1 _ l1 (by decide) (Or.inr (q_is_cat f1 (Or.inl rfl)))
      refine ol_X11_pass_24 hd   hQ BIG (Ext.rf _) h R l_12 f0 l_13 f1 l_10 f_8
    · have h := it_n hp_6 h
      cases h
      exact go_thr (x := 96) (e := 1) (ic := 100) (b := 0) (by decide +kernel) (by decide +kernel) (by decide +kernel) R rfl fun Sq Rq Eq => hQ Eq _ _ Rq rfl
end DF20
