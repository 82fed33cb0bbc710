/-! Methods as functions (written by wip/whole/dec.py), 20: X11_lastIsOpen, X11_startFor, X11_meetPoint, X11_lookAtSchedule, X11_pass. -/
section DF20
noncomputable def fm_X11_lastIsOpen (p1 : Int) (m0 : MM) : Option Int := gd (okc m0 p1 8) <| lx (m0 p1 6) fun x_5 =>
if x_5 < 0 then
some 0
else
bp (fm_Jx4a65c_size_8abf5 7 m0) fun x_17 =>
if x_5 < x_17 then
bp (fm_Jx4a65c_get_915e3 7 x_5 m0) fun x_35 =>
gd (okc m0 x_35 7) <| lx (m0 x_35 6) fun x_47 =>
if x_47 = 0 then
some 1
else
some 0
else
some 0
set_option maxHeartbeats 4000000 in
theorem om_X11_lastIsOpen {xs : List Int32} {d : Nat} {S : QS} {m0 : MM} {p1 : Int} {v0 : Value} {v1 : Value} {rz : Int}
  (hd : 4 ≤ d) (R : Rp S m0) (f0 : q_is 2 v0 4) (f1 : q_is 2 v1 p1)
  (h : fm_X11_lastIsOpen p1 m0 = some rz) : Mt xs d 182 [v0, v1] S (Cr 0 m0 m0 rz) := by
  obtain ⟨d, rfl⟩ : ∃ e, d = e + 1 := ⟨d - 1, by omega⟩
  have hd : 3 ≤ d := Nat.le_of_succ_le_succ hd
  refine Mt.of (M := qM_X11_lastIsOpen) rfl (by rw [sl_1 (q_is_cat f0 (Or.inr rfl)), sl_1 (q_is_cat f1 (Or.inr rfl)), sl_0]; decide) ?_
  rw [la_1 (q_is_cat f0 (Or.inr rfl)), la_1 (q_is_cat f1 (Or.inr rfl)), la_0]
  obtain ⟨L, hL⟩ : ∃ L : QL, L = [(0, v0), (0 + 1, v1)] := ⟨_, rfl⟩
  rw [← hL]
  have l0 : q_lo L 0 = some v0 := by rw [hL]; rfl
  have l1 : q_lo L 1 = some v1 := by rw [hL]; rfl
  have hQ : ∀ o S1, Rp S1 m0 → q_out 0 o rz → (Cr 0 m0 m0 rz) o S1 := fun o S1 a b => ⟨a, Ext.rf _, b⟩
  unfold fm_X11_lastIsOpen at h
  refine go_aload_n (n := 1) (by decide +kernel) l1 f1 ?_
  obtain ⟨g_3, h⟩ := gd_s h
  obtain ⟨x_5, e_6, h⟩ := lx_s h
  refine go_getf (x := 674) (ci := 8) (kf := 6) (fin := 0) (t := 0) (by decide +kernel) (by decide +kernel) (by decide +kernel) R f1 g_3 fun v_1 f_2 => ?_
  have f_4 := q_is_eq f_2 e_6
  refine go_if (c := .lt) (o := 41) (t := 45) (P := x_5 < 0) (by decide +kernel) (by decide +kernel) f_4 (Iff.rfl) (fun hp_7 => ?_) (fun hp_7 => ?_)
  · have h := it_t hp_7 h
    refine go_iconst (n := 0) (z := 0) (by decide +kernel) (by decide) fun v_8 f_9 => ?_
    cases h
    exact go_iret (by decide +kernel) rfl (Or.inr ⟨rfl, by decide⟩) f_9 (hQ _ _ R (q_out_v (by decide) f_9))
  · have h := it_f hp_7 h
    refine go_aload_n (n := 1) (by decide +kernel) l1 f1 ?_
    refine go_getf (x := 674) (ci := 8) (kf := 6) (fin := 0) (t := 0) (by decide +kernel) (by decide +kernel) (by decide +kernel) R f1 g_3 fun v_10 f_11 => ?_
    have f_12 := q_is_eq f_11 e_6
    refine go_aload_n (n := 0) (by decide +kernel) l0 f0 ?_
    refine go_getf (x := 24) (ci := 12) (kf := 2) (fin := 1) (t := 2) (by decide +kernel) (by decide +kernel) (by decide +kernel) R f0 (fx_k (c := 12) R (by decide +kernel)) fun v_13 f_14 => ?_
    have f_15 := q_is_eq (b := 7) f_14 (fx_v R (by decide +kernel)).symm
    obtain ⟨x_17, hc_16, h⟩ := bp_s h
    refine go_callV (x := 127) (mi := 326) (n := 0) (ci := 0) (as := []) (rest := [v_10]) (by decide +kernel) (by decide +kernel) rfl rfl (q_sum8 _ (Nat.le_of_ble_eq_true rfl)) R f_15 (fx_k (c := 0) R (by decide +kernel)) (om_Jx4a65c_size_8abf5 (Nat.le_trans (by decide) hd) R (fx_k (c := 0) R (by decide +kernel)) f_15 hc_16) (fun _ S_21 q_24 => ?_) (fun _ _ qq => kr_x qq)
    refine kr_z (by decide) q_24 fun v_19 f_20 R_22 E_23 => ?_
    refine go_icmp (c := .ge) (o := 27) (t := 45) (P := ¬ (x_5 < x_17)) (by decide +kernel) (by decide +kernel) f_12 f_20 (Int.not_lt.symm) (fun hp_25 => ?_) (fun hp_25 => ?_)
    · have h := it_f hp_25 h
      refine go_iconst (n := 0) (z := 0) (by decide +kernel) (by decide) fun v_26 f_27 => ?_
      cases h
      exact go_iret (by decide +kernel) rfl (Or.inr ⟨rfl, by decide⟩) f_27 (hQ _ _ R_22 (q_out_v (by decide) f_27))
    · have h := it_n hp_25 h
      refine go_aload_n (n := 0) (by decide +kernel) l0 f0 ?_
      refine go_getf (x := 24) (ci := 12) (kf := 2) (fin := 1) (t := 2) (by decide +kernel) (by decide +kernel) (by decide +kernel) R_22 f0 (fx_k (c := 12) R_22 (by decide +kernel)) fun v_28 f_29 => ?_
      have f_30 := q_is_eq (b := 7) f_29 (fx_v R_22 (by decide +kernel)).symm
      refine go_aload_n (n := 1) (by decide +kernel) l1 f1 ?_
      refine go_getf (x := 674) (ci := 8) (kf := 6) (fin := 0) (t := 0) (by decide +kernel) (by decide +kernel) (by decide +kernel) R_22 f1 g_3 fun v_31 f_32 => ?_
      have f_33 := q_is_eq f_32 e_6
      obtain ⟨x_35, hc_34, h⟩ := bp_s h
      refine go_callV (x := 305) (mi := 329) (n := 1) (ci := 0) (as := [v_31]) (rest := []) (by decide +kernel) (by decide +kernel) rfl rfl (q_sum8 _ (Nat.le_of_ble_eq_true rfl)) R_22 f_30 (fx_k (c := 0) R_22 (by decide +kernel)) (om_Jx4a65c_get_915e3 (Nat.le_trans (by decide) hd) R_22 (fx_k (c := 0) R_22 (by decide +kernel)) f_30 f_33 hc_34) (fun _ S_39 q_42 => ?_) (fun _ _ qq => kr_x qq)
      refine kr_z (by decide) q_42 fun v_37 f_38 R_40 E_41 => ?_
      obtain ⟨g_43, h⟩ := gd_s h
      refine go_cast (x := 181) (kd := 7) (a := 0) (b := 0) (by decide +kernel) (by decide +kernel) R_40 f_38 g_43 ?_
      obtain ⟨x_47, e_48, h⟩ := lx_s h
      refine go_getf (x := 208) (ci := 7) (kf := 6) (fin := 0) (t := 0) (by decide +kernel) (by decide +kernel) (by decide +kernel) R_40 f_38 g_43 fun v_44 f_45 => ?_
      have f_46 := q_is_eq f_45 e_48
      refine go_if (c := .ne) (o := 7) (t := 45) (P := ¬ (x_47 = 0)) (by decide +kernel) (by decide +kernel) f_46 (Iff.rfl) (fun hp_49 => ?_) (fun hp_49 => ?_)
      · have h := it_f hp_49 h
        refine go_iconst (n := 0) (z := 0) (by decide +kernel) (by decide) fun v_50 f_51 => ?_
        cases h
        exact go_iret (by decide +kernel) rfl (Or.inr ⟨rfl, by decide⟩) f_51 (hQ _ _ R_40 (q_out_v (by decide) f_51))
      · have h := it_n hp_49 h
        refine go_iconst (n := 1) (z := 1) (by decide +kernel) (by decide) fun v_52 f_53 => ?_
        refine go_goto (o := 4) (t := 46) (by decide +kernel) (by decide +kernel) ?_
        cases h
        exact go_iret (by decide +kernel) rfl (Or.inr ⟨rfl, by decide⟩) f_53 (hQ _ _ R_40 (q_out_v (by decide) f_53))
noncomputable def fm_X11_startFor (p1 p2 : Int) (m0 : MM) : Option (Int × MM) := bp (fm_Jx4a65c_size_8abf5 7 m0) fun x_5 =>
if x_5 < 30 then
gd (okc m0 p1 8) <| lx (m0 p1 0) fun x_20 =>
lx (m0 p1 1) fun x_25 =>
bd (fm_X11_startRun x_20 x_25 p2 (-1) 0 m0) fun x_32 m_33 =>
gd (okc m_33 x_32 7) <| lx (m_33 x_32 0) fun x_45 =>
up m_33 p1 6 x_45 fun m_48 =>
some (0, m_48)
else
some (0, m0)
set_option maxHeartbeats 4000000 in
theorem om_X11_startFor {xs : List Int32} {d : Nat} {S : QS} {m0 : MM} {p1 p2 : Int} {v0 : Value} {v1 : Value} {v2 : Value} {rz : Int} {rm : MM}
  (hd : 11 ≤ d) (R : Rp S m0) (f0 : q_is 2 v0 4) (f1 : q_is 2 v1 p1) (f2 : q_is 0 v2 p2)
  (h : fm_X11_startFor p1 p2 m0 = some (rz, rm)) : Mt xs d 183 [v0, v1, v2] S (Cr 9 m0 rm rz) := by
  obtain ⟨d, rfl⟩ : ∃ e, d = e + 1 := ⟨d - 1, by omega⟩
  have hd : 10 ≤ d := Nat.le_of_succ_le_succ hd
  refine Mt.of (M := qM_X11_startFor) rfl (by rw [sl_1 (q_is_cat f0 (Or.inr rfl)), sl_1 (q_is_cat f1 (Or.inr rfl)), sl_1 (q_is_cat f2 (Or.inl rfl)), sl_0]; decide) ?_
  rw [la_1 (q_is_cat f0 (Or.inr rfl)), la_1 (q_is_cat f1 (Or.inr rfl)), la_1 (q_is_cat f2 (Or.inl rfl)), la_0]
  obtain ⟨L, hL⟩ : ∃ L : QL, L = [(0, v0), (0 + 1, v1), (0 + 1 + 1, v2)] := ⟨_, rfl⟩
  rw [← hL]
  have l0 : q_lo L 0 = some v0 := by rw [hL]; rfl
  have l1 : q_lo L 1 = some v1 := by rw [hL]; rfl
  have l2 : q_lo L 2 = some v2 := by rw [hL]; rfl
  have hQ : Ext m0 rm → ∀ o S1, Rp S1 rm → q_out 9 o rz → (Cr 9 m0 rm rz) o S1 := fun a o S1 b e => ⟨b, a, e⟩
  unfold fm_X11_startFor at h
  refine go_aload_n (n := 0) (by decide +kernel) l0 f0 ?_
  refine go_getf (x := 24) (ci := 12) (kf := 2) (fin := 1) (t := 2) (by decide +kernel) (by decide +kernel) (by decide +kernel) R f0 (fx_k (c := 12) R (by decide +kernel)) fun v_1 f_2 => ?_
  have f_3 := q_is_eq (b := 7) f_2 (fx_v R (by decide +kernel)).symm
  obtain ⟨x_5, hc_4, h⟩ := bp_s h
  refine go_callV (x := 127) (mi := 326) (n := 0) (ci := 0) (as := []) (rest := []) (by decide +kernel) (by decide +kernel) rfl rfl (q_sum8 _ (Nat.le_of_ble_eq_true rfl)) R f_3 (fx_k (c := 0) R (by decide +kernel)) (om_Jx4a65c_size_8abf5 (Nat.le_trans (by decide) hd) R (fx_k (c := 0) R (by decide +kernel)) f_3 hc_4) (fun _ S_9 q_12 => ?_) (fun _ _ qq => kr_x qq)
  refine kr_z (by decide) q_12 fun v_7 f_8 R_10 E_11 => ?_
  refine go_bipush (n := 30) (z := 30) (by decide +kernel) (by decide) fun v_13 f_14 => ?_
  refine go_icmp (c := .ge) (o := 25) (t := 34) (P := ¬ (x_5 < 30)) (by decide +kernel) (by decide +kernel) f_8 f_14 (Int.not_lt.symm) (fun hp_15 => ?_) (fun hp_15 => ?_)
  · have h := it_f hp_15 h
    cases h
    exact go_vret (by decide +kernel) rfl (hQ (Ext.rf _) _ _ R_10 q_out_n)
  · have h := it_n hp_15 h
    refine go_aload_n (n := 1) (by decide +kernel) l1 f1 ?_
    refine go_aload_n (n := 0) (by decide +kernel) l0 f0 ?_
    refine go_aload_n (n := 1) (by decide +kernel) l1 f1 ?_
    obtain ⟨g_18, h⟩ := gd_s h
    obtain ⟨x_20, e_21, h⟩ := lx_s h
    refine go_getf (x := 491) (ci := 8) (kf := 0) (fin := 2) (t := 0) (by decide +kernel) (by decide +kernel) (by decide +kernel) R_10 f1 g_18 fun v_16 f_17 => ?_
    have f_19 := q_is_eq f_17 e_21
    refine go_aload_n (n := 1) (by decide +kernel) l1 f1 ?_
    obtain ⟨x_25, e_26, h⟩ := lx_s h
    refine go_getf (x := 492) (ci := 8) (kf := 1) (fin := 2) (t := 0) (by decide +kernel) (by decide +kernel) (by decide +kernel) R_10 f1 g_18 fun v_22 f_23 => ?_
    have f_24 := q_is_eq f_23 e_26
    refine go_iload_n (n := 2) (by decide +kernel) l2 f2 ?_
    refine go_iconst (n := (-1)) (z := (-1)) (by decide +kernel) (by decide) fun v_27 f_28 => ?_
    refine go_iconst (n := 0) (z := 0) (by decide +kernel) (by decide) fun v_29 f_30 => ?_
    obtain ⟨x_32, m_33, hc_31, h⟩ := bd_s h
    refine go_callV (x := 176) (mi := 151) (n := 5) (ci := 12) (as := [v_16, v_22, v2, v_27, v_29]) (rest := [v1]) (by decide +kernel) (by decide +kernel) rfl rfl (q_sum8 _ (Nat.le_of_ble_eq_true rfl)) R_10 f0 (fx_k (c := 12) R_10 (by decide +kernel)) (om_X11_startRun (Nat.le_trans (by decide) hd) R_10 f0 f_19 f_24 f2 f_28 f_30 hc_31) (fun _ S_36 q_39 => ?_) (fun _ _ qq => kr_x qq)
    refine kr_z (by decide) q_39 fun v_34 f_35 R_37 E_38 => ?_
    have E_40 := E_38
    obtain ⟨g_43, h⟩ := gd_s h
    obtain ⟨x_45, e_46, h⟩ := lx_s h
    refine go_getf (x := 180) (ci := 7) (kf := 0) (fin := 2) (t := 0) (by decide +kernel) (by decide +kernel) (by decide +kernel) R_37 f_35 g_43 fun v_41 f_42 => ?_
    have f_44 := q_is_eq f_42 e_46
    have g_47 := Ext.ok E_38 g_18
    obtain ⟨m_48, e_49, h⟩ := up_s h
    refine go_putf (x := 674) (ci := 8) (kf := 6) (fin := 0) (zt := 0) (by decide +kernel) (by decide +kernel) (by decide) (by decide +kernel) (by decide) (Or.inl rfl) R_37 f1 f_44 (fun hq => absurd hq (by decide)) g_47 e_49 (fx_f (j := 6) R_37.2 g_47 (by decide +kernel)) fun S_50 R_51 E_52 => ?_
    have E_53 := Ext.tr E_40 E_52
    cases h
    exact go_vret (by decide +kernel) rfl (hQ E_53 _ _ R_51 q_out_n)
noncomputable def fj_X11_meetPoint_16 (y1 y2 : Int) (m : MM) : Option (Int × MM) := bd (fm_X11_startFor y1 y2 m) fun x_12 m_13 =>
some (0, m_13)
set_option maxHeartbeats 4000000 in
theorem oj_X11_meetPoint_16 {xs : List Int32} {d : Nat} {S : QS} {L : QL} {Q : QO → QS → Prop} {m : MM} {y1 y2 : Int} {v0 : Value} {v1 : Value} {v2 : Value}  {rz : Int} {rm : MM}
  (hd : 11 ≤ d) (R : Rp S m) (l0 : q_lo L 0 = some v0) (f0 : q_is 2 v0 4) (l1 : q_lo L 1 = some v1) (f1 : q_is 2 v1 y1) (l2 : q_lo L 2 = some v2) (f2 : q_is 0 v2 y2)
  (hQ : Ext m rm → ∀ o S1, Rp S1 rm → q_out 9 o rz → Q o S1)
  (h : fj_X11_meetPoint_16 y1 y2 m = some (rz, rm)) : Go xs d qM_X11_meetPoint 16 L [] S Q := by
  unfold fj_X11_meetPoint_16 at h
  refine go_aload_n (n := 0) (by decide +kernel) l0 f0 ?_
  refine go_aload_n (n := 1) (by decide +kernel) l1 f1 ?_
  refine go_iload_n (n := 2) (by decide +kernel) l2 f2 ?_
  obtain ⟨x_12, m_13, hc_11, h⟩ := bd_s h
  refine go_callV (x := 658) (mi := 183) (n := 2) (ci := 12) (as := [v1, v2]) (rest := []) (by decide +kernel) (by decide +kernel) rfl rfl (q_sum8 _ (Nat.le_of_ble_eq_true rfl)) R f0 (fx_k (c := 12) R (by decide +kernel)) (om_X11_startFor (Nat.le_trans (by decide) hd) R f0 f1 f2 hc_11) (fun _ S_16 q_19 => ?_) (fun _ _ qq => kr_x qq)
  refine kr_v q_19 fun R_17 E_18 => ?_
  have E_20 := E_18
  refine go_goto (o := 64) (t := 86) (by decide +kernel) (by decide +kernel) ?_
  cases h
  exact go_vret (by decide +kernel) rfl (hQ E_20 _ _ R_17 q_out_n)
noncomputable def fm_X11_meetPoint (p1 p2 : Int) (m0 : MM) : Option (Int × MM) := bp (fm_X11_lastIsOpen p1 m0) fun x_2 =>
if x_2 = 0 then
fj_X11_meetPoint_16 p1 p2 m0
else
gd (okc m0 p1 8) <| lx (m0 p1 3) fun x_25 =>
if x_25 = 3 then
fj_X11_meetPoint_16 p1 p2 m0
else
if x_25 = 1 then
lx (m0 p1 7) fun x_83 =>
if x_83 = 0 then
up m0 p1 7 1 fun m_88 =>
up m_88 p1 8 p2 fun m_95 =>
some (0, m_95)
else
some (0, m0)
else
if x_25 = 2 then
lx (m0 p1 6) fun x_48 =>
bp (fm_Jx4a65c_get_915e3 7 x_48 m0) fun x_51 =>
gd (okc m0 x_51 7) <| bd (fm_X11_cancelRun x_51 m0) fun x_61 m_62 =>
bd (fm_X11_startFor p1 p2 m_62) fun x_71 m_72 =>
some (0, m_72)
else
some (0, m0)
set_option maxHeartbeats 4000000 in
theorem om_X11_meetPoint {xs : List Int32} {d : Nat} {S : QS} {m0 : MM} {p1 p2 : Int} {v0 : Value} {v1 : Value} {v2 : Value} {rz : Int} {rm : MM}
  (hd : 12 ≤ d) (R : Rp S m0) (f0 : q_is 2 v0 4) (f1 : q_is 2 v1 p1) (f2 : q_is 0 v2 p2)
  (h : fm_X11_meetPoint p1 p2 m0 = some (rz, rm)) : Mt xs d 181 [v0, v1, v2] S (Cr 9 m0 rm rz) := by
  obtain ⟨d, rfl⟩ : ∃ e, d = e + 1 := ⟨d - 1, by omega⟩
  have hd : 11 ≤ d := Nat.le_of_succ_le_succ hd
  refine Mt.of (M := qM_X11_meetPoint) rfl (by rw [sl_1 (q_is_cat f0 (Or.inr rfl)), sl_1 (q_is_cat f1 (Or.inr rfl)), sl_1 (q_is_cat f2 (Or.inl rfl)), sl_0]; decide) ?_
  rw [la_1 (q_is_cat f0 (Or.inr rfl)), la_1 (q_is_cat f1 (Or.inr rfl)), la_1 (q_is_cat f2 (Or.inl rfl)), la_0]
  obtain ⟨L, hL⟩ : ∃ L : QL, L = [(0, v0), (0 + 1, v1), (0 + 1 + 1, v2)] := ⟨_, rfl⟩
  rw [← hL]
  have l0 : q_lo L 0 = some v0 := by rw [hL]; rfl
  have l1 : q_lo L 1 = some v1 := by rw [hL]; rfl
  have l2 : q_lo L 2 = some v2 := by rw [hL]; rfl
  have hQ : Ext m0 rm → ∀ o S1, Rp S1 rm → q_out 9 o rz → (Cr 9 m0 rm rz) o S1 := fun a o S1 b e => ⟨b, a, e⟩
  unfold fm_X11_meetPoint at h
  refine go_aload_n (n := 0) (by decide +kernel) l0 f0 ?_
  refine go_aload_n (n := 1) (by decide +kernel) l1 f1 ?_
  obtain ⟨x_2, hc_1, h⟩ := bp_s h
  refine go_callV (x := 651) (mi := 182) (n := 1) (ci := 12) (as := [v1]) (rest := []) (by decide +kernel) (by decide +kernel) rfl rfl (q_sum8 _ (Nat.le_of_ble_eq_true rfl)) R f0 (fx_k (c := 12) R (by decide +kernel)) (om_X11_lastIsOpen (Nat.le_trans (by decide) hd) R f0 f1 hc_1) (fun _ S_6 q_9 => ?_) (fun _ _ qq => kr_x qq)
  refine kr_z (by decide) q_9 fun v_4 f_5 R_7 E_8 => ?_
  refine go_if (c := .eq) (o := 11) (t := 16) (P := x_2 = 0) (by decide +kernel) (by decide +kernel) f_5 (Iff.rfl) (fun hp_10 => ?_) (fun hp_10 => ?_)
  · have h := it_t hp_10 h
    exact oj_X11_meetPoint_16 hd R_7 l0 f0 l1 f1 l2 f2 hQ h
  · have h := it_f hp_10 h
    refine go_aload_n (n := 1) (by decide +kernel) l1 f1 ?_
    obtain ⟨g_23, h⟩ := gd_s h
    obtain ⟨x_25, e_26, h⟩ := lx_s h
    refine go_getf (x := 671) (ci := 8) (kf := 3) (fin := 2) (t := 0) (by decide +kernel) (by decide +kernel) (by decide +kernel) R_7 f1 g_23 fun v_21 f_22 => ?_
    have f_24 := q_is_eq f_22 e_26
    refine go_iconst (n := 3) (z := 3) (by decide +kernel) (by decide) fun v_27 f_28 => ?_
    refine go_icmp (c := .ne) (o := 12) (t := 25) (P := ¬ (x_25 = 3)) (by decide +kernel) (by decide +kernel) f_24 f_28 (Iff.rfl) (fun hp_29 => ?_) (fun hp_29 => ?_)
    · have h := it_f hp_29 h
      refine go_aload_n (n := 1) (by decide +kernel) l1 f1 ?_
      refine go_getf (x := 671) (ci := 8) (kf := 3) (fin := 2) (t := 0) (by decide +kernel) (by decide +kernel) (by decide +kernel) R_7 f1 g_23 fun v_30 f_31 => ?_
      have f_32 := q_is_eq f_31 e_26
      refine go_iconst (n := 1) (z := 1) (by decide +kernel) (by decide) fun v_33 f_34 => ?_
      refine go_icmp (c := .ne) (o := 23) (t := 53) (P := ¬ (x_25 = 1)) (by decide +kernel) (by decide +kernel) f_32 f_34 (Iff.rfl) (fun hp_35 => ?_) (fun hp_35 => ?_)
      · have h := it_f hp_35 h
        refine go_aload_n (n := 1) (by decide +kernel) l1 f1 ?_
        refine go_getf (x := 671) (ci := 8) (kf := 3) (fin := 2) (t := 0) (by decide +kernel) (by decide +kernel) (by decide +kernel) R_7 f1 g_23 fun v_36 f_37 => ?_
        have f_38 := q_is_eq f_37 e_26
        refine go_iconst (n := 2) (z := 2) (by decide +kernel) (by decide) fun v_39 f_40 => ?_
        refine go_icmp (c := .ne) (o := 28) (t := 86) (P := ¬ (x_25 = 2)) (by decide +kernel) (by decide +kernel) f_38 f_40 (Iff.rfl) (fun hp_41 => ?_) (fun hp_41 => ?_)
        · have h := it_f hp_41 h
          cases h
          exact go_vret (by decide +kernel) rfl (hQ (Ext.rf _) _ _ R_7 q_out_n)
        · have h := it_n hp_41 h
          refine go_aload_n (n := 0) (by decide +kernel) l0 f0 ?_
          refine go_aload_n (n := 0) (by decide +kernel) l0 f0 ?_
          refine go_getf (x := 24) (ci := 12) (kf := 2) (fin := 1) (t := 2) (by decide +kernel) (by decide +kernel) (by decide +kernel) R_7 f0 (fx_k (c := 12) R_7 (by decide +kernel)) fun v_42 f_43 => ?_
          have f_44 := q_is_eq (b := 7) f_43 (fx_v R_7 (by decide +kernel)).symm
          refine go_aload_n (n := 1) (by decide +kernel) l1 f1 ?_
          obtain ⟨x_48, e_49, h⟩ := lx_s h
          refine go_getf (x := 674) (ci := 8) (kf := 6) (fin := 0) (t := 0) (by decide +kernel) (by decide +kernel) (by decide +kernel) R_7 f1 g_23 fun v_45 f_46 => ?_
          have f_47 := q_is_eq f_46 e_49
          obtain ⟨x_51, hc_50, h⟩ := bp_s h
          refine go_callV (x := 305) (mi := 329) (n := 1) (ci := 0) (as := [v_45]) (rest := [v0]) (by decide +kernel) (by decide +kernel) rfl rfl (q_sum8 _ (Nat.le_of_ble_eq_true rfl)) R_7 f_44 (fx_k (c := 0) R_7 (by decide +kernel)) (om_Jx4a65c_get_915e3 (Nat.le_trans (by decide) hd) R_7 (fx_k (c := 0) R_7 (by decide +kernel)) f_44 f_47 hc_50) (fun _ S_55 q_58 => ?_) (fun _ _ qq => kr_x qq)
          refine kr_z (by decide) q_58 fun v_53 f_54 R_56 E_57 => ?_
          obtain ⟨g_59, h⟩ := gd_s h
          refine go_cast (x := 181) (kd := 7) (a := 0) (b := 0) (by decide +kernel) (by decide +kernel) R_56 f_54 g_59 ?_
          obtain ⟨x_61, m_62, hc_60, h⟩ := bd_s h
          refine go_callV (x := 242) (mi := 153) (n := 1) (ci := 12) (as := [v_53]) (rest := []) (by decide +kernel) (by decide +kernel) rfl rfl (q_sum8 _ (Nat.le_of_ble_eq_true rfl)) R_56 f0 (fx_k (c := 12) R_56 (by decide +kernel)) (om_X11_cancelRun (Nat.le_trans (by decide) hd) R_56 f0 f_54 hc_60) (fun _ S_65 q_68 => ?_) (fun _ _ qq => kr_x qq)
          refine kr_z (by decide) q_68 fun v_63 f_64 R_66 E_67 => ?_
          have E_69 := E_67
          refine go_pop (by decide +kernel) f_64 (Or.inl rfl) ?_
          refine go_aload_n (n := 0) (by decide +kernel) l0 f0 ?_
          refine go_aload_n (n := 1) (by decide +kernel) l1 f1 ?_
          refine go_iload_n (n := 2) (by decide +kernel) l2 f2 ?_
          obtain ⟨x_71, m_72, hc_70, h⟩ := bd_s h
          refine go_callV (x := 658) (mi := 183) (n := 2) (ci := 12) (as := [v1, v2]) (rest := []) (by decide +kernel) (by decide +kernel) rfl rfl (q_sum8 _ (Nat.le_of_ble_eq_true rfl)) R_66 f0 (fx_k (c := 12) R_66 (by decide +kernel)) (om_X11_startFor (Nat.le_trans (by decide) hd) R_66 f0 f1 f2 hc_70) (fun _ S_75 q_78 => ?_) (fun _ _ qq => kr_x qq)
          refine kr_v q_78 fun R_76 E_77 => ?_
          have E_79 := Ext.tr E_69 E_77
          cases h
          exact go_vret (by decide +kernel) rfl (hQ E_79 _ _ R_76 q_out_n)
      · have h := it_n hp_35 h
        refine go_aload_n (n := 1) (by decide +kernel) l1 f1 ?_
        obtain ⟨x_83, e_84, h⟩ := lx_s h
        refine go_getf (x := 648) (ci := 8) (kf := 7) (fin := 0) (t := 0) (by decide +kernel) (by decide +kernel) (by decide +kernel) R_7 f1 g_23 fun v_80 f_81 => ?_
        have f_82 := q_is_eq f_81 e_84
        refine go_if (c := .ne) (o := 49) (t := 86) (P := ¬ (x_83 = 0)) (by decide +kernel) (by decide +kernel) f_82 (Iff.rfl) (fun hp_85 => ?_) (fun hp_85 => ?_)
        · have h := it_f hp_85 h
          cases h
          exact go_vret (by decide +kernel) rfl (hQ (Ext.rf _) _ _ R_7 q_out_n)
        · have h := it_n hp_85 h
          refine go_aload_n (n := 1) (by decide +kernel) l1 f1 ?_
          refine go_iconst (n := 1) (z := 1) (by decide +kernel) (by decide) fun v_86 f_87 => ?_
          obtain ⟨m_88, e_89, h⟩ := up_s h
          refine go_putf (x := 648) (ci := 8) (kf := 7) (fin := 0) (zt := 1) (by decide +kernel) (by decide +kernel) (by decide) (by decide +kernel) (by decide) (Or.inl rfl) R_7 f1 f_87 (fun _ => by decide) g_23 e_89 (fx_f (j := 7) R_7.2 g_23 (by decide +kernel)) fun S_90 R_91 E_92 => ?_
          have E_93 := E_92
          refine go_aload_n (n := 1) (by decide +kernel) l1 f1 ?_
          refine go_iload_n (n := 2) (by decide +kernel) l2 f2 ?_
          have g_94 := Ext.ok E_92 g_23
          obtain ⟨m_95, e_96, h⟩ := up_s h
          refine go_putf (x := 655) (ci := 8) (kf := 8) (fin := 0) (zt := 0) (by decide +kernel) (by decide +kernel) (by decide) (by decide +kernel) (by decide) (Or.inl rfl) R_91 f1 f2 (fun hq => absurd hq (by decide)) g_94 e_96 (fx_f (j := 8) R_91.2 g_94 (by decide +kernel)) fun S_97 R_98 E_99 => ?_
          have E_100 := Ext.tr E_93 E_99
          refine go_goto (o := 36) (t := 86) (by decide +kernel) (by decide +kernel) ?_
          cases h
          exact go_vret (by decide +kernel) rfl (hQ E_100 _ _ R_98 q_out_n)
    · have h := it_n hp_29 h
      exact oj_X11_meetPoint_16 hd R_7 l0 f0 l1 f1 l2 f2 hQ h
noncomputable def fl_X11_lookAtSchedule_46 (y1 y2 : Int) (k84 : MM → Option (Int × MM)) : Nat → Int → MM → Option (Int × MM)
  | 0, _, _ => none
  | n + 1, y3, m => if y2 < y3 then
k84 m
else
gd (okc m y1 8) <| bp (fm_X7_isPoint y1 y3 m) fun x_50 =>
if x_50 = 0 then
lx (w32 (y3 + 1)) fun x_64 =>
fl_X11_lookAtSchedule_46 y1 y2 k84 n x_64 m
else
lx (m y1 5) fun x_73 =>
if x_73 = 0 then
bp (fm_J9_floorMod_7cf53 y3 1000 m) fun x_90 =>
bd (fm_X11_meetPoint y1 x_90 m) fun x_99 m_100 =>
lx (w32 (y3 + 1)) fun x_113 =>
fl_X11_lookAtSchedule_46 y1 y2 k84 n x_113 m_100
else
lx (w32 (y3 + 1)) fun x_81 =>
fl_X11_lookAtSchedule_46 y1 y2 k84 n x_81 m
set_option maxHeartbeats 4000000 in
theorem ol_X11_lookAtSchedule_46 {xs : List Int32} {d : Nat} {Q : QO → QS → Prop} {mb : MM} {y1 y2 : Int} {k84 : MM → Option (Int × MM)} {rz : Int} {rm : MM}
  (hd : 12 ≤ d)
  (hk84 : ∀ mq : MM, Ext mb mq → ∀ {Sq : QS} {Lq : QL} {u1 : Value} {u2 : Value}, k84 mq = some (rz, rm) → Rp Sq mq → q_lo Lq 1 = some u1 → q_is 2 u1 y1 → q_lo Lq 2 = some u2 → q_is 0 u2 y2 → Go xs d qM_X11_lookAtSchedule 84 Lq [] Sq Q)
  (hQ : Ext mb rm → ∀ o S1, Rp S1 rm → q_out 9 o rz → Q o S1) :
  ∀ (n : Nat) {m : MM} {S : QS} {L : QL} {y3 : Int} {v0 : Value} {v1 : Value} {v2 : Value} {v3 : Value} , Ext mb m → fl_X11_lookAtSchedule_46 y1 y2 k84 n y3 m = some (rz, rm) → Rp S m → q_lo L 0 = some v0 → q_is 2 v0 4 → q_lo L 1 = some v1 → q_is 2 v1 y1 → q_lo L 2 = some v2 → q_is 0 v2 y2 → q_lo L 3 = some v3 → q_is 0 v3 y3 → Go xs d qM_X11_lookAtSchedule 46 L [] S Q := by
  intro n
  induction n with
  | zero => intro m S L y3 v0 v1 v2 v3; intro E h R l0 f0 l1 f1 l2 f2 l3 f3; cases h
  | succ n ih0 =>
    intro m S L y3 v0 v1 v2 v3; intro E h R l0 f0 l1 f1 l2 f2 l3 f3
    have ih : ∀ mq : MM, Ext mb mq → ∀ {z3 : Int} {Sq : QS} {Lq : QL} {u0 : Value} {u1 : Value} {u2 : Value} {u3 : Value}, fl_X11_lookAtSchedule_46 y1 y2 k84 n z3 mq = some (rz, rm) → Rp Sq mq → q_lo Lq 0 = some u0 → q_is 2 u0 4 → q_lo Lq 1 = some u1 → q_is 2 u1 y1 → q_lo Lq 2 = some u2 → q_is 0 u2 y2 → q_lo Lq 3 = some u3 → q_is 0 u3 z3 → Go xs d qM_X11_lookAtSchedule 46 Lq [] Sq Q := fun mq b => by intros; exact ih0 b ‹_› ‹_› ‹_› ‹_› ‹_› ‹_› ‹_› ‹_› ‹_› ‹_›
    unfold fl_X11_lookAtSchedule_46 at h
    refine go_iload_n (n := 3) (by decide +kernel) l3 f3 ?_
    refine go_iload_n (n := 2) (by decide +kernel) l2 f2 ?_
    refine go_icmp (c := .gt) (o := 36) (t := 84) (P := y2 < y3) (by decide +kernel) (by decide +kernel) f3 f2 (Iff.rfl) (fun hp_47 => ?_) (fun hp_47 => ?_)
    · have h := it_t hp_47 h
      exact hk84 m E h R l1 f1 l2 f2
    · have h := it_f hp_47 h
      refine go_aload_n (n := 1) (by decide +kernel) l1 f1 ?_
      refine go_iload_n (n := 3) (by decide +kernel) l3 f3 ?_
      obtain ⟨g_48, h⟩ := gd_s h
      obtain ⟨x_50, hc_49, h⟩ := bp_s h
      refine go_callV (x := 665) (mi := 74) (n := 1) (ci := 8) (as := [v3]) (rest := []) (by decide +kernel) (by decide +kernel) rfl rfl (q_sum8 _ (Nat.le_of_ble_eq_true rfl)) R f1 g_48 (om_X7_isPoint (Nat.le_trans (by decide) hd) R g_48 f1 f3 hc_49) (fun _ S_54 q_57 => ?_) (fun _ _ qq => kr_x qq)
      refine kr_z (by decide) q_57 fun v_52 f_53 R_55 E_56 => ?_
      refine go_if (c := .eq) (o := 22) (t := 78) (P := x_50 = 0) (by decide +kernel) (by decide +kernel) f_53 (Iff.rfl) (fun hp_58 => ?_) (fun hp_58 => ?_)
      · have h := it_t hp_58 h
        refine go_iinc (n := 3) (c := 1) (c' := 1) (by decide +kernel) (by decide +kernel) l3 f3 (by decide) fun L_59 v_60 f_61 l_62 kp_63 => ?_
        obtain ⟨x_64, e_65, h⟩ := lx_s h
        have f_66 := q_is_eq f_61 e_65
        have l_67 := kp_63 0 _ l0 (by decide) (Or.inl (by decide))
        have l_68 := kp_63 1 _ l1 (by decide) (Or.inl (by decide))
        have l_69 := kp_63 2 _ l2 (by decide) (Or.inr (q_is_cat f2 (Or.inl rfl)))
        refine go_goto (o := (-35)) (t := 46) (by decide +kernel) (by decide +kernel) ?_
        exact ih m E h R_55 l_67 f0 l_68 f1 l_69 f2 l_62 f_66
      · have h := it_f hp_58 h
        refine go_aload_n (n := 1) (by decide +kernel) l1 f1 ?_
        obtain ⟨x_73, e_74, h⟩ := lx_s h
        refine go_getf (x := 483) (ci := 8) (kf := 5) (fin := 0) (t := 0) (by decide +kernel) (by decide +kernel) (by decide +kernel) R_55 f1 g_48 fun v_70 f_71 => ?_
        have f_72 := q_is_eq f_71 e_74
        refine go_if (c := .ne) (o := 15) (t := 78) (P := ¬ (x_73 = 0)) (by decide +kernel) (by decide +kernel) f_72 (Iff.rfl) (fun hp_75 => ?_) (fun hp_75 => ?_)
        · have h := it_f hp_75 h
          refine go_iinc (n := 3) (c := 1) (c' := 1) (by decide +kernel) (by decide +kernel) l3 f3 (by decide) fun L_76 v_77 f_78 l_79 kp_80 => ?_
          obtain ⟨x_81, e_82, h⟩ := lx_s h
          have f_83 := q_is_eq f_78 e_82
          have l_84 := kp_80 0 _ l0 (by decide) (Or.inl (by decide))
          have l_85 := kp_80 1 _ l1 (by decide) (Or.inl (by decide))
          have l_86 := kp_80 2 _ l2 (by decide) (Or.inr (q_is_cat f2 (Or.inl rfl)))
          refine go_goto (o := (-35)) (t := 46) (by decide +kernel) (by decide +kernel) ?_
          exact ih m E h R_55 l_84 f0 l_85 f1 l_86 f2 l_79 f_83
        · have h := it_n hp_75 h
          refine go_aload_n (n := 0) (by decide +kernel) l0 f0 ?_
          refine go_aload_n (n := 1) (by decide +kernel) l1 f1 ?_
          refine go_iload_n (n := 3) (by decide +kernel) l3 f3 ?_
          refine go_sipush (n := 1000) (z := 1000) (by decide +kernel) (by decide) fun v_87 f_88 => ?_
          obtain ⟨x_90, hc_89, h⟩ := bp_s h
          refine go_callS (x := 496) (mi := 318) (n := 2) (b := 0) (as := [v3, v_87]) (rest := [v1, v0]) (by decide +kernel) (by decide +kernel) rfl rfl (q_sum8 _ (Nat.le_of_ble_eq_true rfl)) (om_J9_floorMod_7cf53 (Nat.le_trans (by decide) hd) R_55 f3 f_88 hc_89) (fun _ S_94 q_97 => ?_) (fun _ _ qq => kr_x qq)
          refine kr_z (by decide) q_97 fun v_92 f_93 R_95 E_96 => ?_
          obtain ⟨x_99, m_100, hc_98, h⟩ := bd_s h
          refine go_callV (x := 668) (mi := 181) (n := 2) (ci := 12) (as := [v1, v_92]) (rest := []) (by decide +kernel) (by decide +kernel) rfl rfl (q_sum8 _ (Nat.le_of_ble_eq_true rfl)) R_95 f0 (fx_k (c := 12) R_95 (by decide +kernel)) (om_X11_meetPoint (Nat.le_trans (by decide) hd) R_95 f0 f1 f_93 hc_98) (fun _ S_103 q_106 => ?_) (fun _ _ qq => kr_x qq)
          refine kr_v q_106 fun R_104 E_105 => ?_
          have E_107 := Ext.tr E E_105
          refine go_iinc (n := 3) (c := 1) (c' := 1) (by decide +kernel) (by decide +kernel) l3 f3 (by decide) fun L_108 v_109 f_110 l_111 kp_112 => ?_
          obtain ⟨x_113, e_114, h⟩ := lx_s h
          have f_115 := q_is_eq f_110 e_114
          have l_116 := kp_112 0 _ l0 (by decide) (Or.inl (by decide))
          have l_117 := kp_112 1 _ l1 (by decide) (Or.inl (by decide))
          have l_118 := kp_112 2 _ l2 (by decide) (Or.inr (q_is_cat f2 (Or.inl rfl)))
          refine go_goto (o := (-35)) (t := 46) (by decide +kernel) (by decide +kernel) ?_
          exact ih m_100 E_107 h R_104 l_116 f0 l_117 f1 l_118 f2 l_111 f_115
noncomputable def fj_X11_lookAtSchedule_29 (y1 : Int) (m : MM) : Option (Int × MM) := lx (m 4 14) fun x_11 =>
lx (m 4 15) fun x_16 =>
lx (w32 (x_11 + x_16)) fun x_20 =>
gd (okc m y1 8) <| lx (m y1 4) fun x_32 =>
lx (w32 (x_32 + 1)) fun x_38 =>
fl_X11_lookAtSchedule_46 y1 x_20 (fun m_128 =>
lx (m_128 y1 4) fun x_135 =>
bp (fm_J9_max_7cf53 x_135 x_20 m_128) fun x_138 =>
up m_128 y1 4 x_138 fun m_146 =>
some (0, m_146)) BIG x_38 m
set_option maxHeartbeats 4000000 in
theorem oj_X11_lookAtSchedule_29 {xs : List Int32} {d : Nat} {S : QS} {L : QL} {Q : QO → QS → Prop} {m : MM} {y1 : Int} {v0 : Value} {v1 : Value}  {rz : Int} {rm : MM}
  (hd : 12 ≤ d) (R : Rp S m) (l0 : q_lo L 0 = some v0) (f0 : q_is 2 v0 4) (l1 : q_lo L 1 = some v1) (f1 : q_is 2 v1 y1)
  (hQ : Ext m rm → ∀ o S1, Rp S1 rm → q_out 9 o rz → Q o S1)
  (h : fj_X11_lookAtSchedule_29 y1 m = some (rz, rm)) : Go xs d qM_X11_lookAtSchedule 29 L [] S Q := by
  unfold fj_X11_lookAtSchedule_29 at h
  refine go_aload_n (n := 0) (by decide +kernel) l0 f0 ?_
  obtain ⟨x_11, e_12, h⟩ := lx_s h
  refine go_getf (x := 71) (ci := 12) (kf := 14) (fin := 0) (t := 0) (by decide +kernel) (by decide +kernel) (by decide +kernel) R f0 (fx_k (c := 12) R (by decide +kernel)) fun v_8 f_9 => ?_
  have f_10 := q_is_eq f_9 e_12
  refine go_aload_n (n := 0) (by decide +kernel) l0 f0 ?_
  obtain ⟨x_16, e_17, h⟩ := lx_s h
  refine go_getf (x := 74) (ci := 12) (kf := 15) (fin := 0) (t := 0) (by decide +kernel) (by decide +kernel) (by decide +kernel) R f0 (fx_k (c := 12) R (by decide +kernel)) fun v_13 f_14 => ?_
  have f_15 := q_is_eq f_14 e_17
  refine go_iadd (by decide +kernel) f_10 f_15 fun v_18 f_19 => ?_
  obtain ⟨x_20, e_21, h⟩ := lx_s h
  have f_22 := q_is_eq f_19 e_21
  refine go_istore_n (n := 2) (by decide +kernel) (by decide +kernel) f_22 fun L_23 l_24 kp_25 => ?_
  have l_26 := kp_25 0 _ l0 (by decide) (Or.inl (by decide))
  have l_27 := kp_25 1 _ l1 (by decide) (Or.inr (q_is_cat f1 (Or.inr rfl)))
  refine go_aload_n (n := 1) (by decide +kernel) l_27 f1 ?_
  obtain ⟨g_30, h⟩ := gd_s h
  obtain ⟨x_32, e_33, h⟩ := lx_s h
  refine go_getf (x := 662) (ci := 8) (kf := 4) (fin := 0) (t := 0) (by decide +kernel) (by decide +kernel) (by decide +kernel) R f1 g_30 fun v_28 f_29 => ?_
  have f_31 := q_is_eq f_29 e_33
  refine go_iconst (n := 1) (z := 1) (by decide +kernel) (by decide) fun v_34 f_35 => ?_
  refine go_iadd (by decide +kernel) f_31 f_35 fun v_36 f_37 => ?_
  obtain ⟨x_38, e_39, h⟩ := lx_s h
  have f_40 := q_is_eq f_37 e_39
  refine go_istore_n (n := 3) (by decide +kernel) (by decide +kernel) f_40 fun L_41 l_42 kp_43 => ?_
  have l_44 := kp_43 0 _ l_26 (by decide) (Or.inl (by decide))
  have l_45 := kp_43 1 _ l_27 (by decide) (Or.inl (by decide))
  have l_46 := kp_43 2 _ l_24 (by decide) (Or.inr (q_is_cat f_22 (Or.inl rfl)))
  refine ol_X11_lookAtSchedule_46 hd  ?_ hQ BIG (Ext.rf _) h R l_44 f0 l_45 f1 l_46 f_22 l_42 f_40
  intro m_128 E_129
  intro S_125 L_126 v_119 v_120
  intro h R_127 l_121 f_123 l_122 f_124
  have E_130 := E_129
  refine go_aload_n (n := 1) (by decide +kernel) l_121 f_123 ?_
  refine go_aload_n (n := 1) (by decide +kernel) l_121 f_123 ?_
  have g_133 := Ext.ok E_129 g_30
  obtain ⟨x_135, e_136, h⟩ := lx_s h
  refine go_getf (x := 662) (ci := 8) (kf := 4) (fin := 0) (t := 0) (by decide +kernel) (by decide +kernel) (by decide +kernel) R_127 f_123 g_133 fun v_131 f_132 => ?_
  have f_134 := q_is_eq f_132 e_136
  refine go_iload_n (n := 2) (by decide +kernel) l_122 f_124 ?_
  obtain ⟨x_138, hc_137, h⟩ := bp_s h
  refine go_callS (x := 632) (mi := 319) (n := 2) (b := 0) (as := [v_131, v_120]) (rest := [v_119]) (by decide +kernel) (by decide +kernel) rfl rfl (q_sum8 _ (Nat.le_of_ble_eq_true rfl)) (om_J9_max_7cf53 (Nat.le_trans (by decide) hd) R_127 f_134 f_124 hc_137) (fun _ S_142 q_145 => ?_) (fun _ _ qq => kr_x qq)
  refine kr_z (by decide) q_145 fun v_140 f_141 R_143 E_144 => ?_
  obtain ⟨m_146, e_147, h⟩ := up_s h
  refine go_putf (x := 662) (ci := 8) (kf := 4) (fin := 0) (zt := 0) (by decide +kernel) (by decide +kernel) (by decide) (by decide +kernel) (by decide) (Or.inl rfl) R_143 f_123 f_141 (fun hq => absurd hq (by decide)) g_133 e_147 (fx_f (j := 4) R_143.2 g_133 (by decide +kernel)) fun S_148 R_149 E_150 => ?_
  have E_151 := Ext.tr E_130 E_150
  cases h
  exact go_vret (by decide +kernel) rfl (hQ E_151 _ _ R_149 q_out_n)
noncomputable def fm_X11_lookAtSchedule (p1 : Int) (m0 : MM) : Option (Int × MM) := gd (okc m0 p1 8) <| lx (m0 p1 7) fun x_5 =>
if x_5 = 0 then
fj_X11_lookAtSchedule_29 p1 m0
else
bp (fm_X11_lastIsOpen p1 m0) fun x_153 =>
if x_153 = 0 then
up m0 p1 7 0 fun m_164 =>
lx (m_164 p1 8) fun x_174 =>
bd (fm_X11_startFor p1 x_174 m_164) fun x_177 m_178 =>
fj_X11_lookAtSchedule_29 p1 m_178
else
fj_X11_lookAtSchedule_29 p1 m0
set_option maxHeartbeats 4000000 in
theorem om_X11_lookAtSchedule {xs : List Int32} {d : Nat} {S : QS} {m0 : MM} {p1 : Int} {v0 : Value} {v1 : Value} {rz : Int} {rm : MM}
  (hd : 13 ≤ d) (R : Rp S m0) (f0 : q_is 2 v0 4) (f1 : q_is 2 v1 p1)
  (h : fm_X11_lookAtSchedule p1 m0 = some (rz, rm)) : Mt xs d 180 [v0, v1] S (Cr 9 m0 rm rz) := by
  obtain ⟨d, rfl⟩ : ∃ e, d = e + 1 := ⟨d - 1, by omega⟩
  have hd : 12 ≤ d := Nat.le_of_succ_le_succ hd
  refine Mt.of (M := qM_X11_lookAtSchedule) rfl (by rw [sl_1 (q_is_cat f0 (Or.inr rfl)), sl_1 (q_is_cat f1 (Or.inr rfl)), sl_0]; decide) ?_
  rw [la_1 (q_is_cat f0 (Or.inr rfl)), la_1 (q_is_cat f1 (Or.inr rfl)), la_0]
  obtain ⟨L, hL⟩ : ∃ L : QL, L = [(0, v0), (0 + 1, v1)] := ⟨_, rfl⟩
  rw [← hL]
  have l0 : q_lo L 0 = some v0 := by rw [hL]; rfl
  have l1 : q_lo L 1 = some v1 := by rw [hL]; rfl
  have hQ : Ext m0 rm → ∀ o S1, Rp S1 rm → q_out 9 o rz → (Cr 9 m0 rm rz) o S1 := fun a o S1 b e => ⟨b, a, e⟩
  unfold fm_X11_lookAtSchedule at h
  refine go_aload_n (n := 1) (by decide +kernel) l1 f1 ?_
  obtain ⟨g_3, h⟩ := gd_s h
  obtain ⟨x_5, e_6, h⟩ := lx_s h
  refine go_getf (x := 648) (ci := 8) (kf := 7) (fin := 0) (t := 0) (by decide +kernel) (by decide +kernel) (by decide +kernel) R f1 g_3 fun v_1 f_2 => ?_
  have f_4 := q_is_eq f_2 e_6
  refine go_if (c := .eq) (o := 25) (t := 29) (P := x_5 = 0) (by decide +kernel) (by decide +kernel) f_4 (Iff.rfl) (fun hp_7 => ?_) (fun hp_7 => ?_)
  · have h := it_t hp_7 h
    exact oj_X11_lookAtSchedule_29 hd R l0 f0 l1 f1 hQ h
  · have h := it_f hp_7 h
    refine go_aload_n (n := 0) (by decide +kernel) l0 f0 ?_
    refine go_aload_n (n := 1) (by decide +kernel) l1 f1 ?_
    obtain ⟨x_153, hc_152, h⟩ := bp_s h
    refine go_callV (x := 651) (mi := 182) (n := 1) (ci := 12) (as := [v1]) (rest := []) (by decide +kernel) (by decide +kernel) rfl rfl (q_sum8 _ (Nat.le_of_ble_eq_true rfl)) R f0 (fx_k (c := 12) R (by decide +kernel)) (om_X11_lastIsOpen (Nat.le_trans (by decide) hd) R f0 f1 hc_152) (fun _ S_157 q_160 => ?_) (fun _ _ qq => kr_x qq)
    refine kr_z (by decide) q_160 fun v_155 f_156 R_158 E_159 => ?_
    refine go_if (c := .ne) (o := 17) (t := 29) (P := ¬ (x_153 = 0)) (by decide +kernel) (by decide +kernel) f_156 (Iff.rfl) (fun hp_161 => ?_) (fun hp_161 => ?_)
    · have h := it_f hp_161 h
      exact oj_X11_lookAtSchedule_29 hd R_158 l0 f0 l1 f1 hQ h
    · have h := it_n hp_161 h
      refine go_aload_n (n := 1) (by decide +kernel) l1 f1 ?_
      refine go_iconst (n := 0) (z := 0) (by decide +kernel) (by decide) fun v_162 f_163 => ?_
      obtain ⟨m_164, e_165, h⟩ := up_s h
      refine go_putf (x := 648) (ci := 8) (kf := 7) (fin := 0) (zt := 1) (by decide +kernel) (by decide +kernel) (by decide) (by decide +kernel) (by decide) (Or.inl rfl) R_158 f1 f_163 (fun _ => by decide) g_3 e_165 (fx_f (j := 7) R_158.2 g_3 (by decide +kernel)) fun S_166 R_167 E_168 => ?_
      have E_169 := E_168
      refine go_aload_n (n := 0) (by decide +kernel) l0 f0 ?_
      refine go_aload_n (n := 1) (by decide +kernel) l1 f1 ?_
      refine go_aload_n (n := 1) (by decide +kernel) l1 f1 ?_
      have g_172 := Ext.ok E_168 g_3
      obtain ⟨x_174, e_175, h⟩ := lx_s h
      refine go_getf (x := 655) (ci := 8) (kf := 8) (fin := 0) (t := 0) (by decide +kernel) (by decide +kernel) (by decide +kernel) R_167 f1 g_172 fun v_170 f_171 => ?_
      have f_173 := q_is_eq f_171 e_175
      obtain ⟨x_177, m_178, hc_176, h⟩ := bd_s h
      refine go_callV (x := 658) (mi := 183) (n := 2) (ci := 12) (as := [v1, v_170]) (rest := []) (by decide +kernel) (by decide +kernel) rfl rfl (q_sum8 _ (Nat.le_of_ble_eq_true rfl)) R_167 f0 (fx_k (c := 12) R_167 (by decide +kernel)) (om_X11_startFor (Nat.le_trans (by decide) hd) R_167 f0 f1 f_173 hc_176) (fun _ S_181 q_184 => ?_) (fun _ _ qq => kr_x qq)
      refine kr_v q_184 fun R_182 E_183 => ?_
      have E_185 := Ext.tr E_169 E_183
      exact oj_X11_lookAtSchedule_29 hd R_182 l0 f0 l1 f1 (fun b => hQ (Ext.tr E_185 b)) h
noncomputable def fl_X11_pass_35 (y1 y2 : Int) (k67 : MM → Option ((Int ⊕ Nat) × MM)) : Nat → Int → MM → Option ((Int ⊕ Nat) × MM)
  | 0, _, _ => none
  | n + 1, y3, m => bp (fm_Jx4a65c_size_8abf5 7 m) fun x_42 =>
if y3 < x_42 then
bp (fm_Jx4a65c_get_915e3 7 y3 m) fun x_55 =>
gd (okc m x_55 7) <| bd (fm_X11_fireTimers x_55 m) fun x_65 m_66 =>
lx (w32 (y3 + 1)) fun x_79 =>
fl_X11_pass_35 y1 y2 k67 n x_79 m_66
else
k67 m
set_option maxHeartbeats 4000000 in
theorem ol_X11_pass_35 {xs : List Int32} {d : Nat} {Q : QO → QS → Prop} {mb : MM} {y1 y2 : Int} {k67 : MM → Option ((Int ⊕ Nat) × MM)} {rr : Int ⊕ Nat} {rm : MM}
  (hd : 13 ≤ d)
  (hk67 : ∀ mq : MM, Ext mb mq → ∀ {Sq : QS} {Lq : QL} {u0 : Value} {u1 : Value} {u2 : Value}, k67 mq = some (rr, rm) → Rp Sq mq → q_lo Lq 0 = some u0 → q_is 2 u0 4 → q_lo Lq 1 = some u1 → q_is 0 u1 y1 → q_lo Lq 2 = some u2 → q_is 0 u2 y2 → Go xs d qM_X11_pass 67 Lq [] Sq Q)
  (hQ : Ext mb rm → ∀ o S1, Rp S1 rm → q_oux 0 o rr → Q o S1) :
  ∀ (n : Nat) {m : MM} {S : QS} {L : QL} {y3 : Int} {v0 : Value} {v1 : Value} {v2 : Value} {v3 : Value} , Ext mb m → fl_X11_pass_35 y1 y2 k67 n y3 m = some (rr, rm) → Rp S m → q_lo L 0 = some v0 → q_is 2 v0 4 → q_lo L 1 = some v1 → q_is 0 v1 y1 → q_lo L 2 = some v2 → q_is 0 v2 y2 → q_lo L 3 = some v3 → q_is 0 v3 y3 → Go xs d qM_X11_pass 35 L [] S Q := by
  intro n
  induction n with
  | zero => intro m S L y3 v0 v1 v2 v3; intro E h R l0 f0 l1 f1 l2 f2 l3 f3; cases h
  | succ n ih0 =>
    intro m S L y3 v0 v1 v2 v3; intro E h R l0 f0 l1 f1 l2 f2 l3 f3
    have ih : ∀ mq : MM, Ext mb mq → ∀ {z3 : Int} {Sq : QS} {Lq : QL} {u0 : Value} {u1 : Value} {u2 : Value} {u3 : Value}, fl_X11_pass_35 y1 y2 k67 n z3 mq = some (rr, rm) → Rp Sq mq → q_lo Lq 0 = some u0 → q_is 2 u0 4 → q_lo Lq 1 = some u1 → q_is 0 u1 y1 → q_lo Lq 2 = some u2 → q_is 0 u2 y2 → q_lo Lq 3 = some u3 → q_is 0 u3 z3 → Go xs d qM_X11_pass 35 Lq [] Sq Q := fun mq b => by intros; exact ih0 b ‹_› ‹_› ‹_› ‹_› ‹_› ‹_› ‹_› ‹_› ‹_› ‹_›
    unfold fl_X11_pass_35 at h
    refine go_iload_n (n := 3) (by decide +kernel) l3 f3 ?_
    refine go_aload_n (n := 0) (by decide +kernel) l0 f0 ?_
    refine go_getf (x := 24) (ci := 12) (kf := 2) (fin := 1) (t := 2) (by decide +kernel) (by decide +kernel) (by decide +kernel) R f0 (fx_k (c := 12) R (by decide +kernel)) fun v_38 f_39 => ?_
    have f_40 := q_is_eq (b := 7) f_39 (fx_v R (by decide +kernel)).symm
    obtain ⟨x_42, hc_41, h⟩ := bp_s h
    refine go_callV (x := 127) (mi := 326) (n := 0) (ci := 0) (as := []) (rest := [v3]) (by decide +kernel) (by decide +kernel) rfl rfl (q_sum8 _ (Nat.le_of_ble_eq_true rfl)) R f_40 (fx_k (c := 0) R (by decide +kernel)) (om_Jx4a65c_size_8abf5 (Nat.le_trans (by decide) hd) R (fx_k (c := 0) R (by decide +kernel)) f_40 hc_41) (fun _ S_46 q_49 => ?_) (fun _ _ qq => kr_x qq)
    refine kr_z (by decide) q_49 fun v_44 f_45 R_47 E_48 => ?_
    refine go_icmp (c := .ge) (o := 24) (t := 67) (P := ¬ (y3 < x_42)) (by decide +kernel) (by decide +kernel) f3 f_45 (Int.not_lt.symm) (fun hp_50 => ?_) (fun hp_50 => ?_)
    · have h := it_f hp_50 h
      exact hk67 m E h R_47 l0 f0 l1 f1 l2 f2
    · have h := it_n hp_50 h
      refine go_aload_n (n := 0) (by decide +kernel) l0 f0 ?_
      refine go_aload_n (n := 0) (by decide +kernel) l0 f0 ?_
      refine go_getf (x := 24) (ci := 12) (kf := 2) (fin := 1) (t := 2) (by decide +kernel) (by decide +kernel) (by decide +kernel) R_47 f0 (fx_k (c := 12) R_47 (by decide +kernel)) fun v_51 f_52 => ?_
      have f_53 := q_is_eq (b := 7) f_52 (fx_v R_47 (by decide +kernel)).symm
      refine go_iload_n (n := 3) (by decide +kernel) l3 f3 ?_
      obtain ⟨x_55, hc_54, h⟩ := bp_s h
      refine go_callV (x := 305) (mi := 329) (n := 1) (ci := 0) (as := [v3]) (rest := [v0]) (by decide +kernel) (by decide +kernel) rfl rfl (q_sum8 _ (Nat.le_of_ble_eq_true rfl)) R_47 f_53 (fx_k (c := 0) R_47 (by decide +kernel)) (om_Jx4a65c_get_915e3 (Nat.le_trans (by decide) hd) R_47 (fx_k (c := 0) R_47 (by decide +kernel)) f_53 f3 hc_54) (fun _ S_59 q_62 => ?_) (fun _ _ qq => kr_x qq)
      refine kr_z (by decide) q_62 fun v_57 f_58 R_60 E_61 => ?_
      obtain ⟨g_63, h⟩ := gd_s h
      refine go_cast (x := 181) (kd := 7) (a := 0) (b := 0) (by decide +kernel) (by decide +kernel) R_60 f_58 g_63 ?_
      obtain ⟨x_65, m_66, hc_64, h⟩ := bd_s h
      refine go_callV (x := 386) (mi := 176) (n := 1) (ci := 12) (as := [v_57]) (rest := []) (by decide +kernel) (by decide +kernel) rfl rfl (q_sum8 _ (Nat.le_of_ble_eq_true rfl)) R_60 f0 (fx_k (c := 12) R_60 (by decide +kernel)) (om_X11_fireTimers (Nat.le_trans (by decide) hd) R_60 f0 f_58 hc_64) (fun _ S_69 q_72 => ?_) (fun _ _ qq => kr_x qq)
      refine kr_v q_72 fun R_70 E_71 => ?_
      have E_73 := Ext.tr E E_71
      refine go_iinc (n := 3) (c := 1) (c' := 1) (by decide +kernel) (by decide +kernel) l3 f3 (by decide) fun L_74 v_75 f_76 l_77 kp_78 => ?_
      obtain ⟨x_79, e_80, h⟩ := lx_s h
      have f_81 := q_is_eq f_76 e_80
      have l_82 := kp_78 0 _ l0 (by decide) (Or.inl (by decide))
      have l_83 := kp_78 1 _ l1 (by decide) (Or.inl (by decide))
      have l_84 := kp_78 2 _ l2 (by decide) (Or.inr (q_is_cat f2 (Or.inl rfl)))
      refine go_goto (o := (-29)) (t := 35) (by decide +kernel) (by decide +kernel) ?_
      exact ih m_66 E_73 h R_70 l_82 f0 l_83 f1 l_84 f2 l_77 f_81
noncomputable def fl_X11_pass_69 (y1 y2 : Int) (k101 : MM → Option ((Int ⊕ Nat) × MM)) : Nat → Int → MM → Option ((Int ⊕ Nat) × MM)
  | 0, _, _ => none
  | n + 1, y3, m => bp (fm_Jx4a65c_size_8abf5 8 m) fun x_112 =>
if y3 < x_112 then
bp (fm_Jx4a65c_get_915e3 8 y3 m) fun x_125 =>
gd (okc m x_125 1) <| bd (fm_X11_lookAtActivity x_125 m) fun x_135 m_136 =>
lx (w32 (y3 + 1)) fun x_149 =>
fl_X11_pass_69 y1 y2 k101 n x_149 m_136
else
k101 m
set_option maxHeartbeats 4000000 in
theorem ol_X11_pass_69 {xs : List Int32} {d : Nat} {Q : QO → QS → Prop} {mb : MM} {y1 y2 : Int} {k101 : MM → Option ((Int ⊕ Nat) × MM)} {rr : Int ⊕ Nat} {rm : MM}
  (hd : 13 ≤ d)
  (hk101 : ∀ mq : MM, Ext mb mq → ∀ {Sq : QS} {Lq : QL} {u0 : Value} {u1 : Value} {u2 : Value}, k101 mq = some (rr, rm) → Rp Sq mq → q_lo Lq 0 = some u0 → q_is 2 u0 4 → q_lo Lq 1 = some u1 → q_is 0 u1 y1 → q_lo Lq 2 = some u2 → q_is 0 u2 y2 → Go xs d qM_X11_pass 101 Lq [] Sq Q)
  (hQ : Ext mb rm → ∀ o S1, Rp S1 rm → q_oux 0 o rr → Q o S1) :
  ∀ (n : Nat) {m : MM} {S : QS} {L : QL} {y3 : Int} {v0 : Value} {v1 : Value} {v2 : Value} {v3 : Value} , Ext mb m → fl_X11_pass_69 y1 y2 k101 n y3 m = some (rr, rm) → Rp S m → q_lo L 0 = some v0 → q_is 2 v0 4 → q_lo L 1 = some v1 → q_is 0 v1 y1 → q_lo L 2 = some v2 → q_is 0 v2 y2 → q_lo L 3 = some v3 → q_is 0 v3 y3 → Go xs d qM_X11_pass 69 L [] S Q := by
  intro n
  induction n with
  | zero => intro m S L y3 v0 v1 v2 v3; intro E h R l0 f0 l1 f1 l2 f2 l3 f3; cases h
  | succ n ih0 =>
    intro m S L y3 v0 v1 v2 v3; intro E h R l0 f0 l1 f1 l2 f2 l3 f3
    have ih : ∀ mq : MM, Ext mb mq → ∀ {z3 : Int} {Sq : QS} {Lq : QL} {u0 : Value} {u1 : Value} {u2 : Value} {u3 : Value}, fl_X11_pass_69 y1 y2 k101 n z3 mq = some (rr, rm) → Rp Sq mq → q_lo Lq 0 = some u0 → q_is 2 u0 4 → q_lo Lq 1 = some u1 → q_is 0 u1 y1 → q_lo Lq 2 = some u2 → q_is 0 u2 y2 → q_lo Lq 3 = some u3 → q_is 0 u3 z3 → Go xs d qM_X11_pass 69 Lq [] Sq Q := fun mq b => by intros; exact ih0 b ‹_› ‹_› ‹_› ‹_› ‹_› ‹_› ‹_› ‹_› ‹_› ‹_›
    unfold fl_X11_pass_69 at h
    refine go_iload_n (n := 3) (by decide +kernel) l3 f3 ?_
    refine go_aload_n (n := 0) (by decide +kernel) l0 f0 ?_
    refine go_getf (x := 28) (ci := 12) (kf := 3) (fin := 1) (t := 2) (by decide +kernel) (by decide +kernel) (by decide +kernel) R f0 (fx_k (c := 12) R (by decide +kernel)) fun v_108 f_109 => ?_
    have f_110 := q_is_eq (b := 8) f_109 (fx_v R (by decide +kernel)).symm
    obtain ⟨x_112, hc_111, h⟩ := bp_s h
    refine go_callV (x := 127) (mi := 326) (n := 0) (ci := 0) (as := []) (rest := [v3]) (by decide +kernel) (by decide +kernel) rfl rfl (q_sum8 _ (Nat.le_of_ble_eq_true rfl)) R f_110 (fx_k (c := 0) R (by decide +kernel)) (om_Jx4a65c_size_8abf5 (Nat.le_trans (by decide) hd) R (fx_k (c := 0) R (by decide +kernel)) f_110 hc_111) (fun _ S_116 q_119 => ?_) (fun _ _ qq => kr_x qq)
    refine kr_z (by decide) q_119 fun v_114 f_115 R_117 E_118 => ?_
    refine go_icmp (c := .ge) (o := 24) (t := 101) (P := ¬ (y3 < x_112)) (by decide +kernel) (by decide +kernel) f3 f_115 (Int.not_lt.symm) (fun hp_120 => ?_) (fun hp_120 => ?_)
    · have h := it_f hp_120 h
      exact hk101 m E h R_117 l0 f0 l1 f1 l2 f2
    · have h := it_n hp_120 h
      refine go_aload_n (n := 0) (by decide +kernel) l0 f0 ?_
      refine go_aload_n (n := 0) (by decide +kernel) l0 f0 ?_
      refine go_getf (x := 28) (ci := 12) (kf := 3) (fin := 1) (t := 2) (by decide +kernel) (by decide +kernel) (by decide +kernel) R_117 f0 (fx_k (c := 12) R_117 (by decide +kernel)) fun v_121 f_122 => ?_
      have f_123 := q_is_eq (b := 8) f_122 (fx_v R_117 (by decide +kernel)).symm
      refine go_iload_n (n := 3) (by decide +kernel) l3 f3 ?_
      obtain ⟨x_125, hc_124, h⟩ := bp_s h
      refine go_callV (x := 305) (mi := 329) (n := 1) (ci := 0) (as := [v3]) (rest := [v0]) (by decide +kernel) (by decide +kernel) rfl rfl (q_sum8 _ (Nat.le_of_ble_eq_true rfl)) R_117 f_123 (fx_k (c := 0) R_117 (by decide +kernel)) (om_Jx4a65c_get_915e3 (Nat.le_trans (by decide) hd) R_117 (fx_k (c := 0) R_117 (by decide +kernel)) f_123 f3 hc_124) (fun _ S_129 q_132 => ?_) (fun _ _ qq => kr_x qq)
      refine kr_z (by decide) q_132 fun v_127 f_128 R_130 E_131 => ?_
      obtain ⟨g_133, h⟩ := gd_s h
      refine go_cast (x := 347) (kd := 1) (a := 0) (b := 0) (by decide +kernel) (by decide +kernel) R_130 f_128 g_133 ?_
      obtain ⟨x_135, m_136, hc_134, h⟩ := bd_s h
      refine go_callV (x := 390) (mi := 177) (n := 1) (ci := 12) (as := [v_127]) (rest := []) (by decide +kernel) (by decide +kernel) rfl rfl (q_sum8 _ (Nat.le_of_ble_eq_true rfl)) R_130 f0 (fx_k (c := 12) R_130 (by decide +kernel)) (om_X11_lookAtActivity (Nat.le_trans (by decide) hd) R_130 f0 f_128 hc_134) (fun _ S_139 q_142 => ?_) (fun _ _ qq => kr_x qq)
      refine kr_v q_142 fun R_140 E_141 => ?_
      have E_143 := Ext.tr E E_141
      refine go_iinc (n := 3) (c := 1) (c' := 1) (by decide +kernel) (by decide +kernel) l3 f3 (by decide) fun L_144 v_145 f_146 l_147 kp_148 => ?_
      obtain ⟨x_149, e_150, h⟩ := lx_s h
      have f_151 := q_is_eq f_146 e_150
      have l_152 := kp_148 0 _ l0 (by decide) (Or.inl (by decide))
      have l_153 := kp_148 1 _ l1 (by decide) (Or.inl (by decide))
      have l_154 := kp_148 2 _ l2 (by decide) (Or.inr (q_is_cat f2 (Or.inl rfl)))
      refine go_goto (o := (-29)) (t := 69) (by decide +kernel) (by decide +kernel) ?_
      exact ih m_136 E_143 h R_140 l_152 f0 l_153 f1 l_154 f2 l_147 f_151
noncomputable def fl_X11_pass_103 (y1 y2 : Int) (k135 : MM → Option ((Int ⊕ Nat) × MM)) : Nat → Int → MM → Option ((Int ⊕ Nat) × MM)
  | 0, _, _ => none
  | n + 1, y3, m => bp (fm_Jx4a65c_size_8abf5 10 m) fun x_182 =>
if y3 < x_182 then
bp (fm_Jx4a65c_get_915e3 10 y3 m) fun x_195 =>
gd (okc m x_195 8) <| bd (fm_X11_lookAtSchedule x_195 m) fun x_205 m_206 =>
lx (w32 (y3 + 1)) fun x_219 =>
fl_X11_pass_103 y1 y2 k135 n x_219 m_206
else
k135 m
set_option maxHeartbeats 4000000 in
theorem ol_X11_pass_103 {xs : List Int32} {d : Nat} {Q : QO → QS → Prop} {mb : MM} {y1 y2 : Int} {k135 : MM → Option ((Int ⊕ Nat) × MM)} {rr : Int ⊕ Nat} {rm : MM}
  (hd : 13 ≤ d)
  (hk135 : ∀ mq : MM, Ext mb mq → ∀ {Sq : QS} {Lq : QL} {u0 : Value} {u1 : Value} {u2 : Value}, k135 mq = some (rr, rm) → Rp Sq mq → q_lo Lq 0 = some u0 → q_is 2 u0 4 → q_lo Lq 1 = some u1 → q_is 0 u1 y1 → q_lo Lq 2 = some u2 → q_is 0 u2 y2 → Go xs d qM_X11_pass 135 Lq [] Sq Q)
  (hQ : Ext mb rm → ∀ o S1, Rp S1 rm → q_oux 0 o rr → Q o S1) :
  ∀ (n : Nat) {m : MM} {S : QS} {L : QL} {y3 : Int} {v0 : Value} {v1 : Value} {v2 : Value} {v3 : Value} , Ext mb m → fl_X11_pass_103 y1 y2 k135 n y3 m = some (rr, rm) → Rp S m → q_lo L 0 = some v0 → q_is 2 v0 4 → q_lo L 1 = some v1 → q_is 0 v1 y1 → q_lo L 2 = some v2 → q_is 0 v2 y2 → q_lo L 3 = some v3 → q_is 0 v3 y3 → Go xs d qM_X11_pass 103 L [] S Q := by
  intro n
  induction n with
  | zero => intro m S L y3 v0 v1 v2 v3; intro E h R l0 f0 l1 f1 l2 f2 l3 f3; cases h
  | succ n ih0 =>
    intro m S L y3 v0 v1 v2 v3; intro E h R l0 f0 l1 f1 l2 f2 l3 f3
    have ih : ∀ mq : MM, Ext mb mq → ∀ {z3 : Int} {Sq : QS} {Lq : QL} {u0 : Value} {u1 : Value} {u2 : Value} {u3 : Value}, fl_X11_pass_103 y1 y2 k135 n z3 mq = some (rr, rm) → Rp Sq mq → q_lo Lq 0 = some u0 → q_is 2 u0 4 → q_lo Lq 1 = some u1 → q_is 0 u1 y1 → q_lo Lq 2 = some u2 → q_is 0 u2 y2 → q_lo Lq 3 = some u3 → q_is 0 u3 z3 → Go xs d qM_X11_pass 103 Lq [] Sq Q := fun mq b => by intros; exact ih0 b ‹_› ‹_› ‹_› ‹_› ‹_› ‹_› ‹_› ‹_› ‹_› ‹_›
    unfold fl_X11_pass_103 at h
    refine go_iload_n (n := 3) (by decide +kernel) l3 f3 ?_
    refine go_aload_n (n := 0) (by decide +kernel) l0 f0 ?_
    refine go_getf (x := 34) (ci := 12) (kf := 5) (fin := 1) (t := 2) (by decide +kernel) (by decide +kernel) (by decide +kernel) R f0 (fx_k (c := 12) R (by decide +kernel)) fun v_178 f_179 => ?_
    have f_180 := q_is_eq (b := 10) f_179 (fx_v R (by decide +kernel)).symm
    obtain ⟨x_182, hc_181, h⟩ := bp_s h
    refine go_callV (x := 127) (mi := 326) (n := 0) (ci := 0) (as := []) (rest := [v3]) (by decide +kernel) (by decide +kernel) rfl rfl (q_sum8 _ (Nat.le_of_ble_eq_true rfl)) R f_180 (fx_k (c := 0) R (by decide +kernel)) (om_Jx4a65c_size_8abf5 (Nat.le_trans (by decide) hd) R (fx_k (c := 0) R (by decide +kernel)) f_180 hc_181) (fun _ S_186 q_189 => ?_) (fun _ _ qq => kr_x qq)
    refine kr_z (by decide) q_189 fun v_184 f_185 R_187 E_188 => ?_
    refine go_icmp (c := .ge) (o := 24) (t := 135) (P := ¬ (y3 < x_182)) (by decide +kernel) (by decide +kernel) f3 f_185 (Int.not_lt.symm) (fun hp_190 => ?_) (fun hp_190 => ?_)
    · have h := it_f hp_190 h
      exact hk135 m E h R_187 l0 f0 l1 f1 l2 f2
    · have h := it_n hp_190 h
      refine go_aload_n (n := 0) (by decide +kernel) l0 f0 ?_
      refine go_aload_n (n := 0) (by decide +kernel) l0 f0 ?_
      refine go_getf (x := 34) (ci := 12) (kf := 5) (fin := 1) (t := 2) (by decide +kernel) (by decide +kernel) (by decide +kernel) R_187 f0 (fx_k (c := 12) R_187 (by decide +kernel)) fun v_191 f_192 => ?_
      have f_193 := q_is_eq (b := 10) f_192 (fx_v R_187 (by decide +kernel)).symm
      refine go_iload_n (n := 3) (by decide +kernel) l3 f3 ?_
      obtain ⟨x_195, hc_194, h⟩ := bp_s h
      refine go_callV (x := 305) (mi := 329) (n := 1) (ci := 0) (as := [v3]) (rest := [v0]) (by decide +kernel) (by decide +kernel) rfl rfl (q_sum8 _ (Nat.le_of_ble_eq_true rfl)) R_187 f_193 (fx_k (c := 0) R_187 (by decide +kernel)) (om_Jx4a65c_get_915e3 (Nat.le_trans (by decide) hd) R_187 (fx_k (c := 0) R_187 (by decide +kernel)) f_193 f3 hc_194) (fun _ S_199 q_202 => ?_) (fun _ _ qq => kr_x qq)
      refine kr_z (by decide) q_202 fun v_197 f_198 R_200 E_201 => ?_
      obtain ⟨g_203, h⟩ := gd_s h
      refine go_cast (x := 394) (kd := 8) (a := 0) (b := 0) (by decide +kernel) (by decide +kernel) R_200 f_198 g_203 ?_
      obtain ⟨x_205, m_206, hc_204, h⟩ := bd_s h
      refine go_callV (x := 396) (mi := 180) (n := 1) (ci := 12) (as := [v_197]) (rest := []) (by decide +kernel) (by decide +kernel) rfl rfl (q_sum8 _ (Nat.le_of_ble_eq_true rfl)) R_200 f0 (fx_k (c := 12) R_200 (by decide +kernel)) (om_X11_lookAtSchedule (Nat.le_trans (by decide) hd) R_200 f0 f_198 hc_204) (fun _ S_209 q_212 => ?_) (fun _ _ qq => kr_x qq)
      refine kr_v q_212 fun R_210 E_211 => ?_
      have E_213 := Ext.tr E E_211
      refine go_iinc (n := 3) (c := 1) (c' := 1) (by decide +kernel) (by decide +kernel) l3 f3 (by decide) fun L_214 v_215 f_216 l_217 kp_218 => ?_
      obtain ⟨x_219, e_220, h⟩ := lx_s h
      have f_221 := q_is_eq f_216 e_220
      have l_222 := kp_218 0 _ l0 (by decide) (Or.inl (by decide))
      have l_223 := kp_218 1 _ l1 (by decide) (Or.inl (by decide))
      have l_224 := kp_218 2 _ l2 (by decide) (Or.inr (q_is_cat f2 (Or.inl rfl)))
      refine go_goto (o := (-29)) (t := 103) (by decide +kernel) (by decide +kernel) ?_
      exact ih m_206 E_213 h R_210 l_222 f0 l_223 f1 l_224 f2 l_217 f_221
noncomputable def fl_X11_pass_24 (y1 : Int) : Nat → Int → MM → Option ((Int ⊕ Nat) × MM)
  | 0, _, _ => none
  | n + 1, y2, m => if y2 < y1 then
bd (fm_X11_beginTick m) fun x_21 m_22 =>
fl_X11_pass_35 y1 y2 (fun m_97 =>
fl_X11_pass_69 y1 y2 (fun m_167 =>
fl_X11_pass_103 y1 y2 (fun m_237 =>
lx (w32 (y2 + 1)) fun x_245 =>
fl_X11_pass_24 y1 n x_245 m_237) BIG 0 m_167) BIG 0 m_97) BIG 0 m_22
else
lx (m 4 14) fun x_18 =>
some (.inl x_18, m)
set_option maxHeartbeats 4000000 in
theorem ol_X11_pass_24 {xs : List Int32} {d : Nat} {Q : QO → QS → Prop} {mb : MM} {y1 : Int} {rr : Int ⊕ Nat} {rm : MM}
  (hd : 13 ≤ d)
  (hQ : Ext mb rm → ∀ o S1, Rp S1 rm → q_oux 0 o rr → Q o S1) :
  ∀ (n : Nat) {m : MM} {S : QS} {L : QL} {y2 : Int} {v0 : Value} {v1 : Value} {v2 : Value} , Ext mb m → fl_X11_pass_24 y1 n y2 m = some (rr, rm) → Rp S m → q_lo L 0 = some v0 → q_is 2 v0 4 → q_lo L 1 = some v1 → q_is 0 v1 y1 → q_lo L 2 = some v2 → q_is 0 v2 y2 → Go xs d qM_X11_pass 24 L [] S Q := by
  intro n
  induction n with
  | zero => intro m S L y2 v0 v1 v2; intro E h R l0 f0 l1 f1 l2 f2; cases h
  | succ n ih0 =>
    intro m S L y2 v0 v1 v2; intro E h R l0 f0 l1 f1 l2 f2
    have ih : ∀ mq : MM, Ext mb mq → ∀ {z2 : Int} {Sq : QS} {Lq : QL} {u0 : Value} {u1 : Value} {u2 : Value}, fl_X11_pass_24 y1 n z2 mq = some (rr, rm) → Rp Sq mq → q_lo Lq 0 = some u0 → q_is 2 u0 4 → q_lo Lq 1 = some u1 → q_is 0 u1 y1 → q_lo Lq 2 = some u2 → q_is 0 u2 z2 → Go xs d qM_X11_pass 24 Lq [] Sq Q := fun mq b => by intros; exact ih0 b ‹_› ‹_› ‹_› ‹_› ‹_› ‹_› ‹_› ‹_›
    unfold fl_X11_pass_24 at h
    refine go_iload_n (n := 2) (by decide +kernel) l2 f2 ?_
    refine go_iload_n (n := 1) (by decide +kernel) l1 f1 ?_
    refine go_icmp (c := .ge) (o := 115) (t := 141) (P := ¬ (y2 < y1)) (by decide +kernel) (by decide +kernel) f2 f1 (Int.not_lt.symm) (fun hp_14 => ?_) (fun hp_14 => ?_)
    · have h := it_f hp_14 h
      refine go_aload_n (n := 0) (by decide +kernel) l0 f0 ?_
      obtain ⟨x_18, e_19, h⟩ := lx_s h
      refine go_getf (x := 71) (ci := 12) (kf := 14) (fin := 0) (t := 0) (by decide +kernel) (by decide +kernel) (by decide +kernel) R f0 (fx_k (c := 12) R (by decide +kernel)) fun v_15 f_16 => ?_
      have f_17 := q_is_eq f_16 e_19
      cases h
      exact go_iret (by decide +kernel) rfl (Or.inl rfl) f_17 (hQ E _ _ R (q_out_v (by decide) f_17))
    · have h := it_n hp_14 h
      refine go_aload_n (n := 0) (by decide +kernel) l0 f0 ?_
      obtain ⟨x_21, m_22, hc_20, h⟩ := bd_s h
      refine go_callV (x := 383) (mi := 175) (n := 0) (ci := 12) (as := []) (rest := []) (by decide +kernel) (by decide +kernel) rfl rfl (q_sum8 _ (Nat.le_of_ble_eq_true rfl)) R f0 (fx_k (c := 12) R (by decide +kernel)) (om_X11_beginTick (Nat.le_trans (by decide) hd) R f0 hc_20) (fun _ S_25 q_28 => ?_) (fun _ _ qq => kr_x qq)
      refine kr_v q_28 fun R_26 E_27 => ?_
      have E_29 := Ext.tr E E_27
      refine go_iconst (n := 0) (z := 0) (by decide +kernel) (by decide) fun v_30 f_31 => ?_
      refine go_istore_n (n := 3) (by decide +kernel) (by decide +kernel) f_31 fun L_32 l_33 kp_34 => ?_
      have l_35 := kp_34 0 _ l0 (by decide) (Or.inl (by decide))
      have l_36 := kp_34 1 _ l1 (by decide) (Or.inl (by decide))
      have l_37 := kp_34 2 _ l2 (by decide) (Or.inr (q_is_cat f2 (Or.inl rfl)))
      refine ol_X11_pass_35 hd  ?_ (fun b => hQ (Ext.tr E_29 b)) BIG (Ext.rf _) h R_26 l_35 f0 l_36 f1 l_37 f2 l_33 f_31
      intro m_97 E_98
      intro S_94 L_95 v_85 v_86 v_87
      intro h R_96 l_88 f_91 l_89 f_92 l_90 f_93
      have E_99 := Ext.tr E_29 E_98
      refine go_iconst (n := 0) (z := 0) (by decide +kernel) (by decide) fun v_100 f_101 => ?_
      refine go_istore_n (n := 3) (by decide +kernel) (by decide +kernel) f_101 fun L_102 l_103 kp_104 => ?_
      have l_105 := kp_104 0 _ l_88 (by decide) (Or.inl (by decide))
      have l_106 := kp_104 1 _ l_89 (by decide) (Or.inl (by decide))
      have l_107 := kp_104 2 _ l_90 (by decide) (Or.inr (q_is_cat f_93 (Or.inl rfl)))
      refine ol_X11_pass_69 hd  ?_ (fun b => hQ (Ext.tr E_99 b)) BIG (Ext.rf _) h R_96 l_105 f_91 l_106 f_92 l_107 f_93 l_103 f_101
      intro m_167 E_168
      intro S_164 L_165 v_155 v_156 v_157
      intro h R_166 l_158 f_161 l_159 f_162 l_160 f_163
      have E_169 := Ext.tr E_99 E_168
      refine go_iconst (n := 0) (z := 0) (by decide +kernel) (by decide) fun v_170 f_171 => ?_
      refine go_istore_n (n := 3) (by decide +kernel) (by decide +kernel) f_171 fun L_172 l_173 kp_174 => ?_
      have l_175 := kp_174 0 _ l_158 (by decide) (Or.inl (by decide))
      have l_176 := kp_174 1 _ l_159 (by decide) (Or.inl (by decide))
      have l_177 := kp_174 2 _ l_160 (by decide) (Or.inr (q_is_cat f_163 (Or.inl rfl)))
      refine ol_X11_pass_103 hd  ?_ (fun b => hQ (Ext.tr E_169 b)) BIG (Ext.rf _) h R_166 l_175 f_161 l_176 f_162 l_177 f_163 l_173 f_171
      intro m_237 E_238
      intro S_234 L_235 v_225 v_226 v_227
      intro h R_236 l_228 f_231 l_229 f_232 l_230 f_233
      have E_239 := Ext.tr E_169 E_238
      refine go_iinc (n := 2) (c := 1) (c' := 1) (by decide +kernel) (by decide +kernel) l_230 f_233 (by decide) fun L_240 v_241 f_242 l_243 kp_244 => ?_
      obtain ⟨x_245, e_246, h⟩ := lx_s h
      have f_247 := q_is_eq f_242 e_246
      have l_248 := kp_244 0 _ l_228 (by decide) (Or.inl (by decide))
      have l_249 := kp_244 1 _ l_229 (by decide) (Or.inr (q_is_cat f_232 (Or.inl rfl)))
      refine go_goto (o := (-114)) (t := 24) (by decide +kernel) (by decide +kernel) ?_
      exact ih m_237 E_239 h R_236 l_248 f_231 l_249 f_232 l_243 f_247
noncomputable def fm_X11_pass (p1 : Int) (m0 : MM) : Option ((Int ⊕ Nat) × MM) := if p1 < 1 then
some (.inr 1, mthr m0)
else
if 100 < p1 then
some (.inr 1, mthr m0)
else
fl_X11_pass_24 p1  BIG 0 m0
set_option maxHeartbeats 4000000 in
theorem om_X11_pass {xs : List Int32} {d : Nat} {S : QS} {m0 : MM} {p1 : Int} {v0 : Value} {v1 : Value} {rr : Int ⊕ Nat} {rm : MM}
  (hd : 14 ≤ d) (R : Rp S m0) (f0 : q_is 2 v0 4) (f1 : q_is 0 v1 p1)
  (h : fm_X11_pass p1 m0 = some (rr, rm)) : Mt xs d 124 [v0, v1] S (Cx 0 m0 rm rr) := by
  obtain ⟨d, rfl⟩ : ∃ e, d = e + 1 := ⟨d - 1, by omega⟩
  have hd : 13 ≤ d := Nat.le_of_succ_le_succ hd
  refine Mt.of (M := qM_X11_pass) rfl (by rw [sl_1 (q_is_cat f0 (Or.inr rfl)), sl_1 (q_is_cat f1 (Or.inl rfl)), sl_0]; decide) ?_
  rw [la_1 (q_is_cat f0 (Or.inr rfl)), la_1 (q_is_cat f1 (Or.inl rfl)), la_0]
  obtain ⟨L, hL⟩ : ∃ L : QL, L = [(0, v0), (0 + 1, v1)] := ⟨_, rfl⟩
  rw [← hL]
  have l0 : q_lo L 0 = some v0 := by rw [hL]; rfl
  have l1 : q_lo L 1 = some v1 := by rw [hL]; rfl
  have hQ : Ext m0 rm → ∀ o S1, Rp S1 rm → q_oux 0 o rr → (Cx 0 m0 rm rr) o S1 := fun a o S1 b e => ⟨b, a, e⟩
  unfold fm_X11_pass at h
  refine go_iload_n (n := 1) (by decide +kernel) l1 f1 ?_
  refine go_iconst (n := 1) (z := 1) (by decide +kernel) (by decide) fun v_1 f_2 => ?_
  refine go_icmp (c := .lt) (o := 9) (t := 11) (P := p1 < 1) (by decide +kernel) (by decide +kernel) f1 f_2 (Iff.rfl) (fun hp_3 => ?_) (fun hp_3 => ?_)
  · have h := it_t hp_3 h
    cases h
    exact go_thr (x := 96) (e := 1) (ic := 100) (b := 0) (by decide +kernel) (by decide +kernel) (by decide +kernel) R rfl fun Sq Rq Eq => hQ Eq _ _ Rq rfl
  · have h := it_f hp_3 h
    refine go_iload_n (n := 1) (by decide +kernel) l1 f1 ?_
    refine go_bipush (n := 100) (z := 100) (by decide +kernel) (by decide) fun v_4 f_5 => ?_
    refine go_icmp (c := .le) (o := 14) (t := 22) (P := ¬ (100 < p1)) (by decide +kernel) (by decide +kernel) f1 f_5 (Int.not_lt.symm) (fun hp_6 => ?_) (fun hp_6 => ?_)
    · have h := it_f hp_6 h
      refine go_iconst (n := 0) (z := 0) (by decide +kernel) (by decide) fun v_7 f_8 => ?_
      refine go_istore_n (n := 2) (by decide +kernel) (by decide +kernel) f_8 fun L_9 l_10 kp_11 => ?_
      have l_12 := kp_11 0 _ l0 (by decide) (Or.inl (by decide))
      have l_13 := kp_11 1 _ l1 (by decide) (Or.inr (q_is_cat f1 (Or.inl rfl)))
      refine ol_X11_pass_24 hd   hQ BIG (Ext.rf _) h R l_12 f0 l_13 f1 l_10 f_8
    · have h := it_n hp_6 h
      cases h
      exact go_thr (x := 96) (e := 1) (ic := 100) (b := 0) (by decide +kernel) (by decide +kernel) (by decide +kernel) R rfl fun Sq Rq Eq => hQ Eq _ _ Rq rfl
end DF20
