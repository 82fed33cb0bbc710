/-! Methods as functions (written by wip/whole/dec.py), 23: X11_schedule, X11_scheduleAt, X11_togglePause, X11_backfill, X11_shift, X11_bringIn, X11_search. -/
section DF23
noncomputable def fm_X11_schedule (p1 p2 p3 p4 : Int) (m0 : MM) : Option ((Int ⊕ Nat) × MM) := bx (fm_X11_typeAt p1 m0) (fun q_10 m_3 => some (.inr q_10, m_3)) fun x_2 m_3 =>
bx (fm_X11_checkTenant p2 m_3) (fun q_30 m_23 => some (.inr q_30, m_23)) fun x_22 m_23 =>
if p3 < 1 then
some (.inr 1, mthr m_23)
else
if 50 < p3 then
some (.inr 1, mthr m_23)
else
if p4 < 0 then
some (.inr 1, mthr m_23)
else
if 3 < p4 then
some (.inr 1, mthr m_23)
else
gd (okc m_23 x_2 11) <| lx (m_23 x_2 0) fun x_47 =>
gd (okc m_23 x_47 0) <| bp (fm_Jx4a65c_isEmpty_aae02 x_47 m_23) fun x_51 =>
if x_51 = 0 then
bp (fm_Jx4a65c_size_8abf5 10 m_23) fun x_64 =>
if x_64 < 4 then
nw m_23 8 9 fun x_78 m_79 =>
lx (m_79 4 14) fun x_92 =>
lx (m_79 4 15) fun x_97 =>
bd (fm_X7_init x_78 p1 p2 p3 p4 (w32 (x_92 + x_97)) m_79) fun x_102 m_103 =>
bd (fm_Jx4a65c_add_9ea2d 10 x_78 m_103) fun x_112 m_113 =>
bp (fm_Jx4a65c_size_8abf5 10 m_113) fun x_125 =>
some (.inl (w32 (x_125 - 1)), m_113)
else
some (.inr 2, mthr m_23)
else
some (.inr 2, mthr m_23)
set_option maxHeartbeats 4000000 in
theorem om_X11_schedule {xs : List Int32} {d : Nat} {S : QS} {m0 : MM} {p1 p2 p3 p4 : Int} {v0 : Value} {v1 : Value} {v2 : Value} {v3 : Value} {v4 : Value} {rr : Int ⊕ Nat} {rm : MM}
  (hd : 9 ≤ d) (R : Rp S m0) (f0 : q_is 2 v0 4) (f1 : q_is 0 v1 p1) (f2 : q_is 0 v2 p2) (f3 : q_is 0 v3 p3) (f4 : q_is 0 v4 p4)
  (h : fm_X11_schedule p1 p2 p3 p4 m0 = some (rr, rm)) : Mt xs d 131 [v0, v1, v2, v3, v4] S (Cx 0 m0 rm rr) := by
  obtain ⟨d, rfl⟩ : ∃ e, d = e + 1 := ⟨d - 1, by omega⟩
  have hd : 8 ≤ d := Nat.le_of_succ_le_succ hd
  refine Mt.of (M := qM_X11_schedule) rfl (by rw [sl_1 (q_is_cat f0 (Or.inr rfl)), sl_1 (q_is_cat f1 (Or.inl rfl)), sl_1 (q_is_cat f2 (Or.inl rfl)), sl_1 (q_is_cat f3 (Or.inl rfl)), sl_1 (q_is_cat f4 (Or.inl rfl)), sl_0]; decide) ?_
  rw [la_1 (q_is_cat f0 (Or.inr rfl)), la_1 (q_is_cat f1 (Or.inl rfl)), la_1 (q_is_cat f2 (Or.inl rfl)), la_1 (q_is_cat f3 (Or.inl rfl)), la_1 (q_is_cat f4 (Or.inl rfl)), la_0]
  obtain ⟨L, hL⟩ : ∃ L : QL, L = [(0, v0), (0 + 1, v1), (0 + 1 + 1, v2), (0 + 1 + 1 + 1, v3), (0 + 1 + 1 + 1 + 1, v4)] := ⟨_, rfl⟩
  rw [← hL]
  have l0 : q_lo L 0 = some v0 := by rw [hL]; rfl
  have l1 : q_lo L 1 = some v1 := by rw [hL]; rfl
  have l2 : q_lo L 2 = some v2 := by rw [hL]; rfl
  have l3 : q_lo L 3 = some v3 := by rw [hL]; rfl
  have l4 : q_lo L 4 = some v4 := by rw [hL]; rfl
  have hQ : Ext m0 rm → ∀ o S1, Rp S1 rm → q_oux 0 o rr → (Cx 0 m0 rm rr) o S1 := fun a o S1 b e => ⟨b, a, e⟩
  unfold fm_X11_schedule at h
  refine go_aload_n (n := 0) (by decide +kernel) l0 f0 ?_
  refine go_iload_n (n := 1) (by decide +kernel) l1 f1 ?_
  obtain ⟨rr5, m_3, hc_1, h⟩ := bx_s h
  rcases h with ⟨q_10, rfl, h⟩ | ⟨x_2, rfl, h⟩
  · cases h
    exact go_callV (x := 86) (mi := 137) (n := 1) (ci := 12) (as := [v1]) (rest := []) (by decide +kernel) (by decide +kernel) rfl rfl (q_sum8 _ (Nat.le_of_ble_eq_true rfl)) R f0 (fx_k (c := 12) R (by decide +kernel)) (om_X11_typeAt (Nat.le_trans (by decide) hd) R f0 f1 hc_1) (fun _ _ qq => kx_lx qq) (fun _ _ qq => by
      obtain ⟨rfl, Rq, Eq⟩ := kx_e qq
      exact Or.inl ⟨rfl, hQ Eq _ _ Rq rfl⟩)
  refine go_callV (x := 86) (mi := 137) (n := 1) (ci := 12) (as := [v1]) (rest := []) (by decide +kernel) (by decide +kernel) rfl rfl (q_sum8 _ (Nat.le_of_ble_eq_true rfl)) R f0 (fx_k (c := 12) R (by decide +kernel)) (om_X11_typeAt (Nat.le_trans (by decide) hd) R f0 f1 hc_1) (fun _ S_6 q_9 => ?_) (fun _ _ qq => kr_x (kx_l qq))
  have q_9 := kx_l q_9
  refine kr_z (by decide) q_9 fun v_4 f_5 R_7 E_8 => ?_
  have E_12 := E_8
  refine go_astore (n := 5) (by decide +kernel) (by decide +kernel) f_5 fun L_13 l_14 kp_15 => ?_
  have l_16 := kp_15 0 _ l0 (by decide) (Or.inl (by decide))
  have l_17 := kp_15 1 _ l1 (by decide) (Or.inl (by decide))
  have l_18 := kp_15 2 _ l2 (by decide) (Or.inl (by decide))
  have l_19 := kp_15 3 _ l3 (by decide) (Or.inl (by decide))
  have l_20 := kp_15 4 _ l4 (by decide) (Or.inr (q_is_cat f4 (Or.inl rfl)))
  refine go_aload_n (n := 0) (by decide +kernel) l_16 f0 ?_
  refine go_iload_n (n := 2) (by decide +kernel) l_18 f2 ?_
  obtain ⟨rr5, m_23, hc_21, h⟩ := bx_s h
  rcases h with ⟨q_30, rfl, h⟩ | ⟨x_22, rfl, h⟩
  · cases h
    exact go_callV (x := 163) (mi := 143) (n := 1) (ci := 12) (as := [v2]) (rest := []) (by decide +kernel) (by decide +kernel) rfl rfl (q_sum8 _ (Nat.le_of_ble_eq_true rfl)) R_7 f0 (fx_k (c := 12) R_7 (by decide +kernel)) (om_X11_checkTenant (Nat.le_trans (by decide) hd) R_7 f0 f2 hc_21) (fun _ _ qq => kx_lx qq) (fun _ _ qq => by
      obtain ⟨rfl, Rq, Eq⟩ := kx_e qq
      exact Or.inl ⟨rfl, hQ (Ext.tr E_12 Eq) _ _ Rq rfl⟩)
  refine go_callV (x := 163) (mi := 143) (n := 1) (ci := 12) (as := [v2]) (rest := []) (by decide +kernel) (by decide +kernel) rfl rfl (q_sum8 _ (Nat.le_of_ble_eq_true rfl)) R_7 f0 (fx_k (c := 12) R_7 (by decide +kernel)) (om_X11_checkTenant (Nat.le_trans (by decide) hd) R_7 f0 f2 hc_21) (fun _ S_26 q_29 => ?_) (fun _ _ qq => kr_x (kx_l qq))
  have q_29 := kx_l q_29
  refine kr_v q_29 fun R_27 E_28 => ?_
  have E_32 := Ext.tr E_12 E_28
  refine go_iload_n (n := 3) (by decide +kernel) l_19 f3 ?_
  refine go_iconst (n := 1) (z := 1) (by decide +kernel) (by decide) fun v_33 f_34 => ?_
  refine go_icmp (c := .lt) (o := 20) (t := 34) (P := p3 < 1) (by decide +kernel) (by decide +kernel) f3 f_34 (Iff.rfl) (fun hp_35 => ?_) (fun hp_35 => ?_)
  · have h := it_t hp_35 h
    cases h
    exact go_thr (x := 96) (e := 1) (ic := 100) (b := 0) (by decide +kernel) (by decide +kernel) (by decide +kernel) R_27 rfl fun Sq Rq Eq => hQ (Ext.tr E_32 Eq) _ _ Rq rfl
  · have h := it_f hp_35 h
    refine go_iload_n (n := 3) (by decide +kernel) l_19 f3 ?_
    refine go_bipush (n := 50) (z := 50) (by decide +kernel) (by decide) fun v_36 f_37 => ?_
    refine go_icmp (c := .gt) (o := 14) (t := 34) (P := 50 < p3) (by decide +kernel) (by decide +kernel) f3 f_37 (Iff.rfl) (fun hp_38 => ?_) (fun hp_38 => ?_)
    · have h := it_t hp_38 h
      cases h
      exact go_thr (x := 96) (e := 1) (ic := 100) (b := 0) (by decide +kernel) (by decide +kernel) (by decide +kernel) R_27 rfl fun Sq Rq Eq => hQ (Ext.tr E_32 Eq) _ _ Rq rfl
    · have h := it_f hp_38 h
      refine go_iload (n := 4) (by decide +kernel) l_20 f4 ?_
      refine go_if (c := .lt) (o := 9) (t := 34) (P := p4 < 0) (by decide +kernel) (by decide +kernel) f4 (Iff.rfl) (fun hp_39 => ?_) (fun hp_39 => ?_)
      · have h := it_t hp_39 h
        cases h
        exact go_thr (x := 96) (e := 1) (ic := 100) (b := 0) (by decide +kernel) (by decide +kernel) (by decide +kernel) R_27 rfl fun Sq Rq Eq => hQ (Ext.tr E_32 Eq) _ _ Rq rfl
      · have h := it_f hp_39 h
        refine go_iload (n := 4) (by decide +kernel) l_20 f4 ?_
        refine go_iconst (n := 3) (z := 3) (by decide +kernel) (by decide) fun v_40 f_41 => ?_
        refine go_icmp (c := .le) (o := 14) (t := 45) (P := ¬ (3 < p4)) (by decide +kernel) (by decide +kernel) f4 f_41 (Int.not_lt.symm) (fun hp_42 => ?_) (fun hp_42 => ?_)
        · have h := it_f hp_42 h
          refine go_aload (n := 5) (by decide +kernel) l_14 f_5 ?_
          obtain ⟨g_45, h⟩ := gd_s h
          obtain ⟨x_47, e_48, h⟩ := lx_s h
          refine go_getf (x := 124) (ci := 11) (kf := 0) (fin := 2) (t := 2) (by decide +kernel) (by decide +kernel) (by decide +kernel) R_27 f_5 g_45 fun v_43 f_44 => ?_
          have f_46 := q_is_eq f_44 e_48
          obtain ⟨g_49, h⟩ := gd_s h
          obtain ⟨x_51, hc_50, h⟩ := bp_s h
          refine go_callV (x := 170) (mi := 327) (n := 0) (ci := 0) (as := []) (rest := []) (by decide +kernel) (by decide +kernel) rfl rfl (q_sum8 _ (Nat.le_of_ble_eq_true rfl)) R_27 f_46 g_49 (om_Jx4a65c_isEmpty_aae02 (Nat.le_trans (by decide) hd) R_27 g_49 f_46 hc_50) (fun _ S_55 q_58 => ?_) (fun _ _ qq => kr_x qq)
          refine kr_z (by decide) q_58 fun v_53 f_54 R_56 E_57 => ?_
          refine go_if (c := .ne) (o := 14) (t := 67) (P := ¬ (x_51 = 0)) (by decide +kernel) (by decide +kernel) f_54 (Iff.rfl) (fun hp_59 => ?_) (fun hp_59 => ?_)
          · have h := it_f hp_59 h
            cases h
            exact go_thr (x := 111) (e := 2) (ic := 115) (b := 0) (by decide +kernel) (by decide +kernel) (by decide +kernel) R_56 rfl fun Sq Rq Eq => hQ (Ext.tr E_32 Eq) _ _ Rq rfl
          · have h := it_n hp_59 h
            refine go_aload_n (n := 0) (by decide +kernel) l_16 f0 ?_
            refine go_getf (x := 34) (ci := 12) (kf := 5) (fin := 1) (t := 2) (by decide +kernel) (by decide +kernel) (by decide +kernel) R_56 f0 (fx_k (c := 12) R_56 (by decide +kernel)) fun v_60 f_61 => ?_
            have f_62 := q_is_eq (b := 10) f_61 (fx_v R_56 (by decide +kernel)).symm
            obtain ⟨x_64, hc_63, h⟩ := bp_s h
            refine go_callV (x := 127) (mi := 326) (n := 0) (ci := 0) (as := []) (rest := []) (by decide +kernel) (by decide +kernel) rfl rfl (q_sum8 _ (Nat.le_of_ble_eq_true rfl)) R_56 f_62 (fx_k (c := 0) R_56 (by decide +kernel)) (om_Jx4a65c_size_8abf5 (Nat.le_trans (by decide) hd) R_56 (fx_k (c := 0) R_56 (by decide +kernel)) f_62 hc_63) (fun _ S_68 q_71 => ?_) (fun _ _ qq => kr_x qq)
            refine kr_z (by decide) q_71 fun v_66 f_67 R_69 E_70 => ?_
            refine go_iconst (n := 4) (z := 4) (by decide +kernel) (by decide) fun v_72 f_73 => ?_
            refine go_icmp (c := .lt) (o := 14) (t := 78) (P := x_64 < 4) (by decide +kernel) (by decide +kernel) f_67 f_73 (Iff.rfl) (fun hp_74 => ?_) (fun hp_74 => ?_)
            · have h := it_t hp_74 h
              refine go_aload_n (n := 0) (by decide +kernel) l_16 f0 ?_
              refine go_getf (x := 34) (ci := 12) (kf := 5) (fin := 1) (t := 2) (by decide +kernel) (by decide +kernel) (by decide +kernel) R_69 f0 (fx_k (c := 12) R_69 (by decide +kernel)) fun v_75 f_76 => ?_
              have f_77 := q_is_eq (b := 10) f_76 (fx_v R_69 (by decide +kernel)).symm
              obtain ⟨x_78, m_79, e_80, e_81, h⟩ := nw_s h
              have g_87 := okc_nw (c := 8) R_69 e_80 e_81
              refine go_new (x := 394) (ci := 8) (n := 9) (b := 0) (by decide +kernel) (by decide +kernel) R_69 e_80 e_81 fun v_82 S_84 f_83 R_85 E_86 => ?_
              have E_88 := Ext.tr E_32 E_86
              refine go_dup (by decide +kernel) f_83 (Or.inr rfl) ?_
              refine go_iload_n (n := 1) (by decide +kernel) l_17 f1 ?_
              refine go_iload_n (n := 2) (by decide +kernel) l_18 f2 ?_
              refine go_iload_n (n := 3) (by decide +kernel) l_19 f3 ?_
              refine go_iload (n := 4) (by decide +kernel) l_20 f4 ?_
              refine go_aload_n (n := 0) (by decide +kernel) l_16 f0 ?_
              obtain ⟨x_92, e_93, h⟩ := lx_s h
              refine go_getf (x := 71) (ci := 12) (kf := 14) (fin := 0) (t := 0) (by decide +kernel) (by decide +kernel) (by decide +kernel) R_85 f0 (fx_k (c := 12) R_85 (by decide +kernel)) fun v_89 f_90 => ?_
              have f_91 := q_is_eq f_90 e_93
              refine go_aload_n (n := 0) (by decide +kernel) l_16 f0 ?_
              obtain ⟨x_97, e_98, h⟩ := lx_s h
              refine go_getf (x := 74) (ci := 12) (kf := 15) (fin := 0) (t := 0) (by decide +kernel) (by decide +kernel) (by decide +kernel) R_85 f0 (fx_k (c := 12) R_85 (by decide +kernel)) fun v_94 f_95 => ?_
              have f_96 := q_is_eq f_95 e_98
              refine go_iadd (by decide +kernel) f_91 f_96 fun v_99 f_100 => ?_
              obtain ⟨x_102, m_103, hc_101, h⟩ := bd_s h
              refine go_callI (x := 476) (mi := 73) (n := 5) (b := 0) (tg := 3) (as := [v1, v2, v3, v4, v_99]) (rest := [v_82, v_75]) (by decide +kernel) (by decide +kernel) (by decide) rfl rfl (q_sum8 _ (Nat.le_of_ble_eq_true rfl)) f_83 (okc_ne g_87) (om_X7_init (Nat.le_trans (by decide) hd) R_85 g_87 f_83 f1 f2 f3 f4 f_100 hc_101) (fun _ S_106 q_109 => ?_) (fun _ _ qq => kr_x qq)
              refine kr_v q_109 fun R_107 E_108 => ?_
              have E_110 := Ext.tr E_88 E_108
              obtain ⟨x_112, m_113, hc_111, h⟩ := bd_s h
              refine go_callV (x := 300) (mi := 331) (n := 1) (ci := 0) (as := [v_82]) (rest := []) (by decide +kernel) (by decide +kernel) rfl rfl (q_sum8 _ (Nat.le_of_ble_eq_true rfl)) R_107 f_77 (fx_k (c := 0) R_107 (by decide +kernel)) (om_Jx4a65c_add_9ea2d (Nat.le_trans (by decide) hd) R_107 (fx_k (c := 0) R_107 (by decide +kernel)) f_77 f_83 hc_111) (fun _ S_116 q_119 => ?_) (fun _ _ qq => kr_x qq)
              refine kr_z (by decide) q_119 fun v_114 f_115 R_117 E_118 => ?_
              have E_120 := Ext.tr E_110 E_118
              refine go_pop (by decide +kernel) f_115 (Or.inl rfl) ?_
              refine go_aload_n (n := 0) (by decide +kernel) l_16 f0 ?_
              refine go_getf (x := 34) (ci := 12) (kf := 5) (fin := 1) (t := 2) (by decide +kernel) (by decide +kernel) (by decide +kernel) R_117 f0 (fx_k (c := 12) R_117 (by decide +kernel)) fun v_121 f_122 => ?_
              have f_123 := q_is_eq (b := 10) f_122 (fx_v R_117 (by decide +kernel)).symm
              obtain ⟨x_125, hc_124, h⟩ := bp_s h
              refine go_callV (x := 127) (mi := 326) (n := 0) (ci := 0) (as := []) (rest := []) (by decide +kernel) (by decide +kernel) rfl rfl (q_sum8 _ (Nat.le_of_ble_eq_true rfl)) R_117 f_123 (fx_k (c := 0) R_117 (by decide +kernel)) (om_Jx4a65c_size_8abf5 (Nat.le_trans (by decide) hd) R_117 (fx_k (c := 0) R_117 (by decide +kernel)) f_123 hc_124) (fun _ S_129 q_132 => ?_) (fun _ _ qq => kr_x qq)
              refine kr_z (by decide) q_132 fun v_127 f_128 R_130 E_131 => ?_
              refine go_iconst (n := 1) (z := 1) (by decide +kernel) (by decide) fun v_133 f_134 => ?_
              refine go_isub (by decide +kernel) f_128 f_134 fun v_135 f_136 => ?_
              cases h
              exact go_iret (by decide +kernel) rfl (Or.inl rfl) f_136 (hQ E_120 _ _ R_130 (q_out_v (by decide) f_136))
            · have h := it_f hp_74 h
              cases h
              exact go_thr (x := 111) (e := 2) (ic := 115) (b := 0) (by decide +kernel) (by decide +kernel) (by decide +kernel) R_69 rfl fun Sq Rq Eq => hQ (Ext.tr E_32 Eq) _ _ Rq rfl
        · have h := it_n hp_42 h
          cases h
          exact go_thr (x := 96) (e := 1) (ic := 100) (b := 0) (by decide +kernel) (by decide +kernel) (by decide +kernel) R_27 rfl fun Sq Rq Eq => hQ (Ext.tr E_32 Eq) _ _ Rq rfl
noncomputable def fm_X11_scheduleAt (p1 : Int) (m0 : MM) : Option ((Int ⊕ Nat) × MM) := if p1 < 0 then
some (.inr 0, mthr m0)
else
bp (fm_Jx4a65c_size_8abf5 10 m0) fun x_6 =>
if p1 < x_6 then
bp (fm_Jx4a65c_get_915e3 10 p1 m0) fun x_19 =>
gd (okc m0 x_19 8) <| some (.inl x_19, m0)
else
some (.inr 0, mthr m0)
set_option maxHeartbeats 4000000 in
theorem om_X11_scheduleAt {xs : List Int32} {d : Nat} {S : QS} {m0 : MM} {p1 : Int} {v0 : Value} {v1 : Value} {rr : Int ⊕ Nat} {rm : MM}
  (hd : 4 ≤ d) (R : Rp S m0) (f0 : q_is 2 v0 4) (f1 : q_is 0 v1 p1)
  (h : fm_X11_scheduleAt p1 m0 = some (rr, rm)) : Mt xs d 141 [v0, v1] S (Cx 2 m0 rm rr) := by
  obtain ⟨d, rfl⟩ : ∃ e, d = e + 1 := ⟨d - 1, by omega⟩
  have hd : 3 ≤ d := Nat.le_of_succ_le_succ hd
  refine Mt.of (M := qM_X11_scheduleAt) rfl (by rw [sl_1 (q_is_cat f0 (Or.inr rfl)), sl_1 (q_is_cat f1 (Or.inl rfl)), sl_0]; decide) ?_
  rw [la_1 (q_is_cat f0 (Or.inr rfl)), la_1 (q_is_cat f1 (Or.inl rfl)), la_0]
  obtain ⟨L, hL⟩ : ∃ L : QL, L = [(0, v0), (0 + 1, v1)] := ⟨_, rfl⟩
  rw [← hL]
  have l0 : q_lo L 0 = some v0 := by rw [hL]; rfl
  have l1 : q_lo L 1 = some v1 := by rw [hL]; rfl
  have hQ : Ext m0 rm → ∀ o S1, Rp S1 rm → q_oux 2 o rr → (Cx 2 m0 rm rr) o S1 := fun a o S1 b e => ⟨b, a, e⟩
  unfold fm_X11_scheduleAt at h
  refine go_iload_n (n := 1) (by decide +kernel) l1 f1 ?_
  refine go_if (c := .lt) (o := 14) (t := 15) (P := p1 < 0) (by decide +kernel) (by decide +kernel) f1 (Iff.rfl) (fun hp_1 => ?_) (fun hp_1 => ?_)
  · have h := it_t hp_1 h
    cases h
    exact go_thr (x := 255) (e := 0) (ic := 259) (b := 0) (by decide +kernel) (by decide +kernel) (by decide +kernel) R rfl fun Sq Rq Eq => hQ Eq _ _ Rq rfl
  · have h := it_f hp_1 h
    refine go_iload_n (n := 1) (by decide +kernel) l1 f1 ?_
    refine go_aload_n (n := 0) (by decide +kernel) l0 f0 ?_
    refine go_getf (x := 34) (ci := 12) (kf := 5) (fin := 1) (t := 2) (by decide +kernel) (by decide +kernel) (by decide +kernel) R f0 (fx_k (c := 12) R (by decide +kernel)) fun v_2 f_3 => ?_
    have f_4 := q_is_eq (b := 10) f_3 (fx_v R (by decide +kernel)).symm
    obtain ⟨x_6, hc_5, h⟩ := bp_s h
    refine go_callV (x := 127) (mi := 326) (n := 0) (ci := 0) (as := []) (rest := [v1]) (by decide +kernel) (by decide +kernel) rfl rfl (q_sum8 _ (Nat.le_of_ble_eq_true rfl)) R f_4 (fx_k (c := 0) R (by decide +kernel)) (om_Jx4a65c_size_8abf5 (Nat.le_trans (by decide) hd) R (fx_k (c := 0) R (by decide +kernel)) f_4 hc_5) (fun _ S_10 q_13 => ?_) (fun _ _ qq => kr_x qq)
    refine kr_z (by decide) q_13 fun v_8 f_9 R_11 E_12 => ?_
    refine go_icmp (c := .lt) (o := 14) (t := 26) (P := p1 < x_6) (by decide +kernel) (by decide +kernel) f1 f_9 (Iff.rfl) (fun hp_14 => ?_) (fun hp_14 => ?_)
    · have h := it_t hp_14 h
      refine go_aload_n (n := 0) (by decide +kernel) l0 f0 ?_
      refine go_getf (x := 34) (ci := 12) (kf := 5) (fin := 1) (t := 2) (by decide +kernel) (by decide +kernel) (by decide +kernel) R_11 f0 (fx_k (c := 12) R_11 (by decide +kernel)) fun v_15 f_16 => ?_
      have f_17 := q_is_eq (b := 10) f_16 (fx_v R_11 (by decide +kernel)).symm
      refine go_iload_n (n := 1) (by decide +kernel) l1 f1 ?_
      obtain ⟨x_19, hc_18, h⟩ := bp_s h
      refine go_callV (x := 305) (mi := 329) (n := 1) (ci := 0) (as := [v1]) (rest := []) (by decide +kernel) (by decide +kernel) rfl rfl (q_sum8 _ (Nat.le_of_ble_eq_true rfl)) R_11 f_17 (fx_k (c := 0) R_11 (by decide +kernel)) (om_Jx4a65c_get_915e3 (Nat.le_trans (by decide) hd) R_11 (fx_k (c := 0) R_11 (by decide +kernel)) f_17 f1 hc_18) (fun _ S_23 q_26 => ?_) (fun _ _ qq => kr_x qq)
      refine kr_z (by decide) q_26 fun v_21 f_22 R_24 E_25 => ?_
      obtain ⟨g_27, h⟩ := gd_s h
      refine go_cast (x := 394) (kd := 8) (a := 0) (b := 0) (by decide +kernel) (by decide +kernel) R_24 f_22 g_27 ?_
      cases h
      exact go_aret (by decide +kernel) rfl rfl f_22 (hQ (Ext.rf _) _ _ R_24 (q_out_v (by decide) f_22))
    · have h := it_f hp_14 h
      cases h
      exact go_thr (x := 255) (e := 0) (ic := 259) (b := 0) (by decide +kernel) (by decide +kernel) (by decide +kernel) R_11 rfl fun Sq Rq Eq => hQ Eq _ _ Rq rfl
noncomputable def fm_X11_togglePause (p1 : Int) (m0 : MM) : Option ((Int ⊕ Nat) × MM) := bx (fm_X11_scheduleAt p1 m0) (fun q_10 m_3 => some (.inr q_10, m_3)) fun x_2 m_3 =>
gd (okc m_3 x_2 8) <| lx (m_3 x_2 5) fun x_20 =>
if x_20 = 0 then
up m_3 x_2 5 1 fun m_40 =>
lx (m_40 x_2 5) fun x_50 =>
gd (x_50 = 0 ∨ x_50 = 1) <| some (.inl x_50, m_40)
else
up m_3 x_2 5 0 fun m_25 =>
lx (m_25 x_2 5) fun x_35 =>
gd (x_35 = 0 ∨ x_35 = 1) <| some (.inl x_35, m_25)
set_option maxHeartbeats 4000000 in
theorem om_X11_togglePause {xs : List Int32} {d : Nat} {S : QS} {m0 : MM} {p1 : Int} {v0 : Value} {v1 : Value} {rr : Int ⊕ Nat} {rm : MM}
  (hd : 5 ≤ d) (R : Rp S m0) (f0 : q_is 2 v0 4) (f1 : q_is 0 v1 p1)
  (h : fm_X11_togglePause p1 m0 = some (rr, rm)) : Mt xs d 132 [v0, v1] S (Cx 0 m0 rm rr) := by
  obtain ⟨d, rfl⟩ : ∃ e, d = e + 1 := ⟨d - 1, by omega⟩
  have hd : 4 ≤ d := Nat.le_of_succ_le_succ hd
  refine Mt.of (M := qM_X11_togglePause) rfl (by rw [sl_1 (q_is_cat f0 (Or.inr rfl)), sl_1 (q_is_cat f1 (Or.inl rfl)), sl_0]; decide) ?_
  rw [la_1 (q_is_cat f0 (Or.inr rfl)), la_1 (q_is_cat f1 (Or.inl rfl)), la_0]
  obtain ⟨L, hL⟩ : ∃ L : QL, L = [(0, v0), (0 + 1, v1)] := ⟨_, rfl⟩
  rw [← hL]
  have l0 : q_lo L 0 = some v0 := by rw [hL]; rfl
  have l1 : q_lo L 1 = some v1 := by rw [hL]; rfl
  have hQ : Ext m0 rm → ∀ o S1, Rp S1 rm → q_oux 0 o rr → (Cx 0 m0 rm rr) o S1 := fun a o S1 b e => ⟨b, a, e⟩
  unfold fm_X11_togglePause at h
  refine go_aload_n (n := 0) (by decide +kernel) l0 f0 ?_
  refine go_iload_n (n := 1) (by decide +kernel) l1 f1 ?_
  obtain ⟨rr5, m_3, hc_1, h⟩ := bx_s h
  rcases h with ⟨q_10, rfl, h⟩ | ⟨x_2, rfl, h⟩
  · cases h
    exact go_callV (x := 479) (mi := 141) (n := 1) (ci := 12) (as := [v1]) (rest := []) (by decide +kernel) (by decide +kernel) rfl rfl (q_sum8 _ (Nat.le_of_ble_eq_true rfl)) R f0 (fx_k (c := 12) R (by decide +kernel)) (om_X11_scheduleAt (Nat.le_trans (by decide) hd) R f0 f1 hc_1) (fun _ _ qq => kx_lx qq) (fun _ _ qq => by
      obtain ⟨rfl, Rq, Eq⟩ := kx_e qq
      exact Or.inl ⟨rfl, hQ Eq _ _ Rq rfl⟩)
  refine go_callV (x := 479) (mi := 141) (n := 1) (ci := 12) (as := [v1]) (rest := []) (by decide +kernel) (by decide +kernel) rfl rfl (q_sum8 _ (Nat.le_of_ble_eq_true rfl)) R f0 (fx_k (c := 12) R (by decide +kernel)) (om_X11_scheduleAt (Nat.le_trans (by decide) hd) R f0 f1 hc_1) (fun _ S_6 q_9 => ?_) (fun _ _ qq => kr_x (kx_l qq))
  have q_9 := kx_l q_9
  refine kr_z (by decide) q_9 fun v_4 f_5 R_7 E_8 => ?_
  have E_12 := E_8
  refine go_astore_n (n := 2) (by decide +kernel) (by decide +kernel) f_5 fun L_13 l_14 kp_15 => ?_
  refine go_aload_n (n := 2) (by decide +kernel) l_14 f_5 ?_
  refine go_aload_n (n := 2) (by decide +kernel) l_14 f_5 ?_
  obtain ⟨g_18, h⟩ := gd_s h
  obtain ⟨x_20, e_21, h⟩ := lx_s h
  refine go_getf (x := 483) (ci := 8) (kf := 5) (fin := 0) (t := 0) (by decide +kernel) (by decide +kernel) (by decide +kernel) R_7 f_5 g_18 fun v_16 f_17 => ?_
  have f_19 := q_is_eq f_17 e_21
  refine go_if (c := .ne) (o := 7) (t := 18) (P := ¬ (x_20 = 0)) (by decide +kernel) (by decide +kernel) f_19 (Iff.rfl) (fun hp_22 => ?_) (fun hp_22 => ?_)
  · have h := it_f hp_22 h
    refine go_iconst (n := 0) (z := 0) (by decide +kernel) (by decide) fun v_23 f_24 => ?_
    obtain ⟨m_25, e_26, h⟩ := up_s h
    refine go_putf (x := 483) (ci := 8) (kf := 5) (fin := 0) (zt := 1) (by decide +kernel) (by decide +kernel) (by decide) (by decide +kernel) (by decide) (Or.inl rfl) R_7 f_5 f_24 (fun _ => by decide) g_18 e_26 (fx_f (j := 5) R_7.2 g_18 (by decide +kernel)) fun S_27 R_28 E_29 => ?_
    have E_30 := Ext.tr E_12 E_29
    refine go_aload_n (n := 2) (by decide +kernel) l_14 f_5 ?_
    have g_33 := Ext.ok E_29 g_18
    obtain ⟨x_35, e_36, h⟩ := lx_s h
    refine go_getf (x := 483) (ci := 8) (kf := 5) (fin := 0) (t := 0) (by decide +kernel) (by decide +kernel) (by decide +kernel) R_28 f_5 g_33 fun v_31 f_32 => ?_
    have f_34 := q_is_eq f_32 e_36
    obtain ⟨g_37, h⟩ := gd_s h
    cases h
    exact go_iret (by decide +kernel) rfl (Or.inr ⟨rfl, g_37⟩) f_34 (hQ E_30 _ _ R_28 (q_out_v (by decide) f_34))
  · have h := it_n hp_22 h
    refine go_iconst (n := 1) (z := 1) (by decide +kernel) (by decide) fun v_38 f_39 => ?_
    refine go_goto (o := 4) (t := 19) (by decide +kernel) (by decide +kernel) ?_
    obtain ⟨m_40, e_41, h⟩ := up_s h
    refine go_putf (x := 483) (ci := 8) (kf := 5) (fin := 0) (zt := 1) (by decide +kernel) (by decide +kernel) (by decide) (by decide +kernel) (by decide) (Or.inl rfl) R_7 f_5 f_39 (fun _ => by decide) g_18 e_41 (fx_f (j := 5) R_7.2 g_18 (by decide +kernel)) fun S_42 R_43 E_44 => ?_
    have E_45 := Ext.tr E_12 E_44
    refine go_aload_n (n := 2) (by decide +kernel) l_14 f_5 ?_
    have g_48 := Ext.ok E_44 g_18
    obtain ⟨x_50, e_51, h⟩ := lx_s h
    refine go_getf (x := 483) (ci := 8) (kf := 5) (fin := 0) (t := 0) (by decide +kernel) (by decide +kernel) (by decide +kernel) R_43 f_5 g_48 fun v_46 f_47 => ?_
    have f_49 := q_is_eq f_47 e_51
    obtain ⟨g_52, h⟩ := gd_s h
    cases h
    exact go_iret (by decide +kernel) rfl (Or.inr ⟨rfl, g_52⟩) f_49 (hQ E_45 _ _ R_43 (q_out_v (by decide) f_49))
noncomputable def fl_X11_backfill_53 (y3 y4 : Int) : Nat → Int → Int → MM → Option ((Int ⊕ Nat) × MM)
  | 0, _, _, _ => none
  | n + 1, y6, y7, m => if y4 < y7 then
some (.inl y6, m)
else
bp (fm_Jx4a65c_size_8abf5 7 m) fun x_85 =>
if x_85 < 30 then
gd (okc m y3 8) <| lx (m y3 0) fun x_100 =>
lx (m y3 1) fun x_105 =>
lx (m y3 2) fun x_110 =>
bp (fm_J9_floorMod_7cf53 (w32 (y7 * x_110)) 1000 m) fun x_117 =>
bd (fm_X11_startRun x_100 x_105 x_117 (-1) 0 m) fun x_130 m_131 =>
lx (w32 (y6 + 1)) fun x_144 =>
lx (w32 (y7 + 1)) fun x_156 =>
fl_X11_backfill_53 y3 y4 n x_144 x_156 m_131
else
some (.inl y6, m)
set_option maxHeartbeats 4000000 in
theorem ol_X11_backfill_53 {xs : List Int32} {d : Nat} {Q : QO → QS → Prop} {mb : MM} {y3 y4 : Int} {rr : Int ⊕ Nat} {rm : MM}
  (hd : 10 ≤ d)
  (hQ : Ext mb rm → ∀ o S1, Rp S1 rm → q_oux 0 o rr → Q o S1) :
  ∀ (n : Nat) {m : MM} {S : QS} {L : QL} {y6 y7 : Int} {v0 : Value} {v3 : Value} {v4 : Value} {v6 : Value} {v7 : Value} , Ext mb m → fl_X11_backfill_53 y3 y4 n y6 y7 m = some (rr, rm) → Rp S m → q_lo L 0 = some v0 → q_is 2 v0 4 → q_lo L 3 = some v3 → q_is 2 v3 y3 → q_lo L 4 = some v4 → q_is 0 v4 y4 → q_lo L 6 = some v6 → q_is 0 v6 y6 → q_lo L 7 = some v7 → q_is 0 v7 y7 → Go xs d qM_X11_backfill 53 L [] S Q := by
  intro n
  induction n with
  | zero => intro m S L y6 y7 v0 v3 v4 v6 v7; intro E h R l0 f0 l3 f3 l4 f4 l6 f6 l7 f7; cases h
  | succ n ih0 =>
    intro m S L y6 y7 v0 v3 v4 v6 v7; intro E h R l0 f0 l3 f3 l4 f4 l6 f6 l7 f7
    have ih : ∀ mq : MM, Ext mb mq → ∀ {z6 : Int} {z7 : Int} {Sq : QS} {Lq : QL} {u0 : Value} {u3 : Value} {u4 : Value} {u6 : Value} {u7 : Value}, fl_X11_backfill_53 y3 y4 n z6 z7 mq = some (rr, rm) → Rp Sq mq → q_lo Lq 0 = some u0 → q_is 2 u0 4 → q_lo Lq 3 = some u3 → q_is 2 u3 y3 → q_lo Lq 4 = some u4 → q_is 0 u4 y4 → q_lo Lq 6 = some u6 → q_is 0 u6 z6 → q_lo Lq 7 = some u7 → q_is 0 u7 z7 → Go xs d qM_X11_backfill 53 Lq [] Sq Q := fun mq b => by intros; exact ih0 b ‹_› ‹_› ‹_› ‹_› ‹_› ‹_› ‹_› ‹_› ‹_› ‹_› ‹_› ‹_›
    unfold fl_X11_backfill_53 at h
    refine go_iload (n := 7) (by decide +kernel) l7 f7 ?_
    refine go_iload (n := 4) (by decide +kernel) l4 f4 ?_
    refine go_icmp (c := .gt) (o := 52) (t := 109) (P := y4 < y7) (by decide +kernel) (by decide +kernel) f7 f4 (Iff.rfl) (fun hp_80 => ?_) (fun hp_80 => ?_)
    · have h := it_t hp_80 h
      refine go_iload (n := 6) (by decide +kernel) l6 f6 ?_
      cases h
      exact go_iret (by decide +kernel) rfl (Or.inl rfl) f6 (hQ E _ _ R (q_out_v (by decide) f6))
    · have h := it_f hp_80 h
      refine go_aload_n (n := 0) (by decide +kernel) l0 f0 ?_
      refine go_getf (x := 24) (ci := 12) (kf := 2) (fin := 1) (t := 2) (by decide +kernel) (by decide +kernel) (by decide +kernel) R f0 (fx_k (c := 12) R (by decide +kernel)) fun v_81 f_82 => ?_
      have f_83 := q_is_eq (b := 7) f_82 (fx_v R (by decide +kernel)).symm
      obtain ⟨x_85, hc_84, h⟩ := bp_s h
      refine go_callV (x := 127) (mi := 326) (n := 0) (ci := 0) (as := []) (rest := []) (by decide +kernel) (by decide +kernel) rfl rfl (q_sum8 _ (Nat.le_of_ble_eq_true rfl)) R f_83 (fx_k (c := 0) R (by decide +kernel)) (om_Jx4a65c_size_8abf5 (Nat.le_trans (by decide) hd) R (fx_k (c := 0) R (by decide +kernel)) f_83 hc_84) (fun _ S_89 q_92 => ?_) (fun _ _ qq => kr_x qq)
      refine kr_z (by decide) q_92 fun v_87 f_88 R_90 E_91 => ?_
      refine go_bipush (n := 30) (z := 30) (by decide +kernel) (by decide) fun v_93 f_94 => ?_
      refine go_icmp (c := .ge) (o := 40) (t := 109) (P := ¬ (x_85 < 30)) (by decide +kernel) (by decide +kernel) f_88 f_94 (Int.not_lt.symm) (fun hp_95 => ?_) (fun hp_95 => ?_)
      · have h := it_f hp_95 h
        refine go_iload (n := 6) (by decide +kernel) l6 f6 ?_
        cases h
        exact go_iret (by decide +kernel) rfl (Or.inl rfl) f6 (hQ E _ _ R_90 (q_out_v (by decide) f6))
      · have h := it_n hp_95 h
        refine go_aload_n (n := 0) (by decide +kernel) l0 f0 ?_
        refine go_aload_n (n := 3) (by decide +kernel) l3 f3 ?_
        obtain ⟨g_98, h⟩ := gd_s h
        obtain ⟨x_100, e_101, h⟩ := lx_s h
        refine go_getf (x := 491) (ci := 8) (kf := 0) (fin := 2) (t := 0) (by decide +kernel) (by decide +kernel) (by decide +kernel) R_90 f3 g_98 fun v_96 f_97 => ?_
        have f_99 := q_is_eq f_97 e_101
        refine go_aload_n (n := 3) (by decide +kernel) l3 f3 ?_
        obtain ⟨x_105, e_106, h⟩ := lx_s h
        refine go_getf (x := 492) (ci := 8) (kf := 1) (fin := 2) (t := 0) (by decide +kernel) (by decide +kernel) (by decide +kernel) R_90 f3 g_98 fun v_102 f_103 => ?_
        have f_104 := q_is_eq f_103 e_106
        refine go_iload (n := 7) (by decide +kernel) l7 f7 ?_
        refine go_aload_n (n := 3) (by decide +kernel) l3 f3 ?_
        obtain ⟨x_110, e_111, h⟩ := lx_s h
        refine go_getf (x := 493) (ci := 8) (kf := 2) (fin := 2) (t := 0) (by decide +kernel) (by decide +kernel) (by decide +kernel) R_90 f3 g_98 fun v_107 f_108 => ?_
        have f_109 := q_is_eq f_108 e_111
        refine go_imul (by decide +kernel) f7 f_109 fun v_112 f_113 => ?_
        refine go_sipush (n := 1000) (z := 1000) (by decide +kernel) (by decide) fun v_114 f_115 => ?_
        obtain ⟨x_117, hc_116, h⟩ := bp_s h
        refine go_callS (x := 496) (mi := 318) (n := 2) (b := 0) (as := [v_112, v_114]) (rest := [v_102, v_96, v0]) (by decide +kernel) (by decide +kernel) rfl rfl (q_sum8 _ (Nat.le_of_ble_eq_true rfl)) (om_J9_floorMod_7cf53 (Nat.le_trans (by decide) hd) R_90 f_113 f_115 hc_116) (fun _ S_121 q_124 => ?_) (fun _ _ qq => kr_x qq)
        refine kr_z (by decide) q_124 fun v_119 f_120 R_122 E_123 => ?_
        refine go_iconst (n := (-1)) (z := (-1)) (by decide +kernel) (by decide) fun v_125 f_126 => ?_
        refine go_iconst (n := 0) (z := 0) (by decide +kernel) (by decide) fun v_127 f_128 => ?_
        obtain ⟨x_130, m_131, hc_129, h⟩ := bd_s h
        refine go_callV (x := 176) (mi := 151) (n := 5) (ci := 12) (as := [v_96, v_102, v_119, v_125, v_127]) (rest := []) (by decide +kernel) (by decide +kernel) rfl rfl (q_sum8 _ (Nat.le_of_ble_eq_true rfl)) R_122 f0 (fx_k (c := 12) R_122 (by decide +kernel)) (om_X11_startRun (Nat.le_trans (by decide) hd) R_122 f0 f_99 f_104 f_120 f_126 f_128 hc_129) (fun _ S_134 q_137 => ?_) (fun _ _ qq => kr_x qq)
        refine kr_z (by decide) q_137 fun v_132 f_133 R_135 E_136 => ?_
        have E_138 := Ext.tr E E_136
        refine go_pop (by decide +kernel) f_133 (Or.inr rfl) ?_
        refine go_iinc (n := 6) (c := 1) (c' := 1) (by decide +kernel) (by decide +kernel) l6 f6 (by decide) fun L_139 v_140 f_141 l_142 kp_143 => ?_
        obtain ⟨x_144, e_145, h⟩ := lx_s h
        have f_146 := q_is_eq f_141 e_145
        have l_147 := kp_143 0 _ l0 (by decide) (Or.inl (by decide))
        have l_148 := kp_143 3 _ l3 (by decide) (Or.inl (by decide))
        have l_149 := kp_143 4 _ l4 (by decide) (Or.inl (by decide))
        have l_150 := kp_143 7 _ l7 (by decide) (Or.inl (by decide))
        refine go_iinc (n := 7) (c := 1) (c' := 1) (by decide +kernel) (by decide +kernel) l_150 f7 (by decide) fun L_151 v_152 f_153 l_154 kp_155 => ?_
        obtain ⟨x_156, e_157, h⟩ := lx_s h
        have f_158 := q_is_eq f_153 e_157
        have l_159 := kp_155 0 _ l_147 (by decide) (Or.inl (by decide))
        have l_160 := kp_155 3 _ l_148 (by decide) (Or.inl (by decide))
        have l_161 := kp_155 4 _ l_149 (by decide) (Or.inl (by decide))
        have l_162 := kp_155 6 _ l_142 (by decide) (Or.inr (q_is_cat f_146 (Or.inl rfl)))
        refine go_goto (o := (-53)) (t := 53) (by decide +kernel) (by decide +kernel) ?_
        exact ih m_131 E_138 h R_135 l_159 f0 l_160 f3 l_161 f4 l_162 f_146 l_154 f_158
noncomputable def fm_X11_backfill (p1 p2 : Int) (m0 : MM) : Option ((Int ⊕ Nat) × MM) := bx (fm_X11_scheduleAt p1 m0) (fun q_10 m_3 => some (.inr q_10, m_3)) fun x_2 m_3 =>
if p2 < 1 then
some (.inr 1, mthr m_3)
else
if 5 < p2 then
some (.inr 1, mthr m_3)
else
gd (okc m_3 x_2 8) <| bp (fm_X7_pointsSoFar x_2 m_3) fun x_26 =>
bp (fm_J9_min_7cf53 p2 x_26 m_3) fun x_41 =>
lx (w32 ((w32 (x_26 - x_41)) + 1)) fun x_70 =>
fl_X11_backfill_53 x_2 x_26  BIG 0 x_70 m_3
set_option maxHeartbeats 4000000 in
theorem om_X11_backfill {xs : List Int32} {d : Nat} {S : QS} {m0 : MM} {p1 p2 : Int} {v0 : Value} {v1 : Value} {v2 : Value} {rr : Int ⊕ Nat} {rm : MM}
  (hd : 11 ≤ d) (R : Rp S m0) (f0 : q_is 2 v0 4) (f1 : q_is 0 v1 p1) (f2 : q_is 0 v2 p2)
  (h : fm_X11_backfill p1 p2 m0 = some (rr, rm)) : Mt xs d 133 [v0, v1, v2] S (Cx 0 m0 rm rr) := by
  obtain ⟨d, rfl⟩ : ∃ e, d = e + 1 := ⟨d - 1, by omega⟩
  have hd : 10 ≤ d := Nat.le_of_succ_le_succ hd
  refine Mt.of (M := qM_X11_backfill) rfl (by rw [sl_1 (q_is_cat f0 (Or.inr rfl)), sl_1 (q_is_cat f1 (Or.inl rfl)), sl_1 (q_is_cat f2 (Or.inl rfl)), sl_0]; decide) ?_
  rw [la_1 (q_is_cat f0 (Or.inr rfl)), la_1 (q_is_cat f1 (Or.inl rfl)), la_1 (q_is_cat f2 (Or.inl rfl)), la_0]
  obtain ⟨L, hL⟩ : ∃ L : QL, L = [(0, v0), (0 + 1, v1), (0 + 1 + 1, v2)] := ⟨_, rfl⟩
  rw [← hL]
  have l0 : q_lo L 0 = some v0 := by rw [hL]; rfl
  have l1 : q_lo L 1 = some v1 := by rw [hL]; rfl
  have l2 : q_lo L 2 = some v2 := by rw [hL]; rfl
  have hQ : Ext m0 rm → ∀ o S1, Rp S1 rm → q_oux 0 o rr → (Cx 0 m0 rm rr) o S1 := fun a o S1 b e => ⟨b, a, e⟩
  unfold fm_X11_backfill at h
  refine go_aload_n (n := 0) (by decide +kernel) l0 f0 ?_
  refine go_iload_n (n := 1) (by decide +kernel) l1 f1 ?_
  obtain ⟨rr5, m_3, hc_1, h⟩ := bx_s h
  rcases h with ⟨q_10, rfl, h⟩ | ⟨x_2, rfl, h⟩
  · cases h
    exact go_callV (x := 479) (mi := 141) (n := 1) (ci := 12) (as := [v1]) (rest := []) (by decide +kernel) (by decide +kernel) rfl rfl (q_sum8 _ (Nat.le_of_ble_eq_true rfl)) R f0 (fx_k (c := 12) R (by decide +kernel)) (om_X11_scheduleAt (Nat.le_trans (by decide) hd) R f0 f1 hc_1) (fun _ _ qq => kx_lx qq) (fun _ _ qq => by
      obtain ⟨rfl, Rq, Eq⟩ := kx_e qq
      exact Or.inl ⟨rfl, hQ Eq _ _ Rq rfl⟩)
  refine go_callV (x := 479) (mi := 141) (n := 1) (ci := 12) (as := [v1]) (rest := []) (by decide +kernel) (by decide +kernel) rfl rfl (q_sum8 _ (Nat.le_of_ble_eq_true rfl)) R f0 (fx_k (c := 12) R (by decide +kernel)) (om_X11_scheduleAt (Nat.le_trans (by decide) hd) R f0 f1 hc_1) (fun _ S_6 q_9 => ?_) (fun _ _ qq => kr_x (kx_l qq))
  have q_9 := kx_l q_9
  refine kr_z (by decide) q_9 fun v_4 f_5 R_7 E_8 => ?_
  have E_12 := E_8
  refine go_astore_n (n := 3) (by decide +kernel) (by decide +kernel) f_5 fun L_13 l_14 kp_15 => ?_
  have l_16 := kp_15 0 _ l0 (by decide) (Or.inl (by decide))
  have l_17 := kp_15 2 _ l2 (by decide) (Or.inr (q_is_cat f2 (Or.inl rfl)))
  refine go_iload_n (n := 2) (by decide +kernel) l_17 f2 ?_
  refine go_iconst (n := 1) (z := 1) (by decide +kernel) (by decide) fun v_18 f_19 => ?_
  refine go_icmp (c := .lt) (o := 8) (t := 16) (P := p2 < 1) (by decide +kernel) (by decide +kernel) f2 f_19 (Iff.rfl) (fun hp_20 => ?_) (fun hp_20 => ?_)
  · have h := it_t hp_20 h
    cases h
    exact go_thr (x := 96) (e := 1) (ic := 100) (b := 0) (by decide +kernel) (by decide +kernel) (by decide +kernel) R_7 rfl fun Sq Rq Eq => hQ (Ext.tr E_12 Eq) _ _ Rq rfl
  · have h := it_f hp_20 h
    refine go_iload_n (n := 2) (by decide +kernel) l_17 f2 ?_
    refine go_iconst (n := 5) (z := 5) (by decide +kernel) (by decide) fun v_21 f_22 => ?_
    refine go_icmp (c := .le) (o := 14) (t := 27) (P := ¬ (5 < p2)) (by decide +kernel) (by decide +kernel) f2 f_22 (Int.not_lt.symm) (fun hp_23 => ?_) (fun hp_23 => ?_)
    · have h := it_f hp_23 h
      refine go_aload_n (n := 3) (by decide +kernel) l_14 f_5 ?_
      obtain ⟨g_24, h⟩ := gd_s h
      obtain ⟨x_26, hc_25, h⟩ := bp_s h
      refine go_callV (x := 488) (mi := 75) (n := 0) (ci := 8) (as := []) (rest := []) (by decide +kernel) (by decide +kernel) rfl rfl (q_sum8 _ (Nat.le_of_ble_eq_true rfl)) R_7 f_5 g_24 (om_X7_pointsSoFar (Nat.le_trans (by decide) hd) R_7 g_24 f_5 hc_25) (fun _ S_30 q_33 => ?_) (fun _ _ qq => kr_x qq)
      refine kr_z (by decide) q_33 fun v_28 f_29 R_31 E_32 => ?_
      refine go_istore (n := 4) (by decide +kernel) (by decide +kernel) f_29 fun L_34 l_35 kp_36 => ?_
      have l_37 := kp_36 0 _ l_16 (by decide) (Or.inl (by decide))
      have l_38 := kp_36 2 _ l_17 (by decide) (Or.inl (by decide))
      have l_39 := kp_36 3 _ l_14 (by decide) (Or.inr (q_is_cat f_5 (Or.inr rfl)))
      refine go_iload_n (n := 2) (by decide +kernel) l_38 f2 ?_
      refine go_iload (n := 4) (by decide +kernel) l_35 f_29 ?_
      obtain ⟨x_41, hc_40, h⟩ := bp_s h
      refine go_callS (x := 446) (mi := 320) (n := 2) (b := 0) (as := [v2, v_28]) (rest := []) (by decide +kernel) (by decide +kernel) rfl rfl (q_sum8 _ (Nat.le_of_ble_eq_true rfl)) (om_J9_min_7cf53 (Nat.le_trans (by decide) hd) R_31 f2 f_29 hc_40) (fun _ S_45 q_48 => ?_) (fun _ _ qq => kr_x qq)
      refine kr_z (by decide) q_48 fun v_43 f_44 R_46 E_47 => ?_
      refine go_istore (n := 5) (by decide +kernel) (by decide +kernel) f_44 fun L_49 l_50 kp_51 => ?_
      have l_52 := kp_51 0 _ l_37 (by decide) (Or.inl (by decide))
      have l_53 := kp_51 3 _ l_39 (by decide) (Or.inl (by decide))
      have l_54 := kp_51 4 _ l_35 (by decide) (Or.inr (q_is_cat f_29 (Or.inl rfl)))
      refine go_iconst (n := 0) (z := 0) (by decide +kernel) (by decide) fun v_55 f_56 => ?_
      refine go_istore (n := 6) (by decide +kernel) (by decide +kernel) f_56 fun L_57 l_58 kp_59 => ?_
      have l_60 := kp_59 0 _ l_52 (by decide) (Or.inl (by decide))
      have l_61 := kp_59 3 _ l_53 (by decide) (Or.inl (by decide))
      have l_62 := kp_59 4 _ l_54 (by decide) (Or.inl (by decide))
      have l_63 := kp_59 5 _ l_50 (by decide) (Or.inr (q_is_cat f_44 (Or.inl rfl)))
      refine go_iload (n := 4) (by decide +kernel) l_62 f_29 ?_
      refine go_iload (n := 5) (by decide +kernel) l_63 f_44 ?_
      refine go_isub (by decide +kernel) f_29 f_44 fun v_64 f_65 => ?_
      refine go_iconst (n := 1) (z := 1) (by decide +kernel) (by decide) fun v_66 f_67 => ?_
      refine go_iadd (by decide +kernel) f_65 f_67 fun v_68 f_69 => ?_
      obtain ⟨x_70, e_71, h⟩ := lx_s h
      have f_72 := q_is_eq f_69 e_71
      refine go_istore (n := 7) (by decide +kernel) (by decide +kernel) f_72 fun L_73 l_74 kp_75 => ?_
      have l_76 := kp_75 0 _ l_60 (by decide) (Or.inl (by decide))
      have l_77 := kp_75 3 _ l_61 (by decide) (Or.inl (by decide))
      have l_78 := kp_75 4 _ l_62 (by decide) (Or.inl (by decide))
      have l_79 := kp_75 6 _ l_58 (by decide) (Or.inr (q_is_cat f_56 (Or.inl rfl)))
      refine ol_X11_backfill_53 hd   (fun b => hQ (Ext.tr E_12 b)) BIG (Ext.rf _) h R_46 l_76 f0 l_77 f_5 l_78 f_29 l_79 f_56 l_74 f_72
    · have h := it_n hp_23 h
      cases h
      exact go_thr (x := 96) (e := 1) (ic := 100) (b := 0) (by decide +kernel) (by decide +kernel) (by decide +kernel) R_7 rfl fun Sq Rq Eq => hQ (Ext.tr E_12 Eq) _ _ Rq rfl
noncomputable def fm_X11_shift (p1 : Int) (m0 : MM) : Option ((Int ⊕ Nat) × MM) := if p1 < (-20) then
some (.inr 1, mthr m0)
else
if 20 < p1 then
some (.inr 1, mthr m0)
else
lx (m0 4 15) fun x_10 =>
up m0 4 15 (w32 (x_10 + p1)) fun m_14 =>
lx (m_14 4 14) fun x_23 =>
lx (m_14 4 15) fun x_28 =>
some (.inl (w32 (x_23 + x_28)), m_14)
set_option maxHeartbeats 4000000 in
theorem om_X11_shift {xs : List Int32} {d : Nat} {S : QS} {m0 : MM} {p1 : Int} {v0 : Value} {v1 : Value} {rr : Int ⊕ Nat} {rm : MM}
  (hd : 1 ≤ d) (R : Rp S m0) (f0 : q_is 2 v0 4) (f1 : q_is 0 v1 p1)
  (h : fm_X11_shift p1 m0 = some (rr, rm)) : Mt xs d 134 [v0, v1] S (Cx 0 m0 rm rr) := by
  obtain ⟨d, rfl⟩ : ∃ e, d = e + 1 := ⟨d - 1, by omega⟩
  have hd : 0 ≤ d := Nat.le_of_succ_le_succ hd
  refine Mt.of (M := qM_X11_shift) rfl (by rw [sl_1 (q_is_cat f0 (Or.inr rfl)), sl_1 (q_is_cat f1 (Or.inl rfl)), sl_0]; decide) ?_
  rw [la_1 (q_is_cat f0 (Or.inr rfl)), la_1 (q_is_cat f1 (Or.inl rfl)), la_0]
  obtain ⟨L, hL⟩ : ∃ L : QL, L = [(0, v0), (0 + 1, v1)] := ⟨_, rfl⟩
  rw [← hL]
  have l0 : q_lo L 0 = some v0 := by rw [hL]; rfl
  have l1 : q_lo L 1 = some v1 := by rw [hL]; rfl
  have hQ : Ext m0 rm → ∀ o S1, Rp S1 rm → q_oux 0 o rr → (Cx 0 m0 rm rr) o S1 := fun a o S1 b e => ⟨b, a, e⟩
  unfold fm_X11_shift at h
  refine go_iload_n (n := 1) (by decide +kernel) l1 f1 ?_
  refine go_bipush (n := (-20)) (z := (-20)) (by decide +kernel) (by decide) fun v_1 f_2 => ?_
  refine go_icmp (c := .lt) (o := 9) (t := 12) (P := p1 < (-20)) (by decide +kernel) (by decide +kernel) f1 f_2 (Iff.rfl) (fun hp_3 => ?_) (fun hp_3 => ?_)
  · have h := it_t hp_3 h
    cases h
    exact go_thr (x := 96) (e := 1) (ic := 100) (b := 0) (by decide +kernel) (by decide +kernel) (by decide +kernel) R rfl fun Sq Rq Eq => hQ Eq _ _ Rq rfl
  · have h := it_f hp_3 h
    refine go_iload_n (n := 1) (by decide +kernel) l1 f1 ?_
    refine go_bipush (n := 20) (z := 20) (by decide +kernel) (by decide) fun v_4 f_5 => ?_
    refine go_icmp (c := .le) (o := 14) (t := 23) (P := ¬ (20 < p1)) (by decide +kernel) (by decide +kernel) f1 f_5 (Int.not_lt.symm) (fun hp_6 => ?_) (fun hp_6 => ?_)
    · have h := it_f hp_6 h
      refine go_aload_n (n := 0) (by decide +kernel) l0 f0 ?_
      refine go_dup (by decide +kernel) f0 (Or.inr rfl) ?_
      obtain ⟨x_10, e_11, h⟩ := lx_s h
      refine go_getf (x := 74) (ci := 12) (kf := 15) (fin := 0) (t := 0) (by decide +kernel) (by decide +kernel) (by decide +kernel) R f0 (fx_k (c := 12) R (by decide +kernel)) fun v_7 f_8 => ?_
      have f_9 := q_is_eq f_8 e_11
      refine go_iload_n (n := 1) (by decide +kernel) l1 f1 ?_
      refine go_iadd (by decide +kernel) f_9 f1 fun v_12 f_13 => ?_
      obtain ⟨m_14, e_15, h⟩ := up_s h
      refine go_putf (x := 74) (ci := 12) (kf := 15) (fin := 0) (zt := 0) (by decide +kernel) (by decide +kernel) (by decide) (by decide +kernel) (by decide) (Or.inl rfl) R f0 f_13 (fun hq => absurd hq (by decide)) (fx_k (c := 12) R (by decide +kernel)) e_15 (fx_f (j := 15) R.2 (fx_k (c := 12) R (by decide +kernel)) (by decide +kernel)) fun S_16 R_17 E_18 => ?_
      have E_19 := E_18
      refine go_aload_n (n := 0) (by decide +kernel) l0 f0 ?_
      obtain ⟨x_23, e_24, h⟩ := lx_s h
      refine go_getf (x := 71) (ci := 12) (kf := 14) (fin := 0) (t := 0) (by decide +kernel) (by decide +kernel) (by decide +kernel) R_17 f0 (fx_k (c := 12) R_17 (by decide +kernel)) fun v_20 f_21 => ?_
      have f_22 := q_is_eq f_21 e_24
      refine go_aload_n (n := 0) (by decide +kernel) l0 f0 ?_
      obtain ⟨x_28, e_29, h⟩ := lx_s h
      refine go_getf (x := 74) (ci := 12) (kf := 15) (fin := 0) (t := 0) (by decide +kernel) (by decide +kernel) (by decide +kernel) R_17 f0 (fx_k (c := 12) R_17 (by decide +kernel)) fun v_25 f_26 => ?_
      have f_27 := q_is_eq f_26 e_29
      refine go_iadd (by decide +kernel) f_22 f_27 fun v_30 f_31 => ?_
      cases h
      exact go_iret (by decide +kernel) rfl (Or.inl rfl) f_31 (hQ E_19 _ _ R_17 (q_out_v (by decide) f_31))
    · have h := it_n hp_6 h
      cases h
      exact go_thr (x := 96) (e := 1) (ic := 100) (b := 0) (by decide +kernel) (by decide +kernel) (by decide +kernel) R rfl fun Sq Rq Eq => hQ Eq _ _ Rq rfl
noncomputable def fj_X11_bringIn_96 (c : Int → MM → Option ((Int ⊕ Nat) × MM)) (y1 y2 : Int) (m : MM) : Option ((Int ⊕ Nat) × MM) := lx (m 4 12) fun x_85 =>
up m 4 12 (w32 (x_85 + 1)) fun m_91 =>
lx (w32 (y2 + 1)) fun x_102 =>
c x_102 m_91
set_option maxHeartbeats 4000000 in
theorem oj_X11_bringIn_96 {xs : List Int32} {d : Nat} {S : QS} {L : QL} {Q : QO → QS → Prop} {m : MM} {y1 y2 : Int} {v0 : Value} {v1 : Value} {v2 : Value}  {rr : Int ⊕ Nat} {rm : MM} {c : Int → MM → Option ((Int ⊕ Nat) × MM)} 
  (hd : 3 ≤ d) (R : Rp S m) (l0 : q_lo L 0 = some v0) (f0 : q_is 2 v0 4) (l1 : q_lo L 1 = some v1) (f1 : q_is 0 v1 y1) (l2 : q_lo L 2 = some v2) (f2 : q_is 0 v2 y2)
  (hc : ∀ mq : MM, Ext m mq → ∀ {z2 : Int} {Sq : QS} {Lq : QL} {u0 : Value} {u1 : Value} {u2 : Value}, c z2 mq = some (rr, rm) → Rp Sq mq → q_lo Lq 0 = some u0 → q_is 2 u0 4 → q_lo Lq 1 = some u1 → q_is 0 u1 y1 → q_lo Lq 2 = some u2 → q_is 0 u2 z2 → Go xs d qM_X11_bringIn 24 Lq [] Sq Q)
  (hQ : Ext m rm → ∀ o S1, Rp S1 rm → q_oux 0 o rr → Q o S1)
  (h : fj_X11_bringIn_96 c y1 y2 m = some (rr, rm)) : Go xs d qM_X11_bringIn 96 L [] S Q := by
  unfold fj_X11_bringIn_96 at h
  refine go_aload_n (n := 0) (by decide +kernel) l0 f0 ?_
  refine go_dup (by decide +kernel) f0 (Or.inr rfl) ?_
  obtain ⟨x_85, e_86, h⟩ := lx_s h
  refine go_getf (x := 65) (ci := 12) (kf := 12) (fin := 0) (t := 0) (by decide +kernel) (by decide +kernel) (by decide +kernel) R f0 (fx_k (c := 12) R (by decide +kernel)) fun v_82 f_83 => ?_
  have f_84 := q_is_eq f_83 e_86
  refine go_iconst (n := 1) (z := 1) (by decide +kernel) (by decide) fun v_87 f_88 => ?_
  refine go_iadd (by decide +kernel) f_84 f_88 fun v_89 f_90 => ?_
  obtain ⟨m_91, e_92, h⟩ := up_s h
  refine go_putf (x := 65) (ci := 12) (kf := 12) (fin := 0) (zt := 0) (by decide +kernel) (by decide +kernel) (by decide) (by decide +kernel) (by decide) (Or.inl rfl) R f0 f_90 (fun hq => absurd hq (by decide)) (fx_k (c := 12) R (by decide +kernel)) e_92 (fx_f (j := 12) R.2 (fx_k (c := 12) R (by decide +kernel)) (by decide +kernel)) fun S_93 R_94 E_95 => ?_
  have E_96 := E_95
  refine go_iinc (n := 2) (c := 1) (c' := 1) (by decide +kernel) (by decide +kernel) l2 f2 (by decide) fun L_97 v_98 f_99 l_100 kp_101 => ?_
  obtain ⟨x_102, e_103, h⟩ := lx_s h
  have f_104 := q_is_eq f_99 e_103
  have l_105 := kp_101 0 _ l0 (by decide) (Or.inl (by decide))
  have l_106 := kp_101 1 _ l1 (by decide) (Or.inr (q_is_cat f1 (Or.inl rfl)))
  refine go_goto (o := (-85)) (t := 24) (by decide +kernel) (by decide +kernel) ?_
  exact hc m_91 E_96 h R_94 l_105 f0 l_106 f1 l_100 f_104
noncomputable def fl_X11_bringIn_24 (y1 : Int) : Nat → Int → MM → Option ((Int ⊕ Nat) × MM)
  | 0, _, _ => none
  | n + 1, y2, m => if y2 < y1 then
lx (m 4 12) fun x_30 =>
lx (m 4 11) fun x_35 =>
if x_30 < x_35 then
bp (fm_X5_at 14 x_30 m) fun x_53 =>
lx (w32 (Int.tdiv x_53 1000)) fun x_71 =>
if x_71 < 0 then
fj_X11_bringIn_96 (fl_X11_bringIn_24 y1 n) y1 y2 m
else
bp (fm_Jx4a65c_size_8abf5 7 m) fun x_111 =>
if x_71 < x_111 then
bp (fm_Jx4a65c_get_915e3 7 x_71 m) fun x_124 =>
gd (okc m x_124 7) <| up m x_124 11 (Int.tmod x_53 1000) fun m_137 =>
fj_X11_bringIn_96 (fl_X11_bringIn_24 y1 n) y1 y2 m_137
else
fj_X11_bringIn_96 (fl_X11_bringIn_24 y1 n) y1 y2 m
else
some (.inl (w32 (x_35 - x_30)), m)
else
lx (m 4 11) fun x_18 =>
lx (m 4 12) fun x_23 =>
some (.inl (w32 (x_18 - x_23)), m)
set_option maxHeartbeats 4000000 in
theorem ol_X11_bringIn_24 {xs : List Int32} {d : Nat} {Q : QO → QS → Prop} {mb : MM} {y1 : Int} {rr : Int ⊕ Nat} {rm : MM}
  (hd : 3 ≤ d)
  (hQ : Ext mb rm → ∀ o S1, Rp S1 rm → q_oux 0 o rr → Q o S1) :
  ∀ (n : Nat) {m : MM} {S : QS} {L : QL} {y2 : Int} {v0 : Value} {v1 : Value} {v2 : Value} , Ext mb m → fl_X11_bringIn_24 y1 n y2 m = some (rr, rm) → Rp S m → q_lo L 0 = some v0 → q_is 2 v0 4 → q_lo L 1 = some v1 → q_is 0 v1 y1 → q_lo L 2 = some v2 → q_is 0 v2 y2 → Go xs d qM_X11_bringIn 24 L [] S Q := by
  intro n
  induction n with
  | zero => intro m S L y2 v0 v1 v2; intro E h R l0 f0 l1 f1 l2 f2; cases h
  | succ n ih0 =>
    intro m S L y2 v0 v1 v2; intro E h R l0 f0 l1 f1 l2 f2
    have ih : ∀ mq : MM, Ext mb mq → ∀ {z2 : Int} {Sq : QS} {Lq : QL} {u0 : Value} {u1 : Value} {u2 : Value}, fl_X11_bringIn_24 y1 n z2 mq = some (rr, rm) → Rp Sq mq → q_lo Lq 0 = some u0 → q_is 2 u0 4 → q_lo Lq 1 = some u1 → q_is 0 u1 y1 → q_lo Lq 2 = some u2 → q_is 0 u2 z2 → Go xs d qM_X11_bringIn 24 Lq [] Sq Q := fun mq b => by intros; exact ih0 b ‹_› ‹_› ‹_› ‹_› ‹_› ‹_› ‹_› ‹_›
    unfold fl_X11_bringIn_24 at h
    refine go_iload_n (n := 2) (by decide +kernel) l2 f2 ?_
    refine go_iload_n (n := 1) (by decide +kernel) l1 f1 ?_
    refine go_icmp (c := .ge) (o := 86) (t := 112) (P := ¬ (y2 < y1)) (by decide +kernel) (by decide +kernel) f2 f1 (Int.not_lt.symm) (fun hp_14 => ?_) (fun hp_14 => ?_)
    · have h := it_f hp_14 h
      refine go_aload_n (n := 0) (by decide +kernel) l0 f0 ?_
      obtain ⟨x_18, e_19, h⟩ := lx_s h
      refine go_getf (x := 61) (ci := 12) (kf := 11) (fin := 0) (t := 0) (by decide +kernel) (by decide +kernel) (by decide +kernel) R f0 (fx_k (c := 12) R (by decide +kernel)) fun v_15 f_16 => ?_
      have f_17 := q_is_eq f_16 e_19
      refine go_aload_n (n := 0) (by decide +kernel) l0 f0 ?_
      obtain ⟨x_23, e_24, h⟩ := lx_s h
      refine go_getf (x := 65) (ci := 12) (kf := 12) (fin := 0) (t := 0) (by decide +kernel) (by decide +kernel) (by decide +kernel) R f0 (fx_k (c := 12) R (by decide +kernel)) fun v_20 f_21 => ?_
      have f_22 := q_is_eq f_21 e_24
      refine go_isub (by decide +kernel) f_17 f_22 fun v_25 f_26 => ?_
      cases h
      exact go_iret (by decide +kernel) rfl (Or.inl rfl) f_26 (hQ E _ _ R (q_out_v (by decide) f_26))
    · have h := it_n hp_14 h
      refine go_aload_n (n := 0) (by decide +kernel) l0 f0 ?_
      obtain ⟨x_30, e_31, h⟩ := lx_s h
      refine go_getf (x := 65) (ci := 12) (kf := 12) (fin := 0) (t := 0) (by decide +kernel) (by decide +kernel) (by decide +kernel) R f0 (fx_k (c := 12) R (by decide +kernel)) fun v_27 f_28 => ?_
      have f_29 := q_is_eq f_28 e_31
      refine go_aload_n (n := 0) (by decide +kernel) l0 f0 ?_
      obtain ⟨x_35, e_36, h⟩ := lx_s h
      refine go_getf (x := 61) (ci := 12) (kf := 11) (fin := 0) (t := 0) (by decide +kernel) (by decide +kernel) (by decide +kernel) R f0 (fx_k (c := 12) R (by decide +kernel)) fun v_32 f_33 => ?_
      have f_34 := q_is_eq f_33 e_36
      refine go_icmp (c := .ge) (o := 75) (t := 112) (P := ¬ (x_30 < x_35)) (by decide +kernel) (by decide +kernel) f_29 f_34 (Int.not_lt.symm) (fun hp_37 => ?_) (fun hp_37 => ?_)
      · have h := it_f hp_37 h
        refine go_aload_n (n := 0) (by decide +kernel) l0 f0 ?_
        refine go_getf (x := 61) (ci := 12) (kf := 11) (fin := 0) (t := 0) (by decide +kernel) (by decide +kernel) (by decide +kernel) R f0 (fx_k (c := 12) R (by decide +kernel)) fun v_38 f_39 => ?_
        have f_40 := q_is_eq f_39 e_36
        refine go_aload_n (n := 0) (by decide +kernel) l0 f0 ?_
        refine go_getf (x := 65) (ci := 12) (kf := 12) (fin := 0) (t := 0) (by decide +kernel) (by decide +kernel) (by decide +kernel) R f0 (fx_k (c := 12) R (by decide +kernel)) fun v_41 f_42 => ?_
        have f_43 := q_is_eq f_42 e_31
        refine go_isub (by decide +kernel) f_40 f_43 fun v_44 f_45 => ?_
        cases h
        exact go_iret (by decide +kernel) rfl (Or.inl rfl) f_45 (hQ E _ _ R (q_out_v (by decide) f_45))
      · have h := it_n hp_37 h
        refine go_aload_n (n := 0) (by decide +kernel) l0 f0 ?_
        refine go_getf (x := 50) (ci := 12) (kf := 9) (fin := 1) (t := 2) (by decide +kernel) (by decide +kernel) (by decide +kernel) R f0 (fx_k (c := 12) R (by decide +kernel)) fun v_46 f_47 => ?_
        have f_48 := q_is_eq (b := 14) f_47 (fx_v R (by decide +kernel)).symm
        refine go_aload_n (n := 0) (by decide +kernel) l0 f0 ?_
        refine go_getf (x := 65) (ci := 12) (kf := 12) (fin := 0) (t := 0) (by decide +kernel) (by decide +kernel) (by decide +kernel) R f0 (fx_k (c := 12) R (by decide +kernel)) fun v_49 f_50 => ?_
        have f_51 := q_is_eq f_50 e_31
        obtain ⟨x_53, hc_52, h⟩ := bp_s h
        refine go_callV (x := 466) (mi := 59) (n := 1) (ci := 6) (as := [v_49]) (rest := []) (by decide +kernel) (by decide +kernel) rfl rfl (q_sum8 _ (Nat.le_of_ble_eq_true rfl)) R f_48 (fx_k (c := 6) R (by decide +kernel)) (om_X5_at (Nat.le_trans (by decide) hd) R (fx_k (c := 6) R (by decide +kernel)) f_48 f_51 hc_52) (fun _ S_57 q_60 => ?_) (fun _ _ qq => kr_x qq)
        refine kr_z (by decide) q_60 fun v_55 f_56 R_58 E_59 => ?_
        refine go_istore_n (n := 3) (by decide +kernel) (by decide +kernel) f_56 fun L_61 l_62 kp_63 => ?_
        have l_64 := kp_63 0 _ l0 (by decide) (Or.inl (by decide))
        have l_65 := kp_63 1 _ l1 (by decide) (Or.inl (by decide))
        have l_66 := kp_63 2 _ l2 (by decide) (Or.inr (q_is_cat f2 (Or.inl rfl)))
        refine go_iload_n (n := 3) (by decide +kernel) l_62 f_56 ?_
        refine go_sipush (n := 1000) (z := 1000) (by decide +kernel) (by decide) fun v_67 f_68 => ?_
        refine go_idiv (by decide +kernel) f_56 f_68 (by decide) fun v_69 f_70 => ?_
        obtain ⟨x_71, e_72, h⟩ := lx_s h
        have f_73 := q_is_eq f_70 e_72
        refine go_istore (n := 4) (by decide +kernel) (by decide +kernel) f_73 fun L_74 l_75 kp_76 => ?_
        have l_77 := kp_76 0 _ l_64 (by decide) (Or.inl (by decide))
        have l_78 := kp_76 1 _ l_65 (by decide) (Or.inl (by decide))
        have l_79 := kp_76 2 _ l_66 (by decide) (Or.inl (by decide))
        have l_80 := kp_76 3 _ l_62 (by decide) (Or.inr (q_is_cat f_56 (Or.inl rfl)))
        refine go_iload (n := 4) (by decide +kernel) l_75 f_73 ?_
        refine go_if (c := .lt) (o := 35) (t := 96) (P := x_71 < 0) (by decide +kernel) (by decide +kernel) f_73 (Iff.rfl) (fun hp_81 => ?_) (fun hp_81 => ?_)
        · have h := it_t hp_81 h
          exact oj_X11_bringIn_96 hd R_58 l_77 f0 l_78 f1 l_79 f2 (fun mq b => ih mq (Ext.tr E b)) (fun b => hQ (Ext.tr E b)) h
        · have h := it_f hp_81 h
          refine go_iload (n := 4) (by decide +kernel) l_75 f_73 ?_
          refine go_aload_n (n := 0) (by decide +kernel) l_77 f0 ?_
          refine go_getf (x := 24) (ci := 12) (kf := 2) (fin := 1) (t := 2) (by decide +kernel) (by decide +kernel) (by decide +kernel) R_58 f0 (fx_k (c := 12) R_58 (by decide +kernel)) fun v_107 f_108 => ?_
          have f_109 := q_is_eq (b := 7) f_108 (fx_v R_58 (by decide +kernel)).symm
          obtain ⟨x_111, hc_110, h⟩ := bp_s h
          refine go_callV (x := 127) (mi := 326) (n := 0) (ci := 0) (as := []) (rest := [v_69]) (by decide +kernel) (by decide +kernel) rfl rfl (q_sum8 _ (Nat.le_of_ble_eq_true rfl)) R_58 f_109 (fx_k (c := 0) R_58 (by decide +kernel)) (om_Jx4a65c_size_8abf5 (Nat.le_trans (by decide) hd) R_58 (fx_k (c := 0) R_58 (by decide +kernel)) f_109 hc_110) (fun _ S_115 q_118 => ?_) (fun _ _ qq => kr_x qq)
          refine kr_z (by decide) q_118 fun v_113 f_114 R_116 E_117 => ?_
          refine go_icmp (c := .ge) (o := 23) (t := 96) (P := ¬ (x_71 < x_111)) (by decide +kernel) (by decide +kernel) f_73 f_114 (Int.not_lt.symm) (fun hp_119 => ?_) (fun hp_119 => ?_)
          · have h := it_f hp_119 h
            exact oj_X11_bringIn_96 hd R_116 l_77 f0 l_78 f1 l_79 f2 (fun mq b => ih mq (Ext.tr E b)) (fun b => hQ (Ext.tr E b)) h
          · have h := it_n hp_119 h
            refine go_aload_n (n := 0) (by decide +kernel) l_77 f0 ?_
            refine go_getf (x := 24) (ci := 12) (kf := 2) (fin := 1) (t := 2) (by decide +kernel) (by decide +kernel) (by decide +kernel) R_116 f0 (fx_k (c := 12) R_116 (by decide +kernel)) fun v_120 f_121 => ?_
            have f_122 := q_is_eq (b := 7) f_121 (fx_v R_116 (by decide +kernel)).symm
            refine go_iload (n := 4) (by decide +kernel) l_75 f_73 ?_
            obtain ⟨x_124, hc_123, h⟩ := bp_s h
            refine go_callV (x := 305) (mi := 329) (n := 1) (ci := 0) (as := [v_69]) (rest := []) (by decide +kernel) (by decide +kernel) rfl rfl (q_sum8 _ (Nat.le_of_ble_eq_true rfl)) R_116 f_122 (fx_k (c := 0) R_116 (by decide +kernel)) (om_Jx4a65c_get_915e3 (Nat.le_trans (by decide) hd) R_116 (fx_k (c := 0) R_116 (by decide +kernel)) f_122 f_73 hc_123) (fun _ S_128 q_131 => ?_) (fun _ _ qq => kr_x qq)
            refine kr_z (by decide) q_131 fun v_126 f_127 R_129 E_130 => ?_
            obtain ⟨g_132, h⟩ := gd_s h
            refine go_cast (x := 181) (kd := 7) (a := 0) (b := 0) (by decide +kernel) (by decide +kernel) R_129 f_127 g_132 ?_
            refine go_iload_n (n := 3) (by decide +kernel) l_80 f_56 ?_
            refine go_sipush (n := 1000) (z := 1000) (by decide +kernel) (by decide) fun v_133 f_134 => ?_
            refine go_irem (by decide +kernel) f_56 f_134 (by decide) fun v_135 f_136 => ?_
            obtain ⟨m_137, e_138, h⟩ := up_s h
            refine go_putf (x := 501) (ci := 7) (kf := 11) (fin := 0) (zt := 0) (by decide +kernel) (by decide +kernel) (by decide) (by decide +kernel) (by decide) (Or.inl rfl) R_129 f_127 f_136 (fun hq => absurd hq (by decide)) g_132 e_138 (fx_f (j := 11) R_129.2 g_132 (by decide +kernel)) fun S_139 R_140 E_141 => ?_
            have E_142 := Ext.tr E E_141
            exact oj_X11_bringIn_96 hd R_140 l_77 f0 l_78 f1 l_79 f2 (fun mq b => ih mq (Ext.tr E_142 b)) (fun b => hQ (Ext.tr E_142 b)) h
noncomputable def fm_X11_bringIn (p1 : Int) (m0 : MM) : Option ((Int ⊕ Nat) × MM) := if p1 < 1 then
some (.inr 1, mthr m0)
else
if 100 < p1 then
some (.inr 1, mthr m0)
else
fl_X11_bringIn_24 p1  BIG 0 m0
set_option maxHeartbeats 4000000 in
theorem om_X11_bringIn {xs : List Int32} {d : Nat} {S : QS} {m0 : MM} {p1 : Int} {v0 : Value} {v1 : Value} {rr : Int ⊕ Nat} {rm : MM}
  (hd : 4 ≤ d) (R : Rp S m0) (f0 : q_is 2 v0 4) (f1 : q_is 0 v1 p1)
  (h : fm_X11_bringIn p1 m0 = some (rr, rm)) : Mt xs d 135 [v0, v1] S (Cx 0 m0 rm rr) := by
  obtain ⟨d, rfl⟩ : ∃ e, d = e + 1 := ⟨d - 1, by omega⟩
  have hd : 3 ≤ d := Nat.le_of_succ_le_succ hd
  refine Mt.of (M := qM_X11_bringIn) rfl (by rw [sl_1 (q_is_cat f0 (Or.inr rfl)), sl_1 (q_is_cat f1 (Or.inl rfl)), sl_0]; decide) ?_
  rw [la_1 (q_is_cat f0 (Or.inr rfl)), la_1 (q_is_cat f1 (Or.inl rfl)), la_0]
  obtain ⟨L, hL⟩ : ∃ L : QL, L = [(0, v0), (0 + 1, v1)] := ⟨_, rfl⟩
  rw [← hL]
  have l0 : q_lo L 0 = some v0 := by rw [hL]; rfl
  have l1 : q_lo L 1 = some v1 := by rw [hL]; rfl
  have hQ : Ext m0 rm → ∀ o S1, Rp S1 rm → q_oux 0 o rr → (Cx 0 m0 rm rr) o S1 := fun a o S1 b e => ⟨b, a, e⟩
  unfold fm_X11_bringIn at h
  refine go_iload_n (n := 1) (by decide +kernel) l1 f1 ?_
  refine go_iconst (n := 1) (z := 1) (by decide +kernel) (by decide) fun v_1 f_2 => ?_
  refine go_icmp (c := .lt) (o := 9) (t := 11) (P := p1 < 1) (by decide +kernel) (by decide +kernel) f1 f_2 (Iff.rfl) (fun hp_3 => ?_) (fun hp_3 => ?_)
  · have h := it_t hp_3 h
    cases h
    exact go_thr (x := 96) (e := 1) (ic := 100) (b := 0) (by decide +kernel) (by decide +kernel) (by decide +kernel) R rfl fun Sq Rq Eq => hQ Eq _ _ Rq rfl
  · have h := it_f hp_3 h
    refine go_iload_n (n := 1) (by decide +kernel) l1 f1 ?_
    refine go_bipush (n := 100) (z := 100) (by decide +kernel) (by decide) fun v_4 f_5 => ?_
    refine go_icmp (c := .le) (o := 14) (t := 22) (P := ¬ (100 < p1)) (by decide +kernel) (by decide +kernel) f1 f_5 (Int.not_lt.symm) (fun hp_6 => ?_) (fun hp_6 => ?_)
    · have h := it_f hp_6 h
      refine go_iconst (n := 0) (z := 0) (by decide +kernel) (by decide) fun v_7 f_8 => ?_
      refine go_istore_n (n := 2) (by decide +kernel) (by decide +kernel) f_8 fun L_9 l_10 kp_11 => ?_
      have l_12 := kp_11 0 _ l0 (by decide) (Or.inl (by decide))
      have l_13 := kp_11 1 _ l1 (by decide) (Or.inr (q_is_cat f1 (Or.inl rfl)))
      refine ol_X11_bringIn_24 hd   hQ BIG (Ext.rf _) h R l_12 f0 l_13 f1 l_10 f_8
    · have h := it_n hp_6 h
      cases h
      exact go_thr (x := 96) (e := 1) (ic := 100) (b := 0) (by decide +kernel) (by decide +kernel) (by decide +kernel) R rfl fun Sq Rq Eq => hQ Eq _ _ Rq rfl
noncomputable def fl_X11_search_9 (y1 : Int) (m : MM) : Nat → Int → Int → Option ((Int ⊕ Nat) × MM)
  | 0, _, _ => none
  | n + 1, y2, y3 => bp (fm_Jx4a65c_size_8abf5 7 m) fun x_32 =>
if y3 < x_32 then
if y3 < 30 then
bp (fm_Jx4a65c_get_915e3 7 y3 m) fun x_48 =>
gd (okc m x_48 7) <| lx (m x_48 11) fun x_60 =>
if x_60 = y1 then
lx (iOr y2 (iShl 1 y3)) fun x_80 =>
lx (w32 (y3 + 1)) fun x_94 =>
fl_X11_search_9 y1 m n x_80 x_94
else
lx (w32 (y3 + 1)) fun x_68 =>
fl_X11_search_9 y1 m n y2 x_68
else
some (.inl y2, m)
else
some (.inl y2, m)
set_option maxHeartbeats 4000000 in
theorem ol_X11_search_9 {xs : List Int32} {d : Nat} {Q : QO → QS → Prop} {m : MM} {y1 : Int} {rr : Int ⊕ Nat} {rm : MM}
  (hd : 3 ≤ d)
  (hQ : Ext m rm → ∀ o S1, Rp S1 rm → q_oux 0 o rr → Q o S1) :
  ∀ (n : Nat) {S : QS} {L : QL} {y2 y3 : Int} {v0 : Value} {v1 : Value} {v2 : Value} {v3 : Value} , fl_X11_search_9 y1 m n y2 y3 = some (rr, rm) → Rp S m → q_lo L 0 = some v0 → q_is 2 v0 4 → q_lo L 1 = some v1 → q_is 0 v1 y1 → q_lo L 2 = some v2 → q_is 0 v2 y2 → q_lo L 3 = some v3 → q_is 0 v3 y3 → Go xs d qM_X11_search 9 L [] S Q := by
  intro n
  induction n with
  | zero => intro S L y2 y3 v0 v1 v2 v3; intro h R l0 f0 l1 f1 l2 f2 l3 f3; cases h
  | succ n ih0 =>
    intro S L y2 y3 v0 v1 v2 v3; intro h R l0 f0 l1 f1 l2 f2 l3 f3
    have ih : ∀ {z2 : Int} {z3 : Int} {Sq : QS} {Lq : QL} {u0 : Value} {u1 : Value} {u2 : Value} {u3 : Value}, fl_X11_search_9 y1 m n z2 z3 = some (rr, rm) → Rp Sq m → q_lo Lq 0 = some u0 → q_is 2 u0 4 → q_lo Lq 1 = some u1 → q_is 0 u1 y1 → q_lo Lq 2 = some u2 → q_is 0 u2 z2 → q_lo Lq 3 = some u3 → q_is 0 u3 z3 → Go xs d qM_X11_search 9 Lq [] Sq Q := by intros; exact ih0 ‹_› ‹_› ‹_› ‹_› ‹_› ‹_› ‹_› ‹_› ‹_› ‹_›
    unfold fl_X11_search_9 at h
    refine go_iload_n (n := 3) (by decide +kernel) l3 f3 ?_
    refine go_aload_n (n := 0) (by decide +kernel) l0 f0 ?_
    refine go_getf (x := 24) (ci := 12) (kf := 2) (fin := 1) (t := 2) (by decide +kernel) (by decide +kernel) (by decide +kernel) R f0 (fx_k (c := 12) R (by decide +kernel)) fun v_28 f_29 => ?_
    have f_30 := q_is_eq (b := 7) f_29 (fx_v R (by decide +kernel)).symm
    obtain ⟨x_32, hc_31, h⟩ := bp_s h
    refine go_callV (x := 127) (mi := 326) (n := 0) (ci := 0) (as := []) (rest := [v3]) (by decide +kernel) (by decide +kernel) rfl rfl (q_sum8 _ (Nat.le_of_ble_eq_true rfl)) R f_30 (fx_k (c := 0) R (by decide +kernel)) (om_Jx4a65c_size_8abf5 (Nat.le_trans (by decide) hd) R (fx_k (c := 0) R (by decide +kernel)) f_30 hc_31) (fun _ S_36 q_39 => ?_) (fun _ _ qq => kr_x qq)
    refine kr_z (by decide) q_39 fun v_34 f_35 R_37 E_38 => ?_
    refine go_icmp (c := .ge) (o := 39) (t := 56) (P := ¬ (y3 < x_32)) (by decide +kernel) (by decide +kernel) f3 f_35 (Int.not_lt.symm) (fun hp_40 => ?_) (fun hp_40 => ?_)
    · have h := it_f hp_40 h
      refine go_iload_n (n := 2) (by decide +kernel) l2 f2 ?_
      cases h
      exact go_iret (by decide +kernel) rfl (Or.inl rfl) f2 (hQ (Ext.rf _) _ _ R_37 (q_out_v (by decide) f2))
    · have h := it_n hp_40 h
      refine go_iload_n (n := 3) (by decide +kernel) l3 f3 ?_
      refine go_bipush (n := 30) (z := 30) (by decide +kernel) (by decide) fun v_41 f_42 => ?_
      refine go_icmp (c := .ge) (o := 33) (t := 56) (P := ¬ (y3 < 30)) (by decide +kernel) (by decide +kernel) f3 f_42 (Int.not_lt.symm) (fun hp_43 => ?_) (fun hp_43 => ?_)
      · have h := it_f hp_43 h
        refine go_iload_n (n := 2) (by decide +kernel) l2 f2 ?_
        cases h
        exact go_iret (by decide +kernel) rfl (Or.inl rfl) f2 (hQ (Ext.rf _) _ _ R_37 (q_out_v (by decide) f2))
      · have h := it_n hp_43 h
        refine go_aload_n (n := 0) (by decide +kernel) l0 f0 ?_
        refine go_getf (x := 24) (ci := 12) (kf := 2) (fin := 1) (t := 2) (by decide +kernel) (by decide +kernel) (by decide +kernel) R_37 f0 (fx_k (c := 12) R_37 (by decide +kernel)) fun v_44 f_45 => ?_
        have f_46 := q_is_eq (b := 7) f_45 (fx_v R_37 (by decide +kernel)).symm
        refine go_iload_n (n := 3) (by decide +kernel) l3 f3 ?_
        obtain ⟨x_48, hc_47, h⟩ := bp_s h
        refine go_callV (x := 305) (mi := 329) (n := 1) (ci := 0) (as := [v3]) (rest := []) (by decide +kernel) (by decide +kernel) rfl rfl (q_sum8 _ (Nat.le_of_ble_eq_true rfl)) R_37 f_46 (fx_k (c := 0) R_37 (by decide +kernel)) (om_Jx4a65c_get_915e3 (Nat.le_trans (by decide) hd) R_37 (fx_k (c := 0) R_37 (by decide +kernel)) f_46 f3 hc_47) (fun _ S_52 q_55 => ?_) (fun _ _ qq => kr_x qq)
        refine kr_z (by decide) q_55 fun v_50 f_51 R_53 E_54 => ?_
        obtain ⟨g_56, h⟩ := gd_s h
        refine go_cast (x := 181) (kd := 7) (a := 0) (b := 0) (by decide +kernel) (by decide +kernel) R_53 f_51 g_56 ?_
        obtain ⟨x_60, e_61, h⟩ := lx_s h
        refine go_getf (x := 501) (ci := 7) (kf := 11) (fin := 0) (t := 0) (by decide +kernel) (by decide +kernel) (by decide +kernel) R_53 f_51 g_56 fun v_57 f_58 => ?_
        have f_59 := q_is_eq f_58 e_61
        refine go_iload_n (n := 1) (by decide +kernel) l1 f1 ?_
        refine go_icmp (c := .ne) (o := 9) (t := 50) (P := ¬ (x_60 = y1)) (by decide +kernel) (by decide +kernel) f_59 f1 (Iff.rfl) (fun hp_62 => ?_) (fun hp_62 => ?_)
        · have h := it_f hp_62 h
          refine go_iinc (n := 3) (c := 1) (c' := 1) (by decide +kernel) (by decide +kernel) l3 f3 (by decide) fun L_63 v_64 f_65 l_66 kp_67 => ?_
          obtain ⟨x_68, e_69, h⟩ := lx_s h
          have f_70 := q_is_eq f_65 e_69
          have l_71 := kp_67 0 _ l0 (by decide) (Or.inl (by decide))
          have l_72 := kp_67 1 _ l1 (by decide) (Or.inl (by decide))
          have l_73 := kp_67 2 _ l2 (by decide) (Or.inr (q_is_cat f2 (Or.inl rfl)))
          refine go_goto (o := (-44)) (t := 9) (by decide +kernel) (by decide +kernel) ?_
          exact ih h R_53 l_71 f0 l_72 f1 l_73 f2 l_66 f_70
        · have h := it_n hp_62 h
          refine go_iload_n (n := 2) (by decide +kernel) l2 f2 ?_
          refine go_iconst (n := 1) (z := 1) (by decide +kernel) (by decide) fun v_74 f_75 => ?_
          refine go_iload_n (n := 3) (by decide +kernel) l3 f3 ?_
          refine go_ishl (by decide +kernel) f_75 f3 fun v_76 f_77 => ?_
          refine go_ior (by decide +kernel) f2 f_77 fun v_78 f_79 => ?_
          obtain ⟨x_80, e_81, h⟩ := lx_s h
          have f_82 := q_is_eq f_79 e_81
          refine go_istore_n (n := 2) (by decide +kernel) (by decide +kernel) f_82 fun L_83 l_84 kp_85 => ?_
          have l_86 := kp_85 0 _ l0 (by decide) (Or.inl (by decide))
          have l_87 := kp_85 1 _ l1 (by decide) (Or.inr (q_is_cat f1 (Or.inl rfl)))
          have l_88 := kp_85 3 _ l3 (by decide) (Or.inl (by decide))
          refine go_iinc (n := 3) (c := 1) (c' := 1) (by decide +kernel) (by decide +kernel) l_88 f3 (by decide) fun L_89 v_90 f_91 l_92 kp_93 => ?_
          obtain ⟨x_94, e_95, h⟩ := lx_s h
          have f_96 := q_is_eq f_91 e_95
          have l_97 := kp_93 0 _ l_86 (by decide) (Or.inl (by decide))
          have l_98 := kp_93 1 _ l_87 (by decide) (Or.inl (by decide))
          have l_99 := kp_93 2 _ l_84 (by decide) (Or.inr (q_is_cat f_82 (Or.inl rfl)))
          refine go_goto (o := (-44)) (t := 9) (by decide +kernel) (by decide +kernel) ?_
          exact ih h R_53 l_97 f0 l_98 f1 l_99 f_82 l_92 f_96
noncomputable def fm_X11_search (p1 : Int) (m0 : MM) : Option ((Int ⊕ Nat) × MM) := bx (fm_X11_checkValue p1 m0) (fun q_10 m_3 => some (.inr q_10, m_3)) fun x_2 m_3 =>
fl_X11_search_9 p1 m_3  BIG 0 0
set_option maxHeartbeats 4000000 in
theorem om_X11_search {xs : List Int32} {d : Nat} {S : QS} {m0 : MM} {p1 : Int} {v0 : Value} {v1 : Value} {rr : Int ⊕ Nat} {rm : MM}
  (hd : 4 ≤ d) (R : Rp S m0) (f0 : q_is 2 v0 4) (f1 : q_is 0 v1 p1)
  (h : fm_X11_search p1 m0 = some (rr, rm)) : Mt xs d 136 [v0, v1] S (Cx 0 m0 rm rr) := by
  obtain ⟨d, rfl⟩ : ∃ e, d = e + 1 := ⟨d - 1, by omega⟩
  have hd : 3 ≤ d := Nat.le_of_succ_le_succ hd
  refine Mt.of (M := qM_X11_search) rfl (by rw [sl_1 (q_is_cat f0 (Or.inr rfl)), sl_1 (q_is_cat f1 (Or.inl rfl)), sl_0]; decide) ?_
  rw [la_1 (q_is_cat f0 (Or.inr rfl)), la_1 (q_is_cat f1 (Or.inl rfl)), la_0]
  obtain ⟨L, hL⟩ : ∃ L : QL, L = [(0, v0), (0 + 1, v1)] := ⟨_, rfl⟩
  rw [← hL]
  have l0 : q_lo L 0 = some v0 := by rw [hL]; rfl
  have l1 : q_lo L 1 = some v1 := by rw [hL]; rfl
  have hQ : Ext m0 rm → ∀ o S1, Rp S1 rm → q_oux 0 o rr → (Cx 0 m0 rm rr) o S1 := fun a o S1 b e => ⟨b, a, e⟩
  unfold fm_X11_search at h
  refine go_aload_n (n := 0) (by decide +kernel) l0 f0 ?_
  refine go_iload_n (n := 1) (by decide +kernel) l1 f1 ?_
  obtain ⟨rr5, m_3, hc_1, h⟩ := bx_s h
  rcases h with ⟨q_10, rfl, h⟩ | ⟨x_2, rfl, h⟩
  · cases h
    exact go_callV (x := 167) (mi := 147) (n := 1) (ci := 12) (as := [v1]) (rest := []) (by decide +kernel) (by decide +kernel) rfl rfl (q_sum8 _ (Nat.le_of_ble_eq_true rfl)) R f0 (fx_k (c := 12) R (by decide +kernel)) (om_X11_checkValue (Nat.le_trans (by decide) hd) R f0 f1 hc_1) (fun _ _ qq => kx_lx qq) (fun _ _ qq => by
      obtain ⟨rfl, Rq, Eq⟩ := kx_e qq
      exact Or.inl ⟨rfl, hQ Eq _ _ Rq rfl⟩)
  refine go_callV (x := 167) (mi := 147) (n := 1) (ci := 12) (as := [v1]) (rest := []) (by decide +kernel) (by decide +kernel) rfl rfl (q_sum8 _ (Nat.le_of_ble_eq_true rfl)) R f0 (fx_k (c := 12) R (by decide +kernel)) (om_X11_checkValue (Nat.le_trans (by decide) hd) R f0 f1 hc_1) (fun _ S_6 q_9 => ?_) (fun _ _ qq => kr_x (kx_l qq))
  have q_9 := kx_l q_9
  refine kr_v q_9 fun R_7 E_8 => ?_
  have E_12 := E_8
  refine go_iconst (n := 0) (z := 0) (by decide +kernel) (by decide) fun v_13 f_14 => ?_
  refine go_istore_n (n := 2) (by decide +kernel) (by decide +kernel) f_14 fun L_15 l_16 kp_17 => ?_
  have l_18 := kp_17 0 _ l0 (by decide) (Or.inl (by decide))
  have l_19 := kp_17 1 _ l1 (by decide) (Or.inr (q_is_cat f1 (Or.inl rfl)))
  refine go_iconst (n := 0) (z := 0) (by decide +kernel) (by decide) fun v_20 f_21 => ?_
  refine go_istore_n (n := 3) (by decide +kernel) (by decide +kernel) f_21 fun L_22 l_23 kp_24 => ?_
  have l_25 := kp_24 0 _ l_18 (by decide) (Or.inl (by decide))
  have l_26 := kp_24 1 _ l_19 (by decide) (Or.inl (by decide))
  have l_27 := kp_24 2 _ l_16 (by decide) (Or.inr (q_is_cat f_14 (Or.inl rfl)))
  refine ol_X11_search_9 hd   (fun b => hQ (Ext.tr E_12 b)) BIG h R_7 l_25 f0 l_26 f1 l_27 f_14 l_23 f_21
end DF23
