/-! Methods as functions (written by wip/whole/dec.py), 23: X11_schedule, X11_scheduleAt, X11_togglePause, X11_backfill, X11_shift, X11_bringIn, X11_search. -/
section DF23
noncomputable def fm_X11_schedule (p1 p2 p3 p4 : Int) (m0 : MM) : Option ((Int ⊕ Nat) × MM) := bx (fm_X11_typeAt p1 m0) (fun q_10 m_3 => some (.inr q_10, m_3)) fun x_2 m_3 =>
bx (fm_X11_checkTenant p2 m_3) (fun q_34 m_27 => some (.inr q_34, m_27)) fun x_26 m_27 =>
if p3 < 1 then
some (.inr 1, mthr m_27)
else
if 50 < p3 then
some (.inr 1, mthr m_27)
else
if p4 < 0 then
some (.inr 1, mthr m_27)
else
if 3 < p4 then
some (.inr 1, mthr m_27)
else
gd (okc m_27 x_2 11) <| lx (m_27 x_2 0) fun x_55 =>
gd (okc m_27 x_55 0) <| bp (fm_Jx4a65c_isEmpty_aae02 x_55 m_27) fun x_59 =>
if x_59 = 0 then
bp (fm_Jx4a65c_size_8abf5 10 m_27) fun x_72 =>
if x_72 < 4 then
nw m_27 8 9 fun x_86 m_87 =>
lx (m_87 4 14) fun x_102 =>
lx (m_87 4 15) fun x_107 =>
bd (fm_X7_init x_86 p1 p2 p3 p4 (w32 (x_102 + x_107)) m_87) fun x_112 m_113 =>
bd (fm_Jx4a65c_add_9ea2d 10 x_86 m_113) fun x_124 m_125 =>
bp (fm_Jx4a65c_size_8abf5 10 m_125) fun x_139 =>
some (.inl (w32 (x_139 - 1)), m_125)
else
some (.inr 2, mthr m_27)
else
some (.inr 2, mthr m_27)
set_option maxHeartbeats 4000000 in
theorem om_X11_schedule {xs : List Int32} {d : Nat} {S : QS} {m0 : MM} {p1 p2 p3 p4 : Int} {v0 : Value} {v1 : Value} {v2 : Value} {v3 : Value} {v4 : Value} {rr : Int ⊕ Nat} {rm : MM}
  (hd : 9 ≤ d) (R : Rp S m0) (f0 : q_is 2 v0 4) (f1 : q_is 0 v1 p1) (f2 : q_is 0 v2 p2) (f3 : q_is 0 v3 p3) (f4 : q_is 0 v4 p4)
  (h : fm_X11_schedule p1 p2 p3 p4 m0 = some (rr, rm)) : Mt xs d 131 [v0, v1, v2, v3, v4] S (Cx 0 m0 rm rr) := by
  obtain ⟨d, rfl⟩ : ∃ e, d = e + 1 := ⟨d - 1, by omega⟩
  have hd : 8 ≤ d := Nat.le_of_succ_le_succ hd
  refine Mt.of (M := qM_X11_schedule) rfl (by rw [sl_1 (q_is_cat f0 (Or.inr rfl)), sl_1 (q_is_cat f1 (Or.inl rfl)), sl_1 (q_is_cat f2 (Or.inl rfl)), sl_1 (q_is_cat f3 (Or.inl rfl)), sl_1 (q_is_cat f4 (Or.inl rfl)), sl_0]; decide) ?_
  rw [la_1 (q_is_cat f0 (Or.inr rfl)), la_1 (q_is_cat f1 (Or.inl rfl)), la_1 (q_is_cat f2 (Or.inl rfl)), la_1 (q_is_cat f3 (Or.inl rfl)), la_1 (q_is_cat f4 (Or.inl rfl)), la_0]
  obtain ⟨L, hL⟩ : ∃ L : QL, L = [(0, v0), (0 + 1, v1), (0 + 1 + 1, v2), (0 + 1 + 1 + 1, v3), (0 + 1 + 1 + 1 + 1, v4)] := ⟨_, rfl⟩
  rw [← hL]
  have l0 : q_lo L 0 = some v0 := by rw [hL]; rfl
  have l1 : q_lo L 1 = some v1 := by rw [hL]; rfl
  have l2 : q_lo L 2 = some v2 := by rw [hL]; rfl
  have l3 : q_lo L 3 = some v3 := by rw [hL]; rfl
  have l4 : q_lo L 4 = some v4 := by rw [hL]; rfl
  have hQ : Ext m0 rm → ∀ o S1, Rp S1 rm → q_oux 0 o rr → (Cx 0 m0 rm rr) o S1 := fun a o S1 b e => ⟨b, a, e⟩
  unfold fm_X11_schedule at h
  refine go_aload_n (n := 0) (by decide +kernel) l0 f0 ?_
  refine go_iload_n (n := 1) (by decide +kernel) l1 f1 ?_
  obtain ⟨rr5, m_3, hc_1, h⟩ := bx_s h
  rcases h with ⟨q_10, rfl, h⟩ | ⟨x_2, rfl, h⟩
  · cases h
    exact go_callV (x := 86) (mi := 137) (n := 1) (ci := 12) (as := [v1]) (rest := []) (by decide +kernel) (by decide +kernel) rfl rfl (q_sum8 _ (Nat.le_of_ble_eq_true rfl)) R f0 (fx_k (c := 12) R (by decide +kernel)) (om_X11_typeAt (Nat.le_trans (by decide) hd) R f0 f1 hc_1) (fun _ _ qq => kx_lx qq) (fun _ _ qq => by
      obtain ⟨rfl, Rq, Eq⟩ := kx_e qq
      exact Or.inl ⟨rfl, hQ Eq _ _ Rq rfl⟩)
  refine go_callV (x := 86) (mi := 137) (n := 1) (ci := 12) (as := [v1]) (rest := []) (by decide +kernel) (by decide +kernel) rfl rfl (q_sum8 _ (Nat.le_of_ble_eq_true rfl)) R f0 (fx_k (c := 12) R (by decide +kernel)) (om_X11_typeAt (Nat.le_trans (by decide) hd) R f0 f1 hc_1) (fun _ S_6 q_9 => ?_) (fun _ _ qq => kr_x (kx_l qq))
  have q_9 := kx_l q_9
  refine kr_z (by decide) q_9 fun v_4 f_5 R_7 E_8 => ?_
  have E_16 := E_8
  refine go_astore (n := 5) (by decide +kernel) (by decide +kernel) f_5 fun L_17 l_18 kp_19 => ?_
  have l_20 := kp_19 0 _ l0 (by decide) (Or.inl (by decide))
  have l_21 := kp_19 1 _ l1 (by decide) (Or.inl (by decide))
  have l_22 := kp_19 2 _ l2 (by decide) (Or.inl (by decide))
  have l_23 := kp_19 3 _ l3 (by decide) (Or.inl (by decide))
  have l_24 := kp_19 4 _ l4 (by decide) (Or.inr (q_is_cat f4 (Or.inl rfl)))
  refine go_aload_n (n := 0) (by decide +kernel) l_20 f0 ?_
  refine go_iload_n (n := 2) (by decide +kernel) l_22 f2 ?_
  obtain ⟨rr5, m_27, hc_25, h⟩ := bx_s h
  rcases h with ⟨q_34, rfl, h⟩ | ⟨x_26, rfl, h⟩
  · cases h
    exact go_callV (x := 163) (mi := 143) (n := 1) (ci := 12) (as := [v2]) (rest := []) (by decide +kernel) (by decide +kernel) rfl rfl (q_sum8 _ (Nat.le_of_ble_eq_true rfl)) R_7 f0 (fx_k (c := 12) R_7 (by decide +kernel)) (om_X11_checkTenant (Nat.le_trans (by decide) hd) R_7 f0 f2 hc_25) (fun _ _ qq => kx_lx qq) (fun _ _ qq => by
      obtain ⟨rfl, Rq, Eq⟩ := kx_e qq
      exact Or.inl ⟨rfl, hQ (Ext.tr E_16 Eq) _ _ Rq rfl⟩)
  refine go_callV (x := 163) (mi := 143) (n := 1) (ci := 12) (as := [v2]) (rest := []) (by decide +kernel) (by decide +kernel) rfl rfl (q_sum8 _ (Nat.le_of_ble_eq_true rfl)) R_7 f0 (fx_k (c := 12) R_7 (by decide +kernel)) (om_X11_checkTenant (Nat.le_trans (by decide) hd) R_7 f0 f2 hc_25) (fun _ S_30 q_33 => ?_) (fun _ _ qq => kr_x (kx_l qq))
  have q_33 := kx_l q_33
  refine kr_v q_33 fun R_31 E_32 => ?_
  have E_40 := Ext.tr E_16 E_32
  refine go_iload_n (n := 3) (by decide +kernel) l_23 f3 ?_
  refine go_iconst (n := 1) (z := 1) (by decide +kernel) (by decide) fun v_41 f_42 => ?_
  refine go_icmp (c := .lt) (o := 20) (t := 34) (P := p3 < 1) (by decide +kernel) (by decide +kernel) f3 f_42 (Iff.rfl) (fun hp_43 => ?_) (fun hp_43 => ?_)
  · have h := it_t hp_43 h
    cases h
    exact go_thr (x := 96) (e := 1) (ic := 100) (b := 0) (by decide +kernel) (by decide +kernel) (by decide +kernel) R_31 rfl fun Sq Rq Eq => hQ (Ext.tr E_40 Eq) _ _ Rq rfl
  · have h := it_f hp_43 h
    refine go_iload_n (n := 3) (by decide +kernel) l_23 f3 ?_
    refine go_bipush (n := 50) (z := 50) (by decide +kernel) (by decide) fun v_44 f_45 => ?_
    refine go_icmp (c := .gt) (o := 14) (t := 34) (P := 50 < p3) (by decide +kernel) (by decide +kernel) f3 f_45 (Iff.rfl) (fun hp_46 => ?_) (fun hp_46 => ?_)
    · have h := it_t hp_46 h
      cases h
      exact go_thr (x := 96) (e := 1) (ic := 100) (b := 0) (by decide +kernel) (by decide +kernel) (by decide +kernel) R_31 rfl fun Sq Rq Eq => hQ (Ext.tr E_40 Eq) _ _ Rq rfl
    · have h := it_f hp_46 h
      refine go_iload (n := 4) (by decide +kernel) l_24 f4 ?_
      refine go_if (c := .lt) (o := 9) (t := 34) (P := p4 < 0) (by decide +kernel) (by decide +kernel) f4 (Iff.rfl) (fun hp_47 => ?_) (fun hp_47 => ?_)
      · have h := it_t hp_47 h
        cases h
        exact go_thr (x := 96) (e := 1) (ic := 100) (b := 0) (by decide +kernel) (by decide +kernel) (by decide +kernel) R_31 rfl fun Sq Rq Eq => hQ (Ext.tr E_40 Eq) _ _ Rq rfl
      · have h := it_f hp_47 h
        refine go_iload (n := 4) (by decide +kernel) l_24 f4 ?_
        refine go_iconst (n := 3) (z := 3) (by decide +kernel) (by decide) fun v_48 f_49 => ?_
        refine go_icmp (c := .le) (o := 14) (t := 45) (P := ¬ (3 < p4)) (by decide +kernel) (by decide +kernel) f4 f_49 (Int.not_lt.symm) (fun hp_50 => ?_) (fun hp_50 => ?_)
        · have h := it_f hp_50 h
          refine go_aload (n := 5) (by decide +kernel) l_18 f_5 ?_
          obtain ⟨g_53, h⟩ := gd_s h
          obtain ⟨x_55, e_56, h⟩ := lx_s h
          refine go_getf (x := 124) (ci := 11) (kf := 0) (fin := 2) (t := 2) (by decide +kernel) (by decide +kernel) (by decide +kernel) R_31 f_5 g_53 fun v_51 f_52 => ?_
          have f_54 := q_is_eq f_52 e_56
          obtain ⟨g_57, h⟩ := gd_s h
          obtain ⟨x_59, hc_58, h⟩ := bp_s h
          refine go_callV (x := 170) (mi := 327) (n := 0) (ci := 0) (as := []) (rest := []) (by decide +kernel) (by decide +kernel) rfl rfl (q_sum8 _ (Nat.le_of_ble_eq_true rfl)) R_31 f_54 g_57 (om_Jx4a65c_isEmpty_aae02 (Nat.le_trans (by decide) hd) R_31 g_57 f_54 hc_58) (fun _ S_63 q_66 => ?_) (fun _ _ qq => kr_x qq)
          refine kr_z (by decide) q_66 fun v_61 f_62 R_64 E_65 => ?_
          refine go_if (c := .ne) (o := 14) (t := 67) (P := ¬ (x_59 = 0)) (by decide +kernel) (by decide +kernel) f_62 (Iff.rfl) (fun hp_67 => ?_) (fun hp_67 => ?_)
          · have h := it_f hp_67 h
            cases h
            exact go_thr (x := 111) (e := 2) (ic := 115) (b := 0) (by decide +kernel) (by decide +kernel) (by decide +kernel) R_64 rfl fun Sq Rq Eq => hQ (Ext.tr E_40 Eq) _ _ Rq rfl
          · have h := it_n hp_67 h
            refine go_aload_n (n := 0) (by decide +kernel) l_20 f0 ?_
            refine go_getf (x := 34) (ci := 12) (kf := 5) (fin := 1) (t := 2) (by decide +kernel) (by decide +kernel) (by decide +kernel) R_64 f0 (fx_k (c := 12) R_64 (by decide +kernel)) fun v_68 f_69 => ?_
            have f_70 := q_is_eq (b := 10) f_69 (fx_v R_64 (by decide +kernel)).symm
            obtain ⟨x_72, hc_71, h⟩ := bp_s h
            refine go_callV (x := 127) (mi := 326) (n := 0) (ci := 0) (as := []) (rest := []) (by decide +kernel) (by decide +kernel) rfl rfl (q_sum8 _ (Nat.le_of_ble_eq_true rfl)) R_64 f_70 (fx_k (c := 0) R_64 (by decide +kernel)) (om_Jx4a65c_size_8abf5 (Nat.le_trans (by decide) hd) R_64 (fx_k (c := 0) R_64 (by decide +kernel)) f_70 hc_71) (fun _ S_76 q_79 => ?_) (fun _ _ qq => kr_x qq)
            refine kr_z (by decide) q_79 fun v_74 f_75 R_77 E_78 => ?_
            refine go_iconst (n := 4) (z := 4) (by decide +kernel) (by decide) fun v_80 f_81 => ?_
            refine go_icmp (c := .lt) (o := 14) (t := 78) (P := x_72 < 4) (by decide +kernel) (by decide +kernel) f_75 f_81 (Iff.rfl) (fun hp_82 => ?_) (fun hp_82 => ?_)
            · have h := it_t hp_82 h
              refine go_aload_n (n := 0) (by decide +kernel) l_20 f0 ?_
              refine go_getf (x := 34) (ci := 12) (kf := 5) (fin := 1) (t := 2) (by decide +kernel) (by decide +kernel) (by decide +kernel) R_77 f0 (fx_k (c := 12) R_77 (by decide +kernel)) fun v_83 f_84 => ?_
              have f_85 := q_is_eq (b := 10) f_84 (fx_v R_77 (by decide +kernel)).symm
              obtain ⟨x_86, m_87, e_88, e_89, h⟩ := nw_s h
              have g_95 := okc_nw (c := 8) R_77 e_88 e_89
              refine go_new (x := 394) (ci := 8) (n := 9) (b := 0) (by decide +kernel) (by decide +kernel) R_77 e_88 e_89 fun v_90 S_92 f_91 R_93 E_94 => ?_
              have E_98 := Ext.tr E_40 E_94
              refine go_dup (by decide +kernel) f_91 (Or.inr rfl) ?_
              refine go_iload_n (n := 1) (by decide +kernel) l_21 f1 ?_
              refine go_iload_n (n := 2) (by decide +kernel) l_22 f2 ?_
              refine go_iload_n (n := 3) (by decide +kernel) l_23 f3 ?_
              refine go_iload (n := 4) (by decide +kernel) l_24 f4 ?_
              refine go_aload_n (n := 0) (by decide +kernel) l_20 f0 ?_
              obtain ⟨x_102, e_103, h⟩ := lx_s h
              refine go_getf (x := 71) (ci := 12) (kf := 14) (fin := 0) (t := 0) (by decide +kernel) (by decide +kernel) (by decide +kernel) R_93 f0 (fx_k (c := 12) R_93 (by decide +kernel)) fun v_99 f_100 => ?_
              have f_101 := q_is_eq f_100 e_103
              refine go_aload_n (n := 0) (by decide +kernel) l_20 f0 ?_
              obtain ⟨x_107, e_108, h⟩ := lx_s h
              refine go_getf (x := 74) (ci := 12) (kf := 15) (fin := 0) (t := 0) (by decide +kernel) (by decide +kernel) (by decide +kernel) R_93 f0 (fx_k (c := 12) R_93 (by decide +kernel)) fun v_104 f_105 => ?_
              have f_106 := q_is_eq f_105 e_108
              refine go_iadd (by decide +kernel) f_101 f_106 fun v_109 f_110 => ?_
              obtain ⟨x_112, m_113, hc_111, h⟩ := bd_s h
              refine go_callI (x := 476) (mi := 73) (n := 5) (b := 0) (tg := 3) (as := [v1, v2, v3, v4, v_109]) (rest := [v_90, v_83]) (by decide +kernel) (by decide +kernel) (by decide) rfl rfl (q_sum8 _ (Nat.le_of_ble_eq_true rfl)) f_91 (okc_ne g_95) (om_X7_init (Nat.le_trans (by decide) hd) R_93 g_95 f_91 f1 f2 f3 f4 f_110 hc_111) (fun _ S_116 q_119 => ?_) (fun _ _ qq => kr_x qq)
              refine kr_v q_119 fun R_117 E_118 => ?_
              have E_122 := Ext.tr E_98 E_118
              obtain ⟨x_124, m_125, hc_123, h⟩ := bd_s h
              refine go_callV (x := 300) (mi := 331) (n := 1) (ci := 0) (as := [v_90]) (rest := []) (by decide +kernel) (by decide +kernel) rfl rfl (q_sum8 _ (Nat.le_of_ble_eq_true rfl)) R_117 f_85 (fx_k (c := 0) R_117 (by decide +kernel)) (om_Jx4a65c_add_9ea2d (Nat.le_trans (by decide) hd) R_117 (fx_k (c := 0) R_117 (by decide +kernel)) f_85 f_91 hc_123) (fun _ S_128 q_131 => ?_) (fun _ _ qq => kr_x qq)
              refine kr_z (by decide) q_131 fun v_126 f_127 R_129 E_130 => ?_
              have E_134 := Ext.tr E_122 E_130
              refine go_pop (by decide +kernel) f_127 (Or.inl rfl) ?_
              refine go_aload_n (n := 0) (by decide +kernel) l_20 f0 ?_
              refine go_getf (x := 34) (ci := 12) (kf := 5) (fin := 1) (t := 2) (by decide +kernel) (by decide +kernel) (by decide +kernel) R_129 f0 (fx_k (c := 12) R_129 (by decide +kernel)) fun v_135 f_136 => ?_
              have f_137 := q_is_eq (b := 10) f_136 (fx_v R_129 (by decide +kernel)).symm
              obtain ⟨x_139, hc_138, h⟩ := bp_s h
              refine go_callV (x := 127) (mi := 326) (n := 0) (ci := 0) (as := []) (rest := []) (by decide +kernel) (by decide +kernel) rfl rfl (q_sum8 _ (Nat.le_of_ble_eq_true rfl)) R_129 f_137 (fx_k (c := 0) R_129 (by decide +kernel)) (om_Jx4a65c_size_8abf5 (Nat.le_trans (by decide) hd) R_129 (fx_k (c := 0) R_129 (by decide +kernel)) f_137 hc_138) (fun _ S_143 q_146 => ?_) (fun _ _ qq => kr_x qq)
              refine kr_z (by decide) q_146 fun v_141 f_142 R_144 E_145 => ?_
              refine go_iconst (n := 1) (z := 1) (by decide +kernel) (by decide) fun v_147 f_148 => ?_
              refine go_isub (by decide +kernel) f_142 f_148 fun v_149 f_150 => ?_
              cases h
              exact go_iret (by decide +kernel) rfl (Or.inl rfl) f_150 (hQ E_134 _ _ R_144 (q_out_v (by decide) f_150))
            · have h := it_f hp_82 h
              cases h
              exact go_thr (x := 111) (e := 2) (ic := 115) (b := 0) (by decide +kernel) (by decide +kernel) (by decide +kernel) R_77 rfl fun Sq Rq Eq => hQ (Ext.tr E_40 Eq) _ _ Rq rfl
        · have h := it_n hp_50 h
          cases h
          exact go_thr (x := 96) (e := 1) (ic := 100) (b := 0) (by decide +kernel) (by decide +kernel) (by decide +kernel) R_31 rfl fun Sq Rq Eq => hQ (Ext.tr E_40 Eq) _ _ Rq rfl
noncomputable def fm_X11_scheduleAt (p1 : Int) (m0 : MM) : Option ((Int ⊕ Nat) × MM) := if p1 < 0 then
some (.inr 0, mthr m0)
else
bp (fm_Jx4a65c_size_8abf5 10 m0) fun x_6 =>
if p1 < x_6 then
bp (fm_Jx4a65c_get_915e3 10 p1 m0) fun x_19 =>
gd (okc m0 x_19 8) <| some (.inl x_19, m0)
else
some (.inr 0, mthr m0)
set_option maxHeartbeats 4000000 in
theorem om_X11_scheduleAt {xs : List Int32} {d : Nat} {S : QS} {m0 : MM} {p1 : Int} {v0 : Value} {v1 : Value} {rr : Int ⊕ Nat} {rm : MM}
  (hd : 4 ≤ d) (R : Rp S m0) (f0 : q_is 2 v0 4) (f1 : q_is 0 v1 p1)
  (h : fm_X11_scheduleAt p1 m0 = some (rr, rm)) : Mt xs d 141 [v0, v1] S (Cx 2 m0 rm rr) := by
  obtain ⟨d, rfl⟩ : ∃ e, d = e + 1 := ⟨d - 1, by omega⟩
  have hd : 3 ≤ d := Nat.le_of_succ_le_succ hd
  refine Mt.of (M := qM_X11_scheduleAt) rfl (by rw [sl_1 (q_is_cat f0 (Or.inr rfl)), sl_1 (q_is_cat f1 (Or.inl rfl)), sl_0]; decide) ?_
  rw [la_1 (q_is_cat f0 (Or.inr rfl)), la_1 (q_is_cat f1 (Or.inl rfl)), la_0]
  obtain ⟨L, hL⟩ : ∃ L : QL, L = [(0, v0), (0 + 1, v1)] := ⟨_, rfl⟩
  rw [← hL]
  have l0 : q_lo L 0 = some v0 := by rw [hL]; rfl
  have l1 : q_lo L 1 = some v1 := by rw [hL]; rfl
  have hQ : Ext m0 rm → ∀ o S1, Rp S1 rm → q_oux 2 o rr → (Cx 2 m0 rm rr) o S1 := fun a o S1 b e => ⟨b, a, e⟩
  unfold fm_X11_scheduleAt at h
  refine go_iload_n (n := 1) (by decide +kernel) l1 f1 ?_
  refine go_if (c := .lt) (o := 14) (t := 15) (P := p1 < 0) (by decide +kernel) (by decide +kernel) f1 (Iff.rfl) (fun hp_1 => ?_) (fun hp_1 => ?_)
  · have h := it_t hp_1 h
    cases h
    exact go_thr (x := 255) (e := 0) (ic := 259) (b := 0) (by decide +kernel) (by decide +kernel) (by decide +kernel) R rfl fun Sq Rq Eq => hQ Eq _ _ Rq rfl
  · have h := it_f hp_1 h
    refine go_iload_n (n := 1) (by decide +kernel) l1 f1 ?_
    refine go_aload_n (n := 0) (by decide +kernel) l0 f0 ?_
    refine go_getf (x := 34) (ci := 12) (kf := 5) (fin := 1) (t := 2) (by decide +kernel) (by decide +kernel) (by decide +kernel) R f0 (fx_k (c := 12) R (by decide +kernel)) fun v_2 f_3 => ?_
    have f_4 := q_is_eq (b := 10) f_3 (fx_v R (by decide +kernel)).symm
    obtain ⟨x_6, hc_5, h⟩ := bp_s h
    refine go_callV (x := 127) (mi := 326) (n := 0) (ci := 0) (as := []) (rest := [v1]) (by decide +kernel) (by decide +kernel) rfl rfl (q_sum8 _ (Nat.le_of_ble_eq_true rfl)) R f_4 (fx_k (c := 0) R (by decide +kernel)) (om_Jx4a65c_size_8abf5 (Nat.le_trans (by decide) hd) R (fx_k (c := 0) R (by decide +kernel)) f_4 hc_5) (fun _ S_10 q_13 => ?_) (fun _ _ qq => kr_x qq)
    refine kr_z (by decide) q_13 fun v_8 f_9 R_11 E_12 => ?_
    refine go_icmp (c := .lt) (o := 14) (t := 26) (P := p1 < x_6) (by decide +kernel) (by decide +kernel) f1 f_9 (Iff.rfl) (fun hp_14 => ?_) (fun hp_14 => ?_)
    · have h := it_t hp_14 h
      refine go_aload_n (n := 0) (by decide +kernel) l0 f0 ?_
      refine go_getf (x := 34) (ci := 12) (kf := 5) (fin := 1) (t := 2) (by decide +kernel) (by decide +kernel) (by decide +kernel) R_11 f0 (fx_k (c := 12) R_11 (by decide +kernel)) fun v_15 f_16 => ?_
      have f_17 := q_is_eq (b := 10) f_16 (fx_v R_11 (by decide +kernel)).symm
      refine go_iload_n (n := 1) (by decide +kernel) l1 f1 ?_
      obtain ⟨x_19, hc_18, h⟩ := bp_s h
      refine go_callV (x := 305) (mi := 329) (n := 1) (ci := 0) (as := [v1]) (rest := []) (by decide +kernel) (by decide +kernel) rfl rfl (q_sum8 _ (Nat.le_of_ble_eq_true rfl)) R_11 f_17 (fx_k (c := 0) R_11 (by decide +kernel)) (om_Jx4a65c_get_915e3 (Nat.le_trans (by decide) hd) R_11 (fx_k (c := 0) R_11 (by decide +kernel)) f_17 f1 hc_18) (fun _ S_23 q_26 => ?_) (fun _ _ qq => kr_x qq)
      refine kr_z (by decide) q_26 fun v_21 f_22 R_24 E_25 => ?_
      obtain ⟨g_27, h⟩ := gd_s h
      refine go_cast (x := 394) (kd := 8) (a := 0) (b := 0) (by decide +kernel) (by decide +kernel) R_24 f_22 g_27 ?_
      cases h
      exact go_aret (by decide +kernel) rfl rfl f_22 (hQ (Ext.rf _) _ _ R_24 (q_out_v (by decide) f_22))
    · have h := it_f hp_14 h
      cases h
      exact go_thr (x := 255) (e := 0) (ic := 259) (b := 0) (by decide +kernel) (by decide +kernel) (by decide +kernel) R_11 rfl fun Sq Rq Eq => hQ Eq _ _ Rq rfl
noncomputable def fm_X11_togglePause (p1 : Int) (m0 : MM) : Option ((Int ⊕ Nat) × MM) := bx (fm_X11_scheduleAt p1 m0) (fun q_10 m_3 => some (.inr q_10, m_3)) fun x_2 m_3 =>
gd (okc m_3 x_2 8) <| lx (m_3 x_2 5) fun x_24 =>
if x_24 = 0 then
up m_3 x_2 5 1 fun m_45 =>
lx (m_45 x_2 5) fun x_56 =>
gd (x_56 = 0 ∨ x_56 = 1) <| some (.inl x_56, m_45)
else
up m_3 x_2 5 0 fun m_29 =>
lx (m_29 x_2 5) fun x_40 =>
gd (x_40 = 0 ∨ x_40 = 1) <| some (.inl x_40, m_29)
set_option maxHeartbeats 4000000 in
theorem om_X11_togglePause {xs : List Int32} {d : Nat} {S : QS} {m0 : MM} {p1 : Int} {v0 : Value} {v1 : Value} {rr : Int ⊕ Nat} {rm : MM}
  (hd : 5 ≤ d) (R : Rp S m0) (f0 : q_is 2 v0 4) (f1 : q_is 0 v1 p1)
  (h : fm_X11_togglePause p1 m0 = some (rr, rm)) : Mt xs d 132 [v0, v1] S (Cx 0 m0 rm rr) := by
  obtain ⟨d, rfl⟩ : ∃ e, d = e + 1 := ⟨d - 1, by omega⟩
  have hd : 4 ≤ d := Nat.le_of_succ_le_succ hd
  refine Mt.of (M := qM_X11_togglePause) rfl (by rw [sl_1 (q_is_cat f0 (Or.inr rfl)), sl_1 (q_is_cat f1 (Or.inl rfl)), sl_0]; decide) ?_
  rw [la_1 (q_is_cat f0 (Or.inr rfl)), la_1 (q_is_cat f1 (Or.inl rfl)), la_0]
  obtain ⟨L, hL⟩ : ∃ L : QL, L = [(0, v0), (0 + 1, v1)] := ⟨_, rfl⟩
  rw [← hL]
  have l0 : q_lo L 0 = some v0 := by rw [hL]; rfl
  have l1 : q_lo L 1 = some v1 := by rw [hL]; rfl
  have hQ : Ext m0 rm → ∀ o S1, Rp S1 rm → q_oux 0 o rr → (Cx 0 m0 rm rr) o S1 := fun a o S1 b e => ⟨b, a, e⟩
  unfold fm_X11_togglePause at h
  refine go_aload_n (n := 0) (by decide +kernel) l0 f0 ?_
  refine go_iload_n (n := 1) (by decide +kernel) l1 f1 ?_
  obtain ⟨rr5, m_3, hc_1, h⟩ := bx_s h
  rcases h with ⟨q_10, rfl, h⟩ | ⟨x_2, rfl, h⟩
  · cases h
    exact go_callV (x := 479) (mi := 141) (n := 1) (ci := 12) (as := [v1]) (rest := []) (by decide +kernel) (by decide +kernel) rfl rfl (q_sum8 _ (Nat.le_of_ble_eq_true rfl)) R f0 (fx_k (c := 12) R (by decide +kernel)) (om_X11_scheduleAt (Nat.le_trans (by decide) hd) R f0 f1 hc_1) (fun _ _ qq => kx_lx qq) (fun _ _ qq => by
      obtain ⟨rfl, Rq, Eq⟩ := kx_e qq
      exact Or.inl ⟨rfl, hQ Eq _ _ Rq rfl⟩)
  refine go_callV (x := 479) (mi := 141) (n := 1) (ci := 12) (as := [v1]) (rest := []) (by decide +kernel) (by decide +kernel) rfl rfl (q_sum8 _ (Nat.le_of_ble_eq_true rfl)) R f0 (fx_k (c := 12) R (by decide +kernel)) (om_X11_scheduleAt (Nat.le_trans (by decide) hd) R f0 f1 hc_1) (fun _ S_6 q_9 => ?_) (fun _ _ qq => kr_x (kx_l qq))
  have q_9 := kx_l q_9
  refine kr_z (by decide) q_9 fun v_4 f_5 R_7 E_8 => ?_
  have E_16 := E_8
  refine go_astore_n (n := 2) (by decide +kernel) (by decide +kernel) f_5 fun L_17 l_18 kp_19 => ?_
  refine go_aload_n (n := 2) (by decide +kernel) l_18 f_5 ?_
  refine go_aload_n (n := 2) (by decide +kernel) l_18 f_5 ?_
  obtain ⟨g_22, h⟩ := gd_s h
  obtain ⟨x_24, e_25, h⟩ := lx_s h
  refine go_getf (x := 483) (ci := 8) (kf := 5) (fin := 0) (t := 0) (by decide +kernel) (by decide +kernel) (by decide +kernel) R_7 f_5 g_22 fun v_20 f_21 => ?_
  have f_23 := q_is_eq f_21 e_25
  refine go_if (c := .ne) (o := 7) (t := 18) (P := ¬ (x_24 = 0)) (by decide +kernel) (by decide +kernel) f_23 (Iff.rfl) (fun hp_26 => ?_) (fun hp_26 => ?_)
  · have h := it_f hp_26 h
    refine go_iconst (n := 0) (z := 0) (by decide +kernel) (by decide) fun v_27 f_28 => ?_
    obtain ⟨m_29, e_30, h⟩ := up_s h
    refine go_putf (x := 483) (ci := 8) (kf := 5) (fin := 0) (zt := 1) (by decide +kernel) (by decide +kernel) (by decide) (by decide +kernel) (by decide) (Or.inl rfl) R_7 f_5 f_28 (fun _ => by decide) g_22 e_30 (fx_f (j := 5) R_7.2 g_22 (by decide +kernel)) fun S_31 R_32 E_33 => ?_
    have E_35 := Ext.tr E_16 E_33
    refine go_aload_n (n := 2) (by decide +kernel) l_18 f_5 ?_
    have g_38 := Ext.ok E_33 g_22
    obtain ⟨x_40, e_41, h⟩ := lx_s h
    refine go_getf (x := 483) (ci := 8) (kf := 5) (fin := 0) (t := 0) (by decide +kernel) (by decide +kernel) (by decide +kernel) R_32 f_5 g_38 fun v_36 f_37 => ?_
    have f_39 := q_is_eq f_37 e_41
    obtain ⟨g_42, h⟩ := gd_s h
    cases h
    exact go_iret (by decide +kernel) rfl (Or.inr ⟨rfl, g_42⟩) f_39 (hQ E_35 _ _ R_32 (q_out_v (by decide) f_39))
  · have h := it_n hp_26 h
    refine go_iconst (n := 1) (z := 1) (by decide +kernel) (by decide) fun v_43 f_44 => ?_
    refine go_goto (o := 4) (t := 19) (by decide +kernel) (by decide +kernel) ?_
    obtain ⟨m_45, e_46, h⟩ := up_s h
    refine go_putf (x := 483) (ci := 8) (kf := 5) (fin := 0) (zt := 1) (by decide +kernel) (by decide +kernel) (by decide) (by decide +kernel) (by decide) (Or.inl rfl) R_7 f_5 f_44 (fun _ => by decide) g_22 e_46 (fx_f (j := 5) R_7.2 g_22 (by decide +kernel)) fun S_47 R_48 E_49 => ?_
    have E_51 := Ext.tr E_16 E_49
    refine go_aload_n (n := 2) (by decide +kernel) l_18 f_5 ?_
    have g_54 := Ext.ok E_49 g_22
    obtain ⟨x_56, e_57, h⟩ := lx_s h
    refine go_getf (x := 483) (ci := 8) (kf := 5) (fin := 0) (t := 0) (by decide +kernel) (by decide +kernel) (by decide +kernel) R_48 f_5 g_54 fun v_52 f_53 => ?_
    have f_55 := q_is_eq f_53 e_57
    obtain ⟨g_58, h⟩ := gd_s h
    cases h
    exact go_iret (by decide +kernel) rfl (Or.inr ⟨rfl, g_58⟩) f_55 (hQ E_51 _ _ R_48 (q_out_v (by decide) f_55))
noncomputable def fl_X11_backfill_53 (y3 y4 : Int) : Nat → Int → Int → MM → Option ((Int ⊕ Nat) × MM)
  | 0, _, _, _ => none
  | n + 1, y6, y7, m => if y4 < y7 then
some (.inl y6, m)
else
bp (fm_Jx4a65c_size_8abf5 7 m) fun x_89 =>
if x_89 < 30 then
gd (okc m y3 8) <| lx (m y3 0) fun x_104 =>
lx (m y3 1) fun x_109 =>
lx (m y3 2) fun x_114 =>
bp (fm_J9_floorMod_7cf53 (w32 (y7 * x_114)) 1000 m) fun x_121 =>
bd (fm_X11_startRun x_104 x_109 x_121 (-1) 0 m) fun x_134 m_135 =>
lx (w32 (y6 + 1)) fun x_150 =>
lx (w32 (y7 + 1)) fun x_162 =>
fl_X11_backfill_53 y3 y4 n x_150 x_162 m_135
else
some (.inl y6, m)
set_option maxHeartbeats 4000000 in
theorem ol_X11_backfill_53 {xs : List Int32} {d : Nat} {Q : QO → QS → Prop} {mb : MM} {y3 y4 : Int} {rr : Int ⊕ Nat} {rm : MM}
  (hd : 10 ≤ d)
  (hQ : Ext mb rm → ∀ o S1, Rp S1 rm → q_oux 0 o rr → Q o S1) :
  ∀ (n : Nat) {m : MM} {S : QS} {L : QL} {y6 y7 : Int} {v0 : Value} {v3 : Value} {v4 : Value} {v6 : Value} {v7 : Value} , Ext mb m → fl_X11_backfill_53 y3 y4 n y6 y7 m = some (rr, rm) → Rp S m → q_lo L 0 = some v0 → q_is 2 v0 4 → q_lo L 3 = some v3 → q_is 2 v3 y3 → q_lo L 4 = some v4 → q_is 0 v4 y4 → q_lo L 6 = some v6 → q_is 0 v6 y6 → q_lo L 7 = some v7 → q_is 0 v7 y7 → Go xs d qM_X11_backfill 53 L [] S Q := by
  intro n
  induction n with
  | zero => intro m S L y6 y7 v0 v3 v4 v6 v7; intro E h R l0 f0 l3 f3 l4 f4 l6 f6 l7 f7; cases h
  | succ n ih0 =>
    intro m S L y6 y7 v0 v3 v4 v6 v7; intro E h R l0 f0 l3 f3 l4 f4 l6 f6 l7 f7
    have ih : ∀ mq : MM, Ext mb mq → ∀ {z6 : Int} {z7 : Int} {Sq : QS} {Lq : QL} {u0 : Value} {u3 : Value} {u4 : Value} {u6 : Value} {u7 : Value}, fl_X11_backfill_53 y3 y4 n z6 z7 mq = some (rr, rm) → Rp Sq mq → q_lo Lq 0 = some u0 → q_is 2 u0 4 → q_lo Lq 3 = some u3 → q_is 2 u3 y3 → q_lo Lq 4 = some u4 → q_is 0 u4 y4 → q_lo Lq 6 = some u6 → q_is 0 u6 z6 → q_lo Lq 7 = some u7 → q_is 0 u7 z7 → Go xs d qM_X11_backfill 53 Lq [] Sq Q := fun mq b => by intros; exact ih0 b ‹_› ‹_› ‹_› ‹_› ‹_› ‹_› ‹_› ‹_› ‹_› ‹_› ‹_› ‹_›
    unfold fl_X11_backfill_53 at h
    refine go_iload (n := 7) (by decide +kernel) l7 f7 ?_
    refine go_iload (n := 4) (by decide +kernel) l4 f4 ?_
    refine go_icmp (c := .gt) (o := 52) (t := 109) (P := y4 < y7) (by decide +kernel) (by decide +kernel) f7 f4 (Iff.rfl) (fun hp_84 => ?_) (fun hp_84 => ?_)
    · have h := it_t hp_84 h
      refine go_iload (n := 6) (by decide +kernel) l6 f6 ?_
      cases h
      exact go_iret (by decide +kernel) rfl (Or.inl rfl) f6 (hQ E _ _ R (q_out_v (by decide) f6))
    · have h := it_f hp_84 h
      refine go_aload_n (n := 0) (by decide +kernel) l0 f0 ?_
      refine go_getf (x := 24) (ci := 12) (kf := 2) (fin := 1) (t := 2) (by decide +kernel) (by decide +kernel) (by decide +kernel) R f0 (fx_k (c := 12) R (by decide +kernel)) fun v_85 f_86 => ?_
      have f_87 := q_is_eq (b := 7) f_86 (fx_v R (by decide +kernel)).symm
      obtain ⟨x_89, hc_88, h⟩ := bp_s h
      refine go_callV (x := 127) (mi := 326) (n := 0) (ci := 0) (as := []) (rest := []) (by decide +kernel) (by decide +kernel) rfl rfl (q_sum8 _ (Nat.le_of_ble_eq_true rfl)) R f_87 (fx_k (c := 0) R (by decide +kernel)) (om_Jx4a65c_size_8abf5 (Nat.le_trans (by decide) hd) R (fx_k (c := 0) R (by decide +kernel)) f_87 hc_88) (fun _ S_93 q_96 => ?_) (fun _ _ qq => kr_x qq)
      refine kr_z (by decide) q_96 fun v_91 f_92 R_94 E_95 => ?_
      refine go_bipush (n := 30) (z := 30) (by decide +kernel) (by decide) fun v_97 f_98 => ?_
      refine go_icmp (c := .ge) (o := 40) (t := 109) (P := ¬ (x_89 < 30)) (by decide +kernel) (by decide +kernel) f_92 f_98 (Int.not_lt.symm) (fun hp_99 => ?_) (fun hp_99 => ?_)
      · have h := it_f hp_99 h
        refine go_iload (n := 6) (by decide +kernel) l6 f6 ?_
        cases h
        exact go_iret (by decide +kernel) rfl (Or.inl rfl) f6 (hQ E _ _ R_94 (q_out_v (by decide) f6))
      · have h := it_n hp_99 h
        refine go_aload_n (n := 0) (by decide +kernel) l0 f0 ?_
        refine go_aload_n (n := 3) (by decide +kernel) l3 f3 ?_
        obtain ⟨g_102, h⟩ := gd_s h
        obtain ⟨x_104, e_105, h⟩ := lx_s h
        refine go_getf (x := 491) (ci := 8) (kf := 0) (fin := 2) (t := 0) (by decide +kernel) (by decide +kernel) (by decide +kernel) R_94 f3 g_102 fun v_100 f_101 => ?_
        have f_103 := q_is_eq f_101 e_105
        refine go_aload_n (n := 3) (by decide +kernel) l3 f3 ?_
        obtain ⟨x_109, e_110, h⟩ := lx_s h
        refine go_getf (x := 492) (ci := 8) (kf := 1) (fin := 2) (t := 0) (by decide +kernel) (by decide +kernel) (by decide +kernel) R_94 f3 g_102 fun v_106 f_107 => ?_
        have f_108 := q_is_eq f_107 e_110
        refine go_iload (n := 7) (by decide +kernel) l7 f7 ?_
        refine go_aload_n (n := 3) (by decide +kernel) l3 f3 ?_
        obtain ⟨x_114, e_115, h⟩ := lx_s h
        refine go_getf (x := 493) (ci := 8) (kf := 2) (fin := 2) (t := 0) (by decide +kernel) (by decide +kernel) (by decide +kernel) R_94 f3 g_102 fun v_111 f_112 => ?_
        have f_113 := q_is_eq f_112 e_115
        refine go_imul (by decide +kernel) f7 f_113 fun v_116 f_117 => ?_
        refine go_sipush (n := 1000) (z := 1000) (by decide +kernel) (by decide) fun v_118 f_119 => ?_
        obtain ⟨x_121, hc_120, h⟩ := bp_s h
        refine go_callS (x := 496) (mi := 318) (n := 2) (b := 0) (as := [v_116, v_118]) (rest := [v_106, v_100, v0]) (by decide +kernel) (by decide +kernel) rfl rfl (q_sum8 _ (Nat.le_of_ble_eq_true rfl)) (om_J9_floorMod_7cf53 (Nat.le_trans (by decide) hd) R_94 f_117 f_119 hc_120) (fun _ S_125 q_128 => ?_) (fun _ _ qq => kr_x qq)
        refine kr_z (by decide) q_128 fun v_123 f_124 R_126 E_127 => ?_
        refine go_iconst (n := (-1)) (z := (-1)) (by decide +kernel) (by decide) fun v_129 f_130 => ?_
        refine go_iconst (n := 0) (z := 0) (by decide +kernel) (by decide) fun v_131 f_132 => ?_
        obtain ⟨x_134, m_135, hc_133, h⟩ := bd_s h
        refine go_callV (x := 176) (mi := 151) (n := 5) (ci := 12) (as := [v_100, v_106, v_123, v_129, v_131]) (rest := []) (by decide +kernel) (by decide +kernel) rfl rfl (q_sum8 _ (Nat.le_of_ble_eq_true rfl)) R_126 f0 (fx_k (c := 12) R_126 (by decide +kernel)) (om_X11_startRun (Nat.le_trans (by decide) hd) R_126 f0 f_103 f_108 f_124 f_130 f_132 hc_133) (fun _ S_138 q_141 => ?_) (fun _ _ qq => kr_x qq)
        refine kr_z (by decide) q_141 fun v_136 f_137 R_139 E_140 => ?_
        have E_144 := Ext.tr E E_140
        refine go_pop (by decide +kernel) f_137 (Or.inr rfl) ?_
        refine go_iinc (n := 6) (c := 1) (c' := 1) (by decide +kernel) (by decide +kernel) l6 f6 (by decide) fun L_145 v_146 f_147 l_148 kp_149 => ?_
        obtain ⟨x_150, e_151, h⟩ := lx_s h
        have f_152 := q_is_eq f_147 e_151
        have l_153 := kp_149 0 _ l0 (by decide) (Or.inl (by decide))
        have l_154 := kp_149 3 _ l3 (by decide) (Or.inl (by decide))
        have l_155 := kp_149 4 _ l4 (by decide) (Or.inl (by decide))
        have l_156 := kp_149 7 _ l7 (by decide) (Or.inl (by decide))
        refine go_iinc (n := 7) (c := 1) (c' := 1) (by decide +kernel) (by decide +kernel) l_156 f7 (by decide) fun L_157 v_158 f_159 l_160 kp_161 => ?_
        obtain ⟨x_162, e_163, h⟩ := lx_s h
        have f_164 := q_is_eq f_159 e_163
        have l_165 := kp_161 0 _ l_153 (by decide) (Or.inl (by decide))
        have l_166 := kp_161 3 _ l_154 (by decide) (Or.inl (by decide))
        have l_167 := kp_161 4 _ l_155 (by decide) (Or.inl (by decide))
        have l_168 := kp_161 6 _ l_148 (by decide) (Or.inr (q_is_cat f_152 (Or.inl rfl)))
        refine go_goto (o := (-53)) (t := 53) (by decide +kernel) (by decide +kernel) ?_
        exact ih m_135 E_144 h R_139 l_165 f0 l_166 f3 l_167 f4 l_168 f_152 l_160 f_164
noncomputable def fm_X11_backfill (p1 p2 : Int) (m0 : MM) : Option ((Int ⊕ Nat) × MM) := bx (fm_X11_scheduleAt p1 m0) (fun q_10 m_3 => some (.inr q_10, m_3)) fun x_2 m_3 =>
if p2 < 1 then
some (.inr 1, mthr m_3)
else
if 5 < p2 then
some (.inr 1, mthr m_3)
else
gd (okc m_3 x_2 8) <| bp (fm_X7_pointsSoFar x_2 m_3) fun x_30 =>
bp (fm_J9_min_7cf53 p2 x_30 m_3) fun x_45 =>
lx (w32 ((w32 (x_30 - x_45)) + 1)) fun x_74 =>
fl_X11_backfill_53 x_2 x_30  BIG 0 x_74 m_3
set_option maxHeartbeats 4000000 in
theorem om_X11_backfill {xs : List Int32} {d : Nat} {S : QS} {m0 : MM} {p1 p2 : Int} {v0 : Value} {v1 : Value} {v2 : Value} {rr : Int ⊕ Nat} {rm : MM}
  (hd : 11 ≤ d) (R : Rp S m0) (f0 : q_is 2 v0 4) (f1 : q_is 0 v1 p1) (f2 : q_is 0 v2 p2)
  (h : fm_X11_backfill p1 p2 m0 = some (rr, rm)) : Mt xs d 133 [v0, v1, v2] S (Cx 0 m0 rm rr) := by
  obtain ⟨d, rfl⟩ : ∃ e, d = e + 1 := ⟨d - 1, by omega⟩
  have hd : 10 ≤ d := Nat.le_of_succ_le_succ hd
  refine Mt.of (M := qM_X11_backfill) rfl (by rw [sl_1 (q_is_cat f0 (Or.inr rfl)), sl_1 (q_is_cat f1 (Or.inl rfl)), sl_1 (q_is_cat f2 (Or.inl rfl)), sl_0]; decide) ?_
  rw [la_1 (q_is_cat f0 (Or.inr rfl)), la_1 (q_is_cat f1 (Or.inl rfl)), la_1 (q_is_cat f2 (Or.inl rfl)), la_0]
  obtain ⟨L, hL⟩ : ∃ L : QL, L = [(0, v0), (0 + 1, v1), (0 + 1 + 1, v2)] := ⟨_, rfl⟩
  rw [← hL]
  have l0 : q_lo L 0 = some v0 := by rw [hL]; rfl
  have l1 : q_lo L 1 = some v1 := by rw [hL]; rfl
  have l2 : q_lo L 2 = some v2 := by rw [hL]; rfl
  have hQ : Ext m0 rm → ∀ o S1, Rp S1 rm → q_oux 0 o rr → (Cx 0 m0 rm rr) o S1 := fun a o S1 b e => ⟨b, a, e⟩
  unfold fm_X11_backfill at h
  refine go_aload_n (n := 0) (by decide +kernel) l0 f0 ?_
  refine go_iload_n (n := 1) (by decide +kernel) l1 f1 ?_
  obtain ⟨rr5, m_3, hc_1, h⟩ := bx_s h
  rcases h with ⟨q_10, rfl, h⟩ | ⟨x_2, rfl, h⟩
  · cases h
    exact go_callV (x := 479) (mi := 141) (n := 1) (ci := 12) (as := [v1]) (rest := []) (by decide +kernel) (by decide +kernel) rfl rfl (q_sum8 _ (Nat.le_of_ble_eq_true rfl)) R f0 (fx_k (c := 12) R (by decide +kernel)) (om_X11_scheduleAt (Nat.le_trans (by decide) hd) R f0 f1 hc_1) (fun _ _ qq => kx_lx qq) (fun _ _ qq => by
      obtain ⟨rfl, Rq, Eq⟩ := kx_e qq
      exact Or.inl ⟨rfl, hQ Eq _ _ Rq rfl⟩)
  refine go_callV (x := 479) (mi := 141) (n := 1) (ci := 12) (as := [v1]) (rest := []) (by decide +kernel) (by decide +kernel) rfl rfl (q_sum8 _ (Nat.le_of_ble_eq_true rfl)) R f0 (fx_k (c := 12) R (by decide +kernel)) (om_X11_scheduleAt (Nat.le_trans (by decide) hd) R f0 f1 hc_1) (fun _ S_6 q_9 => ?_) (fun _ _ qq => kr_x (kx_l qq))
  have q_9 := kx_l q_9
  refine kr_z (by decide) q_9 fun v_4 f_5 R_7 E_8 => ?_
  have E_16 := E_8
  refine go_astore_n (n := 3) (by decide +kernel) (by decide +kernel) f_5 fun L_17 l_18 kp_19 => ?_
  have l_20 := kp_19 0 _ l0 (by decide) (Or.inl (by decide))
  have l_21 := kp_19 2 _ l2 (by decide) (Or.inr (q_is_cat f2 (Or.inl rfl)))
  refine go_iload_n (n := 2) (by decide +kernel) l_21 f2 ?_
  refine go_iconst (n := 1) (z := 1) (by decide +kernel) (by decide) fun v_22 f_23 => ?_
  refine go_icmp (c := .lt) (o := 8) (t := 16) (P := p2 < 1) (by decide +kernel) (by decide +kernel) f2 f_23 (Iff.rfl) (fun hp_24 => ?_) (fun hp_24 => ?_)
  · have h := it_t hp_24 h
    cases h
    exact go_thr (x := 96) (e := 1) (ic := 100) (b := 0) (by decide +kernel) (by decide +kernel) (by decide +kernel) R_7 rfl fun Sq Rq Eq => hQ (Ext.tr E_16 Eq) _ _ Rq rfl
  · have h := it_f hp_24 h
    refine go_iload_n (n := 2) (by decide +kernel) l_21 f2 ?_
    refine go_iconst (n := 5) (z := 5) (by decide +kernel) (by decide) fun v_25 f_26 => ?_
    refine go_icmp (c := .le) (o := 14) (t := 27) (P := ¬ (5 < p2)) (by decide +kernel) (by decide +kernel) f2 f_26 (Int.not_lt.symm) (fun hp_27 => ?_) (fun hp_27 => ?_)
    · have h := it_f hp_27 h
      refine go_aload_n (n := 3) (by decide +kernel) l_18 f_5 ?_
      obtain ⟨g_28, h⟩ := gd_s h
      obtain ⟨x_30, hc_29, h⟩ := bp_s h
      refine go_callV (x := 488) (mi := 75) (n := 0) (ci := 8) (as := []) (rest := []) (by decide +kernel) (by decide +kernel) rfl rfl (q_sum8 _ (Nat.le_of_ble_eq_true rfl)) R_7 f_5 g_28 (om_X7_pointsSoFar (Nat.le_trans (by decide) hd) R_7 g_28 f_5 hc_29) (fun _ S_34 q_37 => ?_) (fun _ _ qq => kr_x qq)
      refine kr_z (by decide) q_37 fun v_32 f_33 R_35 E_36 => ?_
      refine go_istore (n := 4) (by decide +kernel) (by decide +kernel) f_33 fun L_38 l_39 kp_40 => ?_
      have l_41 := kp_40 0 _ l_20 (by decide) (Or.inl (by decide))
      have l_42 := kp_40 2 _ l_21 (by decide) (Or.inl (by decide))
      have l_43 := kp_40 3 _ l_18 (by decide) (Or.inr (q_is_cat f_5 (Or.inr rfl)))
      refine go_iload_n (n := 2) (by decide +kernel) l_42 f2 ?_
      refine go_iload (n := 4) (by decide +kernel) l_39 f_33 ?_
      obtain ⟨x_45, hc_44, h⟩ := bp_s h
      refine go_callS (x := 446) (mi := 320) (n := 2) (b := 0) (as := [v2, v_32]) (rest := []) (by decide +kernel) (by decide +kernel) rfl rfl (q_sum8 _ (Nat.le_of_ble_eq_true rfl)) (om_J9_min_7cf53 (Nat.le_trans (by decide) hd) R_35 f2 f_33 hc_44) (fun _ S_49 q_52 => ?_) (fun _ _ qq => kr_x qq)
      refine kr_z (by decide) q_52 fun v_47 f_48 R_50 E_51 => ?_
      refine go_istore (n := 5) (by decide +kernel) (by decide +kernel) f_48 fun L_53 l_54 kp_55 => ?_
      have l_56 := kp_55 0 _ l_41 (by decide) (Or.inl (by decide))
      have l_57 := kp_55 3 _ l_43 (by decide) (Or.inl (by decide))
      have l_58 := kp_55 4 _ l_39 (by decide) (Or.inr (q_is_cat f_33 (Or.inl rfl)))
      refine go_iconst (n := 0) (z := 0) (by decide +kernel) (by decide) fun v_59 f_60 => ?_
      refine go_istore (n := 6) (by decide +kernel) (by decide +kernel) f_60 fun L_61 l_62 kp_63 => ?_
      have l_64 := kp_63 0 _ l_56 (by decide) (Or.inl (by decide))
      have l_65 := kp_63 3 _ l_57 (by decide) (Or.inl (by decide))
      have l_66 := kp_63 4 _ l_58 (by decide) (Or.inl (by decide))
      have l_67 := kp_63 5 _ l_54 (by decide) (Or.inr (q_is_cat f_48 (Or.inl rfl)))
      refine go_iload (n := 4) (by decide +kernel) l_66 f_33 ?_
      refine go_iload (n := 5) (by decide +kernel) l_67 f_48 ?_
      refine go_isub (by decide +kernel) f_33 f_48 fun v_68 f_69 => ?_
      refine go_iconst (n := 1) (z := 1) (by decide +kernel) (by decide) fun v_70 f_71 => ?_
      refine go_iadd (by decide +kernel) f_69 f_71 fun v_72 f_73 => ?_
      obtain ⟨x_74, e_75, h⟩ := lx_s h
      have f_76 := q_is_eq f_73 e_75
      refine go_istore (n := 7) (by decide +kernel) (by decide +kernel) f_76 fun L_77 l_78 kp_79 => ?_
      have l_80 := kp_79 0 _ l_64 (by decide) (Or.inl (by decide))
      have l_81 := kp_79 3 _ l_65 (by decide) (Or.inl (by decide))
      have l_82 := kp_79 4 _ l_66 (by decide) (Or.inl (by decide))
      have l_83 := kp_79 6 _ l_62 (by decide) (Or.inr (q_is_cat f_60 (Or.inl rfl)))
      refine ol_X11_backfill_53 hd   (fun b => hQ (Ext.tr E_16 b)) BIG (Ext.rf _) h R_50 l_80 f0 l_81 f_5 l_82 f_33 l_83 f_60 l_78 f_76
    · have h := it_n hp_27 h
      cases h
      exact go_thr (x := 96) (e := 1) (ic := 100) (b := 0) (by decide +kernel) (by decide +kernel) (by decide +kernel) R_7 rfl fun Sq Rq Eq => hQ (Ext.tr E_16 Eq) _ _ Rq rfl
noncomputable def fm_X11_shift (p1 : Int) (m0 : MM) : Option ((Int ⊕ Nat) × MM) := if p1 < (-20) then
some (.inr 1, mthr m0)
else
if 20 < p1 then
some (.inr 1, mthr m0)
else
lx (m0 4 15) fun x_10 =>
up m0 4 15 (w32 (x_10 + p1)) fun m_14 =>
lx (m_14 4 14) fun x_24 =>
lx (m_14 4 15) fun x_29 =>
some (.inl (w32 (x_24 + x_29)), m_14)
set_option maxHeartbeats 4000000 in
theorem om_X11_shift {xs : List Int32} {d : Nat} {S : QS} {m0 : MM} {p1 : Int} {v0 : Value} {v1 : Value} {rr : Int ⊕ Nat} {rm : MM}
  (hd : 1 ≤ d) (R : Rp S m0) (f0 : q_is 2 v0 4) (f1 : q_is 0 v1 p1)
  (h : fm_X11_shift p1 m0 = some (rr, rm)) : Mt xs d 134 [v0, v1] S (Cx 0 m0 rm rr) := by
  obtain ⟨d, rfl⟩ : ∃ e, d = e + 1 := ⟨d - 1, by omega⟩
  have hd : 0 ≤ d := Nat.le_of_succ_le_succ hd
  refine Mt.of (M := qM_X11_shift) rfl (by rw [sl_1 (q_is_cat f0 (Or.inr rfl)), sl_1 (q_is_cat f1 (Or.inl rfl)), sl_0]; decide) ?_
  rw [la_1 (q_is_cat f0 (Or.inr rfl)), la_1 (q_is_cat f1 (Or.inl rfl)), la_0]
  obtain ⟨L, hL⟩ : ∃ L : QL, L = [(0, v0), (0 + 1, v1)] := ⟨_, rfl⟩
  rw [← hL]
  have l0 : q_lo L 0 = some v0 := by rw [hL]; rfl
  have l1 : q_lo L 1 = some v1 := by rw [hL]; rfl
  have hQ : Ext m0 rm → ∀ o S1, Rp S1 rm → q_oux 0 o rr → (Cx 0 m0 rm rr) o S1 := fun a o S1 b e => ⟨b, a, e⟩
  unfold fm_X11_shift at h
  refine go_iload_n (n := 1) (by decide +kernel) l1 f1 ?_
  refine go_bipush (n := (-20)) (z := (-20)) (by decide +kernel) (by decide) fun v_1 f_2 => ?_
  refine go_icmp (c := .lt) (o := 9) (t := 12) (P := p1 < (-20)) (by decide +kernel) (by decide +kernel) f1 f_2 (Iff.rfl) (fun hp_3 => ?_) (fun hp_3 => ?_)
  · have h := it_t hp_3 h
    cases h
    exact go_thr (x := 96) (e := 1) (ic := 100) (b := 0) (by decide +kernel) (by decide +kernel) (by decide +kernel) R rfl fun Sq Rq Eq => hQ Eq _ _ Rq rfl
  · have h := it_f hp_3 h
    refine go_iload_n (n := 1) (by decide +kernel) l1 f1 ?_
    refine go_bipush (n := 20) (z := 20) (by decide +kernel) (by decide) fun v_4 f_5 => ?_
    refine go_icmp (c := .le) (o := 14) (t := 23) (P := ¬ (20 < p1)) (by decide +kernel) (by decide +kernel) f1 f_5 (Int.not_lt.symm) (fun hp_6 => ?_) (fun hp_6 => ?_)
    · have h := it_f hp_6 h
      refine go_aload_n (n := 0) (by decide +kernel) l0 f0 ?_
      refine go_dup (by decide +kernel) f0 (Or.inr rfl) ?_
      obtain ⟨x_10, e_11, h⟩ := lx_s h
      refine go_getf (x := 74) (ci := 12) (kf := 15) (fin := 0) (t := 0) (by decide +kernel) (by decide +kernel) (by decide +kernel) R f0 (fx_k (c := 12) R (by decide +kernel)) fun v_7 f_8 => ?_
      have f_9 := q_is_eq f_8 e_11
      refine go_iload_n (n := 1) (by decide +kernel) l1 f1 ?_
      refine go_iadd (by decide +kernel) f_9 f1 fun v_12 f_13 => ?_
      obtain ⟨m_14, e_15, h⟩ := up_s h
      refine go_putf (x := 74) (ci := 12) (kf := 15) (fin := 0) (zt := 0) (by decide +kernel) (by decide +kernel) (by decide) (by decide +kernel) (by decide) (Or.inl rfl) R f0 f_13 (fun hq => absurd hq (by decide)) (fx_k (c := 12) R (by decide +kernel)) e_15 (fx_f (j := 15) R.2 (fx_k (c := 12) R (by decide +kernel)) (by decide +kernel)) fun S_16 R_17 E_18 => ?_
      have E_20 := E_18
      refine go_aload_n (n := 0) (by decide +kernel) l0 f0 ?_
      obtain ⟨x_24, e_25, h⟩ := lx_s h
      refine go_getf (x := 71) (ci := 12) (kf := 14) (fin := 0) (t := 0) (by decide +kernel) (by decide +kernel) (by decide +kernel) R_17 f0 (fx_k (c := 12) R_17 (by decide +kernel)) fun v_21 f_22 => ?_
      have f_23 := q_is_eq f_22 e_25
      refine go_aload_n (n := 0) (by decide +kernel) l0 f0 ?_
      obtain ⟨x_29, e_30, h⟩ := lx_s h
      refine go_getf (x := 74) (ci := 12) (kf := 15) (fin := 0) (t := 0) (by decide +kernel) (by decide +kernel) (by decide +kernel) R_17 f0 (fx_k (c := 12) R_17 (by decide +kernel)) fun v_26 f_27 => ?_
      have f_28 := q_is_eq f_27 e_30
      refine go_iadd (by decide +kernel) f_23 f_28 fun v_31 f_32 => ?_
      cases h
      exact go_iret (by decide +kernel) rfl (Or.inl rfl) f_32 (hQ E_20 _ _ R_17 (q_out_v (by decide) f_32))
    · have h := it_n hp_6 h
      cases h
      exact go_thr (x := 96) (e := 1) (ic := 100) (b := 0) (by decide +kernel) (by decide +kernel) (by decide +kernel) R rfl fun Sq Rq Eq => hQ Eq _ _ Rq rfl
noncomputable def fj_X11_bringIn_96 (c : Int → MM → Option ((Int ⊕ Nat) × MM)) (y1 y2 : Int) (m : MM) : Option ((Int ⊕ Nat) × MM) := lx (m 4 12) fun x_85 =>
up m 4 12 (w32 (x_85 + 1)) fun m_91 =>
lx (w32 (y2 + 1)) fun x_103 =>
c x_103 m_91
set_option maxHeartbeats 4000000 in
theorem oj_X11_bringIn_96 {xs : List Int32} {d : Nat} {S : QS} {L : QL} {Q : QO → QS → Prop} {m : MM} {y1 y2 : Int} {v0 : Value} {v1 : Value} {v2 : Value}  {rr : Int ⊕ Nat} {rm : MM} {c : Int → MM → Option ((Int ⊕ Nat) × MM)} 
  (hd : 3 ≤ d) (R : Rp S m) (l0 : q_lo L 0 = some v0) (f0 : q_is 2 v0 4) (l1 : q_lo L 1 = some v1) (f1 : q_is 0 v1 y1) (l2 : q_lo L 2 = some v2) (f2 : q_is 0 v2 y2)
  (hc : ∀ mq : MM, Ext m mq → ∀ {z2 : Int} {Sq : QS} {Lq : QL} {u0 : Value} {u1 : Value} {u2 : Value}, c z2 mq = some (rr, rm) → Rp Sq mq → q_lo Lq 0 = some u0 → q_is 2 u0 4 → q_lo Lq 1 = some u1 → q_is 0 u1 y1 → q_lo Lq 2 = some u2 → q_is 0 u2 z2 → Go xs d qM_X11_bringIn 24 Lq [] Sq Q)
  (hQ : Ext m rm → ∀ o S1, Rp S1 rm → q_oux 0 o rr → Q o S1)
  (h : fj_X11_bringIn_96 c y1 y2 m = some (rr, rm)) : Go xs d qM_X11_bringIn 96 L [] S Q := by
  unfold fj_X11_bringIn_96 at h
  refine go_aload_n (n := 0) (by decide +kernel) l0 f0 ?_
  refine go_dup (by decide +kernel) f0 (Or.inr rfl) ?_
  obtain ⟨x_85, e_86, h⟩ := lx_s h
  refine go_getf (x := 65) (ci := 12) (kf := 12) (fin := 0) (t := 0) (by decide +kernel) (by decide +kernel) (by decide +kernel) R f0 (fx_k (c := 12) R (by decide +kernel)) fun v_82 f_83 => ?_
  have f_84 := q_is_eq f_83 e_86
  refine go_iconst (n := 1) (z := 1) (by decide +kernel) (by decide) fun v_87 f_88 => ?_
  refine go_iadd (by decide +kernel) f_84 f_88 fun v_89 f_90 => ?_
  obtain ⟨m_91, e_92, h⟩ := up_s h
  refine go_putf (x := 65) (ci := 12) (kf := 12) (fin := 0) (zt := 0) (by decide +kernel) (by decide +kernel) (by decide) (by decide +kernel) (by decide) (Or.inl rfl) R f0 f_90 (fun hq => absurd hq (by decide)) (fx_k (c := 12) R (by decide +kernel)) e_92 (fx_f (j := 12) R.2 (fx_k (c := 12) R (by decide +kernel)) (by decide +kernel)) fun S_93 R_94 E_95 => ?_
  have E_97 := E_95
  refine go_iinc (n := 2) (c := 1) (c' := 1) (by decide +kernel) (by decide +kernel) l2 f2 (by decide) fun L_98 v_99 f_100 l_101 kp_102 => ?_
  obtain ⟨x_103, e_104, h⟩ := lx_s h
  have f_105 := q_is_eq f_100 e_104
  have l_106 := kp_102 0 _ l0 (by decide) (Or.inl (by decide))
  have l_107 := kp_102 1 _ l1 (by decide) (Or.inr (q_is_cat f1 (Or.inl rfl)))
  refine go_goto (o := (-85)) (t := 24) (by decide +kernel) (by decide +kernel) ?_
  exact hc m_91 E_97 h R_94 l_106 f0 l_107 f1 l_101 f_105
noncomputable def fl_X11_bringIn_24 (y1 : Int) : Nat → Int → MM → Option ((Int ⊕ Nat) × MM)
  | 0, _, _ => none
  | n + 1, y2, m => if y2 < y1 then
lx (m 4 12) fun x_30 =>
lx (m 4 11) fun x_35 =>
if x_30 < x_35 then
bp (fm_X5_at 14 x_30 m) fun x_53 =>
lx (w32 (Int.tdiv x_53 1000)) fun x_71 =>
if x_71 < 0 then
fj_X11_bringIn_96 (fl_X11_bringIn_24 y1 n) y1 y2 m
else
bp (fm_Jx4a65c_size_8abf5 7 m) fun x_112 =>
if x_71 < x_112 then
bp (fm_Jx4a65c_get_915e3 7 x_71 m) fun x_125 =>
gd (okc m x_125 7) <| up m x_125 11 (Int.tmod x_53 1000) fun m_138 =>
fj_X11_bringIn_96 (fl_X11_bringIn_24 y1 n) y1 y2 m_138
else
fj_X11_bringIn_96 (fl_X11_bringIn_24 y1 n) y1 y2 m
else
some (.inl (w32 (x_35 - x_30)), m)
else
lx (m 4 11) fun x_18 =>
lx (m 4 12) fun x_23 =>
some (.inl (w32 (x_18 - x_23)), m)
set_option maxHeartbeats 4000000 in
theorem ol_X11_bringIn_24 {xs : List Int32} {d : Nat} {Q : QO → QS → Prop} {mb : MM} {y1 : Int} {rr : Int ⊕ Nat} {rm : MM}
  (hd : 3 ≤ d)
  (hQ : Ext mb rm → ∀ o S1, Rp S1 rm → q_oux 0 o rr → Q o S1) :
  ∀ (n : Nat) {m : MM} {S : QS} {L : QL} {y2 : Int} {v0 : Value} {v1 : Value} {v2 : Value} , Ext mb m → fl_X11_bringIn_24 y1 n y2 m = some (rr, rm) → Rp S m → q_lo L 0 = some v0 → q_is 2 v0 4 → q_lo L 1 = some v1 → q_is 0 v1 y1 → q_lo L 2 = some v2 → q_is 0 v2 y2 → Go xs d qM_X11_bringIn 24 L [] S Q := by
  intro n
  induction n with
  | zero => intro m S L y2 v0 v1 v2; intro E h R l0 f0 l1 f1 l2 f2; cases h
  | succ n ih0 =>
    intro m S L y2 v0 v1 v2; intro E h R l0 f0 l1 f1 l2 f2
    have ih : ∀ mq : MM, Ext mb mq → ∀ {z2 : Int} {Sq : QS} {Lq : QL} {u0 : Value} {u1 : Value} {u2 : Value}, fl_X11_bringIn_24 y1 n z2 mq = some (rr, rm) → Rp Sq mq → q_lo Lq 0 = some u0 → q_is 2 u0 4 → q_lo Lq 1 = some u1 → q_is 0 u1 y1 → q_lo Lq 2 = some u2 → q_is 0 u2 z2 → Go xs d qM_X11_bringIn 24 Lq [] Sq Q := fun mq b => by intros; exact ih0 b ‹_› ‹_› ‹_› ‹_› ‹_› ‹_› ‹_› ‹_›
    unfold fl_X11_bringIn_24 at h
    refine go_iload_n (n := 2) (by decide +kernel) l2 f2 ?_
    refine go_iload_n (n := 1) (by decide +kernel) l1 f1 ?_
    refine go_icmp (c := .ge) (o := 86) (t := 112) (P := ¬ (y2 < y1)) (by decide +kernel) (by decide +kernel) f2 f1 (Int.not_lt.symm) (fun hp_14 => ?_) (fun hp_14 => ?_)
    · have h := it_f hp_14 h
      refine go_aload_n (n := 0) (by decide +kernel) l0 f0 ?_
      obtain ⟨x_18, e_19, h⟩ := lx_s h
      refine go_getf (x := 61) (ci := 12) (kf := 11) (fin := 0) (t := 0) (by decide +kernel) (by decide +kernel) (by decide +kernel) R f0 (fx_k (c := 12) R (by decide +kernel)) fun v_15 f_16 => ?_
      have f_17 := q_is_eq f_16 e_19
      refine go_aload_n (n := 0) (by decide +kernel) l0 f0 ?_
      obtain ⟨x_23, e_24, h⟩ := lx_s h
      refine go_getf (x := 65) (ci := 12) (kf := 12) (fin := 0) (t := 0) (by decide +kernel) (by decide +kernel) (by decide +kernel) R f0 (fx_k (c := 12) R (by decide +kernel)) fun v_20 f_21 => ?_
      have f_22 := q_is_eq f_21 e_24
      refine go_isub (by decide +kernel) f_17 f_22 fun v_25 f_26 => ?_
      cases h
      exact go_iret (by decide +kernel) rfl (Or.inl rfl) f_26 (hQ E _ _ R (q_out_v (by decide) f_26))
    · have h := it_n hp_14 h
      refine go_aload_n (n := 0) (by decide +kernel) l0 f0 ?_
      obtain ⟨x_30, e_31, h⟩ := lx_s h
      refine go_getf (x := 65) (ci := 12) (kf := 12) (fin := 0) (t := 0) (by decide +kernel) (by decide +kernel) (by decide +kernel) R f0 (fx_k (c := 12) R (by decide +kernel)) fun v_27 f_28 => ?_
      have f_29 := q_is_eq f_28 e_31
      refine go_aload_n (n := 0) (by decide +kernel) l0 f0 ?_
      obtain ⟨x_35, e_36, h⟩ := lx_s h
      refine go_getf (x := 61) (ci := 12) (kf := 11) (fin := 0) (t := 0) (by decide +kernel) (by decide +kernel) (by decide +kernel) R f0 (fx_k (c := 12) R (by decide +kernel)) fun v_32 f_33 => ?_
      have f_34 := q_is_eq f_33 e_36
      refine go_icmp (c := .ge) (o := 75) (t := 112) (P := ¬ (x_30 < x_35)) (by decide +kernel) (by decide +kernel) f_29 f_34 (Int.not_lt.symm) (fun hp_37 => ?_) (fun hp_37 => ?_)
      · have h := it_f hp_37 h
        refine go_aload_n (n := 0) (by decide +kernel) l0 f0 ?_
        refine go_getf (x := 61) (ci := 12) (kf := 11) (fin := 0) (t := 0) (by decide +kernel) (by decide +kernel) (by decide +kernel) R f0 (fx_k (c := 12) R (by decide +kernel)) fun v_38 f_39 => ?_
        have f_40 := q_is_eq f_39 e_36
        refine go_aload_n (n := 0) (by decide +kernel) l0 f0 ?_
        refine go_getf (x := 65) (ci := 12) (kf := 12) (fin := 0) (t := 0) (by decide +kernel) (by decide +kernel) (by decide +kernel) R f0 (fx_k (c := 12) R (by decide +kernel)) fun v_41 f_42 => ?_
        have f_43 := q_is_eq f_42 e_31
        refine go_isub (by decide +kernel) f_40 f_43 fun v_44 f_45 => ?_
        cases h
        exact go_iret (by decide +kernel) rfl (Or.inl rfl) f_45 (hQ E _ _ R (q_out_v (by decide) f_45))
      · have h := it_n hp_37 h
        refine go_aload_n (n := 0) (by decide +kernel) l0 f0 ?_
        refine go_getf (x := 50) (ci := 12) (kf := 9) (fin := 1) (t := 2) (by decide +kernel) (by decide +kernel) (by decide +kernel) R f0 (fx_k (c := 12) R (by decide +kernel)) fun v_46 f_47 => ?_
        have f_48 := q_is_eq (b := 14) f_47 (fx_v R (by decide +kernel)).symm
        refine go_aload_n (n := 0) (by decide +kernel) l0 f0 ?_
        refine go_getf (x := 65) (ci := 12) (kf := 12) (fin := 0) (t := 0) (by decide +kernel) (by decide +kernel) (by decide +kernel) R f0 (fx_k (c := 12) R (by decide +kernel)) fun v_49 f_50 => ?_
        have f_51 := q_is_eq f_50 e_31
        obtain ⟨x_53, hc_52, h⟩ := bp_s h
        refine go_callV (x := 466) (mi := 59) (n := 1) (ci := 6) (as := [v_49]) (rest := []) (by decide +kernel) (by decide +kernel) rfl rfl (q_sum8 _ (Nat.le_of_ble_eq_true rfl)) R f_48 (fx_k (c := 6) R (by decide +kernel)) (om_X5_at (Nat.le_trans (by decide) hd) R (fx_k (c := 6) R (by decide +kernel)) f_48 f_51 hc_52) (fun _ S_57 q_60 => ?_) (fun _ _ qq => kr_x qq)
        refine kr_z (by decide) q_60 fun v_55 f_56 R_58 E_59 => ?_
        refine go_istore_n (n := 3) (by decide +kernel) (by decide +kernel) f_56 fun L_61 l_62 kp_63 => ?_
        have l_64 := kp_63 0 _ l0 (by decide) (Or.inl (by decide))
        have l_65 := kp_63 1 _ l1 (by decide) (Or.inl (by decide))
        have l_66 := kp_63 2 _ l2 (by decide) (Or.inr (q_is_cat f2 (Or.inl rfl)))
        refine go_iload_n (n := 3) (by decide +kernel) l_62 f_56 ?_
        refine go_sipush (n := 1000) (z := 1000) (by decide +kernel) (by decide) fun v_67 f_68 => ?_
        refine go_idiv (by decide +kernel) f_56 f_68 (by decide) fun v_69 f_70 => ?_
        obtain ⟨x_71, e_72, h⟩ := lx_s h
        have f_73 := q_is_eq f_70 e_72
        refine go_istore (n := 4) (by decide +kernel) (by decide +kernel) f_73 fun L_74 l_75 kp_76 => ?_
        have l_77 := kp_76 0 _ l_64 (by decide) (Or.inl (by decide))
        have l_78 := kp_76 1 _ l_65 (by decide) (Or.inl (by decide))
        have l_79 := kp_76 2 _ l_66 (by decide) (Or.inl (by decide))
        have l_80 := kp_76 3 _ l_62 (by decide) (Or.inr (q_is_cat f_56 (Or.inl rfl)))
        refine go_iload (n := 4) (by decide +kernel) l_75 f_73 ?_
        refine go_if (c := .lt) (o := 35) (t := 96) (P := x_71 < 0) (by decide +kernel) (by decide +kernel) f_73 (Iff.rfl) (fun hp_81 => ?_) (fun hp_81 => ?_)
        · have h := it_t hp_81 h
          exact oj_X11_bringIn_96 hd R_58 l_77 f0 l_78 f1 l_79 f2 (fun mq b => ih mq (Ext.tr E b)) (fun b => hQ (Ext.tr E b)) h
        · have h := it_f hp_81 h
          refine go_iload (n := 4) (by decide +kernel) l_75 f_73 ?_
          refine go_aload_n (n := 0) (by decide +kernel) l_77 f0 ?_
          refine go_getf (x := 24) (ci := 12) (kf := 2) (fin := 1) (t := 2) (by decide +kernel) (by decide +kernel) (by decide +kernel) R_58 f0 (fx_k (c := 12) R_58 (by decide +kernel)) fun v_108 f_109 => ?_
          have f_110 := q_is_eq (b := 7) f_109 (fx_v R_58 (by decide +kernel)).symm
          obtain ⟨x_112, hc_111, h⟩ := bp_s h
          refine go_callV (x := 127) (mi := 326) (n := 0) (ci := 0) (as := []) (rest := [v_69]) (by decide +kernel) (by decide +kernel) rfl rfl (q_sum8 _ (Nat.le_of_ble_eq_true rfl)) R_58 f_110 (fx_k (c := 0) R_58 (by decide +kernel)) (om_Jx4a65c_size_8abf5 (Nat.le_trans (by decide) hd) R_58 (fx_k (c := 0) R_58 (by decide +kernel)) f_110 hc_111) (fun _ S_116 q_119 => ?_) (fun _ _ qq => kr_x qq)
          refine kr_z (by decide) q_119 fun v_114 f_115 R_117 E_118 => ?_
          refine go_icmp (c := .ge) (o := 23) (t := 96) (P := ¬ (x_71 < x_112)) (by decide +kernel) (by decide +kernel) f_73 f_115 (Int.not_lt.symm) (fun hp_120 => ?_) (fun hp_120 => ?_)
          · have h := it_f hp_120 h
            exact oj_X11_bringIn_96 hd R_117 l_77 f0 l_78 f1 l_79 f2 (fun mq b => ih mq (Ext.tr E b)) (fun b => hQ (Ext.tr E b)) h
          · have h := it_n hp_120 h
            refine go_aload_n (n := 0) (by decide +kernel) l_77 f0 ?_
            refine go_getf (x := 24) (ci := 12) (kf := 2) (fin := 1) (t := 2) (by decide +kernel) (by decide +kernel) (by decide +kernel) R_117 f0 (fx_k (c := 12) R_117 (by decide +kernel)) fun v_121 f_122 => ?_
            have f_123 := q_is_eq (b := 7) f_122 (fx_v R_117 (by decide +kernel)).symm
            refine go_iload (n := 4) (by decide +kernel) l_75 f_73 ?_
            obtain ⟨x_125, hc_124, h⟩ := bp_s h
            refine go_callV (x := 305) (mi := 329) (n := 1) (ci := 0) (as := [v_69]) (rest := []) (by decide +kernel) (by decide +kernel) rfl rfl (q_sum8 _ (Nat.le_of_ble_eq_true rfl)) R_117 f_123 (fx_k (c := 0) R_117 (by decide +kernel)) (om_Jx4a65c_get_915e3 (Nat.le_trans (by decide) hd) R_117 (fx_k (c := 0) R_117 (by decide +kernel)) f_123 f_73 hc_124) (fun _ S_129 q_132 => ?_) (fun _ _ qq => kr_x qq)
            refine kr_z (by decide) q_132 fun v_127 f_128 R_130 E_131 => ?_
            obtain ⟨g_133, h⟩ := gd_s h
            refine go_cast (x := 181) (kd := 7) (a := 0) (b := 0) (by decide +kernel) (by decide +kernel) R_130 f_128 g_133 ?_
            refine go_iload_n (n := 3) (by decide +kernel) l_80 f_56 ?_
            refine go_sipush (n := 1000) (z := 1000) (by decide +kernel) (by decide) fun v_134 f_135 => ?_
            refine go_irem (by decide +kernel) f_56 f_135 (by decide) fun v_136 f_137 => ?_
            obtain ⟨m_138, e_139, h⟩ := up_s h
            refine go_putf (x := 501) (ci := 7) (kf := 11) (fin := 0) (zt := 0) (by decide +kernel) (by decide +kernel) (by decide) (by decide +kernel) (by decide) (Or.inl rfl) R_130 f_128 f_137 (fun hq => absurd hq (by decide)) g_133 e_139 (fx_f (j := 11) R_130.2 g_133 (by decide +kernel)) fun S_140 R_141 E_142 => ?_
            have E_144 := Ext.tr E E_142
            exact oj_X11_bringIn_96 hd R_141 l_77 f0 l_78 f1 l_79 f2 (fun mq b => ih mq (Ext.tr E_144 b)) (fun b => hQ (Ext.tr E_144 b)) h
noncomputable def fm_X11_bringIn (p1 : Int) (m0 : MM) : Option ((Int ⊕ Nat) × MM) := if p1 < 1 then
some (.inr 1, mthr m0)
else
if 100 < p1 then
some (.inr 1, mthr m0)
else
fl_X11_bringIn_24 p1  BIG 0 m0
set_option maxHeartbeats 4000000 in
theorem om_X11_bringIn {xs : List Int32} {d : Nat} {S : QS} {m0 : MM} {p1 : Int} {v0 : Value} {v1 : Value} {rr : Int ⊕ Nat} {rm : MM}
  (hd : 4 ≤ d) (R : Rp S m0) (f0 : q_is 2 v0 4) (f1 : q_is 0 v1 p1)
  (h : fm_X11_bringIn p1 m0 = some (rr, rm)) : Mt xs d 135 [v0, v1] S (Cx 0 m0 rm rr) := by
  obtain ⟨d, rfl⟩ : ∃ e, d = e + 1 := ⟨d - 1, by omega⟩
  have hd : 3 ≤ d := Nat.le_of_succ_le_succ hd
  refine Mt.of (M := qM_X11_bringIn) rfl (by rw [sl_1 (q_is_cat f0 (Or.inr rfl)), sl_1 (q_is_cat f1 (Or.inl rfl)), sl_0]; decide) ?_
  rw [la_1 (q_is_cat f0 (Or.inr rfl)), la_1 (q_is_cat f1 (Or.inl rfl)), la_0]
  obtain ⟨L, hL⟩ : ∃ L : QL, L = [(0, v0), (0 + 1, v1)] := ⟨_, rfl⟩
  rw [← hL]
  have l0 : q_lo L 0 = some v0 := by rw [hL]; rfl
  have l1 : q_lo L 1 = some v1 := by rw [hL]; rfl
  have hQ : Ext m0 rm → ∀ o S1, Rp S1 rm → q_oux 0 o rr → (Cx 0 m0 rm rr) o S1 := fun a o S1 b e => ⟨b, a, e⟩
  unfold fm_X11_bringIn at h
  refine go_iload_n (n := 1) (by decide +kernel) l1 f1 ?_
  refine go_iconst (n := 1) (z := 1) (by decide +kernel) (by decide) fun v_1 f_2 => ?_
  refine go_icmp (c := .lt) (o := 9) (t := 11) (P := p1 < 1) (by decide +kernel) (by decide +kernel) f1 f_2 (Iff.rfl) (fun hp_3 => ?_) (fun hp_3 => ?_)
  · have h := it_t hp_3 h
    cases h
    exact go_thr (x := 96) (e := 1) (ic := 100) (b := 0) (by decide +kernel) (by decide +kernel) (by decide +kernel) R rfl fun Sq Rq Eq => hQ Eq _ _ Rq rfl
  · have h := it_f hp_3 h
    refine go_iload_n (n := 1) (by decide +kernel) l1 f1 ?_
    refine go_bipush (n := 100) (z := 100) (by decide +kernel) (by decide) fun v_4 f_5 => ?_
    refine go_icmp (c := .le) (o := 14) (t := 22) (P := ¬ (100 < p1)) (by decide +kernel) (by decide +kernel) f1 f_5 (Int.not_lt.symm) (fun hp_6 => ?_) (fun hp_6 => ?_)
    · have h := it_f hp_6 h
      refine go_iconst (n := 0) (z := 0) (by decide +kernel) (by decide) fun v_7 f_8 => ?_
      refine go_istore_n (n := 2) (by decide +kernel) (by decide +kernel) f_8 fun L_9 l_10 kp_11 => ?_
      have l_12 := kp_11 0 _ l0 (by decide) (Or.inl (by decide))
      have l_13 := kp_11 1 _ l1 (by decide) (Or.inr (q_is_cat f1 (Or.inl rfl)))
      refine ol_X11_bringIn_24 hd   hQ BIG (Ext.rf _) h R l_12 f0 l_13 f1 l_10 f_8
    · have h := it_n hp_6 h
      cases h
      exact go_thr (x := 96) (e := 1) (ic := 100) (b := 0) (by decide +kernel) (by decide +kernel) (by decide +kernel) R rfl fun Sq Rq Eq => hQ Eq _ _ Rq rfl
noncomputable def fl_X11_search_9 (y1 : Int) (m : MM) : Nat → Int → Int → Option ((Int ⊕ Nat) × MM)
  | 0, _, _ => none
  | n + 1, y2, y3 => bp (fm_Jx4a65c_size_8abf5 7 m) fun x_36 =>
if y3 < x_36 then
if y3 < 30 then
bp (fm_Jx4a65c_get_915e3 7 y3 m) fun x_52 =>
gd (okc m x_52 7) <| lx (m x_52 11) fun x_64 =>
if x_64 = y1 then
lx (iOr y2 (iShl 1 y3)) fun x_84 =>
lx (w32 (y3 + 1)) fun x_98 =>
fl_X11_search_9 y1 m n x_84 x_98
else
lx (w32 (y3 + 1)) fun x_72 =>
fl_X11_search_9 y1 m n y2 x_72
else
some (.inl y2, m)
else
some (.inl y2, m)
set_option maxHeartbeats 4000000 in
theorem ol_X11_search_9 {xs : List Int32} {d : Nat} {Q : QO → QS → Prop} {m : MM} {y1 : Int} {rr : Int ⊕ Nat} {rm : MM}
  (hd : 3 ≤ d)
  (hQ : Ext m rm → ∀ o S1, Rp S1 rm → q_oux 0 o rr → Q o S1) :
  ∀ (n : Nat) {S : QS} {L : QL} {y2 y3 : Int} {v0 : Value} {v1 : Value} {v2 : Value} {v3 : Value} , fl_X11_search_9 y1 m n y2 y3 = some (rr, rm) → Rp S m → q_lo L 0 = some v0 → q_is 2 v0 4 → q_lo L 1 = some v1 → q_is 0 v1 y1 → q_lo L 2 = some v2 → q_is 0 v2 y2 → q_lo L 3 = some v3 → q_is 0 v3 y3 → Go xs d qM_X11_search 9 L [] S Q := by
  intro n
  induction n with
  | zero => intro S L y2 y3 v0 v1 v2 v3; intro h R l0 f0 l1 f1 l2 f2 l3 f3; cases h
  | succ n ih0 =>
    intro S L y2 y3 v0 v1 v2 v3; intro h R l0 f0 l1 f1 l2 f2 l3 f3
    have ih : ∀ {z2 : Int} {z3 : Int} {Sq : QS} {Lq : QL} {u0 : Value} {u1 : Value} {u2 : Value} {u3 : Value}, fl_X11_search_9 y1 m n z2 z3 = some (rr, rm) → Rp Sq m → q_lo Lq 0 = some u0 → q_is 2 u0 4 → q_lo Lq 1 = some u1 → q_is 0 u1 y1 → q_lo Lq 2 = some u2 → q_is 0 u2 z2 → q_lo Lq 3 = some u3 → q_is 0 u3 z3 → Go xs d qM_X11_search 9 Lq [] Sq Q := by intros; exact ih0 ‹_› ‹_› ‹_› ‹_› ‹_› ‹_› ‹_› ‹_› ‹_› ‹_›
    unfold fl_X11_search_9 at h
    refine go_iload_n (n := 3) (by decide +kernel) l3 f3 ?_
    refine go_aload_n (n := 0) (by decide +kernel) l0 f0 ?_
    refine go_getf (x := 24) (ci := 12) (kf := 2) (fin := 1) (t := 2) (by decide +kernel) (by decide +kernel) (by decide +kernel) R f0 (fx_k (c := 12) R (by decide +kernel)) fun v_32 f_33 => ?_
    have f_34 := q_is_eq (b := 7) f_33 (fx_v R (by decide +kernel)).symm
    obtain ⟨x_36, hc_35, h⟩ := bp_s h
    refine go_callV (x := 127) (mi := 326) (n := 0) (ci := 0) (as := []) (rest := [v3]) (by decide +kernel) (by decide +kernel) rfl rfl (q_sum8 _ (Nat.le_of_ble_eq_true rfl)) R f_34 (fx_k (c := 0) R (by decide +kernel)) (om_Jx4a65c_size_8abf5 (Nat.le_trans (by decide) hd) R (fx_k (c := 0) R (by decide +kernel)) f_34 hc_35) (fun _ S_40 q_43 => ?_) (fun _ _ qq => kr_x qq)
    refine kr_z (by decide) q_43 fun v_38 f_39 R_41 E_42 => ?_
    refine go_icmp (c := .ge) (o := 39) (t := 56) (P := ¬ (y3 < x_36)) (by decide +kernel) (by decide +kernel) f3 f_39 (Int.not_lt.symm) (fun hp_44 => ?_) (fun hp_44 => ?_)
    · have h := it_f hp_44 h
      refine go_iload_n (n := 2) (by decide +kernel) l2 f2 ?_
      cases h
      exact go_iret (by decide +kernel) rfl (Or.inl rfl) f2 (hQ (Ext.rf _) _ _ R_41 (q_out_v (by decide) f2))
    · have h := it_n hp_44 h
      refine go_iload_n (n := 3) (by decide +kernel) l3 f3 ?_
      refine go_bipush (n := 30) (z := 30) (by decide +kernel) (by decide) fun v_45 f_46 => ?_
      refine go_icmp (c := .ge) (o := 33) (t := 56) (P := ¬ (y3 < 30)) (by decide +kernel) (by decide +kernel) f3 f_46 (Int.not_lt.symm) (fun hp_47 => ?_) (fun hp_47 => ?_)
      · have h := it_f hp_47 h
        refine go_iload_n (n := 2) (by decide +kernel) l2 f2 ?_
        cases h
        exact go_iret (by decide +kernel) rfl (Or.inl rfl) f2 (hQ (Ext.rf _) _ _ R_41 (q_out_v (by decide) f2))
      · have h := it_n hp_47 h
        refine go_aload_n (n := 0) (by decide +kernel) l0 f0 ?_
        refine go_getf (x := 24) (ci := 12) (kf := 2) (fin := 1) (t := 2) (by decide +kernel) (by decide +kernel) (by decide +kernel) R_41 f0 (fx_k (c := 12) R_41 (by decide +kernel)) fun v_48 f_49 => ?_
        have f_50 := q_is_eq (b := 7) f_49 (fx_v R_41 (by decide +kernel)).symm
        refine go_iload_n (n := 3) (by decide +kernel) l3 f3 ?_
        obtain ⟨x_52, hc_51, h⟩ := bp_s h
        refine go_callV (x := 305) (mi := 329) (n := 1) (ci := 0) (as := [v3]) (rest := []) (by decide +kernel) (by decide +kernel) rfl rfl (q_sum8 _ (Nat.le_of_ble_eq_true rfl)) R_41 f_50 (fx_k (c := 0) R_41 (by decide +kernel)) (om_Jx4a65c_get_915e3 (Nat.le_trans (by decide) hd) R_41 (fx_k (c := 0) R_41 (by decide +kernel)) f_50 f3 hc_51) (fun _ S_56 q_59 => ?_) (fun _ _ qq => kr_x qq)
        refine kr_z (by decide) q_59 fun v_54 f_55 R_57 E_58 => ?_
        obtain ⟨g_60, h⟩ := gd_s h
        refine go_cast (x := 181) (kd := 7) (a := 0) (b := 0) (by decide +kernel) (by decide +kernel) R_57 f_55 g_60 ?_
        obtain ⟨x_64, e_65, h⟩ := lx_s h
        refine go_getf (x := 501) (ci := 7) (kf := 11) (fin := 0) (t := 0) (by decide +kernel) (by decide +kernel) (by decide +kernel) R_57 f_55 g_60 fun v_61 f_62 => ?_
        have f_63 := q_is_eq f_62 e_65
        refine go_iload_n (n := 1) (by decide +kernel) l1 f1 ?_
        refine go_icmp (c := .ne) (o := 9) (t := 50) (P := ¬ (x_64 = y1)) (by decide +kernel) (by decide +kernel) f_63 f1 (Iff.rfl) (fun hp_66 => ?_) (fun hp_66 => ?_)
        · have h := it_f hp_66 h
          refine go_iinc (n := 3) (c := 1) (c' := 1) (by decide +kernel) (by decide +kernel) l3 f3 (by decide) fun L_67 v_68 f_69 l_70 kp_71 => ?_
          obtain ⟨x_72, e_73, h⟩ := lx_s h
          have f_74 := q_is_eq f_69 e_73
          have l_75 := kp_71 0 _ l0 (by decide) (Or.inl (by decide))
          have l_76 := kp_71 1 _ l1 (by decide) (Or.inl (by decide))
          have l_77 := kp_71 2 _ l2 (by decide) (Or.inr (q_is_cat f2 (Or.inl rfl)))
          refine go_goto (o := (-44)) (t := 9) (by decide +kernel) (by decide +kernel) ?_
          exact ih h R_57 l_75 f0 l_76 f1 l_77 f2 l_70 f_74
        · have h := it_n hp_66 h
          refine go_iload_n (n := 2) (by decide +kernel) l2 f2 ?_
          refine go_iconst (n := 1) (z := 1) (by decide +kernel) (by decide) fun v_78 f_79 => ?_
          refine go_iload_n (n := 3) (by decide +kernel) l3 f3 ?_
          refine go_ishl (by decide +kernel) f_79 f3 fun v_80 f_81 => ?_
          refine go_ior (by decide +kernel) f2 f_81 fun v_82 f_83 => ?_
          obtain ⟨x_84, e_85, h⟩ := lx_s h
          have f_86 := q_is_eq f_83 e_85
          refine go_istore_n (n := 2) (by decide +kernel) (by decide +kernel) f_86 fun L_87 l_88 kp_89 => ?_
          have l_90 := kp_89 0 _ l0 (by decide) (Or.inl (by decide))
          have l_91 := kp_89 1 _ l1 (by decide) (Or.inr (q_is_cat f1 (Or.inl rfl)))
          have l_92 := kp_89 3 _ l3 (by decide) (Or.inl (by decide))
          refine go_iinc (n := 3) (c := 1) (c' := 1) (by decide +kernel) (by decide +kernel) l_92 f3 (by decide) fun L_93 v_94 f_95 l_96 kp_97 => ?_
          obtain ⟨x_98, e_99, h⟩ := lx_s h
          have f_100 := q_is_eq f_95 e_99
          have l_101 := kp_97 0 _ l_90 (by decide) (Or.inl (by decide))
          have l_102 := kp_97 1 _ l_91 (by decide) (Or.inl (by decide))
          have l_103 := kp_97 2 _ l_88 (by decide) (Or.inr (q_is_cat f_86 (Or.inl rfl)))
          refine go_goto (o := (-44)) (t := 9) (by decide +kernel) (by decide +kernel) ?_
          exact ih h R_57 l_101 f0 l_102 f1 l_103 f_86 l_96 f_100
noncomputable def fm_X11_search (p1 : Int) (m0 : MM) : Option ((Int ⊕ Nat) × MM) := bx (fm_X11_checkValue p1 m0) (fun q_10 m_3 => some (.inr q_10, m_3)) fun x_2 m_3 =>
fl_X11_search_9 p1 m_3  BIG 0 0
set_option maxHeartbeats 4000000 in
theorem om_X11_search {xs : List Int32} {d : Nat} {S : QS} {m0 : MM} {p1 : Int} {v0 : Value} {v1 : Value} {rr : Int ⊕ Nat} {rm : MM}
  (hd : 4 ≤ d) (R : Rp S m0) (f0 : q_is 2 v0 4) (f1 : q_is 0 v1 p1)
  (h : fm_X11_search p1 m0 = some (rr, rm)) : Mt xs d 136 [v0, v1] S (Cx 0 m0 rm rr) := by
  obtain ⟨d, rfl⟩ : ∃ e, d = e + 1 := ⟨d - 1, by omega⟩
  have hd : 3 ≤ d := Nat.le_of_succ_le_succ hd
  refine Mt.of (M := qM_X11_search) rfl (by rw [sl_1 (q_is_cat f0 (Or.inr rfl)), sl_1 (q_is_cat f1 (Or.inl rfl)), sl_0]; decide) ?_
  rw [la_1 (q_is_cat f0 (Or.inr rfl)), la_1 (q_is_cat f1 (Or.inl rfl)), la_0]
  obtain ⟨L, hL⟩ : ∃ L : QL, L = [(0, v0), (0 + 1, v1)] := ⟨_, rfl⟩
  rw [← hL]
  have l0 : q_lo L 0 = some v0 := by rw [hL]; rfl
  have l1 : q_lo L 1 = some v1 := by rw [hL]; rfl
  have hQ : Ext m0 rm → ∀ o S1, Rp S1 rm → q_oux 0 o rr → (Cx 0 m0 rm rr) o S1 := fun a o S1 b e => ⟨b, a, e⟩
  unfold fm_X11_search at h
  refine go_aload_n (n := 0) (by decide +kernel) l0 f0 ?_
  refine go_iload_n (n := 1) (by decide +kernel) l1 f1 ?_
  obtain ⟨rr5, m_3, hc_1, h⟩ := bx_s h
  rcases h with ⟨q_10, rfl, h⟩ | ⟨x_2, rfl, h⟩
  · cases h
    exact go_callV (x := 167) (mi := 147) (n := 1) (ci := 12) (as := [v1]) (rest := []) (by decide +kernel) (by decide +kernel) rfl rfl (q_sum8 _ (Nat.le_of_ble_eq_true rfl)) R f0 (fx_k (c := 12) R (by decide +kernel)) (om_X11_checkValue (Nat.le_trans (by decide) hd) R f0 f1 hc_1) (fun _ _ qq => kx_lx qq) (fun _ _ qq => by
      obtain ⟨rfl, Rq, Eq⟩ := kx_e qq
      exact Or.inl ⟨rfl, hQ Eq _ _ Rq rfl⟩)
  refine go_callV (x := 167) (mi := 147) (n := 1) (ci := 12) (as := [v1]) (rest := []) (by decide +kernel) (by decide +kernel) rfl rfl (q_sum8 _ (Nat.le_of_ble_eq_true rfl)) R f0 (fx_k (c := 12) R (by decide +kernel)) (om_X11_checkValue (Nat.le_trans (by decide) hd) R f0 f1 hc_1) (fun _ S_6 q_9 => ?_) (fun _ _ qq => kr_x (kx_l qq))
  have q_9 := kx_l q_9
  refine kr_v q_9 fun R_7 E_8 => ?_
  have E_16 := E_8
  refine go_iconst (n := 0) (z := 0) (by decide +kernel) (by decide) fun v_17 f_18 => ?_
  refine go_istore_n (n := 2) (by decide +kernel) (by decide +kernel) f_18 fun L_19 l_20 kp_21 => ?_
  have l_22 := kp_21 0 _ l0 (by decide) (Or.inl (by decide))
  have l_23 := kp_21 1 _ l1 (by decide) (Or.inr (q_is_cat f1 (Or.inl rfl)))
  refine go_iconst (n := 0) (z := 0) (by decide +kernel) (by decide) fun v_24 f_25 => ?_
  refine go_istore_n (n := 3) (by decide +kernel) (by decide +kernel) f_25 fun L_26 l_27 kp_28 => ?_
  have l_29 := kp_28 0 _ l_22 (by decide) (Or.inl (by decide))
  have l_30 := kp_28 1 _ l_23 (by decide) (Or.inl (by decide))
  have l_31 := kp_28 2 _ l_20 (by decide) (Or.inr (q_is_cat f_18 (Or.inl rfl)))
  refine ol_X11_search_9 hd   (fun b => hQ (Ext.tr E_16 b)) BIG h R_7 l_29 f0 l_30 f1 l_31 f_18 l_27 f_25
end DF23
