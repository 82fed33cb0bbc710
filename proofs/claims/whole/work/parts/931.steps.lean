/-! THE LAW: a step, whatever is called: both memories stand for a state again that the invariant holds of. -/
section LSTP
variable {m m' : MM} {ow : Int → Int} {ad : Int → Int → Int} {e e' : ES} {S D T A B P W V Z ℓ k y i p1 p2 r : Int} {xs : List Int32} {f : Nat} {F : Option ((Int ⊕ Nat) × MM)} {R : (Int ⊕ Nat) × ES}
theorem OKc.cn (h : OKc e ad F R) : CN R.2 := by
  obtain ⟨m1, ad1, -, ⟨ow1, C1⟩, -⟩ := h
  exact C1.cn
theorem pas_e (q1 : 1 ≤ p1) (q2 : p1 ≤ 100) : (pcPass p1 e).2 = pPasL p1.toNat e := by
  unfold pcPass
  rw [if_neg (by omega)]
theorem hq_fail : ∀ q, (pcFail p1 p2 e).1 = .inr q → q = 0 := by
  intro q h
  unfold pcFail at h
  repeat' split at h
  all_goals first | (cases h; done) | (have h2 := Sum.inr.inj h; omega)
theorem hb_fail : ∀ z, (pcFail p1 p2 e).1 = .inl z → z = 0 ∨ z = 1 := by
  intro z h
  unfold pcFail at h
  repeat' split at h
  all_goals first | (cases h; done) | (have h2 := Sum.inl.inj h; omega)
theorem c_takeOver0 (C : CE m ow ad e) (c : e.1 4 17 = 0) : OKc e ad (fm_X11_takeOver m) (pcTakeOver e) := by
  have e17 : m 4 17 = e.1 4 17 := C.g4 (by decide) (by decide)
  unfold fm_X11_takeOver pcTakeOver
  rw [lx_p, e17, if_pos c, if_pos c]
  exact OKc.thr C
theorem x_plain2 (hR : RXE m e) (hc : CN e) (hP : P113 m) (h : PJ k S D T A B P W V Z ℓ e) : OKp (fm_X12_plain p1 p2 m) cdS (pcPlain p1 p2 e) := by
  by_cases c1 : 0 ≤ p1 ∧ p1 < e.1 7 2
  · exact x_plain hR hc hP (fun a0 a1 => ⟨(h.1.fok3 h.2.1 a0 a1).2, h.1.wrun a0 a1⟩) fun i i0 i1 => (((h.1.1.1.2.1 p1 c1.1 c1.2).1.2.1 i i0 i1).1).1
  · unfold fm_X12_plain
    rw [bd_pair]
    refine x_asks hR hc hP (fun a0 a1 => absurd ⟨a0, a1⟩ c1) (fun _ => ?_) (fun a0 a1 _ _ => absurd ⟨a0, a1⟩ c1)
    unfold pcPlain
    rw [if_neg c1]
theorem PJ.hTb (h : PJ k S D T A B P W V Z ℓ e) (hk : k ≤ 512) (r0 : 0 ≤ r) (r1 : r < e.1 7 2) : 0 ≤ hT e r ∧ hT e r ≤ 256 := by
  have h1 := (h.1.1.1.2.1 r r0 r1).2.2.1
  have h2 := cT_m (E := eH e r) (hN e r).toNat 0
  rw [Nat.zero_add] at h2
  have h3 : cT (eH e r) 0 = 0 := rfl
  have h4 := (h.n hk).1
  have h5 := h.2.2.2.2.2.2.2.2.2.1
  unfold hT
  omega
theorem PJ.mkb (h : PJ k S D T A B P W V Z ℓ e) (hk : k ≤ 512) (r0 : 0 ≤ r) (r1 : r < e.1 7 2) : MkB e r := by
  have h1 := h.hTb hk r0 r1
  have h2 := h.2.2.1.1.2 r r0 r1
  have h3 := (h.n hk).1
  have h5 := h.2.2.2.2.2.2.2.2.2.1
  obtain ⟨w1, w2, w3, -⟩ := h.1.wrun r0 r1
  have n48 := h.1.cn.2.2.2.2 _ (isT_4 w1.1 w1.2)
  exact ⟨by omega, by omega, by omega, by omega⟩
theorem PJ.prn (h : PJ k S D T A B P W V Z ℓ e) (hk : k ≤ 512) (r0 : 0 ≤ r) (r1 : r < e.1 7 2) : (hN e r < 524288 ∧ 0 ≤ hC e r) ∧ (0 ≤ e.1 (7000 + r) 2 ∧ e.1 (7000 + r) 2 < 3) ∧ 0 ≤ e.1 (7000 + r) 9 ∧ (0 ≤ hT e r ∧ hT e r < 1000) ∧ 0 ≤ e.1 (7000 + r) 3 ∧ e.1 (7000 + r) 3 < 4 := by
  have h1 := h.hTb hk r0 r1
  have h2 := h.2.2.1.1.2 r r0 r1
  have h3 := h.1.len r0 r1
  have h4 := ((h.1.1.1.2.1 r r0 r1).1.2.cc (hN e r).toNat (by omega)).2.2.1
  obtain ⟨w1, w2, w3, -⟩ := h.1.wrun r0 r1
  have n48 := h.1.cn.2.2.2.2 _ (isT_4 w1.1 w1.2)
  exact ⟨⟨by omega, h4⟩, w2, by omega, by omega, by omega, by omega⟩
theorem PJ.lst (h : PJ k S D T A B P W V Z ℓ e) (hk : k ≤ 512) (r0 : 0 ≤ r) (r1 : r < e.1 7 2) : (eL e (75000 + r)).length < 1000000 := by
  have n7 := h.1.cn.1
  have h1 := (h.n hk).1
  have h5 := h.2.2.2.2.2.2.2.2.2.1
  have w1 : qLo e r = ((eL e (75000 + r)).length : Int) := if_pos r1
  have w2 : qLo e r ≤ LO e := sm_ge (fun j _ => qLo_n j) r0 30 (by omega)
  have w3 := LO_tot h.1.1.1
  omega
theorem PJ.cmp (h : PJ k S D T A B P W V Z ℓ e) (h' : PIv (k + 1) (pcComplete p1 e).2) (hk : k ≤ 511) (k0 : 0 ≤ p1) (k1 : p1 < e.1 9 2) (c1 : e.1 (9000 + p1) 5 = 0) (c2 : e.1 (7000 + e.1 (9000 + p1) 1) 6 = 0) (c3 : pMark e (e.1 (9000 + p1) 1) = e.1 (9000 + p1) 4) : CmpP p1 e ∧ CmR p1 e := by
  have hn := (h.n (by omega)).1
  have h5 := h.2.2.2.2.2.2.2.2.2.1
  have ht := h.ht (by omega)
  have hb : S + 2 * (D + 1) + 2 * T ≤ 540 := by omega
  obtain ⟨⟨r0, r1⟩, Q, QB, hB, -⟩ := cmp_two h.1 (h.wx (by omega)) ⟨ht.1, by omega⟩ hb ⟨k0, k1⟩ rfl ⟨c1, c2, c3⟩
  obtain ⟨S', D', T', A', B', P', W', V', Z', l', g⟩ := h'
  exact ⟨cmp_pP h.1 h.2.2.1 (by omega) (h.wx (by omega)) ⟨k0, k1⟩ rfl c2 r0 r1 hB, cmp_pR h.1 (h.wx (by omega)) ⟨ht.1, by omega⟩ hb ⟨k0, k1⟩ rfl ⟨c1, c2, c3⟩ (h.rlw (by omega)) (g.rfw (by omega)) (g.tg (by omega))⟩
theorem st_line (R : RLm m e) (hI : PIv k e) (hk : k ≤ 511) (hlen : xs.length ≤ 3584) (hy : 0 ≤ y ∧ y + 7 ≤ (xs.length : Int)) (hi : iAnd (scr xs y) 63 = 0) : ∃ m' e', fl_L_law_23 xs (f + 1) y m = fl_L_law_23 xs f (y + 7) m' ∧ RLm m' e' ∧ PIv (k + 1) e' := by
  obtain ⟨ow, ad, C, hR, hP⟩ := R
  obtain ⟨S, D, T, A, B, P, W, V, Z, ℓ, h⟩ := hI
  have hk2 : k ≤ 512 := by omega
  have hcn := h.1.cn
  have hy3 : 0 ≤ y ∧ y + 7 ≤ (xs.length : Int) ∧ (xs.length : Int) < 1000000 := ⟨hy.1, hy.2, by omega⟩
  have ht2 : 0 ≤ e.1 4 14 ∧ e.1 4 14 < 1000000 := by have := h.ht hk2; omega
  have h' := pj_line (p1 := scr xs (y + 1)) (p2 := scr xs (y + 2)) (p3 := scr xs (y + 3)) (p4 := scr xs (y + 4)) h
  have hc := c_line (p1 := scr xs (y + 1)) (p2 := scr xs (y + 2)) (p3 := scr xs (y + 3)) (p4 := scr xs (y + 4)) C
  obtain ⟨m', g1, g2⟩ := op_line C hR hP hy3 hc (fun m1 R1 P1 => x_line R1 hcn) hq_line
  exact ⟨m', _, (law_at_0 hlen hy hi).trans g1, g2, _, _, _, _, _, _, _, _, _, _, h'⟩
theorem st_deploy (R : RLm m e) (hI : PIv k e) (hk : k ≤ 511) (hlen : xs.length ≤ 3584) (hy : 0 ≤ y ∧ y + 7 ≤ (xs.length : Int)) (hi : iAnd (scr xs y) 63 = 1) : ∃ m' e', fl_L_law_23 xs (f + 1) y m = fl_L_law_23 xs f (y + 7) m' ∧ RLm m' e' ∧ PIv (k + 1) e' := by
  obtain ⟨ow, ad, C, hR, hP⟩ := R
  obtain ⟨S, D, T, A, B, P, W, V, Z, ℓ, h⟩ := hI
  have hk2 : k ≤ 512 := by omega
  have hcn := h.1.cn
  have hy3 : 0 ≤ y ∧ y + 7 ≤ (xs.length : Int) ∧ (xs.length : Int) < 1000000 := ⟨hy.1, hy.2, by omega⟩
  have ht2 : 0 ≤ e.1 4 14 ∧ e.1 4 14 < 1000000 := by have := h.ht hk2; omega
  have hc := c_deploy (p1 := scr xs (y + 1)) C
  have h' := pj_deploy (p1 := scr xs (y + 1)) h hc.cn hk2
  obtain ⟨m', g1, g2⟩ := op_deploy C hR hP hy3 hc (fun m1 R1 P1 => x_deploy R1 hcn) hq_deploy
  exact ⟨m', _, (law_at_1 hlen hy hi).trans g1, g2, _, _, _, _, _, _, _, _, _, _, h'⟩
theorem st_setKind (R : RLm m e) (hI : PIv k e) (hk : k ≤ 511) (hlen : xs.length ≤ 3584) (hy : 0 ≤ y ∧ y + 7 ≤ (xs.length : Int)) (hi : iAnd (scr xs y) 63 = 2) : ∃ m' e', fl_L_law_23 xs (f + 1) y m = fl_L_law_23 xs f (y + 7) m' ∧ RLm m' e' ∧ PIv (k + 1) e' := by
  obtain ⟨ow, ad, C, hR, hP⟩ := R
  obtain ⟨S, D, T, A, B, P, W, V, Z, ℓ, h⟩ := hI
  have hk2 : k ≤ 512 := by omega
  have hcn := h.1.cn
  have hy3 : 0 ≤ y ∧ y + 7 ≤ (xs.length : Int) ∧ (xs.length : Int) < 1000000 := ⟨hy.1, hy.2, by omega⟩
  have ht2 : 0 ≤ e.1 4 14 ∧ e.1 4 14 < 1000000 := by have := h.ht hk2; omega
  have h' := pj_setKind (p1 := scr xs (y + 1)) (p2 := scr xs (y + 2)) (p3 := scr xs (y + 3)) (p4 := scr xs (y + 4)) (p5 := scr xs (y + 5)) (p6 := scr xs (y + 6)) h hk2
  have hc := c_setKind (p1 := scr xs (y + 1)) (p2 := scr xs (y + 2)) (p3 := scr xs (y + 3)) (p4 := scr xs (y + 4)) (p5 := scr xs (y + 5)) (p6 := scr xs (y + 6)) C
  obtain ⟨m', g1, g2⟩ := op_setKind C hR hP hy3 hc (fun m1 R1 P1 => x_setKind R1 hcn) hq_setKind
  exact ⟨m', _, (law_at_2 hlen hy hi).trans g1, g2, _, _, _, _, _, _, _, _, _, _, h'⟩
theorem st_setPolicy (R : RLm m e) (hI : PIv k e) (hk : k ≤ 511) (hlen : xs.length ≤ 3584) (hy : 0 ≤ y ∧ y + 7 ≤ (xs.length : Int)) (hi : iAnd (scr xs y) 63 = 3) : ∃ m' e', fl_L_law_23 xs (f + 1) y m = fl_L_law_23 xs f (y + 7) m' ∧ RLm m' e' ∧ PIv (k + 1) e' := by
  obtain ⟨ow, ad, C, hR, hP⟩ := R
  obtain ⟨S, D, T, A, B, P, W, V, Z, ℓ, h⟩ := hI
  have hk2 : k ≤ 512 := by omega
  have hcn := h.1.cn
  have hy3 : 0 ≤ y ∧ y + 7 ≤ (xs.length : Int) ∧ (xs.length : Int) < 1000000 := ⟨hy.1, hy.2, by omega⟩
  have ht2 : 0 ≤ e.1 4 14 ∧ e.1 4 14 < 1000000 := by have := h.ht hk2; omega
  have hc := c_setPolicy (p1 := scr xs (y + 1)) (p2 := scr xs (y + 2)) C
  have h' := pj_setPolicy (p1 := scr xs (y + 1)) (p2 := scr xs (y + 2)) h hc.cn hk2
  obtain ⟨m', g1, g2⟩ := op_setPolicy C hR hP hy3 hc (fun m1 R1 P1 => x_setPolicy R1 hcn) hq_setPolicy
  exact ⟨m', _, (law_at_3 hlen hy hi).trans g1, g2, _, _, _, _, _, _, _, _, _, _, h'⟩
theorem st_begin (R : RLm m e) (hI : PIv k e) (hk : k ≤ 511) (hlen : xs.length ≤ 3584) (hy : 0 ≤ y ∧ y + 7 ≤ (xs.length : Int)) (hi : iAnd (scr xs y) 63 = 4) : ∃ m' e', fl_L_law_23 xs (f + 1) y m = fl_L_law_23 xs f (y + 7) m' ∧ RLm m' e' ∧ PIv (k + 1) e' := by
  obtain ⟨ow, ad, C, hR, hP⟩ := R
  obtain ⟨S, D, T, A, B, P, W, V, Z, ℓ, h⟩ := hI
  have hk2 : k ≤ 512 := by omega
  have hcn := h.1.cn
  have hy3 : 0 ≤ y ∧ y + 7 ≤ (xs.length : Int) ∧ (xs.length : Int) < 1000000 := ⟨hy.1, hy.2, by omega⟩
  have ht2 : 0 ≤ e.1 4 14 ∧ e.1 4 14 < 1000000 := by have := h.ht hk2; omega
  have h' := pj_begin (p1 := scr xs (y + 1)) (p2 := scr xs (y + 2)) (p3 := scr xs (y + 3)) h hk2
  have hc := c_begin (p1 := scr xs (y + 1)) (p2 := scr xs (y + 2)) (p3 := scr xs (y + 3)) C (h.bdl hk2) (h'.bdf (by omega))
  obtain ⟨m', g1, g2⟩ := op_begin C hR hP hy3 hc (fun m1 R1 P1 => x_begin R1 hcn (h.rlw hk2) (h'.rfw (by omega))) hq_begin
  exact ⟨m', _, (law_at_4 hlen hy hi).trans g1, g2, _, _, _, _, _, _, _, _, _, _, h'⟩
theorem st_signal (R : RLm m e) (hI : PIv k e) (hk : k ≤ 511) (hlen : xs.length ≤ 3584) (hy : 0 ≤ y ∧ y + 7 ≤ (xs.length : Int)) (hi : iAnd (scr xs y) 63 = 5) : ∃ m' e', fl_L_law_23 xs (f + 1) y m = fl_L_law_23 xs f (y + 7) m' ∧ RLm m' e' ∧ PIv (k + 1) e' := by
  obtain ⟨ow, ad, C, hR, hP⟩ := R
  obtain ⟨S, D, T, A, B, P, W, V, Z, ℓ, h⟩ := hI
  have hk2 : k ≤ 512 := by omega
  have hcn := h.1.cn
  have hy3 : 0 ≤ y ∧ y + 7 ≤ (xs.length : Int) ∧ (xs.length : Int) < 1000000 := ⟨hy.1, hy.2, by omega⟩
  have ht2 : 0 ≤ e.1 4 14 ∧ e.1 4 14 < 1000000 := by have := h.ht hk2; omega
  have h' := pj_signal (p1 := scr xs (y + 1)) (p2 := scr xs (y + 2)) (p3 := scr xs (y + 3)) h hk
  have hc := c_signal (p1 := scr xs (y + 1)) (p2 := scr xs (y + 2)) (p3 := scr xs (y + 3)) C (h.bd hk2)
  obtain ⟨m', g1, g2⟩ := op_signal C hR hP hy3 hc (fun m1 R1 P1 => x_signal R1 hcn (h.rlw hk2) (h'.rfw (by omega))) hq_signal
  exact ⟨m', _, (law_at_5 hlen hy hi).trans g1, g2, _, _, _, _, _, _, _, _, _, _, h'⟩
theorem st_update (R : RLm m e) (hI : PIv k e) (hk : k ≤ 511) (hlen : xs.length ≤ 3584) (hy : 0 ≤ y ∧ y + 7 ≤ (xs.length : Int)) (hi : iAnd (scr xs y) 63 = 6) : ∃ m' e', fl_L_law_23 xs (f + 1) y m = fl_L_law_23 xs f (y + 7) m' ∧ RLm m' e' ∧ PIv (k + 1) e' := by
  obtain ⟨ow, ad, C, hR, hP⟩ := R
  obtain ⟨S, D, T, A, B, P, W, V, Z, ℓ, h⟩ := hI
  have hk2 : k ≤ 512 := by omega
  have hcn := h.1.cn
  have hy3 : 0 ≤ y ∧ y + 7 ≤ (xs.length : Int) ∧ (xs.length : Int) < 1000000 := ⟨hy.1, hy.2, by omega⟩
  have ht2 : 0 ≤ e.1 4 14 ∧ e.1 4 14 < 1000000 := by have := h.ht hk2; omega
  have h' := pj_update (p1 := scr xs (y + 1)) (p2 := scr xs (y + 2)) (p3 := scr xs (y + 3)) h hk
  have hc := c_update (p1 := scr xs (y + 1)) (p2 := scr xs (y + 2)) (p3 := scr xs (y + 3)) C (h.wx hk2) (h.bd hk2) (fun i i0 i1 => (h.1.fok3 h.2.1 i0 i1).1)
  obtain ⟨m', g1, g2⟩ := op_update C hR hP hy3 hc (fun m1 R1 P1 => x_update2 R1 hcn P1 (h.rlw hk2) (h'.rfw (by omega)) (fun a0 a1 => ⟨(h.1.fok3 h.2.1 a0 a1).2, h.1.wrun a0 a1⟩) (fun a0 a1 s s30 => h.1.upd h.2.1 a0 a1 s s30)) hq_update hb_update
  exact ⟨m', _, (law_at_6 hlen hy hi).trans g1, g2, _, _, _, _, _, _, _, _, _, _, h'⟩
theorem st_cancel (R : RLm m e) (hI : PIv k e) (hk : k ≤ 511) (hlen : xs.length ≤ 3584) (hy : 0 ≤ y ∧ y + 7 ≤ (xs.length : Int)) (hi : iAnd (scr xs y) 63 = 7) : ∃ m' e', fl_L_law_23 xs (f + 1) y m = fl_L_law_23 xs f (y + 7) m' ∧ RLm m' e' ∧ PIv (k + 1) e' := by
  obtain ⟨ow, ad, C, hR, hP⟩ := R
  obtain ⟨S, D, T, A, B, P, W, V, Z, ℓ, h⟩ := hI
  have hk2 : k ≤ 512 := by omega
  have hcn := h.1.cn
  have hy3 : 0 ≤ y ∧ y + 7 ≤ (xs.length : Int) ∧ (xs.length : Int) < 1000000 := ⟨hy.1, hy.2, by omega⟩
  have ht2 : 0 ≤ e.1 4 14 ∧ e.1 4 14 < 1000000 := by have := h.ht hk2; omega
  have h' := pj_cancel (p1 := scr xs (y + 1)) h hk2
  have hc := c_cancel (p1 := scr xs (y + 1)) C (h.bd hk2)
  obtain ⟨m', g1, g2⟩ := op_cancel C hR hP hy3 hc (fun m1 R1 P1 => x_cancel R1 hcn (h.rlw hk2) (h'.rfw (by omega))) hq_cancel hb_cancel
  exact ⟨m', _, (law_at_7 hlen hy hi).trans g1, g2, _, _, _, _, _, _, _, _, _, _, h'⟩
theorem st_query (R : RLm m e) (hI : PIv k e) (hk : k ≤ 511) (hlen : xs.length ≤ 3584) (hy : 0 ≤ y ∧ y + 7 ≤ (xs.length : Int)) (hi : iAnd (scr xs y) 63 = 8) : ∃ m' e', fl_L_law_23 xs (f + 1) y m = fl_L_law_23 xs f (y + 7) m' ∧ RLm m' e' ∧ PIv (k + 1) e' := by
  obtain ⟨ow, ad, C, hR, hP⟩ := R
  obtain ⟨S, D, T, A, B, P, W, V, Z, ℓ, h⟩ := hI
  have hk2 : k ≤ 512 := by omega
  have hcn := h.1.cn
  have hy3 : 0 ≤ y ∧ y + 7 ≤ (xs.length : Int) ∧ (xs.length : Int) < 1000000 := ⟨hy.1, hy.2, by omega⟩
  have ht2 : 0 ≤ e.1 4 14 ∧ e.1 4 14 < 1000000 := by have := h.ht hk2; omega
  have h' := pj_query (p1 := scr xs (y + 1)) (p2 := scr xs (y + 2)) h hk2
  have hc := c_query (p1 := scr xs (y + 1)) (p2 := scr xs (y + 2)) C (h.wx hk2) (fun i i0 i1 => (h.1.fok3 h.2.1 i0 i1).1)
  obtain ⟨m', g1, g2⟩ := op_query C hR hP hy3 hc (fun m1 R1 P1 => x_query R1 hcn P1 (fun a0 a1 => ⟨(h.1.fok3 h.2.1 a0 a1).2, h.1.wrun a0 a1⟩)) hq_query
  exact ⟨m', _, (law_at_8 hlen hy hi).trans g1, g2, _, _, _, _, _, _, _, _, _, _, h'⟩
theorem st_plain (R : RLm m e) (hI : PIv k e) (hk : k ≤ 511) (hlen : xs.length ≤ 3584) (hy : 0 ≤ y ∧ y + 7 ≤ (xs.length : Int)) (hi : iAnd (scr xs y) 63 = 9) : ∃ m' e', fl_L_law_23 xs (f + 1) y m = fl_L_law_23 xs f (y + 7) m' ∧ RLm m' e' ∧ PIv (k + 1) e' := by
  obtain ⟨ow, ad, C, hR, hP⟩ := R
  obtain ⟨S, D, T, A, B, P, W, V, Z, ℓ, h⟩ := hI
  have hk2 : k ≤ 512 := by omega
  have hcn := h.1.cn
  have hy3 : 0 ≤ y ∧ y + 7 ≤ (xs.length : Int) ∧ (xs.length : Int) < 1000000 := ⟨hy.1, hy.2, by omega⟩
  have ht2 : 0 ≤ e.1 4 14 ∧ e.1 4 14 < 1000000 := by have := h.ht hk2; omega
  have h' := pj_plain (p1 := scr xs (y + 1)) (p2 := scr xs (y + 2)) h hk2
  have hc := c_plain (p1 := scr xs (y + 1)) (p2 := scr xs (y + 2)) C (h.wx hk2) (fun i w i0 i1 hw => h.1.fokp h.2.1 i0 i1 hw)
  obtain ⟨m', g1, g2⟩ := op_plain C hR hP hy3 hc (fun m1 R1 P1 => x_plain2 R1 hcn P1 h) hq_plain
  exact ⟨m', _, (law_at_9 hlen hy hi).trans g1, g2, _, _, _, _, _, _, _, _, _, _, h'⟩
theorem st_standing (R : RLm m e) (hI : PIv k e) (hk : k ≤ 511) (hlen : xs.length ≤ 3584) (hy : 0 ≤ y ∧ y + 7 ≤ (xs.length : Int)) (hi : iAnd (scr xs y) 63 = 10) : ∃ m' e', fl_L_law_23 xs (f + 1) y m = fl_L_law_23 xs f (y + 7) m' ∧ RLm m' e' ∧ PIv (k + 1) e' := by
  obtain ⟨ow, ad, C, hR, hP⟩ := R
  obtain ⟨S, D, T, A, B, P, W, V, Z, ℓ, h⟩ := hI
  have hk2 : k ≤ 512 := by omega
  have hcn := h.1.cn
  have hy3 : 0 ≤ y ∧ y + 7 ≤ (xs.length : Int) ∧ (xs.length : Int) < 1000000 := ⟨hy.1, hy.2, by omega⟩
  have ht2 : 0 ≤ e.1 4 14 ∧ e.1 4 14 < 1000000 := by have := h.ht hk2; omega
  have h' := pj_standing (p1 := scr xs (y + 1)) h
  have hc := c_standing (p1 := scr xs (y + 1)) C (h.bd hk2) (fun i i0 i1 => (h.1.2.1.1 i i0 i1).2.2.2.2.2.1) (fun i i0 i1 => by have := h.1.len i0 i1; omega)
  obtain ⟨m', g1, g2⟩ := op_standing C hR hP hy3 hc (fun m1 R1 P1 => x_standing R1 hcn (fun i i0 i1 => (h.1.2.1.1 i i0 i1).2.2.2.2.2.1) (fun i i0 i1 => by have := h.1.len i0 i1; omega)) hq_standing
  exact ⟨m', _, (law_at_10 hlen hy hi).trans g1, g2, _, _, _, _, _, _, _, _, _, _, h'⟩
theorem st_event (R : RLm m e) (hI : PIv k e) (hk : k ≤ 511) (hlen : xs.length ≤ 3584) (hy : 0 ≤ y ∧ y + 7 ≤ (xs.length : Int)) (hi : iAnd (scr xs y) 63 = 11) : ∃ m' e', fl_L_law_23 xs (f + 1) y m = fl_L_law_23 xs f (y + 7) m' ∧ RLm m' e' ∧ PIv (k + 1) e' := by
  obtain ⟨ow, ad, C, hR, hP⟩ := R
  obtain ⟨S, D, T, A, B, P, W, V, Z, ℓ, h⟩ := hI
  have hk2 : k ≤ 512 := by omega
  have hcn := h.1.cn
  have hy3 : 0 ≤ y ∧ y + 7 ≤ (xs.length : Int) ∧ (xs.length : Int) < 1000000 := ⟨hy.1, hy.2, by omega⟩
  have ht2 : 0 ≤ e.1 4 14 ∧ e.1 4 14 < 1000000 := by have := h.ht hk2; omega
  have h' := pj_event (p1 := scr xs (y + 1)) (p2 := scr xs (y + 2)) h
  have hc := c_event (p1 := scr xs (y + 1)) (p2 := scr xs (y + 2)) C
  obtain ⟨m', g1, g2⟩ := op_event C hR hP hy3 hc (fun m1 R1 P1 => x_event R1 hcn (fun i i0 i1 => by have := h.1.len i0 i1; omega)) hq_event
  exact ⟨m', _, (law_at_11 hlen hy hi).trans g1, g2, _, _, _, _, _, _, _, _, _, _, h'⟩
theorem st_difference (R : RLm m e) (hI : PIv k e) (hk : k ≤ 511) (hlen : xs.length ≤ 3584) (hy : 0 ≤ y ∧ y + 7 ≤ (xs.length : Int)) (hi : iAnd (scr xs y) 63 = 12) : ∃ m' e', fl_L_law_23 xs (f + 1) y m = fl_L_law_23 xs f (y + 7) m' ∧ RLm m' e' ∧ PIv (k + 1) e' := by
  obtain ⟨ow, ad, C, hR, hP⟩ := R
  obtain ⟨S, D, T, A, B, P, W, V, Z, ℓ, h⟩ := hI
  have hk2 : k ≤ 512 := by omega
  have hcn := h.1.cn
  have hy3 : 0 ≤ y ∧ y + 7 ≤ (xs.length : Int) ∧ (xs.length : Int) < 1000000 := ⟨hy.1, hy.2, by omega⟩
  have ht2 : 0 ≤ e.1 4 14 ∧ e.1 4 14 < 1000000 := by have := h.ht hk2; omega
  have h' := pj_difference (p1 := scr xs (y + 1)) h
  have hc := c_difference (p1 := scr xs (y + 1)) C
  obtain ⟨m', g1, g2⟩ := op_difference C hR hP hy3 hc (fun m1 R1 P1 => x_difference R1 hcn) hq_difference
  exact ⟨m', _, (law_at_12 hlen hy hi).trans g1, g2, _, _, _, _, _, _, _, _, _, _, h'⟩
theorem st_runs (R : RLm m e) (hI : PIv k e) (hk : k ≤ 511) (hlen : xs.length ≤ 3584) (hy : 0 ≤ y ∧ y + 7 ≤ (xs.length : Int)) (hi : iAnd (scr xs y) 63 = 13) : ∃ m' e', fl_L_law_23 xs (f + 1) y m = fl_L_law_23 xs f (y + 7) m' ∧ RLm m' e' ∧ PIv (k + 1) e' := by
  obtain ⟨ow, ad, C, hR, hP⟩ := R
  obtain ⟨S, D, T, A, B, P, W, V, Z, ℓ, h⟩ := hI
  have hk2 : k ≤ 512 := by omega
  have hcn := h.1.cn
  have hy3 : 0 ≤ y ∧ y + 7 ≤ (xs.length : Int) ∧ (xs.length : Int) < 1000000 := ⟨hy.1, hy.2, by omega⟩
  have ht2 : 0 ≤ e.1 4 14 ∧ e.1 4 14 < 1000000 := by have := h.ht hk2; omega
  obtain ⟨m', g1, g2⟩ := op_runs (xs := xs) C hR hP hy3
  exact ⟨m', e, (law_at_13 hlen hy hi).trans g1, g2, _, _, _, _, _, _, _, _, _, _, h.up⟩
theorem st_setRate (R : RLm m e) (hI : PIv k e) (hk : k ≤ 511) (hlen : xs.length ≤ 3584) (hy : 0 ≤ y ∧ y + 7 ≤ (xs.length : Int)) (hi : iAnd (scr xs y) 63 = 14) : ∃ m' e', fl_L_law_23 xs (f + 1) y m = fl_L_law_23 xs f (y + 7) m' ∧ RLm m' e' ∧ PIv (k + 1) e' := by
  obtain ⟨ow, ad, C, hR, hP⟩ := R
  obtain ⟨S, D, T, A, B, P, W, V, Z, ℓ, h⟩ := hI
  have hk2 : k ≤ 512 := by omega
  have hcn := h.1.cn
  have hy3 : 0 ≤ y ∧ y + 7 ≤ (xs.length : Int) ∧ (xs.length : Int) < 1000000 := ⟨hy.1, hy.2, by omega⟩
  have ht2 : 0 ≤ e.1 4 14 ∧ e.1 4 14 < 1000000 := by have := h.ht hk2; omega
  have h' := pj_setRate (p1 := scr xs (y + 1)) h hk2
  have hc := c_setRate (p1 := scr xs (y + 1)) C
  obtain ⟨m', g1, g2⟩ := op_setRate C hR hP hy3 hc (fun m1 R1 P1 => x_setRate R1 hcn) hq_setRate
  exact ⟨m', _, (law_at_14 hlen hy hi).trans g1, g2, _, _, _, _, _, _, _, _, _, _, h'⟩
theorem st_poll (R : RLm m e) (hI : PIv k e) (hk : k ≤ 511) (hlen : xs.length ≤ 3584) (hy : 0 ≤ y ∧ y + 7 ≤ (xs.length : Int)) (hi : iAnd (scr xs y) 63 = 15) : ∃ m' e', fl_L_law_23 xs (f + 1) y m = fl_L_law_23 xs f (y + 7) m' ∧ RLm m' e' ∧ PIv (k + 1) e' := by
  obtain ⟨ow, ad, C, hR, hP⟩ := R
  obtain ⟨S, D, T, A, B, P, W, V, Z, ℓ, h⟩ := hI
  have hk2 : k ≤ 512 := by omega
  have hcn := h.1.cn
  have hy3 : 0 ≤ y ∧ y + 7 ≤ (xs.length : Int) ∧ (xs.length : Int) < 1000000 := ⟨hy.1, hy.2, by omega⟩
  have ht2 : 0 ≤ e.1 4 14 ∧ e.1 4 14 < 1000000 := by have := h.ht hk2; omega
  have hc := c_poll (p1 := scr xs (y + 1)) C (h.wb hk2) (by have := (h.n hk2).2; omega) (fun i i0 i1 => h.mkb hk2 i0 i1)
  have h' := pj_poll (p1 := scr xs (y + 1)) h hc.cn hk
  obtain ⟨m', g1, g2⟩ := op_poll C hR hP hy3 hc (fun m1 R1 P1 => x_poll R1 hcn (h.rlw hk2) (HH.tskb h.wts) h.2.2.1.1.1 h.1.ord (fun w w0 w1 => by have := h.2.1.2.2.2.1 w w0 w1; omega) (fun i i0 i1 => h.prn hk2 i0 i1) (by have := (h.n hk2).2; omega)) hq_poll
  exact ⟨m', _, (law_at_15 hlen hy hi).trans g1, g2, _, _, _, _, _, _, _, _, _, _, h'⟩
theorem st_complete (R : RLm m e) (hI : PIv k e) (hk : k ≤ 511) (hlen : xs.length ≤ 3584) (hy : 0 ≤ y ∧ y + 7 ≤ (xs.length : Int)) (hi : iAnd (scr xs y) 63 = 16) : ∃ m' e', fl_L_law_23 xs (f + 1) y m = fl_L_law_23 xs f (y + 7) m' ∧ RLm m' e' ∧ PIv (k + 1) e' := by
  obtain ⟨ow, ad, C, hR, hP⟩ := R
  obtain ⟨S, D, T, A, B, P, W, V, Z, ℓ, h⟩ := hI
  have hk2 : k ≤ 512 := by omega
  have hcn := h.1.cn
  have hy3 : 0 ≤ y ∧ y + 7 ≤ (xs.length : Int) ∧ (xs.length : Int) < 1000000 := ⟨hy.1, hy.2, by omega⟩
  have ht2 : 0 ≤ e.1 4 14 ∧ e.1 4 14 < 1000000 := by have := h.ht hk2; omega
  have hX := pj_complete (p1 := scr xs (y + 1)) h C hk
  obtain ⟨S', D', T', A', B', P', W', V', Z', l', h'⟩ := hX
  have hX : PIv (k + 1) (pcComplete (scr xs (y + 1)) e).2 := ⟨S', D', T', A', B', P', W', V', Z', l', h'⟩
  have kR := h.1.2.2.2.2.2.1.2
  have hc := c_complete (p1 := scr xs (y + 1)) C (h.wx hk2) (h.bdl hk2) (h'.bdf (by omega)) h.1.tyo fun k0 k1 => ⟨h.1.tmo (kR _ k0 k1).1 (kR _ k0 k1).2, h.mkb hk2 (kR _ k0 k1).1 (kR _ k0 k1).2, fun c1 c2 c3 => ⟨(h.cmp hX hk k0 k1 c1 c2 c3).1, cmr_t (h.cmp hX hk k0 k1 c1 c2 c3).2⟩⟩
  obtain ⟨m', g1, g2⟩ := op_complete C hR hP hy3 hc (fun m1 R1 P1 => x_complete R1 hcn (h.rlw hk2) P1 (fun p p0 p1 => ⟨(h.wts p p0 p1).1, kR p p0 p1⟩) (fun i i0 i1 => ⟨h.1.wrun i0 i1, (h.prn hk2 i0 i1).2.2.1, (h.prn hk2 i0 i1).2.2.2.1⟩) (fun w w0 w1 => by have := h.2.1.2.2.2.1 w w0 w1; omega) fun k0 k1 c1 c2 c3 => (h.cmp hX hk k0 k1 c1 c2 c3).2) hq_complete
  exact ⟨m', _, (law_at_16 hlen hy hi).trans g1, g2, hX⟩
theorem st_die (R : RLm m e) (hI : PIv k e) (hk : k ≤ 511) (hlen : xs.length ≤ 3584) (hy : 0 ≤ y ∧ y + 7 ≤ (xs.length : Int)) (hi : iAnd (scr xs y) 63 = 17) : ∃ m' e', fl_L_law_23 xs (f + 1) y m = fl_L_law_23 xs f (y + 7) m' ∧ RLm m' e' ∧ PIv (k + 1) e' := by
  obtain ⟨ow, ad, C, hR, hP⟩ := R
  obtain ⟨S, D, T, A, B, P, W, V, Z, ℓ, h⟩ := hI
  have hk2 : k ≤ 512 := by omega
  have hcn := h.1.cn
  have hy3 : 0 ≤ y ∧ y + 7 ≤ (xs.length : Int) ∧ (xs.length : Int) < 1000000 := ⟨hy.1, hy.2, by omega⟩
  have ht2 : 0 ≤ e.1 4 14 ∧ e.1 4 14 < 1000000 := by have := h.ht hk2; omega
  have h' := pj_die (p1 := scr xs (y + 1)) h hk2
  have hc := c_die (p1 := scr xs (y + 1)) C
  obtain ⟨m', g1, g2⟩ := op_die C hR hP hy3 hc (fun m1 R1 P1 => x_die R1 hcn (fun p p0 p1 => (h.wts p p0 p1).2.2.2)) hq_die
  exact ⟨m', _, (law_at_17 hlen hy hi).trans g1, g2, _, _, _, _, _, _, _, _, _, _, h'⟩
theorem st_replays (R : RLm m e) (hI : PIv k e) (hk : k ≤ 511) (hlen : xs.length ≤ 3584) (hy : 0 ≤ y ∧ y + 7 ≤ (xs.length : Int)) (hi : iAnd (scr xs y) 63 = 18) : ∃ m' e', fl_L_law_23 xs (f + 1) y m = fl_L_law_23 xs f (y + 7) m' ∧ RLm m' e' ∧ PIv (k + 1) e' := by
  obtain ⟨ow, ad, C, hR, hP⟩ := R
  obtain ⟨S, D, T, A, B, P, W, V, Z, ℓ, h⟩ := hI
  have hk2 : k ≤ 512 := by omega
  have hcn := h.1.cn
  have hy3 : 0 ≤ y ∧ y + 7 ≤ (xs.length : Int) ∧ (xs.length : Int) < 1000000 := ⟨hy.1, hy.2, by omega⟩
  have ht2 : 0 ≤ e.1 4 14 ∧ e.1 4 14 < 1000000 := by have := h.ht hk2; omega
  have h' := pj_replays (p1 := scr xs (y + 1)) h
  have hc := c_replays (p1 := scr xs (y + 1)) C
  obtain ⟨m', g1, g2⟩ := op_replays C hR hP hy3 hc (fun m1 R1 P1 => x_replays R1 hcn) hq_replays
  exact ⟨m', _, (law_at_18 hlen hy hi).trans g1, g2, _, _, _, _, _, _, _, _, _, _, h'⟩
theorem st_take (R : RLm m e) (hI : PIv k e) (hk : k ≤ 511) (hlen : xs.length ≤ 3584) (hy : 0 ≤ y ∧ y + 7 ≤ (xs.length : Int)) (hi : iAnd (scr xs y) 63 = 19) : ∃ m' e', fl_L_law_23 xs (f + 1) y m = fl_L_law_23 xs f (y + 7) m' ∧ RLm m' e' ∧ PIv (k + 1) e' := by
  obtain ⟨ow, ad, C, hR, hP⟩ := R
  obtain ⟨S, D, T, A, B, P, W, V, Z, ℓ, h⟩ := hI
  have hk2 : k ≤ 512 := by omega
  have hcn := h.1.cn
  have hy3 : 0 ≤ y ∧ y + 7 ≤ (xs.length : Int) ∧ (xs.length : Int) < 1000000 := ⟨hy.1, hy.2, by omega⟩
  have ht2 : 0 ≤ e.1 4 14 ∧ e.1 4 14 < 1000000 := by have := h.ht hk2; omega
  have h' := pj_take (p1 := scr xs (y + 1)) h hk2
  have hc := c_take (p1 := scr xs (y + 1)) C (h.wb hk2)
  obtain ⟨m', g1, g2⟩ := op_take C hR hP hy3 hc (fun m1 R1 P1 => x_take R1 hcn (h.pw hk2).2.2.1) hq_take
  exact ⟨m', _, (law_at_19 hlen hy hi).trans g1, g2, _, _, _, _, _, _, _, _, _, _, h'⟩
theorem st_answer (R : RLm m e) (hI : PIv k e) (hk : k ≤ 511) (hlen : xs.length ≤ 3584) (hy : 0 ≤ y ∧ y + 7 ≤ (xs.length : Int)) (hi : iAnd (scr xs y) 63 = 20) : ∃ m' e', fl_L_law_23 xs (f + 1) y m = fl_L_law_23 xs f (y + 7) m' ∧ RLm m' e' ∧ PIv (k + 1) e' := by
  obtain ⟨ow, ad, C, hR, hP⟩ := R
  obtain ⟨S, D, T, A, B, P, W, V, Z, ℓ, h⟩ := hI
  have hk2 : k ≤ 512 := by omega
  have hcn := h.1.cn
  have hy3 : 0 ≤ y ∧ y + 7 ≤ (xs.length : Int) ∧ (xs.length : Int) < 1000000 := ⟨hy.1, hy.2, by omega⟩
  have ht2 : 0 ≤ e.1 4 14 ∧ e.1 4 14 < 1000000 := by have := h.ht hk2; omega
  have h' := pj_answer (p1 := scr xs (y + 1)) (p2 := scr xs (y + 2)) h hk2
  have hc := c_answer (p1 := scr xs (y + 1)) (p2 := scr xs (y + 2)) C (h.wb hk2)
  obtain ⟨m', g1, g2⟩ := op_answer C hR hP hy3 hc (fun m1 R1 P1 => x_answer R1 hcn (h.rlw hk2) (h'.rfw (by omega)) (h.pw hk2).2.2.1) hq_answer hb_answer
  exact ⟨m', _, (law_at_20 hlen hy hi).trans g1, g2, _, _, _, _, _, _, _, _, _, _, h'⟩
theorem st_fail (R : RLm m e) (hI : PIv k e) (hk : k ≤ 511) (hlen : xs.length ≤ 3584) (hy : 0 ≤ y ∧ y + 7 ≤ (xs.length : Int)) (hi : iAnd (scr xs y) 63 = 21) : ∃ m' e', fl_L_law_23 xs (f + 1) y m = fl_L_law_23 xs f (y + 7) m' ∧ RLm m' e' ∧ PIv (k + 1) e' := by
  obtain ⟨ow, ad, C, hR, hP⟩ := R
  obtain ⟨S, D, T, A, B, P, W, V, Z, ℓ, h⟩ := hI
  have hk2 : k ≤ 512 := by omega
  have hcn := h.1.cn
  have hy3 : 0 ≤ y ∧ y + 7 ≤ (xs.length : Int) ∧ (xs.length : Int) < 1000000 := ⟨hy.1, hy.2, by omega⟩
  have ht2 : 0 ≤ e.1 4 14 ∧ e.1 4 14 < 1000000 := by have := h.ht hk2; omega
  obtain ⟨q, hq⟩ : ∃ q : Int, q = if scr xs (y + 2) = 0 then 0 else 1 := ⟨_, rfl⟩
  have h' := pj_fail (p1 := scr xs (y + 1)) (p2 := q) h hk2
  have hc := c_fail (p1 := scr xs (y + 1)) (p2 := q) C (h.wb hk2)
  obtain ⟨m', g1, g2⟩ := op_fail C hR hP hy3 hq hc (fun m1 R1 P1 => x_fail R1 hcn (h.rlw hk2) (h'.rfw (by omega)) (h.pw hk2).2.2.1 (h.glo hk2)) hq_fail hb_fail
  exact ⟨m', _, (law_at_21 hlen hy hi).trans g1, g2, _, _, _, _, _, _, _, _, _, _, h'⟩
theorem st_beat (R : RLm m e) (hI : PIv k e) (hk : k ≤ 511) (hlen : xs.length ≤ 3584) (hy : 0 ≤ y ∧ y + 7 ≤ (xs.length : Int)) (hi : iAnd (scr xs y) 63 = 22) : ∃ m' e', fl_L_law_23 xs (f + 1) y m = fl_L_law_23 xs f (y + 7) m' ∧ RLm m' e' ∧ PIv (k + 1) e' := by
  obtain ⟨ow, ad, C, hR, hP⟩ := R
  obtain ⟨S, D, T, A, B, P, W, V, Z, ℓ, h⟩ := hI
  have hk2 : k ≤ 512 := by omega
  have hcn := h.1.cn
  have hy3 : 0 ≤ y ∧ y + 7 ≤ (xs.length : Int) ∧ (xs.length : Int) < 1000000 := ⟨hy.1, hy.2, by omega⟩
  have ht2 : 0 ≤ e.1 4 14 ∧ e.1 4 14 < 1000000 := by have := h.ht hk2; omega
  have h' := pj_beat (p1 := scr xs (y + 1)) (p2 := scr xs (y + 2)) h hk2
  have hc := c_beat (p1 := scr xs (y + 1)) (p2 := scr xs (y + 2)) C
  obtain ⟨m', g1, g2⟩ := op_beat C hR hP hy3 hc (fun m1 R1 P1 => x_beat R1 hcn) hq_beat
  exact ⟨m', _, (law_at_22 hlen hy hi).trans g1, g2, _, _, _, _, _, _, _, _, _, _, h'⟩
theorem st_activity (R : RLm m e) (hI : PIv k e) (hk : k ≤ 511) (hlen : xs.length ≤ 3584) (hy : 0 ≤ y ∧ y + 7 ≤ (xs.length : Int)) (hi : iAnd (scr xs y) 63 = 23) : ∃ m' e', fl_L_law_23 xs (f + 1) y m = fl_L_law_23 xs f (y + 7) m' ∧ RLm m' e' ∧ PIv (k + 1) e' := by
  obtain ⟨ow, ad, C, hR, hP⟩ := R
  obtain ⟨S, D, T, A, B, P, W, V, Z, ℓ, h⟩ := hI
  have hk2 : k ≤ 512 := by omega
  have hcn := h.1.cn
  have hy3 : 0 ≤ y ∧ y + 7 ≤ (xs.length : Int) ∧ (xs.length : Int) < 1000000 := ⟨hy.1, hy.2, by omega⟩
  have ht2 : 0 ≤ e.1 4 14 ∧ e.1 4 14 < 1000000 := by have := h.ht hk2; omega
  have h' := pj_activity (p1 := scr xs (y + 1)) h
  have hc := c_activity (p1 := scr xs (y + 1)) C (h.wb hk2)
  obtain ⟨m', g1, g2⟩ := op_activity C hR hP hy3 hc (fun m1 R1 P1 => x_activity R1 hcn (h.pw hk2).2.2.1) hq_activity
  exact ⟨m', _, (law_at_23 hlen hy hi).trans g1, g2, _, _, _, _, _, _, _, _, _, _, h'⟩
theorem st_pass (R : RLm m e) (hI : PIv k e) (hk : k ≤ 511) (hlen : xs.length ≤ 3584) (hy : 0 ≤ y ∧ y + 7 ≤ (xs.length : Int)) (hi : iAnd (scr xs y) 63 = 24) : ∃ m' e', fl_L_law_23 xs (f + 1) y m = fl_L_law_23 xs f (y + 7) m' ∧ RLm m' e' ∧ PIv (k + 1) e' := by
  obtain ⟨ow, ad, C, hR, hP⟩ := R
  obtain ⟨S, D, T, A, B, P, W, V, Z, ℓ, h⟩ := hI
  have hk2 : k ≤ 512 := by omega
  have hcn := h.1.cn
  have hy3 : 0 ≤ y ∧ y + 7 ≤ (xs.length : Int) ∧ (xs.length : Int) < 1000000 := ⟨hy.1, hy.2, by omega⟩
  have ht2 : 0 ≤ e.1 4 14 ∧ e.1 4 14 < 1000000 := by have := h.ht hk2; omega
  have h' := pj_pass (p1 := scr xs (y + 1)) h hk
  have hc := c_pass (p1 := scr xs (y + 1)) C (h.pw hk2) (h.bdl hk2) (fun q1 q2 => by have := h'.bds (by omega); rw [pas_e q1 q2] at this; exact this) (h.ht hk2).2
  obtain ⟨m', g1, g2⟩ := op_pass C hR hP hy3 hc (fun m1 R1 P1 => x_pass R1 (h.pw hk2) (h.rlw hk2) h.1.tms (HH.lsb h.wsc) (fun q1 q2 => by have := h'.rfw (by omega); rw [pas_e q1 q2] at this; exact this) (h.ht hk2).2) hq_pass
  exact ⟨m', _, (law_at_24 hlen hy hi).trans g1, g2, _, _, _, _, _, _, _, _, _, _, h'⟩
theorem st_unsafe (R : RLm m e) (hI : PIv k e) (hk : k ≤ 511) (hlen : xs.length ≤ 3584) (hy : 0 ≤ y ∧ y + 7 ≤ (xs.length : Int)) (hi : iAnd (scr xs y) 63 = 25) : ∃ m' e', fl_L_law_23 xs (f + 1) y m = fl_L_law_23 xs f (y + 7) m' ∧ RLm m' e' ∧ PIv (k + 1) e' := by
  obtain ⟨ow, ad, C, hR, hP⟩ := R
  obtain ⟨S, D, T, A, B, P, W, V, Z, ℓ, h⟩ := hI
  have hk2 : k ≤ 512 := by omega
  have hcn := h.1.cn
  have hy3 : 0 ≤ y ∧ y + 7 ≤ (xs.length : Int) ∧ (xs.length : Int) < 1000000 := ⟨hy.1, hy.2, by omega⟩
  have ht2 : 0 ≤ e.1 4 14 ∧ e.1 4 14 < 1000000 := by have := h.ht hk2; omega
  have h' := pj_27 (p1 := scr xs (y + 1)) (p2 := scr xs (y + 2)) h hk2
  have hc := c_unsafe (p1 := scr xs (y + 1)) (p2 := scr xs (y + 2)) C (h.wx hk2) (fun i i0 i1 e1 v0 v1 => (h.1.fok h.2.1 i0 i1 v0 (by rw [e1]; omega)).1)
  obtain ⟨m', g1, g2⟩ := op_unsafe C hR hP hy3 hc (fun m1 R1 P1 => x_27 R1 hcn P1 (fun _ _ v0 v1 r r0 r1 e1 => (h.1.fok h.2.1 r0 r1 v0 (by rw [e1]; omega)).2)) hq_unsafe
  exact ⟨m', _, (law_at_25 hlen hy hi).trans g1, g2, _, _, _, _, _, _, _, _, _, _, h'⟩
theorem st_move (R : RLm m e) (hI : PIv k e) (hk : k ≤ 511) (hlen : xs.length ≤ 3584) (hy : 0 ≤ y ∧ y + 7 ≤ (xs.length : Int)) (hi : iAnd (scr xs y) 63 = 26) : ∃ m' e', fl_L_law_23 xs (f + 1) y m = fl_L_law_23 xs f (y + 7) m' ∧ RLm m' e' ∧ PIv (k + 1) e' := by
  obtain ⟨ow, ad, C, hR, hP⟩ := R
  obtain ⟨S, D, T, A, B, P, W, V, Z, ℓ, h⟩ := hI
  have hk2 : k ≤ 512 := by omega
  have hcn := h.1.cn
  have hy3 : 0 ≤ y ∧ y + 7 ≤ (xs.length : Int) ∧ (xs.length : Int) < 1000000 := ⟨hy.1, hy.2, by omega⟩
  have ht2 : 0 ≤ e.1 4 14 ∧ e.1 4 14 < 1000000 := by have := h.ht hk2; omega
  have h' := pj_move (p1 := scr xs (y + 1)) (p2 := scr xs (y + 2)) h hk2
  have hc := c_move2 (p1 := scr xs (y + 1)) (p2 := scr xs (y + 2)) C (h.wx hk2) (fun a0 a1 b0 b1 => (h.1.fokm h.2.1 a0 a1 b0 b1).1)
  obtain ⟨m', g1, g2⟩ := op_move C hR hP hy3 hc (fun m1 R1 P1 => x_move R1 hcn P1 (fun r r0 r1 => h.1.wrun r0 r1) (fun a0 a1 b0 b1 _ => (h.1.fokm h.2.1 a0 a1 b0 b1).2)) hq_move hb_move
  exact ⟨m', _, (law_at_26 hlen hy hi).trans g1, g2, _, _, _, _, _, _, _, _, _, _, h'⟩
theorem st_setBack (R : RLm m e) (hI : PIv k e) (hk : k ≤ 511) (hlen : xs.length ≤ 3584) (hy : 0 ≤ y ∧ y + 7 ≤ (xs.length : Int)) (hi : iAnd (scr xs y) 63 = 27) : ∃ m' e', fl_L_law_23 xs (f + 1) y m = fl_L_law_23 xs f (y + 7) m' ∧ RLm m' e' ∧ PIv (k + 1) e' := by
  obtain ⟨ow, ad, C, hR, hP⟩ := R
  obtain ⟨S, D, T, A, B, P, W, V, Z, ℓ, h⟩ := hI
  have hk2 : k ≤ 512 := by omega
  have hcn := h.1.cn
  have hy3 : 0 ≤ y ∧ y + 7 ≤ (xs.length : Int) ∧ (xs.length : Int) < 1000000 := ⟨hy.1, hy.2, by omega⟩
  have ht2 : 0 ≤ e.1 4 14 ∧ e.1 4 14 < 1000000 := by have := h.ht hk2; omega
  have hX := pj_setBack (p1 := scr xs (y + 1)) (p2 := scr xs (y + 2)) h hk
  obtain ⟨S', D', T', A', B', P', W', V', Z', l', h'⟩ := hX
  have hc := c_setBack (p1 := scr xs (y + 1)) (p2 := scr xs (y + 2)) C (h.bdl hk2) (h'.bdf (by omega)) (fun i i0 i1 => by have := h.1.len i0 i1; omega) (fun c1 c2 c4 c5 c3 hm h7 => stb_E (h.1.sba ht2 ⟨c1, c2⟩ c5 c3 c4) hm h7 hcn.1.1)
  obtain ⟨m', g1, g2⟩ := op_setBack C hR hP hy3 hc (fun m1 R1 P1 => x_setBack2 R1 hcn (h.rlw hk2) (h'.rfw (by omega)) scr_b.2 h.1.sbr h.1.pev (fun c1 c2 c3 c4 => h.1.sba ht2 c1 c2 c3 c4)) hq_setBack
  exact ⟨m', _, (law_at_27 hlen hy hi).trans g1, g2, S', D', T', A', B', P', W', V', Z', l', h'⟩
theorem st_copy (R : RLm m e) (hI : PIv k e) (hk : k ≤ 511) (hlen : xs.length ≤ 3584) (hy : 0 ≤ y ∧ y + 7 ≤ (xs.length : Int)) (hi : iAnd (scr xs y) 63 = 28) : ∃ m' e', fl_L_law_23 xs (f + 1) y m = fl_L_law_23 xs f (y + 7) m' ∧ RLm m' e' ∧ PIv (k + 1) e' := by
  obtain ⟨ow, ad, C, hR, hP⟩ := R
  obtain ⟨S, D, T, A, B, P, W, V, Z, ℓ, h⟩ := hI
  have hk2 : k ≤ 512 := by omega
  have hcn := h.1.cn
  have hy3 : 0 ≤ y ∧ y + 7 ≤ (xs.length : Int) ∧ (xs.length : Int) < 1000000 := ⟨hy.1, hy.2, by omega⟩
  have ht2 : 0 ≤ e.1 4 14 ∧ e.1 4 14 < 1000000 := by have := h.ht hk2; omega
  have h' := pj_copy (p1 := scr xs (y + 1)) (p2 := scr xs (y + 2)) h
  have hc := c_copy (p1 := scr xs (y + 1)) (p2 := scr xs (y + 2)) C (h.wb hk2)
  obtain ⟨m', g1, g2⟩ := op_copy C hR hP hy3 hc (fun m1 R1 P1 => x_copy R1 hcn (fun i i0 i1 => by have := h.1.len i0 i1; have := (h.1.2.1.1 i i0 i1).2.2.2.2.2.2.1; omega)) hq_copy
  exact ⟨m', _, (law_at_28 hlen hy hi).trans g1, g2, _, _, _, _, _, _, _, _, _, _, h'⟩
theorem st_takeOver (R : RLm m e) (hI : PIv k e) (hk : k ≤ 511) (hlen : xs.length ≤ 3584) (hy : 0 ≤ y ∧ y + 7 ≤ (xs.length : Int)) (hi : iAnd (scr xs y) 63 = 29) : ∃ m' e', fl_L_law_23 xs (f + 1) y m = fl_L_law_23 xs f (y + 7) m' ∧ RLm m' e' ∧ PIv (k + 1) e' := by
  obtain ⟨ow, ad, C, hR, hP⟩ := R
  obtain ⟨S, D, T, A, B, P, W, V, Z, ℓ, h⟩ := hI
  have hk2 : k ≤ 512 := by omega
  have hcn := h.1.cn
  have hy3 : 0 ≤ y ∧ y + 7 ≤ (xs.length : Int) ∧ (xs.length : Int) < 1000000 := ⟨hy.1, hy.2, by omega⟩
  have ht2 : 0 ≤ e.1 4 14 ∧ e.1 4 14 < 1000000 := by have := h.ht hk2; omega
  have hX := pj_takeOver h hk
  obtain ⟨S', D', T', A', B', P', W', V', Z', l', h'⟩ := hX
  have hn := (h.n hk2).1
  have h5 := h.2.2.2.2.2.2.2.2.2.1
  have hb : S + 2 * D + 2 * (T + 1) ≤ 540 := by omega
  have hk4 : e.1 4 17 ≠ 0 → TkA e ∧ Lz 0 e ∧ ∀ j : Int, 0 ≤ j → j < e.1 7 2 → hN (pTk2 31 0 (pTk1 31 0 0 (eS e 4 17 0)).2) j ≤ 524288 := fun c => h.1.tka h.2.2.1 (by have := h.2.1.2.2.1; omega) (by omega) hb ht2
  have hc : OKc e ad (fm_X11_takeOver m) (pcTakeOver e) := by
    by_cases c : e.1 4 17 = 0
    · exact c_takeOver0 C c
    · exact c_takeOver C (h.bdl hk2) (h'.bdf (by omega)) h.1.tyo (fun j j0 j1 => h.1.tmo j0 j1) (hk4 c).2.1 (hk4 c).2.2 (fun c => tko_E h.1 hb ht2 (hk4 c).1 c h'.1)
  obtain ⟨m', g1, g2⟩ := op_takeOver (xs := xs) C hR hP hy3 hc (fun m1 R1 P1 => x_takeOver R1 hcn (h.rlw hk2) (h'.rfw (by omega)) fun c => (hk4 c).1) hq_takeOver
  exact ⟨m', _, (law_at_29 hlen hy hi).trans g1, g2, S', D', T', A', B', P', W', V', Z', l', h'⟩
theorem st_join (R : RLm m e) (hI : PIv k e) (hk : k ≤ 511) (hlen : xs.length ≤ 3584) (hy : 0 ≤ y ∧ y + 7 ≤ (xs.length : Int)) (hi : iAnd (scr xs y) 63 = 30) : ∃ m' e', fl_L_law_23 xs (f + 1) y m = fl_L_law_23 xs f (y + 7) m' ∧ RLm m' e' ∧ PIv (k + 1) e' := by
  obtain ⟨ow, ad, C, hR, hP⟩ := R
  obtain ⟨S, D, T, A, B, P, W, V, Z, ℓ, h⟩ := hI
  have hk2 : k ≤ 512 := by omega
  have hcn := h.1.cn
  have hy3 : 0 ≤ y ∧ y + 7 ≤ (xs.length : Int) ∧ (xs.length : Int) < 1000000 := ⟨hy.1, hy.2, by omega⟩
  have ht2 : 0 ≤ e.1 4 14 ∧ e.1 4 14 < 1000000 := by have := h.ht hk2; omega
  have h' := pj_join h
  have hc := c_join C (h.wx hk2) (fun j j0 j1 => h.lst hk2 j0 j1) (h.bdl hk2) (h'.bdf (by omega))
  obtain ⟨m', g1, g2⟩ := op_join (xs := xs) C hR hP hy3 hc (fun m1 R1 P1 => x_join R1 hcn (h.rlw hk2) (h'.rfw (by omega)) h.1.2.1.2.2.2.1 (by have := nls_tot h.1.1.1; have := (h.n hk2).1; have := h.2.2.2.2.2.2.2.2.2.1; unfold nLs at *; omega)) hq_join
  exact ⟨m', _, (law_at_30 hlen hy hi).trans g1, g2, _, _, _, _, _, _, _, _, _, _, h'⟩
theorem st_schedule (R : RLm m e) (hI : PIv k e) (hk : k ≤ 511) (hlen : xs.length ≤ 3584) (hy : 0 ≤ y ∧ y + 7 ≤ (xs.length : Int)) (hi : iAnd (scr xs y) 63 = 31) : ∃ m' e', fl_L_law_23 xs (f + 1) y m = fl_L_law_23 xs f (y + 7) m' ∧ RLm m' e' ∧ PIv (k + 1) e' := by
  obtain ⟨ow, ad, C, hR, hP⟩ := R
  obtain ⟨S, D, T, A, B, P, W, V, Z, ℓ, h⟩ := hI
  have hk2 : k ≤ 512 := by omega
  have hcn := h.1.cn
  have hy3 : 0 ≤ y ∧ y + 7 ≤ (xs.length : Int) ∧ (xs.length : Int) < 1000000 := ⟨hy.1, hy.2, by omega⟩
  have ht2 : 0 ≤ e.1 4 14 ∧ e.1 4 14 < 1000000 := by have := h.ht hk2; omega
  have hc := c_schedule (p1 := scr xs (y + 1)) (p2 := scr xs (y + 2)) (p3 := scr xs (y + 3)) (p4 := scr xs (y + 4)) C (h.wb hk2)
  have h' := pj_schedule (p1 := scr xs (y + 1)) (p2 := scr xs (y + 2)) (p3 := scr xs (y + 3)) (p4 := scr xs (y + 4)) h hc.cn hk2
  obtain ⟨m', g1, g2⟩ := op_schedule C hR hP hy3 hc (fun m1 R1 P1 => x_schedule R1 hcn (h.rlw hk2) (h.glo hk2).1) hq_schedule
  exact ⟨m', _, (law_at_31 hlen hy hi).trans g1, g2, _, _, _, _, _, _, _, _, _, _, h'⟩
theorem st_togglePause (R : RLm m e) (hI : PIv k e) (hk : k ≤ 511) (hlen : xs.length ≤ 3584) (hy : 0 ≤ y ∧ y + 7 ≤ (xs.length : Int)) (hi : iAnd (scr xs y) 63 = 32) : ∃ m' e', fl_L_law_23 xs (f + 1) y m = fl_L_law_23 xs f (y + 7) m' ∧ RLm m' e' ∧ PIv (k + 1) e' := by
  obtain ⟨ow, ad, C, hR, hP⟩ := R
  obtain ⟨S, D, T, A, B, P, W, V, Z, ℓ, h⟩ := hI
  have hk2 : k ≤ 512 := by omega
  have hcn := h.1.cn
  have hy3 : 0 ≤ y ∧ y + 7 ≤ (xs.length : Int) ∧ (xs.length : Int) < 1000000 := ⟨hy.1, hy.2, by omega⟩
  have ht2 : 0 ≤ e.1 4 14 ∧ e.1 4 14 < 1000000 := by have := h.ht hk2; omega
  have h' := pj_togglePause (p1 := scr xs (y + 1)) h hk2
  have hc := c_togglePause (p1 := scr xs (y + 1)) C
  obtain ⟨m', g1, g2⟩ := op_togglePause C hR hP hy3 hc (fun m1 R1 P1 => x_togglePause R1 hcn) hq_togglePause hb_togglePause
  exact ⟨m', _, (law_at_32 hlen hy hi).trans g1, g2, _, _, _, _, _, _, _, _, _, _, h'⟩
theorem st_backfill (R : RLm m e) (hI : PIv k e) (hk : k ≤ 511) (hlen : xs.length ≤ 3584) (hy : 0 ≤ y ∧ y + 7 ≤ (xs.length : Int)) (hi : iAnd (scr xs y) 63 = 33) : ∃ m' e', fl_L_law_23 xs (f + 1) y m = fl_L_law_23 xs f (y + 7) m' ∧ RLm m' e' ∧ PIv (k + 1) e' := by
  obtain ⟨ow, ad, C, hR, hP⟩ := R
  obtain ⟨S, D, T, A, B, P, W, V, Z, ℓ, h⟩ := hI
  have hk2 : k ≤ 512 := by omega
  have hcn := h.1.cn
  have hy3 : 0 ≤ y ∧ y + 7 ≤ (xs.length : Int) ∧ (xs.length : Int) < 1000000 := ⟨hy.1, hy.2, by omega⟩
  have ht2 : 0 ≤ e.1 4 14 ∧ e.1 4 14 < 1000000 := by have := h.ht hk2; omega
  have h' := pj_backfill (p1 := scr xs (y + 1)) (p2 := scr xs (y + 2)) h hk2
  have hc := c_backfill (p1 := scr xs (y + 1)) (p2 := scr xs (y + 2)) C (h.wx hk2) (h.bdl hk2) (h'.bdf (by omega))
  obtain ⟨m', g1, g2⟩ := op_backfill C hR hP hy3 hc (fun m1 R1 P1 => x_backfill R1 hcn (h.rlw hk2) (h'.rfw (by omega)) (h.pw hk2).2.2.2) hq_backfill
  exact ⟨m', _, (law_at_33 hlen hy hi).trans g1, g2, _, _, _, _, _, _, _, _, _, _, h'⟩
theorem st_shift (R : RLm m e) (hI : PIv k e) (hk : k ≤ 511) (hlen : xs.length ≤ 3584) (hy : 0 ≤ y ∧ y + 7 ≤ (xs.length : Int)) (hi : iAnd (scr xs y) 63 = 34) : ∃ m' e', fl_L_law_23 xs (f + 1) y m = fl_L_law_23 xs f (y + 7) m' ∧ RLm m' e' ∧ PIv (k + 1) e' := by
  obtain ⟨ow, ad, C, hR, hP⟩ := R
  obtain ⟨S, D, T, A, B, P, W, V, Z, ℓ, h⟩ := hI
  have hk2 : k ≤ 512 := by omega
  have hcn := h.1.cn
  have hy3 : 0 ≤ y ∧ y + 7 ≤ (xs.length : Int) ∧ (xs.length : Int) < 1000000 := ⟨hy.1, hy.2, by omega⟩
  have ht2 : 0 ≤ e.1 4 14 ∧ e.1 4 14 < 1000000 := by have := h.ht hk2; omega
  have h' := pj_shift (p1 := scr xs (y + 1)) h hk2
  have hc := c_shift (p1 := scr xs (y + 1)) C (h.wb hk2)
  obtain ⟨m', g1, g2⟩ := op_shift C hR hP hy3 hc (fun m1 R1 P1 => x_shift R1 hcn ht2 (h.glo hk2).1) hq_shift
  exact ⟨m', _, (law_at_34 hlen hy hi).trans g1, g2, _, _, _, _, _, _, _, _, _, _, h'⟩
theorem st_bringIn (R : RLm m e) (hI : PIv k e) (hk : k ≤ 511) (hlen : xs.length ≤ 3584) (hy : 0 ≤ y ∧ y + 7 ≤ (xs.length : Int)) (hi : iAnd (scr xs y) 63 = 35) : ∃ m' e', fl_L_law_23 xs (f + 1) y m = fl_L_law_23 xs f (y + 7) m' ∧ RLm m' e' ∧ PIv (k + 1) e' := by
  obtain ⟨ow, ad, C, hR, hP⟩ := R
  obtain ⟨S, D, T, A, B, P, W, V, Z, ℓ, h⟩ := hI
  have hk2 : k ≤ 512 := by omega
  have hcn := h.1.cn
  have hy3 : 0 ≤ y ∧ y + 7 ≤ (xs.length : Int) ∧ (xs.length : Int) < 1000000 := ⟨hy.1, hy.2, by omega⟩
  have ht2 : 0 ≤ e.1 4 14 ∧ e.1 4 14 < 1000000 := by have := h.ht hk2; omega
  have h' := pj_bringIn (p1 := scr xs (y + 1)) h
  have hc := c_bringIn (p1 := scr xs (y + 1)) C (h.wx hk2)
  obtain ⟨m', g1, g2⟩ := op_bringIn C hR hP hy3 hc (fun m1 R1 P1 => x_bringIn R1 hcn h.1.2.1.2.2.2.2.2.2 ⟨h.1.2.1.2.2.2.2.1.1, h.1.2.1.2.2.2.2.1.2, by have := h.tg hk2; omega⟩ h.1.2.1.2.2.2.2.2.1 (fun _ q2 => by have := h.2.2.2.2.2.2.1.2; omega)) hq_bringIn
  exact ⟨m', _, (law_at_35 hlen hy hi).trans g1, g2, _, _, _, _, _, _, _, _, _, _, h'⟩
theorem st_search (R : RLm m e) (hI : PIv k e) (hk : k ≤ 511) (hlen : xs.length ≤ 3584) (hy : 0 ≤ y ∧ y + 7 ≤ (xs.length : Int)) (hi : iAnd (scr xs y) 63 = 36) : ∃ m' e', fl_L_law_23 xs (f + 1) y m = fl_L_law_23 xs f (y + 7) m' ∧ RLm m' e' ∧ PIv (k + 1) e' := by
  obtain ⟨ow, ad, C, hR, hP⟩ := R
  obtain ⟨S, D, T, A, B, P, W, V, Z, ℓ, h⟩ := hI
  have hk2 : k ≤ 512 := by omega
  have hcn := h.1.cn
  have hy3 : 0 ≤ y ∧ y + 7 ≤ (xs.length : Int) ∧ (xs.length : Int) < 1000000 := ⟨hy.1, hy.2, by omega⟩
  have ht2 : 0 ≤ e.1 4 14 ∧ e.1 4 14 < 1000000 := by have := h.ht hk2; omega
  have h' := pj_search (p1 := scr xs (y + 1)) h
  have hc := c_search (p1 := scr xs (y + 1)) C
  obtain ⟨m', g1, g2⟩ := op_search C hR hP hy3 hc (fun m1 R1 P1 => x_search R1 hcn) hq_search
  exact ⟨m', _, (law_at_36 hlen hy hi).trans g1, g2, _, _, _, _, _, _, _, _, _, _, h'⟩
/-- A STEP -/
theorem st_all (R : RLm m e) (hI : PIv k e) (hk : k ≤ 511) (hlen : xs.length ≤ 3584) (hy : 0 ≤ y ∧ y + 7 ≤ (xs.length : Int)) : ∃ m' e', fl_L_law_23 xs (f + 1) y m = fl_L_law_23 xs f (y + 7) m' ∧ RLm m' e' ∧ PIv (k + 1) e' := by
  by_cases c0 : iAnd (scr xs y) 63 = 0
  · exact st_line R hI hk hlen hy c0
  by_cases c1 : iAnd (scr xs y) 63 = 1
  · exact st_deploy R hI hk hlen hy c1
  by_cases c2 : iAnd (scr xs y) 63 = 2
  · exact st_setKind R hI hk hlen hy c2
  by_cases c3 : iAnd (scr xs y) 63 = 3
  · exact st_setPolicy R hI hk hlen hy c3
  by_cases c4 : iAnd (scr xs y) 63 = 4
  · exact st_begin R hI hk hlen hy c4
  by_cases c5 : iAnd (scr xs y) 63 = 5
  · exact st_signal R hI hk hlen hy c5
  by_cases c6 : iAnd (scr xs y) 63 = 6
  · exact st_update R hI hk hlen hy c6
  by_cases c7 : iAnd (scr xs y) 63 = 7
  · exact st_cancel R hI hk hlen hy c7
  by_cases c8 : iAnd (scr xs y) 63 = 8
  · exact st_query R hI hk hlen hy c8
  by_cases c9 : iAnd (scr xs y) 63 = 9
  · exact st_plain R hI hk hlen hy c9
  by_cases c10 : iAnd (scr xs y) 63 = 10
  · exact st_standing R hI hk hlen hy c10
  by_cases c11 : iAnd (scr xs y) 63 = 11
  · exact st_event R hI hk hlen hy c11
  by_cases c12 : iAnd (scr xs y) 63 = 12
  · exact st_difference R hI hk hlen hy c12
  by_cases c13 : iAnd (scr xs y) 63 = 13
  · exact st_runs R hI hk hlen hy c13
  by_cases c14 : iAnd (scr xs y) 63 = 14
  · exact st_setRate R hI hk hlen hy c14
  by_cases c15 : iAnd (scr xs y) 63 = 15
  · exact st_poll R hI hk hlen hy c15
  by_cases c16 : iAnd (scr xs y) 63 = 16
  · exact st_complete R hI hk hlen hy c16
  by_cases c17 : iAnd (scr xs y) 63 = 17
  · exact st_die R hI hk hlen hy c17
  by_cases c18 : iAnd (scr xs y) 63 = 18
  · exact st_replays R hI hk hlen hy c18
  by_cases c19 : iAnd (scr xs y) 63 = 19
  · exact st_take R hI hk hlen hy c19
  by_cases c20 : iAnd (scr xs y) 63 = 20
  · exact st_answer R hI hk hlen hy c20
  by_cases c21 : iAnd (scr xs y) 63 = 21
  · exact st_fail R hI hk hlen hy c21
  by_cases c22 : iAnd (scr xs y) 63 = 22
  · exact st_beat R hI hk hlen hy c22
  by_cases c23 : iAnd (scr xs y) 63 = 23
  · exact st_activity R hI hk hlen hy c23
  by_cases c24 : iAnd (scr xs y) 63 = 24
  · exact st_pass R hI hk hlen hy c24
  by_cases c25 : iAnd (scr xs y) 63 = 25
  · exact st_unsafe R hI hk hlen hy c25
  by_cases c26 : iAnd (scr xs y) 63 = 26
  · exact st_move R hI hk hlen hy c26
  by_cases c27 : iAnd (scr xs y) 63 = 27
  · exact st_setBack R hI hk hlen hy c27
  by_cases c28 : iAnd (scr xs y) 63 = 28
  · exact st_copy R hI hk hlen hy c28
  by_cases c29 : iAnd (scr xs y) 63 = 29
  · exact st_takeOver R hI hk hlen hy c29
  by_cases c30 : iAnd (scr xs y) 63 = 30
  · exact st_join R hI hk hlen hy c30
  by_cases c31 : iAnd (scr xs y) 63 = 31
  · exact st_schedule R hI hk hlen hy c31
  by_cases c32 : iAnd (scr xs y) 63 = 32
  · exact st_togglePause R hI hk hlen hy c32
  by_cases c33 : iAnd (scr xs y) 63 = 33
  · exact st_backfill R hI hk hlen hy c33
  by_cases c34 : iAnd (scr xs y) 63 = 34
  · exact st_shift R hI hk hlen hy c34
  by_cases c35 : iAnd (scr xs y) 63 = 35
  · exact st_bringIn R hI hk hlen hy c35
  by_cases c36 : iAnd (scr xs y) 63 = 36
  · exact st_search R hI hk hlen hy c36
  obtain ⟨S, D, T, A, B, P, W, V, Z, ℓ, h⟩ := hI
  exact ⟨m, e, law_at_no hlen hy fun j j0 j1 => by omega, R, S, D, T, A, B, P, W, V, Z, ℓ, h.up⟩
end LSTP
