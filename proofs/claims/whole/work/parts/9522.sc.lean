/-! THE LAW: a step, whatever is called, and how many objects there are (written by wip/whole/gen/gen952.py from 931). -/
section SCL
variable {m m' : MM} {ow : Int → Int} {ad : Int → Int → Int} {e e' : ES} {S D T A B P W V Z ℓ k y i p1 p2 r : Int} {xs : List Int32} {f : Nat} {F : Option ((Int ⊕ Nat) × MM)} {R : (Int ⊕ Nat) × ES}
theorem oc_runs {c : Int → MM → Option (Int × MM)} (C : CE m ow ad e) (hR : RXE m e) (hP : P113 m) (hy : 0 ≤ y ∧ y + 7 ≤ (xs.length : Int) ∧ (xs.length : Int) < 1000000) : ∃ m', fj_L_law_1144 xs c y m = c (y + 7) m' ∧ (∀ (g : Int → Int → Int) (D : Int), GOK g → OWk g D m → OWk g (D + g 99 0) m') ∧ RLm m' e := by
  obtain ⟨v, m1, g1, g2, g3, -⟩ := x_runs hR C.cn
  obtain ⟨hv, -⟩ := g3 _ rfl
  have fr := fw_X12_runs hP.1 g1
  refine ⟨m1, ?_, fun gg D' hg h => ((kw_X12_runs hP.1 g1).2 gg _ hg h).mono (by (try dsimp only); have := hg.1 99 0; omega), ow, ad, C.rfx (by decide +kernel) fr ((fr.2.2.2.2 (by decide +kernel)).2.2.trans C.m1), g2, hP.fr fr (by decide +kernel)⟩
  unfold fj_L_law_1144
  rw [bp_t (c_runs C), bd_t g1, if_pos hv.symm, lx_p, w32_id (z := y + 7) (by omega) (by omega)]
theorem sc_line (R : RLm m e) (hI : PIv k e) (hk : k ≤ 511) (hlen : xs.length ≤ 3584) (hy : 0 ≤ y ∧ y + 7 ≤ (xs.length : Int)) (hi : iAnd (scr xs y) 63 = 0) : ∃ m' e', (fl_L_law_23 xs (f + 1) y m = fl_L_law_23 xs f (y + 7) m' ∧ (∀ (g : Int → Int → Int) (D : Int), GOK g → OWk g D m → OWk g (D + g 99 0) m')) ∧ RLm m' e' ∧ PIv (k + 1) e' := by
  obtain ⟨ow, ad, C, hR, hP⟩ := R
  obtain ⟨S, D, T, A, B, P, W, V, Z, ℓ, h⟩ := hI
  have hk2 : k ≤ 512 := by omega
  have hcn := h.1.cn
  have hy3 : 0 ≤ y ∧ y + 7 ≤ (xs.length : Int) ∧ (xs.length : Int) < 1000000 := ⟨hy.1, hy.2, by omega⟩
  have ht2 : 0 ≤ e.1 4 14 ∧ e.1 4 14 < 1000000 := by have := h.ht hk2; omega
  have h' := pj_line (p1 := scr xs (y + 1)) (p2 := scr xs (y + 2)) (p3 := scr xs (y + 3)) (p4 := scr xs (y + 4)) h
  have hc := c_line (p1 := scr xs (y + 1)) (p2 := scr xs (y + 2)) (p3 := scr xs (y + 3)) (p4 := scr xs (y + 4)) C
  obtain ⟨m', g1, g9, g2⟩ := oc_line C hR hP hy3 hc (fun m1 R1 P1 => x_line R1 hcn) hq_line
  exact ⟨m', _, ⟨(law_at_0 hlen hy hi).trans g1, g9⟩, g2, _, _, _, _, _, _, _, _, _, _, h'⟩
theorem sc_deploy (R : RLm m e) (hI : PIv k e) (hk : k ≤ 511) (hlen : xs.length ≤ 3584) (hy : 0 ≤ y ∧ y + 7 ≤ (xs.length : Int)) (hi : iAnd (scr xs y) 63 = 1) : ∃ m' e', (fl_L_law_23 xs (f + 1) y m = fl_L_law_23 xs f (y + 7) m' ∧ (∀ (g : Int → Int → Int) (D : Int), GOK g → OWk g D m → OWk g (D + g 99 0) m')) ∧ RLm m' e' ∧ PIv (k + 1) e' := by
  obtain ⟨ow, ad, C, hR, hP⟩ := R
  obtain ⟨S, D, T, A, B, P, W, V, Z, ℓ, h⟩ := hI
  have hk2 : k ≤ 512 := by omega
  have hcn := h.1.cn
  have hy3 : 0 ≤ y ∧ y + 7 ≤ (xs.length : Int) ∧ (xs.length : Int) < 1000000 := ⟨hy.1, hy.2, by omega⟩
  have ht2 : 0 ≤ e.1 4 14 ∧ e.1 4 14 < 1000000 := by have := h.ht hk2; omega
  have hc := c_deploy (p1 := scr xs (y + 1)) C
  have h' := pj_deploy (p1 := scr xs (y + 1)) h hc.cn hk2
  obtain ⟨m', g1, g9, g2⟩ := oc_deploy C hR hP hy3 hc (fun m1 R1 P1 => x_deploy R1 hcn) hq_deploy
  exact ⟨m', _, ⟨(law_at_1 hlen hy hi).trans g1, g9⟩, g2, _, _, _, _, _, _, _, _, _, _, h'⟩
theorem sc_setKind (R : RLm m e) (hI : PIv k e) (hk : k ≤ 511) (hlen : xs.length ≤ 3584) (hy : 0 ≤ y ∧ y + 7 ≤ (xs.length : Int)) (hi : iAnd (scr xs y) 63 = 2) : ∃ m' e', (fl_L_law_23 xs (f + 1) y m = fl_L_law_23 xs f (y + 7) m' ∧ (∀ (g : Int → Int → Int) (D : Int), GOK g → OWk g D m → OWk g (D + g 99 0) m')) ∧ RLm m' e' ∧ PIv (k + 1) e' := by
  obtain ⟨ow, ad, C, hR, hP⟩ := R
  obtain ⟨S, D, T, A, B, P, W, V, Z, ℓ, h⟩ := hI
  have hk2 : k ≤ 512 := by omega
  have hcn := h.1.cn
  have hy3 : 0 ≤ y ∧ y + 7 ≤ (xs.length : Int) ∧ (xs.length : Int) < 1000000 := ⟨hy.1, hy.2, by omega⟩
  have ht2 : 0 ≤ e.1 4 14 ∧ e.1 4 14 < 1000000 := by have := h.ht hk2; omega
  have h' := pj_setKind (p1 := scr xs (y + 1)) (p2 := scr xs (y + 2)) (p3 := scr xs (y + 3)) (p4 := scr xs (y + 4)) (p5 := scr xs (y + 5)) (p6 := scr xs (y + 6)) h hk2
  have hc := c_setKind (p1 := scr xs (y + 1)) (p2 := scr xs (y + 2)) (p3 := scr xs (y + 3)) (p4 := scr xs (y + 4)) (p5 := scr xs (y + 5)) (p6 := scr xs (y + 6)) C
  obtain ⟨m', g1, g9, g2⟩ := oc_setKind C hR hP hy3 hc (fun m1 R1 P1 => x_setKind R1 hcn) hq_setKind
  exact ⟨m', _, ⟨(law_at_2 hlen hy hi).trans g1, g9⟩, g2, _, _, _, _, _, _, _, _, _, _, h'⟩
theorem sc_setPolicy (R : RLm m e) (hI : PIv k e) (hk : k ≤ 511) (hlen : xs.length ≤ 3584) (hy : 0 ≤ y ∧ y + 7 ≤ (xs.length : Int)) (hi : iAnd (scr xs y) 63 = 3) : ∃ m' e', (fl_L_law_23 xs (f + 1) y m = fl_L_law_23 xs f (y + 7) m' ∧ (∀ (g : Int → Int → Int) (D : Int), GOK g → OWk g D m → OWk g (D + g 99 0) m')) ∧ RLm m' e' ∧ PIv (k + 1) e' := by
  obtain ⟨ow, ad, C, hR, hP⟩ := R
  obtain ⟨S, D, T, A, B, P, W, V, Z, ℓ, h⟩ := hI
  have hk2 : k ≤ 512 := by omega
  have hcn := h.1.cn
  have hy3 : 0 ≤ y ∧ y + 7 ≤ (xs.length : Int) ∧ (xs.length : Int) < 1000000 := ⟨hy.1, hy.2, by omega⟩
  have ht2 : 0 ≤ e.1 4 14 ∧ e.1 4 14 < 1000000 := by have := h.ht hk2; omega
  have hc := c_setPolicy (p1 := scr xs (y + 1)) (p2 := scr xs (y + 2)) C
  have h' := pj_setPolicy (p1 := scr xs (y + 1)) (p2 := scr xs (y + 2)) h hc.cn hk2
  obtain ⟨m', g1, g9, g2⟩ := oc_setPolicy C hR hP hy3 hc (fun m1 R1 P1 => x_setPolicy R1 hcn) hq_setPolicy
  exact ⟨m', _, ⟨(law_at_3 hlen hy hi).trans g1, g9⟩, g2, _, _, _, _, _, _, _, _, _, _, h'⟩
theorem sc_begin (R : RLm m e) (hI : PIv k e) (hk : k ≤ 511) (hlen : xs.length ≤ 3584) (hy : 0 ≤ y ∧ y + 7 ≤ (xs.length : Int)) (hi : iAnd (scr xs y) 63 = 4) : ∃ m' e', (fl_L_law_23 xs (f + 1) y m = fl_L_law_23 xs f (y + 7) m' ∧ (∀ (g : Int → Int → Int) (D : Int), GOK g → OWk g D m → OWk g (D + g 99 0) m')) ∧ RLm m' e' ∧ PIv (k + 1) e' := by
  obtain ⟨ow, ad, C, hR, hP⟩ := R
  obtain ⟨S, D, T, A, B, P, W, V, Z, ℓ, h⟩ := hI
  have hk2 : k ≤ 512 := by omega
  have hcn := h.1.cn
  have hy3 : 0 ≤ y ∧ y + 7 ≤ (xs.length : Int) ∧ (xs.length : Int) < 1000000 := ⟨hy.1, hy.2, by omega⟩
  have ht2 : 0 ≤ e.1 4 14 ∧ e.1 4 14 < 1000000 := by have := h.ht hk2; omega
  have h' := pj_begin (p1 := scr xs (y + 1)) (p2 := scr xs (y + 2)) (p3 := scr xs (y + 3)) h hk2
  have hc := c_begin (p1 := scr xs (y + 1)) (p2 := scr xs (y + 2)) (p3 := scr xs (y + 3)) C (h.bdl hk2) (h'.bdf (by omega))
  obtain ⟨m', g1, g9, g2⟩ := oc_begin C hR hP hy3 hc (fun m1 R1 P1 => x_begin R1 hcn (h.rlw hk2) (h'.rfw (by omega))) hq_begin
  exact ⟨m', _, ⟨(law_at_4 hlen hy hi).trans g1, g9⟩, g2, _, _, _, _, _, _, _, _, _, _, h'⟩
theorem sc_signal (R : RLm m e) (hI : PIv k e) (hk : k ≤ 511) (hlen : xs.length ≤ 3584) (hy : 0 ≤ y ∧ y + 7 ≤ (xs.length : Int)) (hi : iAnd (scr xs y) 63 = 5) : ∃ m' e', (fl_L_law_23 xs (f + 1) y m = fl_L_law_23 xs f (y + 7) m' ∧ (∀ (g : Int → Int → Int) (D : Int), GOK g → OWk g D m → OWk g (D + g 99 0) m')) ∧ RLm m' e' ∧ PIv (k + 1) e' := by
  obtain ⟨ow, ad, C, hR, hP⟩ := R
  obtain ⟨S, D, T, A, B, P, W, V, Z, ℓ, h⟩ := hI
  have hk2 : k ≤ 512 := by omega
  have hcn := h.1.cn
  have hy3 : 0 ≤ y ∧ y + 7 ≤ (xs.length : Int) ∧ (xs.length : Int) < 1000000 := ⟨hy.1, hy.2, by omega⟩
  have ht2 : 0 ≤ e.1 4 14 ∧ e.1 4 14 < 1000000 := by have := h.ht hk2; omega
  have h' := pj_signal (p1 := scr xs (y + 1)) (p2 := scr xs (y + 2)) (p3 := scr xs (y + 3)) h hk
  have hc := c_signal (p1 := scr xs (y + 1)) (p2 := scr xs (y + 2)) (p3 := scr xs (y + 3)) C (h.bd hk2)
  obtain ⟨m', g1, g9, g2⟩ := oc_signal C hR hP hy3 hc (fun m1 R1 P1 => x_signal R1 hcn (h.rlw hk2) (h'.rfw (by omega))) hq_signal
  exact ⟨m', _, ⟨(law_at_5 hlen hy hi).trans g1, g9⟩, g2, _, _, _, _, _, _, _, _, _, _, h'⟩
theorem sc_update (R : RLm m e) (hI : PIv k e) (hk : k ≤ 511) (hlen : xs.length ≤ 3584) (hy : 0 ≤ y ∧ y + 7 ≤ (xs.length : Int)) (hi : iAnd (scr xs y) 63 = 6) : ∃ m' e', (fl_L_law_23 xs (f + 1) y m = fl_L_law_23 xs f (y + 7) m' ∧ (∀ (g : Int → Int → Int) (D : Int), GOK g → OWk g D m → OWk g (D + g 99 0) m')) ∧ RLm m' e' ∧ PIv (k + 1) e' := by
  obtain ⟨ow, ad, C, hR, hP⟩ := R
  obtain ⟨S, D, T, A, B, P, W, V, Z, ℓ, h⟩ := hI
  have hk2 : k ≤ 512 := by omega
  have hcn := h.1.cn
  have hy3 : 0 ≤ y ∧ y + 7 ≤ (xs.length : Int) ∧ (xs.length : Int) < 1000000 := ⟨hy.1, hy.2, by omega⟩
  have ht2 : 0 ≤ e.1 4 14 ∧ e.1 4 14 < 1000000 := by have := h.ht hk2; omega
  have h' := pj_update (p1 := scr xs (y + 1)) (p2 := scr xs (y + 2)) (p3 := scr xs (y + 3)) h hk
  have hc := c_update (p1 := scr xs (y + 1)) (p2 := scr xs (y + 2)) (p3 := scr xs (y + 3)) C (h.wx hk2) (h.bd hk2) (fun i i0 i1 => (h.1.fok3 h.2.1 i0 i1).1)
  obtain ⟨m', g1, g9, g2⟩ := oc_update C hR hP hy3 hc (fun m1 R1 P1 => x_update2 R1 hcn P1 (h.rlw hk2) (h'.rfw (by omega)) (fun a0 a1 => ⟨(h.1.fok3 h.2.1 a0 a1).2, h.1.wrun a0 a1⟩) (fun a0 a1 s s30 => h.1.upd h.2.1 a0 a1 s s30)) hq_update hb_update
  exact ⟨m', _, ⟨(law_at_6 hlen hy hi).trans g1, g9⟩, g2, _, _, _, _, _, _, _, _, _, _, h'⟩
theorem sc_cancel (R : RLm m e) (hI : PIv k e) (hk : k ≤ 511) (hlen : xs.length ≤ 3584) (hy : 0 ≤ y ∧ y + 7 ≤ (xs.length : Int)) (hi : iAnd (scr xs y) 63 = 7) : ∃ m' e', (fl_L_law_23 xs (f + 1) y m = fl_L_law_23 xs f (y + 7) m' ∧ (∀ (g : Int → Int → Int) (D : Int), GOK g → OWk g D m → OWk g (D + g 99 0) m')) ∧ RLm m' e' ∧ PIv (k + 1) e' := by
  obtain ⟨ow, ad, C, hR, hP⟩ := R
  obtain ⟨S, D, T, A, B, P, W, V, Z, ℓ, h⟩ := hI
  have hk2 : k ≤ 512 := by omega
  have hcn := h.1.cn
  have hy3 : 0 ≤ y ∧ y + 7 ≤ (xs.length : Int) ∧ (xs.length : Int) < 1000000 := ⟨hy.1, hy.2, by omega⟩
  have ht2 : 0 ≤ e.1 4 14 ∧ e.1 4 14 < 1000000 := by have := h.ht hk2; omega
  have h' := pj_cancel (p1 := scr xs (y + 1)) h hk2
  have hc := c_cancel (p1 := scr xs (y + 1)) C (h.bd hk2)
  obtain ⟨m', g1, g9, g2⟩ := oc_cancel C hR hP hy3 hc (fun m1 R1 P1 => x_cancel R1 hcn (h.rlw hk2) (h'.rfw (by omega))) hq_cancel hb_cancel
  exact ⟨m', _, ⟨(law_at_7 hlen hy hi).trans g1, g9⟩, g2, _, _, _, _, _, _, _, _, _, _, h'⟩
theorem sc_query (R : RLm m e) (hI : PIv k e) (hk : k ≤ 511) (hlen : xs.length ≤ 3584) (hy : 0 ≤ y ∧ y + 7 ≤ (xs.length : Int)) (hi : iAnd (scr xs y) 63 = 8) : ∃ m' e', (fl_L_law_23 xs (f + 1) y m = fl_L_law_23 xs f (y + 7) m' ∧ (∀ (g : Int → Int → Int) (D : Int), GOK g → OWk g D m → OWk g (D + g 99 0) m')) ∧ RLm m' e' ∧ PIv (k + 1) e' := by
  obtain ⟨ow, ad, C, hR, hP⟩ := R
  obtain ⟨S, D, T, A, B, P, W, V, Z, ℓ, h⟩ := hI
  have hk2 : k ≤ 512 := by omega
  have hcn := h.1.cn
  have hy3 : 0 ≤ y ∧ y + 7 ≤ (xs.length : Int) ∧ (xs.length : Int) < 1000000 := ⟨hy.1, hy.2, by omega⟩
  have ht2 : 0 ≤ e.1 4 14 ∧ e.1 4 14 < 1000000 := by have := h.ht hk2; omega
  have h' := pj_query (p1 := scr xs (y + 1)) (p2 := scr xs (y + 2)) h hk2
  have hc := c_query (p1 := scr xs (y + 1)) (p2 := scr xs (y + 2)) C (h.wx hk2) (fun i i0 i1 => (h.1.fok3 h.2.1 i0 i1).1)
  obtain ⟨m', g1, g9, g2⟩ := oc_query C hR hP hy3 hc (fun m1 R1 P1 => x_query R1 hcn P1 (fun a0 a1 => ⟨(h.1.fok3 h.2.1 a0 a1).2, h.1.wrun a0 a1⟩)) hq_query
  exact ⟨m', _, ⟨(law_at_8 hlen hy hi).trans g1, g9⟩, g2, _, _, _, _, _, _, _, _, _, _, h'⟩
theorem sc_plain (R : RLm m e) (hI : PIv k e) (hk : k ≤ 511) (hlen : xs.length ≤ 3584) (hy : 0 ≤ y ∧ y + 7 ≤ (xs.length : Int)) (hi : iAnd (scr xs y) 63 = 9) : ∃ m' e', (fl_L_law_23 xs (f + 1) y m = fl_L_law_23 xs f (y + 7) m' ∧ (∀ (g : Int → Int → Int) (D : Int), GOK g → OWk g D m → OWk g (D + g 99 0) m')) ∧ RLm m' e' ∧ PIv (k + 1) e' := by
  obtain ⟨ow, ad, C, hR, hP⟩ := R
  obtain ⟨S, D, T, A, B, P, W, V, Z, ℓ, h⟩ := hI
  have hk2 : k ≤ 512 := by omega
  have hcn := h.1.cn
  have hy3 : 0 ≤ y ∧ y + 7 ≤ (xs.length : Int) ∧ (xs.length : Int) < 1000000 := ⟨hy.1, hy.2, by omega⟩
  have ht2 : 0 ≤ e.1 4 14 ∧ e.1 4 14 < 1000000 := by have := h.ht hk2; omega
  have h' := pj_plain (p1 := scr xs (y + 1)) (p2 := scr xs (y + 2)) h hk2
  have hc := c_plain (p1 := scr xs (y + 1)) (p2 := scr xs (y + 2)) C (h.wx hk2) (fun i w i0 i1 hw => h.1.fokp h.2.1 i0 i1 hw)
  obtain ⟨m', g1, g9, g2⟩ := oc_plain C hR hP hy3 hc (fun m1 R1 P1 => x_plain2 R1 hcn P1 h) hq_plain
  exact ⟨m', _, ⟨(law_at_9 hlen hy hi).trans g1, g9⟩, g2, _, _, _, _, _, _, _, _, _, _, h'⟩
theorem sc_standing (R : RLm m e) (hI : PIv k e) (hk : k ≤ 511) (hlen : xs.length ≤ 3584) (hy : 0 ≤ y ∧ y + 7 ≤ (xs.length : Int)) (hi : iAnd (scr xs y) 63 = 10) : ∃ m' e', (fl_L_law_23 xs (f + 1) y m = fl_L_law_23 xs f (y + 7) m' ∧ (∀ (g : Int → Int → Int) (D : Int), GOK g → OWk g D m → OWk g (D + g 99 0) m')) ∧ RLm m' e' ∧ PIv (k + 1) e' := by
  obtain ⟨ow, ad, C, hR, hP⟩ := R
  obtain ⟨S, D, T, A, B, P, W, V, Z, ℓ, h⟩ := hI
  have hk2 : k ≤ 512 := by omega
  have hcn := h.1.cn
  have hy3 : 0 ≤ y ∧ y + 7 ≤ (xs.length : Int) ∧ (xs.length : Int) < 1000000 := ⟨hy.1, hy.2, by omega⟩
  have ht2 : 0 ≤ e.1 4 14 ∧ e.1 4 14 < 1000000 := by have := h.ht hk2; omega
  have h' := pj_standing (p1 := scr xs (y + 1)) h
  have hc := c_standing (p1 := scr xs (y + 1)) C (h.bd hk2) (fun i i0 i1 => (h.1.2.1.1 i i0 i1).2.2.2.2.2.1) (fun i i0 i1 => by have := h.1.len i0 i1; omega)
  obtain ⟨m', g1, g9, g2⟩ := oc_standing C hR hP hy3 hc (fun m1 R1 P1 => x_standing R1 hcn (fun i i0 i1 => (h.1.2.1.1 i i0 i1).2.2.2.2.2.1) (fun i i0 i1 => by have := h.1.len i0 i1; omega)) hq_standing
  exact ⟨m', _, ⟨(law_at_10 hlen hy hi).trans g1, g9⟩, g2, _, _, _, _, _, _, _, _, _, _, h'⟩
theorem sc_event (R : RLm m e) (hI : PIv k e) (hk : k ≤ 511) (hlen : xs.length ≤ 3584) (hy : 0 ≤ y ∧ y + 7 ≤ (xs.length : Int)) (hi : iAnd (scr xs y) 63 = 11) : ∃ m' e', (fl_L_law_23 xs (f + 1) y m = fl_L_law_23 xs f (y + 7) m' ∧ (∀ (g : Int → Int → Int) (D : Int), GOK g → OWk g D m → OWk g (D + g 99 0) m')) ∧ RLm m' e' ∧ PIv (k + 1) e' := by
  obtain ⟨ow, ad, C, hR, hP⟩ := R
  obtain ⟨S, D, T, A, B, P, W, V, Z, ℓ, h⟩ := hI
  have hk2 : k ≤ 512 := by omega
  have hcn := h.1.cn
  have hy3 : 0 ≤ y ∧ y + 7 ≤ (xs.length : Int) ∧ (xs.length : Int) < 1000000 := ⟨hy.1, hy.2, by omega⟩
  have ht2 : 0 ≤ e.1 4 14 ∧ e.1 4 14 < 1000000 := by have := h.ht hk2; omega
  have h' := pj_event (p1 := scr xs (y + 1)) (p2 := scr xs (y + 2)) h
  have hc := c_event (p1 := scr xs (y + 1)) (p2 := scr xs (y + 2)) C
  obtain ⟨m', g1, g9, g2⟩ := oc_event C hR hP hy3 hc (fun m1 R1 P1 => x_event R1 hcn (fun i i0 i1 => by have := h.1.len i0 i1; omega)) hq_event
  exact ⟨m', _, ⟨(law_at_11 hlen hy hi).trans g1, g9⟩, g2, _, _, _, _, _, _, _, _, _, _, h'⟩
theorem sc_difference (R : RLm m e) (hI : PIv k e) (hk : k ≤ 511) (hlen : xs.length ≤ 3584) (hy : 0 ≤ y ∧ y + 7 ≤ (xs.length : Int)) (hi : iAnd (scr xs y) 63 = 12) : ∃ m' e', (fl_L_law_23 xs (f + 1) y m = fl_L_law_23 xs f (y + 7) m' ∧ (∀ (g : Int → Int → Int) (D : Int), GOK g → OWk g D m → OWk g (D + g 99 0) m')) ∧ RLm m' e' ∧ PIv (k + 1) e' := by
  obtain ⟨ow, ad, C, hR, hP⟩ := R
  obtain ⟨S, D, T, A, B, P, W, V, Z, ℓ, h⟩ := hI
  have hk2 : k ≤ 512 := by omega
  have hcn := h.1.cn
  have hy3 : 0 ≤ y ∧ y + 7 ≤ (xs.length : Int) ∧ (xs.length : Int) < 1000000 := ⟨hy.1, hy.2, by omega⟩
  have ht2 : 0 ≤ e.1 4 14 ∧ e.1 4 14 < 1000000 := by have := h.ht hk2; omega
  have h' := pj_difference (p1 := scr xs (y + 1)) h
  have hc := c_difference (p1 := scr xs (y + 1)) C
  obtain ⟨m', g1, g9, g2⟩ := oc_difference C hR hP hy3 hc (fun m1 R1 P1 => x_difference R1 hcn) hq_difference
  exact ⟨m', _, ⟨(law_at_12 hlen hy hi).trans g1, g9⟩, g2, _, _, _, _, _, _, _, _, _, _, h'⟩
theorem sc_runs (R : RLm m e) (hI : PIv k e) (hk : k ≤ 511) (hlen : xs.length ≤ 3584) (hy : 0 ≤ y ∧ y + 7 ≤ (xs.length : Int)) (hi : iAnd (scr xs y) 63 = 13) : ∃ m' e', (fl_L_law_23 xs (f + 1) y m = fl_L_law_23 xs f (y + 7) m' ∧ (∀ (g : Int → Int → Int) (D : Int), GOK g → OWk g D m → OWk g (D + g 99 0) m')) ∧ RLm m' e' ∧ PIv (k + 1) e' := by
  obtain ⟨ow, ad, C, hR, hP⟩ := R
  obtain ⟨S, D, T, A, B, P, W, V, Z, ℓ, h⟩ := hI
  have hk2 : k ≤ 512 := by omega
  have hcn := h.1.cn
  have hy3 : 0 ≤ y ∧ y + 7 ≤ (xs.length : Int) ∧ (xs.length : Int) < 1000000 := ⟨hy.1, hy.2, by omega⟩
  have ht2 : 0 ≤ e.1 4 14 ∧ e.1 4 14 < 1000000 := by have := h.ht hk2; omega
  obtain ⟨m', g1, g9, g2⟩ := oc_runs (xs := xs) C hR hP hy3
  exact ⟨m', e, ⟨(law_at_13 hlen hy hi).trans g1, g9⟩, g2, _, _, _, _, _, _, _, _, _, _, h.up⟩
theorem sc_setRate (R : RLm m e) (hI : PIv k e) (hk : k ≤ 511) (hlen : xs.length ≤ 3584) (hy : 0 ≤ y ∧ y + 7 ≤ (xs.length : Int)) (hi : iAnd (scr xs y) 63 = 14) : ∃ m' e', (fl_L_law_23 xs (f + 1) y m = fl_L_law_23 xs f (y + 7) m' ∧ (∀ (g : Int → Int → Int) (D : Int), GOK g → OWk g D m → OWk g (D + g 99 0) m')) ∧ RLm m' e' ∧ PIv (k + 1) e' := by
  obtain ⟨ow, ad, C, hR, hP⟩ := R
  obtain ⟨S, D, T, A, B, P, W, V, Z, ℓ, h⟩ := hI
  have hk2 : k ≤ 512 := by omega
  have hcn := h.1.cn
  have hy3 : 0 ≤ y ∧ y + 7 ≤ (xs.length : Int) ∧ (xs.length : Int) < 1000000 := ⟨hy.1, hy.2, by omega⟩
  have ht2 : 0 ≤ e.1 4 14 ∧ e.1 4 14 < 1000000 := by have := h.ht hk2; omega
  have h' := pj_setRate (p1 := scr xs (y + 1)) h hk2
  have hc := c_setRate (p1 := scr xs (y + 1)) C
  obtain ⟨m', g1, g9, g2⟩ := oc_setRate C hR hP hy3 hc (fun m1 R1 P1 => x_setRate R1 hcn) hq_setRate
  exact ⟨m', _, ⟨(law_at_14 hlen hy hi).trans g1, g9⟩, g2, _, _, _, _, _, _, _, _, _, _, h'⟩
theorem sc_poll (R : RLm m e) (hI : PIv k e) (hk : k ≤ 511) (hlen : xs.length ≤ 3584) (hy : 0 ≤ y ∧ y + 7 ≤ (xs.length : Int)) (hi : iAnd (scr xs y) 63 = 15) : ∃ m' e', (fl_L_law_23 xs (f + 1) y m = fl_L_law_23 xs f (y + 7) m' ∧ (∀ (g : Int → Int → Int) (D : Int), GOK g → OWk g D m → OWk g (D + g 99 0) m')) ∧ RLm m' e' ∧ PIv (k + 1) e' := by
  obtain ⟨ow, ad, C, hR, hP⟩ := R
  obtain ⟨S, D, T, A, B, P, W, V, Z, ℓ, h⟩ := hI
  have hk2 : k ≤ 512 := by omega
  have hcn := h.1.cn
  have hy3 : 0 ≤ y ∧ y + 7 ≤ (xs.length : Int) ∧ (xs.length : Int) < 1000000 := ⟨hy.1, hy.2, by omega⟩
  have ht2 : 0 ≤ e.1 4 14 ∧ e.1 4 14 < 1000000 := by have := h.ht hk2; omega
  have hc := c_poll (p1 := scr xs (y + 1)) C (h.wb hk2) (by have := (h.n hk2).2; omega) (fun i i0 i1 => h.mkb hk2 i0 i1)
  have h' := pj_poll (p1 := scr xs (y + 1)) h hc.cn hk
  obtain ⟨m', g1, g9, g2⟩ := oc_poll C hR hP hy3 hc (fun m1 R1 P1 => x_poll R1 hcn (h.rlw hk2) (HH.tskb h.wts) h.2.2.1.1.1 h.1.ord (fun w w0 w1 => by have := h.2.1.2.2.2.1 w w0 w1; omega) (fun i i0 i1 => h.prn hk2 i0 i1) (by have := (h.n hk2).2; omega)) hq_poll
  exact ⟨m', _, ⟨(law_at_15 hlen hy hi).trans g1, g9⟩, g2, _, _, _, _, _, _, _, _, _, _, h'⟩
theorem sc_complete (R : RLm m e) (hI : PIv k e) (hk : k ≤ 511) (hlen : xs.length ≤ 3584) (hy : 0 ≤ y ∧ y + 7 ≤ (xs.length : Int)) (hi : iAnd (scr xs y) 63 = 16) : ∃ m' e', (fl_L_law_23 xs (f + 1) y m = fl_L_law_23 xs f (y + 7) m' ∧ (∀ (g : Int → Int → Int) (D : Int), GOK g → OWk g D m → OWk g (D + g 99 0) m')) ∧ RLm m' e' ∧ PIv (k + 1) e' := by
  obtain ⟨ow, ad, C, hR, hP⟩ := R
  obtain ⟨S, D, T, A, B, P, W, V, Z, ℓ, h⟩ := hI
  have hk2 : k ≤ 512 := by omega
  have hcn := h.1.cn
  have hy3 : 0 ≤ y ∧ y + 7 ≤ (xs.length : Int) ∧ (xs.length : Int) < 1000000 := ⟨hy.1, hy.2, by omega⟩
  have ht2 : 0 ≤ e.1 4 14 ∧ e.1 4 14 < 1000000 := by have := h.ht hk2; omega
  have hX := pj_complete (p1 := scr xs (y + 1)) h C hk
  obtain ⟨S', D', T', A', B', P', W', V', Z', l', h'⟩ := hX
  have hX : PIv (k + 1) (pcComplete (scr xs (y + 1)) e).2 := ⟨S', D', T', A', B', P', W', V', Z', l', h'⟩
  have kR := h.1.2.2.2.2.2.1.2
  have hc := c_complete (p1 := scr xs (y + 1)) C (h.wx hk2) (h.bdl hk2) (h'.bdf (by omega)) h.1.tyo fun k0 k1 => ⟨h.1.tmo (kR _ k0 k1).1 (kR _ k0 k1).2, h.mkb hk2 (kR _ k0 k1).1 (kR _ k0 k1).2, fun c1 c2 c3 => ⟨(h.cmp hX hk k0 k1 c1 c2 c3).1, cmr_t (h.cmp hX hk k0 k1 c1 c2 c3).2⟩⟩
  obtain ⟨m', g1, g9, g2⟩ := oc_complete C hR hP hy3 hc (fun m1 R1 P1 => x_complete R1 hcn (h.rlw hk2) P1 (fun p p0 p1 => ⟨(h.wts p p0 p1).1, kR p p0 p1⟩) (fun i i0 i1 => ⟨h.1.wrun i0 i1, (h.prn hk2 i0 i1).2.2.1, (h.prn hk2 i0 i1).2.2.2.1⟩) (fun w w0 w1 => by have := h.2.1.2.2.2.1 w w0 w1; omega) fun k0 k1 c1 c2 c3 => (h.cmp hX hk k0 k1 c1 c2 c3).2) hq_complete
  exact ⟨m', _, ⟨(law_at_16 hlen hy hi).trans g1, g9⟩, g2, hX⟩
theorem sc_die (R : RLm m e) (hI : PIv k e) (hk : k ≤ 511) (hlen : xs.length ≤ 3584) (hy : 0 ≤ y ∧ y + 7 ≤ (xs.length : Int)) (hi : iAnd (scr xs y) 63 = 17) : ∃ m' e', (fl_L_law_23 xs (f + 1) y m = fl_L_law_23 xs f (y + 7) m' ∧ (∀ (g : Int → Int → Int) (D : Int), GOK g → OWk g D m → OWk g (D + g 99 0) m')) ∧ RLm m' e' ∧ PIv (k + 1) e' := by
  obtain ⟨ow, ad, C, hR, hP⟩ := R
  obtain ⟨S, D, T, A, B, P, W, V, Z, ℓ, h⟩ := hI
  have hk2 : k ≤ 512 := by omega
  have hcn := h.1.cn
  have hy3 : 0 ≤ y ∧ y + 7 ≤ (xs.length : Int) ∧ (xs.length : Int) < 1000000 := ⟨hy.1, hy.2, by omega⟩
  have ht2 : 0 ≤ e.1 4 14 ∧ e.1 4 14 < 1000000 := by have := h.ht hk2; omega
  have h' := pj_die (p1 := scr xs (y + 1)) h hk2
  have hc := c_die (p1 := scr xs (y + 1)) C
  obtain ⟨m', g1, g9, g2⟩ := oc_die C hR hP hy3 hc (fun m1 R1 P1 => x_die R1 hcn (fun p p0 p1 => (h.wts p p0 p1).2.2.2)) hq_die
  exact ⟨m', _, ⟨(law_at_17 hlen hy hi).trans g1, g9⟩, g2, _, _, _, _, _, _, _, _, _, _, h'⟩
theorem sc_replays (R : RLm m e) (hI : PIv k e) (hk : k ≤ 511) (hlen : xs.length ≤ 3584) (hy : 0 ≤ y ∧ y + 7 ≤ (xs.length : Int)) (hi : iAnd (scr xs y) 63 = 18) : ∃ m' e', (fl_L_law_23 xs (f + 1) y m = fl_L_law_23 xs f (y + 7) m' ∧ (∀ (g : Int → Int → Int) (D : Int), GOK g → OWk g D m → OWk g (D + g 99 0) m')) ∧ RLm m' e' ∧ PIv (k + 1) e' := by
  obtain ⟨ow, ad, C, hR, hP⟩ := R
  obtain ⟨S, D, T, A, B, P, W, V, Z, ℓ, h⟩ := hI
  have hk2 : k ≤ 512 := by omega
  have hcn := h.1.cn
  have hy3 : 0 ≤ y ∧ y + 7 ≤ (xs.length : Int) ∧ (xs.length : Int) < 1000000 := ⟨hy.1, hy.2, by omega⟩
  have ht2 : 0 ≤ e.1 4 14 ∧ e.1 4 14 < 1000000 := by have := h.ht hk2; omega
  have h' := pj_replays (p1 := scr xs (y + 1)) h
  have hc := c_replays (p1 := scr xs (y + 1)) C
  obtain ⟨m', g1, g9, g2⟩ := oc_replays C hR hP hy3 hc (fun m1 R1 P1 => x_replays R1 hcn) hq_replays
  exact ⟨m', _, ⟨(law_at_18 hlen hy hi).trans g1, g9⟩, g2, _, _, _, _, _, _, _, _, _, _, h'⟩
theorem sc_take (R : RLm m e) (hI : PIv k e) (hk : k ≤ 511) (hlen : xs.length ≤ 3584) (hy : 0 ≤ y ∧ y + 7 ≤ (xs.length : Int)) (hi : iAnd (scr xs y) 63 = 19) : ∃ m' e', (fl_L_law_23 xs (f + 1) y m = fl_L_law_23 xs f (y + 7) m' ∧ (∀ (g : Int → Int → Int) (D : Int), GOK g → OWk g D m → OWk g (D + g 99 0) m')) ∧ RLm m' e' ∧ PIv (k + 1) e' := by
  obtain ⟨ow, ad, C, hR, hP⟩ := R
  obtain ⟨S, D, T, A, B, P, W, V, Z, ℓ, h⟩ := hI
  have hk2 : k ≤ 512 := by omega
  have hcn := h.1.cn
  have hy3 : 0 ≤ y ∧ y + 7 ≤ (xs.length : Int) ∧ (xs.length : Int) < 1000000 := ⟨hy.1, hy.2, by omega⟩
  have ht2 : 0 ≤ e.1 4 14 ∧ e.1 4 14 < 1000000 := by have := h.ht hk2; omega
  have h' := pj_take (p1 := scr xs (y + 1)) h hk2
  have hc := c_take (p1 := scr xs (y + 1)) C (h.wb hk2)
  obtain ⟨m', g1, g9, g2⟩ := oc_take C hR hP hy3 hc (fun m1 R1 P1 => x_take R1 hcn (h.pw hk2).2.2.1) hq_take
  exact ⟨m', _, ⟨(law_at_19 hlen hy hi).trans g1, g9⟩, g2, _, _, _, _, _, _, _, _, _, _, h'⟩
theorem sc_answer (R : RLm m e) (hI : PIv k e) (hk : k ≤ 511) (hlen : xs.length ≤ 3584) (hy : 0 ≤ y ∧ y + 7 ≤ (xs.length : Int)) (hi : iAnd (scr xs y) 63 = 20) : ∃ m' e', (fl_L_law_23 xs (f + 1) y m = fl_L_law_23 xs f (y + 7) m' ∧ (∀ (g : Int → Int → Int) (D : Int), GOK g → OWk g D m → OWk g (D + g 99 0) m')) ∧ RLm m' e' ∧ PIv (k + 1) e' := by
  obtain ⟨ow, ad, C, hR, hP⟩ := R
  obtain ⟨S, D, T, A, B, P, W, V, Z, ℓ, h⟩ := hI
  have hk2 : k ≤ 512 := by omega
  have hcn := h.1.cn
  have hy3 : 0 ≤ y ∧ y + 7 ≤ (xs.length : Int) ∧ (xs.length : Int) < 1000000 := ⟨hy.1, hy.2, by omega⟩
  have ht2 : 0 ≤ e.1 4 14 ∧ e.1 4 14 < 1000000 := by have := h.ht hk2; omega
  have h' := pj_answer (p1 := scr xs (y + 1)) (p2 := scr xs (y + 2)) h hk2
  have hc := c_answer (p1 := scr xs (y + 1)) (p2 := scr xs (y + 2)) C (h.wb hk2)
  obtain ⟨m', g1, g9, g2⟩ := oc_answer C hR hP hy3 hc (fun m1 R1 P1 => x_answer R1 hcn (h.rlw hk2) (h'.rfw (by omega)) (h.pw hk2).2.2.1) hq_answer hb_answer
  exact ⟨m', _, ⟨(law_at_20 hlen hy hi).trans g1, g9⟩, g2, _, _, _, _, _, _, _, _, _, _, h'⟩
theorem sc_fail (R : RLm m e) (hI : PIv k e) (hk : k ≤ 511) (hlen : xs.length ≤ 3584) (hy : 0 ≤ y ∧ y + 7 ≤ (xs.length : Int)) (hi : iAnd (scr xs y) 63 = 21) : ∃ m' e', (fl_L_law_23 xs (f + 1) y m = fl_L_law_23 xs f (y + 7) m' ∧ (∀ (g : Int → Int → Int) (D : Int), GOK g → OWk g D m → OWk g (D + g 99 0) m')) ∧ RLm m' e' ∧ PIv (k + 1) e' := by
  obtain ⟨ow, ad, C, hR, hP⟩ := R
  obtain ⟨S, D, T, A, B, P, W, V, Z, ℓ, h⟩ := hI
  have hk2 : k ≤ 512 := by omega
  have hcn := h.1.cn
  have hy3 : 0 ≤ y ∧ y + 7 ≤ (xs.length : Int) ∧ (xs.length : Int) < 1000000 := ⟨hy.1, hy.2, by omega⟩
  have ht2 : 0 ≤ e.1 4 14 ∧ e.1 4 14 < 1000000 := by have := h.ht hk2; omega
  obtain ⟨q, hq⟩ : ∃ q : Int, q = if scr xs (y + 2) = 0 then 0 else 1 := ⟨_, rfl⟩
  have h' := pj_fail (p1 := scr xs (y + 1)) (p2 := q) h hk2
  have hc := c_fail (p1 := scr xs (y + 1)) (p2 := q) C (h.wb hk2)
  obtain ⟨m', g1, g9, g2⟩ := oc_fail C hR hP hy3 hq hc (fun m1 R1 P1 => x_fail R1 hcn (h.rlw hk2) (h'.rfw (by omega)) (h.pw hk2).2.2.1 (h.glo hk2)) hq_fail hb_fail
  exact ⟨m', _, ⟨(law_at_21 hlen hy hi).trans g1, g9⟩, g2, _, _, _, _, _, _, _, _, _, _, h'⟩
theorem sc_beat (R : RLm m e) (hI : PIv k e) (hk : k ≤ 511) (hlen : xs.length ≤ 3584) (hy : 0 ≤ y ∧ y + 7 ≤ (xs.length : Int)) (hi : iAnd (scr xs y) 63 = 22) : ∃ m' e', (fl_L_law_23 xs (f + 1) y m = fl_L_law_23 xs f (y + 7) m' ∧ (∀ (g : Int → Int → Int) (D : Int), GOK g → OWk g D m → OWk g (D + g 99 0) m')) ∧ RLm m' e' ∧ PIv (k + 1) e' := by
  obtain ⟨ow, ad, C, hR, hP⟩ := R
  obtain ⟨S, D, T, A, B, P, W, V, Z, ℓ, h⟩ := hI
  have hk2 : k ≤ 512 := by omega
  have hcn := h.1.cn
  have hy3 : 0 ≤ y ∧ y + 7 ≤ (xs.length : Int) ∧ (xs.length : Int) < 1000000 := ⟨hy.1, hy.2, by omega⟩
  have ht2 : 0 ≤ e.1 4 14 ∧ e.1 4 14 < 1000000 := by have := h.ht hk2; omega
  have h' := pj_beat (p1 := scr xs (y + 1)) (p2 := scr xs (y + 2)) h hk2
  have hc := c_beat (p1 := scr xs (y + 1)) (p2 := scr xs (y + 2)) C
  obtain ⟨m', g1, g9, g2⟩ := oc_beat C hR hP hy3 hc (fun m1 R1 P1 => x_beat R1 hcn) hq_beat
  exact ⟨m', _, ⟨(law_at_22 hlen hy hi).trans g1, g9⟩, g2, _, _, _, _, _, _, _, _, _, _, h'⟩
theorem sc_activity (R : RLm m e) (hI : PIv k e) (hk : k ≤ 511) (hlen : xs.length ≤ 3584) (hy : 0 ≤ y ∧ y + 7 ≤ (xs.length : Int)) (hi : iAnd (scr xs y) 63 = 23) : ∃ m' e', (fl_L_law_23 xs (f + 1) y m = fl_L_law_23 xs f (y + 7) m' ∧ (∀ (g : Int → Int → Int) (D : Int), GOK g → OWk g D m → OWk g (D + g 99 0) m')) ∧ RLm m' e' ∧ PIv (k + 1) e' := by
  obtain ⟨ow, ad, C, hR, hP⟩ := R
  obtain ⟨S, D, T, A, B, P, W, V, Z, ℓ, h⟩ := hI
  have hk2 : k ≤ 512 := by omega
  have hcn := h.1.cn
  have hy3 : 0 ≤ y ∧ y + 7 ≤ (xs.length : Int) ∧ (xs.length : Int) < 1000000 := ⟨hy.1, hy.2, by omega⟩
  have ht2 : 0 ≤ e.1 4 14 ∧ e.1 4 14 < 1000000 := by have := h.ht hk2; omega
  have h' := pj_activity (p1 := scr xs (y + 1)) h
  have hc := c_activity (p1 := scr xs (y + 1)) C (h.wb hk2)
  obtain ⟨m', g1, g9, g2⟩ := oc_activity C hR hP hy3 hc (fun m1 R1 P1 => x_activity R1 hcn (h.pw hk2).2.2.1) hq_activity
  exact ⟨m', _, ⟨(law_at_23 hlen hy hi).trans g1, g9⟩, g2, _, _, _, _, _, _, _, _, _, _, h'⟩
theorem sc_pass (R : RLm m e) (hI : PIv k e) (hk : k ≤ 511) (hlen : xs.length ≤ 3584) (hy : 0 ≤ y ∧ y + 7 ≤ (xs.length : Int)) (hi : iAnd (scr xs y) 63 = 24) : ∃ m' e', (fl_L_law_23 xs (f + 1) y m = fl_L_law_23 xs f (y + 7) m' ∧ (∀ (g : Int → Int → Int) (D : Int), GOK g → OWk g D m → OWk g (D + g 99 0) m')) ∧ RLm m' e' ∧ PIv (k + 1) e' := by
  obtain ⟨ow, ad, C, hR, hP⟩ := R
  obtain ⟨S, D, T, A, B, P, W, V, Z, ℓ, h⟩ := hI
  have hk2 : k ≤ 512 := by omega
  have hcn := h.1.cn
  have hy3 : 0 ≤ y ∧ y + 7 ≤ (xs.length : Int) ∧ (xs.length : Int) < 1000000 := ⟨hy.1, hy.2, by omega⟩
  have ht2 : 0 ≤ e.1 4 14 ∧ e.1 4 14 < 1000000 := by have := h.ht hk2; omega
  have h' := pj_pass (p1 := scr xs (y + 1)) h hk
  have hc := c_pass (p1 := scr xs (y + 1)) C (h.pw hk2) (h.bdl hk2) (fun q1 q2 => by have := h'.bds (by omega); rw [pas_e q1 q2] at this; exact this) (h.ht hk2).2
  obtain ⟨m', g1, g9, g2⟩ := oc_pass C hR hP hy3 hc (fun m1 R1 P1 => x_pass R1 (h.pw hk2) (h.rlw hk2) h.1.tms (HH.lsb h.wsc) (fun q1 q2 => by have := h'.rfw (by omega); rw [pas_e q1 q2] at this; exact this) (h.ht hk2).2) hq_pass
  exact ⟨m', _, ⟨(law_at_24 hlen hy hi).trans g1, g9⟩, g2, _, _, _, _, _, _, _, _, _, _, h'⟩
theorem sc_unsafe (R : RLm m e) (hI : PIv k e) (hk : k ≤ 511) (hlen : xs.length ≤ 3584) (hy : 0 ≤ y ∧ y + 7 ≤ (xs.length : Int)) (hi : iAnd (scr xs y) 63 = 25) : ∃ m' e', (fl_L_law_23 xs (f + 1) y m = fl_L_law_23 xs f (y + 7) m' ∧ (∀ (g : Int → Int → Int) (D : Int), GOK g → OWk g D m → OWk g (D + g 99 0) m')) ∧ RLm m' e' ∧ PIv (k + 1) e' := by
  obtain ⟨ow, ad, C, hR, hP⟩ := R
  obtain ⟨S, D, T, A, B, P, W, V, Z, ℓ, h⟩ := hI
  have hk2 : k ≤ 512 := by omega
  have hcn := h.1.cn
  have hy3 : 0 ≤ y ∧ y + 7 ≤ (xs.length : Int) ∧ (xs.length : Int) < 1000000 := ⟨hy.1, hy.2, by omega⟩
  have ht2 : 0 ≤ e.1 4 14 ∧ e.1 4 14 < 1000000 := by have := h.ht hk2; omega
  have h' := pj_27 (p1 := scr xs (y + 1)) (p2 := scr xs (y + 2)) h hk2
  have hc := c_unsafe (p1 := scr xs (y + 1)) (p2 := scr xs (y + 2)) C (h.wx hk2) (fun i i0 i1 e1 v0 v1 => (h.1.fok h.2.1 i0 i1 v0 (by rw [e1]; omega)).1)
  obtain ⟨m', g1, g9, g2⟩ := oc_unsafe C hR hP hy3 hc (fun m1 R1 P1 => x_27 R1 hcn P1 (fun _ _ v0 v1 r r0 r1 e1 => (h.1.fok h.2.1 r0 r1 v0 (by rw [e1]; omega)).2)) hq_unsafe
  exact ⟨m', _, ⟨(law_at_25 hlen hy hi).trans g1, g9⟩, g2, _, _, _, _, _, _, _, _, _, _, h'⟩
theorem sc_move (R : RLm m e) (hI : PIv k e) (hk : k ≤ 511) (hlen : xs.length ≤ 3584) (hy : 0 ≤ y ∧ y + 7 ≤ (xs.length : Int)) (hi : iAnd (scr xs y) 63 = 26) : ∃ m' e', (fl_L_law_23 xs (f + 1) y m = fl_L_law_23 xs f (y + 7) m' ∧ (∀ (g : Int → Int → Int) (D : Int), GOK g → OWk g D m → OWk g (D + g 99 0) m')) ∧ RLm m' e' ∧ PIv (k + 1) e' := by
  obtain ⟨ow, ad, C, hR, hP⟩ := R
  obtain ⟨S, D, T, A, B, P, W, V, Z, ℓ, h⟩ := hI
  have hk2 : k ≤ 512 := by omega
  have hcn := h.1.cn
  have hy3 : 0 ≤ y ∧ y + 7 ≤ (xs.length : Int) ∧ (xs.length : Int) < 1000000 := ⟨hy.1, hy.2, by omega⟩
  have ht2 : 0 ≤ e.1 4 14 ∧ e.1 4 14 < 1000000 := by have := h.ht hk2; omega
  have h' := pj_move (p1 := scr xs (y + 1)) (p2 := scr xs (y + 2)) h hk2
  have hc := c_move2 (p1 := scr xs (y + 1)) (p2 := scr xs (y + 2)) C (h.wx hk2) (fun a0 a1 b0 b1 => (h.1.fokm h.2.1 a0 a1 b0 b1).1)
  obtain ⟨m', g1, g9, g2⟩ := oc_move C hR hP hy3 hc (fun m1 R1 P1 => x_move R1 hcn P1 (fun r r0 r1 => h.1.wrun r0 r1) (fun a0 a1 b0 b1 _ => (h.1.fokm h.2.1 a0 a1 b0 b1).2)) hq_move hb_move
  exact ⟨m', _, ⟨(law_at_26 hlen hy hi).trans g1, g9⟩, g2, _, _, _, _, _, _, _, _, _, _, h'⟩
theorem sc_setBack (R : RLm m e) (hI : PIv k e) (hk : k ≤ 511) (hlen : xs.length ≤ 3584) (hy : 0 ≤ y ∧ y + 7 ≤ (xs.length : Int)) (hi : iAnd (scr xs y) 63 = 27) : ∃ m' e', (fl_L_law_23 xs (f + 1) y m = fl_L_law_23 xs f (y + 7) m' ∧ (∀ (g : Int → Int → Int) (D : Int), GOK g → OWk g D m → OWk g (D + g 99 0) m')) ∧ RLm m' e' ∧ PIv (k + 1) e' := by
  obtain ⟨ow, ad, C, hR, hP⟩ := R
  obtain ⟨S, D, T, A, B, P, W, V, Z, ℓ, h⟩ := hI
  have hk2 : k ≤ 512 := by omega
  have hcn := h.1.cn
  have hy3 : 0 ≤ y ∧ y + 7 ≤ (xs.length : Int) ∧ (xs.length : Int) < 1000000 := ⟨hy.1, hy.2, by omega⟩
  have ht2 : 0 ≤ e.1 4 14 ∧ e.1 4 14 < 1000000 := by have := h.ht hk2; omega
  have hX := pj_setBack (p1 := scr xs (y + 1)) (p2 := scr xs (y + 2)) h hk
  obtain ⟨S', D', T', A', B', P', W', V', Z', l', h'⟩ := hX
  have hc := c_setBack (p1 := scr xs (y + 1)) (p2 := scr xs (y + 2)) C (h.bdl hk2) (h'.bdf (by omega)) (fun i i0 i1 => by have := h.1.len i0 i1; omega) (fun c1 c2 c4 c5 c3 hm h7 => stb_E (h.1.sba ht2 ⟨c1, c2⟩ c5 c3 c4) hm h7 hcn.1.1)
  obtain ⟨m', g1, g9, g2⟩ := oc_setBack C hR hP hy3 hc (fun m1 R1 P1 => x_setBack2 R1 hcn (h.rlw hk2) (h'.rfw (by omega)) scr_b.2 h.1.sbr h.1.pev (fun c1 c2 c3 c4 => h.1.sba ht2 c1 c2 c3 c4)) hq_setBack
  exact ⟨m', _, ⟨(law_at_27 hlen hy hi).trans g1, g9⟩, g2, S', D', T', A', B', P', W', V', Z', l', h'⟩
theorem sc_copy (R : RLm m e) (hI : PIv k e) (hk : k ≤ 511) (hlen : xs.length ≤ 3584) (hy : 0 ≤ y ∧ y + 7 ≤ (xs.length : Int)) (hi : iAnd (scr xs y) 63 = 28) : ∃ m' e', (fl_L_law_23 xs (f + 1) y m = fl_L_law_23 xs f (y + 7) m' ∧ (∀ (g : Int → Int → Int) (D : Int), GOK g → OWk g D m → OWk g (D + g 99 0) m')) ∧ RLm m' e' ∧ PIv (k + 1) e' := by
  obtain ⟨ow, ad, C, hR, hP⟩ := R
  obtain ⟨S, D, T, A, B, P, W, V, Z, ℓ, h⟩ := hI
  have hk2 : k ≤ 512 := by omega
  have hcn := h.1.cn
  have hy3 : 0 ≤ y ∧ y + 7 ≤ (xs.length : Int) ∧ (xs.length : Int) < 1000000 := ⟨hy.1, hy.2, by omega⟩
  have ht2 : 0 ≤ e.1 4 14 ∧ e.1 4 14 < 1000000 := by have := h.ht hk2; omega
  have h' := pj_copy (p1 := scr xs (y + 1)) (p2 := scr xs (y + 2)) h
  have hc := c_copy (p1 := scr xs (y + 1)) (p2 := scr xs (y + 2)) C (h.wb hk2)
  obtain ⟨m', g1, g9, g2⟩ := oc_copy C hR hP hy3 hc (fun m1 R1 P1 => x_copy R1 hcn (fun i i0 i1 => by have := h.1.len i0 i1; have := (h.1.2.1.1 i i0 i1).2.2.2.2.2.2.1; omega)) hq_copy
  exact ⟨m', _, ⟨(law_at_28 hlen hy hi).trans g1, g9⟩, g2, _, _, _, _, _, _, _, _, _, _, h'⟩
theorem sc_takeOver (R : RLm m e) (hI : PIv k e) (hk : k ≤ 511) (hlen : xs.length ≤ 3584) (hy : 0 ≤ y ∧ y + 7 ≤ (xs.length : Int)) (hi : iAnd (scr xs y) 63 = 29) : ∃ m' e', (fl_L_law_23 xs (f + 1) y m = fl_L_law_23 xs f (y + 7) m' ∧ (∀ (g : Int → Int → Int) (D : Int), GOK g → OWk g D m → OWk g (D + g 99 0) m')) ∧ RLm m' e' ∧ PIv (k + 1) e' := by
  obtain ⟨ow, ad, C, hR, hP⟩ := R
  obtain ⟨S, D, T, A, B, P, W, V, Z, ℓ, h⟩ := hI
  have hk2 : k ≤ 512 := by omega
  have hcn := h.1.cn
  have hy3 : 0 ≤ y ∧ y + 7 ≤ (xs.length : Int) ∧ (xs.length : Int) < 1000000 := ⟨hy.1, hy.2, by omega⟩
  have ht2 : 0 ≤ e.1 4 14 ∧ e.1 4 14 < 1000000 := by have := h.ht hk2; omega
  have hX := pj_takeOver h hk
  obtain ⟨S', D', T', A', B', P', W', V', Z', l', h'⟩ := hX
  have hn := (h.n hk2).1
  have h5 := h.2.2.2.2.2.2.2.2.2.1
  have hb : S + 2 * D + 2 * (T + 1) ≤ 540 := by omega
  have hk4 : e.1 4 17 ≠ 0 → TkA e ∧ Lz 0 e ∧ ∀ j : Int, 0 ≤ j → j < e.1 7 2 → hN (pTk2 31 0 (pTk1 31 0 0 (eS e 4 17 0)).2) j ≤ 524288 := fun c => h.1.tka h.2.2.1 (by have := h.2.1.2.2.1; omega) (by omega) hb ht2
  have hc : OKc e ad (fm_X11_takeOver m) (pcTakeOver e) := by
    by_cases c : e.1 4 17 = 0
    · exact c_takeOver0 C c
    · exact c_takeOver C (h.bdl hk2) (h'.bdf (by omega)) h.1.tyo (fun j j0 j1 => h.1.tmo j0 j1) (hk4 c).2.1 (hk4 c).2.2 (fun c => tko_E h.1 hb ht2 (hk4 c).1 c h'.1)
  obtain ⟨m', g1, g9, g2⟩ := oc_takeOver (xs := xs) C hR hP hy3 hc (fun m1 R1 P1 => x_takeOver R1 hcn (h.rlw hk2) (h'.rfw (by omega)) fun c => (hk4 c).1) hq_takeOver
  exact ⟨m', _, ⟨(law_at_29 hlen hy hi).trans g1, g9⟩, g2, S', D', T', A', B', P', W', V', Z', l', h'⟩
theorem sc_join (R : RLm m e) (hI : PIv k e) (hk : k ≤ 511) (hlen : xs.length ≤ 3584) (hy : 0 ≤ y ∧ y + 7 ≤ (xs.length : Int)) (hi : iAnd (scr xs y) 63 = 30) : ∃ m' e', (fl_L_law_23 xs (f + 1) y m = fl_L_law_23 xs f (y + 7) m' ∧ (∀ (g : Int → Int → Int) (D : Int), GOK g → OWk g D m → OWk g (D + g 99 0) m')) ∧ RLm m' e' ∧ PIv (k + 1) e' := by
  obtain ⟨ow, ad, C, hR, hP⟩ := R
  obtain ⟨S, D, T, A, B, P, W, V, Z, ℓ, h⟩ := hI
  have hk2 : k ≤ 512 := by omega
  have hcn := h.1.cn
  have hy3 : 0 ≤ y ∧ y + 7 ≤ (xs.length : Int) ∧ (xs.length : Int) < 1000000 := ⟨hy.1, hy.2, by omega⟩
  have ht2 : 0 ≤ e.1 4 14 ∧ e.1 4 14 < 1000000 := by have := h.ht hk2; omega
  have h' := pj_join h
  have hc := c_join C (h.wx hk2) (fun j j0 j1 => h.lst hk2 j0 j1) (h.bdl hk2) (h'.bdf (by omega))
  obtain ⟨m', g1, g9, g2⟩ := oc_join (xs := xs) C hR hP hy3 hc (fun m1 R1 P1 => x_join R1 hcn (h.rlw hk2) (h'.rfw (by omega)) h.1.2.1.2.2.2.1 (by have := nls_tot h.1.1.1; have := (h.n hk2).1; have := h.2.2.2.2.2.2.2.2.2.1; unfold nLs at *; omega)) hq_join
  exact ⟨m', _, ⟨(law_at_30 hlen hy hi).trans g1, g9⟩, g2, _, _, _, _, _, _, _, _, _, _, h'⟩
theorem sc_schedule (R : RLm m e) (hI : PIv k e) (hk : k ≤ 511) (hlen : xs.length ≤ 3584) (hy : 0 ≤ y ∧ y + 7 ≤ (xs.length : Int)) (hi : iAnd (scr xs y) 63 = 31) : ∃ m' e', (fl_L_law_23 xs (f + 1) y m = fl_L_law_23 xs f (y + 7) m' ∧ (∀ (g : Int → Int → Int) (D : Int), GOK g → OWk g D m → OWk g (D + g 99 0) m')) ∧ RLm m' e' ∧ PIv (k + 1) e' := by
  obtain ⟨ow, ad, C, hR, hP⟩ := R
  obtain ⟨S, D, T, A, B, P, W, V, Z, ℓ, h⟩ := hI
  have hk2 : k ≤ 512 := by omega
  have hcn := h.1.cn
  have hy3 : 0 ≤ y ∧ y + 7 ≤ (xs.length : Int) ∧ (xs.length : Int) < 1000000 := ⟨hy.1, hy.2, by omega⟩
  have ht2 : 0 ≤ e.1 4 14 ∧ e.1 4 14 < 1000000 := by have := h.ht hk2; omega
  have hc := c_schedule (p1 := scr xs (y + 1)) (p2 := scr xs (y + 2)) (p3 := scr xs (y + 3)) (p4 := scr xs (y + 4)) C (h.wb hk2)
  have h' := pj_schedule (p1 := scr xs (y + 1)) (p2 := scr xs (y + 2)) (p3 := scr xs (y + 3)) (p4 := scr xs (y + 4)) h hc.cn hk2
  obtain ⟨m', g1, g9, g2⟩ := oc_schedule C hR hP hy3 hc (fun m1 R1 P1 => x_schedule R1 hcn (h.rlw hk2) (h.glo hk2).1) hq_schedule
  exact ⟨m', _, ⟨(law_at_31 hlen hy hi).trans g1, g9⟩, g2, _, _, _, _, _, _, _, _, _, _, h'⟩
theorem sc_togglePause (R : RLm m e) (hI : PIv k e) (hk : k ≤ 511) (hlen : xs.length ≤ 3584) (hy : 0 ≤ y ∧ y + 7 ≤ (xs.length : Int)) (hi : iAnd (scr xs y) 63 = 32) : ∃ m' e', (fl_L_law_23 xs (f + 1) y m = fl_L_law_23 xs f (y + 7) m' ∧ (∀ (g : Int → Int → Int) (D : Int), GOK g → OWk g D m → OWk g (D + g 99 0) m')) ∧ RLm m' e' ∧ PIv (k + 1) e' := by
  obtain ⟨ow, ad, C, hR, hP⟩ := R
  obtain ⟨S, D, T, A, B, P, W, V, Z, ℓ, h⟩ := hI
  have hk2 : k ≤ 512 := by omega
  have hcn := h.1.cn
  have hy3 : 0 ≤ y ∧ y + 7 ≤ (xs.length : Int) ∧ (xs.length : Int) < 1000000 := ⟨hy.1, hy.2, by omega⟩
  have ht2 : 0 ≤ e.1 4 14 ∧ e.1 4 14 < 1000000 := by have := h.ht hk2; omega
  have h' := pj_togglePause (p1 := scr xs (y + 1)) h hk2
  have hc := c_togglePause (p1 := scr xs (y + 1)) C
  obtain ⟨m', g1, g9, g2⟩ := oc_togglePause C hR hP hy3 hc (fun m1 R1 P1 => x_togglePause R1 hcn) hq_togglePause hb_togglePause
  exact ⟨m', _, ⟨(law_at_32 hlen hy hi).trans g1, g9⟩, g2, _, _, _, _, _, _, _, _, _, _, h'⟩
theorem sc_backfill (R : RLm m e) (hI : PIv k e) (hk : k ≤ 511) (hlen : xs.length ≤ 3584) (hy : 0 ≤ y ∧ y + 7 ≤ (xs.length : Int)) (hi : iAnd (scr xs y) 63 = 33) : ∃ m' e', (fl_L_law_23 xs (f + 1) y m = fl_L_law_23 xs f (y + 7) m' ∧ (∀ (g : Int → Int → Int) (D : Int), GOK g → OWk g D m → OWk g (D + g 99 0) m')) ∧ RLm m' e' ∧ PIv (k + 1) e' := by
  obtain ⟨ow, ad, C, hR, hP⟩ := R
  obtain ⟨S, D, T, A, B, P, W, V, Z, ℓ, h⟩ := hI
  have hk2 : k ≤ 512 := by omega
  have hcn := h.1.cn
  have hy3 : 0 ≤ y ∧ y + 7 ≤ (xs.length : Int) ∧ (xs.length : Int) < 1000000 := ⟨hy.1, hy.2, by omega⟩
  have ht2 : 0 ≤ e.1 4 14 ∧ e.1 4 14 < 1000000 := by have := h.ht hk2; omega
  have h' := pj_backfill (p1 := scr xs (y + 1)) (p2 := scr xs (y + 2)) h hk2
  have hc := c_backfill (p1 := scr xs (y + 1)) (p2 := scr xs (y + 2)) C (h.wx hk2) (h.bdl hk2) (h'.bdf (by omega))
  obtain ⟨m', g1, g9, g2⟩ := oc_backfill C hR hP hy3 hc (fun m1 R1 P1 => x_backfill R1 hcn (h.rlw hk2) (h'.rfw (by omega)) (h.pw hk2).2.2.2) hq_backfill
  exact ⟨m', _, ⟨(law_at_33 hlen hy hi).trans g1, g9⟩, g2, _, _, _, _, _, _, _, _, _, _, h'⟩
theorem sc_shift (R : RLm m e) (hI : PIv k e) (hk : k ≤ 511) (hlen : xs.length ≤ 3584) (hy : 0 ≤ y ∧ y + 7 ≤ (xs.length : Int)) (hi : iAnd (scr xs y) 63 = 34) : ∃ m' e', (fl_L_law_23 xs (f + 1) y m = fl_L_law_23 xs f (y + 7) m' ∧ (∀ (g : Int → Int → Int) (D : Int), GOK g → OWk g D m → OWk g (D + g 99 0) m')) ∧ RLm m' e' ∧ PIv (k + 1) e' := by
  obtain ⟨ow, ad, C, hR, hP⟩ := R
  obtain ⟨S, D, T, A, B, P, W, V, Z, ℓ, h⟩ := hI
  have hk2 : k ≤ 512 := by omega
  have hcn := h.1.cn
  have hy3 : 0 ≤ y ∧ y + 7 ≤ (xs.length : Int) ∧ (xs.length : Int) < 1000000 := ⟨hy.1, hy.2, by omega⟩
  have ht2 : 0 ≤ e.1 4 14 ∧ e.1 4 14 < 1000000 := by have := h.ht hk2; omega
  have h' := pj_shift (p1 := scr xs (y + 1)) h hk2
  have hc := c_shift (p1 := scr xs (y + 1)) C (h.wb hk2)
  obtain ⟨m', g1, g9, g2⟩ := oc_shift C hR hP hy3 hc (fun m1 R1 P1 => x_shift R1 hcn ht2 (h.glo hk2).1) hq_shift
  exact ⟨m', _, ⟨(law_at_34 hlen hy hi).trans g1, g9⟩, g2, _, _, _, _, _, _, _, _, _, _, h'⟩
theorem sc_bringIn (R : RLm m e) (hI : PIv k e) (hk : k ≤ 511) (hlen : xs.length ≤ 3584) (hy : 0 ≤ y ∧ y + 7 ≤ (xs.length : Int)) (hi : iAnd (scr xs y) 63 = 35) : ∃ m' e', (fl_L_law_23 xs (f + 1) y m = fl_L_law_23 xs f (y + 7) m' ∧ (∀ (g : Int → Int → Int) (D : Int), GOK g → OWk g D m → OWk g (D + g 99 0) m')) ∧ RLm m' e' ∧ PIv (k + 1) e' := by
  obtain ⟨ow, ad, C, hR, hP⟩ := R
  obtain ⟨S, D, T, A, B, P, W, V, Z, ℓ, h⟩ := hI
  have hk2 : k ≤ 512 := by omega
  have hcn := h.1.cn
  have hy3 : 0 ≤ y ∧ y + 7 ≤ (xs.length : Int) ∧ (xs.length : Int) < 1000000 := ⟨hy.1, hy.2, by omega⟩
  have ht2 : 0 ≤ e.1 4 14 ∧ e.1 4 14 < 1000000 := by have := h.ht hk2; omega
  have h' := pj_bringIn (p1 := scr xs (y + 1)) h
  have hc := c_bringIn (p1 := scr xs (y + 1)) C (h.wx hk2)
  obtain ⟨m', g1, g9, g2⟩ := oc_bringIn C hR hP hy3 hc (fun m1 R1 P1 => x_bringIn R1 hcn h.1.2.1.2.2.2.2.2.2 ⟨h.1.2.1.2.2.2.2.1.1, h.1.2.1.2.2.2.2.1.2, by have := h.tg hk2; omega⟩ h.1.2.1.2.2.2.2.2.1 (fun _ q2 => by have := h.2.2.2.2.2.2.1.2; omega)) hq_bringIn
  exact ⟨m', _, ⟨(law_at_35 hlen hy hi).trans g1, g9⟩, g2, _, _, _, _, _, _, _, _, _, _, h'⟩
theorem sc_search (R : RLm m e) (hI : PIv k e) (hk : k ≤ 511) (hlen : xs.length ≤ 3584) (hy : 0 ≤ y ∧ y + 7 ≤ (xs.length : Int)) (hi : iAnd (scr xs y) 63 = 36) : ∃ m' e', (fl_L_law_23 xs (f + 1) y m = fl_L_law_23 xs f (y + 7) m' ∧ (∀ (g : Int → Int → Int) (D : Int), GOK g → OWk g D m → OWk g (D + g 99 0) m')) ∧ RLm m' e' ∧ PIv (k + 1) e' := by
  obtain ⟨ow, ad, C, hR, hP⟩ := R
  obtain ⟨S, D, T, A, B, P, W, V, Z, ℓ, h⟩ := hI
  have hk2 : k ≤ 512 := by omega
  have hcn := h.1.cn
  have hy3 : 0 ≤ y ∧ y + 7 ≤ (xs.length : Int) ∧ (xs.length : Int) < 1000000 := ⟨hy.1, hy.2, by omega⟩
  have ht2 : 0 ≤ e.1 4 14 ∧ e.1 4 14 < 1000000 := by have := h.ht hk2; omega
  have h' := pj_search (p1 := scr xs (y + 1)) h
  have hc := c_search (p1 := scr xs (y + 1)) C
  obtain ⟨m', g1, g9, g2⟩ := oc_search C hR hP hy3 hc (fun m1 R1 P1 => x_search R1 hcn) hq_search
  exact ⟨m', _, ⟨(law_at_36 hlen hy hi).trans g1, g9⟩, g2, _, _, _, _, _, _, _, _, _, _, h'⟩
theorem sc_all (R : RLm m e) (hI : PIv k e) (hk : k ≤ 511) (hlen : xs.length ≤ 3584) (hy : 0 ≤ y ∧ y + 7 ≤ (xs.length : Int)) : ∃ m' e', (fl_L_law_23 xs (f + 1) y m = fl_L_law_23 xs f (y + 7) m' ∧ (∀ (g : Int → Int → Int) (D : Int), GOK g → OWk g D m → OWk g (D + g 99 0) m')) ∧ RLm m' e' ∧ PIv (k + 1) e' := by
  by_cases c0 : iAnd (scr xs y) 63 = 0
  · exact sc_line R hI hk hlen hy c0
  by_cases c1 : iAnd (scr xs y) 63 = 1
  · exact sc_deploy R hI hk hlen hy c1
  by_cases c2 : iAnd (scr xs y) 63 = 2
  · exact sc_setKind R hI hk hlen hy c2
  by_cases c3 : iAnd (scr xs y) 63 = 3
  · exact sc_setPolicy R hI hk hlen hy c3
  by_cases c4 : iAnd (scr xs y) 63 = 4
  · exact sc_begin R hI hk hlen hy c4
  by_cases c5 : iAnd (scr xs y) 63 = 5
  · exact sc_signal R hI hk hlen hy c5
  by_cases c6 : iAnd (scr xs y) 63 = 6
  · exact sc_update R hI hk hlen hy c6
  by_cases c7 : iAnd (scr xs y) 63 = 7
  · exact sc_cancel R hI hk hlen hy c7
  by_cases c8 : iAnd (scr xs y) 63 = 8
  · exact sc_query R hI hk hlen hy c8
  by_cases c9 : iAnd (scr xs y) 63 = 9
  · exact sc_plain R hI hk hlen hy c9
  by_cases c10 : iAnd (scr xs y) 63 = 10
  · exact sc_standing R hI hk hlen hy c10
  by_cases c11 : iAnd (scr xs y) 63 = 11
  · exact sc_event R hI hk hlen hy c11
  by_cases c12 : iAnd (scr xs y) 63 = 12
  · exact sc_difference R hI hk hlen hy c12
  by_cases c13 : iAnd (scr xs y) 63 = 13
  · exact sc_runs R hI hk hlen hy c13
  by_cases c14 : iAnd (scr xs y) 63 = 14
  · exact sc_setRate R hI hk hlen hy c14
  by_cases c15 : iAnd (scr xs y) 63 = 15
  · exact sc_poll R hI hk hlen hy c15
  by_cases c16 : iAnd (scr xs y) 63 = 16
  · exact sc_complete R hI hk hlen hy c16
  by_cases c17 : iAnd (scr xs y) 63 = 17
  · exact sc_die R hI hk hlen hy c17
  by_cases c18 : iAnd (scr xs y) 63 = 18
  · exact sc_replays R hI hk hlen hy c18
  by_cases c19 : iAnd (scr xs y) 63 = 19
  · exact sc_take R hI hk hlen hy c19
  by_cases c20 : iAnd (scr xs y) 63 = 20
  · exact sc_answer R hI hk hlen hy c20
  by_cases c21 : iAnd (scr xs y) 63 = 21
  · exact sc_fail R hI hk hlen hy c21
  by_cases c22 : iAnd (scr xs y) 63 = 22
  · exact sc_beat R hI hk hlen hy c22
  by_cases c23 : iAnd (scr xs y) 63 = 23
  · exact sc_activity R hI hk hlen hy c23
  by_cases c24 : iAnd (scr xs y) 63 = 24
  · exact sc_pass R hI hk hlen hy c24
  by_cases c25 : iAnd (scr xs y) 63 = 25
  · exact sc_unsafe R hI hk hlen hy c25
  by_cases c26 : iAnd (scr xs y) 63 = 26
  · exact sc_move R hI hk hlen hy c26
  by_cases c27 : iAnd (scr xs y) 63 = 27
  · exact sc_setBack R hI hk hlen hy c27
  by_cases c28 : iAnd (scr xs y) 63 = 28
  · exact sc_copy R hI hk hlen hy c28
  by_cases c29 : iAnd (scr xs y) 63 = 29
  · exact sc_takeOver R hI hk hlen hy c29
  by_cases c30 : iAnd (scr xs y) 63 = 30
  · exact sc_join R hI hk hlen hy c30
  by_cases c31 : iAnd (scr xs y) 63 = 31
  · exact sc_schedule R hI hk hlen hy c31
  by_cases c32 : iAnd (scr xs y) 63 = 32
  · exact sc_togglePause R hI hk hlen hy c32
  by_cases c33 : iAnd (scr xs y) 63 = 33
  · exact sc_backfill R hI hk hlen hy c33
  by_cases c34 : iAnd (scr xs y) 63 = 34
  · exact sc_shift R hI hk hlen hy c34
  by_cases c35 : iAnd (scr xs y) 63 = 35
  · exact sc_bringIn R hI hk hlen hy c35
  by_cases c36 : iAnd (scr xs y) 63 = 36
  · exact sc_search R hI hk hlen hy c36
  obtain ⟨S, D, T, A, B, P, W, V, Z, ℓ, h⟩ := hI
  exact ⟨m, e, ⟨law_at_no hlen hy fun j j0 j1 => by omega, fun g D' hg h => h.mono (by have := hg.1 99 0; omega)⟩, R, S, D, T, A, B, P, W, V, Z, ℓ, h.up⟩
end SCL
