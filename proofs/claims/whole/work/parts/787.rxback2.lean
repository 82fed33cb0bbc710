/-! THE REFERENCE'S CALLS: setBack. -/
section RXUC
variable {m m' M m1 m2 : MM} {e e' e2 D : ES} {a b c i j k o r v w p t s x y n q A B N u z fr y1 y2 T p1 p2 tn ver par pe : Int} {l L : List Int} {E : Int → Ev}
theorem sb215 (r0 : 0 ≤ r) (k0 : 0 ≤ k) (hrk : r ≠ k) (hN5 : N < 524288) : ∀ (n f : Nat) (i : Int) (m : MM) (e : ES), RXE m e → CN e → RLw e → RFw (pSndL k r N n i e) → hN e r = N → r < e.1 7 2 → k < e.1 7 2 → ¬ Dead e k → 0 ≤ i → N < i + n → 0 < n → n ≤ f → ∃ m', fl_X12_setBack_215 r k f i m = some (k, m') ∧ RXE m' (pSndL k r N n i e) ∧ S84 m m' := by
  intro n
  induction n with
  | zero => intro f i m e h hc hl hf hN' r1 k1 hd i0 h1 h2; omega
  | succ n ih =>
    intro f i m e h hc hl hf hN' r1 k1 hd i0 h1 h2 h3
    obtain ⟨f, rfl⟩ : ∃ g, f = g + 1 := ⟨f - 1, by omega⟩
    have n7 := hc.1
    have k86 := (h.pr.1 r r0 r1).2.1.1
    unfold pSndL at hf ⊢
    unfold fl_X12_setBack_215
    rw [gd_t (by omega), lx_p, k86, hN']
    by_cases c : i < N
    · rw [if_pos c] at hf ⊢
      have bk := h.kb r0 r1 i0 (by omega)
      rw [if_pos c, bp_t (h.kd r0 r1 i0 (by omega))]
      by_cases c4 : ek (eH e r i) = 4
      · rw [if_pos c4] at hf ⊢
        rw [if_pos c4]
        have cA' : CN (pArr k 4 (ex (eH e r i)) (ey (eH e r i)) e) := hc.arr k0
        have A7 : (pArr k 4 (ex (eH e r i)) (ey (eH e r i)) e).1 7 2 = e.1 7 2 := arr_a (by decide) (by decide) (by omega) (by omega) (by decide)
        have g := mr_snd (to := k) (q := r) (s := N) n (i + 1) (pArr k 4 (ex (eH e r i)) (ey (eH e r i)) e) cA' k0 (by rw [A7]; exact k1)
        obtain ⟨m1, u1, u2, u3⟩ := h.arr2 (r := k) (k := 4) (x := ex (eH e r i)) (y := ey (eH e r i)) hc hl (hf.bk g.1) k0 k1 hd (by decide) (by decide) bk.2.1.1 bk.2.1.2 bk.2.2.1 bk.2.2.2
        obtain ⟨m2, w1, w2, w3⟩ := ih f (i + 1) m1 _ u2 cA' ((mr_arr hc k0 k1).2.2 hl) hf (by
          have : hN (pArr k 4 (ex (eH e r i)) (ey (eH e r i)) e) r = hN e r := arr_a (by omega) (by omega) (by omega) (by omega) (by omega)
          rw [this]; exact hN') (by rw [A7]; exact r1) (by rw [A7]; exact k1) (by
          unfold Dead
          rw [arr_a (by omega) (by omega) (by omega) (by omega) (by omega)]
          exact hd) (by omega) (by omega) (by omega) (by omega)
        refine ⟨m2, ?_, w2, fun q hq => (w3 q hq).trans (u3.2 q hq)⟩
        rw [bp_t (h.xx r0 r1 i0 (by omega)), bp_t (h.yy r0 r1 i0 (by omega)), bd_t u1, lx_p, w32_id (z := i + 1) (by omega) (by omega)]
        exact w1
      · rw [if_neg c4] at hf ⊢
        rw [if_neg c4]
        rw [lx_p, w32_id (z := i + 1) (by omega) (by omega)]
        exact ih f (i + 1) m e h hc hl hf hN' r1 k1 hd (by omega) (by omega) (by omega) (by omega)
    · rw [if_neg c] at hf ⊢
      rw [if_neg c]
      exact ⟨m, rfl, h, fun _ _ => rfl⟩
/-- all that a setting back has to find -/
def SbA (p1 p2 : Int) (e : ES) : Prop := (∀ i : Int, 0 ≤ i → i < e.1 7 2 → hN e i < 524288 ∧ e.1 (7000 + i) 4 ≠ i ∧ TkM (eH e i) (hN e i) ∧ Bef e i ∧ WnI e i) ∧ PEv e ∧ nTm (pRest (e.1 7 2) (pSb5 p1 (taskN (pX e p1) p2 + 1) e)) ≤ 512
theorem x_setBack (h : RXE m e) (hc : CN e) (hl : RLw e) (hf : RFw (pcSetBack p1 p2 e).2) (hp : p2 < 2147483648) (hS : SbA p1 p2 e) : OKr (fm_X12_setBack p1 p2 m) cdS (pcSetBack p1 p2 e) := by
  have n7 := hc.1
  have n8 := hc.2.1
  have h0 := h.th (q := 0) hc
  obtain ⟨S1, S2, S3⟩ := hS
  have no : ∀ (q : Int) (n : Nat), 0 < q → cdS n = q → OKr (fj_X12_setBack_55 p1 p2 q m) cdS (rT n e) := fun q n hq hn => by
    unfold fj_X12_setBack_55
    rw [bd_t fails_e, if_pos hq, if_neg (show ¬ (1 : Int) = 0 by decide)]
    exact OKr.no h hc hn
  unfold fm_X12_setBack
  unfold pcSetBack at hf ⊢
  rw [bp_t (rIsR h hc)]
  by_cases c1 : 0 ≤ p1 ∧ p1 < e.1 7 2
  · rw [if_pos c1] at hf
    rw [if_pos c1, if_neg (show ¬ (1 : Int) = 0 by decide), if_pos c1]
    obtain ⟨q1, q2, q3, q4, q5⟩ := S1 p1 c1.1 c1.2
    have hn0 : 0 ≤ hN e p1 := hl.2.2.2 p1 c1.1 c1.2
    have hb : -1 ≤ taskN (pX e p1) p2 ∧ (0 ≤ taskN (pX e p1) p2 → taskN (pX e p1) p2 < hN e p1) := xTsk_b _ _ _ (Int.le_refl _)
    rw [bp_t (rTask h hc c1.1 c1.2 ⟨hn0, q1⟩ hp)]
    by_cases c2 : taskN (pX e p1) p2 < 0
    · rw [if_pos (show taskN (pX e p1) p2 = -1 by omega), if_pos c2]
      unfold fj_X12_setBack_23
      rw [if_pos (show (0 : Int) = 0 from rfl)]
      exact no 1 0 (by decide) rfl
    · rw [if_neg c2] at hf
      rw [if_neg (show ¬ taskN (pX e p1) p2 = -1 by omega), if_neg c2]
      unfold fj_X12_setBack_23
      rw [if_neg (show ¬ (1 : Int) = 0 by decide), bp_t (rAlive h hc c1.1 c1.2)]
      by_cases c3 : e.1 (7000 + p1) 6 = 0 ∨ e.1 (7000 + p1) 6 = 6
      · rw [if_pos c3] at hf
        rw [if_pos c3, if_neg (show ¬ (1 : Int) = 0 by decide), if_pos c3, lx_p, show m 68 12 = e.1 7 2 from h.ps.2.1]
        by_cases c4 : e.1 7 2 < 30
        · rw [if_pos c4] at hf
          rw [if_pos c4, if_pos c4]
          have tk0 := rTask (p2 := p2) h0 hc c1.1 c1.2 ⟨hn0, q1⟩ hp
          have hTb : 0 ≤ taskN (pX e p1) p2 + 1 ∧ taskN (pX e p1) p2 + 1 ≤ hN e p1 := by omega
          have wT : w32 (taskN (pX e p1) p2 + 1) = taskN (pX e p1) p2 + 1 := w32_id (by omega) (by omega)
          unfold fj_X12_setBack_55
          rw [bd_t fails_e, if_neg (show ¬ (0 : Int) < 0 by decide), if_pos (show (0 : Int) = 0 from rfl), bp_t tk0, gd_t (by omega), up_t]
          simp only [wT]
          generalize taskN (pX e p1) p2 + 1 = T at *
          obtain ⟨k, hk⟩ : ∃ k, k = e.1 7 2 := ⟨_, rfl⟩
          have hcA : CN (eS e (7000 + p1) 6 5) := cn_eS hc (by omega)
          have hA : RXE (mset (mset m 68 129 0) 83 p1 5) (eS e (7000 + p1) 6 5) := h0.rs hc c1.1 c1.2 (Or.inr (Or.inl ⟨rfl, rfl, by decide, fun hh => absurd hh (by decide)⟩))
          have A7 : (eS e (7000 + p1) 6 5).1 7 2 = k := by rw [hk]; exact eS_a (by omega)
          have lA : RLw (eS e (7000 + p1) 6 5) := (mr_eS (by omega) (by omega) (by omega) (by omega) (by omega)).2.2 hl
          obtain ⟨m2, u1, u2, u3⟩ := hA.endw hcA c1.1 (by rw [A7]; omega)
          have hcB := hcA.endw (r := p1)
          have lB : RLw (pEnd p1 (eS e (7000 + p1) 6 5)) := (mr_end hcA).2.2 lA
          have B7 : (pEnd p1 (eS e (7000 + p1) 6 5)).1 7 2 = k := by rw [end_a (by omega)]; exact A7
          have Bf : ∀ a u : Int, (a < 8000 ∨ 9000 ≤ a) → (a ≠ 7000 + p1 ∨ u ≠ 6) → (pEnd p1 (eS e (7000 + p1) 6 5)).1 a u = e.1 a u := fun a u g1 g2 => by
            rw [end_a (by rw [show (eS e (7000 + p1) 6 5).1 8 2 = e.1 8 2 from eS_a (by omega)]; omega)]
            show mset e.1 (7000 + p1) 6 5 a u = _
            unfold mset
            rw [if_neg (by omega)]
          have PB : PEv (pEnd p1 (eS e (7000 + p1) 6 5)) := fun i i0 i1 hi => by
            rw [B7] at i1
            rw [Bf _ _ (by omega) (by omega)] at hi ⊢
            exact S2 i i0 (by omega) hi
          rw [bd_t u1]
          obtain ⟨m3, g1, g2, g3⟩ := sb86 (r := p1) (y2 := taskN (pX e p1) p2) (K := fun m_167 =>
lx (m_167 80 p1) fun x_178 =>
lx (m_167 81 p1) fun x_186 =>
lx (m_167 82 p1) fun x_194 =>
lx (m_167 84 p1) fun x_204 =>
lx (m_167 85 p1) fun x_212 =>
bd (fm_X12_makes x_178 x_186 x_194 (-1) x_204 x_212 m_167) fun x_215 m_216 =>
gd (0 ≤ x_215 ∧ x_215 < 30) <| up m_216 87 x_215 p1 fun m_236 =>
up m_236 88 x_215 T fun m_250 =>
up m_250 86 x_215 T fun m_264 =>
bd (fm_X12_recounts x_215 m_264) fun x_272 m_273 =>
bd (fm_X12_beginsAnew x_215 m_273) fun x_284 m_285 =>
lx T fun x_299 =>
fl_X12_setBack_215 p1 x_215 BIG x_299 m_285) c1.1 31 BIG 0 m2 _ u2 hcB PB (Int.le_refl _) (by rw [B7]; omega) (by omega) (by decide)
          rw [g1]
          have g2 : RXE m3 (pPar p1 0 (pEnd p1 (eS e (7000 + p1) 6 5))) := g2
          have hcC := hcB.par (r := p1) (fr := 0)
          obtain ⟨pc1, pc2⟩ := par_pt (r := p1) (fr := 0) hcB
          have C7 : (pPar p1 0 (pEnd p1 (eS e (7000 + p1) 6 5))).1 7 2 = k := by rw [par_a (by omega)]; exact B7
          have Cf : ∀ u : Int, u ≠ 6 → (pPar p1 0 (pEnd p1 (eS e (7000 + p1) 6 5))).1 (7000 + p1) u = e.1 (7000 + p1) u := fun u hu => by
            rw [pc1, Bf _ 4 (by omega) (by omega), if_neg (fun hh => q2 hh.2.2.1), Bf _ _ (by omega) (by omega)]
          have Cq : ∀ a u : Int, (a < 7000 ∨ 9000 ≤ a) → (pPar p1 0 (pEnd p1 (eS e (7000 + p1) 6 5))).1 a u = e.1 a u := fun a u g => by
            rw [par_a (by rw [B7]; omega), Bf _ _ (by omega) (by omega)]
          have C6 : (pPar p1 0 (pEnd p1 (eS e (7000 + p1) 6 5))).1 (7000 + p1) 6 = 5 := by
            rw [par_a (by omega), end_a (by rw [show (eS e (7000 + p1) 6 5).1 8 2 = e.1 8 2 from eS_a (by omega)]; omega)]
            exact eS_e
          have CH : (pPar p1 0 (pEnd p1 (eS e (7000 + p1) 6 5))).2.1 = e.2.1 := by
            rw [pc2, (end_pt (r := p1) hcA).2.1]
            rfl
          have lC : RLw (pPar p1 0 (pEnd p1 (eS e (7000 + p1) 6 5))) := (MR.of (par_a (by omega)) (fun j => par_a (by omega)) (fun j => par_a (by omega)) (par_a (by omega)) (fun i i0 i1 => par_a (by rw [B7]; omega)) : MR (pEnd p1 (eS e (7000 + p1) 6 5)) _).2.2 lB
          have se := sb_eq (r := p1) (T := T) hc c1.1 c1.2 c4 q2
          rw [← hk] at se
          obtain ⟨t80, t81, t82, -, t84, t85⟩ := (g2.pr.1 p1 c1.1 (by rw [C7]; omega)).1
          rw [Cf 1 (by decide)] at t80
          rw [Cf 2 (by decide)] at t81
          rw [Cf 3 (by decide)] at t82
          rw [Cf 4 (by decide)] at t84 t85
          rw [Cf 5 (by decide)] at t85
          have w3 := g2.pw
          have l80 := rMk0 (t := e.1 (7000 + p1) 1) (tn := e.1 (7000 + p1) 2) (ver := e.1 (7000 + p1) 3) (par := e.1 (7000 + p1) 4) (pf := m3 85 p1) g2 hcC (by rw [C7]; omega)
          have h4 := g2.nrun (t := e.1 (7000 + p1) 1) (tn := e.1 (7000 + p1) 2) (ver := e.1 (7000 + p1) 3) (par := e.1 (7000 + p1) 4) (pf := m3 85 p1) (pe := e.1 (7000 + p1) 5) hcC (by rw [C7]; omega) t85
          have hcD := hcC.nrun (t := e.1 (7000 + p1) 1) (tn := e.1 (7000 + p1) 2) (ver := e.1 (7000 + p1) 3) (par := e.1 (7000 + p1) 4) (pe := e.1 (7000 + p1) 5) (by rw [C7]; omega)
          have lD := (mr_nrun (t := e.1 (7000 + p1) 1) (tn := e.1 (7000 + p1) 2) (ver := e.1 (7000 + p1) 3) (par := e.1 (7000 + p1) 4) (pe := e.1 (7000 + p1) 5) hcC (by rw [C7]; omega)).2.2 lC
          have Dp : ∀ a u : Int, (pNewRun (e.1 (7000 + p1) 1) (e.1 (7000 + p1) 2) (e.1 (7000 + p1) 3) (e.1 (7000 + p1) 4) (e.1 (7000 + p1) 5) (pPar p1 0 (pEnd p1 (eS e (7000 + p1) 6 5)))).1 a u = if a = 7 ∧ u = 2 then k + 1 else if a = 71000 + k ∧ u = 1 then 0 else if a = 7000 + k then fRun k (e.1 (7000 + p1) 1) (e.1 (7000 + p1) 2) (e.1 (7000 + p1) 3) (e.1 (7000 + p1) 4) (e.1 (7000 + p1) 5) u else (pPar p1 0 (pEnd p1 (eS e (7000 + p1) 6 5))).1 a u := fun a u => by
            rw [nrun_pt, C7]
          have DH : (pNewRun (e.1 (7000 + p1) 1) (e.1 (7000 + p1) 2) (e.1 (7000 + p1) 3) (e.1 (7000 + p1) 4) (e.1 (7000 + p1) 5) (pPar p1 0 (pEnd p1 (eS e (7000 + p1) 6 5)))).2.1 = e.2.1 := CH
          have x1 : ∀ a j : Int, 86 < a → xNR m3 k (e.1 (7000 + p1) 1) (e.1 (7000 + p1) 2) (e.1 (7000 + p1) 3) (e.1 (7000 + p1) 4) (m3 85 p1) a j = m3 a j := fun a j g => by
            unfold xNR mset
            rw [if_neg (by omega), if_neg (by omega), if_neg (by omega), if_neg (by omega), if_neg (by omega), if_neg (by omega), if_neg (by omega), if_neg (by omega)]
          have x68 : ∀ j : Int, 84 < j → xNR m3 k (e.1 (7000 + p1) 1) (e.1 (7000 + p1) 2) (e.1 (7000 + p1) 3) (e.1 (7000 + p1) 4) (m3 85 p1) 68 j = m3 68 j := fun j g => by
            unfold xNR mset
            rw [if_neg (by omega), if_neg (by omega), if_neg (by omega), if_neg (by omega), if_neg (by omega), if_neg (by omega), if_neg (by omega), if_neg (by omega)]
          rw [C7] at l80 h4
          have D7 := Dp 7 2
          rw [if_pos ⟨rfl, rfl⟩] at D7
          have Dr : Dead (pNewRun (e.1 (7000 + p1) 1) (e.1 (7000 + p1) 2) (e.1 (7000 + p1) 3) (e.1 (7000 + p1) 4) (e.1 (7000 + p1) 5) (pPar p1 0 (pEnd p1 (eS e (7000 + p1) 6 5)))) p1 := by
            unfold Dead
            rw [Dp, if_neg (by omega), if_neg (by omega), if_neg (by omega), C6]
            decide
          have Dk : ¬ Dead (pNewRun (e.1 (7000 + p1) 1) (e.1 (7000 + p1) 2) (e.1 (7000 + p1) 3) (e.1 (7000 + p1) 4) (e.1 (7000 + p1) 5) (pPar p1 0 (pEnd p1 (eS e (7000 + p1) 6 5)))) k := by
            unfold Dead
            rw [Dp, if_neg (by omega), if_neg (by omega), if_pos rfl]
            exact fun hh => hh.1 rfl
          have DNr : hN (pNewRun (e.1 (7000 + p1) 1) (e.1 (7000 + p1) 2) (e.1 (7000 + p1) 3) (e.1 (7000 + p1) 4) (e.1 (7000 + p1) 5) (pPar p1 0 (pEnd p1 (eS e (7000 + p1) 6 5)))) p1 = hN e p1 := by
            unfold hN
            rw [Dp, if_neg (by omega), if_neg (by omega), if_neg (by omega)]
            exact Cq _ _ (by omega)
          have DNk : hN (pNewRun (e.1 (7000 + p1) 1) (e.1 (7000 + p1) 2) (e.1 (7000 + p1) 3) (e.1 (7000 + p1) 4) (e.1 (7000 + p1) 5) (pPar p1 0 (pEnd p1 (eS e (7000 + p1) 6 5)))) k = 0 := by
            unfold hN
            rw [Dp, if_neg (by omega), if_pos ⟨rfl, rfl⟩]
          have D76 : ∀ u, (pNewRun (e.1 (7000 + p1) 1) (e.1 (7000 + p1) 2) (e.1 (7000 + p1) 3) (e.1 (7000 + p1) 4) (e.1 (7000 + p1) 5) (pPar p1 0 (pEnd p1 (eS e (7000 + p1) 6 5)))).1 (76000 + p1) u = e.1 (76000 + p1) u := fun u => by
            rw [Dp, if_neg (by omega), if_neg (by omega), if_neg (by omega)]
            exact Cq _ _ (by omega)
          have D73 : ∀ c : Int, c = 73 ∨ c = 74 → eL (pNewRun (e.1 (7000 + p1) 1) (e.1 (7000 + p1) 2) (e.1 (7000 + p1) 3) (e.1 (7000 + p1) 4) (e.1 (7000 + p1) 5) (pPar p1 0 (pEnd p1 (eS e (7000 + p1) 6 5)))) (1000 * c + k) = [] := fun c hcc => by
            rw [← C7]
            exact pNewRun_r (by omega)
          generalize pNewRun (e.1 (7000 + p1) 1) (e.1 (7000 + p1) 2) (e.1 (7000 + p1) 3) (e.1 (7000 + p1) 4) (e.1 (7000 + p1) 5) (pPar p1 0 (pEnd p1 (eS e (7000 + p1) 6 5))) = D at *
          have hkw : ∀ w : Int, 0 ≤ w → w < 3 → m3 123 (30 * w + k) = 0 := fun w w0 w1 => (w3 w w0 w1).2 k (by rw [C7]; omega) (by omega)
          generalize xNR m3 k (e.1 (7000 + p1) 1) (e.1 (7000 + p1) 2) (e.1 (7000 + p1) 3) (e.1 (7000 + p1) 4) (m3 85 p1) = m4 at *
          rw [lx_p, t80, lx_p, t81, lx_p, t82, lx_p, t84, lx_p, bd_t l80, gd_t (by omega), up_t, up_t, up_t]
          have f5 : ∀ a j : Int, ¬ ((86 ≤ a ∧ a ≤ 88) ∧ j = k) → mset (mset (mset m4 87 k p1) 88 k T) 86 k T a j = m4 a j := fun a j hh => by
            unfold mset
            rw [if_neg (by omega), if_neg (by omega), if_neg (by omega)]
          have v86 : mset (mset (mset m4 87 k p1) 88 k T) 86 k T 86 k = T := ms_e
          have v88 : mset (mset (mset m4 87 k p1) 88 k T) 86 k T 88 k = T := by rw [ms_a (by decide)]; exact ms_e
          have v87 : mset (mset (mset m4 87 k p1) 88 k T) 86 k T 87 k = p1 := by rw [ms_a (by decide), ms_a (by decide)]; exact ms_e
          have eHD : eH D p1 = eH e p1 := congrFun DH p1
          generalize mset (mset (mset m4 87 k p1) 88 k T) 86 k T = m5 at *
          obtain ⟨m6, o1, o2, o3, o4, o5⟩ := rRec (r := k) (m := m5) (n := T) (E := eH e p1) (by omega) (by omega) v86 hTb.1 (by omega) (fun q q0 q1' hq => q3 q q0 (by omega) hq) (fun M hF i i0 i1 => by
            obtain ⟨ct, -⟩ := first_at (M := M) (T := T) h4 hcD c1.1 (show p1 < k by omega) (by omega) Dk ((hF 87 k (by omega)).trans v87) ((hF 88 k (by omega)).trans v88) (fun j hj => (hF 87 j (by omega)).trans (f5 87 j (by omega))) (fun j hj => (hF 88 j (by omega)).trans (f5 88 j (by omega))) (fun j => (hF 96 j (by omega)).trans (f5 96 j (by omega)))
            have h95 : ∀ j, M 95 j = m4 95 j := fun j => (hF 95 j (by omega)).trans (f5 95 j (by omega))
            have k1 := h4.kd (i := i) c1.1 (by omega) i0 (by omega)
            have k2 := h4.xx (i := i) c1.1 (by omega) i0 (by omega)
            rw [← eHD]
            constructor
            · rw [← k1]
              unfold fm_X12_kindAt
              rw [ct i i0 i1]
              simp only [h95]
            · rw [← k2]
              unfold fm_X12_xAt
              rw [ct i i0 i1]
              simp only [h95])
          have h6 : RXE m6 (eW k p1 (pFstH k p1 T D)) := h4.first hcD c1.1 (show p1 < k by omega) (by omega) Dk Dr hTb.1 (by omega) DNk (fun w w0 w1 => by rw [x1 _ _ (by decide)]; exact hkw w w0 w1) (fun a j hh => by
            rw [o2 a j (by omega)]
            exact f5 a j (by omega)) ((o2 86 k (by omega)).trans v86) ((o2 87 k (by omega)).trans v87) ((o2 88 k (by omega)).trans v88) (by rw [eHD]; exact o3) (by rw [eHD]; exact o4) (by rw [eHD]; exact o5)
          have Xf : ∀ a u : Int, (a ≠ 71000 + k ∨ u ≠ 1) → a ≠ 76000 + k → (eW k p1 (pFstH k p1 T D)).1 a u = D.1 a u := fun a u g1 g2 => by
            rw [eW_a g2]
            show mset D.1 (71000 + k) 1 T a u = _
            unfold mset
            rw [if_neg (by omega)]
          have Xw : ∀ u, (eW k p1 (pFstH k p1 T D)).1 (76000 + k) u = e.1 (76000 + p1) u := fun u => by
            have : (eW k p1 (pFstH k p1 T D)).1 (76000 + k) u = (pFstH k p1 T D).1 (76000 + p1) u := if_pos rfl
            rw [this, show (pFstH k p1 T D).1 (76000 + p1) u = D.1 (76000 + p1) u from eS_a (by omega)]
            exact D76 u
          have XN : hN (eW k p1 (pFstH k p1 T D)) k = T := by
            unfold hN
            rw [eW_a (by omega)]
            exact eS_e
          have XH : eH (eW k p1 (pFstH k p1 T D)) k = eH e p1 := (show eH (eW k p1 (pFstH k p1 T D)) k = eH D p1 from if_pos rfl).trans eHD
          have Xl : ∀ c, eL (eW k p1 (pFstH k p1 T D)) c = eL D c := fun c => rfl
          rw [se] at h6 Xf Xw XN XH Xl
          have eF' : pSetB p1 T e = pSndL k p1 (hN (pRest k (pSb5 p1 T e)) p1) ((hN (pRest k (pSb5 p1 T e)) p1 - T).toNat + 1) T (pRest k (pSb5 p1 T e)) := by
            unfold pSetB pSnd
            rw [← hk]
          rw [← hk] at S3
          generalize pSb5 p1 T e = X at *
          have X7 : X.1 7 2 = k + 1 := (Xf 7 2 (by omega) (by omega)).trans D7
          have hcX : CN X := hcD.of fun a ha => Xf a 2 (by omega) (by omega)
          have lX : RLw X := by
            obtain ⟨z1, z2, z3, z4⟩ := lD
            unfold RLw
            rw [Xf 4 14 (by omega) (by omega), Xf 3 0 (by omega) (by omega), Xf 68 29 (by omega) (by omega), Xf 4 16 (by omega) (by omega), X7]
            refine ⟨z1, z2, z3, fun i i0 i1 => ?_⟩
            by_cases ci : i = k
            · rw [ci, XN]; exact hTb.1
            · rw [show hN X i = hN D i from Xf _ _ (by omega) (by omega)]
              exact z4 i i0 (by omega)
          have tmX : TmO X k := by
            unfold TmO
            rw [Xl, Xl, show (73000 : Int) + k = 1000 * 73 + k by omega, show (74000 : Int) + k = 1000 * 74 + k by omega, D73 73 (by decide), D73 74 (by decide)]
            exact ⟨rfl, fun v hv => absurd hv List.not_mem_nil⟩
          have dX : ¬ Dead X k := by
            unfold Dead at Dk ⊢
            rw [Xf _ _ (by omega) (by omega)]
            exact Dk
          have bX : Bef X k := fun q q0 q1' hq => by
            rw [XN] at q1'
            rw [XH] at hq ⊢
            exact q4 q q0 (by omega) hq
          have wX : WnI X k := fun q q0 q1' hq => by
            rw [XN] at q1'
            rw [XH] at hq ⊢
            rw [Xw]
            exact q5 q q0 (by omega) hq
          obtain ⟨⟨r1, r2, r3⟩, -⟩ := rk_rsL (r := k) (N := hN X k) (by omega) (by rw [XN]; omega) ((hN X k).toNat + 1) 0 X hcX (by omega) (Int.le_refl _) tmX
          have r1' : MR X (pRest k X) := r1
          have r2' : CN (pRest k X) := r2
          have r3' : (pRest k X).1 7 2 = X.1 7 2 := r3
          obtain ⟨s1, -, -⟩ := rsL_f (r := k) (N := hN X k) (by omega) (by omega) (by rw [XN]; omega) ((hN X k).toNat + 1) 0 X (by omega) hcX.2.1 tmX (Int.le_refl _)
          have s1' : ∀ a u : Int, (a = 7 ∨ (7000 ≤ a ∧ a < 8000) ∨ (71000 ≤ a ∧ a < 72000 ∧ a ≠ 71000 + k)) → (pRest k X).1 a u = X.1 a u := s1
          have RNr : hN (pRest k X) p1 = hN e p1 := by
            unfold hN
            rw [s1' _ _ (by omega), Xf _ _ (by omega) (by omega)]
            exact DNr
          rw [eF', RNr] at hf
          rw [eF', RNr]
          have ms := mr_snd (to := k) (q := p1) (s := hN e p1) ((hN e p1 - T).toNat + 1) T (pRest k X) r2' (by omega) (by rw [r3', X7]; omega)
          obtain ⟨m7, v1, v2, v3⟩ := h6.rest hcX lX (show 0 ≤ k by omega) (by omega) dX tmX bX wX (by rw [XN]; omega) (hf.bk ms.1) S3
          obtain ⟨m8, z1, z2, z3⟩ := sb215 (r := p1) (k := k) c1.1 (by omega) (by omega) q1 ((hN e p1 - T).toNat + 1) BIG T m7 _ v2 r2' (r1'.2.2 lX) hf RNr (by rw [r3', X7]; omega) (by rw [r3', X7]; omega) (by
            unfold Dead at dX ⊢
            rw [s1' _ _ (by omega)]
            exact dX) hTb.1 (by omega) (by omega) (Nat.le_of_lt (BIG_g (by omega)))
          rw [bd_t o1, bd_t v1, lx_p, z1, ← hk]
          exact OKr.fin z2 (by rw [z3 129 (by decide), v3 129 (by decide), o2 68 129 (by omega), f5 68 129 (by omega), x68 129 (by decide), g3.2 129 (by decide), u3.2 129 (by decide), ms_a (by decide)]; exact ms_e)
        · rw [if_neg c4, if_neg c4]
          exact no 2 2 (by decide) rfl
      · rw [if_neg c3, if_pos (show (0 : Int) = 0 from rfl), if_neg c3]
        exact no 2 2 (by decide) rfl
  · rw [if_neg c1, if_pos (show (0 : Int) = 0 from rfl), if_neg c1]
    unfold fj_X12_setBack_23
    rw [if_pos (show (0 : Int) = 0 from rfl)]
    exact no 1 0 (by decide) rfl
end RXUC
