/-! THE REFERENCE'S CALLS: complete, all of it. -/
section RXK7
variable {m m' M : MM} {e e' e2 : ES} {a b c i j k o r v w p t s x y n ev due q A B st res tel dep d to nm fr N base p1 g rh rc ty ver : Int} {l : List Int} {S T : TS} {X : CX} {G : Int → Nat}
theorem nextC (R : RC M X G r ty ver rh rc) (hT : TFr M m) (h0 : 0 ≤ m 68 116) (h1 : m 68 116 ≤ X.1 0) : ∃ z, fm_X12_nextCommand m = some (z, mset m 68 116 z) ∧ ((z < rh ∧ z = nc X (m 68 116)) ∨ (rh ≤ z ∧ rh ≤ nc X (m 68 116) ∧ z ≤ X.1 0)) ∧ nc X z = nc X (m 68 116) ∧ m 68 116 ≤ z := by
  obtain ⟨m', z, g1, g2, g3, g4, g5⟩ := rnext R hT h0 h1
  rw [g2] at g1
  exact ⟨z, g1, g3, g4, g5⟩
theorem FIN.fct (h : FIN m m' X T rh) (h30 : sg T 0 30 = 0) : NwM m' (sn T) ∧ RQ m' T ∧ m' 68 123 = sg T 0 10 ∧ (m' 68 111 = 0 ↔ sg T 0 8 = 0) ∧ (0 ≤ m' 68 116 ∧ m' 68 116 ≤ X.1 0) ∧ (nc X (sg T 0 12) < rh → nc X (m' 68 116) = nc X (sg T 0 12)) ∧ (rh ≤ nc X (sg T 0 12) → rh ≤ nc X (m' 68 116)) := by
  obtain ⟨-, -, h⟩ := h
  rcases h with ⟨h1, ⟨v, E, zT, zS, zV, zP, zB, zQ, zU, zN, zPT, -⟩, h3⟩ | ⟨h1, -⟩
  · have g12 : sg (st T 0 29 v) 0 12 = sg T 0 12 := by rw [st_g, if_neg (by omega)]
    obtain ⟨p1, p2, p3, p4, p5⟩ := zPT (by rw [st_g, if_neg (by omega)]; exact h1)
    rw [g12] at p3 p4
    refine ⟨⟨zS.2.2.2.2.2.2.2.1, fun i k a b hi => zN i k a b hi⟩, fun n n0 n1 => ?_, h3, ?_, p1, p3, p4⟩
    · obtain ⟨q1, q2, q3, q4⟩ := zQ n n0 n1
      rw [st_g, if_neg (by omega)] at q2
      exact ⟨q1, q2, q3, q4⟩
    · rw [zS.2.2.2.1, st_g, if_neg (by omega)]
  · omega
def cG (k : Int) (e : ES) : Int := pKept (e.1 (9000 + k) 1) (e.1 (9000 + k) 0) (eS e (9000 + k) 5 1)
def cRh (k : Int) (e : ES) : Int := if cG k e = 0 then hN e (e.1 (9000 + k) 1) else e.1 (7000 + e.1 (9000 + k) 1) 15
def cRc (k : Int) (e : ES) : Int := if cG k e = 0 then hC e (e.1 (9000 + k) 1) else e.1 (7000 + e.1 (9000 + k) 1) 14
def cTd (k : Int) (e : ES) : TS := told (pCmpX k e) (e.1 (9000 + k) 3)
def cE0 (k : Int) (e : ES) : ES := eM (eM (pCmp2 k e) (-1) (pCmpS k e) (pCmpB k e)) (-1) (sBeh (pCmpX k e) (pCmpS k e)) (pCmpB k e)
/-- the state behind the news and the TASK -/
def cE2 (k : Int) (e : ES) : ES := pPut (e.1 (9000 + k) 1) 17 (e.1 (9000 + k) 3) 0 (e.1 4 14) 0 (pPNL (e.1 (9000 + k) 1) (e.1 4 14) (sn (pCmpS k e)) (cE0 k e))
/-- what the reference's complete has to find -/
def CmR (k : Int) (e : ES) : Prop := (CXX (pCmpX k e) ∧ (0 ≤ e.1 (9000 + k) 3 ∧ e.1 (9000 + k) 3 ≤ 260000) ∧ TelB (cTd k e)) ∧ MA (pCmpX k e) (cRh k e) (cRc k e) ∧ ((∃ Q QB, GB (pCmpX k e) (cRc k e) (cRh k e) Q QB ∧ QB s00) ∧ ((pCmpX k e).1 1 ≤ 0 → cRh k e < (pCmpX k e).1 0 → (pCmpX k e).1 0 ≤ nc (pCmpX k e) 0)) ∧ (∃ q, Sm (JE (pCmpX k e)) q (pCmpS k e) (cTd k e)) ∧ (cRh k e < hN e (e.1 (9000 + k) 1) → sg (cTd k e) 0 30 = 0 → hN e (e.1 (9000 + k) 1) ≤ nc (pCmpX k e) (sg (cTd k e) 0 12)) ∧ (0 ≤ hC e (e.1 (9000 + k) 1) ∧ hC e (e.1 (9000 + k) 1) ≤ e.1 (9000 + k) 3) ∧ (sg (cTd k e) 0 30 = 0 → ∀ q ∈ sn (cTd k e), (8 ≤ q.1 ∧ q.1 ≤ 16) ∧ (0 ≤ q.2.1 ∧ q.2.1 < 524288) ∧ 0 ≤ q.2.2 ∧ q.2.2 ≤ 999) ∧ (∀ n : Int, 0 ≤ n → n < 4 → ∀ v ∈ sq (cTd k e) n, 0 ≤ v ∧ v ≤ 999) ∧ (sg (sBeh (pCmpX k e) (pCmpS k e)) 0 30 = 0 → RFw (cE2 k e) ∧ hT (cE2 k e) (e.1 (9000 + k) 1) < 1000 ∧ CarP (e.1 (9000 + k) 1) (hN e (e.1 (9000 + k) 1)) (sKnow (hN (pPN4 (e.1 (9000 + k) 1) k (cG k e) (cE0 k e)) (e.1 (9000 + k) 1)) (sBeh (pCmpX k e) (pCmpS k e))) (sn (pCmpS k e)).length (hN e (e.1 (9000 + k) 1)) (pPN (e.1 (9000 + k) 1) k (cG k e) (cE0 k e)))
theorem P113.sx (h : P113 m) (ha : a = 119 ∨ a = 122 ∨ (123 ≤ a ∧ a ≤ 127) ∨ a = 83 ∨ a = 94) (hj : 0 ≤ j) : P113 (mset m a j v) := by
  have fx1 : ∀ q ∈ fixk, (q.1 = 119 ∨ q.1 = 122 ∨ (123 ≤ q.1 ∧ q.1 ≤ 127) ∨ q.1 = 83 ∨ q.1 = 94) → ∀ p ∈ q.2.2.2, False := by decide +kernel
  refine ⟨fx_z h.1 (by omega) hj (fun q g1 g2 p g3 _ => fx1 q g1 (by omega) p g3), by rw [ms_a (by omega)]; exact h.2.1, by rw [ms_a (by omega)]; exact h.2.2⟩
theorem P113.s68 (h : P113 m) (hj : j = 116 ∨ j = 114 ∨ j = 115) : P113 (mset m 68 j v) := by
  have fx1 : ∀ q ∈ fixk, q.1 = 68 → ∀ p ∈ q.2.2.2, ¬ (p.1 = 116 ∨ p.1 = 114 ∨ p.1 = 115) := by decide +kernel
  exact ⟨fx_z h.1 (by decide) (by omega) (fun q g1 g2 p g3 g4 => fx1 q g1 g2 p g3 (by omega)), by rw [ms_j (by omega)]; exact h.2.1, by rw [ms_j (by omega)]; exact h.2.2⟩
theorem RXE.hi (h : RXE m e) (hc : CN e) (hj : 84 < j) : RXE (mset m 68 j v) e := h.fr hc (fun b i g1 g2 g3 g4 => if_neg fun hh => by have := g1 hh.1; omega) (fun _ _ _ => rfl) ⟨rfl, rfl⟩
/-- as OKp, but for what is fixed -/
def OKs (f : Option (Int × MM)) (code : Nat → Int) (r : (Int ⊕ Nat) × ES) : Prop := ∃ v m', f = some (v, m') ∧ RXE m' r.2 ∧ (0 ≤ m' 68 113 ∧ m' 68 113 ≤ 60) ∧ (∀ z, r.1 = .inl z → v = z ∧ m' 68 129 = 0) ∧ ∀ q, r.1 = .inr q → m' 68 129 = code q
theorem OKs.fin {cd : Nat → Int} (h : RXE m e) (hP : 0 ≤ m 68 113 ∧ m 68 113 ≤ 60) (h1 : m 68 129 = 0) : OKs (some (v, m)) cd (.inl v, e) := ⟨_, _, rfl, h, hP, fun z hz => ⟨Sum.inl.inj hz, h1⟩, fun q hq => absurd hq (by simp)⟩
theorem OKp.ks {cd : Nat → Int} {f : Option (Int × MM)} {r : (Int ⊕ Nat) × ES} (h : OKp f cd r) : OKs f cd r := by
  obtain ⟨v, m', h1, h2, h3, h4⟩ := h
  exact ⟨v, m', h1, h2, h3.2, h4⟩
theorem pnl_ct (r0 : 0 ≤ r) (r1 : r < 1000) : ∀ (L : List (Int × Int × Int)) (e : ES), 0 ≤ hN e r → (∀ q ∈ L, (8 ≤ q.1 ∧ q.1 ≤ 16) ∧ 0 ≤ q.2.1) → hC (pPNL r t L e) r = hC e r ∧ hT (pPNL r t L e) r = hT e r ∧ hN e r ≤ hN (pPNL r t L e) r := by
  intro L
  induction L with
  | nil => intro e _ _; exact ⟨rfl, rfl, Int.le_refl _⟩
  | cons q L ih =>
    intro e hn hq
    obtain ⟨q1, q2⟩ := hq q (List.mem_cons_self ..)
    have hN1 := (put_hN (i := r) (j := r) (k := q.1) (p := q.2.1) (q := q.2.2) (t := t) (o := 0) (e := e) r0 r0 r1).1
    rw [if_pos rfl] at hN1
    obtain ⟨-, c2, c3⟩ := put_ct (k := q.1) (x := q.2.1) (y := q.2.2) (t := t) (o := 0) (e := e) (by omega) q2 r0 r1 hn
    rw [if_neg (by omega)] at c2 c3
    obtain ⟨g1, g2, g3⟩ := ih (pPut r q.1 q.2.1 q.2.2 t 0 e) (by omega) (fun z hz => hq z (List.mem_cons_of_mem _ hz))
    exact ⟨g1.trans c3, g2.trans c2, by show hN e r ≤ hN (pPNL r t L _) r; omega⟩
/-- the class notes first what the worker saw; it comes to the same -/
theorem pn2_eq (r0 : 0 ≤ r) (r1 : r < 1000) : pPN2 r k g e = if g = 0 then eS (eS (pPut r 17 (e.1 (9000 + k) 3) 0 (e.1 4 14) 0 (pPNL r (e.1 4 14) (sn (eT e)) e)) (7000 + r) 15 (hN e r)) (7000 + r) 14 (hC e r) else pPut r 17 (e.1 (9000 + k) 3) 0 (e.1 4 14) 0 (pPNL r (e.1 4 14) (sn (eT e)) e) := by
  unfold pPN2 pPN0
  by_cases c : g = 0
  · have hX : hC (eS e (7000 + r) 15 (hN e r)) r = hC e r := by
      have : hN (eS e (7000 + r) 15 (hN e r)) r = hN e r := eS_a (by omega)
      unfold hC
      rw [this]
      rfl
    rw [if_pos c, if_pos c, pnl_cm (by omega) (by omega) (by omega) (by omega), pnl_cm (by omega) (by omega) (by omega) (by omega), put_cm (by omega) (by omega) (by omega) (by omega), put_cm (by omega) (by omega) (by omega) (by omega)]
  · rw [if_neg c, if_neg c]
theorem x_complete0 (h : RXE m e) (hc : CN e) (hl : RLw e) (hP : P113 m) (hW : ∀ p : Int, 0 ≤ p → p < e.1 9 2 → (0 ≤ e.1 (9000 + p) 0 ∧ e.1 (9000 + p) 0 < 3) ∧ (0 ≤ e.1 (9000 + p) 1 ∧ e.1 (9000 + p) 1 < e.1 7 2)) (hR : ∀ i : Int, 0 ≤ i → i < e.1 7 2 → WRun e i ∧ 0 ≤ e.1 (7000 + i) 9 ∧ (0 ≤ hT e i ∧ hT e i < 1000)) (hG : ∀ w : Int, 0 ≤ w → w < 3 → 0 ≤ e.1 11 w ∧ e.1 11 w < 1000000) (hC' : 0 ≤ p1 → p1 < e.1 9 2 → e.1 (9000 + p1) 5 = 0 → e.1 (7000 + e.1 (9000 + p1) 1) 6 = 0 → pMark e (e.1 (9000 + p1) 1) = e.1 (9000 + p1) 4 → CmR p1 e) : OKs (fm_X12_complete p1 m) cd1 (pcComplete p1 e) := by
  have n7 := hc.1
  have n9 := hc.2.2.1
  have h0 := h.th (q := 0) hc
  have e51 : m 68 51 = e.1 9 2 := h.ps.2.2.2.2.2.2.1
  unfold fm_X12_complete pcComplete
  rw [lx_p, e51, w32_id (by omega) (by omega), bp_t isIn_e]
  by_cases c1 : 0 ≤ p1 ∧ p1 < e.1 9 2
  rotate_left
  · rw [if_neg (show ¬ (0 ≤ p1 ∧ p1 ≤ e.1 9 2 - 1) by omega), if_pos (show (0 : Int) = 0 from rfl), if_neg c1]
    unfold fj_X12_complete_20
    rw [bd_t fails_e, if_pos (show (0 : Int) < 1 by decide), if_neg (show ¬ (1 : Int) = 0 by decide)]
    exact (OKp.no (cd := cd1) (n := 0) (q := 1) (v := 0) h hc hP rfl).ks
  rw [if_pos (show 0 ≤ p1 ∧ p1 ≤ e.1 9 2 - 1 by omega), if_neg (show ¬ (1 : Int) = 0 by decide), if_pos c1]
  obtain ⟨hw, hr⟩ := hW p1 c1.1 c1.2
  obtain ⟨hRr, h9, hTb⟩ := hR _ hr.1 hr.2
  have ver4 : 0 ≤ e.1 (7000 + e.1 (9000 + p1) 1) 3 ∧ e.1 (7000 + e.1 (9000 + p1) 1) 3 < 4 := by
    have := hc.2.2.2.2 (48 + 4 * e.1 (7000 + e.1 (9000 + p1) 1) 1) (isT_4 hRr.1.1 hRr.1.2)
    have := hRr.2.2.1
    omega
  obtain ⟨z, z1, z2, z3⟩ := rStale h0 hc c1.1 c1.2 hr ⟨h9, hTb, ver4⟩
  have h1 := h0.tk hc c1.1 c1.2
  have P1 : P113 (mset (mset m 68 129 0) 119 p1 1) := hP.th.sx (by omega) c1.1
  have hc1 : CN (eS e (9000 + p1) 5 1) := cn_eS hc (by omega)
  unfold fj_X12_complete_20
  rw [bd_t fails_e, if_neg (show ¬ (0 : Int) < 0 by decide), if_pos (show (0 : Int) = 0 from rfl), bp_t z1, gd_t (by omega), up_t]
  by_cases cs : e.1 (9000 + p1) 5 = 0 ∧ e.1 (7000 + e.1 (9000 + p1) 1) 6 = 0 ∧ pMark e (e.1 (9000 + p1) 1) = e.1 (9000 + p1) 4
  rotate_left
  · rw [if_neg (fun hh => cs (z3.mp hh)), if_neg cs]
    exact OKs.fin h1 P1.2 (by rw [ms_a (by decide)]; exact ms_e)
  rw [z3.mpr cs, if_pos (show (0 : Int) = 0 from rfl), if_pos cs]
  obtain ⟨⟨X1, hlim, b1, b2, b3⟩, hMA, ⟨⟨Q, QB, hGB, hQ0⟩, hA0⟩, ⟨qs, hSm⟩, hend, hCl, hNw, hSq, hlast⟩ := hC' c1.1 c1.2 cs.1 cs.2.1 cs.2.2
  obtain ⟨r, hrr⟩ : ∃ r, r = e.1 (9000 + p1) 1 := ⟨_, rfl⟩
  obtain ⟨w, hww⟩ : ∃ w, w = e.1 (9000 + p1) 0 := ⟨_, rfl⟩
  obtain ⟨lim, hli⟩ : ∃ lim, lim = e.1 (9000 + p1) 3 := ⟨_, rfl⟩
  obtain ⟨m1, hm1⟩ : ∃ m1, m1 = mset (mset m 68 129 0) 119 p1 1 := ⟨_, rfl⟩
  rw [← hm1] at h1 P1 ⊢
  have k1 := h1.pj.1 p1 c1.1 (by rw [eS_a (by omega)]; exact c1.2)
  have k112 : m1 112 p1 = w := by rw [k1.1, eS_j (by decide), hww]
  have k113 : m1 113 p1 = r := by rw [k1.2.1, eS_j (by decide), hrr]
  have k114 : m1 114 p1 = lim := by rw [k1.2.2.1, eS_j (by decide), hli]
  -- what is kept
  have s1 : ∀ a u : Int, a ≠ 9000 + p1 ∨ u ≠ 5 → (eS e (9000 + p1) 5 1).1 a u = e.1 a u := fun a u hu => by
    by_cases c : a = 9000 + p1
    · rw [c]; exact eS_j (by omega)
    · exact eS_a c
  have hT1 : hT (eS e (9000 + p1) 5 1) r = hT e r := by
    unfold hT hN
    rw [s1 _ _ (by omega)]
    rfl
  rw [← hrr] at hr hRr h9 hTb ver4
  rw [← hww] at hw
  obtain ⟨q1, q2⟩ := rKept (r := r) h1 hc1 hw.1 hw.2 hr.1 (by rw [s1 _ _ (by omega)]; exact hr.2) (by rw [hT1, s1 _ _ (by omega), s1 _ _ (by omega)]; exact ⟨h9, hTb, ver4⟩)
  have eG : cG p1 e = pKept r w (eS e (9000 + p1) 5 1) := by unfold cG; rw [← hrr, ← hww]
  rw [← eG] at q1 q2
  have g01 : cG p1 e = 0 ∨ cG p1 e = 1 := by
    unfold cG pKept
    split
    · exact Or.inr rfl
    · exact Or.inl rfl
  have k122 : m1 122 w = e.1 11 w := by
    have := (h1.pj.2.2 w hw.1 hw.2).1
    rw [this, s1 _ _ (by omega)]
  have gw := hG w hw.1 hw.2
  have eC2 : pCmp2 p1 e = if cG p1 e = 0 then eS (eS e (9000 + p1) 5 1) 11 w (e.1 11 w + 1) else eS e (9000 + p1) 5 1 := by
    unfold pCmp2
    rw [← hrr, ← hww, ← eG]
    by_cases c : cG p1 e = 0
    · rw [if_pos c, if_pos c]
      unfold pRep
      rw [if_pos hw, s1 _ _ (by omega), w32_id (by omega) (by omega)]
    · rw [if_neg c, if_neg c]
  -- replays are counted
  obtain ⟨m2, hm2⟩ : ∃ m2, m2 = mset m1 122 w (e.1 11 w + (if cG p1 e = 0 then 1 else 0)) := ⟨_, rfl⟩
  have h2 : RXE m2 (pCmp2 p1 e) := by
    rw [eC2, hm2]
    by_cases c : cG p1 e = 0
    · rw [if_pos c, if_pos c]
      exact h1.rp hc1 hw.1 hw.2
    · rw [if_neg c, if_neg c, Int.add_zero, ← k122, ms_id]
      exact h1
  have c2a : ∀ a u : Int, a ≠ 11 → (a ≠ 9000 + p1 ∨ u ≠ 5) → (pCmp2 p1 e).1 a u = e.1 a u := fun a u g1 g2 => cmp2_a g1 g2
  have hc2 : CN (pCmp2 p1 e) := hc.of fun a ha => c2a a 2 (by omega) (by omega)
  have P2 : P113 m2 := by rw [hm2]; exact P1.sx (by omega) hw.1
  have n2 : hN (pCmp2 p1 e) r = hN e r := c2a _ _ (by omega) (by omega)
  have e2H : ∀ i, eH (pCmp2 p1 e) i = eH e i := fun i => by unfold eH; rw [cmp2_2]
  have e2L : ∀ i, eL (pCmp2 p1 e) i = eL e i := fun i => by unfold eL; rw [cmp2_2]
  have cC2 : hC (pCmp2 p1 e) r = hC e r := by unfold hC; rw [n2, e2H]
  have k2 := h2.pr.1 r hr.1 (by rw [c2a _ _ (by omega) (by omega)]; exact hr.2)
  have m286 : m2 86 r = hN e r := by rw [k2.2.1.1, n2]
  have m291 : m2 91 r = hC e r := by rw [k2.2.1.2.2.2, cC2]
  have m282 : m2 82 r = e.1 (7000 + r) 3 := by rw [k2.1.2.2.1, c2a _ _ (by omega) (by omega)]
  have rhE : cRh p1 e = if cG p1 e = 0 then hN e r else e.1 (7000 + r) 15 := by unfold cRh; rw [← hrr]
  have rcE : cRc p1 e = if cG p1 e = 0 then hC e r else e.1 (7000 + r) 14 := by unfold cRc; rw [← hrr]
  have cM : cG p1 e = 1 → m2 126 (30 * w + r) = e.1 (7000 + r) 15 ∧ m2 127 (30 * w + r) = e.1 (7000 + r) 14 := fun hh => by
    obtain ⟨y1, y2⟩ := q2 hh
    rw [hm2, ms_a (by decide), ms_a (by decide), y1, y2, s1 _ _ (by omega), s1 _ _ (by omega)]
    exact ⟨rfl, rfl⟩
  have m2s : m2 68 129 = 0 := by rw [hm2, ms_a (by decide), hm1, ms_a (by decide)]; exact ms_e
  have m2114 : m2 114 p1 = lim := by rw [hm2, ms_a (by decide)]; exact k114
  -- the telling
  have t0 := hRr.1
  have hvs := hRr.2.2.1
  have hN458 : 0 ≤ hN e r ∧ hN e r ≤ 458752 := by
    have := X1.2.2.2.2
    have e0 : (pCmpX p1 e).1 0 = hN (pCmp2 p1 e) (e.1 (9000 + p1) 1) := rfl
    rw [e0, ← hrr, n2] at this
    exact this
  have xeq : pCmpX p1 e = pCX (pCmp2 p1 e) r (e.1 (7000 + r) 3) (pCmpW p1 e) (if pCmpW p1 e = 2 then (pCmp2 p1 e).1 (7000 + r) 14 else 0) (if pCmpW p1 e = 2 then (pCmp2 p1 e).1 (7000 + r) 15 else 0) := by
    unfold pCmpX pX3 pCmpV
    rw [← hrr]
  have ty2 : (pCmp2 p1 e).1 (7000 + r) 1 = e.1 (7000 + r) 1 := c2a _ _ (by omega) (by omega)
  have hv4 := hc.2.2.2.2 (48 + 4 * e.1 (7000 + r) 1) (isT_4 t0.1 t0.2)
  have R0 : RH0 m2 (pCmpX p1 e) (fun i => ((pCmp2 p1 e).1 (76000 + r) i).toNat) r (e.1 (7000 + r) 1) (e.1 (7000 + r) 3) := by
    rw [xeq]
    have := h2.rh0 (r := r) (v := e.1 (7000 + r) 3) (w := pCmpW p1 e) (c2 := if pCmpW p1 e = 2 then (pCmp2 p1 e).1 (7000 + r) 14 else 0) (c3 := if pCmpW p1 e = 2 then (pCmp2 p1 e).1 (7000 + r) 15 else 0) hr.1 (by rw [c2a _ _ (by omega) (by omega)]; exact hr.2) (by rw [c2a _ _ (by omega) (by omega)]; exact n7.2) (by rw [ty2]; exact t0.1) (by rw [ty2]; exact t0.2) hvs.1 (by rw [ty2, c2a _ _ (by omega) (by omega), show 49 + 4 * e.1 (7000 + r) 1 = 48 + 4 * e.1 (7000 + r) 1 + 1 by omega]; exact hvs.2) ver4.2 (by rw [n2]; omega)
    rw [ty2] at this
    exact this
  rw [← hli] at hlim
  have eTd : cTd p1 e = told (pCmpX p1 e) lim := by unfold cTd; rw [← hli]
  rw [eTd] at b1 b2 b3 hSm hend hNw hSq
  obtain ⟨m3, f1, f2, f3, f4⟩ := tells_all (lim := lim) X1 R0 hMA hGB hQ0 hA0 P2 hlim.1 hlim.2 b1 b2 b3
  obtain ⟨T, hTT⟩ : ∃ T, T = told (pCmpX p1 e) lim := ⟨_, rfl⟩
  rw [← hTT] at f2 hSm hend hNw hSq b1
  have tf : TFW m2 m3 := f2.1
  have h3 : RXE m3 (pCmp2 p1 e) := h2.tfw hc2 tf
  have m3s : m3 68 129 = 0 := by rw [tf _ _ (tow_no (fun hh => absurd rfl hh) (fun _ => Or.inr (by decide)))]; exact m2s
  have s30 : sg (pCmpS p1 e) 0 30 = sg T 0 30 := sm_g hSm (Or.inr (by decide))
  have s31 : sg (pCmpS p1 e) 0 31 = sg T 0 31 := sm_g hSm (Or.inr (by decide))
  have sS : nc (pCmpX p1 e) (sg (pCmpS p1 e) 0 12) = nc (pCmpX p1 e) (sg T 0 12) ∧ sn (pCmpS p1 e) = sn T ∧ (pCmpS p1 e).2.2.1 = T.2.2.1 := by
    obtain ⟨p, L, hS, hJ⟩ := hSm
    rw [hS]
    refine ⟨?_, hJ.2, rfl⟩
    rw [ax_g, if_pos ⟨rfl, rfl⟩]
    exact hJ.1
  have hN0 : (pCmpX p1 e).1 0 = hN e r := by
    have e0 : (pCmpX p1 e).1 0 = hN (pCmp2 p1 e) (e.1 (9000 + p1) 1) := rfl
    rw [e0, ← hrr, n2]
  -- stuck: its state
  have stuck : ∀ (M : MM) (wr : Int), RXE M (pCmp2 p1 e) → P113 M → M 68 129 = 0 → M 68 114 = 1 → M 68 115 = wr → sg (sBeh (pCmpX p1 e) (pCmpS p1 e)) 0 30 ≠ 0 → sg (sBeh (pCmpX p1 e) (pCmpS p1 e)) 0 31 = wr → ∀ y7 y8 : Int, OKs (fj_X12_complete_193 p1 r (30 * w + r) y7 y8 M) cd1 (pcComp2 r p1 (cG p1 e) (pCmpX p1 e) (pCmpS p1 e) (pCmpB p1 e) (eM (pCmp2 p1 e) (-1) (pCmpS p1 e) (pCmpB p1 e))) := fun M wr hM hPM hs0 h114 h115 hb hb2 y7 y8 => by
    have hE : EQM (pCmp2 p1 e) (cE0 p1 e) := eM_eq.tr eM_eq
    have hE' : eM (eM (pCmp2 p1 e) (-1) (pCmpS p1 e) (pCmpB p1 e)) (-1) (sBeh (pCmpX p1 e) (pCmpS p1 e)) (pCmpB p1 e) = cE0 p1 e := rfl
    have hM2 := hM.eqm hc2 hE
    have hcE := hc2.eqm hE
    have r17 : r < (cE0 p1 e).1 7 2 := by rw [hE.1 _ _ (by omega), c2a _ _ (by omega) (by omega)]; exact hr.2
    have st0 : (cE0 p1 e).1 (7000 + r) 6 = 0 := by rw [hE.1 _ _ (by omega), c2a _ _ (by omega) (by omega), hrr]; exact cs.2.1
    unfold fj_X12_complete_193 pcComp2
    rw [lx_p, h114, if_neg (show ¬ (1 : Int) = 0 by decide), if_neg hb, gd_t (by omega), up_t, lx_p, ms_a (by decide), h115, up_t, hE', hb2]
    have hm : RXE (mset (mset M 83 r 6) 94 r wr) (eS (eS (cE0 p1 e) (7000 + r) 6 6) (7000 + r) 7 wr) := by
      obtain ⟨⟨a1, a2, a3, a4, a5, a6⟩, ⟨b1, b2, b3, b4⟩, b5, b6, b7, b8⟩ := hM2.pr.1 r hr.1 r17
      have z1 : hN (eS (eS (cE0 p1 e) (7000 + r) 6 6) (7000 + r) 7 wr) r = hN (cE0 p1 e) r := (eS_a (by omega)).trans (eS_a (by omega))
      refine hM2.rn hcE hr.1 r17 (fun a j g1 g2 g3 _ => ?_) (fun a u g => ?_) rfl (fun hd => ?_) ?_
      · unfold mset
        rw [if_neg (by omega), if_neg (by omega)]
      · by_cases ca : a = 7000 + r
        · rw [ca, eS_j (by omega), eS_j (by omega)]
        · rw [eS_a ca, eS_a ca]
      · exact absurd st0 hd.1
      · unfold RXr1 hA hT hC
        rw [z1]
        refine ⟨⟨?_, ?_, ?_, ?_, ?_, fun hh => ?_⟩, ⟨?_, ?_, ?_, ?_⟩, ?_, ?_, fun hh => ?_, ?_⟩
        · rw [ms_a (by decide), ms_a (by decide), eS_j (by decide), eS_j (by decide)]; exact a1
        · rw [ms_a (by decide), ms_a (by decide), eS_j (by decide), eS_j (by decide)]; exact a2
        · rw [ms_a (by decide), ms_a (by decide), eS_j (by decide), eS_j (by decide)]; exact a3
        · rw [ms_a (by decide), ms_e, eS_j (by decide), eS_e]
        · rw [ms_a (by decide), ms_a (by decide), eS_j (by decide), eS_j (by decide)]; exact a5
        · rw [eS_j (by decide), eS_j (by decide)] at hh
          rw [ms_a (by decide), ms_a (by decide), eS_j (by decide), eS_j (by decide)]; exact a6 hh
        · rw [ms_a (by decide), ms_a (by decide)]; exact b1
        · rw [ms_a (by decide), ms_a (by decide)]; exact b2
        · rw [ms_a (by decide), ms_a (by decide)]; exact b3
        · rw [ms_a (by decide), ms_a (by decide)]; exact b4
        · rw [ms_a (by decide), ms_a (by decide), eS_j (by decide), eS_j (by decide)]; exact b5
        · rw [ms_a (by decide), ms_a (by decide), eS_j (by decide), eS_j (by decide)]; exact b6
        · rw [ms_e, eS_e]
        · rw [ms_a (by decide), ms_a (by decide), eS_j (by decide), eS_j (by decide)]; exact b8
    exact OKs.fin hm ((hPM.sx (by omega) hr.1).sx (by omega) hr.1).2 (by rw [ms_a (by decide), ms_a (by decide)]; exact hs0)
  -- not stuck: all of it
  have good : ∀ (M : MM) (z : Int), M = mset m3 68 116 z → sg T 0 30 = 0 → m3 68 114 = 0 → sg (sBeh (pCmpX p1 e) (pCmpS p1 e)) 0 30 = 0 → sBeh (pCmpX p1 e) (pCmpS p1 e) = pCmpS p1 e → OKs (fj_X12_complete_193 p1 r (30 * w + r) (cRh p1 e) (cRc p1 e) M) cd1 (pcComp2 r p1 (cG p1 e) (pCmpX p1 e) (pCmpS p1 e) (pCmpB p1 e) (eM (pCmp2 p1 e) (-1) (pCmpS p1 e) (pCmpB p1 e))) := fun M z hMM t30 h114 hb hbS => by
    obtain ⟨hf2, hT2, hcar⟩ := hlast hb
    rw [← hrr] at hcar hT2
    have hE : EQM (pCmp2 p1 e) (cE0 p1 e) := eM_eq.tr eM_eq
    have e0a : ∀ a u : Int, a ≠ 16 → a ≠ 11 → (a ≠ 9000 + p1 ∨ u ≠ 5) → (cE0 p1 e).1 a u = e.1 a u := fun a u g1 g2 g3 => by rw [hE.1 _ _ g1, c2a _ _ g2 g3]
    have hME : RXE M (cE0 p1 e) := by rw [hMM]; exact (h3.hi hc2 (by decide)).eqm hc2 hE
    have hcE := hc2.eqm hE
    have r17 : r < (cE0 p1 e).1 7 2 := by rw [e0a _ _ (by omega) (by omega) (by omega)]; exact hr.2
    have hNE : hN (cE0 p1 e) r = hN e r := e0a _ _ (by omega) (by omega) (by omega)
    have hHE : ∀ i, eH (cE0 p1 e) i = eH e i := fun i => (congrFun hE.2.1 i).trans (e2H i)
    have hCE : hC (cE0 p1 e) r = hC e r := by unfold hC; rw [hNE, hHE]
    have eTE : eT (cE0 p1 e) = pCmpS p1 e := hbS
    have lE : RLw (cE0 p1 e) := by
      obtain ⟨q1, q2, q3, q4⟩ := hl
      refine ⟨by rw [e0a _ _ (by omega) (by omega) (by omega)]; exact q1, by rw [e0a _ _ (by omega) (by omega) (by omega)]; exact q2, by rw [e0a _ _ (by omega) (by omega) (by omega), e0a _ _ (by omega) (by omega) (by omega)]; exact q3, fun i i0 i1 => ?_⟩
      rw [e0a _ _ (by omega) (by omega) (by omega)] at i1
      show 0 ≤ (cE0 p1 e).1 (71000 + i) 1
      rw [e0a _ _ (by omega) (by omega) (by omega)]
      exact q4 i i0 i1
    have ndE : ¬ Dead (cE0 p1 e) r := fun hh => by
      have := hh.1
      rw [e0a _ _ (by omega) (by omega) (by omega), hrr] at this
      exact this cs.2.1
    obtain ⟨y1, y2, y3, y4, -, -, -⟩ := f2.fct t30
    have hNw := hNw t30
    rw [← sS.2.1] at y1 hNw
    have nwM : NwM M (sn (pCmpS p1 e)) := by
      rw [hMM]
      exact ⟨by rw [ms_j (by decide)]; exact y1.1, fun i k a b hi => by rw [ms_a (by decide), ms_a (by decide)]; exact y1.2 i k a b hi⟩
    have nwB : ∀ q ∈ sn (pCmpS p1 e), (8 ≤ q.1 ∧ q.1 ≤ 16) ∧ 0 ≤ q.2.1 := fun q hq => ⟨(hNw q hq).1, (hNw q hq).2.1.1⟩
    have lenL : (sn (pCmpS p1 e)).length < 65536 := by
      have b1' : nl T = ((sn T).length : Int) := rfl
      rw [sS.2.1]
      omega
    -- the state behind the news
    obtain ⟨E1, hE1⟩ : ∃ E1, E1 = pPNL r (e.1 4 14) (sn (pCmpS p1 e)) (cE0 p1 e) := ⟨_, rfl⟩
    obtain ⟨w1, w2, w3⟩ := mr_pnl (t := e.1 4 14) hr.1 (sn (pCmpS p1 e)) (cE0 p1 e) hcE r17 (fun q hq => (nwB q hq).1.1)
    rw [← hE1] at w1 w2 w3
    have eE2 : cE2 p1 e = pPut r 17 lim 0 (e.1 4 14) 0 E1 := by unfold cE2; rw [hE1, hrr, hli]
    have mp2 := mr_put (k := 17) (x := lim) (y := 0) (t := e.1 4 14) (o := 0) w2 hr.1 (by rw [w3]; exact r17) (by decide)
    rw [← eE2] at mp2
    obtain ⟨v1, v2, v3⟩ := pnl_ct (t := e.1 4 14) hr.1 (by omega) (sn (pCmpS p1 e)) (cE0 p1 e) (by rw [hNE]; exact hN458.1) nwB
    rw [← hE1] at v1 v2 v3
    have t1 : E1.1 4 14 = e.1 4 14 := by
      rw [hE1]
      have := pnl_a (r := r) (t := e.1 4 14) (a := 4) (u := 14) (by decide) (by decide) (by omega) (by omega) (sn (pCmpS p1 e)) (cE0 p1 e)
      rw [this]
      exact e0a _ _ (by omega) (by omega) (by omega)
    have ndE1 : ¬ Dead E1 r := fun hh => ndE (by
      unfold Dead at hh ⊢
      rw [hE1, pnl_a (by omega) (by omega) (by omega) (by omega)] at hh
      exact hh)
    have K0 : M 86 r = hN e r := by rw [(hME.pr.1 r hr.1 r17).2.1.1, hNE]
    have M114 : M 114 p1 = lim := by
      rw [hMM, ms_a (by decide), tf _ _ (tow_no (fun _ => by decide) (fun hh => absurd hh (by decide)))]
      exact m2114
    have wr0 : 0 ≤ 30 * w + r ∧ 30 * w + r < 90 := by omega
    have hf1 : RFw E1 := hf2.bk mp2
    obtain ⟨m4, g1, g2, g3, g4⟩ := putsL (r := r) (t := e.1 4 14) (y1 := p1) (y3 := r) (y5 := 30 * w + r) (y7 := cRh p1 e) (y8 := cRc p1 e) (y9 := hN e r) (K := fun m_343 =>
gd (0 ≤ p1 ∧ p1 < 4096) <| lx (m_343 114 p1) fun x_357 =>
bd (fm_X12_puts r 17 x_357 0 m_343) fun x_362 m_363 =>
lx (m_363 90 r) fun x_382 =>
gd (0 ≤ 30 * w + r ∧ 30 * w + r < 90) <| up m_363 123 (30 * w + r) x_382 fun m_385 =>
lx (m_385 82 r) fun x_401 =>
up m_385 124 (30 * w + r) x_401 fun m_403 =>
lx (m_403 93 r) fun x_419 =>
up m_403 125 (30 * w + r) x_419 fun m_421 =>
up m_421 126 (30 * w + r) (cRh p1 e) fun m_431 =>
up m_431 127 (30 * w + r) (cRc p1 e) fun m_441 =>
fl_X12_complete_357 r (hN e r) BIG 0 m_441) hr.1 rfl hNw lenL (sn (pCmpS p1 e)) BIG 0 M (cE0 p1 e) hME hcE lE (e0a _ _ (by omega) (by omega) (by omega)) nwM rfl (Int.le_refl _) (by omega) (by rw [← hE1]; exact hf1) r17 ndE (BIG_g (by omega))
    rw [← hE1] at g2
    obtain ⟨m5, u1, u2, u3, u4⟩ := g2.put2 (r := r) (k := 17) (x := lim) (y := 0) w2 (w1.2.2 lE) (by rw [t1, ← eE2]; exact hf2) hr.1 (by rw [w3]; exact r17) ndE1 (by decide) (by decide) hlim.1 (by omega) (by decide) (by decide) (fun _ => by rw [v1, hCE, hrr, hli]; exact hCl.2)
    rw [t1, ← eE2] at u2
    have hcE2 : CN (cE2 p1 e) := by rw [eE2]; exact w2.put hr.1
    have r27 : r < (cE2 p1 e).1 7 2 := by
      rw [eE2, put_a (by decide) (by decide) (by omega) (by omega), w3]
      exact r17
    obtain ⟨ct1, ct2, ct3⟩ := put_ct (k := 17) (x := lim) (y := 0) (t := e.1 4 14) (o := 0) (e := E1) (r := r) (by decide) hlim.1 hr.1 (by omega) (by rw [hNE] at v3; omega)
    rw [if_pos rfl, ← eE2] at ct2
    have x2a : ∀ u : Int, (cE2 p1 e).1 (7000 + r) u = e.1 (7000 + r) u := fun u => by
      rw [eE2, put_a (by omega) (by omega) (by omega) (by omega), hE1, pnl_a (by omega) (by omega) (by omega) (by omega)]
      exact e0a _ _ (by omega) (by omega) (by omega)
    have kE := u2.pr.1 r hr.1 r27
    have k90 : m5 90 r = hT (cE2 p1 e) r := kE.2.1.2.2.1
    have k82 : m5 82 r = e.1 (7000 + r) 3 := by rw [kE.1.2.2.1, x2a]
    have k93 : m5 93 r = e.1 (7000 + r) 9 := by rw [kE.2.2.2.1, x2a]
    obtain ⟨m6, hm6⟩ : ∃ m6, m6 = mset (mset (mset (mset (mset m5 123 (30 * w + r) (hT (cE2 p1 e) r)) 124 (30 * w + r) (e.1 (7000 + r) 3)) 125 (30 * w + r) (e.1 (7000 + r) 9)) 126 (30 * w + r) (cRh p1 e)) 127 (30 * w + r) (cRc p1 e) := ⟨_, rfl⟩
    -- the plain state
    obtain ⟨F, hF⟩ : ∃ F, F = pPN4 r p1 (cG p1 e) (cE0 p1 e) := ⟨_, rfl⟩
    have pn2 : pPN2 r p1 (cG p1 e) (cE0 p1 e) = if cG p1 e = 0 then eS (eS (cE2 p1 e) (7000 + r) 15 (hN e r)) (7000 + r) 14 (hC e r) else cE2 p1 e := by
      rw [pn2_eq hr.1 (by omega), eTE, hNE, hCE, e0a (9000 + p1) 3 (by omega) (by omega) (by omega), e0a 4 14 (by omega) (by omega) (by omega), ← hli, ← hE1, ← eE2]
    have pn2a : ∀ a u : Int, ¬ (a = 7000 + r ∧ 12 ≤ u ∧ u ≤ 15) → (pPN2 r p1 (cG p1 e) (cE0 p1 e)).1 a u = (cE2 p1 e).1 a u := fun a u hu => by
      rw [pn2]
      split
      · by_cases c : a = 7000 + r
        · rw [c, eS_j (by omega), eS_j (by omega)]
        · rw [eS_a c, eS_a c]
      · rfl
    have pn22 : (pPN2 r p1 (cG p1 e) (cE0 p1 e)).2 = (cE2 p1 e).2 := by
      rw [pn2]
      split <;> rfl
    have pnT : hT (pPN2 r p1 (cG p1 e) (cE0 p1 e)) r = hT (cE2 p1 e) r := by
      have z1 : hN (pPN2 r p1 (cG p1 e) (cE0 p1 e)) r = hN (cE2 p1 e) r := pn2a _ _ (by omega)
      have z2 : eH (pPN2 r p1 (cG p1 e) (cE0 p1 e)) r = eH (cE2 p1 e) r := by unfold eH; rw [pn22]
      unfold hT
      rw [z1, z2]
    have Fa : ∀ a u : Int, ¬ (a = 7000 + r ∧ 12 ≤ u ∧ u ≤ 15) → F.1 a u = (cE2 p1 e).1 a u := fun a u hu => by
      rw [hF]
      unfold pPN4
      by_cases c : a = 7000 + r
      · rw [c, eS_j (by omega), eS_j (by omega)]
        rw [c] at hu
        exact pn2a _ _ hu
      · rw [eS_a c, eS_a c]
        exact pn2a _ _ hu
    have F12 : F.1 (7000 + r) 12 = w := by
      rw [hF]
      unfold pPN4
      rw [eS_j (by decide), eS_e, e0a _ _ (by omega) (by omega) (by omega), hww]
    have F13 : F.1 (7000 + r) 13 = ((cE2 p1 e).1 (7000 + r) 9 * 1000 + hT (cE2 p1 e) r) * 4 + (cE2 p1 e).1 (7000 + r) 3 := by
      rw [hF]
      unfold pPN4
      rw [eS_e]
      unfold pMark
      rw [pnT, pn2a _ _ (by omega), pn2a _ _ (by omega)]
    have F15 : F.1 (7000 + r) 15 = cRh p1 e ∧ F.1 (7000 + r) 14 = cRc p1 e := by
      rw [hF, rhE, rcE]
      unfold pPN4
      rw [eS_j (by decide), eS_j (by decide), eS_j (by decide), eS_j (by decide), pn2]
      by_cases c : cG p1 e = 0
      · rw [if_pos c, if_pos c, if_pos c, eS_j (by decide), eS_e, eS_e]
        exact ⟨rfl, rfl⟩
      · rw [if_neg c, if_neg c, if_neg c, x2a, x2a]
        exact ⟨rfl, rfl⟩
    have h6 : RXE m6 F := by
      refine u2.kp hcE2 hr.1 r27 hw.1 hw.2 (fun a j hj => ?_) Fa ⟨?_, ?_⟩ F12 F13 ⟨?_, ⟨?_, hT2⟩, ?_, ?_⟩ ?_ ?_ ?_ ?_ ?_ (fun w' w0' w1' hne hpos => ?_)
      · rw [hm6]
        unfold mset
        rw [if_neg (by omega), if_neg (by omega), if_neg (by omega), if_neg (by omega), if_neg (by omega)]
      · rw [hF]; unfold pPN4; show (pPN2 r p1 (cG p1 e) (cE0 p1 e)).2.1 = _; rw [pn22]
      · rw [hF]; unfold pPN4; show (pPN2 r p1 (cG p1 e) (cE0 p1 e)).2.2.1 = _; rw [pn22]
      · rw [x2a]; exact h9
      · have : 0 ≤ hT E1 r := (cT_b (E := eH E1 r) (hN E1 r).toNat).1
        omega
      · rw [x2a]; exact ver4.1
      · rw [x2a]; exact ver4.2
      · rw [hm6, ms_a (by decide), ms_a (by decide), ms_a (by decide), ms_a (by decide)]; exact ms_e
      · rw [hm6, ms_a (by decide), ms_a (by decide), ms_a (by decide), x2a]; exact ms_e
      · rw [hm6, ms_a (by decide), ms_a (by decide), x2a]; exact ms_e
      · rw [hm6, ms_a (by decide), F15.1]; exact ms_e
      · rw [hm6, F15.2]; exact ms_e
      · rw [u4 123 _ (by decide)] at hpos
        rw [u4 123 _ (by decide), u4 125 _ (by decide), x2a]
        obtain ⟨q1, q2, -⟩ := ((g2.pw w' w0' w1').1 r hr.1 (by rw [w3]; exact r17)).1 hpos
        have x1a : E1.1 (7000 + r) 9 = e.1 (7000 + r) 9 := by
          rw [hE1, pnl_a (by omega) (by omega) (by omega) (by omega)]
          exact e0a _ _ (by omega) (by omega) (by omega)
        rw [x1a] at q1 q2
        exact ⟨q1, fun hh => by have := q2 hh; omega⟩
    -- carrying out
    have hcF : CN F := hcE2.of fun a ha => Fa _ _ (by omega)
    obtain ⟨S', hS'⟩ : ∃ S', S' = sKnow (hN F r) (sBeh (pCmpX p1 e) (pCmpS p1 e)) := ⟨_, rfl⟩
    have ePN : pPN r p1 (cG p1 e) (cE0 p1 e) = eM F r (sKnow (hN F r) (eT (cE0 p1 e))) (eB (cE0 p1 e)) := by unfold pPN; rw [← hF]
    have h7 : RXE m6 (pPN r p1 (cG p1 e) (cE0 p1 e)) := by rw [ePN]; exact h6.eqm hcF eM_eq
    rw [← hF, ← hS'] at hcar
    have nS' : sn S' = sn (pCmpS p1 e) := by rw [hS', hbS]; rfl
    have qS' : S'.2.2.1 = T.2.2.1 := by rw [hS', hbS]; exact sS.2.2
    have gS' : ∀ j : Int, j ≠ 12 → j ≠ 13 → sg S' 0 j = sg T 0 j := fun j j1 j2 => by
      rw [hS', hbS]
      unfold sKnow
      rw [st_g, if_neg (by omega), st_g, if_neg (by omega)]
      exact sm_g hSm (Or.inr ⟨j1, j2⟩)
    have scA : SC2 M m6 := (g3.tr u3).s2.tr ⟨fun a j q1 q2 => by
      rw [hm6]
      unfold mset
      rw [if_neg (by omega), if_neg (by omega), if_neg (by omega), if_neg (by omega), if_neg (by omega)], fun j q1 => by
      rw [hm6]
      unfold mset
      rw [if_neg (by omega), if_neg (by omega), if_neg (by omega), if_neg (by omega), if_neg (by omega)]⟩
    have qrM : QR M S' := by
      have hb2 := b2
      rw [← hTT] at hb2
      refine ⟨fun n n0 n1 => ?_, by rw [gS' 41 (by decide) (by decide)]; omega, ?_, ?_⟩
      · obtain ⟨q1, q2, q3, q4⟩ := y2 n n0 n1
        have qe : sq S' n = sq T n := congrFun qS' n
        rw [hMM, ms_a (by decide), ms_a (by decide), qe, gS' 41 (by decide) (by decide)]
        refine ⟨q1, q2, q3, fun i v hv => ?_⟩
        rw [ms_a (by decide)]
        exact q4 i v hv
      · rw [hMM, ms_j (by decide), gS' 10 (by decide) (by decide)]; exact y3
      · rw [hMM, ms_j (by decide), gS' 8 (by decide) (by decide)]; exact y4
    obtain ⟨m7, o1, o2, o3⟩ := carLr (r := r) (base := hN e r) (S := S') (fun n n0 n1 v hv => hSq n n0 n1 v (by rw [← show sq S' n = sq T n from congrFun qS' n]; exact hv)) (by omega) (by rw [nS']; exact lenL) (sn (pCmpS p1 e)).length BIG (hN e r) m6 _ h7 hcar (qrM.mv scA) (by rw [nS']; exact nwM.mv scA) (Int.le_refl _) (by rw [nS']) (BIG_g (by omega))
    rw [Int.sub_self, nS'] at o1
    have hfin : pcComp2 r p1 (cG p1 e) (pCmpX p1 e) (pCmpS p1 e) (pCmpB p1 e) (eM (pCmp2 p1 e) (-1) (pCmpS p1 e) (pCmpB p1 e)) = (.inl ((sn (pCmpS p1 e)).length : Int), pCarL r (sn (pCmpS p1 e)).length (hN e r) (pPN r p1 (cG p1 e) (cE0 p1 e))) := by
      unfold pcComp2
      rw [if_pos hb, show hN (eM (pCmp2 p1 e) (-1) (pCmpS p1 e) (pCmpB p1 e)) r = hN e r from ((eM_eq (e := pCmp2 p1 e)).1 _ _ (by omega)).trans n2]
      rfl
    have sc7 := scA.tr o3
    rw [hfin]
    unfold fj_X12_complete_193
    rw [lx_p, show M 68 114 = 0 by rw [hMM, ms_j (by decide)]; exact h114, if_pos (show (0 : Int) = 0 from rfl), gd_t (by omega), lx_p, K0, g1, gd_t (by omega), lx_p, g4 114 _ (by decide), M114, bd_t u1, lx_p, k90, gd_t wr0, up_t, lx_p, ms_a (by decide), k82, up_t, lx_p, ms_a (by decide), ms_a (by decide), k93, up_t, up_t, up_t, ← hm6, o1]
    exact OKs.fin o2 (by rw [sc7.2 _ (by decide), hMM, ms_j (by decide)]; exact f3.2) (by rw [sc7.2 _ (by decide), hMM, ms_j (by decide)]; exact m3s)
  -- the telling's end
  have m144 : OKs (fj_X12_complete_144 p1 r (30 * w + r) (cRh p1 e) (cRc p1 e) m2) cd1 (pcComp2 r p1 (cG p1 e) (pCmpX p1 e) (pCmpS p1 e) (pCmpB p1 e) (eM (pCmp2 p1 e) (-1) (pCmpS p1 e) (pCmpB p1 e))) := by
    unfold fj_X12_complete_144
    rw [gd_t (by omega), lx_p, m282, gd_t (by omega), lx_p, m2114, bd_t f1, lx_p]
    rcases f2.s30 with ⟨t30, h114⟩ | ⟨t30, h114⟩
    · rw [h114, if_pos (show (0 : Int) = 0 from rfl)]
      obtain ⟨-, -, -, -, y5, y6, y7⟩ := f2.fct t30
      obtain ⟨z, q1, q2, q3, q4⟩ := nextC f4 TFr.rf y5.1 y5.2
      have m124 : m3 68 124 = cRh p1 e := f4.2.2.2.2.2.2.1.1
      rw [bd_t q1, lx_p, ms_j (by decide), m124]
      have hS30 : sg (pCmpS p1 e) 0 30 = 0 := by rw [s30]; exact t30
      by_cases cz : z < cRh p1 e
      · rw [if_pos cz]
        rcases q2 with ⟨p1', p2'⟩ | ⟨p1', p2', -⟩
        · have nz : nc (pCmpX p1 e) (sg T 0 12) = z := by
            by_cases cc : nc (pCmpX p1 e) (sg T 0 12) < cRh p1 e
            · rw [p2', y6 cc]
            · have := y7 (by omega)
              omega
          have hle : cRh p1 e ≤ (pCmpX p1 e).1 0 := hMA.1.2
          have tfz : TFr m3 (mset m3 68 116 z) := TFr.rf.ms (Or.inl ⟨rfl, by omega⟩)
          obtain ⟨z', r1, r2, r3, r4⟩ := nextC f4 tfz (by rw [ms_e]; omega) (by rw [ms_e]; omega)
          rw [ms_e] at r2 r3 r4
          have nzz : nc (pCmpX p1 e) z = z := by rw [q3, p2']
          have ez : z' = z := by omega
          rw [ez] at r1
          have rd : fm_X12_differs z (mset (mset m3 68 116 z) 68 116 z) = some (0, mset (mset (mset (mset m3 68 116 z) 68 116 z) 68 114 1) 68 115 z) := by
            unfold fm_X12_differs
            rw [up_t, up_t]
          rw [bd_t r1, bd_t rd]
          have hbe : sBeh (pCmpX p1 e) (pCmpS p1 e) = sStuck (pCmpS p1 e) z := by
            unfold sBeh sLeft
            rw [if_pos hS30, sS.1, nz, if_pos (by omega)]
          have P3 : P113 (mset (mset (mset (mset m3 68 116 z) 68 116 z) 68 114 1) 68 115 z) := (((f3.s68 (by omega)).s68 (by omega)).s68 (by omega)).s68 (by omega)
          refine stuck _ z ((((h3.hi hc2 (by decide)).hi hc2 (by decide)).hi hc2 (by decide)).hi hc2 (by decide)) P3 (by rw [ms_j (by decide), ms_j (by decide), ms_j (by decide), ms_j (by decide)]; exact m3s) (by rw [ms_j (by decide)]; exact ms_e) ms_e ?_ ?_ _ _
          · rw [hbe]
            unfold sStuck
            first
              | (rw [st_g, if_neg (by decide), st_g, if_pos (by decide)]; decide)
              | (rw [st_g, if_pos (by decide)]; decide)
          · rw [hbe]
            unfold sStuck
            first
              | (rw [st_g, if_pos (by decide)])
              | (rw [st_g, if_neg (by decide), st_g, if_pos (by decide)])
        · omega
      · rw [if_neg cz]
        have nN : hN e r ≤ nc (pCmpX p1 e) (sg T 0 12) := by
          have rge : cRh p1 e ≤ nc (pCmpX p1 e) (sg T 0 12) := by
            by_cases cc : nc (pCmpX p1 e) (sg T 0 12) < cRh p1 e
            · rcases q2 with ⟨p1', p2'⟩ | ⟨p1', p2', -⟩
              · omega
              · have := y6 cc; omega
            · omega
          by_cases cr : cRh p1 e < hN e r
          · have := hend (by rw [← hrr]; exact cr) t30
            rw [← hrr] at this
            exact this
          · omega
        have hbS : sBeh (pCmpX p1 e) (pCmpS p1 e) = pCmpS p1 e := by
          unfold sBeh sLeft
          rw [if_pos hS30, sS.1, hN0, if_neg (by omega)]
        exact good _ z rfl t30 h114 (by rw [hbS]; exact hS30) hbS
    · rw [h114, if_neg (show ¬ (1 : Int) = 0 by decide)]
      have m115 : m3 68 115 = sg T 0 31 := by
        obtain ⟨-, -, hff⟩ := f2
        rcases hff with ⟨g1, -⟩ | ⟨-, -, g3⟩
        · omega
        · exact g3
      have hbe : sBeh (pCmpX p1 e) (pCmpS p1 e) = pCmpS p1 e := by
        unfold sBeh
        rw [if_neg (by rw [s30]; omega)]
      exact stuck m3 (sg T 0 31) h3 f3 m3s h114 m115 (by rw [hbe, s30]; omega) (by rw [hbe, s31]) _ _
  have hgoal : pcComp2 (e.1 (9000 + p1) 1) p1 (pKept (e.1 (9000 + p1) 1) (e.1 (9000 + p1) 0) (eS e (9000 + p1) 5 1)) (pCmpX p1 e) (pCmpS p1 e) (pCmpB p1 e) (eM (pCmp2 p1 e) (-1) (pCmpS p1 e) (pCmpB p1 e)) = pcComp2 r p1 (cG p1 e) (pCmpX p1 e) (pCmpS p1 e) (pCmpB p1 e) (eM (pCmp2 p1 e) (-1) (pCmpS p1 e) (pCmpB p1 e)) := by rw [eG, hrr, hww]
  rw [hgoal, lx_p, k113, lx_p, k112, lx_p, w32_id (z := 30 * w) (by omega) (by omega), w32_id (z := 30 * w + r) (by omega) (by omega), bp_t q1, gd_t hw, lx_p, k122]
  have wr0 : 0 ≤ 30 * w + r ∧ 30 * w + r < 90 := by omega
  rcases g01 with c | c
  · rw [c] at hm2 rhE rcE ⊢
    rw [if_pos (show (0 : Int) = 0 from rfl)] at hm2 rhE rcE
    rw [if_pos (show (0 : Int) = 0 from rfl)]
    unfold fj_X12_complete_98
    rw [gd_t hw, w32_id (by omega) (by omega), up_t, ← hm2, if_pos (show (0 : Int) = 0 from rfl), gd_t (by omega), lx_p, m286]
    unfold fj_X12_complete_121
    rw [if_pos (show (0 : Int) = 0 from rfl), gd_t (by omega), lx_p, m291, ← rhE, ← rcE]
    rw [c] at m144
    exact m144
  · obtain ⟨z1', z2'⟩ := cM c
    rw [c] at hm2 rhE rcE ⊢
    rw [if_neg (show ¬ (1 : Int) = 0 by decide)] at hm2 rhE rcE
    rw [if_neg (show ¬ (1 : Int) = 0 by decide)]
    unfold fj_X12_complete_98
    rw [gd_t hw, w32_id (by omega) (by omega), up_t, ← hm2, if_neg (show ¬ (1 : Int) = 0 by decide), gd_t wr0, lx_p, z1']
    unfold fj_X12_complete_121
    rw [if_neg (show ¬ (1 : Int) = 0 by decide), gd_t wr0, lx_p, z2', ← rhE, ← rcE]
    rw [c] at m144
    exact m144
theorem x_complete (h : RXE m e) (hc : CN e) (hl : RLw e) (hP : P113 m) (hW : ∀ p : Int, 0 ≤ p → p < e.1 9 2 → (0 ≤ e.1 (9000 + p) 0 ∧ e.1 (9000 + p) 0 < 3) ∧ (0 ≤ e.1 (9000 + p) 1 ∧ e.1 (9000 + p) 1 < e.1 7 2)) (hR : ∀ i : Int, 0 ≤ i → i < e.1 7 2 → WRun e i ∧ 0 ≤ e.1 (7000 + i) 9 ∧ (0 ≤ hT e i ∧ hT e i < 1000)) (hG : ∀ w : Int, 0 ≤ w → w < 3 → 0 ≤ e.1 11 w ∧ e.1 11 w < 1000000) (hC' : 0 ≤ p1 → p1 < e.1 9 2 → e.1 (9000 + p1) 5 = 0 → e.1 (7000 + e.1 (9000 + p1) 1) 6 = 0 → pMark e (e.1 (9000 + p1) 1) = e.1 (9000 + p1) 4 → CmR p1 e) : OKp (fm_X12_complete p1 m) cd1 (pcComplete p1 e) := by
  obtain ⟨v, m', g1, g2, g3, g4⟩ := x_complete0 h hc hl hP hW hR hG hC'
  exact ⟨v, m', g1, g2, ⟨(fw_X12_complete hP.1 g1).fix, g3.1, g3.2⟩, g4⟩
end RXK7
