/-! THE REFERENCE'S CALLS: signal, cancel, event, difference. -/
section RXC5
variable {m m' : MM} {e e' e2 : ES} {a b c i j k o r v w p t s x y n p1 p2 p3 q A : Int} {l : List Int}
def cdS : Nat → Int := fun q => if q = 0 then 1 else 2
/-- bounds that hold all along; bounds of what a call comes to; what only grows -/
def RLw (e : ES) : Prop := (0 ≤ e.1 4 14 ∧ e.1 4 14 < 1000000) ∧ 0 ≤ e.1 3 0 ∧ (0 ≤ e.1 68 29 ∧ e.1 68 29 ≤ e.1 4 16) ∧ ∀ i : Int, 0 ≤ i → i < e.1 7 2 → 0 ≤ hN e i
def RFw (e : ES) : Prop := e.1 68 1000 ≤ 1300000 ∧ e.1 68 29 < 536000 ∧ e.1 7 2 ≤ 30 ∧ ∀ i : Int, 0 ≤ i → i < e.1 7 2 → hN e i < 524288
def MR (e e' : ES) : Prop := (e.1 68 1000 ≤ e'.1 68 1000 ∧ e.1 68 29 ≤ e'.1 68 29 ∧ e.1 7 2 ≤ e'.1 7 2) ∧ (∀ i : Int, 0 ≤ i → i < e.1 7 2 → hN e i ≤ hN e' i) ∧ (RLw e → RLw e')
theorem MR.rf : MR e e := ⟨⟨Int.le_refl _, Int.le_refl _, Int.le_refl _⟩, fun _ _ _ => Int.le_refl _, id⟩
theorem MR.tr (h : MR e e') (g : MR e' e2) : MR e e2 := ⟨⟨Int.le_trans h.1.1 g.1.1, Int.le_trans h.1.2.1 g.1.2.1, Int.le_trans h.1.2.2 g.1.2.2⟩, fun i i0 i1 => Int.le_trans (h.2.1 i i0 i1) (g.2.1 i i0 (by have := h.1.2.2; omega)), fun hh => g.2.2 (h.2.2 hh)⟩
theorem RFw.bk (h : RFw e') (g : MR e e') : RFw e := ⟨Int.le_trans g.1.1 h.1, Int.lt_of_le_of_lt g.1.2.1 h.2.1, Int.le_trans g.1.2.2 h.2.2.1, fun i i0 i1 => Int.lt_of_le_of_lt (g.2.1 i i0 i1) (h.2.2.2 i i0 (by have := g.1.2.2; omega))⟩
/-- nothing of it changes -/
theorem MR.of (h3 : e'.1 3 0 = e.1 3 0) (h4 : ∀ j, e'.1 4 j = e.1 4 j) (h68 : ∀ j, e'.1 68 j = e.1 68 j) (h7 : e'.1 7 2 = e.1 7 2) (hn : ∀ i : Int, 0 ≤ i → i < e.1 7 2 → hN e' i = hN e i) : MR e e' := ⟨⟨by rw [h68]; omega, by rw [h68]; omega, by omega⟩, fun i i0 i1 => by rw [hn i i0 i1]; omega, fun ⟨q1, q2, q3, q4⟩ => ⟨by rw [h4]; exact q1, by omega, by rw [h4, h68]; exact q3, fun i i0 i1 => by rw [h7] at i1; rw [hn i i0 i1]; exact q4 i i0 i1⟩⟩
theorem mr_arr (hc : CN e) (r0 : 0 ≤ r) (r1 : r < e.1 7 2) : MR e (pArr r k x y e) := by
  have n7 := hc.1
  have e7 : (pArr r k x y e).1 7 2 = e.1 7 2 := arr_a (by decide) (by decide) (by omega) (by omega) (by decide)
  have hn : ∀ i : Int, 0 ≤ i → i < e.1 7 2 → hN (pArr r k x y e) i = if i = r then hN e i + 1 else hN e i := fun i i0 i1 => by
    have : hN (pArr r k x y e) i = hN (pPut r k x y (e.1 4 14) (e.1 4 16) e) i := eS_a (by omega)
    rw [this]
    exact (put_hN r0 i0 (by omega)).1
  have e68 : (pArr r k x y e).1 68 29 = (pOrd r k e).1 68 29 := by
    have : (pArr r k x y e).1 68 29 = (pPut r k x y (e.1 4 14) (e.1 4 16) e).1 68 29 := eS_a (by decide)
    rw [this, put_68 r0]
  have e69 : (pArr r k x y e).1 68 1000 = (pOrd r k e).1 68 1000 := by
    have : (pArr r k x y e).1 68 1000 = (pPut r k x y (e.1 4 14) (e.1 4 16) e).1 68 1000 := eS_a (by decide)
    rw [this, put_68 r0]
  have hgm := (gM_le (e := e) (r := r)).1
  refine ⟨⟨by rw [e69, (ord_gh r0 (by omega)).1]; omega, by rw [e68, (ord_29 r0).1]; split <;> (try split) <;> omega, by omega⟩, fun i i0 i1 => by rw [hn i i0 i1]; split <;> omega, fun ⟨q1, q2, q3, q4⟩ => ⟨by rw [arr_a (by decide) (by decide) (by omega) (by omega) (by decide)]; exact q1, by rw [arr_3 r0]; omega, ?_, fun i i0 i1 => ?_⟩⟩
  · rw [e68, arr_16, (ord_29 r0).1]
    split
    · split <;> omega
    · omega
  · rw [e7] at i1
    rw [hn i i0 i1]
    have := q4 i i0 i1
    split <;> omega
theorem mr_put (hc : CN e) (r0 : 0 ≤ r) (r1 : r < e.1 7 2) (hk : 7 < k) : MR e (pPut r k x y t o e) := by
  have n7 := hc.1
  have e7 : (pPut r k x y t o e).1 7 2 = e.1 7 2 := put_a (by decide) (by decide) (by omega) (by omega)
  have hn : ∀ i : Int, 0 ≤ i → i < e.1 7 2 → hN (pPut r k x y t o e) i = if i = r then hN e i + 1 else hN e i := fun i i0 i1 => (put_hN r0 i0 (by omega)).1
  have e4 : ∀ j, (pPut r k x y t o e).1 4 j = e.1 4 j := fun j => put_a (by decide) (by decide) (by omega) (by omega)
  have e68 : (pPut r k x y t o e).1 68 29 = e.1 68 29 := by rw [put_68 r0, (ord_29 r0).1, if_neg (by omega)]
  have hgm := (gM_le (e := e) (r := r)).1
  refine ⟨⟨by rw [put_68 r0, (ord_gh r0 (by omega)).1]; omega, by omega, by omega⟩, fun i i0 i1 => by rw [hn i i0 i1]; split <;> omega, fun ⟨q1, q2, q3, q4⟩ => ⟨by rw [e4]; exact q1, by rw [put_3 r0]; omega, by rw [e68, e4]; exact q3, fun i i0 i1 => ?_⟩⟩
  rw [e7] at i1
  rw [hn i i0 i1]
  have := q4 i i0 i1
  split <;> omega
/-- an arrival, where what comes after keeps its bounds -/
theorem RXE.arr2 (h : RXE m e) (hc : CN e) (hl : RLw e) (hf : RFw (pArr r k x y e)) (r0 : 0 ≤ r) (r1 : r < e.1 7 2) (hd : ¬ Dead e r) (k0 : 0 ≤ k) (k1 : k ≤ 16) (x0 : 0 ≤ x) (x1 : x < 524288) (y0 : 0 ≤ y) (y1 : y ≤ 999) : ∃ m', fm_X12_puts r k x y m = some (hN e r, m') ∧ RXE m' (pArr r k x y e) ∧ SCR m m' := by
  have n7 := hc.1
  have e7 : (pArr r k x y e).1 7 2 = e.1 7 2 := arr_a (by decide) (by decide) (by omega) (by omega) (by decide)
  obtain ⟨f1, f2, f3, f4⟩ := hf
  have f5 := f4 r r0 (by omega)
  rw [arr_N r0] at f5
  obtain ⟨⟨g1, g2, -⟩, -, -⟩ := mr_arr (k := k) (x := x) (y := y) hc r0 r1
  obtain ⟨q1, q2, q3, q4⟩ := hl
  have q5 := q4 r r0 r1
  exact h.arr hc r0 r1 hd (by omega) (by omega) k0 k1 x0 x1 y0 y1 q1 (by omega) (by omega)
theorem rIsN : fm_X12_isName p2 m = some (if 0 ≤ p2 ∧ p2 < 4 then 1 else 0) := by
  unfold fm_X12_isName
  rw [bp_t isIn_e, gd_t (by split <;> omega)]
  by_cases c : 0 ≤ p2 ∧ p2 < 4
  · rw [if_pos c, if_pos (by omega)]
  · rw [if_neg c, if_neg (by omega)]
theorem rIsT : fm_X12_isType p2 m = some (if 0 ≤ p2 ∧ p2 < 4 then 1 else 0) := by
  unfold fm_X12_isType
  rw [bp_t isIn_e, gd_t (by split <;> omega)]
  by_cases c : 0 ≤ p2 ∧ p2 < 4
  · rw [if_pos c, if_pos (by omega)]
  · rw [if_neg c, if_neg (by omega)]
theorem rIsTn : fm_X12_isTenant p2 m = some (if 0 ≤ p2 ∧ p2 < 3 then 1 else 0) := by
  unfold fm_X12_isTenant
  rw [bp_t isIn_e, gd_t (by split <;> omega)]
  by_cases c : 0 ≤ p2 ∧ p2 < 3
  · rw [if_pos c, if_pos (by omega)]
  · rw [if_neg c, if_neg (by omega)]
theorem rAlive (h : RXE m e) (hc : CN e) (r0 : 0 ≤ r) (r1 : r < e.1 7 2) : fm_X12_isAlive r m = some (if e.1 (7000 + r) 6 = 0 ∨ e.1 (7000 + r) 6 = 6 then 1 else 0) := by
  have n7 := hc.1
  have k83 := (h.pr.1 r r0 r1).1.2.2.2.1
  unfold fm_X12_isAlive
  rw [gd_t (by omega), lx_p, k83]
  by_cases c : e.1 (7000 + r) 6 = 0
  · rw [if_pos c, if_pos (Or.inl c)]
  · rw [if_neg c]
    by_cases c2 : e.1 (7000 + r) 6 = 6
    · rw [if_pos c2, if_pos (Or.inr c2)]
    · rw [if_neg c2, if_neg (by omega)]
theorem OKr.fin {cd : Nat → Int} (h : RXE m e) (h1 : m 68 129 = 0) : OKr (some (v, m)) cd (.inl v, e) := ⟨_, _, rfl, h, fun z hz => ⟨Sum.inl.inj hz, h1⟩, fun q hq => absurd hq (by simp)⟩
theorem x_signal (h : RXE m e) (hc : CN e) (hl : RLw e) (hf : RFw (pcSignal p1 p2 p3 e).2) : OKr (fm_X12_signal p1 p2 p3 m) cd3 (pcSignal p1 p2 p3 e) := by
  have h0 := h.th (q := 0) hc
  have no : ∀ (q : Int) (n : Nat), 0 < q → cd3 n = q → OKr (fj_X12_signal_67 p1 p2 p3 q m) cd3 (rT n e) := fun q n hq hn => by
    unfold fj_X12_signal_67
    rw [bd_t fails_e, if_pos hq, if_neg (show ¬ (1 : Int) = 0 by decide)]
    exact OKr.no h hc hn
  unfold fm_X12_signal
  unfold pcSignal at hf ⊢
  rw [bp_t (rIsR h hc)]
  by_cases c1 : 0 ≤ p1 ∧ p1 < e.1 7 2
  · have n7 := hc.1
    rw [if_pos c1, if_neg (show ¬ (1 : Int) = 0 by decide), if_pos c1, bp_t rIsN]
    rw [if_pos c1] at hf
    by_cases c2 : 0 ≤ p2 ∧ p2 < 4
    · rw [if_pos c2, if_neg (show ¬ (1 : Int) = 0 by decide), if_pos c2]
      rw [if_pos c2] at hf
      unfold fj_X12_signal_20
      rw [if_neg (show ¬ (1 : Int) = 0 by decide), bp_t rIsV]
      by_cases c3 : 0 ≤ p3 ∧ p3 < 1000
      · have k86 := (h.pr.1 p1 c1.1 c1.2).2.1.1
        rw [if_pos c3, if_neg (show ¬ (1 : Int) = 0 by decide), if_pos c3, bp_t (rAlive h hc c1.1 c1.2)]
        rw [if_pos c3] at hf
        by_cases c4 : e.1 (7000 + p1) 6 = 0 ∨ e.1 (7000 + p1) 6 = 6
        · rw [if_pos c4, if_neg (show ¬ (1 : Int) = 0 by decide), gd_t (by omega), lx_p, k86]
          by_cases c5 : hN e p1 < 100
          · rw [if_pos c5, if_pos ⟨c4, c5⟩]
            rw [if_pos ⟨c4, c5⟩] at hf
            obtain ⟨m', g1, g2, g3⟩ := h0.arr2 hc hl hf c1.1 c1.2 (nDead c4) (by decide) (by decide) c2.1 (by omega) c3.1 (by omega)
            unfold fj_X12_signal_67
            rw [bd_t fails_e, if_neg (show ¬ (0 : Int) < 0 by decide), if_pos (show (0 : Int) = 0 from rfl), bd_t g1]
            exact OKr.fin g2 (by rw [g3.2 _ (by decide)]; exact ms_e)
          · rw [if_neg c5, if_neg (fun hh => c5 hh.2)]
            exact no 3 2 (by decide) rfl
        · rw [if_neg c4, if_pos (show (0 : Int) = 0 from rfl), if_neg (fun hh => c4 hh.1)]
          exact no 3 2 (by decide) rfl
      · rw [if_neg c3, if_pos (show (0 : Int) = 0 from rfl), if_neg c3]
        exact no 2 1 (by decide) rfl
    · rw [if_neg c2, if_pos (show (0 : Int) = 0 from rfl), if_neg c2]
      unfold fj_X12_signal_20
      rw [if_pos (show (0 : Int) = 0 from rfl)]
      exact no 1 0 (by decide) rfl
  · rw [if_neg c1, if_pos (show (0 : Int) = 0 from rfl), if_neg c1]
    unfold fj_X12_signal_20
    rw [if_pos (show (0 : Int) = 0 from rfl)]
    exact no 1 0 (by decide) rfl
/-- whether an event of a kind has come -/
theorem rHas (h : RXE m e) (hc : CN e) (r0 : 0 ≤ r) (r1 : r < e.1 7 2) (hn : 0 ≤ hN e r ∧ hN e r < 524288) : fm_X12_hasCome r k m = some (if hasK (pX e r) k = true then 1 else 0) := by
  have n7 := hc.1
  have k86 := (h.pr.1 r r0 r1).2.1.1
  have key1 : ∀ (n f : Nat) (i : Int), 0 ≤ i → i ≤ hN e r → (hN e r - i).toNat = n → n < f → fl_X12_hasCome_5 r k m f 1 i = some 1 := by
    intro n
    induction n with
    | zero =>
      intro f i h0 h0b h1 h2
      obtain ⟨f, rfl⟩ : ∃ g, f = g + 1 := ⟨f - 1, by omega⟩
      unfold fl_X12_hasCome_5
      rw [gd_t (by omega), lx_p, k86, if_neg (by omega), gd_t (by decide)]
    | succ n ih =>
      intro f i h0 h0b h1 h2
      obtain ⟨f, rfl⟩ : ∃ g, f = g + 1 := ⟨f - 1, by omega⟩
      unfold fl_X12_hasCome_5
      rw [gd_t (by omega), lx_p, k86, if_pos (by omega), if_neg (by decide), lx_p, w32_id (by omega) (by omega)]
      exact ih f (i + 1) (by omega) (by omega) (by omega) (by omega)
  have key : ∀ (n f : Nat) (i : Int), 0 ≤ i → i ≤ hN e r → (hN e r - i).toNat = n → n < f → fl_X12_hasCome_5 r k m f 0 i = some (if xHas (pX e r) k n i = true then 1 else 0) := by
    intro n
    induction n with
    | zero =>
      intro f i h0 h0b h1 h2
      obtain ⟨f, rfl⟩ : ∃ g, f = g + 1 := ⟨f - 1, by omega⟩
      unfold fl_X12_hasCome_5
      rw [gd_t (by omega), lx_p, k86, if_neg (by omega), gd_t (by decide)]
      rfl
    | succ n ih =>
      intro f i h0 h0b h1 h2
      obtain ⟨f, rfl⟩ : ∃ g, f = g + 1 := ⟨f - 1, by omega⟩
      have hi : i < hN e r := by omega
      unfold fl_X12_hasCome_5
      rw [gd_t (by omega), lx_p, k86, if_pos hi, if_pos rfl, bp_t (h.kd r0 r1 h0 hi)]
      have ex : xHas (pX e r) k (n + 1) i = if ek (eH e r i) = k then true else xHas (pX e r) k n (i + 1) := by
        show (if i < hN e r then (if ek (eH e r i) = k then true else xHas (pX e r) k n (i + 1)) else false) = _
        rw [if_pos hi]
      rw [ex]
      by_cases c : ek (eH e r i) = k
      · rw [if_pos c, if_pos c, lx_p, w32_id (by omega) (by omega), key1 n f (i + 1) (by omega) (by omega) (by omega) (by omega)]
        rfl
      · rw [if_neg c, if_neg c, lx_p, w32_id (by omega) (by omega)]
        exact ih f (i + 1) (by omega) (by omega) (by omega) (by omega)
  unfold fm_X12_hasCome hasK
  rw [show (pX e r).1 0 = hN e r from rfl]
  exact key _ BIG 0 (by decide) hn.1 (by omega) (BIG_g (by omega))
theorem mr_can (hc : CN e) (r0 : 0 ≤ r) (r1 : r < e.1 7 2) : MR e (pCan r e).2 := by
  unfold pCan
  split
  · exact MR.rf
  · exact mr_arr hc r0 r1
theorem CN.can (hc : CN e) (r0 : 0 ≤ r) : CN (pCan r e).2 := by
  unfold pCan
  split
  · exact hc
  · exact hc.arr r0
theorem RXE.can (h : RXE m e) (hc : CN e) (hl : RLw e) (hf : RFw (pCan r e).2) (r0 : 0 ≤ r) (r1 : r < e.1 7 2) (hd : ¬ Dead e r) : ∃ m', fm_X12_cancels r m = some ((pCan r e).1, m') ∧ RXE m' (pCan r e).2 ∧ SCR m m' := by
  have hn := (hf.bk (mr_can hc r0 r1)).2.2.2 r r0 r1
  unfold fm_X12_cancels
  rw [bp_t (rHas h hc r0 r1 ⟨hl.2.2.2 r r0 r1, hn⟩)]
  by_cases c : hasK (pX e r) 7 = true
  · have e1 : pCan r e = (0, e) := if_pos c
    rw [if_pos c, if_neg (show ¬ (1 : Int) = 0 by decide), e1]
    unfold fj_X12_cancels_15
    rw [if_pos (show (0 : Int) = 0 from rfl), gd_t (Or.inl rfl)]
    exact ⟨m, rfl, h, SCR.rf⟩
  · have e1 : pCan r e = (1, pArr r 7 0 0 e) := if_neg c
    rw [e1] at hf
    rw [if_neg c, if_pos (show (0 : Int) = 0 from rfl), e1]
    obtain ⟨m', g1, g2, g3⟩ := h.arr2 hc hl hf r0 r1 hd (by decide) (by decide) (by decide) (by decide) (by decide) (by decide)
    unfold fj_X12_cancels_15
    rw [if_neg (show ¬ (1 : Int) = 0 by decide), bd_t g1, gd_t (Or.inr rfl)]
    exact ⟨m', rfl, g2, g3⟩
theorem x_cancel (h : RXE m e) (hc : CN e) (hl : RLw e) (hf : RFw (pcCancel p1 e).2) : OKr (fm_X12_cancel p1 m) cdS (pcCancel p1 e) := by
  have h0 := h.th (q := 0) hc
  have no : ∀ (q : Int) (n : Nat), 0 < q → cdS n = q → OKr (fj_X12_cancel_28 p1 q m) cdS (rT n e) := fun q n hq hn => by
    unfold fj_X12_cancel_28
    rw [bd_t fails_e, if_pos hq, if_neg (show ¬ (1 : Int) = 0 by decide)]
    exact OKr.no h hc hn
  unfold fm_X12_cancel
  unfold pcCancel at hf ⊢
  rw [bp_t (rIsR h hc)]
  by_cases c1 : 0 ≤ p1 ∧ p1 < e.1 7 2
  · rw [if_pos c1, if_neg (show ¬ (1 : Int) = 0 by decide), if_pos c1, bp_t (rAlive h hc c1.1 c1.2)]
    rw [if_pos c1] at hf
    by_cases c4 : e.1 (7000 + p1) 6 = 0 ∨ e.1 (7000 + p1) 6 = 6
    · rw [if_pos c4] at hf
      rw [if_pos c4, if_neg (show ¬ (1 : Int) = 0 by decide), if_pos c4]
      obtain ⟨m', g1, g2, g3⟩ := h0.can hc hl hf c1.1 c1.2 (nDead c4)
      unfold fj_X12_cancel_28
      rw [bd_t fails_e, if_neg (show ¬ (0 : Int) < 0 by decide), if_pos (show (0 : Int) = 0 from rfl), bd_t g1, gd_t can_01]
      exact OKr.fin g2 (by rw [g3.2 _ (by decide)]; exact ms_e)
    · rw [if_neg c4, if_pos (show (0 : Int) = 0 from rfl), if_neg c4]
      exact no 2 2 (by decide) rfl
  · rw [if_neg c1, if_pos (show (0 : Int) = 0 from rfl), if_neg c1]
    exact no 1 0 (by decide) rfl
theorem x_event (h : RXE m e) (hc : CN e) (hn : ∀ i : Int, 0 ≤ i → i < e.1 7 2 → 0 ≤ hN e i ∧ hN e i < 524288) : OKr (fm_X12_event p1 p2 m) cd1 (pcEvent p1 p2 e) := by
  have h0 := h.th (q := 0) hc
  have no : OKr (fj_X12_event_29 p1 p2 0 m) cd1 (rT 0 e) := by
    unfold fj_X12_event_29 fj_X12_event_40
    rw [if_pos (show (0 : Int) = 0 from rfl), bd_t fails_e, if_pos (show (0 : Int) < 1 by decide), if_neg (show ¬ (1 : Int) = 0 by decide)]
    exact OKr.no h hc rfl
  unfold fm_X12_event pcEvent
  rw [bp_t (rIsR h hc)]
  by_cases c1 : 0 ≤ p1 ∧ p1 < e.1 7 2
  · have n7 := hc.1
    have hn1 := hn p1 c1.1 c1.2
    have k86 := (h.pr.1 p1 c1.1 c1.2).2.1.1
    rw [if_pos c1, if_neg (show ¬ (1 : Int) = 0 by decide), if_pos c1, gd_t (by omega), lx_p, k86, w32_id (by omega) (by omega), bp_t isIn_e]
    by_cases c2 : 0 ≤ p2 ∧ p2 < hN e p1
    · obtain ⟨b1, b2, b3⟩ := h0.kb c1.1 c1.2 c2.1 c2.2
      rw [if_pos (show 0 ≤ p2 ∧ p2 ≤ hN e p1 - 1 by omega), if_neg (show ¬ (1 : Int) = 0 by decide), if_pos c2]
      unfold fj_X12_event_29 fj_X12_event_40
      rw [if_neg (show ¬ (1 : Int) = 0 by decide), bd_t fails_e, if_neg (show ¬ (0 : Int) < 0 by decide), if_pos (show (0 : Int) = 0 from rfl), bp_t (h0.kd c1.1 c1.2 c2.1 c2.2), bp_t (h0.xx c1.1 c1.2 c2.1 c2.2), bp_t (h0.yy c1.1 c1.2 c2.1 c2.2), w32_id (z := 1000000 * ek (eH e p1 p2)) (by omega) (by omega), w32_id (z := 1000 * ex (eH e p1 p2)) (by omega) (by omega), w32_id (z := 1000000 * ek (eH e p1 p2) + 1000 * ex (eH e p1 p2)) (by omega) (by omega), w32_id (by omega) (by omega)]
      exact OKr.fin h0 ms_e
    · rw [if_neg (show ¬ (0 ≤ p2 ∧ p2 ≤ hN e p1 - 1) by omega), if_pos (show (0 : Int) = 0 from rfl), if_neg c2]
      exact no
  · rw [if_neg c1, if_pos (show (0 : Int) = 0 from rfl), if_neg c1]
    exact no
theorem x_difference (h : RXE m e) (hc : CN e) : OKr (fm_X12_difference p1 m) cdS (pcDifference p1 e) := by
  have h0 := h.th (q := 0) hc
  have no : ∀ (q : Int) (n : Nat), 0 < q → cdS n = q → OKr (fj_X12_difference_31 p1 q m) cdS (rT n e) := fun q n hq hn => by
    unfold fj_X12_difference_31
    rw [bd_t fails_e, if_pos hq, if_neg (show ¬ (1 : Int) = 0 by decide)]
    exact OKr.no h hc hn
  unfold fm_X12_difference pcDifference
  rw [bp_t (rIsR h hc)]
  by_cases c1 : 0 ≤ p1 ∧ p1 < e.1 7 2
  · have n7 := hc.1
    have k83 := (h.pr.1 p1 c1.1 c1.2).1.2.2.2.1
    rw [if_pos c1, if_neg (show ¬ (1 : Int) = 0 by decide), if_pos c1, gd_t (by omega), lx_p, k83]
    by_cases c6 : e.1 (7000 + p1) 6 = 6
    · have k94 := (h0.pr.1 p1 c1.1 c1.2).2.2.2.2.1 c6
      rw [if_pos c6, if_pos c6]
      unfold fj_X12_difference_31
      rw [bd_t fails_e, if_neg (show ¬ (0 : Int) < 0 by decide), if_pos (show (0 : Int) = 0 from rfl), gd_t (by omega), lx_p, k94]
      exact OKr.fin h0 ms_e
    · rw [if_neg c6, if_neg c6]
      exact no 2 2 (by decide) rfl
  · rw [if_neg c1, if_pos (show (0 : Int) = 0 from rfl), if_neg c1]
    exact no 1 0 (by decide) rfl
end RXC5
