/-! THE REFERENCE'S CALLS: complete. -/
section RXK6
variable {m m' M : MM} {e e' e2 : ES} {a b c i j k o r v w p t s x y n ev due q A B st res tel dep d to nm fr N base p1 g : Int} {l : List Int} {S T : TS} {X : CX}
/-- fields elsewhere, then puts: the other way round -/
theorem pnl_cm (h1 : a ≠ 68) (h2 : a ≠ 3) (h3 : a ≠ 76000 + r) (h4 : a ≠ 71000 + r) : ∀ (L : List (Int × Int × Int)) (e : ES), pPNL r t L (eS e a j v) = eS (pPNL r t L e) a j v := by
  intro L
  induction L with
  | nil => intro e; rfl
  | cons q L ih =>
    intro e
    show pPNL r t L (pPut r q.1 q.2.1 q.2.2 t 0 (eS e a j v)) = _
    rw [put_cm h1 h2 h3 h4, ih]
    rfl
theorem mr_pnl (hr : 0 ≤ r) : ∀ (L : List (Int × Int × Int)) (e : ES), CN e → r < e.1 7 2 → (∀ q ∈ L, 8 ≤ q.1) → MR e (pPNL r t L e) ∧ CN (pPNL r t L e) ∧ (pPNL r t L e).1 7 2 = e.1 7 2 := by
  intro L
  induction L with
  | nil => intro e hc _ _; exact ⟨MR.rf, hc, rfl⟩
  | cons q L ih =>
    intro e hc r1 hq
    have e7 : (pPut r q.1 q.2.1 q.2.2 t 0 e).1 7 2 = e.1 7 2 := put_a (by decide) (by decide) (by omega) (by omega)
    obtain ⟨g1, g2, g3⟩ := ih (pPut r q.1 q.2.1 q.2.2 t 0 e) (hc.put hr) (by omega) (fun z hz => hq z (List.mem_cons_of_mem _ hz))
    exact ⟨(mr_put hc hr r1 (by have := hq q (List.mem_cons_self ..); omega)).tr g1, g2, g3.trans e7⟩
/-- a command is put, where what comes after keeps its bounds -/
theorem RXE.put2 (h : RXE m e) (hc : CN e) (hl : RLw e) (hf : RFw (pPut r k x y (e.1 4 14) 0 e)) (r0 : 0 ≤ r) (r1 : r < e.1 7 2) (hd : ¬ Dead e r) (k0 : 7 < k) (k1 : k ≤ 17) (x0 : 0 ≤ x) (x1 : x < 524288) (y0 : 0 ≤ y) (y1 : y ≤ 999) (hk : k = 17 → hC e r ≤ x) : ∃ m', fm_X12_puts r k x y m = some (hN e r, m') ∧ RXE m' (pPut r k x y (e.1 4 14) 0 e) ∧ SCR m m' ∧ ∀ a j : Int, 97 ≤ a → m' a j = m a j := by
  have n7 := hc.1
  have e7 : (pPut r k x y (e.1 4 14) 0 e).1 7 2 = e.1 7 2 := put_a (by decide) (by decide) (by omega) (by omega)
  have mp := mr_put (k := k) (x := x) (y := y) (t := e.1 4 14) (o := 0) hc r0 r1 k0
  obtain ⟨f1, f2, f3, f4⟩ := hf
  have f5 := f4 r r0 (by omega)
  have f6 := (put_hN (i := r) (j := r) (k := k) (p := x) (q := y) (t := e.1 4 14) (o := 0) (e := e) r0 r0 (by omega)).1
  rw [if_pos rfl] at f6
  obtain ⟨⟨g1, g2, -⟩, -, -⟩ := mp
  obtain ⟨q1, q2, q3, q4⟩ := hl
  have q5 := q4 r r0 r1
  exact h.put (o := 0) hc r0 r1 hd (by omega) (by omega) (by omega) k1 x0 x1 y0 y1 q1 (by omega) (Int.le_refl _) hk
/-- the news are put -/
theorem putsL (r0 : 0 ≤ r) {y1 y3 y5 y7 y8 y9 : Int} (hy3 : y3 = r) {K : MM → Option (Int × MM)} {L0 : List (Int × Int × Int)} (hN0 : ∀ q ∈ L0, (8 ≤ q.1 ∧ q.1 ≤ 16) ∧ (0 ≤ q.2.1 ∧ q.2.1 < 524288) ∧ 0 ≤ q.2.2 ∧ q.2.2 ≤ 999) (hL : L0.length < 65536) : ∀ (L : List (Int × Int × Int)) (f : Nat) (i : Int) (m : MM) (e : ES), RXE m e → CN e → RLw e → e.1 4 14 = t → NwM m L0 → L0.drop i.toNat = L → 0 ≤ i → i ≤ L0.length → RFw (pPNL r t L e) → r < e.1 7 2 → ¬ Dead e r → L.length < f → ∃ m', fl_X12_complete_232 y1 y3 y5 y7 y8 y9 K f i m = K m' ∧ RXE m' (pPNL r t L e) ∧ SCR m m' ∧ ∀ a j : Int, 97 ≤ a → m' a j = m a j := by
  subst hy3
  intro L
  induction L with
  | nil =>
    intro f i m e h hc hl ht hN hd0 i0 i1 hf r1 hd h2
    obtain ⟨f, rfl⟩ : ∃ g, f = g + 1 := ⟨f - 1, by simp at h2; omega⟩
    have hle : L0.length ≤ i.toNat := List.drop_eq_nil_iff.mp hd0
    unfold fl_X12_complete_232
    rw [lx_p, hN.1, if_neg (by omega)]
    exact ⟨m, rfl, h, SCR.rf, fun _ _ _ => rfl⟩
  | cons q L ih =>
    intro f i m e h hc hl ht hN hd0 i0 i1 hf r1 hd h2
    obtain ⟨f, rfl⟩ : ∃ g, f = g + 1 := ⟨f - 1, by simp at h2; omega⟩
    have n7 := hc.1
    have hlt : i.toNat < L0.length := by
      by_cases c : i.toNat < L0.length
      · exact c
      · rw [List.drop_eq_nil_iff.mpr (by omega)] at hd0
        exact absurd hd0 (by simp)
    have hg : L0[i.toNat]? = some q := by
      have := congrArg (fun l => l[0]?) hd0
      simpa using this
    have hq := hN0 q (List.mem_of_getElem? hg)
    obtain ⟨z1, z2⟩ := hN.2 i.toNat q.1 q.2.1 q.2.2 hg
    rw [show ((i.toNat : Nat) : Int) = i by omega] at z1 z2
    have e7 : (pPut y3 q.1 q.2.1 q.2.2 t 0 e).1 7 2 = e.1 7 2 := put_a (by decide) (by decide) (by omega) (by omega)
    have hqL : ∀ z ∈ L, 8 ≤ z.1 := fun z hz => (hN0 z (List.mem_of_mem_drop (i := i.toNat) (by rw [hd0]; exact List.mem_cons_of_mem _ hz))).1.1
    obtain ⟨w1, w2, w3⟩ := mr_pnl (t := t) r0 L (pPut y3 q.1 q.2.1 q.2.2 t 0 e) (hc.put r0) (by omega) hqL
    have mp := mr_put (k := q.1) (x := q.2.1) (y := q.2.2) (t := t) (o := 0) hc r0 r1 (by omega)
    have hf1 : RFw (pPut y3 q.1 q.2.1 q.2.2 (e.1 4 14) 0 e) := by rw [ht]; exact (show RFw (pPNL y3 t L (pPut y3 q.1 q.2.1 q.2.2 t 0 e)) from hf).bk w1
    obtain ⟨m1, g1, g2, g3, g4⟩ := h.put2 (k := q.1) (x := q.2.1) (y := q.2.2) hc hl hf1 r0 r1 hd (by omega) (by omega) hq.2.1.1 hq.2.1.2 hq.2.2.1 hq.2.2.2 (fun hh => by omega)
    rw [ht] at g2
    obtain ⟨m', u1, u2, u3, u4⟩ := ih f (i + 1) m1 _ g2 (hc.put r0) (mp.2.2 hl) (by rw [put_a (by decide) (by decide) (by omega) (by omega)]; exact ht) (hN.mv g3.s2) (by
      rw [show (i + 1).toNat = i.toNat + 1 by omega, ← List.drop_drop, hd0]
      rfl) (by omega) (by omega) hf (by omega) (put_nd hd r0 r0 (by omega)) (by simp at h2; omega)
    unfold fl_X12_complete_232
    rw [lx_p, hN.1, if_pos (by omega), gd_t (by omega), lx_p, z1, lx_p, z2, show Int.tdiv (1000 * q.1 + q.2.2) 1000 = q.1 by rw [Int.tdiv_eq_ediv_of_nonneg (by omega)]; omega, show Int.tmod (1000 * q.1 + q.2.2) 1000 = q.2.2 by rw [Int.tmod_eq_emod_of_nonneg (by omega)]; omega, w32_id (z := q.1) (by omega) (by omega), bd_t g1, lx_p, w32_id (by omega) (by omega)]
    exact ⟨m', u1, u2, g3.tr u3, fun a j ha => by rw [u4 a j ha, g4 a j ha]⟩
theorem rStale (h : RXE m e) (hc : CN e) (k0 : 0 ≤ k) (k1 : k < e.1 9 2) (hr : 0 ≤ e.1 (9000 + k) 1 ∧ e.1 (9000 + k) 1 < e.1 7 2) (hM : 0 ≤ e.1 (7000 + e.1 (9000 + k) 1) 9 ∧ (0 ≤ hT e (e.1 (9000 + k) 1) ∧ hT e (e.1 (9000 + k) 1) < 1000) ∧ 0 ≤ e.1 (7000 + e.1 (9000 + k) 1) 3 ∧ e.1 (7000 + e.1 (9000 + k) 1) 3 < 4) : ∃ z, fm_X12_isStale k m = some z ∧ (z = 0 ∨ z = 1) ∧ (z = 0 ↔ e.1 (9000 + k) 5 = 0 ∧ e.1 (7000 + e.1 (9000 + k) 1) 6 = 0 ∧ pMark e (e.1 (9000 + k) 1) = e.1 (9000 + k) 4) := by
  have n7 := hc.1
  have n9 := hc.2.2.1
  obtain ⟨k112, k113, k114, k115, ⟨kq, k118, k116, k116b, k117, k117b⟩, k119⟩ := h.pj.1 k k0 k1
  obtain ⟨⟨a1, a2, a3, a4, a5, a6⟩, ⟨b1, b2, b3, b4⟩, b5, b6, -⟩ := h.pr.1 _ hr.1 hr.2
  have hp : pMark e (e.1 (9000 + k) 1) = (e.1 (7000 + e.1 (9000 + k) 1) 9 * 1000 + hT e (e.1 (9000 + k) 1)) * 4 + e.1 (7000 + e.1 (9000 + k) 1) 3 := rfl
  unfold fm_X12_isStale
  rw [gd_t (by omega), lx_p, k113, lx_p, k119]
  by_cases c1 : e.1 (9000 + k) 5 = 0
  · rw [if_pos c1, gd_t (by omega), lx_p, a4]
    by_cases c2 : e.1 (7000 + e.1 (9000 + k) 1) 6 = 0
    · rw [if_pos c2, lx_p, lx_p, b3]
      by_cases c3 : m 116 k = hT e (e.1 (9000 + k) 1)
      · rw [if_pos c3, lx_p, lx_p, a3]
        by_cases c4 : m 117 k = e.1 (7000 + e.1 (9000 + k) 1) 3
        · rw [if_pos c4, lx_p, lx_p, b6]
          by_cases c5 : m 118 k = e.1 (7000 + e.1 (9000 + k) 1) 9
          · rw [if_pos c5]
            exact ⟨0, rfl, Or.inl rfl, fun _ => ⟨c1, c2, by rw [hp, ← kq, c3, c4, c5]⟩, fun _ => rfl⟩
          · rw [if_neg c5]
            exact ⟨1, rfl, Or.inr rfl, fun hh => absurd hh (by decide), fun hh => absurd hh.2.2 (by rw [hp, ← kq]; omega)⟩
        · rw [if_neg c4]
          exact ⟨1, rfl, Or.inr rfl, fun hh => absurd hh (by decide), fun hh => absurd hh.2.2 (by rw [hp, ← kq]; omega)⟩
      · rw [if_neg c3]
        exact ⟨1, rfl, Or.inr rfl, fun hh => absurd hh (by decide), fun hh => absurd hh.2.2 (by rw [hp, ← kq]; omega)⟩
    · rw [if_neg c2]
      exact ⟨1, rfl, Or.inr rfl, fun hh => absurd hh (by decide), fun hh => absurd hh.2.1 c2⟩
  · rw [if_neg c1]
    exact ⟨1, rfl, Or.inr rfl, fun hh => absurd hh (by decide), fun hh => absurd hh.1 c1⟩
theorem rKept (h : RXE m e) (hc : CN e) (w0 : 0 ≤ w) (w1 : w < 3) (r0 : 0 ≤ r) (r1 : r < e.1 7 2) (hM : 0 ≤ e.1 (7000 + r) 9 ∧ (0 ≤ hT e r ∧ hT e r < 1000) ∧ 0 ≤ e.1 (7000 + r) 3 ∧ e.1 (7000 + r) 3 < 4) : fm_X12_hasState w r m = some (pKept r w e) ∧ (pKept r w e = 1 → m 126 (30 * w + r) = e.1 (7000 + r) 15 ∧ m 127 (30 * w + r) = e.1 (7000 + r) 14) := by
  have n7 := hc.1
  obtain ⟨⟨a1, a2, a3, a4, a5, a6⟩, ⟨b1, b2, b3, b4⟩, b5, b6, -⟩ := h.pr.1 r r0 r1
  obtain ⟨kA, kC⟩ := (h.pw w w0 w1).1 r r0 r1
  have hp : pMark e r = (e.1 (7000 + r) 9 * 1000 + hT e r) * 4 + e.1 (7000 + r) 3 := rfl
  have kep : (e.1 (7000 + r) 12 = w ∧ e.1 (7000 + r) 13 = pMark e r) ↔ (0 < m 123 (30 * w + r) ∧ m 123 (30 * w + r) = hT e r ∧ m 124 (30 * w + r) = e.1 (7000 + r) 3 ∧ m 125 (30 * w + r) = e.1 (7000 + r) 9) := by
    constructor
    · rintro ⟨g1, g2⟩
      obtain ⟨c1, c2, c3, c4, c5, -⟩ := kC g1
      rw [hp, c5] at g2
      exact ⟨c1, by omega, by omega, by omega⟩
    · rintro ⟨g1, g2, g3, g4⟩
      by_cases c12 : e.1 (7000 + r) 12 = w
      · obtain ⟨c1, c2, c3, c4, c5, -⟩ := kC c12
        exact ⟨c12, by rw [c5, g2, g3, g4, hp]⟩
      · exact absurd ⟨g2, g4⟩ ((kA g1).2.2 c12)
  have no : ¬ (e.1 (7000 + r) 12 = w ∧ e.1 (7000 + r) 13 = pMark e r) → pKept r w e = 0 := fun hh => if_neg hh
  refine ⟨?_, fun hh => ?_⟩
  · unfold fm_X12_hasState
    rw [w32_id (z := 30 * w) (by omega) (by omega), w32_id (z := 30 * w + r) (by omega) (by omega), lx_p, gd_t (by omega), lx_p]
    by_cases c1 : 0 < m 123 (30 * w + r)
    · rw [if_pos c1, gd_t (by omega), lx_p, b3]
      by_cases c2 : m 123 (30 * w + r) = hT e r
      · rw [if_pos c2, lx_p, lx_p, a3]
        by_cases c3 : m 124 (30 * w + r) = e.1 (7000 + r) 3
        · rw [if_pos c3, lx_p, lx_p, b6]
          by_cases c4 : m 125 (30 * w + r) = e.1 (7000 + r) 9
          · rw [if_pos c4, show pKept r w e = 1 from if_pos (kep.mpr ⟨c1, c2, c3, c4⟩)]
          · rw [if_neg c4, no fun hh => c4 (kep.mp hh).2.2.2]
        · rw [if_neg c3, no fun hh => c3 (kep.mp hh).2.2.1]
      · rw [if_neg c2, no fun hh => c2 (kep.mp hh).2.1]
    · rw [if_neg c1, no fun hh => c1 (kep.mp hh).1]
  · by_cases c : e.1 (7000 + r) 12 = w ∧ e.1 (7000 + r) 13 = pMark e r
    · obtain ⟨-, -, -, -, -, q1, q2⟩ := kC c.1
      exact ⟨q1, q2⟩
    · rw [no c] at hh
      exact absurd hh (by decide)
end RXK6
