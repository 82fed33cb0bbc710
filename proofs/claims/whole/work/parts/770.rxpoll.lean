/-! THE REFERENCE'S CALLS: poll. -/
section RXO1
variable {m m' M : MM} {e e' e2 : ES} {a b c i j k o r v w p t s x y n p1 q A B T : Int} {l : List Int} {P Q : Int → Prop}
/-- what poll has to find: who holds a run; the orders of class and reference agree -/
def HeldI (e : ES) : Prop := (∀ i k : Int, 0 ≤ i → i < e.1 7 2 → 0 ≤ k → k < e.1 9 2 → e.1 (9000 + k) 1 = i → e.1 (9000 + k) 5 = 0 → e.1 4 14 - e.1 (9000 + k) 2 < 5 → e.1 (7000 + i) 10 = k) ∧ ∀ i : Int, 0 ≤ i → i < e.1 7 2 → 0 ≤ e.1 (7000 + i) 10 → e.1 (7000 + i) 10 < e.1 9 2 → e.1 (9000 + e.1 (7000 + i) 10) 1 = i
def pG (e : ES) (i : Int) : Int := e.1 (76000 + i) (newA (pX e i)) / 1000
def OrdI (e : ES) : Prop := ∀ i j : Int, 0 ≤ i → i < e.1 7 2 → 0 ≤ j → j < e.1 7 2 → pWork e i → pWork e j → (pOr e i < pOr e j ↔ pG e i < pG e j)
def TskB (e : ES) : Prop := ∀ k : Int, 0 ≤ k → k < e.1 9 2 → 0 ≤ e.1 (9000 + k) 2 ∧ e.1 (9000 + k) 2 < 1000000
theorem heldL (h : RXE m e) (hc : CN e) (hl : RLw e) (hb : TskB e) : ∀ (n f : Nat) (z k : Int), 0 ≤ k → k ≤ e.1 9 2 → (e.1 9 2 - k).toNat = n → n < f → (z = 0 ∨ z = 1) → ∃ z', fl_X12_isHeld_4 r m f z k = some z' ∧ (z' = 0 ∨ z' = 1) ∧ (z' = 1 ↔ z = 1 ∨ ∃ j : Int, k ≤ j ∧ j < e.1 9 2 ∧ e.1 (9000 + j) 1 = r ∧ e.1 (9000 + j) 5 = 0 ∧ e.1 4 14 - e.1 (9000 + j) 2 < 5) := by
  have n9 := hc.2.2.1
  have e51 : m 68 51 = e.1 9 2 := h.ps.2.2.2.2.2.2.1
  have e0 := h.ps.1
  have ht := hl.1
  intro n
  induction n with
  | zero =>
    intro f z k k0 k1 h1 h2 hz
    obtain ⟨f, rfl⟩ : ∃ g, f = g + 1 := ⟨f - 1, by omega⟩
    unfold fl_X12_isHeld_4
    rw [lx_p, e51, if_neg (by omega), gd_t hz]
    exact ⟨z, rfl, hz, fun hh => Or.inl hh, fun hh => hh.elim id fun ⟨j, j0, j1, _⟩ => by omega⟩
  | succ n ih =>
    intro f z k k0 k1 h1 h2 hz
    obtain ⟨f, rfl⟩ : ∃ g, f = g + 1 := ⟨f - 1, by omega⟩
    have hk : k < e.1 9 2 := by omega
    obtain ⟨k112, k113, k114, k115, -, k119⟩ := h.pj.1 k k0 hk
    have bk := hb k k0 hk
    have on : ∀ z1 : Int, (z1 = 0 ∨ z1 = 1) → (z1 = 1 ↔ z = 1 ∨ (e.1 (9000 + k) 1 = r ∧ e.1 (9000 + k) 5 = 0 ∧ e.1 4 14 - e.1 (9000 + k) 2 < 5)) → ∃ z', fl_X12_isHeld_4 r m f z1 (k + 1) = some z' ∧ (z' = 0 ∨ z' = 1) ∧ (z' = 1 ↔ z = 1 ∨ ∃ j : Int, k ≤ j ∧ j < e.1 9 2 ∧ e.1 (9000 + j) 1 = r ∧ e.1 (9000 + j) 5 = 0 ∧ e.1 4 14 - e.1 (9000 + j) 2 < 5) := fun z1 q1 q2 => by
      obtain ⟨z', g1, g2, g3⟩ := ih f z1 (k + 1) (by omega) (by omega) (by omega) (by omega) q1
      refine ⟨z', g1, g2, g3.trans ?_⟩
      rw [q2]
      constructor
      · rintro ((hh | hh) | ⟨j, j0, j1, j2⟩)
        · exact Or.inl hh
        · exact Or.inr ⟨k, Int.le_refl _, hk, hh⟩
        · exact Or.inr ⟨j, by omega, j1, j2⟩
      · rintro (hh | ⟨j, j0, j1, j2⟩)
        · exact Or.inl (Or.inl hh)
        · by_cases cj : j = k
          · rw [cj] at j2; exact Or.inl (Or.inr j2)
          · exact Or.inr ⟨j, by omega, j1, j2⟩
    unfold fl_X12_isHeld_4
    rw [lx_p, e51, if_pos hk]
    by_cases c1 : z = 0
    · rw [if_pos c1, gd_t (by omega), lx_p, k113]
      by_cases c2 : e.1 (9000 + k) 1 = r
      · rw [if_pos c2, lx_p, k119]
        by_cases c3 : e.1 (9000 + k) 5 = 0
        · rw [if_pos c3, lx_p, e0, lx_p, k115, w32_id (by omega) (by omega)]
          by_cases c4 : e.1 4 14 - e.1 (9000 + k) 2 < 5
          · rw [if_pos c4, lx_p, w32_id (by omega) (by omega)]
            exact on 1 (Or.inr rfl) ⟨fun _ => Or.inr ⟨c2, c3, c4⟩, fun _ => rfl⟩
          · rw [if_neg c4, lx_p, w32_id (by omega) (by omega)]
            exact on 0 (Or.inl rfl) ⟨fun hh => absurd hh (by decide), fun hh => hh.elim (fun g => by omega) fun g => absurd g.2.2 c4⟩
        · rw [if_neg c3, lx_p, w32_id (by omega) (by omega)]
          exact on 0 (Or.inl rfl) ⟨fun hh => absurd hh (by decide), fun hh => hh.elim (fun g => by omega) fun g => absurd g.2.1 c3⟩
      · rw [if_neg c2, lx_p, w32_id (by omega) (by omega)]
        exact on 0 (Or.inl rfl) ⟨fun hh => absurd hh (by decide), fun hh => hh.elim (fun g => by omega) fun g => absurd g.1 c2⟩
    · rw [if_neg c1, lx_p, w32_id (by omega) (by omega)]
      exact on 1 (Or.inr rfl) ⟨fun _ => Or.inl (by omega), fun _ => rfl⟩
theorem rHeld (h : RXE m e) (hc : CN e) (hl : RLw e) (hb : TskB e) (hH : HeldI e) (r0 : 0 ≤ r) (r1 : r < e.1 7 2) : fm_X12_isHeld r m = some (if pHeld e r then 1 else 0) := by
  have n9 := hc.2.2.1
  obtain ⟨z', g1, g2, g3⟩ := heldL (r := r) h hc hl hb (e.1 9 2 - 0).toNat BIG 0 0 (by decide) n9.1 rfl (BIG_g (by omega)) (Or.inl rfl)
  unfold fm_X12_isHeld
  rw [g1]
  by_cases c : pHeld e r
  · rw [if_pos c]
    have : z' = 1 := g3.mpr (Or.inr ⟨e.1 (7000 + r) 10, c.1.1, c.1.2, hH.2 r r0 r1 c.1.1 c.1.2, c.2.1, c.2.2⟩)
    rw [this]
  · rw [if_neg c]
    have : z' ≠ 1 := fun hh => by
      rcases g3.mp hh with g | ⟨j, j0, j1, j2, j3, j4⟩
      · exact absurd g (by decide)
      · have := hH.1 r j r0 r1 j0 j1 j2 j3 j4
        exact c ⟨by omega, by rw [this]; exact j3, by rw [this]; exact j4⟩
    rw [show z' = 0 by omega]
/-- a run can be given -/
def Rdy (e : ES) (i : Int) : Prop := pWork e i ∧ ¬ pHeld e i
theorem rReady (h : RXE m e) (hc : CN e) (hl : RLw e) (hb : TskB e) (hH : HeldI e) (r0 : 0 ≤ r) (r1 : r < e.1 7 2) : ∃ z, fm_X12_isReady r m = some z ∧ (z = 0 ∨ z = 1) ∧ (z = 1 ↔ Rdy e r) := by
  have n7 := hc.1
  have kr := h.pr.1 r r0 r1
  unfold fm_X12_isReady
  rw [gd_t (by omega), lx_p, kr.1.2.2.2.1]
  by_cases c1 : e.1 (7000 + r) 6 = 0
  · rw [if_pos c1, lx_p, kr.2.1.2.1, lx_p, kr.2.1.2.2.2]
    by_cases c2 : hC e r < hA e r
    · rw [if_pos c2, bp_t (rHeld h hc hl hb hH r0 r1)]
      by_cases c3 : pHeld e r
      · rw [if_pos c3, if_neg (show ¬ (1 : Int) = 0 by decide)]
        exact ⟨0, rfl, Or.inl rfl, fun hh => absurd hh (by decide), fun hh => absurd c3 hh.2⟩
      · rw [if_neg c3, if_pos (show (0 : Int) = 0 from rfl)]
        exact ⟨1, rfl, Or.inr rfl, fun _ => ⟨⟨c1, c2⟩, c3⟩, fun _ => rfl⟩
    · rw [if_neg c2]
      exact ⟨0, rfl, Or.inl rfl, fun hh => absurd hh (by decide), fun hh => absurd hh.1.2 c2⟩
  · rw [if_neg c1]
    exact ⟨0, rfl, Or.inl rfl, fun hh => absurd hh (by decide), fun hh => absurd hh.1.1 c1⟩
/-- when the first arrival without TASK came, by the reference -/
theorem fstL {K : Int → Option Int} (h : RXE m e) (hc : CN e) (r0 : 0 ≤ r) (r1 : r < e.1 7 2) (hn : 0 ≤ hN e r ∧ hN e r < 524288) (hC0 : 0 ≤ hC e r) (hw : hC e r < hA e r) : ∀ (n f : Nat) (i : Int), 0 ≤ i → i ≤ hN e r → hN e r - i < n → n ≤ f → cA (eH e r) i.toNat ≤ hC e r → fl_X12_firstOrder_9 r m K f (hC e r - cA (eH e r) i.toNat) i = K (xNew (pX e r) n (cA (eH e r) i.toNat) i) ∧ xNew (pX e r) n (cA (eH e r) i.toNat) i < hN e r := by
  have n7 := hc.1
  intro n
  induction n with
  | zero => intro f i i0 i1 h1; omega
  | succ n ih =>
    intro f i i0 i1 h1 h2 hle
    obtain ⟨f, rfl⟩ : ∃ g, f = g + 1 := ⟨f - 1, by omega⟩
    have bA := cA_b (E := eH e r) i.toNat
    have hi : i < hN e r := by
      by_cases c : i < hN e r
      · exact c
      · have : i = hN e r := by omega
        rw [this] at hle
        have : cA (eH e r) (hN e r).toNat = hA e r := rfl
        omega
    have e1 : (i + 1).toNat = i.toNat + 1 := by omega
    have ei : ((i.toNat : Nat) : Int) = i := by omega
    have hx : xNew (pX e r) (n + 1) (cA (eH e r) i.toNat) i = if 7 < ek (eH e r i) then xNew (pX e r) n (cA (eH e r) i.toNat) (i + 1) else if cA (eH e r) i.toNat < hC e r then xNew (pX e r) n (cA (eH e r) i.toNat + 1) (i + 1) else i := by
      show (if i < hN e r then _ else _) = _
      rw [if_pos hi]
      rfl
    rw [hx]
    unfold fl_X12_firstOrder_9
    rw [bp_t (h.kd r0 r1 i0 hi)]
    by_cases c1 : 7 < ek (eH e r i)
    · rw [if_pos c1, if_pos c1]
      unfold fj_X12_firstOrder_24
      rw [bp_t (h.kd r0 r1 i0 hi), if_pos c1, lx_p, lx_p, w32_id (z := hC e r - cA (eH e r) i.toNat - 0) (by omega) (by have := cA_b (E := eH e r) (hN e r).toNat; have : cA (eH e r) (hN e r).toNat = hA e r := rfl; omega), w32_id (z := i + 1) (by omega) (by omega), show hC e r - cA (eH e r) i.toNat - 0 = hC e r - cA (eH e r) i.toNat by omega]
      have eA : cA (eH e r) (i + 1).toNat = cA (eH e r) i.toNat := by rw [e1, cA_s, ei, if_neg (by omega)]
      have := ih f (i + 1) (by omega) (by omega) (by omega) (by omega) (by rw [eA]; exact hle)
      rw [eA] at this
      exact this
    · rw [if_neg c1, if_neg c1]
      by_cases c2 : cA (eH e r) i.toNat < hC e r
      · rw [if_pos (show 0 < hC e r - cA (eH e r) i.toNat by omega), if_pos c2]
        unfold fj_X12_firstOrder_24
        rw [bp_t (h.kd r0 r1 i0 hi), if_neg c1, lx_p, lx_p, w32_id (z := hC e r - cA (eH e r) i.toNat - 1) (by omega) (by have := cA_b (E := eH e r) (hN e r).toNat; have : cA (eH e r) (hN e r).toNat = hA e r := rfl; omega), w32_id (z := i + 1) (by omega) (by omega)]
        have eA : cA (eH e r) (i + 1).toNat = cA (eH e r) i.toNat + 1 := by rw [e1, cA_s, ei, if_pos (by omega)]
        have := ih f (i + 1) (by omega) (by omega) (by omega) (by omega) (by rw [eA]; omega)
        rw [eA, show hC e r - (cA (eH e r) i.toNat + 1) = hC e r - cA (eH e r) i.toNat - 1 by omega] at this
        exact this
      · rw [if_neg (show ¬ 0 < hC e r - cA (eH e r) i.toNat by omega), if_neg c2]
        exact ⟨rfl, hi⟩
theorem rFst (h : RXE m e) (hc : CN e) (r0 : 0 ≤ r) (r1 : r < e.1 7 2) (hn : 0 ≤ hN e r ∧ hN e r < 524288) (hC0 : 0 ≤ hC e r) (hw : hC e r < hA e r) : fm_X12_firstOrder r m = some (pG e r) := by
  have n7 := hc.1
  obtain ⟨g1, g2⟩ := fstL (K := fun x_96 => bp (fm_X12_whenAt r x_96 m) fun x_110 => some (w32 (Int.tdiv x_110 1000))) h hc r0 r1 hn hC0 hw ((hN e r).toNat + 1) BIG 0 (by decide) hn.1 (by omega) (Nat.le_of_lt (BIG_g (by omega))) hC0
  have hz : cA (eH e r) (0 : Int).toNat = 0 := rfl
  rw [hz, Int.sub_zero] at g1
  have eN : xNew (pX e r) ((hN e r).toNat + 1) 0 0 = newA (pX e r) := rfl
  rw [hz] at g2
  rw [eN] at g1 g2
  have p0 := (newA_s hn.1 hC0).1.1
  have kw := h.wn r0 r1 p0 g2
  obtain ⟨A, -, -, -, q4, -, -, -, -, q9, -⟩ := h.ph r r0 r1 _ p0 g2
  unfold fm_X12_firstOrder
  rw [gd_t (by omega), lx_p, (h.pr.1 r r0 r1).2.1.2.2.2, g1, bp_t kw, show Int.tdiv (e.1 (76000 + r) (newA (pX e r))) 1000 = e.1 (76000 + r) (newA (pX e r)) / 1000 from Int.tdiv_eq_ediv_of_nonneg q4, w32_id (by omega) (by omega)]
  rfl
/-- the best of some tenants: fewest given, then least -/
def Bst (e : ES) (P : Int → Prop) (w : Int) : Prop := (w = -1 ∧ ∀ t : Int, 0 ≤ t → t < 3 → ¬ P t) ∨ ((0 ≤ w ∧ w < 3) ∧ P w ∧ ∀ t : Int, 0 ≤ t → t < 3 → P t → e.1 12 w < e.1 12 t ∨ (e.1 12 w = e.1 12 t ∧ w ≤ t))
theorem Bst.un {w' : Int} (h : Bst e P w) (g : Bst e P w') : w = w' := by
  rcases h with ⟨h1, h2⟩ | ⟨h1, h2, h3⟩
  · rcases g with ⟨g1, g2⟩ | ⟨g1, g2, g3⟩
    · omega
    · exact absurd g2 (h2 _ g1.1 g1.2)
  · rcases g with ⟨g1, g2⟩ | ⟨g1, g2, g3⟩
    · exact absurd h2 (g2 _ h1.1 h1.2)
    · have a := h3 _ g1.1 g1.2 g2
      have b := g3 _ h1.1 h1.2 h2
      omega
theorem Bst.iff {w : Int} (h : Bst e P w) (hPQ : ∀ t : Int, 0 ≤ t → t < 3 → (P t ↔ Q t)) : Bst e Q w := by
  rcases h with ⟨h1, h2⟩ | ⟨h1, h2, h3⟩
  · exact Or.inl ⟨h1, fun t t0 t1 hh => h2 t t0 t1 ((hPQ t t0 t1).mpr hh)⟩
  · exact Or.inr ⟨h1, (hPQ w h1.1 h1.2).mp h2, fun t t0 t1 hh => h3 t t0 t1 ((hPQ t t0 t1).mpr hh)⟩
/-- one more tenant -/
theorem Bst.add {w : Int} (h : Bst e P w) (t0 : 0 ≤ t) (t1 : t < 3) (hQ : ∀ u : Int, 0 ≤ u → u < 3 → (Q u ↔ P u ∨ u = t)) : Bst e Q (if w = -1 ∨ e.1 12 t < e.1 12 w ∨ (e.1 12 t = e.1 12 w ∧ t < w) then t else w) := by
  rcases h with ⟨h1, h2⟩ | ⟨h1, h2, h3⟩
  · rw [if_pos (Or.inl h1)]
    refine Or.inr ⟨⟨t0, t1⟩, (hQ t t0 t1).mpr (Or.inr rfl), fun u u0 u1 hu => ?_⟩
    rcases (hQ u u0 u1).mp hu with g | g
    · exact absurd g (h2 u u0 u1)
    · rw [g]; exact Or.inr ⟨rfl, Int.le_refl _⟩
  · by_cases c : w = -1 ∨ e.1 12 t < e.1 12 w ∨ (e.1 12 t = e.1 12 w ∧ t < w)
    · rw [if_pos c]
      refine Or.inr ⟨⟨t0, t1⟩, (hQ t t0 t1).mpr (Or.inr rfl), fun u u0 u1 hu => ?_⟩
      rcases (hQ u u0 u1).mp hu with g | g
      · have := h3 u u0 u1 g; omega
      · rw [g]; exact Or.inr ⟨rfl, Int.le_refl _⟩
    · rw [if_neg c]
      refine Or.inr ⟨h1, (hQ w h1.1 h1.2).mpr (Or.inl h2), fun u u0 u1 hu => ?_⟩
      rcases (hQ u u0 u1).mp hu with g | g
      · exact h3 u u0 u1 g
      · rw [g]; omega
/-- tenants with a run below k that can be given -/
def TnK (e : ES) (k t : Int) : Prop := e.1 13 t < e.1 4 13 ∧ ∃ i : Int, 0 ≤ i ∧ i < k ∧ e.1 (7000 + i) 2 = t ∧ Rdy e i
theorem whoL {K : Int → Option (Int × MM)} (h : RXE m e) (hc : CN e) (hl : RLw e) (hb : TskB e) (hH : HeldI e) (hTn : ∀ i : Int, 0 ≤ i → i < e.1 7 2 → 0 ≤ e.1 (7000 + i) 2 ∧ e.1 (7000 + i) 2 < 3) : ∀ (n f : Nat) (w k : Int), 0 ≤ k → k ≤ e.1 7 2 → (e.1 7 2 - k).toNat = n → n < f → Bst e (TnK e k) w → ∃ w', fl_X12_poll_25 p1 m K f w k = K w' ∧ Bst e (TnK e (e.1 7 2)) w' := by
  have n7 := hc.1
  have e12 : m 68 12 = e.1 7 2 := h.ps.2.1
  have e50 : m 68 50 = e.1 4 13 := h.ps.2.2.2.2.2.1
  intro n
  induction n with
  | zero =>
    intro f w k k0 k1 h1 h2 hB
    obtain ⟨f, rfl⟩ : ∃ g, f = g + 1 := ⟨f - 1, by omega⟩
    unfold fl_X12_poll_25
    rw [lx_p, e12, if_neg (by omega)]
    rw [show k = e.1 7 2 by omega] at hB
    exact ⟨w, rfl, hB⟩
  | succ n ih =>
    intro f w k k0 k1 h1 h2 hB
    obtain ⟨f, rfl⟩ : ∃ g, f = g + 1 := ⟨f - 1, by omega⟩
    have hk : k < e.1 7 2 := by omega
    have k81 := (h.pr.1 k k0 hk).1.2.1
    have tn := hTn k k0 hk
    obtain ⟨k122, k121, k120⟩ := h.pj.2.2 _ tn.1 tn.2
    -- nothing new
    have same : ¬ (e.1 13 (e.1 (7000 + k) 2) < e.1 4 13 ∧ Rdy e k) → ∃ w', fj_X12_poll_68 (fl_X12_poll_25 p1 m K f) K p1 w k (e.1 (7000 + k) 2) 0 m = K w' ∧ Bst e (TnK e (e.1 7 2)) w' := fun hh => by
      unfold fj_X12_poll_68 fj_X12_poll_123
      rw [if_pos (show (0 : Int) = 0 from rfl), if_pos (show (0 : Int) = 0 from rfl), lx_p, w32_id (by omega) (by omega)]
      refine ih f w (k + 1) (by omega) (by omega) (by omega) (by omega) (hB.iff fun t t0 t1 => ⟨fun ⟨g1, i, i0, i1, i2⟩ => ⟨g1, i, i0, by omega, i2⟩, fun ⟨g1, i, i0, i1, i2, i3⟩ => ⟨g1, i, i0, ?_, i2, i3⟩⟩)
      by_cases ci : i = k
      · rw [ci] at i2 i3
        rw [← i2] at g1
        exact absurd ⟨g1, i3⟩ hh
      · omega
    unfold fl_X12_poll_25
    rw [lx_p, e12, if_pos hk, gd_t (by omega), lx_p, k81, gd_t tn, lx_p, k120, lx_p, e50]
    by_cases c1 : e.1 13 (e.1 (7000 + k) 2) < e.1 4 13
    · obtain ⟨z, z1, z2, z3⟩ := rReady h hc hl hb hH k0 hk
      rw [if_pos c1, bp_t z1]
      by_cases c2 : Rdy e k
      · rw [show z = 1 from z3.mpr c2, if_neg (show ¬ (1 : Int) = 0 by decide)]
        have hA' := hB.add (t := e.1 (7000 + k) 2) (Q := TnK e (k + 1)) tn.1 tn.2 (fun u u0 u1 => ⟨fun ⟨g1, i, i0, i1, i2, i3⟩ => by
          by_cases ci : i = k
          · right; rw [← i2, ci]
          · exact Or.inl ⟨g1, i, i0, by omega, i2, i3⟩, fun hh => hh.elim (fun ⟨g1, i, i0, i1, i2⟩ => ⟨g1, i, i0, by omega, i2⟩) (fun g => by rw [g]; exact ⟨c1, k, k0, by omega, rfl, c2⟩)⟩)
        have go1 : (w = -1 ∨ e.1 12 (e.1 (7000 + k) 2) < e.1 12 w ∨ (e.1 12 (e.1 (7000 + k) 2) = e.1 12 w ∧ e.1 (7000 + k) 2 < w)) → ∃ w', fj_X12_poll_123 (fl_X12_poll_25 p1 m K f) K p1 w k (e.1 (7000 + k) 2) 1 m = K w' ∧ Bst e (TnK e (e.1 7 2)) w' := fun hh => by
          rw [if_pos hh] at hA'
          unfold fj_X12_poll_123
          rw [if_neg (show ¬ (1 : Int) = 0 by decide), lx_p, w32_id (by omega) (by omega)]
          exact ih f _ (k + 1) (by omega) (by omega) (by omega) (by omega) hA'
        have go0 : ¬ (w = -1 ∨ e.1 12 (e.1 (7000 + k) 2) < e.1 12 w ∨ (e.1 12 (e.1 (7000 + k) 2) = e.1 12 w ∧ e.1 (7000 + k) 2 < w)) → ∃ w', fj_X12_poll_123 (fl_X12_poll_25 p1 m K f) K p1 w k (e.1 (7000 + k) 2) 0 m = K w' ∧ Bst e (TnK e (e.1 7 2)) w' := fun hh => by
          rw [if_neg hh] at hA'
          unfold fj_X12_poll_123
          rw [if_pos (show (0 : Int) = 0 from rfl), lx_p, w32_id (by omega) (by omega)]
          exact ih f _ (k + 1) (by omega) (by omega) (by omega) (by omega) hA'
        unfold fj_X12_poll_68
        rw [if_neg (show ¬ (1 : Int) = 0 by decide)]
        by_cases c3 : w = -1
        · rw [if_pos c3]
          exact go1 (Or.inl c3)
        · have w03 : 0 ≤ w ∧ w < 3 := by
            rcases hB with ⟨h1, -⟩ | ⟨h1, -⟩
            · exact absurd h1 c3
            · exact h1
          have k121w := (h.pj.2.2 w w03.1 w03.2).2.1
          rw [if_neg c3, gd_t tn, lx_p, k121, gd_t w03, lx_p, k121w]
          by_cases c4 : e.1 12 (e.1 (7000 + k) 2) < e.1 12 w
          · rw [if_pos c4]
            exact go1 (Or.inr (Or.inl c4))
          · rw [if_neg c4]
            by_cases c5 : e.1 12 (e.1 (7000 + k) 2) = e.1 12 w
            · rw [if_pos c5]
              by_cases c6 : e.1 (7000 + k) 2 < w
              · rw [if_pos c6]
                exact go1 (Or.inr (Or.inr ⟨c5, c6⟩))
              · rw [if_neg c6]
                exact go0 (by omega)
            · rw [if_neg c5]
              exact go0 (by omega)
      · rw [show z = 0 from z2.elim id fun g => absurd (z3.mp g) c2, if_pos (show (0 : Int) = 0 from rfl)]
        exact same fun hh => c2 hh.2
    · rw [if_neg c1]
      exact same fun hh => c1 hh.1
/-- the best run of a tenant: what it is; the reference's loop comes to the same -/
theorem fFw_s : ∀ (n : Nat) (b i : Int), 0 ≤ i → e.1 7 2 < i + n → (b = -1 ∨ (0 ≤ b ∧ b < e.1 7 2 ∧ e.1 (7000 + b) 2 = t ∧ Rdy e b)) → (fFw e t n b i = -1 ∨ (0 ≤ fFw e t n b i ∧ fFw e t n b i < e.1 7 2 ∧ e.1 (7000 + fFw e t n b i) 2 = t ∧ Rdy e (fFw e t n b i))) ∧ (0 ≤ fFw e t n b i ↔ 0 ≤ b ∨ ∃ j : Int, i ≤ j ∧ j < e.1 7 2 ∧ e.1 (7000 + j) 2 = t ∧ Rdy e j) := by
  intro n
  induction n with
  | zero => intro b i i0 i1 hb; exact ⟨hb, fun hh => Or.inl hh, fun hh => hh.elim id fun ⟨j, j0, j1, _⟩ => by omega⟩
  | succ n ih =>
    intro b i i0 i1 hb
    unfold fFw
    by_cases c : i < e.1 7 2
    · rw [if_pos c]
      by_cases c2 : e.1 (7000 + i) 2 = t ∧ pWork e i ∧ ¬ pHeld e i ∧ (b < 0 ∨ pOr e i < pOr e b)
      · rw [if_pos c2]
        obtain ⟨g1, g2⟩ := ih i (i + 1) (by omega) (by omega) (Or.inr ⟨i0, c, c2.1, c2.2.1, c2.2.2.1⟩)
        exact ⟨g1, fun _ => Or.inr ⟨i, Int.le_refl _, c, c2.1, c2.2.1, c2.2.2.1⟩, fun _ => g2.mpr (Or.inl i0)⟩
      · rw [if_neg c2]
        obtain ⟨g1, g2⟩ := ih b (i + 1) (by omega) (by omega) hb
        refine ⟨g1, fun hh => ?_, fun hh => ?_⟩
        · rcases g2.mp hh with g | ⟨j, j0, j1, j2⟩
          · exact Or.inl g
          · exact Or.inr ⟨j, by omega, j1, j2⟩
        · rcases hh with g | ⟨j, j0, j1, j2, j3⟩
          · exact g2.mpr (Or.inl g)
          · by_cases cj : j = i
            · rw [cj] at j2 j3
              by_cases cb : b < 0
              · exact absurd ⟨j2, j3.1, j3.2, Or.inl cb⟩ c2
              · exact g2.mpr (Or.inl (by omega))
            · exact g2.mpr (Or.inr ⟨j, by omega, j1, j2, j3⟩)
    · rw [if_neg c]
      exact ⟨hb, fun hh => Or.inl hh, fun hh => hh.elim id fun ⟨j, j0, j1, _⟩ => by omega⟩
theorem bstL {K : Int → Option (Int × MM)} (h : RXE m e) (hc : CN e) (hl : RLw e) (hb : TskB e) (hH : HeldI e) (hO : OrdI e) (hn : ∀ i : Int, 0 ≤ i → i < e.1 7 2 → hN e i < 524288 ∧ 0 ≤ hC e i) (t0 : 0 ≤ t) : ∀ (n f : Nat) (b i : Int), 0 ≤ i → e.1 7 2 < i + n → 0 < n → n ≤ f → (b = -1 ∨ (0 ≤ b ∧ b < e.1 7 2 ∧ e.1 (7000 + b) 2 = t ∧ Rdy e b)) → fl_X12_poll_148 p1 t m K f b i = K (fFw e t n b i) := by
  have n7 := hc.1
  have e12 : m 68 12 = e.1 7 2 := h.ps.2.1
  intro n
  induction n with
  | zero => intro f b i i0 i1 hn; omega
  | succ n ih =>
    intro f b i i0 i1 hn0 h2 hB
    obtain ⟨f, rfl⟩ : ∃ g, f = g + 1 := ⟨f - 1, by omega⟩
    unfold fl_X12_poll_148 fFw
    rw [lx_p, e12]
    by_cases c : i < e.1 7 2
    · have k81 := (h.pr.1 i i0 c).1.2.1
      rw [if_pos c, if_neg (show ¬ t = -1 by omega), if_pos c, gd_t (by omega), lx_p, k81]
      have same : ¬ (e.1 (7000 + i) 2 = t ∧ Rdy e i) → fj_X12_poll_187 (fl_X12_poll_148 p1 t m K f) K p1 t b i 0 m = K (fFw e t n (if e.1 (7000 + i) 2 = t ∧ pWork e i ∧ ¬ pHeld e i ∧ (b < 0 ∨ pOr e i < pOr e b) then i else b) (i + 1)) := fun hh => by
        unfold fj_X12_poll_187
        rw [if_pos (show (0 : Int) = 0 from rfl), lx_p, w32_id (by omega) (by omega), if_neg (fun g => hh ⟨g.1, g.2.1, g.2.2.1⟩)]
        exact ih f b (i + 1) (by omega) (by omega) (by omega) (by omega) hB
      by_cases c2 : e.1 (7000 + i) 2 = t
      · obtain ⟨z, z1, z2, z3⟩ := rReady h hc hl hb hH i0 c
        rw [if_pos c2, bp_t z1]
        by_cases c3 : Rdy e i
        · rw [show z = 1 from z3.mpr c3, if_neg (show ¬ (1 : Int) = 0 by decide)]
          have hni := hn i i0 c
          have fi := rFst h hc i0 c ⟨hl.2.2.2 i i0 c, hni.1⟩ hni.2 c3.1.2
          unfold fj_X12_poll_187
          rw [if_neg (show ¬ (1 : Int) = 0 by decide)]
          by_cases c4 : b = -1
          · rw [if_pos c4, lx_p, w32_id (by omega) (by omega), if_pos (show e.1 (7000 + i) 2 = t ∧ pWork e i ∧ ¬ pHeld e i ∧ (b < 0 ∨ pOr e i < pOr e b) from ⟨c2, c3.1, c3.2, Or.inl (by omega)⟩)]
            exact ih f i (i + 1) (by omega) (by omega) (by omega) (by omega) (Or.inr ⟨i0, c, c2, c3⟩)
          · have hB2 : 0 ≤ b ∧ b < e.1 7 2 ∧ e.1 (7000 + b) 2 = t ∧ Rdy e b := hB.elim (fun g => absurd g c4) id
            have hnb := hn b hB2.1 hB2.2.1
            have fb := rFst h hc hB2.1 hB2.2.1 ⟨hl.2.2.2 b hB2.1 hB2.2.1, hnb.1⟩ hnb.2 hB2.2.2.2.1.2
            have ho := hO i b i0 c hB2.1 hB2.2.1 c3.1 hB2.2.2.2.1
            rw [if_neg c4, bp_t fi, bp_t fb]
            by_cases c5 : pG e i < pG e b
            · rw [if_pos c5, lx_p, w32_id (by omega) (by omega), if_pos (show e.1 (7000 + i) 2 = t ∧ pWork e i ∧ ¬ pHeld e i ∧ (b < 0 ∨ pOr e i < pOr e b) from ⟨c2, c3.1, c3.2, Or.inr (ho.mpr c5)⟩)]
              exact ih f i (i + 1) (by omega) (by omega) (by omega) (by omega) (Or.inr ⟨i0, c, c2, c3⟩)
            · rw [if_neg c5, lx_p, w32_id (by omega) (by omega), if_neg (show ¬ (e.1 (7000 + i) 2 = t ∧ pWork e i ∧ ¬ pHeld e i ∧ (b < 0 ∨ pOr e i < pOr e b)) from fun g => g.2.2.2.elim (fun g2 => by omega) fun g2 => c5 (ho.mp g2))]
              exact ih f b (i + 1) (by omega) (by omega) (by omega) (by omega) hB
        · rw [show z = 0 from z2.elim id fun g => absurd (z3.mp g) c3, if_pos (show (0 : Int) = 0 from rfl)]
          exact same fun hh => c3 hh.2
      · rw [if_neg c2]
        exact same fun hh => c2 hh.1
    · rw [if_neg c, if_neg c]
/-- the class's choice is the same one -/
theorem fPo_s (h4 : ∀ t : Int, 0 ≤ t → t < 3 → (TnK e (e.1 7 2) t ↔ 0 ≤ fFw e t 31 (-1) 0 ∧ e.1 13 t < e.1 4 13)) (h5 : ∀ t : Int, fFw e t 31 (-1) 0 = -1 ∨ (0 ≤ fFw e t 31 (-1) 0 ∧ e.1 (7000 + fFw e t 31 (-1) 0) 2 = t)) : ∀ (n : Nat) (b t : Int), 0 ≤ t → t ≤ 3 → 3 < t + n → (∃ w, Bst e (fun u => u < t ∧ TnK e (e.1 7 2) u) w ∧ b = if w = -1 then -1 else fFw e w 31 (-1) 0) → ∃ w, Bst e (TnK e (e.1 7 2)) w ∧ fPo e n b t = if w = -1 then -1 else fFw e w 31 (-1) 0 := by
  intro n
  induction n with
  | zero => intro b t t0 t1 t2; omega
  | succ n ih =>
    rintro b t t0 t1 t2 ⟨w, hB, hb⟩
    unfold fPo
    by_cases c : t < 3
    · rw [if_pos c]
      by_cases c2 : 0 ≤ fFw e t 31 (-1) 0 ∧ e.1 13 t < e.1 4 13
      · have hT := (h4 t t0 c).mpr c2
        have hA := hB.add (t := t) (Q := fun u => u < t + 1 ∧ TnK e (e.1 7 2) u) t0 c (fun u u0 u1 => ⟨fun hh => by
          by_cases cu : u = t
          · exact Or.inr cu
          · exact Or.inl ⟨by omega, hh.2⟩, fun hh => hh.elim (fun g => ⟨by omega, g.2⟩) fun g => by rw [g]; exact ⟨by omega, hT⟩⟩)
        -- w below t, if there is one
        have wt : w = -1 ∨ (0 ≤ w ∧ w < t ∧ b = fFw e w 31 (-1) 0 ∧ 0 ≤ b ∧ e.1 (7000 + b) 2 = w) := by
          rcases hB with ⟨g1, -⟩ | ⟨g1, g2, -⟩
          · exact Or.inl g1
          · right
            rw [if_neg (show ¬ w = -1 by omega)] at hb
            have g3 := (h4 w g1.1 g1.2).mp g2.2
            rcases h5 w with g4 | g4
            · omega
            · exact ⟨g1.1, g2.1, hb, by omega, by rw [hb]; exact g4.2⟩
        by_cases c3 : w = -1 ∨ e.1 12 t < e.1 12 w ∨ (e.1 12 t = e.1 12 w ∧ t < w)
        · rw [if_pos c3] at hA
          rw [if_pos (show 0 ≤ fFw e t 31 (-1) 0 ∧ e.1 13 t < e.1 4 13 ∧ (b < 0 ∨ e.1 12 t < e.1 12 (e.1 (7000 + b) 2)) from ⟨c2.1, c2.2, by
            rcases wt with g | ⟨g1, g2, g3, g4, g5⟩
            · left; rw [hb, if_pos g]; decide
            · right; rw [g5]; omega⟩)]
          exact ih _ (t + 1) (by omega) (by omega) (by omega) ⟨t, hA, by rw [if_neg (show ¬ t = -1 by omega)]⟩
        · rw [if_neg c3] at hA
          rw [if_neg (show ¬ (0 ≤ fFw e t 31 (-1) 0 ∧ e.1 13 t < e.1 4 13 ∧ (b < 0 ∨ e.1 12 t < e.1 12 (e.1 (7000 + b) 2))) from fun hh => by
            rcases wt with g | ⟨g1, g2, g3, g4, g5⟩
            · exact c3 (Or.inl g)
            · rw [g5] at hh; omega)]
          exact ih b (t + 1) (by omega) (by omega) (by omega) ⟨w, hA, hb⟩
      · rw [if_neg (show ¬ (0 ≤ fFw e t 31 (-1) 0 ∧ e.1 13 t < e.1 4 13 ∧ (b < 0 ∨ e.1 12 t < e.1 12 (e.1 (7000 + b) 2))) from fun hh => c2 ⟨hh.1, hh.2.1⟩)]
        refine ih b (t + 1) (by omega) (by omega) (by omega) ⟨w, hB.iff fun u u0 u1 => ⟨fun g => ⟨by omega, g.2⟩, fun g => ⟨?_, g.2⟩⟩, hb⟩
        by_cases cu : u = t
        · rw [cu] at g
          exact absurd ((h4 t t0 c).mp g.2) c2
        · omega
    · rw [if_neg c]
      exact ⟨w, hB.iff fun u u0 u1 => ⟨fun g => g.2, fun g => ⟨by omega, g⟩⟩, hb⟩
end RXO1
