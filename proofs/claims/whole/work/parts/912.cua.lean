/-! SIGNALS THAT NO TASK HAS COUNTED YET; what every plain call leaves of it. -/
section CUA
variable {e e' e1 e2 : ES} {S D T a b c d i j k q r v w M p x y t o l : Int} {E E' : Int → Ev}
def cu (E : Int → Ev) (c : Int) : Nat → Int
  | 0 => 0
  | n + 1 => cu E c n + if ek (E (n : Int)) = 4 ∧ c ≤ cA E n then 1 else 0
theorem cu_s (n : Nat) : cu E c (n + 1) = cu E c n + if ek (E (n : Int)) = 4 ∧ c ≤ cA E n then 1 else 0 := rfl
theorem cu_1 (n : Nat) : cu E c n ≤ cu E c (n + 1) ∧ cu E c (n + 1) - cu E c n ≤ csg E (n + 1) - csg E n := by
  rw [csg_s, cu_s]
  by_cases c4 : ek (E (n : Int)) = 4
  · rw [if_pos c4]
    by_cases c5 : ek (E (n : Int)) = 4 ∧ c ≤ cA E n
    · rw [if_pos c5]; omega
    · rw [if_neg c5]; omega
  · rw [if_neg c4, if_neg (fun g => c4 g.1)]
    omega
theorem cu_b : ∀ n : Nat, 0 ≤ cu E c n ∧ cu E c n ≤ csg E n := by
  intro n
  induction n with
  | zero => exact ⟨Int.le_refl _, Int.le_refl _⟩
  | succ n ih =>
    have := cu_1 (E := E) (c := c) n
    omega
theorem cu_to : ∀ n : Nat, (∀ i : Int, 0 ≤ i → i < n → E' i = E i) → cu E' c n = cu E c n := by
  intro n
  induction n with
  | zero => intro _; rfl
  | succ n ih =>
    intro h
    rw [cu_s, cu_s, ih fun i i0 i1 => h i i0 (by omega), h (n : Int) (by omega) (by omega), (cc_to (E := E) (E' := E') n fun i i0 i1 => h i i0 (by omega)).1]
theorem cu_gr (n : Nat) : ∀ d : Nat, cu E c n ≤ cu E c (n + d) ∧ cu E c (n + d) - cu E c n ≤ csg E (n + d) - csg E n := by
  intro d
  induction d with
  | zero => exact ⟨Int.le_refl _, by show cu E c n - cu E c n ≤ csg E n - csg E n; omega⟩
  | succ d ih =>
    have h : cu E c (n + d) ≤ cu E c (n + (d + 1)) ∧ cu E c (n + (d + 1)) - cu E c (n + d) ≤ csg E (n + (d + 1)) - csg E (n + d) := cu_1 (n + d)
    omega
theorem cu_ge (n : Nat) (h : c ≤ cA E n) : ∀ d : Nat, csg E (n + d) - csg E n ≤ cu E c (n + d) - cu E c n := by
  intro d
  induction d with
  | zero => show csg E n - csg E n ≤ cu E c n - cu E c n; omega
  | succ d ih =>
    have hm := cA_mn (E := E) d n
    have h1 : cu E c (n + (d + 1)) = cu E c (n + d) + if ek (E ((n + d : Nat) : Int)) = 4 ∧ c ≤ cA E (n + d) then 1 else 0 := rfl
    have h2 : csg E (n + (d + 1)) = csg E (n + d) + if ek (E ((n + d : Nat) : Int)) = 4 then 1 else 0 := csg_s (n + d)
    by_cases c4 : ek (E ((n + d : Nat) : Int)) = 4
    · rw [if_pos c4] at h2
      rw [if_pos ⟨c4, by omega⟩] at h1
      omega
    · rw [if_neg c4] at h2
      rw [if_neg (fun g => c4 g.1)] at h1
      omega
theorem cu_m (hl : c ≤ l) (n : Nat) : ∀ d : Nat, cu E l (n + d) - cu E l n ≤ cu E c (n + d) - cu E c n := by
  intro d
  induction d with
  | zero => show cu E l n - cu E l n ≤ cu E c n - cu E c n; omega
  | succ d ih =>
    have h1 : cu E c (n + (d + 1)) = cu E c (n + d) + if ek (E ((n + d : Nat) : Int)) = 4 ∧ c ≤ cA E (n + d) then 1 else 0 := rfl
    have h2 : cu E l (n + (d + 1)) = cu E l (n + d) + if ek (E ((n + d : Nat) : Int)) = 4 ∧ l ≤ cA E (n + d) then 1 else 0 := rfl
    by_cases c4 : ek (E ((n + d : Nat) : Int)) = 4 ∧ l ≤ cA E (n + d)
    · rw [if_pos c4] at h2
      rw [if_pos ⟨c4.1, by omega⟩] at h1
      omega
    · rw [if_neg c4] at h2
      have : (0 : Int) ≤ if ek (E ((n + d : Nat) : Int)) = 4 ∧ c ≤ cA E (n + d) then 1 else 0 := by split <;> omega
      omega
theorem cu_z : ∀ n : Nat, cA E n ≤ l → cu E l n = 0 := by
  intro n
  induction n with
  | zero => intro _; rfl
  | succ n ih =>
    intro h
    rw [cA_s] at h
    rw [cu_s]
    by_cases c7 : ek (E (n : Int)) ≤ 7
    · rw [if_pos c7] at h
      rw [ih (by omega), if_neg (fun g => by omega)]
      rfl
    · rw [if_neg c7] at h
      rw [ih h, if_neg (fun g => by omega)]
      rfl
/-- what a TASK counts is not counted again -/
theorem cu_two {q m N : Nat} (hq : q ≤ m) (hm : m ≤ N) (h1 : c ≤ cA E q) (h2 : cA E m ≤ l) (hl : c ≤ l) : csg E m - csg E q + cu E l N ≤ cu E c N := by
  have g1 := cu_ge q h1 (m - q)
  rw [show q + (m - q) = m by omega] at g1
  have g2 := (cu_b (E := E) (c := c) q).1
  have g3 := cu_z m h2
  have g4 := cu_m (E := E) hl m (N - m)
  rw [show m + (N - m) = N by omega] at g4
  omega
theorem cC_gap (n : Nat) : ∀ d : Nat, (∀ j : Int, (n : Int) ≤ j → j < n + d → ek (E j) ≠ 17) → cC E (n + d) = cC E n := by
  intro d
  induction d with
  | zero => intro _; rfl
  | succ d ih =>
    intro h
    have h1 := ih fun j j0 j1 => h j j0 (by omega)
    have g1 := h ((n + d : Nat) : Int) (by omega) (by omega)
    show (if ek (E ((n + d : Nat) : Int)) = 17 then ex (E ((n + d : Nat) : Int)) else cC E (n + d)) = _
    rw [if_neg g1, h1]
def qU (e : ES) (i : Int) : Int := if i < e.1 7 2 then cu (eH e i) (hC e i) (hN e i).toNat else 0
/-- no more is uncounted than signals came -/
def UG (e e' : ES) : Prop := ∀ i : Int, 0 ≤ i → i < 30 → qU e' i - qCs e' i ≤ qU e i - qCs e i
theorem UG.rf : UG e e := fun _ _ _ => Int.le_refl _
theorem UG.tr (h : UG e e1) (g : UG e1 e2) : UG e e2 := fun i i0 i1 => Int.le_trans (g i i0 i1) (h i i0 i1)
theorem qu_cs (i : Int) : 0 ≤ qU e i ∧ qU e i ≤ qCs e i := by
  unfold qU qCs csr
  by_cases ci : i < e.1 7 2
  · rw [if_pos ci, if_pos ci]
    exact cu_b _
  · rw [if_neg ci, if_neg ci]
    exact ⟨Int.le_refl _, Int.le_refl _⟩
theorem ug_sm (h : UG e e') : sm (qU e') 30 - sm (qCs e') 30 ≤ sm (qU e) 30 - sm (qCs e) 30 := by
  have key : ∀ n : Nat, n ≤ 30 → sm (qU e') n - sm (qCs e') n ≤ sm (qU e) n - sm (qCs e) n := by
    intro n
    induction n with
    | zero => intro _; exact Int.le_refl _
    | succ n ih =>
      intro hn
      have h1 := ih (by omega)
      have h2 := h (n : Int) (by omega) (by omega)
      show _ + qU e' (n : Int) - (_ + qCs e' (n : Int)) ≤ _ + qU e (n : Int) - (_ + qCs e (n : Int))
      omega
  exact key 30 (by omega)
theorem UG.ex (hK : HNN e) (h : EX e e') : UG e e' := fun i i0 i1 => by
  obtain ⟨⟨h7, -⟩, h2, h3, -⟩ := h
  by_cases ci : i < e.1 7 2
  · obtain ⟨⟨a1, a2, a3⟩, -, -⟩ := h2 i i0 ci
    have n0 := hK i i0 ci
    have w1 : qU e i = cu (eH e i) (hC e i) (hN e i).toNat := if_pos ci
    have w2 : qU e' i = cu (eH e' i) (hC e' i) (hN e' i).toNat := if_pos (by omega)
    have w3 : qCs e i = csg (eH e i) (hN e i).toNat := if_pos ci
    have w4 : qCs e' i = csg (eH e' i) (hN e' i).toNat := if_pos (by omega)
    have hsum : (hN e i).toNat + ((hN e' i).toNat - (hN e i).toNat) = (hN e' i).toNat := by omega
    have hpre : ∀ j : Int, 0 ≤ j → j < (((hN e i).toNat : Nat) : Int) → eH e' i j = eH e i j := fun j j0 j1 => a2 j j0 (by omega)
    have u1 := cC_gap (E := eH e' i) (hN e i).toNat ((hN e' i).toNat - (hN e i).toNat) fun j j0 j1 => by
      have := a3 j (by omega) (by omega)
      omega
    have u3 := cu_gr (E := eH e' i) (c := hC e i) (hN e i).toNat ((hN e' i).toNat - (hN e i).toNat)
    rw [hsum] at u1 u3
    have hCe : hC e' i = hC e i := u1.trans (cc_to (hN e i).toNat hpre).2.2
    have u4 := cu_to (c := hC e i) (hN e i).toNat hpre
    have u5 := (cts_to (hN e i).toNat hpre).1
    rw [hCe] at w2
    omega
  · have w1 : qU e i = 0 := if_neg ci
    have w3 : qCs e i = 0 := if_neg ci
    have w5 := (qu_cs (e := e') i).2
    omega
theorem UG.of (h7 : e'.1 7 2 = e.1 7 2) (hh : ∀ i : Int, 0 ≤ i → i < e.1 7 2 → hN e' i = hN e i ∧ eH e' i = eH e i) : UG e e' := fun i i0 i1 => by
  unfold qU qCs csr hC
  rw [h7]
  by_cases ci : i < e.1 7 2
  · rw [(hh i i0 ci).1, (hh i i0 ci).2]
    exact Int.le_refl _
  · rw [if_neg ci, if_neg ci, if_neg ci, if_neg ci]
    exact Int.le_refl _
/-- to histories only arrivals were put -/
def AH (e e' : ES) : Prop := e.1 7 2 ≤ e'.1 7 2 ∧ ∀ r : Int, 0 ≤ r → (r < e.1 7 2 → hN e r ≤ hN e' r ∧ ∀ j : Int, 0 ≤ j → j < hN e r → eH e' r j = eH e r j) ∧ ∀ j : Int, 0 ≤ j → (r < e.1 7 2 → hN e r ≤ j) → r < e'.1 7 2 → j < hN e' r → ek (eH e' r j) ≤ 7
theorem AH.rf : AH e e := ⟨Int.le_refl _, fun r r0 => ⟨fun _ => ⟨Int.le_refl _, fun _ _ _ => rfl⟩, fun j j0 h r1 j1 => by have := h r1; omega⟩⟩
theorem AH.tr (h : AH e e1) (g : AH e1 e2) : AH e e2 := by
  obtain ⟨h1, h2⟩ := h
  obtain ⟨g1, g2⟩ := g
  refine ⟨Int.le_trans h1 g1, fun r r0 => ⟨fun r1 => ?_, fun j j0 hj r1 j1 => ?_⟩⟩
  · obtain ⟨a1, a2⟩ := (h2 r r0).1 r1
    obtain ⟨b1, b2⟩ := (g2 r r0).1 (by omega)
    exact ⟨Int.le_trans a1 b1, fun j j0 j1 => (b2 j j0 (by omega)).trans (a2 j j0 j1)⟩
  · by_cases c : r < e1.1 7 2 ∧ j < hN e1 r
    · rw [((g2 r r0).1 c.1).2 j j0 c.2]
      exact (h2 r r0).2 j j0 hj c.1 c.2
    · exact (g2 r r0).2 j j0 (fun c1 => by
        by_cases c2 : j < hN e1 r
        · exact absurd ⟨c1, c2⟩ c
        · omega) r1 j1
theorem AH.ex (h : EX e e') : AH e e' := by
  obtain ⟨⟨h1, -⟩, h2, h3, -⟩ := h
  refine ⟨h1, fun r r0 => ⟨fun r1 => ?_, fun j j0 hj r1 j1 => ?_⟩⟩
  · obtain ⟨⟨a1, a2, -⟩, -⟩ := h2 r r0 r1
    exact ⟨a1, a2⟩
  · by_cases c : r < e.1 7 2
    · exact (h2 r r0 c).1.2.2 j (hj c) j1
    · exact (h3 r (by omega) r1).2.2 j j0 j1
theorem AH.of2 (h7 : e.1 7 2 ≤ e'.1 7 2) (hh : ∀ i : Int, 0 ≤ i → i < e.1 7 2 → hN e' i = hN e i ∧ eH e' i = eH e i) (hn : ∀ i : Int, e.1 7 2 ≤ i → i < e'.1 7 2 → hN e' i ≤ 0) : AH e e' := by
  refine ⟨h7, fun r r0 => ⟨fun r1 => ?_, fun j j0 hj r1 j1 => ?_⟩⟩
  · rw [(hh r r0 r1).1, (hh r r0 r1).2]
    exact ⟨Int.le_refl _, fun _ _ _ => rfl⟩
  · by_cases c : r < e.1 7 2
    · have := hj c
      have := (hh r r0 c).1
      omega
    · have := hn r (by omega) r1
      omega
/-- what every plain call leaves: what is uncounted, a run's own and how much was put, TAGs; that only arrivals were put -/
def WG (e e' : ES) : Prop := UG e e' ∧ GR e e' ∧ e'.1 4 11 = e.1 4 11 ∧ AH e e'
theorem WG.rf : WG e e := ⟨UG.rf, GR.rf, rfl, AH.rf⟩
theorem WG.tr (h : WG e e1) (g : WG e1 e2) : WG e e2 := ⟨h.1.tr g.1, h.2.1.tr g.2.1, g.2.2.1.trans h.2.2.1, h.2.2.2.tr g.2.2.2⟩
theorem WG.ex (hK : HNN e) (h : EX e e') (h11 : e'.1 4 11 = e.1 4 11) : WG e e' := ⟨UG.ex hK h, h.2.2.2.2.2.2.2, h11, AH.ex h⟩
theorem WG.fr (h7 : e'.1 7 2 = e.1 7 2) (h30 : e'.1 3 0 = e.1 3 0) (h11 : e'.1 4 11 = e.1 4 11) (h16 : e'.1 4 16 = e.1 4 16) (h68 : ∀ u : Int, e'.1 68 u = e.1 68 u) (hh : ∀ i : Int, 0 ≤ i → i < e.1 7 2 → hN e' i = hN e i ∧ eH e' i = eH e i) : WG e e' := by
  refine ⟨UG.of h7 hh, GR.of (fun i i0 i1 => ?_) h68 h30 h16, h11, AH.of2 (by omega) hh fun i i0 i1 => by omega⟩
  unfold hN0
  rw [h7]
  by_cases ci : i < e.1 7 2
  · rw [(hh i i0 ci).1]
  · rw [if_neg ci, if_neg ci]
end CUA
