/-! A HISTORY THAT IS AS IT SHOULD BE: each kind of event is put. -/
section HPT
variable {E E' : Int → Ev} {N M i j k a b p v x y t o : Int} {ev : Ev}
/-- one event that is to be put, by what lies before it -/
def HLe (E : Int → Ev) (i : Int) (ev : Ev) : Prop :=
  (ek ev ≤ 17 ∧ ex ev < 524288 ∧ ey ev ≤ 999 ∧ (ek ev ≤ 7 → ew ev % 1024 ≤ 999)) ∧
  ((ek ev = 0 ↔ i = 0) ∧ (ek ev = 0 → ex ev ≤ 999) ∧ (ek ev = 4 → ex ev < 4)) ∧
  (ek ev = 7 → ∀ j : Int, 0 ≤ j → j < i → ek (E j) ≠ 7) ∧
  (bkk (ek ev) → (ex ev < i ∧ ek (E (ex ev)) = if ek ev = 3 then 9 else if ek ev = 1 ∨ ek ev = 2 then 8 else 10) ∧ (∀ j : Int, 0 ≤ j → j < i → bkk (ek (E j)) → ex (E j) ≠ ex ev) ∧ ∀ d : Int, 0 ≤ d → d < i → ek (E d) = 11 → ex (E d) = ex ev → ∃ t : Int, d < t ∧ t < i ∧ ek (E t) = 17) ∧
  (8 ≤ ek ev ∧ ek ev ≤ 16 → QD i (ek ev) (ex ev) (ey ev) ∧ ∀ d : Int, 0 ≤ d → d < i → ¬ (14 ≤ ek (E d) ∧ ek (E d) ≤ 16)) ∧
  (ek ev = 17 → 1 ≤ ex ev ∧ ex ev ≤ cA E i.toNat ∧ ∀ t : Int, 0 ≤ t → t < i → ek (E t) = 17 → ex (E t) < ex ev)
theorem HLe.hl (h : HLe E N ev) : HLc (Ev1 E N ev) N := by
  have hE : ∀ j : Int, j < N → Ev1 E N ev j = E j := fun j j1 => if_neg (by omega)
  have hcA : cA (Ev1 E N ev) N.toNat = cA E N.toNat := (cc_to N.toNat fun j j0 j1 => hE j (by omega)).1
  have ei : Ev1 E N ev N = ev := if_pos rfl
  have ex0 : 0 ≤ ex ev := Int.natCast_nonneg _
  obtain ⟨h1, h2, h3, h4, h5, h6⟩ := h
  unfold HLc
  rw [ei, hcA]
  refine ⟨h1, h2, fun g j j0 j1 => by rw [hE j j1]; exact h3 g j j0 j1, fun g => ?_, fun g => ⟨(h5 g).1, fun d d0 d1 => by rw [hE d d1]; exact (h5 g).2 d d0 d1⟩, fun g => ⟨(h6 g).1, (h6 g).2.1, fun t t0 t1 => by rw [hE t t1]; exact (h6 g).2.2 t t0 t1⟩⟩
  obtain ⟨⟨g1, g2⟩, g3, g4⟩ := h4 g
  refine ⟨⟨g1, by rw [hE _ g1]; exact g2⟩, fun j j0 j1 => by rw [hE j j1]; exact g3 j j0 j1, fun d d0 d1 c1 c2 => ?_⟩
  rw [hE d d1] at c1 c2
  obtain ⟨t, t1, t2, t3⟩ := g4 d d0 d1 c1 c2
  exact ⟨t, t1, t2, by rw [hE t t2]; exact t3⟩
theorem evP_k (k0 : 0 ≤ k) : ek (evP k x y t o) = k := by show ((k.toNat : Nat) : Int) = k; omega
theorem evP_x (x0 : 0 ≤ x) : ex (evP k x y t o) = x := by show ((x.toNat : Nat) : Int) = x; omega
theorem evP_y (y0 : 0 ≤ y) : ey (evP k x y t o) = y := by show ((y.toNat : Nat) : Int) = y; omega
theorem evP_w (k7 : k ≤ 7) (o0 : 0 ≤ o) : ew (evP k x y t o) % 1024 ≤ 999 ∧ ew (evP k x y t o) / 1024 = o := by
  show ((if k ≤ 7 then (1024 * o + t % 1000).toNat else t.toNat : Nat) : Int) % 1024 ≤ 999 ∧ ((if k ≤ 7 then (1024 * o + t % 1000).toNat else t.toNat : Nat) : Int) / 1024 = o
  rw [if_pos k7]
  omega
/-- an arrival that refers to nothing -/
theorem HInv.arrP (h : HInv E N) (n0 : 0 ≤ N) (k0 : 0 ≤ k) (hk : k = 0 ∨ k = 4 ∨ k = 7) (hN : k = 0 ↔ N = 0) (x0 : 0 ≤ x) (x1 : x ≤ 999) (x4 : k = 4 → x < 4) (y0 : 0 ≤ y) (y1 : y ≤ 999) (o0 : 0 ≤ o) (h7 : k = 7 → ∀ j : Int, 0 ≤ j → j < N → ek (E j) ≠ 7) : HInv (Ev1 E N (evP k x y t o)) (N + 1) := by
  refine h.put n0 (HLe.hl ?_) (by rw [evP_k k0]; unfold opk; omega)
  unfold HLe
  rw [evP_k k0, evP_x x0, evP_y y0]
  exact ⟨⟨by omega, by omega, y1, fun g => (evP_w g o0).1⟩, ⟨hN, fun _ => x1, x4⟩, h7, fun g => by unfold bkk at g; omega, fun g => by omega, fun g => by omega⟩
/-- what comes back -/
theorem HInv.bkP (h : HInv E N) (n0 : 0 < N) (hk : bkk k) (x0 : 0 ≤ x) (x1 : x < N) (hx : ek (E x) = if k = 3 then 9 else if k = 1 ∨ k = 2 then 8 else 10) (hN : N ≤ 524288) (y0 : 0 ≤ y) (y1 : y ≤ 999) (o0 : 0 ≤ o) (hb : ∀ j : Int, 0 ≤ j → j < N → bkk (ek (E j)) → ex (E j) ≠ x) (hd : ∀ d : Int, 0 ≤ d → d < N → ek (E d) = 11 → ex (E d) = x → ∃ t : Int, d < t ∧ t < N ∧ ek (E t) = 17) : HInv (Ev1 E N (evP k x y t o)) (N + 1) := by
  have hk' := hk
  unfold bkk at hk'
  refine h.put (by omega) (HLe.hl ?_) (by rw [evP_k (by omega)]; unfold opk; omega)
  unfold HLe
  rw [evP_k (by omega), evP_x x0, evP_y y0]
  exact ⟨⟨by omega, by omega, y1, fun g => (evP_w g o0).1⟩, ⟨by omega, fun g => by omega, fun g => by omega⟩, fun g => by omega, fun _ => ⟨⟨x1, hx⟩, hb, hd⟩, fun g => by omega, fun g => by omega⟩
/-- a TASK -/
theorem HInv.tkP (h : HInv E N) (n0 : 0 < N) (x1 : 1 ≤ x) (hx : x ≤ cA E N.toNat) (hx5 : x < 524288) (y0 : 0 ≤ y) (y1 : y ≤ 999) (ht : ∀ t : Int, 0 ≤ t → t < N → ek (E t) = 17 → ex (E t) < x) : HInv (Ev1 E N (evP 17 x y t o)) (N + 1) := by
  refine h.put (by omega) (HLe.hl ?_) (by rw [evP_k (by decide)]; unfold opk; omega)
  unfold HLe
  rw [evP_k (by decide), evP_x (by omega), evP_y y0]
  exact ⟨⟨by decide, hx5, y1, fun g => by omega⟩, ⟨by omega, fun g => by omega, fun g => by omega⟩, fun g => by omega, fun g => by unfold bkk at g; omega, fun g => by omega, fun _ => ⟨x1, hx, ht⟩⟩
/-- all that is counted by TASKs: the last one's number -/
theorem HInv.cc (h : HInv E N) : ∀ n : Nat, (n : Int) ≤ N → (cC E n = 0 ∨ ∃ t : Int, 0 ≤ t ∧ t < n ∧ ek (E t) = 17 ∧ ex (E t) = cC E n) ∧ (∀ t : Int, 0 ≤ t → t < n → ek (E t) = 17 → ex (E t) ≤ cC E n) ∧ 0 ≤ cC E n ∧ cC E n ≤ cA E n := by
  intro n
  induction n with
  | zero => intro _; exact ⟨Or.inl rfl, fun t t0 t1 => by omega, Int.le_refl _, Int.le_refl _⟩
  | succ n ih =>
    intro hn
    obtain ⟨g1, g2, g3, g4⟩ := ih (by omega)
    obtain ⟨-, -, -, -, -, h6⟩ := h.1 n (by omega) (by omega)
    have e1 : cC E (n + 1) = if ek (E n) = 17 then ex (E n) else cC E n := rfl
    have e2 := cA_s (E := E) n
    by_cases c : ek (E n) = 17
    · rw [if_pos c] at e1
      obtain ⟨k1, k2, k3⟩ := h6 c
      rw [if_neg (by omega)] at e2
      rw [e1, e2]
      refine ⟨Or.inr ⟨n, by omega, by omega, c, rfl⟩, fun t t0 t1 ht => ?_, by omega, k2⟩
      by_cases ct : t = n
      · rw [ct]; exact Int.le_refl _
      · exact Int.le_of_lt (k3 t t0 (by omega) ht)
    · rw [if_neg c] at e1
      rw [e1]
      refine ⟨?_, fun t t0 t1 ht => ?_, g3, ?_⟩
      · rcases g1 with g1 | ⟨t, t0, t1, t2, t3⟩
        · exact Or.inl g1
        · exact Or.inr ⟨t, t0, by omega, t2, t3⟩
      · by_cases ct : t = n
        · rw [ct] at ht; exact absurd ht c
        · exact g2 t t0 (by omega) ht
      · rw [e2]; split <;> omega
end HPT
