/-! THE TELLING, plain: which branches are below which. -/
section DOO
variable {x : CX} {s s' : TS} {B : Int} {a b c e i j v k h n l w p r t o q : Int} {P : Int → Bool}
/-- up the parents, to the first number for which P holds -/
def wk (s : TS) (P : Int → Bool) : Nat → Int → Int
  | 0, _ => -1
  | n + 1, p => if p = -1 then -1 else if P p = true then p else wk s P n (sg s (-1) p)
def wkr (s : TS) (P : Int → Bool) (p : Int) : Int := wk s P (p + 1).toNat p
theorem wk_f (hI : SI s) : ∀ (n n' : Nat) (p : Int), -1 ≤ p → p < sg s 0 6 → p < n → p < n' → wk s P n p = wk s P n' p := by
  intro n
  induction n with
  | zero =>
    intro n' p h0 h1 h2 h3
    have hp : p = -1 := by omega
    cases n' with
    | zero => rfl
    | succ n' => unfold wk; rw [if_pos hp]
  | succ n ih =>
    intro n' p h0 h1 h2 h3
    by_cases hp : p = -1
    · cases n' with
      | zero => unfold wk; rw [if_pos hp]
      | succ n' => unfold wk; rw [if_pos hp, if_pos hp]
    · obtain ⟨n', rfl⟩ : ∃ g, n' = g + 1 := ⟨n' - 1, by omega⟩
      unfold wk
      rw [if_neg hp, if_neg hp]
      have := hI.2 p (by omega) h1
      split
      · rfl
      · exact ih n' _ this.1 (by omega) (by omega) (by omega)
theorem wkr_m : wkr s P (-1) = -1 := rfl
theorem wkr_u (hI : SI s) (h0 : 0 ≤ p) (h1 : p < sg s 0 6) : wkr s P p = if P p = true then p else wkr s P (sg s (-1) p) := by
  have := hI.2 p h0 h1
  unfold wkr
  obtain ⟨n, hn⟩ : ∃ n, (p + 1).toNat = n + 1 := ⟨p.toNat, by omega⟩
  rw [hn]
  show (if p = -1 then -1 else if P p = true then p else wk s P n (sg s (-1) p)) = _
  rw [if_neg (by omega)]
  split
  · rfl
  · exact wk_f hI _ _ _ this.1 (by omega) (by omega) (by omega)
theorem wkr_b (hI : SI s) : ∀ (n : Nat) (p : Int), p < n → -1 ≤ p → p < sg s 0 6 → wkr s P p = -1 ∨ (0 ≤ wkr s P p ∧ wkr s P p ≤ p ∧ P (wkr s P p) = true) := by
  intro n
  induction n with
  | zero => intro p h0 h1 h2; rw [show p = -1 by omega]; exact Or.inl wkr_m
  | succ n ih =>
    intro p h0 h1 h2
    by_cases hp : p = -1
    · rw [hp]; exact Or.inl wkr_m
    · rw [wkr_u hI (by omega) h2]
      have := hI.2 p (by omega) h2
      by_cases c : P p = true
      · rw [if_pos c]; exact Or.inr ⟨by omega, Int.le_refl _, c⟩
      · rw [if_neg c]
        exact (ih _ (by omega) this.1 (by omega)).imp id fun g => ⟨g.1, by omega, g.2.2⟩
def thq (s : TS) (v : Int) : Bool := decide (0 ≤ find s v)
def eqq (o v : Int) : Bool := decide (v = o)
/-- the nearest that is there, from a number on -/
def nr (s : TS) (p : Int) : Int := wkr s (thq s) p
def blw (s : TS) (o p : Int) : Prop := wkr s (eqq o) p = o
theorem blw_m (ho : 0 ≤ o) : ¬ blw s o (-1) := fun h => by
  have : (-1 : Int) = o := h
  omega
theorem blw_u (hI : SI s) (h0 : 0 ≤ p) (h1 : p < sg s 0 6) : blw s o p ↔ (p = o ∨ blw s o (sg s (-1) p)) := by
  unfold blw
  rw [wkr_u hI h0 h1]
  unfold eqq
  by_cases c : p = o
  · rw [if_pos (by simpa using c)]
    exact ⟨fun _ => Or.inl c, fun _ => c⟩
  · rw [if_neg (by simpa using c)]
    exact ⟨fun h => Or.inr h, fun h => h.resolve_left c⟩
theorem nr_u (hI : SI s) (h0 : 0 ≤ p) (h1 : p < sg s 0 6) : nr s p = if 0 ≤ find s p then p else nr s (sg s (-1) p) := by
  unfold nr
  rw [wkr_u hI h0 h1]
  unfold thq
  by_cases c : 0 ≤ find s p
  · rw [if_pos (by simpa using c), if_pos c]
  · rw [if_neg (by simpa using c), if_neg c]
theorem nr_b (hI : SI s) (h0 : -1 ≤ p) (h1 : p < sg s 0 6) : nr s p = -1 ∨ (0 ≤ nr s p ∧ nr s p ≤ p ∧ 0 ≤ find s (nr s p)) := by
  refine (wkr_b (P := thq s) hI (p + 1).toNat p (by omega) h0 h1).imp id fun g => ⟨g.1, g.2.1, ?_⟩
  have : thq s (nr s p) = true := g.2.2
  exact of_decide_eq_true this
theorem blw_nr (hI : SI s) (ho : 0 ≤ o) (hf : 0 ≤ find s o) : ∀ (n : Nat) (p : Int), p < n → -1 ≤ p → p < sg s 0 6 → (blw s o p ↔ (0 ≤ nr s p ∧ blw s o (nr s p))) := by
  intro n
  induction n with
  | zero =>
    intro p h0 h1 h2
    rw [show p = -1 by omega]
    exact ⟨fun h => absurd h (blw_m ho), fun h => absurd h.1 (by show ¬ ((0 : Int) ≤ -1); decide)⟩
  | succ n ih =>
    intro p h0 h1 h2
    by_cases hp : p = -1
    · rw [hp]
      exact ⟨fun h => absurd h (blw_m ho), fun h => absurd h.1 (by show ¬ ((0 : Int) ≤ -1); decide)⟩
    · have hb := hI.2 p (by omega) h2
      rw [nr_u hI (by omega) h2]
      by_cases c : 0 ≤ find s p
      · rw [if_pos c]
        exact ⟨fun h => ⟨by omega, h⟩, fun h => h.2⟩
      · rw [if_neg c, blw_u hI (by omega) h2, ih _ (by omega) hb.1 (by omega)]
        exact ⟨fun h => h.resolve_left fun g => c (by rw [g]; exact hf), Or.inr⟩
/-- what is told as above a branch is the nearest one that is there -/
def AB (s : TS) : Prop := ∀ k : Int, 0 ≤ k → k < sg s 0 5 → (-1 ≤ sg s (2 + k) 2 ∧ sg s (2 + k) 2 < sg s (2 + k) 0) ∧ (if 0 ≤ find s (sg s (2 + k) 2) then sg s (2 + k) 2 else -1) = nr s (sg s (-1) (sg s (2 + k) 0))
/-- the same but for marks of doom -/
def E9 (s s' : TS) : Prop := (∀ a i : Int, (a < 2 ∨ i ≠ 9) → sg s' a i = sg s a i) ∧ s'.2 = s.2
theorem E9.rf : E9 s s := ⟨fun _ _ _ => rfl, rfl⟩
theorem E9.find (h : E9 s s') : find s' v = find s v := by
  have key : ∀ (n : Nat) (k : Int), 0 ≤ k → sFind s' 0 v n k = sFind s 0 v n k := by
    intro n
    induction n with
    | zero => intro k _; rfl
    | succ n ih =>
      intro k hk
      unfold sFind
      rw [h.1 _ _ (by omega), h.1 _ _ (by omega), ih _ (by omega)]
  exact key 12 0 (by decide)
theorem E9.st (h : E9 s s') : E9 s (st s' (2 + k) 9 w) ∨ k < 0 := by
  by_cases hk : k < 0
  · exact Or.inr hk
  · exact Or.inl ⟨fun a i hh => by rw [st_g, if_neg (by omega)]; exact h.1 a i hh, h.2⟩
theorem find_at (hI : SI s) (h0 : 0 ≤ k) (h1 : k < sg s 0 5) (h5 : sg s 0 5 ≤ 12) : find s (sg s (2 + k) 0) = k := by
  rcases find_b (s := s) (v := sg s (2 + k) 0) with g | ⟨g1, g2, g3⟩
  · exact absurd rfl (sFind_n (s := s) (by omega) 12 0 (by decide) rfl g k h0 h1)
  · rcases Int.lt_trichotomy (find s (sg s (2 + k) 0)) k with c | c | c
    · have := hI.1 _ _ g1 c h1; omega
    · exact c
    · have := hI.1 _ _ h0 c g2; omega
theorem doomL_d (hI : SI s) (hA : AB s) (hW : SW x s B) (ho : 0 ≤ o) (hf : 0 ≤ find s o) : ∀ (n : Nat) (i : Int) (s' : TS), 0 ≤ i → i + n = 12 → E9 s s' → (∀ j : Int, 0 ≤ j → j < i → j < sg s 0 5 → (sg s' (2 + j) 9 ≠ 0 ↔ blw s o (sg s (2 + j) 0))) → (∀ j : Int, i ≤ j → j < sg s 0 5 → (sg s' (2 + j) 9 ≠ 0 ↔ sg s (2 + j) 0 = o)) → E9 s (sDoomL n i s') ∧ ∀ j : Int, 0 ≤ j → j < sg s 0 5 → (sg (sDoomL n i s') (2 + j) 9 ≠ 0 ↔ blw s o (sg s (2 + j) 0)) := by
  have h5 := hW.2.2.2.2.2.2.2.1
  intro n
  induction n with
  | zero => intro i s' i0 i1 hE h1 h2; exact ⟨hE, fun j j0 j1 => h1 j j0 (by omega) j1⟩
  | succ n ih =>
    intro i s' i0 i1 hE h1 h2
    unfold sDoomL
    rw [hE.1 0 5 (by omega)]
    by_cases c : i < sg s 0 5
    · rw [if_pos c, hE.1 _ 2 (by omega), hE.find]
      have hw := (hW.br i0 c).1
      have hb := hI.2 _ hw.1 hw.2
      obtain ⟨a1, a2⟩ := hA i i0 c
      have hkey : blw s o (sg s (2 + i) 0) ↔ (sg s (2 + i) 0 = o ∨ (0 ≤ find s (sg s (2 + i) 2) ∧ sg s' (2 + find s (sg s (2 + i) 2)) 9 ≠ 0)) := by
        rw [blw_u hI hw.1 hw.2, blw_nr hI ho hf (sg s (-1) (sg s (2 + i) 0) + 1).toNat _ (by omega) hb.1 (by omega), ← a2]
        by_cases cf : 0 ≤ find s (sg s (2 + i) 2)
        · rw [if_pos cf]
          obtain ⟨g1, g2, g3⟩ := (find_b (s := s) (v := sg s (2 + i) 2)).resolve_left (by omega)
          have hlt : find s (sg s (2 + i) 2) < i := by
            rcases Int.lt_trichotomy (find s (sg s (2 + i) 2)) i with z | z | z
            · exact z
            · rw [z] at g3; omega
            · have := hI.1 _ _ i0 z g2; omega
          have hnum := (hW.br g1 g2).1
          rw [h1 _ g1 hlt g2, g3]
          constructor
          · rintro (z | ⟨-, z⟩)
            · exact Or.inl z
            · exact Or.inr ⟨cf, z⟩
          · rintro (z | ⟨-, z⟩)
            · exact Or.inl z
            · exact Or.inr ⟨by omega, z⟩
        · rw [if_neg cf]
          constructor
          · rintro (z | ⟨z, -⟩)
            · exact Or.inl z
            · omega
          · rintro (z | ⟨z, -⟩)
            · exact Or.inl z
            · exact absurd z cf
      have hstep : ∀ s2 : TS, E9 s s2 → (∀ j : Int, j ≠ i → 0 ≤ j → sg s2 (2 + j) 9 = sg s' (2 + j) 9) → (sg s2 (2 + i) 9 ≠ 0 ↔ blw s o (sg s (2 + i) 0)) → E9 s (sDoomL n (i + 1) s2) ∧ ∀ j : Int, 0 ≤ j → j < sg s 0 5 → (sg (sDoomL n (i + 1) s2) (2 + j) 9 ≠ 0 ↔ blw s o (sg s (2 + j) 0)) := by
        intro s2 e2 e3 e4
        refine ih (i + 1) s2 (by omega) (by omega) e2 (fun j j0 j1 j2 => ?_) (fun j j0 j1 => ?_)
        · by_cases hj : j = i
          · rw [hj]; exact e4
          · rw [e3 j hj j0]; exact h1 j j0 (by omega) j2
        · rw [e3 j (by omega) (by omega)]; exact h2 j (by omega) j1
      have hi := h2 i (Int.le_refl _) c
      by_cases cf : find s (sg s (2 + i) 2) < 0
      · rw [if_pos cf]
        refine hstep s' hE (fun _ _ _ => rfl) ?_
        rw [hi, hkey]
        exact ⟨Or.inl, fun z => z.resolve_right fun g => by omega⟩
      · rw [if_neg cf]
        by_cases c9 : sg s' (2 + find s (sg s (2 + i) 2)) 9 = 0
        · rw [if_pos c9]
          refine hstep s' hE (fun _ _ _ => rfl) ?_
          rw [hi, hkey]
          exact ⟨Or.inl, fun z => z.resolve_right fun g => g.2 c9⟩
        · rw [if_neg c9]
          refine hstep _ (hE.st.resolve_right (by omega)) (fun j hj j0 => by rw [st_g, if_neg (by omega)]) ?_
          rw [st_g, if_pos ⟨rfl, rfl⟩, hkey]
          exact ⟨fun _ => Or.inr ⟨by omega, c9⟩, fun _ => by decide⟩
    · rw [if_neg c]
      exact ⟨hE, fun j j0 j1 => h1 j j0 (by omega) j1⟩
/-- a branch and all below it are doomed -/
theorem doom_d (hI : SI s) (hA : AB s) (hN : ND s) (hW : SW x s B) (h0 : 0 ≤ k) (h1 : k < sg s 0 5) : E9 s (sDoom k s) ∧ ∀ j : Int, 0 ≤ j → j < sg s 0 5 → (sg (sDoom k s) (2 + j) 9 ≠ 0 ↔ blw s (sg s (2 + k) 0) (sg s (2 + j) 0)) := by
  have h5 := hW.2.2.2.2.2.2.2.1
  have hfa := find_at hI h0 h1 h5.2
  unfold sDoom
  refine doomL_d hI hA hW (hW.br h0 h1).1.1 (by rw [hfa]; exact h0) 12 0 _ (by decide) rfl (E9.rf.st.resolve_right (by omega)) (fun j j0 j1 => by omega) (fun j j0 j1 => ?_)
  rw [st_g]
  by_cases hj : j = k
  · rw [hj, if_pos ⟨rfl, rfl⟩]
    exact ⟨fun _ => rfl, fun _ => by decide⟩
  · rw [if_neg (by omega), hN j j0 j1]
    refine ⟨fun z => absurd rfl z, fun z => ?_⟩
    exfalso
    have e := find_at hI j0 j1 h5.2
    rw [z, hfa] at e
    exact hj e.symm
end DOO
