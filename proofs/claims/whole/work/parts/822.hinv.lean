/-! A HISTORY THAT IS AS IT SHOULD BE: what each of its events keeps, seen from what lies before it. -/
section HIV
variable {x : CX} {E E' : Int → Ev} {N M i j k a b p v : Int} {ev : Ev}
/-- one event, by what lies before it -/
def HLc (E : Int → Ev) (i : Int) : Prop :=
  (ek (E i) ≤ 17 ∧ ex (E i) < 524288 ∧ ey (E i) ≤ 999 ∧ (ek (E i) ≤ 7 → ew (E i) % 1024 ≤ 999)) ∧
  ((ek (E i) = 0 ↔ i = 0) ∧ (ek (E i) = 0 → ex (E i) ≤ 999) ∧ (ek (E i) = 4 → ex (E i) < 4)) ∧
  (ek (E i) = 7 → ∀ j : Int, 0 ≤ j → j < i → ek (E j) ≠ 7) ∧
  (bkk (ek (E i)) → (ex (E i) < i ∧ ek (E (ex (E i))) = if ek (E i) = 3 then 9 else if ek (E i) = 1 ∨ ek (E i) = 2 then 8 else 10) ∧ (∀ j : Int, 0 ≤ j → j < i → bkk (ek (E j)) → ex (E j) ≠ ex (E i)) ∧ ∀ d : Int, 0 ≤ d → d < i → ek (E d) = 11 → ex (E d) = ex (E i) → ∃ t : Int, d < t ∧ t < i ∧ ek (E t) = 17) ∧
  (8 ≤ ek (E i) ∧ ek (E i) ≤ 16 → QD i (ek (E i)) (ex (E i)) (ey (E i)) ∧ ∀ d : Int, 0 ≤ d → d < i → ¬ (14 ≤ ek (E d) ∧ ek (E d) ≤ 16)) ∧
  (ek (E i) = 17 → 1 ≤ ex (E i) ∧ ex (E i) ≤ cA E i.toNat ∧ ∀ t : Int, 0 ≤ t → t < i → ek (E t) = 17 → ex (E t) < ex (E i))
/-- a history -/
def HInv (E : Int → Ev) (N : Int) : Prop := (∀ i : Int, 0 ≤ i → i < N → HLc E i) ∧ HOF (fun i => ek (E i)) (fun i => ex (E i)) N
theorem HInv.le (h : HInv E N) (hm : M ≤ N) : HInv E M := ⟨fun i i0 i1 => h.1 i i0 (by omega), h.2.le hm⟩
theorem ex_nn : 0 ≤ ex (E i) := Int.natCast_nonneg _
theorem ek_nn : 0 ≤ ek (E i) := Int.natCast_nonneg _
theorem HLc.to (h : HLc E i) (i0 : 0 ≤ i) (hE : ∀ j : Int, 0 ≤ j → j ≤ i → E' j = E j) : HLc E' i := by
  have hcA : cA E' i.toNat = cA E i.toNat := (cc_to i.toNat fun j j0 j1 => hE j j0 (by omega)).1
  have ei := hE i i0 (Int.le_refl _)
  obtain ⟨h1, h2, h3, h4, h5, h6⟩ := h
  unfold HLc
  rw [ei, hcA]
  refine ⟨h1, h2, fun h j j0 j1 => by rw [hE j j0 (by omega)]; exact h3 h j j0 j1, fun h => ?_, fun h => ⟨(h5 h).1, fun d d0 d1 => by rw [hE d d0 (by omega)]; exact (h5 h).2 d d0 d1⟩, fun h => ⟨(h6 h).1, (h6 h).2.1, fun t t0 t1 => by rw [hE t t0 (by omega)]; exact (h6 h).2.2 t t0 t1⟩⟩
  obtain ⟨⟨g1, g2⟩, g3, g4⟩ := h4 h
  refine ⟨⟨g1, by rw [hE _ ex_nn (by omega)]; exact g2⟩, fun j j0 j1 => by rw [hE j j0 (by omega)]; exact g3 j j0 j1, fun d d0 d1 c1 c2 => ?_⟩
  rw [hE d d0 (by omega)] at c1 c2
  obtain ⟨t, t1, t2, t3⟩ := g4 d d0 d1 c1 c2
  exact ⟨t, t1, t2, by rw [hE t (by omega) (by omega)]; exact t3⟩
theorem HInv.to (h : HInv E N) (hE : ∀ j : Int, 0 ≤ j → j < N → E' j = E j) : HInv E' N := ⟨fun i i0 i1 => (h.1 i i0 i1).to i0 fun j j0 j1 => hE j j0 (by omega), h.2.to fun i i0 i1 => by rw [hE i i0 i1]; exact ⟨rfl, rfl⟩⟩
theorem hinv_0 : HInv E 0 := ⟨fun i i0 i1 => by omega, fun p p0 p1 l _ he => by
  cases l with
  | nil => exact Nat.zero_le _
  | cons e l =>
    have := (he e (by simp)).1
    omega⟩
/-- what opens nothing leaves no more open -/
theorem hof_put (h : HOF (fun i => ek (E i)) (fun i => ex (E i)) N) (hk : ¬ opk (ek (E N))) : HOF (fun i => ek (E i)) (fun i => ex (E i)) (N + 1) := by
  intro p p0 p1 l hl he
  by_cases c : p ≤ N
  · exact h p p0 c l hl he
  · have hp : p = N + 1 := by omega
    subst hp
    by_cases n0 : N < 0
    · cases l with
      | nil => exact Nat.zero_le _
      | cons e l => have := (he e (by simp)).1; omega
    · refine h N (by omega) (Int.le_refl _) l hl fun e hh => ?_
      have ho := he e hh
      have hne : e ≠ N := fun hh => by
        have := ho.2.1
        rw [hh] at this
        exact hk this
      exact ho.to (fun _ _ _ => ⟨rfl, rfl⟩) (by omega) (by have := ho.1; omega)
/-- an event is put -/
theorem HInv.put (h : HInv E N) (n0 : 0 ≤ N) (hl : HLc (Ev1 E N ev) N) (hk : ¬ opk (ek ev)) : HInv (Ev1 E N ev) (N + 1) := by
  have e1 : ∀ j : Int, 0 ≤ j → j < N → Ev1 E N ev j = E j := fun j _ j1 => if_neg (by omega)
  have eN : Ev1 E N ev N = ev := if_pos rfl
  refine ⟨fun i i0 i1 => ?_, hof_put (h.to e1).2 (by rw [eN]; exact hk)⟩
  by_cases c : i = N
  · rw [c]; exact hl
  · exact (h.1 i i0 (by omega)).to i0 fun j j0 j1 => e1 j j0 (by omega)
/-- what follows for the telling -/
theorem HInv.hf (h : HInv E N) (h0 : x.1 0 = N) (hE : x.2.1 = E) : HFx x := by
  subst h0 hE
  refine ⟨fun i i0 i1 hk => ?_, fun i i0 i1 => (h.1 i i0 i1).1.1⟩
  obtain ⟨-, -, -, h4, h5, -⟩ := h.1 i i0 i1
  rcases hk with hk | hk
  · exact ((h5 (by omega)).1.2.2.2.2.1 hk).1
  · exact (h4 hk).1.1
theorem HInv.tk (h : HInv E N) : HTk E N := by
  refine ⟨fun t t0 t1 hk => ?_, fun t u t0 t1 u1 hk hu => ?_⟩
  · obtain ⟨-, -, -, -, -, h6⟩ := h.1 t t0 t1
    exact ⟨(h6 hk).1, (h6 hk).2.1⟩
  · obtain ⟨-, -, -, -, -, h6⟩ := h.1 u (by omega) u1
    exact Int.le_of_lt ((h6 hu).2.2 t t0 t1 hk)
theorem HInv.bk (h : HInv E N) : HBk E N := by
  refine ⟨fun i i0 i1 hk => ?_, fun i j i0 i1 j1 hi hj => ?_, fun d i d0 d1 i1 hd hi he => ?_⟩
  · obtain ⟨-, -, -, h4, -, -⟩ := h.1 i i0 i1
    have := (h4 hk).1.2
    unfold opk
    split at this
    · omega
    · split at this <;> omega
  · obtain ⟨-, -, -, h4, -, -⟩ := h.1 j (by omega) j1
    exact (h4 hj).2.1 i i0 i1 hi
  · obtain ⟨-, -, -, h4, -, -⟩ := h.1 i (by omega) i1
    exact (h4 hi).2.2 d d0 d1 hd he
theorem HInv.hl (h : HInv E N) (h0 : x.1 0 = N) (hE : x.2.1 = E) : HLn x := by
  refine ⟨h.hf h0 hE, by rw [h0, hE]; exact h.tk, by rw [h0, hE]; exact h.bk, by rw [h0, hE]; exact h.2, fun hp => ?_⟩
  rw [h0] at hp
  obtain ⟨-, h2, -⟩ := h.1 0 (Int.le_refl _) hp
  rw [hE]
  exact h2.1.mpr rfl
theorem HInv.arr (h : HInv E N) (h0 : x.1 0 = N) (hE : x.2.1 = E) : ArrW x := by
  subst h0 hE
  intro i i0 i1 hk
  obtain ⟨h1, h2, -⟩ := h.1 i i0 i1
  exact ⟨h1.2.2.1, h2.2.2, fun hh => ⟨h2.2.1 hh, h2.1.mp hh⟩, h1.2.2.2 hk⟩
theorem HInv.xi (h : HInv E N) (h0 : x.1 0 = N) (hE : x.2.1 = E) : XI x := by
  subst h0 hE
  refine ⟨fun i i0 i1 hk => ?_, fun i i0 i1 h7 n0 n4 n7 => ?_, fun d d0 d1 hd => ?_⟩
  · obtain ⟨-, -, -, -, h5, -⟩ := h.1 i i0 i1
    exact (((h5 (by omega)).1.2.2.2.2.2 (by omega)).2.2.2.1 hk).2
  · obtain ⟨-, -, -, h4, -, -⟩ := h.1 i i0 i1
    have := ek_nn (E := x.2.1) (i := i)
    have hb : bkk (ek (x.2.1 i)) := by unfold bkk; omega
    exact ⟨by have := (h4 hb).1.1; omega, (h4 hb).1.2⟩
  · by_cases c : x.1 0 ≤ nc x (d + 1)
    · exact c
    · exfalso
      have hn := nc_cmd2 (x := x) (i := d + 1) (fun i i0 i1 => (h.1 i i0 i1).1.1) (by omega) (by omega) (by omega)
      have hb := nc_b (x := x) (a := d + 1) (by omega)
      obtain ⟨-, -, -, -, h5, -⟩ := h.1 (nc x (d + 1)) (by omega) (by omega)
      exact (h5 hn).2 d d0 (by omega) (by omega)
theorem HInv.cxx (h : HInv E N) (h0 : x.1 0 = N) (hE : x.2.1 = E) (n0 : 0 ≤ N) (n1 : N ≤ 458752) (hC : CodeW x) (h5 : x.1 5 ≤ 24) (h4 : x.1 4 ≠ 1) (h3 : x.1 3 ≤ x.1 0) : CXX x := ⟨⟨hC, h.arr h0 hE, h3⟩, h5, h4, h.xi h0 hE, by omega⟩
end HIV
