/-! A HISTORY THAT IS AS IT SHOULD BE: how long it is. -/
section HLG
variable {x : CX} {s s' S : TS} {B : Int} {E E' : Int → Ev} {N M i j k e lim m : Int}
def gC1 : Int → Int → Int → Int → Int := fun _ _ _ _ => 1
/-- how much came back; how much was opened -/
def nbk (E : Int → Ev) : Nat → Int
  | 0 => 0
  | n + 1 => nbk E n + if ek (E (n : Int)) = 1 ∨ ek (E (n : Int)) = 2 ∨ ek (E (n : Int)) = 3 ∨ ek (E (n : Int)) = 5 ∨ ek (E (n : Int)) = 6 then 1 else 0
def nop (E : Int → Ev) : Nat → Int
  | 0 => 0
  | n + 1 => nop E n + if ek (E (n : Int)) = 8 ∨ ek (E (n : Int)) = 9 ∨ ek (E (n : Int)) = 10 then 1 else 0
theorem nbk_y {n : Nat} (c : bkk (ek (E (n : Int)))) : nbk E (n + 1) = nbk E n + 1 := by
  unfold bkk at c
  show nbk E n + (if ek (E (n : Int)) = 1 ∨ ek (E (n : Int)) = 2 ∨ ek (E (n : Int)) = 3 ∨ ek (E (n : Int)) = 5 ∨ ek (E (n : Int)) = 6 then (1 : Int) else 0) = _
  rw [if_pos c]
theorem nbk_n {n : Nat} (c : ¬ bkk (ek (E (n : Int)))) : nbk E (n + 1) = nbk E n := by
  unfold bkk at c
  show nbk E n + (if ek (E (n : Int)) = 1 ∨ ek (E (n : Int)) = 2 ∨ ek (E (n : Int)) = 3 ∨ ek (E (n : Int)) = 5 ∨ ek (E (n : Int)) = 6 then (1 : Int) else 0) = _
  rw [if_neg c, Int.add_zero]
theorem nop_y {n : Nat} (c : opk (ek (E (n : Int)))) : nop E (n + 1) = nop E n + 1 := by
  unfold opk at c
  show nop E n + (if ek (E (n : Int)) = 8 ∨ ek (E (n : Int)) = 9 ∨ ek (E (n : Int)) = 10 then (1 : Int) else 0) = _
  rw [if_pos c]
theorem nop_n {n : Nat} (c : ¬ opk (ek (E (n : Int)))) : nop E (n + 1) = nop E n := by
  unfold opk at c
  show nop E n + (if ek (E (n : Int)) = 8 ∨ ek (E (n : Int)) = 9 ∨ ek (E (n : Int)) = 10 then (1 : Int) else 0) = _
  rw [if_neg c, Int.add_zero]
theorem nop_1 (n : Nat) : nop E n ≤ nop E (n + 1) := by
  by_cases c : opk (ek (E (n : Int)))
  · rw [nop_y c]; omega
  · rw [nop_n c]; exact Int.le_refl _
theorem nop_m : ∀ (d n : Nat), 0 ≤ nop E n ∧ nop E n ≤ nop E (n + d) := by
  have h0 : ∀ n : Nat, 0 ≤ nop E n := by
    intro n
    induction n with
    | zero => exact Int.le_refl _
    | succ n ih => exact Int.le_trans ih (nop_1 n)
  intro d n
  refine ⟨h0 n, ?_⟩
  induction d with
  | zero => exact Int.le_refl _
  | succ d ih => exact Int.le_trans ih (nop_1 (n + d))
theorem nop_33 : ∀ n : Nat, iE g33 E n = 2 * nop E n := by
  intro n
  induction n with
  | zero => rfl
  | succ n ih =>
    have e2 : iE g33 E (n + 1) = iE g33 E n + if 8 ≤ ek (E (n : Int)) ∧ ek (E (n : Int)) ≤ 16 then g33 (n : Int) (ek (E (n : Int))) (ex (E (n : Int))) (ey (E (n : Int))) else 0 := rfl
    rw [e2, ih]
    by_cases c : opk (ek (E (n : Int)))
    · have c' := c
      unfold opk at c'
      rw [nop_y c, if_pos (by omega), g33_o c']
      omega
    · have c' := c
      unfold opk at c'
      rw [nop_n c]
      by_cases c2 : 8 ≤ ek (E (n : Int)) ∧ ek (E (n : Int)) ≤ 16
      · rw [if_pos c2, g33_n c']; omega
      · rw [if_neg c2]; omega
theorem HInv.nbk_l (h : HInv E N) : ∀ n : Nat, (n : Int) ≤ N → ∃ l : List Int, l.Nodup ∧ (l.length : Int) = nbk E n ∧ ∀ e ∈ l, ∃ i : Int, 0 ≤ i ∧ i < n ∧ bkk (ek (E i)) ∧ ex (E i) = e := by
  intro n
  induction n with
  | zero => intro _; exact ⟨[], List.nodup_nil, rfl, fun e he => absurd he (by simp)⟩
  | succ n ih =>
    intro hn
    obtain ⟨l, l1, l2, l3⟩ := ih (by omega)
    by_cases c : bkk (ek (E (n : Int)))
    · obtain ⟨-, -, -, h4, -⟩ := h.1 n (by omega) (by omega)
      rw [nbk_y c]
      refine ⟨ex (E n) :: l, List.nodup_cons.mpr ⟨fun hm => ?_, l1⟩, by rw [List.length_cons]; omega, fun e he => ?_⟩
      · obtain ⟨i, i0, i1, i2, i3⟩ := l3 _ hm
        exact (h4 c).2.1 i i0 i1 i2 i3
      · rcases List.mem_cons.mp he with he | he
        · exact ⟨n, by omega, by omega, c, he.symm⟩
        · obtain ⟨i, i0, i1, i2, i3⟩ := l3 e he
          exact ⟨i, i0, by omega, i2, i3⟩
    · rw [nbk_n c]
      exact ⟨l, l1, by omega, fun e he => by
        obtain ⟨i, i0, i1, i2, i3⟩ := l3 e he
        exact ⟨i, i0, by omega, i2, i3⟩⟩
theorem HInv.nbk_le (h : HInv E N) (n : Nat) (hn : (n : Int) ≤ N) : nbk E n ≤ nop E n := by
  obtain ⟨l, l1, l2, l3⟩ := h.nbk_l n hn
  have hop : ∀ e e' : Int, 0 ≤ e → e < e' → opk (ek (E e)) → nop E e.toNat < nop E e'.toNat := fun e e' e0 e1 he => by
    have h1 := (nop_m (E := E) (e'.toNat - (e.toNat + 1)) (e.toNat + 1)).2
    rw [show e.toNat + 1 + (e'.toNat - (e.toNat + 1)) = e'.toNat by omega] at h1
    have h2 : nop E (e.toNat + 1) = nop E e.toNat + 1 := nop_y (by rw [show ((e.toNat : Nat) : Int) = e by omega]; exact he)
    omega
  have hp := pigeon (R := fun k e => 0 ≤ e ∧ opk (ek (E e)) ∧ nop E e.toNat = k) (fun k e e' h1 h2 => by
    rcases Int.lt_trichotomy e e' with g | g | g
    · have := hop e e' h1.1 g h1.2.1
      omega
    · exact g
    · have := hop e' e h2.1 g h2.2.1
      omega) (nop E n).toNat l l1 (fun e he => by
    obtain ⟨i, i0, i1, i2, i3⟩ := l3 e he
    have hb := h.bk.1 i i0 (by omega) i2
    obtain ⟨-, -, -, h4, -⟩ := h.1 i i0 (by omega)
    have hx := (h4 i2).1.1
    rw [i3] at hb hx
    have e0 : 0 ≤ e := by rw [← i3]; exact ex_nn
    have h5 := hop e n e0 (by omega) hb
    rw [show ((n : Int)).toNat = n by omega] at h5
    have h6 := (nop_m (E := E) 0 e.toNat).1
    have h7 := (nop_m (E := E) 0 n).1
    exact ⟨nop E e.toNat, h6, by omega, e0, hb, rfl⟩)
  have h7 := (nop_m (E := E) 0 n).1
  omega
/-- at most one END -/
theorem HInv.end1 (h : HInv E N) : ∀ n : Nat, (n : Int) ≤ N → iE gC1 E n = iE g11 E n ∨ (iE gC1 E n = iE g11 E n + 1 ∧ ∃ d : Int, 0 ≤ d ∧ d < n ∧ 14 ≤ ek (E d) ∧ ek (E d) ≤ 16) := by
  intro n
  induction n with
  | zero => intro _; exact Or.inl rfl
  | succ n ih =>
    intro hn
    obtain ⟨-, -, -, -, h5, -⟩ := h.1 n (by omega) (by omega)
    have e1 : iE gC1 E (n + 1) = iE gC1 E n + if 8 ≤ ek (E (n : Int)) ∧ ek (E (n : Int)) ≤ 16 then 1 else 0 := rfl
    have e2 : iE g11 E (n + 1) = iE g11 E n + if 8 ≤ ek (E (n : Int)) ∧ ek (E (n : Int)) ≤ 16 then (if ek (E (n : Int)) < 14 then 1 else 0) else 0 := rfl
    rw [e1, e2]
    by_cases c : 8 ≤ ek (E (n : Int)) ∧ ek (E (n : Int)) ≤ 16
    · rw [if_pos c, if_pos c]
      rcases ih (by omega) with g | ⟨g, d, d0, d1, d2⟩
      · by_cases c14 : ek (E (n : Int)) < 14
        · rw [if_pos c14]; exact Or.inl (by omega)
        · rw [if_neg c14]; exact Or.inr ⟨by omega, n, by omega, by omega, by omega⟩
      · exact absurd d2 ((h5 c).2 d d0 d1)
    · rw [if_neg c, if_neg c]
      rcases ih (by omega) with g | ⟨g, d, d0, d1, d2⟩
      · exact Or.inl (by omega)
      · exact Or.inr ⟨by omega, d, d0, by omega, d2⟩
/-- each event is counted by one of them -/
theorem HInv.len (h : HInv E N) : ∀ n : Nat, (n : Int) ≤ N → (n : Int) ≤ (if n = 0 then 0 else 1) + iE gC1 E n + nbk E n + csg E n + ccn E n + cT E n := by
  intro n
  induction n with
  | zero => intro _; show (0 : Int) ≤ 0 + 0 + 0 + 0 + 0 + 0; decide
  | succ n ih =>
    intro hn
    have h1 := ih (by omega)
    obtain ⟨q1, q2, -, -, -, -⟩ := h.1 n (by omega) (by omega)
    have hk0 := ek_nn (E := E) (i := (n : Int))
    have e1 : iE gC1 E (n + 1) = iE gC1 E n + if 8 ≤ ek (E (n : Int)) ∧ ek (E (n : Int)) ≤ 16 then 1 else 0 := rfl
    have e2 : nbk E (n + 1) = nbk E n + if ek (E (n : Int)) = 1 ∨ ek (E (n : Int)) = 2 ∨ ek (E (n : Int)) = 3 ∨ ek (E (n : Int)) = 5 ∨ ek (E (n : Int)) = 6 then 1 else 0 := rfl
    have e3 : csg E (n + 1) = csg E n + if ek (E (n : Int)) = 4 then 1 else 0 := rfl
    have e4 : ccn E (n + 1) = ccn E n + if ek (E (n : Int)) = 7 then 1 else 0 := rfl
    have e5 : cT E (n + 1) = if ek (E (n : Int)) = 17 then cT E n + 1 else cT E n := rfl
    rw [e1, e2, e3, e4, e5, if_neg (show ¬ n + 1 = 0 by omega)]
    have hz : ek (E (n : Int)) = 0 → n = 0 := fun hh => by have := q2.1.mp hh; omega
    have q17 := q1.1
    by_cases c0 : n = 0
    · rw [if_pos c0] at h1
      split <;> split <;> split <;> split <;> split <;> omega
    · rw [if_neg c0] at h1
      have k0 : ek (E (n : Int)) ≠ 0 := fun hh => c0 (hz hh)
      by_cases cb : ek (E (n : Int)) = 1 ∨ ek (E (n : Int)) = 2 ∨ ek (E (n : Int)) = 3 ∨ ek (E (n : Int)) = 5 ∨ ek (E (n : Int)) = 6
      · rw [if_pos cb, if_neg (by omega), if_neg (by omega), if_neg (by omega), if_neg (by omega)]
        omega
      · rw [if_neg cb]
        by_cases c4 : ek (E (n : Int)) = 4
        · rw [if_pos c4, if_neg (by omega), if_neg (by omega), if_neg (by omega)]; omega
        · rw [if_neg c4]
          by_cases c7 : ek (E (n : Int)) = 7
          · rw [if_pos c7, if_neg (by omega), if_neg (by omega)]; omega
          · rw [if_neg c7]
            by_cases c17 : ek (E (n : Int)) = 17
            · rw [if_pos c17, if_neg (by omega)]; omega
            · rw [if_neg c17, if_pos (by omega)]; omega
end HLG
