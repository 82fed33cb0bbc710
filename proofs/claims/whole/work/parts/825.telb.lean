/-! THE TELLING, plain: it fits, from counts of what the history has. -/
section TLB
variable {x : CX} {s s' S : TS} {B : Int} {E E' : Int → Ev} {N M i j k lim m n C R : Int}
/-- from where on: what is new, stuck or not -/
theorem nb_nl (hC : CXX x) (hp : NBx x s) (hP : BP x s B) : nl s ≤ 60 * csg x.2.1 (x.1 0).toNat + 73 * ccn x.2.1 (x.1 0).toNat + 1000 := by
  obtain ⟨p1, p2, p3, p4⟩ := hp
  have hb := hP.2.2.2.2.1
  have m1 := csg_m (E := x.2.1) ((x.1 0).toNat - (sg s 0 11).toNat) (sg s 0 11).toNat
  have m2 := ccn_m (E := x.2.1) ((x.1 0).toNat - (sg s 0 11).toNat) (sg s 0 11).toNat
  rw [show (sg s 0 11).toNat + ((x.1 0).toNat - (sg s 0 11).toNat) = (x.1 0).toNat by omega] at m1 m2
  have z1 := csg_m (E := x.2.1) (x.1 0).toNat 0
  have z2 := ccn_m (E := x.2.1) (x.1 0).toNat 0
  rw [Nat.zero_add] at z1 z2
  have z1 : 0 ≤ csg x.2.1 (x.1 0).toNat := z1
  have z2 : 0 ≤ ccn x.2.1 (x.1 0).toNat := z2
  rcases p4 with p4 | ⟨s1, a1, a2, a3, a4⟩
  · have hn : sn s = [] := by
      by_cases c : sg s 0 10 < x.1 1
      · exact p3 c
      · exact Classical.byContradiction fun hh => p4 ⟨p1.1.1.1 hh, by omega⟩
    have : nl s = 0 := by unfold nl; rw [hn]; rfl
    omega
  · obtain ⟨⟨b1, b2⟩, b, b0, bw, g2, g2', g3⟩ := a4
    have w1 := Wc_b (x := x) a3
    have w2 := Wc_b (x := x) hP.1.2.2.2.2.2.2.2.1
    have z3 := g3 f11 g11 0 1 0 1 pc11 pd11 (Int.le_refl _)
    have i1 := iE_mn (g := g11) (E := x.2.1) (fun r k a b => (g11_nn (r := r) (k := k) (a := a) (b := b)).1) ((sg s 0 12).toNat - (sg s1 0 12).toNat) (sg s1 0 12).toNat
    rw [show (sg s1 0 12).toNat + ((sg s 0 12).toNat - (sg s1 0 12).toNat) = (sg s 0 12).toNat by omega] at i1
    have hb1 : ∀ w n l : Int, 0 ≤ f11 w n l ∧ f11 w n l ≤ 1 := fun _ _ _ => by show (0 : Int) ≤ 1 ∧ (1 : Int) ≤ 1; decide
    have u1 := (pF_b01 (s := s) hb1 12 0).1
    have u2 := (pF_b01 (s := s1) hb1 12 0).2
    have j1 := iL_le (g := g11) (c := 1) (fun r k a b => (g11_nn (r := r) (k := k) (a := a) (b := b)).2) (sn s1) (x.1 0)
    have j3 := iL_11 (sn s) (x.1 0) p2.1
    have hl : ((sn s1).length : Int) ≤ 87 := a2.1
    have k2 : (if sg s1 0 11 = 0 ∧ 0 < sg s 0 11 then (f11 0 0 0 - 1) else 0) ≤ 0 := by split <;> decide
    have k4 : (if sg s1 0 11 = 0 ∧ 0 < sg s 0 11 then (61 : Int) else 0) ≤ 61 := by split <;> omega
    have c1 := csg_m (E := x.2.1) (sg s1 0 11).toNat 0
    have c2 := ccn_m (E := x.2.1) (sg s1 0 11).toNat 0
    rw [Nat.zero_add] at c1 c2
    have c1 : 0 ≤ csg x.2.1 (sg s1 0 11).toNat := c1
    have c2 : 0 ≤ ccn x.2.1 (sg s1 0 11).toNat := c2
    unfold PZ pI at z3
    rw [Int.zero_mul, Int.zero_mul, Int.zero_mul, Int.one_mul, Int.one_mul] at z3
    show ((sn s).length : Int) ≤ _
    omega
theorem told_nl (hC : CXX x) (hx : HLn x) (h2 : x.1 2 ≤ x.1 1) : nl (told x lim) ≤ 60 * csg x.2.1 (x.1 0).toNat + 73 * ccn x.2.1 (x.1 0).toNat + 15026 := by
  rcases fol_ind (P := NBx x) (lim := lim) hC (fun s B i hP hp hg _ i0 i1 i7 hi h3 => nb_step hC hx hP hg i0 i1 i7 hi h3 hp) (lim.toNat + 1) 0 s00 1 (bp00 hC.2.2.2.2.1) (nb00 hC hx h2) rfl with ⟨s', B', v, h1, h3, h4⟩ | ⟨s', B', j, h1, h3, h4, h5, h6, h7, h8⟩
  · have e : told x lim = st s' 0 28 v := h4
    have := nb_nl hC h1 h3
    rw [e]
    show nl s' ≤ _
    omega
  · have e : told x lim = sTake x j s' := h7
    have := nb_nl hC h1 h3
    have := nu_take hC h3 h6.1 h6.2.1 h6.2.2
    rw [e]
    omega
/-- one CANCEL at most -/
theorem HInv.ccn1 (h : HInv E N) : ∀ n : Nat, (n : Int) ≤ N → ccn E n = 0 ∨ (ccn E n = 1 ∧ ∃ j : Int, 0 ≤ j ∧ j < n ∧ ek (E j) = 7) := by
  intro n
  induction n with
  | zero => intro _; exact Or.inl rfl
  | succ n ih =>
    intro hn
    obtain ⟨-, -, h3, -⟩ := h.1 n (by omega) (by omega)
    have e1 : ccn E (n + 1) = ccn E n + if ek (E (n : Int)) = 7 then 1 else 0 := rfl
    rw [e1]
    by_cases c : ek (E (n : Int)) = 7
    · rw [if_pos c]
      rcases ih (by omega) with g | ⟨g, j, j0, j1, j2⟩
      · exact Or.inr ⟨by omega, n, by omega, by omega, c⟩
      · exact absurd j2 (h3 c j j0 j1)
    · rw [if_neg c]
      rcases ih (by omega) with g | ⟨g, j, j0, j1, j2⟩
      · exact Or.inl (by omega)
      · exact Or.inr ⟨by omega, j, j0, by omega, j2⟩
/-- blocks of arrivals behind a command: there a history was cut -/
def nbc (E : Int → Ev) : Nat → Int
  | 0 => 0
  | n + 1 => nbc E n + if ek (E (n : Int)) ≤ 7 ∧ 0 < n ∧ 8 ≤ ek (E ((n : Int) - 1)) ∧ ek (E ((n : Int) - 1)) ≤ 16 then 1 else 0
theorem nbl_le : ∀ n : Nat, (∀ i : Int, 0 ≤ i → i < n → ek (E i) ≤ 17) → nbl E n + (if n = 0 ∨ ek (E ((n : Int) - 1)) = 17 then 1 else 0) ≤ 1 + cT E n + nbc E n := by
  intro n
  induction n with
  | zero => intro _; show (0 : Int) + 1 ≤ 1 + 0 + 0; decide
  | succ n ih =>
    intro h
    have h1 := ih fun i i0 i1 => h i i0 (by omega)
    have h17 := h n (by omega) (by omega)
    have e1 : nbl E (n + 1) = nbl E n + if ek (E (n : Int)) ≤ 7 ∧ (n = 0 ∨ 7 < ek (E ((n : Int) - 1))) then 1 else 0 := rfl
    have e2 : nbc E (n + 1) = nbc E n + if ek (E (n : Int)) ≤ 7 ∧ 0 < n ∧ 8 ≤ ek (E ((n : Int) - 1)) ∧ ek (E ((n : Int) - 1)) ≤ 16 then 1 else 0 := rfl
    have e3 : cT E (n + 1) = if ek (E (n : Int)) = 17 then cT E n + 1 else cT E n := rfl
    rw [e1, e2, e3, show (((n + 1 : Nat) : Int) - 1) = (n : Int) by omega]
    by_cases c7 : ek (E (n : Int)) ≤ 7
    · rw [if_neg (show ¬ ek (E (n : Int)) = 17 by omega), if_neg (show ¬ (n + 1 = 0 ∨ ek (E (n : Int)) = 17) by omega)]
      by_cases c0 : n = 0
      · rw [if_pos (Or.inl c0)] at h1
        rw [if_pos ⟨c7, Or.inl c0⟩, if_neg (fun hh => by omega)]
        omega
      · have hp := h ((n : Int) - 1) (by omega) (by omega)
        by_cases cp : ek (E ((n : Int) - 1)) = 17
        · rw [if_pos (Or.inr cp)] at h1
          rw [if_pos ⟨c7, Or.inr (by omega)⟩, if_neg (fun hh => by omega)]
          omega
        · rw [if_neg (fun hh => hh.elim c0 cp)] at h1
          by_cases cq : 7 < ek (E ((n : Int) - 1))
          · rw [if_pos ⟨c7, Or.inr cq⟩, if_pos ⟨c7, by omega, by omega, by omega⟩]
            omega
          · rw [if_neg (fun hh => by omega), if_neg (fun hh => by omega)]
            omega
    · rw [if_neg (show ¬ (ek (E (n : Int)) ≤ 7 ∧ (n = 0 ∨ 7 < ek (E ((n : Int) - 1)))) from fun hh => c7 hh.1), if_neg (show ¬ (ek (E (n : Int)) ≤ 7 ∧ 0 < n ∧ 8 ≤ ek (E ((n : Int) - 1)) ∧ ek (E ((n : Int) - 1)) ≤ 16) from fun hh => c7 hh.1)]
      by_cases c17 : ek (E (n : Int)) = 17
      · rw [if_pos c17, if_pos (Or.inr c17)]
        split at h1 <;> omega
      · rw [if_neg c17, if_neg (fun hh => by omega)]
        split at h1 <;> omega
/-- a telling fits -/
theorem told_b (hC : CXX x) (h : HInv x.2.1 (x.1 0)) (h2 : x.1 2 ≤ x.1 1) {S D T : Int} (hS : csg x.2.1 (x.1 0).toNat ≤ S) (hD : cT x.2.1 (x.1 0).toNat ≤ D) (hT : nbc x.2.1 (x.1 0).toNat ≤ T) (hk : S + 2 * D + 2 * T ≤ 540) : TelB (told x lim) := by
  have hn := hC.2.2.2.2.1
  have hx := h.hl rfl rfl
  have hb := nbl_le (E := x.2.1) (x.1 0).toNat fun i i0 i1 => (h.1 i i0 (by omega)).1.1
  have hc : ccn x.2.1 (x.1 0).toNat ≤ 1 := by
    rcases h.ccn1 (x.1 0).toNat (by omega) with g | ⟨g, -⟩ <;> omega
  have h1 := told_nl (lim := lim) hC hx h2
  obtain ⟨b, q1, q2, q3⟩ := told_ln (lim := lim) hC hx h2
  have bT := cT_b (E := x.2.1) (x.1 0).toNat
  have z1 := csg_m (E := x.2.1) (x.1 0).toNat 0
  rw [Nat.zero_add] at z1
  have z1 : 0 ≤ csg x.2.1 (x.1 0).toNat := z1
  have z2 : ∀ n : Nat, 0 ≤ nbc x.2.1 n := by
    intro n
    induction n with
    | zero => exact Int.le_refl _
    | succ n ih =>
      show 0 ≤ nbc x.2.1 n + (if _ then (1 : Int) else 0)
      split <;> omega
  have z2 := z2 (x.1 0).toNat
  have hb' : nbl x.2.1 (x.1 0).toNat ≤ 1 + D + T := by split at hb <;> omega
  exact ⟨by omega, by omega, by omega⟩
end TLB
