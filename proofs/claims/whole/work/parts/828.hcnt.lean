/-! A HISTORY THAT IS AS IT SHOULD BE: its counts, as it is put to, cut, copied. -/
section HCN
variable {x : CX} {s s' S : TS} {B : Int} {E E' : Int → Ev} {N M i j k e lim m a b c C D T : Int} {ev : Ev} {g : Int → Int → Int → Int → Int}
/-- a command is last -/
def lcm (E : Int → Ev) (N : Int) : Int := if 0 < N ∧ 8 ≤ ek (E (N - 1)) ∧ ek (E (N - 1)) ≤ 16 then 1 else 0
/-- its counts: signals, TASKs, blocks behind a command, commands, what was opened -/
def HCt (E : Int → Ev) (N C D T : Int) : Prop := csg E N.toNat ≤ C ∧ cT E N.toNat ≤ D ∧ nbc E N.toNat + lcm E N ≤ T ∧ iE g11 E N.toNat ≤ 195000 ∧ nop E N.toNat ≤ 195000
theorem cts_to : ∀ n : Nat, (∀ i : Int, 0 ≤ i → i < n → E' i = E i) → csg E' n = csg E n ∧ nbc E' n = nbc E n ∧ (∀ g, iE g E' n = iE g E n) ∧ nop E' n = nop E n ∧ nbk E' n = nbk E n ∧ ccn E' n = ccn E n := by
  intro n
  induction n with
  | zero => intro _; exact ⟨rfl, rfl, fun _ => rfl, rfl, rfl, rfl⟩
  | succ n ih =>
    intro h
    obtain ⟨h1, h2, h3, h4, h5, h6⟩ := ih fun i i0 i1 => h i i0 (by omega)
    have en := h n (by omega) (by omega)
    have ep : n ≠ 0 → E' ((n : Int) - 1) = E ((n : Int) - 1) := fun hn => h _ (by omega) (by omega)
    refine ⟨?_, ?_, fun g => ?_, ?_, ?_, ?_⟩
    · show csg E' n + (if ek (E' (n : Int)) = 4 then (1 : Int) else 0) = csg E n + (if ek (E (n : Int)) = 4 then (1 : Int) else 0)
      rw [h1, en]
    · show nbc E' n + (if ek (E' (n : Int)) ≤ 7 ∧ 0 < n ∧ 8 ≤ ek (E' ((n : Int) - 1)) ∧ ek (E' ((n : Int) - 1)) ≤ 16 then (1 : Int) else 0) = nbc E n + (if ek (E (n : Int)) ≤ 7 ∧ 0 < n ∧ 8 ≤ ek (E ((n : Int) - 1)) ∧ ek (E ((n : Int) - 1)) ≤ 16 then (1 : Int) else 0)
      by_cases c : n = 0
      · rw [h2, if_neg (fun hh => by omega), if_neg (fun hh => by omega)]
      · rw [h2, en, ep c]
    · show iE g E' n + (if 8 ≤ ek (E' (n : Int)) ∧ ek (E' (n : Int)) ≤ 16 then g (n : Int) (ek (E' (n : Int))) (ex (E' (n : Int))) (ey (E' (n : Int))) else 0) = iE g E n + (if 8 ≤ ek (E (n : Int)) ∧ ek (E (n : Int)) ≤ 16 then g (n : Int) (ek (E (n : Int))) (ex (E (n : Int))) (ey (E (n : Int))) else 0)
      rw [h3 g, en]
    · show nop E' n + (if ek (E' (n : Int)) = 8 ∨ ek (E' (n : Int)) = 9 ∨ ek (E' (n : Int)) = 10 then (1 : Int) else 0) = nop E n + (if ek (E (n : Int)) = 8 ∨ ek (E (n : Int)) = 9 ∨ ek (E (n : Int)) = 10 then (1 : Int) else 0)
      rw [h4, en]
    · show nbk E' n + (if ek (E' (n : Int)) = 1 ∨ ek (E' (n : Int)) = 2 ∨ ek (E' (n : Int)) = 3 ∨ ek (E' (n : Int)) = 5 ∨ ek (E' (n : Int)) = 6 then (1 : Int) else 0) = nbk E n + (if ek (E (n : Int)) = 1 ∨ ek (E (n : Int)) = 2 ∨ ek (E (n : Int)) = 3 ∨ ek (E (n : Int)) = 5 ∨ ek (E (n : Int)) = 6 then (1 : Int) else 0)
      rw [h5, en]
    · show ccn E' n + (if ek (E' (n : Int)) = 7 then (1 : Int) else 0) = ccn E n + (if ek (E (n : Int)) = 7 then (1 : Int) else 0)
      rw [h6, en]
theorem nbc_m : ∀ (d n : Nat), nbc E n ≤ nbc E (n + d) := by
  intro d n
  induction d with
  | zero => exact Int.le_refl _
  | succ d ih =>
    have : nbc E (n + (d + 1)) = nbc E (n + d) + (if ek (E ((n + d : Nat) : Int)) ≤ 7 ∧ 0 < n + d ∧ 8 ≤ ek (E (((n + d : Nat) : Int) - 1)) ∧ ek (E (((n + d : Nat) : Int) - 1)) ≤ 16 then (1 : Int) else 0) := rfl
    rw [this]
    split <;> omega
theorem cT_m : ∀ (d n : Nat), cT E n ≤ cT E (n + d) := by
  intro d n
  induction d with
  | zero => exact Int.le_refl _
  | succ d ih =>
    have : cT E (n + (d + 1)) = (if ek (E ((n + d : Nat) : Int)) = 17 then cT E (n + d) + 1 else cT E (n + d)) := rfl
    rw [this]
    split <;> omega
theorem lcm_b : 0 ≤ lcm E N ∧ lcm E N ≤ 1 := by unfold lcm; split <;> decide
theorem HCt.to (h : HCt E N C D T) (hE : ∀ j : Int, 0 ≤ j → j < N → E' j = E j) : HCt E' N C D T := by
  obtain ⟨h1, h2, h3, h4, h5⟩ := h
  obtain ⟨g1, g2, g3, g4, -⟩ := cts_to (E := E) (E' := E') N.toNat fun i i0 i1 => hE i i0 (by omega)
  have g6 := (cc_to (E := E) (E' := E') N.toNat fun i i0 i1 => hE i i0 (by omega)).2.1
  have gl : lcm E' N = lcm E N := by
    unfold lcm
    by_cases c : 0 < N
    · rw [hE (N - 1) (by omega) (by omega)]
    · rw [if_neg (fun hh => c hh.1), if_neg (fun hh => c hh.1)]
  unfold HCt
  rw [g1, g2, g3, g4, g6, gl]
  exact ⟨h1, h2, h3, h4, h5⟩
/-- a history is cut -/
theorem HCt.cut (h : HCt E N C D T) (hm : M ≤ N) : HCt E M C D (T + 1) := by
  obtain ⟨h1, h2, h3, h4, h5⟩ := h
  have m1 := csg_m (E := E) (N.toNat - M.toNat) M.toNat
  have m2 := cT_m (E := E) (N.toNat - M.toNat) M.toNat
  have m3 := nbc_m (E := E) (N.toNat - M.toNat) M.toNat
  have m4 := iE_mn (g := g11) (E := E) (fun r k a b => (g11_nn (r := r) (k := k) (a := a) (b := b)).1) (N.toNat - M.toNat) M.toNat
  have m5 := (nop_m (E := E) (N.toNat - M.toNat) M.toNat).2
  rw [show M.toNat + (N.toNat - M.toNat) = N.toNat by omega] at m1 m2 m3 m4 m5
  have l1 := lcm_b (E := E) (N := N)
  have l2 := lcm_b (E := E) (N := M)
  exact ⟨by omega, by omega, by omega, by omega, by omega⟩
/-- a history is copied up to behind a TASK -/
theorem HCt.pre (h : HCt E N C D T) (hm : M ≤ N) (hl : lcm E M = 0) : HCt E M C D T := by
  obtain ⟨h1, h2, h3, h4, h5⟩ := h
  obtain ⟨k1, k2, k3, k4, k5⟩ := HCt.cut (T := T) ⟨h1, h2, h3, h4, h5⟩ hm
  have m3 := nbc_m (E := E) (N.toNat - M.toNat) M.toNat
  rw [show M.toNat + (N.toNat - M.toNat) = N.toNat by omega] at m3
  have l1 := lcm_b (E := E) (N := N)
  exact ⟨k1, k2, by omega, k4, k5⟩
theorem HCt.mono {C' D' T' : Int} (h : HCt E N C D T) (h1 : C ≤ C') (h2 : D ≤ D') (h3 : T ≤ T') : HCt E N C' D' T' := ⟨Int.le_trans h.1 h1, Int.le_trans h.2.1 h2, Int.le_trans h.2.2.1 h3, h.2.2.2⟩
/-- an arrival is put, or a TASK -/
theorem HCt.put (h : HCt E N C D T) (n0 : 0 ≤ N) (hk : ek ev ≤ 7 ∨ ek ev = 17) : HCt (Ev1 E N ev) (N + 1) (C + if ek ev = 4 then 1 else 0) (D + if ek ev = 17 then 1 else 0) T := by
  have e1 : ∀ j : Int, 0 ≤ j → j < N → Ev1 E N ev j = E j := fun j _ j1 => if_neg (by omega)
  obtain ⟨h1, h2, h3, h4, h5⟩ := h.to e1
  have hlc : lcm (Ev1 E N ev) N = lcm E N := by
    unfold lcm
    by_cases c : 0 < N
    · rw [e1 (N - 1) (by omega) (by omega)]
    · rw [if_neg (fun hh => c hh.1), if_neg (fun hh => c hh.1)]
  have eN : Ev1 E N ev ((N.toNat : Nat) : Int) = ev := if_pos (by omega)
  have en : (N + 1).toNat = N.toNat + 1 := by omega
  have el : lcm (Ev1 E N ev) (N + 1) = 0 := by
    unfold lcm
    rw [show N + 1 - 1 = N by omega, show Ev1 E N ev N = ev from if_pos rfl, if_neg (fun hh => by omega)]
  have ek0 : 0 ≤ ek ev := Int.natCast_nonneg _
  unfold HCt
  rw [en, el]
  refine ⟨?_, ?_, ?_, ?_, ?_⟩
  · show csg (Ev1 E N ev) N.toNat + (if ek (Ev1 E N ev ((N.toNat : Nat) : Int)) = 4 then (1 : Int) else 0) ≤ _
    rw [eN]; omega
  · show (if ek (Ev1 E N ev ((N.toNat : Nat) : Int)) = 17 then cT (Ev1 E N ev) N.toNat + 1 else cT (Ev1 E N ev) N.toNat) ≤ _
    rw [eN]
    split <;> omega
  · show nbc (Ev1 E N ev) N.toNat + (if ek (Ev1 E N ev ((N.toNat : Nat) : Int)) ≤ 7 ∧ 0 < N.toNat ∧ 8 ≤ ek (Ev1 E N ev (((N.toNat : Nat) : Int) - 1)) ∧ ek (Ev1 E N ev (((N.toNat : Nat) : Int) - 1)) ≤ 16 then (1 : Int) else 0) + 0 ≤ T
    rw [eN, show ((N.toNat : Nat) : Int) - 1 = N - 1 by omega]
    unfold lcm at h3
    by_cases c : ek ev ≤ 7 ∧ 0 < N.toNat ∧ 8 ≤ ek (Ev1 E N ev (N - 1)) ∧ ek (Ev1 E N ev (N - 1)) ≤ 16
    · rw [if_pos c]
      rw [if_pos ⟨by omega, c.2.2⟩] at h3
      omega
    · rw [if_neg c]
      split at h3 <;> omega
  · show iE g11 (Ev1 E N ev) N.toNat + (if 8 ≤ ek (Ev1 E N ev ((N.toNat : Nat) : Int)) ∧ ek (Ev1 E N ev ((N.toNat : Nat) : Int)) ≤ 16 then _ else (0 : Int)) ≤ _
    rw [eN, if_neg (fun hh => by omega)]
    omega
  · have : ¬ opk (ek (Ev1 E N ev ((N.toNat : Nat) : Int))) := by rw [eN]; unfold opk; omega
    rw [nop_n this]
    exact h5
/-- how long it is -/
theorem HCt.len (h : HCt E N C D T) (hi : HInv E N) (n0 : 0 ≤ N) : N ≤ 390003 + C + D := by
  obtain ⟨h1, h2, h3, h4, h5⟩ := h
  have k1 := hi.len N.toNat (by omega)
  have k2 := hi.nbk_le N.toNat (by omega)
  have k3 := hi.end1 N.toNat (by omega)
  have k4 := hi.ccn1 N.toNat (by omega)
  have k3 : iE gC1 E N.toNat ≤ iE g11 E N.toNat + 1 := by rcases k3 with g | ⟨g, -⟩ <;> omega
  have k4 : ccn E N.toNat ≤ 1 := by rcases k4 with g | ⟨g, -⟩ <;> omega
  split at k1 <;> omega
end HCN
