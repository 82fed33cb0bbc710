/-! THE TELLING, plain: changes that leave numbers and parents alone. -/
section CGR
variable {x : CX} {s s' s2 : TS} {B : Int} {a b c e i j v k h n l w p r t o q : Int} {P : Int → Bool}
def Cg (s s' : TS) : Prop := sg s' 0 5 = sg s 0 5 ∧ sg s' 0 6 = sg s 0 6 ∧ (∀ k : Int, 0 ≤ k → sg s' (2 + k) 0 = sg s (2 + k) 0) ∧ (∀ k : Int, 0 ≤ k → sg s' (2 + k) 2 = sg s (2 + k) 2) ∧ ∀ n : Int, sg s' (-1) n = sg s (-1) n
theorem Cg.rf : Cg s s := ⟨rfl, rfl, fun _ _ => rfl, fun _ _ => rfl, fun _ => rfl⟩
theorem Cg.tr (h : Cg s s') (g : Cg s' s2) : Cg s s2 := ⟨g.1.trans h.1, g.2.1.trans h.2.1, fun k hk => (g.2.2.1 k hk).trans (h.2.2.1 k hk), fun k hk => (g.2.2.2.1 k hk).trans (h.2.2.2.1 k hk), fun n => (g.2.2.2.2 n).trans (h.2.2.2.2 n)⟩
theorem Cg.of (h : ∀ a i : Int, (a = 0 ∧ (i = 5 ∨ i = 6)) ∨ (2 ≤ a ∧ (i = 0 ∨ i = 2)) ∨ a = -1 → sg s' a i = sg s a i) : Cg s s' :=
  ⟨h _ _ (by omega), h _ _ (by omega), fun k hk => h _ _ (by omega), fun k hk => h _ _ (by omega), fun n => h _ _ (by omega)⟩
theorem Cg.st (h : (a = 0 ∧ j ≠ 5 ∧ j ≠ 6) ∨ a = 1 ∨ (2 ≤ a ∧ j ≠ 0 ∧ j ≠ 2)) : Cg s (st s a j v) := Cg.of fun a' i hh => by rw [st_g, if_neg (by omega)]
theorem Cg.go (hk : 0 ≤ k) : Cg s (sGo k l s) := Cg.of fun a i hh => by rw [go_g, if_neg (by omega), if_neg (by omega)]
theorem Cg.wait (hk : 0 ≤ k) : Cg s (sWait k w n s) := Cg.of fun a i hh => by rw [wait_g, if_neg (by omega), if_neg (by omega)]
theorem Cg.cmd {k : Int} : Cg s (sCmd x k a b s).2 := Cg.of fun p i hh => cmd_g (by omega)
theorem Cg.stk : Cg s (sStuck s v) := (Cg.st (s := s) (a := 0) (j := 30) (v := 1) (by omega)).tr (Cg.st (by omega))
theorem Cg.fail (hk : 0 ≤ k) : Cg s (sFail x k s) := by
  unfold sFail
  split
  · exact ((Cg.go hk).tr (Cg.go hk)).tr (Cg.of fun _ _ _ => rfl)
  · have h := (Cg.go (s := s) (k := k) (l := sg s (2 + k) 4) hk).tr (Cg.cmd (x := x) (k := 15) (a := 0) (b := 0))
    generalize hr : sCmd x 15 0 0 (sGo k (sg s (2 + k) 4) s) = r at h
    obtain ⟨r, s1⟩ := r
    simp only at h ⊢
    split
    · exact h
    · exact h.tr (Cg.st (by omega))
theorem E9.cg (h : E9 s s') : Cg s s' := Cg.of fun a i hh => h.1 a i (by omega)
theorem Cg.find (h : Cg s s') : find s' v = find s v := by
  have key : ∀ (n : Nat) (k : Int), 0 ≤ k → sFind s' 0 v n k = sFind s 0 v n k := by
    intro n
    induction n with
    | zero => intro k _; rfl
    | succ n ih =>
      intro k hk
      unfold sFind
      rw [h.1, h.2.2.1 k hk, ih _ (by omega)]
  exact key 12 0 (by decide)
theorem wk_cg (h : ∀ n : Int, sg s' (-1) n = sg s (-1) n) : ∀ (n : Nat) (p : Int), wk s' P n p = wk s P n p := by
  intro n
  induction n with
  | zero => intro p; rfl
  | succ n ih =>
    intro p
    unfold wk
    rw [h, ih]
theorem blw_cg (h : ∀ n : Int, sg s' (-1) n = sg s (-1) n) : blw s' o p ↔ blw s o p := by
  unfold blw wkr
  rw [wk_cg h]
theorem Cg.nrr (h : Cg s s') : nr s' p = nr s p := by
  have e : thq s' = thq s := by
    funext v
    unfold thq
    rw [h.find]
  unfold nr wkr
  rw [e, wk_cg h.2.2.2.2]
theorem Cg.si (h : Cg s s') (hI : SI s) : SI s' := by
  refine ⟨fun i k i0 i1 i2 => ?_, fun n n0 n1 => ?_⟩
  · rw [h.2.2.1 i i0, h.2.2.1 k (by omega)]
    exact hI.1 i k i0 i1 (by rw [h.1] at i2; exact i2)
  · rw [h.2.2.2.2]
    exact hI.2 n n0 (by rw [h.2.1] at n1; exact n1)
theorem Cg.ab (h : Cg s s') (hA : AB s) : AB s' := by
  intro k k0 k1
  rw [h.2.2.2.1 k k0, h.2.2.1 k k0, h.find, h.nrr, h.2.2.2.2]
  exact hA k k0 (by rw [h.1] at k1; exact k1)
theorem Cg.nd (h : Cg s s') (h9 : ∀ k : Int, 0 ≤ k → sg s' (2 + k) 9 = sg s (2 + k) 9) (hN : ND s) : ND s' := by
  intro k k0 k1
  rw [h9 k k0]
  exact hN k k0 (by rw [h.1] at k1; exact k1)
theorem Cg.ri (h : Cg s s') (h3 : ∀ k : Int, 0 ≤ k → sg s' (2 + k) 3 = sg s (2 + k) 3 ∨ sg s' (2 + k) 3 = -1) (hW : 0 ≤ sg s 0 6) (hR : RI s) : RI s' := by
  intro k k0 k1
  rw [h.2.1]
  have := hR k k0 (by rw [h.1] at k1; exact k1)
  have := h3 k k0
  omega
theorem rem_p : sg (sRem k s) (-1) n = sg s (-1) n := by
  have e : sg (sRem k s) (-1) n = (if (-1 : Int) = 0 ∧ n = 5 then s.1 0 5 - 1 else if (2 : Int) ≤ -1 ∧ (-1 : Int) < 2 + (s.1 0 5 - 1) then
    (if n = 2 ∧ s.1 (if (-1 : Int) < 2 + k then -1 else -1 + 1) 2 = s.1 (2 + k) 0 then s.1 (2 + k) 2 else s.1 (if (-1 : Int) < 2 + k then -1 else -1 + 1) n) else s.1 (-1) n) := rfl
  rw [e, if_neg (by omega), if_neg (by omega)]
  rfl
theorem rem_si (hI : SI s) : SI (sRem k s) := by
  refine ⟨fun i j i0 i1 i2 => ?_, fun n n0 n1 => ?_⟩
  · rw [rem_5] at i2
    rw [rem_g i0 (by omega) (by decide), rem_g (by omega) i2 (by decide)]
    exact hI.1 _ _ (by split <;> omega) (by split <;> split <;> omega) (by split <;> omega)
  · rw [rem_o (Or.inl ⟨rfl, by decide, by decide⟩)] at n1
    rw [rem_p]
    exact hI.2 n n0 n1
/-- which are doomed -/
def DM (s : TS) (o : Int) : Prop := ∀ j : Int, 0 ≤ j → j < sg s 0 5 → (sg s (2 + j) 9 ≠ 0 ↔ blw s o (sg s (2 + j) 0))
theorem DM.cg (h : Cg s s') (h9 : ∀ k : Int, 0 ≤ k → sg s' (2 + k) 9 = sg s (2 + k) 9) (hD : DM s o) : DM s' o := by
  intro j j0 j1
  rw [h9 j j0, h.2.2.1 j j0, blw_cg h.2.2.2.2]
  exact hD j j0 (by rw [h.1] at j1; exact j1)
theorem DM.rem (hD : DM s o) : DM (sRem k s) o := by
  intro j j0 j1
  rw [rem_5] at j1
  rw [rem_g j0 j1 (by decide), rem_g j0 j1 (by decide), blw_cg (fun n => rem_p)]
  exact hD _ (by split <;> omega) (by split <;> omega)
theorem drop1_nd : ∀ (n : Nat) (k : Int), 0 ≤ k → ND s → sDrop1 x n k s = s := by
  intro n
  induction n with
  | zero => intro k _ _; rfl
  | succ n ih =>
    intro k k0 hN
    unfold sDrop1
    split
    · split
      · rw [if_neg (fun g => g.1 (hN k k0 (by assumption)))]
        exact ih _ (by omega) hN
      · rfl
    · rfl
theorem drop2_nd : ∀ (n : Nat) (k : Int), k < sg s 0 5 → ND s → sDrop2 n k s = s := by
  intro n
  induction n with
  | zero => intro k _ _; rfl
  | succ n ih =>
    intro k k0 hN
    unfold sDrop2
    split
    · rfl
    · rw [if_pos (hN k (by omega) k0)]
      exact ih _ (by omega) hN
theorem drop_nd (hN : ND s) : sDrop x s = s := by
  unfold sDrop
  simp only
  rw [drop1_nd 13 0 (by decide) hN]
  exact drop2_nd 13 _ (by omega) hN
end CGR
