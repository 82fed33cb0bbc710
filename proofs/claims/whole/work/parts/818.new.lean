/-! THE TELLING, plain: how much is new at most. -/
section NWB
variable {x : CX} {s s' s0 s1 s2 S : TS} {B : Int} {a b c d e i j v k h l w p r t o q u kd lim m N ω κ γ δ : Int} {F T Z : Prop} {E : Int → Ev} {f : Int → Int → Int → Int} {g : Int → Int → Int → Int → Int}
def f11 : Int → Int → Int → Int := fun _ _ _ => 1
def g11 (r k a b : Int) : Int := if k < 14 then 1 else 0
theorem g11_nn : 0 ≤ g11 r k a b ∧ g11 r k a b ≤ 1 := by unfold g11; split <;> decide
theorem pc11 : PC x f11 g11 0 1 F T Z := by
  refine ⟨⟨trivial, by decide⟩, fun w n l hw => ⟨rfl, by show (0 : Int) ≤ 1; decide⟩, fun r w n l hw _ _ _ _ => g11_nn.2, fun l l' _ _ _ _ => by show (1 : Int) ≤ 1 + 1; decide, fun l _ _ => ⟨by show (1 : Int) ≤ 1 + 1; decide, by show (1 : Int) ≤ 1 + 1; decide, by show (1 : Int) + 0 ≤ 1; decide, by show (1 : Int) ≤ 1; decide⟩, fun l l' _ _ _ _ => by show (1 : Int) + 1 ≤ 1 + 1; decide, fun r l k a b hr _ _ _ _ _ => ⟨fun _ hk => ?_, fun _ hk => ?_, fun hk => ?_⟩, fun r k a b _ _ _ _ k0 k1 => ?_⟩
  · have := (g11_nn (r := r) (k := k) (a := a) (b := b)).2
    show 1 + g11 r k a b ≤ 1 + 1
    omega
  · have := (g11_nn (r := r) (k := 8) (a := a) (b := b)).2
    show 1 + g11 r 8 a b ≤ 1 + 1
    omega
  · have := (g11_nn (r := r) (k := k) (a := a) (b := b)).2
    show 1 + g11 r k a b ≤ 1 + 1
    omega
  · have : g11 r k a b = 0 := if_neg (by omega)
    omega
theorem pd11 : PD x f11 g11 F T (fun _ => 0) 1 := by
  refine ⟨by decide, fun w n l l' hw _ _ _ _ => by show (1 : Int) ≤ 1 + 0; decide, fun r w n l l' _ _ _ _ => ⟨fun hw _ _ _ _ => ?_, fun hw => by show (1 : Int) ≤ 1 + 1; decide⟩⟩
  have := (g11_nn (r := r) (k := 11) (a := n) (b := 0)).2
  show g11 r 11 n 0 + 1 ≤ 1 + 1
  omega
def f33 (w n l : Int) : Int := if w = 1 ∨ w = 2 then 0 else 1
def g33 (r k a b : Int) : Int := if k = 8 ∨ k = 9 ∨ k = 10 then 2 else 0
theorem f33_0 (h : ¬ (w = 1 ∨ w = 2)) : f33 w t l = 1 := if_neg h
theorem f33_w (h : w = 1 ∨ w = 2) : f33 w t l = 0 := if_pos h
theorem g33_o (h : k = 8 ∨ k = 9 ∨ k = 10) : g33 r k a b = 2 := if_pos h
theorem g33_n (h : ¬ (k = 8 ∨ k = 9 ∨ k = 10)) : g33 r k a b = 0 := if_neg h
theorem pc33 : PC x f33 g33 0 1 F T Z := by
  refine ⟨⟨trivial, by decide⟩, fun w n l hw => ⟨by rw [f33_0 hw, f33_0 hw], by rw [f33_0 hw]; decide⟩, fun r w n l hw _ _ _ _ => by rw [g33_n (by omega), f33_w hw]; exact Int.le_refl _, fun l l' _ _ _ _ => by rw [f33_0 (by omega), f33_0 (by omega)]; decide, fun l _ _ => by rw [f33_0 (by omega), f33_0 (by omega), f33_0 (by omega), f33_0 (by omega)]; exact ⟨by decide, by decide, by decide, by decide⟩, fun l l' _ _ _ _ => by rw [f33_0 (by omega), f33_0 (by omega), f33_0 (by omega)]; decide, fun r l k a b hr _ _ _ _ _ => ⟨fun _ hk => ?_, fun _ hk => ?_, fun hk => ?_⟩, fun r k a b _ _ _ _ k0 k1 => by rw [g33_n (by omega)]; exact Int.le_refl _⟩
  · rw [f33_w (Or.inl rfl), g33_o hk, f33_0 (by omega)]; decide
  · rw [f33_w (Or.inr rfl), g33_o (Or.inl rfl), f33_0 (by omega)]; decide
  · rw [f33_0 (by omega), g33_n (by omega), f33_0 (by omega)]; decide
theorem pd33 : PD x f33 g33 F T (fun _ => 1) 1 := by
  refine ⟨by decide, fun w n l l' hw _ _ _ _ => ?_, fun r w n l l' _ _ _ _ => ⟨fun hw _ _ _ _ => ?_, fun hw => ?_⟩⟩
  · rw [f33_0 (by omega), f33_w hw]
    show (1 : Int) ≤ 0 + 1
    decide
  · rw [g33_n (by omega), f33_0 (by omega), f33_w hw]; decide
  · rw [f33_0 (by omega), f33_0 hw]; decide
theorem pF_b01 (hf : ∀ w n l : Int, 0 ≤ f w n l ∧ f w n l ≤ 1) : ∀ (n : Nat) (k : Int), 0 ≤ pF f s n k ∧ pF f s n k ≤ n := by
  intro n
  induction n with
  | zero => intro k; exact ⟨Int.le_refl _, Int.le_refl _⟩
  | succ n ih =>
    intro k
    have h1 := ih (k + 1)
    have h2 : 0 ≤ pv f s k ∧ pv f s k ≤ 1 := by
      unfold pv
      split
      · exact hf _ _ _
      · decide
    show 0 ≤ pv f s k + pF f s n (k + 1) ∧ pv f s k + pF f s n (k + 1) ≤ _
    omega
theorem f33_b : 0 ≤ f33 w t l ∧ f33 w t l ≤ 1 := by unfold f33; split <;> decide
/-- from what was commanded to what is new -/
theorem iE_mn (h : ∀ r k a b : Int, 0 ≤ g r k a b) : ∀ (d n : Nat), iE g E n ≤ iE g E (n + d) := by
  intro d
  induction d with
  | zero => intro n; exact Int.le_refl _
  | succ d ih =>
    intro n
    have h1 := ih n
    have h2 : iE g E (n + (d + 1)) = iE g E (n + d) + (if 8 ≤ ek (E ((n + d : Nat) : Int)) ∧ ek (E ((n + d : Nat) : Int)) ≤ 16 then g ((n + d : Nat) : Int) (ek (E ((n + d : Nat) : Int))) (ex (E ((n + d : Nat) : Int))) (ey (E ((n + d : Nat) : Int))) else 0) := rfl
    rw [h2]
    split
    · have := h ((n + d : Nat) : Int) (ek (E ((n + d : Nat) : Int))) (ex (E ((n + d : Nat) : Int))) (ey (E ((n + d : Nat) : Int)))
      omega
    · omega
theorem iL_11 : ∀ (L : List (Int × Int × Int)) (r : Int), EnL L → (L.length : Int) ≤ iL g11 r L + 1 := by
  have key : ∀ (L : List (Int × Int × Int)) (r : Int), NEn L → iL g11 r L = (L.length : Int) := by
    intro L
    induction L with
    | nil => intro r _; rfl
    | cons z L ih =>
      intro r h
      show g11 r z.1 z.2.1 z.2.2 + iL g11 (r + 1) L = ((L.length + 1 : Nat) : Int)
      have h1 := h z (List.mem_cons_self ..)
      rw [ih (r + 1) fun y hy => h y (List.mem_cons_of_mem _ hy)]
      have : g11 r z.1 z.2.1 z.2.2 = 1 := if_pos (by omega)
      omega
  intro L r h
  rcases h with h | ⟨M, z, h1, h2, h3, h4⟩
  · rw [key L r h]; omega
  · obtain ⟨z1, z2, z3⟩ := z
    rw [h1, iL_app, key M r h2, List.length_append]
    simp only [List.length_cons, List.length_nil]
    have := (g11_nn (r := r + (M.length : Int)) (k := z1) (a := z2) (b := z3)).1
    omega
theorem g33_nn : ∀ r k a b : Int, 0 ≤ g33 r k a b := fun r k a b => by unfold g33; split <;> decide
theorem iL_le (h : ∀ r k a b : Int, g r k a b ≤ c) : ∀ (L : List (Int × Int × Int)) (r : Int), iL g r L ≤ c * L.length := by
  intro L
  induction L with
  | nil => intro r; show (0 : Int) ≤ c * 0; omega
  | cons z L ih =>
    intro r
    have h1 := ih (r + 1)
    have h2 := h r z.1 z.2.1 z.2.2
    show g r z.1 z.2.1 z.2.2 + iL g (r + 1) L ≤ c * ((L.length + 1 : Nat) : Int)
    rw [Int.natCast_add, Int.mul_add]
    omega
theorem ok12 : OKH x (fun s => sg s 0 12 ≤ c) := by
  refine ⟨fun s s' _ h2 _ _ => by simp only; rw [h2], fun s k a b h => ?_, fun s v h => ?_⟩
  · have e1 : sg s 0 12 ≤ nc x (sg s 0 12) := by
      by_cases cc : sg s 0 12 ≤ x.1 0
      · exact (nc_b cc).1
      · rw [nc_end (by omega)]; exact Int.le_refl _
    have estk : ∀ v : Int, sg (sStuck (st s 0 12 (nc x (sg s 0 12))) v) 0 12 = nc x (sg s 0 12) := fun v => by
      unfold sStuck
      rw [st_g, if_neg (by omega), st_g, if_neg (by omega), st_g, if_pos ⟨rfl, rfl⟩]
    have key : nc x (sg s 0 12) ≤ sg (sCmd x k a b s).2 0 12 := by
      unfold sCmd
      split
      · split
        · show _ ≤ sg (st (st s 0 12 (nc x (sg s 0 12))) 0 12 (nc x (sg s 0 12) + 1)) 0 12
          rw [st_g, if_pos ⟨rfl, rfl⟩]
          omega
        · show _ ≤ sg (sStuck (st s 0 12 (nc x (sg s 0 12))) (nc x (sg s 0 12))) 0 12
          rw [estk]; exact Int.le_refl _
      · split
        · show _ ≤ sg (sStuck (st s 0 12 (nc x (sg s 0 12))) (tb x (sg s 0 10))) 0 12
          rw [estk]; exact Int.le_refl _
        · show _ ≤ sg (st s 0 12 (nc x (sg s 0 12))) 0 12
          rw [st_g, if_pos ⟨rfl, rfl⟩]; exact Int.le_refl _
    exact Int.le_trans e1 (Int.le_trans key h)
  · unfold sStuck at h
    simp only at h
    rw [st_g, if_neg (by omega), st_g, if_neg (by omega)] at h
    exact h
theorem mono12 (hC : CXX x) (hP : BP x s B) (i0 : sg s 0 11 ≤ i) (i1 : i < x.1 0) (hi7 : ek (x.2.1 i) ≤ 7) : sg s 0 12 ≤ sg (sTake x i s) 0 12 :=
  have O := ok12 (x := x) (c := sg (sTake x i s) 0 12)
  o_noted O hC hP i0 i1 hi7 (o_taken O hC hP i0 i1 hi7 (o_take O (Int.le_refl _)))
/-- where all of the history was met and counted -/
def far1 (x : CX) (s : TS) : Prop := x.1 0 ≤ nc x (sg s 0 12) ∧ x.1 1 ≤ sg s 0 10
/-- from the first state where all was met on, what is new is bounded by the signals that came since -/
def NBx (x : CX) (s : TS) : Prop := LNx x s ∧ (EnL (sn s) ∧ (sg s 0 9 = 0 → NEn (sn s))) ∧ (sg s 0 10 < x.1 1 → sn s = []) ∧ (¬ far1 x s ∨ ∃ s1 : TS, (far1 x s1 ∧ x.1 1 ≤ cA x.2.1 (sg s1 0 11).toNat) ∧ (nl s1 ≤ 87 ∧ sg s1 0 12 ≤ sg s 0 12) ∧ (0 ≤ sg s1 0 5 ∧ sg s1 0 5 ≤ 12) ∧ SG2 x s1 s)
end NWB
