/-! THE TELLING: what holds of the plain state all the time. -/
section WEL
variable {x : CX} {s s' : TS} {B B' : Int} {k j v l w n a b : Int}
def LineOk (c a b : Int) : Prop := 0 ≤ c ∧ c ≤ 23 ∧ 0 ≤ a ∧ a ≤ 100 ∧ 0 ≤ b ∧ b ≤ 999 ∧ ((c = 0 ∨ c = 1 ∨ c = 6 ∨ c = 18 ∨ c = 20 ∨ c = 23) → a ≤ 5) ∧ ((c = 1 ∨ c = 2 ∨ c = 4 ∨ c = 5 ∨ c = 14) → b ≤ 5) ∧ ((c = 2 ∨ c = 4 ∨ c = 5 ∨ c = 14) → a ≤ 3) ∧ ((c = 7 ∨ c = 8 ∨ c = 10 ∨ c = 12) → a ≤ 23) ∧ (c = 19 → a ≤ 9) ∧ ((c = 6 ∨ c = 19) → b ≤ 23) ∧ (c = 3 → 1 ≤ a)
def CodeW (x : CX) : Prop := ∀ i : Int, 0 ≤ i → i < x.1 5 → LineOk (x.2.2 i).1 (x.2.2 i).2.1 (x.2.2 i).2.2
def BrW (x : CX) (s : TS) (B k : Int) : Prop := (0 ≤ sg s (2 + k) 0 ∧ sg s (2 + k) 0 < sg s 0 6) ∧ (0 ≤ sg s (2 + k) 4 ∧ sg s (2 + k) 4 ≤ 24) ∧ (sg s (2 + k) 7 ≠ 0 → sg s (2 + k) 4 < x.1 5) ∧ (sg s (2 + k) 7 = 3 → 0 ≤ sg s (2 + k) 8 ∧ sg s (2 + k) 8 < 4) ∧ ((sg s (2 + k) 7 = 1 ∨ sg s (2 + k) 7 = 2) → sg s 0 30 = 0 → 0 ≤ sg s (2 + k) 8 ∧ sg s (2 + k) 8 < x.1 0 + ((sn s).length : Int)) ∧ (0 ≤ sg s (2 + k) 5 ∧ sg s (2 + k) 5 ≤ B) ∧ ∀ v ∈ sh s k, 0 ≤ v ∧ v ≤ 23
def SW (x : CX) (s : TS) (B : Int) : Prop := (0 ≤ sg s 0 12 ∧ sg s 0 12 ≤ x.1 0) ∧ (∀ a : Int, 0 ≤ a → a < 6 → 0 ≤ sg s 1 a ∧ sg s 1 a ≤ 999) ∧ (∀ k : Int, 0 ≤ k → k < sg s 0 5 → BrW x s B k) ∧ (∀ v ∈ su s, 0 ≤ v ∧ v < 4000) ∧ (∀ n : Int, 0 ≤ n → n < 4 → ∀ v ∈ sq s n, 0 ≤ v ∧ v ≤ 999) ∧ (0 ≤ sg s 0 6 ∧ sg s 0 6 ≤ B) ∧ (0 ≤ sg s 0 29 ∧ sg s 0 29 ≤ 60) ∧ (0 ≤ sg s 0 5 ∧ sg s 0 5 ≤ 12) ∧ (sg s 0 30 = 0 ∨ sg s 0 30 = 1) ∧ 0 ≤ sg s 0 10
theorem SW.mono (h : SW x s B) (hb : B ≤ B') : SW x s B' := by
  obtain ⟨h1, h2, h3, h4, h5, h6, h7, h8, h9, h10⟩ := h
  refine ⟨h1, h2, fun k g1 g2 => ?_, h4, h5, ⟨h6.1, by omega⟩, h7, h8, h9, h10⟩
  obtain ⟨k1, k2, k3, k4, k5, k6, k7⟩ := h3 k g1 g2
  exact ⟨k1, k2, k3, k4, k5, ⟨k6.1, by omega⟩, k7⟩
theorem SW.to (h : SW x s B) (e5 : sg s' 0 5 = sg s 0 5) (e6 : sg s' 0 6 = sg s 0 6) (e10 : sg s' 0 10 = sg s 0 10 ∨ 0 ≤ sg s' 0 10) (e30 : sg s' 0 30 = sg s 0 30 ∨ sg s' 0 30 = 1) (en : (sn s).length ≤ (sn s').length) (e12 : sg s' 0 12 = sg s 0 12 ∨ (0 ≤ sg s' 0 12 ∧ sg s' 0 12 ≤ x.1 0)) (e29 : sg s' 0 29 = sg s 0 29 ∨ (0 ≤ sg s' 0 29 ∧ sg s' 0 29 ≤ 60)) (ev : ∀ a : Int, 0 ≤ a → a < 6 → sg s' 1 a = sg s 1 a ∨ (0 ≤ sg s' 1 a ∧ sg s' 1 a ≤ 999)) (eu : ∀ v ∈ su s', 0 ≤ v ∧ v < 4000) (eq : ∀ n : Int, 0 ≤ n → n < 4 → ∀ v ∈ sq s' n, 0 ≤ v ∧ v ≤ 999) (eb : ∀ k : Int, 0 ≤ k → k < sg s 0 5 → ((∀ j : Int, sg s' (2 + k) j = sg s (2 + k) j) ∧ sh s' k = sh s k) ∨ BrW x s' B k) : SW x s' B := by
  obtain ⟨h1, h2, h3, h4, h5, h6, h7, h8, h9, h10⟩ := h
  refine ⟨by omega, fun a g1 g2 => by have := h2 a g1 g2; have := ev a g1 g2; omega, fun k g1 g2 => ?_, eu, eq, by rw [e6]; exact h6, by omega, by rw [e5]; exact h8, by omega, by omega⟩
  rw [e5] at g2
  rcases eb k g1 g2 with ⟨g3, g4⟩ | g3
  · obtain ⟨k1, k2, k3, k4, k5, k6, k7⟩ := h3 k g1 g2
    unfold BrW
    simp only [g3, g4, e6]
    refine ⟨k1, k2, k3, k4, fun c1 c2 => ?_, k6, k7⟩
    have := k5 c1 (by omega)
    omega
  · exact g3
theorem SW.br (h : SW x s B) (h0 : 0 ≤ k) (h1 : k < sg s 0 5) : BrW x s B k := h.2.2.1 k h0 h1
/-- a scalar that none of these look at -/
theorem SW.s0 (h : SW x s B) (h1 : j ≠ 5) (h2 : j ≠ 6) (h3 : j ≠ 12) (h4 : j ≠ 29) (h5 : j ≠ 30) (h6 : j ≠ 10 ∨ 0 ≤ v) : SW x (st s 0 j v) B := by
  have e : ∀ i, i ≠ j → sg (st s 0 j v) 0 i = sg s 0 i := fun i hi => if_neg fun hh => hi hh.2
  have e2 : ∀ a i, a ≠ 0 → sg (st s 0 j v) a i = sg s a i := fun a i ha => if_neg fun hh => ha hh.1
  exact h.to (e _ (Ne.symm h1)) (e _ (Ne.symm h2)) (by by_cases hj : j = 10; exact Or.inr (by rw [hj, st_g, if_pos ⟨rfl, rfl⟩]; omega); exact Or.inl (e _ (Ne.symm hj))) (Or.inl (e _ (Ne.symm h5))) (Nat.le_refl _) (Or.inl (e _ (Ne.symm h3))) (Or.inl (e _ (Ne.symm h4))) (fun a _ _ => Or.inl (e2 _ _ (by decide))) h.2.2.2.1 h.2.2.2.2.1 fun k g1 g2 => Or.inl ⟨fun i => e2 _ _ (by omega), rfl⟩
theorem SW.c12 (h : SW x s B) (h1 : 0 ≤ v) (h2 : v ≤ x.1 0) : SW x (st s 0 12 v) B := by
  have e2 : ∀ a i, a ≠ 0 → sg (st s 0 12 v) a i = sg s a i := fun a i ha => if_neg fun hh => ha hh.1
  exact h.to rfl rfl (Or.inl rfl) (Or.inl rfl) (Nat.le_refl _) (Or.inr ⟨h1, h2⟩) (Or.inl rfl) (fun a _ _ => Or.inl (e2 _ _ (by decide))) h.2.2.2.1 h.2.2.2.2.1 fun k g1 g2 => Or.inl ⟨fun i => e2 _ _ (by omega), rfl⟩
theorem SW.stk (h : SW x s B) : SW x (sStuck s v) B := by
  have e2 : ∀ a i, a ≠ 0 → sg (sStuck s v) a i = sg s a i := fun a i ha => by
    unfold sStuck
    rw [st_g, if_neg fun hh => ha hh.1, st_g, if_neg fun hh => ha hh.1]
  exact h.to rfl rfl (Or.inl rfl) (Or.inr rfl) (Nat.le_refl _) (Or.inl rfl) (Or.inl rfl) (fun a _ _ => Or.inl (e2 _ _ (by decide))) h.2.2.2.1 h.2.2.2.2.1 fun k g1 g2 => Or.inl ⟨fun i => e2 _ _ (by omega), rfl⟩
theorem SW.var (h : SW x s B) (h1 : 0 ≤ v) (h2 : v ≤ 999) : SW x (st s 1 j v) B := by
  have e2 : ∀ a i, a ≠ 1 → sg (st s 1 j v) a i = sg s a i := fun a i ha => if_neg fun hh => ha hh.1
  refine h.to (e2 _ _ (by decide)) (e2 _ _ (by decide)) (Or.inl (e2 _ _ (by decide))) (Or.inl (e2 _ _ (by decide))) (Nat.le_refl _) (Or.inl (e2 _ _ (by decide))) (Or.inl (e2 _ _ (by decide))) (fun a _ _ => ?_) h.2.2.2.1 h.2.2.2.2.1 fun k g1 g2 => Or.inl ⟨fun i => e2 _ _ (by omega), rfl⟩
  rw [st_g]
  split
  · exact Or.inr ⟨h1, h2⟩
  · exact Or.inl rfl
/-- one branch's slots alone -/
theorem SW.b1 (h : SW x s B) (e : ∀ a i : Int, a ≠ 2 + k → sg s' a i = sg s a i) (eh : ∀ i, i ≠ k → sh s' i = sh s i) (er : s'.2.2 = s.2.2) (hk : 0 ≤ k) (hb : k < sg s 0 5 → BrW x s' B k) : SW x s' B := by
  have en : sn s' = sn s := by unfold sn; rw [er]
  refine h.to (e _ _ (by omega)) (e _ _ (by omega)) (Or.inl (e _ _ (by omega))) (Or.inl (e _ _ (by omega))) (by rw [en]; exact Nat.le_refl _) (Or.inl (e _ _ (by omega))) (Or.inl (e _ _ (by omega))) (fun a _ _ => Or.inl (e _ _ (by omega))) (by unfold su; rw [er]; exact h.2.2.2.1) (by unfold sq; rw [er]; exact h.2.2.2.2.1) fun k' g1 g2 => ?_
  by_cases hkk : k' = k
  · rw [hkk] at g2 ⊢
    exact Or.inr (hb g2)
  · exact Or.inl ⟨fun i => e _ _ (by omega), eh _ hkk⟩
theorem go_g {i : Int} : sg (sGo k l s) a i = if a = 2 + k ∧ i = 4 then l else if a = 2 + k ∧ i = 7 then 0 else sg s a i := by
  unfold sGo
  rw [st_g, st_g]
theorem wait_g {i : Int} : sg (sWait k w n s) a i = if a = 2 + k ∧ i = 8 then n else if a = 2 + k ∧ i = 7 then w else sg s a i := by
  unfold sWait
  rw [st_g, st_g]
theorem SW.go (h : SW x s B) (hk : 0 ≤ k) (h1 : 0 ≤ l) (h2 : l ≤ 24) : SW x (sGo k l s) B := by
  refine h.b1 (k := k) (fun a i ha => by rw [go_g, if_neg (fun hh => ha hh.1), if_neg (fun hh => ha hh.1)]) (fun i _ => rfl) rfl hk fun hk2 => ?_
  obtain ⟨k1, k2, k3, k4, k5, k6, k7⟩ := h.br hk hk2
  have e7 : sg (sGo k l s) (2 + k) 7 = 0 := by rw [go_g, if_neg (by omega), if_pos ⟨rfl, rfl⟩]
  have e4 : sg (sGo k l s) (2 + k) 4 = l := by rw [go_g, if_pos ⟨rfl, rfl⟩]
  have e : ∀ i, i ≠ 4 → i ≠ 7 → sg (sGo k l s) (2 + k) i = sg s (2 + k) i := fun i g1 g2 => by rw [go_g, if_neg (by omega), if_neg (by omega)]
  have e06 : sg (sGo k l s) 0 6 = sg s 0 6 := by rw [go_g, if_neg (by omega), if_neg (by omega)]
  unfold BrW
  rw [e7, e4, e 0 (by decide) (by decide), e 5 (by decide) (by decide), e06]
  exact ⟨k1, ⟨h1, h2⟩, fun c => absurd rfl c, fun c => by omega, fun c => by omega, k6, k7⟩
theorem SW.wait (h : SW x s B) (hk : 0 ≤ k) (h0 : k < sg s 0 5 → sg s (2 + k) 4 < x.1 5) (h3 : w = 3 → 0 ≤ n ∧ n < 4) (h1 : (w = 1 ∨ w = 2) → sg s 0 30 = 0 → 0 ≤ n ∧ n < x.1 0 + ((sn s).length : Int)) : SW x (sWait k w n s) B := by
  refine h.b1 (k := k) (fun a i ha => by rw [wait_g, if_neg (fun hh => ha hh.1), if_neg (fun hh => ha hh.1)]) (fun i _ => rfl) rfl hk fun hk2 => ?_
  obtain ⟨k1, k2, k3, k4, k5, k6, k7⟩ := h.br hk hk2
  have e7 : sg (sWait k w n s) (2 + k) 7 = w := by rw [wait_g, if_neg (by omega), if_pos ⟨rfl, rfl⟩]
  have e8 : sg (sWait k w n s) (2 + k) 8 = n := by rw [wait_g, if_pos ⟨rfl, rfl⟩]
  have e : ∀ i, i ≠ 8 → i ≠ 7 → sg (sWait k w n s) (2 + k) i = sg s (2 + k) i := fun i g1 g2 => by rw [wait_g, if_neg (by omega), if_neg (by omega)]
  have e0 : ∀ i, sg (sWait k w n s) 0 i = sg s 0 i := fun i => by rw [wait_g, if_neg (by omega), if_neg (by omega)]
  unfold BrW
  rw [e7, e8, e 0 (by decide) (by decide), e 5 (by decide) (by decide), e 4 (by decide) (by decide), e0, e0]
  exact ⟨k1, k2, fun _ => h0 hk2, h3, h1, k6, k7⟩
theorem SW.hd {t : List Int} (h : SW x s B) (hk : 0 ≤ k) (ht : ∀ v ∈ t, 0 ≤ v ∧ v ≤ 23) : SW x (sth s k t) B := by
  refine h.b1 (k := k) (fun a i _ => rfl) (fun i hi => if_neg hi) rfl hk fun hk2 => ?_
  obtain ⟨k1, k2, k3, k4, k5, k6, k7⟩ := h.br hk hk2
  refine ⟨k1, k2, k3, k4, k5, k6, fun v hv => ?_⟩
  have e : sh (sth s k t) k = t := if_pos rfl
  rw [e] at hv
  exact ht v hv
/-- the next command is at a place of the history, or behind it -/
theorem nxc_b {x : CX} : ∀ (n : Nat) (i : Int), (x.1 0 - i).toNat = n → i ≤ nxc x n i ∧ (nxc x n i ≤ x.1 0 ∨ nxc x n i = i) := by
  intro n
  induction n with
  | zero => intro i h; exact ⟨Int.le_refl _, Or.inr rfl⟩
  | succ n ih =>
    intro i h
    have hi : i < x.1 0 := by omega
    have := ih (i + 1) (by omega)
    unfold nxc
    rw [if_pos hi]
    split
    · split
      · omega
      · omega
    · omega
theorem nc_b (h0 : a ≤ x.1 0) : a ≤ nc x a ∧ nc x a ≤ x.1 0 := by
  have := nxc_b (x := x) _ a rfl
  unfold nc
  omega
/-- what a command leaves alone -/
theorem cmd_g {c a b : Int} {p q : Int} (h : p ≠ 0 ∨ (q ≠ 12 ∧ q ≠ 30 ∧ q ≠ 31)) : sg (sCmd x c a b s).2 p q = sg s p q := by
  have e12 : ∀ v, sg (st s 0 12 v) p q = sg s p q := fun v => if_neg (by omega)
  have eS : ∀ (s : TS) (v : Int), sg (sStuck s v) p q = sg s p q := fun s v => by
    unfold sStuck
    rw [st_g, if_neg (by omega), st_g, if_neg (by omega)]
  unfold sCmd
  split
  · split
    · show sg (st _ 0 12 _) p q = _
      rw [st_g, if_neg (by omega)]
      exact e12 _
    · exact (eS _ _).trans (e12 _)
  · split
    · exact (eS _ _).trans (e12 _)
    · exact e12 _
theorem cmd_l {c a b : Int} : (sCmd x c a b s).2.2.1 = s.2.1 ∧ (sCmd x c a b s).2.2.2.1 = s.2.2.1 ∧ (sCmd x c a b s).2.2.2.2.1 = s.2.2.2.1 := by
  unfold sCmd
  split
  · split <;> exact ⟨rfl, rfl, rfl⟩
  · split <;> exact ⟨rfl, rfl, rfl⟩
theorem seen_b (hs : x.1 3 ≤ x.1 0) : sSeen x s ≤ x.1 0 := by
  unfold sSeen
  split
  · exact hs
  · exact Int.le_refl _
/-- a command is met or new: its number; or the run is stuck -/
theorem cmd_r {c a b : Int} (hW : SW x s B) (hs : x.1 3 ≤ x.1 0) (hN : 0 ≤ x.1 0) : ((sCmd x c a b s).1 = -1 ∧ sg (sCmd x c a b s).2 0 30 = 1 ∧ sn (sCmd x c a b s).2 = sn s) ∨ (0 ≤ (sCmd x c a b s).1 ∧ (sCmd x c a b s).1 < x.1 0 + ((sn (sCmd x c a b s).2).length : Int) ∧ sg (sCmd x c a b s).2 0 30 = sg s 0 30 ∧ sg (sCmd x c a b s).2 0 31 = sg s 0 31) := by
  have hb := nc_b hW.1.2
  have h12 := hW.1
  have hse := seen_b (s := s) hs
  unfold sCmd
  split
  · rename_i h1
    split
    · right
      refine ⟨by show 0 ≤ nc x _; omega, ?_, rfl, rfl⟩
      show nc x _ < x.1 0 + ((sn s).length : Int)
      omega
    · left
      exact ⟨rfl, rfl, rfl⟩
  · split
    · left
      exact ⟨rfl, rfl, rfl⟩
    · right
      refine ⟨by show 0 ≤ x.1 0 + ((sn s).length : Int); omega, ?_, rfl, rfl⟩
      show x.1 0 + ((sn s).length : Int) < x.1 0 + ((sn s ++ [(c, a, b)]).length : Int)
      rw [List.length_append]
      simp only [List.length_cons, List.length_nil]
      omega
theorem SW.cmd {c a b : Int} (hW : SW x s B) (hs : x.1 3 ≤ x.1 0) : SW x (sCmd x c a b s).2 B := by
  have hb := nc_b hW.1.2
  have h12 := hW.1
  have hse := seen_b (s := s) hs
  unfold sCmd
  split
  · rename_i h1
    split
    · exact (hW.c12 (by omega) hb.2).c12 (by omega) (by omega)
    · exact (hW.c12 (by omega) hb.2).stk
  · split
    · exact (hW.c12 (by omega) hb.2).stk
    · have h9 := hW.c12 (v := nc x (sg s 0 12)) (by omega) hb.2
      refine h9.to rfl rfl (Or.inl rfl) (Or.inl rfl) ?_ (Or.inl rfl) (Or.inl rfl) (fun _ _ _ => Or.inl rfl) h9.2.2.2.1 h9.2.2.2.2.1 fun k g1 g2 => Or.inl ⟨fun _ => rfl, rfl⟩
      show (sn s).length ≤ (sn s ++ [(c, a, b)]).length
      rw [List.length_append]
      omega
theorem cmd_n {c a b : Int} : (sn s).length ≤ (sn (sCmd x c a b s).2).length := by
  unfold sCmd
  split
  · split <;> exact Nat.le_refl _
  · split
    · exact Nat.le_refl _
    · show (sn s).length ≤ (sn s ++ [(c, a, b)]).length
      rw [List.length_append]
      omega
end WEL
