/-! THE TELLING, plain: a potential: what is commanded, what branches bear, what signals are consumed, what lines cost: its parts. -/
section PTA
variable {x : CX} {s s' s1 s2 : TS} {B : Int} {a b c d e i j v k h l w p r t o q u kd ω κ : Int} {f : Int → Int → Int → Int} {g : Int → Int → Int → Int → Int} {E : Int → Ev} {L : List (Int × Int × Int)}
/-- what a branch bears; all of them -/
def pv (f : Int → Int → Int → Int) (s : TS) (i : Int) : Int := if i < sg s 0 5 then f (sg s (2 + i) 7) (sg s (2 + i) 8) (sg s (2 + i) 4) else 0
def pF (f : Int → Int → Int → Int) (s : TS) : Nat → Int → Int
  | 0, _ => 0
  | n + 1, k => pv f s k + pF f s n (k + 1)
theorem pv_i (h : i < sg s 0 5) : pv f s i = f (sg s (2 + i) 7) (sg s (2 + i) 8) (sg s (2 + i) 4) := if_pos h
theorem pv_o (h : ¬ i < sg s 0 5) : pv f s i = 0 := if_neg h
theorem pv_same (h5 : sg s' 0 5 = sg s 0 5) (h7 : sg s' (2 + i) 7 = sg s (2 + i) 7) (h8 : sg s' (2 + i) 8 = sg s (2 + i) 8) (h4 : sg s' (2 + i) 4 = sg s (2 + i) 4) : pv f s' i = pv f s i := by
  unfold pv
  rw [h5, h7, h8, h4]
theorem pF_out (h : ∀ i : Int, i ≠ k → 0 ≤ i → pv f s' i = pv f s i) : ∀ (n : Nat) (j : Int), k < j → 0 ≤ j → pF f s' n j = pF f s n j := by
  intro n
  induction n with
  | zero => intro j _ _; rfl
  | succ n ih =>
    intro j h0 h1
    show pv f s' j + pF f s' n (j + 1) = pv f s j + pF f s n (j + 1)
    rw [ih (j + 1) (by omega) (by omega), h j (by omega) h1]
theorem pF_in (h : ∀ i : Int, i ≠ k → 0 ≤ i → pv f s' i = pv f s i) : ∀ (n : Nat) (j : Int), j ≤ k → k < j + n → 0 ≤ j → pF f s' n j = pF f s n j - pv f s k + pv f s' k := by
  intro n
  induction n with
  | zero => intro j h0 h1; omega
  | succ n ih =>
    intro j h0 h1 h2
    show pv f s' j + pF f s' n (j + 1) = pv f s j + pF f s n (j + 1) - pv f s k + pv f s' k
    by_cases c : j = k
    · have := pF_out h n (j + 1) (by omega) (by omega)
      rw [c] at this ⊢
      omega
    · have := ih (j + 1) (by omega) (by omega) (by omega)
      have := h j c h2
      omega
theorem pF_eq (h : ∀ i : Int, 0 ≤ i → pv f s' i = pv f s i) : pF f s' 12 0 = pF f s 12 0 := pF_out (k := -1) (fun i _ i0 => h i i0) 12 0 (by decide) (by decide)
theorem pF_same (h5 : sg s' 0 5 = sg s 0 5) (h : ∀ i q : Int, 0 ≤ i → (q = 4 ∨ q = 7 ∨ q = 8) → sg s' (2 + i) q = sg s (2 + i) q) : pF f s' 12 0 = pF f s 12 0 := pF_eq fun i i0 => pv_same h5 (h i 7 i0 (by omega)) (h i 8 i0 (by omega)) (h i 4 i0 (by omega))
theorem pF_at (h5 : sg s' 0 5 = sg s 0 5) (h : ∀ i q : Int, 0 ≤ i → i ≠ k → (q = 4 ∨ q = 7 ∨ q = 8) → sg s' (2 + i) q = sg s (2 + i) q) (k0 : 0 ≤ k) (k1 : k < 12) : pF f s' 12 0 = pF f s 12 0 - pv f s k + pv f s' k :=
  pF_in (fun i hi i0 => pv_same h5 (h i 7 i0 hi (by omega)) (h i 8 i0 hi (by omega)) (h i 4 i0 hi (by omega))) 12 0 k0 (by omega) (by decide)
theorem rem_pF1 : ∀ (n : Nat) (j : Int), 0 ≤ k → k ≤ j → pF f (sRem k s) n j = pF f s n (j + 1) := by
  intro n
  induction n with
  | zero => intro j _ _; rfl
  | succ n ih =>
    intro j k0 h
    show pv f (sRem k s) j + pF f (sRem k s) n (j + 1) = pv f s (j + 1) + pF f s n (j + 1 + 1)
    rw [ih (j + 1) k0 (by omega)]
    have : pv f (sRem k s) j = pv f s (j + 1) := by
      by_cases c : j < sg s 0 5 - 1
      · rw [pv_i (by rw [rem_5]; exact c), pv_i (s := s) (by omega), rem_g (by omega) c (by decide), rem_g (by omega) c (by decide), rem_g (by omega) c (by decide), if_neg (show ¬ j < k by omega)]
      · rw [pv_o (by rw [rem_5]; exact c), pv_o (by omega)]
    rw [this]
theorem rem_pF2 : ∀ (n : Nat) (j : Int), 0 ≤ j → j ≤ k → k < j + n + 1 → k < sg s 0 5 → pF f (sRem k s) n j + pv f s k = pF f s (n + 1) j := by
  intro n
  induction n with
  | zero =>
    intro j h0 h1 h2 h3
    have : j = k := by omega
    rw [this]
    show 0 + pv f s k = pv f s k + 0
    omega
  | succ n ih =>
    intro j h0 h1 h2 h3
    show pv f (sRem k s) j + pF f (sRem k s) n (j + 1) + pv f s k = pv f s j + pF f s (n + 1) (j + 1)
    by_cases c : j = k
    · have e := rem_pF1 (f := f) (s := s) (k := k) (n + 1) k (by omega) (Int.le_refl _)
      have e2 : pF f (sRem k s) (n + 1) k = pv f (sRem k s) k + pF f (sRem k s) n (k + 1) := rfl
      rw [c]
      omega
    · have e := ih (j + 1) (by omega) (by omega) (by omega) h3
      have : pv f (sRem k s) j = pv f s j := by
        rw [pv_i (by rw [rem_5]; omega), pv_i (s := s) (by omega), rem_g h0 (by omega) (by decide), rem_g h0 (by omega) (by decide), rem_g h0 (by omega) (by decide), if_pos (show j < k by omega)]
      omega
theorem pF_13 : ∀ (n : Nat) (j : Int), sg s 0 5 ≤ j + n → pF f s (n + 1) j = pF f s n j := by
  intro n
  induction n with
  | zero =>
    intro j h
    show pv f s j + 0 = 0
    rw [pv_o (by omega)]
    rfl
  | succ n ih =>
    intro j h
    show pv f s j + pF f s (n + 1) (j + 1) = pv f s j + pF f s n (j + 1)
    rw [ih (j + 1) (by omega)]
theorem pF_rem (h5 : sg s 0 5 ≤ 12) (k0 : 0 ≤ k) (k1 : k < sg s 0 5) : pF f (sRem k s) 12 0 = pF f s 12 0 - pv f s k := by
  have e := rem_pF2 (f := f) (s := s) (k := k) 12 0 (by decide) k0 (by omega) k1
  rw [pF_13 12 0 (by omega)] at e
  omega
theorem pF_begin (h0 : 0 ≤ sg s 0 5) (h1 : sg s 0 5 < 12) : pF f (sBegin p l s) 12 0 = pF f s 12 0 + f 0 0 l := by
  have e := pF_in (f := f) (s := s) (s' := sBegin p l s) (k := sg s 0 5) (fun i hi i0 => by
    by_cases c : i < sg s 0 5
    · rw [pv_i (by rw [begin_5]; omega), pv_i (s := s) c, begin_b i0 c, begin_b i0 c, begin_b i0 c]
    · rw [pv_o (by rw [begin_5]; omega), pv_o (s := s) c]) 12 0 h0 (by omega) (by decide)
  rw [e, pv_o (s := s) (by omega), pv_i (s := sBegin p l s) (by rw [begin_5]; omega), begin_n h0, begin_n h0, begin_n h0]
  show pF f s 12 0 - 0 + f 0 0 l = _
  omega
/-- what is commanded: the events that were met; what is new -/
def iE (g : Int → Int → Int → Int → Int) (E : Int → Ev) : Nat → Int
  | 0 => 0
  | n + 1 => iE g E n + if 8 ≤ ek (E (n : Int)) ∧ ek (E (n : Int)) ≤ 16 then g (n : Int) (ek (E (n : Int))) (ex (E (n : Int))) (ey (E (n : Int))) else 0
def iL (g : Int → Int → Int → Int → Int) : Int → List (Int × Int × Int) → Int
  | _, [] => 0
  | r, z :: L => g r z.1 z.2.1 z.2.2 + iL g (r + 1) L
theorem iL_app : ∀ (L : List (Int × Int × Int)) (r : Int), iL g r (L ++ [(a, b, c)]) = iL g r L + g (r + (L.length : Int)) a b c := by
  intro L
  induction L with
  | nil =>
    intro r
    show g r a b c + 0 = 0 + g (r + 0) a b c
    rw [Int.add_zero, Int.add_zero, Int.zero_add]
  | cons z L ih =>
    intro r
    show g r z.1 z.2.1 z.2.2 + iL g (r + 1) (L ++ [(a, b, c)]) = g r z.1 z.2.1 z.2.2 + iL g (r + 1) L + g (r + ((L.length + 1 : Nat) : Int)) a b c
    rw [ih, show r + 1 + (L.length : Int) = r + ((L.length + 1 : Nat) : Int) by omega, Int.add_assoc]
theorem iE_to {E' : Int → Ev} : ∀ n : Nat, (∀ i : Int, 0 ≤ i → i < n → E' i = E i) → iE g E' n = iE g E n := by
  intro n
  induction n with
  | zero => intro _; rfl
  | succ n ih =>
    intro h
    show iE g E' n + _ = iE g E n + _
    rw [ih fun i h0 h1 => h i h0 (by omega), h (n : Int) (by omega) (by omega)]
theorem iE_gap (h0 : 0 ≤ p) : ∀ (n : Nat), (∀ i : Int, p ≤ i → i < p + n → ¬ (8 ≤ ek (E i) ∧ ek (E i) ≤ 16)) → iE g E (p + n).toNat = iE g E p.toNat := by
  intro n
  induction n with
  | zero => intro _; rw [show p + ((0 : Nat) : Int) = p by omega]
  | succ n ih =>
    intro h
    have e : (p + ((n + 1 : Nat) : Int)).toNat = (p + n).toNat + 1 := by omega
    rw [e]
    show iE g E (p + n).toNat + (if _ then _ else _) = _
    rw [if_neg (by have := h (p + n) (by omega) (by omega); rw [show (((p + (n : Int)).toNat : Nat) : Int) = p + n by omega]; exact this), ih fun i g0 g1 => h i g0 (by omega)]
    omega
theorem nxc_gap : ∀ (n : Nat) (i : Int), (x.1 0 - i).toNat = n → ∀ j : Int, i ≤ j → j < nxc x n i → ¬ (8 ≤ ek (x.2.1 j) ∧ ek (x.2.1 j) ≤ 16) := by
  intro n
  induction n with
  | zero => intro i _ j h0 h1; exact absurd h1 (by show ¬ j < i; omega)
  | succ n ih =>
    intro i hn j h0 h1
    unfold nxc at h1
    rw [if_pos (by omega)] at h1
    by_cases hj : j = i
    · intro hh
      rw [hj] at hh
      rw [if_pos (by omega), if_neg (by omega)] at h1
      omega
    · split at h1
      · split at h1
        · exact ih (i + 1) (by omega) j (by omega) h1
        · omega
      · exact ih (i + 1) (by omega) j (by omega) h1
theorem nc_gap (h0 : i ≤ j) (h1 : j < nc x i) : ¬ (8 ≤ ek (x.2.1 j) ∧ ek (x.2.1 j) ≤ 16) := nxc_gap _ i rfl j h0 h1
/-- all that was commanded -/
def pI (g : Int → Int → Int → Int → Int) (x : CX) (s : TS) : Int := iE g x.2.1 (sg s 0 12).toNat + iL g (x.1 0) (sn s)
theorem pI_same (h12 : sg s' 0 12 = sg s 0 12) (hn : sn s' = sn s) : pI g x s' = pI g x s := by
  unfold pI
  rw [h12, hn]
/-- what is new is so only behind all commands; other flags of a time -/
def JJ (x : CX) (F T : Prop) (s : TS) : Prop := (sn s ≠ [] → x.1 0 ≤ nc x (sg s 0 12)) ∧ (F → x.1 0 ≤ nc x (sg s 0 12)) ∧ (T → sg s 0 10 < x.1 1) ∧ x.1 2 ≤ x.1 1
variable {F T : Prop}
theorem JJ.same (h : JJ x F T s) (h12 : sg s' 0 12 = sg s 0 12) (h10 : sg s' 0 10 = sg s 0 10) (hn : sn s' = sn s) : JJ x F T s' := by
  unfold JJ at h ⊢
  rw [h12, h10, hn]
  exact h
/-- a command, exactly -/
theorem cmd_all (hW : SW x s B) (hs : x.1 3 ≤ x.1 0) (h4 : x.1 4 ≠ 1) (hJ : JJ x F T s) (k0 : 8 ≤ kd) (k1 : kd ≤ 16) : JJ x F T (sCmd x kd a b s).2 ∧ (sg (sCmd x kd a b s).2 0 30 = 0 → pI g x (sCmd x kd a b s).2 = pI g x s + g (sCmd x kd a b s).1 kd a b ∧ (F → x.1 0 ≤ (sCmd x kd a b s).1) ∧ (T → (sCmd x kd a b s).1 < x.1 0) ∧ sg s 0 12 ≤ (sCmd x kd a b s).1 ∧ (sn s ≠ [] → (sCmd x kd a b s).1 = x.1 0 + nl s)) := by
  obtain ⟨j1, j2, j3, j4⟩ := hJ
  have hb := nc_b hW.1.2
  have h0 := hW.1.1
  have hnn := nc_nc (x := x) (i := sg s 0 12) h0 hW.1.2
  have hse := seen_b (s := s) hs
  have gap : iE g x.2.1 (nc x (sg s 0 12)).toNat = iE g x.2.1 (sg s 0 12).toNat := by
    have := iE_gap (g := g) (E := x.2.1) h0 (nc x (sg s 0 12) - sg s 0 12).toNat fun i g0 g1 => nc_gap g0 (by omega)
    rw [show sg s 0 12 + ((nc x (sg s 0 12) - sg s 0 12).toNat : Int) = nc x (sg s 0 12) by omega] at this
    exact this
  have stk : ∀ v : Int, JJ x F T (sStuck (st s 0 12 (nc x (sg s 0 12))) v) ∧ (sg (sStuck (st s 0 12 (nc x (sg s 0 12))) v) 0 30 = 0 → False) := fun v => by
    have e12 : sg (sStuck (st s 0 12 (nc x (sg s 0 12))) v) 0 12 = nc x (sg s 0 12) := by
      unfold sStuck
      rw [st_g, if_neg (by omega), st_g, if_neg (by omega), st_g, if_pos ⟨rfl, rfl⟩]
    have e10 : sg (sStuck (st s 0 12 (nc x (sg s 0 12))) v) 0 10 = sg s 0 10 := by
      unfold sStuck
      rw [st_g, if_neg (by omega), st_g, if_neg (by omega), st_g, if_neg (by omega)]
    refine ⟨⟨fun hh => ?_, fun hh => ?_, fun hh => ?_, j4⟩, fun hh => absurd hh u_stuck⟩
    · rw [e12, hnn]; exact j1 hh
    · rw [e12, hnn]; exact j2 hh
    · rw [e10]; exact j3 hh
  unfold sCmd
  by_cases c1 : nc x (sg s 0 12) < sSeen x s
  · rw [if_pos c1]
    by_cases c2 : x.1 4 = 1 ∨ eis (x.2.1 (nc x (sg s 0 12))) kd a b = true
    · rw [if_pos c2]
      have hm := c2.resolve_left h4
      unfold eis at hm
      simp only [Bool.and_eq_true, decide_eq_true_eq] at hm
      obtain ⟨m1, m2, m3⟩ := hm
      have e12 : sg (st (st s 0 12 (nc x (sg s 0 12))) 0 12 (nc x (sg s 0 12) + 1)) 0 12 = nc x (sg s 0 12) + 1 := by rw [st_g, if_pos ⟨rfl, rfl⟩]
      have e10 : sg (st (st s 0 12 (nc x (sg s 0 12))) 0 12 (nc x (sg s 0 12) + 1)) 0 10 = sg s 0 10 := by rw [st_g, if_neg (by omega), st_g, if_neg (by omega)]
      refine ⟨⟨fun hh => ?_, fun hh => ?_, fun hh => ?_, j4⟩, fun _ => ⟨?_, fun hh => ?_, fun hh => ?_, hb.1, fun hh => ?_⟩⟩
      · have := j1 hh; omega
      · have := j2 hh; omega
      · show sg (st (st s 0 12 _) 0 12 _) 0 10 < _
        rw [e10]; exact j3 hh
      · unfold pI
        show iE g x.2.1 (sg (st (st s 0 12 (nc x (sg s 0 12))) 0 12 (nc x (sg s 0 12) + 1)) 0 12).toNat + iL g (x.1 0) (sn s) = _
        have e : (nc x (sg s 0 12) + 1).toNat = (nc x (sg s 0 12)).toNat + 1 := by omega
        rw [e12, e]
        show iE g x.2.1 (nc x (sg s 0 12)).toNat + (if _ then _ else _) + _ = _
        rw [show ((nc x (sg s 0 12)).toNat : Int) = nc x (sg s 0 12) by omega, if_pos ⟨by omega, by omega⟩, gap, m1, m2, m3]
        show _ = _ + g (nc x (sg s 0 12)) kd a b
        omega
      · have := j2 hh
        show x.1 0 ≤ nc x (sg s 0 12)
        exact this
      · show nc x (sg s 0 12) < x.1 0
        omega
      · have := j1 hh; omega
    · rw [if_neg c2]
      exact ⟨(stk _).1, fun hh => ((stk _).2 hh).elim⟩
  · rw [if_neg c1]
    by_cases c2 : sg s 0 10 < x.1 1
    · rw [if_pos c2]
      exact ⟨(stk _).1, fun hh => ((stk _).2 hh).elim⟩
    · rw [if_neg c2]
      have hsn : sSeen x s = x.1 0 := by
        unfold sSeen
        rw [if_neg (by omega)]
      have hfar : x.1 0 ≤ nc x (sg s 0 12) := by omega
      have e12 : sg (stn (st s 0 12 (nc x (sg s 0 12))) (sn s ++ [(kd, a, b)])) 0 12 = nc x (sg s 0 12) := by
        have := st_g (s := s) (a := 0) (j := 12) (v := nc x (sg s 0 12)) (b := 0) (i := 12)
        rw [if_pos ⟨rfl, rfl⟩] at this
        exact this
      refine ⟨⟨fun hh => ?_, fun hh => ?_, fun hh => ?_, j4⟩, fun _ => ⟨?_, fun hh => ?_, fun hh => absurd (j3 hh) c2, ?_, fun _ => rfl⟩⟩
      · show x.1 0 ≤ nc x (sg (stn (st s 0 12 (nc x (sg s 0 12))) (sn s ++ [(kd, a, b)])) 0 12)
        rw [e12, hnn]; exact hfar
      · show x.1 0 ≤ nc x (sg (stn (st s 0 12 (nc x (sg s 0 12))) (sn s ++ [(kd, a, b)])) 0 12)
        rw [e12, hnn]; exact hfar
      · exact j3 hh
      · unfold pI
        show iE g x.2.1 (sg (stn (st s 0 12 (nc x (sg s 0 12))) (sn s ++ [(kd, a, b)])) 0 12).toNat + iL g (x.1 0) (sn s ++ [(kd, a, b)]) = _
        rw [e12, gap, iL_app]
        show _ = _ + g (x.1 0 + ((sn s).length : Int)) kd a b
        omega
      · show x.1 0 ≤ x.1 0 + ((sn s).length : Int)
        omega
      · show sg s 0 12 ≤ x.1 0 + ((sn s).length : Int)
        have := hW.1.2
        omega
end PTA
