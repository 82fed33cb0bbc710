/-! THE REFERENCE'S CALLS: join. -/
section RXU5
variable {m m' M : MM} {e e' e2 : ES} {a b c i j k o r v w p t s x y n tn par pe inp p1 q A B N : Int} {l L : List Int} {R : Int → List Int} {P : List (Int × Int)}
/-- the state with other rows of lost signals -/
def wR (R : Int → List Int) (e : ES) : ES := (e.1, e.2.1, fun c => if 75000 ≤ c ∧ c < 76000 then R c else e.2.2.1 c, e.2.2.2)
theorem wR_arr : wR R (pArr i 4 x y e) = pArr i 4 x y (wR R e) := rfl
theorem wR_ls (h : 75000 ≤ c ∧ c < 76000) : wR R (eLs e c l) = wR R e := by
  unfold wR eLs
  congr 3
  funext d
  by_cases hd : 75000 ≤ d ∧ d < 76000
  · rw [if_pos hd, if_pos hd]
  · rw [if_neg hd, if_neg hd]
    exact if_neg (by omega)
theorem wR_id : wR e.2.2.1 e = e := by
  obtain ⟨q1, q2, q3, q4⟩ := e
  unfold wR
  congr 3
  funext d
  split <;> rfl
theorem wR_l (h : 0 ≤ j ∧ j < 1000) : eL (wR R e) (75000 + j) = R (75000 + j) := if_pos (by omega)
theorem wR_cn (h : CN e) : CN (wR R e) := h.of fun a ha => rfl
theorem pLst_app {n : Nat} : ∀ {k : Nat}, n ≤ k → ∃ rest, pLst e k = pLst e n ++ rest := by
  intro k
  induction k with
  | zero => intro h; exact ⟨[], by rw [show n = 0 by omega]; simp⟩
  | succ k ih =>
    intro h
    by_cases c : n = k + 1
    · exact ⟨[], by rw [c]; simp⟩
    · obtain ⟨rest, hr⟩ := ih (by omega)
      refine ⟨rest ++ (eL e (75000 + (k : Int))).map fun v => ((k : Int), v), ?_⟩
      show pLst e k ++ _ = _
      rw [hr, List.append_assoc]
theorem pLst_at {n k : Nat} (h : n < k) {u : Nat} {v : Int} (hv : (eL e (75000 + (n : Int)))[u]? = some v) : (pLst e k)[(pLst e n).length + u]? = some ((n : Int), v) := by
  obtain ⟨rest, hr⟩ := pLst_app (e := e) (show n + 1 ≤ k from h)
  have hu : u < (eL e (75000 + (n : Int))).length := by
    by_cases c : u < (eL e (75000 + (n : Int))).length
    · exact c
    · rw [List.getElem?_eq_none (by omega)] at hv
      exact absurd hv (by simp)
  rw [hr, show pLst e (n + 1) = pLst e n ++ (eL e (75000 + (n : Int))).map fun v => ((n : Int), v) from rfl, List.append_assoc, List.getElem?_append_right (by omega), show (pLst e n).length + u - (pLst e n).length = u by omega, List.getElem?_append_left (by rw [List.length_map]; exact hu), List.getElem?_map, hv]
  rfl
theorem pLst_len {n : Nat} : (pLst e (n + 1)).length = (pLst e n).length + (eL e (75000 + (n : Int))).length := by
  show (pLst e n ++ _).length = _
  rw [List.length_append, List.length_map]
theorem pLst_nil : ∀ {n : Nat} (h : ∀ i : Int, 0 ≤ i → i < (n : Int) → eL e (75000 + i) = []), pLst e n = [] := by
  intro n
  induction n with
  | zero => intro _; rfl
  | succ n ih =>
    intro h
    show pLst e n ++ _ = []
    rw [ih fun i i0 i1 => h i i0 (by omega), h _ (by omega) (by omega)]
    rfl
theorem mr_jnL : ∀ (L : List Int) (e : ES), CN e → 0 ≤ i → i < e.1 7 2 → MR e (pJnL i L e) ∧ CN (pJnL i L e) := by
  intro L
  induction L with
  | nil => intro e hc _ _; exact ⟨MR.rf, hc⟩
  | cons v L ih =>
    intro e hc i0 i1
    have n7 := hc.1
    obtain ⟨g1, g2⟩ := ih (pArr i 4 (v / 1000) (v % 1000) e) (hc.arr i0) i0 (by rw [arr_a (by decide) (by decide) (by omega) (by omega) (by decide)]; exact i1)
    exact ⟨(mr_arr hc i0 i1).tr g1, g2⟩
theorem mr_ls : MR e (eLs e c l) := MR.of rfl (fun _ => rfl) (fun _ => rfl) rfl (fun _ _ _ => rfl)
theorem mr_jn1 (hc : CN e) (i0 : 0 ≤ i) (i1 : i < e.1 7 2) : MR e (pJn1 i e) ∧ CN (pJn1 i e) := by
  unfold pJn1
  split
  · obtain ⟨g1, g2⟩ := mr_jnL (eL e (75000 + i)) e hc i0 i1
    exact ⟨g1.tr mr_ls, g2.of fun a ha => rfl⟩
  · exact ⟨mr_ls, hc.of fun a ha => rfl⟩
theorem mr_jnR : ∀ (n : Nat) (a i : Int) (e : ES), CN e → 0 ≤ i → MR e (pJnR n a i e).2 := by
  intro n
  induction n with
  | zero => intro a i e _ _; exact MR.rf
  | succ n ih =>
    intro a i e hc i0
    unfold pJnR
    by_cases c : i < e.1 7 2
    · rw [if_pos c]
      obtain ⟨g1, g2⟩ := mr_jn1 hc i0 c
      exact g1.tr (ih _ _ _ g2 (by omega))
    · rw [if_neg c]; exact MR.rf
/-- one run's -/
theorem jnIn (hN : N ≤ 30) (hP : ∀ e', e'.1 7 2 = N → pLst (wR R e') (e'.1 7 2).toNat = P) (hP4 : P.length ≤ 4096) (i0 : 0 ≤ i) (i1 : i < N) : ∀ (L : List Int) (f : Nat) (a k : Int) (m : MM) (e : ES), RXE m (wR R e) → CN e → RLw e → e.1 7 2 = N → e.1 (7000 + i) 6 = 0 → RFw (pJnL i L e) → (∀ (u : Nat) (v : Int), L[u]? = some v → P[k.toNat + u]? = some (i, v)) → (∀ v ∈ L, 0 ≤ v ∧ v < 4000) → 0 ≤ k → k + L.length ≤ P.length → 0 ≤ a → a + L.length < 2000000000 → ∃ m', fl_X12_join_30 (L.length + f) a k m = fl_X12_join_30 f (a + L.length) (k + L.length) m' ∧ RXE m' (wR R (pJnL i L e)) ∧ SCR m m' := by
  intro L
  induction L with
  | nil =>
    intro f a k m e h hc hl h7 h6 hf hg hv k0 k1 a0 a1
    refine ⟨m, ?_, h, SCR.rf⟩
    simp only [List.length_nil]
    rw [show (0 : Nat) + f = f by omega, show a + ((0 : Nat) : Int) = a by omega, show k + ((0 : Nat) : Int) = k by omega]
  | cons v L ih =>
    intro f a k m e h hc hl h7 h6 hf hg hv k0 k1 a0 a1
    simp only [List.length_cons] at k1 a1 ⊢
    have e84 : m 68 84 = (P.length : Int) := by rw [← hP e h7]; exact h.pl.2.1
    have hq := hg 0 v rfl
    rw [Nat.add_zero] at hq
    have hk := h.pl.2.2 k.toNat (i, v) (by rw [show (wR R e).1 7 2 = e.1 7 2 from rfl, hP e h7]; exact hq)
    rw [show ((k.toNat : Nat) : Int) = k by omega] at hk
    obtain ⟨q1, q2, q3⟩ := hk
    have q1 : m 139 k = i := q1
    have q2 : m 140 k = v / 1000 := q2
    have q3 : m 141 k = v % 1000 := q3
    have bv := hv v (by simp)
    have k83 : m 83 i = e.1 (7000 + i) 6 := (h.pr.1 i i0 (by show i < e.1 7 2; omega)).1.2.2.2.1
    have hd : ¬ Dead e i := fun hh => hh.1 h6
    have hf2 : RFw (pJnL i L (pArr i 4 (v / 1000) (v % 1000) e)) := hf
    have cA : CN (pArr i 4 (v / 1000) (v % 1000) e) := hc.arr i0
    have n7 := hc.1
    have A7 : (pArr i 4 (v / 1000) (v % 1000) e).1 7 2 = N := by rw [arr_a (by decide) (by decide) (by omega) (by omega) (by decide)]; exact h7
    have A6 : (pArr i 4 (v / 1000) (v % 1000) e).1 (7000 + i) 6 = 0 := by rw [arr_a (by omega) (by omega) (by omega) (by omega) (by omega)]; exact h6
    obtain ⟨g1, g2⟩ := mr_jnL L (pArr i 4 (v / 1000) (v % 1000) e) cA i0 (by rw [A7]; exact i1)
    have hfa : RFw (pArr i 4 (v / 1000) (v % 1000) e) := hf2.bk g1
    have hfw : RFw (pArr i 4 (v / 1000) (v % 1000) (wR R e)) := by
      rw [← wR_arr]
      exact ⟨hfa.1, hfa.2.1, hfa.2.2.1, hfa.2.2.2⟩
    obtain ⟨m1, u1, u2, u3⟩ := h.arr2 (r := i) (k := 4) (x := v / 1000) (y := v % 1000) (wR_cn hc) hl hfw i0 (by show i < e.1 7 2; omega) hd (by decide) (by decide) (by omega) (by omega) (by omega) (by omega)
    rw [← wR_arr] at u2
    obtain ⟨m2, w1, w2, w3⟩ := ih f (a + 1) (k + 1) m1 (pArr i 4 (v / 1000) (v % 1000) e) u2 cA ((mr_arr hc i0 (by omega)).2.2 hl) A7 A6 hf2 (fun u v' hu => by
      have := hg (u + 1) v' hu
      rw [show k.toNat + (u + 1) = (k + 1).toNat + u by omega] at this
      exact this) (fun v' hv' => hv v' (by simp [hv'])) (by omega) (by omega) (by omega) (by omega)
    refine ⟨m2, ?_, w2, u3.tr w3⟩
    rw [show L.length + 1 + f = (L.length + f) + 1 by omega, fl_X12_join_30, lx_p, e84, if_pos (by omega), gd_t (by omega), lx_p, q1, gd_t (by omega), lx_p, k83, if_pos h6, lx_p, q2, lx_p, q3, bd_t u1, lx_p, w32_id (z := a + 1) (by omega) (by omega), lx_p, w32_id (z := k + 1) (by omega) (by omega), w1]
    rw [show a + ((L.length + 1 : Nat) : Int) = a + 1 + (L.length : Int) by omega, show k + ((L.length + 1 : Nat) : Int) = k + 1 + (L.length : Int) by omega]
/-- a run that goes on no more -/
theorem jnNo (hN : N ≤ 30) (hP : ∀ e', e'.1 7 2 = N → pLst (wR R e') (e'.1 7 2).toNat = P) (hP4 : P.length ≤ 4096) (i0 : 0 ≤ i) (i1 : i < N) (h : RXE m (wR R e)) (h7 : e.1 7 2 = N) (h6 : e.1 (7000 + i) 6 ≠ 0) : ∀ (L : List Int) (f : Nat) (a k : Int), (∀ (u : Nat) (v : Int), L[u]? = some v → P[k.toNat + u]? = some (i, v)) → 0 ≤ k → k + L.length ≤ P.length → fl_X12_join_30 (L.length + f) a k m = fl_X12_join_30 f a (k + L.length) m := by
  intro L
  induction L with
  | nil =>
    intro f a k hg k0 k1
    simp only [List.length_nil]
    rw [show (0 : Nat) + f = f by omega, show k + ((0 : Nat) : Int) = k by omega]
  | cons v L ih =>
    intro f a k hg k0 k1
    simp only [List.length_cons] at k1 ⊢
    have e84 : m 68 84 = (P.length : Int) := by rw [← hP e h7]; exact h.pl.2.1
    have hq := hg 0 v rfl
    rw [Nat.add_zero] at hq
    have hk := h.pl.2.2 k.toNat (i, v) (by rw [show (wR R e).1 7 2 = e.1 7 2 from rfl, hP e h7]; exact hq)
    rw [show ((k.toNat : Nat) : Int) = k by omega] at hk
    have q1 : m 139 k = i := hk.1
    have k83 : m 83 i = e.1 (7000 + i) 6 := (h.pr.1 i i0 (by show i < e.1 7 2; omega)).1.2.2.2.1
    rw [show L.length + 1 + f = (L.length + f) + 1 by omega, fl_X12_join_30, lx_p, e84, if_pos (by omega), gd_t (by omega), lx_p, q1, gd_t (by omega), lx_p, k83, if_neg h6, lx_p, w32_id (z := k + 1) (by omega) (by omega), ih f a (k + 1) (fun u v' hu => by
      have := hg (u + 1) v' hu
      rw [show k.toNat + (u + 1) = (k + 1).toNat + u by omega] at this
      exact this) (by omega) (by omega)]
    rw [show k + ((L.length + 1 : Nat) : Int) = k + 1 + (L.length : Int) by omega]
theorem jnRr (hN : N ≤ 30) (hP : ∀ e', e'.1 7 2 = N → ∀ n : Nat, (n : Int) ≤ N → pLst (wR R e') n = pLst (wR R e2) n) (hP4 : (pLst (wR R e2) N.toNat).length ≤ 4096) (hv : ∀ j : Int, 0 ≤ j → j < N → ∀ v ∈ R (75000 + j), 0 ≤ v ∧ v < 4000) : ∀ (n f : Nat) (a i : Int) (m : MM) (e : ES), RXE m (wR R e) → CN e → RLw e → e.1 7 2 = N → RFw (pJnR n a i e).2 → 0 ≤ i → i ≤ N → (∀ j : Int, i ≤ j → j < N → eL e (75000 + j) = R (75000 + j)) → (∀ j : Int, 0 ≤ j → j < i → eL e (75000 + j) = []) → (pLst (wR R e2) N.toNat).length - (pLst (wR R e2) i.toNat).length < f → 0 ≤ a → a + 4096 * (N - i) < 1000000000 → N < i + n → ∃ m', fl_X12_join_30 f a (pLst (wR R e2) i.toNat).length m = some ((pJnR n a i e).1, mset m' 68 84 0) ∧ RXE m' (wR R (pJnR n a i e).2) ∧ SCR m m' ∧ (pJnR n a i e).2.1 7 2 = N ∧ CN (pJnR n a i e).2 ∧ ∀ j : Int, 0 ≤ j → j < N → eL (pJnR n a i e).2 (75000 + j) = [] := by
  intro n
  induction n with
  | zero => intro f a i m e h hc hl h7 hf i0 i1 hR hR0 hfu a0 a1 hn; omega
  | succ n ih =>
    intro f a i m e h hc hl h7 hf i0 i1 hR hR0 hfu a0 a1 hn
    have hu : pJnR (n + 1) a i e = if i < e.1 7 2 then pJnR n (a + pJnC i e) (i + 1) (pJn1 i e) else (a, e) := rfl
    rw [hu] at hf ⊢
    by_cases cc : i < e.1 7 2
    · rw [if_pos cc] at hf ⊢
      have c1 : i < N := by omega
      obtain ⟨g1, g2⟩ := mr_jn1 hc i0 cc
      have g3 := mr_jnR n (a + pJnC i e) (i + 1) (pJn1 i e) g2 (by omega)
      have hrow : eL e (75000 + i) = R (75000 + i) := hR i (Int.le_refl _) c1
      have hw : eL (wR R e2) (75000 + ((i.toNat : Nat) : Int)) = R (75000 + i) := by rw [wR_l (by omega), show ((i.toNat : Nat) : Int) = i by omega]
      have hlen : (pLst (wR R e2) (i + 1).toNat).length = (pLst (wR R e2) i.toNat).length + (R (75000 + i)).length := by
        rw [show (i + 1).toNat = i.toNat + 1 by omega, pLst_len, hw]
      have hle : (pLst (wR R e2) (i + 1).toNat).length ≤ (pLst (wR R e2) N.toNat).length := by
        obtain ⟨rest, hr⟩ := pLst_app (e := wR R e2) (show (i + 1).toNat ≤ N.toNat by omega)
        rw [hr, List.length_append]
        omega
      have hg : ∀ (u : Nat) (v : Int), (R (75000 + i))[u]? = some v → (pLst (wR R e2) N.toNat)[((pLst (wR R e2) i.toNat).length : Int).toNat + u]? = some (i, v) := fun u v hv' => by
        have := pLst_at (e := wR R e2) (n := i.toNat) (k := N.toNat) (by omega) (u := u) (v := v) (by rw [hw]; exact hv')
        rw [show ((i.toNat : Nat) : Int) = i by omega] at this
        rw [show ((pLst (wR R e2) i.toNat).length : Int).toNat = (pLst (wR R e2) i.toNat).length by omega]
        exact this
      have hPP : ∀ e', e'.1 7 2 = N → pLst (wR R e') (e'.1 7 2).toNat = pLst (wR R e2) N.toNat := fun e' h' => by
        rw [h']
        exact hP e' h' _ (by omega)
      have s7 : (pJn1 i e).1 7 2 = N := by rw [(jn1_cl i0 (by omega) (by have := hc.1; omega)).2.2 _ _ (by decide) (by decide) (by decide) (by decide)]; exact h7
      have rows : ∀ c, c ≠ 75000 + i → eL (pJn1 i e) c = eL e c := fun c hne => (jn1_cl i0 (by omega) (by have := hc.1; omega)).2.1 c hne
      have rowi : eL (pJn1 i e) (75000 + i) = [] := by
        unfold pJn1
        exact if_pos rfl
      obtain ⟨F, hF⟩ : ∃ F, f = (R (75000 + i)).length + F := ⟨f - (R (75000 + i)).length, by omega⟩
      rw [hF]
      have step : ∃ m1, fl_X12_join_30 ((R (75000 + i)).length + F) a (pLst (wR R e2) i.toNat).length m = fl_X12_join_30 F (a + pJnC i e) (pLst (wR R e2) (i + 1).toNat).length m1 ∧ RXE m1 (wR R (pJn1 i e)) ∧ SCR m m1 := by
        unfold pJn1 pJnC
        rw [wR_ls (by omega)]
        have hfi := hf.bk g3
        unfold pJn1 at hfi
        by_cases h6 : e.1 (7000 + i) 6 = 0
        · rw [if_pos h6] at hfi
          rw [if_pos h6, if_pos h6, hrow]
          rw [hrow] at hfi
          obtain ⟨m1, v1, v2, v3⟩ := jnIn hN hPP hP4 i0 c1 (R (75000 + i)) F a (pLst (wR R e2) i.toNat).length m e h hc hl h7 h6 (hfi.bk mr_ls) hg (hv i i0 c1) (by omega) (by omega) a0 (by omega)
          refine ⟨m1, ?_, v2, v3⟩
          rw [v1, show (((pLst (wR R e2) i.toNat).length : Nat) : Int) + (((R (75000 + i)).length : Nat) : Int) = (((pLst (wR R e2) (i + 1).toNat).length : Nat) : Int) by omega]
        · rw [if_neg h6, if_neg h6]
          refine ⟨m, ?_, h, SCR.rf⟩
          rw [jnNo hN hPP hP4 i0 c1 h h7 h6 (R (75000 + i)) F a _ hg (by omega) (by omega), show (((pLst (wR R e2) i.toNat).length : Nat) : Int) + (((R (75000 + i)).length : Nat) : Int) = (((pLst (wR R e2) (i + 1).toNat).length : Nat) : Int) by omega, show a + 0 = a by omega]
      obtain ⟨m1, v1, v2, v3⟩ := step
      have bC : 0 ≤ pJnC i e ∧ pJnC i e ≤ 4096 := by
        unfold pJnC
        rw [hrow]
        split <;> omega
      obtain ⟨m2, w1, w2, w3, w4⟩ := ih F (a + pJnC i e) (i + 1) m1 _ v2 g2 (g1.2.2 hl) s7 hf (by omega) (by omega) (fun j j0 j1 => by rw [rows _ (by omega)]; exact hR j (by omega) j1) (fun j j0 j1 => by
        by_cases cj : j = i
        · rw [cj]; exact rowi
        · rw [rows _ (by omega)]; exact hR0 j j0 (by omega)) (by omega) (by omega) (by omega) (by omega)
      exact ⟨m2, v1.trans w1, w2, v3.tr w3, w4⟩
    · rw [if_neg cc] at hf ⊢
      have eN : i = N := by omega
      obtain ⟨f, rfl⟩ : ∃ g, f = g + 1 := ⟨f - 1, by omega⟩
      have e84 : m 68 84 = ((pLst (wR R e2) i.toNat).length : Int) := by
        have := h.pl.2.1
        rw [show (wR R e).1 7 2 = e.1 7 2 from rfl, h7, hP e h7 _ (by omega)] at this
        rw [eN]
        exact this
      unfold fl_X12_join_30
      rw [lx_p, e84, if_neg (by omega), up_t]
      exact ⟨m, rfl, h, SCR.rf, h7, hc, fun j j0 j1 => hR0 j j0 (by omega)⟩
theorem x_join (h : RXE m e) (hc : CN e) (hl : RLw e) (hf : RFw (pcJoin e).2) (hv : ∀ j : Int, 0 ≤ j → j < e.1 7 2 → ∀ v ∈ eL e (75000 + j), 0 ≤ v ∧ v < 4000) (hL : (pLst e (e.1 7 2).toNat).length ≤ 4096) : OKr (fm_X12_join m) cd1 (pcJoin e) := by
  have n7 := hc.1
  have e83 : m 68 83 = if e.1 4 17 = 0 then 1 else 0 := h.pl.1
  unfold fm_X12_join
  unfold pcJoin at hf ⊢
  rw [lx_p, e83]
  by_cases c : e.1 4 17 = 0
  · rw [if_pos c, if_neg (show ¬ (1 : Int) = 0 by decide), if_pos c]
    rw [if_pos c] at hf
    unfold fj_X12_join_13
    rw [bd_t fails_e, if_neg (show ¬ (0 : Int) < 0 by decide), if_pos (show (0 : Int) = 0 from rfl), up_t]
    have h0 := h.th (q := 0) hc
    have cE : CN (eS e 4 17 1) := cn_eS hc (by omega)
    have hE : ∀ a u : Int, a ≠ 4 → (eS e 4 17 1).1 a u = e.1 a u := fun a u ha => eS_a ha
    have h1 : RXE (mset (mset m 68 129 0) 68 83 0) (eS e 4 17 1) := by
      refine h0.chg hc (W := fun a => a = 1000000) (U := fun j => j = 83) (V := fun a => a = 4) (fun a j g1 g2 g3 => ms_a (by omega)) (fun j g1 g2 => ms_j g2) ⟨fun a j g => hE a j g, fun c _ => rfl, fun i _ => rfl⟩ (by rw [eS_j (by decide)]; omega) (DdM.of fun q q0 q1 => hE _ _ (by omega)) (by rw [hE _ _ (by decide)]; omega) (Or.inr ?_) (Or.inl ⟨fun a g => by omega, fun a g => by omega, fun a g => by omega⟩) (Or.inl ⟨fun a g => by omega, fun a g => by omega, fun a g => by omega⟩) (Or.inl ⟨fun a g => by omega, fun a g => by omega, fun a g => by omega⟩) (Or.inl ⟨fun a g => by omega, fun a g => by omega, fun a g => by omega⟩) (Or.inl ⟨fun a g => by omega, fun a g => by omega, fun a g => by omega⟩) (Or.inl ⟨fun a g => by omega, fun a g => by omega, fun a g => by omega⟩) (Or.inl ⟨fun a g => by omega, fun a g => by omega, fun a g => by omega⟩) (Or.inl ⟨fun a g => by omega, fun a g => by omega, fun a g => by omega⟩) (Or.inl ⟨fun a g => by omega, fun a g => by omega, fun a g => by omega⟩) (Or.inl ⟨fun a g => by omega, fun a g => by omega, fun a g => by omega⟩) (Or.inl ⟨fun a g => by omega, fun a g => by omega, fun a g => by omega⟩) (Or.inr ?_)
      · obtain ⟨g0, g1, g2, g3, g4, g5, g6, g7, g8, g9, g10⟩ := h0.ps
        unfold RXs
        rw [ms_j (i := 0) (by decide), ms_j (i := 12) (by decide), ms_j (i := 29) (by decide), ms_j (i := 30) (by decide), ms_j (i := 34) (by decide), ms_j (i := 50) (by decide), ms_j (i := 51) (by decide), ms_j (i := 68) (by decide), ms_j (i := 69) (by decide), ms_j (i := 79) (by decide), ms_j (i := 80) (by decide), eS_j (i := 14) (by decide), hE 7 2 (by decide), hE 68 29 (by decide), hE 68 30 (by decide), hE 8 2 (by decide), eS_j (i := 13) (by decide), hE 9 2 (by decide), eS_j (i := 15) (by decide), hE 10 2 (by decide), eS_j (i := 12) (by decide), eS_j (i := 11) (by decide)]
        exact ⟨g0, g1, g2, g3, g4, g5, g6, g7, g8, g9, g10⟩
      · obtain ⟨k1, k2, k3⟩ := h0.pl
        have hq : pLst (eS e 4 17 1) ((eS e 4 17 1).1 7 2).toNat = pLst e (e.1 7 2).toNat := by
          rw [hE _ _ (by decide)]
          exact pLst_eq fun i i0 i1 => rfl
        unfold RXl
        rw [hq, ms_e, ms_j (by decide), eS_e, if_neg (by decide)]
        exact ⟨rfl, k2, fun i q hq' => by rw [ms_a (by decide), ms_a (by decide), ms_a (by decide)]; exact k3 i q hq'⟩
    have l1 : RLw (eS e 4 17 1) := by
      obtain ⟨q1, q2, q3, q4⟩ := hl
      unfold RLw
      rw [eS_j (by decide), hE 3 0 (by decide), hE 68 29 (by decide), eS_j (by decide), hE 7 2 (by decide)]
      exact ⟨q1, q2, q3, fun i i0 i1 => by
        have : hN (eS e 4 17 1) i = hN e i := hE _ _ (by omega)
        rw [this]
        exact q4 i i0 i1⟩
    have E7 : (eS e 4 17 1).1 7 2 = e.1 7 2 := hE _ _ (by decide)
    have hP : ∀ e' : ES, e'.1 7 2 = e.1 7 2 → ∀ n : Nat, (n : Int) ≤ e.1 7 2 → pLst (wR e.2.2.1 e') n = pLst (wR e.2.2.1 (eS e 4 17 1)) n := fun e' _ n hn => pLst_eq fun i i0 i1 => by rw [wR_l (by omega), wR_l (by omega)]
    have hw : wR e.2.2.1 (eS e 4 17 1) = eS e 4 17 1 := wR_id (e := eS e 4 17 1)
    have hq : pLst (eS e 4 17 1) (e.1 7 2).toNat = pLst e (e.1 7 2).toNat := pLst_eq fun i i0 i1 => rfl
    obtain ⟨m1, g1, g2, g3, g4, g5, g6⟩ := jnRr (R := e.2.2.1) (e2 := eS e 4 17 1) (N := e.1 7 2) n7.2 hP (by rw [hw, hq]; exact hL) hv 31 BIG 0 0 (mset (mset m 68 129 0) 68 83 0) (eS e 4 17 1) (by rw [hw]; exact h1) cE l1 E7 hf (Int.le_refl _) n7.1 (fun j j0 j1 => rfl) (fun j j0 j1 => by omega) (by rw [hw, hq]; have : BIG = 1000000000 := rfl; omega) (Int.le_refl _) (by omega) (by omega)
    have z0 : ((pLst (wR e.2.2.1 (eS e 4 17 1)) (0 : Int).toNat).length : Int) = 0 := rfl
    rw [z0] at g1
    rw [g1]
    generalize pJnR 31 0 0 (eS e 4 17 1) = X at *
    have h2 : RXE (mset m1 68 84 0) X.2 := by
      have ew : ∀ a u : Int, X.2.1 a u = (wR e.2.2.1 X.2).1 a u := fun a u => rfl
      refine g2.chg (wR_cn g5) (W := fun a => a = 1000000) (U := fun j => j = 84) (V := fun c => 75000 ≤ c ∧ c < 76000) (fun a j _ _ _ => ms_a (by omega)) (fun j _ gj => ms_j gj) ⟨fun a j _ => rfl, fun c gc => (show eL (wR e.2.2.1 X.2) c = eL X.2 c from if_neg gc).symm, fun i _ => rfl⟩ (Int.le_refl _) (DdM.of fun q q0 q1 => rfl) (Int.le_refl _) (Or.inl ⟨fun a g => by omega, fun a g => by omega, fun a g => by omega⟩) (Or.inl ⟨fun a g => by omega, fun a g => by omega, fun a g => by omega⟩) (Or.inl ⟨fun a g => by omega, fun a g => by omega, fun a g => by omega⟩) (Or.inl ⟨fun a g => by omega, fun a g => by omega, fun a g => by omega⟩) (Or.inl ⟨fun a g => by omega, fun a g => by omega, fun a g => by omega⟩) (Or.inl ⟨fun a g => by omega, fun a g => by omega, fun a g => by omega⟩) (Or.inl ⟨fun a g => by omega, fun a g => by omega, fun a g => by omega⟩) (Or.inl ⟨fun a g => by omega, fun a g => by omega, fun a g => by omega⟩) (Or.inl ⟨fun a g => by omega, fun a g => by omega, fun a g => by omega⟩) (Or.inl ⟨fun a g => by omega, fun a g => by omega, fun a g => by omega⟩) (Or.inl ⟨fun a g => by omega, fun a g => by omega, fun a g => by omega⟩) (Or.inl ⟨fun a g => by omega, fun a g => by omega, fun a g => by omega⟩) (Or.inr ?_)
      obtain ⟨k1, k2, k3⟩ := g2.pl
      have hz : pLst X.2 (X.2.1 7 2).toNat = [] := pLst_nil fun i i0 i1 => g6 i i0 (by rw [g4] at i1; omega)
      unfold RXl
      rw [hz, ms_j (by decide), ms_e]
      exact ⟨k1, rfl, fun i q hq' => absurd hq' (by simp)⟩
    exact OKr.fin h2 (by rw [ms_j (by decide), g3.2 129 (by decide), ms_j (by decide)]; exact ms_e)
  · rw [if_neg c, if_pos (show (0 : Int) = 0 from rfl), if_neg c]
    unfold fj_X12_join_13
    rw [bd_t fails_e, if_pos (show (0 : Int) < 1 by decide), if_neg (show ¬ (1 : Int) = 0 by decide)]
    exact OKr.no h hc rfl
end RXU5
