/-! LINKS: what a run works on is made again; a run is set back; signals that were lost. -/
section LN8
variable {e e' e1 e2 : ES} {W W' : Int → Int → Prop} {X X' : Int → Int → Int → Prop} {S D T S' D' T' : Int} {a b c i j k q r v w N M p x y t o ev kd due par pe tn ver fr : Int} {n : Nat} {s : TS} {E : Int → Ev}
theorem Lk.new8 (hc : CN e) (h : Lk noX (pNew 8 (fAct r b kd x t) e) k q v w) : Lk noX e k q v w ∨ (k = 8 ∧ q = r ∧ v = b) := by
  obtain ⟨c7, c8, -⟩ := hc
  rcases h with g | ⟨h1, h2, h3, h4, h5⟩ | ⟨h1, h2, h3, h4⟩ | ⟨h1, ⟨h2, h3⟩, ⟨g4, g5⟩, h6, h7⟩
  · exact g.2.elim
  · rw [pNew_n] at h2
    by_cases cw : w = e.1 8 2
    · rw [cw, pNew_f8 (by omega)] at h4 h5
      exact Or.inr ⟨h1, h4.symm, h5.symm⟩
    · rw [pNew_a (by omega) (by omega)] at h3 h4 h5
      exact Or.inl (Or.inr (Or.inl ⟨h1, by omega, h3, h4, h5⟩))
  · rw [pNew_a (by decide) (by omega)] at h3
    exact Or.inl (Or.inr (Or.inr (Or.inl ⟨h1, h2, h3, h4⟩)))
  · rw [pNew_a (by decide) (by omega)] at h2 h3
    rw [pNew_a (by omega) (by omega)] at h6 h7
    exact Or.inl (Or.inr (Or.inr (Or.inr ⟨h1, ⟨h2, h3⟩, ⟨fun d => g4 ((Dead.eq (pNew_a (by omega) (by omega))).mpr d), fun d => g5 ((Dead.eq (pNew_a (by omega) (by omega))).mpr d)⟩, h6, h7⟩)))
theorem Lk.addT (hc : CN e) (r0 : 0 ≤ r) (r1 : r < e.1 7 2) (h : Lk noX (pAddT r b due e) k q v w) : Lk noX e k q v w ∨ (k = 9 ∧ q = r ∧ v = b) := by
  obtain ⟨c7, c8, -⟩ := hc
  have f1 : ∀ a u : Int, a ≠ 3 → (pAddT r b due e).1 a u = e.1 a u := fun a u ha => eS_a ha
  obtain ⟨t1, t2, t3⟩ := addT_r (r := r) (ev := b) (due := due) (e := e)
  rcases h with g | ⟨h1, h2, h3, h4, h5⟩ | ⟨h1, h2, h3, h4⟩ | ⟨h1, ⟨h2, h3⟩, ⟨g4, g5⟩, h6, h7⟩
  · exact g.2.elim
  · rw [f1 _ _ (by decide)] at h2
    rw [f1 _ _ (by omega)] at h3 h4 h5
    exact Or.inl (Or.inr (Or.inl ⟨h1, h2, h3, h4, h5⟩))
  · rw [f1 _ _ (by decide)] at h3
    by_cases cq : q = r
    · rw [cq, t1] at h4
      rcases List.mem_append.mp h4 with z | z
      · left
        rw [cq]
        exact Or.inr (Or.inr (Or.inl ⟨h1, h2, ⟨r0, r1⟩, z⟩))
      · exact Or.inr ⟨h1, cq, List.mem_singleton.mp z⟩
    · rw [t3 _ (by omega) (by omega)] at h4
      exact Or.inl (Or.inr (Or.inr (Or.inl ⟨h1, h2, h3, h4⟩)))
  · rw [f1 _ _ (by decide)] at h2 h3
    rw [f1 _ _ (by omega)] at h6 h7
    exact Or.inl (Or.inr (Or.inr (Or.inr ⟨h1, ⟨h2, h3⟩, ⟨fun d => g4 ((Dead.eq (f1 _ _ (by omega))).mpr d), fun d => g5 ((Dead.eq (f1 _ _ (by omega))).mpr d)⟩, h6, h7⟩)))
/-- an open command without anything under way is asked for again -/
theorem HK.ask (h : HK S D T W noX e) (hW : ∀ q j : Int, ¬ W q j) (r0 : 0 ≤ r) (r1 : r < e.1 7 2) (i0 : 0 ≤ i) (i1 : i < hN e r) (hk : ek (eH e r i) = k) (hk2 : k = 8 ∨ k = 9) (hne : ¬ ended (pX e r) i = true) (hno : ∀ k' w : Int, ¬ Lk noX e k' r i w) : HK S D T W (X1 k r i) e := by
  obtain ⟨c1, h1, h2, h4, h5⟩ := h
  have hlk : ∀ k' q v w : Int, Lk (X1 k r i) e k' q v w → Lk noX e k' q v w ∨ (w = -1 ∧ k' = k ∧ q = r ∧ v = i) := fun k' q v w g => by
    rcases g with g | g
    · exact Or.inr g
    · exact Or.inl (Or.inr g)
  have hi := (h1 r r0 r1).1.2
  refine ⟨c1, h1, h2, fun k' q v w g => ?_, fun k' q v w w' g g' => ?_⟩
  · rcases hlk k' q v w g with g | ⟨g1, g2, g3, g4⟩
    · exact h4 k' q v w g
    · rw [g2, g3, g4]
      refine ⟨⟨r0, r1⟩, ⟨i0, i1, hk⟩, hW _ _, fun j j0 j1 => ⟨fun hb hx => ?_, fun h11 hx => ?_⟩⟩
      · have hl := ((hi.1 j j0 j1).2.2.2.1 hb).1
        rw [hx, hk] at hl
        refine hne (ended_i.mpr ⟨j, by omega, j1, ?_, hx⟩)
        unfold bkk at hb
        unfold KB
        have h2 := hl.2
        split at h2
        · omega
        · split at h2 <;> omega
      · have hq := ((hi.1 j j0 j1).2.2.2.2.1 (by omega)).1
        have hlt := (hq.2.2.2.2.1 h11).1
        exact absurd (ended_i.mpr ⟨j, by omega, j1, Or.inr (Or.inr (Or.inr h11)), hx⟩) hne
  · rcases hlk k' q v w g with g1 | ⟨g1, g2, g3, g4⟩
    · rcases hlk k' q v w' g' with g1' | ⟨g1', g2', g3', g4'⟩
      · exact h5 k' q v w w' g1 g1'
      · rw [g3', g4'] at g1
        exact absurd g1 (hno _ _)
    · rcases hlk k' q v w' g' with g1' | ⟨g1', g2', g3', g4'⟩
      · rw [g3, g4] at g1'
        exact absurd g1' (hno _ _)
      · omega
/-- of run r only children, and what lies before i, is under way -/
def RLo (r i : Int) (e : ES) : Prop := ∀ k v w : Int, Lk noX e k r v w → k = 10 ∨ v < i
theorem HK.rs1 (h : HK S D T W noX e) (hW : ∀ q j : Int, ¬ W q j) (z : NZ e) (r0 : 0 ≤ r) (r1 : r < e.1 7 2) (i0 : 0 ≤ i) (i1 : i < hN e r) (hR : RLo r i e) : HK S D T W noX (pRs1 r i e) ∧ NZ (pRs1 r i e) ∧ RLo r (i + 1) (pRs1 r i e) ∧ ∀ k q v w : Int, q ≠ r → Lk noX (pRs1 r i e) k q v w → Lk noX e k q v w := by
  have hc := h.cn
  have n7 := hc.1
  unfold pRs1
  by_cases c : (ek (eH e r i) = 8 ∨ ek (eH e r i) = 9) ∧ ¬ ended (pX e r) i = true
  · rw [if_pos c]
    have hno : ∀ k' w : Int, ¬ Lk noX e k' r i w := fun k' w g => by
      rcases hR k' i w g with g1 | g1
      · have := (h.2.2.2.1 k' r i w g).2.1.2.2
        omega
      · omega
    have h1 := h.ask hW r0 r1 i0 i1 rfl c.1 c.2 hno
    by_cases c8 : ek (eH e r i) = 8
    · rw [if_pos c8]
      rw [c8] at h1
      refine ⟨h1.makA, ?_⟩
      unfold pMakA
      by_cases cm : e.1 8 2 < 60
      · rw [if_pos cm]
        refine ⟨z.new8 hc, fun k v w g => ?_, fun k q v w hq g => ?_⟩
        · rcases Lk.new8 hc g with g | g
          · rcases hR k v w g with g | g
            · exact Or.inl g
            · exact Or.inr (by omega)
          · exact Or.inr (by omega)
        · rcases Lk.new8 hc g with g | g
          · exact g
          · exact absurd g.2.1 hq
      · rw [if_neg cm]
        refine ⟨z.cs (cs_arr hc r0 r1), fun k v w g => ?_, fun k q v w hq g => g.arr hc r0 (by omega)⟩
        rcases hR k v w (g.arr hc r0 (by omega)) with g | g
        · exact Or.inl g
        · exact Or.inr (by omega)
    · rw [if_neg c8]
      have c9 : ek (eH e r i) = 9 := c.1.resolve_left c8
      rw [c9] at h1
      refine ⟨h1.addT ⟨rfl, rfl, rfl⟩ fun _ _ _ g => g.elim, z.addT, fun k v w g => ?_, fun k q v w hq g => ?_⟩
      · rcases Lk.addT hc r0 r1 g with g | g
        · rcases hR k v w g with g | g
          · exact Or.inl g
          · exact Or.inr (by omega)
        · exact Or.inr (by omega)
      · rcases Lk.addT hc r0 r1 g with g | g
        · exact g
        · exact absurd g.2.1 hq
  · rw [if_neg c]
    refine ⟨h, z, fun k v w g => ?_, fun _ _ _ _ _ g => g⟩
    rcases hR k v w g with g | g
    · exact Or.inl g
    · exact Or.inr (by omega)
/-- what making again leaves alone -/
def RsF (r : Int) (e e' : ES) : Prop := e'.1 7 2 = e.1 7 2 ∧ (∀ q : Int, q ≠ r → 0 ≤ q → q < 1000 → hN e' q = hN e q ∧ eH e' q = eH e q) ∧ hN e r ≤ hN e' r ∧ tot e' ≤ tot e ∧ (∀ a u : Int, 7000 ≤ a → a < 8000 → e'.1 a u = e.1 a u) ∧ ∀ q : Int, 0 ≤ q → q < 1000 → eL e' (75000 + q) = eL e (75000 + q)
theorem RsF.rf : RsF r e e := ⟨rfl, fun _ _ _ _ => ⟨rfl, rfl⟩, Int.le_refl _, Int.le_refl _, fun _ _ _ _ => rfl, fun _ _ _ => rfl⟩
theorem RsF.tr (h : RsF r e e1) (g : RsF r e1 e2) : RsF r e e2 := ⟨g.1.trans h.1, fun q h1 h2 h3 => ⟨(g.2.1 q h1 h2 h3).1.trans (h.2.1 q h1 h2 h3).1, (g.2.1 q h1 h2 h3).2.trans (h.2.1 q h1 h2 h3).2⟩, Int.le_trans h.2.2.1 g.2.2.1, Int.le_trans g.2.2.2.1 h.2.2.2.1, fun a u h1 h2 => (g.2.2.2.2.1 a u h1 h2).trans (h.2.2.2.2.1 a u h1 h2), fun q h1 h2 => (g.2.2.2.2.2 q h1 h2).trans (h.2.2.2.2.2 q h1 h2)⟩
theorem rs1_N (hc : CN e) (r0 : 0 ≤ r) (r1 : r < e.1 7 2) (hn : 0 ≤ hN e r) : RsF r e (pRs1 r i e) := by
  have n7 := hc.1
  have n8 := hc.2.1
  unfold pRs1
  split
  · split
    · unfold pMakA
      split
      · have hn' : ∀ q : Int, 0 ≤ q → q < 1000 → hN (pNew 8 (fAct r i (ex (eH e r i)) (ey (eH e r i)) (e.1 4 14)) e) q = hN e q := fun q q0 q1 => pNew_a (by omega) (by omega)
        refine ⟨pNew_a (by omega) (by omega), fun q _ q0 q1 => ⟨hn' q q0 q1, rfl⟩, by rw [hn' r r0 (by omega)]; omega, ?_, fun a u h1 h2 => pNew_a (by omega) (by omega), fun _ _ _ => rfl⟩
        exact tot_le (pNew_a (by omega) (by omega)) (fun q q0 q1 d => (Dead.eq (pNew_a (by omega) (by omega))).mpr d) (fun q q0 q1 => by unfold csr; rw [hn' q q0 (by omega)]; exact Int.le_refl _) fun _ _ _ => Nat.le_refl _
      · have ht := tot_arr (k := 2) (x := i) (y := 0) hc r0 r1 hn (by decide)
        rw [if_neg (by decide)] at ht
        exact ⟨arr_a (by omega) (by omega) (by omega) (by omega) (by omega), fun q hq q0 q1 => ⟨arr_a (by omega) (by omega) (by omega) (by omega) (by omega), arr_h hq⟩, by rw [arr_N r0]; omega, by omega, fun a u h1 h2 => arr_a (by omega) (by omega) (by omega) (by omega) (by omega), fun _ _ _ => arr_l⟩
    · have hn' : ∀ (due q : Int), 0 ≤ q → q < 1000 → hN (pAddT r i due e) q = hN e q := fun due q q0 q1 => addT_1 (by omega)
      obtain ⟨-, -, t3⟩ := addT_r (r := r) (ev := i) (due := if ew (eH e r i) + ex (eH e r i) < e.1 4 14 + 1 then e.1 4 14 + 1 else ew (eH e r i) + ex (eH e r i)) (e := e)
      refine ⟨addT_1 (by decide), fun q _ q0 q1 => ⟨hn' _ q q0 q1, rfl⟩, by rw [hn' _ r r0 (by omega)]; omega, ?_, fun a u h1 h2 => addT_1 (by omega), fun q q0 q1 => t3 _ (by omega) (by omega)⟩
      exact tot_le (addT_1 (by decide)) (fun q q0 q1 d => (Dead.eq (addT_1 (by omega))).mpr d) (fun q q0 q1 => by unfold csr; rw [hn' _ q q0 (by omega)]; exact Int.le_refl _) fun q q0 q1 => by rw [t3 _ (by omega) (by omega)]; exact Nat.le_refl _
  · exact RsF.rf
theorem HK.rsL (hW : ∀ q j : Int, ¬ W q j) (r0 : 0 ≤ r) : ∀ (n : Nat) (i : Int) (e : ES), HK S D T W noX e → NZ e → r < e.1 7 2 → 0 ≤ i → N ≤ hN e r → RLo r i e → HK S D T W noX (pRsL r N n i e) ∧ NZ (pRsL r N n i e) ∧ RsF r e (pRsL r N n i e) ∧ ∀ k q v w : Int, q ≠ r → Lk noX (pRsL r N n i e) k q v w → Lk noX e k q v w := by
  intro n
  induction n with
  | zero => intro i e h z r1 i0 hN1 hR; exact ⟨h, z, RsF.rf, fun _ _ _ _ _ g => g⟩
  | succ n ih =>
    intro i e h z r1 i0 hN1 hR
    unfold pRsL
    by_cases c : i < N
    · rw [if_pos c]
      obtain ⟨k1, k2, k3, k4⟩ := h.rs1 hW z r0 r1 i0 (by omega) hR
      have k5 := rs1_N (i := i) h.cn r0 r1 (h.len r0 r1).1
      obtain ⟨u1, u2, u3, u4⟩ := ih (i + 1) _ k1 k2 (by have := k5.1; omega) (by omega) (by have := k5.2.2.1; omega) k3
      exact ⟨u1, u2, k5.tr u3, fun k q v w hq g => k4 k q v w hq (u4 k q v w hq g)⟩
    · rw [if_neg c]
      exact ⟨h, z, RsF.rf, fun _ _ _ _ _ g => g⟩
theorem HK.rest (h : HK S D T W noX e) (hW : ∀ q j : Int, ¬ W q j) (z : NZ e) (r0 : 0 ≤ r) (r1 : r < e.1 7 2) (hR : RLo r 0 e) : HK S D T W noX (pRest r e) ∧ NZ (pRest r e) ∧ RsF r e (pRest r e) ∧ ∀ k q v w : Int, q ≠ r → Lk noX (pRest r e) k q v w → Lk noX e k q v w :=
  HK.rsL hW r0 _ 0 e h z r1 (Int.le_refl _) (Int.le_refl _) hR
/-- a run's row of lost signals goes -/
theorem HK.clr (h : HK S D T W noX e) : HK S D T W noX (eLs e (75000 + r) []) ∧ tot (eLs e (75000 + r) []) ≤ tot e := by
  have c7 := h.cn.1
  have hr : ∀ c, c ≠ 75000 + r → eL (eLs e (75000 + r) []) c = eL e c := fun c hc => eLs_a hc
  have ht : tot (eLs e (75000 + r) []) ≤ tot e := tot_le rfl (fun _ _ _ d => d) (fun _ _ _ => Int.le_refl _) fun q q0 q1 => by
    by_cases c : q = r
    · rw [c, eLs_e]
      exact Nat.zero_le _
    · rw [hr _ (by omega)]
      exact Nat.le_refl _
  obtain ⟨⟨c1, c2, c3⟩, h1, h2, h4, h5⟩ := h
  have hlk : ∀ k q v w : Int, Lk noX (eLs e (75000 + r) []) k q v w → Lk noX e k q v w := fun k q v w g => by
    rcases g with g | g | ⟨g1, g2, g3, g4⟩ | g
    · exact Or.inl g
    · exact Or.inr (Or.inl g)
    · by_cases cq : 73000 + q = 75000 + r
      · rw [cq, eLs_e] at g4
        exact absurd g4 List.not_mem_nil
      · rw [hr _ cq] at g4
        exact Or.inr (Or.inr (Or.inl ⟨g1, g2, g3, g4⟩))
    · exact Or.inr (Or.inr (Or.inr g))
  exact ⟨⟨⟨c1, c2, Int.le_trans ht c3⟩, h1, h2, fun k q v w g => h4 k q v w (hlk k q v w g), fun k q v w w' g g' => h5 k q v w w' (hlk _ _ _ _ g) (hlk _ _ _ _ g')⟩, ht⟩
theorem jn_cm : ∀ (L : List Int) (e : ES), eLs (pJnL i L e) c [] = pJnL i L (eLs e c []) := by
  intro L
  induction L with
  | nil => intro e; rfl
  | cons v L ih =>
    intro e
    unfold pJnL
    rw [ih]
    rfl
theorem HK.jnL (i0 : 0 ≤ i) : ∀ (L : List Int) (e : ES), HK S D T W X e → NZ e → i < e.1 7 2 → ¬ Dead e i → (∀ v ∈ L, 0 ≤ v ∧ v < 4000) → tot e + L.length ≤ S → HK S D T W X (pJnL i L e) ∧ SgF i e (pJnL i L e) ∧ tot (pJnL i L e) ≤ tot e + L.length := by
  intro L
  induction L with
  | nil => intro e h z _ _ _ _; exact ⟨h, SgF.rf, by simp [pJnL]⟩
  | cons v L ih =>
    intro e h z i1 hd hv hc
    have n7 := h.cn.1
    unfold pJnL
    rw [List.length_cons] at hc ⊢
    have hv0 := hv v List.mem_cons_self
    have g := SgF.arr (to := i) (k := 4) (x := v / 1000) (y := v % 1000) (e := e) i0 (by omega)
    have h1 := h.arr (x := v / 1000) (y := v % 1000) i0 i1 (Or.inl rfl) (z i i0 i1 hd) (by omega) (by omega) (fun _ => by omega) (by omega) (by omega) (fun g => by omega) (fun _ => ⟨by omega, hd⟩)
    have e1 := tot_arr (r := i) (k := 4) (x := v / 1000) (y := v % 1000) (e := e) h.cn i0 i1 (by have := h.len i0 i1; omega) (by decide)
    rw [if_pos rfl] at e1
    obtain ⟨k1, k2, k3⟩ := ih (pArr i 4 (v / 1000) (v % 1000) e) h1 (g.nz z (by omega)) (by rw [g.1.1]; exact i1) (fun d => hd ((Dead.eq (g.2.1 _ _ (by omega) (by omega) (by omega) (by omega))).mp d)) (fun u hu => hv u (List.mem_cons_of_mem _ hu)) (by omega)
    exact ⟨k1, g.tr k2, by omega⟩
/-- what a run had lost comes back -/
theorem HK.jn1 (h : HK S D T W noX e) (z : NZ e) (i0 : 0 ≤ i) (i1 : i < e.1 7 2) (hv : ∀ v ∈ eL e (75000 + i), 0 ≤ v ∧ v < 4000) : HK S D T W noX (pJn1 i e) ∧ NZ (pJn1 i e) ∧ (pJn1 i e).1 7 2 = e.1 7 2 ∧ (∀ c, c ≠ 75000 + i → eL (pJn1 i e) c = eL e c) := by
  have n7 := h.cn.1
  have z1 : NZ (eLs e (75000 + i) []) := z.hn rfl
  unfold pJn1
  by_cases c : e.1 (7000 + i) 6 = 0
  · rw [if_pos c, jn_cm]
    have hd : ¬ Dead e i := fun d => d.1 c
    obtain ⟨h1, t1⟩ := h.clr (r := i)
    have ht : tot (eLs e (75000 + i) []) + ((eL e (75000 + i)).length : Int) ≤ S := by
      have hs := sm_one (r := i) (n := 30) (f := totF e) (g := totF (eLs e (75000 + i) [])) i0 (by omega) fun j j0 j1 hj => by
        unfold totF
        rw [eLs_a (show 75000 + j ≠ 75000 + i by omega)]
        rfl
      have h2 : totF e i = csr e i + ((eL e (75000 + i)).length : Int) := by
        unfold totF
        rw [if_pos i1, if_pos (Or.inl c)]
      have h3 : totF (eLs e (75000 + i) []) i = csr e i := by
        unfold totF
        rw [eLs_e, if_pos (show i < (eLs e (75000 + i) []).1 7 2 from i1), if_pos (show (eLs e (75000 + i) []).1 (7000 + i) 6 = 0 ∨ _ from Or.inl c)]
        show csr e i + ((0 : Nat) : Int) = _
        omega
      have h4 := h.1.2.2
      unfold tot at h4 ⊢
      omega
    obtain ⟨k1, k2, k3⟩ := HK.jnL i0 (eL e (75000 + i)) (eLs e (75000 + i) []) h1 z1 i1 (fun d => hd d) hv ht
    exact ⟨k1, k2.nz z1 (by show e.1 7 2 ≤ 1000; omega), k2.1.1, fun c' hc' => (k2.2.2.2.2 c').trans (eLs_a hc')⟩
  · rw [if_neg c]
    exact ⟨(h.clr (r := i)).1, z1, rfl, fun c' hc' => eLs_a hc'⟩
/-- making another run and setting a standing: one or the other first -/
theorem es_pt : (eS e a j v).1 b i = if b = a ∧ i = j then v else e.1 b i := by
  by_cases c : b = a
  · subst c
    by_cases c2 : i = j
    · subst c2
      rw [eS_e, if_pos ⟨rfl, rfl⟩]
    · rw [eS_j c2, if_neg (fun h => c2 h.2)]
  · rw [eS_a c, if_neg (fun h => c h.1)]
theorem nrun_cm (n0 : 0 ≤ e.1 7 2) (r0 : 0 ≤ r) (r1 : r < e.1 7 2) : eS (pNewRun t tn ver par pe e) (7000 + r) 6 v = pNewRun t tn ver par pe (eS e (7000 + r) 6 v) := by
  have e7 : (eS e (7000 + r) 6 v).1 7 2 = e.1 7 2 := by rw [es_pt, if_neg (by omega)]
  refine es_ext (fun a u => ?_) rfl (fun c => ?_) rfl
  · rw [es_pt, nrun_pt, nrun_pt, e7, es_pt]
    by_cases h1 : a = 7000 + r ∧ u = 6
    · rw [if_pos h1, if_neg (by omega), if_neg (by omega), if_neg (by omega), if_pos h1]
    · rw [if_neg h1, if_neg h1]
  · show eL (pNewRun t tn ver par pe e) c = _
    unfold pNewRun
    rw [e7]
    rfl
theorem Lk.endw (hc : CN e) (h : Lk X (pEnd r e) k q v w) : Lk X e k q v w := by
  obtain ⟨p1, p2, p3, p4⟩ := end_pt (r := r) hc
  have n8 := hc.2.1
  have n7 := hc.1
  have pa : ∀ a u : Int, a < 8000 ∨ 8000 + e.1 8 2 ≤ a ∨ u ≠ 5 → (pEnd r e).1 a u = e.1 a u := fun a u ha => end_a ha
  refine h.mono (fun _ _ _ g => g) (pa _ _ (by omega)) (pa _ _ (by omega)) (fun p p0 p1' g => ?_) (fun q v q0 q1 hv => ?_) (fun p p0 p1 _ => ⟨pa _ _ (by omega), pa _ _ (by omega)⟩) fun p p0 p1 d => (Dead.eq (pa _ _ (by omega))).mpr d
  · rw [p1] at g
    refine ⟨fun hh => ?_, pa _ _ (by omega), pa _ _ (by omega)⟩
    split at g
    · exact g rfl
    · exact g hh
  · rw [p4] at hv
    split at hv
    · exact absurd hv List.not_mem_nil
    · exact hv
theorem Lk.parts (hc : CN e) (h : Lk X (pPar r fr e) k q v w) : Lk X e k q v w := by
  obtain ⟨p1, p2⟩ := par_pt (r := r) (fr := fr) hc
  have n8 := hc.2.1
  have n7 := hc.1
  have pa : ∀ a u : Int, a < 7000 ∨ 7000 + e.1 7 2 ≤ a ∨ u ≠ 4 → (pPar r fr e).1 a u = e.1 a u := fun a u ha => par_a ha
  have hl : ∀ c, eL (pPar r fr e) c = eL e c := fun c => by
    unfold eL
    rw [p2]
  refine h.mono (fun _ _ _ g => g) (pa _ _ (by omega)) (pa _ _ (by omega)) (fun p p0 p1' g => ⟨fun hh => g (by rw [pa _ _ (by omega)]; exact hh), pa _ _ (by omega), pa _ _ (by omega)⟩) (fun q v q0 q1 hv => by rw [hl] at hv; exact hv) (fun p p0 p1' g => ?_) fun p p0 p1 d => (Dead.eq (pa _ _ (by omega))).mpr d
  rw [p1] at g ⊢
  split at g
  · exact absurd g (by decide)
  · rename_i hh
    rw [if_neg hh]
    exact ⟨rfl, pa _ _ (by omega)⟩
/-- a run's first events become another's -/
theorem HK.copy (h : HK S D T W noX e) (hW : ∀ q j : Int, ¬ W q j) (k0 : 0 ≤ k) (k1 : k < e.1 7 2) (hk0 : hN e k = 0) (r0 : 0 ≤ r) (r1 : r < e.1 7 2) (N0 : 0 ≤ N) (N1 : N ≤ hN e r) (hl : lcm (eH e r) N = 0) (htt : tot e + csg (eH e r) N.toNat ≤ S) : HK S D T W noX (pFstH k r N e) ∧ tot (pFstH k r N e) ≤ tot e + csg (eH e r) N.toNat := by
  have n7 := h.cn.1
  have pa : ∀ a u : Int, a ≠ 71000 + k → (pFstH k r N e).1 a u = e.1 a u := fun a u ha => eS_a ha
  have fk : hN (pFstH k r N e) k = N := eS_e
  have fn : ∀ q : Int, q ≠ k → 0 ≤ q → q < 1000 → hN (pFstH k r N e) q = hN e q := fun q hq q0 q1 => pa _ _ (by omega)
  have hk : eH (pFstH k r N e) k = eH e r := if_pos rfl
  have hq : ∀ q : Int, q ≠ k → eH (pFstH k r N e) q = eH e q := fun q hq => if_neg hq
  have ht : tot (pFstH k r N e) ≤ tot e + csg (eH e r) N.toNat := by
    have hs := sm_one (r := k) (n := 30) (f := totF e) (g := totF (pFstH k r N e)) k0 (by omega) fun j j0 j1 hj => by
      unfold totF csr
      rw [pa _ _ (by omega), pa _ _ (by omega), fn j hj j0 (by omega), hq j hj]
      rfl
    have h3 : totF (pFstH k r N e) k ≤ totF e k + csg (eH e r) N.toNat := by
      have := csg_0 (E := eH e r) N.toNat
      unfold totF csr
      rw [pa _ _ (by omega), pa _ _ (by omega), fk, hk, hk0]
      show (if k < e.1 7 2 then _ + ((eL e (75000 + k)).length : Int) else 0) ≤ (if k < e.1 7 2 then (if _ then (0 : Int) else 0) + ((eL e (75000 + k)).length : Int) else 0) + _
      rw [if_pos k1, if_pos k1]
      split <;> omega
    unfold tot
    omega
  have hlk : ∀ k' q v w : Int, Lk noX (pFstH k r N e) k' q v w → Lk noX e k' q v w := fun k' q v w g => g.of h.cn (fun a u ha => pa a u (by omega)) fun _ _ _ => rfl
  obtain ⟨⟨⟨c1, c1b, c1c⟩, c2, c3⟩, h1, ⟨h2, h3, h3b⟩, h4, h5⟩ := h
  refine ⟨⟨⟨⟨c1.of fun a ha => pa _ _ (by omega), by rw [pa _ _ (by omega)]; exact c1b, c1c.of (pa _ _ (by omega)) fun q q0 q1 => pa _ _ (by omega)⟩, c2, by omega⟩, fun q q0 q1 => ?_, ⟨fun q j hw => absurd hw (hW _ _), fun q j q0 q1 j0 j1 hk => hW _ _, fun q i j hw => absurd hw (hW _ _)⟩, fun k' q v w g => ?_, fun k q v w w' g g' => h5 k q v w w' (hlk _ _ _ _ g) (hlk _ _ _ _ g')⟩, ht⟩
  · rw [pa _ _ (by omega)] at q1
    by_cases c : q = k
    · rw [c, fk, hk]
      exact ⟨⟨N0, (h1 r r0 r1).1.2.le N1⟩, (h1 r r0 r1).2.pre N1 hl⟩
    · rw [fn q c q0 (by omega), hq q c]
      exact h1 q q0 q1
  · obtain ⟨g1, g2, g3, g4⟩ := h4 k' q v w (hlk _ _ _ _ g)
    have c : q ≠ k := fun c => by
      rw [c] at g2
      omega
    unfold Ln
    rw [pa _ _ (by omega), fn q c g1.1 (by omega), hq q c]
    exact ⟨g1, g2, g3, g4⟩
/-- a run is set back to a TASK of its -/
theorem HK.setB (h : HK S D T W noX e) (hW : ∀ q j : Int, ¬ W q j) (z : NZ e) (r0 : 0 ≤ r) (r1 : r < e.1 7 2) (hd : ¬ Dead e r) (hn : e.1 7 2 < 30) (N0 : 0 < N) (N1 : N ≤ hN e r) (hl : lcm (eH e r) N = 0) : HK S D T W noX (pSetB r N e) ∧ NZ (pSetB r N e) := by
  have hc := h.cn
  have n7 := hc.1
  have pa : ∀ a u : Int, a ≠ 7000 + r ∨ u ≠ 6 → (eS e (7000 + r) 6 5).1 a u = e.1 a u := fun a u hh => by rw [es_pt, if_neg (by omega)]
  have e7 : (eS e (7000 + r) 6 5).1 7 2 = e.1 7 2 := pa _ _ (by omega)
  have h1 := h.dies (st := 5) r0 r1 hd (by decide) (by decide)
  have k1 : CN (eS e (7000 + r) 6 5) := h1.cn
  have hpr := h.pr r r0 r1
  have hdm : ∀ p : Int, Dead e p → Dead (eS e (7000 + r) 6 5) p := fun p d => by
    unfold Dead at d ⊢
    rw [es_pt]
    split
    · decide
    · exact d
  have h2 := h1.nrun (t := e.1 (7000 + r) 1) (tn := e.1 (7000 + r) 2) (ver := e.1 (7000 + r) 3) (par := e.1 (7000 + r) 4) (pe := e.1 (7000 + r) 5) (X' := noX) (by rw [e7]; exact hn) (by rw [e7]; exact hpr) (fun p0 pd => Or.inr ⟨rfl, rfl, rfl, ⟨p0, hpr.2⟩, fun d => pd (hdm _ d)⟩) fun _ _ _ g => g.elim
  have t2 := tot_nrun (t := e.1 (7000 + r) 1) (tn := e.1 (7000 + r) 2) (ver := e.1 (7000 + r) 3) (par := e.1 (7000 + r) 4) (pe := e.1 (7000 + r) 5) k1
  rw [tot_die hc r0 r1 hd (by decide) (by decide)] at t2
  have w1 : pSb1 r e = pNewRun (e.1 (7000 + r) 1) (e.1 (7000 + r) 2) (e.1 (7000 + r) 3) (e.1 (7000 + r) 4) (e.1 (7000 + r) 5) (eS e (7000 + r) 6 5) := nrun_cm n7.1 r0 r1
  rw [← w1] at h2 t2
  have a1 : ∀ a u : Int, a ≠ 7 → a ≠ 7000 + e.1 7 2 → a ≠ 71000 + e.1 7 2 → (a ≠ 7000 + r ∨ u ≠ 6) → (pSb1 r e).1 a u = e.1 a u := fun a u q1 q2 q3 q4 => sb1_a n7.1 q1 q2 q3 q4
  have s7 : (pSb1 r e).1 7 2 = e.1 7 2 + 1 := by rw [w1, pNewRun_n, e7]
  have sN : hN (pSb1 r e) (e.1 7 2) = 0 := by
    rw [w1]
    have := pNewRun_h (t := e.1 (7000 + r) 1) (p1 := e.1 (7000 + r) 2) (p2 := e.1 (7000 + r) 3) (p3 := e.1 (7000 + r) 4) (p4 := e.1 (7000 + r) 5) (e := eS e (7000 + r) 6 5) (by rw [e7]; exact n7.1)
    rw [e7] at this
    exact this
  have sNr : ∀ q : Int, 0 ≤ q → q < e.1 7 2 → hN (pSb1 r e) q = hN e q := fun q q0 q1 => a1 _ _ (by omega) (by omega) (by omega) (by omega)
  have sH : ∀ q : Int, eH (pSb1 r e) q = eH e q := fun q => rfl
  have sD : ∀ q : Int, 0 ≤ q → q < e.1 7 2 → q ≠ r → (Dead (pSb1 r e) q ↔ Dead e q) := fun q q0 q1 hq => Dead.eq (a1 _ _ (by omega) (by omega) (by omega) (by omega))
  have hdr : Dead (pSb1 r e) r := by
    unfold Dead
    have : (pSb1 r e).1 (7000 + r) 6 = 5 := eS_e
    rw [this]
    decide
  have hdk : ¬ Dead (pSb1 r e) (e.1 7 2) := by
    unfold Dead
    rw [w1]
    have := pNewRun_f (t := e.1 (7000 + r) 1) (p1 := e.1 (7000 + r) 2) (p2 := e.1 (7000 + r) 3) (p3 := e.1 (7000 + r) 4) (p4 := e.1 (7000 + r) 5) (e := eS e (7000 + r) 6 5) (j := 6) (by rw [e7]; exact n7.1)
    rw [e7] at this
    rw [this]
    exact fun hh => hh.1 rfl
  have hcr : csr e r = csg (eH e r) (hN e r).toNat := rfl
  have hst := h.1.2.2
  have hm := csg_m (E := eH e r) ((hN e r).toNat - N.toNat) N.toNat
  rw [show N.toNat + ((hN e r).toNat - N.toNat) = (hN e r).toNat by omega] at hm
  obtain ⟨h3, t3⟩ := h2.copy hW (k := e.1 7 2) (r := r) (N := N) n7.1 (by omega) sN r0 (by omega) (by omega) (by rw [sNr r r0 r1]; exact N1) (by rw [sH]; exact hl) (by rw [sH]; omega)
  rw [sH] at t3
  -- the whens
  have cW : ∀ a u : Int, a ≠ 76000 + e.1 7 2 → (eW (e.1 7 2) r (pFstH (e.1 7 2) r N (pSb1 r e))).1 a u = (pFstH (e.1 7 2) r N (pSb1 r e)).1 a u := fun a u ha => eW_a ha
  have h4 : HK S D T W noX (eW (e.1 7 2) r (pFstH (e.1 7 2) r N (pSb1 r e))) := h3.frm0 (fun _ _ _ g => g) (h3.cn.of fun a ha => cW _ _ (by omega)) (by rw [cW _ _ (by omega)]; exact h3.1.1.2.1) (fun a u ha => cW _ _ (by omega)) (fun _ _ _ => ⟨rfl, rfl⟩) fun _ _ _ => rfl
  have h5 := h4.endw (r := r) r0 (by omega)
  have h6 := h5.parts (r := r) (fr := 0)
  have w6 : pPar r 0 (pEnd r (eW (e.1 7 2) r (pFstH (e.1 7 2) r N (pSb1 r e)))) = pSb5 r N e := rfl
  -- frames
  have f4 : ∀ a u : Int, a ≠ 71000 + e.1 7 2 → a ≠ 76000 + e.1 7 2 → (eW (e.1 7 2) r (pFstH (e.1 7 2) r N (pSb1 r e))).1 a u = (pSb1 r e).1 a u := fun a u g1 g2 => (cW a u g2).trans (eS_a g1)
  have c8 := h4.cn.2.1
  have c7 := h4.cn.1
  have f5 : ∀ a u : Int, a < 8000 ∨ 9000 ≤ a ∨ u ≠ 5 → (pEnd r (eW (e.1 7 2) r (pFstH (e.1 7 2) r N (pSb1 r e)))).1 a u = (eW (e.1 7 2) r (pFstH (e.1 7 2) r N (pSb1 r e))).1 a u := fun a u ha => end_a (by omega)
  have c75 := h5.cn.1
  have f6 : ∀ a u : Int, (a < 8000 ∨ 9000 ≤ a ∨ u ≠ 5) → (a < 7000 ∨ 8000 ≤ a ∨ u ≠ 4) → (pSb5 r N e).1 a u = (eW (e.1 7 2) r (pFstH (e.1 7 2) r N (pSb1 r e))).1 a u := fun a u ha hb => (par_a (r := r) (fr := 0) (e := pEnd r (eW (e.1 7 2) r (pFstH (e.1 7 2) r N (pSb1 r e)))) (by omega)).trans (f5 a u ha)
  have q7 : (pSb5 r N e).1 7 2 = e.1 7 2 + 1 := by rw [f6 _ _ (by omega) (by omega), f4 _ _ (by omega) (by omega)]; exact s7
  have qN : hN (pSb5 r N e) (e.1 7 2) = N := by
    have h1 : hN (pSb5 r N e) (e.1 7 2) = hN (eW (e.1 7 2) r (pFstH (e.1 7 2) r N (pSb1 r e))) (e.1 7 2) := f6 _ _ (by omega) (by omega)
    rw [h1]
    have h2 : hN (eW (e.1 7 2) r (pFstH (e.1 7 2) r N (pSb1 r e))) (e.1 7 2) = hN (pFstH (e.1 7 2) r N (pSb1 r e)) (e.1 7 2) := cW _ _ (by omega)
    rw [h2]
    exact eS_e
  have qNr : ∀ q : Int, 0 ≤ q → q < e.1 7 2 → hN (pSb5 r N e) q = hN e q := fun q q0 q1 => by
    have h1 : hN (pSb5 r N e) q = hN (eW (e.1 7 2) r (pFstH (e.1 7 2) r N (pSb1 r e))) q := f6 _ _ (by omega) (by omega)
    rw [h1]
    have h2 : hN (eW (e.1 7 2) r (pFstH (e.1 7 2) r N (pSb1 r e))) q = hN (pSb1 r e) q := f4 _ _ (by omega) (by omega)
    rw [h2]
    exact sNr q q0 q1
  have qD : ∀ q : Int, 0 ≤ q → q < 30 → (Dead (pSb5 r N e) q ↔ Dead (pSb1 r e) q) := fun q q0 q1 => Dead.eq (by rw [f6 _ _ (by omega) (by omega), f4 _ _ (by omega) (by omega)])
  have p5 := (par_pt (r := r) (fr := 0) h5.cn).2
  have p4 := (end_pt (r := r) h4.cn).2.1
  have qH : ∀ q : Int, q ≠ e.1 7 2 → eH (pSb5 r N e) q = eH e q := fun q hq => by
    have g1 : eH (pSb5 r N e) q = eH (pEnd r (eW (e.1 7 2) r (pFstH (e.1 7 2) r N (pSb1 r e)))) q := congrFun (congrArg (·.1) p5) q
    have g2 : eH (pEnd r (eW (e.1 7 2) r (pFstH (e.1 7 2) r N (pSb1 r e)))) q = eH (eW (e.1 7 2) r (pFstH (e.1 7 2) r N (pSb1 r e))) q := congrFun p4 q
    rw [g1, g2]
    exact if_neg hq
  have z6 : NZ (pSb5 r N e) := fun q q0 q1 hd' => by
    rw [q7] at q1
    by_cases cq : q = e.1 7 2
    · rw [cq, qN]
      exact N0
    · rw [qNr q q0 (by omega)]
      by_cases cr : q = r
      · exact absurd ((qD q q0 (by omega)).mpr (by rw [cr]; exact hdr)) hd'
      · exact z q q0 (by omega) fun d => hd' ((qD q q0 (by omega)).mpr ((sD q q0 (by omega) cr).mpr d))
  have hR : RLo (e.1 7 2) 0 (pSb5 r N e) := fun k v w g => by
    have g1 : Lk noX (pEnd r (eW (e.1 7 2) r (pFstH (e.1 7 2) r N (pSb1 r e)))) k (e.1 7 2) v w := Lk.parts h5.cn g
    have g2 := Lk.endw h4.cn g1
    have g3 : Lk noX (pSb1 r e) k (e.1 7 2) v w := g2.of h2.cn (fun a u ha => f4 _ _ (by omega) (by omega)) fun _ _ _ => rfl
    have := (h2.2.2.2.1 _ _ _ _ g3).2.1
    omega
  rw [w6] at h6
  obtain ⟨h7, z7, F7, -⟩ := h6.rest hW z6 (r := e.1 7 2) n7.1 (by omega) hR
  have t6 : tot (pSb5 r N e) ≤ tot (pFstH (e.1 7 2) r N (pSb1 r e)) := by
    refine tot_le (by rw [f6 _ _ (by omega) (by omega)]; exact cW _ _ (by omega)) (fun q q0 q1 d => ?_) (fun q q0 q1 => ?_) fun q q0 q1 => ?_
    · exact (Dead.eq (by rw [f6 _ _ (by omega) (by omega)]; exact cW _ _ (by have := h3.cn.1; omega))).mpr d
    · have hn3 := h3.cn.1
      have g0 : hN (pSb5 r N e) q = hN (pFstH (e.1 7 2) r N (pSb1 r e)) q := (f6 _ _ (by omega) (by omega)).trans (cW _ _ (by omega))
      have g1 : eH (pSb5 r N e) q = eH (pEnd r (eW (e.1 7 2) r (pFstH (e.1 7 2) r N (pSb1 r e)))) q := congrFun (congrArg (·.1) p5) q
      have g2 : eH (pEnd r (eW (e.1 7 2) r (pFstH (e.1 7 2) r N (pSb1 r e)))) q = eH (pFstH (e.1 7 2) r N (pSb1 r e)) q := congrFun p4 q
      unfold csr
      rw [g0, g1, g2]
      exact Int.le_refl _
    · have hn3 := h3.cn.1
      have g1 : eL (pSb5 r N e) (75000 + q) = eL (pEnd r (eW (e.1 7 2) r (pFstH (e.1 7 2) r N (pSb1 r e)))) (75000 + q) := congrFun (congrArg (·.2.1) p5) _
      rw [g1, (end_pt (r := r) h4.cn).2.2.2, if_neg (by omega)]
      exact Nat.le_refl _
  have t7 := F7.2.2.2.1
  obtain ⟨u1, u2⟩ := F7.2.1 r (by omega) r0 (by omega)
  rw [qNr r r0 r1] at u1
  rw [qH r (by omega)] at u2
  have d7 : ¬ Dead (pRest (e.1 7 2) (pSb5 r N e)) (e.1 7 2) := fun d => hdk ((qD _ n7.1 hn).mp ((Dead.eq (F7.2.2.2.2.1 _ _ (by omega) (by omega))).mp d))
  have e77 := F7.1
  obtain ⟨h8, F8, -⟩ := HK.sndL (sz := hN e r) (q := r) n7.1 (by omega) r0 ((hN e r - N).toNat + 1) N _ (by omega) h7 (by omega) d7 (by omega) (by have := F7.2.2.1; omega) N1 (by omega) (by omega) (by rw [u2]; omega)
  have w8 : pSetB r N e = pSndL (e.1 7 2) r (hN e r) ((hN e r - N).toNat + 1) N (pRest (e.1 7 2) (pSb5 r N e)) := by
    unfold pSetB pSnd
    rw [u1]
  rw [w8]
  exact ⟨h8, F8.nz z7 (by omega)⟩
end LN8
