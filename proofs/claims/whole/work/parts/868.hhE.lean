/-! ALL THAT STANDS BETWEEN THE CALLS: brought in, backfilled, 27, joined. -/
section HHE
variable {e e' e1 e2 : ES} {Z : Int → Prop} {S D T S' D' T' a b c d i j k q r v w N M p y t o p1 p2 p3 p4 p5 p6 tn inp : Int} {n : Nat} {s : TS} {l : List Int}
theorem ph_br1 (h : PHs S D T e) : PHs S D T (pBr1 e) := by
  have n7 := h.cn.1
  unfold pBr1
  by_cases c : (eL e 14).getD (e.1 4 12).toNat 0 / 1000 < e.1 7 2
  · rw [if_pos c]
    by_cases c0 : 0 ≤ (eL e 14).getD (e.1 4 12).toNat 0 / 1000
    · exact (h.es0 (by omega) (by omega)).es0 (by omega) (by omega)
    · refine (h.es (a := 7000 + (eL e 14).getD (e.1 4 12).toNat 0 / 1000) (j := 11) (h.cn.of fun a ha => ?_) (by omega) (by omega)).es0 (by omega) (by omega)
      rw [es_pt, if_neg (by omega)]
  · rw [if_neg c]
    exact h.es0 (by omega) (by omega)
theorem hh_brL : ∀ (n : Nat) (i : Int) (e : ES), HH S D T e → HH S D T (pBrL N n i e).2 := by
  intro n
  induction n with
  | zero => intro i e h; exact h
  | succ n ih =>
    intro i e h
    unfold pBrL
    split
    · split
      · rename_i c
        exact ih _ _ (hh_br1 h c (ph_br1 h.1))
      · exact h
    · exact h
theorem hh_bringIn (h : HH S D T e) : HH S D T (pcBringIn p1 e).2 := by
  unfold pcBringIn
  split
  · exact h.thr
  · exact hh_brL _ _ _ h
/-- a run begins -/
theorem HH.start (h : HH S D T e) (hn : e.1 7 2 < 30) (x0 : 0 ≤ inp) (x1 : inp ≤ 999) (ht : 0 ≤ t ∧ t < 4) (htn : 0 ≤ tn ∧ tn < 3) (hv : 0 < e.1 (48 + 4 * t + 1) 2) : HH S D T (pStart t tn inp (-1) 0 e) ∧ EX e (pStart t tn inp (-1) 0 e) := by
  have n7 := h.cn.1
  have g := gc_start (Z := nZ) (inp := inp) (par := -1) (pe := 0) h.cn h.hn hn ht htn hv (by omega) (by omega)
  exact ⟨h.gx g (h.1.start hn x0 x1), g.1.1⟩
/-- what a schedule starts -/
def ScB (p : Int) (e : ES) : Prop := (0 ≤ e.1 (10000 + p) 0 ∧ e.1 (10000 + p) 0 < 4) ∧ (0 ≤ e.1 (10000 + p) 1 ∧ e.1 (10000 + p) 1 < 3) ∧ 0 < e.1 (48 + 4 * e.1 (10000 + p) 0 + 1) 2
theorem ScB.of (h : ScB p e) (p0 : 0 ≤ p) (p1 : p < 1000) (ha : ∀ u : Int, u = 0 ∨ u = 1 → e'.1 (10000 + p) u = e.1 (10000 + p) u) (hv : ∀ t : Int, 0 ≤ t → t < 4 → e'.1 (48 + 4 * t + 1) 2 = e.1 (48 + 4 * t + 1) 2) : ScB p e' := by
  obtain ⟨h1, h2, h3⟩ := h
  unfold ScB
  rw [ha 0 (by omega), ha 1 (by omega), hv _ h1.1 h1.2]
  exact ⟨h1, h2, h3⟩
theorem hh_bfL (p0 : 0 ≤ p) (p1 : p < 1000) : ∀ (n : Nat) (a t : Int) (e : ES), HH S D T e → ScB p e → HH S D T (pBfL p N n a t e).2 := by
  intro n
  induction n with
  | zero => intro a t e h _; exact h
  | succ n ih =>
    intro a t e h hs
    unfold pBfL
    split
    · exact h
    · split
      · rename_i c
        obtain ⟨g1, g2⟩ := h.start (inp := t * e.1 (10000 + p) 2 % 1000) c (by omega) (by omega) hs.1 hs.2.1 hs.2.2
        exact ih _ _ _ g1 (hs.of p0 p1 (fun u _ => g2.2.2.2.1 _ _ (by omega)) fun t t0 t1 => g2.2.2.2.1 _ _ (by omega))
      · exact h
theorem hh_backfill (h : HH S D T e) (hs : ∀ p : Int, 0 ≤ p → p < e.1 10 2 → WSch e p) : HH S D T (pcBackfill p1 p2 e).2 := by
  have n10 := h.cn.2.2.2.1
  unfold pcBackfill
  split
  · rename_i c
    have g := hs p1 c.1 c.2
    split
    · exact h.thr
    · exact hh_bfL c.1 (by omega) _ _ _ _ h ⟨⟨g.1.1, g.1.2.1⟩, g.2.1, g.1.2.2⟩
  · exact h.thr
theorem hh_unL : ∀ (n : Nat) (a i : Int) (e : ES), HH S D T e → HH S D T (pUnL t v n a i e).2 := by
  intro n
  induction n with
  | zero => intro a i e h; exact h
  | succ n ih =>
    intro a i e h
    unfold pUnL
    split
    · split
      · exact ih _ _ _ h.qm
      · exact ih _ _ _ h
    · exact h
theorem hh_27 (h : HH S D T e) : HH S D T (pcUnsafe p1 p2 e).2 := by
  unfold pcUnsafe
  split
  · split
    · exact hh_unL _ _ _ _ h
    · exact h.thr
  · exact h.thr
/-- what was lost comes back -/
theorem gc_jnL (i0 : 0 ≤ i) : ∀ (L : List Int) (e : ES), CN e → HNN e → i < e.1 7 2 → GC Z Z e (pJnL i L e) := by
  intro L
  induction L with
  | nil => intro e hc _ _; exact ⟨GX.rf, hc⟩
  | cons v L ih =>
    intro e hc hK i1
    unfold pJnL
    have g := gc_arr (Z := Z) (r := i) (k := 4) (x := v / 1000) (y := v % 1000) hc hK i0 i1 (by decide) (by decide)
    exact g.tr (ih _ g.2 (g.hk hK) (by have := g.n7; omega)) hK hc
theorem FK.e75 (h : FK e) (hn : HNN e) (hc : CN e) (i0 : 0 ≤ i) (i1 : i < 1000) : FK (eLs e (75000 + i) []) := by
  have n7 := hc.1
  obtain ⟨⟨f1, f2, f3, f4, f5⟩, hK⟩ := h
  have pl : ∀ c, c ≠ 75000 + i → eL (eLs e (75000 + i) []) c = eL e c := fun c hcc => eLs_a hcc
  refine ⟨⟨f1, fun r r0 r1 => ?_, f3, fun r r0 r1 => ?_, ?_⟩, hK.fr f1 hn hc (fun _ _ _ => rfl) (fun _ _ _ => Int.le_refl _) (fun t v t0 t1 v0 v1 => pl _ (by have := hc.2.2.2.2 _ (isT_4 t0 t1); omega)) (fun _ _ _ => id) (fun _ _ _ => rfl) fun r r0 g => ⟨g, rfl, rfl⟩⟩
  · have r1' : r < e.1 7 2 := r1
    unfold TmF
    rw [pl _ (by omega), pl _ (by omega)]
    exact f2 r r0 r1
  · by_cases c : r = i
    · subst c
      rw [eLs_e]
      intro v hv
      exact absurd hv List.not_mem_nil
    · rw [pl _ (by omega)]
      exact f4 r r0 r1
  · unfold TgF
    rw [pl _ (by omega)]
    exact f5
theorem hh_jn1 (h : HH S D T e) (i0 : 0 ≤ i) (i1 : i < e.1 7 2) : HH S D T (pJn1 i e) ∧ (pJn1 i e).1 7 2 = e.1 7 2 := by
  have n7 := h.cn.1
  obtain ⟨k1, k2, k3, k4⟩ := h.1.1.jn1 h.1.2 i0 i1 (h.2.1.2.2.2.1 i i0 i1)
  refine ⟨⟨⟨k1, k2⟩, ?_⟩, k3⟩
  unfold pJn1
  by_cases c : e.1 (7000 + i) 6 = 0
  · rw [if_pos c]
    have g := gc_jnL (Z := nZ) i0 (eL e (75000 + i)) e h.cn h.hn i1
    exact (h.fk.gc h.hn h.cn g).e75 (g.hk h.hn) g.2 i0 (by omega)
  · rw [if_neg c]
    exact h.fk.e75 h.hn h.cn i0 (by omega)
theorem hh_jnR : ∀ (n : Nat) (a i : Int) (e : ES), HH S D T e → 0 ≤ i → HH S D T (pJnR n a i e).2 := by
  intro n
  induction n with
  | zero => intro a i e h _; exact h
  | succ n ih =>
    intro a i e h i0
    unfold pJnR
    split
    · rename_i c
      exact ih _ _ _ (hh_jn1 h i0 c).1 (by omega)
    · exact h
theorem hh_join (h : HH S D T e) : HH S D T (pcJoin e).2 := by
  unfold pcJoin
  split
  · exact hh_jnR _ _ _ _ (h.es (h.1.es0 (a := 4) (j := 17) (by omega) (by omega)) (by omega)) (Int.le_refl _)
  · exact h.thr
end HHE
