/-! THE GLOBAL NUMBERS through the calls: backfilled, joined, brought in. -/
section GLG
variable {e e' e1 e2 : ES} {S D T a b c d i j k k' q r v w N M p y t o p1 p2 p3 p4 p5 p6 : Int} {n : Nat}
theorem gl_bfL (p0 : 0 ≤ p) (p1' : p < 1000) : ∀ (n : Nat) (a t : Int) (e : ES), GLo k e → HH S D T e → ScB p e → GLo k (pBfL p N n a t e).2 := by
  intro n
  induction n with
  | zero => intro a t e h _ _; exact h
  | succ n ih =>
    intro a t e h hH hs
    unfold pBfL
    split
    · exact h
    · split
      · rename_i c
        obtain ⟨g1, g2⟩ := hH.start (inp := t * e.1 (10000 + p) 2 % 1000) c (by omega) (by omega) hs.1 hs.2.1 hs.2.2
        exact ih _ _ _ (h.ex hH.cn g2) g1 (hs.sd g2.sd p0 p1')
      · exact h
theorem gl_backfill (h : GLo k e) (hH : HH S D T e) : GLo k (pcBackfill p1 p2 e).2 := by
  have n10 := hH.cn.2.2.2.1
  unfold pcBackfill
  split
  · rename_i c
    have g := h.2.2.2.2.2.2.2 p1 c.1 c.2
    split
    · exact h.thr hH.cn
    · exact gl_bfL c.1 (by omega) _ _ _ _ h hH ⟨⟨g.1.1, g.1.2.1⟩, g.2.1, g.1.2.2⟩
  · exact h.thr hH.cn
theorem GLo.e75 (h : GLo k e) (hc : CN e) (i0 : 0 ≤ i) (i1 : i < 1000) : GLo k (eLs e (75000 + i) []) := h.fr hc (fun _ _ => rfl) (fun _ _ _ _ => rfl) (fun _ _ _ _ => rfl) (Int.le_refl _) fun c c0 c1 => eLs_a (by omega)
theorem gl_jnR : ∀ (n : Nat) (a i : Int) (e : ES), GLo k e → HH S D T e → 0 ≤ i → GLo k (pJnR n a i e).2 := by
  intro n
  induction n with
  | zero => intro a i e h _ _; exact h
  | succ n ih =>
    intro a i e h hH i0
    have n7 := hH.cn.1
    unfold pJnR
    split
    · rename_i c
      refine ih _ _ _ ?_ (hh_jn1 hH i0 c).1 (by omega)
      unfold pJn1
      by_cases cs : e.1 (7000 + i) 6 = 0
      · rw [if_pos cs]
        have g := gc_jnL (Z := nZ) i0 (eL e (75000 + i)) e hH.cn hH.hn c
        exact (h.ex hH.cn g.1.1).e75 g.2 i0 (by omega)
      · rw [if_neg cs]
        exact h.e75 hH.cn i0 (by omega)
    · exact h
theorem gl_join (h : GLo k e) (hH : HH S D T e) : GLo k (pcJoin e).2 := by
  unfold pcJoin
  split
  · exact gl_jnR _ _ _ _ (h.s4 (fun g => by omega) (fun g => by omega) (fun _ => Or.inr rfl) (Int.le_refl _)) (hH.es (hH.1.es0 (a := 4) (j := 17) (by omega) (by omega)) (by omega)) (Int.le_refl _)
  · exact h.thr hH.cn
theorem gl_brL : ∀ (n : Nat) (i : Int) (e : ES), GLo k e → HH S D T e → GLo k (pBrL N n i e).2 := by
  intro n
  induction n with
  | zero => intro i e h _; exact h
  | succ n ih =>
    intro i e h hH
    unfold pBrL
    split
    · split
      · rename_i c
        have pa : ∀ b u : Int, (b ≠ 4 ∨ u ≠ 12) → (b < 7000 ∨ 7030 ≤ b ∨ u ≠ 11) → (pBr1 e).1 b u = e.1 b u := fun b u h1 h2 => br1_b h1 h2 hH.tags.2 hH.cn.1.2
        exact ih _ _ (h.fr hH.cn (fun u hu => pa _ _ (by omega) (by omega)) (fun b u b0 b1 => pa _ _ (by omega) (by omega)) (fun b u b0 b1 => pa _ _ (by omega) (by omega)) (by rw [pa _ _ (by omega) (by omega)]; omega) fun c _ _ => br1_l) (hh_br1 hH c (ph_br1 hH.1))
      · exact h
    · exact h
theorem gl_bringIn (h : GLo k e) (hH : HH S D T e) : GLo k (pcBringIn p1 e).2 := by
  unfold pcBringIn
  split
  · exact h.thr hH.cn
  · exact gl_brL _ _ _ h hH
end GLG
