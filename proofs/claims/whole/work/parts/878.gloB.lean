/-! THE GLOBAL NUMBERS through the calls: what puts one event. -/
section GLC
variable {e e' e1 e2 : ES} {S D T a b c d i j k k' q r v w N M p y t o p1 p2 p3 p4 p5 p6 : Int} {n : Nat}
theorem GLo.arr (h : GLo k e) (hc : CN e) (r0 : 0 ≤ r) (r1 : r < 1000) : GLo k (pArr r a b c e) := by
  have pa : ∀ x u : Int, x < 68 ∨ (9000 ≤ x ∧ x < 11000) → x ≠ 3 → (x ≠ 4 ∨ u ≠ 16) → (pArr r a b c e).1 x u = e.1 x u := fun x u h1 h2 h3 => arr_a (by omega) h2 (by omega) (by omega) h3
  exact h.fr hc (fun u hu => pa _ _ (by omega) (by omega) (by omega)) (fun x u x0 x1 => pa _ _ (by omega) (by omega) (by omega)) (fun x u x0 x1 => pa _ _ (by omega) (by omega) (by omega)) (by rw [pa _ _ (by omega) (by omega) (by omega)]; omega) fun c _ _ => arr_l
theorem GLo.back (h : GLo k e) (hH : HH S D T e) (p0 : 0 ≤ p) (p1' : p < e.1 8 2) : GLo k (pArr (e.1 (8000 + p) 0) a b c (eS e (8000 + p) 5 2)) := by
  have n8 := hH.cn.2.1
  have n7 := hH.cn.1
  have q := (hH.2.1.2.2.1 p p0 p1').2.1
  exact (h.es (a := 8000 + p) (j := 5) (v := 2) hH.cn (by omega)).arr (hH.cn.of fun a ha => by rw [es_pt, if_neg (by omega)]) q.1 (by omega)
theorem gl_answer (h : GLo k e) (hH : HH S D T e) : GLo k (pcAnswer p1 p2 e).2 := by
  unfold pcAnswer
  split
  · rename_i c
    split
    · split
      · exact h.back hH c.1 c.2
      · exact h
    · exact h.thr hH.cn
  · exact h.thr hH.cn
theorem GLo.miss (h : GLo k e) (hH : HH S D T e) (p0 : 0 ≤ p) (p1' : p < e.1 8 2) : GLo k (pMiss p c e) := by
  have n8 := hH.cn.2.1
  unfold pMiss
  split
  · have h1 := h.es (a := 8000 + p) (j := 5) (v := 0) hH.cn (by omega)
    exact h1.es (hH.cn.of fun a ha => by rw [es_pt, if_neg (by omega)]) (by omega)
  · exact h.back hH p0 p1'
theorem gl_fail (h : GLo k e) (hH : HH S D T e) : GLo k (pcFail p1 p2 e).2 := by
  unfold pcFail
  split
  · rename_i c
    split
    · exact h.miss hH c.1 c.2
    · exact h
  · exact h.thr hH.cn
theorem gl_beat (h : GLo k e) (hc : CN e) : GLo k (pcBeat p1 p2 e).2 := by
  have n8 := hc.2.1
  unfold pcBeat
  split
  · split
    · split
      · have h1 := h.es (a := 8000 + p1) (j := 10) (v := p2) hc (by omega)
        exact h1.es (hc.of fun a ha => by rw [es_pt, if_neg (by omega)]) (by omega)
      · exact h
    · exact h.thr hc
  · exact h.thr hc
theorem gl_copy (h : GLo k e) (hc : CN e) : GLo k (pcCopy p1 p2 e).2 := by
  have n7 := hc.1
  unfold pcCopy
  split
  · split
    · exact h.thr hc
    · exact h.es hc (by omega)
  · exact h.thr hc
theorem gl_plain (h : GLo k e) (hc : CN e) : GLo k (pcPlain p1 p2 e).2 := by
  have g := h.eqm hc (eM_eq : EQM e (qM e p1 (e.1 (7000 + p1) 3) 0))
  have hc2 : CN (qM e p1 (e.1 (7000 + p1) 3) 0) := hc.of fun a ha => eM_eq.1 _ _ (by omega)
  unfold pcPlain
  split
  · split
    · split
      · exact g.eqm hc2 eM_eq
      · exact g.thr hc2
    · exact h.thr hc
  · exact h.thr hc
theorem gl_update (h : GLo k e) (hc : CN e) : GLo k (pcUpdate p1 p2 p3 e).2 := by
  have n7 := hc.1
  have g := h.eqm hc (eM_eq : EQM e (qM e p1 (e.1 (7000 + p1) 3) 0))
  have hc2 : CN (qM e p1 (e.1 (7000 + p1) 3) 0) := hc.of fun a ha => eM_eq.1 _ _ (by omega)
  unfold pcUpdate
  split
  · rename_i c
    split
    · split
      · split
        · split
          · exact g.arr hc2 c.1 (by omega)
          · exact g
        · exact h.thr hc
      · exact h.thr hc
    · exact h.thr hc
  · exact h.thr hc
theorem gl_move (h : GLo k e) (hc : CN e) : GLo k (pcMove p1 p2 e).2 := by
  have n7 := hc.1
  unfold pcMove
  split
  · rename_i c
    split
    · split
      · have h1 := h.es (a := 7000 + p1) (j := 3) (v := p2) hc (by omega)
        have hc1 : CN (eS e (7000 + p1) 3 p2) := hc.of fun a ha => by rw [es_pt, if_neg (by omega)]
        have h2 : GLo k (pMv2 p1 p2 e) := h1.es hc1 (by omega)
        exact h2.eqm (hc1.of fun a ha => by unfold pMv2; rw [es_pt, if_neg (by omega)]) eM_eq
      · exact h.thr hc
    · exact h.thr hc
  · exact h.thr hc
end GLC
