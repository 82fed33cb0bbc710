/-! THE LAW: the reference's memory is read at its own places alone. -/
section RXN
variable {m m' M m1 m2 : MM} {e e' : ES} {a b c i j k o r v w p t s x y n : Int} {l : List Int}
/-- the reference's cells, at places from 0 on -/
def SmR (m m' : MM) : Prop := ∀ a j : Int, 68 ≤ a → a ≤ 161 → 0 ≤ j → m' a j = m a j
theorem gd_c {β : Type} {c : Prop} [Decidable c] {x y : Option β} (h : c → x = y) : gd c x = gd c y := by
  unfold gd
  by_cases hc : c
  · rw [if_pos hc, if_pos hc, h hc]
  · rw [if_neg hc, if_neg hc]
theorem at_nn (hm : SmR m m') : fm_X12_at r i m' = fm_X12_at r i m := by
  have key : ∀ (K K' : Int → Option Int) (hk : ∀ z, K' z = K z) (f : Nat) (y : Int), fl_X12_at_2 i m' K' f y = fl_X12_at_2 i m K f y := by
    intro K K' hk f
    induction f with
    | zero => intro y; rfl
    | succ f ih =>
      intro y
      unfold fl_X12_at_2
      refine gd_c fun hc => ?_
      rw [hm 88 y (by decide) (by decide) hc.1, hk y, hm 87 y (by decide) (by decide) hc.1]
      by_cases c : i < m 88 y
      · rw [lx_p, if_pos c, lx_p, lx_p, if_pos c, lx_p]
        exact ih _
      · rw [lx_p, if_neg c, lx_p, if_neg c]
  unfold fm_X12_at
  refine key _ _ (fun z => ?_) BIG r
  refine gd_c fun hc => ?_
  rw [hm 88 z (by decide) (by decide) hc.1]
  show gd _ _ = gd _ _
  refine gd_c fun hc2 => ?_
  rw [hm 96 _ (by decide) (by decide) hc2.1]
theorem RXd.nn (h : RXd m l s) (hm : SmR m m') (s0 : 0 ≤ s) : RXd m' l s := by
  obtain ⟨h1, h2, h3⟩ := h
  refine ⟨by rw [hm 70 s (by decide) (by decide) s0]; exact h1, h2, fun i v hv => ?_⟩
  rw [hm 71 _ (by decide) (by decide) (by omega), hm 72 _ (by decide) (by decide) (by omega), hm 73 _ (by decide) (by decide) (by omega)]
  exact h3 i v hv
theorem RXE.nn (h : RXE m e) (hc : CN e) (hm : SmR m m') : RXE m' e := by
  have n7 := hc.1
  have n8 := hc.2.1
  have n9 := hc.2.2.1
  have n10 := hc.2.2.2.1
  have d : ∀ a j : Int, 68 ≤ a ∧ a ≤ 161 → 0 ≤ j → m' a j = m a j := fun a j g1 g2 => hm a j g1.1 g1.2 g2
  obtain ⟨ps, pt, pk, pr, pa, pm, pj, pw, pc, pg, ph, pp, pl⟩ := h
  refine ⟨?_, ?_, ?_, ⟨?_, ?_⟩, ?_, ?_, ⟨?_, ?_, ?_⟩, ?_, ⟨?_, ?_⟩, ?_, ?_, ?_, ?_⟩
  · unfold RXs at ps ⊢
    rw [d 68 0 (by decide) (by decide), d 68 12 (by decide) (by decide), d 68 29 (by decide) (by decide), d 68 30 (by decide) (by decide), d 68 34 (by decide) (by decide), d 68 50 (by decide) (by decide), d 68 51 (by decide) (by decide), d 68 68 (by decide) (by decide), d 68 69 (by decide) (by decide), d 68 79 (by decide) (by decide), d 68 80 (by decide) (by decide)]
    exact ps
  · intro k k0 k1
    obtain ⟨q1, q2, q3, q4⟩ := pt k k0 k1
    exact ⟨by rw [d 69 k (by decide) k0]; exact q1, by rw [d 79 k (by decide) k0]; exact q2, q3.nn hm (by omega), fun v v0 v1 => (q4 v v0 v1).nn hm (by omega)⟩
  · intro k k0 k1 j j0 j1
    rw [d (74 + j) k (by omega) k0]
    exact pk k k0 k1 j j0 j1
  · intro r r0 r1
    have q := pr.1 r r0 r1
    unfold RXr1 at q ⊢
    rw [d 80 r (by decide) r0, d 81 r (by decide) r0, d 82 r (by decide) r0, d 83 r (by decide) r0, d 84 r (by decide) r0, d 85 r (by decide) r0, d 86 r (by decide) r0, d 89 r (by decide) r0, d 90 r (by decide) r0, d 91 r (by decide) r0, d 92 r (by decide) r0, d 93 r (by decide) r0, d 94 r (by decide) r0, d 138 r (by decide) r0]
    exact q
  · intro r r0 r1
    have q := pr.2 r r0 r1
    have r0' : 0 ≤ r := by omega
    unfold RXr0 at q ⊢
    rw [d 88 r (by decide) r0', d 89 r (by decide) r0', d 90 r (by decide) r0', d 91 r (by decide) r0', d 92 r (by decide) r0', d 93 r (by decide) r0', d 138 r (by decide) r0']
    exact q
  · intro p p0 p1
    have q := pa p p0 p1
    unfold RXa1 at q ⊢
    rw [d 98 p (by decide) p0, d 99 p (by decide) p0, d 100 p (by decide) p0, d 101 p (by decide) p0, d 102 p (by decide) p0, d 103 p (by decide) p0, d 104 p (by decide) p0, d 105 p (by decide) p0, d 106 p (by decide) p0, d 107 p (by decide) p0, d 108 p (by decide) p0]
    exact q
  · have e1 : xT m' = xT m := by
      unfold xT
      rw [d 68 46 (by decide) (by decide)]
      refine List.map_congr_left fun k _ => ?_
      rw [d 109 k (by decide) (by omega), d 110 k (by decide) (by omega), d 111 k (by decide) (by omega)]
    unfold RXm at pm ⊢
    rw [e1, d 68 46 (by decide) (by decide)]
    exact pm
  · intro p p0 p1
    have q := pj.1 p p0 p1
    unfold RXj1 at q ⊢
    rw [d 112 p (by decide) p0, d 113 p (by decide) p0, d 114 p (by decide) p0, d 115 p (by decide) p0, d 116 p (by decide) p0, d 117 p (by decide) p0, d 118 p (by decide) p0, d 119 p (by decide) p0]
    exact q
  · intro p p0 p1
    rw [d 119 p (by decide) (by omega)]
    exact pj.2.1 p p0 p1
  · intro w w0 w1
    rw [d 122 w (by decide) w0, d 121 w (by decide) w0, d 120 w (by decide) w0]
    exact pj.2.2 w w0 w1
  · intro w w0 w1
    obtain ⟨q1, q2⟩ := pw w w0 w1
    refine ⟨fun r r0 r1 => ?_, fun r r0 r1 => by rw [d 123 _ (by decide) (by omega)]; exact q2 r r0 r1⟩
    have q := q1 r r0 r1
    unfold RXw1 at q ⊢
    rw [d 123 _ (by decide) (by omega), d 124 _ (by decide) (by omega), d 125 _ (by decide) (by omega), d 126 _ (by decide) (by omega), d 127 _ (by decide) (by omega)]
    exact q
  · intro p p0 p1 j j0 j1
    rw [d (128 + j) p (by omega) p0]
    exact pc.1 p p0 p1 j j0 j1
  · intro p p0 p1
    have p0' : 0 ≤ p := by omega
    rw [d 133 p (by decide) p0', d 134 p (by decide) p0', d 135 p (by decide) p0', d 136 p (by decide) p0']
    exact pc.2 p p0 p1
  · intro i v hv
    rw [d 137 _ (by decide) (by omega)]
    exact pg i v hv
  · intro r r0 r1 i i0 i1
    obtain ⟨A, q1, q2, q3⟩ := ph r r0 r1 i i0 i1
    unfold RXh1
    rw [at_nn hm]
    exact ⟨A, q1, q2, by rw [d 95 A (by decide) q2]; exact q3⟩
  · obtain ⟨mx, ⟨p1, p2, p3⟩, p4, p5, p6, p7, p8⟩ := pp
    refine ⟨mx, ⟨p1, p2.of (fun _ => rfl) (fun r r0 r1 => Or.inl ⟨r1, Int.le_refl _, d 88 r (by decide) r0⟩), by rw [d 68 32 (by decide) (by decide)]; exact p3⟩, fun r k r0 r1 k0 k1 => by rw [d 68 32 (by decide) (by decide), d 96 _ (by decide) (by omega)]; exact p4 r k r0 r1 k0 k1, fun s t s0 s1 s2 => by rw [d 96 s (by decide) s0, d 96 t (by decide) (by omega)]; exact p5 s t s0 s1 s2, fun r r0 r1 => by rw [d 88 r (by decide) r0]; exact p6 r r0 r1, fun r r0 r1 i i0 i1 => ?_, fun r r0 r1 h8 => ?_⟩
    · obtain ⟨q, q0, q1, q2, q3⟩ := p7 r r0 r1 i i0 i1
      refine ⟨q, q0, q1, by rw [d 88 q (by decide) q0.1]; exact q2, ?_⟩
      rw [at_nn hm, d 88 q (by decide) q0.1, d 96 _ (by decide) (by omega)]
      exact q3
    · rw [d 88 r (by decide) r0] at h8
      rw [d 87 r (by decide) r0]
      exact p8 r r0 r1 h8
  · obtain ⟨q1, q2, q3⟩ := pl
    refine ⟨by rw [d 68 83 (by decide) (by decide)]; exact q1, by rw [d 68 84 (by decide) (by decide)]; exact q2, fun i q hq => ?_⟩
    rw [d 139 _ (by decide) (by omega), d 140 _ (by decide) (by omega), d 141 _ (by decide) (by omega)]
    exact q3 i q hq
end RXN
