/-! THE ENGINE: a history is cut. -/
section HCU
variable {m m' M : MM} {h N n : Int} {l : List Int} {E : Int → Ev}
theorem EvIs.take (hE : EvIs l E) (n : Nat) : EvIs (l.take n) E := fun i v hv => by
  have hi := (List.getElem?_eq_some_iff.mp hv).1
  rw [List.length_take] at hi
  rw [List.getElem?_take_of_lt (by omega)] at hv
  exact hE i v hv
theorem cut_h (hF : Fix m) (H : HS m h N E) (hm : 163 ≤ h) (hr : 163 ≤ m h 0) (hh : ¬ Op m (m h 0) h) (hh2 : ¬ Sh m (m h 0) h) (n0 : 0 ≤ n) (n1 : n ≤ N) : ∃ m', fm_X2_cut h n m = some (0, m') ∧ HS m' h n E ∧ Ext m m' ∧ Fix m' ∧ (∀ a j : Int, a < m 0 0 → a ≠ 0 → ¬ Op m (m h 0) a → (a ≠ h ∨ j < 1 ∨ 4 < j) → m' a j = m a j) ∧ (∀ a, Op m' (m h 0) a → Op m (m h 0) a ∨ m 0 0 ≤ a) ∧ (∀ a, Sh m' (m h 0) a → Sh m (m h 0) a) ∧ m' h 0 = m h 0 ∧ (∀ a, OpP m' (m h 0) a → OpP m (m h 0) a ∨ a = m 0 0) ∧ m' (m' (m h 0) 0) (-2) = m (m (m h 0) 0) (-2) := by
  obtain ⟨⟨H1, H2, l, H3, H4, H5⟩, -⟩ := H
  obtain ⟨m1, c1, c2, c3, c4, c5, c6, c7, c8, c9⟩ := cut_s hF H3 hr n0
  have e0 : m1 h 0 = m h 0 := c5 h 0 H1.2.1 (by omega) hh
  have nf : ¬ Fp m1 (m h 0) h := fun f => (Fp.split c2.1 f).elim (fun g => (c6 h g).elim hh fun w => by have := H1.2.1; omega) fun g => hh2 (c7 h g)
  obtain ⟨m2, d1, ⟨p1, p2, p3, p4, p5, p6, p7, p8, p9⟩, d3⟩ := count_h (E := E) c4 (c3.ok H1) hm (by rw [e0]; exact c2) (H5.take _) (by rw [e0]; exact nf)
  rw [e0] at p1 p5 p6 p7 p8 p9
  have el : ((l.take n.toNat).length : Int) = n := by
    rw [List.length_take]
    omega
  rw [el] at d3
  have sT : SmT m1 m2 (m h 0) := fr_rm c2 (fw_X2_countAgain c4 (c3.ok H1) d1) (by decide +kernel)
  refine ⟨m2, ?_, d3, c3.tr p3, p2, fun a j b1 b2 b3 b4 => ?_, fun a ha => ?_, fun a ha => c7 a ((p7 a).mp ha), p9, fun a ha => c8 a ?_, by rw [sT.len]; exact c9⟩
  · unfold fm_X2_cut
    rw [lx_p, gd_t H3.1.1, bd_t c1, bd_t d1]
  · rw [p5 a j (by have := c3.1; omega) b2 (fun g => (c6 a g).elim b3 fun w => by omega) b4]
    exact c5 a j b1 b2 b3
  · rcases p6 a ha with g | g
    · exact c6 a g
    · have := c3.1
      exact Or.inr (by omega)
  · obtain ⟨i, i0, i1, i2, i3⟩ := ha
    obtain ⟨t1, t2, t3, t4⟩ := sT
    rw [t2] at i0
    rw [t1, t4] at i1
    rw [t1, t3 i (by have := c2.1.2.2.2.2.1; omega)] at i2 i3
    exact ⟨i, i0, i1, i2, i3⟩
end HCU
