/-! THE ENGINE: a history becomes the first events of another. -/
section HFI
variable {m m' M : MM} {h g N n : Int} {l : List Int} {E : Int → Ev}
theorem first_h (hF : Fix m) (H1 : okc m h 3) (hm : 163 ≤ h) (hR : okc m (m h 0) 6) (hr : 163 ≤ m h 0) (H : HS m g N E) (hN : N < 268435456) (hro : ¬ Fp m (m g 0) (m h 0)) (hoh : ¬ Fp m (m g 0) h) (n0 : 0 ≤ n) (n1 : n ≤ N) : ∃ m', fm_X2_becomeFirst h g n m = some (0, m') ∧ HS m' h n E ∧ Ext m m' ∧ Fix m' ∧ (∀ a j : Int, a < m 0 0 → a ≠ 0 → a ≠ m h 0 → (a ≠ h ∨ j < 1 ∨ 4 < j) → m' a j = m a j) ∧ (∀ a, Op m' (m h 0) a → a = m h 0 ∨ m 0 0 ≤ a) ∧ (∀ a, Sh m' (m h 0) a → Fp m (m g 0) a) ∧ m' h 0 = m h 0 ∧ (∃ L : List Int, HP m' (m h 0) L ∧ (L.length : Int) ≤ 1) ∧ 32 * m' (m' (m h 0) 0) (-2) ≤ n + 64 := by
  obtain ⟨⟨G1, G2, l, G3, G4, G5⟩, -⟩ := H
  have hne : h ≠ m h 0 := okc_ap H1 hR (by decide)
  obtain ⟨m1, c1, c2, c4, c3, c5, c6, c7, ⟨L, c8, c9⟩, c10⟩ := first_s hF hR hr G3 hro (by omega) n0
  have e0 : m1 h 0 = m h 0 := c5 h 0 H1.2.1 (by omega) hne
  have nf : ¬ Fp m1 (m h 0) h := fun f => (Fp.split c2.1 f).elim (fun g => (c6 h g).elim hne fun w => by have := H1.2.1; omega) fun g => hoh (c7 h g)
  obtain ⟨m2, d1, ⟨p1, p2, p3, p4, p5, p6, p7, p8, p9⟩, d3⟩ := count_h (E := E) c4 (c3.ok H1) hm (by rw [e0]; exact c2) (G5.take _) (by rw [e0]; exact nf)
  rw [e0] at p1 p5 p6 p7 p8 p9
  have el : ((l.take n.toNat).length : Int) = n := by
    rw [List.length_take]
    omega
  rw [el] at d3
  have sT : SmT m1 m2 (m h 0) := fr_rm c2 (fw_X2_countAgain c4 (c3.ok H1) d1) (by decide +kernel)
  have gs := G3.2.2.1
  refine ⟨m2, ?_, d3, c3.tr p3, p2, fun a j b1 b2 b3 b4 => ?_, fun a ha => ?_, fun a ha => c7 a ((p7 a).mp ha), p9, ⟨L, sT.hp c2.1.2.2.2.2.1 c8, c9⟩, ?_⟩
  · unfold fm_X2_becomeFirst
    rw [lx_p, gd_t G1, lx_p, gd_t hR, bd_t c1, bd_t d1]
  · rw [p5 a j (by have := c3.1; omega) b2 (fun g => (c6 a g).elim b3 fun w => by omega) b4]
    exact c5 a j b1 b2 b3
  · rcases p6 a ha with g | g
    · exact c6 a g
    · have := c3.1
      exact Or.inr (by omega)
  · rw [sT.len]
    refine Int.le_trans c10 ?_
    split <;> omega
end HFI
