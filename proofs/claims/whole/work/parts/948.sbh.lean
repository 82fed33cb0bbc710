/-! THE ROOM: what setBack asks of addRun. -/
section SBHH
variable {m : MM} {e : ES} {p k : Int} {xs : List Int32}
theorem sbh (R : RLm m e) (hI : PIv k e) (hk : k ≤ 512) : SBh p m := by
  intro x z a1 a2 a3 a4 a5 m1 m2 h1 h2
  obtain ⟨ow, ad, C, -, -⟩ := R
  obtain ⟨S, D, T, A, B, P, W, V, Z, ℓ, h⟩ := hI
  rw [C.runAt] at h1
  by_cases c : 0 ≤ p ∧ p < e.1 7 2
  · rw [if_pos c] at h1
    cases h1
    obtain ⟨k1, k2, k3, k4, k5, k6, -⟩ := C.run c.1 c.2
    obtain ⟨⟨g1, g2⟩, g3, g4, g5, g6, g7⟩ := C.his c.1 c.2
    have okh := g3.1.1
    obtain ⟨l, hr, -⟩ := g3.1.2.2
    rw [g4] at hr
    have hlen := h.1.len c.1 c.2
    have f := fw_X11_addRun C.fix h2
    obtain ⟨ez, hh, xx, t, hzx, F1, ⟨f2, f3, f4, f5, f6⟩, q1, q2, q3, q4, q5, q6⟩ := add_fresh C.fix h2
    have keep : ∀ {c : Nat} {b : Int} (i : Int), okc m b c → c ≠ 0 → c ≠ 107 → 0 ≤ i → m2 b i = m b i := fun {c b} i ok c0 c1 hi => f.2.2.2.1 b i ok.1 ok.2.1 hi fun hw => by
      rcases hw with hw | ⟨w, w1, w2, w3⟩
      · have := ok.1
        omega
      · have h1 : (fW_X11_addRun.all fun w => decide (w.1 = 9) || (decide (w.1 = 1) && decide (w.2.1 = 0 ∨ w.2.1 = 107))) = true := by decide +kernel
        have h2 := List.all_eq_true.mp h1 w w1
        simp only [Bool.or_eq_true, Bool.and_eq_true, decide_eq_true_eq] at h2
        have h3 := ok.2.2
        rcases w2 with w2 | w2 | w2
        · omega
        · have h4 := w2.2
          rw [h3] at h4
          omega
        · omega
    have kx : ad 7 p < m 0 0 := k1.2.1
    have zx : z ≠ ad 7 p := by omega
    have n1 : hh ≠ ad 7 p := okc_ap f3 (f.ext.ok k1) (by decide)
    have n2 : xx ≠ ad 7 p := okc_ap f4 (f.ext.ok k1) (by decide)
    have n3 : t ≠ ad 7 p := okc_ap f5 (f.ext.ok k1) (by decide)
    have n4 : ad 71 p ≠ ad 7 p := okc_ap okh k1 (by decide)
    have n5 : ad 72 p ≠ ad 7 p := okc_ap hr.1.1 k1 (by decide)
    have n6 : m (ad 72 p) 0 ≠ ad 7 p := okc_ap hr.1.2.1 k1 (by decide)
    have e1 : mset m2 (ad 7 p) 6 5 (mset m2 (ad 7 p) 6 5 z 16) 0 = xx := by rw [ms_a zx, q1, ms_a n1, q2]
    have e2 : mset m2 (ad 7 p) 6 5 (mset m2 (ad 7 p) 6 5 (ad 7 p) 16) 0 = ad 72 p := by
      rw [ms_j (show (16 : Int) ≠ 6 by decide), keep 16 k1 (by decide) (by decide) (by decide), k6, ms_a n4, keep 0 okh (by decide) (by decide) (by decide), g4]
    rw [e1, e2]
    have hl := hr.2.2.1
    have hs := hr.1.sz
    have ex : mset m2 (ad 7 p) 6 5 xx 0 = t := by rw [ms_a n2, q3]
    have e3 : mset m2 (ad 7 p) 6 5 (ad 72 p) 2 = m (ad 72 p) 2 := by rw [ms_a n5, keep 2 hr.1.1 (by decide) (by decide) (by decide)]
    refine ⟨by have := hr.1.1.2.1; omega, by rw [ms_a n2]; exact q4, by rw [ex]; exact f5.1, ?_, by rw [ex, ms_a n3]; exact q6, by rw [e3]; omega, fun i i0 i1 => ?_⟩
    · rw [ex]
      exact nnz_0 fun i i0 => by rw [ms_a n3]; exact q5 i i0
    · rw [e3] at i1
      have hp := hr.1.pt (i := 64 * i) (by omega) (by omega)
      rw [show 64 * i / 64 = i by omega] at hp
      rw [ms_a n5, keep 0 hr.1.1 (by decide) (by decide) (by decide), ms_a n6, keep i hr.1.2.1 (by decide) (by decide) i0]
      exact hp.2.2.1
  · rw [if_neg c] at h1
    cases h1
/-- what is left: the sum of what is there -/
theorem left_gj (hr : ∀ (k : Nat) (rm : MM) (e : ES), k ≤ 512 → RLm rm e → PIv k e → GI 1 0 (3216562 + 512) rm → GI 0 1 (163 + 512) rm → sm (wt 1 0 rm) (rm 0 0).toNat ≤ 4243970 ∧ sm (wt 0 1 rm) (rm 0 0).toNat ≤ 544349) (h : xs.length ≤ 3584) : Left xs :=
  left_gi (fun k m e p hk R hI => sbh R hI (by omega)) hr h
end SBHH
