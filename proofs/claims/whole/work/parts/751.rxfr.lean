/-! THE REFERENCE'S ENGINE: what is not written stays as it was. -/
section RXF
variable {m m' : MM} {e e' : ES} {a b c i j k o r v w p t s p1 : Int} {l : List Int}
theorem RXd.fr (h : RXd m l s) (hm : ∀ a j : Int, 69 ≤ a → a ≤ 73 → m' a j = m a j) : RXd m' l s := by
  obtain ⟨h1, h2, h3⟩ := h
  refine ⟨by rw [hm _ _ (by decide) (by decide)]; exact h1, h2, fun i v hv => ?_⟩
  rw [hm _ _ (by decide) (by decide), hm _ _ (by decide) (by decide), hm _ _ (by decide) (by decide)]
  exact h3 i v hv
theorem RXs.fr (h : RXs m e) (hm : ∀ j, j < 83 → m' 68 j = m 68 j) (h4 : ∀ j, e'.1 4 j = e.1 4 j) (hc : ∀ c : Int, 7 ≤ c → c ≤ 10 → e'.1 c 2 = e.1 c 2) (h68 : ∀ j, e'.1 68 j = e.1 68 j) : RXs m' e' := by
  unfold RXs
  rw [hm 0 (by decide), hm 12 (by decide), hm 29 (by decide), hm 30 (by decide), hm 34 (by decide), hm 50 (by decide), hm 51 (by decide), hm 68 (by decide), hm 69 (by decide), hm 79 (by decide), hm 80 (by decide), h4, h4, h4, h4, h4, h68, h68, hc 7 (by decide) (by decide), hc 8 (by decide) (by decide), hc 9 (by decide) (by decide), hc 10 (by decide) (by decide)]
  exact h
theorem RXt.fr (h : RXt m e) (hm : ∀ a j : Int, (69 ≤ a ∧ a ≤ 73) ∨ a = 79 → m' a j = m a j) (he : ∀ c : Int, 48 ≤ c → c ≤ 61 → e'.1 c 2 = e.1 c 2) (hl : ∀ c : Int, 48000 ≤ c → c < 73000 → eL e' c = eL e c) (hv : ∀ k : Int, 0 ≤ k → k < 4 → 0 ≤ e.1 (49 + 4 * k) 2 ∧ e.1 (49 + 4 * k) 2 ≤ 4) : RXt m' e' := fun k k0 k1 => by
  obtain ⟨h1, h2, h3, h4⟩ := h k k0 k1
  have hb := hv k k0 k1
  rw [hm _ _ (by omega), hm _ _ (by omega), he _ (by omega) (by omega), he _ (by omega) (by omega), hl _ (by omega) (by omega)]
  refine ⟨h1, h2, h3.fr fun a j g1 g2 => hm a j (Or.inl ⟨g1, g2⟩), fun v v0 v1 => ?_⟩
  rw [hl _ (by omega) (by omega)]
  exact (h4 v v0 v1).fr fun a j g1 g2 => hm a j (Or.inl ⟨g1, g2⟩)
theorem RXk.fr (h : RXk m e) (hm : ∀ a j : Int, 74 ≤ a → a ≤ 78 → m' a j = m a j) (he : ∀ c j : Int, 64 ≤ c → c ≤ 67 → e'.1 c j = e.1 c j) : RXk m' e' := fun k k0 k1 j j0 j1 => by
  rw [hm _ _ (by omega) (by omega), he _ _ (by omega) (by omega)]
  exact h k k0 k1 j j0 j1
theorem RXr.fr (h : RXr m e) (hm : ∀ a j : Int, (80 ≤ a ∧ a ≤ 86) ∨ (89 ≤ a ∧ a ≤ 94) ∨ a = 138 → m' a j = m a j) (h7 : e'.1 7 2 = e.1 7 2) (he : ∀ a j : Int, 7000 ≤ a → a < 8000 → e'.1 a j = e.1 a j) (hn : ∀ r : Int, 0 ≤ r → r < e.1 7 2 → hN e' r = hN e r ∧ eH e' r = eH e r) (hb : e.1 7 2 ≤ 30) : RXr m' e' := by
  obtain ⟨h1, h2⟩ := h
  unfold RXr
  rw [h7]
  refine ⟨fun r r0 r1 => ?_, fun r r0 r1 => by rw [hm _ _ (by omega)]; exact h2 r r0 r1⟩
  obtain ⟨n1, n2⟩ := hn r r0 r1
  unfold hA hT hC
  rw [n1, n2, hm 80 _ (by omega), hm 81 _ (by omega), hm 82 _ (by omega), hm 83 _ (by omega), hm 84 _ (by omega), hm 85 _ (by omega), hm 86 _ (by omega), hm 89 _ (by omega), hm 90 _ (by omega), hm 91 _ (by omega), hm 92 _ (by omega), hm 93 _ (by omega), hm 94 _ (by omega), hm 138 _ (by omega)]
  simp only [he (7000 + r) _ (show 7000 ≤ 7000 + r by omega) (show 7000 + r < 8000 by omega)]
  exact h1 r r0 r1
theorem RXa.fr (h : RXa m e) (hm : ∀ a j : Int, 98 ≤ a → a ≤ 108 → m' a j = m a j) (h8 : e'.1 8 2 = e.1 8 2) (he : ∀ a j : Int, 8000 ≤ a → a < 9000 → e'.1 a j = e.1 a j) (hb : e.1 8 2 ≤ 60) : RXa m' e' := fun p p0 p1 => by
  rw [h8] at p1
  simp only [he (8000 + p) _ (show 8000 ≤ 8000 + p by omega) (show 8000 + p < 9000 by omega)]
  rw [hm 98 _ (by decide) (by decide), hm 99 _ (by decide) (by decide), hm 100 _ (by decide) (by decide), hm 101 _ (by decide) (by decide), hm 102 _ (by decide) (by decide), hm 103 _ (by decide) (by decide), hm 104 _ (by decide) (by decide), hm 105 _ (by decide) (by decide), hm 106 _ (by decide) (by decide), hm 107 _ (by decide) (by decide), hm 108 _ (by decide) (by decide)]
  exact h p p0 p1
theorem RXm.fr (h : RXm m e) (h46 : m' 68 46 = m 68 46) (hm : ∀ a j : Int, 109 ≤ a → a ≤ 111 → m' a j = m a j) (h7 : e'.1 7 2 = e.1 7 2) (hl : ∀ r : Int, 0 ≤ r → r < e.1 7 2 → eL e' (73000 + r) = eL e (73000 + r) ∧ eL e' (74000 + r) = eL e (74000 + r)) : RXm m' e' := by
  obtain ⟨h1, h2, h3, h4⟩ := h
  have q : ∀ j, m' 109 j = m 109 j ∧ m' 110 j = m 110 j ∧ m' 111 j = m 111 j := fun j => ⟨hm _ _ (by decide) (by decide), hm _ _ (by decide) (by decide), hm _ _ (by decide) (by decide)⟩
  unfold RXm
  rw [h46, h7]
  refine ⟨h1, fun k k0 k1 => ?_, fun r n v r0 r1 hv => ?_, fun k j k0 k1 k2 => ?_⟩
  · obtain ⟨g1, g2, n, g3, g4⟩ := h2 k k0 k1
    rw [(q k).1, (q k).2.1, (q k).2.2]
    refine ⟨g1, g2, n, ?_, ?_⟩
    · rw [(hl _ g1 g2).1]; exact g3
    · rw [(hl _ g1 g2).2]; exact g4
  · rw [(hl r r0 r1).1] at hv
    obtain ⟨k, k1, k2, k3⟩ := h3 r n v r0 r1 hv
    exact ⟨k, k1, by rw [(q k).1]; exact k2, by rw [(q k).2.1]; exact k3⟩
  · rw [(q k).1, (q k).2.1, (q j).1, (q j).2.1]
    exact h4 k j k0 k1 k2
theorem RXj.fr (h : RXj m e) (hm : ∀ a j : Int, 112 ≤ a → a ≤ 122 → m' a j = m a j) (h9 : e'.1 9 2 = e.1 9 2) (he : ∀ a j : Int, (9000 ≤ a ∧ a < 10000) ∨ (11 ≤ a ∧ a ≤ 13) → e'.1 a j = e.1 a j) (hb : e.1 9 2 ≤ 512) : RXj m' e' := by
  obtain ⟨h1, h2⟩ := h
  refine ⟨fun p p0 p1 => ?_, fun w w0 w1 => ?_⟩
  · rw [h9] at p1
    simp only [he (9000 + p) _ (Or.inl ⟨show 9000 ≤ 9000 + p by omega, show 9000 + p < 10000 by omega⟩)]
    rw [hm 112 _ (by decide) (by decide), hm 113 _ (by decide) (by decide), hm 114 _ (by decide) (by decide), hm 115 _ (by decide) (by decide), hm 116 _ (by decide) (by decide), hm 117 _ (by decide) (by decide), hm 118 _ (by decide) (by decide), hm 119 _ (by decide) (by decide)]
    exact h1 p p0 p1
  · rw [hm _ _ (by decide) (by decide), hm _ _ (by decide) (by decide), hm _ _ (by decide) (by decide), he _ _ (by omega), he _ _ (by omega), he _ _ (by omega)]
    exact h2 w w0 w1
theorem RXw.fr (h : RXw m e) (hm : ∀ a j : Int, 123 ≤ a → a ≤ 127 → m' a j = m a j) (h7 : e'.1 7 2 = e.1 7 2) (he : ∀ a j : Int, 7000 ≤ a → a < 8000 → e'.1 a j = e.1 a j) (hn : ∀ r : Int, 0 ≤ r → r < e.1 7 2 → hN e' r = hN e r ∧ eH e' r = eH e r) (hb : e.1 7 2 ≤ 30) : RXw m' e' := fun w r w0 w1 r0 r1 => by
  rw [h7] at r1
  obtain ⟨n1, n2⟩ := hn r r0 r1
  have hT' : hT e' r = hT e r := by unfold hT; rw [n1, n2]
  have hM : pMark e' r = pMark e r := by
    unfold pMark
    rw [hT', he _ _ (by omega) (by omega), he _ _ (by omega) (by omega)]
  rw [hT', hM]
  simp only [he (7000 + r) _ (show 7000 ≤ 7000 + r by omega) (show 7000 + r < 8000 by omega)]
  rw [hm 123 _ (by decide) (by decide), hm 124 _ (by decide) (by decide), hm 125 _ (by decide) (by decide), hm 126 _ (by decide) (by decide), hm 127 _ (by decide) (by decide)]
  exact h w r w0 w1 r0 r1
theorem RXc.fr (h : RXc m e) (hm : ∀ a j : Int, 128 ≤ a → a ≤ 136 → m' a j = m a j) (h10 : e'.1 10 2 = e.1 10 2) (he : ∀ a j : Int, 10000 ≤ a → a < 11000 → e'.1 a j = e.1 a j) (hb : e.1 10 2 ≤ 4) : RXc m' e' := fun p p0 p1 j j0 j1 => by
  rw [h10] at p1
  rw [hm _ _ (by omega) (by omega), he _ _ (by omega) (by omega)]
  exact h p p0 p1 j j0 j1
theorem RXg.fr (h : RXg m e) (hm : ∀ j : Int, m' 137 j = m 137 j) (he : eL e' 14 = eL e 14) : RXg m' e' := fun i v hv => by
  rw [he] at hv
  rw [hm]
  exact h i v hv
theorem RXh.fr (h : RXh m e) (hm : ∀ a j : Int, (87 ≤ a ∧ a ≤ 88) ∨ (95 ≤ a ∧ a ≤ 96) → m' a j = m a j) (h7 : e'.1 7 2 = e.1 7 2) (hn : ∀ r : Int, 0 ≤ r → r < e.1 7 2 → hN e' r = hN e r ∧ eH e' r = eH e r ∧ ∀ i, e'.1 (76000 + r) i = e.1 (76000 + r) i) : RXh m' e' := fun r r0 r1 i i0 i1 => by
  rw [h7] at r1
  obtain ⟨n1, n2, n3⟩ := hn r r0 r1
  rw [n1] at i1
  rw [at_fr (m0 := m) (fun _ => hm _ _ (by decide)) (fun _ => hm _ _ (by decide)) (fun _ => hm _ _ (by decide)), n2]
  simp only [n3]
  obtain ⟨A, g1, g2, g3, g4, g5, g6⟩ := h r r0 r1 i i0 i1
  exact ⟨A, g1, g2, g3, g4, by rw [hm _ _ (by decide)]; exact g5, g6⟩
/-- a call of the reference, as it is told: code: its exceptions' numbers -/
def OKr (f : Option (Int × MM)) (code : Nat → Int) (r : (Int ⊕ Nat) × ES) : Prop := ∃ v m', f = some (v, m') ∧ RXE m' r.2 ∧ (∀ z, r.1 = .inl z → v = z ∧ m' 68 129 = 0) ∧ ∀ q, r.1 = .inr q → m' 68 129 = code q
/-- what neither the plain state nor the reference's memory for it looks at -/
theorem RXE.fr (h : RXE m e) (hc : CN e) (hm : ∀ a j : Int, (a = 68 → j < 83) → 68 ≤ a → a ≤ 138 → m' a j = m a j) (he : ∀ a j : Int, a ≠ 99 → e'.1 a j = e.1 a j) (h2 : e'.2.1 = e.2.1 ∧ e'.2.2.1 = e.2.2.1) : RXE m' e' := by
  obtain ⟨k1, k2, k3, k4, k5, k6, k7, k8, k9, k10, k11⟩ := h
  obtain ⟨c1, c2, c3, c4, c5⟩ := hc
  have hl : ∀ c, eL e' c = eL e c := fun c => congrFun h2.2 c
  have hh : ∀ r, eH e' r = eH e r := fun r => congrFun h2.1 r
  have hn : ∀ r : Int, 0 ≤ r → hN e' r = hN e r := fun r r0 => he _ _ (by omega)
  refine ⟨k1.fr (fun j hj => hm _ _ (fun _ => hj) (by decide) (by decide)) (fun j => he _ _ (by decide)) (fun c g1 g2 => he _ _ (by omega)) (fun j => he _ _ (by decide)), k2.fr (fun a j g => hm _ _ (by omega) (by omega) (by omega)) (fun c g1 g2 => he _ _ (by omega)) (fun c _ _ => hl c) (fun k g0 g1 => ?_), k3.fr (fun a j g1 g2 => hm _ _ (by omega) (by omega) (by omega)) (fun c j g1 g2 => he _ _ (by omega)), k4.fr (fun a j g => hm _ _ (by omega) (by omega) (by omega)) (he _ _ (by decide)) (fun a j g1 g2 => he _ _ (by omega)) (fun r r0 r1 => ⟨hn r r0, hh r⟩) c1.2, k5.fr (fun a j g1 g2 => hm _ _ (by omega) (by omega) (by omega)) (he _ _ (by decide)) (fun a j g1 g2 => he _ _ (by omega)) c2.2, k6.fr (hm _ _ (fun _ => by decide) (by decide) (by decide)) (fun a j g1 g2 => hm _ _ (by omega) (by omega) (by omega)) (he _ _ (by decide)) (fun r r0 r1 => ⟨hl _, hl _⟩), k7.fr (fun a j g1 g2 => hm _ _ (by omega) (by omega) (by omega)) (he _ _ (by decide)) (fun a j g => he _ _ (by omega)) c3.2, k8.fr (fun a j g1 g2 => hm _ _ (by omega) (by omega) (by omega)) (he _ _ (by decide)) (fun a j g1 g2 => he _ _ (by omega)) (fun r r0 r1 => ⟨hn r r0, hh r⟩) c1.2, k9.fr (fun a j g1 g2 => hm _ _ (by omega) (by omega) (by omega)) (he _ _ (by decide)) (fun a j g1 g2 => he _ _ (by omega)) c4.2, k10.fr (fun j => hm _ _ (by omega) (by decide) (by decide)) (hl 14), k11.fr (fun a j g => hm _ _ (by omega) (by omega) (by omega)) (he _ _ (by decide)) (fun r r0 r1 => ⟨hn r r0, hh r, fun i => he _ _ (by omega)⟩)⟩
  have := c5 (48 + 4 * k) (isT_4 g0 g1)
  rw [show 49 + 4 * k = 48 + 4 * k + 1 by omega]
  exact this
end RXF
