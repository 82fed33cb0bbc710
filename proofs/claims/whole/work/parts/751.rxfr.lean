/-! THE REFERENCE'S ENGINE: what is not written stays as it was; the one lemma of all changes. -/
section RXF
variable {m m' : MM} {e e' : ES} {a b c i j k o r v w p t s p1 : Int} {l : List Int} {W U V : Int → Prop}
theorem RXd.fr (h : RXd m l s) (hm : ∀ a j : Int, 69 ≤ a → a ≤ 73 → m' a j = m a j) : RXd m' l s := by
  obtain ⟨h1, h2, h3⟩ := h
  refine ⟨by rw [hm _ _ (by decide) (by decide)]; exact h1, h2, fun i v hv => ?_⟩
  rw [hm _ _ (by decide) (by decide), hm _ _ (by decide) (by decide), hm _ _ (by decide) (by decide)]
  exact h3 i v hv
theorem pLst_eq : ∀ {n : Nat} (h : ∀ i : Int, 0 ≤ i → i < (n : Int) → eL e' (75000 + i) = eL e (75000 + i)), pLst e' n = pLst e n := by
  intro n
  induction n with
  | zero => intro _; rfl
  | succ n ih =>
    intro h
    unfold pLst
    rw [ih fun i i0 i1 => h i i0 (by omega), h _ (by omega) (by omega)]
theorem pT_eq : ∀ {n : Nat} (h : ∀ r : Int, 0 ≤ r → r < (n : Int) → eL e' (73000 + r) = eL e (73000 + r) ∧ eL e' (74000 + r) = eL e (74000 + r)), pT e' n = pT e n := by
  intro n
  induction n with
  | zero => intro _; rfl
  | succ n ih =>
    intro h
    unfold pT pT1
    obtain ⟨h1, h2⟩ := h n (by omega) (by omega)
    rw [ih fun i i0 i1 => h i i0 (by omega), h1, h2]
theorem xT_eq (h46 : m' 68 46 = m 68 46) (hm : ∀ a j : Int, 109 ≤ a → a ≤ 111 → m' a j = m a j) : xT m' = xT m := by
  unfold xT
  rw [h46]
  congr 1
  funext k
  rw [hm 109 _ (by decide) (by decide), hm 110 _ (by decide) (by decide), hm 111 _ (by decide) (by decide)]
/-- what stays: in the reference's arrays, in its own fields, in the plain state -/
def FrR (m m' : MM) (W : Int → Prop) : Prop := ∀ a j : Int, 69 ≤ a → a ≤ 141 → ¬ W a → m' a j = m a j
def FrS (m m' : MM) (U : Int → Prop) : Prop := ∀ j : Int, j ≤ 84 → ¬ U j → m' 68 j = m 68 j
def FrE (e e' : ES) (V : Int → Prop) : Prop := (∀ a j : Int, ¬ V a → e'.1 a j = e.1 a j) ∧ (∀ c : Int, ¬ V c → eL e' c = eL e c) ∧ ∀ i : Int, ¬ V (71000 + i) → eH e' i = eH e i
def DdM (e e' : ES) : Prop := ∀ q : Int, 0 ≤ q → q < e.1 7 2 → Dead e q → Dead e' q
theorem RXs.fr (h : RXs m e) (fR : FrR m m' W) (fS : FrS m m' U) (fE : FrE e e' V) (q : (∀ j : Int, j ≤ 80 ∧ j ≠ 32 ∧ j ≠ 46 → ¬ U j) ∧ (∀ a : Int, a = 1000000 ∧ a = 1000001 → ¬ W a) ∧ ∀ c : Int, c = 4 ∨ (7 ≤ c ∧ c ≤ 10) ∨ c = 68 → ¬ V c) : RXs m' e' := by
  obtain ⟨q1, -, q3⟩ := q
  obtain ⟨fe, -, -⟩ := fE
  unfold RXs
  rw [fS 0 (by decide) (q1 _ (by decide)), fS 12 (by decide) (q1 _ (by decide)), fS 29 (by decide) (q1 _ (by decide)), fS 30 (by decide) (q1 _ (by decide)), fS 34 (by decide) (q1 _ (by decide)), fS 50 (by decide) (q1 _ (by decide)), fS 51 (by decide) (q1 _ (by decide)), fS 68 (by decide) (q1 _ (by decide)), fS 69 (by decide) (q1 _ (by decide)), fS 79 (by decide) (q1 _ (by decide)), fS 80 (by decide) (q1 _ (by decide)), fe 4 14 (q3 _ (by decide)), fe 4 13 (q3 _ (by decide)), fe 4 15 (q3 _ (by decide)), fe 4 12 (q3 _ (by decide)), fe 4 11 (q3 _ (by decide)), fe 68 29 (q3 _ (by decide)), fe 68 30 (q3 _ (by decide)), fe 7 2 (q3 _ (by decide)), fe 8 2 (q3 _ (by decide)), fe 9 2 (q3 _ (by decide)), fe 10 2 (q3 _ (by decide))]
  exact h
theorem RXt.fr (h : RXt m e) (hc : CN e) (fR : FrR m m' W) (fS : FrS m m' U) (fE : FrE e e' V) (q : (∀ j : Int, j = 1000000 ∧ j = 1000001 → ¬ U j) ∧ (∀ a : Int, (69 ≤ a ∧ a ≤ 73) ∨ a = 79 → ¬ W a) ∧ ∀ c : Int, (48 ≤ c ∧ c ≤ 61) ∨ (48000 ≤ c ∧ c < 70000) → ¬ V c) : RXt m' e' := fun k k0 k1 => by
  obtain ⟨-, q2, q3⟩ := q
  obtain ⟨fe, fl, -⟩ := fE
  obtain ⟨h1, h2, h3, h4⟩ := h k k0 k1
  have hb : 0 ≤ e.1 (49 + 4 * k) 2 ∧ e.1 (49 + 4 * k) 2 ≤ 4 := by
    have := hc.2.2.2.2 (48 + 4 * k) (isT_4 k0 k1)
    rw [show 49 + 4 * k = 48 + 4 * k + 1 by omega]
    exact this
  have hm : ∀ a j : Int, 69 ≤ a → a ≤ 73 → m' a j = m a j := fun a j g1 g2 => fR a j (by omega) (by omega) (q2 _ (Or.inl ⟨g1, g2⟩))
  rw [hm _ _ (by decide) (by decide), fR 79 _ (by decide) (by decide) (q2 _ (by decide)), fe _ _ (q3 _ (Or.inl (by omega))), fe _ _ (q3 _ (Or.inl (by omega))), fl _ (q3 _ (Or.inr (by omega)))]
  refine ⟨h1, h2, h3.fr hm, fun v v0 v1 => ?_⟩
  rw [fl _ (q3 _ (Or.inr (by omega)))]
  exact (h4 v v0 v1).fr hm
theorem RXk.fr (h : RXk m e) (fR : FrR m m' W) (fS : FrS m m' U) (fE : FrE e e' V) (q : (∀ j : Int, j = 1000000 ∧ j = 1000001 → ¬ U j) ∧ (∀ a : Int, 74 ≤ a ∧ a ≤ 78 → ¬ W a) ∧ ∀ c : Int, 64 ≤ c ∧ c ≤ 67 → ¬ V c) : RXk m' e' := fun k k0 k1 j j0 j1 => by
  obtain ⟨-, q2, q3⟩ := q
  rw [fR _ _ (by omega) (by omega) (q2 _ (by omega)), fE.1 _ _ (q3 _ (by omega))]
  exact h k k0 k1 j j0 j1
theorem RXr.fr (h : RXr m e) (hc : CN e) (fR : FrR m m' W) (fS : FrS m m' U) (fE : FrE e e' V) (q : (∀ j : Int, j = 1000000 ∧ j = 1000001 → ¬ U j) ∧ (∀ a : Int, (80 ≤ a ∧ a ≤ 86) ∨ (88 ≤ a ∧ a ≤ 94) ∨ a = 138 → ¬ W a) ∧ ∀ c : Int, c = 7 ∨ (7000 ≤ c ∧ c < 8000) ∨ (71000 ≤ c ∧ c < 72000) → ¬ V c) : RXr m' e' := by
  obtain ⟨-, q2, q3⟩ := q
  obtain ⟨fe, -, fh⟩ := fE
  obtain ⟨h1, h2⟩ := h
  have n7 := hc.1
  have e7 : e'.1 7 2 = e.1 7 2 := fe _ _ (q3 _ (Or.inl rfl))
  unfold RXr
  rw [e7]
  refine ⟨fun r r0 r1 => ?_, fun r r0 r1 => ?_⟩
  · have n1 : hN e' r = hN e r := fe _ _ (q3 _ (by omega))
    have n2 : eH e' r = eH e r := fh _ (q3 _ (by omega))
    have hm : ∀ a, ((80 ≤ a ∧ a ≤ 86) ∨ (88 ≤ a ∧ a ≤ 94) ∨ a = 138) → m' a r = m a r := fun a ha => fR _ _ (by omega) (by omega) (q2 _ ha)
    unfold RXr1 hA hT hC
    rw [n1, n2, hm 80 (by decide), hm 81 (by decide), hm 82 (by decide), hm 83 (by decide), hm 84 (by decide), hm 85 (by decide), hm 86 (by decide), hm 89 (by decide), hm 90 (by decide), hm 91 (by decide), hm 92 (by decide), hm 93 (by decide), hm 94 (by decide), hm 138 (by decide)]
    simp only [fe (7000 + r) _ (q3 _ (by omega))]
    exact h1 r r0 r1
  · have hm : ∀ a, ((80 ≤ a ∧ a ≤ 86) ∨ (88 ≤ a ∧ a ≤ 94) ∨ a = 138) → m' a r = m a r := fun a ha => fR _ _ (by omega) (by omega) (q2 _ ha)
    unfold RXr0
    rw [hm 88 (by decide), hm 89 (by decide), hm 90 (by decide), hm 91 (by decide), hm 92 (by decide), hm 93 (by decide), hm 138 (by decide)]
    exact h2 r r0 r1
theorem RXa.fr (h : RXa m e) (hc : CN e) (fR : FrR m m' W) (fS : FrS m m' U) (fE : FrE e e' V) (ht : e.1 4 14 ≤ e'.1 4 14) (q : (∀ j : Int, j = 1000000 ∧ j = 1000001 → ¬ U j) ∧ (∀ a : Int, 98 ≤ a ∧ a ≤ 108 → ¬ W a) ∧ ∀ c : Int, c = 8 ∨ (8000 ≤ c ∧ c < 9000) → ¬ V c) : RXa m' e' := fun p p0 p1 => by
  obtain ⟨-, q2, q3⟩ := q
  obtain ⟨fe, -, -⟩ := fE
  have n8 := hc.2.1
  rw [fe _ _ (q3 _ (Or.inl rfl))] at p1
  have hm : ∀ a, (98 ≤ a ∧ a ≤ 108) → m' a p = m a p := fun a ha => fR _ _ (by omega) (by omega) (q2 _ ha)
  obtain ⟨b1, b2, b3⟩ := h p p0 p1
  unfold RXa1
  simp only [fe (8000 + p) _ (q3 _ (by omega))]
  rw [hm 98 (by decide), hm 99 (by decide), hm 100 (by decide), hm 101 (by decide), hm 102 (by decide), hm 103 (by decide), hm 104 (by decide), hm 105 (by decide), hm 106 (by decide), hm 107 (by decide), hm 108 (by decide)]
  exact ⟨b1, b2.imp id fun hh => ⟨by omega, by omega⟩, b3⟩
theorem RXm.fr (h : RXm m e) (hc : CN e) (fR : FrR m m' W) (fS : FrS m m' U) (fE : FrE e e' V) (q : (∀ j : Int, j = 46 → ¬ U j) ∧ (∀ a : Int, 109 ≤ a ∧ a ≤ 111 → ¬ W a) ∧ ∀ c : Int, c = 7 ∨ (73000 ≤ c ∧ c < 75000) → ¬ V c) : RXm m' e' := by
  obtain ⟨q1, q2, q3⟩ := q
  obtain ⟨fe, fl, -⟩ := fE
  have n7 := hc.1
  have e46 : m' 68 46 = m 68 46 := fS _ (by decide) (q1 _ rfl)
  have e1 : pT e' (e'.1 7 2).toNat = pT e (e.1 7 2).toNat := by
    rw [fe _ _ (q3 _ (Or.inl rfl))]
    exact pT_eq fun r r0 r1 => ⟨fl _ (q3 _ (by omega)), fl _ (q3 _ (by omega))⟩
  have e2 : xT m' = xT m := xT_eq e46 fun a j a0 a1 => fR _ _ (by omega) (by omega) (q2 _ ⟨a0, a1⟩)
  unfold RXm
  rw [e46, e1, e2]
  exact h
theorem RXj.fr (h : RXj m e) (hc : CN e) (fR : FrR m m' W) (fS : FrS m m' U) (fE : FrE e e' V) (q : (∀ j : Int, j = 1000000 ∧ j = 1000001 → ¬ U j) ∧ (∀ a : Int, 112 ≤ a ∧ a ≤ 122 → ¬ W a) ∧ ∀ c : Int, c = 9 ∨ (11 ≤ c ∧ c ≤ 13) ∨ (9000 ≤ c ∧ c < 10000) → ¬ V c) : RXj m' e' := by
  obtain ⟨-, q2, q3⟩ := q
  obtain ⟨fe, -, -⟩ := fE
  obtain ⟨h1, h2, h3⟩ := h
  have n9 := hc.2.2.1
  have e9 : e'.1 9 2 = e.1 9 2 := fe _ _ (q3 _ (Or.inl rfl))
  have hm : ∀ a j, (112 ≤ a ∧ a ≤ 122) → m' a j = m a j := fun a j ha => fR _ _ (by omega) (by omega) (q2 _ ha)
  unfold RXj
  rw [e9]
  refine ⟨fun p p0 p1 => ?_, fun p p0 p1 => by rw [hm 119 _ (by decide)]; exact h2 p p0 p1, fun w w0 w1 => ?_⟩
  · unfold RXj1
    simp only [fe (9000 + p) _ (q3 _ (by omega))]
    rw [hm 112 _ (by decide), hm 113 _ (by decide), hm 114 _ (by decide), hm 115 _ (by decide), hm 116 _ (by decide), hm 117 _ (by decide), hm 118 _ (by decide), hm 119 _ (by decide)]
    exact h1 p p0 p1
  · rw [hm _ _ (by decide), hm _ _ (by decide), hm _ _ (by decide), fe _ _ (q3 _ (by decide)), fe _ _ (q3 _ (by decide)), fe _ _ (q3 _ (by decide))]
    exact h3 w w0 w1
theorem RXw.fr (h : RXw m e) (hc : CN e) (fR : FrR m m' W) (fS : FrS m m' U) (fE : FrE e e' V) (q : (∀ j : Int, j = 1000000 ∧ j = 1000001 → ¬ U j) ∧ (∀ a : Int, 123 ≤ a ∧ a ≤ 127 → ¬ W a) ∧ ∀ c : Int, c = 7 ∨ (7000 ≤ c ∧ c < 8000) ∨ (71000 ≤ c ∧ c < 72000) → ¬ V c) : RXw m' e' := fun w w0 w1 => by
  obtain ⟨-, q2, q3⟩ := q
  obtain ⟨fe, -, fh⟩ := fE
  have n7 := hc.1
  have e7 : e'.1 7 2 = e.1 7 2 := fe _ _ (q3 _ (Or.inl rfl))
  have hm : ∀ a j, (123 ≤ a ∧ a ≤ 127) → m' a j = m a j := fun a j ha => fR _ _ (by omega) (by omega) (q2 _ ha)
  obtain ⟨h1, h2⟩ := h w w0 w1
  rw [e7]
  refine ⟨fun r r0 r1 => ?_, fun r r0 r1 => by rw [hm 123 _ (by decide)]; exact h2 r r0 r1⟩
  have n1 : hN e' r = hN e r := fe _ _ (q3 _ (by omega))
  have n2 : eH e' r = eH e r := fh _ (q3 _ (by omega))
  have hT' : hT e' r = hT e r := by unfold hT; rw [n1, n2]
  unfold RXw1
  rw [hT', hm 123 _ (by decide), hm 124 _ (by decide), hm 125 _ (by decide), hm 126 _ (by decide), hm 127 _ (by decide)]
  simp only [fe (7000 + r) _ (q3 _ (by omega))]
  exact h1 r r0 r1
theorem RXc.fr (h : RXc m e) (hc : CN e) (fR : FrR m m' W) (fS : FrS m m' U) (fE : FrE e e' V) (q : (∀ j : Int, j = 1000000 ∧ j = 1000001 → ¬ U j) ∧ (∀ a : Int, 128 ≤ a ∧ a ≤ 136 → ¬ W a) ∧ ∀ c : Int, c = 10 ∨ (10000 ≤ c ∧ c < 11000) → ¬ V c) : RXc m' e' := by
  obtain ⟨-, q2, q3⟩ := q
  obtain ⟨fe, -, -⟩ := fE
  have n10 := hc.2.2.2.1
  have e10 : e'.1 10 2 = e.1 10 2 := fe _ _ (q3 _ (Or.inl rfl))
  have hm : ∀ a j, (128 ≤ a ∧ a ≤ 136) → m' a j = m a j := fun a j ha => fR _ _ (by omega) (by omega) (q2 _ ha)
  unfold RXc
  rw [e10]
  refine ⟨fun p p0 p1 j j0 j1 => ?_, fun p p0 p1 => ?_⟩
  · rw [hm _ _ (by omega), fe _ _ (q3 _ (by omega))]
    exact h.1 p p0 p1 j j0 j1
  · rw [hm 133 _ (by decide), hm 134 _ (by decide), hm 135 _ (by decide), hm 136 _ (by decide)]
    exact h.2 p p0 p1
theorem RXg.fr (h : RXg m e) (fR : FrR m m' W) (fS : FrS m m' U) (fE : FrE e e' V) (q : (∀ j : Int, j = 1000000 ∧ j = 1000001 → ¬ U j) ∧ (∀ a : Int, a = 137 → ¬ W a) ∧ ∀ c : Int, c = 14 → ¬ V c) : RXg m' e' := fun i v hv => by
  obtain ⟨-, q2, q3⟩ := q
  rw [fE.2.1 _ (q3 _ rfl)] at hv
  rw [fR _ _ (by decide) (by decide) (q2 _ rfl)]
  exact h i v hv
theorem RXh.fr (h : RXh m e) (hc : CN e) (fR : FrR m m' W) (fS : FrS m m' U) (fE : FrE e e' V) (q : (∀ j : Int, j = 1000000 ∧ j = 1000001 → ¬ U j) ∧ (∀ a : Int, a = 87 ∨ a = 88 ∨ a = 95 ∨ a = 96 → ¬ W a) ∧ ∀ c : Int, c = 7 ∨ (71000 ≤ c ∧ c < 72000) ∨ (76000 ≤ c ∧ c < 77000) → ¬ V c) : RXh m' e' := fun r r0 r1 i i0 i1 => by
  obtain ⟨-, q2, q3⟩ := q
  obtain ⟨fe, -, fh⟩ := fE
  have n7 := hc.1
  rw [fe _ _ (q3 _ (Or.inl rfl))] at r1
  have n1 : hN e' r = hN e r := fe _ _ (q3 _ (by omega))
  have n2 : eH e' r = eH e r := fh _ (q3 _ (by omega))
  rw [n1] at i1
  have hm : ∀ a j, (a = 87 ∨ a = 88 ∨ a = 95 ∨ a = 96) → m' a j = m a j := fun a j ha => fR _ _ (by omega) (by omega) (q2 _ ha)
  unfold RXh1
  rw [at_fr (m0 := m) (fun _ => hm _ _ (by decide)) (fun _ => hm _ _ (by decide)) (fun _ => hm _ _ (by decide)), n2]
  simp only [fe (76000 + r) _ (q3 _ (by omega))]
  obtain ⟨A, g1, g2, g3, g4, g5, g6⟩ := h r r0 r1 i i0 i1
  exact ⟨A, g1, g2, g3, g4, by rw [hm _ _ (by decide)]; exact g5, g6⟩
theorem RXp.fr (h : RXp m e) (hc : CN e) (fR : FrR m m' W) (fS : FrS m m' U) (fE : FrE e e' V) (hD : DdM e e') (h3 : e.1 3 0 ≤ e'.1 3 0) (q : (∀ j : Int, j = 32 → ¬ U j) ∧ (∀ a : Int, a = 87 ∨ a = 88 ∨ a = 96 → ¬ W a) ∧ ∀ c : Int, c = 7 ∨ c = 68 ∨ (71000 ≤ c ∧ c < 72000) → ¬ V c) : RXp m' e' := by
  obtain ⟨q1, q2, q3⟩ := q
  obtain ⟨fe, -, fh⟩ := fE
  have n7 := hc.1
  have e7 : e'.1 7 2 = e.1 7 2 := fe _ _ (q3 _ (Or.inl rfl))
  have e32 : m' 68 32 = m 68 32 := fS _ (by decide) (q1 _ rfl)
  have hm : ∀ a j, (a = 87 ∨ a = 88 ∨ a = 96) → m' a j = m a j := fun a j ha => fR _ _ (by omega) (by omega) (q2 _ ha)
  obtain ⟨mx, ⟨p1, p2, p3⟩, p4, p5, p6, p7, p8⟩ := h
  refine ⟨mx, ⟨by rw [e7]; exact p1, p2.of (fun j => fe _ _ (q3 _ (Or.inr (Or.inl rfl)))) (fun r r0 r1 => Or.inl ⟨by omega, Int.le_of_eq (fe _ _ (q3 _ (by omega))), hm 88 _ (by decide)⟩), by rw [e32]; exact p3⟩, fun r k r0 r1 k0 k1 => by rw [e32, hm 96 _ (by decide)]; exact p4 r k r0 r1 k0 k1, fun s t s0 s1 s2 => by rw [hm 96 _ (by decide), hm 96 _ (by decide)]; exact p5 s t s0 s1 s2, fun r r0 r1 => ?_, fun r r0 r1 i i0 i1 => ?_, fun r r0 r1 h8 => ?_⟩
  · rw [e7] at r1
    rw [hm 88 _ (by decide), show hN e' r = hN e r from fe _ _ (q3 _ (by omega))]
    exact p6 r r0 r1
  · rw [e7] at r1
    rw [show hN e' r = hN e r from fe _ _ (q3 _ (by omega))] at i1
    obtain ⟨q, ⟨g1, g2⟩, g3, g4, g5⟩ := p7 r r0 r1 i i0 i1
    refine ⟨q, ⟨g1, by omega⟩, g3.imp id (hD q g1 g2), by rw [hm 88 _ (by decide)]; exact g4, ?_⟩
    rw [at_fr (m0 := m) (fun _ => hm _ _ (by decide)) (fun _ => hm _ _ (by decide)) (fun _ => hm _ _ (by decide)), hm 88 _ (by decide), hm 96 _ (by decide)]
    exact g5
  · rw [e7] at r1
    rw [hm 88 _ (by decide)] at h8
    rw [hm 87 _ (by decide)]
    obtain ⟨g1, g2⟩ := p8 r r0 r1 h8
    exact ⟨g1, hD _ g1.1 (by omega) g2⟩
theorem RXl.fr (h : RXl m e) (hc : CN e) (fR : FrR m m' W) (fS : FrS m m' U) (fE : FrE e e' V) (q : (∀ j : Int, j = 83 ∨ j = 84 → ¬ U j) ∧ (∀ a : Int, 139 ≤ a ∧ a ≤ 141 → ¬ W a) ∧ ∀ c : Int, c = 4 ∨ c = 7 ∨ (75000 ≤ c ∧ c < 76000) → ¬ V c) : RXl m' e' := by
  obtain ⟨q1, q2, q3⟩ := q
  obtain ⟨fe, fl, -⟩ := fE
  have n7 := hc.1
  have hl : pLst e' (e'.1 7 2).toNat = pLst e (e.1 7 2).toNat := by
    rw [fe _ _ (q3 _ (by decide))]
    exact pLst_eq fun i i0 i1 => fl _ (q3 _ (by omega))
  unfold RXl
  rw [fS _ (by decide) (q1 _ (Or.inl rfl)), fS _ (by decide) (q1 _ (Or.inr rfl)), fe 4 17 (q3 _ (by decide)), hl]
  exact ⟨h.1, h.2.1, fun i q hq => by rw [fR 139 _ (by decide) (by decide) (q2 _ (by decide)), fR 140 _ (by decide) (by decide) (q2 _ (by decide)), fR 141 _ (by decide) (by decide) (q2 _ (by decide))]; exact h.2.2 i q hq⟩
theorem RXE.chg (h : RXE m e) (hc : CN e) (fR : FrR m m' W) (fS : FrS m m' U) (fE : FrE e e' V) (ht : e.1 4 14 ≤ e'.1 4 14) (hD : DdM e e') (h3 : e.1 3 0 ≤ e'.1 3 0) (qs : ((∀ j : Int, j ≤ 80 ∧ j ≠ 32 ∧ j ≠ 46 → ¬ U j) ∧ (∀ a : Int, a = 1000000 ∧ a = 1000001 → ¬ W a) ∧ ∀ c : Int, c = 4 ∨ (7 ≤ c ∧ c ≤ 10) ∨ c = 68 → ¬ V c) ∨ RXs m' e') (qt : ((∀ j : Int, j = 1000000 ∧ j = 1000001 → ¬ U j) ∧ (∀ a : Int, (69 ≤ a ∧ a ≤ 73) ∨ a = 79 → ¬ W a) ∧ ∀ c : Int, (48 ≤ c ∧ c ≤ 61) ∨ (48000 ≤ c ∧ c < 70000) → ¬ V c) ∨ RXt m' e') (qk : ((∀ j : Int, j = 1000000 ∧ j = 1000001 → ¬ U j) ∧ (∀ a : Int, 74 ≤ a ∧ a ≤ 78 → ¬ W a) ∧ ∀ c : Int, 64 ≤ c ∧ c ≤ 67 → ¬ V c) ∨ RXk m' e') (qr : ((∀ j : Int, j = 1000000 ∧ j = 1000001 → ¬ U j) ∧ (∀ a : Int, (80 ≤ a ∧ a ≤ 86) ∨ (88 ≤ a ∧ a ≤ 94) ∨ a = 138 → ¬ W a) ∧ ∀ c : Int, c = 7 ∨ (7000 ≤ c ∧ c < 8000) ∨ (71000 ≤ c ∧ c < 72000) → ¬ V c) ∨ RXr m' e') (qa : ((∀ j : Int, j = 1000000 ∧ j = 1000001 → ¬ U j) ∧ (∀ a : Int, 98 ≤ a ∧ a ≤ 108 → ¬ W a) ∧ ∀ c : Int, c = 8 ∨ (8000 ≤ c ∧ c < 9000) → ¬ V c) ∨ RXa m' e') (qm : ((∀ j : Int, j = 46 → ¬ U j) ∧ (∀ a : Int, 109 ≤ a ∧ a ≤ 111 → ¬ W a) ∧ ∀ c : Int, c = 7 ∨ (73000 ≤ c ∧ c < 75000) → ¬ V c) ∨ RXm m' e') (qj : ((∀ j : Int, j = 1000000 ∧ j = 1000001 → ¬ U j) ∧ (∀ a : Int, 112 ≤ a ∧ a ≤ 122 → ¬ W a) ∧ ∀ c : Int, c = 9 ∨ (11 ≤ c ∧ c ≤ 13) ∨ (9000 ≤ c ∧ c < 10000) → ¬ V c) ∨ RXj m' e') (qw : ((∀ j : Int, j = 1000000 ∧ j = 1000001 → ¬ U j) ∧ (∀ a : Int, 123 ≤ a ∧ a ≤ 127 → ¬ W a) ∧ ∀ c : Int, c = 7 ∨ (7000 ≤ c ∧ c < 8000) ∨ (71000 ≤ c ∧ c < 72000) → ¬ V c) ∨ RXw m' e') (qc : ((∀ j : Int, j = 1000000 ∧ j = 1000001 → ¬ U j) ∧ (∀ a : Int, 128 ≤ a ∧ a ≤ 136 → ¬ W a) ∧ ∀ c : Int, c = 10 ∨ (10000 ≤ c ∧ c < 11000) → ¬ V c) ∨ RXc m' e') (qg : ((∀ j : Int, j = 1000000 ∧ j = 1000001 → ¬ U j) ∧ (∀ a : Int, a = 137 → ¬ W a) ∧ ∀ c : Int, c = 14 → ¬ V c) ∨ RXg m' e') (qh : ((∀ j : Int, j = 1000000 ∧ j = 1000001 → ¬ U j) ∧ (∀ a : Int, a = 87 ∨ a = 88 ∨ a = 95 ∨ a = 96 → ¬ W a) ∧ ∀ c : Int, c = 7 ∨ (71000 ≤ c ∧ c < 72000) ∨ (76000 ≤ c ∧ c < 77000) → ¬ V c) ∨ RXh m' e') (qp : ((∀ j : Int, j = 32 → ¬ U j) ∧ (∀ a : Int, a = 87 ∨ a = 88 ∨ a = 96 → ¬ W a) ∧ ∀ c : Int, c = 7 ∨ c = 68 ∨ (71000 ≤ c ∧ c < 72000) → ¬ V c) ∨ RXp m' e') (ql : ((∀ j : Int, j = 83 ∨ j = 84 → ¬ U j) ∧ (∀ a : Int, 139 ≤ a ∧ a ≤ 141 → ¬ W a) ∧ ∀ c : Int, c = 4 ∨ c = 7 ∨ (75000 ≤ c ∧ c < 76000) → ¬ V c) ∨ RXl m' e') : RXE m' e' := by
  obtain ⟨ks, kt, kk, kr, ka, km, kj, kw, kc, kg, kh, kp, kl⟩ := h
  exact ⟨qs.elim (ks.fr fR fS fE) id, qt.elim (kt.fr hc fR fS fE) id, qk.elim (kk.fr fR fS fE) id, qr.elim (kr.fr hc fR fS fE) id, qa.elim (ka.fr hc fR fS fE ht) id, qm.elim (km.fr hc fR fS fE) id, qj.elim (kj.fr hc fR fS fE) id, qw.elim (kw.fr hc fR fS fE) id, qc.elim (kc.fr hc fR fS fE) id, qg.elim (kg.fr fR fS fE) id, qh.elim (kh.fr hc fR fS fE) id, qp.elim (kp.fr hc fR fS fE hD h3) id, ql.elim (kl.fr hc fR fS fE) id⟩
/-- a call of the reference, as it is told: code: its exceptions' numbers -/
def OKr (f : Option (Int × MM)) (code : Nat → Int) (r : (Int ⊕ Nat) × ES) : Prop := ∃ v m', f = some (v, m') ∧ RXE m' r.2 ∧ (∀ z, r.1 = .inl z → v = z ∧ m' 68 129 = 0) ∧ ∀ q, r.1 = .inr q → m' 68 129 = code q
/-- what neither the plain state nor the reference's memory for it looks at -/
theorem RXE.fr (h : RXE m e) (hc : CN e) (hm : ∀ a j : Int, (a = 68 → j ≤ 84) → a ≠ 97 → 68 ≤ a → a ≤ 141 → m' a j = m a j) (he : ∀ a j : Int, a ≠ 99 → e'.1 a j = e.1 a j) (h2 : e'.2.1 = e.2.1 ∧ e'.2.2.1 = e.2.2.1) : RXE m' e' := by
  refine h.chg hc (W := fun a => a = 97) (U := fun a => a = 1000000) (V := fun a => a = 99) (fun a j g1 g2 g3 => hm _ _ (by omega) g3 (by omega) g2) (fun j g1 _ => hm _ _ (fun _ => g1) (by decide) (by decide) (by decide)) ⟨he, fun c _ => congrFun h2.2 c, fun i _ => congrFun h2.1 i⟩ (by rw [he _ _ (by decide)]; omega) (fun q q0 q1 hq => ?_) (by rw [he _ _ (by decide)]; omega) (Or.inl ⟨fun a g => by omega, fun a g => by omega, fun a g => by omega⟩) (Or.inl ⟨fun a g => by omega, fun a g => by omega, fun a g => by omega⟩) (Or.inl ⟨fun a g => by omega, fun a g => by omega, fun a g => by omega⟩) (Or.inl ⟨fun a g => by omega, fun a g => by omega, fun a g => by omega⟩) (Or.inl ⟨fun a g => by omega, fun a g => by omega, fun a g => by omega⟩) (Or.inl ⟨fun a g => by omega, fun a g => by omega, fun a g => by omega⟩) (Or.inl ⟨fun a g => by omega, fun a g => by omega, fun a g => by omega⟩) (Or.inl ⟨fun a g => by omega, fun a g => by omega, fun a g => by omega⟩) (Or.inl ⟨fun a g => by omega, fun a g => by omega, fun a g => by omega⟩) (Or.inl ⟨fun a g => by omega, fun a g => by omega, fun a g => by omega⟩) (Or.inl ⟨fun a g => by omega, fun a g => by omega, fun a g => by omega⟩) (Or.inl ⟨fun a g => by omega, fun a g => by omega, fun a g => by omega⟩) (Or.inl ⟨fun a g => by omega, fun a g => by omega, fun a g => by omega⟩)
  unfold Dead
  rw [he _ _ (by omega)]
  exact hq
end RXF
