/-! THE LAW: a call of the reference leaves the class's memory alone, and the other way round. -/
section RXM2
variable {m m' M m1 m2 : MM} {ow : Int → Int} {ad : Int → Int → Int} {e e' : ES} {a b c i j k o r v w p t s x y n : Int} {l : List Int} {W : List (Int × Int × Int)}
theorem CE.nn (C : CE m ow ad e) (fx : Ext m m') (f : ∀ a j : Int, 4 ≤ a → a < m 0 0 → ow a ≠ 68 → 0 ≤ j → m' a j = m a j) (hF : Fix m') (h1 : m' 1 (-2) = 0) : CE m' ow ad e := by
  obtain ⟨⟨c1, c2, c3, c4, c5, c6⟩, K⟩ := C
  have h163 := c1.1
  have hrm : RM m' ow ad e := by
    obtain ⟨r1, ⟨q, b, q1, q2, q3⟩, ⟨⟨z1, z2⟩, z3, z4, z5⟩⟩ := c6
    refine ⟨fun o => ⟨fun c i hv ho => ?_, fun ho r hR => ?_⟩, ⟨q, b, q1, q2, fun i i0 i1 i2 => ?_⟩, ⟨⟨z1, z2⟩, ?_, ?_, ?_⟩⟩
    · obtain ⟨g1, g2, g3⟩ := (K o).2.2.2.2.2.1 c i hv ho
      exact (SmT.fr g1 fx fun a j ha j0 => f a j (Fp.lt g1.1 ha).1 (Fp.lt g1.1 ha).2 (by rw [g2 a ha]; simp only [LvR] at hv; omega) j0).cap ((r1 o).1 c i hv ho)
    · subst ho
      obtain ⟨g1, g2, -⟩ := (K 16).1 rfl
      obtain ⟨L, hL, -⟩ := g1.2.2.2.2
      exact (SmT.fr (hL r hR).1 fx fun a j ha j0 => f a j (Fp.lt (hL r hR).1.1 ha).1 (Fp.lt (hL r hR).1.1 ha).2 (by rw [g2 a (Or.inr ⟨r, hR, ha⟩)]; decide) j0).cap ((r1 16).2 rfl r hR)
    · obtain ⟨⟨g1, g2⟩, g3, g4, g5, g6, g7⟩ := (K (71000 + i)).2.2.2.2.2.2.2.1 i i0 i1 i2 rfl
      obtain ⟨l, hr, -⟩ := g3.1.2.2
      rw [g4] at hr
      exact (q3 i i0 i1 i2).sm (SmT.op hr fx fun a j ha j0 => f a j (Fp.lt hr.1 (Op.fp hr.1 ha)).1 (Fp.lt hr.1 (Op.fp hr.1 ha)).2 (by rw [g6 a ha]; omega) j0) hr.1.2.2.2.2.1 (Int.le_refl _)
    · rw [f 46 0 (by decide) (by omega) (by rw [z1]; decide) (by decide)]
      exact z3
    · rw [f 46 1 (by decide) (by omega) (by rw [z1]; decide) (by decide)]
      exact z4
    · unfold FR at z5 ⊢
      rw [f 46 0 (by decide) (by omega) (by rw [z1]; decide) (by decide)]
      rw [z3] at z5 ⊢
      exact ⟨by rw [(fx.2 47 (by decide) (by omega)).2]; exact z5.1, fun i i0 => by rw [f 47 i (by decide) (by omega) (by rw [z2]; decide) i0]; exact z5.2 i i0⟩
  refine ⟨⟨hF, h1, c3, c4, c5, hrm⟩, fun o => ?_⟩
  by_cases hD : o = 68
  · exact Kx.of0 (Or.inr (Or.inl hD))
  obtain ⟨k1, k2, k3, k4, k5, k6, k7, k8, k9, k10, k11⟩ := K o
  have lst : ∀ {c : Int} {g : Int → Int}, c ≠ 68 → KLst m ow e c g → KLst m' ow e c g := fun {c g} hc h => by
    obtain ⟨g1, g2, g3, g4⟩ := h
    have q : ∀ j, 0 ≤ j → m' c j = m c j := fun j j0 => f c j g1.1.1 g1.1.2 (by rw [g3]; exact hc) j0
    have q2 : m c 1 ≠ 1 → 4 ≤ m c 1 ∧ m c 1 < m 0 0 := fun hn => by
      rcases g1.2.2.2.2 with h5 | h5
      · exact absurd h5.1 hn
      · exact ⟨h5.1.1, h5.1.2.1⟩
    refine ⟨g1.fr fx q fun hn j j0 => f _ j (q2 hn).1 (q2 hn).2 (by rw [g4 hn]; exact hc) j0, g2, g3, fun hn => ?_⟩
    rw [q 1 (by decide)] at hn ⊢
    exact g4 hn
  refine ⟨fun ho => ?_, fun ho => ?_, fun ho => ?_, fun ho => lst hD (k4 ho), fun ho => lst hD (k5 ho), fun c i hv ho => ?_, fun i i0 i1 i2 ho => ?_, fun i i0 i1 i2 ho => ?_, fun i i0 i1 i2 ho => ?_, fun i i0 i1 i2 ho => ?_, fun i i0 i1 i2 ho => ?_⟩
  · obtain ⟨g1, g2, g3, g4⟩ := k1 ho
    have k : ∀ a j : Int, Mfp m a → 0 ≤ j → m' a j = m a j := fun a j ha j0 => f a j (Mfp.lt g1 ha).1 (Mfp.lt g1 ha).2 (by rw [g2 a ha]; decide) j0
    obtain ⟨d1, d2⟩ := g1.fr hF fx k
    exact ⟨d1, fun a ha => g2 a ((d2 a).mp ha), by rw [k 16 7 (Or.inl (Or.inl rfl)) (by decide)]; exact g3, g4⟩
  · obtain ⟨g1, g2⟩ := k2 ho
    refine ⟨g1, fun j hj => ?_⟩
    rw [f o j (by omega) (by omega) (by rw [g1]; exact hD) (by omega)]
    exact g2 j hj
  · obtain ⟨g1, g2, g3⟩ := k3 ho
    have hb := isT_b ho
    have q : ∀ j, 0 ≤ j → m' o j = m o j := fun j j0 => f o j (by omega) (by omega) (by rw [g1]; exact hD) j0
    exact ⟨g1, by rw [q 1 (by decide)]; exact g2, by rw [q 2 (by decide)]; exact g3⟩
  · obtain ⟨g1, g2, g3⟩ := k6 c i hv ho
    have q : ∀ a j : Int, Fp m (ad c i) a → 0 ≤ j → m' a j = m a j := fun a j ha j0 => f a j (Fp.lt g1.1 ha).1 (Fp.lt g1.1 ha).2 (by rw [g2 a ha, ← ho]; exact hD) j0
    obtain ⟨d1, d2⟩ := g1.fr fx q
    exact ⟨d1, fun a ha => g2 a ((d2 a).mp ha), by rw [q _ 1 (Or.inl rfl) (by decide)]; exact g3⟩
  · obtain ⟨g1, g2, g3, g4, g5, g6, g7, g8, g9⟩ := k7 i i0 i1 i2 ho
    have q : ∀ j, 0 ≤ j → m' (ad 7 i) j = m (ad 7 i) j := fun j j0 => f _ j g1.1 g1.2.1 (by rw [g3]; omega) j0
    exact ⟨fx.ok g1, g2, g3, fun j j0 j1 => by rw [q j j0]; exact g4 j j0 j1, g5, by rw [q _ (by decide)]; exact g6, by rw [q _ (by decide)]; exact g7, by rw [q _ (by decide)]; exact g8, by rw [q _ (by decide)]; exact g9⟩
  · obtain ⟨⟨g1, g2⟩, g3, g4, g5, g6, g7⟩ := k8 i i0 i1 i2 ho
    have hc := g3.1.1
    obtain ⟨l, hr, -⟩ := g3.1.2.2
    rw [g4] at hr
    have q : ∀ j, 0 ≤ j → m' (ad 71 i) j = m (ad 71 i) j := fun j j0 => f _ j hc.1 hc.2.1 (by rw [g2]; omega) j0
    have q2 : ∀ a j : Int, Fp m (ad 72 i) a → 0 ≤ j → m' a j = m a j := fun a j ha j0 => by
      refine f a j (Fp.lt hr.1 ha).1 (Fp.lt hr.1 ha).2 ?_ j0
      rcases Fp.split hr.1 ha with k | k
      · rw [g6 a k]; omega
      · obtain ⟨i', z0, z1, z2, z3⟩ := g7 a k
        omega
    obtain ⟨o1, o2⟩ := Op.fr hr fx q2
    exact ⟨⟨g1, g2⟩, g3.fr fx q fun a j ha j0 => q2 a j (by rw [← g4]; exact ha) j0, by rw [q 0 (by decide)]; exact g4, g5, fun a ha => g6 a ((o1 a).mp ha), fun a ha => g7 a ((o2 a).mp ha)⟩
  · obtain ⟨g1, g2, g3, g4, g5, g6⟩ := k9 i i0 i1 i2 ho
    have q : ∀ j, 0 ≤ j → m' (ad 8 i) j = m (ad 8 i) j := fun j j0 => f _ j g1.1 g1.2.1 (by rw [g3]; omega) j0
    exact ⟨fx.ok g1, g2, g3, g4, by rw [q 0 (by decide)]; exact g5, fun j j0 j1 => by rw [q j (by omega)]; exact g6 j j0 j1⟩
  · obtain ⟨g1, g2, g3, g4, g5, g6⟩ := k10 i i0 i1 i2 ho
    have q : ∀ j, 0 ≤ j → m' (ad 9 i) j = m (ad 9 i) j := fun j j0 => f _ j g1.1 g1.2.1 (by rw [g3]; omega) j0
    exact ⟨fx.ok g1, g2, g3, g4, by rw [q 1 (by decide)]; exact g5, fun j hj => by rw [q j (by omega)]; exact g6 j hj⟩
  · obtain ⟨g1, g2, g3, g6⟩ := k11 i i0 i1 i2 ho
    have q : ∀ j, 0 ≤ j → m' (ad 10 i) j = m (ad 10 i) j := fun j j0 => f _ j g1.1 g1.2.1 (by rw [g3]; omega) j0
    exact ⟨fx.ok g1, g2, g3, fun j j0 j1 => by rw [q j j0]; exact g6 j j0 j1⟩
/-- what a method of the reference writes -/
def rfW (W : List (Int × Int × Int)) : Bool := W.all fun w => decide (w.1 = 0) && (decide (68 ≤ w.2.1) && decide (w.2.1 ≤ 161))
theorem rf_at (hW : rfW W = true) (h4 : 4 ≤ a) (h : wok W 0 m a j) : 68 ≤ a ∧ a ≤ 161 := by
  rcases h with h | ⟨w, hw, h, -⟩
  · omega
  · have q := List.all_eq_true.mp hW w hw
    simp only [Bool.and_eq_true, decide_eq_true_eq] at q
    obtain ⟨q1, q2, q3⟩ := q
    rcases h with h | h | h <;> omega
theorem CE.rfx (C : CE m ow ad e) (hW : rfW W = true) (f : Fr W 0 m m') (h1 : m' 1 (-2) = 0) : CE m' ow ad e := C.nn f.2.2.1 (fun a j a0 a1 ho j0 => f.2.2.2.1 a j a0 a1 j0 fun hw => by
  obtain ⟨q1, q2⟩ := rf_at hW a0 hw
  exact ho (C.1.2.2.1 a q1 q2)) f.2.1 h1
/-- what a method of the class writes: nothing of the reference's -/
def clW (W : List (Int × Int × Int)) : Bool := W.all fun w => (decide (w.1 ≠ 0) || (decide (w.2.1 < 68) || decide (161 < w.2.1))) && (decide (w.1 ≠ 1) || (decide (w.2.1 ≠ 13) && (decide (w.2.1 ≠ 100) && (decide (w.2.1 ≠ 101) && decide (w.2.1 ≠ 102)))))
theorem rf_kd (hF : Fix m) (h0 : 68 ≤ a) (h1 : a ≤ 161) : m a (-1) = 13 ∨ m a (-1) = 100 ∨ m a (-1) = 101 ∨ m a (-1) = 102 := by
  have key : ∀ i : Fin 94, ∃ q ∈ fixk, q.1 = 68 + (i.val : Int) ∧ (q.2.1 = 13 ∨ q.2.1 = 100 ∨ q.2.1 = 101 ∨ q.2.1 = 102) := by decide +kernel
  obtain ⟨q, hq, q1, q2⟩ := key ⟨(a - 68).toNat, by omega⟩
  have qa : q.1 = a := by
    rw [q1]
    show 68 + (((a - 68).toNat : Nat) : Int) = a
    omega
  have := (hF.2 q hq).1
  rw [qa] at this
  rw [this]
  exact q2
theorem SmR.cl (hW : clW W = true) (f : Fr W 0 m m') : SmR m m' := fun a j a0 a1 j0 => f.2.2.2.1 a j (by omega) (by have := f.1.1; omega) j0 fun hw => by
  rcases hw with h | ⟨w, hw, h, -⟩
  · omega
  · have q := List.all_eq_true.mp hW w hw
    simp only [Bool.and_eq_true, Bool.or_eq_true, decide_eq_true_eq] at q
    obtain ⟨q1, q2⟩ := q
    have kd := rf_kd f.1 a0 a1
    rcases h with h | h | h <;> omega
end RXM2
