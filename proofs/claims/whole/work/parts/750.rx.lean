/-! THE REFERENCE'S ENGINE: how its memory stands for the plain engine's state. -/
section RXD
variable {m m' : MM} {e e' : ES} {a b c i j k o r v w p t s : Int} {l : List Int}
/-- a row of code at place s -/
def RXd (m : MM) (l : List Int) (s : Int) : Prop := m 70 s = (l.length : Int) ∧ l.length ≤ 24 ∧ ∀ (i : Nat) (v : Int), l[i]? = some v → m 71 (24 * s + i) = v / 1000000 ∧ m 72 (24 * s + i) = v / 1000 % 1000 ∧ m 73 (24 * s + i) = v % 1000
/-- scalars -/
def RXs (m : MM) (e : ES) : Prop := m 68 0 = e.1 4 14 ∧ m 68 12 = e.1 7 2 ∧ m 68 29 = e.1 68 29 ∧ m 68 30 = e.1 68 30 ∧ m 68 34 = e.1 8 2 ∧ m 68 50 = e.1 4 13 ∧ m 68 51 = e.1 9 2 ∧ m 68 68 = e.1 4 15 ∧ m 68 69 = e.1 10 2 ∧ m 68 79 = e.1 4 12 ∧ m 68 80 = e.1 4 11
/-- types, and what is drafted -/
def RXt (m : MM) (e : ES) : Prop := ∀ k : Int, 0 ≤ k → k < 4 → m 69 k = e.1 (49 + 4 * k) 2 ∧ m 79 k = e.1 (48 + 4 * k) 2 ∧ RXd m (eL e (1000 * (48 + 4 * k) + e.1 (49 + 4 * k) 2)) (5 * k + 4) ∧ ∀ v : Int, 0 ≤ v → v < e.1 (49 + 4 * k) 2 → RXd m (eL e (1000 * (48 + 4 * k) + v)) (5 * k + v)
/-- kinds -/
def RXk (m : MM) (e : ES) : Prop := ∀ k : Int, 0 ≤ k → k < 4 → ∀ j : Int, 0 ≤ j → j < 5 → m (74 + j) k = e.1 (64 + k) j
/-- runs -/
def RXr (m : MM) (e : ES) : Prop := (∀ r : Int, 0 ≤ r → r < e.1 7 2 → (m 80 r = e.1 (7000 + r) 1 ∧ m 81 r = e.1 (7000 + r) 2 ∧ m 82 r = e.1 (7000 + r) 3 ∧ m 83 r = e.1 (7000 + r) 6 ∧ m 84 r = e.1 (7000 + r) 4 ∧ m 85 r = e.1 (7000 + r) 5) ∧ (m 86 r = hN e r ∧ m 89 r = hA e r ∧ m 90 r = hT e r ∧ m 91 r = hC e r) ∧ m 92 r = e.1 (7000 + r) 8 ∧ m 93 r = e.1 (7000 + r) 9 ∧ m 94 r = e.1 (7000 + r) 7 ∧ m 138 r = e.1 (7000 + r) 11) ∧ ∀ r : Int, e.1 7 2 ≤ r → r < 30 → m 138 r = -1
/-- activities -/
def RXa (m : MM) (e : ES) : Prop := ∀ p : Int, 0 ≤ p → p < e.1 8 2 → m 98 p = e.1 (8000 + p) 0 ∧ m 99 p = e.1 (8000 + p) 1 ∧ m 100 p = e.1 (8000 + p) 2 ∧ m 101 p = e.1 (8000 + p) 3 ∧ m 102 p = e.1 (8000 + p) 5 ∧ m 103 p = e.1 (8000 + p) 6 ∧ m 104 p = e.1 (8000 + p) 4 ∧ m 105 p = e.1 (8000 + p) 7 ∧ m 106 p = e.1 (8000 + p) 8 ∧ m 107 p = e.1 (8000 + p) 9 ∧ m 108 p = e.1 (8000 + p) 10
/-- timers: one list of all runs' -/
def RXm (m : MM) (e : ES) : Prop := (0 ≤ m 68 46 ∧ m 68 46 ≤ 512) ∧ (∀ k : Int, 0 ≤ k → k < m 68 46 → 0 ≤ m 109 k ∧ m 109 k < e.1 7 2 ∧ ∃ n : Nat, (eL e (73000 + m 109 k))[n]? = some (m 110 k) ∧ (eL e (74000 + m 109 k))[n]? = some (m 111 k)) ∧ (∀ (r : Int) (n : Nat) (v : Int), 0 ≤ r → r < e.1 7 2 → (eL e (73000 + r))[n]? = some v → ∃ k : Int, (0 ≤ k ∧ k < m 68 46) ∧ m 109 k = r ∧ m 110 k = v) ∧ ∀ k j : Int, 0 ≤ k → k < j → j < m 68 46 → ¬ (m 109 k = m 109 j ∧ m 110 k = m 110 j)
/-- tasks, workers -/
def RXj (m : MM) (e : ES) : Prop := (∀ p : Int, 0 ≤ p → p < e.1 9 2 → m 112 p = e.1 (9000 + p) 0 ∧ m 113 p = e.1 (9000 + p) 1 ∧ m 114 p = e.1 (9000 + p) 3 ∧ m 115 p = e.1 (9000 + p) 2 ∧ ((m 118 p * 1000 + m 116 p) * 4 + m 117 p = e.1 (9000 + p) 4 ∧ 0 ≤ m 118 p ∧ 0 ≤ m 116 p ∧ m 116 p < 1000 ∧ 0 ≤ m 117 p ∧ m 117 p < 4) ∧ m 119 p = e.1 (9000 + p) 5) ∧ ∀ w : Int, 0 ≤ w → w < 3 → m 122 w = e.1 11 w ∧ m 121 w = e.1 12 w ∧ m 120 w = e.1 13 w
/-- what workers keep: an entry fits where the class has kept it -/
def RXw (m : MM) (e : ES) : Prop := ∀ w r : Int, 0 ≤ w → w < 3 → 0 ≤ r → r < e.1 7 2 → ((0 < m 123 (30 * w + r) ∧ m 123 (30 * w + r) = hT e r ∧ m 124 (30 * w + r) = e.1 (7000 + r) 3 ∧ m 125 (30 * w + r) = e.1 (7000 + r) 9) ↔ (e.1 (7000 + r) 12 = w ∧ e.1 (7000 + r) 13 = pMark e r)) ∧ (e.1 (7000 + r) 12 = w ∧ e.1 (7000 + r) 13 = pMark e r → m 126 (30 * w + r) = e.1 (7000 + r) 15 ∧ m 127 (30 * w + r) = e.1 (7000 + r) 14)
/-- schedules -/
def RXc (m : MM) (e : ES) : Prop := ∀ p : Int, 0 ≤ p → p < e.1 10 2 → ∀ j : Int, 0 ≤ j → j ≤ 8 → m (128 + j) p = e.1 (10000 + p) j
/-- tags that wait -/
def RXg (m : MM) (e : ES) : Prop := ∀ (i : Nat) (v : Int), (eL e 14)[i]? = some v → m 137 i = v
/-- histories: G: a row's last part -/
def RXh (m : MM) (e : ES) : Prop := ∀ r : Int, 0 ≤ r → r < e.1 7 2 → ∀ i : Int, 0 ≤ i → i < hN e r → ∃ A, fm_X12_at r i m = some A ∧ 0 ≤ A ∧ A < 1310720 ∧ 0 ≤ e.1 (76000 + r) i ∧ m 95 A = (rpk (eH e r i).1 (eH e r i).2.1 (eH e r i).2.2.1 (e.1 (76000 + r) i).toNat : Int) ∧ (eH e r i).1 ≤ 17 ∧ (eH e r i).2.1 < 524288 ∧ (eH e r i).2.2.1 ≤ 999 ∧ (e.1 (76000 + r) i).toNat < 536870912 ∧ (ek (eH e r i) ≤ 7 → (((e.1 (76000 + r) i).toNat % 1000 : Nat) : Int) = ew (eH e r i) % 1024)
def RXE (m : MM) (e : ES) : Prop := RXs m e ∧ RXt m e ∧ RXk m e ∧ RXr m e ∧ RXa m e ∧ RXm m e ∧ RXj m e ∧ RXw m e ∧ RXc m e ∧ RXg m e ∧ RXh m e
/-- a run told by a version: what tells_all asks of the memory -/
theorem RXE.rh0 (h : RXE m e) (r0 : 0 ≤ r) (r1 : r < e.1 7 2) (r2 : e.1 7 2 ≤ 30) (t0 : 0 ≤ e.1 (7000 + r) 1) (t1 : e.1 (7000 + r) 1 < 4) (v0 : 0 ≤ v) (v1 : v < e.1 (49 + 4 * e.1 (7000 + r) 1) 2) (v2 : v < 4) (hn : 0 ≤ hN e r ∧ hN e r < 524288) {c2 c3 : Int} : RH0 m (pCX e r v w c2 c3) (fun i => (e.1 (76000 + r) i).toNat) r (e.1 (7000 + r) 1) v := by
  obtain ⟨h1, h2, h3, ⟨h4, -⟩, h5, h6, h7, h8, h9, h10, h11⟩ := h
  obtain ⟨⟨k1, -⟩, ⟨k2, -⟩, -⟩ := h4 r r0 r1
  obtain ⟨d1, d2, d3⟩ := (h2 _ t0 t1).2.2.2 v v0 v1
  have e49 : ∀ x : Int, 48 + 4 * x = 4 * x + 48 := fun x => by omega
  refine ⟨⟨r0, by omega⟩, ⟨v0, v2⟩, ⟨k1, t0, t1⟩, d1, ⟨Int.natCast_nonneg _, by show ((eL e _).length : Int) ≤ 24; omega⟩, k2, hn, fun i i0 i1 => ?_, fun i i0 i1 => ?_⟩
  · have hi : i.toNat < (eL e (1000 * (48 + 4 * e.1 (7000 + r) 1) + v)).length := by
      have : i < ((eL e (1000 * (48 + 4 * e.1 (7000 + r) 1) + v)).length : Int) := i1
      omega
    have hg := List.getElem?_eq_getElem hi
    obtain ⟨q1, q2, q3⟩ := d3 _ _ hg
    rw [show ((i.toNat : Nat) : Int) = i by omega] at q1 q2 q3
    have hd : (eL e (1000 * (48 + 4 * e.1 (7000 + r) 1) + v)).getD i.toNat 0 = (eL e (1000 * (48 + 4 * e.1 (7000 + r) 1) + v))[i.toNat] := by
      rw [List.getD_eq_getElem?_getD, hg]
      rfl
    show m 71 _ = (eL e (1000 * (48 + 4 * e.1 (7000 + r) 1) + v)).getD i.toNat 0 / 1000000 ∧ m 72 _ = (eL e (1000 * (48 + 4 * e.1 (7000 + r) 1) + v)).getD i.toNat 0 / 1000 % 1000 ∧ m 73 _ = (eL e (1000 * (48 + 4 * e.1 (7000 + r) 1) + v)).getD i.toNat 0 % 1000
    rw [hd]
    exact ⟨q1, q2, q3⟩
  · obtain ⟨A, g1, g2, g3, g4, g5, g6, g7, g8, g9, g10⟩ := h11 r r0 r1 i i0 i1
    exact ⟨A, g1, g2, g3, g5, g6, g7, g8, g9, g10⟩
end RXD
