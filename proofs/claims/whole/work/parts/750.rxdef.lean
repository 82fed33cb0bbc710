/-! THE REFERENCE'S ENGINE: how its memory stands for the plain engine's state. -/
section RXD
variable {m m' : MM} {e e' : ES} {a b c i j k o r v w p t s : Int} {l : List Int}
/-- a row of code at place s -/
def RXd (m : MM) (l : List Int) (s : Int) : Prop := m 70 s = (l.length : Int) ∧ l.length ≤ 24 ∧ ∀ (i : Nat) (v : Int), l[i]? = some v → m 71 (24 * s + i) = v / 1000000 ∧ m 72 (24 * s + i) = v / 1000 % 1000 ∧ m 73 (24 * s + i) = v % 1000
/-- scalars -/
def RXs (m : MM) (e : ES) : Prop := m 68 0 = e.1 4 14 ∧ m 68 12 = e.1 7 2 ∧ m 68 29 = e.1 68 29 ∧ m 68 30 = e.1 68 30 ∧ m 68 34 = e.1 8 2 ∧ m 68 50 = e.1 4 13 ∧ m 68 51 = e.1 9 2 ∧ m 68 68 = e.1 4 15 ∧ m 68 69 = e.1 10 2 ∧ m 68 79 = e.1 4 12 ∧ m 68 80 = e.1 4 11
/-- types, and what is drafted -/
def RXt (m : MM) (e : ES) : Prop := ∀ k : Int, 0 ≤ k → k < 4 → m 69 k = e.1 (49 + 4 * k) 2 ∧ m 79 k = e.1 (48 + 4 * k) 2 ∧ RXd m (eL e (1000 * (48 + 4 * k) + e.1 (49 + 4 * k) 2)) (5 * k + 4) ∧ ∀ v : Int, 0 ≤ v → v < e.1 (49 + 4 * k) 2 → RXd m (eL e (1000 * (48 + 4 * k) + v)) (5 * k + v)
/-- kinds -/
def RXk (m : MM) (e : ES) : Prop := ∀ k : Int, 0 ≤ k → k < 4 → ∀ j : Int, 0 ≤ j → j < 5 → m (74 + j) k = e.1 (64 + k) j
/-- runs; those that are not yet -/
def RXr1 (m : MM) (e : ES) (r : Int) : Prop := (m 80 r = e.1 (7000 + r) 1 ∧ m 81 r = e.1 (7000 + r) 2 ∧ m 82 r = e.1 (7000 + r) 3 ∧ m 83 r = e.1 (7000 + r) 6 ∧ m 84 r = e.1 (7000 + r) 4 ∧ (e.1 (7000 + r) 4 ≠ -1 → m 85 r = e.1 (7000 + r) 5)) ∧ (m 86 r = hN e r ∧ m 89 r = hA e r ∧ m 90 r = hT e r ∧ m 91 r = hC e r) ∧ m 92 r = e.1 (7000 + r) 8 ∧ m 93 r = e.1 (7000 + r) 9 ∧ (e.1 (7000 + r) 6 = 6 → m 94 r = e.1 (7000 + r) 7) ∧ m 138 r = e.1 (7000 + r) 11
def RXr0 (m : MM) (r : Int) : Prop := m 88 r = 0 ∧ m 89 r = 0 ∧ m 90 r = 0 ∧ m 91 r = 0 ∧ m 92 r = 0 ∧ m 93 r = 0 ∧ m 138 r = -1
def RXr (m : MM) (e : ES) : Prop := (∀ r : Int, 0 ≤ r → r < e.1 7 2 → RXr1 m e r) ∧ ∀ r : Int, e.1 7 2 ≤ r → r < 30 → RXr0 m r
/-- activities -/
def RXa1 (m : MM) (e : ES) (p : Int) : Prop := (m 98 p = e.1 (8000 + p) 0 ∧ m 99 p = e.1 (8000 + p) 1 ∧ m 100 p = e.1 (8000 + p) 2 ∧ m 101 p = e.1 (8000 + p) 3 ∧ m 102 p = e.1 (8000 + p) 5 ∧ m 103 p = e.1 (8000 + p) 6 ∧ m 104 p = e.1 (8000 + p) 4 ∧ m 108 p = e.1 (8000 + p) 10) ∧ (m 105 p = e.1 (8000 + p) 7 ∨ (m 105 p ≤ e.1 4 14 ∧ e.1 (8000 + p) 7 ≤ e.1 4 14)) ∧ (e.1 (8000 + p) 5 = 1 → m 106 p = e.1 (8000 + p) 8 ∧ m 107 p = e.1 (8000 + p) 9)
def RXa (m : MM) (e : ES) : Prop := ∀ p : Int, 0 ≤ p → p < e.1 8 2 → RXa1 m e p
/-- timers: one list of all runs' -/
def xT (m : MM) : List (Int × Int × Int) := (List.range (m 68 46).toNat).map fun k : Nat => (m 109 k, m 110 k, m 111 k)
def pT1 (e : ES) (r : Int) : List (Int × Int × Int) := ((eL e (73000 + r)).zip (eL e (74000 + r))).map fun q => (r, q.1, q.2)
def pT (e : ES) : Nat → List (Int × Int × Int)
  | 0 => []
  | n + 1 => pT e n ++ pT1 e (n : Int)
def RXm (m : MM) (e : ES) : Prop := (0 ≤ m 68 46 ∧ m 68 46 ≤ 512) ∧ (xT m).Perm (pT e (e.1 7 2).toNat)
/-- tasks, workers -/
def RXj1 (m : MM) (e : ES) (p : Int) : Prop := m 112 p = e.1 (9000 + p) 0 ∧ m 113 p = e.1 (9000 + p) 1 ∧ m 114 p = e.1 (9000 + p) 3 ∧ m 115 p = e.1 (9000 + p) 2 ∧ ((m 118 p * 1000 + m 116 p) * 4 + m 117 p = e.1 (9000 + p) 4 ∧ 0 ≤ m 118 p ∧ 0 ≤ m 116 p ∧ m 116 p < 1000 ∧ 0 ≤ m 117 p ∧ m 117 p < 4) ∧ m 119 p = e.1 (9000 + p) 5
def RXj (m : MM) (e : ES) : Prop := (∀ p : Int, 0 ≤ p → p < e.1 9 2 → RXj1 m e p) ∧ (∀ p : Int, e.1 9 2 ≤ p → p < 4096 → m 119 p = 0) ∧ ∀ w : Int, 0 ≤ w → w < 3 → m 122 w = e.1 11 w ∧ m 121 w = e.1 12 w ∧ m 120 w = e.1 13 w
/-- what workers keep: who told a run last is the one whose entry can fit -/
def RXw1 (m : MM) (e : ES) (w r : Int) : Prop := (0 < m 123 (30 * w + r) → m 125 (30 * w + r) ≤ e.1 (7000 + r) 9 ∧ (m 125 (30 * w + r) = e.1 (7000 + r) 9 → m 123 (30 * w + r) ≤ hT e r) ∧ (e.1 (7000 + r) 12 ≠ w → ¬ (m 123 (30 * w + r) = hT e r ∧ m 125 (30 * w + r) = e.1 (7000 + r) 9))) ∧ (e.1 (7000 + r) 12 = w → 0 < m 123 (30 * w + r) ∧ m 123 (30 * w + r) < 1000 ∧ 0 ≤ m 125 (30 * w + r) ∧ (0 ≤ m 124 (30 * w + r) ∧ m 124 (30 * w + r) < 4) ∧ e.1 (7000 + r) 13 = (m 125 (30 * w + r) * 1000 + m 123 (30 * w + r)) * 4 + m 124 (30 * w + r) ∧ m 126 (30 * w + r) = e.1 (7000 + r) 15 ∧ m 127 (30 * w + r) = e.1 (7000 + r) 14)
def RXw (m : MM) (e : ES) : Prop := ∀ w : Int, 0 ≤ w → w < 3 → (∀ r : Int, 0 ≤ r → r < e.1 7 2 → RXw1 m e w r) ∧ ∀ r : Int, e.1 7 2 ≤ r → r < 30 → m 123 (30 * w + r) = 0
/-- schedules -/
def RXc (m : MM) (e : ES) : Prop := (∀ p : Int, 0 ≤ p → p < e.1 10 2 → ∀ j : Int, 0 ≤ j → j ≤ 8 → m (128 + j) p = e.1 (10000 + p) j) ∧ ∀ p : Int, e.1 10 2 ≤ p → p < 4 → m 133 p = 0 ∧ m 134 p = -1 ∧ m 135 p = 0 ∧ m 136 p = 0
/-- tags that wait -/
def RXg (m : MM) (e : ES) : Prop := ∀ (i : Nat) (v : Int), (eL e 14)[i]? = some v → m 137 i = v
/-- histories -/
def RXh1 (m : MM) (e : ES) (r i : Int) : Prop := ∃ A, fm_X12_at r i m = some A ∧ 0 ≤ A ∧ A < 1310720 ∧ 0 ≤ e.1 (76000 + r) i ∧ m 95 A = (rpk (eH e r i).1 (eH e r i).2.1 (eH e r i).2.2.1 (e.1 (76000 + r) i).toNat : Int) ∧ (eH e r i).1 ≤ 17 ∧ (eH e r i).2.1 < 524288 ∧ (eH e r i).2.2.1 ≤ 999 ∧ (e.1 (76000 + r) i).toNat < 536870912 ∧ (ek (eH e r i) ≤ 7 → (((e.1 (76000 + r) i).toNat % 1000 : Nat) : Int) = ew (eH e r i) % 1024)
def RXh (m : MM) (e : ES) : Prop := ∀ r : Int, 0 ≤ r → r < e.1 7 2 → ∀ i : Int, 0 ≤ i → i < hN e r → RXh1 m e r i
/-- pieces: mx: so many events a run has had of its own; whose a history's events are -/
def RXo (m : MM) (e : ES) (mx : Int → Int) (r i : Int) : Prop := ∃ q : Int, (0 ≤ q ∧ q < e.1 7 2) ∧ (q = r ∨ Dead e q) ∧ (0 ≤ i - m 88 q ∧ i - m 88 q < mx q) ∧ fm_X12_at r i m = some (256 * (m 96 (2048 * q + (i - m 88 q) / 256) - 1) + (i - m 88 q) % 256)
/-- what is asked of the sums of what is a run's own -/
def GHO (m : MM) (e : ES) (mx : Int → Int) : Prop := sm (fun r => e.1 68 (3000 + r)) 30 ≤ e.1 68 1000 ∧ (∀ r : Int, 0 ≤ r → r < 30 → mx r ≤ e.1 68 (3000 + r)) ∧ ∀ r : Int, 0 ≤ r → r < e.1 7 2 → (hN e r ≤ e.1 68 (4000 + r) → e.1 68 (2000 + r) ≤ m 88 r ∨ hN e r ≤ m 88 r) ∧ (e.1 68 (4000 + r) < hN e r → hN e r ≤ m 88 r)
theorem GHO.of {mx : Int → Int} (h : GHO m e mx) (hg : ∀ j, e'.1 68 j = e.1 68 j) (hr : ∀ r : Int, 0 ≤ r → r < e'.1 7 2 → (r < e.1 7 2 ∧ hN e' r ≤ hN e r ∧ m' 88 r = m 88 r) ∨ hN e' r ≤ m' 88 r) : GHO m' e' mx := by
  obtain ⟨h1, h2, h3⟩ := h
  unfold GHO
  simp only [hg]
  refine ⟨h1, h2, fun r r0 r1 => ?_⟩
  rcases hr r r0 r1 with ⟨g1, g2, g3⟩ | g
  · have := h3 r r0 g1
    omega
  · omega
def RXp (m : MM) (e : ES) : Prop := ∃ mx : Int → Int, ((∀ r : Int, 0 ≤ r → r < 30 → 0 ≤ mx r ∧ mx r ≤ 524288 ∧ (e.1 7 2 ≤ r → mx r = 0)) ∧ GHO m e mx ∧ m 68 32 = sm (fun r => (mx r + 255) / 256) 30) ∧ (∀ r k : Int, 0 ≤ r → r < 30 → 0 ≤ k → k < 2048 → (256 * k < mx r → 1 ≤ m 96 (2048 * r + k) ∧ m 96 (2048 * r + k) ≤ m 68 32) ∧ (mx r ≤ 256 * k → m 96 (2048 * r + k) = 0)) ∧ (∀ s t : Int, 0 ≤ s → s < t → t < 61440 → m 96 s ≠ 0 → m 96 s ≠ m 96 t) ∧ (∀ r : Int, 0 ≤ r → r < e.1 7 2 → 0 ≤ m 88 r ∧ m 88 r ≤ hN e r ∧ hN e r - m 88 r ≤ mx r) ∧ (∀ r : Int, 0 ≤ r → r < e.1 7 2 → ∀ i : Int, 0 ≤ i → i < hN e r → RXo m e mx r i) ∧ ∀ r : Int, 0 ≤ r → r < e.1 7 2 → 0 < m 88 r → (0 ≤ m 87 r ∧ m 87 r < r) ∧ Dead e (m 87 r)
/-- signals that were lost, by rising runs -/
def pLst (e : ES) : Nat → List (Int × Int)
  | 0 => []
  | n + 1 => pLst e n ++ (eL e (75000 + (n : Int))).map fun v => ((n : Int), v)
def RXl (m : MM) (e : ES) : Prop := m 68 83 = (if e.1 4 17 = 0 then 1 else 0) ∧ m 68 84 = ((pLst e (e.1 7 2).toNat).length : Int) ∧ ∀ (i : Nat) (q : Int × Int), (pLst e (e.1 7 2).toNat)[i]? = some q → m 139 i = q.1 ∧ m 140 i = q.2 / 1000 ∧ m 141 i = q.2 % 1000
def RXE (m : MM) (e : ES) : Prop := RXs m e ∧ RXt m e ∧ RXk m e ∧ RXr m e ∧ RXa m e ∧ RXm m e ∧ RXj m e ∧ RXw m e ∧ RXc m e ∧ RXg m e ∧ RXh m e ∧ RXp m e ∧ RXl m e
theorem RXE.ps (h : RXE m e) : RXs m e := h.1
theorem RXE.pt (h : RXE m e) : RXt m e := h.2.1
theorem RXE.pk (h : RXE m e) : RXk m e := h.2.2.1
theorem RXE.pr (h : RXE m e) : RXr m e := h.2.2.2.1
theorem RXE.pa (h : RXE m e) : RXa m e := h.2.2.2.2.1
theorem RXE.pm (h : RXE m e) : RXm m e := h.2.2.2.2.2.1
theorem RXE.pj (h : RXE m e) : RXj m e := h.2.2.2.2.2.2.1
theorem RXE.pw (h : RXE m e) : RXw m e := h.2.2.2.2.2.2.2.1
theorem RXE.pc (h : RXE m e) : RXc m e := h.2.2.2.2.2.2.2.2.1
theorem RXE.pg (h : RXE m e) : RXg m e := h.2.2.2.2.2.2.2.2.2.1
theorem RXE.ph (h : RXE m e) : RXh m e := h.2.2.2.2.2.2.2.2.2.2.1
theorem RXE.pp (h : RXE m e) : RXp m e := h.2.2.2.2.2.2.2.2.2.2.2.1
theorem RXE.pl (h : RXE m e) : RXl m e := h.2.2.2.2.2.2.2.2.2.2.2.2
/-- a run told by a version: what tells_all asks of the memory -/
theorem RXE.rh0 (h : RXE m e) (r0 : 0 ≤ r) (r1 : r < e.1 7 2) (r2 : e.1 7 2 ≤ 30) (t0 : 0 ≤ e.1 (7000 + r) 1) (t1 : e.1 (7000 + r) 1 < 4) (v0 : 0 ≤ v) (v1 : v < e.1 (49 + 4 * e.1 (7000 + r) 1) 2) (v2 : v < 4) (hn : 0 ≤ hN e r ∧ hN e r < 524288) {c2 c3 : Int} : RH0 m (pCX e r v w c2 c3) (fun i => (e.1 (76000 + r) i).toNat) r (e.1 (7000 + r) 1) v := by
  obtain ⟨⟨k1, -⟩, ⟨k2, -⟩, -⟩ := h.pr.1 r r0 r1
  obtain ⟨d1, d2, d3⟩ := (h.pt _ t0 t1).2.2.2 v v0 v1
  refine ⟨⟨r0, by omega⟩, ⟨v0, v2⟩, ⟨k1, t0, t1⟩, d1, ⟨Int.natCast_nonneg _, by show ((eL e _).length : Int) ≤ 24; omega⟩, k2, hn, fun i i0 i1 => ?_, fun i i0 i1 => ?_⟩
  · have hi : i.toNat < (eL e (1000 * (48 + 4 * e.1 (7000 + r) 1) + v)).length := by
      have : i < ((eL e (1000 * (48 + 4 * e.1 (7000 + r) 1) + v)).length : Int) := i1
      omega
    have hg := List.getElem?_eq_getElem hi
    obtain ⟨q1, q2, q3⟩ := d3 _ _ hg
    rw [show ((i.toNat : Nat) : Int) = i by omega] at q1 q2 q3
    have hd : (eL e (1000 * (48 + 4 * e.1 (7000 + r) 1) + v)).getD i.toNat 0 = (eL e (1000 * (48 + 4 * e.1 (7000 + r) 1) + v))[i.toNat] := by
      rw [List.getD_eq_getElem?_getD, hg]
      rfl
    show m 71 _ = (eL e (1000 * (48 + 4 * e.1 (7000 + r) 1) + v)).getD i.toNat 0 / 1000000 ∧ m 72 _ = (eL e (1000 * (48 + 4 * e.1 (7000 + r) 1) + v)).getD i.toNat 0 / 1000 % 1000 ∧ m 73 _ = (eL e (1000 * (48 + 4 * e.1 (7000 + r) 1) + v)).getD i.toNat 0 % 1000
    rw [hd]
    exact ⟨q1, q2, q3⟩
  · obtain ⟨A, g1, g2, g3, g4, g5, g6, g7, g8, g9, g10⟩ := h.ph r r0 r1 i i0 i1
    exact ⟨A, g1, g2, g3, g5, g6, g7, g8, g9, g10⟩
end RXD
