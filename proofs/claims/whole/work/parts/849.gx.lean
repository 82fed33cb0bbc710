/-! FIELDS: what the inner steps leave alone, and what they keep within bounds; one step each. -/
section GXA
variable {e e' e1 e2 : ES} {Z Z' Z2 : Int → Prop} {a b c i j k q r v w N M p x y t o ev tn ver inp pe st kd due : Int} {n : Nat} {E E' E2 : Int → Ev} {N' N2 : Int}
/-- a history to which only arrivals were put -/
def AR (E : Int → Ev) (N : Int) (E' : Int → Ev) (N' : Int) : Prop := N ≤ N' ∧ (∀ j : Int, 0 ≤ j → j < N → E' j = E j) ∧ ∀ j : Int, N ≤ j → j < N' → ek (E' j) ≤ 7
theorem AR.rf : AR E N E N := ⟨Int.le_refl _, fun _ _ _ => rfl, fun j j0 j1 => by omega⟩
theorem AR.tr (h : AR E N E' N') (g : AR E' N' E2 N2) (n0 : 0 ≤ N) : AR E N E2 N2 := ⟨Int.le_trans h.1 g.1, fun j j0 j1 => (g.2.1 j j0 (by have := h.1; omega)).trans (h.2.1 j j0 j1), fun j j0 j1 => by
  by_cases c : j < N'
  · rw [g.2.1 j (by omega) c]
    exact h.2.2 j j0 c
  · exact g.2.2 j (by omega) j1⟩
/-- what the inner steps leave alone -/
def EX (e e' : ES) : Prop := (e.1 7 2 ≤ e'.1 7 2 ∧ e.1 8 2 ≤ e'.1 8 2) ∧
  (∀ r : Int, 0 ≤ r → r < e.1 7 2 → AR (eH e r) (hN e r) (eH e' r) (hN e' r) ∧ (∀ u : Int, u ≠ 4 → u ≠ 6 → e'.1 (7000 + r) u = e.1 (7000 + r) u) ∧ (Dead e r → Dead e' r)) ∧
  (∀ r : Int, e.1 7 2 ≤ r → r < e'.1 7 2 → (e'.1 (7000 + r) 12 = -1 ∧ e'.1 (7000 + r) 9 = 0 ∧ e'.1 (7000 + r) 10 = -1 ∧ eL e' (75000 + r) = []) ∧ 0 ≤ hN e' r ∧ ∀ j : Int, 0 ≤ j → j < hN e' r → ek (eH e' r j) ≤ 7) ∧
  (∀ a u : Int, (9 ≤ a ∧ a ≤ 67) ∨ (9000 ≤ a ∧ a < 11000) → e'.1 a u = e.1 a u) ∧ (∀ u : Int, u ≠ 11 → u ≠ 16 → e'.1 4 u = e.1 4 u) ∧ (∀ c : Int, 48000 ≤ c → (c < 62000 ∨ (75000 ≤ c ∧ c < 75000 + e.1 7 2)) → eL e' c = eL e c) ∧ e'.2.2.2 = e.2.2.2 ∧ GR e e'
/-- a run's fields -/
def RunF (e : ES) (i : Int) : Prop := (0 ≤ e.1 (7000 + i) 1 ∧ e.1 (7000 + i) 1 < 4) ∧ (0 ≤ e.1 (7000 + i) 2 ∧ e.1 (7000 + i) 2 < 3) ∧ (0 ≤ e.1 (7000 + i) 3 ∧ e.1 (7000 + i) 3 < e.1 (48 + 4 * e.1 (7000 + i) 1 + 1) 2) ∧ (-1 ≤ e.1 (7000 + i) 4 ∧ e.1 (7000 + i) 4 < e.1 7 2 ∧ e.1 (7000 + i) 4 ≠ i) ∧ (0 ≤ e.1 (7000 + i) 5 ∧ e.1 (7000 + i) 5 < 524288) ∧ (0 ≤ e.1 (7000 + i) 6 ∧ e.1 (7000 + i) 6 ≤ 6) ∧ (0 ≤ e.1 (7000 + i) 8 ∧ e.1 (7000 + i) 8 ≤ hN e i) ∧ (-1 ≤ e.1 (7000 + i) 10 ∧ e.1 (7000 + i) 10 < e.1 9 2)
def TmF (Z : Int → Prop) (e : ES) (r : Int) : Prop := ((eL e (73000 + r)).length = (eL e (74000 + r)).length ∧ (∀ v ∈ eL e (73000 + r), 0 ≤ v ∧ v < 524288) ∧ ∀ v ∈ eL e (74000 + r), 0 ≤ v ∧ v < 2000000000) ∧ (eL e (73000 + r)).Pairwise (· < ·) ∧ (eL e (73000 + r) ≠ [] → ¬ Dead e r ∨ Z r)
/-- an activity's fields, how often it was tried -/
def WAs (e : ES) (p : Int) : Prop := WAct e p ∧ e.1 (8000 + p) 6 ≤ 4 ∧ (e.1 (8000 + p) 5 = 0 → e.1 (8000 + p) 6 ≤ 3)
def AcF (Z : Int → Prop) (e : ES) (p : Int) : Prop := WAs e p ∧ (0 ≤ e.1 (8000 + p) 0 ∧ e.1 (8000 + p) 0 < e.1 7 2) ∧ (e.1 (8000 + p) 5 ≠ 2 → ¬ Dead e (e.1 (8000 + p) 0) ∨ Z (e.1 (8000 + p) 0))
def TgF (e : ES) : Prop := (0 ≤ e.1 4 12 ∧ e.1 4 12 ≤ e.1 4 11) ∧ ((eL e 14).length : Int) = (if e.1 4 11 < 51200 then e.1 4 11 else 51200) ∧ ∀ v ∈ eL e 14, 0 ≤ v ∧ v < 1000 * e.1 7 2
/-- runs, timers, activities, lost signals, tags; Z: whose work is still to be ended -/
def FBi (Z : Int → Prop) (e : ES) : Prop := (∀ r : Int, 0 ≤ r → r < e.1 7 2 → RunF e r) ∧ (∀ r : Int, 0 ≤ r → r < e.1 7 2 → TmF Z e r) ∧ (∀ p : Int, 0 ≤ p → p < e.1 8 2 → AcF Z e p) ∧ (∀ r : Int, 0 ≤ r → r < e.1 7 2 → ∀ v ∈ eL e (75000 + r), 0 ≤ v ∧ v < 4000) ∧ TgF e
def nZ : Int → Prop := fun _ => False
/-- a step: what it leaves alone; what it keeps -/
def GX (Z Z' : Int → Prop) (e e' : ES) : Prop := EX e e' ∧ (FBi Z e → FBi Z' e') ∧ (OI e → OI e')
theorem EX.rf : EX e e := ⟨⟨Int.le_refl _, Int.le_refl _⟩, fun _ _ _ => ⟨AR.rf, fun _ _ _ => rfl, id⟩, fun r r0 r1 => by omega, fun _ _ _ => rfl, fun _ _ _ => rfl, fun _ _ _ => rfl, rfl, GR.rf⟩
theorem EX.tr (h : EX e e1) (g : EX e1 e2) (hn : ∀ r : Int, 0 ≤ r → r < e.1 7 2 → 0 ≤ hN e r) (n0 : 0 ≤ e.1 7 2) : EX e e2 := by
  obtain ⟨⟨h1, h1b⟩, h2, h3, h4, h5, h6, h7, h8⟩ := h
  obtain ⟨⟨g1, g1b⟩, g2, g3, g4, g5, g6, g7, g8⟩ := g
  refine ⟨⟨by omega, by omega⟩, fun r r0 r1 => ?_, fun r r0 r1 => ?_, fun a u ha => (g4 a u ha).trans (h4 a u ha), fun u u1 u2 => (g5 u u1 u2).trans (h5 u u1 u2), fun c c0 c1 => (g6 c c0 (by omega)).trans (h6 c c0 c1), g7.trans h7, h8.tr g8⟩
  · obtain ⟨a1, a2, a3⟩ := h2 r r0 r1
    obtain ⟨b1, b2, b3⟩ := g2 r r0 (by omega)
    exact ⟨a1.tr b1 (hn r r0 r1), fun u u4 u6 => (b2 u u4 u6).trans (a2 u u4 u6), fun d => b3 (a3 d)⟩
  · by_cases c : r < e1.1 7 2
    · obtain ⟨b1, b2, b3⟩ := g2 r (by omega) c
      rw [b2 12 (by decide) (by decide), b2 9 (by decide) (by decide), b2 10 (by decide) (by decide), g6 (75000 + r) (by omega) (by omega)]
      obtain ⟨a1, a2, a3⟩ := h3 r r0 c
      refine ⟨a1, Int.le_trans a2 b1.1, fun j j0 j1 => ?_⟩
      by_cases cj : j < hN e1 r
      · rw [b1.2.1 j j0 cj]
        exact a3 j j0 cj
      · exact b1.2.2 j (by omega) j1
    · exact g3 r (by omega) r1
def HNN (e : ES) : Prop := ∀ r : Int, 0 ≤ r → r < e.1 7 2 → 0 ≤ hN e r
theorem EX.hk (h : EX e e') (hK : HNN e) : HNN e' := fun r r0 r1 => by
  by_cases c : r < e.1 7 2
  · exact Int.le_trans (hK r r0 c) (h.2.1 r r0 c).1.1
  · exact (h.2.2.1 r (by omega) r1).2.1
theorem GX.rf : GX Z Z e e := ⟨EX.rf, id, id⟩
theorem GX.tr (h : GX Z Z' e e1) (g : GX Z' Z2 e1 e2) (hn : ∀ r : Int, 0 ≤ r → r < e.1 7 2 → 0 ≤ hN e r) (n0 : 0 ≤ e.1 7 2) : GX Z Z2 e e2 := ⟨h.1.tr g.1 hn n0, fun z => g.2.1 (h.2.1 z), fun z => g.2.2 (h.2.2 z)⟩
/-- fields of runs (but their standing and parent), of tasks, schedules, types, workers and the machine stay, histories too -/
theorem EX.of (n7 : e'.1 7 2 = e.1 7 2) (n8 : e.1 8 2 ≤ e'.1 8 2) (hh : ∀ r : Int, 0 ≤ r → r < e.1 7 2 → hN e' r = hN e r ∧ eH e' r = eH e r) (hu : ∀ r u : Int, 0 ≤ r → r < e.1 7 2 → u ≠ 4 → u ≠ 6 → e'.1 (7000 + r) u = e.1 (7000 + r) u) (hd : ∀ r : Int, 0 ≤ r → r < e.1 7 2 → Dead e r → Dead e' r) (ha : ∀ a u : Int, (9 ≤ a ∧ a ≤ 67) ∨ (9000 ≤ a ∧ a < 11000) → e'.1 a u = e.1 a u) (h4 : ∀ u : Int, u ≠ 11 → u ≠ 16 → e'.1 4 u = e.1 4 u) (hl : ∀ c : Int, 48000 ≤ c → (c < 62000 ∨ (75000 ≤ c ∧ c < 75000 + e.1 7 2)) → eL e' c = eL e c) (hm : e'.2.2.2 = e.2.2.2) (h68 : ∀ u : Int, e'.1 68 u = e.1 68 u) (h30 : e'.1 3 0 = e.1 3 0) (h16 : e'.1 4 16 = e.1 4 16) : EX e e' :=
  ⟨⟨by omega, n8⟩, fun r r0 r1 => ⟨by rw [(hh r r0 r1).1, (hh r r0 r1).2]; exact AR.rf, fun u u4 u6 => hu r u r0 r1 u4 u6, hd r r0 r1⟩, fun r r0 r1 => by omega, ha, h4, hl, hm, GR.of (fun i i0 i1 => by
    unfold hN0
    rw [n7]
    split
    · exact (hh i i0 (by assumption)).1
    · rfl) h68 h30 h16⟩
theorem RunF.of (h : RunF e i) (n7 : e.1 7 2 ≤ e'.1 7 2) (n9 : e'.1 9 2 = e.1 9 2) (i0 : 0 ≤ i) (hu : ∀ u : Int, u ≠ 4 → u ≠ 6 → e'.1 (7000 + i) u = e.1 (7000 + i) u) (h4 : e'.1 (7000 + i) 4 = e.1 (7000 + i) 4 ∨ e'.1 (7000 + i) 4 = -1) (h6 : e'.1 (7000 + i) 6 = e.1 (7000 + i) 6 ∨ (0 ≤ e'.1 (7000 + i) 6 ∧ e'.1 (7000 + i) 6 ≤ 6)) (hn : hN e i ≤ hN e' i) (hv : ∀ t : Int, 49 ≤ t → t ≤ 61 → e'.1 t 2 = e.1 t 2) : RunF e' i := by
  obtain ⟨q1, q2, q3, q4, q5, q6, q7, q8⟩ := h
  have hb := hv (48 + 4 * e.1 (7000 + i) 1 + 1) (by omega) (by omega)
  unfold RunF
  rw [hu 1 (by decide) (by decide), hu 2 (by decide) (by decide), hu 3 (by decide) (by decide), hu 5 (by decide) (by decide), hu 8 (by decide) (by decide), hu 10 (by decide) (by decide), hb, n9]
  exact ⟨q1, q2, q3, by omega, q5, by omega, by omega, q8⟩
/-- an arrival -/
theorem gx_arr (hc : CN e) (r0 : 0 ≤ r) (r1 : r < e.1 7 2) (hn : 0 ≤ hN e r) (k0 : 0 ≤ k) (k7 : k ≤ 7) : GX Z Z e (pArr r k x y e) := by
  have n7 := hc.1
  have n8 := hc.2.1
  have pa : ∀ a u : Int, a ≠ 68 → a ≠ 3 → a ≠ 76000 + r → a ≠ 71000 + r → (a ≠ 4 ∨ u ≠ 16) → (pArr r k x y e).1 a u = e.1 a u := fun a u h1 h2 h3 h4 h5 => arr_a h1 h2 h3 h4 h5
  have e7 : (pArr r k x y e).1 7 2 = e.1 7 2 := pa _ _ (by decide) (by decide) (by omega) (by omega) (by omega)
  have e8 : (pArr r k x y e).1 8 2 = e.1 8 2 := pa _ _ (by decide) (by decide) (by omega) (by omega) (by omega)
  have e9 : (pArr r k x y e).1 9 2 = e.1 9 2 := pa _ _ (by decide) (by decide) (by omega) (by omega) (by omega)
  have hl : ∀ c, eL (pArr r k x y e) c = eL e c := fun c => arr_l
  obtain ⟨g1, g2⟩ := arr_eH (k := k) (x := x) (y := y) (e := e) r0 (by omega)
  have hNj : ∀ j : Int, j ≠ r → 0 ≤ j → j < e.1 7 2 → hN (pArr r k x y e) j = hN e j := fun j hj j0 j1 => pa _ _ (by omega) (by omega) (by omega) (by omega) (by omega)
  have hD : ∀ j : Int, 0 ≤ j → j < e.1 7 2 → (Dead (pArr r k x y e) j ↔ Dead e j) := fun j j0 j1 => Dead.eq (pa _ _ (by omega) (by omega) (by omega) (by omega) (by omega))
  refine ⟨⟨⟨by omega, by omega⟩, fun j j0 j1 => ⟨?_, fun u _ _ => pa _ _ (by omega) (by omega) (by omega) (by omega) (by omega), (hD j j0 j1).mpr⟩, fun j j0 j1 => by omega, fun a u ha => pa _ _ (by omega) (by omega) (by omega) (by omega) (by omega), fun u u1 u2 => pa _ _ (by omega) (by omega) (by omega) (by omega) (by omega), fun c _ _ => hl c, ?_⟩, fun ⟨f1, f2, f3, f4, f5⟩ => ⟨fun j j0 j1 => ?_, fun j j0 j1 => ?_, fun p p0 p1 => ?_, fun j j0 j1 => ?_, ?_⟩, fun h => h.arr hc r0 r1 hn k0 k7⟩
  · by_cases c : j = r
    · subst c
      rw [g1, g2]
      refine ⟨by omega, fun u u0 u1 => if_neg (by omega), fun u u0 u1 => ?_⟩
      rw [show u = hN e j by omega, show Ev1 (eH e j) (hN e j) (evP k x y (e.1 4 14) (e.1 4 16)) (hN e j) = evP k x y (e.1 4 14) (e.1 4 16) from if_pos rfl, evP_k k0]
      exact k7
    · rw [hNj j c j0 j1, arr_h c]
      exact AR.rf
  · exact ⟨by unfold pArr; exact put_T, GR.arr hc r0 r1⟩
  · rw [e7] at j1
    refine (f1 j j0 j1).of (by omega) e9 j0 (fun u _ _ => pa _ _ (by omega) (by omega) (by omega) (by omega) (by omega)) (Or.inl (pa _ _ (by omega) (by omega) (by omega) (by omega) (by omega))) (Or.inl (pa _ _ (by omega) (by omega) (by omega) (by omega) (by omega))) ?_ fun t t0 t1 => pa _ _ (by omega) (by omega) (by omega) (by omega) (by omega)
    by_cases c : j = r
    · rw [c, g1]; omega
    · rw [hNj j c j0 j1]; omega
  · rw [e7] at j1
    unfold TmF
    rw [hl, hl, hD j j0 j1]
    exact f2 j j0 j1
  · rw [e8] at p1
    obtain ⟨q1, q2, q3⟩ := f3 p p0 p1
    unfold AcF WAs WAct
    simp only [fun u => pa (8000 + p) u (by omega) (by omega) (by omega) (by omega) (by omega)]
    rw [e7, hD _ q2.1 q2.2]
    exact ⟨q1, q2, q3⟩
  · rw [e7] at j1
    rw [hl]
    exact f4 j j0 j1
  · unfold TgF
    rw [hl, e7, pa _ _ (by decide) (by decide) (by omega) (by omega) (by omega), pa _ _ (by decide) (by decide) (by omega) (by omega) (by omega)]
    exact f5
/-- a run's standing -/
theorem gx_st (hc : CN e) (r0 : 0 ≤ r) (r1 : r < e.1 7 2) (s0 : 0 ≤ st) (s6 : st ≤ 6) (hd : Dead e r → Dead (eS e (7000 + r) 6 st) r) : GX Z (fun q => Z q ∨ q = r) e (eS e (7000 + r) 6 st) := by
  have n7 := hc.1
  have n8 := hc.2.1
  have pa : ∀ a u : Int, a ≠ 7000 + r ∨ u ≠ 6 → (eS e (7000 + r) 6 st).1 a u = e.1 a u := fun a u h => by rw [es_pt, if_neg (by omega)]
  have e7 : (eS e (7000 + r) 6 st).1 7 2 = e.1 7 2 := pa _ _ (by omega)
  have hD : ∀ j : Int, j ≠ r → (Dead (eS e (7000 + r) 6 st) j ↔ Dead e j) := fun j hj => Dead.eq (pa _ _ (by omega))
  have hd' : ∀ j : Int, Dead e j → Dead (eS e (7000 + r) 6 st) j := fun j d => by
    by_cases c : j = r
    · rw [c] at d ⊢; exact hd d
    · exact (hD j c).mpr d
  refine ⟨EX.of e7 (by rw [pa _ _ (by omega)]; omega) (fun j j0 j1 => ⟨pa _ _ (by omega), rfl⟩) (fun j u j0 j1 _ h6 => pa _ _ (by omega)) (fun j _ _ => hd' j) (fun a u ha => pa _ _ (by omega)) (fun u _ _ => pa _ _ (by omega)) (fun _ _ _ => rfl) rfl (fun u => pa _ _ (by omega)) (pa _ _ (by omega)) (pa _ _ (by omega)), fun ⟨f1, f2, f3, f4, f5⟩ => ⟨fun j j0 j1 => ?_, fun j j0 j1 => ?_, fun p p0 p1 => ?_, fun j j0 j1 => ?_, ?_⟩, fun h => h.fr e7 (pa _ _ (by omega)) (pa _ _ (by omega)) (pa _ _ (by omega)) (fun j _ _ => hd' j) fun j j0 j1 => ⟨by unfold hN; rw [pa _ _ (by omega)]; omega, fun p p0 p1 => ⟨rfl, pa _ _ (by omega)⟩⟩⟩
  · rw [e7] at j1
    refine (f1 j j0 j1).of (by omega) (pa _ _ (by omega)) j0 (fun u _ h6 => pa _ _ (by omega)) (Or.inl (pa _ _ (by omega))) ?_ (by unfold hN; rw [pa _ _ (by omega)]; omega) fun t t0 t1 => pa _ _ (by omega)
    by_cases c : j = r
    · rw [c, eS_e]
      exact Or.inr ⟨s0, s6⟩
    · exact Or.inl (pa _ _ (by omega))
  · rw [e7] at j1
    obtain ⟨q1, q2, q3⟩ := f2 j j0 j1
    refine ⟨q1, q2, fun g => ?_⟩
    by_cases c : j = r
    · exact Or.inr (Or.inr c)
    · rw [hD j c]
      exact (q3 g).imp_right Or.inl
  · rw [pa _ _ (by omega)] at p1
    obtain ⟨q1, q2, q3⟩ := f3 p p0 p1
    unfold AcF WAs WAct
    simp only [fun u => pa (8000 + p) u (by omega)]
    rw [e7]
    refine ⟨q1, q2, fun g => ?_⟩
    by_cases c : e.1 (8000 + p) 0 = r
    · exact Or.inr (Or.inr c)
    · rw [hD _ c]
      exact (q3 g).imp_right Or.inl
  · rw [e7] at j1
    exact f4 j j0 j1
  · unfold TgF
    rw [e7, pa _ _ (by omega), pa _ _ (by omega)]
    exact f5
/-- a run's work ends -/
theorem gx_end (hc : CN e) (r0 : 0 ≤ r) (r1 : r < 1000) (hZ : ∀ q : Int, Z q → Z' q ∨ q = r) : GX Z Z' e (pEnd r e) := by
  obtain ⟨p1, p2, p3, p4⟩ := end_pt (r := r) hc
  have n8 := hc.2.1
  have n7 := hc.1
  have pa : ∀ a u : Int, a < 8000 ∨ 8000 + e.1 8 2 ≤ a ∨ u ≠ 5 → (pEnd r e).1 a u = e.1 a u := fun a u ha => end_a ha
  have e7 : (pEnd r e).1 7 2 = e.1 7 2 := pa _ _ (by omega)
  have e8 : (pEnd r e).1 8 2 = e.1 8 2 := pa _ _ (by omega)
  have hD : ∀ j : Int, 0 ≤ j → j < e.1 7 2 → (Dead (pEnd r e) j ↔ Dead e j) := fun j j0 j1 => Dead.eq (pa _ _ (by omega))
  refine ⟨EX.of e7 (by omega) (fun j j0 j1 => ⟨pa _ _ (by omega), congrFun p2 j⟩) (fun j u j0 j1 _ h6 => pa _ _ (by omega)) (fun j j0 j1 => (hD j j0 j1).mpr) (fun a u ha => pa _ _ (by omega)) (fun u _ _ => pa _ _ (by omega)) (fun c c0 c1 => by rw [p4, if_neg (by omega)]) p3 (fun u => pa _ _ (by omega)) (pa _ _ (by omega)) (pa _ _ (by omega)), fun ⟨f1, f2, f3, f4, f5⟩ => ⟨fun j j0 j1 => ?_, fun j j0 j1 => ?_, fun p p0 p1' => ?_, fun j j0 j1 => ?_, ?_⟩, fun h => h.fr e7 (pa _ _ (by omega)) (pa _ _ (by omega)) (pa _ _ (by omega)) (fun j j0 j1 => (hD j j0 j1).mpr) fun j j0 j1 => ⟨by unfold hN; rw [pa _ _ (by omega)]; omega, fun p p0 p1 => ⟨congrFun (congrFun p2 j) p, pa _ _ (by omega)⟩⟩⟩
  · rw [e7] at j1
    exact (f1 j j0 j1).of (by omega) (pa _ _ (by omega)) j0 (fun u _ _ => pa _ _ (by omega)) (Or.inl (pa _ _ (by omega))) (Or.inl (pa _ _ (by omega))) (by unfold hN; rw [pa _ _ (by omega)]; omega) fun t t0 t1 => pa _ _ (by omega)
  · rw [e7] at j1
    unfold TmF
    rw [p4, p4]
    by_cases c : j = r
    · rw [if_pos (by omega), if_pos (by omega)]
      exact ⟨⟨rfl, fun v hv => absurd hv List.not_mem_nil, fun v hv => absurd hv List.not_mem_nil⟩, List.Pairwise.nil, fun g => absurd rfl g⟩
    · rw [if_neg (by omega), if_neg (by omega), hD j j0 j1]
      obtain ⟨q1, q2, q3⟩ := f2 j j0 j1
      exact ⟨q1, q2, fun g => (q3 g).imp_right fun z => (hZ j z).resolve_right c⟩
  · rw [e8] at p1'
    obtain ⟨q1, q2, q3⟩ := f3 p p0 p1'
    have e5 : (pEnd r e).1 (8000 + p) 5 = if e.1 (8000 + p) 0 = r then 2 else e.1 (8000 + p) 5 := by
      rw [p1]
      by_cases c : e.1 (8000 + p) 0 = r
      · rw [if_pos ⟨by omega, rfl, c⟩, if_pos c]
      · rw [if_neg (fun hh => c hh.2.2), if_neg c]
    have eo : ∀ u : Int, u ≠ 5 → (pEnd r e).1 (8000 + p) u = e.1 (8000 + p) u := fun u hu => pa _ _ (by omega)
    unfold AcF WAs WAct
    unfold WAs WAct at q1
    rw [eo 0 (by decide), eo 1 (by decide), eo 2 (by decide), eo 3 (by decide), eo 4 (by decide), eo 6 (by decide), eo 7 (by decide), eo 8 (by decide), eo 9 (by decide), eo 10 (by decide), e5, e7, hD _ q2.1 q2.2]
    obtain ⟨⟨w1, w2, w3, w4, w5, w6⟩, w7, w8⟩ := q1
    refine ⟨⟨⟨w1, w2, w3, w4, by split <;> omega, w6⟩, w7, fun g => w8 (by split at g <;> omega)⟩, q2, fun g => ?_⟩
    by_cases c : e.1 (8000 + p) 0 = r
    · rw [if_pos c] at g
      exact absurd rfl g
    · rw [if_neg c] at g
      exact (q3 g).imp_right fun z => (hZ _ z).resolve_right c
  · rw [e7] at j1
    rw [p4, if_neg (by omega)]
    exact f4 j j0 j1
  · unfold TgF
    rw [p4, if_neg (by omega), e7, pa _ _ (by omega), pa _ _ (by omega)]
    exact f5
/-- a parent is parted from -/
theorem gx_par1 (hc : CN e) (i0 : 0 ≤ i) (i1 : i < e.1 7 2) : GX Z Z e (eS e (7000 + i) 4 (-1)) := by
  have n7 := hc.1
  have n8 := hc.2.1
  have pa : ∀ a u : Int, a ≠ 7000 + i ∨ u ≠ 4 → (eS e (7000 + i) 4 (-1)).1 a u = e.1 a u := fun a u h => by rw [es_pt, if_neg (by omega)]
  have e7 : (eS e (7000 + i) 4 (-1)).1 7 2 = e.1 7 2 := pa _ _ (by omega)
  have hD : ∀ j : Int, (Dead (eS e (7000 + i) 4 (-1)) j ↔ Dead e j) := fun j => Dead.eq (pa _ _ (by omega))
  refine ⟨EX.of e7 (by rw [pa _ _ (by omega)]; omega) (fun j j0 j1 => ⟨pa _ _ (by omega), rfl⟩) (fun j u j0 j1 h4 _ => pa _ _ (by omega)) (fun j _ _ => (hD j).mpr) (fun a u ha => pa _ _ (by omega)) (fun u _ _ => pa _ _ (by omega)) (fun _ _ _ => rfl) rfl (fun u => pa _ _ (by omega)) (pa _ _ (by omega)) (pa _ _ (by omega)), fun ⟨f1, f2, f3, f4, f5⟩ => ⟨fun j j0 j1 => ?_, fun j j0 j1 => ?_, fun p p0 p1 => ?_, fun j j0 j1 => ?_, ?_⟩, fun h => h.fr e7 (pa _ _ (by omega)) (pa _ _ (by omega)) (pa _ _ (by omega)) (fun j _ _ => (hD j).mpr) fun j j0 j1 => ⟨by unfold hN; rw [pa _ _ (by omega)]; omega, fun p p0 p1 => ⟨rfl, pa _ _ (by omega)⟩⟩⟩
  · rw [e7] at j1
    refine (f1 j j0 j1).of (by omega) (pa _ _ (by omega)) j0 (fun u h4 _ => pa _ _ (by omega)) ?_ (Or.inl (pa _ _ (by omega))) (by unfold hN; rw [pa _ _ (by omega)]; omega) fun t t0 t1 => pa _ _ (by omega)
    by_cases c : j = i
    · rw [c, eS_e]
      exact Or.inr rfl
    · exact Or.inl (pa _ _ (by omega))
  · rw [e7] at j1
    unfold TmF
    rw [hD]
    exact f2 j j0 j1
  · rw [pa _ _ (by omega)] at p1
    obtain ⟨q1, q2, q3⟩ := f3 p p0 p1
    unfold AcF WAs WAct
    simp only [fun u => pa (8000 + p) u (by omega)]
    rw [e7, hD]
    exact ⟨q1, q2, q3⟩
  · rw [e7] at j1
    exact f4 j j0 j1
  · unfold TgF
    rw [e7, pa _ _ (by omega), pa _ _ (by omega)]
    exact f5
end GXA
