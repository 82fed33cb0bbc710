/-! WHAT IS KEPT, through what puts arrivals only. -/
section KPR
variable {e e' e1 e2 : ES} {S D T a b c d i j k q r v w N M N' p x0 y t o lim c0 n0 : Int} {n : Nat} {s : TS} {x x' : CX} {E E' : Int → Ev} {F : List (Int × Int × Int)}
theorem cnt_ar : ∀ (d n : Nat), (∀ j : Int, (n : Int) ≤ j → j < n + d → ek (E j) ≤ 7) → cC E (n + d) = cC E n ∧ cT E (n + d) = cT E n ∧ cA E n ≤ cA E (n + d) := by
  intro d
  induction d with
  | zero => intro n _; exact ⟨rfl, rfl, Int.le_refl _⟩
  | succ d ih =>
    intro n h
    obtain ⟨h1, h2, h3⟩ := ih n fun j j0 j1 => h j j0 (by omega)
    have hk := h ((n + d : Nat) : Int) (by omega) (by omega)
    refine ⟨?_, ?_, ?_⟩
    · show (if ek (E ((n + d : Nat) : Int)) = 17 then ex (E ((n + d : Nat) : Int)) else cC E (n + d)) = _
      rw [if_neg (by omega)]
      exact h1
    · show (if ek (E ((n + d : Nat) : Int)) = 17 then cT E (n + d) + 1 else cT E (n + d)) = _
      rw [if_neg (by omega)]
      exact h2
    · show _ ≤ (if ek (E ((n + d : Nat) : Int)) ≤ 7 then cA E (n + d) + 1 else cA E (n + d))
      rw [if_pos hk]
      omega
theorem AR.cnt (h : AR E N E' N') (n0 : 0 ≤ N) : cC E' N'.toNat = cC E N.toNat ∧ cT E' N'.toNat = cT E N.toNat ∧ cA E N.toNat ≤ cA E' N'.toNat := by
  obtain ⟨h1, h2, h3⟩ := h
  obtain ⟨a1, a2, a3⟩ := cc_to (E := E) (E' := E') N.toNat fun i i0 i1 => h2 i i0 (by omega)
  obtain ⟨b1, b2, b3⟩ := cnt_ar (E := E') (N'.toNat - N.toNat) N.toNat fun j j0 j1 => h3 j (by omega) (by omega)
  rw [show N.toNat + (N'.toNat - N.toNat) = N'.toNat by omega] at b1 b2 b3
  exact ⟨b1.trans a3, b2.trans a2, by omega⟩
theorem GRW.ar {z : CX} (h : GRW z x F lim c0 n0) (ha : AR x.2.1 (x.1 0) x'.2.1 (x'.1 0)) (h5 : ∀ u : Int, u ≠ 0 → x'.1 u = x.1 u) (h6 : x'.2.2 = x.2.2) : GRW z x' F lim c0 n0 := by
  obtain ⟨⟨g1, g1b⟩, g2, g3, g4, g5, g6, g7, g8, g9, g10, g11, g12⟩ := h
  obtain ⟨a1, a2, a3⟩ := ha
  refine ⟨⟨(h5 5 (by decide)).trans g1, h6.trans g1b⟩, fun i i0 i1 => (a2 i i0 (by omega)).trans (g2 i i0 i1), fun i kk aa bb hi => ?_, ?_, fun i i0 i1 => ?_, (h5 1 (by decide)).trans g6, ⟨g7.1, by rw [h5 4 (by decide)]; exact g7.2⟩, by omega, by rw [h5 2 (by decide), h5 3 (by decide)]; exact g9, g10, g11, g12⟩
  · have hl : (i : Int) < F.length := by
      have := (List.getElem?_eq_some_iff.mp hi).1
      omega
    rw [a2 _ (by omega) (by omega)]
    exact g3 i kk aa bb hi
  · rw [a2 _ (by omega) (by omega)]
    exact g4
  · by_cases c : i < x.1 0
    · rw [a2 i (by omega) c]
      exact g5 i i0 c
    · exact a3 i (by omega) i1
theorem pcx_ar (h1 : AR (eH e r) (hN e r) (eH e' r) (hN e' r)) (n0 : 0 ≤ hN e r) (h3 : e'.1 (7000 + r) 1 = e.1 (7000 + r) 1) (h4 : eL e' (1000 * (48 + 4 * e.1 (7000 + r) 1) + v) = eL e (1000 * (48 + 4 * e.1 (7000 + r) 1) + v)) : (∀ u : Int, u ≠ 0 → (pCX e' r v w b c).1 u = (pCX e r v w b c).1 u) ∧ (pCX e' r v w b c).2.2 = (pCX e r v w b c).2.2 := by
  have hc : hC e' r = hC e r := (h1.cnt n0).1
  refine ⟨fun u u0 => ?_, ?_⟩
  · unfold pCX
    simp only [if_neg u0, hc, h3, h4]
  · unfold pCX
    simp only [h3, h4]
theorem KV.ar (h : KV e r v) (ha : AR (eH e r) (hN e r) (eH e' r) (hN e' r)) (n0 : 0 ≤ hN e r) (h1 : e'.1 (7000 + r) 1 = e.1 (7000 + r) 1) (h14 : e'.1 (7000 + r) 14 = e.1 (7000 + r) 14) (h15 : e'.1 (7000 + r) 15 = e.1 (7000 + r) 15) (h4 : eL e' (1000 * (48 + 4 * e.1 (7000 + r) 1) + v) = eL e (1000 * (48 + 4 * e.1 (7000 + r) 1) + v)) (hm : e'.1 16 7 = r → e.1 16 7 = r ∧ eT e' = eT e ∧ eB e' = eB e) : KV e' r v := by
  obtain ⟨z, F, lim, Q, QB, G1, G2, G3, G4, G5, G6, G7⟩ := h
  obtain ⟨p1, p2⟩ := pcx_ar (w := 2) (b := e.1 (7000 + r) 14) (c := e.1 (7000 + r) 15) ha n0 h1 h4
  have hT' : hT e' r = hT e r := (ha.cnt n0).2.1
  unfold KV
  rw [h14, h15]
  refine ⟨z, F, lim, Q, QB, G1.ar ha p1 p2, G2, G3, G4, G5, G6, fun g => ?_⟩
  obtain ⟨m1, m2, m3⟩ := hm g
  rw [m2, m3, hT']
  exact G7 m1
/-- what is kept of one run -/
def KpR (e : ES) (r : Int) : Prop := 0 ≤ e.1 (7000 + r) 12 → e.1 (7000 + r) 13 / 4 ≤ bs e r ∧ (e.1 (7000 + r) 13 / 4 = bs e r → KV e r (e.1 (7000 + r) 13 % 4))
theorem KpR.ar (h : KpR e r) (ha : AR (eH e r) (hN e r) (eH e' r) (hN e' r)) (n0 : 0 ≤ hN e r) (hu : ∀ u : Int, u = 1 ∨ u = 9 ∨ (12 ≤ u ∧ u ≤ 15) → e'.1 (7000 + r) u = e.1 (7000 + r) u) (hl : ∀ v : Int, v = e.1 (7000 + r) 13 % 4 → eL e' (1000 * (48 + 4 * e.1 (7000 + r) 1) + v) = eL e (1000 * (48 + 4 * e.1 (7000 + r) 1) + v)) (hm : e'.1 16 7 = r → e.1 16 7 = r ∧ eT e' = eT e ∧ eB e' = eB e) : KpR e' r := by
  have hb : bs e' r = bs e r := by
    unfold bs
    rw [hu 9 (by omega), show hT e' r = hT e r from (ha.cnt n0).2.1]
  intro h12
  rw [hu 12 (by omega)] at h12
  obtain ⟨g1, g2⟩ := h h12
  rw [hb, hu 13 (by omega)]
  exact ⟨g1, fun g => (g2 g).ar ha n0 (hu 1 (by omega)) (hu 14 (by omega)) (hu 15 (by omega)) (hl _ rfl) hm⟩
theorem KpR.ex (h : KpR e r) (hx : EX e e') (hn : HNN e) (r0 : 0 ≤ r) (r1 : r < e.1 7 2) (ht : 0 ≤ e.1 (7000 + r) 1 ∧ e.1 (7000 + r) 1 < 4) : KpR e' r := by
  obtain ⟨-, x2, -, x4, -, x6, x7⟩ := hx
  obtain ⟨a1, a2, -⟩ := x2 r r0 r1
  exact h.ar a1 (hn r r0 r1) (fun u hu => a2 u (by omega) (by omega)) (fun v hv => x6 _ (by omega) (by omega)) fun g => ⟨by rw [← x4 16 7 (by omega)]; exact g, congrArg (fun z => z.1) x7.1, congrArg (fun z => z.2) x7.1⟩
/-- what the inner steps keep of it -/
theorem KpI.ex (h : KpI e) (hx : EX e e') (hn : HNN e) (hF : ∀ r : Int, 0 ≤ r → r < e.1 7 2 → RunF e r) : KpI e' := fun r r0 r1 hd => by
  by_cases c : r < e.1 7 2
  · exact KpR.ex (h r r0 c fun g => hd ((hx.2.1 r r0 c).2.2 g)) hx hn r0 c (hF r r0 c).1
  · intro h12
    have := (hx.2.2.1 r (by omega) r1).1
    omega
/-- a task's run is one -/
def TsR (e : ES) : Prop := ∀ k : Int, 0 ≤ k → k < e.1 9 2 → 0 ≤ e.1 (9000 + k) 1 ∧ e.1 (9000 + k) 1 < e.1 7 2
/-- what a task counts, with the run it is of -/
def TkO (e : ES) (k : Int) : Prop := e.1 (9000 + k) 4 / 4 ≤ bs e (e.1 (9000 + k) 1) ∧ (e.1 (9000 + k) 4 / 4 = bs e (e.1 (9000 + k) 1) → hC e (e.1 (9000 + k) 1) < e.1 (9000 + k) 3 ∧ e.1 (9000 + k) 3 ≤ hA e (e.1 (9000 + k) 1))
theorem TkO.ar (h : TkO e k) (hk : ∀ u : Int, u = 1 ∨ u = 3 ∨ u = 4 → e'.1 (9000 + k) u = e.1 (9000 + k) u) (hr : e.1 (9000 + k) 1 = r) (ha : AR (eH e r) (hN e r) (eH e' r) (hN e' r)) (n0 : 0 ≤ hN e r) (h9 : e'.1 (7000 + r) 9 = e.1 (7000 + r) 9) : TkO e' k := by
  subst hr
  have hb : bs e' (e.1 (9000 + k) 1) = bs e (e.1 (9000 + k) 1) := by
    unfold bs
    rw [h9, show hT e' (e.1 (9000 + k) 1) = hT e (e.1 (9000 + k) 1) from (ha.cnt n0).2.1]
  have hc : hC e' (e.1 (9000 + k) 1) = hC e (e.1 (9000 + k) 1) := (ha.cnt n0).1
  have hA' : hA e (e.1 (9000 + k) 1) ≤ hA e' (e.1 (9000 + k) 1) := (ha.cnt n0).2.2
  unfold TkO
  rw [hk 1 (by omega), hk 3 (by omega), hk 4 (by omega), hb, hc]
  exact ⟨h.1, fun g => by have := h.2 g; omega⟩
theorem TkI2.ex (h : TkI2 e) (hx : EX e e') (hn : HNN e) (hR : TsR e) (hc : CN e) : TkI2 e' ∧ TsR e' := by
  obtain ⟨x1, x2, -, x4, -⟩ := hx
  have n9 := hc.2.2.1
  have e9 : e'.1 9 2 = e.1 9 2 := x4 9 2 (by omega)
  refine ⟨fun k k0 k1 hd => ?_, fun k k0 k1 => ?_⟩
  · rw [e9] at k1
    obtain ⟨r0, r1⟩ := hR k k0 k1
    have hk : ∀ u : Int, e'.1 (9000 + k) u = e.1 (9000 + k) u := fun u => x4 _ _ (by omega)
    rw [hk] at hd
    obtain ⟨a1, a2, a3⟩ := x2 _ r0 r1
    exact TkO.ar (h k k0 k1 fun g => hd (a3 g)) (fun u _ => hk u) rfl a1 (hn _ r0 r1) (a2 9 (by decide) (by decide))
  · rw [e9] at k1
    have := hR k k0 k1
    rw [x4 _ _ (by omega)]
    omega
theorem NEn2.ex (h : NEn2 e) (hx : EX e e') : NEn2 e' := fun r r0 r1 hd j j0 j1 => by
  by_cases c : r < e.1 7 2
  · obtain ⟨a1, -, a3⟩ := hx.2.1 r r0 c
    by_cases cj : j < hN e r
    · rw [a1.2.1 j j0 cj]
      exact h r r0 c (fun g => hd (a3 g)) j j0 cj
    · have := a1.2.2 j (by omega) j1
      omega
  · have := (hx.2.2.1 r (by omega) r1).2.2 j j0 j1
    omega
end KPR
