/-! A COMPLETE: what worker and machine keep of it. -/
section KPS
variable {e e' e1 e2 : ES} {S D T a b c d i j k q r v w N M p x0 y t o lim c0 n0 : Int} {n : Nat} {s : TS} {x x' : CX} {E E' : Int → Ev} {F L : List (Int × Int × Int)} {Q QB : TS → Prop}
theorem cnt_n17 : ∀ (d n : Nat), (∀ j : Int, (n : Int) ≤ j → j < n + d → ek (E j) ≠ 17) → cC E (n + d) = cC E n ∧ cT E (n + d) = cT E n := by
  intro d
  induction d with
  | zero => intro n _; exact ⟨rfl, rfl⟩
  | succ d ih =>
    intro n h
    obtain ⟨h1, h2⟩ := ih n fun j j0 j1 => h j j0 (by omega)
    have hk := h ((n + d : Nat) : Int) (by omega) (by omega)
    refine ⟨?_, ?_⟩
    · show (if ek (E ((n + d : Nat) : Int)) = 17 then ex (E ((n + d : Nat) : Int)) else cC E (n + d)) = _
      rw [if_neg hk]
      exact h1
    · show (if ek (E ((n + d : Nat) : Int)) = 17 then cT E (n + d) + 1 else cT E (n + d)) = _
      rw [if_neg hk]
      exact h2
/-- the counts of a history to which news and a TASK were put -/
theorem cnt_task (n0 : 0 ≤ N) (h : ∀ i : Int, 0 ≤ i → i < N → E' i = E i) (h1 : ∀ j : Int, N ≤ j → j < N + n → ek (E' j) ≠ 17) (h2 : ek (E' (N + n)) = 17) : cC E' (N + n + 1).toNat = ex (E' (N + n)) ∧ cT E' (N + n + 1).toNat = cT E N.toNat + 1 := by
  obtain ⟨b1, b2⟩ := cnt_n17 (E := E') n N.toNat fun j j0 j1 => h1 j (by omega) (by omega)
  obtain ⟨-, a2, -⟩ := cc_to (E := E) (E' := E') N.toNat fun i i0 i1 => h i i0 (by omega)
  rw [show (N + (n : Int) + 1).toNat = N.toNat + n + 1 by omega]
  have hi : ((N.toNat + n : Nat) : Int) = N + n := by omega
  refine ⟨?_, ?_⟩
  · show (if ek (E' ((N.toNat + n : Nat) : Int)) = 17 then ex (E' ((N.toNat + n : Nat) : Int)) else cC E' (N.toNat + n)) = _
    rw [hi, if_pos h2]
  · show (if ek (E' ((N.toNat + n : Nat) : Int)) = 17 then cT E' (N.toNat + n) + 1 else cT E' (N.toNat + n)) = _
    rw [hi, if_pos h2, b2, a2]
theorem know_ax {s2 : TS} (h : s = ax a b (sn s2) s2) : sKnow N s = sKnow N s2 := by
  subst h
  refine Prod.ext ?_ rfl
  funext i u
  show (if i = 0 ∧ u = 13 then N else if i = 0 ∧ u = 12 then N else if i = 0 ∧ u = 12 then a else if i = 0 ∧ u = 13 then b else s2.1 i u) = if i = 0 ∧ u = 13 then N else if i = 0 ∧ u = 12 then N else s2.1 i u
  by_cases c1 : i = 0 ∧ u = 13
  · simp only [if_pos c1]
  · by_cases c2 : i = 0 ∧ u = 12
    · simp only [if_neg c1, if_pos c2]
    · simp only [if_neg c1, if_neg c2]
/-- the state behind the news and the TASK, as it differs from the one in which the complete was called -/
theorem cmp_fr (h : PHs S D T e) (hB : CmB k e Q QB) (k0 : 0 ≤ k) (k1 : k < e.1 9 2) (hr : r = e.1 (9000 + k) 1) (r0 : 0 ≤ r) (r1 : r < e.1 7 2) (hbe : sg (sBeh (pCmpX k e) (pCmpS k e)) 0 30 = 0) (hG : pPN r k (cG k e) (cE0 k e) = e') :
    (∀ a u : Int, a ≠ 68 → a ≠ 3 → a ≠ 76000 + r → a ≠ 71000 + r → a ≠ 16 → a ≠ 11 → (a ≠ 9000 + k ∨ u ≠ 5) → (a ≠ 7000 + r ∨ u < 12 ∨ 15 < u) → e'.1 a u = e.1 a u) ∧ (∀ c, eL e' c = eL e c) ∧ (∀ q : Int, 0 ≤ q → q < e.1 7 2 → q ≠ r → hN e' q = hN e q ∧ eH e' q = eH e q) ∧
    (hN e' r = hN e r + (sn (cTd k e)).length + 1 ∧ (∀ i : Int, 0 ≤ i → i < hN e r → eH e' r i = eH e r i) ∧ (∀ (i : Nat) (z : Int × Int × Int), (sn (cTd k e))[i]? = some z → ((8 ≤ z.1 ∧ z.1 ≤ 16) ∧ 0 ≤ z.2.1 ∧ 0 ≤ z.2.2) ∧ ek (eH e' r (hN e r + i)) = z.1 ∧ ex (eH e' r (hN e r + i)) = z.2.1 ∧ ey (eH e' r (hN e r + i)) = z.2.2) ∧ ek (eH e' r (hN e r + (sn (cTd k e)).length)) = 17 ∧ ex (eH e' r (hN e r + (sn (cTd k e)).length)) = e.1 (9000 + k) 3) ∧
    (e'.1 (7000 + r) 12 = e.1 (9000 + k) 0 ∧ e'.1 (7000 + r) 13 = pMark e' r ∧ e'.1 (7000 + r) 14 = cRc k e ∧ e'.1 (7000 + r) 15 = cRh k e) ∧
    (e'.1 16 7 = r ∧ eT e' = sKnow (hN e' r) (cTd k e) ∧ eB e' = pCmpB k e) ∧
    (hC e' r = e.1 (9000 + k) 3 ∧ hT e' r = hT e r + 1) := by
  obtain ⟨s1, s2, s3, s4, s5, s6⟩ := cmp_S hB hbe
  obtain ⟨f1, f2, f3, f4, f5⟩ := e0_f (k := k) (e := e) s1
  obtain ⟨⟨hCX, hx2, xn, x1, xh⟩, -, ⟨qq, pp, L0, u1, u2, u3⟩, -, -, -, -, hlt, hle, -⟩ := hB
  rw [← hr] at xn x1 xh hlt hle
  have hc := h.cn
  have n7 := hc.1
  have n9 := hc.2.2.1
  have hcE : CN (cE0 k e) := hc.of fun a ha => f1 _ _ (by omega) (by omega) (by omega)
  have hP := pn_f (r := r) (k := k) (g := cG k e) (e := cE0 k e) (L := sn (cTd k e)) hcE r0 (by rw [f1 _ _ (by omega) (by omega) (by omega)]; exact r1) k0 (by omega) (by rw [f4, s4])
  have hl := h.1.len r0 r1
  have hI := (h.1.2.1 r r0 r1).1.2
  have eTd : cTd k e = told (pCmpX k e) (e.1 (9000 + k) 3) := rfl
  have hq := fun (i : Nat) (z : Int × Int × Int) hz => told_nw (Q := QD) (lim := e.1 (9000 + k) 3) hCX hx2 nwD (by rw [← eTd]; exact s2) i z hz
  rw [hG] at hP
  obtain ⟨p1, p2, p3, ⟨p4, p5, p6, p7⟩, ⟨p8, p9, p10, p11⟩, p12, p13, p14⟩ := hP
  have eN0 : hN (cE0 k e) r = hN e r := f1 _ _ (by omega) (by omega) (by omega)
  have eC0 : hC (cE0 k e) r = hC e r := by unfold hC; rw [eN0, f2]
  rw [eN0] at p4 p5 p6 p7 p11
  rw [f2] at p5
  rw [eC0] at p10
  have hcc := hI.cc (hN e r).toNat (by omega)
  have hl0 : 0 ≤ hC e r := hcc.2.2.1
  have e14 : (cE0 k e).1 4 14 = e.1 4 14 := f1 _ _ (by omega) (by omega) (by omega)
  have e93 : (cE0 k e).1 (9000 + k) 3 = e.1 (9000 + k) 3 := f1 _ _ (by omega) (by omega) (by omega)
  rw [e14] at p6 p7
  rw [e93] at p7
  have hF : ∀ (i : Nat) (z : Int × Int × Int), (sn (cTd k e))[i]? = some z → ((8 ≤ z.1 ∧ z.1 ≤ 16) ∧ 0 ≤ z.2.1 ∧ 0 ≤ z.2.2) ∧ ek (eH e' r (hN e r + i)) = z.1 ∧ ex (eH e' r (hN e r + i)) = z.2.1 ∧ ey (eH e' r (hN e r + i)) = z.2.2 := fun i z hz => by
    obtain ⟨q1, q2, q3, q4, -⟩ := hq i z (by rw [← eTd]; exact hz)
    rw [p6 i z hz]
    exact ⟨⟨⟨q1, q2⟩, q3, q4⟩, evP_k (by omega), evP_x q3, evP_y q4⟩
  have k17 : ek (eH e' r (hN e r + (sn (cTd k e)).length)) = 17 := by rw [p7]; exact evP_k (by decide)
  have x17 : ex (eH e' r (hN e r + (sn (cTd k e)).length)) = e.1 (9000 + k) 3 := by rw [p7]; exact evP_x (by omega)
  obtain ⟨ct1, ct2⟩ := cnt_task (E := eH e r) (E' := eH e' r) (N := hN e r) (n := (sn (cTd k e)).length) hl.1 p5 (fun j j0 j1 => by
    have hl2 : (j - hN e r).toNat < (sn (cTd k e)).length := by omega
    have hz := hF _ _ (List.getElem?_eq_getElem hl2)
    rw [show hN e r + (((j - hN e r).toNat : Nat) : Int) = j by omega] at hz
    omega) k17
  refine ⟨fun a u h1 h2 h3 h4 h5 h6 h7 h8 => (p1 a u h1 h2 h3 h4 h5 h8).trans (f1 a u h5 h6 h7), fun c => (p2 c).trans (f3 c), fun q q0 q1 hq => ?_, ⟨p4, p5, hF, k17, x17⟩, ⟨p8.trans (f1 _ _ (by omega) (by omega) (by omega)), p9, ?_, ?_⟩, ⟨p12, ?_, p14.trans f5⟩, ?_, ?_⟩
  · obtain ⟨g1, g2⟩ := p3 q hq q0 (by omega)
    rw [g1, g2, f2]
    exact ⟨f1 _ _ (by omega) (by omega) (by omega), rfl⟩
  · rw [p10, f1 _ _ (by omega) (by omega) (by omega)]
    unfold cRc
    rw [← hr]
  · rw [p11, f1 _ _ (by omega) (by omega) (by omega)]
    unfold cRh
    rw [← hr]
  · rw [p13, f4]
    exact know_ax (u1.trans (by rw [u3]))
  · show cC (eH e' r) (hN e' r).toNat = _
    rw [p4, ct1, x17]
  · show cT (eH e' r) (hN e' r).toNat = _
    rw [p4, ct2]
    rfl
end KPS
