/-! THE REFERENCE'S ENGINE: a new run; begin, schedule. -/
section RXC8
variable {m m' M : MM} {e e' e2 : ES} {a b c i j k o r v w p t s x y n tn ver par pe pf inp p1 p2 p3 p4 p5 p6 q A : Int} {l : List Int} {f : Int → Int}
theorem cA_0 {E : Int → Ev} : cA E (0 : Int).toNat = 0 ∧ cT E (0 : Int).toNat = 0 ∧ cC E (0 : Int).toNat = 0 := ⟨rfl, rfl, rfl⟩
def xNR (m : MM) (R t tn ver par pf : Int) : MM := mset (mset (mset (mset (mset (mset (mset (mset m 80 R t) 81 R tn) 82 R ver) 83 R 0) 84 R par) 85 R pf) 86 R 0) 68 12 (R + 1)
theorem RXE.nrun (h : RXE m e) (hc : CN e) (hn : e.1 7 2 < 30) (hp : par ≠ -1 → pf = pe) : RXE (xNR m (e.1 7 2) t tn ver par pf) (pNewRun t tn ver par pe e) := by
  obtain ⟨R, hR⟩ : ∃ R, R = e.1 7 2 := ⟨_, rfl⟩
  have n7 := hc.1
  rw [← hR] at n7 hn
  have e7 : (pNewRun t tn ver par pe e).1 7 2 = R + 1 := by rw [hR]; exact pNewRun_n
  have f1 : ∀ a u : Int, a ≠ 7 → a ≠ 7000 + R → a ≠ 71000 + R → (pNewRun t tn ver par pe e).1 a u = e.1 a u := fun a u g1 g2 g3 => pNewRun_1 g1 (by rw [← hR]; exact g2) (by rw [← hR]; exact g3)
  have f2 : ∀ u : Int, (pNewRun t tn ver par pe e).1 (7000 + R) u = fRun R t tn ver par pe u := fun u => by rw [hR]; exact pNewRun_f (by omega)
  have f3 : ∀ c : Int, c ≠ 73000 + R → c ≠ 74000 + R → c ≠ 75000 + R → eL (pNewRun t tn ver par pe e) c = eL e c := fun c g1 g2 g3 => pNewRun_l (by rw [← hR]; exact g1) (by rw [← hR]; exact g2) (by rw [← hR]; exact g3)
  have f4 : ∀ c : Int, c = 73 ∨ c = 74 ∨ c = 75 → eL (pNewRun t tn ver par pe e) (1000 * c + R) = [] := fun c hc => by rw [hR]; exact pNewRun_r hc
  have f5 : ∀ i, eH (pNewRun t tn ver par pe e) i = eH e i := fun i => rfl
  have fN : ∀ i : Int, i ≠ R → 0 ≤ i → i < 1000 → hN (pNewRun t tn ver par pe e) i = hN e i := fun i g1 g2 g3 => f1 _ _ (by omega) (by omega) (by omega)
  have fN2 : hN (pNewRun t tn ver par pe e) R = 0 := by rw [hR]; exact pNewRun_h (by omega)
  rw [← hR]
  have x1 : ∀ a j : Int, (a < 80 ∨ 86 < a) ∨ j ≠ R → (a ≠ 68 ∨ j ≠ 12) → xNR m R t tn ver par pf a j = m a j := fun a j g1 g2 => by
    unfold xNR mset
    rw [if_neg (by omega), if_neg (by omega), if_neg (by omega), if_neg (by omega), if_neg (by omega), if_neg (by omega), if_neg (by omega), if_neg (by omega)]
  refine h.chg hc (W := fun a => 80 ≤ a ∧ a ≤ 86) (U := fun a => a = 12) (V := fun a => a = 7 ∨ a = 7000 + R ∨ a = 71000 + R ∨ a = 73000 + R ∨ a = 74000 + R ∨ a = 75000 + R) (fun a j g1 g2 g3 => x1 a j (by omega) (by omega)) (fun u g1 g2 => x1 _ _ (by omega) (by omega)) ⟨fun a u g => f1 a u (by omega) (by omega) (by omega), fun c g => f3 c (by omega) (by omega) (by omega), fun i _ => f5 i⟩ (by rw [f1 _ _ (by omega) (by omega) (by omega)]; omega) (DdM.of fun q q0 q1 => f1 _ _ (by omega) (by omega) (by omega)) (by rw [f1 _ _ (by omega) (by omega) (by omega)]; omega) (Or.inr ?_) (Or.inl ⟨fun a g => by omega, fun a g => by omega, fun a g => by omega⟩) (Or.inl ⟨fun a g => by omega, fun a g => by omega, fun a g => by omega⟩) (Or.inr ⟨fun r r0 r1 => ?_, fun r r0 r1 => ?_⟩) (Or.inl ⟨fun a g => by omega, fun a g => by omega, fun a g => by omega⟩) (Or.inr ?_) (Or.inl ⟨fun a g => by omega, fun a g => by omega, fun a g => by omega⟩) (Or.inr fun w w0 w1 => ⟨fun r r0 r1 => ?_, fun r r0 r1 => ?_⟩) (Or.inl ⟨fun a g => by omega, fun a g => by omega, fun a g => by omega⟩) (Or.inl ⟨fun a g => by omega, fun a g => by omega, fun a g => by omega⟩) (Or.inr fun r r0 r1 i i0 i1 => ?_) (Or.inr ?_) (Or.inr ?_)
  · obtain ⟨s1, s2, s3, s4, s5, s6, s7, s8, s9, s10, s11⟩ := h.ps
    unfold RXs
    rw [x1 68 0 (by omega) (by omega), x1 68 29 (by omega) (by omega), x1 68 30 (by omega) (by omega), x1 68 34 (by omega) (by omega), x1 68 50 (by omega) (by omega), x1 68 51 (by omega) (by omega), x1 68 68 (by omega) (by omega), x1 68 69 (by omega) (by omega), x1 68 79 (by omega) (by omega), x1 68 80 (by omega) (by omega), e7, f1 4 _ (by omega) (by omega) (by omega), f1 4 _ (by omega) (by omega) (by omega), f1 4 _ (by omega) (by omega) (by omega), f1 4 _ (by omega) (by omega) (by omega), f1 4 _ (by omega) (by omega) (by omega), f1 68 _ (by omega) (by omega) (by omega), f1 68 _ (by omega) (by omega) (by omega), f1 8 _ (by omega) (by omega) (by omega), f1 9 _ (by omega) (by omega) (by omega), f1 10 _ (by omega) (by omega) (by omega)]
    exact ⟨s1, ms_e, s3, s4, s5, s6, s7, s8, s9, s10, s11⟩
  · rw [e7] at r1
    by_cases c : r = R
    · subst c
      have z := h.pr.2 r (by omega) hn
      obtain ⟨z88, z89, z90, z91, z92, z93, z138⟩ := z
      have hq : ∀ u, fRun r t tn ver par pe u = if u = 0 then r else if u = 1 then t else if u = 2 then tn else if u = 3 then ver else if u = 4 then par else if u = 5 then pe else if u = 7 ∨ (10 ≤ u ∧ u ≤ 12) then -1 else 0 := fun u => rfl
      unfold RXr1 hA hT hC
      rw [fN2]
      simp only [f2]
      rw [x1 89 _ (by omega) (by omega), x1 90 _ (by omega) (by omega), x1 91 _ (by omega) (by omega), x1 92 _ (by omega) (by omega), x1 93 _ (by omega) (by omega), x1 94 _ (by omega) (by omega), x1 138 _ (by omega) (by omega)]
      refine ⟨⟨?_, ?_, ?_, ?_, ?_, fun hh => ?_⟩, ⟨?_, z89, z90, z91⟩, z92, z93, fun hh => ?_, z138⟩
      · unfold xNR; rw [ms_a (by decide), ms_a (by decide), ms_a (by decide), ms_a (by decide), ms_a (by decide), ms_a (by decide), ms_a (by decide)]; exact ms_e
      · unfold xNR; rw [ms_a (by decide), ms_a (by decide), ms_a (by decide), ms_a (by decide), ms_a (by decide), ms_a (by decide)]; exact ms_e
      · unfold xNR; rw [ms_a (by decide), ms_a (by decide), ms_a (by decide), ms_a (by decide), ms_a (by decide)]; exact ms_e
      · unfold xNR; rw [ms_a (by decide), ms_a (by decide), ms_a (by decide), ms_a (by decide)]; exact ms_e
      · unfold xNR; rw [ms_a (by decide), ms_a (by decide), ms_a (by decide)]; exact ms_e
      · unfold xNR; rw [ms_a (by decide), ms_a (by decide), ms_e]; exact hp hh
      · unfold xNR; rw [ms_a (by decide)]; exact ms_e
      · exact absurd (show (0 : Int) = 6 from hh) (by decide)
    · have k := h.pr.1 r r0 (by omega)
      unfold RXr1 hA hT hC
      rw [fN r c r0 (by omega), f5 r]
      simp only [f1 (7000 + r) _ (show 7000 + r ≠ 7 by omega) (show 7000 + r ≠ 7000 + R by omega) (show 7000 + r ≠ 71000 + R by omega)]
      rw [x1 80 _ (Or.inr c) (by omega), x1 81 _ (Or.inr c) (by omega), x1 82 _ (Or.inr c) (by omega), x1 83 _ (Or.inr c) (by omega), x1 84 _ (Or.inr c) (by omega), x1 85 _ (Or.inr c) (by omega), x1 86 _ (Or.inr c) (by omega), x1 89 _ (by omega) (by omega), x1 90 _ (by omega) (by omega), x1 91 _ (by omega) (by omega), x1 92 _ (by omega) (by omega), x1 93 _ (by omega) (by omega), x1 94 _ (by omega) (by omega), x1 138 _ (by omega) (by omega)]
      exact k
  · rw [e7] at r0
    unfold RXr0
    rw [x1 88 _ (by omega) (by omega), x1 89 _ (by omega) (by omega), x1 90 _ (by omega) (by omega), x1 91 _ (by omega) (by omega), x1 92 _ (by omega) (by omega), x1 93 _ (by omega) (by omega), x1 138 _ (by omega) (by omega)]
    exact h.pr.2 r (by omega) r1
  · obtain ⟨q1, q2⟩ := h.pm
    have y46 : xNR m R t tn ver par pf 68 46 = m 68 46 := x1 _ _ (by omega) (by omega)
    have e1 : pT (pNewRun t tn ver par pe e) (R + 1).toNat = pT e (e.1 7 2).toNat := by
      rw [← hR, show (R + 1).toNat = R.toNat + 1 by omega]
      have p0 : pT1 (pNewRun t tn ver par pe e) ((R.toNat : Nat) : Int) = [] := by
        unfold pT1
        rw [show (73000 : Int) + ((R.toNat : Nat) : Int) = 1000 * 73 + R by omega, f4 73 (by decide)]
        rfl
      rw [show pT (pNewRun t tn ver par pe e) (R.toNat + 1) = pT (pNewRun t tn ver par pe e) R.toNat ++ pT1 (pNewRun t tn ver par pe e) ((R.toNat : Nat) : Int) from rfl, p0, List.append_nil]
      exact pT_eq fun i i0 i1 => ⟨f3 _ (by omega) (by omega) (by omega), f3 _ (by omega) (by omega) (by omega)⟩
    have e2 : xT (xNR m R t tn ver par pf) = xT m := xT_eq y46 fun a j a0 a1 => x1 a j (by omega) (by omega)
    unfold RXm
    rw [y46, e7, e1, e2]
    exact ⟨q1, q2⟩
  · rw [e7] at r1
    have y : ∀ a j, 109 ≤ a → xNR m R t tn ver par pf a j = m a j := fun a j g => x1 a j (by omega) (by omega)
    unfold RXw1
    rw [y 123 _ (by decide), y 124 _ (by decide), y 125 _ (by decide), y 126 _ (by decide), y 127 _ (by decide)]
    by_cases c : r = R
    · subst c
      have z := (h.pw w w0 w1).2 r (by omega) hn
      refine ⟨fun hh => by omega, fun hh => ?_⟩
      rw [f2] at hh
      exfalso
      have : (-1 : Int) = w := hh
      omega
    · have eT' : hT (pNewRun t tn ver par pe e) r = hT e r := by unfold hT; rw [fN r c r0 (by omega), f5 r]
      rw [eT']
      simp only [f1 (7000 + r) _ (show 7000 + r ≠ 7 by omega) (show 7000 + r ≠ 7000 + R by omega) (show 7000 + r ≠ 71000 + R by omega)]
      exact (h.pw w w0 w1).1 r r0 (by omega)
  · rw [e7] at r0
    rw [x1 123 _ (by omega) (by omega)]
    exact (h.pw w w0 w1).2 r (by omega) r1
  · rw [e7] at r1
    by_cases c : r = R
    · rw [c, fN2] at i1
      omega
    · rw [fN r c r0 (by omega)] at i1
      have k := h.ph r r0 (by omega) i i0 i1
      have y : ∀ a j, 86 < a → xNR m R t tn ver par pf a j = m a j := fun a j g => x1 a j (by omega) (by omega)
      unfold RXh1
      rw [at_fr (m0 := m) (fun _ => y _ _ (by decide)) (fun _ => y _ _ (by decide)) (fun _ => y _ _ (by decide)), f5 r]
      simp only [f1 (76000 + r) _ (show 76000 + r ≠ 7 by omega) (show 76000 + r ≠ 7000 + R by omega) (show 76000 + r ≠ 71000 + R by omega)]
      obtain ⟨B, g1, g2, g3, g4, g5, g6⟩ := k
      exact ⟨B, g1, g2, g3, g4, by rw [y _ _ (by decide)]; exact g5, g6⟩
  · obtain ⟨mx, ⟨q1, q2, q3⟩, q4, q5, q6, q7, q8⟩ := h.pp
    have y : ∀ a j, 86 < a → xNR m R t tn ver par pf a j = m a j := fun a j g => x1 a j (by omega) (by omega)
    have y32 : xNR m R t tn ver par pf 68 32 = m 68 32 := x1 _ _ (by omega) (by omega)
    refine ⟨mx, ⟨fun r r0 r1 => ?_, ?_, by rw [y32]; exact q3⟩, fun r k r0 r1 k0 k1 => by rw [y32, y 96 _ (by decide)]; exact q4 r k r0 r1 k0 k1, fun s t s0 s1 s2 => by rw [y 96 _ (by decide), y 96 _ (by decide)]; exact q5 s t s0 s1 s2, fun r r0 r1 => ?_, fun r r0 r1 i i0 i1 => ?_, fun r r0 r1 h8 => ?_⟩
    rotate_right
    · rw [e7] at r1
      rw [y 88 _ (by decide)] at h8
      rw [y 87 _ (by decide)]
      by_cases c : r = R
      · have z := (h.pr.2 r (by omega) (by omega)).1
        rw [c] at z h8
        omega
      · obtain ⟨g1, g2⟩ := q8 r r0 (by omega) h8
        refine ⟨by omega, ?_⟩
        unfold Dead
        rw [f1 _ _ (by omega) (by omega) (by omega)]
        exact g2
    · rw [e7]
      obtain ⟨g1, g2, g3⟩ := q1 r r0 r1
      exact ⟨g1, g2, fun hh => g3 (by omega)⟩
    · refine q2.of (fun j => f1 _ _ (by omega) (by omega) (by omega)) (fun r r0 r1 => ?_)
      rw [e7] at r1
      by_cases c : r = R
      · have z := (h.pr.2 r (by omega) (by omega)).1
        refine Or.inr ?_
        rw [y 88 _ (by decide)]
        rw [c] at z ⊢
        rw [fN2]
        omega
      · exact Or.inl ⟨by omega, Int.le_of_eq (fN r c r0 (by omega)), y 88 _ (by decide)⟩
    · rw [e7] at r1
      rw [y 88 _ (by decide)]
      by_cases c : r = R
      · have z := (h.pr.2 r (by omega) (by omega)).1
        have := q1 r r0 (by omega)
        rw [c] at z this ⊢
        rw [fN2]
        omega
      · rw [fN r c r0 (by omega)]
        exact q6 r r0 (by omega)
    · rw [e7] at r1
      by_cases c : r = R
      · rw [c, fN2] at i1
        omega
      · rw [fN r c r0 (by omega)] at i1
        obtain ⟨q, ⟨g1, g2⟩, g3, g4, g5⟩ := q7 r r0 (by omega) i i0 i1
        refine ⟨q, ⟨g1, by omega⟩, g3.imp id (fun hh => ?_), by rw [y 88 _ (by decide)]; exact g4, ?_⟩
        · unfold Dead
          rw [f1 _ _ (by omega) (by omega) (by omega)]
          exact hh
        · rw [at_fr (m0 := m) (fun _ => y _ _ (by decide)) (fun _ => y _ _ (by decide)) (fun _ => y _ _ (by decide)), y 88 _ (by decide), y 96 _ (by decide)]
          exact g5
  · obtain ⟨q1, q2, q3⟩ := h.pl
    have hl : pLst (pNewRun t tn ver par pe e) ((pNewRun t tn ver par pe e).1 7 2).toNat = pLst e (e.1 7 2).toNat := by
      rw [e7, ← hR, show (R + 1).toNat = R.toNat + 1 by omega]
      rw [show pLst (pNewRun t tn ver par pe e) (R.toNat + 1) = pLst (pNewRun t tn ver par pe e) R.toNat ++ (eL (pNewRun t tn ver par pe e) (75000 + ((R.toNat : Nat) : Int))).map (fun v => (((R.toNat : Nat) : Int), v)) from rfl, show (75000 : Int) + ((R.toNat : Nat) : Int) = 1000 * 75 + R by omega, f4 75 (by decide)]
      show pLst _ _ ++ [] = _
      rw [List.append_nil]
      exact pLst_eq fun i i0 i1 => f3 _ (by omega) (by omega) (by omega)
    unfold RXl
    rw [hl, x1 68 83 (by omega) (by omega), x1 68 84 (by omega) (by omega), f1 4 _ (by omega) (by omega) (by omega)]
    exact ⟨q1, q2, fun i q hq => by rw [x1 139 _ (by omega) (by omega), x1 140 _ (by omega) (by omega), x1 141 _ (by omega) (by omega)]; exact q3 i q hq⟩
theorem CN.nrun (hc : CN e) (hn : e.1 7 2 < 30) : CN (pNewRun t tn ver par pe e) := by
  have n7 := hc.1
  obtain ⟨d1, d2, d3, d4, d5⟩ := hc
  refine ⟨by rw [pNewRun_n]; omega, ?_, ?_, ?_, fun t ht => ?_⟩
  · rw [pNewRun_1 (by omega) (by omega) (by omega)]; exact d2
  · rw [pNewRun_1 (by omega) (by omega) (by omega)]; exact d3
  · rw [pNewRun_1 (by omega) (by omega) (by omega)]; exact d4
  · have := isT_b ht
    rw [pNewRun_1 (by omega) (by omega) (by omega)]
    exact d5 t ht
theorem mr_nrun (hc : CN e) (hn : e.1 7 2 < 30) : MR e (pNewRun t tn ver par pe e) := by
  have n7 := hc.1
  have f1 : ∀ a u : Int, a ≠ 7 → a ≠ 7000 + e.1 7 2 → a ≠ 71000 + e.1 7 2 → (pNewRun t tn ver par pe e).1 a u = e.1 a u := fun a u g1 g2 g3 => pNewRun_1 g1 g2 g3
  refine ⟨⟨by rw [f1 _ _ (by omega) (by omega) (by omega)]; omega, by rw [f1 _ _ (by omega) (by omega) (by omega)]; omega, by rw [pNewRun_n]; omega⟩, fun i i0 i1 => ?_, fun ⟨q1, q2, q3, q4⟩ => ⟨?_, ?_, ?_, fun i i0 i1 => ?_⟩⟩
  · show _ ≤ (pNewRun t tn ver par pe e).1 (71000 + i) 1
    rw [f1 _ _ (by omega) (by omega) (by omega)]
    exact Int.le_refl _
  · rw [f1 _ _ (by omega) (by omega) (by omega)]; exact q1
  · rw [f1 _ _ (by omega) (by omega) (by omega)]; exact q2
  · rw [f1 _ _ (by omega) (by omega) (by omega), f1 _ _ (by omega) (by omega) (by omega)]; exact q3
  · rw [pNewRun_n] at i1
    show 0 ≤ (pNewRun t tn ver par pe e).1 (71000 + i) 1
    by_cases c : i = e.1 7 2
    · rw [c, pNewRun_h (by omega)]
      exact Int.le_refl _
    · rw [f1 _ _ (by omega) (by omega) (by omega)]
      exact q4 i i0 (by omega)
theorem CN.start (hc : CN e) (hn : e.1 7 2 < 30) : CN (pStart t tn inp par pe e) := (hc.nrun hn).arr hc.1.1
theorem mr_start (hc : CN e) (hn : e.1 7 2 < 30) : MR e (pStart t tn inp par pe e) := (mr_nrun hc hn).tr (mr_arr (hc.nrun hn) hc.1.1 (by rw [pNewRun_n]; omega))
/-- what makes comes to, where nothing is put -/
theorem rMk0 (h : RXE m e) (hc : CN e) (hn : e.1 7 2 < 30) : fm_X12_makes t tn ver (-1) par pf m = some (e.1 7 2, xNR m (e.1 7 2) t tn ver par pf) := by
  have e12 : m 68 12 = e.1 7 2 := h.ps.2.1
  have n7 := hc.1
  unfold fm_X12_makes
  rw [lx_p, e12, gd_t (by omega), up_t, up_t, up_t, up_t, up_t, up_t, up_t, lx_p, ms_a (by decide), ms_a (by decide), ms_a (by decide), ms_a (by decide), ms_a (by decide), ms_a (by decide), ms_a (by decide), e12, w32_id (by omega) (by omega), up_t, if_pos rfl]
  rfl
theorem RXE.start (h : RXE m e) (hc : CN e) (hl : RLw e) (hn : e.1 7 2 < 30) (hf : RFw (pStart t tn inp par pe e)) (v0 : 0 ≤ inp) (v1 : inp < 1000) (hp : par ≠ -1 → pf = pe) (hv : ver = e.1 (48 + 4 * t + 1) 2 - 1) : ∃ m', fm_X12_makes t tn ver inp par pf m = some (e.1 7 2, m') ∧ RXE m' (pStart t tn inp par pe e) ∧ SCR m m' := by
  have e12 : m 68 12 = e.1 7 2 := h.ps.2.1
  have n7 := hc.1
  have h1 := h.nrun (t := t) (tn := tn) (ver := ver) hc hn hp
  have nd : ¬ Dead (pNewRun t tn ver par pe e) (e.1 7 2) := fun hh => hh.1 (by rw [pNewRun_f (by omega)]; rfl)
  have hf' : RFw (pArr (e.1 7 2) 0 inp 0 (pNewRun t tn ver par pe e)) := by
    rw [hv]
    exact hf
  obtain ⟨m', g1, g2, g3⟩ := h1.arr2 (hc.nrun hn) ((mr_nrun hc hn).2.2 hl) hf' n7.1 (by rw [pNewRun_n]; omega) nd (by decide) (by decide) v0 (by omega) (by decide) (by decide)
  refine ⟨m', ?_, ?_, SCR.tr ⟨fun a j q1 q2 => ?_, fun j q1 => ?_⟩ g3⟩
  · unfold fm_X12_makes
    rw [lx_p, e12, gd_t (by omega), up_t, up_t, up_t, up_t, up_t, up_t, up_t, lx_p, ms_a (by decide), ms_a (by decide), ms_a (by decide), ms_a (by decide), ms_a (by decide), ms_a (by decide), ms_a (by decide), e12, w32_id (by omega) (by omega), up_t, if_neg (by omega)]
    exact (bd_t g1)
  · rw [hv] at g2
    exact g2
  · unfold xNR mset
    rw [if_neg (by omega), if_neg (by omega), if_neg (by omega), if_neg (by omega), if_neg (by omega), if_neg (by omega), if_neg (by omega), if_neg (by omega)]
  · unfold xNR mset
    rw [if_neg (by omega), if_neg (by omega), if_neg (by omega), if_neg (by omega), if_neg (by omega), if_neg (by omega), if_neg (by omega), if_neg (by omega)]
theorem x_begin (h : RXE m e) (hc : CN e) (hl : RLw e) (hf : RFw (pcBegin p1 p2 p3 e).2) : OKr (fm_X12_begin p1 p2 p3 m) cd3 (pcBegin p1 p2 p3 e) := by
  have h0 := h.th (q := 0) hc
  have n7 := hc.1
  have no : ∀ (q : Int) (n : Nat), 0 < q → cd3 n = q → OKr (fj_X12_begin_65 p1 p2 p3 q m) cd3 (rT n e) := fun q n hq hn => by
    unfold fj_X12_begin_65
    rw [bd_t fails_e, if_pos hq, if_neg (show ¬ (1 : Int) = 0 by decide)]
    exact OKr.no h hc hn
  unfold fm_X12_begin
  unfold pcBegin at hf ⊢
  rw [bp_t rIsT]
  by_cases c1 : 0 ≤ p1 ∧ p1 < 4
  · rw [if_pos c1] at hf
    rw [if_pos c1, if_neg (show ¬ (1 : Int) = 0 by decide), if_pos c1, bp_t rIsTn]
    by_cases c2 : 0 ≤ p2 ∧ p2 < 3
    · rw [if_pos c2] at hf
      rw [if_pos c2, if_neg (show ¬ (1 : Int) = 0 by decide), if_pos c2]
      unfold fj_X12_begin_19
      rw [if_neg (show ¬ (1 : Int) = 0 by decide), bp_t rIsV]
      by_cases c3 : 0 ≤ p3 ∧ p3 < 1000
      · rw [if_pos c3] at hf
        have t1 := (h.pt p1 c1.1 c1.2).1
        have t1' := (h0.pt p1 c1.1 c1.2).1
        have e12 : m 68 12 = e.1 7 2 := h.ps.2.1
        have hv := hc.2.2.2.2 (48 + 4 * p1) (isT_4 c1.1 c1.2)
        rw [if_pos c3, if_neg (show ¬ (1 : Int) = 0 by decide), if_pos c3, gd_t c1, lx_p, t1, show 49 + 4 * p1 = 48 + 4 * p1 + 1 by omega]
        by_cases c4 : e.1 (48 + 4 * p1 + 1) 2 = 0
        · rw [if_pos c4, if_neg (fun hh => by omega)]
          exact no 3 2 (by decide) rfl
        · rw [if_neg c4, lx_p, e12]
          by_cases c5 : e.1 7 2 = 30
          · rw [if_pos c5, if_neg (fun hh => by omega)]
            exact no 3 2 (by decide) rfl
          · rw [if_pos (show 0 < e.1 (48 + 4 * p1 + 1) 2 ∧ e.1 7 2 < 30 by omega)] at hf
            rw [if_neg c5, if_pos (show 0 < e.1 (48 + 4 * p1 + 1) 2 ∧ e.1 7 2 < 30 by omega)]
            obtain ⟨m', g1, g2, g3⟩ := h0.start (pf := -1) hc hl (by omega) hf c3.1 c3.2 (fun hh => absurd rfl hh) rfl
            unfold fj_X12_begin_65
            rw [bd_t fails_e, if_neg (show ¬ (0 : Int) < 0 by decide), if_pos (show (0 : Int) = 0 from rfl), gd_t c1, lx_p, t1', show 49 + 4 * p1 = 48 + 4 * p1 + 1 by omega, w32_id (by omega) (by omega), bd_t g1]
            exact OKr.fin g2 (by rw [g3.2 _ (by decide)]; exact ms_e)
      · rw [if_neg c3, if_pos (show (0 : Int) = 0 from rfl), if_neg c3]
        exact no 2 1 (by decide) rfl
    · rw [if_neg c2, if_pos (show (0 : Int) = 0 from rfl), if_neg c2]
      unfold fj_X12_begin_19
      rw [if_pos (show (0 : Int) = 0 from rfl)]
      exact no 1 0 (by decide) rfl
  · rw [if_neg c1, if_pos (show (0 : Int) = 0 from rfl), if_neg c1]
    unfold fj_X12_begin_19
    rw [if_pos (show (0 : Int) = 0 from rfl)]
    exact no 1 0 (by decide) rfl
end RXC8
