/-! THE REFERENCE'S ENGINE: a command is carried out, all of a complete's; replays; what a worker keeps. -/
section RXK5
variable {m m' M : MM} {e e' e2 : ES} {a b c i j k o r v w p t s x y n ev due q A B st res tel dep d to nm fr N base : Int} {l : List Int} {S : TS}
/-- what carrying a command out has to find -/
def CarQ (r base : Int) (S : TS) (i : Int) (e : ES) : Prop := ((CN e ∧ RLw e ∧ RFw (pCarry r i e)) ∧ (TyO e ∧ PaR e ∧ TmO e r)) ∧ (eT e = S ∧ (0 ≤ r ∧ r < e.1 7 2) ∧ e.1 (7000 + r) 6 = 0 ∧ (base ≤ i ∧ 0 ≤ i ∧ i < hN e r) ∧ (sn S)[(i - base).toNat]? = some (ek (eH e r i), ex (eH e r i), ey (eH e r i)) ∧ CmdOk (eH e r i)) ∧ (pT e (e.1 7 2).toNat).length < 512 ∧ (0 ≤ e.1 4 11 ∧ e.1 4 11 < 1048576) ∧ ((eL e 14).length : Int) = (if e.1 4 11 < 51200 then e.1 4 11 else 51200) ∧ (cA (eH e r) (sg S 0 11).toNat = sg S 0 10 ∧ 0 ≤ sg S 0 11 ∧ sg S 0 11 ≤ hN e r) ∧ ∀ t : Int, 0 ≤ t → t < 4 → e.1 (7000 + r) 1 = t → 0 < e.1 (48 + 4 * t + 1) 2
def CarP (r base : Int) (S : TS) : Nat → Int → ES → Prop
  | 0, _, _ => True
  | n + 1, i, e => CarQ r base S i e ∧ CarP r base S n (i + 1) (pCarry r i e)
theorem RXE.carry (h : RXE m e) (hQ : CarQ r base S i e) (hS : ∀ n : Int, 0 ≤ n → n < 4 → ∀ v ∈ sq S n, 0 ≤ v ∧ v ≤ 999) (hq : QR m S) : ∃ m', fm_X12_carriesOut r i (ek (eH e r i)) (ex (eH e r i)) (ey (eH e r i)) m = some (0, m') ∧ RXE m' (pCarry r i e) ∧ SC2 m m' := by
  obtain ⟨⟨⟨hc, hl, hf⟩, hT, hP, hw⟩, ⟨hE, ⟨r0, r1⟩, hs, ⟨b0, i0, i1⟩, -, hcmd⟩, htm, h11, hlen, hA, hv⟩ := hQ
  have n7 := hc.1
  have nd : ¬ Dead e r := fun hh => hh.1 hs
  obtain ⟨kb, xb, yb⟩ := h.kb r0 r1 i0 i1
  have e12 : m 68 12 = e.1 7 2 := h.ps.2.1
  have hi : i < 524288 ∨ ¬ (ek (eH e r i) = 8 ∨ ek (eH e r i) = 9 ∨ ek (eH e r i) = 10) := by
    by_cases c : i < 524288
    · exact Or.inl c
    · right
      rintro (g | g | g)
      · unfold pCarry at hf
        rw [if_pos g] at hf
        have e7 : e.1 7 2 ≤ (pMakA r i (ex (eH e r i)) (ey (eH e r i)) e).1 7 2 := by
          unfold pMakA
          split
          · rw [pNew_a (by decide) (by have := hc.2.1; omega)]; exact Int.le_refl _
          · rw [arr_a (by decide) (by decide) (by omega) (by omega) (by decide)]; exact Int.le_refl _
        have := hf.2.2.2 r r0 (by omega)
        have e2 : hN e r ≤ hN (pMakA r i (ex (eH e r i)) (ey (eH e r i)) e) r := by
          unfold pMakA
          split
          · show _ ≤ (pNew 8 _ e).1 (71000 + r) 1
            rw [pNew_a (by omega) (by have := hc.2.1; omega)]; exact Int.le_refl _
          · rw [arr_N r0]; omega
        omega
      · unfold pCarry at hf
        rw [if_neg (by omega), if_pos g] at hf
        have := hf.2.2.2 r r0 (by rw [addT_1 (by decide)]; exact r1)
        have e2 : hN (pAddT r i (e.1 4 14 + ex (eH e r i)) e) r = hN e r := addT_1 (by omega)
        omega
      · unfold pCarry at hf
        rw [if_neg (by omega), if_neg (by omega), if_pos g] at hf
        unfold pChi at hf
        by_cases cc : e.1 7 2 < 30 ∧ 0 < e.1 (48 + 4 * ex (eH e r i) + 1) 2
        · rw [if_pos cc] at hf
          have := hf.2.2.2 r r0 (by rw [start_n n7.1]; omega)
          have e2 : hN (pStart (ex (eH e r i)) (e.1 (7000 + r) 2) (ey (eH e r i)) r i e) r = hN e r := by
            unfold hN
            exact start_a n7.1 (by omega) (by omega) (by omega) (by omega) (by omega) (by omega) (by omega)
          omega
        · rw [if_neg cc] at hf
          have e7 : (pArr r 6 i 0 e).1 7 2 = e.1 7 2 := arr_a (by decide) (by decide) (by omega) (by omega) (by decide)
          have := hf.2.2.2 r r0 (by omega)
          rw [arr_N r0] at this
          omega
  unfold pCarry at hf ⊢
  by_cases c8 : ek (eH e r i) = 8
  · rw [if_pos c8] at hf ⊢
    obtain ⟨m', g1, g2, g3⟩ := h.makA hc hl hf r0 r1 nd i0 (by omega)
    unfold fm_X12_carriesOut
    rw [if_pos c8, bd_t g1]
    exact ⟨m', rfl, g2, g3.s2⟩
  rw [if_neg c8] at hf ⊢
  by_cases c9 : ek (eH e r i) = 9
  · rw [if_pos c9] at hf ⊢
    obtain ⟨m', g1, g2, g3⟩ := h.addT (ev := i) (due := e.1 4 14 + ex (eH e r i)) hc r0 r1 hw.1 htm
    have ht := hl.1
    have e0 := h.ps.1
    unfold fm_X12_carriesOut
    rw [if_neg c8, if_pos c9, lx_p, e0, w32_id (by omega) (by omega), bd_t g1]
    exact ⟨m', rfl, g2, g3.s2⟩
  rw [if_neg c9] at hf ⊢
  by_cases c10 : ek (eH e r i) = 10
  · rw [if_pos c10] at hf ⊢
    obtain ⟨q1, q2⟩ := hcmd.1 c10
    obtain ⟨m', g1, g2, g3⟩ := h.chi hc hl hf r0 r1 nd i0 (by omega) xb.1 q1 yb.1 q2
    rw [c10]
    exact ⟨m', g1, g2, g3.s2⟩
  rw [if_neg c10] at hf ⊢
  by_cases c11 : ek (eH e r i) = 11
  · rw [if_pos c11] at hf ⊢
    obtain ⟨m', g1, g2, g3⟩ := h.drop hc hl hf r0 r1 hw
    unfold fm_X12_carriesOut
    rw [if_neg c8, if_neg c9, if_neg c10, if_pos c11, bd_t g1]
    exact ⟨m', rfl, g2, g3.s2⟩
  rw [if_neg c11] at hf ⊢
  by_cases c13 : ek (eH e r i) = 13
  · rw [if_pos c13] at hf ⊢
    obtain ⟨m', g1, g2, g3⟩ := h.qt (i := i) (x := ex (eH e r i)) (y := ey (eH e r i)) hc r0 r1 xb.1 (hcmd.2 (Or.inl c13)) h11 hlen
    rw [c13]
    exact ⟨m', g1, g2, g3.s2⟩
  rw [if_neg c13] at hf ⊢
  by_cases c14 : ek (eH e r i) = 14
  · rw [if_pos c14] at hf ⊢
    obtain ⟨m', g1, g2, g3⟩ := h.close (st := 1) (res := ex (eH e r i)) hc hl hT hP r0 r1 hs (by decide) ⟨xb.1, hcmd.2 (Or.inr (Or.inl c14))⟩ hf
    unfold fm_X12_carriesOut
    rw [if_neg c8, if_neg c9, if_neg c10, if_neg c11, if_neg c13, if_pos c14, gd_t (by omega), up_t, bd_t g1]
    exact ⟨m', rfl, g2, g3⟩
  rw [if_neg c14] at hf ⊢
  by_cases c15 : ek (eH e r i) = 15
  · rw [if_pos c15] at hf ⊢
    rw [hE] at hf ⊢
    have h207 : ∀ st : Int, (st = 2 ∨ st = 3) → RFw (pClose 41 r st 0 0 e) → ∃ m', fj_X12_carriesOut_207 r st r m = some (0, m') ∧ RXE m' (pClose 41 r st 0 0 e) ∧ SC2 m m' := fun st hst hf => by
      obtain ⟨m', g1, g2, g3⟩ := h.close (st := st) (res := 0) hc hl hT hP r0 r1 hs (by omega) (by decide) hf
      unfold fj_X12_carriesOut_207
      rw [gd_t (by omega), up_t, bd_t g1]
      exact ⟨m', rfl, g2, g3⟩
    unfold fm_X12_carriesOut
    rw [if_neg c8, if_neg c9, if_neg c10, if_neg c11, if_neg c13, if_neg c14, if_pos c15, lx_p]
    by_cases c0 : sg S 0 8 = 0
    · rw [if_pos c0] at hf ⊢
      rw [if_pos (hq.2.2.2.mpr c0)]
      exact h207 2 (Or.inl rfl) hf
    · rw [if_neg c0] at hf ⊢
      rw [if_neg (fun hh => c0 (hq.2.2.2.mp hh))]
      exact h207 3 (Or.inr rfl) hf
  rw [if_neg c15] at hf ⊢
  by_cases c16 : ek (eH e r i) = 16
  · rw [if_pos c16] at hf ⊢
    by_cases c30 : e.1 7 2 < 30
    · rw [if_pos c30] at hf ⊢
      obtain ⟨m', g1, g2, g3⟩ := h.again hc hl hT hP hf r0 r1 c30 hs xb.1 (hcmd.2 (Or.inr (Or.inr c16))) (by rw [hE]; exact hS) (by rw [hE]; exact hq) (by rw [hE]; exact hA) hv
      unfold fm_X12_carriesOut
      rw [if_neg c8, if_neg c9, if_neg c10, if_neg c11, if_neg c13, if_neg c14, if_neg c15, if_pos c16, bd_t g1]
      exact ⟨m', rfl, g2, g3⟩
    · rw [if_neg c30] at hf ⊢
      obtain ⟨m', g1, g2, g3⟩ := h.close (st := 2) (res := 0) hc hl hT hP r0 r1 hs (by decide) (by decide) hf
      have g0 : fm_X12_goesOnAsNew r (ex (eH e r i)) m = some (0, m') := by
        unfold fm_X12_goesOnAsNew
        rw [lx_p, e12, if_pos (by omega), gd_t (by omega), up_t, bd_t g1]
      unfold fm_X12_carriesOut
      rw [if_neg c8, if_neg c9, if_neg c10, if_neg c11, if_neg c13, if_neg c14, if_neg c15, if_pos c16, bd_t g0]
      exact ⟨m', rfl, g2, g3⟩
  rw [if_neg c16]
  unfold fm_X12_carriesOut
  rw [if_neg c8, if_neg c9, if_neg c10, if_neg c11, if_neg c13, if_neg c14, if_neg c15, if_neg c16]
  exact ⟨m, rfl, h, SC2.rf⟩
/-- the news as they lie -/
def NwM (m : MM) (L : List (Int × Int × Int)) : Prop := m 68 120 = (L.length : Int) ∧ ∀ (i : Nat) (k a b : Int), L[i]? = some (k, a, b) → m 158 i = 1000 * k + b ∧ m 159 i = a
theorem NwM.mv {L : List (Int × Int × Int)} (h : NwM m L) (g : SC2 m m') : NwM m' L := ⟨by rw [g.2 _ (by decide)]; exact h.1, fun i k a b hi => by rw [g.1 158 _ (by decide) (by omega), g.1 159 _ (by decide) (by omega)]; exact h.2 i k a b hi⟩
theorem carLr (hS : ∀ n : Int, 0 ≤ n → n < 4 → ∀ v ∈ sq S n, 0 ≤ v ∧ v ≤ 999) (hb : 0 ≤ base ∧ base < 524288) (hL : (sn S).length < 65536) : ∀ (n f : Nat) (i : Int) (m : MM) (e : ES), RXE m e → CarP r base S n i e → QR m S → NwM m (sn S) → base ≤ i → i + n = base + ((sn S).length : Int) → n < f → ∃ m', fl_X12_complete_357 r base f (i - base) m = some (((sn S).length : Int), m') ∧ RXE m' (pCarL r n i e) ∧ SC2 m m' := by
  intro n
  induction n with
  | zero =>
    intro f i m e h hP hq hN b0 hi h2
    obtain ⟨f, rfl⟩ : ∃ g, f = g + 1 := ⟨f - 1, by omega⟩
    unfold fl_X12_complete_357
    rw [lx_p, hN.1, if_neg (by omega)]
    exact ⟨m, rfl, h, SC2.rf⟩
  | succ n ih =>
    intro f i m e h hP hq hN b0 hi h2
    obtain ⟨f, rfl⟩ : ∃ g, f = g + 1 := ⟨f - 1, by omega⟩
    obtain ⟨hQ, hP2⟩ := hP
    have hg := hQ.2.1.2.2.2.2.1
    obtain ⟨q1, q2⟩ := hN.2 _ _ _ _ hg
    rw [show (((i - base).toNat : Nat) : Int) = i - base by omega] at q1 q2
    have r0 := hQ.2.1.2.1
    have ib := hQ.2.1.2.2.2.1
    obtain ⟨kb, xb, yb⟩ := h.kb r0.1 r0.2 ib.2.1 ib.2.2
    obtain ⟨m1, g1, g2, g3⟩ := h.carry hQ hS hq
    obtain ⟨m', u1, u2, u3⟩ := ih f (i + 1) m1 _ g2 hP2 (hq.mv g3) (hN.mv g3) (by omega) (by omega) (by omega)
    unfold fl_X12_complete_357 pCarL
    rw [lx_p, hN.1, if_pos (by omega), gd_t (by omega), lx_p, q1, lx_p, q2, w32_id (z := base + (i - base)) (by omega) (by omega), show base + (i - base) = i by omega, show Int.tdiv (1000 * ek (eH e r i) + ey (eH e r i)) 1000 = ek (eH e r i) by rw [Int.tdiv_eq_ediv_of_nonneg (by omega)]; omega, show Int.tmod (1000 * ek (eH e r i) + ey (eH e r i)) 1000 = ey (eH e r i) by rw [Int.tmod_eq_emod_of_nonneg (by omega)]; omega, w32_id (z := ek (eH e r i)) (by omega) (by omega), bd_t g1, lx_p, w32_id (z := i - base + 1) (by omega) (by omega), show i - base + 1 = i + 1 - base by omega]
    exact ⟨m', u1, u2, g3.tr u3⟩
/-- a replay more -/
theorem RXE.rp (h : RXE m e) (hc : CN e) (w0 : 0 ≤ w) (w1 : w < 3) : RXE (mset m 122 w v) (eS e 11 w v) := by
  have n7 := hc.1
  have fE : ∀ a u : Int, a ≠ 11 → (eS e 11 w v).1 a u = e.1 a u := fun a u g => eS_a g
  refine h.chg hc (W := fun a => a = 122) (U := fun a => a = 1000000) (V := fun a => a = 11) (fun a j g1 g2 g3 => ms_a g3) (fun u g1 _ => ms_a (by decide)) ⟨fE, fun c _ => rfl, fun i _ => rfl⟩ (by rw [fE _ _ (by omega)]; omega) (DdM.of fun q q0 q1 => fE _ _ (by omega)) (by rw [fE _ _ (by omega)]; omega) (Or.inl ⟨fun a g => by omega, fun a g => by omega, fun a g => by omega⟩) (Or.inl ⟨fun a g => by omega, fun a g => by omega, fun a g => by omega⟩) (Or.inl ⟨fun a g => by omega, fun a g => by omega, fun a g => by omega⟩) (Or.inl ⟨fun a g => by omega, fun a g => by omega, fun a g => by omega⟩) (Or.inl ⟨fun a g => by omega, fun a g => by omega, fun a g => by omega⟩) (Or.inl ⟨fun a g => by omega, fun a g => by omega, fun a g => by omega⟩) (Or.inr ⟨fun p g0 g1 => ?_, fun p g0 g1 => ?_, fun u u0 u1 => ?_⟩) (Or.inl ⟨fun a g => by omega, fun a g => by omega, fun a g => by omega⟩) (Or.inl ⟨fun a g => by omega, fun a g => by omega, fun a g => by omega⟩) (Or.inl ⟨fun a g => by omega, fun a g => by omega, fun a g => by omega⟩) (Or.inl ⟨fun a g => by omega, fun a g => by omega, fun a g => by omega⟩) (Or.inl ⟨fun a g => by omega, fun a g => by omega, fun a g => by omega⟩) (Or.inl ⟨fun a g => by omega, fun a g => by omega, fun a g => by omega⟩)
  · rw [fE _ _ (by omega)] at g1
    have n9 := hc.2.2.1
    unfold RXj1
    simp only [fE (9000 + p) _ (show 9000 + p ≠ 11 by omega)]
    rw [ms_a (b := 112) (by decide), ms_a (b := 113) (by decide), ms_a (b := 114) (by decide), ms_a (b := 115) (by decide), ms_a (b := 116) (by decide), ms_a (b := 117) (by decide), ms_a (b := 118) (by decide), ms_a (b := 119) (by decide)]
    exact h.pj.1 p g0 g1
  · rw [fE _ _ (by omega)] at g0
    rw [ms_a (by decide)]
    exact h.pj.2.1 p g0 g1
  · obtain ⟨k1, k2, k3⟩ := h.pj.2.2 u u0 u1
    rw [ms_a (b := 121) (by decide), ms_a (b := 120) (by decide), fE 12 _ (by decide), fE 13 _ (by decide), ms_i, eS_i]
    refine ⟨?_, k2, k3⟩
    by_cases c : u = w
    · rw [if_pos c, if_pos c]
    · rw [if_neg c, if_neg c]; exact k1
/-- what a worker keeps -/
theorem RXE.kp (h : RXE m e) (hc : CN e) (r0 : 0 ≤ r) (r1 : r < e.1 7 2) (w0 : 0 ≤ w) (w1 : w < 3) (fR : ∀ a j : Int, ¬ ((123 ≤ a ∧ a ≤ 127) ∧ j = 30 * w + r) → m' a j = m a j) (fE : ∀ a u : Int, ¬ (a = 7000 + r ∧ 12 ≤ u ∧ u ≤ 15) → e'.1 a u = e.1 a u) (f2 : e'.2.1 = e.2.1 ∧ e'.2.2.1 = e.2.2.1) (h12 : e'.1 (7000 + r) 12 = w) (h13 : e'.1 (7000 + r) 13 = (e.1 (7000 + r) 9 * 1000 + hT e r) * 4 + e.1 (7000 + r) 3) (hM : 0 ≤ e.1 (7000 + r) 9 ∧ (0 < hT e r ∧ hT e r < 1000) ∧ 0 ≤ e.1 (7000 + r) 3 ∧ e.1 (7000 + r) 3 < 4) (k1 : m' 123 (30 * w + r) = hT e r) (k2 : m' 124 (30 * w + r) = e.1 (7000 + r) 3) (k3 : m' 125 (30 * w + r) = e.1 (7000 + r) 9) (k4 : m' 126 (30 * w + r) = e'.1 (7000 + r) 15) (k5 : m' 127 (30 * w + r) = e'.1 (7000 + r) 14) (hAA : ∀ w' : Int, 0 ≤ w' → w' < 3 → w' ≠ w → 0 < m 123 (30 * w' + r) → m 125 (30 * w' + r) ≤ e.1 (7000 + r) 9 ∧ (m 125 (30 * w' + r) = e.1 (7000 + r) 9 → m 123 (30 * w' + r) < hT e r)) : RXE m' e' := by
  have n7 := hc.1
  have hn : ∀ i : Int, 0 ≤ i → i < e.1 7 2 → hN e' i = hN e i ∧ eH e' i = eH e i := fun i i0 i1 => ⟨fE _ _ (by omega), congrFun f2.1 i⟩
  have hTe : ∀ i : Int, 0 ≤ i → i < e.1 7 2 → hT e' i = hT e i := fun i i0 i1 => by
    obtain ⟨z1, z2⟩ := hn i i0 i1
    unfold hT; rw [z1, z2]
  refine h.chg hc (W := fun a => 123 ≤ a ∧ a ≤ 127) (U := fun a => a = 1000000) (V := fun a => a = 7000 + r) (fun a j g1 g2 g3 => fR a j (fun hh => g3 hh.1)) (fun u g1 _ => fR _ _ (by omega)) ⟨fun a u g => fE a u (fun hh => g hh.1), fun c _ => congrFun f2.2 c, fun i _ => congrFun f2.1 i⟩ (by rw [fE _ _ (by omega)]; omega) (fun q q0 q1 hq => ?_) (by rw [fE _ _ (by omega)]; omega) (Or.inl ⟨fun a g => by omega, fun a g => by omega, fun a g => by omega⟩) (Or.inl ⟨fun a g => by omega, fun a g => by omega, fun a g => by omega⟩) (Or.inl ⟨fun a g => by omega, fun a g => by omega, fun a g => by omega⟩) (Or.inr ⟨fun r' g0 g1 => ?_, fun r' g0 g1 => ?_⟩) (Or.inl ⟨fun a g => by omega, fun a g => by omega, fun a g => by omega⟩) (Or.inl ⟨fun a g => by omega, fun a g => by omega, fun a g => by omega⟩) (Or.inl ⟨fun a g => by omega, fun a g => by omega, fun a g => by omega⟩) (Or.inr fun u u0 u1 => ⟨fun r' g0 g1 => ?_, fun r' g0 g1 => ?_⟩) (Or.inl ⟨fun a g => by omega, fun a g => by omega, fun a g => by omega⟩) (Or.inl ⟨fun a g => by omega, fun a g => by omega, fun a g => by omega⟩) (Or.inl ⟨fun a g => by omega, fun a g => by omega, fun a g => by omega⟩) (Or.inl ⟨fun a g => by omega, fun a g => by omega, fun a g => by omega⟩) (Or.inl ⟨fun a g => by omega, fun a g => by omega, fun a g => by omega⟩)
  · unfold Dead
    rw [fE _ _ (by omega)]
    exact hq
  · rw [fE _ _ (by omega)] at g1
    obtain ⟨z1, z2⟩ := hn r' g0 g1
    have hm : ∀ a, 80 ≤ a → a ≤ 138 → ¬ (123 ≤ a ∧ a ≤ 127) → m' a r' = m a r' := fun a _ _ g4 => fR _ _ (fun hh => g4 hh.1)
    unfold RXr1 hA hT hC
    rw [z1, z2, hm 80 (by decide) (by decide) (by decide), hm 81 (by decide) (by decide) (by decide), hm 82 (by decide) (by decide) (by decide), hm 83 (by decide) (by decide) (by decide), hm 84 (by decide) (by decide) (by decide), hm 85 (by decide) (by decide) (by decide), hm 86 (by decide) (by decide) (by decide), hm 89 (by decide) (by decide) (by decide), hm 90 (by decide) (by decide) (by decide), hm 91 (by decide) (by decide) (by decide), hm 92 (by decide) (by decide) (by decide), hm 93 (by decide) (by decide) (by decide), hm 94 (by decide) (by decide) (by decide), hm 138 (by decide) (by decide) (by decide), fE _ 1 (by omega), fE _ 2 (by omega), fE _ 3 (by omega), fE _ 6 (by omega), fE _ 4 (by omega), fE _ 5 (by omega), fE _ 8 (by omega), fE _ 9 (by omega), fE _ 7 (by omega), fE _ 11 (by omega)]
    exact h.pr.1 r' g0 g1
  · rw [fE _ _ (by omega)] at g0
    have hm : ∀ a, 80 ≤ a → a ≤ 138 → ¬ (123 ≤ a ∧ a ≤ 127) → m' a r' = m a r' := fun a _ _ g4 => fR _ _ (fun hh => g4 hh.1)
    unfold RXr0
    rw [hm 88 (by decide) (by decide) (by decide), hm 89 (by decide) (by decide) (by decide), hm 90 (by decide) (by decide) (by decide), hm 91 (by decide) (by decide) (by decide), hm 92 (by decide) (by decide) (by decide), hm 93 (by decide) (by decide) (by decide), hm 138 (by decide) (by decide) (by decide)]
    exact h.pr.2 r' g0 g1
  · rw [fE _ _ (by omega)] at g1
    have k := (h.pw u u0 u1).1 r' g0 g1
    by_cases c : r' = r
    · subst c
      by_cases cu : u = w
      · subst cu
        unfold RXw1
        rw [k1, k2, k3, k4, k5, h12, h13, hTe r' g0 g1, fE _ 9 (by omega)]
        exact ⟨fun _ => ⟨Int.le_refl _, fun _ => Int.le_refl _, fun hh => absurd rfl hh⟩, fun _ => ⟨hM.2.1.1, hM.2.1.2, hM.1, hM.2.2, rfl, rfl, rfl⟩⟩
      · have hm : ∀ a, m' a (30 * u + r') = m a (30 * u + r') := fun a => fR _ _ (by omega)
        unfold RXw1
        rw [hm, hm, hm, hm, hm, h12, hTe r' g0 g1, fE _ 9 (by omega)]
        refine ⟨fun hh => ?_, fun hh => absurd hh.symm cu⟩
        obtain ⟨z1, z2⟩   := hAA u u0 u1 cu hh
        exact ⟨z1, fun g => by have := z2 g; omega, fun _ g => by have := z2 g.2; omega⟩
    · have hm : ∀ a, m' a (30 * u + r') = m a (30 * u + r') := fun a => fR _ _ (by omega)
      unfold RXw1
      rw [hm, hm, hm, hm, hm, hTe r' g0 g1, fE _ 9 (by omega), fE _ 12 (by omega), fE _ 13 (by omega), fE _ 14 (by omega), fE _ 15 (by omega)]
      exact k
  · rw [fE _ _ (by omega)] at g0
    rw [fR _ _ (by omega)]
    exact (h.pw u u0 u1).2 r' g0 g1
end RXK5
