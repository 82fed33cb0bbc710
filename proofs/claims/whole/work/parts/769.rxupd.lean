/-! THE REFERENCE'S CALLS: update. -/
section RXN1
variable {m m' M : MM} {e e' e2 : ES} {a b c i j k o r v w p t s x y n nm p1 p2 p3 q A B N : Int} {l : List Int} {S : TS} {X : CX} {E : Int → Ev}
theorem cA_s (n : Nat) : cA E (n + 1) = if ek (E n) ≤ 7 then cA E n + 1 else cA E n := rfl
theorem cA_m : ∀ (a b : Nat), a ≤ b → cA E a ≤ cA E b := by
  intro a b
  induction b with
  | zero => intro h; rw [show a = 0 by omega]; exact Int.le_refl _
  | succ b ih =>
    intro h
    by_cases c : a = b + 1
    · rw [c]; exact Int.le_refl _
    · have := ih (by omega)
      rw [cA_s]
      split <;> omega
/-- the first arrival that no TASK counts -/
theorem xNew_s (hX : ∀ i, X.2.1 i = E i) : ∀ (n : Nat) (c i : Int), 0 ≤ i → i ≤ X.1 0 → X.1 0 - i < n → c = cA E i.toNat → c ≤ X.1 1 ∨ X.1 1 < 0 → (i ≤ xNew X n c i ∧ xNew X n c i ≤ X.1 0) ∧ (∀ j : Int, i ≤ j → j < xNew X n c i → ek (E j) ≤ 7 → cA E j.toNat < X.1 1) ∧ (xNew X n c i < X.1 0 → ek (E (xNew X n c i)) ≤ 7 ∧ X.1 1 ≤ cA E (xNew X n c i).toNat) := by
  intro n
  induction n with
  | zero => intro c i i0 i1 h; omega
  | succ n ih =>
    intro c i i0 i1 h hc hb
    unfold xNew
    by_cases c1 : i < X.1 0
    · rw [if_pos c1, hX]
      have e1 : (i + 1).toNat = i.toNat + 1 := by omega
      have ei : ((i.toNat : Nat) : Int) = i := by omega
      by_cases c2 : 7 < ek (E i)
      · rw [if_pos c2]
        obtain ⟨g1, g2, g3⟩ := ih c (i + 1) (by omega) (by omega) (by omega) (by rw [e1, cA_s, ei, if_neg (by omega)]; exact hc) hb
        refine ⟨⟨by omega, g1.2⟩, fun j j0 j1 j2 => ?_, g3⟩
        by_cases cj : j = i
        · rw [cj] at j2; omega
        · exact g2 j (by omega) j1 j2
      · rw [if_neg c2]
        by_cases c3 : c < X.1 1
        · rw [if_pos c3]
          obtain ⟨g1, g2, g3⟩ := ih (c + 1) (i + 1) (by omega) (by omega) (by omega) (by rw [e1, cA_s, ei, if_pos (by omega), hc]) (by omega)
          refine ⟨⟨by omega, g1.2⟩, fun j j0 j1 j2 => ?_, g3⟩
          by_cases cj : j = i
          · rw [cj]; omega
          · exact g2 j (by omega) j1 j2
        · rw [if_neg c3]
          exact ⟨⟨Int.le_refl _, i1⟩, fun j j0 j1 => by omega, fun _ => ⟨by omega, by omega⟩⟩
    · rw [if_neg c1]
      exact ⟨⟨i1, Int.le_refl _⟩, fun j j0 j1 => by omega, fun hh => by omega⟩
theorem newA_s (hn : 0 ≤ hN e r) (hC0 : 0 ≤ hC e r) : (0 ≤ newA (pX e r) ∧ newA (pX e r) ≤ hN e r) ∧ (∀ j : Int, 0 ≤ j → j < newA (pX e r) → ek (eH e r j) ≤ 7 → cA (eH e r) j.toNat < hC e r) ∧ (newA (pX e r) < hN e r → ek (eH e r (newA (pX e r))) ≤ 7 ∧ hC e r ≤ cA (eH e r) (newA (pX e r)).toNat) := by
  have hx : (pX e r).1 0 = hN e r := rfl
  have h1 : (pX e r).1 1 = hC e r := rfl
  have := xNew_s (X := pX e r) (E := eH e r) (fun _ => rfl) (((pX e r).1 0).toNat + 1) 0 0 (by decide) (by omega) (by omega) rfl (by omega)
  rw [hx, h1] at this
  exact this
theorem xSig_s : ∀ (n : Nat) (i : Int), 0 ≤ i → (X.1 0 - i).toNat = n → (xSig X v n i = true ↔ ∃ j : Int, i ≤ j ∧ j < X.1 0 ∧ ek (X.2.1 j) = 4 ∧ ex (X.2.1 j) = v) := by
  intro n
  induction n with
  | zero =>
    intro i i0 h
    constructor
    · intro hh; exact absurd hh (by unfold xSig; decide)
    · rintro ⟨j, j0, j1, -⟩; omega
  | succ n ih =>
    intro i i0 h
    have hi : i < X.1 0 := by omega
    have g := ih (i + 1) (by omega) (by omega)
    have no : ¬ (ek (X.2.1 i) = 4 ∧ ex (X.2.1 i) = v) → (xSig X v n (i + 1) = true ↔ ∃ j : Int, i ≤ j ∧ j < X.1 0 ∧ ek (X.2.1 j) = 4 ∧ ex (X.2.1 j) = v) := fun hh => by
      rw [g]
      constructor
      · rintro ⟨j, j0, j1, j2⟩; exact ⟨j, by omega, j1, j2⟩
      · rintro ⟨j, j0, j1, j2⟩
        refine ⟨j, ?_, j1, j2⟩
        by_cases cj : j = i
        · rw [cj] at j2; exact absurd j2 hh
        · omega
    unfold xSig
    rw [if_pos hi]
    by_cases c : ek (X.2.1 i) = 4
    · rw [if_pos c]
      by_cases c2 : ex (X.2.1 i) = v
      · rw [if_pos c2]
        exact ⟨fun _ => ⟨i, Int.le_refl _, hi, c, c2⟩, fun _ => rfl⟩
      · rw [if_neg c2]
        exact no fun hh => c2 hh.2
    · rw [if_neg c]
      exact no fun hh => c hh.1
/-- a signal that no TASK counts is there -/
theorem newSig_s (hn : 0 ≤ hN e r) (hC0 : 0 ≤ hC e r) : newSig (pX e r) v = true ↔ ∃ j : Int, 0 ≤ j ∧ j < hN e r ∧ ek (eH e r j) = 4 ∧ ex (eH e r j) = v ∧ hC e r < cA (eH e r) (j + 1).toNat := by
  obtain ⟨⟨a0, a1⟩, a2, a3⟩ := newA_s hn hC0
  have hx : (pX e r).1 0 = hN e r := rfl
  unfold newSig
  rw [xSig_s (X := pX e r) _ _ a0 rfl]
  constructor
  · rintro ⟨j, j0, j1, j2, j3⟩
    rw [hx] at j1
    obtain ⟨b1, b2⟩ := a3 (by omega)
    have b3 := cA_m (E := eH e r) (newA (pX e r)).toNat j.toNat (by omega)
    have j2' : ek (eH e r j) = 4 := j2
    have b4 : cA (eH e r) (j + 1).toNat = cA (eH e r) j.toNat + 1 := by
      rw [show (j + 1).toNat = j.toNat + 1 by omega, cA_s, show ((j.toNat : Nat) : Int) = j by omega, if_pos (by omega)]
    exact ⟨j, by omega, j1, j2, j3, by omega⟩
  · rintro ⟨j, j0, j1, j2, j3, j4⟩
    refine ⟨j, ?_, j1, j2, j3⟩
    by_cases c : newA (pX e r) ≤ j
    · exact c
    · exfalso
      have b := a2 j j0 (by omega) (by omega)
      have b4 : cA (eH e r) (j + 1).toNat = cA (eH e r) j.toNat + 1 := by
        rw [show (j + 1).toNat = j.toNat + 1 by omega, cA_s, show ((j.toNat : Nat) : Int) = j by omega, if_pos (by omega)]
      omega
/-- a branch waits for the name -/
theorem wan5 {K : Int → Option Int} (h91 : m 68 91 = sg S 0 5) (h5 : 0 ≤ sg S 0 5 ∧ sg S 0 5 ≤ 12) (h145 : ∀ k : Int, 0 ≤ k → k < sg S 0 5 → (m 145 k = 2 ↔ sg S (2 + k) 7 = 3) ∧ (sg S (2 + k) 7 = 3 → m 146 k = sg S (2 + k) 8)) : ∀ (n f : Nat) (k : Int), 0 ≤ k → sg S 0 5 < k + n → 0 < n → n ≤ f → fl_X12_isWanted_5 r nm m K f 0 k = K (if sWfs S nm n k = true then 1 else 0) := by
  have one : ∀ (n f : Nat) (k : Int), 0 ≤ k → sg S 0 5 < k + n → 0 < n → n ≤ f → fl_X12_isWanted_5 r nm m K f 1 k = K 1 := by
    intro n
    induction n with
    | zero => intro f k k0 k1 hn; omega
    | succ n ih =>
      intro f k k0 k1 hn h2
      obtain ⟨f, rfl⟩ : ∃ g, f = g + 1 := ⟨f - 1, by omega⟩
      unfold fl_X12_isWanted_5
      rw [lx_p, h91]
      by_cases c : k < sg S 0 5
      · rw [if_pos c, if_neg (by decide), lx_p, w32_id (by omega) (by omega)]
        exact ih f (k + 1) (by omega) (by omega) (by omega) (by omega)
      · rw [if_neg c]
  intro n
  induction n with
  | zero => intro f k k0 k1 hn; omega
  | succ n ih =>
    intro f k k0 k1 hn h2
    obtain ⟨f, rfl⟩ : ∃ g, f = g + 1 := ⟨f - 1, by omega⟩
    unfold fl_X12_isWanted_5 sWfs
    rw [lx_p, h91]
    by_cases c : k < sg S 0 5
    · obtain ⟨q1, q2⟩ := h145 k k0 c
      rw [if_pos c, if_pos rfl, if_pos c, gd_t (by omega), lx_p]
      have go := ih f (k + 1) (by omega) (by omega) (by omega) (by omega)
      by_cases c2 : sg S (2 + k) 7 = 3
      · rw [if_pos (q1.mpr c2), lx_p, q2 c2]
        by_cases c3 : sg S (2 + k) 8 = nm
        · rw [if_pos c3, if_pos (show sg S (2 + k) 7 = 3 ∧ sg S (2 + k) 8 = nm from ⟨c2, c3⟩), lx_p, w32_id (by omega) (by omega), one n f (k + 1) (by omega) (by omega) (by omega) (by omega)]
          rfl
        · rw [if_neg c3, if_neg (show ¬ (sg S (2 + k) 7 = 3 ∧ sg S (2 + k) 8 = nm) from fun hh => c3 hh.2), lx_p, w32_id (by omega) (by omega)]
          exact go
      · rw [if_neg (fun hh => c2 (q1.mp hh)), if_neg (show ¬ (sg S (2 + k) 7 = 3 ∧ sg S (2 + k) 8 = nm) from fun hh => c2 hh.1), lx_p, w32_id (by omega) (by omega)]
        exact go
    · rw [if_neg c, if_neg c]
      rfl
theorem wan58 {K : Int → Option Int} (h : RXE m e) (hc : CN e) (r0 : 0 ≤ r) (r1 : r < e.1 7 2) (hn : 0 ≤ hN e r ∧ hN e r < 524288) (h119 : m 68 119 = hC e r) : ∀ (n f : Nat) (fl k : Int), 0 ≤ k → k ≤ hN e r → (hN e r - k).toNat = n → n < f → (fl = 0 ∨ fl = 1) → ∃ fl', fl_X12_isWanted_58 r nm m K f fl (cA (eH e r) k.toNat) k = K fl' ∧ (fl' = 0 ∨ fl' = 1) ∧ (fl' = 1 ↔ fl = 1 ∧ ¬ ∃ j : Int, k ≤ j ∧ j < hN e r ∧ ek (eH e r j) = 4 ∧ ex (eH e r j) = nm ∧ hC e r < cA (eH e r) (j + 1).toNat) := by
  have n7 := hc.1
  have k86 := (h.pr.1 r r0 r1).2.1.1
  intro n
  induction n with
  | zero =>
    intro f fl k k0 k1 h1 h2 hfl
    obtain ⟨f, rfl⟩ : ∃ g, f = g + 1 := ⟨f - 1, by omega⟩
    unfold fl_X12_isWanted_58
    rw [gd_t (by omega), lx_p, k86, if_neg (by omega)]
    exact ⟨fl, rfl, hfl, fun hh => ⟨hh, fun ⟨j, j0, j1, _⟩ => by omega⟩, fun hh => hh.1⟩
  | succ n ih =>
    intro f fl k k0 k1 h1 h2 hfl
    obtain ⟨f, rfl⟩ : ∃ g, f = g + 1 := ⟨f - 1, by omega⟩
    have hk : k < hN e r := by omega
    have e1 : (k + 1).toNat = k.toNat + 1 := by omega
    have ei : ((k.toNat : Nat) : Int) = k := by omega
    have bA := cA_b (E := eH e r) k.toNat
    -- on with a flag
    have on : ∀ fl1 : Int, (fl1 = 0 ∨ fl1 = 1) → (fl1 = 1 ↔ fl = 1 ∧ ¬ (ek (eH e r k) = 4 ∧ ex (eH e r k) = nm ∧ hC e r < cA (eH e r) (k + 1).toNat)) → ∃ fl', fl_X12_isWanted_58 r nm m K f fl1 (cA (eH e r) (k + 1).toNat) (k + 1) = K fl' ∧ (fl' = 0 ∨ fl' = 1) ∧ (fl' = 1 ↔ fl = 1 ∧ ¬ ∃ j : Int, k ≤ j ∧ j < hN e r ∧ ek (eH e r j) = 4 ∧ ex (eH e r j) = nm ∧ hC e r < cA (eH e r) (j + 1).toNat) := fun fl1 hf1 hf2 => by
      obtain ⟨fl', g1, g2, g3⟩ := ih f fl1 (k + 1) (by omega) (by omega) (by omega) (by omega) hf1
      refine ⟨fl', g1, g2, g3.trans ?_⟩
      rw [hf2]
      constructor
      · rintro ⟨⟨z1, z2⟩, z3⟩
        refine ⟨z1, fun ⟨j, j0, j1, j2⟩ => ?_⟩
        by_cases cj : j = k
        · rw [cj] at j2; exact z2 j2
        · exact z3 ⟨j, by omega, j1, j2⟩
      · rintro ⟨z1, z2⟩
        exact ⟨⟨z1, fun hh => z2 ⟨k, Int.le_refl _, hk, hh⟩⟩, fun ⟨j, j0, j1, j2⟩ => z2 ⟨j, by omega, j1, j2⟩⟩
    have h92 : ∀ z : Int, cA (eH e r) k.toNat + z = cA (eH e r) (k + 1).toNat → ∃ fl', fj_X12_isWanted_92 (fl_X12_isWanted_58 r nm m K f) K r nm fl k (ek (eH e r k)) z (cA (eH e r) k.toNat) m = K fl' ∧ (fl' = 0 ∨ fl' = 1) ∧ (fl' = 1 ↔ fl = 1 ∧ ¬ ∃ j : Int, k ≤ j ∧ j < hN e r ∧ ek (eH e r j) = 4 ∧ ex (eH e r j) = nm ∧ hC e r < cA (eH e r) (j + 1).toNat) := fun z hz => by
      have bA2 := cA_b (E := eH e r) (k + 1).toNat
      unfold fj_X12_isWanted_92
      rw [lx_p, hz, w32_id (z := cA (eH e r) (k + 1).toNat) (by omega) (by omega)]
      by_cases c1 : fl = 0
      · rw [if_pos c1, lx_p, w32_id (by omega) (by omega)]
        exact on 0 (Or.inl rfl) (by omega)
      · rw [if_neg c1]
        have f1 : fl = 1 := by omega
        by_cases c2 : ek (eH e r k) = 4
        · rw [if_pos c2, bp_t (h.xx r0 r1 k0 hk)]
          by_cases c3 : ex (eH e r k) = nm
          · rw [if_pos c3, lx_p, h119]
            by_cases c4 : hC e r < cA (eH e r) (k + 1).toNat
            · rw [if_pos c4, lx_p, w32_id (by omega) (by omega)]
              exact on 0 (Or.inl rfl) ⟨fun hh => by omega, fun hh => absurd ⟨c2, c3, c4⟩ hh.2⟩
            · rw [if_neg c4, lx_p, w32_id (by omega) (by omega)]
              exact on 1 (Or.inr rfl) ⟨fun _ => ⟨f1, fun hh => c4 hh.2.2⟩, fun _ => rfl⟩
          · rw [if_neg c3, lx_p, w32_id (by omega) (by omega)]
            exact on 1 (Or.inr rfl) ⟨fun _ => ⟨f1, fun hh => c3 hh.2.1⟩, fun _ => rfl⟩
        · rw [if_neg c2, lx_p, w32_id (by omega) (by omega)]
          exact on 1 (Or.inr rfl) ⟨fun _ => ⟨f1, fun hh => c2 hh.1⟩, fun _ => rfl⟩
    unfold fl_X12_isWanted_58
    rw [gd_t (by omega), lx_p, k86, if_pos hk, bp_t (h.kd r0 r1 k0 hk)]
    by_cases c7 : 7 < ek (eH e r k)
    · rw [if_pos c7]
      exact h92 0 (by rw [e1, cA_s, ei, if_neg (by omega)]; omega)
    · rw [if_neg c7]
      exact h92 1 (by rw [e1, cA_s, ei, if_pos (by omega)])
theorem x_update (h : RXE m e) (hc : CN e) (hP : P113 m) (hl : RLw e) (hf : RFw (pcUpdate p1 p2 p3 e).2) (hT : 0 ≤ p1 → p1 < e.1 7 2 → TlP e p1 (e.1 (7000 + p1) 3) ∧ WRun e p1) (hE : 0 ≤ p1 → p1 < e.1 7 2 → sg (qS e p1 (e.1 (7000 + p1) 3) 0) 0 30 = 0 → ND (qS e p1 (e.1 (7000 + p1) 3) 0) ∧ (sWfs (qS e p1 (e.1 (7000 + p1) 3) 0) p2 13 0 = true → sq (qS e p1 (e.1 (7000 + p1) 3) 0) p2 = [])) : OKp (fm_X12_update p1 p2 p3 m) cd3 (pcUpdate p1 p2 p3 e) := by
  have n7 := hc.1
  have h0 := h.th (q := 0) hc
  have no : ∀ (q : Int) (n : Nat), 0 < q → cd3 n = q → OKp (fj_X12_update_68 p1 p2 p3 q m) cd3 (rT n e) := fun q n hq hn => by
    unfold fj_X12_update_68
    rw [bd_t fails_e, if_pos hq, if_neg (show ¬ (1 : Int) = 0 by decide)]
    exact OKp.no h hc hP hn
  unfold fm_X12_update
  unfold pcUpdate at hf ⊢
  rw [bp_t (rIsR h hc)]
  by_cases c1 : 0 ≤ p1 ∧ p1 < e.1 7 2
  · rw [if_pos c1] at hf
    rw [if_pos c1, if_neg (show ¬ (1 : Int) = 0 by decide), if_pos c1, bp_t rIsN]
    by_cases c2 : 0 ≤ p2 ∧ p2 < 4
    · rw [if_pos c2] at hf
      rw [if_pos c2, if_neg (show ¬ (1 : Int) = 0 by decide), if_pos c2]
      unfold fj_X12_update_20
      rw [if_neg (show ¬ (1 : Int) = 0 by decide), bp_t rIsV]
      by_cases c3 : 0 ≤ p3 ∧ p3 < 1000
      · have kr := h.pr.1 p1 c1.1 c1.2
        rw [if_pos c3] at hf
        rw [if_pos c3, if_neg (show ¬ (1 : Int) = 0 by decide), if_pos c3, gd_t (by omega), lx_p, kr.1.2.2.2.1]
        by_cases c4 : e.1 (7000 + p1) 6 = 0
        · rw [if_pos c4, lx_p, kr.2.1.1]
          by_cases c5 : hN e p1 < 100
          · rw [if_pos (show e.1 (7000 + p1) 6 = 0 ∧ hN e p1 < 100 from ⟨c4, c5⟩)] at hf
            rw [if_pos c5, if_pos (show e.1 (7000 + p1) 6 = 0 ∧ hN e p1 < 100 from ⟨c4, c5⟩)]
            obtain ⟨t1, t2⟩ := hT c1.1 c1.2
            have hn0 : 0 ≤ hN e p1 := t1.1.2.2.2.2.1
            have hC0 := t1.2.1.1
            have k82 : mset m 68 129 0 82 p1 = e.1 (7000 + p1) 3 := (h0.pr.1 p1 c1.1 c1.2).1.2.2.1
            obtain ⟨m', g1, g2, g3, g4, g5, g6⟩ := rSafe h0 hc hP.th t1 t2.1 c1.1 c1.2 t2.2.2.1.1 t2.2.2.1.2
            have hq : EQM e (qM e p1 (e.1 (7000 + p1) 3) 0) := qm_eq
            have h1 := g4.eqm hc hq
            have hc1 := hc.eqm hq
            have e129 : m' 68 129 = 0 := by rw [g5]; exact ms_e
            obtain ⟨S, hS⟩ : ∃ S, S = qS e p1 (e.1 (7000 + p1) 3) 0 := ⟨_, rfl⟩
            rw [← hS] at g1 g2 hf ⊢
            have nope : OKp (fj_X12_update_104 p1 p2 p3 0 m') cd3 (.inl 0, qM e p1 (e.1 (7000 + p1) 3) 0) := by
              unfold fj_X12_update_104
              rw [if_pos (show (0 : Int) = 0 from rfl), gd_t (Or.inl rfl)]
              exact OKp.fin h1 g3 e129
            unfold fj_X12_update_68
            rw [bd_t fails_e, if_neg (show ¬ (0 : Int) < 0 by decide), if_pos (show (0 : Int) = 0 from rfl), gd_t (by omega), lx_p, k82, bd_t g1]
            by_cases c6 : sg S 0 30 = 0
            · rw [if_pos c6, if_neg (show ¬ (1 : Int) = 0 by decide)]
              obtain ⟨nd, em⟩ := hE c1.1 c1.2 (by rw [← hS]; exact c6)
              rw [← hS] at nd em
              -- whether it is wanted
              have wan : fm_X12_isWanted p1 p2 m' = some (if ¬ newSig (pX e p1) p2 = true ∧ sWfs S p2 13 0 = true then 1 else 0) := by
                obtain ⟨-, -, hfin⟩ := g2
                rcases hfin with ⟨z1, ⟨v, E, z2⟩, z3⟩ | ⟨z1, -⟩
                · obtain ⟨zT, zS, zV, zP, zB, zQ, -⟩ := z2
                  have s5 : sg (st S 0 29 v) 0 5 = sg S 0 5 := by rw [st_g, if_neg (by omega)]
                  have sk : ∀ k j : Int, 0 ≤ k → sg (st S 0 29 v) (2 + k) j = sg S (2 + k) j := fun k j k0 => by rw [st_g, if_neg (by omega)]
                  have b5 := zB.1
                  rw [s5] at b5
                  have wv := wan5 (r := p1) (nm := p2) (m := m') (S := S) (K := fun x_130 => fl_X12_isWanted_58 p1 p2 m' (fun x_349 => if x_349 = 0 then some 0 else gd (0 ≤ p2 ∧ p2 < 4) <| lx (m' 156 p2) fun x_372 => lx (m' 155 p2) fun x_380 => if x_372 = x_380 then some 1 else some 0) BIG x_130 0 0) (by rw [← s5]; exact zS.1) b5 (fun k k0 k1 => by
                    have hb := (zB.2 k k0 (by rw [s5]; exact k1)).2.2.2.2.2.2.2
                    rw [sk k 9 k0, sk k 7 k0, sk k 8 k0] at hb
                    obtain ⟨y1, y2, -⟩ := hb (nd k k0 k1)
                    refine ⟨?_, fun hh => y2 (Or.inr (Or.inr hh))⟩
                    rw [y1]
                    exact wmp2) 13 BIG 0 (by decide) (by omega) (by decide) (Nat.le_of_lt (BIG_g (by decide)))
                  obtain ⟨fl', u1, u2, u3⟩ := wan58 (nm := p2) (K := fun x_349 => if x_349 = 0 then some 0 else gd (0 ≤ p2 ∧ p2 < 4) <| lx (m' 156 p2) fun x_372 => lx (m' 155 p2) fun x_380 => if x_372 = x_380 then some 1 else some 0) g4 hc c1.1 c1.2 ⟨hn0, by omega⟩ g6 (hN e p1 - 0).toNat BIG (if sWfs S p2 13 0 = true then 1 else 0) 0 (by decide) hn0 rfl (BIG_g (by omega)) (by split <;> omega)
                  have u1' : fl_X12_isWanted_58 p1 p2 m' (fun x_349 => if x_349 = 0 then some 0 else gd (0 ≤ p2 ∧ p2 < 4) <| lx (m' 156 p2) fun x_372 => lx (m' 155 p2) fun x_380 => if x_372 = x_380 then some 1 else some 0) BIG (if sWfs S p2 13 0 = true then 1 else 0) 0 0 = _ := u1
                  unfold fm_X12_isWanted
                  rw [wv, u1']
                  have ns := newSig_s (v := p2) hn0 hC0
                  by_cases cw : sWfs S p2 13 0 = true
                  · rw [if_pos cw] at u3
                    by_cases cs : newSig (pX e p1) p2 = true
                    · have : fl' = 0 := by
                        rcases u2 with u2 | u2
                        · exact u2
                        · exact absurd (ns.mp cs) (u3.mp u2).2
                      rw [this, if_pos rfl, if_neg (fun hh => hh.1 cs)]
                    · have : fl' = 1 := u3.mpr ⟨rfl, fun hh => cs (ns.mpr hh)⟩
                      obtain ⟨y1, y2, y3, -⟩ := zQ p2 c2.1 c2.2
                      have y4 : sq (st S 0 29 v) p2 = [] := em cw
                      rw [y4] at y3
                      have y5 : m' 155 p2 = m' 156 p2 := by rw [y3]; show m' 156 p2 + ((0 : Nat) : Int) = _; omega
                      rw [this, if_neg (by decide), gd_t c2, lx_p, lx_p, y5, if_pos rfl, if_pos ⟨cs, cw⟩]
                  · rw [if_neg cw] at u3
                    have : fl' = 0 := by
                      rcases u2 with u2 | u2
                      · exact u2
                      · exact absurd (u3.mp u2).1 (by decide)
                    rw [this, if_pos rfl, if_neg (fun hh => cw hh.2)]
                · omega
              rw [bp_t wan]
              by_cases cc : ¬ newSig (pX e p1) p2 = true ∧ sWfs S p2 13 0 = true
              · rw [if_pos (show sg S 0 30 = 0 ∧ ¬ newSig (pX e p1) p2 = true ∧ sWfs S p2 13 0 = true from ⟨c6, cc⟩)] at hf
                rw [if_pos cc, if_neg (show ¬ (1 : Int) = 0 by decide), if_pos (show sg S 0 30 = 0 ∧ ¬ newSig (pX e p1) p2 = true ∧ sWfs S p2 13 0 = true from ⟨c6, cc⟩)]
                have s1 : ∀ a j : Int, a ≠ 16 → (qM e p1 (e.1 (7000 + p1) 3) 0).1 a j = e.1 a j := hq.1
                have hl1 : RLw (qM e p1 (e.1 (7000 + p1) 3) 0) := by
                  obtain ⟨q1, q2, q3, q4⟩ := hl
                  refine ⟨by rw [s1 _ _ (by omega)]; exact q1, by rw [s1 _ _ (by omega)]; exact q2, by rw [s1 _ _ (by omega), s1 _ _ (by omega)]; exact q3, fun i i0 i1 => ?_⟩
                  rw [s1 _ _ (by omega)] at i1
                  show 0 ≤ (qM e p1 (e.1 (7000 + p1) 3) 0).1 (71000 + i) 1
                  rw [s1 _ _ (by omega)]
                  exact q4 i i0 i1
                obtain ⟨m2, u1, u2, u3⟩ := h1.arr2 (r := p1) (k := 4) (x := p2) (y := p3) hc1 hl1 hf c1.1 (by rw [s1 _ _ (by omega)]; exact c1.2) (fun hh => by
                  unfold Dead at hh
                  rw [s1 _ _ (by omega)] at hh
                  exact hh.1 c4) (by decide) (by decide) c2.1 (by omega) c3.1 (by omega)
                have k86 : hN (qM e p1 (e.1 (7000 + p1) 3) 0) p1 = hN e p1 := s1 _ _ (by omega)
                have hP2 : P113 m2 := by
                  have := (fw_X12_puts g3.1 u1).fix
                  exact ⟨this, by rw [u3.2 _ (by decide)]; exact g3.2.1, by rw [u3.2 _ (by decide)]; exact g3.2.2⟩
                unfold fj_X12_update_104
                rw [if_neg (show ¬ (1 : Int) = 0 by decide), bd_t u1, gd_t (Or.inr rfl)]
                exact OKp.fin u2 hP2 (by rw [u3.2 _ (by decide)]; exact e129)
              · rw [if_neg cc, if_pos (show (0 : Int) = 0 from rfl), if_neg (show ¬ (sg S 0 30 = 0 ∧ ¬ newSig (pX e p1) p2 = true ∧ sWfs S p2 13 0 = true) from fun hh => cc hh.2)]
                exact nope
            · rw [if_neg c6, if_pos (show (0 : Int) = 0 from rfl), if_neg (show ¬ (sg S 0 30 = 0 ∧ ¬ newSig (pX e p1) p2 = true ∧ sWfs S p2 13 0 = true) from fun hh => c6 hh.1)]
              exact nope
          · rw [if_neg c5, if_neg (show ¬ (e.1 (7000 + p1) 6 = 0 ∧ hN e p1 < 100) from fun hh => c5 hh.2)]
            exact no 3 2 (by decide) rfl
        · rw [if_neg c4, if_neg (show ¬ (e.1 (7000 + p1) 6 = 0 ∧ hN e p1 < 100) from fun hh => c4 hh.1)]
          exact no 3 2 (by decide) rfl
      · rw [if_neg c3, if_pos (show (0 : Int) = 0 from rfl), if_neg c3]
        exact no 2 1 (by decide) rfl
    · rw [if_neg c2, if_pos (show (0 : Int) = 0 from rfl), if_neg c2]
      unfold fj_X12_update_20
      rw [if_pos (show (0 : Int) = 0 from rfl)]
      exact no 1 0 (by decide) rfl
  · rw [if_neg c1, if_pos (show (0 : Int) = 0 from rfl), if_neg c1]
    unfold fj_X12_update_20
    rw [if_pos (show (0 : Int) = 0 from rfl)]
    exact no 1 0 (by decide) rfl
end RXN1
