/-! THE REFERENCE'S CALLS: work of a history begins anew. -/
section RXU6
variable {m m' M m1 : MM} {e e' e2 : ES} {a b c i j k o r v w p t s x y n q A B N u z : Int} {l L : List Int}
/-- a bit of a word -/
def bt (u q : Int) : Prop := iAnd (iShr u q) 1 = 1
theorem sh32 : ∀ k : Fin 32, ((Int32.ofInt (k.val : Int) &&& 31).toBitVec.smod 32).toNat = k.val := by decide
theorem bt_e (q0 : 0 ≤ q) (q1 : q < 32) : bt u q ↔ (Int32.ofInt u).toBitVec.getLsbD q.toNat = true := by
  obtain ⟨k, hk⟩ : ∃ k : Fin 32, q = (k.val : Int) := ⟨⟨q.toNat, by omega⟩, by show q = ((q.toNat : Nat) : Int); omega⟩
  subst hk
  unfold bt iAnd iShr
  simp only [Int32.ofInt_toInt]
  rw [and1_b, Int32.toBitVec_shiftRight, BitVec.sshiftRight_eq', BitVec.getLsbD_sshiftRight, sh32 k]
  have h32 : k.val < 32 := k.isLt
  rw [show k.val + 0 = k.val by omega, show ((k.val : Int)).toNat = k.val by omega]
  simp only [if_pos h32]
  rw [show (!decide (32 ≤ 0)) = true from rfl, Bool.true_and]
  by_cases c : (Int32.ofInt u).toBitVec.getLsbD k.val = true
  · rw [if_pos c]
    exact ⟨fun _ => c, fun _ => rfl⟩
  · rw [if_neg c]
    exact ⟨fun h => absurd h (by decide), fun h => absurd h c⟩
theorem one_sh : ∀ p q : Fin 32, (Int32.ofInt 1 <<< (Int32.ofInt (p.val : Int) &&& 31)).toBitVec.getLsbD q.val = decide (q.val = p.val) := by decide
theorem bt_or (p0 : 0 ≤ p) (p1 : p < 32) (q0 : 0 ≤ q) (q1 : q < 32) : bt (iOr u (iShl 1 p)) q ↔ (q = p ∨ bt u q) := by
  rw [bt_e q0 q1, bt_e q0 q1]
  obtain ⟨k, hk⟩ : ∃ k : Fin 32, q = (k.val : Int) := ⟨⟨q.toNat, by omega⟩, by show q = ((q.toNat : Nat) : Int); omega⟩
  obtain ⟨g, hg⟩ : ∃ k : Fin 32, p = (k.val : Int) := ⟨⟨p.toNat, by omega⟩, by show p = ((p.toNat : Nat) : Int); omega⟩
  subst hk
  subst hg
  unfold iOr iShl
  simp only [Int32.ofInt_toInt]
  rw [Int32.toBitVec_or, BitVec.getLsbD_or, show ((k.val : Int)).toNat = k.val by omega, one_sh g k, Bool.or_eq_true, decide_eq_true_eq]
  constructor
  · intro h
    rcases h with h | h
    · exact Or.inr h
    · exact Or.inl (by omega)
  · intro h
    rcases h with h | h
    · exact Or.inr (by omega)
    · exact Or.inl h
theorem bt_0 (q0 : 0 ≤ q) (q1 : q < 32) : ¬ bt 0 q := by
  rw [bt_e q0 q1]
  show ¬ (0#32).getLsbD q.toNat = true
  simp
def F97 (m m' : MM) : Prop := ∀ a j : Int, a ≠ 97 → m' a j = m a j
theorem F97.rx (g : F97 m m') (h : RXE m e) (hc : CN e) : RXE m' e := h.fr hc (fun b i _ g2 _ _ => g b i g2) (fun _ _ _ => rfl) ⟨rfl, rfl⟩
def KB (k : Int) : Prop := k = 1 ∨ k = 2 ∨ k = 3 ∨ k = 11
/-- what has come back by a place -/
def MK (e : ES) (r y j : Int) : Prop := ∃ k : Int, 0 ≤ k ∧ k < y ∧ KB (ek (eH e r k)) ∧ ex (eH e r k) = j
theorem td32 (h : 0 ≤ x) (h1 : x < 1000000) : w32 (Int.tdiv x 32) = x / 32 := by
  rw [Int.tdiv_eq_ediv_of_nonneg h]
  exact w32_id (by omega) (by omega)
theorem mk2 (hN0 : 0 ≤ hN e r ∧ hN e r < 524288) {K : MM → Option (Int × MM)} (r0 : 0 ≤ r) (r1 : r < 30) : ∀ (n f : Nat) (y : Int) (m1 : MM), F97 m m1 → m 86 r = hN e r → (hN e r / 32 + 1 - y).toNat = n → n < f → 0 ≤ y → (∀ i : Int, 0 ≤ i → i < y → m1 97 i = 0) → ∃ m', fl_X12_marks_2 r K f y m1 = K m' ∧ F97 m m' ∧ ∀ i : Int, 0 ≤ i → i ≤ hN e r / 32 → m' 97 i = 0 := by
  intro n
  induction n with
  | zero =>
    intro f y m1 h h86 hn hf y0 hz
    obtain ⟨f, rfl⟩ : ∃ g, f = g + 1 := ⟨f - 1, by omega⟩
    refine ⟨m1, ?_, h, fun i i0 i1 => hz i i0 (by omega)⟩
    unfold fl_X12_marks_2
    rw [gd_t (by omega), lx_p, h 86 r (by decide), h86, td32 hN0.1 (by omega), if_pos (by omega)]
  | succ n ih =>
    intro f y m1 h h86 hn hf y0 hz
    obtain ⟨f, rfl⟩ : ∃ g, f = g + 1 := ⟨f - 1, by omega⟩
    obtain ⟨m', g1, g2, g3⟩ := ih f (y + 1) (mset m1 97 y 0) (fun a j ha => (ms_a ha).trans (h a j ha)) h86 (by omega) (by omega) (by omega) (fun i i0 i1 => by
      by_cases c : i = y
      · rw [c]; exact ms_e
      · rw [ms_j c]; exact hz i i0 (by omega))
    refine ⟨m', ?_, g2, g3⟩
    unfold fl_X12_marks_2
    rw [gd_t (by omega), lx_p, h 86 r (by decide), h86, td32 hN0.1 (by omega), if_neg (by omega), gd_t (by omega), up_t, lx_p, w32_id (z := y + 1) (by omega) (by omega)]
    exact g1
theorem mk30 (h : RXE m e) (hc : CN e) (hN0 : 0 ≤ hN e r ∧ hN e r < 524288) (r0 : 0 ≤ r) (r1 : r < e.1 7 2) : ∀ (n f : Nat) (y : Int) (m1 : MM), F97 m m1 → (hN e r - y).toNat = n → n < f → 0 ≤ y → y ≤ hN e r → (∀ j : Int, 0 ≤ j → j < hN e r → (bt (m1 97 (j / 32)) (j % 32) ↔ MK e r y j)) → ∃ m', fl_X12_marks_30 r f y m1 = some (0, m') ∧ F97 m m' ∧ ∀ j : Int, 0 ≤ j → j < hN e r → (bt (m' 97 (j / 32)) (j % 32) ↔ MK e r (hN e r) j) := by
  have n7 := hc.1
  have k86 : m 86 r = hN e r := (h.pr.1 r r0 r1).2.1.1
  intro n
  induction n with
  | zero =>
    intro f y m1 g hn hf y0 y1 hb
    obtain ⟨f, rfl⟩ : ∃ g, f = g + 1 := ⟨f - 1, by omega⟩
    have ey' : y = hN e r := by omega
    refine ⟨m1, ?_, g, by rw [ey'] at hb; exact hb⟩
    unfold fl_X12_marks_30
    rw [gd_t (by omega), lx_p, g 86 r (by decide), k86, if_neg (by omega)]
  | succ n ih =>
    intro f y m1 g hn hf y0 y1 hb
    obtain ⟨f, rfl⟩ : ∃ g, f = g + 1 := ⟨f - 1, by omega⟩
    have h1 := g.rx h hc
    have hy : y < hN e r := by omega
    have hk := h1.kd r0 r1 y0 hy
    have hx := h1.xx r0 r1 y0 hy
    have bx := (h1.kb r0 r1 y0 hy).2.1
    have nxt : ∀ j : Int, MK e r (y + 1) j ↔ (MK e r y j ∨ (KB (ek (eH e r y)) ∧ ex (eH e r y) = j)) := fun j => by
      constructor
      · rintro ⟨k, k0, k1, k2, k3⟩
        by_cases c : k = y
        · subst c; exact Or.inr ⟨k2, k3⟩
        · exact Or.inl ⟨k, k0, by omega, k2, k3⟩
      · rintro (⟨k, k0, k1, k2, k3⟩ | ⟨k2, k3⟩)
        · exact ⟨k, k0, by omega, k2, k3⟩
        · exact ⟨y, y0, by omega, k2, k3⟩
    by_cases c : KB (ek (eH e r y))
    · obtain ⟨X, hX⟩ : ∃ X, X = ex (eH e r y) := ⟨_, rfl⟩
      rw [← hX] at hx bx nxt
      have st : ∀ j : Int, 0 ≤ j → j < hN e r → (bt (mset m1 97 (X / 32) (iOr (m1 97 (X / 32)) (iShl 1 (X % 32))) 97 (j / 32)) (j % 32) ↔ MK e r (y + 1) j) := fun j j0 j1 => by
        rw [nxt j]
        by_cases cj : j / 32 = X / 32
        · rw [cj, ms_e, bt_or (by omega) (by omega) (by omega) (by omega), ← cj, hb j j0 j1]
          constructor
          · rintro (q | q)
            · exact Or.inr ⟨c, by omega⟩
            · exact Or.inl q
          · rintro (q | ⟨_, q⟩)
            · exact Or.inr q
            · exact Or.inl (by omega)
        · rw [ms_j cj, hb j j0 j1]
          constructor
          · exact Or.inl
          · rintro (q | ⟨_, q⟩)
            · exact q
            · exact absurd (by rw [q]) cj
      obtain ⟨m', g1, g2, g3⟩ := ih f (y + 1) (mset m1 97 (X / 32) (iOr (m1 97 (X / 32)) (iShl 1 (X % 32)))) (fun a j ha => (ms_a ha).trans (g a j ha)) (by omega) (by omega) (by omega) (by omega) st
      have step : fj_X12_marks_68 (fl_X12_marks_30 r f) r y m1 = some (0, m') := by
        unfold fj_X12_marks_68
        rw [bp_t hx, lx_p, td32 (by omega) (by omega), gd_t (by omega), lx_p, show Int.tmod X 32 = X % 32 from Int.tmod_eq_emod_of_nonneg bx.1, up_t, lx_p, w32_id (z := y + 1) (by omega) (by omega)]
        exact g1
      refine ⟨m', ?_, g2, g3⟩
      unfold fl_X12_marks_30
      rw [gd_t (by omega), lx_p, g 86 r (by decide), k86, if_pos hy, bp_t hk]
      unfold KB at c
      by_cases c1 : ek (eH e r y) = 1
      · rw [if_pos c1]; exact step
      rw [if_neg c1]
      by_cases c2 : ek (eH e r y) = 2
      · rw [if_pos c2]; exact step
      rw [if_neg c2]
      by_cases c3 : ek (eH e r y) = 3
      · rw [if_pos c3]; exact step
      rw [if_neg c3, if_pos (by omega)]
      exact step
    · obtain ⟨m', g1, g2, g3⟩ := ih f (y + 1) m1 g (by omega) (by omega) (by omega) (by omega) (fun j j0 j1 => by
        rw [hb j j0 j1, nxt j]
        exact ⟨Or.inl, fun q => q.resolve_right fun q => c q.1⟩)
      refine ⟨m', ?_, g2, g3⟩
      unfold fl_X12_marks_30
      unfold KB at c
      rw [gd_t (by omega), lx_p, g 86 r (by decide), k86, if_pos hy, bp_t hk, if_neg (by omega), if_neg (by omega), if_neg (by omega), if_neg (by omega), lx_p, w32_id (z := y + 1) (by omega) (by omega)]
      exact g1
theorem rMarks (h : RXE m e) (hc : CN e) (hN0 : 0 ≤ hN e r ∧ hN e r < 524288) (r0 : 0 ≤ r) (r1 : r < e.1 7 2) : ∃ m', fm_X12_marks r m = some (0, m') ∧ F97 m m' ∧ ∀ j : Int, 0 ≤ j → j < hN e r → (bt (m' 97 (j / 32)) (j % 32) ↔ MK e r (hN e r) j) := by
  have n7 := hc.1
  have k86 : m 86 r = hN e r := (h.pr.1 r r0 r1).2.1.1
  obtain ⟨m1, g1, g2, g3⟩ := mk2 (e := e) (r := r) hN0 (K := fun m_54 => fl_X12_marks_30 r BIG 0 m_54) r0 (by omega) (hN e r / 32 + 1 - 0).toNat BIG 0 m (fun _ _ _ => rfl) k86 rfl (BIG_g (by omega)) (Int.le_refl _) (fun i i0 i1 => by omega)
  obtain ⟨m2, u1, u2, u3⟩ := mk30 h hc hN0 r0 r1 (hN e r - 0).toNat BIG 0 m1 g2 rfl (BIG_g (by omega)) (Int.le_refl _) hN0.1 (fun j j0 j1 => by
    rw [g3 _ (by omega) (by omega)]
    exact ⟨fun q => absurd q (bt_0 (by omega) (by omega)), fun ⟨k, k0, k1, _⟩ => by omega⟩)
  refine ⟨m2, ?_, u2, u3⟩
  unfold fm_X12_marks
  rw [g1]
  exact u1
theorem rBack (j0 : 0 ≤ j) (j1 : j < 524288) : fm_X12_isBack j m = some (if iAnd (iShr (m 97 (j / 32)) (j % 32)) 1 = 1 then 1 else 0) := by
  unfold fm_X12_isBack
  rw [td32 j0 (by omega), gd_t (by omega), lx_p, show Int.tmod j 32 = j % 32 from Int.tmod_eq_emod_of_nonneg j0]
  split <;> rfl
/-- whether something of its has come back, as the class asks it -/
theorem xEnd_i {x : CX} : ∀ (n : Nat) (i : Int), (x.1 0 - i).toNat = n → (xEnd x v n i = true ↔ ∃ k : Int, i ≤ k ∧ k < x.1 0 ∧ KB (ek (x.2.1 k)) ∧ ex (x.2.1 k) = v) := by
  intro n
  induction n with
  | zero =>
    intro i hn
    exact ⟨fun h => absurd h (by unfold xEnd; simp), fun ⟨k, k0, k1, _⟩ => by omega⟩
  | succ n ih =>
    intro i hn
    unfold xEnd
    rw [if_pos (by omega)]
    by_cases c : ex (x.2.1 i) = v ∧ (ek (x.2.1 i) = 1 ∨ ek (x.2.1 i) = 2 ∨ ek (x.2.1 i) = 3 ∨ ek (x.2.1 i) = 11)
    · rw [if_pos c]
      exact ⟨fun _ => ⟨i, Int.le_refl _, by omega, c.2, c.1⟩, fun _ => rfl⟩
    · rw [if_neg c, ih (i + 1) (by omega)]
      constructor
      · rintro ⟨k, k0, k1, k2, k3⟩
        exact ⟨k, by omega, k1, k2, k3⟩
      · rintro ⟨k, k0, k1, k2, k3⟩
        by_cases ck : k = i
        · subst ck; exact absurd ⟨k3, k2⟩ c
        · exact ⟨k, by omega, k1, k2, k3⟩
theorem ended_i : ended (pX e r) v = true ↔ ∃ k : Int, v + 1 ≤ k ∧ k < hN e r ∧ KB (ek (eH e r k)) ∧ ex (eH e r k) = v := xEnd_i (x := pX e r) _ _ rfl
/-- arrivals and drops speak of what came before -/
def Bef (e : ES) (r : Int) : Prop := ∀ k : Int, 0 ≤ k → k < hN e r → KB (ek (eH e r k)) → ex (eH e r k) < k
theorem ended_k (h : Bef e r) (v0 : 0 ≤ v) : ended (pX e r) v = true ↔ MK e r (hN e r) v := by
  rw [ended_i]
  constructor
  · rintro ⟨k, k0, k1, k2, k3⟩
    exact ⟨k, by omega, k1, k2, k3⟩
  · rintro ⟨k, k0, k1, k2, k3⟩
    have := h k k0 k1 k2
    exact ⟨k, by omega, k1, k2, k3⟩
end RXU6
