/-! THE ENGINE: a row becomes the first of another: it shares the full parts. -/
section BFS
variable {m m' M : MM} {r o a b i j v n z y P T S2 q f NT OT : Int} {l : List Int}
theorem cpR_s {p : Int} (c : i < S2) : cpR (mset M NT i (M OT i)) NT OT (i + 1) S2 = cpR M NT OT i S2 ∨ NT = OT := by
  by_cases e : NT = OT
  · exact Or.inr e
  · left
    funext x j
    show (if x = NT ∧ i + 1 ≤ j ∧ j < S2 then mset M NT i (M OT i) OT j else if x = NT ∧ j = i then M OT i else M x j) = if x = NT ∧ i ≤ j ∧ j < S2 then M OT j else M x j
    by_cases c1 : x = NT ∧ i ≤ j ∧ j < S2
    · rw [if_pos c1]
      by_cases c2 : j = i
      · rw [if_neg (by omega), if_pos ⟨c1.1, c2⟩, c2]
      · rw [if_pos ⟨c1.1, by omega, c1.2.2⟩, ms_a (Ne.symm e)]
    · rw [if_neg c1, if_neg (by omega), if_neg (by omega)]
theorem cpR_0 (c : S2 ≤ i) : cpR M NT OT i S2 = M := by
  funext x j
  show (if x = NT ∧ i ≤ j ∧ j < S2 then M OT j else M x j) = M x j
  rw [if_neg (by omega)]
/-- the parts are shared -/
theorem first_loop {k : MM → Option (Int × MM)} (hNO : NT ≠ OT) (hrN : r ≠ NT) (hoN : o ≠ NT) (hN : 4 ≤ NT) : ∀ (n : Nat) (i : Int) (M : MM), 0 ≤ i → i ≤ f → M r 0 = NT → M o 0 = OT → okc M o 6 → okc M OT 108 → okc M NT 108 → f ≤ M OT (-2) → f < M NT (-2) → f < 8388608 → (∀ i : Int, 0 ≤ i → i < f → okc M (M OT i) 101) → Fix M → f - i < n → fl_X5_becomeFirst_41 r o z f k n i M = k (cpR M NT OT i f) ∧ Fix (cpR M NT OT i f) ∧ Ext M (cpR M NT OT i f) := by
  intro n
  induction n with
  | zero => intro i M i0 i1 _ _ _ _ _ _ _ _ _ _ hn; omega
  | succ n ih =>
    intro i M i0 i1 h1 h2 h3 h4 h5 h6 h7 h8 h9 hF hn
    unfold fl_X5_becomeFirst_41
    by_cases c : i < f
    · have hx : Ext M (mset M NT i (M OT i)) := mset_ext hN i0
      have hr := ih (i + 1) (mset M NT i (M OT i)) (by omega) (by omega) (by rw [ms_a hrN]; exact h1) (by rw [ms_a hoN]; exact h2) (hx.ok h3) (hx.ok h4) (hx.ok h5) (by rw [ms_a (Ne.symm hNO)]; exact h6) (by rw [ms_j (by omega)]; exact h7) h8 (fun i' a0 a1 => by rw [ms_a (Ne.symm hNO)]; exact hx.ok (h9 i' a0 a1)) (fx_a hF h5 i0 (by decide)) (by omega)
      rw [(cpR_s (p := 0) c).resolve_right hNO] at hr
      simp only [lx_p]
      rw [if_pos c, gd_t h3, h2, gd_t h4, gd_t ⟨i0, by omega⟩, h1, gd_t h5, gd_t ⟨i0, by omega⟩, gd_t (Or.inr (h9 i i0 c)), up_t, w32_id (by omega) (by omega)]
      exact ⟨hr.1, hr.2.1, hx.tr hr.2.2⟩
    · rw [if_neg c, cpR_0 (by omega)]
      exact ⟨rfl, hF, Ext.rf M⟩
/-- the rest is written anew -/
theorem first_rest (hr : 163 ≤ r) {lo : List Int} (ho : RowIs m o lo) (hro : ¬ Fp m o r) (hll : lo.length < 268435456) (z1 : z ≤ lo.length) {Sf : Int → Prop} : ∀ (n : Nat) (y : Int) (M : MM), 0 ≤ y → y ≤ z → RowIs M r (lo.take y.toNat) → Fix M → Ext m M → (∀ a j : Int, a < m 0 0 → a ≠ 0 → a ≠ r → M a j = m a j) → (∀ a, Op M r a → a = r ∨ m 0 0 ≤ a) → (∀ a, Sh M r a → Sf a) → ((∃ L : List Int, HP M r L ∧ 64 * (L.length : Int) ≤ y - f + md y) ∧ 32 * M (M r 0) (-2) ≤ z + 64) → z - y < n → ∃ m', fl_X5_becomeFirst_89 r o z n y M = some (0, m') ∧ RowIs m' r (lo.take z.toNat) ∧ Fix m' ∧ Ext m m' ∧ (∀ a j : Int, a < m 0 0 → a ≠ 0 → a ≠ r → m' a j = m a j) ∧ (∀ a, Op m' r a → a = r ∨ m 0 0 ≤ a) ∧ (∀ a, Sh m' r a → Sf a) ∧ (∃ L : List Int, HP m' r L ∧ 64 * (L.length : Int) ≤ z - f + md z) ∧ 32 * m' (m' r 0) (-2) ≤ z + 64 := by
  intro n
  induction n with
  | zero => intro y M y0 y1 _ _ _ _ _ _ _ hn; omega
  | succ n ih =>
    intro y M y0 y1 hM hF hx h1 h2 h3 hL hn
    unfold fl_X5_becomeFirst_89
    by_cases c : y < z
    · have hoM := (ho.fr hx fun a j ha _ => h1 a j (ha.lt ho.1).2 (by have := (ha.lt ho.1).1; omega) (fun e => hro (e ▸ ha))).1
      have hlt : y.toNat < lo.length := by omega
      have hw := wide_get hoM (List.getElem?_eq_getElem hlt)
      rw [show ((y.toNat : Nat) : Int) = y by omega] at hw
      obtain ⟨a1, a2, a3, a4, a5, -⟩ := add_ok (v := lo[y.toNat]) hF hM (by rw [List.length_take]; omega)
      obtain ⟨p1, p2, p3⟩ := add_own (v := lo[y.toNat]) hF.1 hM (by rw [List.length_take]; omega)
      have aR := add_rm (v := lo[y.toNat]) hF.1 hM (by rw [List.length_take]; omega)
      have sz : M r 2 = y := by rw [hM.2.2.1, List.length_take]; omega
      have e : lo.take y.toNat ++ [lo[y.toNat]] = lo.take (y + 1).toNat := by
        rw [show (y + 1).toNat = y.toNat + 1 by omega, List.take_succ, List.getElem?_eq_getElem hlt]
        rfl
      rw [e] at a2
      have hg := hx.1
      rw [if_pos c, gd_t hoM.1.1, bp_t hw, bd_t a1, lx_p, w32_id (by omega) (by omega)]
      refine ih (y + 1) _ (by omega) (by omega) a2 a5 (hx.tr a3.1) (fun a j b1 b2 b3 => ?_) (fun a ha => ?_) (fun a ha => h3 a ((p3 a).mp ha)) ?_ (by omega)
      · rw [p1 a j (by omega) b2 fun g => (h2 a g).elim b3 fun w => by omega]
        exact h1 a j b1 b2 b3
      · rcases p2 a ha with g | g
        · exact h2 a g
        · exact Or.inr (by omega)
      · obtain ⟨⟨L, u1, u2⟩, u3⟩ := hL
        obtain ⟨L', w1, w2⟩ := aR.2.1 L u1
        rw [sz] at w2
        refine ⟨⟨L', w1, by omega⟩, ?_⟩
        have := aR.2.2
        rw [sz] at this
        omega
    · rw [if_neg c]
      have e : y = z := by omega
      subst e
      exact ⟨M, rfl, hM, hF, hx, h1, h2, h3, hL.1, hL.2⟩
end BFS
