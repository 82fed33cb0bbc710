/-! THE TELLING, plain: from a state on that it comes by. -/
section SEG
variable {x : CX} {s s' s1 s2 S : TS} {B : Int} {a b c d e i j v k h l w p r t o q u kd lim m N ω κ γ δ : Int} {F T Z : Prop} {E : Int → Ev} {f : Int → Int → Int → Int} {g : Int → Int → Int → Int → Int}
/-- how many came back to somebody since q -/
def BLK2 (E : Int → Ev) (q m b : Int) : Prop := (m = q ∧ b = 0) ∨ (q < m ∧ ∃ (j : Int) (l : List Int) (b0 : Int), (0 ≤ j ∧ j < m) ∧ (∀ i : Int, j ≤ i → i < m → ek (E i) ≤ 7) ∧ (j = 0 ∨ 7 < ek (E (j - 1))) ∧ l.Nodup ∧ (∀ e ∈ l, OpnF (fun i => ek (E i)) (fun i => ex (E i)) j e ∧ ∃ i : Int, j ≤ i ∧ i < m ∧ bkk (ek (E i)) ∧ ex (E i) = e) ∧ b = b0 + l.length ∧ (j < q → b0 = 0) ∧ (q ≤ j → b0 ≤ 12 * (nbl E j.toNat - nbl E q.toNat) + 12))
theorem blk2_len (hO : HOF (fun i => ek (E i)) (fun i => ex (E i)) N) (h : BLK2 E q m b) (hm : m ≤ N) (q0 : 0 ≤ q) : b ≤ 12 * (nbl E m.toNat - nbl E q.toNat) + 12 := by
  rcases h with h | ⟨hq, j, l, b0, ⟨j0, j1⟩, h1, h2, h3, h4, h5, h6, h7⟩
  · rw [h.1, h.2]; omega
  · have hl : l.length ≤ 12 := hO j j0 (by omega) l h3 fun e he => (h4 e he).1
    have hs : nbl E (j.toNat + 1) = nbl E j.toNat + 1 := by
      show nbl E j.toNat + (if _ then _ else _) = _
      rw [show ((j.toNat : Nat) : Int) = j by omega, if_pos ⟨h1 j (Int.le_refl _) j1, by omega⟩]
    have hmn := nbl_m (E := E) (m.toNat - (j.toNat + 1)) (j.toNat + 1)
    rw [show j.toNat + 1 + (m.toNat - (j.toNat + 1)) = m.toNat by omega] at hmn
    have hqm := nbl_m (E := E) (m.toNat - q.toNat) q.toNat
    rw [show q.toNat + (m.toNat - q.toNat) = m.toNat by omega] at hqm
    by_cases cj : j < q
    · have := h6 cj; omega
    · have := h7 (by omega); omega
theorem blk2_step (hO : HOF (fun i => ek (E i)) (fun i => ex (E i)) N) (h : BLK2 E q m b) (q0 : 0 ≤ q) (hq : q = 0 ∨ ek (E (q - 1)) ≤ 7) (hz : 0 < N → ek (E 0) ≤ 7) (m0 : q ≤ m) (hm : m ≤ i) (i1 : i < N) (hi : ek (E i) ≤ 7) (hgap : ∀ j : Int, m ≤ j → j < i → 7 < ek (E j)) (hst : i = m → ∃ j : Int, (0 ≤ j ∧ j ≤ i) ∧ (∀ p : Int, j ≤ p → p ≤ i → ek (E p) ≤ 7) ∧ (j = 0 ∨ 7 < ek (E (j - 1)))) (hc : c = 0 ∨ (c = 1 ∧ bkk (ek (E i)) ∧ OpnF (fun i => ek (E i)) (fun i => ex (E i)) i (ex (E i)))) : BLK2 E q (i + 1) (b + c) := by
  have hlen := blk2_len hO h (by omega) q0
  have hmn := nbl_m (E := E) (i.toNat - m.toNat) m.toNat
  rw [show m.toNat + (i.toNat - m.toNat) = i.toNat by omega] at hmn
  -- what opened before a block
  have pre : ∀ j : Int, j ≤ i → (∀ p : Int, j ≤ p → p ≤ i → ek (E p) ≤ 7) → OpnF (fun i => ek (E i)) (fun i => ex (E i)) i (ex (E i)) → OpnF (fun i => ek (E i)) (fun i => ex (E i)) j (ex (E i)) := fun j hj hall ho => by
    refine ho.to (fun _ _ _ => ⟨rfl, rfl⟩) hj ?_
    by_cases c : ex (E i) < j
    · exact c
    · have h8 := ho.2.1
      have h9 := hall (ex (E i)) (by omega) (by have := ho.1.2; omega)
      unfold opk at h8
      simp only at h8
      omega
  -- a block of its own
  have new : ∀ j : Int, (0 ≤ j ∧ j ≤ i) → (∀ p : Int, j ≤ p → p ≤ i → ek (E p) ≤ 7) → (j = 0 ∨ 7 < ek (E (j - 1))) → (j < q → b = 0) → (q ≤ j → b ≤ 12 * (nbl E j.toNat - nbl E q.toNat) + 12) → BLK2 E q (i + 1) (b + c) := by
    intro j h0 h1 h2 h3 h4
    rcases hc with rfl | ⟨rfl, hb, ho⟩
    · exact Or.inr ⟨by omega, j, [], b, ⟨h0.1, by omega⟩, fun p p0 p1 => h1 p p0 (by omega), h2, List.nodup_nil, fun e he => absurd he (by simp), by simp, h3, h4⟩
    · exact Or.inr ⟨by omega, j, [ex (E i)], b, ⟨h0.1, by omega⟩, fun p p0 p1 => h1 p p0 (by omega), h2, by simp, fun e he => by
        rw [List.mem_singleton.mp he]
        exact ⟨pre j h0.2 h1 ho, i, h0.2, by omega, hb, rfl⟩, by simp, h3, h4⟩
  by_cases ci : i = m
  · rcases h with h | ⟨hqm, j, l, b0, ⟨j0, j1⟩, h1, h2, h3, h4, h5, h6, h7⟩
    · obtain ⟨j, w1, w2, w3⟩ := hst ci
      refine new j w1 w2 w3 (fun _ => h.2) (fun hj => ?_)
      have := nbl_m (E := E) (j.toNat - q.toNat) q.toNat
      rw [show q.toNat + (j.toNat - q.toNat) = j.toNat by omega] at this
      omega
    · have hall : ∀ p : Int, j ≤ p → p ≤ i → ek (E p) ≤ 7 := fun p p0 p1 => by
        by_cases cq : p = i
        · rw [cq]; exact hi
        · exact h1 p p0 (by omega)
      have hold : ∀ e ∈ l, OpnF (fun i => ek (E i)) (fun i => ex (E i)) j e ∧ ∃ p : Int, j ≤ p ∧ p < i + 1 ∧ bkk (ek (E p)) ∧ ex (E p) = e := fun e he => by
        obtain ⟨y1, p, y2, y3, y4, y5⟩ := h4 e he
        exact ⟨y1, p, y2, by omega, y4, y5⟩
      rcases hc with rfl | ⟨rfl, hb, ho⟩
      · exact Or.inr ⟨by omega, j, l, b0, ⟨j0, by omega⟩, fun p p0 p1 => hall p p0 (by omega), h2, h3, hold, by omega, h6, h7⟩
      · refine Or.inr ⟨by omega, j, ex (E i) :: l, b0, ⟨j0, by omega⟩, fun p p0 p1 => hall p p0 (by omega), h2, List.nodup_cons.mpr ⟨fun hmem => ?_, h3⟩, fun e he => ?_, by rw [List.length_cons]; omega, h6, h7⟩
        · obtain ⟨-, p, y2, y3, y4, y5⟩ := h4 _ hmem
          exact ho.2.2 p (by
            have h8 := (pre j (by omega) hall ho).1.2
            omega) (by omega) ⟨Or.inr y4, y5⟩
        · rcases List.mem_cons.mp he with he | he
          · rw [he]
            exact ⟨pre j (by omega) hall ho, i, by omega, by omega, hb, rfl⟩
          · exact hold e he
  · refine new i ⟨by omega, Int.le_refl _⟩ (fun p p0 p1 => by rw [show p = i by omega]; exact hi) (Or.inr (hgap (i - 1) (by omega) (by omega))) (fun hj => by omega) (fun _ => by omega)
/-- where an arrival stands, its block begins -/
theorem blk_begin : ∀ (n : Nat) (i : Int), 0 ≤ i → i < n → ek (E i) ≤ 7 → ∃ j : Int, (0 ≤ j ∧ j ≤ i) ∧ (∀ p : Int, j ≤ p → p ≤ i → ek (E p) ≤ 7) ∧ (j = 0 ∨ 7 < ek (E (j - 1))) := by
  intro n
  induction n with
  | zero => intro i i0 i1; omega
  | succ n ih =>
    intro i i0 i1 hi
    by_cases c0 : i = 0
    · exact ⟨i, ⟨i0, Int.le_refl _⟩, fun p p0 p1 => by rw [show p = i by omega]; exact hi, Or.inl c0⟩
    · by_cases c1 : 7 < ek (E (i - 1))
      · exact ⟨i, ⟨i0, Int.le_refl _⟩, fun p p0 p1 => by rw [show p = i by omega]; exact hi, Or.inr c1⟩
      · obtain ⟨j, h1, h2, h3⟩ := ih (i - 1) (by omega) (by omega) (by omega)
        refine ⟨j, ⟨h1.1, by omega⟩, fun p p0 p1 => ?_, h3⟩
        by_cases cp : p = i
        · rw [cp]; exact hi
        · exact h2 p p0 (by omega)
/-- from s1 on: lines, potentials -/
def SGr (x : CX) (s1 s : TS) : Prop := (0 ≤ sg s1 0 11 ∧ sg s1 0 11 ≤ sg s 0 11) ∧ ∃ b : Int, BLK2 x.2.1 (sg s1 0 11) (sg s 0 11) b ∧ sg s 0 40 ≤ sg s1 0 40 + 60 * (cns s - cns s1) + 60 * b + (if sg s1 0 11 = 0 ∧ 0 < sg s 0 11 then 61 else 0) + 60 * (ccn x.2.1 (sg s 0 11).toNat - ccn x.2.1 (sg s1 0 11).toNat) ∧ ∀ (f : Int → Int → Int → Int) (g : Int → Int → Int → Int → Int) (ω κ δ γ : Int), PC x f g ω κ False False True → PD x f g False False (fun _ => δ) γ → 0 ≤ δ → PZ f g ω κ x s ≤ PZ f g ω κ x s1 + δ * b + (if sg s1 0 11 = 0 ∧ 0 < sg s 0 11 then f 0 0 0 - κ else 0) + 13 * γ * (ccn x.2.1 (sg s 0 11).toNat - ccn x.2.1 (sg s1 0 11).toNat)
theorem sg_rf (h : 0 ≤ sg s 0 11) : SGr x s s := by
  refine ⟨⟨h, Int.le_refl _⟩, 0, Or.inl ⟨rfl, rfl⟩, ?_, fun f g ω κ δ γ _ _ _ => ?_⟩
  · rw [if_neg (by omega)]; omega
  · rw [if_neg (by omega), Int.sub_self, Int.mul_zero, Int.mul_zero]; omega
theorem sg_step (hC : CXX x) (hx : HLn x) (hP : BP x s B) (hg : goes s = true) (i0 : sg s 0 11 ≤ i) (i1 : i < x.1 0) (hi7 : ek (x.2.1 i) ≤ 7) (hi : i = na x (sg s 0 11)) (h30 : sg (sTake x i s) 0 30 = 0) (hp : LNx x s) (hq : sg s1 0 11 = 0 ∨ ek (x.2.1 (sg s1 0 11 - 1)) ≤ 7) (hs : SGr x s1 s) : SGr x s1 (sTake x i s) := by
  obtain ⟨⟨p1, p2⟩, p3, p4, p5, p6, -⟩ := hp
  obtain ⟨⟨h1, h2⟩, b, g1, g2, g3⟩ := hs
  have hf : first s < 0 := p2.resolve_right (fun h => h hg)
  have h11 := hP.2.2.2.2.1
  obtain ⟨l1, l2⟩ := ln_take hC hP p1 hg hf i0 i1 hi7 h30
  have hcn := cns_take hC hP p1 hg i0 i1 hi7 h30
  have e11 := take_11 hC hP i0 i1 hi7 h30
  have hgap : ∀ j : Int, sg s 0 11 ≤ j → j < i → 7 < ek (x.2.1 j) := fun j j0 j1 => na_gap (x := x) (i := sg s 0 11) j0 (by omega)
  have en : (i + 1).toNat = i.toNat + 1 := by omega
  have ei : ((i.toNat : Nat) : Int) = i := by omega
  have hm := ccn_m (E := x.2.1) (i.toNat - (sg s 0 11).toNat) (sg s 0 11).toNat
  rw [show (sg s 0 11).toNat + (i.toNat - (sg s 0 11).toNat) = i.toNat by omega] at hm
  have hm1 := ccn_m (E := x.2.1) ((sg s 0 11).toNat - (sg s1 0 11).toNat) (sg s1 0 11).toNat
  rw [show (sg s1 0 11).toNat + ((sg s 0 11).toNat - (sg s1 0 11).toNat) = (sg s 0 11).toNat by omega] at hm1
  have ecc : ccn x.2.1 (i + 1).toNat = ccn x.2.1 i.toNat + if ek (x.2.1 i) = 7 then 1 else 0 := by
    rw [en]
    show ccn x.2.1 i.toNat + (if ek (x.2.1 (i.toNat : Int)) = 7 then 1 else 0) = _
    rw [ei]
  have hz : ∀ (f : Int → Int → Int → Int) (g : Int → Int → Int → Int → Int) (ω κ δ γ : Int), PC x f g ω κ False False True → PD x f g False False (fun _ => δ) γ → PZ f g ω κ x (sTake x i s) ≤ PZ f g ω κ x s + nK f κ (fun _ => δ) γ s (ek (x.2.1 i)) (ex (x.2.1 i)) := fun f g ω κ δ γ C D => (pz_take C trivial D hC hP p1 hg i0 i1 hi7 h30).1
  have hbs := fun hh : i = sg s 0 11 => blk_begin (E := x.2.1) (i.toNat + 1) i (by omega) (by omega) hi7
  have hgm : ∀ γ c1 c2 : Int, 0 ≤ γ → c1 ≤ c2 → 13 * γ * c1 ≤ 13 * γ * c2 := fun γ c1 c2 h0 hc => Int.mul_le_mul_of_nonneg_left hc (by omega)
  have hk0 : 0 ≤ ek (x.2.1 i) := Int.natCast_nonneg _
  refine ⟨⟨h1, by omega⟩, ?_⟩
  rw [e11, ecc]
  unfold lnK at l1
  by_cases cb : bkk (ek (x.2.1 i)) ∧ 0 ≤ wtr s (ex (x.2.1 i))
  · obtain ⟨c1, c2⟩ := cb
    have ho := prod_opn hx hP.1 p5 (Or.inr p4) (p3 _) ⟨h11.1, i0⟩ hgap i1 c1 c2
    have hne : sg s 0 11 ≠ 0 ∨ sg s1 0 11 ≠ 0 ∨ 0 < i := by
      by_cases ci : 0 < i
      · exact Or.inr (Or.inr ci)
      · have := ho.1; omega
    have c1' := c1
    unfold bkk at c1
    have hpos : 0 < sg s 0 11 := by
      -- the first arrival is none that came back
      by_cases c : 0 < sg s 0 11
      · exact c
      · exfalso
        by_cases ci : i = 0
        · have := ho.1; omega
        · have g4 := hgap 0 (by omega) (by omega)
          have g5 := hx.2.2.2.2 (by omega)
          omega
    refine ⟨b + 1, blk2_step hx.2.2.2.1 g1 h1 hq (fun hh => by have := hx.2.2.2.2 hh; omega) h2 i0 i1 hi7 hgap hbs (Or.inr ⟨rfl, c1', ho⟩), ?_, fun f g ω κ δ γ C D d0 => ?_⟩
    · rw [if_neg (by omega), if_neg (by omega), if_neg (by omega), if_neg (by omega)] at l1
      rw [if_neg (show ¬ ek (x.2.1 i) = 7 by omega)]
      have : (if sg s1 0 11 = 0 ∧ 0 < sg s 0 11 then (61 : Int) else 0) = if sg s1 0 11 = 0 ∧ 0 < i + 1 then 61 else 0 := by
        by_cases c : sg s1 0 11 = 0
        · rw [if_pos ⟨c, hpos⟩, if_pos ⟨c, by omega⟩]
        · rw [if_neg (fun hh => c hh.1), if_neg (fun hh => c hh.1)]
      omega
    · have z1 := hz f g ω κ δ γ C D
      have z2 := g3 f g ω κ δ γ C D d0
      unfold nK at z1
      rw [if_neg (by omega), if_neg (by omega), if_neg (by omega), if_neg (by omega)] at z1
      have z1' : PZ f g ω κ x (sTake x i s) ≤ PZ f g ω κ x s + δ := z1
      rw [if_neg (show ¬ ek (x.2.1 i) = 7 by omega)]
      have z3 := hgm γ (ccn x.2.1 (sg s 0 11).toNat - ccn x.2.1 (sg s1 0 11).toNat) (ccn x.2.1 i.toNat + 0 - ccn x.2.1 (sg s1 0 11).toNat) D.1 (by omega)
      rw [Int.mul_add, Int.mul_one]
      have : (if sg s1 0 11 = 0 ∧ 0 < sg s 0 11 then f 0 0 0 - κ else 0) = if sg s1 0 11 = 0 ∧ 0 < i + 1 then f 0 0 0 - κ else 0 := by
        by_cases c : sg s1 0 11 = 0
        · rw [if_pos ⟨c, hpos⟩, if_pos ⟨c, by omega⟩]
        · rw [if_neg (fun hh => c hh.1), if_neg (fun hh => c hh.1)]
      omega
  · refine ⟨b + 0, blk2_step hx.2.2.2.1 g1 h1 hq (fun hh => by have := hx.2.2.2.2 hh; omega) h2 i0 i1 hi7 hgap hbs (Or.inl rfl), ?_, fun f g ω κ δ γ C D d0 => ?_⟩
    · by_cases c0 : ek (x.2.1 i) = 0
      · rw [if_pos c0] at l1
        have hz0 := ((hC.1.2.1 i (by omega) i1 hi7).2.2.1 c0).2
        rw [if_neg (show ¬ (sg s1 0 11 = 0 ∧ 0 < sg s 0 11) by omega)] at g2
        rw [if_neg (show ¬ ek (x.2.1 i) = 7 by omega), if_pos ⟨by omega, by omega⟩]
        omega
      · rw [if_neg c0] at l1
        have hle : (if sg s1 0 11 = 0 ∧ 0 < sg s 0 11 then (61 : Int) else 0) ≤ if sg s1 0 11 = 0 ∧ 0 < i + 1 then 61 else 0 := by
          by_cases c : sg s1 0 11 = 0
          · rw [if_pos (show sg s1 0 11 = 0 ∧ 0 < i + 1 from ⟨c, by omega⟩)]
            split <;> omega
          · rw [if_neg (fun hh => c hh.1), if_neg (fun hh => c hh.1)]
            exact Int.le_refl _
        by_cases c4 : ek (x.2.1 i) = 4
        · rw [if_pos c4] at l1
          rw [if_neg (show ¬ ek (x.2.1 i) = 7 by omega)]
          omega
        · rw [if_neg c4] at l1
          by_cases c7 : ek (x.2.1 i) = 7
          · rw [if_pos c7] at l1
            rw [if_pos c7]
            omega
          · rw [if_neg c7] at l1
            rw [if_neg c7]
            by_cases cw : wtr s (ex (x.2.1 i)) < 0
            · rw [if_pos cw] at l1
              omega
            · exfalso
              refine cb ⟨?_, by omega⟩
              unfold bkk
              omega
    · have z1 := hz f g ω κ δ γ C D
      have z2 := g3 f g ω κ δ γ C D d0
      rw [Int.add_zero]
      unfold nK at z1
      by_cases c0 : ek (x.2.1 i) = 0
      · rw [if_pos c0] at z1
        have hz0 := ((hC.1.2.1 i (by omega) i1 hi7).2.2.1 c0).2
        rw [if_neg (show ¬ (sg s1 0 11 = 0 ∧ 0 < sg s 0 11) by omega)] at z2
        have z3 := hgm γ (ccn x.2.1 (sg s 0 11).toNat - ccn x.2.1 (sg s1 0 11).toNat) (ccn x.2.1 i.toNat + 0 - ccn x.2.1 (sg s1 0 11).toNat) D.1 (by omega)
        rw [if_neg (show ¬ ek (x.2.1 i) = 7 by omega), if_pos (show sg s1 0 11 = 0 ∧ 0 < i + 1 from ⟨by omega, by omega⟩)]
        omega
      · rw [if_neg c0] at z1
        -- the first arrival is START
        have hle : (if sg s1 0 11 = 0 ∧ 0 < sg s 0 11 then f 0 0 0 - κ else 0) = (if sg s1 0 11 = 0 ∧ 0 < i + 1 then f 0 0 0 - κ else 0) ∨ (sg s1 0 11 = 0 ∧ sg s 0 11 = 0) := by
          by_cases c : sg s1 0 11 = 0
          · by_cases c2 : 0 < sg s 0 11
            · exact Or.inl (by rw [if_pos ⟨c, c2⟩, if_pos ⟨c, by omega⟩])
            · exact Or.inr ⟨c, by omega⟩
          · exact Or.inl (by rw [if_neg (fun hh => c hh.1), if_neg (fun hh => c hh.1)])
        rcases hle with hle | ⟨y1, y2⟩
        · by_cases c4 : ek (x.2.1 i) = 4
          · rw [if_pos c4] at z1
            have z3 := hgm γ (ccn x.2.1 (sg s 0 11).toNat - ccn x.2.1 (sg s1 0 11).toNat) (ccn x.2.1 i.toNat + 0 - ccn x.2.1 (sg s1 0 11).toNat) D.1 (by omega)
            rw [if_neg (show ¬ ek (x.2.1 i) = 7 by omega)]
            omega
          · rw [if_neg c4] at z1
            by_cases c7 : ek (x.2.1 i) = 7
            · rw [if_pos c7] at z1
              have z3 := hgm γ (ccn x.2.1 (sg s 0 11).toNat - ccn x.2.1 (sg s1 0 11).toNat + 1) (ccn x.2.1 i.toNat + 1 - ccn x.2.1 (sg s1 0 11).toNat) D.1 (by omega)
              rw [Int.mul_add, Int.mul_one] at z3
              rw [if_pos c7]
              omega
            · rw [if_neg c7] at z1
              have z3 := hgm γ (ccn x.2.1 (sg s 0 11).toNat - ccn x.2.1 (sg s1 0 11).toNat) (ccn x.2.1 i.toNat + 0 - ccn x.2.1 (sg s1 0 11).toNat) D.1 (by omega)
              rw [if_neg c7]
              by_cases cw : wtr s (ex (x.2.1 i)) < 0
              · rw [if_pos cw] at z1
                omega
              · exfalso
                refine cb ⟨?_, by omega⟩
                unfold bkk
                omega
        · exfalso
          by_cases ci : i = 0
          · rw [ci] at c0
            exact c0 (hx.2.2.2.2 (by omega))
          · have g4 := hgap 0 (by omega) (by omega)
            have g5 := hx.2.2.2.2 (by omega)
            omega
end SEG
