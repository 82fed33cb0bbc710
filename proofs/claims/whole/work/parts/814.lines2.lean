/-! THE TELLING, plain: how many lines a telling has at most. -/
section LN2
variable {x : CX} {s s' s1 s2 S : TS} {B : Int} {a b c d e i j v k h l w p r t o q u kd lim m N : Int} {F T Z : Prop} {E : Int → Ev} {g : Int → Int → Int → Int → Int}
/-- all that is asked of a history for that -/
def HLn (x : CX) : Prop := HFx x ∧ HTk x.2.1 (x.1 0) ∧ HBk x.2.1 (x.1 0) ∧ HOF (fun i => ek (x.2.1 i)) (fun i => ex (x.2.1 i)) (x.1 0) ∧ (0 < x.1 0 → ek (x.2.1 0) = 0)
/-- one wait of a branch's is in the sum -/
theorem pF_ge (h : ∀ w n l : Int, 0 ≤ fU e w n l) : ∀ (n : Nat) (k : Int), 0 ≤ pF (fU e) s n k ∧ ∀ j : Int, k ≤ j → j < k + n → pv (fU e) s j ≤ pF (fU e) s n k := by
  intro n
  induction n with
  | zero => intro k; exact ⟨Int.le_refl _, fun j h0 h1 => by omega⟩
  | succ n ih =>
    intro k
    obtain ⟨h1, h2⟩ := ih (k + 1)
    have h0 : 0 ≤ pv (fU e) s k := by
      unfold pv
      split
      · exact h _ _ _
      · exact Int.le_refl _
    refine ⟨?_, fun j j0 j1 => ?_⟩
    · show 0 ≤ pv (fU e) s k + pF (fU e) s n (k + 1)
      omega
    · show _ ≤ pv (fU e) s k + pF (fU e) s n (k + 1)
      by_cases c : j = k
      · rw [c]; omega
      · have := h2 j (by omega) (by omega)
        omega
/-- sums from below, where one place alone is negative, and not below -1 -/
theorem iE_lo : ∀ n : Nat, (∀ i : Int, 0 ≤ i → i < n → (i = e → -1 ≤ g i (ek (E i)) (ex (E i)) (ey (E i))) ∧ (i ≠ e → 0 ≤ g i (ek (E i)) (ex (E i)) (ey (E i)))) → (if e < (n : Int) then -1 else 0) ≤ iE g E n ∧ ∀ i : Int, 0 ≤ i → i < n → i ≠ e → 8 ≤ ek (E i) → ek (E i) ≤ 16 → (if e < (n : Int) then -1 else 0) + g i (ek (E i)) (ex (E i)) (ey (E i)) ≤ iE g E n := by
  intro n
  induction n with
  | zero =>
    intro _
    refine ⟨?_, fun i i0 i1 => by omega⟩
    show _ ≤ (0 : Int)
    split <;> decide
  | succ n ih =>
    intro h
    obtain ⟨h1, h2⟩ := ih fun i i0 i1 => h i i0 (by omega)
    have hn := h n (by omega) (by omega)
    have ht : (if (n : Int) = e then -1 else 0) ≤ if 8 ≤ ek (E (n : Int)) ∧ ek (E (n : Int)) ≤ 16 then g (n : Int) (ek (E (n : Int))) (ex (E (n : Int))) (ey (E (n : Int))) else 0 := by
      split
      · rename_i hh
        split
        · exact hn.1 hh
        · decide
      · rename_i hh
        split
        · exact hn.2 hh
        · exact Int.le_refl _
    have hs : (if e < ((n + 1 : Nat) : Int) then (-1 : Int) else 0) ≤ (if e < (n : Int) then -1 else 0) + if (n : Int) = e then -1 else 0 := by
      by_cases c1 : e < (n : Int)
      · rw [if_pos (by omega), if_pos c1, if_neg (by omega)]; decide
      · by_cases c2 : (n : Int) = e
        · rw [if_pos (by omega), if_neg c1, if_pos c2]; decide
        · rw [if_neg (by omega), if_neg c1, if_neg c2]; decide
    refine ⟨?_, fun i i0 i1 ie k0 k1 => ?_⟩
    · show _ ≤ iE g E n + (if _ then _ else _)
      omega
    · show _ ≤ iE g E n + (if _ then _ else _)
      by_cases c : i = (n : Int)
      · rw [c] at ie k0 k1 ⊢
        have hif : (if 8 ≤ ek (E (n : Int)) ∧ ek (E (n : Int)) ≤ 16 then g (n : Int) (ek (E (n : Int))) (ex (E (n : Int))) (ey (E (n : Int))) else 0) = g (n : Int) (ek (E (n : Int))) (ex (E (n : Int))) (ey (E (n : Int))) := if_pos ⟨k0, k1⟩
        rw [hif]
        rw [if_neg ie] at hs
        omega
      · have := h2 i i0 (by omega) ie k0 k1
        omega
/-- what comes back to somebody is open in the history -/
theorem prod_opn (hx : HLn x) (hW : SW x s B) (hP : PSx x s) (hn : sn s = [] ∨ pI (gB (x.1 0) QD) x s ≤ 0) (hU : PZ (fU (ex (x.2.1 i))) (gU (ex (x.2.1 i))) 0 0 x s ≤ 0) (h11 : 0 ≤ sg s 0 11 ∧ sg s 0 11 ≤ i) (hgap : ∀ j : Int, sg s 0 11 ≤ j → j < i → 7 < ek (x.2.1 j)) (i1 : i < x.1 0) (hb : bkk (ek (x.2.1 i))) (hw : 0 ≤ wtr s (ex (x.2.1 i))) : OpnF (fun i => ek (x.2.1 i)) (fun i => ex (x.2.1 i)) i (ex (x.2.1 i)) := by
  obtain ⟨⟨hB, hk⟩, hT, hK, hO, -⟩ := hx
  obtain ⟨p1, p2, p3⟩ := hP
  have he := hB i (by omega) i1 (Or.inr hb)
  have he0 : 0 ≤ ex (x.2.1 i) := Int.natCast_nonneg _
  refine ⟨⟨he0, he⟩, hK.1 i (by omega) i1 hb, fun d d0 d1 hh => ?_⟩
  obtain ⟨hh1, hh2⟩ := hh
  simp only at hh1 hh2
  rcases hh1 with hd | hd
  · obtain ⟨t, t1, t2, t3⟩ := hK.2.2 d i (by omega) d1 i1 hd hb hh2
    -- the TASK was passed, the DROP was met
    have hct : ex (x.2.1 t) ≤ sg s 0 10 := by
      have h1 := (hT.1 t (by omega) (by omega) t3).2
      have h2 := cA_m (E := x.2.1) t.toNat i.toNat (by omega)
      have h3 := cA_skip (E := x.2.1) (i.toNat - (sg s 0 11).toNat) (sg s 0 11).toNat fun j j0 j1 => hgap j (by omega) (by omega)
      rw [show (sg s 0 11).toNat + (i.toNat - (sg s 0 11).toNat) = i.toNat by omega] at h3
      omega
    have ht := p2 t (by omega) (by omega) t3 hct
    have hn12 := p1 t (by omega) ht t3
    have hd12 : d < sg s 0 12 := by
      by_cases c : d < sg s 0 12
      · exact c
      · exact absurd ⟨by omega, by omega⟩ (nc_gap (x := x) (i := sg s 0 12) (j := d) (by omega) (by omega))
    -- somebody waits
    obtain ⟨w0, w1, w2, w3⟩ := (wtr_b (s := s) (e := ex (x.2.1 i))).resolve_left (by omega)
    have h5 := hW.2.2.2.2.2.2.2.1
    have hp := (pF_ge (s := s) (e := ex (x.2.1 i)) (fun _ _ _ => fU_nn) 12 0).2 _ w0 (by omega)
    rw [pv_i w1, fU_w w2, if_pos w3] at hp
    have tg : ∀ r k a b : Int, (r = ex (x.2.1 i) → -1 ≤ gU (ex (x.2.1 i)) r k a b) ∧ (r ≠ ex (x.2.1 i) → 0 ≤ gU (ex (x.2.1 i)) r k a b) := fun r k a b => by
      unfold gU
      refine ⟨fun _ => ?_, fun hr => ?_⟩
      · split <;> split <;> decide
      · rw [if_neg (fun hh => hr hh.1)]
        split <;> decide
    have hE := (iE_lo (g := gU (ex (x.2.1 i))) (E := x.2.1) (e := ex (x.2.1 i)) (sg s 0 12).toNat fun j _ _ => tg _ _ _ _).2 d (by omega) (by omega) (by omega) (by omega) (by omega)
    have hd0 : gU (ex (x.2.1 i)) d (ek (x.2.1 d)) (ex (x.2.1 d)) (ey (x.2.1 d)) = 1 := by rw [hd, gU_d, if_pos hh2]
    have hL : 0 ≤ iL (gU (ex (x.2.1 i))) (x.1 0) (sn s) := by
      refine (iL_ge (g := gU (ex (x.2.1 i))) (sn s) (x.1 0) fun j z hz => ?_).1
      exact (tg _ _ _ _).2 (by omega)
    unfold PZ pI at hU
    rw [Int.zero_mul, Int.zero_mul] at hU
    split at hE <;> omega
  · exact hK.2.1 d i (by omega) d1 i1 hd hb hh2
/-- blocks of arrivals; CANCELs; signals -/
def nbl (E : Int → Ev) : Nat → Int
  | 0 => 0
  | n + 1 => nbl E n + if ek (E (n : Int)) ≤ 7 ∧ (n = 0 ∨ 7 < ek (E ((n : Int) - 1))) then 1 else 0
def ccn (E : Int → Ev) : Nat → Int
  | 0 => 0
  | n + 1 => ccn E n + if ek (E (n : Int)) = 7 then 1 else 0
def csg (E : Int → Ev) : Nat → Int
  | 0 => 0
  | n + 1 => csg E n + if ek (E (n : Int)) = 4 then 1 else 0
theorem nbl_m : ∀ (d n : Nat), nbl E n ≤ nbl E (n + d) := by
  intro d
  induction d with
  | zero => intro n; exact Int.le_refl _
  | succ d ih =>
    intro n
    have := ih n
    show _ ≤ nbl E (n + d) + (if _ then _ else _)
    split <;> omega
theorem ccn_m : ∀ (d n : Nat), ccn E n ≤ ccn E (n + d) := by
  intro d
  induction d with
  | zero => intro n; exact Int.le_refl _
  | succ d ih =>
    intro n
    have := ih n
    show _ ≤ ccn E (n + d) + (if _ then _ else _)
    split <;> omega
theorem csg_m : ∀ (d n : Nat), csg E n ≤ csg E (n + d) := by
  intro d
  induction d with
  | zero => intro n; exact Int.le_refl _
  | succ d ih =>
    intro n
    have := ih n
    show _ ≤ csg E (n + d) + (if _ then _ else _)
    split <;> omega
/-- how many came back to somebody so far: b; the block began at j -/
def BLK (E : Int → Ev) (m b : Int) : Prop := (m = 0 ∧ b = 0) ∨ ∃ (j : Int) (l : List Int) (b0 : Int), (0 ≤ j ∧ j < m) ∧ (∀ i : Int, j ≤ i → i < m → ek (E i) ≤ 7) ∧ (j = 0 ∨ 7 < ek (E (j - 1))) ∧ l.Nodup ∧ (∀ e ∈ l, OpnF (fun i => ek (E i)) (fun i => ex (E i)) j e ∧ ∃ i : Int, j ≤ i ∧ i < m ∧ bkk (ek (E i)) ∧ ex (E i) = e) ∧ b = b0 + l.length ∧ (j = 0 → b0 = 0) ∧ (0 < j → b0 ≤ 12 * (nbl E j.toNat - 1) ∧ 1 ≤ nbl E j.toNat)
theorem blk_len (hO : HOF (fun i => ek (E i)) (fun i => ex (E i)) N) (h : BLK E m b) (hm : m ≤ N) (m0 : 0 < m) : b ≤ 12 * (nbl E m.toNat - 1) ∧ 1 ≤ nbl E m.toNat := by
  rcases h with h | ⟨j, l, b0, ⟨j0, j1⟩, h1, h2, h3, h4, h5, h6, h7⟩
  · omega
  · have hl : l.length ≤ 12 := hO j j0 (by omega) l h3 fun e he => (h4 e he).1
    have hs : nbl E (j.toNat + 1) = nbl E j.toNat + 1 := by
      show nbl E j.toNat + (if _ then _ else _) = _
      rw [show ((j.toNat : Nat) : Int) = j by omega, if_pos ⟨h1 j (Int.le_refl _) j1, by omega⟩]
    have hmn := nbl_m (E := E) (m.toNat - (j.toNat + 1)) (j.toNat + 1)
    rw [show j.toNat + 1 + (m.toNat - (j.toNat + 1)) = m.toNat by omega] at hmn
    by_cases cj : j = 0
    · have hl0 : l = [] := by
        cases l with
        | nil => rfl
        | cons e l =>
          have := (h4 e (List.mem_cons_self ..)).1.1
          omega
      rw [hl0] at h5
      have e0 : nbl E j.toNat = 0 := by rw [cj]; rfl
      have := h6 cj
      simp only [List.length_nil] at h5
      omega
    · have := h7 (by omega)
      omega
/-- another arrival -/
theorem blk_step (hO : HOF (fun i => ek (E i)) (fun i => ex (E i)) N) (h0 : 0 < N → ek (E 0) ≤ 7) (h : BLK E m b) (m0 : 0 ≤ m) (hm : m ≤ i) (i1 : i < N) (hi : ek (E i) ≤ 7) (hgap : ∀ j : Int, m ≤ j → j < i → 7 < ek (E j)) (hc : c = 0 ∨ (c = 1 ∧ bkk (ek (E i)) ∧ OpnF (fun i => ek (E i)) (fun i => ex (E i)) i (ex (E i)))) : BLK E (i + 1) (b + c) := by
  -- a new block
  have new : (i = 0 ∨ 7 < ek (E (i - 1))) → (i = 0 → b = 0) → (0 < i → b ≤ 12 * (nbl E i.toNat - 1) ∧ 1 ≤ nbl E i.toNat) → BLK E (i + 1) (b + c) := by
    intro h1 h2 h3
    rcases hc with rfl | ⟨rfl, hb, ho⟩
    · exact Or.inr ⟨i, [], b, ⟨by omega, by omega⟩, fun q q0 q1 => by rw [show q = i by omega]; exact hi, h1, List.nodup_nil, fun e he => absurd he (by simp), by simp, h2, h3⟩
    · exact Or.inr ⟨i, [ex (E i)], b, ⟨by omega, by omega⟩, fun q q0 q1 => by rw [show q = i by omega]; exact hi, h1, by simp, fun e he => by
        rw [List.mem_singleton.mp he]
        exact ⟨ho, i, Int.le_refl _, by omega, hb, rfl⟩, by simp, h2, h3⟩
  by_cases c0 : m = 0
  · have hb0 : b = 0 := by
      rcases h with h | ⟨j, l, b0, ⟨j0, j1⟩, -⟩
      · exact h.2
      · omega
    by_cases ci : i = 0
    · exact new (Or.inl ci) (fun _ => hb0) (fun hh => by omega)
    · -- commands ahead of the first arrival
      have g1 := hgap 0 (by omega) (by omega)
      have g2 := h0 (by omega)
      omega
  · have hlen := blk_len hO h (by omega) (by omega)
    by_cases ci : i = m
    · rcases h with h | ⟨j, l, b0, ⟨j0, j1⟩, h1, h2, h3, h4, h5, h6, h7⟩
      · omega
      · have hall : ∀ q : Int, j ≤ q → q < i + 1 → ek (E q) ≤ 7 := fun q q0 q1 => by
          by_cases cq : q = i
          · rw [cq]; exact hi
          · exact h1 q q0 (by omega)
        have hold : ∀ e ∈ l, OpnF (fun i => ek (E i)) (fun i => ex (E i)) j e ∧ ∃ q : Int, j ≤ q ∧ q < i + 1 ∧ bkk (ek (E q)) ∧ ex (E q) = e := fun e he => by
          obtain ⟨y1, q, y2, y3, y4, y5⟩ := h4 e he
          exact ⟨y1, q, y2, by omega, y4, y5⟩
        rcases hc with rfl | ⟨rfl, hb, ho⟩
        · exact Or.inr ⟨j, l, b0, ⟨j0, by omega⟩, hall, h2, h3, hold, by omega, h6, h7⟩
        · have hej : ex (E i) < j := by
            by_cases c : ex (E i) < j
            · exact c
            · have h8 := ho.2.1
              have h9 := hall (ex (E i)) (by omega) (by have := ho.1.2; omega)
              unfold opk at h8
              simp only at h8
              omega
          refine Or.inr ⟨j, ex (E i) :: l, b0, ⟨j0, by omega⟩, hall, h2, List.nodup_cons.mpr ⟨fun hmem => ?_, h3⟩, fun e he => ?_, by rw [List.length_cons]; omega, h6, h7⟩
          · obtain ⟨-, q, y2, y3, y4, y5⟩ := h4 _ hmem
            exact ho.2.2 q (by omega) (by omega) ⟨Or.inr y4, y5⟩
          · rcases List.mem_cons.mp he with he | he
            · rw [he]
              exact ⟨ho.to (fun _ _ _ => ⟨rfl, rfl⟩) (by omega) hej, i, by omega, by omega, hb, rfl⟩
            · exact hold e he
    · have hmn := nbl_m (E := E) (i.toNat - m.toNat) m.toNat
      rw [show m.toNat + (i.toNat - m.toNat) = i.toNat by omega] at hmn
      exact new (Or.inr (hgap (i - 1) (by omega) (by omega))) (fun hh => by omega) (fun _ => by omega)
end LN2
