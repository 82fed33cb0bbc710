/-! THE ROOM, without any plain state: what all memory takes is paid by what is there: each object for itself, the parts and the arrays of parts of a row by the row, the arrays of a list by the list. al, be: 1, 0: slots; 0, 1: cells. -/
section GIA
variable {m m' : MM} {al be C D a b j k r t v z kd ln : Int} {f g : Int → Int}
theorem sm_ext {n : Nat} (h : ∀ i : Int, 0 ≤ i → i < (n : Int) → f i = g i) : sm f n = sm g n :=
  Int.le_antisymm (sm_le fun i i0 i1 => Int.le_of_eq (h i i0 i1)) (sm_le fun i i0 i1 => Int.le_of_eq (h i i0 i1).symm)
/-- how many parts an array of parts holds -/
def nnz (m : MM) (t : Int) : Int := sm (fun k => if m t k = 0 then 0 else 1) (m t (-2)).toNat
def rpt (al be : Int) (m : MM) (r : Int) : Int := if m r 0 < 4 then 0 else (64 * al + be) * (nnz m (m r 0) - m r 1) + (2 * al + be) * m (m r 0) (-2)
def lpt (al be : Int) (m : MM) (a : Int) : Int := if m a 1 < 4 then 0 else (4 * al + be) * m (m a 1) (-2)
def own (al be : Int) (m : MM) (a : Int) : Int := if a < 163 then 0 else if m a (-1) = 101 ∨ m a (-1) = 107 ∨ m a (-1) = 108 then 0 else if m a (-1) = 99 then 6 * al + be else al * m a (-2) + be
def wt (al be : Int) (m : MM) (a : Int) : Int := if a < 4 then 0 else (if m a (-1) = 6 then rpt al be m a else if m a (-1) = 0 then lpt al be m a else 0) + own al be m a
/-- a row's array is an array of parts, and no other row's -/
def RNA (m : MM) : Prop := (∀ r : Int, 4 ≤ r → r < m 0 0 → m r (-1) = 6 → m r 0 < 4 ∨ (okc m (m r 0) 108 ∧ 1 ≤ m (m r 0) (-2))) ∧ (∀ r q : Int, 4 ≤ r → r < m 0 0 → m r (-1) = 6 → 4 ≤ q → q < m 0 0 → m q (-1) = 6 → r ≠ q → 4 ≤ m r 0 → m r 0 ≠ m q 0) ∧ (∀ a : Int, 4 ≤ a → a < m 0 0 → m a (-1) = 0 → m a 1 < m 0 0 ∧ (4 ≤ m a 1 → m (m a 1) (-2) ≤ 10 ∨ m (m a 1) (-2) ≤ 2 * m a 2)) ∧ ∀ a : Int, 4 ≤ a → a < m 0 0 → 0 ≤ m a (-2) ∧ m a (-2) < 2147483648
def GI (al be C : Int) (m : MM) : Prop := RNA m ∧ al * m 0 1 + be * m 0 0 ≤ C + sm (wt al be m) (m 0 0).toNat
theorem GI.kp (h : GI al be C m) (e0 : m' 0 0 = m 0 0) (e1 : m' 0 1 = m 0 1) (k1 : ∀ b, m' b (-1) = m b (-1)) (k2 : ∀ b, m' b (-2) = m b (-2)) (r0 : ∀ r, 4 ≤ r → r < m 0 0 → m r (-1) = 6 → m' r 0 = m r 0 ∧ m' r 1 = m r 1) (l1 : ∀ a, 4 ≤ a → a < m 0 0 → m a (-1) = 0 → m' a 1 = m a 1 ∧ m' a 2 = m a 2) (ht : ∀ r k, 4 ≤ r → r < m 0 0 → m r (-1) = 6 → okc m (m r 0) 108 → 0 ≤ k → m' (m r 0) k = m (m r 0) k) : GI al be C m' := by
  obtain ⟨⟨h1, h2, h3, h5⟩, h4⟩ := h
  have ko : ∀ t, okc m t 108 → okc m' t 108 := fun t g => ⟨g.1, by rw [e0]; exact g.2.1, by rw [k1]; exact g.2.2⟩
  refine ⟨⟨fun r g1 g2 g3 => ?_, fun r q g1 g2 g3 g4 g5 g6 g7 g8 => ?_, fun a g1 g2 g3 => ?_, fun a g1 g2 => by rw [e0] at g2; rw [k2]; exact h5 a g1 g2⟩, ?_⟩
  · rw [e0] at g2
    rw [k1] at g3
    rw [(r0 r g1 g2 g3).1, k2]
    exact (h1 r g1 g2 g3).imp id fun g => ⟨ko _ g.1, g.2⟩
  · rw [e0] at g2 g5
    rw [k1] at g3 g6
    rw [(r0 r g1 g2 g3).1] at g8 ⊢
    rw [(r0 q g4 g5 g6).1]
    exact h2 r q g1 g2 g3 g4 g5 g6 g7 g8
  · rw [e0] at g2 ⊢
    rw [k1] at g3
    rw [(l1 a g1 g2 g3).1, (l1 a g1 g2 g3).2, k2]
    exact h3 a g1 g2 g3
  · rw [e0, e1]
    refine Int.le_trans h4 (Int.add_le_add_left (Int.le_of_eq (sm_ext fun i i0 i1 => ?_)) C)
    have i2 : i < m 0 0 := by omega
    unfold wt
    by_cases c4 : i < 4
    · rw [if_pos c4, if_pos c4]
    · rw [if_neg c4, if_neg c4, k1]
      have eo : own al be m' i = own al be m i := by
        unfold own
        rw [k1, k2]
      rw [eo]
      by_cases c6 : m i (-1) = 6
      · rw [if_pos c6, if_pos c6]
        obtain ⟨q1, q2⟩ := r0 i (by omega) i2 c6
        unfold rpt
        rw [q1, q2, k2]
        by_cases ct : m i 0 < 4
        · rw [if_pos ct, if_pos ct]
        · rw [if_neg ct, if_neg ct]
          have ok := ((h1 i (by omega) i2 c6).resolve_left ct).1
          have en : nnz m' (m i 0) = nnz m (m i 0) := by
            unfold nnz
            rw [k2]
            exact sm_ext fun k k0 _ => by rw [ht i k (by omega) i2 c6 ok k0]
          rw [en]
      · rw [if_neg c6, if_neg c6]
        by_cases c0 : m i (-1) = 0
        · rw [if_pos c0, if_pos c0]
          unfold lpt
          rw [(l1 i (by omega) i2 c0).1, k2]
        · rw [if_neg c0, if_neg c0]
/-- a field that is none of a row's, a list's arrays -/
def saf (kd : Nat) (j : Int) : Prop := (kd ≠ 6 ∨ (j ≠ 0 ∧ j ≠ 1)) ∧ kd ≠ 108 ∧ (kd ≠ 0 ∨ (j ≠ 1 ∧ j ≠ 2))
theorem GI.ms {kd : Nat} (h : GI al be C m) (ok : okc m a kd) (hj : 0 ≤ j) (s : saf kd j) : GI al be C (mset m a j v) := by
  obtain ⟨s1, s2, s3⟩ := s
  have kn : ∀ b i : Int, i < 0 → mset m a j v b i = m b i := fun b i hi => if_neg fun hh => by omega
  have k3 := ok.2.2
  refine h.kp (ms_a (by have := ok.1; omega)) (ms_a (by have := ok.1; omega)) (fun b => kn b _ (by decide)) (fun b => kn b _ (by decide)) (fun r g1 g2 g3 => ?_) (fun b g1 g2 g3 => ?_) fun r k _ _ _ g1 g2 => ?_
  · by_cases c : r = a
    · subst c
      have : j ≠ 0 ∧ j ≠ 1 := s1.resolve_left fun hh => hh (by omega)
      exact ⟨ms_j (by omega), ms_j (by omega)⟩
    · exact ⟨ms_a c, ms_a c⟩
  · by_cases c : b = a
    · subst c
      have : j ≠ 1 ∧ j ≠ 2 := s3.resolve_left fun hh => hh (by omega)
      exact ⟨ms_j (by omega), ms_j (by omega)⟩
    · exact ⟨ms_a c, ms_a c⟩
  · refine ms_a fun c => ?_
    rw [c] at g1
    have := g1.2.2
    omega
/-- a new cell behind all -/
theorem GI.xt (h : GI al be C m) (h163 : 163 ≤ m 0 0) (e0 : m' 0 0 = m 0 0 + 1) (e1 : al * m' 0 1 + be ≤ al * m 0 1 + wt al be m' (m 0 0) + D) (hk : ∀ b i, b < m 0 0 → b ≠ 0 → m' b i = m b i) (h6 : m' (m 0 0) (-1) = 6 → m' (m 0 0) 0 = 0) (h0 : m' (m 0 0) (-1) = 0 → m' (m 0 0) 1 = 0) (hl : 0 ≤ m' (m 0 0) (-2) ∧ m' (m 0 0) (-2) < 2147483648) : GI al be (C + D) m' := by
  obtain ⟨⟨h1, h2, h3, h5⟩, h4⟩ := h
  have ko : ∀ t c, okc m t c → okc m' t c := fun t c g => ⟨g.1, by rw [e0]; have := g.2.1; omega, by rw [hk t _ g.2.1 (by have := g.1; omega)]; exact g.2.2⟩
  refine ⟨⟨fun r g1 g2 g3 => ?_, fun r q g1 g2 g3 g4 g5 g6 g7 g8 => ?_, fun a g1 g2 g3 => ?_, fun a g1 g2 => ?_⟩, ?_⟩
  rotate_left 3
  · by_cases c : a = m 0 0
    · rw [c]
      exact hl
    · rw [hk a _ (by omega) (by omega)]
      exact h5 a g1 (by omega)
  rotate_right 3
  · by_cases c : r = m 0 0
    · rw [c] at g3 ⊢
      exact Or.inl (by rw [h6 g3]; decide)
    · have q2 : r < m 0 0 := by omega
      rw [hk r _ q2 (by omega)] at g3
      rw [hk r _ q2 (by omega)]
      rcases h1 r g1 q2 g3 with g | ⟨g, g'⟩
      · exact Or.inl g
      · exact Or.inr ⟨ko _ _ g, by rw [hk _ _ g.2.1 (by have := g.1; omega)]; exact g'⟩
  · by_cases c : r = m 0 0
    · rw [c] at g3 g8
      rw [h6 g3] at g8
      omega
    · have q2 : r < m 0 0 := by omega
      rw [hk r _ q2 (by omega)] at g3 g8 ⊢
      by_cases c' : q = m 0 0
      · rw [c'] at g6 ⊢
        rw [h6 g6]
        omega
      · have q3 : q < m 0 0 := by omega
        rw [hk q _ q3 (by omega)] at g6 ⊢
        exact h2 r q g1 q2 g3 g4 q3 g6 g7 g8
  · by_cases c : a = m 0 0
    · rw [c] at g3 ⊢
      rw [h0 g3]
      exact ⟨by omega, fun hh => by omega⟩
    · have q2 : a < m 0 0 := by omega
      have ka := fun i => hk a i q2 (by omega)
      rw [ka] at g3 ⊢
      rw [ka]
      obtain ⟨u1, u2⟩ := h3 a g1 q2 g3
      refine ⟨by omega, fun u3 => ?_⟩
      rw [hk _ _ u1 (by omega)]
      exact u2 u3
  · have en : (m' 0 0).toNat = (m 0 0).toNat + 1 := by omega
    rw [en]
    show al * m' 0 1 + be * m' 0 0 ≤ C + D + (sm (wt al be m') (m 0 0).toNat + wt al be m' ((m 0 0).toNat : Int))
    rw [show (((m 0 0).toNat : Nat) : Int) = m 0 0 by omega, e0, Int.mul_add, Int.mul_one]
    have es : sm (wt al be m') (m 0 0).toNat = sm (wt al be m) (m 0 0).toNat := sm_ext fun i i0 i1 => by
      have i2 : i < m 0 0 := by omega
      unfold wt
      by_cases c4 : i < 4
      · rw [if_pos c4, if_pos c4]
      · have ki := fun j => hk i j i2 (by omega)
        rw [if_neg c4, if_neg c4, ki]
        have eo : own al be m' i = own al be m i := by
          unfold own
          rw [ki, ki]
        rw [eo]
        by_cases c6 : m i (-1) = 6
        · rw [if_pos c6, if_pos c6]
          unfold rpt
          rw [ki, ki]
          by_cases ct : m i 0 < 4
          · rw [if_pos ct, if_pos ct]
          · rw [if_neg ct, if_neg ct]
            have ok := ((h1 i (by omega) i2 c6).resolve_left ct).1
            have kt := fun j => hk (m i 0) j ok.2.1 (by omega)
            have en : nnz m' (m i 0) = nnz m (m i 0) := by
              unfold nnz
              rw [kt]
              exact sm_ext fun k k0 _ => by rw [kt]
            rw [en, kt]
        · rw [if_neg c6, if_neg c6]
          by_cases c0 : m i (-1) = 0
          · rw [if_pos c0, if_pos c0]
            unfold lpt
            rw [ki]
            by_cases ct : m i 1 < 4
            · rw [if_pos ct, if_pos ct]
            · rw [if_neg ct, if_neg ct, hk (m i 1) _ (h3 i (by omega) i2 c0).1 (by omega)]
          · rw [if_neg c0, if_neg c0]
    rw [es]
    omega
theorem wt_new (h163 : 163 ≤ z) (h6 : m z (-1) = 6 → m z 0 < 4) (h0 : m z (-1) = 0 → m z 1 < 4) : wt al be m z = own al be m z := by
  unfold wt
  rw [if_neg (show ¬ z < 4 by omega)]
  by_cases c6 : m z (-1) = 6
  · rw [if_pos c6]
    unfold rpt
    rw [if_pos (h6 c6)]
    omega
  · rw [if_neg c6]
    by_cases c0 : m z (-1) = 0
    · rw [if_pos c0]
      unfold lpt
      rw [if_pos (h0 c0)]
      omega
    · rw [if_neg c0]
      omega
theorem own_o (h163 : 163 ≤ z) (hk : m z (-1) ≠ 99 ∧ m z (-1) ≠ 101 ∧ m z (-1) ≠ 107 ∧ m z (-1) ≠ 108) : own al be m z = al * m z (-2) + be := by
  unfold own
  rw [if_neg (show ¬ z < 163 by omega), if_neg (by omega), if_neg hk.1]
theorem own_z (h163 : 163 ≤ z) (hk : m z (-1) = 101 ∨ m z (-1) = 107 ∨ m z (-1) = 108) : own al be m z = 0 := by
  unfold own
  rw [if_neg (show ¬ z < 163 by omega), if_pos hk]
theorem own_t (h163 : 163 ≤ z) (hk : m z (-1) = 99) : own al be m z = 6 * al + be := by
  unfold own
  rw [if_neg (show ¬ z < 163 by omega), if_neg (by omega), if_pos hk]
theorem GI.nw {kd : Nat} (h : GI al be C m) (hF : Fix m) (hl : 0 ≤ ln ∧ ln < 2147483648) (hk : kd ≠ 99 ∧ kd ≠ 101 ∧ kd ≠ 107 ∧ kd ≠ 108) : GI al be C (mnew m kd ln) := by
  have h163 := hF.1
  have g1 : ∀ j : Int, mnew m kd ln (m 0 0) j = if j = -1 then (kd : Int) else if j = -2 then ln else 0 := fun j => if_pos rfl
  have key := h.xt (m' := mnew m kd ln) (D := 0) h163 (mn_c (by omega)).1 ?_ (fun b i hb hb0 => mn_o (by omega) hb0) (fun _ => by rw [g1]; rfl) (fun _ => by rw [g1]; rfl) (by rw [g1, if_neg (by decide), if_pos rfl]; exact hl)
  · rw [show C + 0 = C by omega] at key
    exact key
  · rw [(mn_c (ln := ln) (kd := (kd : Int)) (show m 0 0 ≠ 0 by omega)).2, Int.mul_add]
    have e : wt al be (mnew m kd ln) (m 0 0) = al * ln + be := by
      have l1 : mnew m kd ln (m 0 0) (-1) = (kd : Int) := by rw [g1, if_pos rfl]
      have l2 : mnew m kd ln (m 0 0) (-2) = ln := by rw [g1, if_neg (by decide), if_pos rfl]
      rw [wt_new h163 (fun _ => by rw [g1]; show (0 : Int) < 4; decide) (fun _ => by rw [g1]; show (0 : Int) < 4; decide), own_o h163 (by rw [l1]; omega), l2]
    rw [e]
    omega
theorem GI.thr (h : GI al be C m) (hF : Fix m) : GI al be C (mthr m) := by
  have h163 := hF.1
  have g1 : ∀ j : Int, mthr m (m 0 0) j = if j = -1 then (99 : Int) else if j = -2 then 0 else 0 := fun j => if_pos rfl
  have g2 : mthr m 0 0 = m 0 0 + 1 ∧ mthr m 0 1 = m 0 1 + 6 := by
    unfold mthr
    exact ⟨by rw [if_neg (by omega), if_pos rfl, if_pos rfl], by rw [if_neg (by omega), if_pos rfl, if_neg (by decide), if_pos rfl]⟩
  have key := h.xt (m' := mthr m) (D := 0) h163 g2.1 ?_ (fun b i hb hb0 => by unfold mthr; rw [if_neg (by omega), if_neg hb0]) (fun hh => by rw [g1] at hh; cases hh) (fun hh => by rw [g1] at hh; cases hh) (by rw [g1]; show (0 : Int) ≤ 0 ∧ (0 : Int) < 2147483648; decide)
  · rw [show C + 0 = C by omega] at key
    exact key
  · rw [g2.2, Int.mul_add]
    have e : wt al be (mthr m) (m 0 0) = 6 * al + be := by
      have l1 : mthr m (m 0 0) (-1) = 99 := by rw [g1, if_pos rfl]
      exact (wt_new h163 (fun hh => by rw [l1] at hh; cases hh) (fun hh => by rw [l1] at hh; cases hh)).trans (own_t h163 l1)
    rw [e]
    omega
/-- a part, an array of parts, an array of a list is made: to be paid yet -/
theorem GI.nwz (h : GI al be C m) (hF : Fix m) {kd : Nat} (hl : 0 ≤ ln ∧ ln < 2147483648) (hk : kd = 101 ∨ kd = 107 ∨ kd = 108) : GI al be (C + (al * ln + be)) (mnew m kd ln) := by
  have h163 := hF.1
  have g1 : ∀ j : Int, mnew m kd ln (m 0 0) j = if j = -1 then (kd : Int) else if j = -2 then ln else 0 := fun j => if_pos rfl
  have l1 : mnew m kd ln (m 0 0) (-1) = (kd : Int) := by rw [g1, if_pos rfl]
  refine h.xt (m' := mnew m kd ln) h163 (mn_c (by omega)).1 ?_ (fun b i hb hb0 => mn_o (by omega) hb0) (fun hh => by rw [l1] at hh; omega) (fun hh => by rw [l1] at hh; omega) (by rw [g1, if_neg (by decide), if_pos rfl]; exact hl)
  rw [(mn_c (ln := ln) (kd := (kd : Int)) (show m 0 0 ≠ 0 by omega)).2, Int.mul_add, wt_new h163 (fun hh => by rw [l1] at hh; omega) (fun hh => by rw [l1] at hh; omega), own_z h163 (by rw [l1]; omega)]
  omega
theorem GI.cl (h : GI al be C m) (hF : Fix m) (ok : okc m a 101) : GI al be (C + (al * m a (-2) + be)) (mcl m a) := by
  have h163 := hF.1
  have hl := h.1.2.2.2 a ok.1 ok.2.1
  have g1 : ∀ j : Int, 0 ≤ j ∨ j = -1 ∨ j = -2 → mcl m a (m 0 0) j = m a j := fun j hj => by
    unfold mcl
    rw [if_pos rfl, if_pos hj]
  have l1 : mcl m a (m 0 0) (-1) = 101 := by rw [g1 _ (by omega)]; exact ok.2.2
  have g2 : mcl m a 0 0 = m 0 0 + 1 ∧ mcl m a 0 1 = m 0 1 + m a (-2) := by
    unfold mcl
    exact ⟨by rw [if_neg (by omega), if_pos rfl, if_pos rfl], by rw [if_neg (by omega), if_pos rfl, if_neg (by decide), if_pos rfl]⟩
  refine h.xt (m' := mcl m a) h163 g2.1 ?_ (fun b i hb hb0 => by unfold mcl; rw [if_neg (by omega), if_neg hb0]) (fun hh => by rw [l1] at hh; omega) (fun hh => by rw [l1] at hh; omega) (by rw [g1 _ (by omega)]; exact hl)
  rw [g2.2, Int.mul_add, wt_new h163 (fun hh => by rw [l1] at hh; omega) (fun hh => by rw [l1] at hh; omega), own_z h163 (by rw [l1]; omega)]
  omega
/-- one row changes -/
theorem GI.row (h : GI al be C m) (okr : okc m r 6) (e0 : m' 0 0 = m 0 0) (e1 : m' 0 1 = m 0 1) (k1 : ∀ b, m' b (-1) = m b (-1)) (k2 : ∀ b, m' b (-2) = m b (-2)) (ro : ∀ q, q ≠ r → 4 ≤ q → q < m 0 0 → m q (-1) = 6 → m' q 0 = m q 0 ∧ m' q 1 = m q 1 ∧ (4 ≤ m q 0 → ∀ k, 0 ≤ k → m' (m q 0) k = m (m q 0) k)) (l1 : ∀ a, 4 ≤ a → a < m 0 0 → m a (-1) = 0 → m' a 1 = m a 1 ∧ m' a 2 = m a 2) (hr : m' r 0 < 4 ∨ (okc m (m' r 0) 108 ∧ 1 ≤ m (m' r 0) (-2))) (hn : ∀ q, q ≠ r → 4 ≤ q → q < m 0 0 → m q (-1) = 6 → 4 ≤ m' r 0 → m q 0 ≠ m' r 0) : GI al be (C + rpt al be m r - rpt al be m' r) m' := by
  obtain ⟨⟨h1, h2, h3, h5⟩, h4⟩ := h
  have ko : ∀ t, okc m t 108 → okc m' t 108 := fun t g => ⟨g.1, by rw [e0]; exact g.2.1, by rw [k1]; exact g.2.2⟩
  refine ⟨⟨fun q g1 g2 g3 => ?_, fun p q g1 g2 g3 g4 g5 g6 g7 g8 => ?_, fun a g1 g2 g3 => ?_, fun a g1 g2 => by rw [e0] at g2; rw [k2]; exact h5 a g1 g2⟩, ?_⟩
  · rw [e0] at g2
    rw [k1] at g3
    by_cases c : q = r
    · rw [c, k2]
      exact hr.imp id fun g => ⟨ko _ g.1, g.2⟩
    · rw [(ro q c g1 g2 g3).1, k2]
      exact (h1 q g1 g2 g3).imp id fun g => ⟨ko _ g.1, g.2⟩
  · rw [e0] at g2 g5
    rw [k1] at g3 g6
    by_cases c : p = r
    · have c' : q ≠ r := fun hh => g7 (c.trans hh.symm)
      rw [c] at g8 ⊢
      rw [(ro q c' g4 g5 g6).1]
      exact fun hh => hn q c' g4 g5 g6 g8 hh.symm
    · rw [(ro p c g1 g2 g3).1] at g8 ⊢
      by_cases c' : q = r
      · rw [c']
        intro hh
        exact hn p c g1 g2 g3 (by omega) hh
      · rw [(ro q c' g4 g5 g6).1]
        exact h2 p q g1 g2 g3 g4 g5 g6 g7 g8
  · rw [e0] at g2 ⊢
    rw [k1] at g3
    rw [(l1 a g1 g2 g3).1, (l1 a g1 g2 g3).2, k2]
    exact h3 a g1 g2 g3
  · rw [e0, e1]
    have eo : ∀ i, own al be m' i = own al be m i := fun i => by
      unfold own
      rw [k1, k2]
    have key := sm_one (f := wt al be m) (g := wt al be m') (n := (m 0 0).toNat) (r := r) (by have := okr.1; omega) (by have := okr.2.1; omega) fun i i0 i1 hne => by
      have i2 : i < m 0 0 := by omega
      unfold wt
      by_cases c4 : i < 4
      · rw [if_pos c4, if_pos c4]
      · rw [if_neg c4, if_neg c4, k1, eo]
        by_cases c6 : m i (-1) = 6
        · rw [if_pos c6, if_pos c6]
          obtain ⟨q1, q2, q3⟩ := ro i hne (by omega) i2 c6
          unfold rpt
          rw [q1, q2, k2]
          by_cases ct : m i 0 < 4
          · rw [if_pos ct, if_pos ct]
          · rw [if_neg ct, if_neg ct]
            have en : nnz m' (m i 0) = nnz m (m i 0) := by
              unfold nnz
              rw [k2]
              exact sm_ext fun k k0 _ => by rw [q3 (by omega) k k0]
            rw [en]
        · rw [if_neg c6, if_neg c6]
          by_cases c0 : m i (-1) = 0
          · rw [if_pos c0, if_pos c0]
            unfold lpt
            rw [(l1 i (by omega) i2 c0).1, k2]
          · rw [if_neg c0, if_neg c0]
    have w1 : ∀ q : MM, q r (-1) = 6 → wt al be q r = rpt al be q r + own al be q r := fun q hq => by
      unfold wt
      rw [if_neg (show ¬ r < 4 by have := okr.1; omega), if_pos hq]
    have a1 := w1 m okr.2.2
    have a2 := w1 m' (by rw [k1]; exact okr.2.2)
    have a3 := eo r
    omega
end GIA
