/-! THE TELLING in the reference: stacks, queues, a branch more, a branch less. -/
section RF5
variable {m0 m m' : MM} {x : CX} {s s' : TS} {B H : Int} {a b c e i j v k h n l w p r t o rh E ty ver rc : Int} {G : Int → Nat}
theorem RR.hpush (h : RR m0 m x s rh E H) (h0 : 0 ≤ k) (h1 : k < sg s 0 5) (v0 : 0 ≤ v) (v1 : v < 24) : RR m0 (mset (mset (mset m 153 (m 68 103) (24 * (m 148 k + 1) + v)) 148 k (m 68 103)) 68 103 (m 68 103 + 1)) x (sth s k (v :: sh s k)) rh E (H + 1) := by
  obtain ⟨b1, b2, b3, b4, b5, b6, b7, b8⟩ := h.br h0 h1
  obtain ⟨hT, hS, hV, hP, hB, hQ, hU, hN, hC, ⟨⟨h3a, h3b⟩, hH2, hH3⟩⟩ := h
  have em : ∀ a q : Int, ¬ (a = 68 ∧ q = 103) → ¬ (a = 153 ∧ q = m 68 103) → ¬ (a = 148 ∧ q = k) → mset (mset (mset m 153 (m 68 103) (24 * (m 148 k + 1) + v)) 148 k (m 68 103)) 68 103 (m 68 103 + 1) a q = m a q := fun a q g1 g2 g3 => by
    rw [show mset (mset (mset m 153 (m 68 103) (24 * (m 148 k + 1) + v)) 148 k (m 68 103)) 68 103 (m 68 103 + 1) a q = mset (mset m 153 (m 68 103) (24 * (m 148 k + 1) + v)) 148 k (m 68 103) a q from if_neg g1, show mset (mset m 153 (m 68 103) (24 * (m 148 k + 1) + v)) 148 k (m 68 103) a q = mset m 153 (m 68 103) (24 * (m 148 k + 1) + v) a q from if_neg g3]
    exact if_neg g2
  have e148 : mset (mset (mset m 153 (m 68 103) (24 * (m 148 k + 1) + v)) 148 k (m 68 103)) 68 103 (m 68 103 + 1) 148 k = m 68 103 := by rw [ms_a (by decide), ms_e]
  have e153 : mset (mset (mset m 153 (m 68 103) (24 * (m 148 k + 1) + v)) 148 k (m 68 103)) 68 103 (m 68 103 + 1) 153 (m 68 103) = 24 * (m 148 k + 1) + v := by rw [ms_a (by decide), ms_a (by decide), ms_e]
  have e103 : mset (mset (mset m 153 (m 68 103) (24 * (m 148 k + 1) + v)) 148 k (m 68 103)) 68 103 (m 68 103 + 1) 68 103 = m 68 103 + 1 := ms_e
  have hch : ∀ {tl : List Int} {z : Int}, ChR m tl z → ChR (mset (mset (mset m 153 (m 68 103) (24 * (m 148 k + 1) + v)) 148 k (m 68 103)) 68 103 (m 68 103 + 1)) tl z := fun hc => hc.mono (by rw [e103]; omega) (fun q q1 q2 => em _ _ (by omega) (by omega) (by omega))
  have hpos : -1 ≤ m 148 k ∧ m 148 k < m 68 103 := by
    cases hl : sh s k with
    | nil => rw [hl] at b5; have : m 148 k = -1 := b5; omega
    | cons w tl => rw [hl] at b5; have := b5.1; have := b5.2.1; omega
  generalize mset (mset (mset m 153 (m 68 103) (24 * (m 148 k + 1) + v)) 148 k (m 68 103)) 68 103 (m 68 103 + 1) = M at em e148 e153 e103 hch ⊢
  have e68 : ∀ q, q ≠ 103 → M 68 q = m 68 q := fun q hq => em _ _ (by omega) (by omega) (by omega)
  have eo : ∀ a q : Int, a ≠ 68 → a ≠ 153 → a ≠ 148 → M a q = m a q := fun a q g1 g2 g3 => em _ _ (by omega) (by omega) (by omega)
  refine ⟨fun a q hh => ?_, ?_, fun a g1 g2 => by rw [eo _ _ (by decide) (by decide) (by decide)]; exact hV a g1 g2, fun n g1 g2 => by rw [eo _ _ (by decide) (by decide) (by decide)]; exact hP n g1 g2, ⟨hB.1, fun i g1 g2 => ?_⟩, fun n g1 g2 => ?_, ?_, fun i k a b hi => ?_, ?_, ⟨by rw [e103]; omega, by have : su (sth s k (v :: sh s k)) = su s := rfl; rw [this]; omega, hH3.1, by have : sg (sth s k (v :: sh s k)) 0 6 = sg s 0 6 := rfl; omega⟩⟩
  · rw [em a q (fun g => hh (by rw [g.1, g.2]; exact mtb68 (by omega))) (fun g => hh (by rw [g.1, g.2]; exact mtb1 (by decide) (by decide) h3a)) (fun g => hh (by rw [g.1, g.2]; exact mtb1 (by decide) (by decide) h0))]
    exact hT a q hh
  · obtain ⟨s1, s2, s3, s4, s5, s6, s7, s8, s9⟩ := hS
    refine ⟨by rw [e68 _ (by decide)]; exact s1, by rw [e68 _ (by decide)]; exact s2, by rw [e68 _ (by decide)]; exact s3, by rw [e68 _ (by decide)]; exact s4, by rw [e68 _ (by decide)]; exact s5, by rw [e68 _ (by decide)]; exact s6, by rw [e68 _ (by decide)]; exact s7, by rw [e68 _ (by decide)]; exact s8, fun g => by rw [e68 _ (by decide)]; exact s9 g⟩
  · obtain ⟨c1, c2, c3, c4, c5, c6, c7, c8⟩ := hB.2 i g1 g2
    refine ⟨by rw [eo _ _ (by decide) (by decide) (by decide)]; exact c1, by rw [eo _ _ (by decide) (by decide) (by decide)]; exact c2, by rw [eo _ _ (by decide) (by decide) (by decide)]; exact c3, by rw [eo _ _ (by decide) (by decide) (by decide)]; exact c4, ?_, ?_, c7, fun g => by rw [eo _ _ (by decide) (by decide) (by decide), eo _ _ (by decide) (by decide) (by decide), eo _ _ (by decide) (by decide) (by decide)]; exact c8 g⟩
    · show ChR M (if i = k then v :: sh s k else sh s i) (M 148 i)
      by_cases q : i = k
      · rw [if_pos q, q, e148]
        exact ⟨h3a, by rw [e103]; omega, v0, v1, m 148 k, hpos.1, hpos.2, e153, hch b5⟩
      · rw [if_neg q, em _ _ (by omega) (by omega) (by omega)]
        exact hch c5
    · unfold RivR at c6 ⊢
      rw [eo _ _ (by decide) (by decide) (by decide)]
      exact c6
  · rw [eo _ _ (by decide) (by decide) (by decide), eo _ _ (by decide) (by decide) (by decide)]
    obtain ⟨q1, q2, q3, q4⟩ := hQ n g1 g2
    exact ⟨q1, q2, q3, fun i v hv => by rw [eo _ _ (by decide) (by decide) (by decide)]; exact q4 i v hv⟩
  · refine ⟨by rw [e68 _ (by decide)]; exact hU.1, fun i v hv => ?_⟩
    rw [e68 _ (by decide), eo _ _ (by decide) (by decide) (by decide)]
    exact hU.2 i v hv
  · rw [eo _ _ (by decide) (by decide) (by decide), eo _ _ (by decide) (by decide) (by decide)]
    exact hN i k a b hi
  · unfold PT at hC ⊢
    rw [e68 _ (by decide), e68 _ (by decide)]
    exact hC
/-- compensations: the row and its size -/
theorem RR.us {z : Int} {tl : List Int} {H' : Int} (h : RR m0 m x s rh E H) (hz : 0 ≤ z) (hU : RU (mset (mset m 154 z v) 68 105 w) (stu s tl)) (hl : (tl.length : Int) ≤ H') (hH' : H ≤ H') : RR m0 (mset (mset m 154 z v) 68 105 w) x (stu s tl) rh E H' := by
  obtain ⟨hT, hS, hV, hP, hB, hQ, -, hN, hC, ⟨⟨h3a, h3b⟩, hH2, hH3⟩⟩ := h
  have em : ∀ a q : Int, ¬ (a = 68 ∧ q = 105) → a ≠ 154 → mset (mset m 154 z v) 68 105 w a q = m a q := fun a q g1 g2 => by
    rw [show mset (mset m 154 z v) 68 105 w a q = mset m 154 z v a q from if_neg g1, ms_a g2]
  have hTT : TFr m0 (mset (mset m 154 z v) 68 105 w) := (hT.ms (mtb1 (by decide) (by decide) hz)).ms (mtb68 (by omega))
  generalize mset (mset m 154 z v) 68 105 w = M at em hU hTT ⊢
  have e68 : ∀ q, q ≠ 105 → M 68 q = m 68 q := fun q hq => em _ _ (by omega) (by decide)
  have eo : ∀ a q : Int, a ≠ 68 → a ≠ 154 → M a q = m a q := fun a q g1 g2 => em _ _ (by omega) g2
  refine ⟨hTT, ?_, fun a g1 g2 => by rw [eo _ _ (by decide) (by decide)]; exact hV a g1 g2, fun n g1 g2 => by rw [eo _ _ (by decide) (by decide)]; exact hP n g1 g2, hB.cg rfl rfl (fun _ _ _ => rfl) (fun _ => rfl) (fun _ => rfl) (fun a j g1 g2 => eo _ _ (by omega) (by omega)) (fun i _ _ => eo _ _ (by decide) (by decide)) (by rw [e68 _ (by decide)]; exact Int.le_refl _), fun n g1 g2 => ?_, hU, fun i k a b hi => ?_, ?_, ⟨by rw [e68 _ (by decide)]; omega, hl, hH3.1, by have : sg (stu s tl) 0 6 = sg s 0 6 := rfl; omega⟩⟩
  · obtain ⟨s1, s2, s3, s4, s5, s6, s7, s8, s9⟩ := hS
    refine ⟨by rw [e68 _ (by decide)]; exact s1, by rw [e68 _ (by decide)]; exact s2, by rw [e68 _ (by decide)]; exact s3, by rw [e68 _ (by decide)]; exact s4, by rw [e68 _ (by decide)]; exact s5, by rw [e68 _ (by decide)]; exact s6, by rw [e68 _ (by decide)]; exact s7, by rw [e68 _ (by decide)]; exact s8, fun g => by rw [e68 _ (by decide)]; exact s9 g⟩
  · rw [eo _ _ (by decide) (by decide), eo _ _ (by decide) (by decide)]
    obtain ⟨q1, q2, q3, q4⟩ := hQ n g1 g2
    exact ⟨q1, q2, q3, fun i v hv => by rw [eo _ _ (by decide) (by decide)]; exact q4 i v hv⟩
  · rw [eo _ _ (by decide) (by decide), eo _ _ (by decide) (by decide)]
    exact hN i k a b hi
  · unfold PT at hC ⊢
    rw [e68 _ (by decide), e68 _ (by decide)]
    exact hC
theorem RR.upush (h : RR m0 m x s rh E H) (a0 : 0 ≤ a) (v0 : 0 ≤ v) (v1 : v ≤ 999) : RR m0 (mset (mset m 154 (m 68 105) (10 * v + a)) 68 105 (m 68 105 + 1)) x (stu s ((1000 * a + v) :: su s)) rh E (H + 1) := by
  have hU := h.2.2.2.2.2.2.1
  have hH := h.2.2.2.2.2.2.2.2.2.2.1
  have hl : (0 : Int) ≤ ((su s).length : Int) := Int.natCast_nonneg _
  refine h.us (by rw [hU.1]; exact hl) ⟨?_, fun i w hw => ?_⟩ (by simp only [List.length_cons]; omega) (by omega)
  · rw [ms_e, hU.1]
    show _ = (((1000 * a + v) :: su s).length : Int)
    simp only [List.length_cons]
    omega
  · rw [ms_e, ms_a (by decide)]
    have hw' : ((1000 * a + v) :: su s)[i]? = some w := hw
    cases i with
    | zero =>
      simp at hw'
      subst hw'
      rw [show m 68 105 + 1 - 1 - ((0 : Nat) : Int) = m 68 105 by omega, ms_e]
      omega
    | succ i =>
      simp at hw'
      rw [show m 68 105 + 1 - 1 - ((i + 1 : Nat) : Int) = m 68 105 - 1 - i by omega, ms_j (by omega)]
      exact hU.2 i w hw'
theorem RR.upop {tl : List Int} (h : RR m0 m x s rh E H) (hs : su s = v :: tl) : RR m0 (mset m 68 105 (m 68 105 - 1)) x (stu s tl) rh E H ∧ m 154 (m 68 105 - 1) = 10 * (v % 1000) + v / 1000 ∧ m 68 105 = (tl.length : Int) + 1 := by
  have hU := h.2.2.2.2.2.2.1
  have hH := h.2.2.2.2.2.2.2.2.2.2.1
  have e1 : m 68 105 = (tl.length : Int) + 1 := by rw [hU.1, hs]; simp only [List.length_cons]; omega
  have e2 := hU.2 0 v (by rw [hs]; rfl)
  rw [show m 68 105 - 1 - ((0 : Nat) : Int) = m 68 105 - 1 by omega] at e2
  refine ⟨?_, e2, e1⟩
  have same : mset (mset m 154 0 (m 154 0)) 68 105 (m 68 105 - 1) = mset m 68 105 (m 68 105 - 1) := by rw [mset_same]
  have hh := h.us (z := 0) (v := m 154 0) (w := m 68 105 - 1) (tl := tl) (H' := H) (by decide) (by
    rw [same]
    refine ⟨by rw [ms_e]; show _ = (tl.length : Int); omega, fun i w hw => ?_⟩
    have hw' : tl[i]? = some w := hw
    rw [ms_e, ms_a (by decide), show m 68 105 - 1 - 1 - (i : Int) = m 68 105 - 1 - ((i + 1 : Nat) : Int) by omega]
    exact hU.2 (i + 1) w (by rw [hs]; exact hw')) (by rw [hs] at hH; simp only [List.length_cons] at hH; omega) (Int.le_refl _)
  rw [same] at hh
  exact hh
/-- queues -/
theorem RR.qs (h : RR m0 m x s rh E H) (hT : TFr m0 m') (em : ∀ a q : Int, a ≠ 155 → a ≠ 156 → a ≠ 157 → m' a q = m a q) (e1 : s'.2.1 = s.2.1) (e2 : s'.2.2.2 = s.2.2.2) (es : ∀ a q : Int, ¬ (a = 0 ∧ q = 41) → sg s' a q = sg s a q) (hQ : RQ m' s') : RR m0 m' x s' rh E H := by
  obtain ⟨-, hS, hV, hP, hB, -, hU, hN, hC, hH⟩ := h
  have en : sn s' = sn s := by unfold sn; rw [e2]
  have eu : su s' = su s := by unfold su; rw [e2]
  have eh : ∀ k, sh s' k = sh s k := fun k => by unfold sh; rw [e1]
  have e68 : ∀ q, m' 68 q = m 68 q := fun q => em _ _ (by decide) (by decide) (by decide)
  refine ⟨hT, ?_, fun a g1 g2 => by rw [em _ _ (by decide) (by decide) (by decide), es _ _ (by omega)]; exact hV a g1 g2, fun n g1 g2 => by rw [em _ _ (by decide) (by decide) (by decide), es _ _ (by omega)]; exact hP n g1 (by rw [es _ _ (by omega)] at g2; exact g2), hB.cg (es _ _ (by omega)) (es _ _ (by omega)) (fun k j hk => es _ _ (by omega)) (fun n => es _ _ (by omega)) eh (fun a j g1 g2 => em _ _ (by omega) (by omega) (by omega)) (fun i _ _ => em _ _ (by decide) (by decide) (by decide)) (by rw [e68]; exact Int.le_refl _), hQ, ?_, fun i k a b hi => ?_, ?_, ?_⟩
  · unfold RS nl at hS ⊢
    simp only [e68, es 0 5 (by omega), es 0 6 (by omega), es 0 7 (by omega), es 0 8 (by omega), es 0 9 (by omega), es 0 29 (by omega), es 0 30 (by omega), es 0 31 (by omega), en]
    exact hS
  · unfold RU
    rw [eu]
    refine ⟨by rw [e68]; exact hU.1, fun i v hv => ?_⟩
    rw [e68, em _ _ (by decide) (by decide) (by decide)]
    exact hU.2 i v hv
  · rw [en] at hi
    rw [em _ _ (by decide) (by decide) (by decide), em _ _ (by decide) (by decide) (by decide)]
    exact hN i k a b hi
  · unfold PT at hC ⊢
    rw [e68, e68, es _ _ (by omega), es _ _ (by omega)]
    exact hC
  · unfold RH at hH ⊢
    rw [e68, es _ _ (by omega), eu]
    exact hH
theorem RR.qpush (h : RR m0 m x s rh E H) (n0 : 0 ≤ n) (n1 : n < 4) (hb : sg s 0 41 < 2048) : RR m0 (mset (mset m 157 (2048 * n + m 155 n) v) 155 n (m 155 n + 1)) x (st (stq s n (sq s n ++ [v])) 0 41 (sg s 0 41 + 1)) rh E H ∧ 0 ≤ m 155 n ∧ m 155 n < 2048 := by
  have hQ := h.2.2.2.2.2.1
  obtain ⟨q1, q2, q3, q4⟩ := hQ n n0 n1
  have hl : (0 : Int) ≤ ((sq s n).length : Int) := Int.natCast_nonneg _
  refine ⟨h.qs ((h.1.ms (mtb1 (by decide) (by decide) (by omega))).ms (mtb1 (by decide) (by decide) n0)) (fun a q g1 g2 g3 => by rw [ms_a g1, ms_a g3]) rfl rfl (fun a q hh => if_neg hh) (fun n' g1 g2 => ?_), by omega, by omega⟩
  obtain ⟨p1, p2, p3, p4⟩ := hQ n' g1 g2
  have e41 : sg (st (stq s n (sq s n ++ [v])) 0 41 (sg s 0 41 + 1)) 0 41 = sg s 0 41 + 1 := by rw [st_g, if_pos ⟨rfl, rfl⟩]
  have eq : sq (st (stq s n (sq s n ++ [v])) 0 41 (sg s 0 41 + 1)) n' = if n' = n then sq s n ++ [v] else sq s n' := rfl
  rw [e41, eq, ms_a (b := 156) (by decide), ms_a (b := 156) (by decide)]
  by_cases hn : n' = n
  · subst hn
    rw [ms_e, if_pos rfl]
    refine ⟨p1, by omega, by rw [List.length_append]; simp only [List.length_cons, List.length_nil]; omega, fun i w hw => ?_⟩
    rw [ms_a (by decide)]
    by_cases hi : i < (sq s n').length
    · rw [List.getElem?_append_left hi] at hw
      rw [ms_j (by omega)]
      exact p4 i w hw
    · have hi3 : i = (sq s n').length := by
        have := (List.getElem?_eq_some_iff.mp hw).1
        rw [List.length_append] at this
        simp only [List.length_cons, List.length_nil] at this
        omega
      subst hi3
      rw [List.getElem?_append_right (Nat.le_refl _)] at hw
      simp at hw
      subst hw
      rw [show 2048 * n' + m 156 n' + ((sq s n').length : Int) = 2048 * n' + m 155 n' by omega, ms_e]
  · rw [ms_j hn, ms_a (by decide), if_neg hn]
    refine ⟨p1, by omega, p3, fun i w hw => ?_⟩
    have hi := (List.getElem?_eq_some_iff.mp hw).1
    rw [ms_a (by decide), ms_j (by omega)]
    exact p4 i w hw
theorem RR.qpop {tl : List Int} (h : RR m0 m x s rh E H) (n0 : 0 ≤ n) (n1 : n < 4) (hs : sq s n = v :: tl) : RR m0 (mset m 156 n (m 156 n + 1)) x (stq s n tl) rh E H ∧ m 157 (2048 * n + m 156 n) = v := by
  have hQ := h.2.2.2.2.2.1
  obtain ⟨q1, q2, q3, q4⟩ := hQ n n0 n1
  have e0 := q4 0 v (by rw [hs]; rfl)
  rw [show 2048 * n + m 156 n + ((0 : Nat) : Int) = 2048 * n + m 156 n by omega] at e0
  refine ⟨h.qs (h.1.ms (mtb1 (by decide) (by decide) n0)) (fun a q g1 g2 g3 => ms_a g2) rfl rfl (fun a q hh => rfl) (fun n' g1 g2 => ?_), e0⟩
  obtain ⟨p1, p2, p3, p4⟩ := hQ n' g1 g2
  have eq : sq (stq s n tl) n' = if n' = n then tl else sq s n' := rfl
  have e41 : sg (stq s n tl) 0 41 = sg s 0 41 := rfl
  rw [e41, eq, ms_a (b := 155) (by decide)]
  by_cases hn : n' = n
  · subst hn
    rw [ms_e, if_pos rfl]
    rw [hs] at q3
    simp only [List.length_cons] at q3
    refine ⟨by omega, p2, by omega, fun i w hw => ?_⟩
    rw [ms_a (by decide), show 2048 * n' + (m 156 n' + 1) + (i : Int) = 2048 * n' + m 156 n' + ((i + 1 : Nat) : Int) by omega]
    exact p4 (i + 1) w (by rw [hs]; exact hw)
  · rw [ms_j hn, if_neg hn]
    refine ⟨p1, p2, p3, fun i w hw => ?_⟩
    rw [ms_a (by decide)]
    exact p4 i w hw
end RF5
