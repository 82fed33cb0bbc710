/-! THE TELLING in the reference: how its arrays stand for the plain state. -/
section RF2
variable {m0 m m' : MM} {x : CX} {s s' : TS} {B H : Int} {a b c e i j v k h n l w p r t o : Int}
def wmp (w : Int) : Int := if w = 2 then 4 else if w = 3 then 2 else if w = 4 then 3 else w
theorem wmp0 : wmp w = 0 ↔ w = 0 := by
  unfold wmp
  split
  · omega
  · split
    · omega
    · split <;> omega
theorem wmp1 : wmp w = 1 ↔ w = 1 := by
  unfold wmp
  split
  · omega
  · split
    · omega
    · split <;> omega
theorem wmp4 : wmp w = 4 ↔ w = 2 := by
  unfold wmp
  split
  · omega
  · split
    · omega
    · split <;> omega
theorem wmp2 : wmp w = 2 ↔ w = 3 := by
  unfold wmp
  split
  · omega
  · split
    · omega
    · split <;> omega
theorem wmp3 : wmp w = 3 ↔ w = 4 := by
  unfold wmp
  split
  · omega
  · split
    · omega
    · split <;> omega
def rinto (x : CX) (l : Int) : Int := if (x.2.2 l).1 = 3 then -1 else bOf x l
def ChR (m : MM) : List Int → Int → Prop
  | [], h => h = -1
  | v :: t, h => 0 ≤ h ∧ h < m 68 103 ∧ 0 ≤ v ∧ v < 24 ∧ ∃ h', -1 ≤ h' ∧ h' < h ∧ m 153 h = 24 * (h' + 1) + v ∧ ChR m t h'
theorem ChR.mono (h1 : m 68 103 ≤ m' 68 103) (h2 : ∀ i : Int, 0 ≤ i → i < m 68 103 → m' 153 i = m 153 i) : ∀ {t : List Int} {h : Int}, ChR m t h → ChR m' t h := by
  intro t
  induction t with
  | nil => intro h hh; exact hh
  | cons v t ih =>
    rintro h ⟨g1, g2, g3, g4, h', g5, g6, g7, g8⟩
    exact ⟨g1, by omega, g3, g4, h', g5, g6, by rw [h2 h g1 g2]; exact g7, ih g8⟩
/-- a rival that is not there may be told as one or as none -/
def RivR (m : MM) (s : TS) (k : Int) : Prop := m 149 k = sg s (2 + k) 3 ∨ (m 149 k = -1 ∧ sg s (2 + k) 3 < sg s 0 6 ∧ ∀ i : Int, 0 ≤ i → i < sg s 0 5 → sg s (2 + i) 0 ≠ sg s (2 + k) 3)
def RS (m : MM) (s : TS) : Prop := m 68 91 = sg s 0 5 ∧ m 68 92 = sg s 0 6 ∧ m 68 110 = sg s 0 7 ∧ m 68 111 = sg s 0 8 ∧ m 68 112 = sg s 0 9 ∧ m 68 113 = sg s 0 29 ∧ m 68 114 = sg s 0 30 ∧ m 68 120 = nl s ∧ (sg s 0 30 ≠ 0 → m 68 115 = sg s 0 31)
def RV (m : MM) (s : TS) : Prop := ∀ a : Int, 0 ≤ a → a < 6 → m 142 a = sg s 1 a
def RP (m : MM) (s : TS) : Prop := ∀ n : Int, 0 ≤ n → n < sg s 0 6 → m 152 n = sg s (-1) n
def BrR (m : MM) (x : CX) (s : TS) (E k : Int) : Prop := m 143 k = sg s (2 + k) 0 ∧ m 144 k = sg s (2 + k) 4 ∧ m 150 k = sg s (2 + k) 5 ∧ m 151 k = (if k < E ∧ sg s (2 + k) 6 = 0 then 0 else 1) ∧ ChR m (sh s k) (m 148 k) ∧ RivR m s k ∧ sg s (2 + k) 1 = sg s (-1) (sg s (2 + k) 0) ∧
  (sg s (2 + k) 9 = 0 → m 145 k = wmp (sg s (2 + k) 7) ∧ ((sg s (2 + k) 7 = 1 ∨ sg s (2 + k) 7 = 2 ∨ sg s (2 + k) 7 = 3) → m 146 k = sg s (2 + k) 8) ∧ (sg s (2 + k) 7 = 3 → m 147 k = bOf x (sg s (2 + k) 4)) ∧ (sg s (2 + k) 7 = 1 → m 147 k = rinto x (sg s (2 + k) 4)))
def RB (m : MM) (x : CX) (s : TS) (E : Int) : Prop := (0 ≤ sg s 0 5 ∧ sg s 0 5 ≤ 12) ∧ ∀ k : Int, 0 ≤ k → k < sg s 0 5 → BrR m x s E k
def RQ (m : MM) (s : TS) : Prop := ∀ n : Int, 0 ≤ n → n < 4 → 0 ≤ m 156 n ∧ m 155 n ≤ sg s 0 41 ∧ m 155 n = m 156 n + ((sq s n).length : Int) ∧ ∀ (i : Nat) (v : Int), (sq s n)[i]? = some v → m 157 (2048 * n + m 156 n + i) = v
def RU (m : MM) (s : TS) : Prop := m 68 105 = ((su s).length : Int) ∧ ∀ (i : Nat) (v : Int), (su s)[i]? = some v → m 154 (m 68 105 - 1 - i) = 10 * (v % 1000) + v / 1000
def RN (m : MM) (s : TS) : Prop := ∀ (i : Nat) (k a b : Int), (sn s)[i]? = some (k, a, b) → m 158 i = 1000 * k + b ∧ m 159 i = a
/-- the pointers to commands -/
def PT (m : MM) (x : CX) (s : TS) (rh : Int) : Prop := sg s 0 30 = 0 → (0 ≤ m 68 116 ∧ m 68 116 ≤ x.1 0) ∧ (0 ≤ m 68 125 ∧ m 68 125 ≤ x.1 0) ∧ (nc x (sg s 0 12) < rh → nc x (m 68 116) = nc x (sg s 0 12)) ∧ (rh ≤ nc x (sg s 0 12) → rh ≤ nc x (m 68 116)) ∧ nc x (m 68 125) = (if nc x (sg s 0 12) < rh then nc x rh else nc x (sg s 0 12))
def RH (m : MM) (s : TS) (H : Int) : Prop := (0 ≤ m 68 103 ∧ m 68 103 ≤ H) ∧ ((su s).length : Int) ≤ H ∧ (0 ≤ sg s 0 6 ∧ sg s 0 6 ≤ H)
def RR (m0 m : MM) (x : CX) (s : TS) (rh E H : Int) : Prop := TFr m0 m ∧ RS m s ∧ RV m s ∧ RP m s ∧ RB m x s E ∧ RQ m s ∧ RU m s ∧ RN m s ∧ PT m x s rh ∧ RH m s H
variable {rh E : Int}
theorem RR.mono {H' : Int} (h : RR m0 m x s rh E H) (hb : H ≤ H') : RR m0 m x s rh E H' := by
  obtain ⟨h0, h1, h2, h3, h4, h5, h6, h7, h8, h9, h10, h11⟩ := h
  exact ⟨h0, h1, h2, h3, h4, h5, h6, h7, h8, ⟨h9.1, by omega⟩, by omega, h11.1, by omega⟩
/-- a change that touches the branches' rows not at all (E: from there on all were told of CANCEL) -/
theorem RB.cg (h : RB m x s E) (e5 : sg s' 0 5 = sg s 0 5) (e6 : sg s' 0 6 = sg s 0 6) (ea : ∀ k j : Int, 0 ≤ k → sg s' (2 + k) j = sg s (2 + k) j) (ep : ∀ n, sg s' (-1) n = sg s (-1) n) (eh : ∀ k, sh s' k = sh s k) (em : ∀ a j : Int, 143 ≤ a → a ≤ 151 → m' a j = m a j) (e3 : ∀ i : Int, 0 ≤ i → i < m 68 103 → m' 153 i = m 153 i) (e4 : m 68 103 ≤ m' 68 103) : RB m' x s' E := by
  refine ⟨by rw [e5]; exact h.1, fun k g1 g2 => ?_⟩
  rw [e5] at g2
  have hk := h.2 k g1 g2
  unfold BrR RivR at hk ⊢
  simp only [ea k _ g1, ep, eh, e5, e6, em 143 _ (by decide) (by decide), em 144 _ (by decide) (by decide), em 145 _ (by decide) (by decide), em 146 _ (by decide) (by decide), em 147 _ (by decide) (by decide), em 148 _ (by decide) (by decide), em 149 _ (by decide) (by decide), em 150 _ (by decide) (by decide), em 151 _ (by decide) (by decide)]
  refine ⟨hk.1, hk.2.1, hk.2.2.1, hk.2.2.2.1, hk.2.2.2.2.1.mono e4 e3, hk.2.2.2.2.2.1.imp id fun g => ⟨g.1, g.2.1, fun i i1 i2 => by rw [ea i _ i1]; exact g.2.2 i i1 i2⟩, hk.2.2.2.2.2.2⟩
/-- a slot of a row at another branch, or no branch's row -/
theorem mtb1 (h1 : 142 ≤ a) (h2 : a ≤ 159) (h3 : 0 ≤ j) : mtb a j := Or.inr ⟨h1, h2, h3⟩
theorem mtb68 (h : j = 91 ∨ j = 92 ∨ j = 103 ∨ j = 105 ∨ (110 ≤ j ∧ j ≤ 116) ∨ j = 120 ∨ j = 125 ∨ j = 126) : mtb 68 j := Or.inl ⟨rfl, h⟩
/-- a scalar: 110 to 113 -/
theorem RR.p0 (h : RR m0 m x s rh E H) (hj : (j = 110 ∧ i = 7) ∨ (j = 111 ∧ i = 8) ∨ (j = 112 ∧ i = 9) ∨ (j = 113 ∧ i = 29)) : RR m0 (mset m 68 j v) x (st s 0 i v) rh E H := by
  obtain ⟨hT, hS, hV, hP, hB, hQ, hU, hN, hC, hH⟩ := h
  have em : ∀ a q : Int, ¬ (a = 68 ∧ q = j) → mset m 68 j v a q = m a q := fun a q hh => if_neg hh
  have es : ∀ a q : Int, ¬ (a = 0 ∧ q = i) → sg (st s 0 i v) a q = sg s a q := fun a q hh => by rw [st_g, if_neg hh]
  obtain ⟨s1, s2, s3, s4, s5, s6, s7, s8, s9⟩ := hS
  refine ⟨hT.ms (mtb68 (by omega)), ?_, fun a g1 g2 => by rw [em _ _ (by omega), es _ _ (by omega)]; exact hV a g1 g2, fun n g1 g2 => by rw [em _ _ (by omega), es _ _ (by omega)]; exact hP n g1 (by rw [es _ _ (by omega)] at g2; exact g2), hB.cg (es _ _ (by omega)) (es _ _ (by omega)) (fun k j hk => es _ _ (by omega)) (fun n => es _ _ (by omega)) (fun _ => rfl) (fun a j g1 g2 => em _ _ (by omega)) (fun i _ _ => em _ _ (by omega)) (by rw [em _ _ (by omega)]; exact Int.le_refl _), fun n g1 g2 => ?_, ?_, fun q k a b hq => ?_, ?_, ?_⟩
  · have e2 : nl (st s 0 i v) = nl s := rfl
    refine ⟨?_, ?_, ?_, ?_, ?_, ?_, ?_, ?_, fun g => ?_⟩
    · rw [em _ _ (by omega), es _ _ (by omega)]; exact s1
    · rw [em _ _ (by omega), es _ _ (by omega)]; exact s2
    · rcases hj with ⟨rfl, rfl⟩ | ⟨rfl, rfl⟩ | ⟨rfl, rfl⟩ | ⟨rfl, rfl⟩
      · rw [ms_e, st_g, if_pos ⟨rfl, rfl⟩]
      all_goals rw [em _ _ (by omega), es _ _ (by omega)]; exact s3
    · rcases hj with ⟨rfl, rfl⟩ | ⟨rfl, rfl⟩ | ⟨rfl, rfl⟩ | ⟨rfl, rfl⟩
      · rw [em _ _ (by omega), es _ _ (by omega)]; exact s4
      · rw [ms_e, st_g, if_pos ⟨rfl, rfl⟩]
      all_goals rw [em _ _ (by omega), es _ _ (by omega)]; exact s4
    · rcases hj with ⟨rfl, rfl⟩ | ⟨rfl, rfl⟩ | ⟨rfl, rfl⟩ | ⟨rfl, rfl⟩
      · rw [em _ _ (by omega), es _ _ (by omega)]; exact s5
      · rw [em _ _ (by omega), es _ _ (by omega)]; exact s5
      · rw [ms_e, st_g, if_pos ⟨rfl, rfl⟩]
      · rw [em _ _ (by omega), es _ _ (by omega)]; exact s5
    · rcases hj with ⟨rfl, rfl⟩ | ⟨rfl, rfl⟩ | ⟨rfl, rfl⟩ | ⟨rfl, rfl⟩
      · rw [em _ _ (by omega), es _ _ (by omega)]; exact s6
      · rw [em _ _ (by omega), es _ _ (by omega)]; exact s6
      · rw [em _ _ (by omega), es _ _ (by omega)]; exact s6
      · rw [ms_e, st_g, if_pos ⟨rfl, rfl⟩]
    · rw [em _ _ (by omega), es _ _ (by omega)]; exact s7
    · rw [em _ _ (by omega), e2]; exact s8
    · rw [es _ _ (by omega)] at g
      rw [em _ _ (by omega), es _ _ (by omega)]; exact s9 g
  · rw [em _ _ (by omega), em _ _ (by omega), es _ _ (by omega)]
    obtain ⟨q1, q2, q3, q4⟩ := hQ n g1 g2
    exact ⟨q1, q2, q3, fun i v hv => by rw [em _ _ (by omega)]; exact q4 i v hv⟩
  · refine ⟨by rw [em _ _ (by omega)]; exact hU.1, fun i v hv => ?_⟩
    rw [em _ _ (by omega), em _ _ (by omega)]
    exact hU.2 i v hv
  · rw [em _ _ (by omega), em _ _ (by omega)]
    exact hN q k a b hq
  · unfold PT at hC ⊢
    rw [em _ _ (by omega), em _ _ (by omega), es _ _ (by omega), es _ _ (by omega)]
    exact hC
  · unfold RH at hH ⊢
    rw [em _ _ (by omega), es _ _ (by omega)]
    exact hH
/-- counters that the reference doesn't have -/
theorem RR.s40 (h : RR m0 m x s rh E H) : RR m0 m x (st s 0 40 v) rh E H := by
  obtain ⟨hT, hS, hV, hP, hB, hQ, hU, hN, hC, hH⟩ := h
  have es : ∀ a q : Int, ¬ (a = 0 ∧ q = 40) → sg (st s 0 40 v) a q = sg s a q := fun a q hh => by rw [st_g, if_neg hh]
  refine ⟨hT, hS, fun a g1 g2 => by rw [es _ _ (by omega)]; exact hV a g1 g2, hP, hB.cg rfl rfl (fun k j hk => es _ _ (by omega)) (fun n => es _ _ (by omega)) (fun _ => rfl) (fun _ _ _ _ => rfl) (fun _ _ _ => rfl) (Int.le_refl _), hQ, hU, hN, hC, hH⟩
/-- a variable -/
theorem RR.p1 (h : RR m0 m x s rh E H) (h0 : 0 ≤ j) : RR m0 (mset m 142 j v) x (st s 1 j v) rh E H := by
  obtain ⟨hT, hS, hV, hP, hB, hQ, hU, hN, hC, hH⟩ := h
  have em : ∀ a q : Int, a ≠ 142 → mset m 142 j v a q = m a q := fun a q hh => ms_a hh
  have es : ∀ a q : Int, a ≠ 1 → sg (st s 1 j v) a q = sg s a q := fun a q hh => by rw [st_g, if_neg fun g => hh g.1]
  refine ⟨hT.ms (mtb1 (by decide) (by decide) h0), ?_, fun a g1 g2 => ?_, fun n g1 g2 => by rw [em _ _ (by decide), es _ _ (by decide)]; exact hP n g1 (by rw [es _ _ (by decide)] at g2; exact g2), hB.cg (es _ _ (by decide)) (es _ _ (by decide)) (fun k j hk => es _ _ (by omega)) (fun n => es _ _ (by decide)) (fun _ => rfl) (fun a j g1 g2 => em _ _ (by omega)) (fun i _ _ => em _ _ (by decide)) (by rw [em _ _ (by decide)]; exact Int.le_refl _), fun n g1 g2 => ?_, ?_, fun q k a b hq => ?_, ?_, ?_⟩
  · unfold RS at hS ⊢
    simp only [em 68 _ (by decide), es 0 _ (by decide)]
    exact hS
  · rw [ms_i, st_g]
    by_cases q : a = j
    · rw [if_pos q, if_pos ⟨rfl, q⟩]
    · rw [if_neg q, if_neg fun g => q g.2]
      exact hV a g1 g2
  · rw [em _ _ (by decide), em _ _ (by decide), es _ _ (by decide)]
    obtain ⟨q1, q2, q3, q4⟩ := hQ n g1 g2
    exact ⟨q1, q2, q3, fun i v hv => by rw [em _ _ (by decide)]; exact q4 i v hv⟩
  · refine ⟨by rw [em _ _ (by decide)]; exact hU.1, fun i v hv => ?_⟩
    rw [em _ _ (by decide), em _ _ (by decide)]
    exact hU.2 i v hv
  · rw [em _ _ (by decide), em _ _ (by decide)]
    exact hN q k a b hq
  · unfold PT at hC ⊢
    rw [em _ _ (by decide), em _ _ (by decide), es _ _ (by decide), es _ _ (by decide)]
    exact hC
  · unfold RH at hH ⊢
    rw [em _ _ (by decide), es _ _ (by decide)]
    exact hH
/-- the run is stuck -/
theorem RR.stk (h : RR m0 m x s rh E H) : RR m0 (mset (mset m 68 114 1) 68 115 v) x (sStuck s v) rh E H := by
  obtain ⟨hT, hS, hV, hP, hB, hQ, hU, hN, hC, hH⟩ := h
  have em : ∀ a q : Int, ¬ (a = 68 ∧ (q = 114 ∨ q = 115)) → mset (mset m 68 114 1) 68 115 v a q = m a q := fun a q hh => by
    rw [show mset (mset m 68 114 1) 68 115 v a q = mset m 68 114 1 a q from if_neg (by omega)]
    exact if_neg (by omega)
  have es : ∀ a q : Int, ¬ (a = 0 ∧ (q = 30 ∨ q = 31)) → sg (sStuck s v) a q = sg s a q := fun a q hh => by
    unfold sStuck
    rw [st_g, if_neg (by omega), st_g, if_neg (by omega)]
  have e30 : sg (sStuck s v) 0 30 = 1 := rfl
  obtain ⟨s1, s2, s3, s4, s5, s6, s7, s8, s9⟩ := hS
  refine ⟨(hT.ms (mtb68 (by omega))).ms (mtb68 (by omega)), ?_, fun a g1 g2 => by rw [em _ _ (by omega), es _ _ (by omega)]; exact hV a g1 g2, fun n g1 g2 => by rw [em _ _ (by omega), es _ _ (by omega)]; exact hP n g1 (by rw [es _ _ (by omega)] at g2; exact g2), hB.cg (es _ _ (by omega)) (es _ _ (by omega)) (fun k j hk => es _ _ (by omega)) (fun n => es _ _ (by omega)) (fun _ => rfl) (fun a j g1 g2 => em _ _ (by omega)) (fun i _ _ => em _ _ (by omega)) (by rw [em _ _ (by omega)]; exact Int.le_refl _), fun n g1 g2 => ?_, ?_, fun q k a b hq => ?_, fun g => ?_, ?_⟩
  · refine ⟨?_, ?_, ?_, ?_, ?_, ?_, ?_, ?_, fun g => ?_⟩
    · rw [em _ _ (by omega), es _ _ (by omega)]; exact s1
    · rw [em _ _ (by omega), es _ _ (by omega)]; exact s2
    · rw [em _ _ (by omega), es _ _ (by omega)]; exact s3
    · rw [em _ _ (by omega), es _ _ (by omega)]; exact s4
    · rw [em _ _ (by omega), es _ _ (by omega)]; exact s5
    · rw [em _ _ (by omega), es _ _ (by omega)]; exact s6
    · rw [ms_j (by decide), ms_e, e30]
    · rw [em _ _ (by omega)]; exact s8
    · rw [ms_e]; rfl
  · rw [em _ _ (by omega), em _ _ (by omega), es _ _ (by omega)]
    obtain ⟨q1, q2, q3, q4⟩ := hQ n g1 g2
    exact ⟨q1, q2, q3, fun i v hv => by rw [em _ _ (by omega)]; exact q4 i v hv⟩
  · refine ⟨by rw [em _ _ (by omega)]; exact hU.1, fun i v hv => ?_⟩
    rw [em _ _ (by omega), em _ _ (by omega)]
    exact hU.2 i v hv
  · rw [em _ _ (by omega), em _ _ (by omega)]
    exact hN q k a b hq
  · rw [e30] at g
    omega
  · unfold RH at hH ⊢
    rw [em _ _ (by omega), es _ _ (by omega)]
    exact hH
/-- the pointers -/
theorem RR.ptr {v1 v2 v3 : Int} (h : RR m0 m x s rh E H) (hp : PT (mset (mset m 68 116 v1) 68 125 v2) x (st s 0 12 v3) rh) : RR m0 (mset (mset m 68 116 v1) 68 125 v2) x (st s 0 12 v3) rh E H := by
  obtain ⟨hT, hS, hV, hP, hB, hQ, hU, hN, hC, hH⟩ := h
  have em : ∀ a q : Int, ¬ (a = 68 ∧ (q = 116 ∨ q = 125)) → mset (mset m 68 116 v1) 68 125 v2 a q = m a q := fun a q hh => by
    rw [show mset (mset m 68 116 v1) 68 125 v2 a q = mset m 68 116 v1 a q from if_neg (by omega)]
    exact if_neg (by omega)
  have es : ∀ a q : Int, ¬ (a = 0 ∧ q = 12) → sg (st s 0 12 v3) a q = sg s a q := fun a q hh => by rw [st_g, if_neg hh]
  obtain ⟨s1, s2, s3, s4, s5, s6, s7, s8, s9⟩ := hS
  refine ⟨(hT.ms (mtb68 (by omega))).ms (mtb68 (by omega)), ?_, fun a g1 g2 => by rw [em _ _ (by omega), es _ _ (by omega)]; exact hV a g1 g2, fun n g1 g2 => by rw [em _ _ (by omega), es _ _ (by omega)]; exact hP n g1 (by rw [es _ _ (by omega)] at g2; exact g2), hB.cg (es _ _ (by omega)) (es _ _ (by omega)) (fun k j hk => es _ _ (by omega)) (fun n => es _ _ (by omega)) (fun _ => rfl) (fun a j g1 g2 => em _ _ (by omega)) (fun i _ _ => em _ _ (by omega)) (by rw [em _ _ (by omega)]; exact Int.le_refl _), fun n g1 g2 => ?_, ?_, fun q k a b hq => ?_, hp, ?_⟩
  · refine ⟨?_, ?_, ?_, ?_, ?_, ?_, ?_, ?_, fun g => ?_⟩
    · rw [em _ _ (by omega), es _ _ (by omega)]; exact s1
    · rw [em _ _ (by omega), es _ _ (by omega)]; exact s2
    · rw [em _ _ (by omega), es _ _ (by omega)]; exact s3
    · rw [em _ _ (by omega), es _ _ (by omega)]; exact s4
    · rw [em _ _ (by omega), es _ _ (by omega)]; exact s5
    · rw [em _ _ (by omega), es _ _ (by omega)]; exact s6
    · rw [em _ _ (by omega), es _ _ (by omega)]; exact s7
    · rw [em _ _ (by omega)]; exact s8
    · rw [es _ _ (by omega)] at g
      rw [em _ _ (by omega), es _ _ (by omega)]; exact s9 g
  · rw [em _ _ (by omega), em _ _ (by omega), es _ _ (by omega)]
    obtain ⟨q1, q2, q3, q4⟩ := hQ n g1 g2
    exact ⟨q1, q2, q3, fun i v hv => by rw [em _ _ (by omega)]; exact q4 i v hv⟩
  · refine ⟨by rw [em _ _ (by omega)]; exact hU.1, fun i v hv => ?_⟩
    rw [em _ _ (by omega), em _ _ (by omega)]
    exact hU.2 i v hv
  · rw [em _ _ (by omega), em _ _ (by omega)]
    exact hN q k a b hq
  · unfold RH at hH ⊢
    rw [em _ _ (by omega), es _ _ (by omega)]
    exact hH
end RF2
