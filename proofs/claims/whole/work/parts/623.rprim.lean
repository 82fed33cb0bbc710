/-! THE TELLING in the reference: changes of branches, stacks, queues. -/
section RF4
variable {m0 m m' : MM} {x : CX} {s s' : TS} {B H : Int} {a b c e i j v k h n l w p r t o rh E ty ver rc : Int} {G : Int → Nat}
theorem RR.br (h : RR m0 m x s rh E H) (h0 : 0 ≤ k) (h1 : k < sg s 0 5) : BrR m x s E k := h.2.2.2.2.1.2 k h0 h1
/-- one branch alone -/
theorem RR.bup (h : RR m0 m x s rh E H) (h0 : 0 ≤ k) (h1 : k < sg s 0 5) (em : ∀ a q : Int, ¬ (143 ≤ a ∧ a ≤ 151 ∧ q = k) → m' a q = m a q) (es : ∀ a q : Int, a ≠ 2 + k → sg s' a q = sg s a q) (eh : ∀ i, i ≠ k → sh s' i = sh s i) (er : s'.2.2 = s.2.2) (e0 : sg s' (2 + k) 0 = sg s (2 + k) 0) (hb : BrR m' x s' E k) : RR m0 m' x s' rh E H := by
  obtain ⟨hT, hS, hV, hP, hB, hQ, hU, hN, hC, hH⟩ := h
  have en : sn s' = sn s := by unfold sn; rw [er]
  have eu : su s' = su s := by unfold su; rw [er]
  have eq : ∀ n, sq s' n = sq s n := fun n => by unfold sq; rw [er]
  have enl : nl s' = nl s := by unfold nl; rw [en]
  have e0' : ∀ q, sg s' 0 q = sg s 0 q := fun q => es _ _ (by omega)
  refine ⟨fun a q hh => ?_, ?_, fun a g1 g2 => by rw [em _ _ (by omega), es _ _ (by omega)]; exact hV a g1 g2, fun n g1 g2 => by rw [em _ _ (by omega), es _ _ (by omega)]; exact hP n g1 (by rw [e0'] at g2; exact g2), ⟨by rw [e0']; exact hB.1, fun i g1 g2 => ?_⟩, fun n g1 g2 => ?_, ?_, fun i k a b hi => ?_, ?_, ?_⟩
  · rw [em a q fun g => hh (Or.inr ⟨by omega, by omega, by omega⟩)]
    exact hT a q hh
  · unfold RS at hS ⊢
    have e68 : ∀ q, m' 68 q = m 68 q := fun q => em _ _ (by omega)
    simp only [e68, e0', enl]
    exact hS
  · rw [e0'] at g2
    by_cases hi : i = k
    · rw [hi]; exact hb
    · obtain ⟨b1, b2, b3, b4, b5, b6, b7, b8⟩ := hB.2 i g1 g2
      unfold BrR RivR
      have ei : ∀ q, sg s' (2 + i) q = sg s (2 + i) q := fun q => es _ _ (by omega)
      have ep : ∀ q, sg s' (-1) q = sg s (-1) q := fun q => es _ _ (by omega)
      simp only [em 143 i (by omega), em 144 i (by omega), em 145 i (by omega), em 146 i (by omega), em 147 i (by omega), em 148 i (by omega), em 149 i (by omega), em 150 i (by omega), em 151 i (by omega), ei, ep, e0', eh i hi]
      refine ⟨b1, b2, b3, b4, b5.mono (by rw [em _ _ (by omega)]; exact Int.le_refl _) (fun q _ _ => em _ _ (by omega)), b6.imp id fun g => ⟨g.1, g.2.1, fun q q1 q2 => ?_⟩, b7, b8⟩
      by_cases hq : q = k
      · rw [hq, e0, ← hq]; exact g.2.2 q q1 q2
      · rw [es _ _ (by omega)]; exact g.2.2 q q1 q2
  · rw [em _ _ (by omega), em _ _ (by omega), eq, e0']
    obtain ⟨q1, q2, q3, q4⟩ := hQ n g1 g2
    exact ⟨q1, q2, q3, fun i v hv => by rw [em _ _ (by omega)]; exact q4 i v hv⟩
  · unfold RU
    rw [eu]
    refine ⟨by rw [em _ _ (by omega)]; exact hU.1, fun i v hv => ?_⟩
    rw [em _ _ (by omega), em _ _ (by omega)]
    exact hU.2 i v hv
  · rw [en] at hi
    rw [em _ _ (by omega), em _ _ (by omega)]
    exact hN i k a b hi
  · unfold PT at hC ⊢
    rw [em _ _ (by omega), em _ _ (by omega), e0', e0']
    exact hC
  · unfold RH at hH ⊢
    rw [em _ _ (by omega), e0', eu]
    exact hH
theorem RR.chk (h : RR m0 m x s rh E H) (em : ∀ a q : Int, ¬ (143 ≤ a ∧ a ≤ 151 ∧ q = k) → m' a q = m a q) {t : List Int} (hc : ChR m t v) : ChR m' t v := hc.mono (by rw [em _ _ (by omega)]; exact Int.le_refl _) (fun q _ _ => em _ _ (by omega))
/-- a branch goes on at a line -/
theorem RR.go (h : RR m0 m x s rh E H) (h0 : 0 ≤ k) (h1 : k < sg s 0 5) : RR m0 (mset (mset m 145 k 0) 144 k l) x (sGo k l s) rh E H := by
  obtain ⟨b1, b2, b3, b4, b5, b6, b7, b8⟩ := h.br h0 h1
  have em : ∀ a q : Int, ¬ (143 ≤ a ∧ a ≤ 151 ∧ q = k) → mset (mset m 145 k 0) 144 k l a q = m a q := fun a q hh => by
    rw [show mset (mset m 145 k 0) 144 k l a q = mset m 145 k 0 a q from if_neg (by omega)]
    exact if_neg (by omega)
  have ek : ∀ a : Int, a ≠ 144 → a ≠ 145 → mset (mset m 145 k 0) 144 k l a k = m a k := fun a q1 q2 => by rw [ms_a q1, ms_a q2]
  have es : ∀ a q : Int, a ≠ 2 + k → sg (sGo k l s) a q = sg s a q := fun a q hh => by rw [go_g, if_neg (fun g => hh g.1), if_neg (fun g => hh g.1)]
  have e : ∀ q, q ≠ 4 → q ≠ 7 → sg (sGo k l s) (2 + k) q = sg s (2 + k) q := fun q q1 q2 => by rw [go_g, if_neg (by omega), if_neg (by omega)]
  have e4 : sg (sGo k l s) (2 + k) 4 = l := by rw [go_g, if_pos ⟨rfl, rfl⟩]
  have e7 : sg (sGo k l s) (2 + k) 7 = 0 := by rw [go_g, if_neg (by omega), if_pos ⟨rfl, rfl⟩]
  refine h.bup h0 h1 em es (fun _ _ => rfl) rfl (e 0 (by decide) (by decide)) ⟨?_, ?_, ?_, ?_, ?_, ?_, ?_, fun g => ⟨?_, fun g2 => ?_, fun g2 => ?_, fun g2 => ?_⟩⟩
  · rw [ek _ (by decide) (by decide), e 0 (by decide) (by decide)]; exact b1
  · rw [ms_e, e4]
  · rw [ek _ (by decide) (by decide), e 5 (by decide) (by decide)]; exact b3
  · rw [ek _ (by decide) (by decide), e 6 (by decide) (by decide)]; exact b4
  · rw [ek _ (by decide) (by decide)]; exact h.chk em b5
  · unfold RivR at b6 ⊢
    rw [ek _ (by decide) (by decide), e 3 (by decide) (by decide), es 0 6 (by omega), es 0 5 (by omega)]
    refine b6.imp id fun g => ⟨g.1, g.2.1, fun i i1 i2 => ?_⟩
    by_cases hi : i = k
    · rw [hi, e 0 (by decide) (by decide)]; exact g.2.2 k h0 h1
    · rw [es _ _ (by omega)]; exact g.2.2 i i1 i2
  · rw [e 1 (by decide) (by decide), e 0 (by decide) (by decide), es (-1) _ (by omega)]; exact b7
  · rw [ms_a (by decide), ms_e, e7]; rfl
  · rw [e7] at g2; omega
  · rw [e7] at g2; omega
  · rw [e7] at g2; omega
/-- a branch waits -/
theorem RR.wait (h : RR m0 m x s rh E H) (h0 : 0 ≤ k) (h1 : k < sg s 0 5) (ht3 : w = 3 → t = bOf x (sg s (2 + k) 4)) (ht1 : w = 1 → t = rinto x (sg s (2 + k) 4)) : RR m0 (mset (mset (mset m 145 k (wmp w)) 146 k n) 147 k t) x (sWait k w n s) rh E H := by
  obtain ⟨b1, b2, b3, b4, b5, b6, b7, b8⟩ := h.br h0 h1
  have em : ∀ a q : Int, ¬ (143 ≤ a ∧ a ≤ 151 ∧ q = k) → mset (mset (mset m 145 k (wmp w)) 146 k n) 147 k t a q = m a q := fun a q hh => by
    rw [show mset (mset (mset m 145 k (wmp w)) 146 k n) 147 k t a q = mset (mset m 145 k (wmp w)) 146 k n a q from if_neg (by omega), show mset (mset m 145 k (wmp w)) 146 k n a q = mset m 145 k (wmp w) a q from if_neg (by omega)]
    exact if_neg (by omega)
  have ek : ∀ a : Int, a ≠ 145 → a ≠ 146 → a ≠ 147 → mset (mset (mset m 145 k (wmp w)) 146 k n) 147 k t a k = m a k := fun a q1 q2 q3 => by rw [ms_a q3, ms_a q2, ms_a q1]
  have es : ∀ a q : Int, a ≠ 2 + k → sg (sWait k w n s) a q = sg s a q := fun a q hh => by rw [wait_g, if_neg (fun g => hh g.1), if_neg (fun g => hh g.1)]
  have e : ∀ q, q ≠ 8 → q ≠ 7 → sg (sWait k w n s) (2 + k) q = sg s (2 + k) q := fun q q1 q2 => by rw [wait_g, if_neg (by omega), if_neg (by omega)]
  have e8 : sg (sWait k w n s) (2 + k) 8 = n := by rw [wait_g, if_pos ⟨rfl, rfl⟩]
  have e7 : sg (sWait k w n s) (2 + k) 7 = w := by rw [wait_g, if_neg (by omega), if_pos ⟨rfl, rfl⟩]
  refine h.bup h0 h1 em es (fun _ _ => rfl) rfl (e 0 (by decide) (by decide)) ⟨?_, ?_, ?_, ?_, ?_, ?_, ?_, fun g => ⟨?_, fun g2 => ?_, fun g2 => ?_, fun g2 => ?_⟩⟩
  · rw [ek _ (by decide) (by decide) (by decide), e 0 (by decide) (by decide)]; exact b1
  · rw [ek _ (by decide) (by decide) (by decide), e 4 (by decide) (by decide)]; exact b2
  · rw [ek _ (by decide) (by decide) (by decide), e 5 (by decide) (by decide)]; exact b3
  · rw [ek _ (by decide) (by decide) (by decide), e 6 (by decide) (by decide)]; exact b4
  · rw [ek _ (by decide) (by decide) (by decide)]; exact h.chk em b5
  · unfold RivR at b6 ⊢
    rw [ek _ (by decide) (by decide) (by decide), e 3 (by decide) (by decide), es 0 6 (by omega), es 0 5 (by omega)]
    refine b6.imp id fun g => ⟨g.1, g.2.1, fun i i1 i2 => ?_⟩
    by_cases hi : i = k
    · rw [hi, e 0 (by decide) (by decide)]; exact g.2.2 k h0 h1
    · rw [es _ _ (by omega)]; exact g.2.2 i i1 i2
  · rw [e 1 (by decide) (by decide), e 0 (by decide) (by decide), es (-1) _ (by omega)]; exact b7
  · rw [ms_a (by decide), ms_a (by decide), ms_e, e7]
  · rw [ms_a (by decide), ms_e, e8]
  · rw [e7] at g2
    rw [ms_e, e 4 (by decide) (by decide)]
    exact ht3 g2
  · rw [e7] at g2
    rw [ms_e, e 4 (by decide) (by decide)]
    exact ht1 g2
/-- JOIN -/
theorem RR.waitJ (h : RR m0 m x s rh E H) (h0 : 0 ≤ k) (h1 : k < sg s 0 5) : RR m0 (mset m 145 k 3) x (sWait k 4 0 s) rh E H := by
  obtain ⟨b1, b2, b3, b4, b5, b6, b7, b8⟩ := h.br h0 h1
  have em : ∀ a q : Int, ¬ (143 ≤ a ∧ a ≤ 151 ∧ q = k) → mset m 145 k 3 a q = m a q := fun a q hh => if_neg (by omega)
  have ek : ∀ a : Int, a ≠ 145 → mset m 145 k 3 a k = m a k := fun a q1 => ms_a q1
  have es : ∀ a q : Int, a ≠ 2 + k → sg (sWait k 4 0 s) a q = sg s a q := fun a q hh => by rw [wait_g, if_neg (fun g => hh g.1), if_neg (fun g => hh g.1)]
  have e : ∀ q, q ≠ 8 → q ≠ 7 → sg (sWait k 4 0 s) (2 + k) q = sg s (2 + k) q := fun q q1 q2 => by rw [wait_g, if_neg (by omega), if_neg (by omega)]
  have e7 : sg (sWait k 4 0 s) (2 + k) 7 = 4 := by rw [wait_g, if_neg (by omega), if_pos ⟨rfl, rfl⟩]
  refine h.bup h0 h1 em es (fun _ _ => rfl) rfl (e 0 (by decide) (by decide)) ⟨?_, ?_, ?_, ?_, ?_, ?_, ?_, fun g => ⟨?_, fun g2 => ?_, fun g2 => ?_, fun g2 => ?_⟩⟩
  · rw [ek _ (by decide), e 0 (by decide) (by decide)]; exact b1
  · rw [ek _ (by decide), e 4 (by decide) (by decide)]; exact b2
  · rw [ek _ (by decide), e 5 (by decide) (by decide)]; exact b3
  · rw [ek _ (by decide), e 6 (by decide) (by decide)]; exact b4
  · rw [ek _ (by decide)]; exact h.chk em b5
  · unfold RivR at b6 ⊢
    rw [ek _ (by decide), e 3 (by decide) (by decide), es 0 6 (by omega), es 0 5 (by omega)]
    refine b6.imp id fun g => ⟨g.1, g.2.1, fun i i1 i2 => ?_⟩
    by_cases hi : i = k
    · rw [hi, e 0 (by decide) (by decide)]; exact g.2.2 k h0 h1
    · rw [es _ _ (by omega)]; exact g.2.2 i i1 i2
  · rw [e 1 (by decide) (by decide), e 0 (by decide) (by decide), es (-1) _ (by omega)]; exact b7
  · rw [ms_e, e7]; rfl
  · rw [e7] at g2; omega
  · rw [e7] at g2; omega
  · rw [e7] at g2; omega
/-- shields (5), told (6), rival (3) -/
theorem RR.sl {sl : Int} (h : RR m0 m x s rh E H) (h0 : 0 ≤ k) (h1 : k < sg s 0 5) (hc : (a = 150 ∧ sl = 5 ∧ v = w) ∨ (a = 151 ∧ sl = 6 ∧ v = if k < E ∧ w = 0 then 0 else 1) ∨ (a = 149 ∧ sl = 3 ∧ v = w)) : RR m0 (mset m a k v) x (st s (2 + k) sl w) rh E H := by
  obtain ⟨b1, b2, b3, b4, b5, b6, b7, b8⟩ := h.br h0 h1
  have em : ∀ p q : Int, ¬ (143 ≤ p ∧ p ≤ 151 ∧ q = k) → mset m a k v p q = m p q := fun p q hh => if_neg (by omega)
  have ek : ∀ p : Int, p ≠ a → mset m a k v p k = m p k := fun p q1 => ms_a q1
  have es : ∀ p q : Int, p ≠ 2 + k → sg (st s (2 + k) sl w) p q = sg s p q := fun p q hh => by rw [st_g, if_neg (fun g => hh g.1)]
  have e : ∀ q, q ≠ sl → sg (st s (2 + k) sl w) (2 + k) q = sg s (2 + k) q := fun q q1 => by rw [st_g, if_neg (fun g => q1 g.2)]
  have ew : sg (st s (2 + k) sl w) (2 + k) sl = w := by rw [st_g, if_pos ⟨rfl, rfl⟩]
  refine h.bup h0 h1 em es (fun _ _ => rfl) rfl (e 0 (by omega)) ⟨?_, ?_, ?_, ?_, ?_, ?_, ?_, fun g => ⟨?_, fun g2 => ?_, fun g2 => ?_, fun g2 => ?_⟩⟩
  · rw [ek _ (by omega), e 0 (by omega)]; exact b1
  · rw [ek _ (by omega), e 4 (by omega)]; exact b2
  · rcases hc with ⟨rfl, rfl, rfl⟩ | ⟨rfl, rfl, rfl⟩ | ⟨rfl, rfl, rfl⟩
    · rw [ms_e, ew]
    · rw [ek _ (by decide), e 5 (by decide)]; exact b3
    · rw [ek _ (by decide), e 5 (by decide)]; exact b3
  · rcases hc with ⟨rfl, rfl, rfl⟩ | ⟨rfl, rfl, rfl⟩ | ⟨rfl, rfl, rfl⟩
    · rw [ek _ (by decide), e 6 (by decide)]; exact b4
    · rw [ms_e, ew]
    · rw [ek _ (by decide), e 6 (by decide)]; exact b4
  · rw [ek _ (by omega)]; exact h.chk em b5
  · unfold RivR at b6 ⊢
    rcases hc with ⟨rfl, rfl, rfl⟩ | ⟨rfl, rfl, rfl⟩ | ⟨rfl, rfl, rfl⟩
    · rw [ek _ (by decide), e 3 (by decide), es 0 6 (by omega), es 0 5 (by omega)]
      refine b6.imp id fun g => ⟨g.1, g.2.1, fun i i1 i2 => ?_⟩
      by_cases hi : i = k
      · rw [hi, e 0 (by decide)]; exact g.2.2 k h0 h1
      · rw [es _ _ (by omega)]; exact g.2.2 i i1 i2
    · rw [ek _ (by decide), e 3 (by decide), es 0 6 (by omega), es 0 5 (by omega)]
      refine b6.imp id fun g => ⟨g.1, g.2.1, fun i i1 i2 => ?_⟩
      by_cases hi : i = k
      · rw [hi, e 0 (by decide)]; exact g.2.2 k h0 h1
      · rw [es _ _ (by omega)]; exact g.2.2 i i1 i2
    · exact Or.inl (by rw [ms_e, ew])
  · rw [e 1 (by omega), e 0 (by omega), es (-1) _ (by omega)]; exact b7
  · rw [ek _ (by omega), e 7 (by omega)]
    rw [e 9 (by omega)] at g
    exact (b8 g).1
  · rw [e 7 (by omega)] at g2
    rw [e 9 (by omega)] at g
    rw [ek _ (by omega), e 8 (by omega)]
    exact (b8 g).2.1 g2
  · rw [e 7 (by omega)] at g2
    rw [e 9 (by omega)] at g
    rw [ek _ (by omega), e 4 (by omega)]
    exact (b8 g).2.2.1 g2
  · rw [e 7 (by omega)] at g2
    rw [e 9 (by omega)] at g
    rw [ek _ (by omega), e 4 (by omega)]
    exact (b8 g).2.2.2 g2
/-- handlers, without a new one -/
theorem RR.hp {tl : List Int} (h : RR m0 m x s rh E H) (h0 : 0 ≤ k) (h1 : k < sg s 0 5) (hc : ChR m tl v) : RR m0 (mset m 148 k v) x (sth s k tl) rh E H := by
  obtain ⟨b1, b2, b3, b4, b5, b6, b7, b8⟩ := h.br h0 h1
  have em : ∀ p q : Int, ¬ (143 ≤ p ∧ p ≤ 151 ∧ q = k) → mset m 148 k v p q = m p q := fun p q hh => if_neg (by omega)
  have ek : ∀ p : Int, p ≠ 148 → mset m 148 k v p k = m p k := fun p q1 => ms_a q1
  refine h.bup h0 h1 em (fun _ _ _ => rfl) (fun i hi => if_neg hi) rfl rfl ⟨?_, ?_, ?_, ?_, ?_, ?_, b7, fun g => ?_⟩
  · rw [ek _ (by decide)]; exact b1
  · rw [ek _ (by decide)]; exact b2
  · rw [ek _ (by decide)]; exact b3
  · rw [ek _ (by decide)]; exact b4
  · rw [ms_e]
    show ChR _ (if k = k then tl else sh s k) v
    rw [if_pos rfl]
    exact h.chk em hc
  · unfold RivR at b6 ⊢
    rw [ek _ (by decide)]
    exact b6
  · rw [ek _ (by decide), ek _ (by decide), ek _ (by decide)]
    exact b8 g
end RF4
