/-! HOW MUCH IS PUT: a complete's commands carried out. -/
section QQC
variable {e e' e1 e2 : ES} {S D T a b c i j k q r v w N M p x y t o m s z st tn ver inp par pe kd ev due to nm sz res dep : Int} {n : Nat} {E E' : Int → Ev}
/-- how many signals an AGAIN puts again -/
def aP (e : ES) (r : Int) : Int := Qn (eT e) + (csg (eH e r) (hN e r).toNat - csg (eH e r) (sg (eT e) 0 11).toNat)
theorem qq_again (hc : CN e) (hK : HNN e) (r0 : 0 ≤ r) (r1 : r < e.1 7 2) (h0 : e.1 (7000 + r) 6 = 0) (hn : e.1 7 2 < 30) (hR : RunF e r) (h11 : 0 ≤ sg (eT e) 0 11 ∧ sg (eT e) 0 11 ≤ hN e r) (hQ : Qn (eT e) ≤ csg (eH e r) (sg (eT e) 0 11).toNat) : QQ r (2 + aP e r) (2 + aP e r) (aP e r) 0 e (pAgain r x e) ∧ e.1 7 2 + 1 ≤ (pAgain r x e).1 7 2 := by
  have n7 := hc.1
  obtain ⟨q1, q2, q3, q4, q5, -⟩ := hR
  have pa : ∀ a u : Int, a ≠ 7000 + r ∨ u ≠ 6 → (eS e (7000 + r) 6 4).1 a u = e.1 a u := fun a u h => by rw [es_pt, if_neg (by omega)]
  have e7 : (eS e (7000 + r) 6 4).1 7 2 = e.1 7 2 := pa _ _ (by omega)
  have s1 := gc_st (Z := nZ) (st := 4) hc r0 r1 h0 (by decide) (by decide)
  have b1 := qq_st (r := r) (st := 4) hc r0 r0 r1 h0 (by decide) (by decide)
  have g2 := gc_start (Z := fun q => nZ q ∨ q = r) (inp := x) (t := e.1 (7000 + r) 1) (tn := e.1 (7000 + r) 2) (par := e.1 (7000 + r) 4) (pe := e.1 (7000 + r) 5) s1.2 (s1.hk hK) (by rw [e7]; exact hn) q1 q2 (by rw [pa _ _ (by omega)]; omega) (by rw [e7]; omega) q5
  have b2 := qq_start (r := r) (t := e.1 (7000 + r) 1) (tn := e.1 (7000 + r) 2) (inp := x) (par := e.1 (7000 + r) 4) (pe := e.1 (7000 + r) 5) s1.2 (s1.hk hK) r0 (by rw [e7]; exact hn)
  have s2 := s1.tr g2 hK hc
  have w2 : (pStart (e.1 (7000 + r) 1) (e.1 (7000 + r) 2) x (e.1 (7000 + r) 4) (e.1 (7000 + r) 5) (eS e (7000 + r) 6 4)).1 7 2 = e.1 7 2 + 1 := by
    rw [start_n (by rw [e7]; exact n7.1), e7]
  have wT : eT (pStart (e.1 (7000 + r) 1) (e.1 (7000 + r) 2) x (e.1 (7000 + r) 4) (e.1 (7000 + r) 5) (eS e (7000 + r) 6 4)) = eT e := congrArg (fun z => z.1) s2.1.1.2.2.2.2.2.2.1
  have wN : hN (pStart (e.1 (7000 + r) 1) (e.1 (7000 + r) 2) x (e.1 (7000 + r) 4) (e.1 (7000 + r) 5) (eS e (7000 + r) 6 4)) r = hN e r := by
    unfold hN
    rw [start_a (by rw [e7]; exact n7.1) (by omega) (by omega) (by rw [e7]; omega) (by rw [e7]; omega) (by omega) (by omega) (by rw [e7]; omega), pa _ _ (by omega)]
  have wH : eH (pStart (e.1 (7000 + r) 1) (e.1 (7000 + r) 2) x (e.1 (7000 + r) 4) (e.1 (7000 + r) 5) (eS e (7000 + r) 6 4)) r = eH e r := by
    rw [start_h (by rw [e7]; omega)]
    rfl
  generalize hE2 : pStart (e.1 (7000 + r) 1) (e.1 (7000 + r) 2) x (e.1 (7000 + r) 4) (e.1 (7000 + r) 5) (eS e (7000 + r) 6 4) = E2 at g2 b2 s2 w2 wT wN wH
  have g3 := gc_sqs (Z := fun q => nZ q ∨ q = r) n7.1 5 0 E2 s2.2 (s2.hk hK) (by omega)
  obtain ⟨b3, f3⟩ := qq_sqs (r := r) r0 n7.1 5 0 E2 s2.2 (s2.hk hK) (by omega)
  rw [wT, qz_4] at b3
  have s3 := s2.tr g3 hK hc
  have h3 := f3.2.2.1 r (by omega) r0 (by omega)
  have w3 := f3.1.1
  generalize hE3 : pSQs (e.1 7 2) 5 0 E2 = E3 at g3 b3 f3 s3 h3 w3
  have g4 := gc_snd (Z := fun q => nZ q ∨ q = r) (q := r) (N := sg (eT e) 0 11) n7.1 s3.2 (s3.hk hK) (show e.1 7 2 < E3.1 7 2 by omega)
  obtain ⟨b4, f4⟩ := qq_snd (r := r) (sz := hN E3 r) r0 n7.1 (show r ≠ e.1 7 2 by omega) r0 (by omega) ((hN E3 r - sg (eT e) 0 11).toNat + 1) (sg (eT e) 0 11) E3 s3.2 (s3.hk hK) (by omega) h11.1 (by rw [h3.1, wN]; exact h11.2)
  rw [h3.2, wH, h3.1, wN] at b4
  have s4 := s3.tr g4 hK hc
  have e4 : pSnd (e.1 7 2) r (sg (eT e) 0 11) E3 = pSndL (e.1 7 2) r (hN e r) ((hN e r - sg (eT e) 0 11).toNat + 1) (sg (eT e) 0 11) E3 := by
    unfold pSnd
    rw [h3.1, wN]
  rw [← e4] at b4
  have s5 := s4.tr (gc_end (Z := nZ) (r := r) s4.2 r0 (by omega)) hK hc
  have b5 := qq_end (r := r) (q := r) s4.2 r0
  have hrec : ∀ (i d : Int) (e : ES), 0 ≤ i → i < e.1 7 2 → CN e → HNN e → e.1 (7000 + i) 6 = 0 → GC nZ nZ e (pClose 41 i 5 0 d e) ∧ QQ r 0 0 0 0 e (pClose 41 i 5 0 d e) := fun i d e i0 i1 hc hK h0 => ⟨gc_close 41 nZ i 5 0 d e i0 i1 hc hK h0 (by decide) (by decide), qq_close r0 41 i 5 0 d e i0 i1 hc hK h0 (by decide) (by decide)⟩
  have b6 := qq_deal (q := r) (dep := 0) (rec := fun i d e => pClose 41 i 5 0 d e) r0 hrec 31 0 _ (by decide) s5.2 (s5.hk hK)
  have g6 := gc_deal (Z := nZ) (r := r) (dep := 0) (rec := fun i d e => pClose 41 i 5 0 d e) (fun i d e i0 i1 hc hK h0 => (hrec i d e i0 i1 hc hK h0).1) 31 0 _ (by decide) s5.2 (s5.hk hK)
  have hall := ((((b1.tr b2).tr b3).tr b4).tr b5).tr b6
  have hcs : aP e r = Qn (eT e) + (csg (eH e r) (hN e r).toNat - csg (eH e r) (sg (eT e) 0 11).toNat) := rfl
  unfold pAgain
  rw [hE2, hE3]
  refine ⟨hall.mono (by omega) (by omega) (by omega) (by omega), ?_⟩
  have n1 := g6.n7
  have n2 : (pEnd r (pSnd (e.1 7 2) r (sg (eT e) 0 11) E3)).1 7 2 = (pSnd (e.1 7 2) r (sg (eT e) 0 11) E3).1 7 2 := by
    have := s4.2.2.1
    exact end_a (by omega)
  have n3 := g4.n7
  have n4 := f3.1.1
  omega
/-- commands that open, from i on -/
def nopR (E : Int → Ev) : Nat → Int → Int
  | 0, _ => 0
  | n + 1, i => (if ek (E i) = 8 ∨ ek (E i) = 9 ∨ ek (E i) = 10 then 1 else 0) + nopR E n (i + 1)
theorem nopR_0 : ∀ (n : Nat) (i : Int), 0 ≤ nopR E n i := by
  intro n
  induction n with
  | zero => intro i; exact Int.le_refl _
  | succ n ih =>
    intro i
    have := ih (i + 1)
    unfold nopR
    split <;> omega
theorem nopR_to : ∀ (n : Nat) (i : Int), (∀ j : Int, i ≤ j → j < i + n → E' j = E j) → nopR E' n i = nopR E n i := by
  intro n
  induction n with
  | zero => intro i _; rfl
  | succ n ih =>
    intro i h
    unfold nopR
    rw [h i (Int.le_refl _) (by omega), ih (i + 1) fun j j0 j1 => h j (by omega) (by omega)]
theorem qq_carry (hc : CN e) (hK : HNN e) (r0 : 0 ≤ r) (r1 : r < e.1 7 2) (hs : e.1 (7000 + r) 6 = 0) (hR : RunF e r) (hg : GC nZ nZ e (pCarry r o e)) (c0 : 0 ≤ c) (hag : ek (eH e r o) = 16 → aP e r ≤ c ∧ (0 ≤ sg (eT e) 0 11 ∧ sg (eT e) 0 11 ≤ hN e r) ∧ Qn (eT e) ≤ csg (eH e r) (sg (eT e) 0 11).toNat) : QQ r ((if ek (eH e r o) = 8 ∨ ek (eH e r o) = 9 ∨ ek (eH e r o) = 10 then 1 else 0) + 2 * ((pCarry r o e).1 7 2 - e.1 7 2) + c) (3 * ((pCarry r o e).1 7 2 - e.1 7 2) + c) c (if ek (eH e r o) = 8 ∨ ek (eH e r o) = 9 ∨ ek (eH e r o) = 10 then 1 else 0) e (pCarry r o e) := by
  have n7 := hc.1
  have n8 := hc.2.1
  have hn := hg.n7
  have own : ∀ k x y : Int, 0 ≤ k → k ≠ 4 → k ≠ 7 → QQ r 1 0 0 0 e (pArr r k x y e) := fun k x y k0 k4 k7 => (qq_arr hc r0 r0 r1 (hK r r0 r1) k0).mono (by rw [if_neg k7]; omega) (by rw [if_pos rfl, if_neg k7]; omega) (by rw [if_neg k4]; omega) (by omega)
  unfold pCarry at hn ⊢
  by_cases c8 : ek (eH e r o) = 8
  · rw [if_pos c8] at hn ⊢
    rw [if_pos (Or.inl c8)]
    unfold pMakA at hn ⊢
    split at hn
    · rename_i cc
      rw [if_pos cc]
      exact (qq_new8 hc r0 cc).mono (by omega) (by omega) (by omega) (by omega)
    · rename_i cc
      rw [if_neg cc]
      exact (own 2 _ _ (by decide) (by decide) (by decide)).mono (by omega) (by omega) (by omega) (by omega)
  rw [if_neg c8] at hn ⊢
  by_cases c9 : ek (eH e r o) = 9
  · rw [if_pos c9] at hn ⊢
    rw [if_pos (Or.inr (Or.inl c9))]
    exact (qq_addT hc r0 r0 r1).mono (by omega) (by omega) (by omega) (by omega)
  rw [if_neg c9] at hn ⊢
  by_cases c10 : ek (eH e r o) = 10
  · rw [if_pos c10] at hn ⊢
    rw [if_pos (Or.inr (Or.inr c10))]
    unfold pChi at hn ⊢
    split at hn
    · rename_i cc
      rw [if_pos cc]
      have e7 : (pStart (ex (eH e r o)) (e.1 (7000 + r) 2) (ey (eH e r o)) r o e).1 7 2 = e.1 7 2 + 1 := start_n n7.1
      exact (qq_start hc hK r0 cc.1).mono (by omega) (by omega) (by omega) (by omega)
    · rename_i cc
      rw [if_neg cc]
      exact (own 6 _ _ (by decide) (by decide) (by decide)).mono (by omega) (by omega) (by omega) (by omega)
  rw [if_neg c10] at hn ⊢
  rw [if_neg (show ¬ (ek (eH e r o) = 8 ∨ ek (eH e r o) = 9 ∨ ek (eH e r o) = 10) by omega)]
  by_cases c11 : ek (eH e r o) = 11
  · rw [if_pos c11] at hn ⊢
    exact (qq_drop hc hK r0 r0 r1).mono (by omega) (by omega) (by omega) (by omega)
  rw [if_neg c11] at hn ⊢
  by_cases c13 : ek (eH e r o) = 13
  · rw [if_pos c13] at hn ⊢
    have f1 : ∀ a u : Int, a ≠ 4 → (pQT r (ex (eH e r o)) e).1 a u = e.1 a u := fun a u ha => qt_1 ha
    have f16 : (pQT r (ex (eH e r o)) e).1 4 16 = e.1 4 16 := by
      unfold pQT
      rw [eS_j (by decide)]
      split <;> rfl
    have fl : ∀ c, c ≠ 14 → eL (pQT r (ex (eH e r o)) e) c = eL e c := fun c hcc => by
      unfold pQT
      show eL (if _ then _ else _) c = _
      split
      · exact eLs_a hcc
      · rfl
    have f2 : (pQT r (ex (eH e r o)) e).2.1 = e.2.1 := by
      unfold pQT
      show (if (eL e 14).length < 51200 then eLs e 14 (eL e 14 ++ [r * 1000 + ex (eH e r o)]) else e).2.1 = _
      split <;> rfl
    exact (QQ.fr r0 (f1 _ _ (by omega)) (f1 _ _ (by omega)) f16 (f1 _ _ (by omega)) (fun i _ _ => Or.inl (f1 _ _ (by omega))) (fun p _ _ => Or.inl (f1 _ _ (by omega))) (fun i _ _ => by rw [fl _ (by omega)]; exact Nat.le_refl _) fun i _ _ => ⟨f1 _ _ (by omega), congrFun f2 i⟩).mono (by omega) (by omega) (by omega) (by omega)
  rw [if_neg c13] at hn ⊢
  by_cases c14 : ek (eH e r o) = 14
  · rw [if_pos c14] at hn ⊢
    exact (qq_close r0 41 r 1 _ 0 e r0 r1 hc hK hs (by decide) (by decide)).mono (by omega) (by omega) (by omega) (by omega)
  rw [if_neg c14] at hn ⊢
  by_cases c15 : ek (eH e r o) = 15
  · rw [if_pos c15] at hn ⊢
    exact (qq_close r0 41 r _ _ 0 e r0 r1 hc hK hs (by split <;> decide) (by split <;> decide)).mono (by omega) (by omega) (by omega) (by omega)
  rw [if_neg c15] at hn ⊢
  by_cases c16 : ek (eH e r o) = 16
  · rw [if_pos c16] at hn ⊢
    obtain ⟨g1, g2, g3⟩ := hag c16
    split at hn
    · rename_i cc
      rw [if_pos cc]
      obtain ⟨k1, k2⟩ := qq_again (x := ex (eH e r o)) hc hK r0 r1 hs cc hR g2 g3
      exact k1.mono (by omega) (by omega) (by omega) (by omega)
    · rename_i cc
      rw [if_neg cc]
      exact (qq_close r0 41 r 2 _ 0 e r0 r1 hc hK hs (by decide) (by decide)).mono (by omega) (by omega) (by omega) (by omega)
  · rw [if_neg c16]
    exact QQ.rf.mono (by omega) (by omega) (by omega) (by omega)
end QQC
