/-! TAGS counted; at most twelve timers a run. -/
section TGA
variable {e e' : ES} {S D T a b c d i j k q r v w N M p x y t o st res dep to nm sz : Int} {n : Nat} {W : Int → Int → Prop} {X : Int → Int → Int → Prop} {L : List Int}
theorem arr_11 (r0 : 0 ≤ r) : (pArr r k x y e).1 4 11 = e.1 4 11 := arr_a (by decide) (by decide) (by omega) (by omega) (by decide)
theorem can_11 (i0 : 0 ≤ i) : (pCan i e).2.1 4 11 = e.1 4 11 := by
  unfold pCan
  split
  · rfl
  · exact arr_11 i0
theorem deal_11 {f : Int → Int → ES → ES} (hf : ∀ (i d : Int) (e : ES), 0 ≤ i → (f i d e).1 4 11 = e.1 4 11) : ∀ (n : Nat) (i : Int) (e : ES), 0 ≤ i → (pDealL f r dep n i e).1 4 11 = e.1 4 11 := by
  intro n
  induction n with
  | zero => intro i e _; rfl
  | succ n ih =>
    intro i e i0
    unfold pDealL
    split
    · rw [ih _ _ (by omega)]
      split
      · split
        · exact can_11 i0
        · split
          · exact hf _ _ _ i0
          · rfl
      · rfl
    · rfl
theorem up_11 : (pUp r st res e).1 4 11 = e.1 4 11 := by
  unfold pUp
  split
  · rename_i c
    split
    · exact arr_11 c.1.1
    · exact arr_11 c.1.1
  · rfl
theorem close_11 : ∀ (n : Nat) (r st res dep : Int) (e : ES), 0 ≤ r → (pClose n r st res dep e).1 4 11 = e.1 4 11 := by
  intro n
  induction n with
  | zero => intro r st res dep e _; rfl
  | succ n ih =>
    intro r st res dep e r0
    unfold pClose
    rw [up_11, deal_11 (fun i d e i0 => ih i 5 0 d e i0) 31 0 _ (Int.le_refl _), end_a (by omega), eS_a (by omega)]
theorem snd_11 (t0 : 0 ≤ to) : ∀ (n : Nat) (i : Int) (e : ES), (pSndL to q sz n i e).1 4 11 = e.1 4 11 := by
  intro n
  induction n with
  | zero => intro i e; rfl
  | succ n ih =>
    intro i e
    unfold pSndL
    split
    · rw [ih]
      split
      · exact arr_11 t0
      · rfl
    · rfl
theorem sq_11 (t0 : 0 ≤ to) : ∀ (l : List Int) (e : ES), (pSQ to nm l e).1 4 11 = e.1 4 11 := by
  intro l
  induction l with
  | nil => intro e; rfl
  | cons v l ih =>
    intro e
    unfold pSQ
    rw [ih]
    exact arr_11 t0
theorem sqs_11 (t0 : 0 ≤ to) : ∀ (n : Nat) (nm : Int) (e : ES), (pSQs to n nm e).1 4 11 = e.1 4 11 := by
  intro n
  induction n with
  | zero => intro nm e; rfl
  | succ n ih =>
    intro nm e
    unfold pSQs
    split
    · rw [ih, sq_11 t0]
    · rfl
theorem start_11 (h : 0 ≤ e.1 7 2) : (pStart a b c d i e).1 4 11 = e.1 4 11 := start_a h (by decide) (by decide) (by omega) (by omega) (by decide) (by decide) (by omega)
theorem again_11 (h : 0 ≤ e.1 7 2) (r0 : 0 ≤ r) : (pAgain r x e).1 4 11 = e.1 4 11 := by
  unfold pAgain
  rw [deal_11 (fun i d e i0 => close_11 41 i 5 0 d e i0) 31 0 _ (Int.le_refl _), end_a (by omega)]
  unfold pSnd
  rw [snd_11 h, sqs_11 h, start_11 (by rw [eS_a (by omega)]; exact h), eS_a (by omega)]
theorem drCL_11 : ∀ (n : Nat) (i : Int) (e : ES), 0 ≤ i → (pDrCL r v n i e).1 4 11 = e.1 4 11 := by
  intro n
  induction n with
  | zero => intro i e _; rfl
  | succ n ih =>
    intro i e i0
    unfold pDrCL
    split
    · rw [ih _ _ (by omega)]
      split
      · rw [eS_a (by omega)]
        split
        · exact can_11 i0
        · rfl
      · rfl
    · rfl
/-- a command carried out: a TAG, or none -/
theorem carry_11 (hc : CN e) (r0 : 0 ≤ r) : (pCarry r i e).1 4 11 = e.1 4 11 + if ek (eH e r i) = 13 then 1 else 0 := by
  have n7 := hc.1
  have n8 := hc.2.1
  unfold pCarry
  by_cases c8 : ek (eH e r i) = 8
  · rw [if_pos c8, if_neg (by omega)]
    unfold pMakA
    split
    · rw [pNew_a (by decide) (by omega)]; omega
    · rw [arr_11 r0]; omega
  rw [if_neg c8]
  by_cases c9 : ek (eH e r i) = 9
  · rw [if_pos c9, if_neg (by omega), addT_1 (by decide)]; omega
  rw [if_neg c9]
  by_cases c10 : ek (eH e r i) = 10
  · rw [if_pos c10, if_neg (by omega)]
    unfold pChi
    split
    · rw [start_11 n7.1]; omega
    · rw [arr_11 r0]; omega
  rw [if_neg c10]
  by_cases c11 : ek (eH e r i) = 11
  · rw [if_pos c11, if_neg (by omega)]
    unfold pDrop
    rw [drCL_11 _ _ _ (Int.le_refl _), drT_1, (drA_a 61 0 e (by decide) (by omega)).2.2 _ _ (by omega)]; omega
  rw [if_neg c11]
  by_cases c13 : ek (eH e r i) = 13
  · rw [if_pos c13, if_pos c13]
    exact eS_e
  rw [if_neg c13, if_neg c13]
  by_cases c14 : ek (eH e r i) = 14
  · rw [if_pos c14, close_11 _ _ _ _ _ _ r0]; omega
  rw [if_neg c14]
  by_cases c15 : ek (eH e r i) = 15
  · rw [if_pos c15, close_11 _ _ _ _ _ _ r0]; omega
  rw [if_neg c15]
  by_cases c16 : ek (eH e r i) = 16
  · rw [if_pos c16]
    split
    · rw [again_11 n7.1 r0]; omega
    · rw [close_11 _ _ _ _ _ _ r0]; omega
  · rw [if_neg c16]; omega
/-- who is under way of one run is open, so there are at most twelve -/
theorem tm12 (h : HK S D T W X e) (hF : (eL e (73000 + q)).Pairwise (· < ·)) (q0 : 0 ≤ q) (q1 : q < e.1 7 2) (p0 : 0 ≤ p) (p1 : p ≤ hN e q) (hW : ∀ j : Int, 0 ≤ j → j < hN e q → W q j → p ≤ j) (hv : ∀ v ∈ eL e (73000 + q), v < p) : (eL e (73000 + q)).length ≤ 12 := by
  refine (h.2.1 q q0 q1).1.2.2 p p0 p1 _ (hF.imp fun hab => Int.ne_of_lt hab) fun v hm => ?_
  obtain ⟨-, ⟨v0, v1, vk⟩, -, hb⟩ := h.2.2.2.1 9 q v 0 (Or.inr (Or.inr (Or.inl ⟨rfl, rfl, ⟨q0, q1⟩, hm⟩)))
  refine ⟨⟨v0, hv v hm⟩, Or.inr (Or.inl vk), fun j j0 j1 hj => ?_⟩
  obtain ⟨b1, b2⟩ := hb j (by omega) (by omega)
  rcases hj.1 with g | g
  · have := hW j (by omega) (by omega) (b2 g hj.2)
    omega
  · exact b1 g hj.2
theorem pT1_l12 : (pT1 e r).length ≤ (eL e (73000 + r)).length := by
  unfold pT1
  rw [List.length_map, List.length_zip]
  exact Nat.min_le_left _ _
theorem pT_l12 : ∀ n : Nat, (∀ r : Int, 0 ≤ r → r < (n : Int) → (eL e (73000 + r)).length ≤ 12) → (pT e n).length ≤ 12 * n := by
  intro n
  induction n with
  | zero => intro _; exact Nat.le_refl _
  | succ n ih =>
    intro h
    have h1 := ih fun r r0 r1 => h r r0 (by omega)
    have h2 := h (n : Int) (by omega) (by omega)
    have h3 := pT1_l12 (e := e) (r := (n : Int))
    unfold pT
    rw [List.length_append]
    omega
end TGA
