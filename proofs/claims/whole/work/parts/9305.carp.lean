/-! THE LAW: the room that the calls ask for follows from what is held. -/
section CRP
variable {e e' : ES} {a b c i j k o r v w p t base p1 p2 S D T S' D' T' K : Int} {s : TS} {n : Nat} {X : ES}
theorem pT_row (h : TmO e r) (r0 : 0 ≤ r) : ∀ n : Nat, r < (n : Int) → (eL e (73000 + r)).length ≤ (pT e n).length := by
  intro n
  induction n with
  | zero => intro h1; omega
  | succ n ih =>
    intro h1
    rw [pT_len]
    by_cases c : r = (n : Int)
    · rw [pT1_len, ← c, ← h.1, Nat.min_self]
      omega
    · have := ih (by omega)
      omega
theorem cart_of : ∀ (n : Nat) (i : Int) (e : ES), CarP r base s n i e → CarT r n i e := by
  intro n
  induction n with
  | zero => intro i e _; exact trivial
  | succ n ih =>
    intro i e h
    have h1 : CarQ r base s i e ∧ CarP r base s n (i + 1) (pCarry r i e) := h
    obtain ⟨hQ, hP⟩ := h1
    obtain ⟨⟨-, -, -, hm⟩, ⟨-, ⟨r0, r1⟩, -⟩, ht, -⟩ := hQ
    have := pT_row hm r0 (e.1 7 2).toNat (by omega)
    have h4 := hm.1
    show ((eL e (73000 + r)).length < 512 ∧ (eL e (74000 + r)).length < 512) ∧ CarT r n (i + 1) (pCarry r i e)
    exact ⟨⟨by omega, by omega⟩, ih _ _ hP⟩
theorem cmr_t (h : CmR k e) : CmpT k e := fun hb => cart_of _ _ _ (h.2.2.2.2.2.2.2.2 hb).2.2
theorem lst_row (j0 : 0 ≤ j) : ∀ n : Nat, j < (n : Int) → (eL e (75000 + j)).length ≤ (pLst e n).length := by
  intro n
  induction n with
  | zero => intro h1; omega
  | succ n ih =>
    intro h1
    rw [pLst_len]
    by_cases c : j = (n : Int)
    · rw [← c]
      omega
    · have := ih (by omega)
      omega
theorem stb_E (h : nTm (pRest K X) ≤ 512) (hm : TmO (pRest K X) K) (h7 : (pRest K X).1 7 2 = K + 1) (K0 : 0 ≤ K) : (eL (pRest K X) (73000 + K)).length ≤ 512 := by
  have := pT_row hm K0 ((pRest K X).1 7 2).toNat (by omega)
  unfold nTm at h
  omega
theorem tko_E (hH : HH S D T e) (hb : S + 2 * D + 2 * (T + 1) ≤ 540) (ht : 0 ≤ e.1 4 14 ∧ e.1 4 14 < 1000000) (h : TkA e) (c : e.1 4 17 ≠ 0) (h' : HH S' D' T' (pcTakeOver e).2) : ((pTk1 31 0 0 (eS e 4 17 0)).2.1 7 2 = e.1 7 2 → ∀ j : Int, 0 ≤ j → j < e.1 7 2 → (eL (pTk1 31 0 0 (eS e 4 17 0)).2 (75000 + j)).length ≤ 4096) ∧ ∀ j : Int, 0 ≤ j → j < e.1 7 2 → (eL (pTk3 31 0 (pTk2 31 0 (pTk1 31 0 0 (eS e 4 17 0)).2)) (73000 + j)).length ≤ 512 ∧ (eL (pTk3 31 0 (pTk2 31 0 (pTk1 31 0 0 (eS e 4 17 0)).2)) (74000 + j)).length ≤ 512 := by
  refine ⟨fun h7 j j0 j1 => ?_, fun j j0 j1 => ?_⟩
  · have h2 := h.2.1
    have := lst_row (e := (pTk1 31 0 0 (eS e 4 17 0)).2) j0 ((pTk1 31 0 0 (eS e 4 17 0)).2.1 7 2).toNat (by rw [h7]; omega)
    unfold nLs at h2
    omega
  · have e7 : e.1 7 2 ≤ (pcTakeOver e).2.1 7 2 := by
      rcases tc_takeOver hH hb ht with g | ⟨-, -, va, -⟩
      · rw [g]
        exact Int.le_of_eq (eS_a (by decide)).symm
      · exact va.1
    have hm := h'.tmo j0 (show j < (pcTakeOver e).2.1 7 2 by omega)
    have hp : (pcTakeOver e).2 = pTk3 31 0 (pTk2 31 0 (pTk1 31 0 0 (eS e 4 17 0)).2) := by
      unfold pcTakeOver
      rw [if_neg c]
    have h3 : nTm (pcTakeOver e).2 ≤ 512 := h.2.2.2.2.2.2
    unfold nTm at h3
    have h4 := pT_row hm j0 ((pcTakeOver e).2.1 7 2).toNat (by omega)
    have h5 := hm.1
    rw [← hp]
    omega
end CRP
