/-! THE ENGINE: a history's counts are made again. -/
section HCO
variable {m m' : MM} {r a b i j v n h N k : Int} {l : List Int} {E : Int → Ev} {ev : Ev}
theorem PH.rf (hF : Fix m) (ho : okc m h 3) (R : RowIs m (m h 0) l) (nf : ¬ Fp m (m h 0) h) : PH m m h l := ⟨R, hF, Ext.rf m, ho, fun _ _ _ _ _ _ => rfl, fun _ h => Or.inl h, fun _ => Iff.rfl, nf, rfl⟩
theorem count_h (hF : Fix m) (ho : okc m h 3) (hm : 163 ≤ h) (R : RowIs m (m h 0) l) (hE : EvIs l E) (nf : ¬ Fp m (m h 0) h) : ∃ m', fm_X2_countAgain h m = some (0, m') ∧ PH m m' h l ∧ HS m' h l.length E := by
  have hl := R.len
  have key : ∀ (n f : Nat) (i : Int) (M : MM), 0 ≤ i → i ≤ l.length → ((l.length : Int) - i).toNat = n → n < f → PH m M h l → M h 1 = l.length → M h 2 = cA E i.toNat → M h 3 = cT E i.toNat → M h 4 = cC E i.toNat → ∃ m', fl_X2_countAgain_28 h f i M = some (0, m') ∧ PH m m' h l ∧ HS m' h l.length E := by
    intro n
    induction n with
    | zero =>
      intro f i M i0 i1 hn hf g e1 e2 e3 e4
      obtain ⟨f, rfl⟩ : ∃ g, f = g + 1 := ⟨f - 1, by omega⟩
      unfold fl_X2_countAgain_28
      simp only [lx_p]
      rw [e1, if_neg (by omega)]
      have ei : i.toNat = (l.length : Int).toNat := by omega
      rw [ei] at e2 e3 e4
      exact ⟨M, rfl, g, ⟨g.2.2.2.1, e1, l, by rw [g.2.2.2.2.2.2.2.2]; exact g.1, rfl, hE⟩, e2, e3, e4⟩
    | succ n ih =>
      intro f i M i0 i1 hn hf g e1 e2 e3 e4
      obtain ⟨f, rfl⟩ : ∃ g, f = g + 1 := ⟨f - 1, by omega⟩
      have hi : i < l.length := by omega
      have hb2 := cA_b (E := E) i.toNat
      have hb3 := cT_b (E := E) i.toNat
      have HCm : ∀ M : MM, PH m M h l → M h 1 = l.length → HC M h l.length E := fun M g e1 => ⟨g.2.2.2.1, e1, l, by rw [g.2.2.2.2.2.2.2.2]; exact g.1, rfl, hE⟩
      have eN : ((i.toNat : Nat) : Int) = i := by omega
      have eS : (i + 1).toNat = i.toNat + 1 := by omega
      have sA : cA E (i + 1).toNat = if ek (E i) ≤ 7 then cA E i.toNat + 1 else cA E i.toNat := by
        rw [eS, show ∀ (E : Int → Ev) (n : Nat), cA E (n + 1) = if ek (E n) ≤ 7 then cA E n + 1 else cA E n from fun _ _ => rfl, eN]
      have sT : cT E (i + 1).toNat = if ek (E i) = 17 then cT E i.toNat + 1 else cT E i.toNat := by
        rw [eS, show ∀ (E : Int → Ev) (n : Nat), cT E (n + 1) = if ek (E n) = 17 then cT E n + 1 else cT E n from fun _ _ => rfl, eN]
      have sC : cC E (i + 1).toNat = if ek (E i) = 17 then ex (E i) else cC E i.toNat := by
        rw [eS, show ∀ (E : Int → Ev) (n : Nat), cC E (n + 1) = if ek (E n) = 17 then ex (E n) else cC E n from fun _ _ => rfl, eN]
      have hk := kind_e (x := (fun _ => (l.length : Int), E, fun _ => (0, 0, 0))) (HCm M g e1) i0 hi
      unfold fl_X2_countAgain_28
      simp only [lx_p]
      rw [e1, if_pos hi, bp_t hk, w32_id (show -2147483648 ≤ i + 1 by omega) (by omega)]
      by_cases c1 : 7 < ek (E i)
      · rw [if_pos c1]
        by_cases c2 : ek (E i) = 17
        · rw [if_pos c2, up_t, e3, w32_id (by omega) (by omega)]
          have g1 := g.step (j := 3) (v := cT E i.toNat + 1) hm (by decide) (by decide)
          have hx := x_e (x := (fun _ => (l.length : Int), E, fun _ => (0, 0, 0))) (HCm _ g1 (by rw [ms_j (by decide)]; exact e1)) i0 hi
          rw [bp_t hx, up_t]
          refine ih f (i + 1) _ (by omega) (by omega) (by omega) (by omega) (g1.step (j := 4) hm (by decide) (by decide)) ?_ ?_ ?_ ?_
          · rw [ms_j (by decide), ms_j (by decide)]; exact e1
          · rw [ms_j (by decide), ms_j (by decide), e2, sA, if_neg (by omega)]
          · rw [ms_j (by decide), ms_e, sT, if_pos c2]
          · rw [ms_e, sC, if_pos c2]
        · rw [if_neg c2]
          refine ih f (i + 1) M (by omega) (by omega) (by omega) (by omega) g e1 ?_ ?_ ?_
          · rw [e2, sA, if_neg (by omega)]
          · rw [e3, sT, if_neg c2]
          · rw [e4, sC, if_neg c2]
      · rw [if_neg c1, up_t, e2, w32_id (by omega) (by omega)]
        refine ih f (i + 1) _ (by omega) (by omega) (by omega) (by omega) (g.step (j := 2) hm (by decide) (by decide)) ?_ ?_ ?_ ?_
        · rw [ms_j (by decide)]; exact e1
        · rw [ms_e, sA, if_pos (by omega)]
        · rw [ms_j (by decide), e3, sT, if_neg (by omega)]
        · rw [ms_j (by decide), e4, sC, if_neg (by omega)]
  have g0 := PH.rf hF ho R nf
  have g1 := (((g0.step (j := 1) (v := (l.length : Int)) hm (by decide) (by decide)).step (j := 2) (v := 0) hm (by decide) (by decide)).step (j := 3) (v := 0) hm (by decide) (by decide)).step (j := 4) (v := 0) hm (by decide) (by decide)
  unfold fm_X2_countAgain
  simp only [lx_p]
  rw [gd_t R.1.1, hl.1, up_t, up_t, up_t, up_t]
  refine key _ BIG 0 _ (Int.le_refl _) (by omega) rfl (BIG_g (by omega)) g1 ?_ ?_ ?_ ?_
  · rw [ms_j (by decide), ms_j (by decide), ms_j (by decide), ms_e]
  · rw [ms_j (by decide), ms_j (by decide), ms_e]; rfl
  · rw [ms_j (by decide), ms_e]; rfl
  · rw [ms_e]; rfl
end HCO
