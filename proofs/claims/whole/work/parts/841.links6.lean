/-! LINKS: the news of a run are carried out. -/
section LN6
variable {e e' e1 e2 : ES} {W W' : Int → Int → Prop} {X X' : Int → Int → Int → Prop} {S D T S' D' T' : Int} {a b c i j k q r v w N p x y t o ev kd due : Int} {n : Nat} {s : TS} {E : Int → Ev}
def X1 (k r i : Int) : Int → Int → Int → Prop := fun k' q v => k' = k ∧ q = r ∧ v = i
theorem HK.makA (h : HK S D T W (X1 8 r i) e) : HK S D T W noX (pMakA r i kd x e) := by
  unfold pMakA
  split
  · rename_i c
    exact h.new8 ⟨rfl, rfl, rfl⟩ c fun _ _ _ g => g.elim
  · exact h.bk (i := 8) ⟨rfl, rfl, rfl⟩ (Or.inr (Or.inl rfl)) (by decide) (Int.le_refl _) (by decide) fun _ _ _ g => g.elim
theorem HK.chi (h : HK S D T W (X1 10 r i) e) (r0 : 0 ≤ r) (r1 : r < e.1 7 2) (x0 : 0 ≤ x) (x1 : x ≤ 999) : HK S D T W noX (pChi r i t x e) := by
  unfold pChi
  split
  · rename_i c
    exact h.start c.1 (by omega) x0 x1 (fun _ _ => ⟨rfl, rfl, rfl⟩) fun _ _ _ g => g.elim
  · exact h.bk (i := 10) ⟨rfl, rfl, rfl⟩ (Or.inr (Or.inr (Or.inr (Or.inr rfl)))) (by decide) (Int.le_refl _) (by decide) fun _ _ _ g => g.elim
theorem HK.qt (h : HK S D T W X e) : HK S D T W X (pQT r x e) := by
  unfold pQT
  split
  · exact (h.elo (fun q q0 q1 => by omega)).es1 (by omega) (by omega)
  · exact h.es1 (by omega) (by omega)
theorem NZ.new8 {f : Int → Int} (z : NZ e) (hc : CN e) : NZ (pNew 8 f e) := by
  have n7 := hc.1
  have n8 := hc.2.1
  exact z.of (pNew_a (by omega) (by omega)) (fun r r0 r1 d => (Dead.eq (pNew_a (by omega) (by omega))).mpr d) fun r r0 r1 => by
    unfold hN
    rw [pNew_a (by omega) (by omega)]
    omega
theorem NZ.addT (z : NZ e) : NZ (pAddT r i due e) := z.of (addT_1 (by decide)) (fun r r0 r1 d => (Dead.eq (addT_1 (by omega))).mpr d) fun r r0 r1 => by
  unfold hN
  rw [addT_1 (by omega)]
  omega
theorem qt_1 (h : a ≠ 4) : (pQT r x e).1 a c = e.1 a c := by
  unfold pQT
  rw [eS_a h]
  split <;> rfl
theorem NZ.qt (z : NZ e) : NZ (pQT r x e) := z.of (qt_1 (by decide)) (fun r r0 r1 d => (Dead.eq (qt_1 (by omega))).mpr d) fun r r0 r1 => by
  unfold hN
  rw [qt_1 (by omega)]
  omega
/-- one of the news is carried out -/
theorem HK.carry (h : HK S D T W noX e) (z : NZ e) (hw : W r o) (hmin : ∀ j : Int, W r j → o ≤ j) (hs : e.1 (7000 + r) 6 = 0) (hT : TmO e r) (hW : ∀ q j : Int, W' q j ↔ W q j ∧ ¬ (q = r ∧ j = o)) (hok : CmdOk (eH e r o)) (hag : ek (eH e r o) = 16 → (∀ n : Int, 0 ≤ n → n < 4 → ∀ v ∈ sq (eT e) n, 0 ≤ v ∧ v ≤ 999) ∧ (0 ≤ sg (eT e) 0 11 ∧ sg (eT e) 0 11 ≤ hN e r) ∧ Qn (eT e) ≤ csg (eH e r) (sg (eT e) 0 11).toNat) : HK S D T W' noX (pCarry r o e) ∧ NZ (pCarry r o e) := by
  have hc := h.cn
  have n7 := hc.1
  have n8 := hc.2.1
  obtain ⟨⟨r0, r1⟩, o0, t, t1, t2, t3⟩ := h.2.2.1.1 r o hw
  have nx0 : ∀ k : Int, ¬ noX k r (ex (eH e r o)) := fun k g => g
  have ex0 : 0 ≤ ex (eH e r o) := Int.natCast_nonneg _
  have ey0 : 0 ≤ ey (eH e r o) := Int.natCast_nonneg _
  unfold pCarry
  by_cases c8 : ek (eH e r o) = 8
  · rw [if_pos c8]
    have h1 := h.opn (X' := X1 8 r o) hw c8 (Or.inl rfl) hW fun _ _ _ g => Or.inr g
    refine ⟨h1.makA, ?_⟩
    unfold pMakA
    split
    · exact z.new8 hc
    · exact z.cs (cs_arr hc r0 r1)
  rw [if_neg c8]
  by_cases c9 : ek (eH e r o) = 9
  · rw [if_pos c9]
    have h1 := h.opn (X' := X1 9 r o) hw c9 (Or.inr (Or.inl rfl)) hW fun _ _ _ g => Or.inr g
    exact ⟨h1.addT ⟨rfl, rfl, rfl⟩ fun _ _ _ g => g.elim, z.addT⟩
  rw [if_neg c9]
  by_cases c10 : ek (eH e r o) = 10
  · rw [if_pos c10]
    have h1 := h.opn (X' := X1 10 r o) hw c10 (Or.inr (Or.inr rfl)) hW fun _ _ _ g => Or.inr g
    have hy := (hok.1 c10).2
    refine ⟨h1.chi r0 r1 ey0 (by omega), ?_⟩
    unfold pChi
    split
    · rename_i c
      exact z.start hc c.1
    · exact z.cs (cs_arr hc r0 r1)
  rw [if_neg c10]
  by_cases c11 : ek (eH e r o) = 11
  · rw [if_pos c11]
    obtain ⟨⟨g1, g2⟩, g3⟩ := h.drop z r0 (by omega) hT nx0
    have kp := drop_kp (v := ex (eH e r o)) r0 (by omega) (by omega) (by omega) hT
    have he : eH (pDrop r (ex (eH e r o)) e) r o = eH e r o := kp.2.2.2.2.2.2.1.2 o (by omega)
    exact ⟨g1.skp hmin (fun _ => by rw [he]; exact g3) hW, g2⟩
  rw [if_neg c11]
  have h1 : HK S D T W' noX e := h.skp hmin (fun g => absurd g c11) hW
  by_cases c13 : ek (eH e r o) = 13
  · rw [if_pos c13]
    exact ⟨h1.qt, z.qt⟩
  rw [if_neg c13]
  by_cases c14 : ek (eH e r o) = 14
  · rw [if_pos c14]
    have := hok.2 (Or.inr (Or.inl c14))
    exact HK.close 41 r 1 _ 0 _ e h1 z r0 r1 hs (by decide) (by decide) ex0 (by omega)
  rw [if_neg c14]
  by_cases c15 : ek (eH e r o) = 15
  · rw [if_pos c15]
    exact HK.close 41 r _ _ 0 _ e h1 z r0 r1 hs (by split <;> decide) (by split <;> decide) (Int.le_refl _) (by decide)
  rw [if_neg c15]
  by_cases c16 : ek (eH e r o) = 16
  · rw [if_pos c16]
    have := hok.2 (Or.inr (Or.inr c16))
    obtain ⟨q1, q2, q3⟩ := hag c16
    by_cases c7 : e.1 7 2 < 30
    · rw [if_pos c7]
      exact h1.again z r0 r1 hs c7 ex0 (by omega) q1 q2 q3
    · rw [if_neg c7]
      exact HK.close 41 r 2 0 0 _ e h1 z r0 r1 hs (by decide) (by decide) (Int.le_refl _) (by decide)
  rw [if_neg c16]
  exact ⟨h1, z⟩
/-- nobody's standing changes as long as the run doesn't end -/
theorem carry_6 (hc : CN e) (r0 : 0 ≤ r) (r1 : r < e.1 7 2) (hk : ek (eH e r o) ≠ 14 ∧ ek (eH e r o) ≠ 15 ∧ ek (eH e r o) ≠ 16) (j0 : 0 ≤ j) (j1 : j < e.1 7 2) : (pCarry r o e).1 (7000 + j) 6 = e.1 (7000 + j) 6 := by
  have n7 := hc.1
  have n8 := hc.2.1
  have ar : ∀ k x y : Int, (pArr r k x y e).1 (7000 + j) 6 = e.1 (7000 + j) 6 := fun k x y => arr_a (by omega) (by omega) (by omega) (by omega) (by omega)
  unfold pCarry
  split
  · unfold pMakA
    split
    · exact pNew_a (by omega) (by omega)
    · exact ar _ _ _
  split
  · exact addT_1 (by omega)
  split
  · unfold pChi
    split
    · exact start_a n7.1 (by omega) (by omega) (by omega) (by omega) (by omega) (by omega) (by omega)
    · exact ar _ _ _
  split
  · unfold pDrop
    have key2 : ∀ (ev : Int) (n : Nat) (i : Int) (e : ES), 0 ≤ i → e.1 7 2 ≤ 30 → (pDrCL r ev n i e).1 (7000 + j) 6 = e.1 (7000 + j) 6 := by
      intro ev n
      induction n with
      | zero => intro i e _ _; rfl
      | succ n ih =>
        intro i e i0 h7
        unfold pDrCL
        split
        · split
          · have hb : ∀ u : Int, ¬ (u = 7000 + i) → (eS (if e.1 (7000 + i) 6 = 0 then (pCan i e).2 else e) (7000 + i) 4 (-1)).1 u 2 = (if e.1 (7000 + i) 6 = 0 then (pCan i e).2 else e).1 u 2 := fun u hu => eS_a hu
            have hp : ∀ a u : Int, a < 8000 → a ≠ 68 → a ≠ 3 → a ≠ 4 → (if e.1 (7000 + i) 6 = 0 then (pCan i e).2 else e).1 a u = e.1 a u := fun a u h1 h2 h3 h4 => by
              split
              · unfold pCan
                split
                · rfl
                · exact arr_a h2 h3 (by omega) (by omega) (Or.inl h4)
              · rfl
            rw [ih (i + 1) _ (by omega) (by rw [hb _ (by omega), hp _ _ (by omega) (by omega) (by omega) (by omega)]; exact h7)]
            by_cases cj : j = i
            · subst cj
              rw [eS_j (by decide), hp _ _ (by omega) (by omega) (by omega) (by omega)]
            · rw [eS_a (by omega), hp _ _ (by omega) (by omega) (by omega) (by omega)]
          · exact ih _ _ (by omega) h7
        · rfl
    have a1 := (drA_a (r := r) (v := ex (eH e r o)) 61 0 e (by decide) (by omega)).2.2
    rw [key2 _ _ _ _ (Int.le_refl _) (by rw [drT_1, a1 _ _ (by omega)]; omega), drT_1, a1 _ _ (by omega)]
  split
  · exact qt_1 (by omega)
  rw [if_neg hk.1, if_neg hk.2.1, if_neg hk.2.2]
/-- what waits: from i to b of run r -/
def Wz (r i b : Int) : Int → Int → Prop := fun q j => q = r ∧ i ≤ j ∧ j < b
theorem HK.carL (r0 : 0 ≤ r) : ∀ (n : Nat) (i : Int) (e : ES), HK S D T (Wz r i (i + n)) noX e → NZ e → (n ≠ 0 → r < e.1 7 2 ∧ e.1 (7000 + r) 6 = 0 ∧ TmO e r ∧ (0 ≤ i ∧ i + n ≤ hN e r ∧ i + n ≤ 524288)) → (∀ j : Int, i ≤ j → j < i + n → CmdOk (eH e r j) ∧ (ek (eH e r j) = 14 ∨ ek (eH e r j) = 15 ∨ ek (eH e r j) = 16 → j + 1 = i + n)) → ((∃ j : Int, (i ≤ j ∧ j < i + n) ∧ ek (eH e r j) = 16) → (∀ n : Int, 0 ≤ n → n < 4 → ∀ v ∈ sq (eT e) n, 0 ≤ v ∧ v ≤ 999) ∧ (0 ≤ sg (eT e) 0 11 ∧ sg (eT e) 0 11 ≤ i) ∧ Qn (eT e) ≤ csg (eH e r) (sg (eT e) 0 11).toNat) → HK S D T (Wz r (i + n) (i + n)) noX (pCarL r n i e) ∧ NZ (pCarL r n i e) := by
  intro n
  induction n with
  | zero =>
    intro i e h z _ _ _
    have e0 : i + ((0 : Nat) : Int) = i := by omega
    rw [e0] at h ⊢
    exact ⟨h, z⟩
  | succ n ih =>
    intro i e h z hr hk hag
    obtain ⟨r1, hs, hT, i0, i1, i2⟩ := hr (by omega)
    have hc := h.cn
    have n7 := hc.1
    unfold pCarL
    have hi := hk i (Int.le_refl _) (by omega)
    have hw : Wz r i (i + (n + 1 : Nat)) r i := ⟨rfl, Int.le_refl _, by omega⟩
    have h1 := h.carry (W' := Wz r (i + 1) (i + 1 + n)) z hw (fun j g => g.2.1) hs hT (fun q j => by unfold Wz; omega) hi.1 (fun g => by
      obtain ⟨q1, q2, q3⟩ := hag ⟨i, ⟨Int.le_refl _, by omega⟩, g⟩
      exact ⟨q1, ⟨q2.1, by omega⟩, q3⟩)
    rw [show i + ((n + 1 : Nat) : Int) = i + 1 + (n : Int) by omega]
    by_cases cn : n = 0
    · subst cn
      refine ih (i + 1) _ h1.1 h1.2 (fun g => absurd rfl g) (fun j j0 j1 => by omega) (fun ⟨j, jj, _⟩ => by omega)
    · have hne : ek (eH e r i) ≠ 14 ∧ ek (eH e r i) ≠ 15 ∧ ek (eH e r i) ≠ 16 := by
        refine ⟨fun g => ?_, fun g => ?_, fun g => ?_⟩
        · have := hi.2 (Or.inl g); omega
        · have := hi.2 (Or.inr (Or.inl g)); omega
        · have := hi.2 (Or.inr (Or.inr g)); omega
      have kp := carry_kp r0 r1 n7.2 ⟨hc.2.1.1, by have := hc.2.1; omega⟩ hT hne hi.1 i0 (by omega)
      have he : ∀ j : Int, j < hN e r → eH (pCarry r i e) r j = eH e r j := kp.2.2.2.2.2.2.1.2
      refine ih (i + 1) _ h1.1 h1.2 (fun _ => ⟨by have := kp.2.1.1.1; omega, by rw [carry_6 hc r0 r1 hne r0 r1]; exact hs, kp.2.2.2.1 hT, by omega, by have := kp.2.2.2.2.2.2.1.1; omega, by omega⟩) (fun j j0 j1 => ?_) (fun ⟨j, jj, jk⟩ => ?_)
      · rw [he j (by omega)]
        have := hk j (by omega) (by omega)
        exact ⟨this.1, fun g => by have := this.2 g; omega⟩
      · rw [he j (by omega)] at jk
        obtain ⟨q1, q2, q3⟩ := hag ⟨j, by omega, jk⟩
        rw [kp.2.2.1]
        refine ⟨q1, ⟨q2.1, by omega⟩, ?_⟩
        rw [(cts_to (E := eH e r) (sg (eT e) 0 11).toNat fun i i0 i1 => he i (by omega)).1]
        exact q3
end LN6
