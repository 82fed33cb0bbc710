/-! HOW MUCH IS PUT by a complete. -/
section QQJ
variable {e e' e1 e2 e3 : ES} {S D T a b c i j k q r v w N M p x y t o p1 : Int} {L : List (Int × Int × Int)}
/-- as QQ.fr, but events may be put that are neither arrivals nor signals nor CANCELs -/
theorem QQ.fr2 (h7 : e'.1 7 2 = e.1 7 2) (h8 : e'.1 8 2 = e.1 8 2) (h16 : e'.1 4 16 = e.1 4 16) (h31 : e'.1 3 1 = e.1 3 1) (hs : ∀ i : Int, 0 ≤ i → i < e.1 7 2 → e'.1 (7000 + i) 6 = e.1 (7000 + i) 6) (ha : ∀ p : Int, 0 ≤ p → p < e.1 8 2 → e'.1 (8000 + p) 5 = e.1 (8000 + p) 5) (hl : ∀ i : Int, 0 ≤ i → i < e.1 7 2 → eL e' (73000 + i) = eL e (73000 + i)) (hh : ∀ i : Int, 0 ≤ i → i < e.1 7 2 → ccr e' i = ccr e i ∧ csr e' i = csr e i) : QQ r 0 (hN0 e r - hN0 e' r) 0 0 e e' := by
  have a1 : sm (qAl e') 30 = sm (qAl e) 30 := sm_to fun i i0 _ => by
    unfold qAl
    rw [h7]
    by_cases c : i < e.1 7 2
    · rw [hs i i0 c]
    · rw [if_neg (fun g => c g.1), if_neg (fun g => c g.1)]
  have a2 : sm (qNc e') 30 = sm (qNc e) 30 := sm_to fun i i0 _ => by
    unfold qNc
    rw [h7]
    by_cases c : i < e.1 7 2
    · rw [(hh i i0 c).1]
    · rw [if_neg c, if_neg c]
  have a3 : sm (qTm e') 30 = sm (qTm e) 30 := sm_to fun i i0 _ => by
    unfold qTm
    rw [h7]
    by_cases c : i < e.1 7 2
    · rw [hl i i0 c]
    · rw [if_neg c, if_neg c]
  have a4 : sm (qAc e') 60 = sm (qAc e) 60 := sm_to fun i i0 _ => by
    unfold qAc
    rw [h8]
    by_cases c : i < e.1 8 2
    · rw [ha i i0 c]
    · rw [if_neg (fun g => c g.1), if_neg (fun g => c g.1)]
  have a5 : sm (qCs e') 30 = sm (qCs e) 30 := sm_to fun i i0 _ => by
    unfold qCs
    rw [h7]
    by_cases c : i < e.1 7 2
    · rw [(hh i i0 c).2]
    · rw [if_neg c, if_neg c]
  unfold QQ QLk QV
  exact ⟨by omega, by omega, by omega, by omega, by omega⟩
/-- how many of a list's commands begin something -/
def opL : List (Int × Int × Int) → Int
  | [] => 0
  | z :: L => (if z.1 = 8 ∨ z.1 = 9 ∨ z.1 = 10 then 1 else 0) + opL L
theorem opL_33 : ∀ (L : List (Int × Int × Int)) (i : Int), iL g33 i L = 2 * opL L := by
  intro L
  induction L with
  | nil => intro i; show (0 : Int) = 2 * 0; decide
  | cons z L ih =>
    intro i
    show g33 i z.1 z.2.1 z.2.2 + iL g33 (i + 1) L = 2 * ((if z.1 = 8 ∨ z.1 = 9 ∨ z.1 = 10 then 1 else 0) + opL L)
    rw [ih]
    unfold g33
    split <;> omega
theorem opL_R {E : Int → Ev} : ∀ (L : List (Int × Int × Int)) (i : Int), (∀ (m : Nat) (z : Int × Int × Int), L[m]? = some z → ek (E (i + m)) = z.1) → nopR E L.length i = opL L := by
  intro L
  induction L with
  | nil => intro i _; rfl
  | cons z L ih =>
    intro i h
    have h0 := h 0 z rfl
    rw [show i + ((0 : Nat) : Int) = i by omega] at h0
    show (if ek (E i) = 8 ∨ ek (E i) = 9 ∨ ek (E i) = 10 then 1 else 0) + nopR E L.length (i + 1) = (if z.1 = 8 ∨ z.1 = 9 ∨ z.1 = 10 then 1 else 0) + opL L
    rw [h0, ih (i + 1) fun m z' hz => by
      have := h (m + 1) z' (show (z :: L)[m + 1]? = some z' from hz)
      rw [show i + ((m + 1 : Nat) : Int) = i + 1 + (m : Int) by omega] at this
      exact this]
/-- how many of the news are TAGs -/
def ntg : List (Int × Int × Int) → Int
  | [] => 0
  | z :: l => (if z.1 = 13 then 1 else 0) + ntg l
def ntR (E : Int → Ev) : Nat → Int → Int
  | 0, _ => 0
  | n + 1, i => (if ek (E i) = 13 then 1 else 0) + ntR E n (i + 1)
theorem ntR_to {E E' : Int → Ev} : ∀ (n : Nat) (i : Int), (∀ j : Int, i ≤ j → j < i + n → E' j = E j) → ntR E' n i = ntR E n i := by
  intro n
  induction n with
  | zero => intro i _; rfl
  | succ n ih =>
    intro i h
    show (if ek (E' i) = 13 then 1 else 0) + ntR E' n (i + 1) = (if ek (E i) = 13 then 1 else 0) + ntR E n (i + 1)
    rw [h i (Int.le_refl _) (by omega), ih (i + 1) fun j j0 j1 => h j (by omega) (by omega)]
theorem ntg_R {E : Int → Ev} : ∀ (L : List (Int × Int × Int)) (i : Int), (∀ (m : Nat) (z : Int × Int × Int), L[m]? = some z → ek (E (i + m)) = z.1) → ntR E L.length i = ntg L := by
  intro L
  induction L with
  | nil => intro i _; rfl
  | cons z L ih =>
    intro i h
    have h0 := h 0 z rfl
    rw [show i + ((0 : Nat) : Int) = i by omega] at h0
    show (if ek (E i) = 13 then 1 else 0) + ntR E L.length (i + 1) = (if z.1 = 13 then 1 else 0) + ntg L
    rw [h0, ih (i + 1) fun m z' hz => by
      have := h (m + 1) z' (show (z :: L)[m + 1]? = some z' from hz)
      rw [show i + ((m + 1 : Nat) : Int) = i + 1 + (m : Int) by omega] at this
      exact this]
/-- what is put again by an AGAIN is put only where a run is begun -/
theorem qq_carry2 (hc : CN e) (hK : HNN e) (r0 : 0 ≤ r) (r1 : r < e.1 7 2) (hs : e.1 (7000 + r) 6 = 0) (hR : RunF e r) (hg : GC nZ nZ e (pCarry r o e)) (c0 : 0 ≤ c) (hag : ek (eH e r o) = 16 → aP e r ≤ c ∧ (0 ≤ sg (eT e) 0 11 ∧ sg (eT e) 0 11 ≤ hN e r) ∧ Qn (eT e) ≤ csg (eH e r) (sg (eT e) 0 11).toNat) : ∃ c', (c' = 0 ∨ (c' = c ∧ e.1 7 2 + 1 ≤ (pCarry r o e).1 7 2)) ∧ QQ r ((if ek (eH e r o) = 8 ∨ ek (eH e r o) = 9 ∨ ek (eH e r o) = 10 then 1 else 0) + 2 * ((pCarry r o e).1 7 2 - e.1 7 2) + c') (3 * ((pCarry r o e).1 7 2 - e.1 7 2) + c') c' (if ek (eH e r o) = 8 ∨ ek (eH e r o) = 9 ∨ ek (eH e r o) = 10 then 1 else 0) e (pCarry r o e) := by
  by_cases c16 : ek (eH e r o) = 16
  · by_cases cn : e.1 7 2 < 30
    · refine ⟨c, Or.inr ⟨rfl, ?_⟩, qq_carry hc hK r0 r1 hs hR hg c0 hag⟩
      obtain ⟨g1, g2, g3⟩ := hag c16
      have k2 := (qq_again (x := ex (eH e r o)) hc hK r0 r1 hs cn hR g2 g3).2
      unfold pCarry
      rw [if_neg (by omega), if_neg (by omega), if_neg (by omega), if_neg (by omega), if_neg (by omega), if_neg (by omega), if_neg (by omega), if_pos c16, if_pos cn]
      exact k2
    · have hn := hg.n7
      refine ⟨0, Or.inl rfl, ?_⟩
      rw [if_neg (show ¬ (ek (eH e r o) = 8 ∨ ek (eH e r o) = 9 ∨ ek (eH e r o) = 10) by omega)]
      unfold pCarry at hn ⊢
      rw [if_neg (by omega), if_neg (by omega), if_neg (by omega), if_neg (by omega), if_neg (by omega), if_neg (by omega), if_neg (by omega), if_pos c16, if_neg cn] at hn ⊢
      exact (qq_close r0 41 r 2 _ 0 e r0 r1 hc hK hs (by decide) (by decide)).mono (by omega) (by omega) (by omega) (by omega)
  · exact ⟨0, Or.inl rfl, qq_carry (c := 0) hc hK r0 r1 hs hR hg (Int.le_refl _) fun g => absurd g c16⟩
theorem sm_tw {f g : Int → Int} (h : ∀ i : Int, 0 ≤ i → f i ≤ g i) : ∀ n : Nat, sm f n ≤ sm g n ∧ ∀ q : Int, 0 ≤ q → q < (n : Int) → g q - f q ≤ sm g n - sm f n := by
  intro n
  induction n with
  | zero => exact ⟨Int.le_refl _, fun q q0 q1 => by omega⟩
  | succ n ih =>
    have h1 := h (n : Int) (by omega)
    refine ⟨?_, fun q q0 q1 => ?_⟩
    · show sm f n + f (n : Int) ≤ sm g n + g (n : Int)
      omega
    · show g q - f q ≤ sm g n + g (n : Int) - (sm f n + f (n : Int))
      by_cases c : q = (n : Int)
      · rw [c]; omega
      · have := ih.2 q q0 (by omega)
        omega
theorem qcs_ex (h : EX e e') (hK : HNN e) (i0 : 0 ≤ i) : qCs e i ≤ qCs e' i := by
  obtain ⟨⟨h7, -⟩, h2, -⟩ := h
  by_cases ci : i < e.1 7 2
  · obtain ⟨⟨a1, a2, a3⟩, -, -⟩ := h2 i i0 ci
    have n0 := hK i i0 ci
    have w3 : qCs e i = csg (eH e i) (hN e i).toNat := if_pos ci
    have w4 : qCs e' i = csg (eH e' i) (hN e' i).toNat := if_pos (by omega)
    have u5 := (cts_to (E := eH e i) (E' := eH e' i) (hN e i).toNat fun j j0 j1 => a2 j j0 (by omega)).1
    have u6 := csg_m (E := eH e' i) ((hN e' i).toNat - (hN e i).toNat) (hN e i).toNat
    rw [show (hN e i).toNat + ((hN e' i).toNat - (hN e i).toNat) = (hN e' i).toNat by omega] at u6
    omega
  · have w3 : qCs e i = 0 := if_neg ci
    have := csg_0 (E := eH e' i) (hN e' i).toNat
    unfold qCs csr
    rw [if_neg ci]
    split <;> omega
theorem qq_carL2 (r0 : 0 ≤ r) {P : Int} (P0 : 0 ≤ P) : ∀ (n : Nat) (i : Int) (e : ES), HK S D T (Wz r i (i + n)) noX e → NZ e → FBi nZ e → (0 ≤ e.1 4 14 ∧ e.1 4 14 < 1000000) → (n ≠ 0 → r < e.1 7 2 ∧ e.1 (7000 + r) 6 = 0 ∧ (0 ≤ i ∧ i + n ≤ hN e r)) → (∀ j : Int, i ≤ j → j < i + n → (8 ≤ ek (eH e r j) ∧ ek (eH e r j) ≤ 16) ∧ (ek (eH e r j) = 14 ∨ ek (eH e r j) = 15 ∨ ek (eH e r j) = 16 → j + 1 = i + n)) → (∀ j : Int, i + n ≤ j → j < hN e r → ek (eH e r j) ≤ 7 ∨ ek (eH e r j) = 17) → ((∃ j : Int, (i ≤ j ∧ j < i + n) ∧ ek (eH e r j) = 16) → (∀ n : Int, 0 ≤ n → n < 4 → ∀ v ∈ sq (eT e) n, 0 ≤ v ∧ v ≤ 999) ∧ (0 ≤ sg (eT e) 0 11 ∧ sg (eT e) 0 11 ≤ i) ∧ Qn (eT e) ≤ csg (eH e r) (sg (eT e) 0 11).toNat ∧ aP e r ≤ P) → (e.1 7 2 ≤ (pCarL r n i e).1 7 2 ∧ (pCarL r n i e).1 4 11 = e.1 4 11 + ntR (eH e r) n i) ∧ ∃ c, (c = 0 ∨ (c = P ∧ e.1 7 2 + 1 ≤ (pCarL r n i e).1 7 2)) ∧ QQ r (nopR (eH e r) n i + 2 * ((pCarL r n i e).1 7 2 - e.1 7 2) + c) (3 * ((pCarL r n i e).1 7 2 - e.1 7 2) + c) c (nopR (eH e r) n i) e (pCarL r n i e) := by
  intro n
  induction n with
  | zero =>
    intro i e _ _ _ _ _ _ _ _
    refine ⟨⟨Int.le_refl _, by show e.1 4 11 = e.1 4 11 + 0; omega⟩, 0, Or.inl rfl, ?_⟩
    show QQ r (0 + 2 * (e.1 7 2 - e.1 7 2) + 0) (3 * (e.1 7 2 - e.1 7 2) + 0) 0 0 e e
    exact QQ.rf.mono (by omega) (by omega) (by omega) (by omega)
  | succ n ih =>
    intro i e h z hF ht hr hk hb hag
    obtain ⟨r1, hs, i0, i1⟩ := hr (by omega)
    have hc := h.cn
    have hK := h.hnn
    have n7 := hc.1
    have hlen := h.len r0 r1
    have hi := (h.2.1 r r0 r1).1.2
    have e1 : pCarL r (n + 1) i e = pCarL r n (i + 1) (pCarry r i e) := rfl
    rw [e1]
    obtain ⟨⟨k8, k16⟩, kE⟩ := hk i (Int.le_refl _) (by omega)
    have hcm := hi.cma i0 (by omega) k8 k16
    have hw : Wz r i (i + (n + 1 : Nat)) r i := ⟨rfl, Int.le_refl _, by omega⟩
    have hag' : ek (eH e r i) = 16 → (∀ n : Int, 0 ≤ n → n < 4 → ∀ v ∈ sq (eT e) n, 0 ≤ v ∧ v ≤ 999) ∧ (0 ≤ sg (eT e) 0 11 ∧ sg (eT e) 0 11 ≤ hN e r) ∧ Qn (eT e) ≤ csg (eH e r) (sg (eT e) 0 11).toNat := fun g => by
      obtain ⟨q1, q2, q3, -⟩ := hag ⟨i, ⟨Int.le_refl _, by omega⟩, g⟩
      exact ⟨q1, ⟨q2.1, by omega⟩, q3⟩
    have h1 := h.carry (W' := Wz r (i + 1) (i + 1 + n)) z hw (fun j g => g.2.1) hs (hF.tmo r0 r1) (fun q j => by unfold Wz; omega) (CmA.ok hcm) hag'
    have s1 : GC nZ nZ e (pCarry r i e) := gc_carry hc hK r0 r1 hs (hF.1 r r0 r1) i0 (by omega) hcm ht fun _ u hu => by
      obtain ⟨-, ⟨u0, u1, uk⟩, uw, -⟩ := h.2.2.2.1 9 r u 0 (Or.inr (Or.inr (Or.inl ⟨rfl, rfl, ⟨r0, r1⟩, hu⟩)))
      by_cases c : u < i
      · exact c
      · by_cases c2 : u < i + (n + 1 : Nat)
        · exact absurd ⟨rfl, by omega, c2⟩ uw
        · have := hb u (by omega) u1
          omega
    have hF1 := s1.1.2.1 hF
    have hT : eT (pCarry r i e) = eT e := congrArg (fun z => z.1) s1.1.1.2.2.2.2.2.2.1
    have e14 : (pCarry r i e).1 4 14 = e.1 4 14 := s1.1.1.2.2.2.2.1 14 (by decide) (by decide)
    have hm7 : e.1 7 2 ≤ (pCarry r i e).1 7 2 := s1.n7
    obtain ⟨⟨ar1, ar2, ar3⟩, -, -⟩ := s1.1.1.2.1 r r0 r1
    have hnop : nopR (eH e r) (n + 1) i = (if ek (eH e r i) = 8 ∨ ek (eH e r i) = 9 ∨ ek (eH e r i) = 10 then 1 else 0) + nopR (eH (pCarry r i e) r) n (i + 1) := by
      show (if ek (eH e r i) = 8 ∨ ek (eH e r i) = 9 ∨ ek (eH e r i) = 10 then 1 else 0) + nopR (eH e r) n (i + 1) = _
      rw [nopR_to (E := eH e r) (E' := eH (pCarry r i e) r) n (i + 1) fun j j0 j1 => ar2 j (by omega) (by omega)]
    have t11 := carry_11 (r := r) (i := i) hc r0
    have hnt : ntR (eH e r) (n + 1) i = (if ek (eH e r i) = 13 then 1 else 0) + ntR (eH (pCarry r i e) r) n (i + 1) := by
      show (if ek (eH e r i) = 13 then 1 else 0) + ntR (eH e r) n (i + 1) = _
      rw [ntR_to (E := eH e r) (E' := eH (pCarry r i e) r) n (i + 1) fun j j0 j1 => ar2 j (by omega) (by omega)]
    obtain ⟨c, hc1, b1⟩ := qq_carry2 (o := i) (c := P) hc hK r0 r1 hs (hF.1 r r0 r1) s1 P0 fun g => by
      obtain ⟨-, q2, q3⟩ := hag' g
      obtain ⟨-, -, -, q4⟩ := hag ⟨i, ⟨Int.le_refl _, by omega⟩, g⟩
      exact ⟨q4, q2, q3⟩
    by_cases c16 : ek (eH e r i) = 16
    · have hn : n = 0 := by have := kE (Or.inr (Or.inr c16)); omega
      subst hn
      rw [hnop]
      refine ⟨⟨hm7, by rw [hnt]; show (pCarry r i e).1 4 11 = e.1 4 11 + ((if ek (eH e r i) = 13 then 1 else 0) + (0 : Int)); omega⟩, c, hc1, ?_⟩
      show QQ r _ _ _ _ e (pCarry r i e)
      exact b1.mono (by show _ ≤ _ + (0 : Int) + 2 * ((pCarry r i e).1 7 2 - e.1 7 2) + c; omega) (by show _ ≤ 3 * ((pCarry r i e).1 7 2 - e.1 7 2) + c; omega) (Int.le_refl _) (by show _ ≤ _ + (0 : Int); omega)
    · have b1 := qq_carry (o := i) (c := 0) hc hK r0 r1 hs (hF.1 r r0 r1) s1 (Int.le_refl _) fun g => absurd g c16
      obtain ⟨⟨b3, b4⟩, c', hc', b2⟩ := ih (i + 1) _ h1.1 h1.2 hF1 (by rw [e14]; exact ht) (fun cn => by
        have hne : ek (eH e r i) ≠ 14 ∧ ek (eH e r i) ≠ 15 ∧ ek (eH e r i) ≠ 16 := by
          refine ⟨fun g => ?_, fun g => ?_, fun g => ?_⟩
          · have := kE (Or.inl g); omega
          · have := kE (Or.inr (Or.inl g)); omega
          · have := kE (Or.inr (Or.inr g)); omega
        exact ⟨by omega, by rw [carry_6 hc r0 r1 hne r0 r1]; exact hs, by omega, by omega⟩) (fun j j0 j1 => by
        rw [ar2 j (by omega) (by omega)]
        have := hk j (by omega) (by omega)
        exact ⟨this.1, fun g => by have := this.2 g; omega⟩) (fun j j0 j1 => by
        by_cases c : j < hN e r
        · rw [ar2 j (by omega) c]
          exact hb j (by omega) c
        · exact Or.inl (ar3 j (by omega) j1)) (fun ⟨j, jj, jk⟩ => by
        rw [ar2 j (by omega) (by omega)] at jk
        obtain ⟨q1, q2, q3, q4⟩ := hag ⟨j, by omega, jk⟩
        have k1 := (cts_to (E := eH e r) (E' := eH (pCarry r i e) r) (sg (eT e) 0 11).toNat fun i i0 i1 => ar2 i i0 (by omega)).1
        have k2 := (sm_tw (f := qCs e) (g := qCs (pCarry r i e)) (fun i i0 => qcs_ex s1.1.1 hK i0) 30).2 r r0 (by omega)
        have k3 : sm (qCs (pCarry r i e)) 30 ≤ sm (qCs e) 30 + 0 := b1.2.2.1
        have k4 : qCs e r = csg (eH e r) (hN e r).toNat := if_pos r1
        have k5 : qCs (pCarry r i e) r = csg (eH (pCarry r i e) r) (hN (pCarry r i e) r).toNat := if_pos (by omega)
        unfold aP at q4 ⊢
        rw [hT, k1]
        exact ⟨q1, ⟨q2.1, by omega⟩, q3, by omega⟩)
      rw [hnop]
      refine ⟨⟨by omega, by rw [hnt]; omega⟩, c', ?_, (b1.tr b2).mono (by omega) (by omega) (by omega) (by omega)⟩
      rcases hc' with g | ⟨g1, g2⟩
      · exact Or.inl g
      · exact Or.inr ⟨g1, by omega⟩
end QQJ
