/-! HOW MUCH IS PUT: all of a complete's commands; work made again. -/
section QQD
variable {e e' e1 e2 : ES} {S D T a b c d i j k q r v w N M p x y t o m s z st tn ver inp par pe kd ev due to nm sz res dep : Int} {n : Nat} {E E' : Int → Ev}
theorem qq_carL (r0 : 0 ≤ r) (c0 : 0 ≤ c) : ∀ (n : Nat) (i : Int) (e : ES), HK S D T (Wz r i (i + n)) noX e → NZ e → FBi nZ e → (0 ≤ e.1 4 14 ∧ e.1 4 14 < 1000000) → (n ≠ 0 → r < e.1 7 2 ∧ e.1 (7000 + r) 6 = 0 ∧ (0 ≤ i ∧ i + n ≤ hN e r)) → (∀ j : Int, i ≤ j → j < i + n → (8 ≤ ek (eH e r j) ∧ ek (eH e r j) ≤ 16) ∧ (ek (eH e r j) = 14 ∨ ek (eH e r j) = 15 ∨ ek (eH e r j) = 16 → j + 1 = i + n)) → (∀ j : Int, i + n ≤ j → j < hN e r → ek (eH e r j) ≤ 7 ∨ ek (eH e r j) = 17) → ((∃ j : Int, (i ≤ j ∧ j < i + n) ∧ ek (eH e r j) = 16) → S ≤ c ∧ (∀ n : Int, 0 ≤ n → n < 4 → ∀ v ∈ sq (eT e) n, 0 ≤ v ∧ v ≤ 999) ∧ (0 ≤ sg (eT e) 0 11 ∧ sg (eT e) 0 11 ≤ i) ∧ Qn (eT e) ≤ csg (eH e r) (sg (eT e) 0 11).toNat) → QQ r (nopR (eH e r) n i + 2 * ((pCarL r n i e).1 7 2 - e.1 7 2) + c) (3 * ((pCarL r n i e).1 7 2 - e.1 7 2) + c) c (nopR (eH e r) n i) e (pCarL r n i e) := by
  intro n
  induction n with
  | zero =>
    intro i e _ _ _ _ _ _ _ _
    show QQ r (0 + 2 * (e.1 7 2 - e.1 7 2) + c) (3 * (e.1 7 2 - e.1 7 2) + c) c 0 e e
    exact QQ.rf.mono (by omega) (by omega) (by omega) (by omega)
  | succ n ih =>
    intro i e h z hF ht hr hk hb hag
    obtain ⟨r1, hs, i0, i1⟩ := hr (by omega)
    have hc := h.cn
    have hK := h.hnn
    have n7 := hc.1
    have hlen := h.len r0 r1
    have hi := (h.2.1 r r0 r1).1.2
    have e1 : pCarL r (n + 1) i e = pCarL r n (i + 1) (pCarry r i e) := rfl
    rw [e1]
    obtain ⟨⟨k8, k16⟩, kE⟩ := hk i (Int.le_refl _) (by omega)
    have hcm := hi.cma i0 (by omega) k8 k16
    have hw : Wz r i (i + (n + 1 : Nat)) r i := ⟨rfl, Int.le_refl _, by omega⟩
    have hag' : ek (eH e r i) = 16 → (∀ n : Int, 0 ≤ n → n < 4 → ∀ v ∈ sq (eT e) n, 0 ≤ v ∧ v ≤ 999) ∧ (0 ≤ sg (eT e) 0 11 ∧ sg (eT e) 0 11 ≤ hN e r) ∧ Qn (eT e) ≤ csg (eH e r) (sg (eT e) 0 11).toNat := fun g => by
      obtain ⟨-, q1, q2, q3⟩ := hag ⟨i, ⟨Int.le_refl _, by omega⟩, g⟩
      exact ⟨q1, ⟨q2.1, by omega⟩, q3⟩
    have h1 := h.carry (W' := Wz r (i + 1) (i + 1 + n)) z hw (fun j g => g.2.1) hs (hF.tmo r0 r1) (fun q j => by unfold Wz; omega) (CmA.ok hcm) hag'
    have s1 : GC nZ nZ e (pCarry r i e) := gc_carry hc hK r0 r1 hs (hF.1 r r0 r1) i0 (by omega) hcm ht fun _ u hu => by
      obtain ⟨-, ⟨u0, u1, uk⟩, uw, -⟩ := h.2.2.2.1 9 r u 0 (Or.inr (Or.inr (Or.inl ⟨rfl, rfl, ⟨r0, r1⟩, hu⟩)))
      by_cases c : u < i
      · exact c
      · by_cases c2 : u < i + (n + 1 : Nat)
        · exact absurd ⟨rfl, by omega, c2⟩ uw
        · have := hb u (by omega) u1
          omega
    have hF1 := s1.1.2.1 hF
    have hT : eT (pCarry r i e) = eT e := congrArg (fun z => z.1) s1.1.1.2.2.2.2.2.2.1
    have e14 : (pCarry r i e).1 4 14 = e.1 4 14 := s1.1.1.2.2.2.2.1 14 (by decide) (by decide)
    obtain ⟨⟨ar1, ar2, ar3⟩, -, -⟩ := s1.1.1.2.1 r r0 r1
    have hnop : nopR (eH e r) (n + 1) i = (if ek (eH e r i) = 8 ∨ ek (eH e r i) = 9 ∨ ek (eH e r i) = 10 then 1 else 0) + nopR (eH (pCarry r i e) r) n (i + 1) := by
      show (if ek (eH e r i) = 8 ∨ ek (eH e r i) = 9 ∨ ek (eH e r i) = 10 then 1 else 0) + nopR (eH e r) n (i + 1) = _
      rw [nopR_to (E := eH e r) (E' := eH (pCarry r i e) r) n (i + 1) fun j j0 j1 => ar2 j (by omega) (by omega)]
    have hct : csr e r ≤ S := by
      have g1 := csr_tot r0 r1 n7.2 (fun d => d.1 hs)
      have g2 := h.1.2.2
      omega
    by_cases c16 : ek (eH e r i) = 16
    · have hn : n = 0 := by have := kE (Or.inr (Or.inr c16)); omega
      obtain ⟨g0, -, g2, g3⟩ := hag ⟨i, ⟨Int.le_refl _, by omega⟩, c16⟩
      have b1 := qq_carry (o := i) (c := c) hc hK r0 r1 hs (hF.1 r r0 r1) s1 c0 fun _ => ⟨by
        have hcs : csr e r = csg (eH e r) (hN e r).toNat := rfl
        unfold aP
        omega, ⟨g2.1, by omega⟩, g3⟩
      subst hn
      rw [hnop]
      show QQ r _ _ _ _ e (pCarry r i e)
      exact b1.mono (by show _ ≤ _ + (0 : Int) + 2 * ((pCarry r i e).1 7 2 - e.1 7 2) + c; omega) (by show _ ≤ 3 * ((pCarry r i e).1 7 2 - e.1 7 2) + c; omega) (Int.le_refl _) (by show _ ≤ _ + (0 : Int); omega)
    · have b1 := qq_carry (o := i) (c := 0) hc hK r0 r1 hs (hF.1 r r0 r1) s1 (Int.le_refl _) fun g => absurd g c16
      have b2 := ih (i + 1) _ h1.1 h1.2 hF1 (by rw [e14]; exact ht) (fun cn => by
        have hne : ek (eH e r i) ≠ 14 ∧ ek (eH e r i) ≠ 15 ∧ ek (eH e r i) ≠ 16 := by
          refine ⟨fun g => ?_, fun g => ?_, fun g => ?_⟩
          · have := kE (Or.inl g); omega
          · have := kE (Or.inr (Or.inl g)); omega
          · have := kE (Or.inr (Or.inr g)); omega
        exact ⟨by have := s1.n7; omega, by rw [carry_6 hc r0 r1 hne r0 r1]; exact hs, by omega, by omega⟩) (fun j j0 j1 => by
        rw [ar2 j (by omega) (by omega)]
        have := hk j (by omega) (by omega)
        exact ⟨this.1, fun g => by have := this.2 g; omega⟩) (fun j j0 j1 => by
        by_cases c : j < hN e r
        · rw [ar2 j (by omega) c]
          exact hb j (by omega) c
        · exact Or.inl (ar3 j (by omega) j1)) (fun ⟨j, jj, jk⟩ => by
        rw [ar2 j (by omega) (by omega)] at jk
        obtain ⟨q0, q1, q2, q3⟩ := hag ⟨j, by omega, jk⟩
        rw [hT]
        refine ⟨q0, q1, ⟨q2.1, by omega⟩, ?_⟩
        rw [(cts_to (E := eH e r) (sg (eT e) 0 11).toNat fun i i0 i1 => ar2 i i0 (by omega)).1]
        exact q3)
      rw [hnop]
      exact (b1.tr b2).mono (by omega) (by omega) (by omega) (by omega)
/-- one command whose work is made again -/
theorem qq_rs1 (hc : CN e) (hK : HNN e) (q0 : 0 ≤ q) (r0 : 0 ≤ r) (r1 : r < e.1 7 2) : (pRs1 r i e = e ∨ (((ek (eH e r i) = 8 ∨ ek (eH e r i) = 9) ∧ ¬ ended (pX e r) i = true) ∧ QQ q 1 1 0 1 e (pRs1 r i e))) ∧ CN (pRs1 r i e) ∧ HNN (pRs1 r i e) ∧ (pRs1 r i e).1 7 2 = e.1 7 2 ∧ hN e r ≤ hN (pRs1 r i e) r ∧ ∀ j : Int, 0 ≤ j → j < hN e r → eH (pRs1 r i e) r j = eH e r j := by
  have n7 := hc.1
  have n8 := hc.2.1
  unfold pRs1
  by_cases c : (ek (eH e r i) = 8 ∨ ek (eH e r i) = 9) ∧ ¬ ended (pX e r) i = true
  · rw [if_pos c]
    by_cases c8 : ek (eH e r i) = 8
    · rw [if_pos c8]
      unfold pMakA
      by_cases cc : e.1 8 2 < 60
      · rw [if_pos cc]
        have pa : ∀ a u : Int, a ≠ 8 → a ≠ 8000 + e.1 8 2 → (pNew 8 (fAct r i (ex (eH e r i)) (ey (eH e r i)) (e.1 4 14)) e).1 a u = e.1 a u := fun a u h1 h2 => pNew_a (by omega) (by omega)
        refine ⟨Or.inr ⟨c, (qq_new8 hc q0 cc).mono (by decide) (by decide) (by decide) (by decide)⟩, hc.pnew (by decide) (by decide) (fun _ => cc) (fun g => by omega) fun g => by omega, fun j j0 j1 => ?_, pa _ _ (by omega) (by omega), ?_, fun _ _ _ => rfl⟩
        · rw [pa _ _ (by omega) (by omega)] at j1
          unfold hN
          rw [pa _ _ (by omega) (by omega)]
          exact hK j j0 j1
        · unfold hN
          rw [pa _ _ (by omega) (by omega)]
          omega
      · rw [if_neg cc]
        have g := gc_arr (Z := nZ) (k := 2) (x := i) (y := 0) hc hK r0 r1 (by decide) (by decide)
        refine ⟨Or.inr ⟨c, (qq_arr hc q0 r0 r1 (hK r r0 r1) (by decide)).mono (by decide) (by rw [if_neg (show ¬ (2 : Int) = 7 by decide)]; split <;> omega) (by decide) (by decide)⟩, g.2, g.hk hK, arr_a (by decide) (by decide) (by omega) (by omega) (by decide), by rw [arr_N r0]; omega, fun j j0 j1 => ?_⟩
        rw [(arr_eH r0 (by omega)).2]
        exact if_neg (by omega)
    · rw [if_neg c8]
      refine ⟨Or.inr ⟨c, (qq_addT hc q0 r0 r1).mono (by decide) (by decide) (by decide) (by decide)⟩, hc.of fun a ha => addT_1 (by omega), fun j j0 j1 => ?_, addT_1 (by omega), ?_, fun _ _ _ => rfl⟩
      · rw [addT_1 (by omega)] at j1
        unfold hN
        rw [addT_1 (by omega)]
        exact hK j j0 j1
      · unfold hN
        rw [addT_1 (by omega)]
        omega
  · rw [if_neg c]
    exact ⟨Or.inl rfl, hc, hK, rfl, Int.le_refl _, fun _ _ _ => rfl⟩
theorem qq_rsL (q0 : 0 ≤ q) (r0 : 0 ≤ r) (hI : HInv E N) : ∀ (n : Nat) (i : Int) (e : ES) (l : List Int), CN e → HNN e → r < e.1 7 2 → N ≤ hN e r → (∀ j : Int, 0 ≤ j → j < N → eH e r j = E j) → 0 ≤ i → l.Nodup → (∀ v ∈ l, v < i ∧ OpnF (fun i => ek (E i)) (fun i => ex (E i)) N v) → 0 ≤ N → QQ q (12 - l.length) (12 - l.length) 0 (12 - l.length) e (pRsL r N n i e) ∧ CN (pRsL r N n i e) ∧ HNN (pRsL r N n i e) := by
  intro n
  have hlen : ∀ (l : List Int), l.Nodup → (∀ v ∈ l, OpnF (fun i => ek (E i)) (fun i => ex (E i)) N v) → 0 ≤ N → l.length ≤ 12 := fun l h1 h2 h3 => hI.2 N h3 (Int.le_refl _) l h1 h2
  induction n with
  | zero =>
    intro i e l hc hK r1 hn hE i0 hl1 hl2 N0
    have := hlen l hl1 (fun v hv => (hl2 v hv).2) N0
    exact ⟨QQ.rf.mono (by omega) (by omega) (by omega) (by omega), hc, hK⟩
  | succ n ih =>
    intro i e l hc hK r1 hn hE i0 hl1 hl2 N0
    have h12 := hlen l hl1 (fun v hv => (hl2 v hv).2) N0
    unfold pRsL
    by_cases ci : i < N
    · rw [if_pos ci]
      obtain ⟨g1, g2, g3, g4, g5, g6⟩ := qq_rs1 (q := q) (i := i) hc hK q0 r0 r1
      rcases g1 with g1 | ⟨⟨o1, o2⟩, g1⟩
      · rw [g1]
        obtain ⟨u1, u2, u3⟩ := ih (i + 1) e l hc hK r1 hn hE (by omega) hl1 (fun v hv => ⟨by have := (hl2 v hv).1; omega, (hl2 v hv).2⟩) N0
        exact ⟨u1, u2, u3⟩
      · have hop : OpnF (fun i => ek (E i)) (fun i => ex (E i)) N i := by
          rw [hE i i0 ci] at o1
          refine ⟨⟨i0, ci⟩, by show opk (ek (E i)); unfold opk; omega, fun j j0 j1 hj => ?_⟩
          have hLc := (hI.1 j (by omega) j1).2.2.2.1
          apply o2
          rw [ended_i]
          have hkb : KB (ek (E j)) := by
            have h3 : ek (E j) = 11 ∨ bkk (ek (E j)) := hj.1
            have h4 : ex (E j) = i := hj.2
            unfold KB
            rcases h3 with h3 | h3
            · omega
            · have h5 := (hLc h3).1.2
              rw [h4] at h5
              unfold bkk at h3
              by_cases c5 : ek (E j) = 5 ∨ ek (E j) = 6
              · rw [if_neg (by omega), if_neg (by omega)] at h5
                omega
              · omega
          exact ⟨j, by omega, by omega, by rw [hE j (by omega) j1]; exact hkb, by rw [hE j (by omega) j1]; exact hj.2⟩
        have hl1' : (i :: l).Nodup := List.nodup_cons.mpr ⟨fun hm => by have := (hl2 i hm).1; omega, hl1⟩
        have hl2' : ∀ v ∈ i :: l, v < i + 1 ∧ OpnF (fun i => ek (E i)) (fun i => ex (E i)) N v := fun v hv => by
          rcases List.mem_cons.mp hv with g | g
          · rw [g]
            exact ⟨by omega, hop⟩
          · exact ⟨by have := (hl2 v g).1; omega, (hl2 v g).2⟩
        obtain ⟨u1, u2, u3⟩ := ih (i + 1) _ (i :: l) g2 g3 (by omega) (by omega) (fun j j0 j1 => by rw [g6 j j0 (by omega)]; exact hE j j0 j1) (by omega) hl1' hl2' N0
        rw [List.length_cons] at u1
        exact ⟨(g1.tr u1).mono (by omega) (by omega) (by omega) (by omega), u2, u3⟩
    · rw [if_neg ci]
      exact ⟨QQ.rf.mono (by omega) (by omega) (by omega) (by omega), hc, hK⟩
theorem qq_rest (hc : CN e) (hK : HNN e) (q0 : 0 ≤ q) (r0 : 0 ≤ r) (r1 : r < e.1 7 2) (hI : HInv (eH e r) (hN e r)) : QQ q 12 12 0 12 e (pRest r e) :=
  (qq_rsL q0 r0 hI _ 0 e [] hc hK r1 (Int.le_refl _) (fun _ _ _ => rfl) (Int.le_refl _) List.nodup_nil (fun v hv => absurd hv List.not_mem_nil) (hK r r0 r1)).1
end QQD
