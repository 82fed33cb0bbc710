/-! A COMPLETE: what is carried out finds what it has to find. -/
section CRP
variable {e e' : ES} {S D T a b c d i j k q r v w N M p x y t o base : Int} {n : Nat} {S' : TS} {L : List (Int × Int × Int)}
/-- inner steps let grow what only grows -/
theorem EX.mr (h : EX e e') (hK : HNN e) : MR e e' := by
  have hk' := h.hk hK
  obtain ⟨h1, h2, h3, h4, h5, h6, h7, ⟨⟨g1, g2, g3, g4⟩, g5, g6⟩⟩ := h
  have hs : sm (fun i => e.1 68 (3000 + i)) 30 ≤ sm (fun i => e'.1 68 (3000 + i)) 30 := sm_le fun i i0 i1 => by
    rcases g6 i i0 (by omega) with ⟨-, -, a, -⟩ | ⟨-, -, a, -⟩
    · show e.1 68 (3000 + i) ≤ e'.1 68 (3000 + i)
      omega
    · show e.1 68 (3000 + i) ≤ e'.1 68 (3000 + i)
      rw [a]
      split <;> omega
  exact ⟨⟨by omega, g3, h1.1⟩, fun i i0 i1 => (h2 i i0 i1).1.1, fun ⟨q1, q2, q3, q4⟩ => ⟨by rw [h5 14 (by decide) (by decide)]; exact q1, by omega, by omega, hk'⟩⟩
/-- how many timers there are while a run's commands are carried out -/
theorem tm_all (h : HK S D T (Wz r i b) noX e) (hF : FBi nZ e) (r0 : 0 ≤ r) (r1 : r < e.1 7 2) (i0 : 0 ≤ i) (i1 : i ≤ hN e r) (hb : ∀ j : Int, b ≤ j → j < hN e r → ek (eH e r j) ≠ 9) : (pT e (e.1 7 2).toNat).length < 512 := by
  have n7 := h.cn.1
  have hl : ∀ q : Int, 0 ≤ q → q < (((e.1 7 2).toNat : Nat) : Int) → (eL e (73000 + q)).length ≤ 12 := fun q q0 q1 => by
    have q1' : q < e.1 7 2 := by omega
    have hF2 := (hF.2.1 q q0 q1').2.1
    have hN0 := (h.len q0 q1').1
    have lk : ∀ v ∈ eL e (73000 + q), v < hN e q ∧ ek (eH e q v) = 9 ∧ ¬ Wz r i b q v := fun v hv => by
      obtain ⟨-, ⟨v0, v1, vk⟩, hw, -⟩ := h.2.2.2.1 9 q v 0 (Or.inr (Or.inr (Or.inl ⟨rfl, rfl, ⟨q0, q1'⟩, hv⟩)))
      exact ⟨v1, vk, hw⟩
    by_cases cq : q = r
    · subst cq
      refine tm12 (p := i) h hF2 q0 q1' i0 i1 (fun j j0 j1 hw => hw.2.1) fun v hv => ?_
      obtain ⟨v1, vk, hw⟩ := lk v hv
      by_cases c : v < i
      · exact c
      · by_cases c2 : v < b
        · exact absurd ⟨rfl, by omega, c2⟩ hw
        · exact absurd vk (hb v (by omega) v1)
    · exact tm12 (p := hN e q) h hF2 q0 q1' hN0 (Int.le_refl _) (fun j j0 j1 hw => absurd hw.1 cq) fun v hv => (lk v hv).1
  have := pT_l12 (e := e) (e.1 7 2).toNat hl
  omega
theorem carP (r0 : 0 ≤ r) : ∀ (n : Nat) (i : Int) (e : ES), HK S D T (Wz r i (i + n)) noX e → NZ e → FBi nZ e → (0 ≤ e.1 4 14 ∧ e.1 4 14 < 1000000) → RLw e → (n ≠ 0 → r < e.1 7 2 ∧ e.1 (7000 + r) 6 = 0 ∧ (0 ≤ i ∧ i + n ≤ hN e r)) → (∀ j : Int, i ≤ j → j < i + n → (8 ≤ ek (eH e r j) ∧ ek (eH e r j) ≤ 16) ∧ (ek (eH e r j) = 14 ∨ ek (eH e r j) = 15 ∨ ek (eH e r j) = 16 → j + 1 = i + n)) → (∀ j : Int, i + n ≤ j → j < hN e r → ek (eH e r j) ≤ 7 ∨ ek (eH e r j) = 17) → ((∃ j : Int, (i ≤ j ∧ j < i + n) ∧ ek (eH e r j) = 16) → (∀ n : Int, 0 ≤ n → n < 4 → ∀ v ∈ sq (eT e) n, 0 ≤ v ∧ v ≤ 999) ∧ (0 ≤ sg (eT e) 0 11 ∧ sg (eT e) 0 11 ≤ i) ∧ Qn (eT e) ≤ csg (eH e r) (sg (eT e) 0 11).toNat) → (eT e = S' ∧ base ≤ i) → (∀ j : Int, i ≤ j → j < i + n → (sn S')[(j - base).toNat]? = some (ek (eH e r j), ex (eH e r j), ey (eH e r j))) → (n ≠ 0 → cA (eH e r) (sg S' 0 11).toNat = sg S' 0 10 ∧ 0 ≤ sg S' 0 11 ∧ sg S' 0 11 ≤ i) → RFw (pCarL r n i e) → e.1 4 11 ≤ (pCarL r n i e).1 4 11 ∧ ((pCarL r n i e).1 4 11 < 1048576 → CarP r base S' n i e) := by
  intro n
  induction n with
  | zero => intro i e _ _ _ _ _ _ _ _ _ _ _ _ _; exact ⟨Int.le_refl _, fun _ => trivial⟩
  | succ n ih =>
    intro i e h z hF ht hl hr hk hb hag hS hsn hcA hf
    obtain ⟨r1, hs, i0, i1⟩ := hr (by omega)
    obtain ⟨a1, a2, a3⟩ := hcA (by omega)
    have hc := h.cn
    have hK := h.hnn
    have n7 := hc.1
    have hlen := h.len r0 r1
    have hi := (h.2.1 r r0 r1).1.2
    have e1 : pCarL r (n + 1) i e = pCarL r n (i + 1) (pCarry r i e) := rfl
    rw [e1] at hf ⊢
    obtain ⟨⟨k8, k16⟩, kE⟩ := hk i (Int.le_refl _) (by omega)
    have hcm := hi.cma i0 (by omega) k8 k16
    have hw : Wz r i (i + (n + 1 : Nat)) r i := ⟨rfl, Int.le_refl _, by omega⟩
    have hag' : ek (eH e r i) = 16 → (∀ n : Int, 0 ≤ n → n < 4 → ∀ v ∈ sq (eT e) n, 0 ≤ v ∧ v ≤ 999) ∧ (0 ≤ sg (eT e) 0 11 ∧ sg (eT e) 0 11 ≤ hN e r) ∧ Qn (eT e) ≤ csg (eH e r) (sg (eT e) 0 11).toNat := fun g => by
      obtain ⟨q1, q2, q3⟩ := hag ⟨i, ⟨Int.le_refl _, by omega⟩, g⟩
      exact ⟨q1, ⟨q2.1, by omega⟩, q3⟩
    have h1 := h.carry (W' := Wz r (i + 1) (i + 1 + n)) z hw (fun j g => g.2.1) hs (hF.tmo r0 r1) (fun q j => by unfold Wz; omega) (CmA.ok hcm) hag'
    have s1 : GC nZ nZ e (pCarry r i e) := gc_carry hc hK r0 r1 hs (hF.1 r r0 r1) i0 (by omega) hcm ht fun _ u hu => by
      obtain ⟨-, ⟨u0, u1, uk⟩, uw, -⟩ := h.2.2.2.1 9 r u 0 (Or.inr (Or.inr (Or.inl ⟨rfl, rfl, ⟨r0, r1⟩, hu⟩)))
      by_cases c : u < i
      · exact c
      · by_cases c2 : u < i + (n + 1 : Nat)
        · exact absurd ⟨rfl, by omega, c2⟩ uw
        · have := hb u (by omega) u1
          omega
    have hF1 := s1.1.2.1 hF
    have t11 := carry_11 (r := r) (i := i) hc r0
    have t11' : e.1 4 11 ≤ (pCarry r i e).1 4 11 := by rw [t11]; split <;> omega
    have hT : eT (pCarry r i e) = eT e := congrArg (fun z => z.1) s1.1.1.2.2.2.2.2.2.1
    have e14 : (pCarry r i e).1 4 14 = e.1 4 14 := s1.1.1.2.2.2.2.1 14 (by decide) (by decide)
    obtain ⟨⟨ar1, ar2, ar3⟩, -, -⟩ := s1.1.1.2.1 r r0 r1
    have hl1 : RLw (pCarry r i e) := (s1.1.1.mr hK).2.2 hl
    -- what comes behind
    have hr1 : n ≠ 0 → r < (pCarry r i e).1 7 2 ∧ (pCarry r i e).1 (7000 + r) 6 = 0 ∧ (0 ≤ i + 1 ∧ i + 1 + n ≤ hN (pCarry r i e) r) := fun cn => by
      have hne : ek (eH e r i) ≠ 14 ∧ ek (eH e r i) ≠ 15 ∧ ek (eH e r i) ≠ 16 := by
        refine ⟨fun g => ?_, fun g => ?_, fun g => ?_⟩
        · have := kE (Or.inl g); omega
        · have := kE (Or.inr (Or.inl g)); omega
        · have := kE (Or.inr (Or.inr g)); omega
      exact ⟨by have := s1.n7; omega, by rw [carry_6 hc r0 r1 hne r0 r1]; exact hs, by omega, by omega⟩
    have hk1 : ∀ j : Int, i + 1 ≤ j → j < i + 1 + n → (8 ≤ ek (eH (pCarry r i e) r j) ∧ ek (eH (pCarry r i e) r j) ≤ 16) ∧ (ek (eH (pCarry r i e) r j) = 14 ∨ ek (eH (pCarry r i e) r j) = 15 ∨ ek (eH (pCarry r i e) r j) = 16 → j + 1 = i + 1 + n) := fun j j0 j1 => by
      rw [ar2 j (by omega) (by omega)]
      have := hk j (by omega) (by omega)
      exact ⟨this.1, fun g => by have := this.2 g; omega⟩
    have hb1 : ∀ j : Int, i + 1 + n ≤ j → j < hN (pCarry r i e) r → ek (eH (pCarry r i e) r j) ≤ 7 ∨ ek (eH (pCarry r i e) r j) = 17 := fun j j0 j1 => by
      by_cases c : j < hN e r
      · rw [ar2 j (by omega) c]
        exact hb j (by omega) c
      · exact Or.inl (ar3 j (by omega) j1)
    have hag1 : (∃ j : Int, (i + 1 ≤ j ∧ j < i + 1 + n) ∧ ek (eH (pCarry r i e) r j) = 16) → (∀ n : Int, 0 ≤ n → n < 4 → ∀ v ∈ sq (eT (pCarry r i e)) n, 0 ≤ v ∧ v ≤ 999) ∧ (0 ≤ sg (eT (pCarry r i e)) 0 11 ∧ sg (eT (pCarry r i e)) 0 11 ≤ i + 1) ∧ Qn (eT (pCarry r i e)) ≤ csg (eH (pCarry r i e) r) (sg (eT (pCarry r i e)) 0 11).toNat := fun ⟨j, jj, jk⟩ => by
      rw [ar2 j (by omega) (by omega)] at jk
      obtain ⟨q1, q2, q3⟩ := hag ⟨j, by omega, jk⟩
      rw [hT]
      refine ⟨q1, ⟨q2.1, by omega⟩, ?_⟩
      rw [(cts_to (E := eH e r) (sg (eT e) 0 11).toNat fun i i0 i1 => ar2 i i0 (by omega)).1]
      exact q3
    obtain ⟨u1, -, -⟩ := gc_carL r0 n (i + 1) _ h1.1 h1.2 hF1 (by rw [e14]; exact ht) hr1 hk1 hb1 hag1
    obtain ⟨w1, w2⟩ := ih (i + 1) _ h1.1 h1.2 hF1 (by rw [e14]; exact ht) hl1 hr1 hk1 hb1 hag1 ⟨hT.trans hS.1, by omega⟩ (fun j j0 j1 => by
      rw [ar2 j (by omega) (by omega)]
      exact hsn j (by omega) (by omega)) (fun _ => by
      rw [(cc_to (E := eH e r) (sg S' 0 11).toNat fun j j0 j1 => ar2 j j0 (by omega)).1]
      exact ⟨a1, a2, by omega⟩) hf
    refine ⟨by omega, fun h11 => ⟨⟨⟨⟨hc, hl, hf.bk (u1.1.1.mr h1.1.hnn)⟩, fun j j0 j1 => ?_, h.pr, hF.tmo r0 r1⟩, ⟨hS.1, ⟨r0, r1⟩, hs, ⟨hS.2, i0, by omega⟩, hsn i (Int.le_refl _) (by omega), CmA.ok hcm⟩, tm_all h hF r0 r1 i0 (by omega) (fun j j0 j1 => by have := hb j j0 j1; omega), ⟨Int.le_trans hF.2.2.2.2.1.1 hF.2.2.2.2.1.2, by omega⟩, hF.2.2.2.2.2.1, ⟨a1, a2, by omega⟩, fun t t0 t1 g => ?_⟩, w2 h11⟩⟩
    · obtain ⟨q1, -, -, -, q5, -⟩ := hF.1 j j0 j1
      exact ⟨q1, q5⟩
    · have := (hF.1 r r0 r1).2.2.1
      rw [g] at this
      omega
end CRP
