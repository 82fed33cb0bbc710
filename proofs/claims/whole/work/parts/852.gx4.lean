/-! FIELDS: all the news are carried out; what a run works on is made again. -/
section GXD
variable {e e' e1 e2 : ES} {W : Int → Int → Prop} {Z Z' Z2 : Int → Prop} {S D T a b c i j k q r v w N M p x y t o ev : Int} {n : Nat} {s : TS}
theorem FBi.tmo (h : FBi Z e) (r0 : 0 ≤ r) (r1 : r < e.1 7 2) : TmO e r := ⟨(h.2.1 r r0 r1).1.1, (h.2.1 r r0 r1).1.2.1⟩
theorem HK.hnn {X : Int → Int → Int → Prop} (h : HK S D T W X e) : HNN e := fun r r0 r1 => (h.len r0 r1).1
theorem CmA.ok {E : Ev} (h : ek E ≠ 11 → CmA (ek E) (ex E) (ey E)) : CmdOk E := by
  refine ⟨fun g => ?_, fun g => ?_⟩
  · have := (h (by omega)).2.2.1 g
    omega
  · have := (h (by omega)).2.2.2.2.1 g
    omega
/-- what a command's numbers are, in a history as it should be -/
theorem HInv.cma {E : Int → Ev} (h : HInv E N) (i0 : 0 ≤ i) (i1 : i < N) (k8 : 8 ≤ ek (E i)) (k16 : ek (E i) ≤ 16) : ek (E i) ≠ 11 → CmA (ek (E i)) (ex (E i)) (ey (E i)) := ((h.1 i i0 i1).2.2.2.2.1 ⟨k8, k16⟩).1.2.2.2.2.2
/-- the news are carried out, one after another -/
theorem gc_carL (r0 : 0 ≤ r) : ∀ (n : Nat) (i : Int) (e : ES), HK S D T (Wz r i (i + n)) noX e → NZ e → FBi Z e → (0 ≤ e.1 4 14 ∧ e.1 4 14 < 1000000) → (n ≠ 0 → r < e.1 7 2 ∧ e.1 (7000 + r) 6 = 0 ∧ (0 ≤ i ∧ i + n ≤ hN e r)) → (∀ j : Int, i ≤ j → j < i + n → (8 ≤ ek (eH e r j) ∧ ek (eH e r j) ≤ 16) ∧ (ek (eH e r j) = 14 ∨ ek (eH e r j) = 15 ∨ ek (eH e r j) = 16 → j + 1 = i + n)) → (∀ j : Int, i + n ≤ j → j < hN e r → ek (eH e r j) ≤ 7 ∨ ek (eH e r j) = 17) → ((∃ j : Int, (i ≤ j ∧ j < i + n) ∧ ek (eH e r j) = 16) → (∀ n : Int, 0 ≤ n → n < 4 → ∀ v ∈ sq (eT e) n, 0 ≤ v ∧ v ≤ 999) ∧ (0 ≤ sg (eT e) 0 11 ∧ sg (eT e) 0 11 ≤ i) ∧ Qn (eT e) ≤ csg (eH e r) (sg (eT e) 0 11).toNat) → GC Z Z e (pCarL r n i e) ∧ FBi Z (pCarL r n i e) ∧ ((∃ j : Int, (i ≤ j ∧ j < i + n) ∧ 14 ≤ ek (eH e r j) ∧ ek (eH e r j) ≤ 16) → Dead (pCarL r n i e) r) := by
  intro n
  induction n with
  | zero => intro i e h z hF _ _ _ _ _; exact ⟨⟨GX.rf, h.cn⟩, hF, fun ⟨j, jj, _⟩ => by omega⟩
  | succ n ih =>
    intro i e h z hF ht hr hk hb hag
    obtain ⟨r1, hs, i0, i1⟩ := hr (by omega)
    have hc := h.cn
    have hK := h.hnn
    have n7 := hc.1
    have hl := h.len r0 r1
    have hi := (h.2.1 r r0 r1).1.2
    unfold pCarL
    obtain ⟨⟨k8, k16⟩, kE⟩ := hk i (Int.le_refl _) (by omega)
    have hcm := hi.cma i0 (by omega) k8 k16
    have hw : Wz r i (i + (n + 1 : Nat)) r i := ⟨rfl, Int.le_refl _, by omega⟩
    have h1 := h.carry (W' := Wz r (i + 1) (i + 1 + n)) z hw (fun j g => g.2.1) hs (hF.tmo r0 r1) (fun q j => by unfold Wz; omega) (CmA.ok hcm) (fun g => by
      obtain ⟨q1, q2, q3⟩ := hag ⟨i, ⟨Int.le_refl _, by omega⟩, g⟩
      exact ⟨q1, ⟨q2.1, by omega⟩, q3⟩)
    have s1 : GC Z Z e (pCarry r i e) := gc_carry hc hK r0 r1 hs (hF.1 r r0 r1) i0 (by omega) hcm ht fun _ u hu => by
      obtain ⟨-, ⟨u0, u1, uk⟩, uw, -⟩ := h.2.2.2.1 9 r u 0 (Or.inr (Or.inr (Or.inl ⟨rfl, rfl, ⟨r0, r1⟩, hu⟩)))
      by_cases c : u < i
      · exact c
      · by_cases c2 : u < i + (n + 1 : Nat)
        · exact absurd ⟨rfl, by omega, c2⟩ uw
        · have := hb u (by omega) u1
          omega
    have hF1 := s1.1.2.1 hF
    by_cases cn : n = 0
    · subst cn
      refine ⟨s1, hF1, fun ⟨j, jj, jk⟩ => ?_⟩
      rw [show j = i by omega] at jk
      exact dead_carry hc hK r0 r1 hs (hF.1 r r0 r1) jk
    · have hne : ek (eH e r i) ≠ 14 ∧ ek (eH e r i) ≠ 15 ∧ ek (eH e r i) ≠ 16 := by
        refine ⟨fun g => ?_, fun g => ?_, fun g => ?_⟩
        · have := kE (Or.inl g); omega
        · have := kE (Or.inr (Or.inl g)); omega
        · have := kE (Or.inr (Or.inr g)); omega
      obtain ⟨⟨ar1, ar2, ar3⟩, -, -⟩ := s1.1.1.2.1 r r0 r1
      have hT : eT (pCarry r i e) = eT e := congrArg (fun z => z.1) s1.1.1.2.2.2.2.2.2.1
      have e14 : (pCarry r i e).1 4 14 = e.1 4 14 := s1.1.1.2.2.2.2.1 14 (by decide) (by decide)
      obtain ⟨u1, u2, u3⟩ := ih (i + 1) _ h1.1 h1.2 hF1 (by rw [e14]; exact ht) (fun _ => ⟨by have := s1.n7; omega, by rw [carry_6 hc r0 r1 hne r0 r1]; exact hs, by omega, by omega⟩) (fun j j0 j1 => by
        rw [ar2 j (by omega) (by omega)]
        have := hk j (by omega) (by omega)
        exact ⟨this.1, fun g => by have := this.2 g; omega⟩) (fun j j0 j1 => by
        by_cases c : j < hN e r
        · rw [ar2 j (by omega) c]
          exact hb j (by omega) c
        · exact Or.inl (ar3 j (by omega) j1)) (fun ⟨j, jj, jk⟩ => by
        rw [ar2 j (by omega) (by omega)] at jk
        obtain ⟨q1, q2, q3⟩ := hag ⟨j, by omega, jk⟩
        rw [hT]
        refine ⟨q1, ⟨q2.1, by omega⟩, ?_⟩
        rw [(cts_to (E := eH e r) (sg (eT e) 0 11).toNat fun i i0 i1 => ar2 i i0 (by omega)).1]
        exact q3)
      refine ⟨s1.tr u1 hK hc, u2, fun ⟨j, jj, jk⟩ => ?_⟩
      have hj : j ≠ i := fun hj => by rw [hj] at jk; omega
      exact u3 ⟨j, by omega, by rw [ar2 j (by omega) (by omega)]; exact jk⟩
/-- one command that is open: its work is made again -/
theorem gc_rs1 (h : HK S D T W noX e) (hF : FBi Z e) (hO : OI e) (ht : 0 ≤ e.1 4 14 ∧ e.1 4 14 < 1000000) (r0 : 0 ≤ r) (r1 : r < e.1 7 2) (hd : ¬ Dead e r) (i0 : 0 ≤ i) (i1 : i < hN e r) (hR : RLo r i e) : GC Z Z e (pRs1 r i e) := by
  have hc := h.cn
  have hK := h.hnn
  have n7 := hc.1
  have n8 := hc.2.1
  have hl := h.len r0 r1
  have hi := (h.2.1 r r0 r1).1.2
  unfold pRs1
  by_cases c : (ek (eH e r i) = 8 ∨ ek (eH e r i) = 9) ∧ ¬ ended (pX e r) i = true
  · rw [if_pos c]
    have hcm := hi.cma i0 i1 (by omega) (by omega) (by omega)
    by_cases c8 : ek (eH e r i) = 8
    · rw [if_pos c8]
      have := hcm.1 c8
      exact gc_makA hc hK r0 r1 hd i0 (by omega) this.1.1 (by omega) this.2.1 this.2.2 ht
    · rw [if_neg c8]
      have c9 : ek (eH e r i) = 9 := c.1.resolve_left c8
      have hx := hcm.2.1 c9
      have hw := (hO.2.2.2.2 r r0 r1 i i0 i1 c9).2
      have hw0 : 0 ≤ ew (eH e r i) := Int.natCast_nonneg _
      refine ⟨gx_addT hc r0 r1 hd i0 (by omega) (by split <;> omega) (by split <;> omega) fun u hu => ?_, hc.of fun a ha => addT_1 (by omega)⟩
      rcases hR 9 u 0 (Or.inr (Or.inr (Or.inl ⟨rfl, rfl, ⟨r0, r1⟩, hu⟩))) with g | g
      · omega
      · exact g
  · rw [if_neg c]
    exact ⟨GX.rf, hc⟩
theorem gc_rsL (hW : ∀ q j : Int, ¬ W q j) (r0 : 0 ≤ r) : ∀ (n : Nat) (i : Int) (e : ES), HK S D T W noX e → NZ e → FBi Z e → OI e → (0 ≤ e.1 4 14 ∧ e.1 4 14 < 1000000) → r < e.1 7 2 → ¬ Dead e r → 0 ≤ i → N ≤ hN e r → RLo r i e → GC Z Z e (pRsL r N n i e) ∧ FBi Z (pRsL r N n i e) ∧ OI (pRsL r N n i e) := by
  intro n
  induction n with
  | zero => intro i e h z hF hO _ _ _ _ _ _; exact ⟨⟨GX.rf, h.cn⟩, hF, hO⟩
  | succ n ih =>
    intro i e h z hF hO ht r1 hd i0 hN1 hR
    have hc := h.cn
    have hK := h.hnn
    have n7 := hc.1
    unfold pRsL
    by_cases c : i < N
    · rw [if_pos c]
      have s1 := gc_rs1 h hF hO ht r0 r1 hd i0 (by omega) hR
      obtain ⟨k1, k2, k3, k4⟩ := h.rs1 hW z r0 r1 i0 (by omega) hR
      have k5 := rs1_N (i := i) hc r0 r1 (h.len r0 r1).1
      have e14 : (pRs1 r i e).1 4 14 = e.1 4 14 := s1.1.1.2.2.2.2.1 14 (by decide) (by decide)
      obtain ⟨u1, u2, u3⟩ := ih (i + 1) _ k1 k2 (s1.1.2.1 hF) (s1.1.2.2 hO) (by rw [e14]; exact ht) (by have := k5.1; omega) (fun d => hd ((Dead.eq (k5.2.2.2.2.1 _ _ (by omega) (by omega))).mp d)) (by omega) (by have := k5.2.2.1; omega) k3
      exact ⟨s1.tr u1 hK hc, u2, u3⟩
    · rw [if_neg c]
      exact ⟨⟨GX.rf, hc⟩, hF, hO⟩
theorem gc_rest (h : HK S D T W noX e) (hW : ∀ q j : Int, ¬ W q j) (z : NZ e) (hF : FBi Z e) (hO : OI e) (ht : 0 ≤ e.1 4 14 ∧ e.1 4 14 < 1000000) (r0 : 0 ≤ r) (r1 : r < e.1 7 2) (hd : ¬ Dead e r) (hR : RLo r 0 e) : GC Z Z e (pRest r e) ∧ FBi Z (pRest r e) ∧ OI (pRest r e) :=
  gc_rsL hW r0 _ 0 e h z hF hO ht r1 hd (Int.le_refl _) (Int.le_refl _) hR
end GXD
