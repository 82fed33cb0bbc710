/-! THE TELLING, plain: what a complete finds of it. -/
section TLC
variable {x x' : CX} {s s' s1 s2 S t : TS} {B : Int} {a b c d e i j v k h l w p r o q u lim lim' c0 n0 : Int} {E : Int → Ev} {n m : Nat} {Q QB : TS → Prop} {F : List (Int × Int × Int)}
/-- how many arrivals are counted, what is in the queues -/
theorem told_sig (hC : CXX x) (hx : HLn x) (h2 : x.1 2 ≤ x.1 1) (h30 : sg (told x lim) 0 30 = 0) : (sg (told x lim) 0 10 = cA x.2.1 (sg (told x lim) 0 11).toNat ∧ 0 ≤ sg (told x lim) 0 11 ∧ sg (told x lim) 0 11 ≤ x.1 0) ∧ Qn (told x lim) ≤ csg x.2.1 (sg (told x lim) 0 11).toNat ∧ ∀ n : Int, 0 ≤ n → n < 4 → ∀ v ∈ sq (told x lim) n, 0 ≤ v ∧ v ≤ 999 := by
  have hn := hC.2.2.2.2
  obtain ⟨s', B', v, ⟨h1, hc⟩, h3, h4⟩ := told_ind (P := fun s => LNx x s ∧ 0 ≤ cns s) (lim := lim) hC (fun s B i hP hp hg _ i0 i1 i7 hi h3 => ⟨ln_step hC hx hP hg i0 i1 i7 hi h3 hp.1, Int.le_trans hp.2 (cns_take hC hP hp.1.1.1 hg i0 i1 i7 h3)⟩) ⟨ln00 hC hx h2, by unfold cns Qn; decide⟩ h30
  have e10 : sg (told x lim) 0 10 = sg s' 0 10 := by rw [h4, st_g, if_neg (by omega)]
  have e11 : sg (told x lim) 0 11 = sg s' 0 11 := by rw [h4, st_g, if_neg (by omega)]
  have eq : ∀ n, sq (told x lim) n = sq s' n := fun n => by rw [h4]; rfl
  have hb := h3.2.2.2.2.1
  have hq : Qn (told x lim) = Qn s' := by unfold Qn; rw [eq, eq, eq, eq]
  obtain ⟨-, -, -, p5, p6, -⟩ := h1
  rw [e10, e11, hq]
  refine ⟨⟨p5.2.2, hb.1, hb.2⟩, by unfold cns at hc; omega, fun n n0 n1 u hu => ?_⟩
  rw [eq] at hu
  exact h3.1.2.2.2.2.1 n n0 n1 u hu
/-- a telling that goes on has told all it was to tell, or all there is -/
theorem fol_out (hC : CXX x) : ∀ (n : Nat) (i : Int) (s : TS) (B : Int), BP x s B → sg s 0 10 = i → i ≤ lim → lim - i < n → goes (sFollow x lim n i s) = true → sg (sFollow x lim n i s) 0 10 = lim ∨ x.1 0 ≤ na x (sg (sFollow x lim n i s) 0 11) := by
  intro n
  induction n with
  | zero => intro i s B _ _ h1 h2 _; omega
  | succ n ih =>
    intro i s B hP h10 h1 h2 hg
    unfold sFollow at hg ⊢
    by_cases c1 : i < lim
    · rw [if_pos c1] at hg ⊢
      by_cases c2 : goes s = true
      · rw [if_pos c2] at hg ⊢
        by_cases c3 : na x (sg s 0 11) < x.1 0
        · rw [if_pos c3] at hg ⊢
          obtain ⟨z1, z2⟩ := na_ok c3
          obtain ⟨g1, g2, -⟩ := BP.take hC hP z1 c3 z2
          exact ih (i + 1) _ _ g1 (by omega) (by omega) (by omega) hg
        · rw [if_neg c3]
          refine Or.inr ?_
          rw [st_g, if_neg (by omega)]
          omega
      · rw [if_neg c2] at hg
        exact absurd hg c2
    · rw [if_neg c1]
      exact Or.inl (by omega)
theorem na_cA (h : x.1 0 ≤ na x i) (i0 : 0 ≤ i) (i1 : i ≤ x.1 0) : cA x.2.1 (x.1 0).toNat = cA x.2.1 i.toNat := by
  have := cA_skip (E := x.2.1) ((x.1 0).toNat - i.toNat) i.toNat fun j j0 j1 => na_gap (x := x) (i := i) (by omega) (by omega)
  rw [show i.toNat + ((x.1 0).toNat - i.toNat) = (x.1 0).toNat by omega] at this
  exact this
theorem told_10 (hC : CXX x) (hx : HLn x) (h2 : x.1 2 ≤ x.1 1) (l0 : 0 ≤ lim) (l1 : lim ≤ cA x.2.1 (x.1 0).toNat) (hg : goes (told x lim) = true) : sg (told x lim) 0 10 = lim := by
  have hn := hC.2.2.2.2
  obtain ⟨⟨a1, a2, a3⟩, -⟩ := told_sig (lim := lim) hC hx h2 (goes_p hg).1
  rcases fol_out hC (lim.toNat + 1) 0 s00 1 (bp00 hn.1) rfl l0 (by omega) hg with g | g
  · exact g
  · have h1 := na_cA g a2 a3
    have e : sFollow x lim (lim.toNat + 1) 0 s00 = told x lim := rfl
    rw [e] at h1
    have key : sg (told x lim) 0 10 ≤ lim := by
      have : ∀ (n : Nat) (i : Int) (s : TS) (B : Int), BP x s B → sg s 0 10 = i → i ≤ lim → sg (sFollow x lim n i s) 0 10 ≤ lim := by
        intro n
        induction n with
        | zero => intro i s B _ h10 hi; show sg s 0 10 ≤ lim; omega
        | succ n ih =>
          intro i s B hP h10 hi
          unfold sFollow
          split
          · split
            · split
              · rename_i c1 _ c3
                obtain ⟨z1, z2⟩ := na_ok c3
                obtain ⟨g1, g2, -⟩ := BP.take hC hP z1 c3 z2
                exact ih (i + 1) _ _ g1 (by omega) (by omega)
              · rw [st_g, if_neg (by omega)]
                omega
            · omega
          · omega
      exact this _ 0 s00 1 (bp00 hn.1) rfl l0
    omega
/-- a step's bound, whatever comes of it -/
theorem fol_bp (hC : CXX x) : ∀ (n : Nat) (i : Int) (s : TS) (B : Int), BP x s B → sg s 0 10 = i → i ≤ lim → SW x (sFollow x lim n i s) (B + 1001 * (lim - i)) ∧ BtW x (sFollow x lim n i s) := by
  intro n
  induction n with
  | zero => intro i s B hP _ hi; exact ⟨hP.1.mono (by omega), hP.2.2.2.2⟩
  | succ n ih =>
    intro i s B hP h10 hi
    unfold sFollow
    split
    · split
      · split
        · rename_i c1 _ c3
          obtain ⟨z1, z2⟩ := na_ok c3
          obtain ⟨g1, g2, -⟩ := BP.take hC hP z1 c3 z2
          obtain ⟨u1, u2⟩ := ih (i + 1) _ _ g1 (by omega) (by omega)
          exact ⟨u1.mono (by omega), u2⟩
        · refine ⟨(hP.1.s0 (by decide) (by decide) (by decide) (by decide) (by decide) (Or.inl (by decide))).mono (by omega), ?_⟩
          obtain ⟨b1, b2, b3, b4, b5⟩ := hP.2.2.2.2
          unfold BtW
          rw [st_g, if_neg (by omega), st_g, if_neg (by omega), st_g, if_neg (by omega), st_g, if_neg (by omega)]
          exact ⟨b1, b2, b3, b4, b5⟩
      · exact ⟨hP.1.mono (by omega), hP.2.2.2.2⟩
    · exact ⟨hP.1.mono (by omega), hP.2.2.2.2⟩
/-- as far as the fuel reaches it is told as if no more were to be told -/
theorem fol_lim : ∀ (n : Nat) (i : Int) (s : TS), i + n ≤ lim → sFollow x lim n i s = sFollow x (i + n) (n + 1) i s := by
  intro n
  induction n with
  | zero =>
    intro i s h
    show s = sFollow x (i + ((0 : Nat) : Int)) 1 i s
    unfold sFollow
    rw [if_neg (by omega)]
  | succ n ih =>
    intro i s h
    have hr : sFollow x (i + ((n + 1 : Nat) : Int)) (n + 1 + 1) i s = if i < i + ((n + 1 : Nat) : Int) then (if goes s then (if na x (sg s 0 11) < x.1 0 then sFollow x (i + ((n + 1 : Nat) : Int)) (n + 1) (i + 1) (sTake x (na x (sg s 0 11)) s) else st s 0 28 (na x (sg s 0 11))) else s) else s := rfl
    have hl : sFollow x lim (n + 1) i s = if i < lim then (if goes s then (if na x (sg s 0 11) < x.1 0 then sFollow x lim n (i + 1) (sTake x (na x (sg s 0 11)) s) else st s 0 28 (na x (sg s 0 11))) else s) else s := rfl
    rw [hr, hl, if_pos (show i < lim by omega), if_pos (show i < i + ((n + 1 : Nat) : Int) by omega), ih (i + 1) _ (by omega), show i + 1 + (n : Int) = i + ((n + 1 : Nat) : Int) by omega]
/-- all commands met stay so -/
theorem fol_far (hk : ∀ j : Int, 0 ≤ j → j < x.1 0 → ek (x.2.1 j) ≤ 17) (hC : CXX x) : ∀ (n : Nat) (i : Int) (s : TS) (B : Int), BP x s B → x.1 0 ≤ nc x (sg s 0 12) → x.1 0 ≤ nc x (sg (sFollow x lim n i s) 0 12) := by
  intro n
  induction n with
  | zero => intro i s B _ h; exact h
  | succ n ih =>
    intro i s B hP h
    unfold sFollow
    split
    · split
      · split
        · rename_i c3
          obtain ⟨z1, z2⟩ := na_ok c3
          refine ih (i + 1) _ _ (BP.take hC hP z1 c3 z2).1 ?_
          rw [take_12.1]
          exact far_taken hk hC hP z1 c3 z2 h
        · rw [st_g, if_neg (by omega)]
          exact h
      · exact h
    · exact h
/-- the telling of what has grown: it comes by what was kept, with nothing new, all met -/
theorem grow_at (h : GRW x x' F lim c0 n0) (hC : CXX x) (hC' : CXX x') (hG : GBX x c0 n0 Q QB) (hF : FNS x (told x lim) F lim) (hT : ∀ j : Int, 0 ≤ j → j < x.1 0 → ek (x.2.1 j) = 17 → ex (x.2.1 j) ≤ lim) (l0 : 0 < lim) (hlim : lim ≤ lim') : ∃ (p : Int) (m : Nat) (B : Int), told x' lim' = sFollow x' lim' m lim (ax p (x'.1 0) [] (told x lim)) ∧ lim' - lim < m ∧ nc x' p = x'.1 0 ∧ BP x' (ax p (x'.1 0) [] (told x lim)) B := by
  have hA := (grow_gb h hC hC' hG hF hT l0 rfl).2.2.2
  have hA0 : QBA x x' F QB lim (told x lim) s00 := by
    rcases hA with g | g
    · exact g
    · have : lim ≤ 0 := g.1
      omega
  exact grow_follow h hC hC' hG hF hT hlim lim.toNat s00 1 hA0 (bp00 hC'.2.2.2.2.1) (by show lim - 0 = _; omega) (lim'.toNat + 1) (by show lim' - 0 < _; omega)
end TLC
