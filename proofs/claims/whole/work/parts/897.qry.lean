/-! TOLD FROM THE BEGINNING, between the calls: queries, updates, moves. -/
section QRY
variable {x x' : CX} {s s' t S' : TS} {B : Int} {e e' : ES} {S D T a b c d i j k q r v w N M p y o lim p1 p2 p3 z : Int} {n m : Nat} {W : Int → Int → Prop} {X : Int → Int → Int → Prop} {mm : MM}
/-- where a history has no end and nothing is new, a telling doesn't end -/
theorem fi_go (h4 : x.1 4 ≠ 1) (h3 : x.1 3 ≤ x.1 0) (hne : ∀ d : Int, 0 ≤ d → d < x.1 0 → ¬ (14 ≤ ek (x.2.1 d) ∧ ek (x.2.1 d) ≤ 16)) : FI x (fun s => sg s 0 9 = 0 ∧ (0 ≤ sg s 0 12 ∧ sg s 0 12 ≤ x.1 0)) (fun s => (sg s 0 9 = 0 ∨ sn s ≠ []) ∧ (0 ≤ sg s 0 12 ∧ sg s 0 12 ≤ x.1 0)) := by
  have hc : ∀ (s : TS) (k a b : Int), sg s 0 9 = 0 ∧ (0 ≤ sg s 0 12 ∧ sg s 0 12 ≤ x.1 0) → (sg (sCmd x k a b s).2 0 9 = 0 ∧ (0 ≤ sg (sCmd x k a b s).2 0 12 ∧ sg (sCmd x k a b s).2 0 12 ≤ x.1 0)) ∧ (14 ≤ k → k ≤ 16 → (sCmd x k a b s).1 < 0 ∨ sn (sCmd x k a b s).2 ≠ []) := by
    intro s k a b ⟨h9, h0, h1⟩
    have hb := nc_b (x := x) (a := sg s 0 12) h1
    have hs : sSeen x s ≤ x.1 0 := by unfold sSeen; split <;> omega
    have estk : ∀ v : Int, sg (sStuck (st s 0 12 (nc x (sg s 0 12))) v) 0 12 = nc x (sg s 0 12) := fun v => by
      unfold sStuck
      rw [st_g, if_neg (by omega), st_g, if_neg (by omega), st_g, if_pos ⟨rfl, rfl⟩]
    refine ⟨⟨by rw [cmd_g (by omega)]; exact h9, ?_⟩, fun k0 k1 => ?_⟩
    · unfold sCmd
      by_cases c1 : nc x (sg s 0 12) < sSeen x s
      · rw [if_pos c1]
        split
        · show 0 ≤ sg (st (st s 0 12 (nc x (sg s 0 12))) 0 12 (nc x (sg s 0 12) + 1)) 0 12 ∧ sg (st (st s 0 12 (nc x (sg s 0 12))) 0 12 (nc x (sg s 0 12) + 1)) 0 12 ≤ x.1 0
          rw [st_g, if_pos ⟨rfl, rfl⟩]
          omega
        · show 0 ≤ sg (sStuck (st s 0 12 (nc x (sg s 0 12))) (nc x (sg s 0 12))) 0 12 ∧ sg (sStuck (st s 0 12 (nc x (sg s 0 12))) (nc x (sg s 0 12))) 0 12 ≤ x.1 0
          rw [estk]
          omega
      · rw [if_neg c1]
        split
        · show 0 ≤ sg (sStuck (st s 0 12 (nc x (sg s 0 12))) (tb x (sg s 0 10))) 0 12 ∧ sg (sStuck (st s 0 12 (nc x (sg s 0 12))) (tb x (sg s 0 10))) 0 12 ≤ x.1 0
          rw [estk]
          omega
        · show 0 ≤ sg (stn (st s 0 12 (nc x (sg s 0 12))) (sn s ++ [(k, a, b)])) 0 12 ∧ sg (stn (st s 0 12 (nc x (sg s 0 12))) (sn s ++ [(k, a, b)])) 0 12 ≤ x.1 0
          have : sg (stn (st s 0 12 (nc x (sg s 0 12))) (sn s ++ [(k, a, b)])) 0 12 = nc x (sg s 0 12) := by
            show sg (st s 0 12 (nc x (sg s 0 12))) 0 12 = _
            rw [st_g, if_pos ⟨rfl, rfl⟩]
          omega
    · unfold sCmd
      by_cases c1 : nc x (sg s 0 12) < sSeen x s
      · rw [if_pos c1]
        by_cases c2 : x.1 4 = 1 ∨ eis (x.2.1 (nc x (sg s 0 12))) k a b = true
        · have he := c2.resolve_left h4
          exfalso
          have hek : ek (x.2.1 (nc x (sg s 0 12))) = k := by
            unfold eis at he
            simp at he
            omega
          exact hne (nc x (sg s 0 12)) (by omega) (by omega) (by omega)
        · rw [if_neg c2]
          exact Or.inl (show (-1 : Int) < 0 by decide)
      · rw [if_neg c1]
        split
        · exact Or.inl (show (-1 : Int) < 0 by decide)
        · refine Or.inr ?_
          show sn s ++ [(k, a, b)] ≠ []
          simp
  refine ⟨fun s s' _ h2 h3 h4 => ⟨fun h => by simp only [h3, h4]; exact h, fun h => by simp only [h2, h3, h4]; exact h⟩, fun s k a b k0 k1 h => (hc s k a b h).1, fun s h => ⟨Or.inl h.1, h.2⟩, fun s k a k0 k1 h => ?_, fun s hg h => ⟨(goes_s hg).2, h.2⟩⟩
  obtain ⟨g1, g2⟩ := hc s k a 0 h
  unfold sEndR
  show (sg (if (sCmd x k a 0 s).1 < 0 then (sCmd x k a 0 s).2 else st (sCmd x k a 0 s).2 0 9 k) 0 9 = 0 ∨ sn (if (sCmd x k a 0 s).1 < 0 then (sCmd x k a 0 s).2 else st (sCmd x k a 0 s).2 0 9 k) ≠ []) ∧ (0 ≤ sg (if (sCmd x k a 0 s).1 < 0 then (sCmd x k a 0 s).2 else st (sCmd x k a 0 s).2 0 9 k) 0 12 ∧ sg (if (sCmd x k a 0 s).1 < 0 then (sCmd x k a 0 s).2 else st (sCmd x k a 0 s).2 0 9 k) 0 12 ≤ x.1 0)
  by_cases cr : (sCmd x k a 0 s).1 < 0
  · rw [if_pos cr]
    exact ⟨Or.inl g1.1, g1.2⟩
  · rw [if_neg cr]
    refine ⟨Or.inr ((g2 k0 k1).resolve_left cr), ?_⟩
    rw [st_g, if_neg (by omega)]
    exact g1.2
theorem first_no : ∀ (n : Nat) (k : Int), sFirst s n k < 0 → 0 ≤ k → ∀ j : Int, k ≤ j → j < k + n → j < sg s 0 5 → sAble s j = false := by
  intro n
  induction n with
  | zero => intro k _ _ j j0 j1; omega
  | succ n ih =>
    intro k h k0 j j0 j1 j2
    unfold sFirst at h
    rw [if_pos (show k < sg s 0 5 by omega)] at h
    by_cases c : sAble s k = true
    · rw [if_pos c] at h; omega
    · rw [if_neg c] at h
      by_cases cj : j = k
      · rw [cj]
        simpa using c
      · exact ih (k + 1) h (by omega) j (by omega) (by omega) j2
theorem wfs_ex : ∀ (n : Nat) (k : Int), sWfs s z n k = true → ∃ j : Int, k ≤ j ∧ j < k + n ∧ j < sg s 0 5 ∧ sg s (2 + j) 7 = 3 ∧ sg s (2 + j) 8 = z := by
  intro n
  induction n with
  | zero => intro k h; exact absurd h (by unfold sWfs; decide)
  | succ n ih =>
    intro k h
    unfold sWfs at h
    by_cases c1 : k < sg s 0 5
    · rw [if_pos c1] at h
      by_cases c2 : sg s (2 + k) 7 = 3 ∧ sg s (2 + k) 8 = z
      · exact ⟨k, Int.le_refl _, by omega, c1, c2⟩
      · rw [if_neg c2] at h
        obtain ⟨j, j0, j1, j2⟩ := ih (k + 1) h
        exact ⟨j, by omega, by omega, j2⟩
    · rw [if_neg c1] at h
      exact absurd h (by decide)
/-- who waits for a signal at the end of a telling has none; nobody is doomed -/
theorem told_wt (hC : CXX x) (hx : HLn x) (h2 : x.1 2 ≤ x.1 1) (hne : ∀ d : Int, 0 ≤ d → d < x.1 0 → ¬ (14 ≤ ek (x.2.1 d) ∧ ek (x.2.1 d) ≤ 16)) (hl : lim ≤ x.1 1) (h30 : sg (told x lim) 0 30 = 0) : ND (told x lim) ∧ (sWfs (told x lim) z 13 0 = true → sq (told x lim) z = []) := by
  have H := fi_go (x := x) hC.2.2.1 hC.1.2.2 hne
  have hnil := nil_told hC hl
  obtain ⟨s', B', v, ⟨h1, h9⟩, hP, he⟩ := told_ind (P := fun s => LNx x s ∧ (sg s 0 9 = 0 ∨ sn s ≠ [])) hC (fun s B i hP hp hg _ i0 i1 i7 hi h3 => by
    refine ⟨ln_step hC hx hP hg i0 i1 i7 hi h3 hp.1, ?_⟩
    have h := (fi_taken H hC hP i0 i1 i7 (H.2.2.2.2 s hg ⟨hp.2, hP.1.1⟩)).1
    rw [take_d, (pass_n _ _ _).1, (pass_n _ _ _).2]
    have e9 : ∀ v : Int, sg (st (sTaken x i s) 0 10 v) 0 9 = sg (sTaken x i s) 0 9 := fun v => by rw [st_g, if_neg (by omega)]
    rw [e9]
    exact h) ⟨ln00 hC hx h2, Or.inl rfl⟩ h30
  have en : sn (told x lim) = sn s' := by rw [he]; rfl
  rw [en] at hnil
  have g9 : sg s' 0 9 = 0 := h9.resolve_right (fun g => g hnil)
  have g30 : sg s' 0 30 = 0 := by rw [he, st_g, if_neg (by omega)] at h30; exact h30
  have hg : goes s' = true := by unfold goes; simp [g9, g30]
  have hf : first s' < 0 := h1.1.2.resolve_right (fun g => g hg)
  have e5 : ∀ a j : Int, a ≠ 0 ∨ j ≠ 28 → sg (told x lim) a j = sg s' a j := fun a j h => by rw [he, st_g, if_neg (by omega)]
  have eq : ∀ n, sq (told x lim) n = sq s' n := fun n => by rw [he]; rfl
  refine ⟨fun k k0 k1 => ?_, fun hw => ?_⟩
  · rw [e5 0 5 (by omega)] at k1
    rw [e5 _ _ (by omega)]
    exact hP.2.1.2 k k0 k1
  · obtain ⟨j, j0, j1, j2, j3, j4⟩ := wfs_ex 13 0 hw
    rw [e5 0 5 (by omega)] at j2
    rw [e5 _ _ (by omega)] at j3 j4
    have h12 : sg s' 0 5 ≤ 12 := hP.1.2.2.2.2.2.2.2.1.2
    have hn := first_no (s := s') 12 0 hf (Int.le_refl _) j j0 (by omega) j2
    unfold sAble at hn
    rw [if_neg (by omega), if_pos j3, j4] at hn
    rw [eq]
    simpa using hn
/-- a telling that is stuck stays so, whatever the fuel -/
theorem fol_stk : ∀ (n : Nat) (i : Int) (s : TS), sg (sFollow x lim n i s) 0 30 ≠ 0 → sFollow x lim (n + 1) i s = sFollow x lim n i s := by
  intro n
  induction n with
  | zero =>
    intro i s h
    have h' : sg s 0 30 ≠ 0 := h
    unfold sFollow
    split
    · rw [if_neg (fun g => h' (goes_s g).1)]
    · rfl
  | succ n ih =>
    intro i s h
    have e1 : ∀ N : Nat, sFollow x lim (N + 1) i s = if i < lim then (if goes s then (if na x (sg s 0 11) < x.1 0 then sFollow x lim N (i + 1) (sTake x (na x (sg s 0 11)) s) else st s 0 28 (na x (sg s 0 11))) else s) else s := fun _ => rfl
    rw [e1] at h ⊢
    rw [e1]
    by_cases c1 : i < lim
    · rw [if_pos c1] at h ⊢
      rw [if_pos c1]
      by_cases c2 : goes s = true
      · rw [if_pos c2] at h ⊢
        rw [if_pos c2]
        by_cases c3 : na x (sg s 0 11) < x.1 0
        · rw [if_pos c3] at h ⊢
          rw [if_pos c3]
          exact ih _ _ h
        · rw [if_neg c3, if_neg c3]
      · rw [if_neg c2, if_neg c2]
    · rw [if_neg c1, if_neg c1]
/-- where there is fuel enough, more changes nothing -/
theorem fol_ful : ∀ (n : Nat) (i : Int) (s : TS), lim ≤ i + n → sFollow x lim (n + 1) i s = sFollow x lim n i s := by
  intro n
  induction n with
  | zero =>
    intro i s h
    unfold sFollow
    rw [if_neg (by omega)]
  | succ n ih =>
    intro i s h
    have e1 : ∀ N : Nat, sFollow x lim (N + 1) i s = if i < lim then (if goes s then (if na x (sg s 0 11) < x.1 0 then sFollow x lim N (i + 1) (sTake x (na x (sg s 0 11)) s) else st s 0 28 (na x (sg s 0 11))) else s) else s := fun _ => rfl
    rw [e1, e1, ih _ _ (by omega)]
theorem fol_30 (h30 : sg (told x lim) 0 30 = 0) (n : Nat) : sg (sFollow x lim n 0 s00) 0 30 = 0 := by
  by_cases c : sg (sFollow x lim n 0 s00) 0 30 = 0
  · exact c
  · exfalso
    have key : ∀ d : Nat, sFollow x lim (n + d) 0 s00 = sFollow x lim n 0 s00 := by
      intro d
      induction d with
      | zero => rfl
      | succ d ih =>
        have := fol_stk (n + d) 0 s00 (by rw [ih]; exact c)
        exact this.trans ih
    have key2 : ∀ d : Nat, sFollow x lim (lim.toNat + 1 + d) 0 s00 = told x lim := by
      intro d
      induction d with
      | zero => rfl
      | succ d ih => exact (fol_ful (lim.toNat + 1 + d) 0 s00 (by omega)).trans ih
    have e1 := key (lim.toNat + 1)
    have e2 := key2 n
    rw [show lim.toNat + 1 + n = n + (lim.toNat + 1) by omega, e1] at e2
    rw [e2] at c
    exact c h30
/-- what queries ask of a telling from the beginning -/
theorem fok_0 (h : HK S D T W X e) (r0 : 0 ≤ r) (r1 : r < e.1 7 2) (hw : WCod (eL e (1000 * (48 + 4 * e.1 (7000 + r) 1) + v))) : FOK e r v 0 0 0 (hC e r) ∧ TlP e r v := by
  have hl := h.len r0 r1
  have hX := cxx_run (w := 0) (c2 := 0) (c3 := 0) h r0 r1 hw (by decide) hl.1
  have hI := (h.2.1 r r0 r1).1.2
  have hct := (h.2.1 r r0 r1).2
  have hb := h.1.2.1
  have hcc := hI.cc (hN e r).toNat (by omega)
  have hcA := hct_cA hI hct hl.1
  have eC : cC (eH e r) (hN e r).toNat = hC e r := rfl
  have nil : sn (told (pCX e r v 0 0 0) (hC e r)) = [] := nil_told hX (Int.le_refl _)
  have enl : nl (told (pCX e r v 0 0 0) (hC e r)) = 0 := by unfold nl; rw [nil]; rfl
  have h2 : (pCX e r v 0 0 0).1 2 ≤ (pCX e r v 0 0 0).1 1 := by show (0 : Int) ≤ hC e r; omega
  have hIx : HInv (pCX e r v 0 0 0).2.1 ((pCX e r v 0 0 0).1 0) := hI
  have hlc := lcm_b (E := eH e r) (N := hN e r)
  have hb0 := hb.1
  have lim : hC e r ≤ 260000 := by omega
  exact ⟨⟨hX.1, ⟨by omega, lim⟩, by rw [enl]; omega, fun j => by have h40 := fol_40 (lim := hC e r) hX hIx h2 hct hb0 j; have h41 := fol_41 (lim := hC e r) hX hIx h2 hct hb0 j; omega⟩, hX, ⟨by omega, lim⟩, told_b (lim := hC e r) (S := S) (D := D) (T := T) hX hIx h2 hct.1 hct.2.1 (show nbc (eH e r) (hN e r).toNat ≤ T by have := hct.2.2.1; omega) hb0⟩
end QRY
