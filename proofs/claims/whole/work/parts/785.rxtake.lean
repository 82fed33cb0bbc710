/-! THE REFERENCE'S CALLS: takeOver. -/
section RXUA
variable {m m' M m1 m2 : MM} {e e' e2 : ES} {a b c i j k o r v w p t s x y n q A B N u z fr y1 y2 : Int} {l L : List Int} {E : Int → Ev}
theorem lose_n (r0 : 0 ≤ r) (r1 : r < 1000) (h7 : e.1 7 2 ≤ 1000) : nLs e ≤ nLs (pLose r e) := by
  have q7 : (pLose r e).1 7 2 = (pLoA r e).1 7 2 := by
    unfold pLose
    rw [end_a (by omega), par_a (by omega), loB_a (by omega) (by omega)]
  have nA : nLs (pLoA r e) = nLs (pLose r e) := by
    have a7 : (pLoA r e).1 7 2 = e.1 7 2 := (loL_f (N := hN e r) r0 r1 ((hN e r - e.1 (7000 + r) 8).toNat + 1) (e.1 (7000 + r) 8) e).2.1 _ _ (by decide)
    unfold nLs
    rw [q7]
    refine congrArg List.length (pLst_eq fun k k0 k1 => ?_).symm
    unfold pLose
    rw [end_l2 (by omega) (by omega)]
    have p2 : (pPar r (e.1 (7000 + r) 8) (pLoB r (pLoA r e))).2 = (pLoB r (pLoA r e)).2 := (parL_a (r := r) (fr := e.1 (7000 + r) 8) 31 0 _ (by decide)).1
    unfold eL
    rw [p2]
    unfold pLoB
    split <;> rfl
  rw [← nA]
  exact loL_n r0 _ _ _
theorem loL_3 : ∀ (n : Nat) (j : Int) (e : ES), (pLoL i N n j e).1 3 0 = e.1 3 0 := by
  intro n
  induction n with
  | zero => intro j e; rfl
  | succ n ih =>
    intro j e
    unfold pLoL
    split
    · rw [ih]
      unfold pLo1
      split
      · exact eS_j (i := 0) (by decide)
      · rfl
    · rfl
theorem lose_3 (r0 : 0 ≤ r) : (pLose r e).1 3 0 = e.1 3 0 := by
  unfold pLose
  rw [end_a (by omega), par_a (by omega), loB_a (by omega) (by omega)]
  exact loL_3 _ _ _
theorem lose_h (r0 : 0 ≤ r) (r1 : r < 1000) : (pLose r e).2.1 = e.2.1 := by
  have h1 : (pLose r e).2.1 = (pPar r (e.1 (7000 + r) 8) (pLoB r (pLoA r e))).2.1 := by
    unfold pLose pEnd
    show (pEndA r 61 0 _).2.1 = _
    rw [(endA_a (r := r) 61 0 _ (by decide)).1]
  rw [h1]
  have p2 : (pPar r (e.1 (7000 + r) 8) (pLoB r (pLoA r e))).2 = (pLoB r (pLoA r e)).2 := (parL_a (r := r) (fr := e.1 (7000 + r) 8) 31 0 _ (by decide)).1
  rw [p2]
  have : (pLoB r (pLoA r e)).2 = (pLoA r e).2 := by
    unfold pLoB
    split <;> rfl
  rw [this]
  exact (loL_f (N := hN e r) r0 r1 ((hN e r - e.1 (7000 + r) 8).toNat + 1) (e.1 (7000 + r) 8) e).2.2.1.1
theorem lose_N (hc : CN e) (r0 : 0 ≤ r) (r1 : r < e.1 7 2) (h8 : 0 ≤ e.1 (7000 + r) 8 ∧ e.1 (7000 + r) 8 ≤ hN e r) : hN (pLose r e) r = e.1 (7000 + r) 8 := by
  have ga : ∀ a u : Int, a ≠ 3 → (pLoA r e).1 a u = e.1 a u := (loL_f (N := hN e r) r0 (show r < 1000 by have := hc.1; omega) ((hN e r - e.1 (7000 + r) 8).toNat + 1) (e.1 (7000 + r) 8) e).2.1
  have n7 := hc.1
  have n8 := hc.2.1
  unfold pLose hN
  rw [end_a (by omega), par_a (by right; left; rw [loB_a (by omega) (by omega), ga _ _ (by omega)]; omega)]
  unfold pLoB
  rw [show hN (pLoA r e) r = hN e r from ga _ _ (by omega), ga _ _ (by omega)]
  by_cases c : 0 < hN e r - e.1 (7000 + r) 8
  · rw [if_pos c, eS_a (by omega)]
    exact eS_e
  · rw [if_neg c, ga _ _ (by omega)]
    show hN e r = _
    omega
theorem lose_cn (hc : CN e) (r0 : 0 ≤ r) (r1 : r < e.1 7 2) : CN (pLose r e) := by
  obtain ⟨f1, ⟨f2, -⟩, -⟩ := lose_f (e := e) r0 r1 hc.1.2 hc.2.1.2
  refine hc.of fun a ha => ?_
  by_cases c : a = 8
  · rw [c]; exact f2 2
  · exact f1 _ _ (by omega) (by omega) (by have := hc.1; omega) (by omega) (by omega)
theorem lose_rl (hc : CN e) (r0 : 0 ≤ r) (r1 : r < e.1 7 2) (h8 : 0 ≤ e.1 (7000 + r) 8 ∧ e.1 (7000 + r) 8 ≤ hN e r) (hl : RLw e) : RLw (pLose r e) := by
  have n7 := hc.1
  obtain ⟨f1, ⟨f2, -⟩, -⟩ := lose_f (e := e) r0 r1 hc.1.2 hc.2.1.2
  obtain ⟨q1, q2, q3, q4⟩ := hl
  unfold RLw
  rw [f1 4 14 (by omega) (by omega) (by omega) (by omega) (by omega), lose_3 r0, f1 68 29 (by omega) (by omega) (by omega) (by omega) (by omega), f1 4 16 (by omega) (by omega) (by omega) (by omega) (by omega), f1 7 2 (by omega) (by omega) (by omega) (by omega) (by omega)]
  refine ⟨q1, q2, q3, fun i i0 i1 => ?_⟩
  by_cases c : i = r
  · rw [c, lose_N hc r0 r1 h8]
    exact h8.1
  · rw [show hN (pLose r e) i = hN e i from f1 _ _ (by omega) (by omega) (by omega) (by omega) (by omega)]
    exact q4 i i0 i1
/-- what a taking over has to find of the runs from i on -/
def LzR (i : Int) (e : ES) : Prop := ∀ j : Int, i ≤ j → j < e.1 7 2 → eL e (75000 + j) = [] ∧ (e.1 (7000 + j) 6 = 0 → (0 ≤ e.1 (7000 + j) 8 ∧ e.1 (7000 + j) 8 ≤ hN e j) ∧ hN e j < 524288 ∧ (0 ≤ e.1 (7000 + j) 9 ∧ e.1 (7000 + j) 9 < 1000000) ∧ TkM (eH e j) (hN e j))
theorem LzR.next (h : LzR i e) (hc : CN e) (i0 : 0 ≤ i) (i1 : i < e.1 7 2) : LzR (i + 1) (pLose i e) := fun j j0 j1 => by
  have n7 := hc.1
  obtain ⟨f1, ⟨f2, f3⟩, -⟩ := lose_f (e := e) i0 i1 hc.1.2 hc.2.1.2
  rw [f1 7 2 (by omega) (by omega) (by omega) (by omega) (by omega)] at j1
  have hh : eH (pLose i e) j = eH e j := congrFun (lose_h i0 (by omega)) j
  unfold hN
  rw [hh, f3 _ (by omega) (by omega) (by omega), f1 (7000 + j) 8 (by omega) (by omega) (by omega) (by omega) (by omega), f1 (7000 + j) 9 (by omega) (by omega) (by omega) (by omega) (by omega), f1 (71000 + j) 1 (by omega) (by omega) (by omega) (by omega) (by omega), f1 (7000 + j) 6 (by omega) (by omega) (by omega) (by omega) (by omega)]
  exact h j (by omega) j1
theorem tk1_n : ∀ (n : Nat) (a i : Int) (e : ES), CN e → 0 ≤ i → nLs e ≤ nLs (pTk1 n a i e).2 := by
  intro n
  induction n with
  | zero => intro a i e _ _; exact Nat.le_refl _
  | succ n ih =>
    intro a i e hc i0
    have n7 := hc.1
    unfold pTk1
    split
    · rename_i c
      split
      · exact Nat.le_trans (lose_n i0 (by omega) (by omega)) (ih _ _ _ (lose_cn hc i0 c) (by omega))
      · exact ih _ _ _ hc (by omega)
    · exact Nat.le_refl _
theorem tk1r {K : Int → MM → Option (Int × MM)} : ∀ (n f : Nat) (a i : Int) (m : MM) (e : ES), RXE m e → CN e → RLw e → LzR i e → nLs (pTk1 n a i e).2 ≤ 4096 → 0 ≤ i → i ≤ e.1 7 2 → 0 ≤ a → a ≤ 524288 * i → e.1 7 2 < i + n → 0 < n → n ≤ f → ∃ m', fl_X12_takeOver_30 K f a i m = K (pTk1 n a i e).1 m' ∧ RXE m' (pTk1 n a i e).2 ∧ S84 m m' ∧ CN (pTk1 n a i e).2 ∧ RLw (pTk1 n a i e).2 := by
  intro n
  induction n with
  | zero => intro f a i m e h hc hl hz hL i0 i9 a0 a1 h1 h2; omega
  | succ n ih =>
    intro f a i m e h hc hl hz hL i0 i9 a0 a1 h1 h2 h3
    obtain ⟨f, rfl⟩ : ∃ g, f = g + 1 := ⟨f - 1, by omega⟩
    have n7 := hc.1
    have e12 : m 68 12 = e.1 7 2 := h.ps.2.1
    unfold pTk1 at hL ⊢
    unfold fl_X12_takeOver_30
    rw [lx_p, e12]
    by_cases c : i < e.1 7 2
    · have k83 : m 83 i = e.1 (7000 + i) 6 := (h.pr.1 i i0 c).1.2.2.2.1
      rw [if_pos c] at hL ⊢
      rw [if_pos c, gd_t (by omega), lx_p, k83]
      by_cases c6 : e.1 (7000 + i) 6 = 0
      · rw [if_pos c6] at hL ⊢
        rw [if_pos c6]
        obtain ⟨z1, z2⟩ := hz i (Int.le_refl _) c
        obtain ⟨b8, bN, b9, bT⟩ := z2 c6
        have nd : ¬ Dead e i := fun hh => hh.1 c6
        have e7 : (pLose i e).1 7 2 = e.1 7 2 := (lose_f (e := e) i0 c n7.2 hc.2.1.2).1 7 2 (by omega) (by omega) (by omega) (by omega) (by omega)
        have mn := tk1_n n (a + (hN e i - e.1 (7000 + i) 8)) (i + 1) (pLose i e) (lose_cn hc i0 c) (by omega)
        obtain ⟨m1, g1, g2, g3⟩ := rLose h hc i0 c nd b8 bN b9 (fun j j0 j1 => (hz j (by omega) j1).1) (Nat.le_trans mn hL) bT
        obtain ⟨m2, w1, w2, w3, w4⟩ := ih f (a + (hN e i - e.1 (7000 + i) 8)) (i + 1) m1 (pLose i e) g2 (lose_cn hc i0 c) (lose_rl hc i0 c b8 hl) (hz.next hc i0 c) hL (by omega) (by omega) (by omega) (by omega) (by omega) (by omega) (by omega)
        refine ⟨m2, ?_, w2, fun q hq => (w3 q hq).trans (g3 q hq), w4⟩
        rw [bd_t g1, lx_p, w32_id (z := a + (hN e i - e.1 (7000 + i) 8)) (by omega) (by omega), lx_p, w32_id (z := i + 1) (by omega) (by omega)]
        exact w1
      · rw [if_neg c6] at hL ⊢
        rw [if_neg c6, lx_p, w32_id (z := a + 0) (by omega) (by omega), lx_p, w32_id (z := i + 1) (by omega) (by omega), show a + 0 = a by omega]
        exact ih f a (i + 1) m e h hc hl (fun j j0 j1 => hz j (by omega) j1) hL (by omega) (by omega) a0 (by omega) (by omega) (by omega) (by omega)
    · rw [if_neg c] at hL ⊢
      rw [if_neg c]
      exact ⟨m, rfl, h, fun _ _ => rfl, hc, hl⟩
/-- what the second turn has to find -/
def TkQ : Nat → Int → ES → Prop
  | 0, _, _ => True
  | n + 1, i, e => i < e.1 7 2 → (e.1 (7000 + i) 6 = 0 → (e.1 (7000 + i) 8 = 0 ↔ hN e i = 0)) ∧ TkQ n (i + 1) (if e.1 (7000 + i) 6 = 0 ∧ e.1 (7000 + i) 8 = 0 then pClose 41 i 5 0 0 e else e)
theorem cs_tk2 : ∀ (n : Nat) (i : Int) (e : ES), CN e → 0 ≤ i → CS e (pTk2 n i e) := by
  intro n
  induction n with
  | zero => intro i e hc _; exact CS.rf hc
  | succ n ih =>
    intro i e hc i0
    unfold pTk2
    split
    · rename_i c
      split
      · rename_i c2
        have k := cs_close 41 i 5 0 0 e i0 c hc c2.1
        exact k.tr (ih _ _ k.1.2 (by omega))
      · exact ih _ _ hc (by omega)
    · exact CS.rf hc
theorem tk2r {K : MM → Option (Int × MM)} : ∀ (n f : Nat) (i : Int) (m : MM) (e : ES), RXE m e → CN e → RLw e → TyO e → PaR e → TkQ n i e → RFw (pTk2 n i e) → 0 ≤ i → e.1 7 2 < i + n → 0 < n → n ≤ f → ∃ m', fl_X12_takeOver_67 y1 K f i m = K m' ∧ RXE m' (pTk2 n i e) ∧ S84 m m' := by
  intro n
  induction n with
  | zero => intro f i m e h hc hl hT hP hQ hf i0 h1 h2; omega
  | succ n ih =>
    intro f i m e h hc hl hT hP hQ hf i0 h1 h2 h3
    obtain ⟨f, rfl⟩ : ∃ g, f = g + 1 := ⟨f - 1, by omega⟩
    have n7 := hc.1
    have e12 : m 68 12 = e.1 7 2 := h.ps.2.1
    unfold pTk2 at hf ⊢
    unfold fl_X12_takeOver_67
    rw [lx_p, e12]
    by_cases c : i < e.1 7 2
    · obtain ⟨Q1, Q2⟩ := hQ c
      have kr := (h.pr.1 i i0 c)
      have k83 : m 83 i = e.1 (7000 + i) 6 := kr.1.2.2.2.1
      have k86 : m 86 i = hN e i := kr.2.1.1
      rw [if_pos c] at hf ⊢
      rw [if_pos c, gd_t (by omega), lx_p, k83]
      by_cases c6 : e.1 (7000 + i) 6 = 0
      · rw [if_pos c6, lx_p, k86]
        by_cases c8 : e.1 (7000 + i) 8 = 0
        · rw [if_pos (show e.1 (7000 + i) 6 = 0 ∧ e.1 (7000 + i) 8 = 0 from ⟨c6, c8⟩)] at hf Q2 ⊢
          have k := cs_close 41 i 5 0 0 e i0 c hc c6
          have k2 := cs_tk2 n (i + 1) (pClose 41 i 5 0 0 e) k.1.2 (by omega)
          obtain ⟨m1, g1, g2, g3⟩ := h.close (st := 5) (res := 0) hc hl hT hP i0 c c6 (by decide) (by decide) (hf.bk k2.1.1)
          obtain ⟨m2, w1, w2, w3⟩ := ih f (i + 1) m1 _ g2 k.1.2 (k.1.1.2.2 hl) (k.ty hT) (k.pr hP) Q2 hf (by omega) (by rw [k.2.1.1]; omega) (by omega) (by omega)
          refine ⟨m2, ?_, w2, fun q hq => (w3 q hq).trans (g3.2 q hq)⟩
          rw [if_pos ((Q1 c6).mp c8), up_t, bd_t g1, lx_p, w32_id (z := i + 1) (by omega) (by omega)]
          exact w1
        · rw [if_neg (show ¬ (e.1 (7000 + i) 6 = 0 ∧ e.1 (7000 + i) 8 = 0) from fun hh => c8 hh.2)] at hf Q2 ⊢
          rw [if_neg (fun hh => c8 ((Q1 c6).mpr hh)), lx_p, w32_id (z := i + 1) (by omega) (by omega)]
          exact ih f (i + 1) m e h hc hl hT hP Q2 hf (by omega) (by omega) (by omega) (by omega)
      · rw [if_neg (show ¬ (e.1 (7000 + i) 6 = 0 ∧ e.1 (7000 + i) 8 = 0) from fun hh => c6 hh.1)] at hf Q2 ⊢
        rw [if_neg c6, lx_p, w32_id (z := i + 1) (by omega) (by omega)]
        exact ih f (i + 1) m e h hc hl hT hP Q2 hf (by omega) (by omega) (by omega) (by omega)
    · rw [if_neg c] at hf ⊢
      rw [if_neg c]
      exact ⟨m, rfl, h, fun _ _ => rfl⟩
/-- what the third turn has to find -/
def TkR : Nat → Int → ES → Prop
  | 0, _, _ => True
  | n + 1, i, e => i < e.1 7 2 → (e.1 (7000 + i) 6 = 0 → TmO e i ∧ Bef e i ∧ WnI e i ∧ hN e i < 524288) ∧ TkR n (i + 1) (if e.1 (7000 + i) 6 = 0 then pRest i e else e)
theorem mr_tk3 : ∀ (n : Nat) (i : Int) (e : ES), CN e → TkR n i e → 0 ≤ i → MR e (pTk3 n i e) ∧ nTm e ≤ nTm (pTk3 n i e) := by
  intro n
  induction n with
  | zero => intro i e _ _ _; exact ⟨MR.rf, Nat.le_refl _⟩
  | succ n ih =>
    intro i e hc hR i0
    unfold pTk3
    by_cases c : i < e.1 7 2
    · obtain ⟨R1, R2⟩ := hR c
      rw [if_pos c]
      by_cases c6 : e.1 (7000 + i) 6 = 0
      · rw [if_pos c6] at R2 ⊢
        obtain ⟨t1, t2, t3, t4⟩ := R1 c6
        obtain ⟨⟨k1, k2, k3⟩, k4⟩ := rk_rsL (N := hN e i) i0 (by omega) ((hN e i).toNat + 1) 0 e hc c (Int.le_refl _) t1
        obtain ⟨g1, g2⟩ := ih (i + 1) (pRest i e) k2 R2 (by omega)
        exact ⟨MR.tr k1 g1, Nat.le_trans k4 g2⟩
      · rw [if_neg c6] at R2 ⊢
        exact ih (i + 1) e hc R2 (by omega)
    · rw [if_neg c]
      exact ⟨MR.rf, Nat.le_refl _⟩
theorem tk3r : ∀ (n f : Nat) (i : Int) (m : MM) (e : ES), RXE m e → CN e → RLw e → TkR n i e → RFw (pTk3 n i e) → nTm (pTk3 n i e) ≤ 512 → 0 ≤ i → e.1 7 2 < i + n → 0 < n → n ≤ f → ∃ m', fl_X12_takeOver_115 y1 f i m = some (y1, m') ∧ RXE m' (pTk3 n i e) ∧ S84 m m' := by
  intro n
  induction n with
  | zero => intro f i m e h hc hl hR hf hL i0 h1 h2; omega
  | succ n ih =>
    intro f i m e h hc hl hR hf hL i0 h1 h2 h3
    obtain ⟨f, rfl⟩ : ∃ g, f = g + 1 := ⟨f - 1, by omega⟩
    have n7 := hc.1
    have e12 : m 68 12 = e.1 7 2 := h.ps.2.1
    unfold pTk3 at hf hL ⊢
    unfold fl_X12_takeOver_115
    rw [lx_p, e12]
    by_cases c : i < e.1 7 2
    · obtain ⟨R1, R2⟩ := hR c
      have k83 : m 83 i = e.1 (7000 + i) 6 := (h.pr.1 i i0 c).1.2.2.2.1
      rw [if_pos c] at hf hL ⊢
      rw [if_pos c, gd_t (by omega), lx_p, k83]
      by_cases c6 : e.1 (7000 + i) 6 = 0
      · rw [if_pos c6] at hf hL R2 ⊢
        rw [if_pos c6]
        obtain ⟨t1, t2, t3, t4⟩ := R1 c6
        obtain ⟨⟨k1, k2, k3⟩, k4⟩ := rk_rsL (N := hN e i) i0 (by omega) ((hN e i).toNat + 1) 0 e hc c (Int.le_refl _) t1
        have k3' : (pRest i e).1 7 2 = e.1 7 2 := k3
        have k1' : MR e (pRest i e) := k1
        obtain ⟨q1, q2⟩ := mr_tk3 n (i + 1) (pRest i e) k2 R2 (by omega)
        obtain ⟨m1, g1, g2, g3⟩ := h.rest hc hl i0 c (fun hh => hh.1 c6) t1 t2 t3 t4 (hf.bk q1) (Nat.le_trans q2 hL)
        obtain ⟨m2, w1, w2, w3⟩ := ih f (i + 1) m1 _ g2 k2 (k1'.2.2 hl) R2 hf hL (by omega) (by omega) (by omega) (by omega)
        refine ⟨m2, ?_, w2, fun q hq => (w3 q hq).trans (g3 q hq)⟩
        rw [bd_t g1, lx_p, w32_id (z := i + 1) (by omega) (by omega)]
        exact w1
      · rw [if_neg c6] at hf hL R2 ⊢
        rw [if_neg c6]
        rw [lx_p, w32_id (z := i + 1) (by omega) (by omega)]
        exact ih f (i + 1) m e h hc hl R2 hf hL (by omega) (by omega) (by omega) (by omega)
    · rw [if_neg c] at hf hL ⊢
      rw [if_neg c]
      exact ⟨m, rfl, h, fun _ _ => rfl⟩
/-- all that taking over has to find -/
def TkA (e : ES) : Prop := LzR 0 e ∧ nLs (pTk1 31 0 0 (eS e 4 17 0)).2 ≤ 4096 ∧ TyO (pTk1 31 0 0 (eS e 4 17 0)).2 ∧ PaR (pTk1 31 0 0 (eS e 4 17 0)).2 ∧ TkQ 31 0 (pTk1 31 0 0 (eS e 4 17 0)).2 ∧ TkR 31 0 (pTk2 31 0 (pTk1 31 0 0 (eS e 4 17 0)).2) ∧ nTm (pcTakeOver e).2 ≤ 512
theorem tk1_7 : ∀ (n : Nat) (a i : Int) (e : ES), CN e → 0 ≤ i → (pTk1 n a i e).2.1 7 2 = e.1 7 2 := by
  intro n
  induction n with
  | zero => intro a i e _ _; rfl
  | succ n ih =>
    intro a i e hc i0
    unfold pTk1
    split
    · rename_i c
      split
      · rw [ih _ _ _ (lose_cn hc i0 c) (by omega)]
        exact (lose_f (e := e) i0 c hc.1.2 hc.2.1.2).1 7 2 (by omega) (by omega) (by omega) (by omega) (by omega)
      · exact ih _ _ _ hc (by omega)
    · rfl
theorem x_takeOver (h : RXE m e) (hc : CN e) (hl : RLw e) (hf : RFw (pcTakeOver e).2) (hA : e.1 4 17 ≠ 0 → TkA e) : OKr (fm_X12_takeOver m) cd1 (pcTakeOver e) := by
  have n7 := hc.1
  have e83 : m 68 83 = if e.1 4 17 = 0 then 1 else 0 := h.pl.1
  unfold fm_X12_takeOver
  rw [lx_p, e83]
  by_cases c : e.1 4 17 = 0
  · unfold pcTakeOver
    rw [if_pos c, if_neg (show ¬ (1 : Int) = 0 by decide), if_pos c]
    unfold fj_X12_takeOver_13
    rw [bd_t fails_e, if_pos (show (0 : Int) < 1 by decide), if_neg (show ¬ (1 : Int) = 0 by decide)]
    exact OKr.no h hc rfl
  · obtain ⟨A1, A2, A3, A4, A5, A6, A7⟩ := hA c
    unfold pcTakeOver at hf A7 ⊢
    rw [if_neg c] at hf A7
    rw [if_neg c, if_pos (show (0 : Int) = 0 from rfl), if_neg c]
    unfold fj_X12_takeOver_13
    rw [bd_t fails_e, if_neg (show ¬ (0 : Int) < 0 by decide), if_pos (show (0 : Int) = 0 from rfl), up_t]
    have h0 := h.th (q := 0) hc
    have cE : CN (eS e 4 17 0) := cn_eS hc (by omega)
    have hE : ∀ a u : Int, a ≠ 4 → (eS e 4 17 0).1 a u = e.1 a u := fun a u ha => eS_a ha
    have h1 : RXE (mset (mset m 68 129 0) 68 83 1) (eS e 4 17 0) := by
      refine h0.chg hc (W := fun a => a = 1000000) (U := fun j => j = 83) (V := fun a => a = 4) (fun a j g1 g2 g3 => ms_a (by omega)) (fun j g1 g2 => ms_j g2) ⟨fun a j g => hE a j g, fun c _ => rfl, fun i _ => rfl⟩ (by rw [eS_j (by decide)]; omega) (DdM.of fun q q0 q1 => hE _ _ (by omega)) (by rw [hE _ _ (by decide)]; omega) (Or.inr ?_) (Or.inl ⟨fun a g => by omega, fun a g => by omega, fun a g => by omega⟩) (Or.inl ⟨fun a g => by omega, fun a g => by omega, fun a g => by omega⟩) (Or.inl ⟨fun a g => by omega, fun a g => by omega, fun a g => by omega⟩) (Or.inl ⟨fun a g => by omega, fun a g => by omega, fun a g => by omega⟩) (Or.inl ⟨fun a g => by omega, fun a g => by omega, fun a g => by omega⟩) (Or.inl ⟨fun a g => by omega, fun a g => by omega, fun a g => by omega⟩) (Or.inl ⟨fun a g => by omega, fun a g => by omega, fun a g => by omega⟩) (Or.inl ⟨fun a g => by omega, fun a g => by omega, fun a g => by omega⟩) (Or.inl ⟨fun a g => by omega, fun a g => by omega, fun a g => by omega⟩) (Or.inl ⟨fun a g => by omega, fun a g => by omega, fun a g => by omega⟩) (Or.inl ⟨fun a g => by omega, fun a g => by omega, fun a g => by omega⟩) (Or.inr ?_)
      · obtain ⟨g0, g1, g2, g3, g4, g5, g6, g7, g8, g9, g10⟩ := h0.ps
        unfold RXs
        rw [ms_j (i := 0) (by decide), ms_j (i := 12) (by decide), ms_j (i := 29) (by decide), ms_j (i := 30) (by decide), ms_j (i := 34) (by decide), ms_j (i := 50) (by decide), ms_j (i := 51) (by decide), ms_j (i := 68) (by decide), ms_j (i := 69) (by decide), ms_j (i := 79) (by decide), ms_j (i := 80) (by decide), eS_j (i := 14) (by decide), hE 7 2 (by decide), hE 68 29 (by decide), hE 68 30 (by decide), hE 8 2 (by decide), eS_j (i := 13) (by decide), hE 9 2 (by decide), eS_j (i := 15) (by decide), hE 10 2 (by decide), eS_j (i := 12) (by decide), eS_j (i := 11) (by decide)]
        exact ⟨g0, g1, g2, g3, g4, g5, g6, g7, g8, g9, g10⟩
      · obtain ⟨k1, k2, k3⟩ := h0.pl
        have hq : pLst (eS e 4 17 0) ((eS e 4 17 0).1 7 2).toNat = pLst e (e.1 7 2).toNat := by
          rw [hE _ _ (by decide)]
          exact pLst_eq fun i i0 i1 => rfl
        unfold RXl
        rw [hq, ms_e, ms_j (by decide), eS_e, if_pos rfl]
        exact ⟨rfl, k2, fun i q hq' => by rw [ms_a (by decide), ms_a (by decide), ms_a (by decide)]; exact k3 i q hq'⟩
    have l1 : RLw (eS e 4 17 0) := by
      obtain ⟨q1, q2, q3, q4⟩ := hl
      unfold RLw
      rw [eS_j (by decide), hE 3 0 (by decide), hE 68 29 (by decide), eS_j (by decide), hE 7 2 (by decide)]
      exact ⟨q1, q2, q3, fun i i0 i1 => by
        have : hN (eS e 4 17 0) i = hN e i := hE _ _ (by omega)
        rw [this]
        exact q4 i i0 i1⟩
    have z1 : LzR 0 (eS e 4 17 0) := fun j j0 j1 => by
      have e6 : ∀ u, (eS e 4 17 0).1 (7000 + j) u = e.1 (7000 + j) u := fun u => hE _ _ (by omega)
      have eN : hN (eS e 4 17 0) j = hN e j := hE _ _ (by omega)
      rw [e6, e6, e6, eN]
      exact A1 j j0 (by rw [hE _ _ (by decide)] at j1; exact j1)
    have E7 : (eS e 4 17 0).1 7 2 = e.1 7 2 := hE _ _ (by decide)
    have T7 := tk1_7 31 0 0 (eS e 4 17 0) cE (Int.le_refl _)
    obtain ⟨m1, g1, g2, g3, g4, g5⟩ := tk1r (K := fun x_114 m_124 =>
fl_X12_takeOver_67 x_114 (fun m_228 =>
fl_X12_takeOver_115 x_114 BIG 0 m_228) BIG 0 m_124) 31 BIG 0 0 _ _ h1 cE l1 z1 A2 (Int.le_refl _) (by omega) (Int.le_refl _) (by omega) (by omega) (by decide) (by decide)
    rw [g1]
    have k2 := cs_tk2 31 0 (pTk1 31 0 0 (eS e 4 17 0)).2 g4 (Int.le_refl _)
    have k3 := mr_tk3 31 0 (pTk2 31 0 (pTk1 31 0 0 (eS e 4 17 0)).2) k2.1.2 A6 (Int.le_refl _)
    obtain ⟨m2, u1, u2, u3⟩ := tk2r (y1 := (pTk1 31 0 0 (eS e 4 17 0)).1) (K := fun m_228 =>
fl_X12_takeOver_115 (pTk1 31 0 0 (eS e 4 17 0)).1 BIG 0 m_228) 31 BIG 0 m1 _ g2 g4 g5 A3 A4 A5 (hf.bk k3.1) (Int.le_refl _) (by rw [T7, E7]; omega) (by decide) (by decide)
    rw [u1]
    obtain ⟨m3, w1, w2, w3⟩ := tk3r (y1 := (pTk1 31 0 0 (eS e 4 17 0)).1) 31 BIG 0 m2 _ u2 k2.1.2 (k2.1.1.2.2 g5) A6 hf A7 (Int.le_refl _) (by rw [k2.2.1.1, T7, E7]; omega) (by decide) (by decide)
    rw [w1]
    exact OKr.fin w2 (by rw [w3 129 (by decide), u3 129 (by decide), g3 129 (by decide), ms_j (by decide)]; exact ms_e)
end RXUA
