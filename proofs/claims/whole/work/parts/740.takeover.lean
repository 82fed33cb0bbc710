/-! THE ENGINE: the call takeOver. -/
section TKO
variable {m m' M2 m0 : MM} {ow ow' : Int → Int} {ad ad' ad1 : Int → Int → Int} {e e' e0 e1 e2 : ES} {D : Int → Prop} {a b c i j k o r v w h B t y z q lim c2 c3 p p1 p2 p3 N st res dep : Int} {n : Nat} {x : CX} {l : List Int} {E : Int → Ev} {s S : TS} {f : Int → Int}
/-- timers lie as they did -/
def TmK (e e' : ES) : Prop := ∀ r : Int, 0 ≤ r → r < 1000 → TmO e r → TmO e' r
theorem TmK.rf : TmK e e := fun _ _ _ h => h
theorem TmK.tr (h : TmK e e1) (k : TmK e1 e2) : TmK e e2 := fun r r0 r1 g => k r r0 r1 (h r r0 r1 g)
theorem TmK.of (h : ∀ c, eL e' c = eL e c) : TmK e e' := fun r _ _ g => by
  unfold TmO at g ⊢
  rw [h, h]
  exact g
theorem arr_tm : TmK e (pArr i k p q e) := TmK.of fun _ => arr_l
theorem end_l2 (hc : c ≠ 73000 + i) (hc2 : c ≠ 74000 + i) : eL (pEnd i e) c = eL e c := by
  unfold pEnd
  rw [eLs_a hc2, eLs_a hc]
  unfold eL
  rw [(endA_a (r := i) 61 0 e (by decide)).1]
theorem end_l3 : eL (pEnd i e) (73000 + i) = [] ∧ eL (pEnd i e) (74000 + i) = [] := by
  unfold pEnd
  refine ⟨?_, eLs_e⟩
  rw [eLs_a (by omega)]
  exact eLs_e
theorem end_tm (i0 : 0 ≤ i) (i1 : i < 1000) : TmK e (pEnd i e) := fun r r0 r1 g => by
  by_cases c : r = i
  · subst c
    unfold TmO
    rw [end_l3.1, end_l3.2]
    exact ⟨rfl, fun v hv => absurd hv List.not_mem_nil⟩
  · unfold TmO at g ⊢
    rw [end_l2 (by omega) (by omega), end_l2 (by omega) (by omega)]
    exact g
theorem up_tm : TmK e (pUp r st res e) := by
  unfold pUp
  split
  · split <;> exact arr_tm
  · exact TmK.rf
theorem deal_tm {rec : Int → Int → ES → ES} (hcl : ∀ (i d : Int) (e : ES), 0 ≤ i → i < 1000 → e.1 7 2 ≤ 1000 → e.1 8 2 ≤ 1000 → CL e (rec i d e)) (hrec : ∀ (i d : Int) (e : ES), 0 ≤ i → i < 1000 → e.1 7 2 ≤ 1000 → e.1 8 2 ≤ 1000 → TmK e (rec i d e)) : ∀ (n : Nat) (i : Int) (e : ES), 0 ≤ i → e.1 7 2 ≤ 1000 → e.1 8 2 ≤ 1000 → TmK e (pDealL rec r dep n i e) := by
  intro n
  induction n with
  | zero => intro i e _ _ _; exact TmK.rf
  | succ n ih =>
    intro i e i0 h7 h8
    unfold pDealL
    split
    · rename_i c
      have step : ∀ e1, CL e e1 → TmK e e1 → TmK e (pDealL rec r dep n (i + 1) e1) := fun e1 h g => g.tr (ih _ _ (by omega) (by rw [h.2.1 7 (by decide) (by decide)]; exact h7) (by rw [h.2.1 8 (by decide) (by decide)]; exact h8))
      split
      · split
        · refine step _ (can_cl i0 (by omega) h7) ?_
          unfold pCan
          split
          · exact TmK.rf
          · exact arr_tm
        · split
          · exact step _ (hcl i _ e i0 (by omega) h7 h8) (hrec i _ e i0 (by omega) h7 h8)
          · exact step _ CL.rf TmK.rf
      · exact step _ CL.rf TmK.rf
    · exact TmK.rf
theorem close_tm : ∀ (n : Nat) (r st res dep : Int) (e : ES), 0 ≤ r → r < 1000 → (st ≠ 0 ∧ st ≠ 6) → e.1 7 2 ≤ 1000 → e.1 8 2 ≤ 1000 → TmK e (pClose n r st res dep e) := by
  intro n
  induction n with
  | zero => intro r st res dep e _ _ _ _ _; exact TmK.rf
  | succ n ih =>
    intro r st res dep e r0 r1 hst h7 h8
    unfold pClose
    have h1 := stat_cl (e := e) (v := st) r0 r1 hst
    have h2 := h1.tr (end_cl (i := r) (e := eS e (7000 + r) 6 st) (by rw [h1.2.1 8 (by decide) (by decide)]; exact h8) (by rw [h1.2.1 7 (by decide) (by decide)]; exact h7))
    have t1 : TmK e (eS e (7000 + r) 6 st) := TmK.of fun _ => rfl
    have t2 := t1.tr (end_tm (e := eS e (7000 + r) 6 st) r0 r1)
    have t3 := t2.tr (deal_tm (r := r) (dep := dep) (rec := fun i d e => pClose n i 5 0 d e) (fun i d e i0 i1 g7 g8 => close_cl n i 5 0 d e i0 i1 (by decide) g7 g8) (fun i d e i0 i1 g7 g8 => ih i 5 0 d e i0 i1 (by decide) g7 g8) 31 0 _ (by decide) (by rw [h2.2.1 7 (by decide) (by decide)]; exact h7) (by rw [h2.2.1 8 (by decide) (by decide)]; exact h8))
    exact t3.tr up_tm
def pTk1 : Nat → Int → Int → ES → Int × ES
  | 0, a, _, e => (a, e)
  | n + 1, a, i, e => if i < e.1 7 2 then (if e.1 (7000 + i) 6 = 0 then pTk1 n (a + (hN e i - e.1 (7000 + i) 8)) (i + 1) (pLose i e) else pTk1 n a (i + 1) e) else (a, e)
def pTk2 : Nat → Int → ES → ES
  | 0, _, e => e
  | n + 1, i, e => if i < e.1 7 2 then pTk2 n (i + 1) (if e.1 (7000 + i) 6 = 0 ∧ e.1 (7000 + i) 8 = 0 then pClose 41 i 5 0 0 e else e) else e
def pTk3 : Nat → Int → ES → ES
  | 0, _, e => e
  | n + 1, i, e => if i < e.1 7 2 then pTk3 n (i + 1) (if e.1 (7000 + i) 6 = 0 then pRest i e else e) else e
def pcTakeOver (e : ES) : (Int ⊕ Nat) × ES :=
  if e.1 4 17 = 0 then rT 2 e
  else (.inl (pTk1 31 0 0 (eS e 4 17 0)).1, pTk3 31 0 (pTk2 31 0 (pTk1 31 0 0 (eS e 4 17 0)).2))
/-- what losing leaves -/
theorem lose_f (i0 : 0 ≤ i) (i1 : i < e.1 7 2) (h7 : e.1 7 2 ≤ 30) (h8 : e.1 8 2 ≤ 60) : (∀ a u : Int, (a < 8000 ∨ 9000 ≤ a) → (a < 7000 ∨ 8000 ≤ a ∨ u ≠ 4) → a ≠ 71000 + i → (a ≠ 7000 + i ∨ u ≠ 9) → a ≠ 3 → (pLose i e).1 a u = e.1 a u) ∧ ((∀ a, (pLose i e).1 8 a = e.1 8 a) ∧ ∀ c, c ≠ 73000 + i → c ≠ 74000 + i → c ≠ 75000 + i → eL (pLose i e) c = eL e c) ∧ eL (pLose i e) (73000 + i) = [] ∧ eL (pLose i e) (74000 + i) = [] := by
  obtain ⟨g1, g2, g3, g4⟩ := loL_f (N := hN e i) i0 (show i < 1000 by omega) ((hN e i - e.1 (7000 + i) 8).toNat + 1) (e.1 (7000 + i) 8) e
  have ga : ∀ a u : Int, a ≠ 3 → (pLoA i e).1 a u = e.1 a u := g2
  have gl : ∀ c, c ≠ 75000 + i → eL (pLoA i e) c = eL e c := g4
  have gb : ∀ a u : Int, a ≠ 71000 + i → (a ≠ 7000 + i ∨ u ≠ 9) → a ≠ 3 → (pLoB i (pLoA i e)).1 a u = e.1 a u := fun a u k1 k2 k3 => (loB_a k1 k2).trans (ga a u k3)
  have lb : ∀ c, eL (pLoB i (pLoA i e)) c = eL (pLoA i e) c := fun c => by
    unfold pLoB
    split <;> rfl
  have lp : ∀ c fr, eL (pPar i fr (pLoB i (pLoA i e))) c = eL (pLoB i (pLoA i e)) c := fun c fr => by
    unfold pPar eL
    rw [(parL_a (r := i) (fr := fr) 31 0 _ (by decide)).1]
  have b7 : (pLoB i (pLoA i e)).1 7 2 = e.1 7 2 := gb _ _ (by omega) (by omega) (by decide)
  have b8 : (pLoB i (pLoA i e)).1 8 2 = e.1 8 2 := gb _ _ (by omega) (by omega) (by decide)
  have hp : ∀ a u : Int, (a < 7000 ∨ 8000 ≤ a ∨ u ≠ 4) → ∀ fr, (pPar i fr (pLoB i (pLoA i e))).1 a u = (pLoB i (pLoA i e)).1 a u := fun a u k fr => par_a (by omega)
  refine ⟨fun a u k0 k1 k2 k3 k4 => ?_, ⟨fun u => ?_, fun c k1 k2 k3 => ?_⟩, end_l3⟩
  · unfold pLose
    rw [end_a (by rw [hp 8 2 (by omega), b8]; omega), hp a u k1, gb a u k2 k3 k4]
  · unfold pLose
    rw [end_a (by omega), hp 8 u (by omega), gb 8 u (by omega) (by omega) (by decide)]
  · unfold pLose
    rw [end_l2 k1 k2, lp, lb, gl c k3]
theorem lose_eq (k1 : c ≠ 73000 + i) (k2 : c ≠ 74000 + i) : eL (pLose i e) c = eL (pLoA i e) c := by
  unfold pLose
  rw [end_l2 k1 k2]
  unfold pPar eL
  rw [(parL_a (r := i) (fr := e.1 (7000 + i) 8) 31 0 _ (by decide)).1]
  unfold pLoB
  split <;> rfl
theorem lose_t (k1 : c ≠ 73000 + i) (k2 : c ≠ 74000 + i) : (eL e c).length ≤ (eL (pLose i e) c).length := by
  rw [lose_eq k1 k2]
  exact loL_t _ _ _ c
/-- what the losing of the runs from i on has to find -/
def Lz (i : Int) (e : ES) : Prop := ∀ j : Int, i ≤ j → j < e.1 7 2 → (0 ≤ e.1 (7000 + j) 8 ∧ e.1 (7000 + j) 8 ≤ hN e j) ∧ (0 ≤ e.1 (7000 + j) 9 ∧ e.1 (7000 + j) 9 < 1000000) ∧ hN e j ≤ 524287
theorem Lz.next (h : Lz i e) (i0 : 0 ≤ i) (i1 : i < e.1 7 2) (h7 : e.1 7 2 ≤ 30) (h8 : e.1 8 2 ≤ 60) : Lz (i + 1) (pLose i e) := fun j j0 j1 => by
  obtain ⟨f1, -, -⟩ := lose_f (e := e) i0 i1 h7 h8
  rw [f1 7 2 (by omega) (by omega) (by omega) (by omega) (by omega)] at j1
  unfold hN
  rw [f1 (7000 + j) 8 (by omega) (by omega) (by omega) (by omega) (by omega), f1 (7000 + j) 9 (by omega) (by omega) (by omega) (by omega) (by omega), f1 (71000 + j) 1 (by omega) (by omega) (by omega) (by omega) (by omega)]
  exact h j (by omega) j1
theorem tk1_f : ∀ (n : Nat) (a i : Int) (e : ES), 0 ≤ i → e.1 7 2 ≤ 30 → e.1 8 2 ≤ 60 → Lz i e → MO e (pTk1 n a i e).2 ∧ ((pTk1 n a i e).2.1 7 2 = e.1 7 2 ∧ (pTk1 n a i e).2.1 8 2 = e.1 8 2) ∧ (TyO e → TyO (pTk1 n a i e).2) ∧ ((∀ j : Int, 0 ≤ j → j < e.1 7 2 → TmO e j) → ∀ j : Int, 0 ≤ j → j < e.1 7 2 → TmO (pTk1 n a i e).2 j) ∧ ∀ c : Int, (9 ≤ c ∧ c ≤ 10) ∨ (48 ≤ c ∧ c ≤ 61) → (pTk1 n a i e).2.1 c 2 = e.1 c 2 := by
  intro n
  induction n with
  | zero => intro a i e _ _ _ _; exact ⟨MO.rf, ⟨rfl, rfl⟩, id, id, fun _ _ => rfl⟩
  | succ n ih =>
    intro a i e i0 h7 h8 hz
    unfold pTk1
    split
    · rename_i c
      split
      · obtain ⟨f1, ⟨f2, f3⟩, f4, f5⟩ := lose_f (e := e) i0 c h7 h8
        have s7 : (pLose i e).1 7 2 = e.1 7 2 := f1 7 2 (by omega) (by omega) (by omega) (by omega) (by omega)
        have s8 : (pLose i e).1 8 2 = e.1 8 2 := f2 2
        obtain ⟨g1, g2, g3, g4, g5⟩ := ih (a + (hN e i - e.1 (7000 + i) 8)) (i + 1) (pLose i e) (by omega) (by omega) (by omega) (hz.next i0 c h7 h8)
        have mo := lose_mo (e := e) i0 (show i < 1000 by omega) (hz i (Int.le_refl _) c).1.1 (by omega) (by omega)
        refine ⟨(mo.2.tr mo.1).tr g1, ⟨by rw [g2.1, s7], by rw [g2.2, s8]⟩, fun h => g3 (fun j j0 j1 => ?_), fun h => ?_, fun c hc => ?_⟩
        · rw [s7] at j1
          rw [f1 (7000 + j) 1 (by omega) (by omega) (by omega) (by omega) (by omega), f1 (7000 + j) 5 (by omega) (by omega) (by omega) (by omega) (by omega)]
          exact h j j0 j1
        · rw [← s7]
          refine g4 fun j j0 j1 => ?_
          rw [s7] at j1
          unfold TmO
          by_cases hji : j = i
          · rw [hji, f4, f5]
            exact ⟨rfl, fun v hv => absurd hv List.not_mem_nil⟩
          · rw [f3 _ (by omega) (by omega) (by omega), f3 _ (by omega) (by omega) (by omega)]
            exact h j j0 j1
        · rw [g5 c hc, f1 c 2 (by omega) (by omega) (by omega) (by omega) (by omega)]
      · exact ih a (i + 1) e (by omega) h7 h8 (fun j j0 j1 => hz j (by omega) j1)
    · exact ⟨MO.rf, ⟨rfl, rfl⟩, id, id, fun _ _ => rfl⟩
theorem tk1_t : ∀ (n : Nat) (a i : Int) (e : ES), 0 ≤ i → e.1 7 2 ≤ 30 → e.1 8 2 ≤ 60 → ∀ c : Int, 75000 ≤ c → (eL e c).length ≤ (eL (pTk1 n a i e).2 c).length := by
  intro n
  induction n with
  | zero => intro a i e _ _ _ c _; exact Nat.le_refl _
  | succ n ih =>
    intro a i e i0 h7 h8 c hc
    unfold pTk1
    split
    · rename_i c1
      split
      · obtain ⟨f1, ⟨f2, f3⟩, f4, f5⟩ := lose_f (e := e) i0 c1 h7 h8
        have s7 : (pLose i e).1 7 2 = e.1 7 2 := f1 7 2 (by omega) (by omega) (by omega) (by omega) (by omega)
        have s8 : (pLose i e).1 8 2 = e.1 8 2 := f2 2
        exact Nat.le_trans (lose_t (by omega) (by omega)) (ih _ (i + 1) (pLose i e) (by omega) (by omega) (by omega) c hc)
      · exact ih a (i + 1) e (by omega) h7 h8 c hc
    · exact Nat.le_refl _
theorem tk1_l {K : Int → MM → Option ((Int ⊕ Nat) × MM)} : ∀ (n f : Nat) (a i : Int) (m : MM) (ow : Int → Int) (e : ES), CE m ow ad e → Lz i e → 0 ≤ i → i ≤ e.1 7 2 → 0 ≤ a → a ≤ 524287 * i → BDl e → BDf (pTk1 n a i e).2 → e.1 7 2 - i < n → n ≤ f → (∀ j : Int, 0 ≤ j → j < e.1 7 2 → (eL (pTk1 n a i e).2 (75000 + j)).length ≤ 4096) → ∃ m', fl_X11_takeOver_27 K f a i m = K (pTk1 n a i e).1 m' ∧ CX1 m' ad (pTk1 n a i e).2 := by
  intro n
  induction n with
  | zero =>
    intro f a i m ow e C hz i0 i9 a0 a1 hl hf h1 h2 hE
    omega
  | succ n ih =>
    intro f a i m ow e C hz i0 i9 a0 a1 hl hf h1 h2 hE
    obtain ⟨f, rfl⟩ : ∃ g, f = g + 1 := ⟨f - 1, by omega⟩
    have n7 := C.cn.1
    have n8 := C.cn.2.1
    unfold pTk1 at hf hE ⊢
    rw [fl_X11_takeOver_27, bp_t (C.size (c := 7) (by decide) (by decide))]
    by_cases c : i < e.1 7 2
    · have e6 : m (ad 7 i) 6 = e.1 (7000 + i) 6 := C.rf i0 c (by decide) (by decide)
      have hw : w32 (i + 1) = i + 1 := w32_id (by omega) (by omega)
      rw [if_pos c] at hf ⊢
      rw [if_pos c, bp_t (C.get (c := 7) (by decide) (by decide) i0 c), gd_t (C.rk i0 c), lx_p, e6]
      by_cases c6 : e.1 (7000 + i) 6 = 0
      · rw [if_pos c6] at hf ⊢
        rw [if_pos c6]
        have nd : ¬ Dead e i := fun hh => hh.1 c6
        obtain ⟨z1, z2, z3⟩ := hz i (Int.le_refl _) c
        obtain ⟨f1, ⟨f2, f3⟩, f4, f5⟩ := lose_f (e := e) i0 c n7.2 n8.2
        have s7 : (pLose i e).1 7 2 = e.1 7 2 := f1 7 2 (by omega) (by omega) (by omega) (by omega) (by omega)
        have s8 : (pLose i e).1 8 2 = e.1 8 2 := f2 2
        have hz1 := hz.next i0 c n7.2 n8.2
        have hmo := (tk1_f n (a + (hN e i - e.1 (7000 + i) 8)) (i + 1) (pLose i e) (by omega) (by omega) (by omega) hz1).1
        have mo := lose_mo (e := e) i0 (show i < 1000 by omega) z1.1 (by omega) (by omega)
        have hE1 : ∀ j : Int, 0 ≤ j → j < e.1 7 2 → (eL (pTk1 n (a + (hN e i - e.1 (7000 + i) 8)) (i + 1) (pLose i e)).2 (75000 + j)).length ≤ 4096 := fun j j0 j1 => by
          have h := hE j j0 j1
          rw [if_pos c, if_pos c6] at h
          exact h
        have hEi := hE1 i i0 c
        have hEt := tk1_t n (a + (hN e i - e.1 (7000 + i) 8)) (i + 1) (pLose i e) (by omega) (by omega) (by omega) (75000 + i) (by omega)
        have hEq : eL (pLose i e) (75000 + i) = eL (pLoA i e) (75000 + i) := lose_eq (by omega) (by omega)
        obtain ⟨m1, g1, ow1, C1⟩ := lose_e C i0 c nd z1 z2 (by omega) hl (hf.of hmo) (by rw [← hEq]; omega)
        obtain ⟨m2, k1, k2⟩ := ih f (a + (hN e i - e.1 (7000 + i) 8)) (i + 1) m1 ow1 _ C1 hz1 (by omega) (by omega) (by omega) (by omega) ((mo.2.tr mo.1).2 hl) hf (by omega) (by omega) (by rw [s7]; exact hE1)
        refine ⟨m2, ?_, k2⟩
        rw [bd_t g1, lx_p, w32_id (z := a + (hN e i - e.1 (7000 + i) 8)) (by omega) (by omega), lx_p, hw]
        exact k1
      · rw [if_neg c6] at hf ⊢
        rw [if_neg c6, lx_p, hw]
        exact ih f a (i + 1) m ow e C (fun j j0 j1 => hz j (by omega) j1) (by omega) (by omega) a0 (by omega) hl hf (by omega) (by omega) (fun j j0 j1 => by
          have h := hE j j0 j1
          rw [if_pos c, if_neg c6] at h
          exact h)
    · rw [if_neg c, if_neg c]
      exact ⟨m, rfl, ow, C⟩
theorem tk2_f : ∀ (n : Nat) (i : Int) (e : ES), 0 ≤ i → e.1 7 2 ≤ 1000 → e.1 8 2 ≤ 1000 → CL e (pTk2 n i e) ∧ TmK e (pTk2 n i e) := by
  intro n
  induction n with
  | zero => intro i e _ _ _; exact ⟨CL.rf, TmK.rf⟩
  | succ n ih =>
    intro i e i0 h7 h8
    unfold pTk2
    split
    · rename_i c
      split
      · have h1 := close_cl 41 i 5 0 0 e i0 (by omega) (by decide) h7 h8
        have h2 := close_tm 41 i 5 0 0 e i0 (by omega) (by decide) h7 h8
        obtain ⟨g1, g2⟩ := ih (i + 1) (pClose 41 i 5 0 0 e) (by omega) (by rw [h1.2.1 7 (by decide) (by decide)]; exact h7) (by rw [h1.2.1 8 (by decide) (by decide)]; exact h8)
        exact ⟨h1.tr g1, h2.tr g2⟩
      · exact ih _ _ (by omega) h7 h8
    · exact ⟨CL.rf, TmK.rf⟩
theorem tk2_l {K : MM → Option ((Int ⊕ Nat) × MM)} : ∀ (n f : Nat) (i : Int) (m : MM) (ow : Int → Int) (e : ES), CE m ow ad e → TyO e → 0 ≤ i → i ≤ e.1 7 2 → BDl e → BDf (pTk2 n i e) → e.1 7 2 - i < n → n ≤ f → ∃ m', fl_X11_takeOver_73 z K f i m = K m' ∧ CX1 m' ad (pTk2 n i e) := by
  intro n
  induction n with
  | zero =>
    intro f i m ow e C hT i0 i9 hl hf h1 h2
    omega
  | succ n ih =>
    intro f i m ow e C hT i0 i9 hl hf h1 h2
    obtain ⟨f, rfl⟩ : ∃ g, f = g + 1 := ⟨f - 1, by omega⟩
    have n7 := C.cn.1
    have n8 := C.cn.2.1
    unfold pTk2 at hf ⊢
    rw [fl_X11_takeOver_73, bp_t (C.size (c := 7) (by decide) (by decide))]
    by_cases c : i < e.1 7 2
    · have e6 : m (ad 7 i) 6 = e.1 (7000 + i) 6 := C.rf i0 c (by decide) (by decide)
      have e8 : m (ad 7 i) 8 = e.1 (7000 + i) 8 := C.rf i0 c (by decide) (by decide)
      have hw : w32 (i + 1) = i + 1 := w32_id (by omega) (by omega)
      rw [if_pos c] at hf ⊢
      rw [if_pos c, bp_t (C.get (c := 7) (by decide) (by decide) i0 c), gd_t (C.rk i0 c), lx_p, e6]
      by_cases c6 : e.1 (7000 + i) 6 = 0 ∧ e.1 (7000 + i) 8 = 0
      · rw [if_pos c6] at hf ⊢
        have h1' := close_cl 41 i 5 0 0 e i0 (show i < 1000 by omega) (by decide) (by omega) (by omega)
        have s7 := h1'.2.1 7 (by decide) (by decide)
        have s8 := h1'.2.1 8 (by decide) (by decide)
        have hmo := (tk2_f n (i + 1) (pClose 41 i 5 0 0 e) (by omega) (by omega) (by omega)).1.1
        obtain ⟨m1, g1, ow1, C1⟩ := close_l 41 BIGR i 5 0 0 m ow e C i0 c (by decide) (by decide) (by decide) (by decide) (by decide) (by decide) hT hl (hf.of hmo)
        obtain ⟨m2, k1, k2⟩ := ih f (i + 1) m1 ow1 _ C1 (hT.sf h1'.2) (by omega) (by omega) (h1'.1.2 hl) hf (by omega) (by omega)
        refine ⟨m2, ?_, k2⟩
        rw [if_pos c6.1, lx_p, e8, if_pos c6.2, bd_t g1, lx_p, hw]
        exact k1
      · rw [if_neg c6] at hf ⊢
        obtain ⟨m2, k1, k2⟩ := ih f (i + 1) m ow e C hT (by omega) (by omega) hl hf (by omega) (by omega)
        refine ⟨m2, ?_, k2⟩
        by_cases d6 : e.1 (7000 + i) 6 = 0
        · rw [if_pos d6, lx_p, e8, if_neg (fun h => c6 ⟨d6, h⟩), lx_p, hw]
          exact k1
        · rw [if_neg d6, lx_p, hw]
          exact k1
    · rw [if_neg c, if_neg c]
      exact ⟨m, rfl, ow, C⟩
/-- what beginning again leaves -/
theorem rs1_f (r0 : 0 ≤ r) (r1 : r < 1000) (h8 : 0 ≤ e.1 8 2) : (∀ a u : Int, (a = 7 ∨ (7000 ≤ a ∧ a < 8000) ∨ (71000 ≤ a ∧ a < 72000 ∧ a ≠ 71000 + r)) → (pRs1 r i e).1 a u = e.1 a u) ∧ ∀ c, c ≠ 73000 + r → c ≠ 74000 + r → eL (pRs1 r i e) c = eL e c := by
  unfold pRs1
  split
  · split
    · unfold pMakA
      split
      · exact ⟨fun a u h => pNew_a (by omega) (by omega), fun c _ _ => rfl⟩
      · exact ⟨fun a u h => arr_a (by omega) (by omega) (by omega) (by omega) (by omega), fun c _ _ => arr_l⟩
    · refine ⟨fun a u h => addT_1 (by omega), fun c h3 h4 => ?_⟩
      unfold pAddT
      rw [eLs_a h4]
      exact eLs_a h3
  · exact ⟨fun _ _ _ => rfl, fun _ _ _ => rfl⟩
theorem rsL_f (r0 : 0 ≤ r) (r1 : r < 1000) (hN' : N ≤ 524288) : ∀ (n : Nat) (i : Int) (e : ES), e.1 7 2 ≤ 1000 → 0 ≤ e.1 8 2 ∧ e.1 8 2 ≤ 60 → TmO e r → 0 ≤ i → (∀ a u : Int, (a = 7 ∨ (7000 ≤ a ∧ a < 8000) ∨ (71000 ≤ a ∧ a < 72000 ∧ a ≠ 71000 + r)) → (pRsL r N n i e).1 a u = e.1 a u) ∧ (∀ c, c ≠ 73000 + r → c ≠ 74000 + r → eL (pRsL r N n i e) c = eL e c) ∧ (pRsL r N n i e).1 8 2 ≤ 60 := by
  intro n
  induction n with
  | zero => intro i e _ h8 _ _; exact ⟨fun _ _ _ => rfl, fun _ _ _ => rfl, h8.2⟩
  | succ n ih =>
    intro i e h7 h8 hm i0
    unfold pRsL
    split
    · obtain ⟨g1, g2⟩ := rs1_f (e := e) (i := i) r0 r1 h8.1
      obtain ⟨k1, k2, k3⟩ := rs1_kp (e := e) (i := i) r0 r1 h7 h8.1 hm i0 (by omega)
      have h60 : (pRs1 r i e).1 8 2 ≤ 60 := by
        unfold pRs1
        split
        · split
          · unfold pMakA
            split
            · rw [pNew_n]; omega
            · rw [arr_a (by omega) (by omega) (by omega) (by omega) (by omega)]; exact h8.2
          · rw [addT_1 (by decide)]; exact h8.2
        · exact h8.2
      obtain ⟨q1, q2, q3⟩ := ih (i + 1) (pRs1 r i e) (by omega) ⟨by have := k1.2.1.1.2; omega, h60⟩ (k1.2.2.2.1 hm) (by omega)
      exact ⟨fun a u h => (q1 a u h).trans (g1 a u h), fun c h3 h4 => (q2 c h3 h4).trans (g2 c h3 h4), q3⟩
    · exact ⟨fun _ _ _ => rfl, fun _ _ _ => rfl, h8.2⟩
/-- what the beginning again of the runs from i on has to find -/
def Rz (i : Int) (e : ES) : Prop := ∀ j : Int, i ≤ j → j < e.1 7 2 → TmO e j ∧ hN e j ≤ 524288
theorem rest_f (hz : Rz i e) (i0 : 0 ≤ i) (i1 : i < e.1 7 2) (h7 : e.1 7 2 ≤ 30) (h8 : 0 ≤ e.1 8 2 ∧ e.1 8 2 ≤ 60) : Rz (i + 1) (pRest i e) ∧ KpL i e (pRest i e) ∧ (pRest i e).1 7 2 = e.1 7 2 ∧ (0 ≤ (pRest i e).1 8 2 ∧ (pRest i e).1 8 2 ≤ 60) := by
  obtain ⟨z1, z2⟩ := hz i (Int.le_refl _) i1
  obtain ⟨k1, k2, k3⟩ := rsL_kp (r := i) (N := hN e i) i0 (by omega) z2 ((hN e i).toNat + 1) 0 e (by omega) h8.1 z1 (Int.le_refl _)
  obtain ⟨g1, g2, g3⟩ := rsL_f (r := i) (N := hN e i) i0 (by omega) z2 ((hN e i).toNat + 1) 0 e (by omega) h8 z1 (Int.le_refl _)
  have k1' : KpL i e (pRest i e) := k1
  have e7 : (pRest i e).1 7 2 = e.1 7 2 := k3
  refine ⟨fun j j0 j1 => ?_, k1', e7, by have := k1'.2.1.1.2; omega, g3⟩
  rw [e7] at j1
  have hj := hz j (by omega) j1
  have l3 : ∀ c, c ≠ 73000 + i → c ≠ 74000 + i → eL (pRest i e) c = eL e c := g2
  have hh : hN (pRest i e) j = hN e j := g1 _ _ (by omega)
  rw [hh]
  unfold TmO
  rw [l3 _ (by omega) (by omega), l3 _ (by omega) (by omega)]
  exact hj
theorem tk3_mo : ∀ (n : Nat) (i : Int) (e : ES), 0 ≤ i → e.1 7 2 ≤ 30 → 0 ≤ e.1 8 2 ∧ e.1 8 2 ≤ 60 → Rz i e → MO e (pTk3 n i e) := by
  intro n
  induction n with
  | zero => intro i e _ _ _ _; exact MO.rf
  | succ n ih =>
    intro i e i0 h7 h8 hz
    unfold pTk3
    split
    · rename_i c
      split
      · obtain ⟨g1, g2, g3, g4⟩ := rest_f hz i0 c h7 h8
        exact g2.1.tr (ih _ _ (by omega) (by omega) g4 g1)
      · exact ih _ _ (by omega) h7 h8 fun j j0 j1 => hz j (by omega) j1
    · exact MO.rf
theorem tk3_t : ∀ (n : Nat) (i : Int) (e : ES) (c : Int), (eL e c).length ≤ (eL (pTk3 n i e) c).length := by
  intro n
  induction n with
  | zero => intro i e c; exact Nat.le_refl _
  | succ n ih =>
    intro i e c
    unfold pTk3
    split
    · split
      · exact Nat.le_trans (rest_t c) (ih _ _ c)
      · exact ih _ _ c
    · exact Nat.le_refl _
theorem tk3_l : ∀ (n f : Nat) (i : Int) (m : MM) (ow : Int → Int) (ad : Int → Int → Int) (e : ES), CE m ow ad e → Rz i e → 0 ≤ i → i ≤ e.1 7 2 → BDl e → BDf (pTk3 n i e) → e.1 7 2 - i < n → n ≤ f → (∀ j : Int, 0 ≤ j → j < e.1 7 2 → (eL (pTk3 n i e) (73000 + j)).length ≤ 512 ∧ (eL (pTk3 n i e) (74000 + j)).length ≤ 512) → ∃ m' ad', fl_X11_takeOver_126 z f i m = some (.inl z, m') ∧ CX1 m' ad' (pTk3 n i e) ∧ AG e ad ad' := by
  intro n
  induction n with
  | zero =>
    intro f i m ow ad e C hz i0 i9 hl hf h1 h2 hE
    omega
  | succ n ih =>
    intro f i m ow ad e C hz i0 i9 hl hf h1 h2 hE
    obtain ⟨f, rfl⟩ : ∃ g, f = g + 1 := ⟨f - 1, by omega⟩
    have n7 := C.cn.1
    have n8 := C.cn.2.1
    unfold pTk3 at hf hE ⊢
    rw [fl_X11_takeOver_126, bp_t (C.size (c := 7) (by decide) (by decide))]
    by_cases c : i < e.1 7 2
    · have e6 : m (ad 7 i) 6 = e.1 (7000 + i) 6 := C.rf i0 c (by decide) (by decide)
      have hw : w32 (i + 1) = i + 1 := w32_id (by omega) (by omega)
      rw [if_pos c] at hf ⊢
      rw [if_pos c, bp_t (C.get (c := 7) (by decide) (by decide) i0 c), gd_t (C.rk i0 c), lx_p, e6]
      by_cases c6 : e.1 (7000 + i) 6 = 0
      · rw [if_pos c6] at hf ⊢
        rw [if_pos c6]
        have nd : ¬ Dead e i := fun hh => hh.1 c6
        obtain ⟨g1, g2, g3, g4⟩ := rest_f hz i0 c n7.2 n8
        obtain ⟨z1, z2⟩ := hz i (Int.le_refl _) c
        have hmo := tk3_mo n (i + 1) (pRest i e) (by omega) (by omega) g4 g1
        have hE1 : ∀ j : Int, 0 ≤ j → j < e.1 7 2 → (eL (pTk3 n (i + 1) (pRest i e)) (73000 + j)).length ≤ 512 ∧ (eL (pTk3 n (i + 1) (pRest i e)) (74000 + j)).length ≤ 512 := fun j j0 j1 => by
          have h := hE j j0 j1
          rw [if_pos c, if_pos c6] at h
          exact h
        have hE3 := tk3_t n (i + 1) (pRest i e) (73000 + i)
        have hE4 := tk3_t n (i + 1) (pRest i e) (74000 + i)
        have hEi := hE1 i i0 c
        obtain ⟨m1, ad1, u1, ⟨ow1, C1⟩, u3⟩ := C.restore i0 c nd z1 z2 hl (hf.of hmo) (by omega)
        have r7 : (pRest i e).1 7 2 = e.1 7 2 := g3
        obtain ⟨m2, ad2, k1, k2, k3⟩ := ih f (i + 1) m1 ow1 ad1 _ C1 g1 (by omega) (by omega) (g2.1.2 hl) hf (by omega) (by omega) (by rw [r7]; exact hE1)
        refine ⟨m2, ad2, ?_, k2, u3.tr k3 g2.2.1.2⟩
        rw [bd_t u1, lx_p, hw]
        exact k1
      · rw [if_neg c6] at hf ⊢
        rw [if_neg c6, lx_p, hw]
        exact ih f (i + 1) m ow ad e C (fun j j0 j1 => hz j (by omega) j1) (by omega) (by omega) hl hf (by omega) (by omega) (fun j j0 j1 => by
          have h := hE j j0 j1
          rw [if_pos c, if_neg c6] at h
          exact h)
    · rw [if_neg c, if_neg c]
      exact ⟨m, ad, rfl, ⟨ow, C⟩, AG.rf⟩
theorem c_takeOver (C : CE m ow ad e) (hl : BDl e) (hf : BDf (pcTakeOver e).2) (hTO : TyO e) (hTm : ∀ j : Int, 0 ≤ j → j < e.1 7 2 → TmO e j) (hz : Lz 0 e) (hH : ∀ j : Int, 0 ≤ j → j < e.1 7 2 → hN (pTk2 31 0 (pTk1 31 0 0 (eS e 4 17 0)).2) j ≤ 524288) (hE : e.1 4 17 ≠ 0 → ((pTk1 31 0 0 (eS e 4 17 0)).2.1 7 2 = e.1 7 2 → ∀ j : Int, 0 ≤ j → j < e.1 7 2 → (eL (pTk1 31 0 0 (eS e 4 17 0)).2 (75000 + j)).length ≤ 4096) ∧ ∀ j : Int, 0 ≤ j → j < e.1 7 2 → (eL (pTk3 31 0 (pTk2 31 0 (pTk1 31 0 0 (eS e 4 17 0)).2)) (73000 + j)).length ≤ 512 ∧ (eL (pTk3 31 0 (pTk2 31 0 (pTk1 31 0 0 (eS e 4 17 0)).2)) (74000 + j)).length ≤ 512) : OKc e ad (fm_X11_takeOver m) (pcTakeOver e) := by
  have n7 := C.cn.1
  have n8 := C.cn.2.1
  have e17 : m 4 17 = e.1 4 17 := C.g4 (by decide) (by decide)
  unfold pcTakeOver at hf
  unfold fm_X11_takeOver pcTakeOver
  rw [lx_p, e17]
  by_cases c : e.1 4 17 = 0
  · rw [if_pos c, if_pos c]
    exact OKc.thr C
  · obtain ⟨hEa0, hEb⟩ := hE c
    rw [if_neg c] at hf
    rw [if_neg c, if_neg c, up_t]
    have C1 : CE (mset m 4 17 0) ow ad (eS e 4 17 0) := C.sG (Or.inl ⟨rfl, by decide, by decide⟩)
    have ha : ∀ a u, a ≠ 4 → (eS e 4 17 0).1 a u = e.1 a u := fun a u h => eS_a h
    have mo1 : MO e (eS e 4 17 0) := set_mo (Or.inr ⟨by decide, by decide⟩) (by decide) (by decide) (Or.inl (by decide))
    have hz1 : Lz 0 (eS e 4 17 0) := fun j j0 j1 => by
      rw [ha _ _ (by decide)] at j1
      unfold hN
      rw [ha _ _ (by omega), ha _ _ (by omega), ha _ _ (by omega)]
      exact hz j j0 j1
    obtain ⟨t1, ⟨t2, t3⟩, t4, t5, t6⟩ := tk1_f 31 0 0 (eS e 4 17 0) (Int.le_refl _) (by rw [ha _ _ (by decide)]; exact n7.2) (by rw [ha _ _ (by decide)]; exact n8.2) hz1
    rw [ha _ _ (by decide)] at t2 t3
    have hEa := hEa0 t2
    have hTy1 : TyO (eS e 4 17 0) := fun j j0 j1 => by
      rw [ha _ _ (by decide)] at j1
      rw [ha _ _ (by omega), ha _ _ (by omega)]
      exact hTO j j0 j1
    obtain ⟨w1, w2⟩ := tk2_f 31 0 (pTk1 31 0 0 (eS e 4 17 0)).2 (Int.le_refl _) (by omega) (by omega)
    have s7 := w1.2.1 7 (by decide) (by decide)
    have s8 := w1.2.1 8 (by decide) (by decide)
    have hz3 : Rz 0 (pTk2 31 0 (pTk1 31 0 0 (eS e 4 17 0)).2) := fun j j0 j1 => by
      rw [s7, t2] at j1
      refine ⟨w2 j j0 (by omega) (t5 (fun j j0 j1 => ?_) j j0 (by rw [ha _ _ (by decide)]; exact j1)), hH j j0 j1⟩
      rw [ha _ _ (by decide)] at j1
      exact hTm j j0 j1
    have mo3 := tk3_mo 31 0 (pTk2 31 0 (pTk1 31 0 0 (eS e 4 17 0)).2) (Int.le_refl _) (by omega) (by omega) hz3
    have hl1 := mo1.2 hl
    have hl2 := t1.2 hl1
    obtain ⟨m1, g1, ow1, D1⟩ := tk1_l (ad := ad) (K := fun x_109 m_119 =>
fl_X11_takeOver_73 x_109 (fun m_232 =>
fl_X11_takeOver_126 x_109  BIG 0 m_232) BIG 0 m_119) 31 BIG 0 0 _ ow _ C1 hz1 (Int.le_refl _) (by rw [ha _ _ (by decide)]; exact n7.1) (Int.le_refl _) (by decide) hl1 (hf.of (w1.1.tr mo3)) (by rw [ha _ _ (by decide)]; omega) (Nat.le_of_lt (BIG_g (by decide))) (by rw [ha _ _ (by decide)]; exact hEa)
    obtain ⟨m2, g2, ow2, D2⟩ := tk2_l (ad := ad) (z := (pTk1 31 0 0 (eS e 4 17 0)).1) (K := fun m_232 =>
fl_X11_takeOver_126 (pTk1 31 0 0 (eS e 4 17 0)).1  BIG 0 m_232) 31 BIG 0 m1 ow1 _ D1 (t4 hTy1) (Int.le_refl _) (by omega) hl2 (hf.of mo3) (by omega) (Nat.le_of_lt (BIG_g (by decide)))
    obtain ⟨m3, ad3, g3, g4, g5⟩ := tk3_l (z := (pTk1 31 0 0 (eS e 4 17 0)).1) 31 BIG 0 m2 ow2 ad _ D2 hz3 (Int.le_refl _) (by omega) (w1.1.2 hl2) hf (by omega) (Nat.le_of_lt (BIG_g (by decide))) (by rw [s7, t2]; exact hEb)
    refine ⟨m3, ad3, ?_, g4, fun c' i' hv => g5 c' i' (hv.mono (by omega) (by omega) ?_ ?_ fun t ht => ?_)⟩
    · rw [g1, g2, g3]
    · rw [w1.2.1 9 (by decide) (by decide), t6 9 (by omega), ha _ _ (by decide)]; omega
    · rw [w1.2.1 10 (by decide) (by decide), t6 10 (by omega), ha _ _ (by decide)]; omega
    · have := isT_b ht
      rw [w1.2.2.2.1 (t + 1) (by omega) (by omega), t6 (t + 1) (by omega), ha _ _ (by omega)]; omega
end TKO
