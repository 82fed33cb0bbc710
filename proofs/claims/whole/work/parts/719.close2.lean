/-! THE ENGINE: a run is closed, and those that are stopped by that. -/
section CL2
variable {m m' M2 : MM} {ow ow' : Int → Int} {ad ad' : Int → Int → Int} {e e' e1 e2 : ES} {D : Int → Prop} {a b c i j k o r v n h N B t x y z p q tn par pe inp fr to sz st res dep p1 p2 p3 p4 p5 p6 kd ln : Int} {l : List Int} {E : Int → Ev} {s : TS} {f : Int → Int}
/-- what becomes of the children of a run that is closed -/
def pDealL (rec : Int → Int → ES → ES) (r dep : Int) : Nat → Int → ES → ES
  | 0, _, e => e
  | n + 1, i, e => if i < e.1 7 2 then pDealL rec r dep n (i + 1) (if e.1 (7000 + i) 4 = r ∧ e.1 (7000 + i) 6 = 0 then (if e.1 (48 + 4 * e.1 (7000 + i) 1) 2 = 1 then (pCan i e).2 else if e.1 (48 + 4 * e.1 (7000 + i) 1) 2 = 2 ∧ dep < 40 then rec i (dep + 1) e else e) else e) else e
/-- the parent is told -/
def pUp (r st res : Int) (e : ES) : ES := if (0 ≤ e.1 (7000 + r) 4 ∧ e.1 (7000 + r) 4 < e.1 7 2) ∧ (e.1 (7000 + e.1 (7000 + r) 4) 6 = 0 ∨ e.1 (7000 + e.1 (7000 + r) 4) 6 = 6) then (if st = 1 then pArr (e.1 (7000 + r) 4) 5 (e.1 (7000 + r) 5) res e else pArr (e.1 (7000 + r) 4) 6 (e.1 (7000 + r) 5) 0 e) else e
def pClose : Nat → Int → Int → Int → Int → ES → ES
  | 0, _, _, _, _, e => e
  | n + 1, r, st, res, dep, e => pUp r st res (pDealL (fun i d e => pClose n i 5 0 d e) r dep 31 0 (pEnd r (eS e (7000 + r) 6 st)))
/-- what the types of runs and the events of their parents have to be -/
def TyO (e : ES) : Prop := ∀ i : Int, 0 ≤ i → i < e.1 7 2 → (0 ≤ e.1 (7000 + i) 1 ∧ e.1 (7000 + i) 1 < 4) ∧ 0 ≤ e.1 (7000 + i) 5 ∧ e.1 (7000 + i) 5 < 524288
theorem TyO.sf (h : TyO e) (k : SF e e') : TyO e' := fun i i0 i1 => by
  rw [k.1 7 (by decide) (by decide)] at i1
  have := (k.2.1 i i0 i1).1
  rw [this 1 (by omega), this 5 (by omega)]
  exact h i i0 i1
theorem up_cl (h7 : e.1 7 2 ≤ 1000) : CL e (pUp r st res e) := by
  unfold pUp
  split
  · rename_i c
    split
    · exact arr_cl c.1.1 (by omega) h7
    · exact arr_cl c.1.1 (by omega) h7
  · exact CL.rf
theorem deal_cl {rec : Int → Int → ES → ES} (hrec : ∀ (i d : Int) (e : ES), 0 ≤ i → i < 1000 → e.1 7 2 ≤ 1000 → e.1 8 2 ≤ 1000 → CL e (rec i d e)) : ∀ (n : Nat) (i : Int) (e : ES), 0 ≤ i → e.1 7 2 ≤ 1000 → e.1 8 2 ≤ 1000 → CL e (pDealL rec r dep n i e) := by
  intro n
  induction n with
  | zero => intro i e _ _ _; exact CL.rf
  | succ n ih =>
    intro i e i0 h7 h8
    unfold pDealL
    split
    · rename_i c
      have step : ∀ e1, CL e e1 → CL e (pDealL rec r dep n (i + 1) e1) := fun e1 h => h.tr (ih _ _ (by omega) (by rw [h.2.1 7 (by decide) (by decide)]; exact h7) (by rw [h.2.1 8 (by decide) (by decide)]; exact h8))
      refine step _ ?_
      split
      · split
        · exact can_cl i0 (by omega) h7
        · split
          · exact hrec i _ e i0 (by omega) h7 h8
          · exact CL.rf
      · exact CL.rf
    · exact CL.rf
theorem close_cl : ∀ (n : Nat) (r st res dep : Int) (e : ES), 0 ≤ r → r < 1000 → (st ≠ 0 ∧ st ≠ 6) → e.1 7 2 ≤ 1000 → e.1 8 2 ≤ 1000 → CL e (pClose n r st res dep e) := by
  intro n
  induction n with
  | zero => intro r st res dep e _ _ _ _ _; exact CL.rf
  | succ n ih =>
    intro r st res dep e r0 r1 hst h7 h8
    unfold pClose
    have h1 := stat_cl (e := e) (v := st) r0 r1 hst
    have h2 := h1.tr (end_cl (i := r) (e := eS e (7000 + r) 6 st) (by rw [h1.2.1 8 (by decide) (by decide)]; exact h8) (by rw [h1.2.1 7 (by decide) (by decide)]; exact h7))
    have h3 := h2.tr (deal_cl (r := r) (dep := dep) (rec := fun i d e => pClose n i 5 0 d e) (fun i d e i0 i1 g7 g8 => ih i 5 0 d e i0 i1 (by decide) g7 g8) 31 0 _ (by decide) (by rw [h2.2.1 7 (by decide) (by decide)]; exact h7) (by rw [h2.2.1 8 (by decide) (by decide)]; exact h8))
    exact h3.tr (up_cl (by rw [h3.2.1 7 (by decide) (by decide)]; exact h7))
theorem CE.tyOf (C : CE m ow ad e) (i0 : 0 ≤ i) (i1 : i < e.1 7 2) (t0 : 0 ≤ e.1 (7000 + i) 1) (t1 : e.1 (7000 + i) 1 < 4) : fm_X11_typeOf (ad 7 i) m = some (48 + 4 * e.1 (7000 + i) 1) := by
  unfold fm_X11_typeOf
  rw [gd_t (C.rk i0 i1), lx_p, C.rf i0 i1 (by decide) (by decide), bp_t (fmod_e (by omega) (by omega) (by decide) (by decide)), Int.emod_eq_of_lt t0 t1, gd_t ⟨t0, t1⟩, lx_p, (ar5 C.fix t0 t1).1]
/-- the children, where a run below is closed so -/
theorem deal_l {N : Nat} {rec : Int → Int → ES → ES} (hmo : ∀ (i d : Int) (e : ES), 0 ≤ i → i < 1000 → e.1 7 2 ≤ 1000 → e.1 8 2 ≤ 1000 → CL e (rec i d e)) (hrec : dep < 40 → ∀ (i : Int) (m : MM) (ow : Int → Int) (e : ES), CE m ow ad e → TyO e → BDl e → 0 ≤ i → i < e.1 7 2 → BDf (rec i (dep + 1) e) → ∃ m', fm_X11_closeRun N (ad 7 i) 5 0 (dep + 1) m = some (0, m') ∧ CX1 m' ad (rec i (dep + 1) e)) (hr : 0 ≤ r) (d0 : 0 ≤ dep) (d1 : dep ≤ 40) : ∀ (n f : Nat) (i : Int) (m : MM) (ow : Int → Int) (e : ES), CE m ow ad e → r < e.1 7 2 → TyO e → BDl e → BDf (pDealL rec r dep n i e) → 0 ≤ i → i ≤ e.1 7 2 → e.1 7 2 - i < n → n ≤ f → ∃ m', fl_X11_dealWithChildren_2 (fun c1 c2 c3 c4 m => fm_X11_closeRun N c1 c2 c3 c4 m) (ad 7 r) dep f i m = some (0, m') ∧ CX1 m' ad (pDealL rec r dep n i e) := by
  intro n
  induction n with
  | zero => intro f i m ow e C r1 hT hl hf i0 i9 h1 h2; omega
  | succ n ih =>
    intro f i m ow e C r1 hT hl hf i0 i9 h1 h2
    obtain ⟨f, rfl⟩ : ∃ g, f = g + 1 := ⟨f - 1, by omega⟩
    unfold fl_X11_dealWithChildren_2
    unfold pDealL at hf ⊢
    rw [bp_t (C.size (by decide) (by decide))]
    have n7 := C.cn.1
    have n8 := C.cn.2.1
    by_cases c1 : i < e.1 7 2
    · rw [if_pos c1] at hf ⊢
      have e4 : m (ad 7 i) 4 = e.1 (7000 + i) 4 := C.rf i0 c1 (by decide) (by decide)
      have e6 : m (ad 7 i) 6 = e.1 (7000 + i) 6 := C.rf i0 c1 (by decide) (by decide)
      have er : m (ad 7 r) 0 = r := by rw [C.rf hr r1 (by decide) (by decide)]; exact (C.run hr r1).2.2.2.2.1
      have fin : ∀ (m1 : MM) (ow1 : Int → Int) (e1 : ES), CE m1 ow1 ad e1 → CL e e1 → BDf (pDealL rec r dep n (i + 1) e1) → ∃ m', fl_X11_dealWithChildren_2 (fun c1 c2 c3 c4 m => fm_X11_closeRun N c1 c2 c3 c4 m) (ad 7 r) dep f (i + 1) m1 = some (0, m') ∧ CX1 m' ad (pDealL rec r dep n (i + 1) e1) := fun m1 ow1 e1 C1 h hf1 => by
        have hs7 := h.2.1 7 (by decide) (by decide)
        exact ih f (i + 1) m1 ow1 e1 C1 (by rw [hs7]; exact r1) (hT.sf h.2) (h.1.2 hl) hf1 (by omega) (by rw [hs7]; omega) (by rw [hs7]; omega) (by omega)
      have mo : ∀ e1, CL e e1 → MO e1 (pDealL rec r dep n (i + 1) e1) := fun e1 h => (deal_cl hmo n (i + 1) e1 (by omega) (by rw [h.2.1 7 (by decide) (by decide)]; omega) (by rw [h.2.1 8 (by decide) (by decide)]; omega)).1
      rw [if_pos c1, bp_t (C.get (by decide) (by decide) i0 c1), gd_t (C.rk i0 c1), lx_p, e4, gd_t (C.rk hr r1), lx_p, er]
      by_cases c2 : e.1 (7000 + i) 4 = r
      · rw [if_pos c2, lx_p, e6]
        by_cases c3 : e.1 (7000 + i) 6 = 0
        · rw [if_pos (show e.1 (7000 + i) 4 = r ∧ e.1 (7000 + i) 6 = 0 from ⟨c2, c3⟩)] at hf ⊢
          obtain ⟨⟨t0, t1⟩, -⟩ := hT i i0 c1
          have hty := C.tyOf i0 c1 t0 t1
          have ht := isT_4 t0 t1
          have hpol := (C.typ ht).2.2
          generalize 48 + 4 * e.1 (7000 + i) 1 = t at *
          rw [if_pos c3, bp_t hty, gd_t (C.tk ht), lx_p, hpol]
          by_cases c4 : e.1 t 2 = 1
          · rw [if_pos c4] at hf ⊢
            have hcl := can_cl (e := e) (i := i) i0 (by omega) (by omega)
            obtain ⟨m1, g1, ow1, C1⟩ := C.can2 i0 c1 (nDead (Or.inl c3)) hl (hf.of (mo _ hcl))
            rw [if_pos c4, bd_t g1, lx_p, w32_id (by omega) (by omega)]
            exact fin m1 ow1 _ C1 hcl hf
          · rw [if_neg c4] at hf ⊢
            rw [if_neg c4]
            by_cases c5 : e.1 t 2 = 2
            · rw [if_pos c5]
              by_cases c6 : dep < 40
              · rw [if_pos (show e.1 t 2 = 2 ∧ dep < 40 from ⟨c5, c6⟩)] at hf ⊢
                have hcl := hmo i (dep + 1) e i0 (by omega) (by omega) (by omega)
                obtain ⟨m1, g1, ow1, C1⟩ := hrec c6 i m ow e C hT hl i0 c1 (hf.of (mo _ hcl))
                rw [if_pos c6, w32_id (z := dep + 1) (by omega) (by omega), bd_t g1, lx_p, w32_id (by omega) (by omega)]
                exact fin m1 ow1 _ C1 hcl hf
              · rw [if_neg (show ¬ (e.1 t 2 = 2 ∧ dep < 40) from fun h => c6 h.2)] at hf ⊢
                rw [if_neg c6, lx_p, w32_id (by omega) (by omega)]
                exact fin m ow e C CL.rf hf
            · rw [if_neg (show ¬ (e.1 t 2 = 2 ∧ dep < 40) from fun h => c5 h.1)] at hf ⊢
              rw [if_neg c5, lx_p, w32_id (by omega) (by omega)]
              exact fin m ow e C CL.rf hf
        · rw [if_neg (show ¬ (e.1 (7000 + i) 4 = r ∧ e.1 (7000 + i) 6 = 0) from fun h => c3 h.2)] at hf ⊢
          rw [if_neg c3, lx_p, w32_id (by omega) (by omega)]
          exact fin m ow e C CL.rf hf
      · rw [if_neg (show ¬ (e.1 (7000 + i) 4 = r ∧ e.1 (7000 + i) 6 = 0) from fun h => c2 h.1)] at hf ⊢
        rw [if_neg c2, lx_p, w32_id (by omega) (by omega)]
        exact fin m ow e C CL.rf hf
    · rw [if_neg c1, if_neg c1]
      exact ⟨m, rfl, ow, C⟩
theorem CE.up (C : CE m ow ad e) (i0 : 0 ≤ r) (i1 : r < e.1 7 2) (hT : TyO e) (hl : BDl e) (hf : BDf (pUp r st res e)) (hres : 0 ≤ res ∧ res < 1000) : ∃ m', (bp (fm_X11_parentOf (ad 7 r) m) fun x_34 =>
if x_34 = 0 then
some ((0 : Int), m)
else
gd (okc m x_34 7) <| bp (fm_X6_isAlive x_34 m) fun x_52 =>
if x_52 = 0 then
some (0, m)
else
if st = 1 then
lx (m (ad 7 r) 5) fun x_92 =>
bd (fm_X11_arrive x_34 5 x_92 res m) fun x_95 m_96 =>
some (0, m_96)
else
lx (m (ad 7 r) 5) fun x_70 =>
bd (fm_X11_arrive x_34 6 x_70 0 m) fun x_75 m_76 =>
some (0, m_76)) = some (0, m') ∧ CX1 m' ad (pUp r st res e) := by
  have e4 : m (ad 7 r) 4 = e.1 (7000 + r) 4 := C.rf i0 i1 (by decide) (by decide)
  have e5 : m (ad 7 r) 5 = e.1 (7000 + r) 5 := C.rf i0 i1 (by decide) (by decide)
  have hpar : fm_X11_parentOf (ad 7 r) m = some (if 0 ≤ e.1 (7000 + r) 4 ∧ e.1 (7000 + r) 4 < e.1 7 2 then ad 7 (e.1 (7000 + r) 4) else 0) := by
    unfold fm_X11_parentOf
    rw [gd_t (C.rk i0 i1), lx_p, e4]
    by_cases c : e.1 (7000 + r) 4 < 0
    · rw [if_pos c, if_neg (by omega)]
    · rw [if_neg c, bp_t (C.size (by decide) (by decide))]
      by_cases c2 : e.1 (7000 + r) 4 < e.1 7 2
      · rw [if_pos c2, if_pos ⟨by omega, c2⟩, bp_t (C.get (by decide) (by decide) (by omega) c2), gd_t (C.rk (by omega) c2)]
      · rw [if_neg c2, if_neg (by omega)]
  unfold pUp at hf ⊢
  rw [bp_t hpar]
  by_cases c1 : 0 ≤ e.1 (7000 + r) 4 ∧ e.1 (7000 + r) 4 < e.1 7 2
  · have hk := C.rk c1.1 c1.2
    have hal := alive_e C c1.1 c1.2
    have hpe := (hT r i0 i1).2
    rw [if_pos c1, if_neg (by have := hk.1; omega), gd_t hk, bp_t hal]
    by_cases c2 : e.1 (7000 + e.1 (7000 + r) 4) 6 = 0 ∨ e.1 (7000 + e.1 (7000 + r) 4) 6 = 6
    · have cc : (0 ≤ e.1 (7000 + r) 4 ∧ e.1 (7000 + r) 4 < e.1 7 2) ∧ (e.1 (7000 + e.1 (7000 + r) 4) 6 = 0 ∨ e.1 (7000 + e.1 (7000 + r) 4) 6 = 6) := ⟨c1, c2⟩
      rw [if_pos c2, if_neg (show ¬ (1 : Int) = 0 by decide)]
      rw [if_pos cc] at hf ⊢
      by_cases c3 : st = 1
      · rw [if_pos c3] at hf
        obtain ⟨m1, g1, g2⟩ := C.arr (k := 5) (x := e.1 (7000 + r) 5) (y := res) c1.1 c1.2 (nDead c2) (hl.bd c1.1 hf) (by decide) (by decide) hpe.1 hpe.2 hres.1 (by omega)
        exact ⟨m1, by rw [if_pos c3, lx_p, e5, bd_t g1], by rw [if_pos c3]; exact g2⟩
      · rw [if_neg c3] at hf
        obtain ⟨m1, g1, g2⟩ := C.arr (k := 6) (x := e.1 (7000 + r) 5) (y := 0) c1.1 c1.2 (nDead c2) (hl.bd c1.1 hf) (by decide) (by decide) hpe.1 hpe.2 (by decide) (by decide)
        exact ⟨m1, by rw [if_neg c3, lx_p, e5, bd_t g1], by rw [if_neg c3]; exact g2⟩
    · rw [if_neg c2, if_pos (show (0 : Int) = 0 from rfl), if_neg (show ¬ ((0 ≤ e.1 (7000 + r) 4 ∧ e.1 (7000 + r) 4 < e.1 7 2) ∧ (e.1 (7000 + e.1 (7000 + r) 4) 6 = 0 ∨ e.1 (7000 + e.1 (7000 + r) 4) 6 = 6)) from fun h => c2 h.2)]
      exact ⟨m, rfl, ow, C⟩
  · rw [if_neg c1, if_pos (show (0 : Int) = 0 from rfl), if_neg (show ¬ ((0 ≤ e.1 (7000 + r) 4 ∧ e.1 (7000 + r) 4 < e.1 7 2) ∧ (e.1 (7000 + e.1 (7000 + r) 4) 6 = 0 ∨ e.1 (7000 + e.1 (7000 + r) 4) 6 = 6)) from fun h => c1 h.1)]
    exact ⟨m, rfl, ow, C⟩
theorem close_l : ∀ (n N : Nat) (r st res dep : Int) (m : MM) (ow : Int → Int) (e : ES), CE m ow ad e → 0 ≤ r → r < e.1 7 2 → (st ≠ 0 ∧ st ≠ 6) → 0 ≤ dep → dep ≤ 40 → 41 - dep ≤ n → n ≤ N → (0 ≤ res ∧ res < 1000) → TyO e → BDl e → BDf (pClose n r st res dep e) → ∃ m', fm_X11_closeRun N (ad 7 r) st res dep m = some (0, m') ∧ CX1 m' ad (pClose n r st res dep e) := by
  intro n
  induction n with
  | zero => intro N r st res dep m ow e C r0 r1 hst d0 d1 h1 h2 hres hT hl hf; omega
  | succ n ih =>
    intro N r st res dep m ow e C r0 r1 hst d0 d1 h1 h2 hres hT hl hf
    obtain ⟨N, rfl⟩ : ∃ g, N = g + 1 := ⟨N - 1, by omega⟩
    have n7 := C.cn.1
    have n8 := C.cn.2.1
    unfold pClose at hf ⊢
    have a1 := stat_cl (e := e) (v := st) r0 (by omega) hst
    have C1 := C.s7 (v := st) r0 r1 (j := 6) (by decide) (by decide) (fun _ _ => hst)
    have s7 := a1.2.1 7 (by decide) (by decide)
    have s8 := a1.2.1 8 (by decide) (by decide)
    obtain ⟨m2, g2, ow2, C2⟩ := C1.endw r0 (by rw [s7]; exact r1)
    have a2 := a1.tr (end_cl (i := r) (e := eS e (7000 + r) 6 st) (by rw [s8]; omega) (by rw [s7]; omega))
    have u7 := a2.2.1 7 (by decide) (by decide)
    have u8 := a2.2.1 8 (by decide) (by decide)
    have hmo : ∀ (i d : Int) (e : ES), 0 ≤ i → i < 1000 → e.1 7 2 ≤ 1000 → e.1 8 2 ≤ 1000 → CL e ((fun i d e => pClose n i 5 0 d e) i d e) := fun i d e i0 i1 g7 g8 => close_cl n i 5 0 d e i0 i1 (by decide) g7 g8
    have a3 := a2.tr (deal_cl (r := r) (dep := dep) hmo 31 0 _ (by decide) (by rw [u7]; omega) (by rw [u8]; omega))
    have v7 := a3.2.1 7 (by decide) (by decide)
    have upm := (up_cl (r := r) (st := st) (res := res) (e := pDealL (fun i d e => pClose n i 5 0 d e) r dep 31 0 (pEnd r (eS e (7000 + r) 6 st))) (by rw [v7]; omega)).1
    obtain ⟨m3, g3, ow3, C3⟩ := deal_l (ad := ad) (N := N) (rec := fun i d e => pClose n i 5 0 d e) (dep := dep) hmo (fun hd i m ow e C hT hl i0 i1 hf => ih N i 5 0 (dep + 1) m ow e C i0 i1 (by decide) (by omega) (by omega) (by omega) (by omega) (by decide) hT hl hf) r0 d0 d1 31 BIG 0 m2 ow2 _ C2 (by rw [u7]; exact r1) (hT.sf a2.2) (a2.1.2 hl) (hf.of upm) (by decide) (by rw [u7]; omega) (by rw [u7]; omega) (Nat.le_of_lt (BIG_g (by decide)))
    obtain ⟨m4, g4, g5⟩ := C3.up (r := r) (st := st) (res := res) r0 (by rw [v7]; exact r1) (hT.sf a3.2) (a3.1.2 hl) hf hres
    refine ⟨m4, ?_, g5⟩
    show fb_X11_closeRun _ (ad 7 r) st res dep m = _
    unfold fb_X11_closeRun
    rw [gd_t (C.rk r0 r1), up_t, bd_t g2]
    have g3' : fb_X11_dealWithChildren (fun c1 c2 c3 c4 m => fm_X11_closeRun N c1 c2 c3 c4 m) (ad 7 r) dep m2 = some (0, m3) := g3
    rw [bd_t g3']
    exact g4
end CL2
