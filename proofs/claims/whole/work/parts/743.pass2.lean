/-! THE ENGINE: the call pass, as it goes. -/
section PA2
variable {m m' M2 m0 : MM} {ow ow' : Int → Int} {ad ad' ad1 : Int → Int → Int} {e e' e0 e1 e2 : ES} {D : Int → Prop} {a b c i j k o r v w h B t y z q lim c2 c3 p p1 p2 p3 N st res dep fin : Int} {n : Nat} {x : CX} {l : List Int} {E : Int → Ev} {s S : TS} {f : Int → Int}
/-- what a step leaves -/
def ST (e e' : ES) : Prop := MO e e' ∧ e'.1 4 14 = e.1 4 14 ∧ (∀ c : Int, 8 ≤ c → c ≤ 10 → e'.1 c 2 = e.1 c 2) ∧ e.1 7 2 ≤ e'.1 7 2 ∧ ∀ t, isT t → e'.1 (t + 1) 2 = e.1 (t + 1) 2
theorem ST.rf : ST e e := ⟨MO.rf, rfl, fun _ _ _ => rfl, Int.le_refl _, fun _ _ => rfl⟩
theorem ST.tr (h : ST e e1) (k : ST e1 e2) : ST e e2 := ⟨h.1.tr k.1, k.2.1.trans h.2.1, fun c h1 h2 => (k.2.2.1 c h1 h2).trans (h.2.2.1 c h1 h2), Int.le_trans h.2.2.2.1 k.2.2.2.1, fun t ht => (k.2.2.2.2 t ht).trans (h.2.2.2.2 t ht)⟩
theorem ST.lv (h : ST e e') (hv : LvA e c i) : LvA e' c i := hv.mono h.2.2.2.1 (by rw [h.2.2.1 8 (by decide) (by decide)]; omega) (by rw [h.2.2.1 9 (by decide) (by decide)]; omega) (by rw [h.2.2.1 10 (by decide) (by decide)]; omega) fun t ht => by rw [h.2.2.2.2 t ht]; omega
theorem ST.cl (h : CL e e') : ST e e' := ⟨h.1, h.2.2.2.2, fun c h1 h2 => h.2.1 c (by omega) h2, by rw [h.2.1 7 (by decide) (by decide)]; omega, fun t ht => by have := isT_b ht; exact h.2.2.2.1 (t + 1) (by omega) (by omega)⟩
theorem ST.mt (h : MT p e e') : ST e e' := ⟨h.1, h.2.2.2.2.2.1.1, h.2.1, h.2.2.1.1, h.2.2.2.2.2.2⟩
theorem act_cl (p0 : 0 ≤ p) (p1 : p < 1000) (h7 : e.1 7 2 ≤ 1000) : CL e (eS e (8000 + p) j v) := ⟨set_mo (Or.inl (by omega)) (by omega) (by omega) (Or.inl (by omega)), SF.of fun a u ha hb => eS_a (by omega)⟩
theorem fire_st (r0 : 0 ≤ r) (r1 : r < 1000) (h7 : e.1 7 2 ≤ 1000) : ST e (pFire r e) := ST.cl (fireL_cl r0 r1 _ _ _ h7)
theorem lookA_st (h : PW e) (p0 : 0 ≤ p) (p1 : p < e.1 8 2) : ST e (pLookA p e) := by
  have n := h.1.2
  have n7 := n.1
  have n8 := n.2.1
  have q2 := (h.2.2.1 p p0 p1).2.1
  have set : ∀ (e1 : ES) (j v : Int), e1.1 7 2 ≤ 1000 → CL e1 (eS e1 (8000 + p) j v) := fun e1 j v g => act_cl p0 (by omega) g
  have s7 : ∀ j v, (eS e (8000 + p) j v).1 7 2 ≤ 1000 := fun j v => by rw [eS_a (by omega)]; omega
  have ar : ST e (pArr (e.1 (8000 + p) 0) 2 (e.1 (8000 + p) 1) 0 (eS e (8000 + p) 5 2)) := ST.cl ((set e 5 2 (by omega)).tr (arr_cl q2.1 (by omega) (s7 5 2)))
  unfold pLookA
  split
  · split
    · exact ar
    · exact ST.rf
  · split
    · unfold pMiss
      split
      · exact ST.cl ((set e 5 0 (by omega)).tr (set _ 7 _ (s7 5 0)))
      · exact ar
    · exact ST.rf
theorem lookS_st (h : PW e) (p0 : 0 ≤ p) (p1 : p < e.1 10 2) : ST e (pLookS p e) := by
  have n := h.1.2
  have n7 := n.1
  have hp : p < 1000 := by have := n.2.2.2.1; omega
  have mt := lkS1_mt (e := e) (p := p) n7.1 p0 hp
  have g1 := mt.2.2.1.1
  have g2 := mt.2.2.1.2 n7.2
  unfold pLookS
  refine (ST.mt mt).tr ?_
  generalize pLkS1 p e = e1 at *
  unfold pLk29
  refine (ST.mt (schL_mt p0 hp _ _ _ (by omega) g2)).tr ⟨set4_mo p0 hp, eS_a (by omega), fun c h1 h2 => eS_a (by omega), by rw [eS_a (by omega)]; omega, fun t ht => eS_a (by have := isT_b ht; omega)⟩
def pFrL : Nat → Int → ES → ES
  | 0, _, e => e
  | n + 1, i, e => if i < e.1 7 2 then pFrL n (i + 1) (pFire i e) else e
def pLaL : Nat → Int → ES → ES
  | 0, _, e => e
  | n + 1, i, e => if i < e.1 8 2 then pLaL n (i + 1) (pLookA i e) else e
def pLsL : Nat → Int → ES → ES
  | 0, _, e => e
  | n + 1, i, e => if i < e.1 10 2 then pLsL n (i + 1) (pLookS i e) else e
def pTick (e : ES) : ES := pLsL 5 0 (pLaL 61 0 (pFrL 31 0 (pBT e)))
def pPasL : Nat → ES → ES
  | 0, e => e
  | n + 1, e => pPasL n (pTick e)
def pcPass (p1 : Int) (e : ES) : (Int ⊕ Nat) × ES := if p1 < 1 ∨ 100 < p1 then rT 1 e else (.inl ((pPasL p1.toNat e).1 4 14), pPasL p1.toNat e)
/-- what the counts come to at most, with one to spare -/
def BDs (e : ES) : Prop := e.1 4 16 < 1048576 ∧ e.1 3 0 < 268435456 ∧ e.1 3 1 < 268435456
theorem BDs.of (h : BDs e') (k : MO e e') : BDs e := ⟨Int.lt_of_le_of_lt k.1.1 h.1, Int.lt_of_le_of_lt k.1.2.1 h.2.1, Int.lt_of_le_of_lt k.1.2.2 h.2.2⟩
theorem BDs.toF (h : BDs e) : BDf e := ⟨Int.le_of_lt h.1, Int.le_of_lt h.2.1, h.2.2⟩
theorem BDl.bs (h : BDl e) (k : BDs e) : BD e := ⟨h.1, ⟨h.2.1, k.1⟩, ⟨h.2.2.1, k.2.1⟩, h.2.2.2.2.1⟩
theorem frL_f : ∀ (n : Nat) (i : Int) (e : ES), PW e → 0 ≤ i → ST e (pFrL n i e) ∧ PW (pFrL n i e) := by
  intro n
  induction n with
  | zero => intro i e h _; exact ⟨ST.rf, h⟩
  | succ n ih =>
    intro i e h i0
    have n7 := h.1.2.1
    unfold pFrL
    split
    · have k : PW (pFire i e) := PW.fireL i0 (by omega) _ _ _ h
      obtain ⟨g1, g2⟩ := ih (i + 1) (pFire i e) k (by omega)
      exact ⟨(fire_st i0 (by omega) (by omega)).tr g1, g2⟩
    · exact ⟨ST.rf, h⟩
theorem laL_f : ∀ (n : Nat) (i : Int) (e : ES), PW e → 0 ≤ i → 0 ≤ e.1 4 14 ∧ e.1 4 14 < 1000000 → ST e (pLaL n i e) ∧ PW (pLaL n i e) := by
  intro n
  induction n with
  | zero => intro i e h _ _; exact ⟨ST.rf, h⟩
  | succ n ih =>
    intro i e h i0 ht
    unfold pLaL
    split
    · rename_i c
      have s := lookA_st h i0 c
      obtain ⟨g1, g2⟩ := ih (i + 1) (pLookA i e) (h.lookA i0 c ht) (by omega) (by rw [s.2.1]; exact ht)
      exact ⟨s.tr g1, g2⟩
    · exact ⟨ST.rf, h⟩
theorem lsL_f : ∀ (n : Nat) (i : Int) (e : ES), PW e → 0 ≤ i → 0 ≤ e.1 4 14 ∧ e.1 4 14 < 1000000 → ST e (pLsL n i e) ∧ PW (pLsL n i e) := by
  intro n
  induction n with
  | zero => intro i e h _ _; exact ⟨ST.rf, h⟩
  | succ n ih =>
    intro i e h i0 ht
    unfold pLsL
    split
    · rename_i c
      have s := lookS_st h i0 c
      obtain ⟨g1, g2⟩ := ih (i + 1) (pLookS i e) (h.lookS i0 c ht) (by omega) (by rw [s.2.1]; exact ht)
      exact ⟨s.tr g1, g2⟩
    · exact ⟨ST.rf, h⟩
theorem fire_e (C : CE m ow ad e) (h : PW e) (r0 : 0 ≤ r) (r1 : r < e.1 7 2) (hb : BDl e) (hf : BDf (pFire r e)) (hL : e.1 3 1 < 268435456) : ∃ m', fm_X11_fireTimers (ad 7 r) m = some (0, m') ∧ CX1 m' ad (pFire r e) := by
  obtain ⟨⟨b1, b2, b3⟩, hD⟩ := h.2.1 r r0 r1
  have hlen := hb.2.2.2.2.2.2 73 r (by omega) r0 r1
  have hlen' : ((eL e (73000 + r)).length : Int) ≤ e.1 3 1 := hlen
  have lt := C.lv7 (c := 73) (i := r) (by omega) r0 r1
  have hs : m (ad 73 r) 2 = ((eL e (73000 + r)).length : Int) := (C.okr lt).2
  obtain ⟨m1, g1, g2⟩ := fireL_l (ad := ad) (z := ((eL e (73000 + r)).length : Int)) r0 (by omega) (eL e (73000 + r)).length BIG 0 0 m ow e C r1 b1 b2 b3 hD (by decide) (by omega) (by decide) (by decide) (by omega) hb hf (BIG_g (by omega))
  refine ⟨m1, ?_, g2⟩
  unfold fm_X11_fireTimers
  rw [gd_t (C.rk r0 r1), lx_p, (C.run r0 r1).2.2.2.2.2.2.1, gd_t (C.okr lt).1, lx_p, hs, g1]
theorem frL_l {K : MM → Option ((Int ⊕ Nat) × MM)} : ∀ (n f : Nat) (i : Int) (m : MM) (ow : Int → Int) (e : ES), CE m ow ad e → PW e → BDl e → BDs (pFrL n i e) → 0 ≤ i → i ≤ e.1 7 2 → e.1 7 2 - i < n → n ≤ f → ∃ m', fl_X11_pass_35 y z K f i m = K m' ∧ CX1 m' ad (pFrL n i e) := by
  intro n
  induction n with
  | zero => intro f i m ow e C h hl hf i0 i9 h1 h2; omega
  | succ n ih =>
    intro f i m ow e C h hl hf i0 i9 h1 h2
    obtain ⟨f, rfl⟩ : ∃ g, f = g + 1 := ⟨f - 1, by omega⟩
    have n7 := h.1.2.1
    unfold pFrL at hf ⊢
    rw [fl_X11_pass_35, bp_t (C.size (c := 7) (by decide) (by decide))]
    by_cases c : i < e.1 7 2
    · rw [if_pos c] at hf ⊢
      rw [if_pos c]
      have s := fire_st (e := e) (r := i) i0 (by omega) (by omega)
      have s7 := (fireL_cl (r := i) i0 (by omega) (eL e (73000 + i)).length 0 e (by omega)).2.1 7 (by decide) (by decide)
      have s7' : (pFire i e).1 7 2 = e.1 7 2 := s7
      have k : PW (pFire i e) := PW.fireL i0 (by omega) _ _ _ h
      have hr := (frL_f n (i + 1) (pFire i e) k (by omega)).1.1
      have hf1 := hf.of hr
      obtain ⟨m1, g1, ow1, C1⟩ := fire_e C h i0 c hl hf1.toF (hf1.of s.1).2.2
      obtain ⟨m2, k1, k2⟩ := ih f (i + 1) m1 ow1 _ C1 k (s.1.2 hl) hf (by omega) (by omega) (by omega) (by omega)
      refine ⟨m2, ?_, k2⟩
      rw [bp_t (C.get (c := 7) (by decide) (by decide) i0 c), gd_t (C.rk i0 c), bd_t g1, lx_p, w32_id (by omega) (by omega)]
      exact k1
    · rw [if_neg c, if_neg c]
      exact ⟨m, rfl, ow, C⟩
theorem laL_l {K : MM → Option ((Int ⊕ Nat) × MM)} : ∀ (n f : Nat) (i : Int) (m : MM) (ow : Int → Int) (e : ES), CE m ow ad e → PW e → BDl e → BDs (pLaL n i e) → 0 ≤ i → i ≤ e.1 8 2 → e.1 8 2 - i < n → n ≤ f → ∃ m', fl_X11_pass_69 y z K f i m = K m' ∧ CX1 m' ad (pLaL n i e) := by
  intro n
  induction n with
  | zero => intro f i m ow e C h hl hf i0 i9 h1 h2; omega
  | succ n ih =>
    intro f i m ow e C h hl hf i0 i9 h1 h2
    obtain ⟨f, rfl⟩ : ∃ g, f = g + 1 := ⟨f - 1, by omega⟩
    have n8 := h.1.2.2.1
    unfold pLaL at hf ⊢
    rw [fl_X11_pass_69, bp_t (C.size (c := 8) (by decide) (by decide))]
    by_cases c : i < e.1 8 2
    · rw [if_pos c] at hf ⊢
      rw [if_pos c]
      have s := lookA_st h i0 c
      have k := h.lookA i0 c hl.1
      have s8 := s.2.2.1 8 (by decide) (by decide)
      have hr := (laL_f n (i + 1) (pLookA i e) k (by omega) (by rw [s.2.1]; exact hl.1)).1.1
      have hf1 := (hf.of hr).of s.1
      obtain ⟨q1, q2, q3⟩ := h.2.2.1 i i0 c
      obtain ⟨m1, g1, ow1, C1⟩ := C.lookA (hl.bs hf1) h.1.1 q1 q3 i0 c
      obtain ⟨m2, k1, k2⟩ := ih f (i + 1) m1 ow1 _ C1 k (s.1.2 hl) hf (by omega) (by omega) (by omega) (by omega)
      refine ⟨m2, ?_, k2⟩
      rw [bp_t (C.get (c := 8) (by decide) (by decide) i0 c), gd_t (C.act i0 c).1, bd_t g1, lx_p, w32_id (by omega) (by omega)]
      exact k1
    · rw [if_neg c, if_neg c]
      exact ⟨m, rfl, ow, C⟩
theorem lsL_l {K : MM → Option ((Int ⊕ Nat) × MM)} : ∀ (n f : Nat) (i : Int) (m : MM) (ow : Int → Int) (ad : Int → Int → Int) (e : ES), CE m ow ad e → PW e → BDl e → BDs (pLsL n i e) → 0 ≤ i → i ≤ e.1 10 2 → e.1 10 2 - i < n → n ≤ f → ∃ m' ad', fl_X11_pass_103 y z K f i m = K m' ∧ CX1 m' ad' (pLsL n i e) ∧ AG e ad ad' := by
  intro n
  induction n with
  | zero => intro f i m ow ad e C h hl hf i0 i9 h1 h2; omega
  | succ n ih =>
    intro f i m ow ad e C h hl hf i0 i9 h1 h2
    obtain ⟨f, rfl⟩ : ∃ g, f = g + 1 := ⟨f - 1, by omega⟩
    have n10 := h.1.2.2.2.2.1
    unfold pLsL at hf ⊢
    rw [fl_X11_pass_103, bp_t (C.size (c := 10) (by decide) (by decide))]
    by_cases c : i < e.1 10 2
    · rw [if_pos c] at hf ⊢
      rw [if_pos c]
      have s := lookS_st h i0 c
      have k := h.lookS i0 c hl.1
      have s10 := s.2.2.1 10 (by decide) (by decide)
      have hr := (lsL_f n (i + 1) (pLookS i e) k (by omega) (by rw [s.2.1]; exact hl.1)).1.1
      obtain ⟨q1, q2⟩ := h.2.2.2 i i0 c
      obtain ⟨m1, ad1, g1, ⟨ow1, C1⟩, g3⟩ := C.lookS i0 c q1 hl (hf.of hr).toF h.1.1.1 q2
      obtain ⟨m2, ad2, k1, k2, k3⟩ := ih f (i + 1) m1 ow1 ad1 _ C1 k (s.1.2 hl) hf (by omega) (by omega) (by omega) (by omega)
      refine ⟨m2, ad2, ?_, k2, g3.tr k3 fun c i hv => s.lv hv⟩
      rw [bp_t (C.get (c := 10) (by decide) (by decide) i0 c), gd_t (C.sch i0 c).1, bd_t g1, lx_p, w32_id (by omega) (by omega)]
      exact k1
    · rw [if_neg c, if_neg c]
      exact ⟨m, ad, rfl, ⟨ow, C⟩, AG.rf⟩
/-- a tick grows the counts alone -/
theorem bt_g (hl : BDl e) (h : e.1 4 14 + 1 < 1000000) : (e.1 4 16 ≤ (pBT e).1 4 16 ∧ e.1 3 0 ≤ (pBT e).1 3 0 ∧ e.1 3 1 ≤ (pBT e).1 3 1) ∧ BDl (pBT e) := ⟨⟨by rw [bt_a (by decide) (by decide)]; omega, by rw [bt_a (by decide) (by decide)]; omega, by rw [bt_a (by decide) (by decide)]; omega⟩, bt_l hl h⟩
theorem tick_f (h : PW e) (hl : BDl e) (ht : e.1 4 14 + 1 < 1000000) : PW (pTick e) ∧ BDl (pTick e) ∧ (pTick e).1 4 14 = e.1 4 14 + 1 ∧ ST (pBT e) (pLaL 61 0 (pFrL 31 0 (pBT e))) ∧ (ST (pBT e) (pFrL 31 0 (pBT e)) ∧ PW (pFrL 31 0 (pBT e))) ∧ ST (pFrL 31 0 (pBT e)) (pLaL 61 0 (pFrL 31 0 (pBT e))) ∧ PW (pLaL 61 0 (pFrL 31 0 (pBT e))) ∧ ST (pLaL 61 0 (pFrL 31 0 (pBT e))) (pTick e) := by
  have hl0 := (bt_g hl ht).2
  have t0 : (pBT e).1 4 14 = e.1 4 14 + 1 := bt_t
  have h4 := hl.1
  obtain ⟨g1, g2⟩ := frL_f 31 0 (pBT e) h.bt (Int.le_refl _)
  obtain ⟨k1, k2⟩ := laL_f 61 0 (pFrL 31 0 (pBT e)) g2 (Int.le_refl _) (by rw [g1.2.1, t0]; omega)
  obtain ⟨q1, q2⟩ := lsL_f 5 0 (pLaL 61 0 (pFrL 31 0 (pBT e))) k2 (Int.le_refl _) (by rw [k1.2.1, g1.2.1, t0]; omega)
  have s := (g1.tr k1).tr q1
  exact ⟨q2, s.1.2 hl0, s.2.1.trans t0, g1.tr k1, ⟨g1, g2⟩, k1, k2, q1⟩
theorem pas_g : ∀ (n : Nat) (e : ES), PW e → BDl e → e.1 4 14 + n < 1000000 → (BDs (pPasL n e) → BDs e) := by
  intro n
  induction n with
  | zero => intro e _ _ _ g; exact g
  | succ n ih =>
    intro e h hl ht g
    obtain ⟨f1, f2, f3, f4, -, -, -, f8⟩ := tick_f h hl (by omega)
    have g1 := (ih (pTick e) f1 f2 (by omega) g).of (f4.tr f8).1
    obtain ⟨⟨b1, b2, b3⟩, -⟩ := bt_g hl (show e.1 4 14 + 1 < 1000000 by omega)
    exact ⟨Int.lt_of_le_of_lt b1 g1.1, Int.lt_of_le_of_lt b2 g1.2.1, Int.lt_of_le_of_lt b3 g1.2.2⟩
theorem pas_l : ∀ (n f : Nat) (i : Int) (m : MM) (ow : Int → Int) (ad : Int → Int → Int) (e : ES), CE m ow ad e → PW e → BDl e → BDs (pPasL n e) → e.1 4 14 + n < 1000000 → 0 ≤ i → i + n = N → N < 1000000 → n < f → ∃ m' ad', fl_X11_pass_24 N f i m = some (.inl ((pPasL n e).1 4 14), m') ∧ CX1 m' ad' (pPasL n e) ∧ AG e ad ad' := by
  intro n
  induction n with
  | zero =>
    intro f i m ow ad e C h hl hf ht i0 iN hN h2
    obtain ⟨f, rfl⟩ : ∃ g, f = g + 1 := ⟨f - 1, by omega⟩
    have e14 : m 4 14 = e.1 4 14 := C.g4 (by decide) (by decide)
    rw [fl_X11_pass_24, if_neg (by omega), lx_p, e14]
    exact ⟨m, ad, rfl, ⟨ow, C⟩, AG.rf⟩
  | succ n ih =>
    intro f i m ow ad e C h hl hf ht i0 iN hN h2
    obtain ⟨f, rfl⟩ : ∃ g, f = g + 1 := ⟨f - 1, by omega⟩
    unfold pPasL at hf ⊢
    obtain ⟨f1, f2, f3, f4, ⟨f5, f6⟩, f7, f9, f8⟩ := tick_f h hl (by omega)
    have hs := pas_g n (pTick e) f1 f2 (by omega) hf
    have hl0 := (bt_g hl (show e.1 4 14 + 1 < 1000000 by omega)).2
    obtain ⟨m1, g1, C1⟩ := C.tick hl (by omega)
    obtain ⟨m2, g2, ow2, C2⟩ := frL_l (ad := ad) (y := N) (z := i) (K := fun m_101 =>
fl_X11_pass_69 N i (fun m_175 =>
fl_X11_pass_103 N i (fun m_249 =>
lx (w32 (i + 1)) fun x_259 =>
fl_X11_pass_24 N f x_259 m_249) BIG 0 m_175) BIG 0 m_101) 31 BIG 0 m1 ow _ C1 h.bt hl0 ((hs.of f8.1).of f7.1) (Int.le_refl _) C1.cn.1.1 (by have := C1.cn.1; omega) (Nat.le_of_lt (BIG_g (by decide)))
    obtain ⟨m3, g3, ow3, C3⟩ := laL_l (ad := ad) (y := N) (z := i) (K := fun m_175 =>
fl_X11_pass_103 N i (fun m_249 =>
lx (w32 (i + 1)) fun x_259 =>
fl_X11_pass_24 N f x_259 m_249) BIG 0 m_175) 61 BIG 0 m2 ow2 _ C2 f6 (f5.1.2 hl0) (hs.of f8.1) (Int.le_refl _) C2.cn.2.1.1 (by have := C2.cn.2.1; omega) (Nat.le_of_lt (BIG_g (by decide)))
    obtain ⟨m4, ad4, g4, ⟨ow4, C4⟩, k4⟩ := lsL_l (y := N) (z := i) (K := fun m_249 =>
lx (w32 (i + 1)) fun x_259 =>
fl_X11_pass_24 N f x_259 m_249) 5 BIG 0 m3 ow3 ad _ C3 f9 (f4.1.2 hl0) hs (Int.le_refl _) C3.cn.2.2.2.1.1 (by have := C3.cn.2.2.2.1; omega) (Nat.le_of_lt (BIG_g (by decide)))
    have C4' : CE m4 ow4 ad4 (pTick e) := C4
    obtain ⟨m5, ad5, g5, g6, g7⟩ := ih f (i + 1) m4 ow4 ad4 _ C4' f1 f2 hf (by omega) (by omega) (by omega) hN (by omega)
    have lv1 : ∀ c i, LvA e c i → LvA (pBT e) c i := fun c i hv => hv.mono (by rw [bt_a (by decide) (by decide)]; omega) (by rw [bt_a (by decide) (by decide)]; omega) (by rw [bt_a (by decide) (by decide)]; omega) (by rw [bt_a (by decide) (by decide)]; omega) fun t ht => by have := isT_b ht; rw [bt_a (by omega) (by omega)]; omega
    refine ⟨m5, ad5, ?_, g6, fun c' i' hv => ?_⟩
    · rw [fl_X11_pass_24, if_pos (by omega), bd_t g1, g2, g3, g4, lx_p, w32_id (by omega) (by omega)]
      exact g5
    · have v1 := f4.lv (lv1 c' i' hv)
      rw [g7 c' i' (f8.lv v1), k4 c' i' v1]
theorem c_pass (C : CE m ow ad e) (h : PW e) (hl : BDl e) (hf : 1 ≤ p1 → p1 ≤ 100 → BDs (pPasL p1.toNat e)) (ht : e.1 4 14 + 100 < 1000000) : OKc e ad (fm_X11_pass p1 m) (pcPass p1 e) := by
  unfold fm_X11_pass pcPass
  by_cases c1 : p1 < 1
  · rw [if_pos c1, if_pos (Or.inl c1)]; exact OKc.thr C
  rw [if_neg c1]
  by_cases c2 : 100 < p1
  · rw [if_pos c2, if_pos (Or.inr c2)]; exact OKc.thr C
  rw [if_neg c2, if_neg (show ¬ (p1 < 1 ∨ 100 < p1) by omega)]
  exact pas_l (N := p1) p1.toNat BIG 0 m ow ad e C h hl (hf (by omega) (by omega)) (by omega) (Int.le_refl _) (by omega) (by omega) (BIG_g (by omega))
end PA2
