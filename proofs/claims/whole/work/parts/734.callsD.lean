/-! THE ENGINE: the calls runs, bringIn, backfill, and 27. -/
section CDD
variable {m m' M2 m0 : MM} {ow ow' : Int → Int} {ad ad' ad1 : Int → Int → Int} {e e' e0 e1 e2 : ES} {D : Int → Prop} {a b c i j k o r v w h B t y z q lim c2 c3 p p1 p2 p3 N : Int} {n : Nat} {x : CX} {l : List Int} {E : Int → Ev} {s S : TS} {f : Int → Int}
theorem c_runs (C : CE m ow ad e) : fm_X11_runs m = some (e.1 7 2) := by
  unfold fm_X11_runs
  rw [bp_t (C.size (c := 7) (by decide) (by decide))]
/-- one TAG is brought in -/
def pBr1 (e : ES) : ES := eS (if (eL e 14).getD (e.1 4 12).toNat 0 / 1000 < e.1 7 2 then eS e (7000 + (eL e 14).getD (e.1 4 12).toNat 0 / 1000) 11 ((eL e 14).getD (e.1 4 12).toNat 0 % 1000) else e) 4 12 (e.1 4 12 + 1)
def pBrL (N : Int) : Nat → Int → ES → (Int ⊕ Nat) × ES
  | 0, _, e => (.inl 0, e)
  | n + 1, i, e => if i < N then (if e.1 4 12 < e.1 4 11 then pBrL N n (i + 1) (pBr1 e) else (.inl (e.1 4 11 - e.1 4 12), e)) else (.inl (e.1 4 11 - e.1 4 12), e)
def pcBringIn (p1 : Int) (e : ES) : (Int ⊕ Nat) × ES := if p1 < 1 ∨ 100 < p1 then rT 1 e else pBrL p1 (p1.toNat + 1) 0 e
theorem br1_a {u : Int} (h : a ≠ 4 ∨ u ≠ 12) (h2 : a < 7000 ∨ u ≠ 11) (hv : ∀ v ∈ eL e 14, 0 ≤ v ∧ v < 30000) : (pBr1 e).1 a u = e.1 a u := by
  have hg : 0 ≤ (eL e 14).getD (e.1 4 12).toNat 0 := by
    rw [List.getD_eq_getElem?_getD]
    cases hh : (eL e 14)[(e.1 4 12).toNat]? with
    | none => exact Int.le_refl _
    | some w => exact (hv w (List.mem_of_getElem? hh)).1
  have h5 : ∀ (e1 : ES) (v : Int), (eS e1 4 12 v).1 a u = e1.1 a u := fun e1 v => by
    by_cases c : a = 4
    · subst c
      exact eS_j (by omega)
    · exact eS_a c
  unfold pBr1
  rw [h5]
  split
  · by_cases c : a = 7000 + (eL e 14).getD (e.1 4 12).toNat 0 / 1000
    · rw [← c]
      exact eS_j (by omega)
    · exact eS_a c
  · rfl
theorem br1_12 : (pBr1 e).1 4 12 = e.1 4 12 + 1 := eS_e
theorem br1_l : eL (pBr1 e) c = eL e c := by
  unfold pBr1
  split <;> rfl
theorem br_l : ∀ (n f : Nat) (i : Int) (m : MM) (ow : Int → Int) (e : ES), CE m ow ad e → (∀ v ∈ eL e 14, 0 ≤ v ∧ v < 30000) → 0 ≤ e.1 4 12 ∧ e.1 4 12 ≤ e.1 4 11 → 0 ≤ e.1 4 11 ∧ e.1 4 11 < 2000000000 → 0 ≤ i → i ≤ N → N < 2000000 → N - i < n → n ≤ f → ∃ m', fl_X11_bringIn_24 N f i m = some ((pBrL N n i e).1, m') ∧ CX1 m' ad (pBrL N n i e).2 := by
  intro n
  induction n with
  | zero =>
    intro f i m ow e C hv h12 h11 i0 i1 hN h1 h2
    omega
  | succ n ih =>
    intro f i m ow e C hv h12 h11 i0 i1 hN h1 h2
    obtain ⟨f, rfl⟩ : ∃ g, f = g + 1 := ⟨f - 1, by omega⟩
    have n7 := C.cn.1
    have e11 : m 4 11 = e.1 4 11 := C.g4 (by decide) (by decide)
    have e12 : m 4 12 = e.1 4 12 := C.g4 (by decide) (by decide)
    unfold fl_X11_bringIn_24 pBrL
    by_cases c1 : i < N
    · rw [if_pos c1, if_pos c1, lx_p, e12, lx_p, e11]
      by_cases c2 : e.1 4 12 < e.1 4 11
      · have lv : LvR e 0 14 := Or.inl ⟨rfl, rfl⟩
        have a14 : ad 0 14 = 14 := C.1.2.2.2.1.2
        have hw := C.rat (n := e.1 4 12) lv h12.1
        rw [a14] at hw
        have hg : 0 ≤ (eL e 14).getD (e.1 4 12).toNat 0 ∧ (eL e 14).getD (e.1 4 12).toNat 0 < 30000 := by
          rw [List.getD_eq_getElem?_getD]
          cases hh : (eL e 14)[(e.1 4 12).toNat]? with
          | none => exact ⟨Int.le_refl _, by decide⟩
          | some w => exact hv w (List.mem_of_getElem? hh)
        have hat : fm_X5_at 14 (e.1 4 12) m = some ((eL e 14).getD (e.1 4 12).toNat 0) := by
          unfold fm_X5_at
          rw [bp_t hw]
          congr 1
          exact w32_id (by show _ ≤ (eL e 14).getD (e.1 4 12).toNat 0; omega) (by show (eL e 14).getD (e.1 4 12).toNat 0 < _; omega)
        have go : ∀ m1, CE m1 ow ad (pBr1 e) → ∃ m', fl_X11_bringIn_24 N f (i + 1) m1 = some ((pBrL N n (i + 1) (pBr1 e)).1, m') ∧ CX1 m' ad (pBrL N n (i + 1) (pBr1 e)).2 := fun m1 C1 =>
          ih f (i + 1) m1 ow _ C1 (by rw [br1_l]; exact hv) (by rw [br1_12, br1_a (by omega) (by omega) hv]; omega) (by rw [br1_a (by omega) (by omega) hv]; exact h11) (by omega) (by omega) hN (by omega) (by omega)
        rw [if_pos c2, if_pos c2, bp_t hat, Int.tdiv_eq_ediv_of_nonneg hg.1, Int.tmod_eq_emod_of_nonneg hg.1, lx_p]
        generalize hvv : (eL e 14).getD (e.1 4 12).toNat 0 = v at *
        rw [w32_id (z := v / 1000) (by omega) (by omega), if_neg (by omega), bp_t (C.size (c := 7) (by decide) (by decide))]
        have hb : pBr1 e = eS (if v / 1000 < e.1 7 2 then eS e (7000 + v / 1000) 11 (v % 1000) else e) 4 12 (e.1 4 12 + 1) := by
          unfold pBr1
          rw [hvv]
        by_cases c3 : v / 1000 < e.1 7 2
        · rw [if_pos c3] at hb
          have v0 : 0 ≤ v / 1000 := by omega
          have C1 := C.s7 (v := v % 1000) v0 c3 (j := 11) (by decide) (by decide) (fun h => by omega)
          have C2 := C1.sG (o := 4) (j := 12) (v := e.1 4 12 + 1) (by omega)
          rw [← hb] at C2
          have k12 : mset m (ad 7 (v / 1000)) 11 (v % 1000) 4 12 = e.1 4 12 := by rw [C1.g4 (by decide) (by decide), eS_a (by omega)]
          rw [if_pos c3, bp_t (C.get (c := 7) (by decide) (by decide) v0 c3), gd_t (C.rk v0 c3), up_t]
          unfold fj_X11_bringIn_96
          rw [lx_p, k12, w32_id (by omega) (by omega), up_t, lx_p, w32_id (by omega) (by omega)]
          exact go _ C2
        · rw [if_neg c3] at hb
          have C2 := C.sG (o := 4) (j := 12) (v := e.1 4 12 + 1) (by omega)
          rw [← hb] at C2
          rw [if_neg c3]
          unfold fj_X11_bringIn_96
          rw [lx_p, e12, w32_id (by omega) (by omega), up_t, lx_p, w32_id (by omega) (by omega)]
          exact go _ C2
      · rw [if_neg c2, if_neg c2, w32_id (by omega) (by omega)]
        exact ⟨m, rfl, ow, C⟩
    · rw [if_neg c1, if_neg c1, lx_p, e11, lx_p, e12, w32_id (by omega) (by omega)]
      exact ⟨m, rfl, ow, C⟩
theorem c_bringIn (C : CE m ow ad e) (hW : WX e) : OKc e ad (fm_X11_bringIn p1 m) (pcBringIn p1 e) := by
  obtain ⟨-, -, ⟨g1, g2, g3⟩, -, -, -, -, -, g9⟩ := hW.glo
  unfold fm_X11_bringIn pcBringIn
  by_cases c1 : p1 < 1
  · rw [if_pos c1, if_pos (Or.inl c1)]; exact OKc.thr C
  rw [if_neg c1]
  by_cases c2 : 100 < p1
  · rw [if_pos c2, if_pos (Or.inr c2)]; exact OKc.thr C
  rw [if_neg c2, if_neg (show ¬ (p1 < 1 ∨ 100 < p1) by omega)]
  obtain ⟨m1, h1, h2⟩ := br_l (ad := ad) (N := p1) (p1.toNat + 1) BIG 0 m ow e C g9 ⟨g1, g2⟩ ⟨by omega, by omega⟩ (by decide) (by omega) (by omega) (by omega) (Nat.le_of_lt (BIG_g (by omega)))
  exact ⟨m1, ad, h1, h2, AG.rf⟩
/-- the points of a schedule so far -/
def pPts (p : Int) (e : ES) : Int := if 0 < e.1 (10000 + p) 4 then e.1 (10000 + p) 4 / e.1 (10000 + p) 2 else 0
def pBfL (p N : Int) : Nat → Int → Int → ES → Int × ES
  | 0, a, _, e => (a, e)
  | n + 1, a, t, e => if N < t then (a, e) else if e.1 7 2 < 30 then pBfL p N n (a + 1) (t + 1) (pStart (e.1 (10000 + p) 0) (e.1 (10000 + p) 1) (t * e.1 (10000 + p) 2 % 1000) (-1) 0 e) else (a, e)
def pcBackfill (p1 p2 : Int) (e : ES) : (Int ⊕ Nat) × ES :=
  if 0 ≤ p1 ∧ p1 < e.1 10 2 then
    if p2 < 1 ∨ 5 < p2 then rT 1 e
    else (.inl (pBfL p1 (pPts p1 e) 6 0 (pPts p1 e - (if pPts p1 e < p2 then pPts p1 e else p2) + 1) e).1, (pBfL p1 (pPts p1 e) 6 0 (pPts p1 e - (if pPts p1 e < p2 then pPts p1 e else p2) + 1) e).2)
  else rT 0 e
theorem bf_mt (hp : 0 ≤ p) (hp2 : p < 1000) : ∀ (n : Nat) (a t : Int) (e : ES), 0 ≤ e.1 7 2 → MT p e (pBfL p N n a t e).2 := by
  intro n
  induction n with
  | zero => intro a t e _; exact MT.rf
  | succ n ih =>
    intro a t e n0
    unfold pBfL
    split
    · exact MT.rf
    · split
      · rename_i c
        have h := MT.start (e := e) (t := e.1 (10000 + p) 0) (y := e.1 (10000 + p) 1) (v := t * e.1 (10000 + p) 2 % 1000) (z := -1) (q := 0) n0 c hp hp2
        exact h.tr (ih _ _ _ (by have := h.2.2.1.1; omega))
      · exact MT.rf
theorem bf_l (p0 : 0 ≤ p) (q0 : 1 ≤ q) (hq : N * q ≤ 2000000) (hN : N ≤ 2000000) : ∀ (n f : Nat) (a t : Int) (m : MM) (ow : Int → Int) (ad : Int → Int → Int) (e : ES), CE m ow ad e → p < e.1 10 2 → ad 10 p = y → (0 ≤ e.1 (10000 + p) 0 ∧ e.1 (10000 + p) 0 < 4) → e.1 (10000 + p) 2 = q → BDl e → BDf (pBfL p N n a t e).2 → 0 ≤ t → t ≤ 3000000 → 0 ≤ a → a + n < 1000000 → N - t + 1 ≤ n → n < f → ∃ m' ad', fl_X11_backfill_53 y N f a t m = some (.inl (pBfL p N n a t e).1, m') ∧ CX1 m' ad' (pBfL p N n a t e).2 ∧ AG e ad ad' := by
  intro n
  induction n with
  | zero =>
    intro f a t m ow ad e C p1 hy ht hq' hl hf t0 t9 a0 a1 h1 h2
    obtain ⟨f, rfl⟩ : ∃ g, f = g + 1 := ⟨f - 1, by omega⟩
    unfold fl_X11_backfill_53
    rw [if_pos (by omega)]
    exact ⟨m, ad, rfl, ⟨ow, C⟩, AG.rf⟩
  | succ n ih =>
    intro f a t m ow ad e C p1 hy ht hq' hl hf t0 t9 a0 a1 h1 h2
    obtain ⟨f, rfl⟩ : ∃ g, f = g + 1 := ⟨f - 1, by omega⟩
    have n7 := C.cn.1
    have n10 := C.cn.2.2.2.1
    unfold fl_X11_backfill_53
    unfold pBfL at hf ⊢
    by_cases c1 : N < t
    · rw [if_pos c1, if_pos c1]
      exact ⟨m, ad, rfl, ⟨ow, C⟩, AG.rf⟩
    rw [if_neg c1] at hf ⊢
    rw [if_neg c1, bp_t (C.size (c := 7) (by decide) (by decide))]
    by_cases c2 : e.1 7 2 < 30
    · rw [if_pos c2] at hf ⊢
      rw [if_pos c2]
      have s0 : m (ad 10 p) 0 = e.1 (10000 + p) 0 := C.sf p0 p1 (by decide) (by decide)
      have s1 : m (ad 10 p) 1 = e.1 (10000 + p) 1 := C.sf p0 p1 (by decide) (by decide)
      have s2 : m (ad 10 p) 2 = q := by rw [C.sf p0 p1 (by decide) (by decide)]; exact hq'
      have b0 : 0 ≤ t * q := Int.mul_nonneg t0 (by omega)
      have b1 : t * q ≤ N * q := Int.mul_le_mul_of_nonneg_right (by omega) (by omega)
      have d0 := Int.emod_nonneg (t * q) (show (1000 : Int) ≠ 0 by decide)
      have d1 := Int.emod_lt_of_pos (t * q) (show (0 : Int) < 1000 by decide)
      rw [hq'] at hf ⊢
      have h := MT.start (e := e) (p := p) (t := e.1 (10000 + p) 0) (y := e.1 (10000 + p) 1) (v := t * q % 1000) (z := -1) (q := 0) n7.1 c2 p0 (by omega)
      have hr := bf_mt (N := N) p0 (show p < 1000 by omega) n (a + 1) (t + 1) (pStart (e.1 (10000 + p) 0) (e.1 (10000 + p) 1) (t * q % 1000) (-1) 0 e) (by have := h.2.2.1.1; omega)
      obtain ⟨m1, ad1, g1, ⟨ow1, C1⟩, g3⟩ := C.start (t := e.1 (10000 + p) 0) (tn := e.1 (10000 + p) 1) (inp := t * q % 1000) (par := -1) (pe := 0) hl c2 ht.1 ht.2 d0 d1 (hf.of hr.1)
      have hy1 : ad1 10 p = y := by rw [g3 10 p (Or.inr (Or.inr (Or.inr (Or.inl ⟨rfl, p0, p1⟩))))]; exact hy
      have u0 : (pStart (e.1 (10000 + p) 0) (e.1 (10000 + p) 1) (t * q % 1000) (-1) 0 e).1 (10000 + p) 0 = e.1 (10000 + p) 0 := h.2.2.2.1 0 (by decide) (by decide) (by decide)
      have u2 : (pStart (e.1 (10000 + p) 0) (e.1 (10000 + p) 1) (t * q % 1000) (-1) 0 e).1 (10000 + p) 2 = q := by rw [h.2.2.2.1 2 (by decide) (by decide) (by decide)]; exact hq'
      obtain ⟨m2, ad2, k1, k2, k3⟩ := ih f (a + 1) (t + 1) m1 ow1 ad1 _ C1 (by rw [h.2.1 10 (by decide) (by decide)]; exact p1) hy1 (by rw [u0]; exact ht) u2 (h.1.2 hl) hf (by omega) (by omega) (by omega) (by omega) (by omega) (by omega)
      refine ⟨m2, ad2, ?_, k2, g3.tr k3 fun c i hv => h.lv hv⟩
      rw [← hy, gd_t (C.sch p0 p1).1, lx_p, s0, lx_p, s1, lx_p, s2, w32_id (z := t * q) (by omega) (by omega), bp_t (fmod_e (by omega) (by omega) (by decide) (by decide)), bd_t g1, lx_p, w32_id (by omega) (by omega), lx_p, w32_id (by omega) (by omega), hy]
      exact k1
    · rw [if_neg c2, if_neg c2]
      exact ⟨m, ad, rfl, ⟨ow, C⟩, AG.rf⟩
theorem c_backfill (C : CE m ow ad e) (hW : WX e) (hl : BDl e) (hf : BDf (pcBackfill p1 p2 e).2) : OKc e ad (fm_X11_backfill p1 p2 m) (pcBackfill p1 p2 e) := by
  unfold pcBackfill at hf
  unfold fm_X11_backfill pcBackfill
  rw [C.schAt]
  by_cases c1 : 0 ≤ p1 ∧ p1 < e.1 10 2
  · rw [if_pos c1] at hf
    rw [if_pos c1, if_pos c1, bx_l rfl]
    by_cases c2 : p2 < 1
    · rw [if_pos c2, if_pos (Or.inl c2)]; exact OKc.thr C
    rw [if_neg c2]
    by_cases c3 : 5 < p2
    · rw [if_pos c3, if_pos (Or.inr c3)]; exact OKc.thr C
    rw [if_neg (show ¬ (p2 < 1 ∨ 5 < p2) by omega)] at hf
    rw [if_neg c3, if_neg (show ¬ (p2 < 1 ∨ 5 < p2) by omega)]
    obtain ⟨w1, w2, w3, w4, w5, w6, w7, w8⟩ := hW.sch c1.1 c1.2
    have s2 : m (ad 10 p1) 2 = e.1 (10000 + p1) 2 := C.sf c1.1 c1.2 (by decide) (by decide)
    have s4 : m (ad 10 p1) 4 = e.1 (10000 + p1) 4 := C.sf c1.1 c1.2 (by decide) (by decide)
    have hP : 0 ≤ pPts p1 e ∧ pPts p1 e ≤ 2000000 ∧ pPts p1 e * e.1 (10000 + p1) 2 ≤ 2000000 := by
      unfold pPts
      split
      · have h1 := Int.ediv_mul_le (e.1 (10000 + p1) 4) (show e.1 (10000 + p1) 2 ≠ 0 by omega)
        have h2 : 0 ≤ e.1 (10000 + p1) 4 / e.1 (10000 + p1) 2 := Int.ediv_nonneg (by omega) (by omega)
        have h3 := Int.ediv_le_self (e.1 (10000 + p1) 2) (show 0 ≤ e.1 (10000 + p1) 4 by omega)
        exact ⟨h2, by omega, by omega⟩
      · exact ⟨Int.le_refl _, by decide, by rw [Int.zero_mul]; decide⟩
    have hpts : fm_X7_pointsSoFar (ad 10 p1) m = some (pPts p1 e) := by
      unfold fm_X7_pointsSoFar
      rw [lx_p, s2, if_pos (by omega), lx_p, s4]
      unfold pPts at hP ⊢
      by_cases c4 : 0 < e.1 (10000 + p1) 4
      · rw [if_pos c4] at hP ⊢
        rw [if_pos c4, gd_t (by omega), Int.tdiv_eq_ediv_of_nonneg (by omega), w32_id (by omega) (by omega)]
      · rw [if_neg c4, if_neg c4]
    obtain ⟨P0, P1, P2⟩ := hP
    rw [gd_t (C.sch c1.1 c1.2).1, bp_t hpts, bp_t min_e]
    generalize hN : pPts p1 e = N at *
    have hmin : (if N < p2 then N else p2) ≤ 5 ∧ 0 ≤ (if N < p2 then N else p2) ∧ (if N < p2 then N else p2) ≤ N := by split <;> omega
    generalize (if N < p2 then N else p2) = mn at *
    rw [w32_id (z := N - mn) (by omega) (by omega), lx_p, w32_id (by omega) (by omega)]
    obtain ⟨m1, ad1, g1, g2, g3⟩ := bf_l (y := ad 10 p1) (N := N) c1.1 w3.1 P2 P1 6 BIG 0 (N - mn + 1) m ow ad e C c1.2 rfl ⟨w1.1, w1.2.1⟩ rfl hl hf (by omega) (by omega) (by decide) (by decide) (by omega) (BIG_g (by decide))
    exact ⟨m1, ad1, g1, g2, g3⟩
  · rw [if_neg c1, if_neg c1, bx_r rfl]; exact OKc.thr C
/-- the runs that a version is not safe for -/
def pUnL (t v : Int) : Nat → Int → Int → ES → Int × ES
  | 0, a, _, e => (a, e)
  | n + 1, a, i, e => if i < e.1 7 2 then (if e.1 (7000 + i) 1 = t ∧ e.1 (7000 + i) 6 = 0 then pUnL t v n (if sg (qS e i v 0) 0 30 = 0 then a else a + 1) (i + 1) (qM e i v 0) else pUnL t v n a (i + 1) e) else (a, e)
def pcUnsafe (p1 p2 : Int) (e : ES) : (Int ⊕ Nat) × ES :=
  if 0 ≤ p1 ∧ p1 < 4 then
    if 0 ≤ p2 ∧ p2 < e.1 (48 + 4 * p1 + 1) 2 then (.inl (pUnL p1 p2 31 0 0 e).1, (pUnL p1 p2 31 0 0 e).2) else rT 0 e
  else rT 0 e
theorem un_l (hG : WGlo e0) (t0 : 0 ≤ t) (t1 : t < 4) (v0 : 0 ≤ v) (v1 : v < e0.1 (48 + 4 * t + 1) 2) (F : ∀ i : Int, 0 ≤ i → i < e0.1 7 2 → e0.1 (7000 + i) 1 = t → FOK e0 i v 0 0 0 (hC e0 i)) : ∀ (n f : Nat) (a i : Int) (m : MM) (ow : Int → Int) (e : ES), EQM e0 e → CE m ow ad e → 0 ≤ i → i ≤ e0.1 7 2 → 0 ≤ a → a ≤ i → e0.1 7 2 - i < n → n ≤ f → ∃ m', fl_X11_unsafe_15 t v f a i m = some (.inl (pUnL t v n a i e).1, m') ∧ CX1 m' ad (pUnL t v n a i e).2 := by
  intro n
  induction n with
  | zero =>
    intro f a i m ow e Q C i0 i9 a0 a1 h1 h2
    omega
  | succ n ih =>
    intro f a i m ow e Q C i0 i9 a0 a1 h1 h2
    obtain ⟨f, rfl⟩ : ∃ g, f = g + 1 := ⟨f - 1, by omega⟩
    have n7 := C.cn.1
    have q7 : e.1 7 2 = e0.1 7 2 := Q.1 _ _ (by decide)
    unfold fl_X11_unsafe_15 pUnL
    rw [bp_t (C.size (c := 7) (by decide) (by decide))]
    by_cases c1 : i < e.1 7 2
    · have e1 : m (ad 7 i) 1 = e.1 (7000 + i) 1 := C.rf i0 c1 (by decide) (by decide)
      have e6 : m (ad 7 i) 6 = e.1 (7000 + i) 6 := C.rf i0 c1 (by decide) (by decide)
      have hw : w32 (i + 1) = i + 1 := w32_id (by omega) (by omega)
      rw [if_pos c1, if_pos c1, bp_t (C.get (c := 7) (by decide) (by decide) i0 c1), gd_t (C.rk i0 c1), lx_p, e1]
      by_cases c2 : e.1 (7000 + i) 1 = t
      · rw [if_pos c2, lx_p, e6]
        by_cases c3 : e.1 (7000 + i) 6 = 0
        · rw [if_pos c3, if_pos (show e.1 (7000 + i) 1 = t ∧ e.1 (7000 + i) 6 = 0 from ⟨c2, c3⟩)]
          have ht1 : e0.1 (7000 + i) 1 = t := by rw [← Q.1 (7000 + i) 1 (by omega)]; exact c2
          have hv1 : v < e.1 (48 + 4 * e.1 (7000 + i) 1 + 1) 2 := by rw [c2, Q.1 _ _ (by omega)]; exact v1
          have hF := (F i i0 (by omega) ht1).eq Q i0
          rw [← Q.qq i0] at hF
          obtain ⟨d1, d2, d3, d4⟩ := C.rd16 i0 c1
          obtain ⟨m1, g1, ⟨ow1, C1⟩, g3⟩ := C.qfol (hG.eq Q) (w := 0) i0 c1 (by omega) (by omega) v0 hv1 (by decide) hF
          rw [bp_t (C.code i0 c1 (by omega) (by omega) v0 hv1).1, lx_p, d1, gd_t d2, lx_p, d3, bd_t g1]
          have Q1 : EQM e0 (qM e i v 0) := Q.tr eM_eq
          by_cases c4 : sg (qS e i v 0) 0 30 = 0
          · rw [if_pos c4, if_pos c4, if_neg (show ¬ (1 : Int) = 0 by decide), lx_p, hw]
            exact ih f a (i + 1) m1 ow1 _ Q1 C1 (by omega) (by omega) a0 (by omega) (by omega) (by omega)
          · rw [if_neg c4, if_neg c4, if_pos (show (0 : Int) = 0 from rfl), lx_p, show w32 (a + 1) = a + 1 from w32_id (by omega) (by omega), lx_p, hw]
            exact ih f (a + 1) (i + 1) m1 ow1 _ Q1 C1 (by omega) (by omega) (by omega) (by omega) (by omega) (by omega)
        · rw [if_neg c3, if_neg (show ¬ (e.1 (7000 + i) 1 = t ∧ e.1 (7000 + i) 6 = 0) from fun h => c3 h.2), lx_p, hw]
          exact ih f a (i + 1) m ow e Q C (by omega) (by omega) a0 (by omega) (by omega) (by omega)
      · rw [if_neg c2, if_neg (show ¬ (e.1 (7000 + i) 1 = t ∧ e.1 (7000 + i) 6 = 0) from fun h => c2 h.1), lx_p, hw]
        exact ih f a (i + 1) m ow e Q C (by omega) (by omega) a0 (by omega) (by omega) (by omega)
    · rw [if_neg c1, if_neg c1]
      exact ⟨m, rfl, ow, C⟩
theorem c_unsafe (C : CE m ow ad e) (hW : WX e) (F : ∀ i : Int, 0 ≤ i → i < e.1 7 2 → e.1 (7000 + i) 1 = p1 → 0 ≤ p2 → p2 < e.1 (48 + 4 * p1 + 1) 2 → FOK e i p2 0 0 0 (hC e i)) : OKc e ad (fm_X11_unsafe p1 p2 m) (pcUnsafe p1 p2 e) := by
  unfold fm_X11_unsafe pcUnsafe
  rw [typeAt_e C.fix]
  have n7 := C.cn.1
  by_cases c1 : 0 ≤ p1 ∧ p1 < 4
  · rw [if_pos c1, if_pos c1, bx_l rfl, C.chkVer (isT_4 c1.1 c1.2)]
    by_cases c2 : 0 ≤ p2 ∧ p2 < e.1 (48 + 4 * p1 + 1) 2
    · rw [if_pos c2, if_pos c2, bx_l rfl]
      obtain ⟨m1, g1, g2⟩ := un_l (ad := ad) hW.glo c1.1 c1.2 c2.1 c2.2 (fun i i0 i1 ht => F i i0 i1 ht c2.1 c2.2) 31 BIG 0 0 m ow e EQM.rf C (by decide) (by omega) (by decide) (by decide) (by omega) (Nat.le_of_lt (BIG_g (by decide)))
      exact ⟨m1, ad, g1, g2, AG.rf⟩
    · rw [if_neg c2, if_neg c2, bx_r rfl]; exact OKc.thr C
  · rw [if_neg c1, if_neg c1, bx_r rfl]; exact OKc.thr C
end CDD
