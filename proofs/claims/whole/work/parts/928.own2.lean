/-! WHAT IS A RUN'S OWN: through all calls; all runs' in sum. -/
section OWB
variable {e e' e1 e2 e3 e5 : ES} {S S' D T a b i j k g q r v w N M p x y t o u Z Z' p1 p2 : Int}
/-- Z calls of copy -/
def PO (S D Z : Int) (e : ES) : Prop := ∃ A d c n : Int → Int, (sm A 30 ≤ e.1 4 16 ∧ sm d 30 ≤ D ∧ sm c 30 ≤ Z) ∧ PO1 A c n (fun r => 60 * S + 1074 * d r) e ∧ ∀ r : Int, 0 ≤ r → r < 30 → 0 ≤ d r ∧ n r ≤ 60 * (qCs e r - qU e r) + 1074 * d r
theorem sm_add {f g : Int → Int} : ∀ n : Nat, sm (fun i => f i + g i) n = sm f n + sm g n := by
  intro n
  induction n with
  | zero => rfl
  | succ n ih =>
    show sm (fun i => f i + g i) n + (f (n : Int) + g (n : Int)) = sm f n + f (n : Int) + (sm g n + g (n : Int))
    omega
theorem sm_sub {f g : Int → Int} : ∀ n : Nat, sm (fun i => f i - g i) n = sm f n - sm g n := by
  intro n
  induction n with
  | zero => rfl
  | succ n ih =>
    show sm (fun i => f i - g i) n + (f (n : Int) - g (n : Int)) = sm f n + f (n : Int) - (sm g n + g (n : Int))
    omega
theorem sm_lin {f g h : Int → Int} {s : Int} : ∀ n : Nat, sm (fun i => f i + (60 * s + 1074 * g i) + 100 * h i) n = sm f n + 60 * s * n + 1074 * sm g n + 100 * sm h n := by
  intro n
  induction n with
  | zero => show (0 : Int) = 0 + 60 * s * 0 + 1074 * 0 + 100 * 0; omega
  | succ n ih =>
    show sm (fun i => f i + (60 * s + 1074 * g i) + 100 * h i) n + (f (n : Int) + (60 * s + 1074 * g (n : Int)) + 100 * h (n : Int)) = sm f n + f (n : Int) + 60 * s * ((n + 1 : Nat) : Int) + 1074 * (sm g n + g (n : Int)) + 100 * (sm h n + h (n : Int))
    rw [ih, show ((n + 1 : Nat) : Int) = (n : Int) + 1 by omega, Int.mul_add (60 * s), Int.mul_one]
    omega
theorem sm_at {f : Int → Int} (q v : Int) (v0 : 0 ≤ v) : ∀ n : Nat, sm (fun i => f i + if i = q then v else 0) n ≤ sm f n + (if 0 ≤ q ∧ q < (n : Int) then v else 0) := by
  intro n
  induction n with
  | zero => show (0 : Int) ≤ 0 + _; split <;> omega
  | succ n ih =>
    show sm (fun i => f i + if i = q then v else 0) n + (f (n : Int) + if (n : Int) = q then v else 0) ≤ sm f n + f (n : Int) + _
    by_cases c : (n : Int) = q
    · rw [if_pos c, if_pos (by omega)]
      rw [if_neg (by omega)] at ih
      omega
    · rw [if_neg c]
      by_cases c2 : 0 ≤ q ∧ q < (n : Int)
      · rw [if_pos c2] at ih
        rw [if_pos (by omega)]
        omega
      · rw [if_neg c2] at ih
        rw [if_neg (by omega)]
        omega
/-- ALL RUNS' OWN -/
theorem PO.gs (h : PO S D Z e) : e.1 68 1000 ≤ 1800 * S + 1074 * D + 100 * Z + e.1 4 16 := by
  obtain ⟨A, d, c, n, ⟨h1, h2, h3⟩, ⟨h4, h5⟩, h6⟩ := h
  have k := sm_le (n := 30) (f := fun i => e.1 68 (3000 + i)) (g := fun i => A i + (60 * S + 1074 * d i) + 100 * c i) fun i i0 i1 => (h5 i i0 (by omega)).2.1.1
  have l := sm_lin (f := A) (g := d) (h := c) (s := S) 30
  rw [show 60 * S * ((30 : Nat) : Int) = 1800 * S by omega] at l
  omega
theorem PO.mono (h : PO S D Z e) (hS : S ≤ S') (hZ : Z ≤ Z') : PO S' D Z' e := by
  obtain ⟨A, d, c, n, ⟨h1, h2, h3⟩, ⟨h4, h5⟩, h6⟩ := h
  refine ⟨A, d, c, n, ⟨h1, h2, by omega⟩, ⟨h4, fun r r0 r1 => ?_⟩, h6⟩
  obtain ⟨⟨k1, k3, k4⟩, ⟨k5, k6⟩, k7⟩ := h5 r r0 r1
  have k4 : n r ≤ 60 * S + 1074 * d r := k4
  have k5 : e.1 68 (3000 + r) ≤ A r + (60 * S + 1074 * d r) + 100 * c r := k5
  exact ⟨⟨k1, k3, by show n r ≤ 60 * S' + 1074 * d r; omega⟩, ⟨by show e.1 68 (3000 + r) ≤ A r + (60 * S' + 1074 * d r) + 100 * c r; omega, k6⟩, k7⟩
theorem PO.upD (h : PO S D Z e) : PO S (D + 1) Z e := by
  obtain ⟨A, d, c, n, ⟨h1, h2, h3⟩, h4⟩ := h
  exact ⟨A, d, c, n, ⟨h1, by omega, h3⟩, h4⟩
theorem qcs_S (hH : HH S D T e) (r0 : 0 ≤ r) : qCs e r - qU e r ≤ S := by
  have h1 := (qu_cs (e := e) r).1
  have h2 : 0 ≤ S := hH.1.1.1.2.1.2.1
  by_cases c : r < e.1 7 2
  · have w : qCs e r = csg (eH e r) (hN e r).toNat := if_pos c
    have h3 := (hH.1.1.2.1 r r0 c).2.1
    omega
  · have w : qCs e r = 0 := if_neg c
    omega
theorem hN0_n (hH : HH S D T e) (r0 : 0 ≤ r) : 0 ≤ hN0 e r := by
  unfold hN0
  split
  · exact hH.hn r r0 (by assumption)
  · exact Int.le_refl _
/-- news, then arrivals; z: how many news, at r; y: a hundred more is copied, of q -/
theorem PO.step {z ν s D' q y : Int} (h : PO S D Z e) (g : GG e e3) (w : GR e3 e') (n7 : e3.1 7 2 = e.1 7 2) (m7 : e3.1 7 2 ≤ e'.1 7 2) (n16 : e3.1 4 16 = e.1 4 16) (hz : ∀ i : Int, 0 ≤ i → i < 30 → hN0 e3 i = hN0 e i + if i = r then z else 0) (z0 : 0 ≤ z) (hd : (s = 0 ∧ z ≤ 60 * ν ∧ D' = D) ∨ (s = 1 ∧ z ≤ 60 * ν + 1074 ∧ D' = D + 1 ∧ 0 ≤ r ∧ r < 30)) (hu : ∀ i : Int, 0 ≤ i → i < 30 → qU e' i - qCs e' i + (if i = r then ν else 0) ≤ qU e i - qCs e i) (hS : S ≤ S') (hn0 : ∀ i : Int, 0 ≤ i → 0 ≤ hN0 e i) (m0 : 0 ≤ e.1 7 2) {D2 T2 : Int} (hH' : HH S' D2 T2 e') (y0 : 0 ≤ y) (h8 : ∀ i : Int, 0 ≤ i → i < e.1 7 2 → e'.1 (7000 + i) 8 ≤ e.1 (7000 + i) 8 + 100 * (if i = q then y else 0)) : PO S' D' (Z + y) e' := by
  obtain ⟨A, d, c, n, ⟨h1, h2, h3⟩, h4, h6⟩ := h.mono hS (Int.le_refl Z)
  have hrw : ∀ i : Int, 0 ≤ i → i < 30 → hN0 e3 i ≤ hN0 e' i := fun i i0 i1 => by
    rcases w.2.2 i i0 i1 with g | g <;> omega
  have hs : 0 ≤ s := by omega
  refine ⟨fun i => A i + (hN0 e' i - hN0 e3 i), fun i => d i + if i = r then s else 0, fun i => c i + if i = q then y else 0, fun i => n i + if i = r then z else 0, ⟨?_, ?_, ?_⟩, ?_, fun i i0 i1 => ?_⟩
  · have k1 := sm_add (f := A) (g := fun i => hN0 e' i - hN0 e3 i) 30
    have k2 := sm_sub (f := hN0 e') (g := hN0 e3) 30
    have k3 := w.1.2.2.2.2
    omega
  · have k1 := sm_at (f := d) r s hs 30
    split at k1 <;> omega
  · have k1 := sm_at (f := c) q y y0 30
    split at k1 <;> omega
  · refine h4.gg (g.tr w.gg) (by omega) hn0 (fun i i0 i1 => ?_) (fun i i2 i1 => ?_) fun i i0 i1 => ?_
    · have := h8 i i0 i1
      show e'.1 (7000 + i) 8 ≤ e.1 (7000 + i) 8 + 100 * (c i + (if i = q then y else 0) - c i)
      rw [show c i + (if i = q then y else 0) - c i = (if i = q then y else 0) by omega]
      exact this
    · have n7' := hH'.cn.1
      by_cases i0 : 0 ≤ i
      · have k1 : hN0 e' i = hN e' i := if_pos i1
        have k2 := (hH'.2.1.1 i i0 i1).2.2.2.2.2.2.1
        have k3 : hN0 e3 i = 0 := if_neg (by omega)
        have k4 := (h4.2 i i0 (by omega)).1.1.1
        exact ⟨by omega, by show hN0 e' i ≤ A i + (hN0 e' i - hN0 e3 i); omega⟩
      · exact absurd (Int.le_trans m0 i2) i0
    · have k1 := hz i i0 i1
      have k2 := hrw i i0 i1
      have k4 := h6 i i0 i1
      have k5 := hu i i0 i1
      have k6 := qcs_S hH' (r := i) i0
      have k7 := (h4.2 i i0 i1).1.2
      have k8 : n i ≤ 60 * S' + 1074 * d i := k7.2
      refine ⟨⟨by show A i ≤ A i + (hN0 e' i - hN0 e3 i); omega, ?_, ?_, ?_, ?_⟩, ?_⟩
      · show n i ≤ n i + (if i = r then z else 0)
        split <;> omega
      · show n i + (if i = r then z else 0) ≤ 60 * S' + 1074 * (d i + if i = r then s else 0)
        by_cases ci : i = r
        · rw [if_pos ci] at k5
          rw [if_pos ci, if_pos ci]
          rcases hd with hd | hd <;> omega
        · rw [if_neg ci, if_neg ci]
          omega
      · show 60 * S' + 1074 * d i ≤ 60 * S' + 1074 * (d i + if i = r then s else 0)
        split <;> omega
      · show c i ≤ c i + if i = q then y else 0
        split <;> omega
      · show A i + n i + (hN0 e' i - hN0 e i) ≤ A i + (hN0 e' i - hN0 e3 i) + (n i + if i = r then z else 0)
        by_cases ci : i = r
        · rw [if_pos ci] at k1
          rw [if_pos ci]
          omega
        · rw [if_neg ci] at k1
          rw [if_neg ci]
          omega
  · have k4 := h6 i i0 i1
    have k5 := hu i i0 i1
    show 0 ≤ d i + (if i = r then s else 0) ∧ n i + (if i = r then z else 0) ≤ 60 * (qCs e' i - qU e' i) + 1074 * (d i + if i = r then s else 0)
    by_cases ci : i = r
    · rw [if_pos ci] at k5
      rw [if_pos ci, if_pos ci]
      rcases hd with hd | hd <;> omega
    · rw [if_neg ci] at k5
      rw [if_neg ci, if_neg ci]
      omega
/-- a plain call -/
theorem PO.plain0 (h : PO S D Z e) (w : WG e e') (t : VA e e') (hS : S ≤ S') (hn0 : ∀ i : Int, 0 ≤ i → 0 ≤ hN0 e i) (m0 : 0 ≤ e.1 7 2) {D2 T2 : Int} (hH' : HH S' D2 T2 e') : PO S' D Z e' := by
  obtain ⟨w1, w2, -, -⟩ := w
  have := h.step (z := 0) (ν := 0) (s := 0) (r := -1) (q := -1) (y := 0) (D' := D) GG.rf w2 rfl t.1 rfl (fun i i0 i1 => by rw [if_neg (by omega)]; omega) (Int.le_refl _) (Or.inl ⟨rfl, by decide, rfl⟩) (fun i i0 i1 => by have := w1 i i0 i1; rw [if_neg (by omega)]; omega) hS hn0 m0 hH' (Int.le_refl _) (fun i i0 i1 => by rw [t.2 i i0 i1, if_neg (by omega)]; omega)
  rw [Int.add_zero] at this
  exact this
theorem PO.plain (h : PO S D Z e) (w : WG e e') (t : VA e e') (hS : S ≤ S') (hH : HH S D T e) {D2 T2 : Int} (hH' : HH S' D2 T2 e') : PO S' D Z e' := h.plain0 w t hS (fun i i0 => hN0_n hH i0) hH.cn.1.1 hH'
theorem po_copy (h : PO S D Z e) (hH : HH S D T e) (hH' : HH S D T (pcCopy p1 p2 e).2) : PO S D (Z + 1) (pcCopy p1 p2 e).2 := by
  obtain ⟨⟨-, t2, -⟩, q, t5⟩ := tc_copy (p1 := p1) (p2 := p2) hH.cn fun r r0 r1 => (hH.2.1.1 r r0 r1).2.2.2.2.2.2.1.2
  obtain ⟨⟨w1, w2, -, -⟩, -⟩ := wc_copy (p1 := p1) (p2 := p2) hH.cn
  exact h.step (z := 0) (ν := 0) (s := 0) (r := -1) (q := q) (y := 1) GG.rf w2 rfl (Int.le_of_eq t2) rfl (fun i i0 i1 => by rw [if_neg (by omega)]; omega) (Int.le_refl _) (Or.inl ⟨rfl, by decide, rfl⟩) (fun i i0 i1 => by have := w1 i i0 i1; rw [if_neg (by omega)]; omega) (Int.le_refl _) (fun i i0 => hN0_n hH i0) hH.cn.1.1 hH' (by decide) (fun i i0 i1 => by
    have := t5 i i0 i1
    split at this
    · rw [if_pos (by assumption)]; omega
    · rw [if_neg (by assumption)]; omega)
theorem po_complete (h : PO S D Z e) (hH : HH S D T e) (hw : WX e) (ht : 0 ≤ e.1 4 14 ∧ e.1 4 14 < 1000000) (hb2 : S + 2 * (D + 1) + 2 * T ≤ 540) (hH' : HH S (D + 1) T (pcComplete p1 e).2) : PO S (D + 1) Z (pcComplete p1 e).2 := by
  have hc := hH.cn
  have n7 := hc.1
  have n9 := hc.2.2.1
  have tv := (tc_complete (p1 := p1) hH hw ht hb2).1.2.1
  by_cases c0 : 0 ≤ p1 ∧ p1 < e.1 9 2
  · by_cases c1 : e.1 (9000 + p1) 5 = 0 ∧ e.1 (7000 + e.1 (9000 + p1) 1) 6 = 0 ∧ pMark e (e.1 (9000 + p1) 1) = e.1 (9000 + p1) 4
    · generalize hr : e.1 (9000 + p1) 1 = r at c1
      obtain ⟨⟨r0, r1⟩, Q, QB, hB, k1, -⟩ := cmp_two hH hw ht hb2 c0 hr c1
      by_cases hbe : sg (sBeh (pCmpX p1 e) (pCmpS p1 e)) 0 30 = 0
      · obtain ⟨q1, q2, q3, q4⟩ := k1 hbe
        obtain ⟨-, ν, ⟨⟨v1, v2, v3⟩, v4, -⟩, v5, -⟩ := vq_comp hH hw ht hb2 c0 hr c1 hbe
        obtain ⟨s1, -⟩ := cmp_S hB hbe
        obtain ⟨f1, -⟩ := e0_f (k := p1) (e := e) s1
        obtain ⟨g1, g2, g3, ⟨g4, -⟩, -⟩ := cmp_fr (e' := pPN r p1 (cG p1 e) (cE0 p1 e)) hH.1 hB c0.1 c0.2 hr.symm r0 r1 hbe rfl
        have e70 : (cE0 p1 e).1 7 2 = e.1 7 2 := f1 _ _ (by omega) (by omega) (by omega)
        have a0 : GG e (cE0 p1 e) := GG.of (fun i i0 i1 => by
          unfold hN0
          rw [e70]
          split
          · exact f1 _ _ (by omega) (by omega) (by omega)
          · rfl) fun u _ => f1 _ _ (by omega) (by omega) (by omega)
        have a1 := gg_pn (r := r) (k := p1) (g := cG p1 e) (e := cE0 p1 e) r0 (by omega) (by omega)
        rw [q1] at tv hH' v5 ⊢
        generalize hG : pPN r p1 (cG p1 e) (cE0 p1 e) = e3 at *
        have e7 : e3.1 7 2 = e.1 7 2 := g1 _ _ (by omega) (by omega) (by omega) (by omega) (by omega) (by omega) (by omega) (by omega)
        have e16 : e3.1 4 16 = e.1 4 16 := g1 _ _ (by omega) (by omega) (by omega) (by omega) (by omega) (by omega) (by omega) (by omega)
        have := h.step (z := ((sn (cTd p1 e)).length : Int) + 1) (ν := ν) (s := 1) (r := r) (q := -1) (y := 0) (D' := D + 1) (a0.tr a1) q4.2.2.2.2.2.2.2 e7 q4.1.1 e16 (fun i i0 i1 => by
          unfold hN0
          rw [e7]
          by_cases ci : i = r
          · rw [ci, if_pos r1, if_pos r1, if_pos rfl]
            omega
          · rw [if_neg ci, Int.add_zero]
            by_cases c7 : i < e.1 7 2
            · rw [if_pos c7, if_pos c7]
              exact (g3 i i0 c7 ci).1
            · rw [if_neg c7, if_neg c7]) (by omega) (Or.inr ⟨rfl, by omega, rfl, r0, by omega⟩) v5 (Int.le_refl _) (fun i i0 => hN0_n hH i0) n7.1 hH' (Int.le_refl _) (fun i i0 i1 => by rw [tv.2 i i0 i1, if_neg (by omega)]; omega)
        rw [Int.add_zero] at this
        exact this
      · obtain ⟨-, Q', QB', -, -, k2⟩ := qc_comp hH hw ht hb2 c0 hr c1
        obtain ⟨pa, pe, pl, -⟩ := k2 hbe
        exact (h.plain (WG.fr (pa _ _ (by omega) (by omega) (by omega) (by omega)) (pa _ _ (by omega) (by omega) (by omega) (by omega)) (pa _ _ (by omega) (by omega) (by omega) (by omega)) (pa _ _ (by omega) (by omega) (by omega) (by omega)) (fun u => pa _ _ (by omega) (by omega) (by omega) (by omega)) fun i i0 i1 => ⟨pa _ _ (by omega) (by omega) (by omega) (by omega), pe i⟩) tv (Int.le_refl _) hH hH').upD
    · have w : (pcComplete p1 e).2 = eS e (9000 + p1) 5 1 := by
        unfold pcComplete
        rw [if_pos c0, if_neg c1]
      have g : WL e (pcComplete p1 e).2 := by rw [w]; exact wg_es hc (by omega)
      exact (h.plain g.1 tv (Int.le_refl _) hH hH').upD
  · have w : (pcComplete p1 e).2 = pThr e := by
      unfold pcComplete
      rw [if_neg c0]
      rfl
    have g : WL e (pcComplete p1 e).2 := by rw [w]; exact wg_thr hc
    exact (h.plain g.1 tv (Int.le_refl _) hH hH').upD
theorem po_takeOver (h : PO S D Z e) (hH : HH S D T e) (hb : S + 2 * D + 2 * (T + 1) ≤ 540) (ht : 0 ≤ e.1 4 14 ∧ e.1 4 14 < 1000000) (hH' : HH S D (T + 1) (pcTakeOver e).2) : PO S D Z (pcTakeOver e).2 := by
  have hc := hH.cn
  have n7 := hc.1
  rcases tc_takeOver hH hb ht with g | ⟨-, -, -, -, -, -, -, e3, c1, c2, w, va⟩
  · have w : WL e (pcTakeOver e).2 := by rw [g]; exact wg_thr hc
    have v : VA e (pcTakeOver e).2 := by rw [g]; exact (tv_thr hc).2.1
    exact h.plain w.1 v (Int.le_refl _) hH hH'
  · obtain ⟨c3, -, -, c4, c5, -, c6, c7⟩ := c1
    have hsl : ∀ r : Int, 0 ≤ r → r < e.1 7 2 → 0 ≤ e.1 (7000 + r) 8 := fun r r0 r1 => (hH.2.1.1 r r0 r1).2.2.2.2.2.2.1.1
    have hn0 : ∀ i : Int, 0 ≤ i → 0 ≤ hN0 e3 i := fun i i0 => by
      unfold hN0
      rw [c3]
      split
      · rename_i i1
        rcases (c2 i i0 (by omega)).2 with g | g
        · rw [g]; exact hH.hn i i0 i1
        · rw [g]; exact hsl i i0 i1
      · exact Int.le_refl _
    obtain ⟨A, d, c, n, ⟨h1, h2, h3⟩, h4, h6⟩ := h
    have h3' : PO S D Z e3 := by
      refine ⟨A, d, c, fun i => if hN0 e3 i = hN0 e i then n i else 0, ⟨by rw [c7 16 (by decide)]; exact h1, h2, h3⟩, h4.cut (fun r r0 r1 => ?_) c3 c5 hn0 (fun r r0 r1 => (c2 r r0 r1).1) (fun r r0 r1 => ?_), fun r r0 r1 => ?_⟩
      · have k := (h4.2 r r0 r1).1.2.1
        show (0 ≤ (if hN0 e3 r = hN0 e r then n r else 0) ∧ (if hN0 e3 r = hN0 e r then n r else 0) ≤ n r) ∧ (hN0 e3 r = hN0 e r → (if hN0 e3 r = hN0 e r then n r else 0) = n r)
        refine ⟨by split <;> omega, fun g => if_pos g⟩
      · unfold hN0
        rw [c3]
        by_cases ci : r < e.1 7 2
        · rw [if_pos ci, if_pos ci]
          refine ⟨c6 r r0 ci, ?_⟩
          rcases (c2 r r0 r1).2 with g | g
          · exact Or.inl g
          · exact Or.inr ⟨ci, g⟩
        · rw [if_neg ci, if_neg ci]
          exact ⟨Int.le_refl _, Or.inl rfl⟩
      · have k := h6 r r0 r1
        have u := qu_cs (e := e3) r
        refine ⟨k.1, ?_⟩
        show (if hN0 e3 r = hN0 e r then n r else 0) ≤ _
        by_cases cn : hN0 e3 r = hN0 e r
        · rw [if_pos cn]
          have k2 : qCs e3 r = qCs e r ∧ qU e3 r = qU e r := by
            unfold qCs qU csr hC
            rw [c3]
            by_cases ci : r < e.1 7 2
            · have w1 : hN0 e3 r = hN e3 r := if_pos (by omega)
              have w2 : hN0 e r = hN e r := if_pos ci
              rw [show hN e3 r = hN e r by omega, c4 r]
              exact ⟨rfl, rfl⟩
            · rw [if_neg ci, if_neg ci, if_neg ci, if_neg ci]
              exact ⟨rfl, rfl⟩
          omega
        · rw [if_neg cn]
          omega
    exact h3'.plain0 w.1 va (Int.le_refl _) hn0 (by omega) hH'
theorem po_setBack (h : PO S D Z e) (hH : HH S D T e) (ht : 0 ≤ e.1 4 14 ∧ e.1 4 14 < 1000000) (hH' : HH S D T (pcSetBack p1 p2 e).2) : PO S D Z (pcSetBack p1 p2 e).2 := by
  have hc := hH.cn
  have n7 := hc.1
  obtain ⟨-, e5, ⟨b1, b2, b3, -, b5⟩, ug, b6, b7, w, va⟩ := tc_setBack (p1 := p1) (p2 := p2) hH ht
  have hn0 : ∀ i : Int, 0 ≤ i → 0 ≤ hN0 e5 i := fun i i0 => by
    unfold hN0
    split
    · rename_i i1
      by_cases ci : i < e.1 7 2
      · rw [b2 i i0 ci]; exact hH.hn i i0 ci
      · exact (b7 i (by omega) i1).1
    · exact Int.le_refl _
  obtain ⟨A, d, c, n, ⟨h1, h2, h3⟩, h4, h6⟩ := h
  have h5 : PO S D Z e5 := by
    refine ⟨A, d, c, n, ⟨by rw [b5 16]; exact h1, h2, h3⟩, h4.cpy b1 b3 (fun r r0 r1 => ⟨?_, b6 r r0 r1⟩) (fun r r1 => ⟨hn0 r (by omega), fun r2 => ?_⟩), fun r r0 r1 => ?_⟩
    · have w1 : hN0 e5 r = hN e5 r := if_pos (by omega)
      have w2 : hN0 e r = hN e r := if_pos r1
      rw [w1, w2]
      exact b2 r r0 r1
    · have w1 : hN0 e5 r = hN e5 r := if_pos r2
      rw [w1]
      exact (b7 r r1 r2).2
    · have k := h6 r r0 r1
      have := ug r r0 r1
      omega
  exact h5.plain0 w.1 va (Int.le_refl _) hn0 (by omega) hH'
theorem po00 : PO 0 0 0 e00 := by
  have z : ∀ n : Nat, sm (fun _ => (0 : Int)) n = 0 := sm_z fun _ _ => rfl
  have h7 : e00.1 7 2 = 0 := by decide
  have h68 : ∀ u : Int, 1000 ≤ u → e00.1 68 u = 0 := fun u hu => by
    show (if (68 : Int) = 4 then (if u = 13 then 3 else if u = 17 then 1 else 0) else if 64 ≤ (68 : Int) ∧ (68 : Int) ≤ 67 then (if u = 0 then 3 else if u = 1 then 2 else 0) else if (68 : Int) = 68 ∧ u = 30 then -1 else if (68 : Int) = 16 ∧ u = 7 then -1 else if (68 : Int) = 3 then (if u = 0 then 400000 else if u = 1 then 1000 else 0) else (0 : Int)) = 0
    rw [if_neg (by decide), if_neg (by decide), if_neg (by omega), if_neg (by omega), if_neg (by decide)]
  have hn : ∀ r : Int, 0 ≤ r → hN0 e00 r = 0 := fun r r0 => if_neg (by omega)
  refine ⟨fun _ => 0, fun _ => 0, fun _ => 0, fun _ => 0, ⟨by rw [z]; decide, by rw [z]; decide, by rw [z]; decide⟩, ⟨?_, fun r r0 r1 => ?_⟩, fun r r0 r1 => ?_⟩
  · rw [h68 1000 (by decide)]
    exact (sm_z (fun i i0 => h68 (3000 + i) (by omega)) 30).symm
  · have hF : gF0 e00 r = 0 := by
      unfold gF0
      rw [h68 _ (by omega), h68 _ (by omega), hn r r0]
      decide
    rw [h68 _ (by omega), h68 _ (by omega), h68 _ (by omega), hn r r0, hF]
    exact ⟨⟨⟨Int.le_refl _, Int.le_refl _⟩, Int.le_refl _, by show (0 : Int) ≤ 60 * 0 + 1074 * 0; decide⟩, ⟨by show (0 : Int) ≤ 0 + (60 * 0 + 1074 * 0) + 100 * 0; decide, by show (0 : Int) - 0 ≤ 0 + 0 + 100 * 0; decide⟩, fun hh => by omega, fun hh => by omega, fun _ => ⟨rfl, rfl⟩⟩
  · have := (qu_cs (e := e00) r).2
    exact ⟨Int.le_refl _, by show (0 : Int) ≤ 60 * (qCs e00 r - qU e00 r) + 1074 * 0; omega⟩
end OWB
