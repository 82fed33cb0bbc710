/-! LINKS: signals are handed on; a run begins anew as another. -/
section LN5
variable {e e' e1 e2 : ES} {W W' : Int → Int → Prop} {X X' : Int → Int → Int → Prop} {S D T S' D' T' : Int} {a b c i j k q r v w N p x y t o ev to nm sz tn ver par pe inp : Int} {n : Nat} {s : TS} {E : Int → Ev}
/-- signals are put in run `to`: nothing else changes -/
def SgF (to : Int) (e e' : ES) : Prop := (e'.1 7 2 = e.1 7 2 ∧ eT e' = eT e) ∧ (∀ a u : Int, a < 71000 → a ≠ 68 → a ≠ 3 → a ≠ 4 → e'.1 a u = e.1 a u) ∧ (∀ q : Int, q ≠ to → 0 ≤ q → q < 1000 → hN e' q = hN e q ∧ eH e' q = eH e q) ∧ hN e to ≤ hN e' to ∧ ∀ c, eL e' c = eL e c
theorem SgF.rf : SgF to e e := ⟨⟨rfl, rfl⟩, fun _ _ _ _ _ _ => rfl, fun _ _ _ _ => ⟨rfl, rfl⟩, Int.le_refl _, fun _ => rfl⟩
theorem SgF.tr (h : SgF to e e1) (g : SgF to e1 e2) : SgF to e e2 := ⟨⟨g.1.1.trans h.1.1, g.1.2.trans h.1.2⟩, fun a u h1 h2 h3 h4 => (g.2.1 a u h1 h2 h3 h4).trans (h.2.1 a u h1 h2 h3 h4), fun q h1 h2 h3 => ⟨(g.2.2.1 q h1 h2 h3).1.trans (h.2.2.1 q h1 h2 h3).1, (g.2.2.1 q h1 h2 h3).2.trans (h.2.2.1 q h1 h2 h3).2⟩, Int.le_trans h.2.2.2.1 g.2.2.2.1, fun c => (g.2.2.2.2 c).trans (h.2.2.2.2 c)⟩
theorem SgF.arr (t0 : 0 ≤ to) (t1 : to < 1000) : SgF to e (pArr to k x y e) := ⟨⟨arr_a (by decide) (by decide) (by omega) (by omega) (by omega), arr_T⟩, fun a u h1 h2 h3 h4 => arr_a h2 h3 (by omega) (by omega) (Or.inl h4), fun q hq q0 q1 => ⟨arr_a (by omega) (by omega) (by omega) (by omega) (by omega), arr_h hq⟩, by rw [arr_N t0]; omega, fun c => arr_l⟩
theorem SgF.nz (h : SgF to e e') (z : NZ e) (h7 : e.1 7 2 ≤ 1000) : NZ e' := z.of h.1.1 (fun r r0 r1 d => (Dead.eq (h.2.1 _ _ (by omega) (by omega) (by omega) (by omega))).mpr d) fun r r0 r1 => by
  by_cases c : r = to
  · rw [c]; exact h.2.2.2.1
  · rw [(h.2.2.1 r c r0 (by omega)).1]
    omega
theorem HK.sigq (t0 : 0 ≤ to) (m0 : 0 ≤ nm) (m1 : nm < 4) : ∀ (l : List Int) (e : ES), HK S D T W X e → to < e.1 7 2 → ¬ Dead e to → 0 < hN e to → (∀ v ∈ l, 0 ≤ v ∧ v ≤ 999) → tot e + l.length ≤ S → HK S D T W X (pSQ to nm l e) ∧ SgF to e (pSQ to nm l e) ∧ tot (pSQ to nm l e) ≤ tot e + l.length := by
  intro l
  induction l with
  | nil => intro e h _ _ _ _ _; exact ⟨h, SgF.rf, by simp [pSQ]⟩
  | cons v l ih =>
    intro e h t1 hd n0 hv hc
    have n7 := h.cn.1
    unfold pSQ
    rw [List.length_cons] at hc ⊢
    have hv0 := hv v List.mem_cons_self
    have g := SgF.arr (to := to) (k := 4) (x := nm) (y := v) (e := e) t0 (by omega)
    have h1 := h.arr (x := nm) (y := v) t0 t1 (Or.inl rfl) n0 m0 (by omega) (fun _ => m1) hv0.1 hv0.2 (fun g => by omega) (fun _ => ⟨by omega, hd⟩)
    have e1 := tot_arr (r := to) (k := 4) (x := nm) (y := v) (e := e) h.cn t0 t1 (by omega) (by decide)
    rw [if_pos rfl] at e1
    obtain ⟨k1, k2, k3⟩ := ih (pArr to 4 nm v e) h1 (by rw [g.1.1]; exact t1) (fun d => hd ((Dead.eq (g.2.1 _ _ (by omega) (by omega) (by omega) (by omega))).mp d)) (by have := g.2.2.2.1; omega) (fun u hu => hv u (List.mem_cons_of_mem _ hu)) (by omega)
    exact ⟨k1, g.tr k2, by omega⟩
def qz (s : TS) : Nat → Int → Int
  | 0, _ => 0
  | n + 1, nm => if nm < 4 then ((sq s nm).length : Int) + qz s n (nm + 1) else 0
theorem qz_n : ∀ (n : Nat) (nm : Int), 0 ≤ qz s n nm := by
  intro n
  induction n with
  | zero => intro nm; exact Int.le_refl _
  | succ n ih =>
    intro nm
    unfold qz
    have := ih (nm + 1)
    split <;> omega
theorem qz_4 : qz s 5 0 = Qn s := by
  unfold Qn
  unfold qz
  rw [if_pos (by decide)]
  unfold qz
  rw [if_pos (by decide)]
  unfold qz
  rw [if_pos (by decide)]
  unfold qz
  rw [if_pos (by decide)]
  unfold qz
  rw [if_neg (by decide)]
  simp only [Int.zero_add, Int.add_zero, show (1 : Int) + 1 = 2 by decide, show (2 : Int) + 1 = 3 by decide]
  omega
theorem HK.sigs (t0 : 0 ≤ to) (hS : ∀ n : Int, 0 ≤ n → n < 4 → ∀ v ∈ sq s n, 0 ≤ v ∧ v ≤ 999) : ∀ (n : Nat) (nm : Int) (e : ES), 0 ≤ nm → HK S D T W X e → eT e = s → to < e.1 7 2 → ¬ Dead e to → 0 < hN e to → tot e + qz s n nm ≤ S → HK S D T W X (pSQs to n nm e) ∧ SgF to e (pSQs to n nm e) ∧ tot (pSQs to n nm e) ≤ tot e + qz s n nm := by
  intro n
  induction n with
  | zero => intro nm e _ h _ _ _ _ _; exact ⟨h, SgF.rf, by unfold pSQs qz; omega⟩
  | succ n ih =>
    intro nm e m0 h hT t1 hd n0 hc
    have n7 := h.cn.1
    unfold pSQs
    unfold qz at hc ⊢
    by_cases c : nm < 4
    · rw [if_pos c] at hc ⊢
      rw [if_pos c, hT]
      have q0 := qz_n (s := s) n (nm + 1)
      obtain ⟨k1, k2, k3⟩ := HK.sigq t0 m0 c (sq s nm) e h t1 hd n0 (hS nm m0 c) (by omega)
      obtain ⟨u1, u2, u3⟩ := ih (nm + 1) _ (by omega) k1 (k2.1.2.trans hT) (by rw [k2.1.1]; exact t1) (fun d => hd ((Dead.eq (k2.2.1 _ _ (by omega) (by omega) (by omega) (by omega))).mp d)) (by have := k2.2.2.2.1; omega) (by omega)
      exact ⟨u1, k2.tr u2, by omega⟩
    · rw [if_neg c, if_neg c]
      exact ⟨h, SgF.rf, by omega⟩
theorem HK.sndL (t0 : 0 ≤ to) (hq : q ≠ to) (q0 : 0 ≤ q) : ∀ (n : Nat) (i : Int) (e : ES), 0 ≤ i → HK S D T W X e → to < e.1 7 2 → ¬ Dead e to → q < e.1 7 2 → 0 < hN e to → i ≤ sz → sz ≤ hN e q → sz - i < n → tot e + (csg (eH e q) sz.toNat - csg (eH e q) i.toNat) ≤ S → HK S D T W X (pSndL to q sz n i e) ∧ SgF to e (pSndL to q sz n i e) ∧ tot (pSndL to q sz n i e) ≤ tot e + (csg (eH e q) sz.toNat - csg (eH e q) i.toNat) := by
  intro n
  induction n with
  | zero => intro i e _ _ _ _ _ _ h1 _ h2 _; omega
  | succ n ih =>
    intro i e i0 h t1 hd q1 n0 hi hs hn hc
    have n7 := h.cn.1
    unfold pSndL
    by_cases c : i < sz
    · rw [if_pos c]
      have hm := csg_m (E := eH e q) (sz.toNat - (i.toNat + 1)) (i.toNat + 1)
      rw [show i.toNat + 1 + (sz.toNat - (i.toNat + 1)) = sz.toNat by omega] at hm
      have hs1 := csg_s (E := eH e q) i.toNat
      rw [show ((i.toNat : Nat) : Int) = i by omega] at hs1
      have hi1 : (i + 1).toNat = i.toNat + 1 := by omega
      by_cases c4 : ek (eH e q i) = 4
      · rw [if_pos c4]
        rw [if_pos c4] at hs1
        have hL := (h.2.1 q q0 q1).1.2.1 i i0 (by omega)
        have g := SgF.arr (to := to) (k := 4) (x := ex (eH e q i)) (y := ey (eH e q i)) (e := e) t0 (by omega)
        have h1 := h.arr (x := ex (eH e q i)) (y := ey (eH e q i)) t0 t1 (Or.inl rfl) n0 (Int.natCast_nonneg _) (by have := hL.2.1.2.2 c4; omega) (fun _ => hL.2.1.2.2 c4) (Int.natCast_nonneg _) hL.1.2.2.1 (fun g => by omega) (fun _ => ⟨by omega, hd⟩)
        have e1 := tot_arr (r := to) (k := 4) (x := ex (eH e q i)) (y := ey (eH e q i)) (e := e) h.cn t0 t1 (by omega) (by decide)
        rw [if_pos rfl] at e1
        have gq := g.2.2.1 q hq q0 (by omega)
        obtain ⟨u1, u2, u3⟩ := ih (i + 1) _ (by omega) h1 (by rw [g.1.1]; exact t1) (fun d => hd ((Dead.eq (g.2.1 _ _ (by omega) (by omega) (by omega) (by omega))).mp d)) (by rw [g.1.1]; exact q1) (by have := g.2.2.2.1; omega) (by omega) (by rw [gq.1]; exact hs) (by omega) (by rw [gq.2, hi1]; omega)
        refine ⟨u1, g.tr u2, ?_⟩
        rw [gq.2, hi1] at u3
        omega
      · rw [if_neg c4]
        rw [if_neg c4] at hs1
        obtain ⟨u1, u2, u3⟩ := ih (i + 1) e (by omega) h t1 hd q1 n0 (by omega) hs (by omega) (by rw [hi1]; omega)
        refine ⟨u1, u2, ?_⟩
        rw [hi1] at u3
        omega
    · rw [if_neg c]
      have : i = sz := by omega
      subst this
      exact ⟨h, SgF.rf, by omega⟩
def noX : Int → Int → Int → Prop := fun _ _ _ => False
theorem tot_nrun (hc : CN e) : tot (pNewRun t tn ver par pe e) ≤ tot e := by
  have n7 := hc.1
  have f1 : ∀ a u : Int, a ≠ 7 → a ≠ 7000 + e.1 7 2 → a ≠ 71000 + e.1 7 2 → (pNewRun t tn ver par pe e).1 a u = e.1 a u := fun a u g1 g2 g3 => pNewRun_1 g1 g2 g3
  have fn : (pNewRun t tn ver par pe e).1 7 2 = e.1 7 2 + 1 := pNewRun_n
  have fN : ∀ r : Int, 0 ≤ r → r < e.1 7 2 → hN (pNewRun t tn ver par pe e) r = hN e r := fun r r0 r1 => f1 _ _ (by omega) (by omega) (by omega)
  have fZ : hN (pNewRun t tn ver par pe e) (e.1 7 2) = 0 := pNewRun_h n7.1
  have fH : ∀ r : Int, eH (pNewRun t tn ver par pe e) r = eH e r := fun _ => rfl
  refine sm_le fun r r0 r1 => ?_
  unfold totF
  rw [fn]
  by_cases cr : r = e.1 7 2
  · have hr := pNewRun_r (c := 75) (t := t) (p1 := tn) (p2 := ver) (p3 := par) (p4 := pe) (e := e) (Or.inr (Or.inr rfl))
    rw [show (1000 : Int) * 75 = 75000 by decide] at hr
    unfold csr
    rw [cr, fZ, hr, if_pos (by omega), if_neg (Int.lt_irrefl _)]
    show (if _ then (0 : Int) else 0) + 0 ≤ 0
    split <;> decide
  · unfold csr
    by_cases c : r < e.1 7 2
    · rw [if_pos (by omega), if_pos c, fN r r0 c, fH, f1 _ _ (by omega) (by omega) (by omega), pNewRun_l (c := 75000 + r) (by omega) (by omega) (by omega)]
      exact Int.le_refl _
    · rw [if_neg (by omega), if_neg c]
      exact Int.le_refl _
theorem tot_start (hc : CN e) (hn : e.1 7 2 < 30) : tot (pStart t tn inp par pe e) ≤ tot e := by
  have h1 := tot_nrun (t := t) (tn := tn) (ver := e.1 (48 + 4 * t + 1) 2 - 1) (par := par) (pe := pe) hc
  have hz : hN (pNewRun t tn (e.1 (48 + 4 * t + 1) 2 - 1) par pe e) (e.1 7 2) = 0 := pNewRun_h hc.1.1
  have h2 := tot_arr (r := e.1 7 2) (k := 0) (x := inp) (y := 0) (hc.nrun (t := t) (tn := tn) (ver := e.1 (48 + 4 * t + 1) 2 - 1) (par := par) (pe := pe) hn) hc.1.1 (by rw [pNewRun_n]; omega) (by omega) (Int.le_refl _)
  rw [if_neg (by decide)] at h2
  unfold pStart
  omega
/-- a run dies -/
theorem tot_die (hc : CN e) (r0 : 0 ≤ r) (r1 : r < e.1 7 2) (hd : ¬ Dead e r) (h0 : v ≠ 0) (h6 : v ≠ 6) : tot (eS e (7000 + r) 6 v) = tot e - csr e r := by
  have n7 := hc.1
  have pa : ∀ a u : Int, a ≠ 7000 + r ∨ u ≠ 6 → (eS e (7000 + r) 6 v).1 a u = e.1 a u := fun a u h => by
    by_cases c : a = 7000 + r
    · rw [c]; exact eS_j (by omega)
    · exact eS_a c
  have hh : ∀ i : Int, csr (eS e (7000 + r) 6 v) i = csr e i := fun i => by
    unfold csr hN
    rw [pa _ _ (by omega)]
    rfl
  have h1 := sm_one (r := r) (n := 30) (f := totF e) (g := totF (eS e (7000 + r) 6 v)) r0 (by omega) fun i i0 i1 hi => by
    unfold totF
    rw [hh, pa _ _ (by omega), pa _ _ (by omega)]
    rfl
  have h2 : totF (eS e (7000 + r) 6 v) r = ((eL e (75000 + r)).length : Int) := by
    unfold totF
    rw [pa _ _ (by omega), if_pos r1, eS_e, if_neg (by omega)]
    show 0 + ((eL e (75000 + r)).length : Int) = _
    omega
  have h3 : totF e r = csr e r + ((eL e (75000 + r)).length : Int) := by
    unfold totF
    rw [if_pos r1, if_pos (al_nd.mpr hd)]
  unfold tot
  omega
theorem NZ.start (z : NZ e) (hc : CN e) (hn : e.1 7 2 < 30) : NZ (pStart t tn inp par pe e) := fun r r0 r1 d => by
  have n7 := hc.1
  rw [start_n n7.1] at r1
  by_cases c : r = e.1 7 2
  · have hz : hN (pNewRun t tn (e.1 (48 + 4 * t + 1) 2 - 1) par pe e) r = 0 := by rw [c]; exact pNewRun_h n7.1
    have : hN (pStart t tn inp par pe e) r = hN (pNewRun t tn (e.1 (48 + 4 * t + 1) 2 - 1) par pe e) r + 1 := by
      unfold pStart
      rw [c]
      exact arr_N n7.1
    omega
  · have hh : hN (pStart t tn inp par pe e) r = hN e r := start_a n7.1 (by omega) (by omega) (by omega) (by omega) (by omega) (by omega) (by omega)
    rw [hh]
    exact z r r0 (by omega) fun dd => d ((Dead.eq (start_a n7.1 (by omega) (by omega) (by omega) (by omega) (by omega) (by omega) (by omega))).mpr dd)
/-- a run begins anew as another -/
theorem HK.again (h : HK S D T W noX e) (z : NZ e) (r0 : 0 ≤ r) (r1 : r < e.1 7 2) (hs : e.1 (7000 + r) 6 = 0) (hn : e.1 7 2 < 30) (x0 : 0 ≤ x) (x1 : x ≤ 999) (hS : ∀ n : Int, 0 ≤ n → n < 4 → ∀ v ∈ sq (eT e) n, 0 ≤ v ∧ v ≤ 999) (h11 : 0 ≤ sg (eT e) 0 11 ∧ sg (eT e) 0 11 ≤ hN e r) (hQ : Qn (eT e) ≤ csg (eH e r) (sg (eT e) 0 11).toNat) : HK S D T W noX (pAgain r x e) ∧ NZ (pAgain r x e) := by
  have hc := h.cn
  have n7 := hc.1
  have hd : ¬ Dead e r := fun d => d.1 hs
  have k1 : CS e (eS e (7000 + r) 6 4) := cs_st hc r0 r1 hs
  have h1 := h.dies (st := 4) r0 r1 hd (by decide) (by decide)
  have z1 := z.cs k1
  have pa : ∀ a u : Int, a ≠ 7000 + r ∨ u ≠ 6 → (eS e (7000 + r) 6 4).1 a u = e.1 a u := fun a u h => by
    by_cases c : a = 7000 + r
    · rw [c]; exact eS_j (by omega)
    · exact eS_a c
  have e7 : (eS e (7000 + r) 6 4).1 7 2 = e.1 7 2 := pa _ _ (by omega)
  have hpr := h.pr r r0 r1
  have h2 := h1.start (t := e.1 (7000 + r) 1) (tn := e.1 (7000 + r) 2) (inp := x) (par := e.1 (7000 + r) 4) (pe := e.1 (7000 + r) 5) (X' := noX) (by rw [e7]; exact hn) (by rw [e7]; exact hpr) x0 x1 (fun p0 pd => Or.inr ⟨rfl, rfl, rfl, ⟨p0, hpr.2⟩, fun d => pd (k1.dd p0 hpr.2 d)⟩) fun _ _ _ g => g.elim
  have z2 := z1.start (t := e.1 (7000 + r) 1) (tn := e.1 (7000 + r) 2) (inp := x) (par := e.1 (7000 + r) 4) (pe := e.1 (7000 + r) 5) h1.cn (by rw [e7]; exact hn)
  have c2 := tot_start (t := e.1 (7000 + r) 1) (tn := e.1 (7000 + r) 2) (inp := x) (par := e.1 (7000 + r) 4) (pe := e.1 (7000 + r) 5) h1.cn (by rw [e7]; exact hn)
  rw [tot_die hc r0 r1 hd (by decide) (by decide)] at c2
  have d2 := start_nd (t := e.1 (7000 + r) 1) (tn := e.1 (7000 + r) 2) (inp := x) (par := e.1 (7000 + r) 4) (pe := e.1 (7000 + r) 5) (e := eS e (7000 + r) 6 4) (by rw [e7]; exact n7.1) (by rw [e7]; exact hn)
  have s2 := start_n (t := e.1 (7000 + r) 1) (tn := e.1 (7000 + r) 2) (inp := x) (par := e.1 (7000 + r) 4) (pe := e.1 (7000 + r) 5) (e := eS e (7000 + r) 6 4) (by rw [e7]; exact n7.1)
  have t2 : eT (pStart (e.1 (7000 + r) 1) (e.1 (7000 + r) 2) x (e.1 (7000 + r) 4) (e.1 (7000 + r) 5) (eS e (7000 + r) 6 4)) = eT e := start_T
  have H2 : hN (pStart (e.1 (7000 + r) 1) (e.1 (7000 + r) 2) x (e.1 (7000 + r) 4) (e.1 (7000 + r) 5) (eS e (7000 + r) 6 4)) r = hN e r := (start_a (by rw [e7]; exact n7.1) (by omega) (by omega) (by rw [e7]; omega) (by rw [e7]; omega) (by omega) (by omega) (by rw [e7]; omega)).trans (pa _ _ (by omega))
  have E2 : eH (pStart (e.1 (7000 + r) 1) (e.1 (7000 + r) 2) x (e.1 (7000 + r) 4) (e.1 (7000 + r) 5) (eS e (7000 + r) 6 4)) r = eH e r := start_h (by rw [e7]; omega)
  rw [e7] at s2 d2
  unfold pAgain
  have w2 : 0 < hN (pStart (e.1 (7000 + r) 1) (e.1 (7000 + r) 2) x (e.1 (7000 + r) 4) (e.1 (7000 + r) 5) (eS e (7000 + r) 6 4)) (e.1 7 2) := by
    have hz : hN (pNewRun (e.1 (7000 + r) 1) (e.1 (7000 + r) 2) ((eS e (7000 + r) 6 4).1 (48 + 4 * e.1 (7000 + r) 1 + 1) 2 - 1) (e.1 (7000 + r) 4) (e.1 (7000 + r) 5) (eS e (7000 + r) 6 4)) (e.1 7 2) = 0 := by
      have := pNewRun_h (t := e.1 (7000 + r) 1) (p1 := e.1 (7000 + r) 2) (p2 := (eS e (7000 + r) 6 4).1 (48 + 4 * e.1 (7000 + r) 1 + 1) 2 - 1) (p3 := e.1 (7000 + r) 4) (p4 := e.1 (7000 + r) 5) (e := eS e (7000 + r) 6 4) (by rw [e7]; exact n7.1)
      rw [e7] at this
      exact this
    unfold pStart
    rw [e7, arr_N n7.1, hz]
    decide
  generalize pStart (e.1 (7000 + r) 1) (e.1 (7000 + r) 2) x (e.1 (7000 + r) 4) (e.1 (7000 + r) 5) (eS e (7000 + r) 6 4) = e2 at h2 z2 c2 s2 t2 d2 H2 E2 w2
  have hm := csg_m (E := eH e r) ((hN e r).toNat - (sg (eT e) 0 11).toNat) (sg (eT e) 0 11).toNat
  rw [show (sg (eT e) 0 11).toNat + ((hN e r).toNat - (sg (eT e) 0 11).toNat) = (hN e r).toNat by omega] at hm
  have hst := h.1.2.2
  have hcr : csr e r = csg (eH e r) (hN e r).toNat := rfl
  obtain ⟨h3, f3, c3⟩ := HK.sigs (s := eT e) n7.1 hS 5 0 e2 (Int.le_refl _) h2 t2 (by omega) d2 w2 (by rw [qz_4]; omega)
  rw [qz_4] at c3
  have z3 := f3.nz z2 (by omega)
  obtain ⟨h1', h2'⟩ := f3.2.2.1 r (by omega) r0 (by omega)
  rw [H2] at h1'
  rw [E2] at h2'
  have d3 : ¬ Dead (pSQs (e.1 7 2) 5 0 e2) (e.1 7 2) := fun d => d2 ((Dead.eq (f3.2.1 _ _ (by omega) (by omega) (by omega) (by omega))).mp d)
  obtain ⟨h4, f4, c4⟩ := HK.sndL (sz := hN e r) (q := r) n7.1 (by omega) r0 ((hN e r - sg (eT e) 0 11).toNat + 1) (sg (eT e) 0 11) _ h11.1 h3 (by rw [f3.1.1]; omega) d3 (by rw [f3.1.1]; omega) (by have := f3.2.2.2.1; omega) h11.2 (by omega) (by omega) (by rw [h2']; omega)
  have z4 := f4.nz z3 (by rw [f3.1.1]; omega)
  have hw : pSnd (e.1 7 2) r (sg (eT e) 0 11) (pSQs (e.1 7 2) 5 0 e2) = pSndL (e.1 7 2) r (hN e r) ((hN e r - sg (eT e) 0 11).toNat + 1) (sg (eT e) 0 11) (pSQs (e.1 7 2) 5 0 e2) := by
    unfold pSnd
    rw [h1']
  rw [hw]
  have h5 := h4.endw (r := r) r0 (by omega)
  have z5 := z4.cs (cs_end (r := r) h4.cn)
  exact HK.deal (r := r) (dep := 0) (rec := fun i d e => pClose 41 i 5 0 d e) (fun i d e i0 i1 h z hs => HK.close 41 i 5 0 d _ e h z i0 i1 hs (by decide) (by decide) (Int.le_refl _) (by decide)) 31 0 _ (Int.le_refl _) h5 z5
end LN5
