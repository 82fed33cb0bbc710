/-! THE ENGINE: a run goes on as a new one; what one new command does. -/
section AGN
variable {m m' M2 : MM} {ow ow' : Int → Int} {ad ad' ad1 : Int → Int → Int} {e e' e1 e2 : ES} {D : Int → Prop} {a b c i j k o r v n h N B t x y z p q tn par pe inp fr to sz st res dep nm p1 p2 p3 p4 p5 p6 kd ln : Int} {l : List Int} {E : Int → Ev} {s : TS} {f : Int → Int}
theorem CE.que (C : CE m ow ad e) (h0 : 0 ≤ n) (h1 : n < 4) : fm_X8_queue n m = some (35 + 2 * n) ∧ RowIs m (35 + 2 * n) (sq (eT e) n) := by
  obtain ⟨L, hR, ⟨l1, l2, -⟩, -⟩ := C.mac.1.2.2.2.2
  refine ⟨queue_e C.fix h0 h1, ?_⟩
  have := (hR _ (qrow h0 h1)).1
  rw [l2 n h0 h1] at this
  exact this
/-- the signals of a queue come to a run -/
def pSQ (to nm : Int) : List Int → ES → ES
  | [], e => e
  | v :: t, e => pSQ to nm t (pArr to 4 nm v e)
theorem sq_cl (t0 : 0 ≤ to) (t1 : to < 1000) : ∀ (l : List Int) (e : ES), e.1 7 2 ≤ 1000 → CL e (pSQ to nm l e) := by
  intro l
  induction l with
  | nil => intro e _; exact CL.rf
  | cons v t ih =>
    intro e h7
    have h := arr_cl (e := e) (i := to) (k := 4) (x := nm) (y := v) t0 t1 h7
    exact h.tr (ih _ (by rw [h.2.1 7 (by decide) (by decide)]; exact h7))
theorem arr_T : eT (pArr i k x y e) = eT e := by
  show (pOrd i k e).2.2.2.1 = e.2.2.2.1
  rw [ord_2]
theorem sq_T : ∀ (l : List Int) (e : ES), eT (pSQ to nm l e) = eT e := by
  intro l
  induction l with
  | nil => intro e; rfl
  | cons v t ih => intro e; exact (ih _).trans arr_T
theorem sq_a {u : Int} (h1 : a ≠ 68) (h2 : a ≠ 3) (h3 : a ≠ 76000 + to) (h4 : a ≠ 71000 + to) (h5 : a ≠ 4 ∨ u ≠ 16) : ∀ (l : List Int) (e : ES), (pSQ to nm l e).1 a u = e.1 a u := by
  intro l
  induction l with
  | nil => intro e; rfl
  | cons v t ih => intro e; exact (ih _).trans (arr_a h1 h2 h3 h4 h5)
theorem sq_l (t0 : 0 ≤ to) (n0 : 0 ≤ nm) (n1 : nm < 4) {K : MM → Option (Int × MM)} {L : List Int} (hL : ∀ v ∈ L, 0 ≤ v ∧ v ≤ 999) : ∀ (l : List Int) (f : Nat) (i : Int) (m : MM) (ow : Int → Int) (e : ES), CE m ow ad e → sq (eT e) nm = L → L.drop i.toNat = l → 0 ≤ i → to < e.1 7 2 → ¬ Dead e to → BDl e → BDf (pSQ to nm l e) → l.length < f → ∃ m', fl_X11_goOnAsNew_53 y (ad 7 to) nm (35 + 2 * nm) K f i m = K m' ∧ CX1 m' ad (pSQ to nm l e) := by
  intro l
  induction l with
  | nil =>
    intro f i m ow e C hs hd i0 r1 nd hl hf h2
    obtain ⟨f, rfl⟩ : ∃ g, f = g + 1 := ⟨f - 1, by simp only [List.length_nil] at h2; omega⟩
    obtain ⟨q1, q2⟩ := C.que n0 n1
    rw [hs] at q2
    have hlen := q2.len
    have : L.length ≤ i.toNat := List.drop_eq_nil_iff.mp hd
    unfold fl_X11_goOnAsNew_53
    rw [gd_t q2.1.1, lx_p, hlen.1, if_neg (by omega)]
    exact ⟨m, rfl, ow, C⟩
  | cons v t ih =>
    intro f i m ow e C hs hd i0 r1 nd hl hf h2
    obtain ⟨f, rfl⟩ : ∃ g, f = g + 1 := ⟨f - 1, by omega⟩
    obtain ⟨q1, q2⟩ := C.que n0 n1
    rw [hs] at q2
    have hlen := q2.len
    have hi : i.toNat < L.length := by
      have := congrArg List.length hd
      rw [List.length_drop] at this
      simp only [List.length_cons] at this
      omega
    have hg : L[i.toNat]? = some v := by
      have := congrArg (fun z => z[0]?) hd
      simp only [List.getElem?_drop, List.getElem?_cons_zero, Nat.add_zero] at this
      exact this
    have hv := hL v (List.mem_of_getElem? hg)
    have hw := wide_get q2 hg
    rw [show ((i.toNat : Nat) : Int) = i by omega] at hw
    have hat : fm_X5_at (35 + 2 * nm) i m = some v := by
      unfold fm_X5_at
      rw [bp_t hw]
      congr 1
      exact w32_id (by omega) (by omega)
    have hcl := arr_cl (e := e) (i := to) (k := 4) (x := nm) (y := v) t0 (by have := C.cn.1; omega) (by have := C.cn.1; omega)
    have hs7 := hcl.2.1 7 (by decide) (by decide)
    have n7 := C.cn.1
    have hmo := (sq_cl (nm := nm) t0 (show to < 1000 by omega) t (pArr to 4 nm v e) (by rw [hs7]; omega)).1
    obtain ⟨m1, g1, ow1, C1⟩ := C.arr (k := 4) (x := nm) (y := v) t0 r1 nd (hl.bd t0 (hf.of hmo)) (by decide) (by decide) n0 (by omega) hv.1 (by omega)
    unfold fl_X11_goOnAsNew_53
    rw [gd_t q2.1.1, lx_p, hlen.1, if_pos (by omega), bp_t hat, bd_t g1, lx_p, w32_id (by omega) (by omega)]
    refine ih f (i + 1) m1 ow1 _ C1 (by rw [arr_T]; exact hs) ?_ (by omega) (by rw [hs7]; exact r1) (fun hh => nd ?_) (hcl.1.2 hl) hf (by simp only [List.length_cons] at h2; omega)
    · rw [show (i + 1).toNat = i.toNat + 1 by omega, ← List.tail_drop, hd]
      rfl
    · unfold Dead at hh ⊢
      rw [arr_a (by omega) (by omega) (by omega) (by omega) (by omega)] at hh
      exact hh
/-- all four queues -/
def pSQs (to : Int) : Nat → Int → ES → ES
  | 0, _, e => e
  | n + 1, nm, e => if nm < 4 then pSQs to n (nm + 1) (pSQ to nm (sq (eT e) nm) e) else e
theorem sqs_cl (t0 : 0 ≤ to) (t1 : to < 1000) : ∀ (n : Nat) (i : Int) (e : ES), e.1 7 2 ≤ 1000 → CL e (pSQs to n i e) ∧ eT (pSQs to n i e) = eT e := by
  intro n
  induction n with
  | zero => intro i e _; exact ⟨CL.rf, rfl⟩
  | succ n ih =>
    intro i e h7
    unfold pSQs
    split
    · have h := sq_cl (nm := i) t0 t1 (sq (eT e) i) e h7
      obtain ⟨k1, k2⟩ := ih (i + 1) (pSQ to i (sq (eT e) i) e) (by rw [h.2.1 7 (by decide) (by decide)]; exact h7)
      exact ⟨h.tr k1, k2.trans (sq_T _ _)⟩
    · exact ⟨CL.rf, rfl⟩
theorem sqs_a {u : Int} (h1 : a ≠ 68) (h2 : a ≠ 3) (h3 : a ≠ 76000 + to) (h4 : a ≠ 71000 + to) (h5 : a ≠ 4 ∨ u ≠ 16) : ∀ (n : Nat) (i : Int) (e : ES), (pSQs to n i e).1 a u = e.1 a u := by
  intro n
  induction n with
  | zero => intro i e; rfl
  | succ n ih =>
    intro i e
    unfold pSQs
    split
    · exact (ih _ _).trans (sq_a h1 h2 h3 h4 h5 _ _)
    · rfl
theorem sqs_l (t0 : 0 ≤ to) {K : MM → Option (Int × MM)} {S : TS} (hS : ∀ n : Int, 0 ≤ n → n < 4 → ∀ v ∈ sq S n, 0 ≤ v ∧ v ≤ 999) : ∀ (n f : Nat) (i : Int) (m : MM) (ow : Int → Int) (e : ES), CE m ow ad e → eT e = S → to < e.1 7 2 → ¬ Dead e to → BDl e → BDf (pSQs to n i e) → 0 ≤ i → i ≤ 4 → 4 - i < n → n ≤ f → ∃ m', fl_X11_goOnAsNew_30 y (ad 7 to) K f i m = K m' ∧ CX1 m' ad (pSQs to n i e) := by
  intro n
  induction n with
  | zero => intro f i m ow e C hs r1 nd hl hf i0 i9 h1 h2; omega
  | succ n ih =>
    intro f i m ow e C hs r1 nd hl hf i0 i9 h1 h2
    obtain ⟨f, rfl⟩ : ∃ g, f = g + 1 := ⟨f - 1, by omega⟩
    unfold fl_X11_goOnAsNew_30
    unfold pSQs at hf ⊢
    have n7 := C.cn.1
    by_cases c1 : i < 4
    · rw [if_pos c1] at hf ⊢
      obtain ⟨q1, q2⟩ := C.que i0 c1
      have hcl := sq_cl (nm := i) t0 (show to < 1000 by omega) (sq (eT e) i) e (by omega)
      have hs7 := hcl.2.1 7 (by decide) (by decide)
      have hmo := (sqs_cl t0 (show to < 1000 by omega) n (i + 1) (pSQ to i (sq (eT e) i) e) (by rw [hs7]; omega)).1.1
      have hlen := q2.len.2
      obtain ⟨m1, g1, ow1, C1⟩ := sq_l (ad := ad) (y := y) (nm := i) t0 i0 c1 (K := fun m_150 =>
lx (w32 (i + 1)) fun x_160 =>
fl_X11_goOnAsNew_30 y (ad 7 to) K f x_160 m_150) (L := sq (eT e) i) (by rw [hs]; exact hS i i0 c1) (sq (eT e) i) BIG 0 m ow e C rfl rfl (by decide) r1 nd hl (hf.of hmo) (BIG_g (by omega))
      rw [if_pos c1, bp_t q1, g1, lx_p, w32_id (by omega) (by omega)]
      refine ih f (i + 1) m1 ow1 _ C1 ((sq_T _ _).trans hs) (by rw [hs7]; exact r1) (fun hh => nd ?_) (hcl.1.2 hl) hf (by omega) (by omega) (by omega) (by omega)
      unfold Dead at hh ⊢
      rw [sq_a (by omega) (by omega) (by omega) (by omega) (by omega)] at hh
      exact hh
    · rw [if_neg c1, if_neg c1]
      exact ⟨m, rfl, ow, C⟩
/-- a run goes on as a new one -/
def pAgain (r x : Int) (e : ES) : ES := pDealL (fun i d e => pClose 41 i 5 0 d e) r 0 31 0 (pEnd r (pSnd (e.1 7 2) r (sg (eT e) 0 11) (pSQs (e.1 7 2) 5 0 (pStart (e.1 (7000 + r) 1) (e.1 (7000 + r) 2) x (e.1 (7000 + r) 4) (e.1 (7000 + r) 5) (eS e (7000 + r) 6 4)))))
theorem arr_nd (h : ¬ Dead e j) (i0 : 0 ≤ i) (j0 : 0 ≤ j) (j1 : j < 1000) : ¬ Dead (pArr i k x y e) j := fun hh => h (by
  unfold Dead at hh ⊢
  rw [arr_a (by omega) (by omega) (by omega) (by omega) (by omega)] at hh
  exact hh)
theorem start_nd (n0 : 0 ≤ e.1 7 2) (n1 : e.1 7 2 < 30) : ¬ Dead (pStart t tn inp par pe e) (e.1 7 2) := by
  unfold pStart
  refine arr_nd (fun hh => hh.1 ?_) n0 n0 (by omega)
  rw [pNewRun_f n0]
  rfl
theorem start_T : eT (pStart t tn inp par pe e) = eT e := arr_T
theorem TyO.start (h : TyO e) (t0 : 0 ≤ t) (t1 : t < 4) (p0 : 0 ≤ pe) (p1 : pe < 524288) (n0 : 0 ≤ e.1 7 2) (n1 : e.1 7 2 < 30) : TyO (pStart t tn inp par pe e) := fun i i0 i1 => by
  rw [start_n n0] at i1
  by_cases c : i = e.1 7 2
  · subst c
    unfold pStart
    rw [arr_a (by omega) (by omega) (by omega) (by omega) (by omega), arr_a (by omega) (by omega) (by omega) (by omega) (by omega), pNewRun_f n0, pNewRun_f n0]
    exact ⟨⟨t0, t1⟩, p0, p1⟩
  · rw [start_a n0 (by omega) (by omega) (by omega) (by omega) (by omega) (by omega) (by omega), start_a n0 (by omega) (by omega) (by omega) (by omega) (by omega) (by omega) (by omega)]
    exact h i i0 (by omega)
theorem set4_lv (h8 : AG e ad ad') (i0 : 0 ≤ i) (i1 : i < e.1 7 2) : ad' 7 i = ad 7 i ∧ ad' 71 i = ad 71 i := ⟨h8 7 i (Or.inl ⟨by omega, i0, i1⟩), h8 71 i (Or.inl ⟨by omega, i0, i1⟩)⟩
theorem again_mo (r0 : 0 ≤ r) (r1 : r < e.1 7 2) (h7 : e.1 7 2 < 30) (h8 : e.1 8 2 ≤ 1000) : MO e (pAgain r x e) ∧ ∀ e3, e3 = pSQs (e.1 7 2) 5 0 (pStart (e.1 (7000 + r) 1) (e.1 (7000 + r) 2) x (e.1 (7000 + r) 4) (e.1 (7000 + r) 5) (eS e (7000 + r) 6 4)) → MO (pStart (e.1 (7000 + r) 1) (e.1 (7000 + r) 2) x (e.1 (7000 + r) 4) (e.1 (7000 + r) 5) (eS e (7000 + r) 6 4)) (pAgain r x e) ∧ MO e3 (pAgain r x e) ∧ MO (pSnd (e.1 7 2) r (sg (eT e) 0 11) e3) (pAgain r x e) ∧ CL (pStart (e.1 (7000 + r) 1) (e.1 (7000 + r) 2) x (e.1 (7000 + r) 4) (e.1 (7000 + r) 5) (eS e (7000 + r) 6 4)) (pEnd r (pSnd (e.1 7 2) r (sg (eT e) 0 11) e3)) ∧ CL (pStart (e.1 (7000 + r) 1) (e.1 (7000 + r) 2) x (e.1 (7000 + r) 4) (e.1 (7000 + r) 5) (eS e (7000 + r) 6 4)) e3 ∧ CL e3 (pSnd (e.1 7 2) r (sg (eT e) 0 11) e3) := by
  have a1 := stat_cl (e := e) (v := 4) r0 (show r < 1000 by omega) (by decide)
  have s7 : (eS e (7000 + r) 6 4).1 7 2 = e.1 7 2 := a1.2.1 7 (by decide) (by decide)
  have s8 : (eS e (7000 + r) 6 4).1 8 2 = e.1 8 2 := a1.2.1 8 (by decide) (by decide)
  have a2 : MO (eS e (7000 + r) 6 4) (pStart (e.1 (7000 + r) 1) (e.1 (7000 + r) 2) x (e.1 (7000 + r) 4) (e.1 (7000 + r) 5) (eS e (7000 + r) 6 4)) := start_mo (by rw [s7]; omega) (by rw [s7]; omega)
  have n2 : (pStart (e.1 (7000 + r) 1) (e.1 (7000 + r) 2) x (e.1 (7000 + r) 4) (e.1 (7000 + r) 5) (eS e (7000 + r) 6 4)).1 7 2 = e.1 7 2 + 1 := by rw [start_n (by rw [s7]; omega), s7]
  have n8 : (pStart (e.1 (7000 + r) 1) (e.1 (7000 + r) 2) x (e.1 (7000 + r) 4) (e.1 (7000 + r) 5) (eS e (7000 + r) 6 4)).1 8 2 = e.1 8 2 := by rw [start_a (by rw [s7]; omega) (by omega) (by omega) (by rw [s7]; omega) (by rw [s7]; omega) (by omega) (by omega) (by rw [s7]; omega), s8]
  have eA : pAgain r x e = pDealL (fun i d e => pClose 41 i 5 0 d e) r 0 31 0 (pEnd r (pSnd (e.1 7 2) r (sg (eT e) 0 11) (pSQs (e.1 7 2) 5 0 (pStart (e.1 (7000 + r) 1) (e.1 (7000 + r) 2) x (e.1 (7000 + r) 4) (e.1 (7000 + r) 5) (eS e (7000 + r) 6 4))))) := rfl
  generalize pStart (e.1 (7000 + r) 1) (e.1 (7000 + r) 2) x (e.1 (7000 + r) 4) (e.1 (7000 + r) 5) (eS e (7000 + r) 6 4) = e2 at *
  have a3 := (sqs_cl (to := e.1 7 2) (by omega) (by omega) 5 0 e2 (by omega)).1
  have n3 := a3.2.1 7 (by decide) (by decide)
  have a4 : CL _ (pSnd (e.1 7 2) r (sg (eT e) 0 11) (pSQs (e.1 7 2) 5 0 e2)) := snd_cl (to := e.1 7 2) (by omega) (by omega) _ _ (pSQs (e.1 7 2) 5 0 e2) (by omega)
  have n4 := a4.2.1 7 (by decide) (by decide)
  have n48 := (a3.tr a4).2.1 8 (by decide) (by decide)
  have a5 := end_cl (i := r) (e := pSnd (e.1 7 2) r (sg (eT e) 0 11) (pSQs (e.1 7 2) 5 0 e2)) (by omega) (by omega)
  have n5 := ((a3.tr a4).tr a5).2.1 7 (by decide) (by decide)
  have n58 := ((a3.tr a4).tr a5).2.1 8 (by decide) (by decide)
  have a6 := deal_cl (r := r) (dep := 0) (rec := fun i d e => pClose 41 i 5 0 d e) (fun i d e i0 i1 g7 g8 => close_cl 41 i 5 0 d e i0 i1 (by decide) g7 g8) 31 0 (pEnd r (pSnd (e.1 7 2) r (sg (eT e) 0 11) (pSQs (e.1 7 2) 5 0 e2))) (by decide) (by omega) (by omega)
  rw [eA]
  refine ⟨(((((a1.1.tr a2).tr a3.1).tr a4.1).tr a5.1).tr a6.1), fun e3 he => ?_⟩
  subst he
  exact ⟨((a3.1.tr a4.1).tr a5.1).tr a6.1, (a4.1.tr a5.1).tr a6.1, a5.1.tr a6.1, (a3.tr a4).tr a5, a3, a4⟩
theorem CE.again (C : CE m ow ad e) (r0 : 0 ≤ r) (r1 : r < e.1 7 2) (h7 : e.1 7 2 < 30) (hT : TyO e) (hl : BDl e) (hf : BDf (pAgain r x e)) (x0 : 0 ≤ x) (x1 : x < 1000) (hS : ∀ n : Int, 0 ≤ n → n < 4 → ∀ v ∈ sq (eT e) n, 0 ≤ v ∧ v ≤ 999) (h11 : 0 ≤ sg (eT e) 0 11) : ∃ m' ad', fm_X11_goOnAsNew (ad 7 r) x m = some (0, m') ∧ CX1 m' ad' (pAgain r x e) ∧ AG e ad ad' := by
  have hc8 := C.cn.2.1
  obtain ⟨am, ah⟩ := again_mo (x := x) r0 r1 h7 (by omega)
  obtain ⟨b2, b3, b4, b5, b6, b7⟩ := ah _ rfl
  have a1 := stat_cl (e := e) (v := 4) r0 (show r < 1000 by omega) (by decide)
  have C1 := C.s7 (v := 4) r0 r1 (j := 6) (by decide) (by decide) (fun _ _ => by decide)
  have s7 : (eS e (7000 + r) 6 4).1 7 2 = e.1 7 2 := a1.2.1 7 (by decide) (by decide)
  have hT1 := hT.sf a1.2
  obtain ⟨⟨t0, t1⟩, p0, p1⟩ := hT r r0 r1
  have f1 : mset m (ad 7 r) 6 4 (ad 7 r) 1 = e.1 (7000 + r) 1 := by rw [ms_j (by decide)]; exact C.rf r0 r1 (by decide) (by decide)
  have f2 : mset m (ad 7 r) 6 4 (ad 7 r) 2 = e.1 (7000 + r) 2 := by rw [ms_j (by decide)]; exact C.rf r0 r1 (by decide) (by decide)
  have f4 : mset m (ad 7 r) 6 4 (ad 7 r) 4 = e.1 (7000 + r) 4 := by rw [ms_j (by decide)]; exact C.rf r0 r1 (by decide) (by decide)
  have f5 : mset m (ad 7 r) 6 4 (ad 7 r) 5 = e.1 (7000 + r) 5 := by rw [ms_j (by decide)]; exact C.rf r0 r1 (by decide) (by decide)
  obtain ⟨m2, ad2, g2, ⟨ow2, C2⟩, k2⟩ := C1.start (t := e.1 (7000 + r) 1) (tn := e.1 (7000 + r) 2) (inp := x) (par := e.1 (7000 + r) 4) (pe := e.1 (7000 + r) 5) (a1.1.2 hl) (by rw [s7]; exact h7) t0 t1 x0 x1 (hf.of b2)
  have hl2 := (start_mo (t := e.1 (7000 + r) 1) (tn := e.1 (7000 + r) 2) (inp := x) (par := e.1 (7000 + r) 4) (pe := e.1 (7000 + r) 5) (e := eS e (7000 + r) 6 4) (by rw [s7]; omega) (by rw [s7]; omega)).2 (a1.1.2 hl)
  have hT2 := hT1.start (tn := e.1 (7000 + r) 2) (inp := x) (par := e.1 (7000 + r) 4) t0 t1 p0 p1 (by rw [s7]; omega) (by rw [s7]; omega)
  have nd2 := start_nd (t := e.1 (7000 + r) 1) (tn := e.1 (7000 + r) 2) (inp := x) (par := e.1 (7000 + r) 4) (pe := e.1 (7000 + r) 5) (e := eS e (7000 + r) 6 4) (by rw [s7]; omega) (by rw [s7]; omega)
  have n2 := start_n (t := e.1 (7000 + r) 1) (tn := e.1 (7000 + r) 2) (inp := x) (par := e.1 (7000 + r) 4) (pe := e.1 (7000 + r) 5) (e := eS e (7000 + r) 6 4) (by rw [s7]; omega)
  have eT2 : eT (pStart (e.1 (7000 + r) 1) (e.1 (7000 + r) 2) x (e.1 (7000 + r) 4) (e.1 (7000 + r) 5) (eS e (7000 + r) 6 4)) = eT e := start_T
  rw [s7] at g2 n2 nd2
  have eA : pAgain r x e = pDealL (fun i d e => pClose 41 i 5 0 d e) r 0 31 0 (pEnd r (pSnd (e.1 7 2) r (sg (eT e) 0 11) (pSQs (e.1 7 2) 5 0 (pStart (e.1 (7000 + r) 1) (e.1 (7000 + r) 2) x (e.1 (7000 + r) 4) (e.1 (7000 + r) 5) (eS e (7000 + r) 6 4))))) := rfl
  have hAG : AG e ad ad2 := fun c' i' hv => k2 c' i' (hv.mono (by rw [s7]; omega) (by rw [a1.2.1 8 (by decide) (by decide)]; omega) (by rw [a1.2.1 9 (by decide) (by decide)]; omega) (by rw [a1.2.1 10 (by decide) (by decide)]; omega) (fun t ht => by have := isT_b ht; rw [a1.2.2.2.1 (t + 1) (by omega) (by omega)]; omega))
  obtain ⟨d1, d2⟩ := set4_lv hAG r0 r1
  rw [eA] at hf b3 b4 ⊢
  generalize pStart (e.1 (7000 + r) 1) (e.1 (7000 + r) 2) x (e.1 (7000 + r) 4) (e.1 (7000 + r) 5) (eS e (7000 + r) 6 4) = e2 at *
  have nne : r ≠ e.1 7 2 := by omega
  obtain ⟨m3, g3, ow3, C3⟩ := sqs_l (ad := ad2) (y := ad 7 r) (to := e.1 7 2) (by omega) (K := fun m_178 =>
lx (m_178 (ad 7 r) 16) fun x_187 =>
lx (m_178 17 11) fun x_198 =>
bd (fm_X11_sendSignals (ad2 7 (e.1 7 2)) x_187 x_198 m_178) fun x_201 m_202 =>
bd (fm_X11_endWork (ad 7 r) m_202) fun x_213 m_214 =>
bd (fm_X11_dealWithChildren (ad 7 r) 0 m_214) fun x_227 m_228 =>
some (0, m_228)) (S := eT e) hS 5 BIG 0 m2 ow2 e2 C2 eT2 (by rw [n2]; omega) nd2 hl2 (hf.of b3) (by decide) (by decide) (by decide) (Nat.le_of_lt (BIG_g (by decide)))
  have hT3 := (sqs_cl (to := e.1 7 2) (by omega) (by omega) 5 0 e2 (by rw [n2]; omega)).2
  have nd3 : ¬ Dead (pSQs (e.1 7 2) 5 0 e2) (e.1 7 2) := fun hh => nd2 (by
    unfold Dead at hh ⊢
    rw [sqs_a (by omega) (by omega) (by omega) (by omega) (by omega)] at hh
    exact hh)
  generalize pSQs (e.1 7 2) 5 0 e2 = e3 at *
  have n3 := b6.2.1 7 (by decide) (by decide)
  have e16 : m3 (ad 7 r) 16 = ad2 71 r := by rw [← d1]; exact (C3.run r0 (by rw [n3, n2]; omega)).2.2.2.2.2.1
  have e11 : m3 17 11 = sg (eT e) 0 11 := by rw [C3.mac.1.c17 (by decide) (by decide), hT3, eT2]
  obtain ⟨m4, g4, ow4, C4⟩ := C3.snd (to := e.1 7 2) (q := r) (fr := sg (eT e) 0 11) (by omega) (by rw [n3, n2]; omega) r0 (by rw [n3, n2]; omega) nne nd3 (b6.1.2 hl2) (hf.of b4) h11
  have n4 := (b6.tr b7).2.1 7 (by decide) (by decide)
  obtain ⟨m5, g5, ow5, C5⟩ := C4.endw r0 (by rw [n4, n2]; omega)
  have n5 := b5.2.1 7 (by decide) (by decide)
  obtain ⟨m6, g6, g7⟩ := deal_l (ad := ad2) (N := BIGR) (rec := fun i d e => pClose 41 i 5 0 d e) (dep := 0) (fun i d e i0 i1 g7 g8 => close_cl 41 i 5 0 d e i0 i1 (by decide) g7 g8) (fun hd i m ow e C hT hl i0 i1 hf => close_l 41 BIGR i 5 0 (0 + 1) m ow e C i0 i1 (by decide) (by decide) (by decide) (by decide) (by decide) (by decide) hT hl hf) r0 (by decide) (by decide) 31 BIG 0 m5 ow5 _ C5 (by rw [n5, n2]; omega) (hT2.sf b5.2) (b5.1.2 hl2) hf (by decide) (by rw [n5, n2]; omega) (by rw [n5, n2]; omega) (Nat.le_of_lt (BIG_g (by decide)))
  refine ⟨m6, ad2, ?_, g7, hAG⟩
  unfold fm_X11_goOnAsNew
  rw [d1] at g5 g6
  have g6' : fm_X11_dealWithChildren (ad 7 r) 0 m5 = some (0, m6) := g6
  rw [gd_t (C.rk r0 r1), up_t, lx_p, f1, lx_p, f2, lx_p, f4, lx_p, f5, bd_t g2, g3, lx_p, e16, lx_p, e11, bd_t g4, bd_t g5, bd_t g6']
end AGN
