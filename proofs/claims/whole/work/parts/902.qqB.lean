/-! HOW MUCH IS PUT: dropping, closing, signals handed on, beginning anew. -/
section QQB
variable {e e' e1 e2 : ES} {a b c d i j k q r v w N M p x y t o m s z st tn ver inp par pe kd ev due to nm sz res dep : Int} {n : Nat}
theorem qq_drA (r0 : 0 ≤ r) (hc : CN e) : QQ r 0 0 0 0 e (pDrAL q ev 61 0 e) := by
  have n7 := hc.1
  have n8 := hc.2.1
  obtain ⟨-, a2, a3⟩ := drA_a (r := q) (v := ev) 61 0 e (by decide) (by omega)
  have hp := drA_pt (r := q) (ev := ev) 61 0 e (Int.le_refl _) (by omega)
  exact QQ.fr r0 (a3 _ _ (by omega)) (a3 _ _ (by omega)) (a3 _ _ (by omega)) (a3 _ _ (by omega)) (fun i i0 i1 => Or.inl (a3 _ _ (by omega))) (fun p p0 p1 => by
    rw [hp]
    split
    · exact Or.inr (Or.inl rfl)
    · exact Or.inl rfl) (fun i i0 i1 => by
    have : eL (pDrAL q ev 61 0 e) (73000 + i) = eL e (73000 + i) := by unfold eL; rw [a2]
    rw [this]
    exact Nat.le_refl _) fun i i0 i1 => ⟨a3 _ _ (by omega), by unfold eH; rw [a2]⟩
theorem drTL_len (q0 : 0 ≤ q) : ∀ (n : Nat) (k : Int) (e : ES) (i : Int), 0 ≤ i → i < 1000 → (eL (pDrTL q ev n k e) (73000 + i)).length ≤ (eL e (73000 + i)).length := by
  intro n
  induction n with
  | zero => intro k e i _ _; exact Nat.le_refl _
  | succ n ih =>
    intro k e i i0 i1
    unfold pDrTL
    split
    · exact Nat.le_refl _
    · refine Nat.le_trans (ih _ _ _ i0 i1) ?_
      split
      · by_cases ci : i = q
        · rw [ci, eLs_a (by omega), eLs_e, List.length_eraseIdx]
          split <;> omega
        · rw [eLs_a (by omega), eLs_a (by omega)]
          exact Nat.le_refl _
      · exact Nat.le_refl _
theorem qq_drT (hc : CN e) (r0 : 0 ≤ r) (q0 : 0 ≤ q) : QQ r 0 0 0 0 e (pDrT q ev e) := by
  have n7 := hc.1
  obtain ⟨b1, -, -⟩ := drTL_T (r := q) (v := ev) q0 ((eL e (73000 + q)).length + 1 + 1) ((eL e (73000 + q)).length - 1) e
  exact QQ.fr r0 (by rw [drT_1]) (by rw [drT_1]) (by rw [drT_1]) (by rw [drT_1]) (fun i _ _ => Or.inl (by rw [drT_1])) (fun p _ _ => Or.inl (by rw [drT_1])) (fun i i0 i1 => drTL_len q0 _ _ _ _ i0 (by omega)) fun i _ _ => ⟨by unfold hN; rw [drT_1], congrFun b1 i⟩
theorem qq_end (hc : CN e) (r0 : 0 ≤ r) : QQ r 0 0 0 0 e (pEnd q e) := by
  have n7 := hc.1
  have n8 := hc.2.1
  obtain ⟨p1, p2, -, p4⟩ := end_pt (r := q) hc
  have pa : ∀ a u : Int, a < 8000 ∨ 9000 ≤ a → (pEnd q e).1 a u = e.1 a u := fun a u h => end_a (by omega)
  exact QQ.fr r0 (pa _ _ (by omega)) (pa _ _ (by omega)) (pa _ _ (by omega)) (pa _ _ (by omega)) (fun i _ _ => Or.inl (pa _ _ (by omega))) (fun p _ _ => by
    rw [p1]
    split
    · exact Or.inr (Or.inl rfl)
    · exact Or.inl rfl) (fun i i0 i1 => by
    rw [p4]
    split
    · exact Nat.zero_le _
    · exact Nat.le_refl _) fun i _ _ => ⟨pa _ _ (by omega), congrFun p2 i⟩
theorem qq_s4 (hc : CN e) (r0 : 0 ≤ r) (i0 : 0 ≤ i) (i1 : i < e.1 7 2) : QQ r 0 0 0 0 e (eS e (7000 + i) 4 v) := by
  have n7 := hc.1
  have n8 := hc.2.1
  have pa : ∀ a u : Int, a ≠ 7000 + i ∨ u ≠ 4 → (eS e (7000 + i) 4 v).1 a u = e.1 a u := fun a u h => by rw [es_pt, if_neg (by omega)]
  exact QQ.fr r0 (pa _ _ (by omega)) (pa _ _ (by omega)) (pa _ _ (by omega)) (pa _ _ (by omega)) (fun i _ _ => Or.inl (pa _ _ (by omega))) (fun p _ _ => Or.inl (pa _ _ (by omega))) (fun i i0 i1 => Nat.le_refl _) fun i _ _ => ⟨pa _ _ (by omega), rfl⟩
theorem qq_drC (r0 : 0 ≤ r) : ∀ (n : Nat) (i : Int) (e : ES), 0 ≤ i → CN e → HNN e → QQ r 0 0 0 0 e (pDrCL q ev n i e) := by
  intro n
  induction n with
  | zero => intro i e _ hc _; exact QQ.rf
  | succ n ih =>
    intro i e i0 hc hK
    have n7 := hc.1
    unfold pDrCL
    by_cases c : i < e.1 7 2
    · rw [if_pos c]
      split
      · have s1 : GC nZ nZ e (if e.1 (7000 + i) 6 = 0 then (pCan i e).2 else e) ∧ QQ r 0 0 0 0 e (if e.1 (7000 + i) 6 = 0 then (pCan i e).2 else e) := by
          split
          · exact ⟨gc_can hc hK i0 c, qq_can hc r0 i0 c (hK i i0 c)⟩
          · exact ⟨⟨GX.rf, hc⟩, QQ.rf⟩
        generalize (if e.1 (7000 + i) 6 = 0 then (pCan i e).2 else e) = e2 at s1
        have i2 : i < e2.1 7 2 := by have := s1.1.n7; omega
        have s2 : GC nZ nZ e2 (eS e2 (7000 + i) 4 (-1)) := ⟨gx_par1 s1.1.2 i0 i2, cn_eS s1.1.2 (by omega)⟩
        have s3 := s1.1.tr s2 hK hc
        exact ((s1.2.tr (qq_s4 s1.1.2 r0 i0 i2)).tr (ih (i + 1) _ (by omega) s3.2 (s3.hk hK))).mono (by decide) (by decide) (by decide) (by decide)
      · exact ih _ _ (by omega) hc hK
    · rw [if_neg c]
      exact QQ.rf
theorem qq_drop (hc : CN e) (hK : HNN e) (r0 : 0 ≤ r) (q0 : 0 ≤ q) (q1 : q < e.1 7 2) : QQ r 0 0 0 0 e (pDrop q ev e) := by
  have s1 := gc_drA (Z := nZ) (r := q) (ev := ev) 61 0 e (Int.le_refl _) hc hK
  have s2 : GC nZ nZ (pDrAL q ev 61 0 e) (pDrT q ev (pDrAL q ev 61 0 e)) := ⟨gx_drTL q0 _ _ _ s1.2 (by have := s1.n7; omega), s1.2.drT⟩
  have s3 := s1.tr s2 hK hc
  exact (((qq_drA r0 hc).tr (qq_drT s1.2 r0 q0)).tr (qq_drC r0 31 0 _ (Int.le_refl _) s3.2 (s3.hk hK))).mono (by decide) (by decide) (by decide) (by decide)
theorem qq_deal {rec : Int → Int → ES → ES} (r0 : 0 ≤ r) (hrec : ∀ (i d : Int) (e : ES), 0 ≤ i → i < e.1 7 2 → CN e → HNN e → e.1 (7000 + i) 6 = 0 → GC nZ nZ e (rec i d e) ∧ QQ r 0 0 0 0 e (rec i d e)) : ∀ (n : Nat) (i : Int) (e : ES), 0 ≤ i → CN e → HNN e → QQ r 0 0 0 0 e (pDealL rec q dep n i e) := by
  intro n
  induction n with
  | zero => intro i e _ hc _; exact QQ.rf
  | succ n ih =>
    intro i e i0 hc hK
    unfold pDealL
    by_cases c : i < e.1 7 2
    · rw [if_pos c]
      have s1 : GC nZ nZ e (if e.1 (7000 + i) 4 = q ∧ e.1 (7000 + i) 6 = 0 then (if e.1 (48 + 4 * e.1 (7000 + i) 1) 2 = 1 then (pCan i e).2 else if e.1 (48 + 4 * e.1 (7000 + i) 1) 2 = 2 ∧ dep < 40 then rec i (dep + 1) e else e) else e) ∧ QQ r 0 0 0 0 e (if e.1 (7000 + i) 4 = q ∧ e.1 (7000 + i) 6 = 0 then (if e.1 (48 + 4 * e.1 (7000 + i) 1) 2 = 1 then (pCan i e).2 else if e.1 (48 + 4 * e.1 (7000 + i) 1) 2 = 2 ∧ dep < 40 then rec i (dep + 1) e else e) else e) := by
        by_cases c2 : e.1 (7000 + i) 4 = q ∧ e.1 (7000 + i) 6 = 0
        · rw [if_pos c2]
          split
          · exact ⟨gc_can hc hK i0 c, qq_can hc r0 i0 c (hK i i0 c)⟩
          · split
            · exact hrec i (dep + 1) e i0 c hc hK c2.2
            · exact ⟨⟨GX.rf, hc⟩, QQ.rf⟩
        · rw [if_neg c2]
          exact ⟨⟨GX.rf, hc⟩, QQ.rf⟩
      exact (s1.2.tr (ih (i + 1) _ (by omega) s1.1.2 (s1.1.hk hK))).mono (by decide) (by decide) (by decide) (by decide)
    · rw [if_neg c]
      exact QQ.rf
theorem qq_up (hc : CN e) (hK : HNN e) (r0 : 0 ≤ r) : QQ r 1 1 0 0 e (pUp q st res e) := by
  have one : ∀ (p k x y : Int), 0 ≤ p → p < e.1 7 2 → (k = 5 ∨ k = 6) → QQ r 1 1 0 0 e (pArr p k x y e) := fun p k x y p0 p1 hk => (qq_arr hc r0 p0 p1 (hK p p0 p1) (by omega)).mono (by split <;> omega) (by split <;> split <;> omega) (by rw [if_neg (by omega)]; omega) (by omega)
  unfold pUp
  by_cases c : (0 ≤ e.1 (7000 + q) 4 ∧ e.1 (7000 + q) 4 < e.1 7 2) ∧ (e.1 (7000 + e.1 (7000 + q) 4) 6 = 0 ∨ e.1 (7000 + e.1 (7000 + q) 4) 6 = 6)
  · rw [if_pos c]
    split
    · exact one _ _ _ _ c.1.1 c.1.2 (Or.inl rfl)
    · exact one _ _ _ _ c.1.1 c.1.2 (Or.inr rfl)
  · rw [if_neg c]
    exact QQ.rf.mono (by decide) (by decide) (by decide) (by decide)
/-- a run that is closed pays for what its parent is told -/
theorem qq_close (r0 : 0 ≤ r) : ∀ (n : Nat) (q st res dep : Int) (e : ES), 0 ≤ q → q < e.1 7 2 → CN e → HNN e → e.1 (7000 + q) 6 = 0 → 1 ≤ st → st ≤ 5 → QQ r 0 0 0 0 e (pClose n q st res dep e) := by
  intro n
  induction n with
  | zero => intro q st res dep e _ _ hc _ _ _ _; exact QQ.rf
  | succ n ih =>
    intro q st res dep e q0 q1 hc hK h0 s0 s6
    have n7 := hc.1
    unfold pClose
    have s1 := gc_st (Z := nZ) (st := st) hc q0 q1 h0 (by omega) (by omega)
    have s2 := s1.tr (gc_end (Z := nZ) (r := q) s1.2 q0 (by omega)) hK hc
    have hrec : ∀ (i d : Int) (e : ES), 0 ≤ i → i < e.1 7 2 → CN e → HNN e → e.1 (7000 + i) 6 = 0 → GC nZ nZ e (pClose n i 5 0 d e) ∧ QQ r 0 0 0 0 e (pClose n i 5 0 d e) := fun i d e i0 i1 hc hK h0 => ⟨gc_close n nZ i 5 0 d e i0 i1 hc hK h0 (by decide) (by decide), ih i 5 0 d e i0 i1 hc hK h0 (by decide) (by decide)⟩
    have s3 := s2.tr (gc_deal (Z := nZ) (r := q) (dep := dep) (rec := fun i d e => pClose n i 5 0 d e) (fun i d e i0 i1 hc hK h0 => (hrec i d e i0 i1 hc hK h0).1) 31 0 _ (by decide) s2.2 (s2.hk hK)) hK hc
    exact ((((qq_st hc r0 q0 q1 h0 (by omega) (by omega)).tr (qq_end s1.2 r0)).tr (qq_deal (q := q) (dep := dep) (rec := fun i d e => pClose n i 5 0 d e) r0 hrec 31 0 _ (by decide) s2.2 (s2.hk hK))).tr (qq_up s3.2 (s3.hk hK) r0)).mono (by decide) (by decide) (by decide) (by decide)
theorem qq_sig (hc : CN e) (hK : HNN e) (r0 : 0 ≤ r) (t0 : 0 ≤ to) (t1 : to < e.1 7 2) : QQ r 1 1 1 0 e (pArr to 4 x y e) := (qq_arr hc r0 t0 t1 (hK to t0 t1) (by decide)).mono (by decide) (by rw [if_neg (show ¬ (4 : Int) = 7 by decide)]; split <;> omega) (by decide) (by decide)
theorem qq_sq (r0 : 0 ≤ r) (t0 : 0 ≤ to) : ∀ (l : List Int) (e : ES), CN e → HNN e → to < e.1 7 2 → QQ r l.length l.length l.length 0 e (pSQ to nm l e) ∧ SgF to e (pSQ to nm l e) := by
  intro l
  induction l with
  | nil => intro e hc _ _; exact ⟨QQ.rf, SgF.rf⟩
  | cons v l ih =>
    intro e hc hK t1
    have n7 := hc.1
    unfold pSQ
    have s1 := gc_arr (Z := nZ) (k := 4) (x := nm) (y := v) hc hK t0 t1 (by decide) (by decide)
    obtain ⟨g1, g2⟩ := ih _ s1.2 (s1.hk hK) (by have := s1.n7; omega)
    have h1 := qq_sig (x := nm) (y := v) hc hK r0 t0 t1
    rw [List.length_cons]
    exact ⟨(h1.tr g1).mono (by omega) (by omega) (by omega) (by omega), (SgF.arr t0 (by omega)).tr g2⟩
theorem qq_sqs (r0 : 0 ≤ r) (t0 : 0 ≤ to) : ∀ (n : Nat) (nm : Int) (e : ES), CN e → HNN e → to < e.1 7 2 → QQ r (qz (eT e) n nm) (qz (eT e) n nm) (qz (eT e) n nm) 0 e (pSQs to n nm e) ∧ SgF to e (pSQs to n nm e) := by
  intro n
  induction n with
  | zero => intro nm e hc _ _; exact ⟨QQ.rf, SgF.rf⟩
  | succ n ih =>
    intro nm e hc hK t1
    unfold pSQs qz
    split
    · have s1 := gc_sq (Z := nZ) (nm := nm) t0 (sq (eT e) nm) e hc hK t1
      obtain ⟨h1, h2⟩ := qq_sq (nm := nm) r0 t0 (sq (eT e) nm) e hc hK t1
      obtain ⟨g1, g2⟩ := ih (nm + 1) _ s1.2 (s1.hk hK) (by have := s1.n7; omega)
      rw [h2.1.2] at g1
      exact ⟨(h1.tr g1).mono (Int.le_refl _) (Int.le_refl _) (Int.le_refl _) (by decide), h2.tr g2⟩
    · exact ⟨QQ.rf, SgF.rf⟩
theorem qq_snd (r0 : 0 ≤ r) (t0 : 0 ≤ to) (hq : q ≠ to) (q0 : 0 ≤ q) (q1 : q < 1000) : ∀ (n : Nat) (i : Int) (e : ES), CN e → HNN e → to < e.1 7 2 → 0 ≤ i → i ≤ sz → QQ r (csg (eH e q) sz.toNat - csg (eH e q) i.toNat) (csg (eH e q) sz.toNat - csg (eH e q) i.toNat) (csg (eH e q) sz.toNat - csg (eH e q) i.toNat) 0 e (pSndL to q sz n i e) ∧ SgF to e (pSndL to q sz n i e) := by
  intro n
  have mono : ∀ (E : Int → Ev) (i : Int), i ≤ sz → 0 ≤ i → csg E i.toNat ≤ csg E sz.toNat := fun E i h0 h1 => by
    have := csg_m (E := E) (sz.toNat - i.toNat) i.toNat
    rw [show i.toNat + (sz.toNat - i.toNat) = sz.toNat by omega] at this
    exact this
  induction n with
  | zero =>
    intro i e hc _ _ i0 i1
    have := mono (eH e q) i i1 i0
    exact ⟨QQ.rf.mono (by omega) (by omega) (by omega) (by omega), SgF.rf⟩
  | succ n ih =>
    intro i e hc hK t1 i0 i1
    have n7 := hc.1
    unfold pSndL
    by_cases c : i < sz
    · rw [if_pos c]
      have hs : csg (eH e q) (i + 1).toNat = csg (eH e q) i.toNat + if ek (eH e q i) = 4 then 1 else 0 := by
        rw [show (i + 1).toNat = i.toNat + 1 by omega, csg_s, show ((i.toNat : Nat) : Int) = i by omega]
      by_cases c4 : ek (eH e q i) = 4
      · rw [if_pos c4]
        rw [if_pos c4] at hs
        have s1 := gc_arr (Z := nZ) (k := 4) (x := ex (eH e q i)) (y := ey (eH e q i)) hc hK t0 t1 (by decide) (by decide)
        have f1 := SgF.arr (to := to) (k := 4) (x := ex (eH e q i)) (y := ey (eH e q i)) (e := e) t0 (by omega)
        obtain ⟨g1, g2⟩ := ih (i + 1) _ s1.2 (s1.hk hK) (by have := s1.n7; omega) (by omega) (by omega)
        rw [(f1.2.2.1 q hq q0 q1).2] at g1
        exact ⟨((qq_sig hc hK r0 t0 t1).tr g1).mono (by omega) (by omega) (by omega) (by omega), f1.tr g2⟩
      · rw [if_neg c4]
        rw [if_neg c4] at hs
        obtain ⟨g1, g2⟩ := ih (i + 1) e hc hK t1 (by omega) (by omega)
        exact ⟨g1.mono (by omega) (by omega) (by omega) (by omega), g2⟩
    · rw [if_neg c]
      have := mono (eH e q) i i1 i0
      exact ⟨QQ.rf.mono (by omega) (by omega) (by omega) (by omega), SgF.rf⟩
theorem qq_start (hc : CN e) (hK : HNN e) (r0 : 0 ≤ r) (hn : e.1 7 2 < 30) : QQ r 3 3 0 0 e (pStart t tn inp par pe e) := by
  have n7 := hc.1
  have h1 := qq_nrun (r := r) (t := t) (tn := tn) (ver := e.1 (48 + 4 * t + 1) 2 - 1) (par := par) (pe := pe) hc r0 hn
  have hc1 := hc.nrun (t := t) (tn := tn) (ver := e.1 (48 + 4 * t + 1) 2 - 1) (par := par) (pe := pe) hn
  have h2 := qq_arr (r := r) (q := e.1 7 2) (k := 0) (x := inp) (y := 0) hc1 r0 n7.1 (by rw [pNewRun_n]; omega) (hn_nn hK hc _ n7.1 (by rw [pNewRun_n]; omega)) (Int.le_refl _)
  unfold pStart
  exact (h1.tr h2).mono (by decide) (by rw [if_neg (show ¬ (0 : Int) = 7 by decide)]; split <;> omega) (by decide) (by decide)
end QQB
