/-! FIELDS: dropping, closing, signals handed on, beginning anew, carrying out. -/
section GXC
variable {e e' e1 e2 : ES} {Z Z' Z2 : Int → Prop} {a b c i j k q r v w N M p x y t o ev tn ver inp par pe st kd due to nm sz res dep : Int} {n : Nat} {s : TS}
/-- a step, and how many there are -/
def GC (Z Z' : Int → Prop) (e e' : ES) : Prop := GX Z Z' e e' ∧ CN e'
theorem GC.tr (h : GC Z Z' e e1) (g : GC Z' Z2 e1 e2) (hK : HNN e) (hc : CN e) : GC Z Z2 e e2 := ⟨h.1.tr g.1 hK hc.1.1, g.2⟩
theorem GC.hk (h : GC Z Z' e e') (hK : HNN e) : HNN e' := h.1.1.hk hK
theorem GC.n7 (h : GC Z Z' e e') : e.1 7 2 ≤ e'.1 7 2 := h.1.1.1.1
theorem gc_arr (hc : CN e) (hK : HNN e) (r0 : 0 ≤ r) (r1 : r < e.1 7 2) (k0 : 0 ≤ k) (k7 : k ≤ 7) : GC Z Z e (pArr r k x y e) := ⟨gx_arr hc r0 r1 (hK r r0 r1) k0 k7, hc.arr r0⟩
theorem gc_can (hc : CN e) (hK : HNN e) (r0 : 0 ≤ r) (r1 : r < e.1 7 2) : GC Z Z e (pCan r e).2 := by
  unfold pCan
  split
  · exact ⟨GX.rf, hc⟩
  · exact gc_arr hc hK r0 r1 (by decide) (by decide)
theorem gc_drA : ∀ (n : Nat) (i : Int) (e : ES), 0 ≤ i → CN e → HNN e → GC Z Z e (pDrAL r ev n i e) := by
  intro n
  induction n with
  | zero => intro i e _ hc _; exact ⟨GX.rf, hc⟩
  | succ n ih =>
    intro i e i0 hc hK
    have n8 := hc.2.1
    unfold pDrAL
    by_cases c : i < e.1 8 2
    · rw [if_pos c]
      split
      · have s1 : GC Z Z e (eS e (8000 + i) 5 2) := ⟨gx_act2 hc i0 c, cn_eS hc (by omega)⟩
        exact s1.tr (ih _ _ (by omega) s1.2 (s1.hk hK)) hK hc
      · exact ih _ _ (by omega) hc hK
    · rw [if_neg c]
      exact ⟨GX.rf, hc⟩
theorem gc_drC : ∀ (n : Nat) (i : Int) (e : ES), 0 ≤ i → CN e → HNN e → GC Z Z e (pDrCL r ev n i e) := by
  intro n
  induction n with
  | zero => intro i e _ hc _; exact ⟨GX.rf, hc⟩
  | succ n ih =>
    intro i e i0 hc hK
    have n7 := hc.1
    unfold pDrCL
    by_cases c : i < e.1 7 2
    · rw [if_pos c]
      split
      · have s1 : GC Z Z e (if e.1 (7000 + i) 6 = 0 then (pCan i e).2 else e) := by
          split
          · exact gc_can hc hK i0 c
          · exact ⟨GX.rf, hc⟩
        generalize (if e.1 (7000 + i) 6 = 0 then (pCan i e).2 else e) = e2 at s1
        have s2 : GC Z Z e2 (eS e2 (7000 + i) 4 (-1)) := ⟨gx_par1 s1.2 i0 (by have := s1.n7; omega), cn_eS s1.2 (by omega)⟩
        have s3 := s1.tr s2 hK hc
        exact s3.tr (ih _ _ (by omega) s3.2 (s3.hk hK)) hK hc
      · exact ih _ _ (by omega) hc hK
    · rw [if_neg c]
      exact ⟨GX.rf, hc⟩
theorem gc_drop (hc : CN e) (hK : HNN e) (r0 : 0 ≤ r) (r1 : r < e.1 7 2) : GC Z Z e (pDrop r ev e) := by
  have s1 := gc_drA (Z := Z) (r := r) (ev := ev) 61 0 e (Int.le_refl _) hc hK
  have s2 : GC Z Z (pDrAL r ev 61 0 e) (pDrT r ev (pDrAL r ev 61 0 e)) := ⟨gx_drTL r0 _ _ _ s1.2 (by have := s1.n7; omega), s1.2.drT⟩
  have s3 := s1.tr s2 hK hc
  exact s3.tr (gc_drC 31 0 _ (Int.le_refl _) s3.2 (s3.hk hK)) hK hc
theorem gc_deal {rec : Int → Int → ES → ES} (hrec : ∀ (i d : Int) (e : ES), 0 ≤ i → i < e.1 7 2 → CN e → HNN e → e.1 (7000 + i) 6 = 0 → GC Z Z e (rec i d e)) : ∀ (n : Nat) (i : Int) (e : ES), 0 ≤ i → CN e → HNN e → GC Z Z e (pDealL rec r dep n i e) := by
  intro n
  induction n with
  | zero => intro i e _ hc _; exact ⟨GX.rf, hc⟩
  | succ n ih =>
    intro i e i0 hc hK
    unfold pDealL
    by_cases c : i < e.1 7 2
    · rw [if_pos c]
      have s1 : GC Z Z e (if e.1 (7000 + i) 4 = r ∧ e.1 (7000 + i) 6 = 0 then (if e.1 (48 + 4 * e.1 (7000 + i) 1) 2 = 1 then (pCan i e).2 else if e.1 (48 + 4 * e.1 (7000 + i) 1) 2 = 2 ∧ dep < 40 then rec i (dep + 1) e else e) else e) := by
        by_cases c2 : e.1 (7000 + i) 4 = r ∧ e.1 (7000 + i) 6 = 0
        · rw [if_pos c2]
          split
          · exact gc_can hc hK i0 c
          · split
            · exact hrec i (dep + 1) e i0 c hc hK c2.2
            · exact ⟨GX.rf, hc⟩
        · rw [if_neg c2]
          exact ⟨GX.rf, hc⟩
      exact s1.tr (ih (i + 1) _ (by omega) s1.2 (s1.hk hK)) hK hc
    · rw [if_neg c]
      exact ⟨GX.rf, hc⟩
theorem gc_up (hc : CN e) (hK : HNN e) : GC Z Z e (pUp r st res e) := by
  unfold pUp
  by_cases c : (0 ≤ e.1 (7000 + r) 4 ∧ e.1 (7000 + r) 4 < e.1 7 2) ∧ (e.1 (7000 + e.1 (7000 + r) 4) 6 = 0 ∨ e.1 (7000 + e.1 (7000 + r) 4) 6 = 6)
  · rw [if_pos c]
    split
    · exact gc_arr hc hK c.1.1 c.1.2 (by decide) (by decide)
    · exact gc_arr hc hK c.1.1 c.1.2 (by decide) (by decide)
  · rw [if_neg c]
    exact ⟨GX.rf, hc⟩
theorem gc_st (hc : CN e) (r0 : 0 ≤ r) (r1 : r < e.1 7 2) (h0 : e.1 (7000 + r) 6 = 0) (s0 : 0 ≤ st) (s6 : st ≤ 6) : GC Z (fun q => Z q ∨ q = r) e (eS e (7000 + r) 6 st) := ⟨gx_st hc r0 r1 s0 s6 fun d => absurd h0 d.1, cn_eS hc (by have := hc.1; omega)⟩
theorem gc_end (hc : CN e) (r0 : 0 ≤ r) (r1 : r < 1000) : GC (fun q => Z q ∨ q = r) Z e (pEnd r e) := ⟨gx_end hc r0 r1 fun _ g => g, hc.endw⟩
theorem gc_close : ∀ (n : Nat) (Z : Int → Prop) (r st res dep : Int) (e : ES), 0 ≤ r → r < e.1 7 2 → CN e → HNN e → e.1 (7000 + r) 6 = 0 → 0 ≤ st → st ≤ 6 → GC Z Z e (pClose n r st res dep e) := by
  intro n
  induction n with
  | zero => intro Z r st res dep e _ _ hc _ _ _ _; exact ⟨GX.rf, hc⟩
  | succ n ih =>
    intro Z r st res dep e r0 r1 hc hK h0 s0 s6
    have n7 := hc.1
    unfold pClose
    have s1 := gc_st (Z := Z) (st := st) hc r0 r1 h0 s0 s6
    have s2 := s1.tr (gc_end (Z := Z) (r := r) s1.2 r0 (by omega)) hK hc
    have s3 := s2.tr (gc_deal (r := r) (dep := dep) (rec := fun i d e => pClose n i 5 0 d e) (fun i d e i0 i1 hc hK h0 => ih Z i 5 0 d e i0 i1 hc hK h0 (by decide) (by decide)) 31 0 _ (by decide) s2.2 (s2.hk hK)) hK hc
    exact s3.tr (gc_up s3.2 (s3.hk hK)) hK hc
theorem gc_sq (t0 : 0 ≤ to) : ∀ (l : List Int) (e : ES), CN e → HNN e → to < e.1 7 2 → GC Z Z e (pSQ to nm l e) := by
  intro l
  induction l with
  | nil => intro e hc _ _; exact ⟨GX.rf, hc⟩
  | cons v l ih =>
    intro e hc hK t1
    unfold pSQ
    have s1 := gc_arr (Z := Z) (k := 4) (x := nm) (y := v) hc hK t0 t1 (by decide) (by decide)
    exact s1.tr (ih _ s1.2 (s1.hk hK) (by have := s1.n7; omega)) hK hc
theorem gc_sqs (t0 : 0 ≤ to) : ∀ (n : Nat) (nm : Int) (e : ES), CN e → HNN e → to < e.1 7 2 → GC Z Z e (pSQs to n nm e) := by
  intro n
  induction n with
  | zero => intro nm e hc _ _; exact ⟨GX.rf, hc⟩
  | succ n ih =>
    intro nm e hc hK t1
    unfold pSQs
    split
    · have s1 := gc_sq (Z := Z) (nm := nm) t0 (sq (eT e) nm) e hc hK t1
      exact s1.tr (ih _ _ s1.2 (s1.hk hK) (by have := s1.n7; omega)) hK hc
    · exact ⟨GX.rf, hc⟩
theorem gc_sndL (t0 : 0 ≤ to) : ∀ (n : Nat) (i : Int) (e : ES), CN e → HNN e → to < e.1 7 2 → GC Z Z e (pSndL to q sz n i e) := by
  intro n
  induction n with
  | zero => intro i e hc _ _; exact ⟨GX.rf, hc⟩
  | succ n ih =>
    intro i e hc hK t1
    unfold pSndL
    split
    · have s1 : GC Z Z e (if ek (eH e q i) = 4 then pArr to 4 (ex (eH e q i)) (ey (eH e q i)) e else e) := by
        split
        · exact gc_arr hc hK t0 t1 (by decide) (by decide)
        · exact ⟨GX.rf, hc⟩
      exact s1.tr (ih _ _ s1.2 (s1.hk hK) (by have := s1.n7; omega)) hK hc
    · exact ⟨GX.rf, hc⟩
theorem gc_snd (t0 : 0 ≤ to) (hc : CN e) (hK : HNN e) (t1 : to < e.1 7 2) : GC Z Z e (pSnd to q N e) := gc_sndL t0 _ _ _ hc hK t1
theorem gc_start (hc : CN e) (hK : HNN e) (hn : e.1 7 2 < 30) (ht : 0 ≤ t ∧ t < 4) (htn : 0 ≤ tn ∧ tn < 3) (hv : 0 < e.1 (48 + 4 * t + 1) 2) (hp : -1 ≤ par ∧ par < e.1 7 2) (hpe : 0 ≤ pe ∧ pe < 524288) : GC Z Z e (pStart t tn inp par pe e) := ⟨gx_start hc hK hn ht htn hv hp hpe, hc.start hn⟩
/-- a run begins anew as another -/
theorem gc_again (hc : CN e) (hK : HNN e) (r0 : 0 ≤ r) (r1 : r < e.1 7 2) (h0 : e.1 (7000 + r) 6 = 0) (hn : e.1 7 2 < 30) (hR : RunF e r) : GC Z Z e (pAgain r x e) := by
  have n7 := hc.1
  obtain ⟨q1, q2, q3, q4, q5, -⟩ := hR
  have pa : ∀ a u : Int, a ≠ 7000 + r ∨ u ≠ 6 → (eS e (7000 + r) 6 4).1 a u = e.1 a u := fun a u h => by rw [es_pt, if_neg (by omega)]
  have e7 : (eS e (7000 + r) 6 4).1 7 2 = e.1 7 2 := pa _ _ (by omega)
  have s1 := gc_st (Z := Z) (st := 4) hc r0 r1 h0 (by decide) (by decide)
  have s2 := s1.tr (gc_start (inp := x) (t := e.1 (7000 + r) 1) (tn := e.1 (7000 + r) 2) (par := e.1 (7000 + r) 4) (pe := e.1 (7000 + r) 5) s1.2 (s1.hk hK) (by rw [e7]; exact hn) q1 q2 (by rw [pa _ _ (by omega)]; omega) (by rw [e7]; omega) q5) hK hc
  have w2 : (pStart (e.1 (7000 + r) 1) (e.1 (7000 + r) 2) x (e.1 (7000 + r) 4) (e.1 (7000 + r) 5) (eS e (7000 + r) 6 4)).1 7 2 = e.1 7 2 + 1 := by
    rw [start_n (by rw [e7]; exact n7.1), e7]
  have s3' := gc_sqs (Z := fun q => Z q ∨ q = r) n7.1 5 0 _ s2.2 (s2.hk hK) (by omega)
  have s3 := s2.tr s3' hK hc
  have s4 := s3.tr (gc_snd (q := r) (N := sg (eT e) 0 11) n7.1 s3.2 (s3.hk hK) (by have := s3'.n7; omega)) hK hc
  unfold pAgain
  have s5 := s4.tr (gc_end (Z := Z) (r := r) s4.2 r0 (by omega)) hK hc
  exact s5.tr (gc_deal (r := r) (dep := 0) (rec := fun i d e => pClose 41 i 5 0 d e) (fun i d e i0 i1 hc hK h0 => gc_close 41 Z i 5 0 d e i0 i1 hc hK h0 (by decide) (by decide)) 31 0 _ (by decide) s5.2 (s5.hk hK)) hK hc
theorem dead_again (hc : CN e) (hK : HNN e) (r0 : 0 ≤ r) (r1 : r < e.1 7 2) (h0 : e.1 (7000 + r) 6 = 0) (hn : e.1 7 2 < 30) (hR : RunF e r) : Dead (pAgain r x e) r := by
  have n7 := hc.1
  obtain ⟨q1, q2, q3, q4, q5, -⟩ := hR
  have pa : ∀ a u : Int, a ≠ 7000 + r ∨ u ≠ 6 → (eS e (7000 + r) 6 4).1 a u = e.1 a u := fun a u h => by rw [es_pt, if_neg (by omega)]
  have e7 : (eS e (7000 + r) 6 4).1 7 2 = e.1 7 2 := pa _ _ (by omega)
  have hd : Dead (eS e (7000 + r) 6 4) r := by
    unfold Dead
    rw [eS_e]
    decide
  have s1 := gc_st (Z := nZ) (st := 4) hc r0 r1 h0 (by decide) (by decide)
  have hK1 := s1.hk hK
  have s2 := gc_start (Z := nZ) (inp := x) (t := e.1 (7000 + r) 1) (tn := e.1 (7000 + r) 2) (par := e.1 (7000 + r) 4) (pe := e.1 (7000 + r) 5) s1.2 hK1 (by rw [e7]; exact hn) q1 q2 (by rw [pa _ _ (by omega)]; omega) (by rw [e7]; omega) q5
  have w2 : (pStart (e.1 (7000 + r) 1) (e.1 (7000 + r) 2) x (e.1 (7000 + r) 4) (e.1 (7000 + r) 5) (eS e (7000 + r) 6 4)).1 7 2 = e.1 7 2 + 1 := by
    rw [start_n (by rw [e7]; exact n7.1), e7]
  have s3' := gc_sqs (Z := nZ) n7.1 5 0 _ s2.2 (s2.hk hK1) (by omega)
  have s3 := s2.tr s3' hK1 s1.2
  have s4 := s3.tr (gc_snd (q := r) (N := sg (eT e) 0 11) n7.1 s3.2 (s3.hk hK1) (by have := s3'.n7; omega)) hK1 s1.2
  have s5 := s4.tr (⟨gx_end (Z' := nZ) s4.2 r0 (by omega) fun _ g => Or.inl g, s4.2.endw⟩ : GC nZ nZ _ (pEnd r _)) hK1 s1.2
  have s6 := s5.tr (gc_deal (r := r) (dep := 0) (rec := fun i d e => pClose 41 i 5 0 d e) (fun i d e i0 i1 hc hK h0 => gc_close 41 nZ i 5 0 d e i0 i1 hc hK h0 (by decide) (by decide)) 31 0 _ (by decide) s5.2 (s5.hk hK1)) hK1 s1.2
  exact (s6.1.1.2.1 r r0 (by rw [e7]; exact r1)).2.2 hd
theorem dead_close (hc : CN e) (r0 : 0 ≤ r) (r1 : r < e.1 7 2) (h0 : e.1 (7000 + r) 6 = 0) (s0 : st ≠ 0) (s6 : st ≠ 6) : Dead (pClose (n + 1) r st res dep e) r := by
  unfold pClose
  have k1 : CS e (eS e (7000 + r) 6 st) := cs_st hc r0 r1 h0
  have e7 : (eS e (7000 + r) 6 st).1 7 2 = e.1 7 2 := by rw [es_pt, if_neg (by omega)]
  have hd : Dead (eS e (7000 + r) 6 st) r := by
    unfold Dead
    rw [eS_e]
    exact ⟨s0, s6⟩
  have k2 := cs_end (r := r) k1.1.2
  have k3 := k2.tr (cs_deal (r := r) (dep := dep) (rec := fun i d e => pClose n i 5 0 d e) (fun i d e i0 i1 hc h0 => cs_close n i 5 0 d e i0 i1 hc h0) 31 0 _ (by decide) k2.1.2)
  have k4 := k3.tr (cs_up (r := r) (st := st) (res := res) k3.1.2)
  exact k4.dd r0 (by rw [e7]; exact r1) hd
theorem gc_makA (hc : CN e) (hK : HNN e) (r0 : 0 ≤ r) (r1 : r < e.1 7 2) (hd : ¬ Dead e r) (v0 : 0 ≤ v) (v1 : v < 524288) (k0 : 0 ≤ kd) (k1 : kd < 4) (x0 : 0 ≤ x) (x1 : x ≤ 999) (ht : 0 ≤ e.1 4 14 ∧ e.1 4 14 < 1000000) : GC Z Z e (pMakA r v kd x e) := by
  unfold pMakA
  split
  · rename_i c
    exact ⟨gx_new8 hc c r0 r1 hd v0 v1 k0 k1 x0 x1 ht.1 ht.2, hc.pnew (by decide) (by decide) (fun _ => c) (fun g => by omega) fun g => by omega⟩
  · exact gc_arr hc hK r0 r1 (by decide) (by decide)
/-- one of the news is carried out -/
theorem gc_carry (hc : CN e) (hK : HNN e) (r0 : 0 ≤ r) (r1 : r < e.1 7 2) (hs : e.1 (7000 + r) 6 = 0) (hR : RunF e r) (o0 : 0 ≤ o) (o1 : o < 524288) (hq : ek (eH e r o) ≠ 11 → CmA (ek (eH e r o)) (ex (eH e r o)) (ey (eH e r o))) (ht : 0 ≤ e.1 4 14 ∧ e.1 4 14 < 1000000) (hv : ek (eH e r o) = 9 → ∀ u ∈ eL e (73000 + r), u < o) : GC Z Z e (pCarry r o e) := by
  have n7 := hc.1
  have n8 := hc.2.1
  have hd : ¬ Dead e r := fun d => d.1 hs
  unfold pCarry
  by_cases c8 : ek (eH e r o) = 8
  · rw [if_pos c8]
    have := (hq (by omega)).1 c8
    exact gc_makA hc hK r0 r1 hd o0 o1 this.1.1 (by omega) this.2.1 this.2.2 ht
  rw [if_neg c8]
  by_cases c9 : ek (eH e r o) = 9
  · rw [if_pos c9]
    have := (hq (by omega)).2.1 c9
    exact ⟨gx_addT hc r0 r1 hd o0 o1 (by omega) (by omega) (hv c9), hc.of fun a ha => addT_1 (by omega)⟩
  rw [if_neg c9]
  by_cases c10 : ek (eH e r o) = 10
  · rw [if_pos c10]
    have := (hq (by omega)).2.2.1 c10
    unfold pChi
    split
    · rename_i c
      exact gc_start hc hK c.1 (by omega) hR.2.1 c.2 (by omega) ⟨o0, o1⟩
    · exact gc_arr hc hK r0 r1 (by decide) (by decide)
  rw [if_neg c10]
  by_cases c11 : ek (eH e r o) = 11
  · rw [if_pos c11]
    exact gc_drop hc hK r0 r1
  rw [if_neg c11]
  have hq' := (hq c11).2.2.2.2.1
  by_cases c13 : ek (eH e r o) = 13
  · rw [if_pos c13]
    have := hq' (Or.inl c13)
    exact ⟨gx_qt hc r0 r1 this.1.1 (by omega), hc.of fun a ha => qt_1 (by omega)⟩
  rw [if_neg c13]
  by_cases c14 : ek (eH e r o) = 14
  · rw [if_pos c14]
    exact gc_close 41 Z r 1 _ 0 e r0 r1 hc hK hs (by decide) (by decide)
  rw [if_neg c14]
  by_cases c15 : ek (eH e r o) = 15
  · rw [if_pos c15]
    exact gc_close 41 Z r _ _ 0 e r0 r1 hc hK hs (by split <;> decide) (by split <;> decide)
  rw [if_neg c15]
  by_cases c16 : ek (eH e r o) = 16
  · rw [if_pos c16]
    split
    · rename_i c
      exact gc_again hc hK r0 r1 hs c hR
    · exact gc_close 41 Z r 2 0 0 e r0 r1 hc hK hs (by decide) (by decide)
  rw [if_neg c16]
  exact ⟨GX.rf, hc⟩
/-- who carries out an end is dead -/
theorem dead_carry (hc : CN e) (hK : HNN e) (r0 : 0 ≤ r) (r1 : r < e.1 7 2) (hs : e.1 (7000 + r) 6 = 0) (hR : RunF e r) (hk : 14 ≤ ek (eH e r o) ∧ ek (eH e r o) ≤ 16) : Dead (pCarry r o e) r := by
  unfold pCarry
  rw [if_neg (by omega), if_neg (by omega), if_neg (by omega), if_neg (by omega), if_neg (by omega)]
  by_cases c14 : ek (eH e r o) = 14
  · rw [if_pos c14]
    exact dead_close hc r0 r1 hs (by decide) (by decide)
  rw [if_neg c14]
  by_cases c15 : ek (eH e r o) = 15
  · rw [if_pos c15]
    exact dead_close hc r0 r1 hs (by split <;> decide) (by split <;> decide)
  rw [if_neg c15, if_pos (by omega)]
  split
  · rename_i c
    exact dead_again hc hK r0 r1 hs c hR
  · exact dead_close hc r0 r1 hs (by decide) (by decide)
end GXC
