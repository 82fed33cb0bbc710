/-! THE ENGINE: an event is dropped; signals come again; a run is closed. -/
section CLO
variable {m m' M2 : MM} {ow ow' : Int → Int} {ad ad' : Int → Int → Int} {e e' e1 e2 : ES} {D : Int → Prop} {a b c i j k o r v n h N B t x y z p q tn par pe inp fr to sz st res dep p1 p2 p3 p4 p5 p6 kd ln : Int} {l : List Int} {E : Int → Ev} {s : TS} {f : Int → Int}
theorem CE.can2 (C : CE m ow ad e) (i0 : 0 ≤ i) (i1 : i < e.1 7 2) (hd : ¬ Dead e i) (hl : BDl e) (hf : BDf (pCan i e).2) : ∃ m', fm_X11_cancelRun (ad 7 i) m = some ((pCan i e).1, m') ∧ CX1 m' ad (pCan i e).2 := by
  have hh := has_e (k := 7) (C.hx i0 i1)
  have hs := (C.his i0 i1).sl.1
  have h16 := (C.run i0 i1).2.2.2.2.2.1
  unfold fm_X11_cancelRun
  unfold pCan at hf ⊢
  by_cases c : hasK (pX e i) 7 = true
  · rw [if_pos c] at hh ⊢
    refine ⟨m, ?_, ow, C⟩
    rw [gd_t (C.rk i0 i1), lx_p, h16, gd_t hs, bp_t hh, if_neg (by decide)]
  · rw [if_neg c] at hh hf ⊢
    obtain ⟨m1, g1, g2⟩ := C.arr (k := 7) (x := 0) (y := 0) i0 i1 hd (hl.bd i0 hf) (by decide) (by decide) (by decide) (by decide) (by decide) (by decide)
    refine ⟨m1, ?_, g2⟩
    rw [gd_t (C.rk i0 i1), lx_p, h16, gd_t hs, bp_t hh, if_pos rfl, bd_t g1]
/-- the children of an event are cancelled, and part -/
def pDrCL (r ev : Int) : Nat → Int → ES → ES
  | 0, _, e => e
  | n + 1, i, e => if i < e.1 7 2 then pDrCL r ev n (i + 1) (if e.1 (7000 + i) 4 = r ∧ e.1 (7000 + i) 5 = ev then eS (if e.1 (7000 + i) 6 = 0 then (pCan i e).2 else e) (7000 + i) 4 (-1) else e) else e
def pDrop (r ev : Int) (e : ES) : ES := pDrCL r ev 31 0 (pDrT r ev (pDrAL r ev 61 0 e))
theorem drC_1 (i0 : 0 ≤ i) (i1 : i < 1000) (h7 : e.1 7 2 ≤ 1000) : CL e (eS (if e.1 (7000 + i) 6 = 0 then (pCan i e).2 else e) (7000 + i) 4 (-1)) := by
  split
  · exact (can_cl i0 i1 h7).tr (par_cl i0 i1)
  · exact par_cl i0 i1
theorem drC_cl : ∀ (n : Nat) (i : Int) (e : ES), 0 ≤ i → e.1 7 2 ≤ 1000 → CL e (pDrCL r v n i e) := by
  intro n
  induction n with
  | zero => intro i e _ _; exact CL.rf
  | succ n ih =>
    intro i e i0 h7
    unfold pDrCL
    split
    · rename_i c
      split
      · have h := drC_1 (e := e) i0 (by omega) h7
        exact h.tr (ih _ _ (by omega) (by rw [h.2.1 7 (by decide) (by decide)]; exact h7))
      · exact ih _ _ (by omega) h7
    · exact CL.rf
theorem drC_l (hr : 0 ≤ r) : ∀ (n f : Nat) (i : Int) (m : MM) (ow : Int → Int) (e : ES), CE m ow ad e → r < e.1 7 2 → BDl e → BDf (pDrCL r v n i e) → 0 ≤ i → i ≤ e.1 7 2 → e.1 7 2 - i < n → n ≤ f → ∃ m', fl_X11_dropEvent_63 (ad 7 r) v f i m = some (0, m') ∧ CX1 m' ad (pDrCL r v n i e) := by
  intro n
  induction n with
  | zero => intro f i m ow e C r1 hl hf i0 i9 h1 h2; omega
  | succ n ih =>
    intro f i m ow e C r1 hl hf i0 i9 h1 h2
    obtain ⟨f, rfl⟩ : ∃ g, f = g + 1 := ⟨f - 1, by omega⟩
    unfold fl_X11_dropEvent_63
    unfold pDrCL at hf ⊢
    rw [bp_t (C.size (by decide) (by decide))]
    have n7 := C.cn.1
    by_cases c1 : i < e.1 7 2
    · rw [if_pos c1] at hf ⊢
      have e4 : m (ad 7 i) 4 = e.1 (7000 + i) 4 := C.rf i0 c1 (by decide) (by decide)
      have e5 : m (ad 7 i) 5 = e.1 (7000 + i) 5 := C.rf i0 c1 (by decide) (by decide)
      have e6 : m (ad 7 i) 6 = e.1 (7000 + i) 6 := C.rf i0 c1 (by decide) (by decide)
      have er : m (ad 7 r) 0 = r := by rw [C.rf hr r1 (by decide) (by decide)]; exact (C.run hr r1).2.2.2.2.1
      rw [if_pos c1, bp_t (C.get (by decide) (by decide) i0 c1), gd_t (C.rk i0 c1), lx_p, e4, gd_t (C.rk hr r1), lx_p, er]
      by_cases c2 : e.1 (7000 + i) 4 = r
      · rw [if_pos c2, lx_p, e5]
        by_cases c3 : e.1 (7000 + i) 5 = v
        · rw [if_pos (show e.1 (7000 + i) 4 = r ∧ e.1 (7000 + i) 5 = v from ⟨c2, c3⟩)] at hf ⊢
          rw [if_pos c3, lx_p, e6]
          have hcl := drC_1 (e := e) i0 (by omega) (by omega)
          have hs7 := hcl.2.1 7 (by decide) (by decide)
          have hcl2 := drC_cl (r := r) (v := v) n (i + 1) _ (show 0 ≤ i + 1 by omega) (show (eS (if e.1 (7000 + i) 6 = 0 then (pCan i e).2 else e) (7000 + i) 4 (-1)).1 7 2 ≤ 1000 by rw [hs7]; omega)
          by_cases c4 : e.1 (7000 + i) 6 = 0
          · rw [if_pos c4] at hf hcl hs7 hcl2 ⊢
            rw [if_pos c4]
            have hmo : MO (pCan i e).2 _ := (par_cl (e := (pCan i e).2) (v := -1) i0 (by omega)).1.tr hcl2.1
            obtain ⟨m1, g1, ow1, C1⟩ := C.can2 i0 c1 (nDead (Or.inl c4)) hl (hf.of hmo)
            have d7 : i < (pCan i e).2.1 7 2 := by
              rw [(can_cl i0 (by omega) (by omega)).2.1 7 (by decide) (by decide)]; exact c1
            have C2 := C1.s7 (v := -1) i0 d7 (j := 4) (by decide) (by decide) (fun hh => by omega)
            rw [bd_t g1, up_t, lx_p, w32_id (by omega) (by omega)]
            exact ih f (i + 1) _ ow1 _ C2 (by rw [hs7]; exact r1) (hcl.1.2 hl) hf (by omega) (by rw [hs7]; omega) (by rw [hs7]; omega) (by omega)
          · rw [if_neg c4] at hf hcl hs7 ⊢
            have C2 := C.s7 (v := -1) i0 c1 (j := 4) (by decide) (by decide) (fun hh => by omega)
            rw [if_neg c4, up_t, lx_p, w32_id (by omega) (by omega)]
            exact ih f (i + 1) _ ow _ C2 (by rw [hs7]; exact r1) (hcl.1.2 hl) hf (by omega) (by rw [hs7]; omega) (by rw [hs7]; omega) (by omega)
        · rw [if_neg (show ¬ (e.1 (7000 + i) 4 = r ∧ e.1 (7000 + i) 5 = v) from fun h => c3 h.2)] at hf ⊢
          rw [if_neg c3, lx_p, w32_id (by omega) (by omega)]
          exact ih f (i + 1) m ow e C r1 hl hf (by omega) (by omega) (by omega) (by omega)
      · rw [if_neg (show ¬ (e.1 (7000 + i) 4 = r ∧ e.1 (7000 + i) 5 = v) from fun h => c2 h.1)] at hf ⊢
        rw [if_neg c2, lx_p, w32_id (by omega) (by omega)]
        exact ih f (i + 1) m ow e C r1 hl hf (by omega) (by omega) (by omega) (by omega)
    · rw [if_neg c1, if_neg c1]
      exact ⟨m, rfl, ow, C⟩
theorem drop_cl (h7 : e.1 7 2 ≤ 1000) (h8 : e.1 8 2 ≤ 1000) : CL e (pDrop r v e) := by
  have h1 := drA_cl (r := r) (v := v) (n := 61) h8 h7
  have h2 : CL (pDrAL r v 61 0 e) (pDrT r v (pDrAL r v 61 0 e)) := drT_cl
  exact (h1.tr h2).tr (drC_cl 31 0 _ (by decide) (by rw [(h1.tr h2).2.1 7 (by decide) (by decide)]; exact h7))
/-- how a run's timers lie -/
def TmO (e : ES) (r : Int) : Prop := (eL e (73000 + r)).length = (eL e (74000 + r)).length ∧ ∀ v ∈ eL e (73000 + r), 0 ≤ v ∧ v < 524288
theorem CE.drop (C : CE m ow ad e) (r0 : 0 ≤ r) (r1 : r < e.1 7 2) (hw : TmO e r) (hl : BDl e) (hf : BDf (pDrop r v e)) : ∃ m', fm_X11_dropEvent (ad 7 r) v m = some (0, m') ∧ CX1 m' ad (pDrop r v e) := by
  have n8 := C.cn.2.1
  have n7 := C.cn.1
  obtain ⟨m1, g1, ow1, C1⟩ := drA_l (ad := ad) (v := v) r0 (K := fun m_110 =>
gd (okc m_110 (ad 7 r) 7) <| bd (fm_X6_dropTimer (ad 7 r) v m_110) fun x_117 m_118 =>
fl_X11_dropEvent_63 (ad 7 r) v  BIG 0 m_118) 61 BIG 0 m ow e C r1 (by decide) (by omega) (by omega) (Nat.le_of_lt (BIG_g (by decide)))
  have hA := drA_cl (r := r) (v := v) (n := 61) (e := e) (by omega) (by omega)
  have hA2 := (drA_a (r := r) (v := v) 61 0 e (by decide) (by omega)).2.1
  have eLA : ∀ c, eL (pDrAL r v 61 0 e) c = eL e c := fun c => by unfold eL; rw [hA2]
  have dA7 := hA.2.1 7 (by decide) (by decide)
  have hlA := hA.1.2 hl
  have dT : CL (pDrAL r v 61 0 e) (pDrT r v (pDrAL r v 61 0 e)) := drT_cl
  have dT7 := dT.2.1 7 (by decide) (by decide)
  have hlen : ((eL e (73000 + r)).length : Int) ≤ e.1 3 1 := hl.2.2.2.2.2.2 73 r (by omega) r0 r1
  have h31 : e.1 3 1 < 268435456 := (hf.of (drop_cl (r := r) (v := v) (e := e) (by omega) (by omega)).1).2.2
  by_cases hbig : (eL e (73000 + r)).length < 268435456
  · obtain ⟨m2, k1, ow2, C2⟩ := C1.drT (r := r) (v := v) r0 (by rw [dA7]; exact r1) (by rw [eLA, eLA]; exact hw.1) (by rw [eLA]; exact hw.2) (by rw [eLA]; exact hbig)
    obtain ⟨m3, q1, q2⟩ := drC_l (ad := ad) (v := v) r0 31 BIG 0 m2 ow2 _ C2 (by rw [dT7, dA7]; exact r1) (dT.1.2 hlA) hf (by decide) (by rw [dT7, dA7]; omega) (by rw [dT7, dA7]; omega) (Nat.le_of_lt (BIG_g (by decide)))
    refine ⟨m3, ?_, q2⟩
    unfold fm_X11_dropEvent
    rw [g1, gd_t (C1.rk r0 (by rw [dA7]; exact r1)), bd_t k1, q1]
  · omega
/-- the signals of a run's history, up to a place, come to another run -/
def pSndL (to q sz : Int) : Nat → Int → ES → ES
  | 0, _, e => e
  | n + 1, i, e => if i < sz then pSndL to q sz n (i + 1) (if ek (eH e q i) = 4 then pArr to 4 (ex (eH e q i)) (ey (eH e q i)) e else e) else e
theorem arr_h (h : j ≠ i) : eH (pArr i k x y e) j = eH e j := by
  show (if j = i then _ else (pOrd i k e).2.1 j) = e.2.1 j
  rw [if_neg h, ord_2]
theorem snd_cl (t0 : 0 ≤ to) (t1 : to < 1000) : ∀ (n : Nat) (i : Int) (e : ES), e.1 7 2 ≤ 1000 → CL e (pSndL to q sz n i e) := by
  intro n
  induction n with
  | zero => intro i e _; exact CL.rf
  | succ n ih =>
    intro i e h7
    unfold pSndL
    split
    · split
      · have h := arr_cl (e := e) (i := to) (k := 4) (x := ex (eH e q i)) (y := ey (eH e q i)) t0 t1 h7
        exact h.tr (ih _ _ (by rw [h.2.1 7 (by decide) (by decide)]; exact h7))
      · exact ih _ _ h7
    · exact CL.rf
theorem snd_l (t0 : 0 ≤ to) (q0 : 0 ≤ q) (hq : q ≠ to) : ∀ (n f : Nat) (i : Int) (m : MM) (ow : Int → Int) (e : ES), CE m ow ad e → to < e.1 7 2 → q < e.1 7 2 → ¬ Dead e to → sz = hN e q → BDl e → BDf (pSndL to q sz n i e) → 0 ≤ i → i ≤ sz ∨ 1 ≤ n → sz - i < n → n ≤ f → ∃ m', fl_X11_sendSignals_9 (ad 7 to) (ad 71 q) sz f i m = some (0, m') ∧ CX1 m' ad (pSndL to q sz n i e) := by
  intro n
  induction n with
  | zero => intro f i m ow e C r1 q1 nd hsz hl hf i0 i9 h1 h2; omega
  | succ n ih =>
    intro f i m ow e C r1 q1 nd hsz hl hf i0 i9 h1 h2
    obtain ⟨f, rfl⟩ : ∃ g, f = g + 1 := ⟨f - 1, by omega⟩
    unfold fl_X11_sendSignals_9
    unfold pSndL at hf ⊢
    have n7 := C.cn.1
    by_cases c1 : i < sz
    · rw [if_pos c1] at hf ⊢
      have H := C.hx q0 q1
      have hi : i < (pX e q).1 0 := by show i < hN e q; omega
      have hn := H.n.2
      have hn : hN e q < 536870912 := hn
      obtain ⟨-, ⟨b1, b2, b3, -⟩, -⟩ := H.get i0 hi
      have ex1 : ex (eH e q i) = (((eH e q i).2.1 : Nat) : Int) := rfl
      have ey1 : ey (eH e q i) = (((eH e q i).2.2.1 : Nat) : Int) := rfl
      have b2' : (eH e q i).2.1 < 524288 := b2
      have b3' : (eH e q i).2.2.1 < 1024 := b3
      have hk : fm_X2_kind (ad 71 q) i m = some (ek (eH e q i)) := kind_e H i0 hi
      have hx : fm_X2_x (ad 71 q) i m = some (ex (eH e q i)) := x_e H i0 hi
      have hy : fm_X2_y (ad 71 q) i m = some (ey (eH e q i)) := y_e H i0 hi
      rw [if_pos c1, gd_t (C.his q0 q1).sl.1, bp_t hk]
      by_cases c2 : ek (eH e q i) = 4
      · rw [if_pos c2] at hf ⊢
        have hcl := arr_cl (e := e) (i := to) (k := 4) (x := ex (eH e q i)) (y := ey (eH e q i)) t0 (by omega) (by omega)
        have hs7 := hcl.2.1 7 (by decide) (by decide)
        have hmo := (snd_cl (q := q) (sz := sz) t0 (show to < 1000 by omega) n (i + 1) (pArr to 4 (ex (eH e q i)) (ey (eH e q i)) e) (by rw [hs7]; omega)).1
        obtain ⟨m1, g1, ow1, C1⟩ := C.arr (k := 4) (x := ex (eH e q i)) (y := ey (eH e q i)) t0 r1 nd (hl.bd t0 (hf.of hmo)) (by decide) (by decide) (by omega) (by omega) (by omega) (by omega)
        rw [if_pos c2, bp_t hx, bp_t hy, bd_t g1, lx_p, w32_id (by omega) (by omega)]
        refine ih f (i + 1) m1 ow1 _ C1 (by rw [hs7]; exact r1) (by rw [hs7]; exact q1) (fun hh => nd ?_) ?_ (hcl.1.2 hl) hf (by omega) (Or.inl (by omega)) (by omega) (by omega)
        · unfold Dead at hh ⊢
          rw [arr_a (by omega) (by omega) (by omega) (by omega) (by omega)] at hh
          exact hh
        · rw [hsz]
          unfold hN
          rw [arr_a (by omega) (by omega) (by omega) (by omega) (by omega)]
      · rw [if_neg c2] at hf ⊢
        rw [if_neg c2, lx_p, w32_id (by omega) (by omega)]
        exact ih f (i + 1) m ow e C r1 q1 nd hsz hl hf (by omega) (Or.inl (by omega)) (by omega) (by omega)
    · rw [if_neg c1, if_neg c1]
      exact ⟨m, rfl, ow, C⟩
def pSnd (to q fr : Int) (e : ES) : ES := pSndL to q (hN e q) ((hN e q - fr).toNat + 1) fr e
theorem CE.snd (C : CE m ow ad e) (t0 : 0 ≤ to) (t1 : to < e.1 7 2) (q0 : 0 ≤ q) (q1 : q < e.1 7 2) (hq : q ≠ to) (nd : ¬ Dead e to) (hl : BDl e) (hf : BDf (pSnd to q fr e)) (f0 : 0 ≤ fr) : ∃ m', fm_X11_sendSignals (ad 7 to) (ad 71 q) fr m = some (0, m') ∧ CX1 m' ad (pSnd to q fr e) := by
  have hn : hN e q < 536870912 := (C.hx q0 q1).n.2
  obtain ⟨m1, g1, g2⟩ := snd_l (ad := ad) t0 q0 hq ((hN e q - fr).toNat + 1) BIG fr m ow e C t1 q1 nd rfl hl hf f0 (Or.inr (by omega)) (by omega) (Nat.le_of_lt (BIG_g (by omega)))
  refine ⟨m1, ?_, g2⟩
  unfold fm_X11_sendSignals
  rw [gd_t (C.his q0 q1).sl.1, lx_p, (C.his q0 q1).sl.2.1, g1]
end CLO
