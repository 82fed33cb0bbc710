/-! THE ENGINE: a row is changed; an event is put. -/
section EN5
variable {m m' : MM} {ow ow' : Int → Int} {ad ad' : Int → Int → Int} {e e' : ES} {D : Int → Prop} {a b c i j k o r v n h N B t x y : Int} {l : List Int} {E : Int → Ev} {s : TS} {f : Int → Int}
/-- the class's memory stands for e, whoever owns what -/
def CX1 (m : MM) (ad : Int → Int → Int) (e : ES) : Prop := ∃ ow, CE m ow ad e
theorem RmX.ofR (hv : LvR e c i) (h : Cap m (ad c i) (cpK c)) : RmX m ad e (1000 * c + i) := by
  refine ⟨fun c' k hv' ho => ?_, fun ho => ?_⟩
  · have e1 : c' = c ∧ k = i := by (simp only [LvR] at hv hv'; omega)
    rw [e1.1, e1.2]
    exact h
  · exfalso
    simp only [LvR] at hv
    omega
theorem RmX.of71 (i0 : 0 ≤ i) (i1 : i < 1000) : RmX m ad e (71000 + i) := by
  refine ⟨fun c' k hv' ho => ?_, fun ho => ?_⟩
  · exfalso
    simp only [LvR] at hv'
    omega
  · omega
theorem cpK_b : 1 ≤ cpK c ∧ cpK c ≤ 800 := by
  unfold cpK
  split
  · omega
  · split
    · omega
    · split <;> omega
theorem cpK_t (ht : isT c) : cpK c = 1 := by
  have := isT_b ht
  unfold cpK
  rw [if_neg (by omega), if_pos (by omega)]
theorem CE.row1 (C : CE m ow ad e) (hv : LvR e c i) (hR : RowIs m' (ad c i) l) (hf : RFr m m' (ad c i)) (h1 : m' (ad c i) 1 = 0) (hF : Fix m') (hk : Cap m' (ad c i) (cpK c)) : CX1 m' ad (eLs e (1000 * c + i) l) := by
  obtain ⟨g1, g2, g3⟩ := C.row hv
  have h163 := C.fix.1
  have hlo : ∀ a, Fp m (ad c i) a → 4 ≤ a ∧ a < m 0 0 := fun a ha => Fp.lt g1.1 ha
  have hv' : LvR (eLs e (1000 * c + i) l) c i := hv
  have fd : FD m m' ow (fun a => a = 1000 * c + i) := ⟨hf.1, fun a j a0 a1 ha => hf.2.2 a j a1 (by omega) fun hh => ha (g2 a hh)⟩
  refine ⟨fun a => if a < m 0 0 then ow a else 1000 * c + i, CE.one (o := 1000 * c + i) C fd hF ?_ (fun a ha => if_pos ha) (fun _ _ _ => rfl) (fun c' hc => eLs_a hc) (fun _ _ => rfl) (fun _ => rfl) (C.nfz (by simp only [LvR] at hv; omega)) (fun i' i2 i3 i4 hD => hD) (fun _ _ => rfl) (by simp only [LvR] at hv; omega) ⟨RmX.ofR hv' hk, C.rmh fd (fun _ _ _ => rfl) (fun i' i2 i3 hh => by have := C.cn.1; simp only [LvR] at hv; omega) rfl (fun _ _ _ => rfl) (fun _ _ _ => Int.le_refl _) (Int.le_refl _)⟩ (Kx.ofR hv' ⟨by rw [eLs_e]; exact hR, fun a ha => ?_, h1⟩)⟩
  · rw [hf.2.2 1 (-2) (by omega) (by decide) fun hh => by have := hlo 1 hh; omega]
    exact C.m1
  · rcases hf.2.1 a ha with hh | hh
    · show (if a < m 0 0 then ow a else _) = _
      rw [if_pos (hlo a hh).2]
      exact g2 a hh
    · show (if a < m 0 0 then ow a else _) = _
      rw [if_neg (by omega)]
theorem CE.okr (C : CE m ow ad e) (hv : LvR e c i) : okc m (ad c i) 6 ∧ m (ad c i) 2 = ((eL e (1000 * c + i)).length : Int) := ⟨(C.row hv).1.1.1, (C.row hv).1.2.2.1⟩
theorem CE.add (C : CE m ow ad e) (hv : LvR e c i) (hl : ((eL e (1000 * c + i)).length : Int) < 64 * cpK c) : ∃ m', fm_X5_add (ad c i) v m = some (0, m') ∧ CX1 m' ad (eLs e (1000 * c + i) (eL e (1000 * c + i) ++ [v])) := by
  obtain ⟨g1, g2, g3⟩ := C.row hv
  have hb := cpK_b (c := c)
  have hl2 : (eL e (1000 * c + i)).length < 268435456 := by omega
  obtain ⟨a1, a2, a3, a4, a5, -⟩ := add_ok (v := v) C.fix g1 hl2
  exact ⟨_, a1, C.row1 hv a2 a3 (by rw [a4]; exact g3) a5 ((add_rm C.fix.1 g1 hl2).1 _ (by rw [g1.2.2.1]; exact hl) (C.cap hv))⟩
theorem CE.rem {p : Nat} (C : CE m ow ad e) (hv : LvR e c i) (hp : p < (eL e (1000 * c + i)).length) : ∃ m', fm_X5_removeAt (ad c i) (p : Int) m = some (0, m') ∧ CX1 m' ad (eLs e (1000 * c + i) ((eL e (1000 * c + i)).eraseIdx p)) := by
  obtain ⟨g1, g2, g3⟩ := C.row hv
  obtain ⟨m', a1, a2, a3, a4, -, -⟩ := rem_is g1 hp g3
  exact ⟨m', a1, C.row1 hv a2 a3 a4 (fw_X5_removeAt C.fix g1.1.1 a1).fix ((rem_rm C.fix g1 a1).cap (C.cap hv))⟩
theorem CE.cut (C : CE m ow ad e) (hv : LvR e c i) (h0 : 0 ≤ n) : ∃ m', fm_X5_cut (ad c i) n m = some (0, m') ∧ CX1 m' ad (eLs e (1000 * c + i) ((eL e (1000 * c + i)).take n.toNat)) := by
  obtain ⟨g1, g2, g3⟩ := C.row hv
  obtain ⟨m', a1, a2, a3, a4, -, -⟩ := cut_is g1 h0 g3
  exact ⟨m', a1, C.row1 hv a2 a3 a4 (fw_X5_cut C.fix g1.1.1 a1).fix ((cut_0 g1 g3 h0 a1).cap (C.cap hv))⟩
theorem CE.rat (C : CE m ow ad e) (hv : LvR e c i) (h0 : 0 ≤ n) : fm_X5_wide (ad c i) n m = some ((eL e (1000 * c + i)).getD n.toNat 0) := wide_getD (C.row hv).1 h0
/-- the orders of the reference: another one where another run is told -/
def pOrd0 (i k : Int) (e : ES) : ES := eS (if k ≤ 7 then eS (eS e 68 29 (if e.1 68 30 = i then e.1 68 29 else e.1 68 29 + 1)) 68 30 i else e) 3 0 (e.1 3 0 + 1)
/-- so much is a run's own at most, and all runs' in sum (2000 + i: from where on; 3000 + i: how much at most; 4000 + i: how long it was when last an event was put; 1000: the sum) -/
def gF (i : Int) (e : ES) : Int := if e.1 68 (4000 + i) < e.1 (71000 + i) 1 then e.1 (71000 + i) 1 else if e.1 68 (2000 + i) ≤ e.1 (71000 + i) 1 then e.1 68 (2000 + i) else e.1 (71000 + i) 1
def gM (i : Int) (e : ES) : Int := if e.1 68 (3000 + i) ≤ e.1 (71000 + i) 1 + 1 - gF i e then e.1 (71000 + i) 1 + 1 - gF i e else e.1 68 (3000 + i)
def pGh (i : Int) (e : ES) : ES := eS (eS (eS (eS e 68 1000 (e.1 68 1000 + (gM i e - e.1 68 (3000 + i)))) 68 (2000 + i) (gF i e)) 68 (3000 + i) (gM i e)) 68 (4000 + i) (e.1 (71000 + i) 1 + 1)
def pOrd (i k : Int) (e : ES) : ES := pGh i (pOrd0 i k e)
theorem gh_a {q : Int} (ha : a ≠ 68) : (pGh i e).1 a q = e.1 a q := by
  unfold pGh
  rw [eS_a ha, eS_a ha, eS_a ha, eS_a ha]
theorem CE.gh (C : CE m ow ad e) : CE m ow ad (pGh i e) := (((C.gS (by omega)).gS (by omega)).gS (by omega)).gS (by omega)
/-- an event is put; 76000 + i: when the reference says that it came -/
def pPut (i k x y t o : Int) (e : ES) : ES := match pOrd i k e with
  | e1 => eHs (eS (eS e1 (76000 + i) (e1.1 (71000 + i) 1) (if k ≤ 7 then 1000 * e1.1 68 29 + t % 1000 else t)) (71000 + i) 1 (e1.1 (71000 + i) 1 + 1)) i (Ev1 (eH e1 i) (e1.1 (71000 + i) 1) (evP k x y t o))
theorem CE.ord (C : CE m ow ad e) : CE m ow ad (pOrd i k e) := by
  unfold pOrd pOrd0
  split
  · exact (((C.gS (by omega)).gS (by omega)).gS (by omega) (Or.inr (Or.inr (by rw [eS_a (by decide), eS_a (by decide)]; omega)))).gh
  · exact (C.gS (by omega)).gh
theorem CE.fzi (C : CE m ow ad e) (h : ¬ Dead e i) : ¬ Fz e (71000 + i) := fun hz => by
  obtain ⟨i', i2, i3, i4, i5⟩ := hz
  rw [show i' = i by omega] at i5
  exact h i5
theorem ord_7 {q : Int} (ha : a ≠ 68) (hb : a ≠ 3) : (pOrd i k e).1 a q = e.1 a q := by
  unfold pOrd
  rw [gh_a ha]
  unfold pOrd0
  rw [eS_a hb]
  split
  · rw [eS_a ha, eS_a ha]
  · rfl
theorem CE.put (C : CE m ow ad e) (i0 : 0 ≤ i) (i1 : i < e.1 7 2) (hd : ¬ Dead e i) (hN : e.1 (71000 + i) 1 < 268435456) (k0 : 0 ≤ k) (k1 : k ≤ 17) (x0 : 0 ≤ x) (x1 : x < 524288) (y0 : 0 ≤ y) (y1 : y < 1024) (t0 : 0 ≤ t) (t1 : t < 1073741824) (o0 : 0 ≤ o) (o1 : o < 1048576) : ∃ m', fm_X2_put (ad 71 i) k x y t o m = some (0, m') ∧ CX1 m' ad (pPut i k x y t o e) := by
  have C1 : CE m ow ad (eS (pOrd i k e) (76000 + i) ((pOrd i k e).1 (71000 + i) 1) (if k ≤ 7 then 1000 * (pOrd i k e).1 68 29 + t % 1000 else t)) := (C.ord (i := i) (k := k)).gS (by omega)
  have hi : i < 30 := by have := C.cn.1; omega
  have d7 : (eS (pOrd i k e) (76000 + i) ((pOrd i k e).1 (71000 + i) 1) (if k ≤ 7 then 1000 * (pOrd i k e).1 68 29 + t % 1000 else t)).1 7 2 = e.1 7 2 := by rw [eS_a (by omega), ord_7 (by decide) (by decide)]
  have dN : (eS (pOrd i k e) (76000 + i) ((pOrd i k e).1 (71000 + i) 1) (if k ≤ 7 then 1000 * (pOrd i k e).1 68 29 + t % 1000 else t)).1 (71000 + i) 1 = e.1 (71000 + i) 1 := by rw [eS_a (by omega), ord_7 (by omega) (by omega)]
  have dO : (pOrd i k e).1 (71000 + i) 1 = e.1 (71000 + i) 1 := ord_7 (by omega) (by omega)
  have dd : ¬ Dead (eS (pOrd i k e) (76000 + i) ((pOrd i k e).1 (71000 + i) 1) (if k ≤ 7 then 1000 * (pOrd i k e).1 68 29 + t % 1000 else t)) i := by
    unfold Dead
    rw [eS_a (by omega), ord_7 (by omega) (by omega)]
    exact hd
  have eR : pPut i k x y t o e = eHs (eS (eS (pOrd i k e) (76000 + i) ((pOrd i k e).1 (71000 + i) 1) (if k ≤ 7 then 1000 * (pOrd i k e).1 68 29 + t % 1000 else t)) (71000 + i) 1 (e.1 (71000 + i) 1 + 1)) i (Ev1 (eH (eS (pOrd i k e) (76000 + i) ((pOrd i k e).1 (71000 + i) 1) (if k ≤ 7 then 1000 * (pOrd i k e).1 68 29 + t % 1000 else t)) i) (e.1 (71000 + i) 1) (evP k x y t o)) := by
    show eHs (eS _ _ _ ((pOrd i k e).1 (71000 + i) 1 + 1)) i (Ev1 _ ((pOrd i k e).1 (71000 + i) 1) _) = _
    rw [dO]
    rfl
  rw [eR]
  obtain ⟨qq, bb, kq1, kq2, kq3⟩ := C.hst
  have d3 : (eS (pOrd i k e) (76000 + i) ((pOrd i k e).1 (71000 + i) 1) (if k ≤ 7 then 1000 * (pOrd i k e).1 68 29 + t % 1000 else t)).1 3 0 = e.1 3 0 + 1 := by
    rw [eS_a (by omega)]
    unfold pOrd
    rw [gh_a (by decide)]
    exact eS_e
  have d9 : ∀ j : Int, 0 ≤ j → j < 1000 → (eS (pOrd i k e) (76000 + i) ((pOrd i k e).1 (71000 + i) 1) (if k ≤ 7 then 1000 * (pOrd i k e).1 68 29 + t % 1000 else t)).1 (7000 + j) 9 = e.1 (7000 + j) 9 := fun j j0 j1 => by rw [eS_a (by omega), ord_7 (by omega) (by omega)]
  have dj : ∀ j : Int, 0 ≤ j → j < 1000 → (eS (pOrd i k e) (76000 + i) ((pOrd i k e).1 (71000 + i) 1) (if k ≤ 7 then 1000 * (pOrd i k e).1 68 29 + t % 1000 else t)).1 (71000 + j) 1 = e.1 (71000 + j) 1 := fun j j0 j1 => by rw [eS_a (by omega), ord_7 (by omega) (by omega)]
  rw [← d7] at i1
  generalize eS (pOrd i k e) (76000 + i) ((pOrd i k e).1 (71000 + i) 1) (if k ≤ 7 then 1000 * (pOrd i k e).1 68 29 + t % 1000 else t) = e1 at *
  rw [← dN] at hN ⊢
  obtain ⟨⟨g1, g2⟩, g3, g4, g5, g6, g7⟩ := C1.his i0 i1
  have hnop := (C1.his i0 i1).nop
  have h163 := C1.fix.1
  have hc := g3.1.1
  obtain ⟨l, hr, hlen, -⟩ := g3.1.2.2
  rw [g4] at hr
  have sz : m (ad 72 i) 2 = e1.1 (71000 + i) 1 := hr.2.2.1.trans hlen
  obtain ⟨m', p1, p2, ⟨p3, p4, p5, p6⟩, p7, p8, aR⟩ := put_h (k := k) (x := x) (y := y) (t := t) (o := o) C1.fix g3 g1 hN (by rw [g4]; exact hnop.1) (by rw [g4]; exact hnop.2) k0 k1 x0 x1 y0 y1 t0 t1 o0 o1
  rw [g4] at p4 p5 p6 aR
  have hop : ∀ a, Op m (ad 72 i) a → a < m 0 0 ∧ 4 ≤ a := fun a ha => ⟨(Fp.lt hr.1 (Op.fp hr.1 ha)).2, (Fp.lt hr.1 (Op.fp hr.1 ha)).1⟩
  have fd : FD m m' ow (fun a => a = 71000 + i) := ⟨p3, fun a j a0 a1 ha => p4 a j a1 (by omega) (fun hh => ha (g6 a hh)) (Or.inl fun hh => ha (by rw [hh]; exact g2))⟩
  have hmh : RMh m' ad (eHs (eS e1 (71000 + i) 1 (e1.1 (71000 + i) 1 + 1)) i (Ev1 (eH e1 i) (e1.1 (71000 + i) 1) (evP k x y t o))) := by
    refine ⟨fun j => if j = i then qq i + 1 else qq j, bb, fun j => ?_, ?_, fun j j0 j1 j2 => ?_⟩
    · have h1 := kq1 j
      have h2 := kq1 i
      show 0 ≤ (if j = i then qq i + 1 else qq j) ∧ _
      split <;> omega
    · rw [sm_i1 i0 (by omega)]
      show _ ≤ (eS e1 (71000 + i) 1 (e1.1 (71000 + i) 1 + 1)).1 3 0
      rw [eS_a (by omega)]
      omega
    · have j3 : j < e1.1 7 2 := by
        have : (eS e1 (71000 + i) 1 (e1.1 (71000 + i) 1 + 1)).1 7 2 = e1.1 7 2 := eS_a (by omega)
        have j4 : j < (eS e1 (71000 + i) 1 (e1.1 (71000 + i) 1 + 1)).1 7 2 := j1
        omega
      have hk := kq3 j j0 (by omega) j2
      rw [← d9 j j0 j2, ← dj j j0 j2] at hk
      have e9 : (eHs (eS e1 (71000 + i) 1 (e1.1 (71000 + i) 1 + 1)) i (Ev1 (eH e1 i) (e1.1 (71000 + i) 1) (evP k x y t o))).1 (7000 + j) 9 = e1.1 (7000 + j) 9 := eS_a (by omega)
      rw [e9]
      by_cases c : j = i
      · subst c
        have eN : (eHs (eS e1 (71000 + j) 1 (e1.1 (71000 + j) 1 + 1)) j (Ev1 (eH e1 j) (e1.1 (71000 + j) 1) (evP k x y t o))).1 (71000 + j) 1 = e1.1 (71000 + j) 1 + 1 := eS_e
        rw [eN]
        show RHi m' (ad 72 j) _ (if j = j then qq j + 1 else qq j) _ _
        rw [if_pos rfl]
        obtain ⟨L, u1, u2, u3, u4⟩ := hk
        obtain ⟨L', w1, w2⟩ := aR.2.1 L u1
        rw [sz] at w2
        refine ⟨L', w1, by omega, by omega, ?_⟩
        have w3 := aR.2.2
        rw [sz] at w3
        omega
      · have eN : (eHs (eS e1 (71000 + i) 1 (e1.1 (71000 + i) 1 + 1)) i (Ev1 (eH e1 i) (e1.1 (71000 + i) 1) (evP k x y t o))).1 (71000 + j) 1 = e1.1 (71000 + j) 1 := eS_a (by omega)
        rw [eN]
        show RHi m' (ad 72 j) _ (if j = i then qq i + 1 else qq j) _ _
        rw [if_neg c]
        have h := C1.smh fd j0 j3 j2 (by omega)
        exact hk.sm h.1 h.2 (Int.le_refl _)
  have hFz : ∀ o', Fz e1 o' → Fz (eHs (eS e1 (71000 + i) 1 (e1.1 (71000 + i) 1 + 1)) i (Ev1 (eH e1 i) (e1.1 (71000 + i) 1) (evP k x y t o))) o' := fun o' hz => by
    obtain ⟨i', i2, i3, i4, i5⟩ := hz
    refine ⟨i', i2, ?_, i4, ?_⟩
    · show (eS e1 (71000 + i) 1 (e1.1 (71000 + i) 1 + 1)).1 7 2 > i'
      rw [eS_a (by omega)]
      exact i3
    · show (eS e1 (71000 + i) 1 (e1.1 (71000 + i) 1 + 1)).1 (7000 + i') 6 ≠ 0 ∧ (eS e1 (71000 + i) 1 (e1.1 (71000 + i) 1 + 1)).1 (7000 + i') 6 ≠ 6
      have := C1.cn.1
      rw [eS_a (by omega)]
      exact i5
  refine ⟨m', p1, fun a => if a < m 0 0 then ow a else 71000 + i, CE.one (o := 71000 + i) C1 fd p7 ?_ (fun a ha => if_pos ha) (fun a j' ha => eS_a ha) (fun _ _ => rfl) (fun j hj => eHs_a (by omega)) (fun _ => rfl) (C1.fzi dd) (fun i' i2 i3 i4 hD => by have := C1.cn.1; omega) (fun c hc => eS_a (by simp only [isT] at hc; omega)) (by omega) ⟨RmX.of71 i0 (by omega), hmh⟩ (Kx.of71 ⟨⟨g1, ?_⟩, ?_, by rw [p8]; exact g4, g5, fun a ha => ?_, fun a ha => ?_⟩ i0 (by omega))⟩
  · rw [p4 1 (-2) (by omega) (by decide) (fun hh => by have := hop 1 hh; omega) (Or.inl (by omega))]
    exact C1.m1
  · show (if ad 71 i < m 0 0 then ow (ad 71 i) else 71000 + i) = _
    rw [if_pos hc.2.1]
    exact g2
  · rw [eHs_e]
    show HS m' (ad 71 i) ((eS e1 (71000 + i) 1 (e1.1 (71000 + i) 1 + 1)).1 (71000 + i) 1) _
    rw [eS_e]
    exact p2
  · show (if a < m 0 0 then ow a else 71000 + i) = _
    rcases p5 a ha with hh | hh
    · rw [if_pos (hop a hh).1]
      exact g6 a hh
    · rw [if_neg (by omega)]
  · have hb := (p6 a).mp ha
    have hlt : a < m 0 0 := by
      obtain ⟨q, q0, q1, q2⟩ := hb
      have h6 := hr.1.2.2.2.2.2.1
      have h7 := hr.1.2.2.2.2.2.2.1
      rcases hr.1.2.2.2.2.2.2.2.2 q q0 (by omega) with ⟨_, h9⟩ | ⟨_, h9⟩
      · omega
      · rw [q2]; exact h9.1.2.1
    show Fz _ (if a < m 0 0 then ow a else 71000 + i)
    rw [if_pos hlt]
    exact hFz _ (g7 a hb)
end EN5
