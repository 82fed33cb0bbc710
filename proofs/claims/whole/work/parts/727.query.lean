/-! THE ENGINE: the class's calls that follow: query, plain, update, move. -/
section QRY
variable {m m' M2 m0 : MM} {ow ow' : Int → Int} {ad ad' ad1 : Int → Int → Int} {e e' e1 e2 : ES} {D : Int → Prop} {a b c i j k o r v w h N B t y z q lim c2 c3 p1 p2 p3 : Int} {n : Nat} {x : CX} {l : List Int} {E : Int → Ev} {s S : TS} {f : Int → Int} {L : List (Int × Int × Int)}
/-- all but the machine's is the same -/
def EQM (e e' : ES) : Prop := (∀ a j : Int, a ≠ 16 → e'.1 a j = e.1 a j) ∧ e'.2.1 = e.2.1 ∧ e'.2.2.1 = e.2.2.1
theorem EQM.rf : EQM e e := ⟨fun _ _ _ => rfl, rfl, rfl⟩
theorem EQM.tr (h : EQM e e1) (k : EQM e1 e2) : EQM e e2 := ⟨fun a j ha => (k.1 a j ha).trans (h.1 a j ha), k.2.1.trans h.2.1, k.2.2.trans h.2.2⟩
theorem eM_eq : EQM e (eM e k s B) := ⟨fun _ _ ha => ms_a ha, rfl, rfl⟩
theorem EQM.nn (h : EQM e e') (i0 : 0 ≤ i) : hN e' i = hN e i := h.1 _ _ (by omega)
theorem EQM.gg (h : EQM e e') : eH e' i = eH e i := congrFun h.2.1 i
theorem EQM.qq (h : EQM e e') (i0 : 0 ≤ i) : hC e' i = hC e i := by
  have h1 := h.nn (i := i) i0
  have h2 := h.gg (i := i)
  unfold hC
  rw [h1, h2]
theorem EQM.cx (h : EQM e e') (i0 : 0 ≤ i) : pCX e' i v w c2 c3 = pCX e i v w c2 c3 := by
  have h1 := h.nn (i := i) i0
  have h2 := h.gg (i := i)
  have h3 := h.qq (i := i) i0
  have h4 := h.1 (7000 + i) 1 (by omega)
  have h5 : ∀ c, eL e' c = eL e c := fun c => congrFun h.2.2 c
  unfold pCX
  rw [h1, h2, h3, h4]
  simp only [h5]
/-- what is needed of a run that is followed -/
def FOK (e : ES) (i v w c2 c3 lim : Int) : Prop := CxW (pCX e i v w c2 c3) ∧ (0 ≤ lim ∧ lim ≤ 260000) ∧ hN e i + nl (told (pCX e i v w c2 c3) lim) ≤ 524288 ∧ ∀ j : Nat, sg (sFollow (pCX e i v w c2 c3) lim j 0 s00) 0 40 ≤ 200000 ∧ sg (sFollow (pCX e i v w c2 c3) lim j 0 s00) 0 41 ≤ 2047
theorem FOK.eq (h : EQM e e') (i0 : 0 ≤ i) (f : FOK e i v w c2 c3 lim) : FOK e' i v w c2 c3 lim := by
  unfold FOK at f ⊢
  rw [h.cx i0, h.nn i0]
  exact f
/-- a run, told by a version from the beginning -/
def qS (e : ES) (i v w : Int) : TS := told (pCX e i v w 0 0) (hC e i)
def qM (e : ES) (i v w : Int) : ES := eM e (-1) (qS e i v w) (30 * (3 * sg (qS e i v w) 0 40 + 26 * (hC e i + 1)))
theorem CE.qfol (C : CE m ow ad e) (hG : WGlo e) (i0 : 0 ≤ i) (i1 : i < e.1 7 2) (t0 : 0 ≤ e.1 (7000 + i) 1) (t1 : e.1 (7000 + i) 1 < 4) (v0 : 0 ≤ v) (v1 : v < e.1 (48 + 4 * e.1 (7000 + i) 1 + 1) 2) (hw : w ≠ 2) (F : FOK e i v w 0 0 (hC e i)) : ∃ m', fm_X4_follow (ad 7 i) (ad (48 + 4 * e.1 (7000 + i) 1) v) (hC e i) w m = some (if sg (qS e i v w) 0 30 = 0 then 1 else 0, m') ∧ CX1 m' ad (qM e i v w) ∧ CR m' m' (qS e i v w) (30 * (3 * sg (qS e i v w) 0 40 + 26 * (hC e i + 1))) := by
  have ht := isT_4 t0 t1
  obtain ⟨m1, g1, g2, g3, -⟩ := C.fol (w := w) (c2 := 0) (c3 := 0) i0 i1 t0 t1 v0 v1 ((hG.2.2.2.2.2.2.1 _ ht).2 v v0 (by omega)) F.1 (by rw [if_neg hw]) (fun h => absurd h hw) (fun h => hw h.1) F.2.1.1 F.2.1.2 F.2.2.2 F.2.2.1
  exact ⟨m1, g1, g2, g3⟩
theorem CE.rd16 (C : CE m ow ad e) (i0 : 0 ≤ i) (i1 : i < e.1 7 2) : m (ad 7 i) 16 = ad 71 i ∧ okc m (ad 71 i) 3 ∧ m (ad 71 i) 4 = hC e i ∧ m (ad 71 i) 1 = hN e i := ⟨(C.run i0 i1).2.2.2.2.2.1, (C.his i0 i1).sl.1, (C.his i0 i1).sl.2.2.2.2, (C.his i0 i1).sl.2.1⟩
def pcQuery (p1 p2 : Int) (e : ES) : (Int ⊕ Nat) × ES :=
  if 0 ≤ p1 ∧ p1 < e.1 7 2 then
    if 0 ≤ p2 ∧ p2 < 6 then
      if sg (qS e p1 (e.1 (7000 + p1) 3) 0) 0 30 = 0 then (.inl (sg (qS e p1 (e.1 (7000 + p1) 3) 0) 1 p2), qM e p1 (e.1 (7000 + p1) 3) 0) else rT 2 (qM e p1 (e.1 (7000 + p1) 3) 0)
    else rT 0 e
  else rT 0 e
theorem thr_ag (C : CX1 m ad e') {q : Nat} : OKc e ad (some (.inr q, mthr m)) (rT q e') := by
  obtain ⟨ow, C⟩ := C
  obtain ⟨ow', h⟩ := C.thr
  exact ⟨_, ad, rfl, ⟨ow', h⟩, AG.rf⟩
theorem c_query (C : CE m ow ad e) (hW : WX e) (F : ∀ i : Int, 0 ≤ i → i < e.1 7 2 → FOK e i (e.1 (7000 + i) 3) 0 0 0 (hC e i)) : OKc e ad (fm_X11_query p1 p2 m) (pcQuery p1 p2 e) := by
  unfold fm_X11_query pcQuery
  rw [C.runAt]
  by_cases c1 : 0 ≤ p1 ∧ p1 < e.1 7 2
  · rw [if_pos c1, if_pos c1, bx_l rfl, chkVar]
    by_cases c2 : 0 ≤ p2 ∧ p2 < 6
    · rw [if_pos c2, if_pos c2, bx_l rfl]
      obtain ⟨w1, w2, w3, -⟩ := hW.run c1.1 c1.2
      have e3 : m (ad 7 p1) 3 = e.1 (7000 + p1) 3 := C.rf c1.1 c1.2 (by decide) (by decide)
      obtain ⟨d1, d2, d3, d4⟩ := C.rd16 c1.1 c1.2
      obtain ⟨m1, g1, g2, g3⟩ := C.qfol hW.glo (w := 0) c1.1 c1.2 w1.1 w1.2 w3.1 w3.2 (by decide) (F p1 c1.1 c1.2)
      rw [gd_t (C.rk c1.1 c1.2), lx_p, e3, bp_t (C.code c1.1 c1.2 w1.1 w1.2 w3.1 w3.2).1, lx_p, d1, gd_t d2, lx_p, d3, bd_t g1]
      by_cases c3 : sg (qS e p1 (e.1 (7000 + p1) 3) 0) 0 30 = 0
      · rw [if_pos c3, if_pos c3, if_neg (by decide), bp_t (val_e g3 c2.1 c2.2)]
        exact OKc.rt g2 rfl
      · rw [if_neg c3, if_neg c3, if_pos rfl]
        exact thr_ag g2
    · rw [if_neg c2, if_neg c2, bx_r rfl]; exact OKc.thr C
  · rw [if_neg c1, if_neg c1, bx_r rfl]; exact OKc.thr C
def pcPlain (p1 p2 : Int) (e : ES) : (Int ⊕ Nat) × ES :=
  if 0 ≤ p1 ∧ p1 < e.1 7 2 then
    if 0 ≤ p2 ∧ p2 < 6 then
      if sg (qS e p1 (e.1 (7000 + p1) 3) 0) 0 30 = 0 then (.inl (sg (qS e p1 (e.1 (7000 + p1) 3) 1) 1 p2), qM (qM e p1 (e.1 (7000 + p1) 3) 0) p1 (e.1 (7000 + p1) 3) 1) else rT 2 (qM e p1 (e.1 (7000 + p1) 3) 0)
    else rT 0 e
  else rT 0 e
theorem qS_eq (h : EQM e e') (i0 : 0 ≤ i) : qS e' i v w = qS e i v w := by
  unfold qS
  rw [h.cx i0, h.qq i0]
theorem WGlo.eq (h : EQM e e') (g : WGlo e) : WGlo e' := by
  have h5 : ∀ c, eL e' c = eL e c := fun c => congrFun h.2.2 c
  obtain ⟨g1, g2, g3, g4, g5, g6, g7, g8, g9⟩ := g
  refine ⟨by rw [h.1 _ _ (by decide)]; exact g1, by rw [h.1 _ _ (by decide)]; exact g2, by rw [h.1 _ _ (by decide), h.1 _ _ (by decide)]; exact g3, by rw [h.1 _ _ (by decide)]; exact g4, fun k k0 k1 => ?_, fun k k0 k1 => ?_, fun t ht => ?_, by rw [h5]; exact g8, by rw [h5]; exact g9⟩
  · rw [h.1 _ _ (by decide), h.1 _ _ (by decide), h.1 _ _ (by decide)]
    exact g5 k k0 k1
  · rw [h.1 _ _ (by omega), h.1 _ _ (by omega), h.1 _ _ (by omega), h.1 _ _ (by omega), h.1 _ _ (by omega)]
    exact g6 k k0 k1
  · have := isT_b ht
    rw [h.1 _ _ (by omega), h.1 _ _ (by omega)]
    refine ⟨(g7 t ht).1, fun v v0 v1 => ?_⟩
    rw [h5]
    exact (g7 t ht).2 v v0 v1
theorem c_plain (C : CE m ow ad e) (hW : WX e) (F : ∀ i w : Int, 0 ≤ i → i < e.1 7 2 → (w = 0 ∨ (w = 1 ∧ sg (qS e i (e.1 (7000 + i) 3) 0) 0 30 = 0)) → FOK e i (e.1 (7000 + i) 3) w 0 0 (hC e i)) : OKc e ad (fm_X11_plain p1 p2 m) (pcPlain p1 p2 e) := by
  unfold fm_X11_plain pcPlain
  rw [C.runAt]
  by_cases c1 : 0 ≤ p1 ∧ p1 < e.1 7 2
  · rw [if_pos c1, if_pos c1, bx_l rfl, chkVar]
    by_cases c2 : 0 ≤ p2 ∧ p2 < 6
    · rw [if_pos c2, if_pos c2, bx_l rfl]
      obtain ⟨w1, w2, w3, -⟩ := hW.run c1.1 c1.2
      have e3 : m (ad 7 p1) 3 = e.1 (7000 + p1) 3 := C.rf c1.1 c1.2 (by decide) (by decide)
      obtain ⟨d1, d2, d3, d4⟩ := C.rd16 c1.1 c1.2
      obtain ⟨m1, g1, ⟨ow1, C1⟩, g3⟩ := C.qfol hW.glo (w := 0) c1.1 c1.2 w1.1 w1.2 w3.1 w3.2 (by decide) (F p1 0 c1.1 c1.2 (Or.inl rfl))
      rw [gd_t (C.rk c1.1 c1.2), lx_p, e3, bp_t (C.code c1.1 c1.2 w1.1 w1.2 w3.1 w3.2).1, lx_p, d1, gd_t d2, lx_p, d3, bd_t g1]
      by_cases c3 : sg (qS e p1 (e.1 (7000 + p1) 3) 0) 0 30 = 0
      · rw [if_pos c3, if_pos c3, if_neg (by decide)]
        have Q : EQM e (qM e p1 (e.1 (7000 + p1) 3) 0) := eM_eq
        have q7 : p1 < (qM e p1 (e.1 (7000 + p1) 3) 0).1 7 2 := by rw [Q.1 _ _ (by decide)]; exact c1.2
        have qt : (qM e p1 (e.1 (7000 + p1) 3) 0).1 (7000 + p1) 1 = e.1 (7000 + p1) 1 := Q.1 _ _ (by omega)
        have qc : (qM e p1 (e.1 (7000 + p1) 3) 0).1 (48 + 4 * e.1 (7000 + p1) 1 + 1) 2 = e.1 (48 + 4 * e.1 (7000 + p1) 1 + 1) 2 := Q.1 _ _ (by omega)
        have e31 : m1 (ad 7 p1) 3 = e.1 (7000 + p1) 3 := by rw [C1.rf c1.1 q7 (by decide) (by decide)]; exact Q.1 _ _ (by omega)
        obtain ⟨k1, k2, k3, k4⟩ := C1.rd16 c1.1 q7
        obtain ⟨m2, u1, u2, u3⟩ := C1.qfol (hW.glo.eq Q) (w := 1) (v := e.1 (7000 + p1) 3) c1.1 q7 (by rw [qt]; exact w1.1) (by rw [qt]; exact w1.2) w3.1 (by rw [qt, qc]; exact w3.2) (by decide) (by rw [Q.qq c1.1]; exact (F p1 1 c1.1 c1.2 (Or.inr ⟨rfl, c3⟩)).eq Q c1.1)
        have hcd := (C1.code (v := e.1 (7000 + p1) 3) c1.1 q7 (by rw [qt]; exact w1.1) (by rw [qt]; exact w1.2) w3.1 (by rw [qt, qc]; exact w3.2)).1
        rw [qS_eq Q c1.1] at u1 u3
        rw [lx_p, e31, bp_t hcd, lx_p, k1, gd_t k2, lx_p, k3, bd_t u1, bp_t (val_e u3 c2.1 c2.2)]
        exact OKc.rt u2 rfl
      · rw [if_neg c3, if_neg c3, if_pos rfl]
        exact thr_ag ⟨ow1, C1⟩
    · rw [if_neg c2, if_neg c2, bx_r rfl]; exact OKc.thr C
  · rw [if_neg c1, if_neg c1, bx_r rfl]; exact OKc.thr C
/-- whether a branch waits for a signal -/
def sWfs (s : TS) (nm : Int) : Nat → Int → Bool
  | 0, _ => false
  | n + 1, k => if k < sg s 0 5 then (if sg s (2 + k) 7 = 3 ∧ sg s (2 + k) 8 = nm then true else sWfs s nm n (k + 1)) else false
theorem wfs_l (hC : CR m m s B) : ∀ (n f : Nat) (k : Int), 0 ≤ k → k ≤ sg s 0 5 → sg s 0 5 - k < n → n ≤ f → fl_X8_waitsForSignal_2 z m f k = some (if sWfs s z n k = true then 1 else 0) := by
  obtain ⟨h5, h50, h51⟩ := hC.th
  intro n
  induction n with
  | zero => intro f k k0 k9 h1 h2; omega
  | succ n ih =>
    intro f k k0 k9 h1 h2
    obtain ⟨f, rfl⟩ : ∃ g, f = g + 1 := ⟨f - 1, by omega⟩
    unfold fl_X8_waitsForSignal_2 sWfs
    rw [lx_p, h5]
    by_cases c1 : k < sg s 0 5
    · obtain ⟨o1, o2, o3⟩ := hC.ob k0 (show k < 12 by omega)
      have e7 : m (m 19 k) 7 = sg s (2 + k) 7 := hC.br k0 c1 (by decide) (by decide)
      have e8 : m (m 19 k) 8 = sg s (2 + k) 8 := hC.br k0 c1 (by decide) (by decide)
      have hr := ih f (k + 1) (by omega) (by omega) (by omega) (by omega)
      rw [if_pos c1, if_pos c1, if_pos (by omega), gd_t (by omega), lx_p, gd_t o3, lx_p, e7]
      by_cases c2 : sg s (2 + k) 7 = 3
      · rw [if_pos c2, lx_p, e8]
        by_cases c3 : sg s (2 + k) 8 = z
        · rw [if_pos c3, if_pos (show sg s (2 + k) 7 = 3 ∧ sg s (2 + k) 8 = z from ⟨c2, c3⟩), if_pos rfl]
        · rw [if_neg c3, if_neg (show ¬ (sg s (2 + k) 7 = 3 ∧ sg s (2 + k) 8 = z) from fun g => c3 g.2), lx_p, w32_id (by omega) (by omega)]
          exact hr
      · rw [if_neg c2, if_neg (show ¬ (sg s (2 + k) 7 = 3 ∧ sg s (2 + k) 8 = z) from fun g => c2 g.1), lx_p, w32_id (by omega) (by omega)]
        exact hr
    · rw [if_neg c1, if_neg c1]
      rfl
def pcUpdate (p1 p2 p3 : Int) (e : ES) : (Int ⊕ Nat) × ES :=
  if 0 ≤ p1 ∧ p1 < e.1 7 2 then
    if 0 ≤ p2 ∧ p2 < 4 then
      if 0 ≤ p3 ∧ p3 < 1000 then
        if e.1 (7000 + p1) 6 = 0 ∧ hN e p1 < 100 then
          if sg (qS e p1 (e.1 (7000 + p1) 3) 0) 0 30 = 0 ∧ ¬ newSig (pX e p1) p2 = true ∧ sWfs (qS e p1 (e.1 (7000 + p1) 3) 0) p2 13 0 = true then (.inl 1, pArr p1 4 p2 p3 (qM e p1 (e.1 (7000 + p1) 3) 0))
          else (.inl 0, qM e p1 (e.1 (7000 + p1) 3) 0)
        else rT 2 e
      else rT 1 e
    else rT 0 e
  else rT 0 e
theorem EQM.px (h : EQM e e') (i0 : 0 ≤ i) : pX e' i = pX e i := by
  unfold pX
  rw [h.nn i0, h.qq i0, h.gg]
theorem c_update (C : CE m ow ad e) (hW : WX e) (hb : BD e) (F : ∀ i : Int, 0 ≤ i → i < e.1 7 2 → FOK e i (e.1 (7000 + i) 3) 0 0 0 (hC e i)) : OKc e ad (fm_X11_update p1 p2 p3 m) (pcUpdate p1 p2 p3 e) := by
  unfold fm_X11_update pcUpdate
  rw [C.runAt]
  by_cases c1 : 0 ≤ p1 ∧ p1 < e.1 7 2
  · rw [if_pos c1, if_pos c1, bx_l rfl, chkNam]
    by_cases c2 : 0 ≤ p2 ∧ p2 < 4
    · rw [if_pos c2, if_pos c2, bx_l rfl, chkVal]
      by_cases c3 : 0 ≤ p3 ∧ p3 < 1000
      · rw [if_pos c3, if_pos c3, bx_l rfl, gd_t (C.rk c1.1 c1.2), lx_p, C.rf c1.1 c1.2 (by decide) (by decide)]
        obtain ⟨w1, w2, w3, -⟩ := hW.run c1.1 c1.2
        have e3 : m (ad 7 p1) 3 = e.1 (7000 + p1) 3 := C.rf c1.1 c1.2 (by decide) (by decide)
        obtain ⟨d1, d2, d3, d4⟩ := C.rd16 c1.1 c1.2
        by_cases c4 : e.1 (7000 + p1) 6 = 0
        · rw [if_pos c4, lx_p, d1, gd_t d2, lx_p, d4]
          by_cases c5 : hN e p1 < 100
          · rw [if_pos c5, if_pos (show e.1 (7000 + p1) 6 = 0 ∧ hN e p1 < 100 from ⟨c4, c5⟩)]
            obtain ⟨m1, g1, ⟨ow1, C1⟩, g3⟩ := C.qfol hW.glo (w := 0) c1.1 c1.2 w1.1 w1.2 w3.1 w3.2 (by decide) (F p1 c1.1 c1.2)
            rw [lx_p, e3, bp_t (C.code c1.1 c1.2 w1.1 w1.2 w3.1 w3.2).1, lx_p, d3, bd_t g1]
            have Q : EQM e (qM e p1 (e.1 (7000 + p1) 3) 0) := eM_eq
            have q7 : p1 < (qM e p1 (e.1 (7000 + p1) 3) 0).1 7 2 := by rw [Q.1 _ _ (by decide)]; exact c1.2
            obtain ⟨k1, k2, k3, k4⟩ := C1.rd16 c1.1 q7
            by_cases c6 : sg (qS e p1 (e.1 (7000 + p1) 3) 0) 0 30 = 0
            · have hns := newSig_e (v := p2) (C1.hx c1.1 q7) k3
              rw [Q.px c1.1] at hns
              rw [if_pos c6, if_neg (show ¬ (1 : Int) = 0 by decide), lx_p, k1, gd_t k2, bp_t hns]
              by_cases c7 : newSig (pX e p1) p2 = true
              · rw [if_pos c7, if_neg (show ¬ (1 : Int) = 0 by decide), if_neg (fun g => g.2.1 c7)]
                exact OKc.rt ⟨ow1, C1⟩ rfl
              · have hwf : fm_X8_waitsForSignal p2 m1 = some (if sWfs (qS e p1 (e.1 (7000 + p1) 3) 0) p2 13 0 = true then 1 else 0) := by
                  have h5 := g3.th
                  exact wfs_l g3 13 BIG 0 (by decide) h5.2.1 (by omega) (Nat.le_of_lt (BIG_g (by decide)))
                rw [if_neg c7, if_pos (show (0 : Int) = 0 from rfl), bp_t hwf]
                by_cases c8 : sWfs (qS e p1 (e.1 (7000 + p1) 3) 0) p2 13 0 = true
                · rw [if_pos c8, if_neg (show ¬ (1 : Int) = 0 by decide), if_pos ⟨c6, c7, c8⟩]
                  have nd : ¬ Dead (qM e p1 (e.1 (7000 + p1) 3) 0) p1 := fun hh => hh.1 (by rw [Q.1 _ _ (by omega)]; exact c4)
                  have hb1 : BD (qM e p1 (e.1 (7000 + p1) 3) 0) := by
                    obtain ⟨b1, b2, b3, b4⟩ := hb
                    refine ⟨by rw [Q.1 _ _ (by decide)]; exact b1, by rw [Q.1 _ _ (by decide)]; exact b2, by rw [Q.1 _ _ (by decide)]; exact b3, fun i i0 i1 => ?_⟩
                    rw [Q.1 _ _ (by decide)] at i1
                    rw [Q.nn i0, Q.1 _ _ (by decide)]
                    exact b4 i i0 i1
                  obtain ⟨m2, u1, u2⟩ := C1.arr (k := 4) (x := p2) (y := p3) c1.1 q7 nd hb1 (by decide) (by decide) c2.1 (by omega) c3.1 (by omega)
                  rw [bd_t u1]
                  exact OKc.rt u2 rfl
                · rw [if_neg c8, if_pos (show (0 : Int) = 0 from rfl), if_neg (fun g => c8 g.2.2)]
                  exact OKc.rt ⟨ow1, C1⟩ rfl
            · rw [if_neg c6, if_pos (show (0 : Int) = 0 from rfl), if_neg (fun g => c6 g.1)]
              exact OKc.rt ⟨ow1, C1⟩ rfl
          · rw [if_neg c5, if_neg (fun g => c5 g.2)]; exact OKc.thr C
        · rw [if_neg c4, if_neg (fun g => c4 g.1)]; exact OKc.thr C
      · rw [if_neg c3, if_neg c3, bx_r rfl]; exact OKc.thr C
    · rw [if_neg c2, if_neg c2, bx_r rfl]; exact OKc.thr C
  · rw [if_neg c1, if_neg c1, bx_r rfl]; exact OKc.thr C
end QRY
