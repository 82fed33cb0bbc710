/-! THE ENGINE: another run; another object of a list. -/
section EN6
variable {m m' M2 : MM} {ow ow' : Int → Int} {ad ad' : Int → Int → Int} {e e' : ES} {D : Int → Prop} {a b c i j k o r v n h N B t x y p1 p2 p3 p4 p5 : Int} {l : List Int} {E : Int → Ev} {s : TS} {f : Int → Int}
def eF (e : ES) (a : Int) (f : Int → Int) : ES := (fun b j => if b = a then f j else e.1 b j, e.2)
theorem eF_e : (eF e a f).1 a j = f j := if_pos rfl
theorem eF_a (h : b ≠ a) : (eF e a f).1 b j = e.1 b j := if_neg h
def fRun (n t tn ver par pe : Int) (j : Int) : Int := if j = 0 then n else if j = 1 then t else if j = 2 then tn else if j = 3 then ver else if j = 4 then par else if j = 5 then pe else if j = 7 ∨ (10 ≤ j ∧ j ≤ 12) then -1 else 0
/-- another run: n its number -/
def pNewRun (t tn ver par pe : Int) (e : ES) : ES := eS (eLs (eLs (eLs (eS (eF e (7000 + e.1 7 2) (fRun (e.1 7 2) t tn ver par pe)) (71000 + e.1 7 2) 1 0) (73000 + e.1 7 2) []) (74000 + e.1 7 2) []) (75000 + e.1 7 2) []) 7 2 (e.1 7 2 + 1)
theorem pNewRun_1 (h1 : a ≠ 7) (h2 : a ≠ 7000 + e.1 7 2) (h3 : a ≠ 71000 + e.1 7 2) : (pNewRun t p1 p2 p3 p4 e).1 a j = e.1 a j := by
  unfold pNewRun
  rw [eS_a h1]
  show (eS (eF e (7000 + e.1 7 2) _) (71000 + e.1 7 2) 1 0).1 a j = _
  rw [eS_a h3, eF_a h2]
theorem pNewRun_7 (h : j ≠ 2) (hn : 0 ≤ e.1 7 2) : (pNewRun t p1 p2 p3 p4 e).1 7 j = e.1 7 j := by
  unfold pNewRun
  rw [eS_j h]
  show (eS (eF e (7000 + e.1 7 2) _) (71000 + e.1 7 2) 1 0).1 7 j = _
  rw [eS_a (by omega), eF_a (by omega)]
theorem pNewRun_n : (pNewRun t p1 p2 p3 p4 e).1 7 2 = e.1 7 2 + 1 := eS_e
theorem pNewRun_f (hn : 0 ≤ e.1 7 2) : (pNewRun t p1 p2 p3 p4 e).1 (7000 + e.1 7 2) j = fRun (e.1 7 2) t p1 p2 p3 p4 j := by
  unfold pNewRun
  rw [eS_a (by omega)]
  show (eS (eF e (7000 + e.1 7 2) _) (71000 + e.1 7 2) 1 0).1 (7000 + e.1 7 2) j = _
  rw [eS_a (by omega), eF_e]
theorem pNewRun_h (hn : 0 ≤ e.1 7 2) : (pNewRun t p1 p2 p3 p4 e).1 (71000 + e.1 7 2) 1 = 0 := by
  unfold pNewRun
  rw [eS_a (by omega)]
  show (eS (eF e (7000 + e.1 7 2) _) (71000 + e.1 7 2) 1 0).1 (71000 + e.1 7 2) 1 = _
  rw [eS_e]
theorem pNewRun_l (h1 : c ≠ 73000 + e.1 7 2) (h2 : c ≠ 74000 + e.1 7 2) (h3 : c ≠ 75000 + e.1 7 2) : eL (pNewRun t p1 p2 p3 p4 e) c = eL e c := by
  unfold pNewRun
  show eL (eLs (eLs (eLs _ (73000 + e.1 7 2) []) (74000 + e.1 7 2) []) (75000 + e.1 7 2) []) c = _
  rw [eLs_a h3, eLs_a h2, eLs_a h1]
  rfl
theorem pNewRun_r (h : c = 73 ∨ c = 74 ∨ c = 75) : eL (pNewRun t p1 p2 p3 p4 e) (1000 * c + e.1 7 2) = [] := by
  unfold pNewRun
  show eL (eLs (eLs (eLs _ (73000 + e.1 7 2) []) (74000 + e.1 7 2) []) (75000 + e.1 7 2) []) _ = _
  rcases h with rfl | rfl | rfl
  · rw [eLs_a (by omega), eLs_a (by omega)]; exact eLs_e
  · rw [eLs_a (by omega)]; exact eLs_e
  · exact eLs_e
theorem li_add1 (hm : 4 ≤ m 0 0) (h : LI m r l) (h10 : m 1 (-2) = 0) (hl : l.length < 1000000) (hv : okob m v) : ∃ m', fm_Jx4a65c_add_9ea2d r v m = some (1, m') ∧ LI m' r (l ++ [v]) ∧ Ext m m' ∧ (∀ a j : Int, a < m 0 0 → a ≠ 0 → a ≠ r → (a ≠ m r 1 ∨ a = 1) → m' a j = m a j) ∧ (m' r 1 = m r 1 ∨ m 0 0 ≤ m' r 1) := by
  have hh := h
  obtain ⟨-, h2, h3, h4, h5⟩ := h
  rcases h5 with ⟨g1, g2⟩ | ⟨g1, g2, g3, g4, g5⟩
  · subst g2
    obtain ⟨m', r1, r2, r3, r4, r5⟩ := li_first hm hh g1 h10 hv
    exact ⟨m', r1, r2, r3, fun a j b1 b2 b3 _ => r4 a j b1 b2 b3, Or.inr r5⟩
  · by_cases c : (l.length : Int) < m (m r 1) (-2)
    · obtain ⟨m', r1, r2, r3, r4, r5⟩ := li_room hh g1 c hv
      exact ⟨m', r1, r2, r3, fun a j _ _ b3 b4 => r4 a j b3 (by have := g1.1; omega), Or.inl r5⟩
    · obtain ⟨m', r1, r2, r3, r4, r5⟩ := li_full hm hh g1 (by omega) (by omega) hl hv
      exact ⟨m', r1, r2, r3, fun a j b1 b2 b3 _ => r4 a j b1 b2 b3, Or.inr r5⟩
theorem CE.addRun (C : CE m ow ad e) (hn : e.1 7 2 < 30) : ∃ m' ad', fm_X11_addRun p1 p2 p3 p4 p5 m = some (ad' 7 (e.1 7 2), m') ∧ CX1 m' ad' (pNewRun p1 p2 p3 p4 p5 e) ∧ ∀ c i, LvA e c i → ad' c i = ad c i := by
  have h163 := C.fix.1
  have n0 : 0 ≤ e.1 7 2 := C.cn.1.1
  obtain ⟨L1, L2, L3, L4⟩ := C.lst (c := 7) (by decide) (by decide)
  have q71 : m 7 1 = 1 ∨ (4 ≤ m 7 1 ∧ m 7 1 < m 0 0 ∧ ow (m 7 1) = 7) := by
    rcases L1.2.2.2.2 with h5 | h5
    · exact Or.inl h5.1
    · exact Or.inr ⟨h5.1.1, h5.1.2.1, L4 (by have := h5.1.1; omega)⟩
  have x0 : Ext m (mnew m 7 20) := mnew_ext (by omega)
  have hok : okc (mnew m 7 20) (m 0 0) 7 := okc_new (c := 7) (by omega)
  have e00 : mnew m 7 20 0 0 = m 0 0 + 1 := (mn_c (by omega)).1
  have LI1 : LI (mnew m 7 20) 7 (lsq (e.1 7 2) (ad 7)) := L1.fr x0 (fun j _ => mn_o (by omega) (by decide)) fun hh j _ => mn_o (by omega) (by omega)
  obtain ⟨M2, h, t, d, q, b1, b2, b3, g1, g2, g3, g4, ⟨g5, g6, g7, g8⟩, ⟨h1, h2, h3, h4, h5, h6⟩, ⟨t1, t2, t3⟩, ⟨d1, d2, d3⟩, ⟨q1, q2, q3⟩, w1, w2, w3⟩ := x6_init (p1 := e.1 7 2) (p2 := p1) (p3 := p2) (p4 := p3) (p5 := p4) (p6 := p5) (E := eH e (e.1 7 2)) (fx_mnew (kd := 7) (ln := 20) C.fix) hok (by omega)
  rw [e00] at h1 h5 w1
  have fr := init_fresh (z := m 0 0) ⟨fx_mnew C.fix, hok, by omega⟩ g1
  have old2 : ∀ a j : Int, a < m 0 0 → a ≠ 0 → M2 a j = m a j := fun a j a0 a1 => by
    rw [g3.2 a j (by omega) a1 (by omega), mn_o (by omega) a1]
  have x2 : Ext m M2 := x0.tr g3.1
  have M2h : m 0 0 + 1 ≤ M2 0 0 := by have := g3.1.1; omega
  have LI2 : LI M2 7 (lsq (e.1 7 2) (ad 7)) := L1.fr x2 (fun j _ => old2 _ _ (by omega) (by decide)) fun hh j _ => old2 _ _ (by omega) (by omega)
  have e71 : M2 7 1 = m 7 1 := old2 _ _ (by omega) (by decide)
  have hp2 : okc M2 (m 0 0) 7 := g3.1.ok hok
  have hcap : (lsq (e.1 7 2) (ad 7)).length < 1000000 := by rw [lst_len]; omega
  obtain ⟨M3, k1, k2, k3, k4, k5⟩ := li_add1 (v := m 0 0) (by omega) LI2 (by rw [old2 _ _ (by omega) (by decide)]; exact C.m1) hcap ⟨hp2.1, hp2.2.1, Or.inr (Or.inr (Or.inl hp2.2.2))⟩
  rw [e71] at k4 k5
  have new3 : ∀ a j : Int, m 0 0 ≤ a → a < M2 0 0 → M3 a j = M2 a j := fun a j a0 a1 => k4 a j a1 (by omega) (by omega) (Or.inl (by omega))
  have hF3 : Fix M3 := (fw_Jx4a65c_add_9ea2d g2 (fx_kF g2 (by decide +kernel)) k1).fix
  have tb : ∀ a, Fp M2 t a → a < M2 0 0 := fun a ha => (Fp.lt t1.1 ha).2
  have db : ∀ a, Fp M2 d a → a < M2 0 0 := fun a ha => (Fp.lt d1.1 ha).2
  have qb : ∀ a, Fp M2 q a → a < M2 0 0 := fun a ha => (Fp.lt q1.1 ha).2
  have tt : t < M2 0 0 ∧ b1 ≤ t := ⟨tb t (Or.inl rfl), (t3 t (Or.inl rfl)).1⟩
  have dd : d < M2 0 0 ∧ b2 ≤ d := ⟨db d (Or.inl rfl), (d3 d (Or.inl rfl)).1⟩
  have qq : q < M2 0 0 ∧ b3 ≤ q := ⟨qb q (Or.inl rfl), q3 q (Or.inl rfl)⟩
  have t4 := t1.fr k3 fun a j ha _ => new3 a j (by have := t3 a ha; omega) (tb a ha)
  have d4 := d1.fr k3 fun a j ha _ => new3 a j (by have := d3 a ha; omega) (db a ha)
  have q4 := q1.fr k3 fun a j ha _ => new3 a j (by have := q3 a ha; omega) (qb a ha)
  obtain ⟨lh, hrow, -⟩ := h3.1.2.2
  rw [h4] at hrow
  have frm : ∀ {r : Int} {l : List Int}, FR M2 r → RowIs M2 r l → m 0 0 ≤ r → m 0 0 ≤ M2 r 0 → FR M3 r := fun {r l} F R b0 b1 => by
    have sT : SmT M2 M3 r := SmT.of R k3 (fun j _ => new3 _ _ b0 R.1.1.2.1) fun j _ => new3 _ _ b1 R.1.2.1.2.1
    unfold FR at F ⊢
    rw [sT.1, sT.2.2.2]
    exact ⟨F.1, fun i i0 => (sT.2.2.1 i i0).trans (F.2 i i0)⟩
  have hfp : ∀ a, Fp M2 (h + 1) a → m 0 0 + 1 ≤ a ∧ a < b1 := fun a ha => (Fp.split hrow.1 ha).elim (h5 a) fun hh => absurd hh (h6 a)
  have hlt : h + 1 < b1 := (hfp (h + 1) (Or.inl rfl)).2
  obtain ⟨o1, o2⟩ := Op.fr hrow k3 fun a j ha _ => new3 a j (by have := hfp a ha; omega) (Fp.lt hrow.1 ha).2
  have hHS : HS M3 h 0 (eH e (e.1 7 2)) := h3.fr k3 (fun j _ => new3 _ _ (by omega) (by omega)) fun a j ha _ => by
    rw [h4] at ha
    exact new3 a j (by have := hfp a ha; omega) (Fp.lt hrow.1 ha).2
  let ad' : Int → Int → Int := fun c i => if i = e.1 7 2 then (if c = 7 then m 0 0 else if c = 71 then h else if c = 72 then h + 1 else if c = 73 then t else if c = 74 then d else if c = 75 then q else ad c i) else ad c i
  let ow' : Int → Int := fun a => if a < m 0 0 then ow a else if a = m 0 0 then 7000 + e.1 7 2 else if a < b1 then 71000 + e.1 7 2 else if a < b2 then 73000 + e.1 7 2 else if a < b3 then 74000 + e.1 7 2 else if a < M2 0 0 then 75000 + e.1 7 2 else 7
  have a7 : ad' 7 (e.1 7 2) = m 0 0 := by show (if _ = _ then _ else _) = _; rw [if_pos rfl, if_pos rfl]
  have a71 : ad' 71 (e.1 7 2) = h := by show (if _ = _ then _ else _) = _; rw [if_pos rfl, if_neg (by decide), if_pos rfl]
  have a72 : ad' 72 (e.1 7 2) = h + 1 := by show (if _ = _ then _ else _) = _; rw [if_pos rfl, if_neg (by decide), if_neg (by decide), if_pos rfl]
  have a73 : ad' 73 (e.1 7 2) = t := by show (if _ = _ then _ else _) = _; rw [if_pos rfl, if_neg (by decide), if_neg (by decide), if_neg (by decide), if_pos rfl]
  have a74 : ad' 74 (e.1 7 2) = d := by show (if _ = _ then _ else _) = _; rw [if_pos rfl, if_neg (by decide), if_neg (by decide), if_neg (by decide), if_neg (by decide), if_pos rfl]
  have a75 : ad' 75 (e.1 7 2) = q := by show (if _ = _ then _ else _) = _; rw [if_pos rfl, if_neg (by decide), if_neg (by decide), if_neg (by decide), if_neg (by decide), if_neg (by decide), if_pos rfl]
  have aO : ∀ c i : Int, (i ≠ e.1 7 2 ∨ (c ≠ 7 ∧ c ≠ 71 ∧ c ≠ 72 ∧ c ≠ 73 ∧ c ≠ 74 ∧ c ≠ 75)) → ad' c i = ad c i := fun c i hh => by
    show (if _ = _ then _ else _) = _
    by_cases c1 : i = e.1 7 2
    · rw [if_pos c1, if_neg (by omega), if_neg (by omega), if_neg (by omega), if_neg (by omega), if_neg (by omega), if_neg (by omega)]
    · rw [if_neg c1]
  have wO : ∀ a, a < m 0 0 → ow' a = ow a := fun a ha => if_pos ha
  have w7 : ow' (m 0 0) = 7000 + e.1 7 2 := by show (if _ then _ else _) = _; rw [if_neg (by omega), if_pos rfl]
  have w71 : ∀ a, m 0 0 + 1 ≤ a → a < b1 → ow' a = 71000 + e.1 7 2 := fun a a0 a1 => by show (if _ then _ else _) = _; rw [if_neg (by omega), if_neg (by omega), if_pos (by omega)]
  have w73 : ∀ a, b1 ≤ a → a < b2 → ow' a = 73000 + e.1 7 2 := fun a a0 a1 => by show (if _ then _ else _) = _; rw [if_neg (by omega), if_neg (by omega), if_neg (by omega), if_pos (by omega)]
  have w74 : ∀ a, b2 ≤ a → a < b3 → ow' a = 74000 + e.1 7 2 := fun a a0 a1 => by show (if _ then _ else _) = _; rw [if_neg (by omega), if_neg (by omega), if_neg (by omega), if_neg (by omega), if_pos (by omega)]
  have w75 : ∀ a, b3 ≤ a → a < M2 0 0 → ow' a = 75000 + e.1 7 2 := fun a a0 a1 => by show (if _ then _ else _) = _; rw [if_neg (by omega), if_neg (by omega), if_neg (by omega), if_neg (by omega), if_neg (by omega), if_pos (by omega)]
  have wL : ∀ a, M2 0 0 ≤ a → ow' a = 7 := fun a a0 => by show (if _ then _ else _) = _; rw [if_neg (by omega), if_neg (by omega), if_neg (by omega), if_neg (by omega), if_neg (by omega), if_neg (by omega)]
  have hA : ∀ c i, LvA e c i → ad' c i = ad c i := fun c i hv => aO c i (by
    unfold LvA at hv
    have hT : isT c → 48 ≤ c ∧ c ≤ 60 := isT_b
    rcases hv with hv | hv | hv | hv | hv | hv
    · exact Or.inl (by omega)
    · exact Or.inr (by omega)
    · exact Or.inr (by omega)
    · exact Or.inr (by omega)
    · have := hT hv.1; exact Or.inr (by omega)
    · exact Or.inr (by omega))
  obtain ⟨fh, fx, ft, fd', fw', fq', -, ⟨-, -, u1, u2, u3, u4, u5, u6⟩, ⟨-, -, y1, y2⟩, ⟨-, -, y3, y4⟩, ⟨-, -, y5, y6⟩⟩ := fr
  have F71 : FR M2 (h + 1) := by
    have e1 : fh = h := u1.symm.trans g5
    rw [e1, h4] at u2
    rw [← u2] at u3 u4
    unfold FR
    rw [u3]
    exact ⟨u6, u5⟩
  have F73 : FR M2 t := by rw [← g6, y1]; exact y2
  have F74 : FR M2 d := by rw [← g7, y3]; exact y4
  have F75 : FR M2 q := by rw [← g8, y5]; exact y6
  have R73 := frm F73 t1 (by omega) (by have := t3 _ (Or.inr (Or.inl rfl)); omega)
  have R74 := frm F74 d1 (by omega) (by have := d3 _ (Or.inr (Or.inl rfl)); omega)
  have R75 := frm F75 q1 (by omega) (by have := q3 _ (Or.inr (Or.inl rfl)); omega)
  have R71 := frm F71 hrow (by omega) (by have := hfp _ (Or.inr (Or.inl rfl)); omega)
  have fdc : FD m M3 ow (fun o => o = 7 ∨ o = 7000 + e.1 7 2 ∨ o = 71000 + e.1 7 2 ∨ o = 73000 + e.1 7 2 ∨ o = 74000 + e.1 7 2 ∨ o = 75000 + e.1 7 2) := ⟨x2.tr k3, fun a j a0 a1 ha => by
    have h7 : a ≠ 7 := fun hh => ha (Or.inl (by rw [hh]; exact L3))
    have h71 : a ≠ m 7 1 := fun hh => by
      rcases q71 with g | g
      · omega
      · exact ha (Or.inl (by rw [hh]; exact g.2.2))
    rw [k4 a j (by omega) (by omega) h7 (Or.inl h71)]
    exact old2 a j a1 (by omega)⟩
  have hmh : RMh M3 ad' (pNewRun p1 p2 p3 p4 p5 e) := by
    obtain ⟨qq, bb, kq1, kq2, kq3⟩ := C.hst
    refine ⟨fun j => if j = e.1 7 2 then 0 else qq j, fun j => if j = e.1 7 2 then 0 else bb j, fun j => ?_, ?_, fun j j0 j1 j2 => ?_⟩
    · have h1 := kq1 j
      show 0 ≤ (if j = e.1 7 2 then 0 else qq j) ∧ 0 ≤ (if j = e.1 7 2 then 0 else bb j) ∧ (if j = e.1 7 2 then 0 else bb j) ≤ 391000
      split <;> omega
    · have h1 := sm_i0 (r := e.1 7 2) (fun j => (kq1 j).1) 30
      rw [pNewRun_1 (by omega) (by omega) (by omega)]
      omega
    · rw [pNewRun_n] at j1
      show RHi M3 (ad' 72 j) _ (if j = e.1 7 2 then 0 else qq j) (if j = e.1 7 2 then 0 else bb j) _
      by_cases c : j = e.1 7 2
      · subst c
        rw [if_pos rfl, if_pos rfl, a72, pNewRun_h n0, pNewRun_f n0]
        have s1 : 0 ≤ M3 (h + 1) 1 := by rw [new3 _ _ (by omega) hrow.1.1.2.1]; exact hrow.1.2.2.2.2.1
        exact ⟨[], R71.hp s1, by show (64 : Int) * ((0 : Nat) : Int) ≤ 0 + 128 * 0 + 64 + md 0; decide, by decide, by rw [R71.1]; decide⟩
      · have j3 : j < e.1 7 2 := by omega
        rw [if_neg c, if_neg c, aO 72 j (Or.inl c), pNewRun_1 (by omega) (by omega) (by omega), pNewRun_1 (by omega) (by omega) (by omega)]
        have g := C.smh fdc j0 j3 j2 (by omega)
        exact (kq3 j j0 j3 j2).sm g.1 g.2 (Int.le_refl _)
  refine ⟨M3, ad', ?_, ⟨ow', CE.chg (D := fun o => o = 7 ∨ o = 7000 + e.1 7 2 ∨ o = 71000 + e.1 7 2 ∨ o = 73000 + e.1 7 2 ∨ o = 74000 + e.1 7 2 ∨ o = 75000 + e.1 7 2) (ad' := ad') C ⟨fdc, hF3, ?_, wO, hA, fun a j ha => pNewRun_1 (by omega) (by omega) (by omega), fun c hc => pNewRun_l (by omega) (by omega) (by omega), fun i hi => rfl, fun _ => rfl, fun o hz => ?_⟩ ⟨by rw [pNewRun_n]; omega, fun i i0 i1 => ?_, fun i i0 i1 => ?_, fun i i0 i1 => ?_, fun i i0 i1 => ?_, fun t ht => ?_⟩ ?_ (by omega) ⟨fun o ho => ?_, hmh⟩ fun o ho => ?_⟩, hA⟩
  · unfold fm_X11_addRun
    rw [nw_t, bp_t (li_size LI1)]
    have el : ((lsq (e.1 7 2) (ad 7)).length : Int) = e.1 7 2 := by rw [lst_len]; omega
    rw [el, bd_t g1, bd_t k1, a7]
  · rw [k4 1 (-2) (by omega) (by decide) (by decide) (Or.inr rfl), old2 _ _ (by omega) (by decide)]
    exact C.m1
  · obtain ⟨i, i0, i1, i2, i3⟩ := hz
    refine ⟨by omega, i, i0, by rw [pNewRun_n]; omega, i2, ?_⟩
    unfold Dead
    rw [pNewRun_1 (by omega) (by omega) (by omega)]
    exact i3
  · rw [pNewRun_n] at i1
    have : i = e.1 7 2 := by omega
    subst this
    exact ⟨Or.inr (Or.inl rfl), Or.inr (Or.inr (Or.inl rfl)), Or.inr (Or.inr (Or.inr (Or.inl rfl))), Or.inr (Or.inr (Or.inr (Or.inr (Or.inl rfl)))), Or.inr (Or.inr (Or.inr (Or.inr (Or.inr rfl))))⟩
  · rw [pNewRun_1 (by omega) (by omega) (by omega)] at i1; omega
  · rw [pNewRun_1 (by omega) (by omega) (by omega)] at i1; omega
  · rw [pNewRun_1 (by omega) (by omega) (by omega)] at i1; omega
  · have hb := isT_b ht
    refine ⟨fun _ => pNewRun_1 (by omega) (by omega) (by omega), fun i i0 i1 => ?_⟩
    rw [pNewRun_1 (by omega) (by omega) (by omega)] at i1
    omega
  · obtain ⟨c1, c2, c3, c4, c5⟩ := C.cn
    refine ⟨by rw [pNewRun_n]; omega, by rw [pNewRun_1 (by omega) (by omega) (by omega)]; exact c2, by rw [pNewRun_1 (by omega) (by omega) (by omega)]; exact c3, by rw [pNewRun_1 (by omega) (by omega) (by omega)]; exact c4, fun t ht => ?_⟩
    have hb := isT_b ht
    rw [pNewRun_1 (by omega) (by omega) (by omega)]
    exact c5 t ht
  · have lv : ∀ c, (c = 73 ∨ c = 74 ∨ c = 75) → LvR (pNewRun p1 p2 p3 p4 p5 e) c (e.1 7 2) := fun c hc => Or.inr (Or.inr ⟨hc, n0, by rw [pNewRun_n]; omega, by omega⟩)
    rcases ho with rfl | rfl | rfl | rfl | rfl | rfl
    · exact RmX.of0 ⟨by decide, by decide, by decide, by decide⟩
    · exact RmX.of0 ⟨by omega, by omega, by omega, by omega⟩
    · exact RmX.of71 n0 (by omega)
    · exact RmX.ofR (lv 73 (by omega)) (by rw [a73]; exact R73.cap cpK_b.1)
    · exact RmX.ofR (lv 74 (by omega)) (by rw [a74]; exact R74.cap cpK_b.1)
    · exact RmX.ofR (lv 75 (by omega)) (by rw [a75]; exact R75.cap cpK_b.1)
  · have lv : ∀ c, (c = 73 ∨ c = 74 ∨ c = 75) → LvR (pNewRun p1 p2 p3 p4 p5 e) c (e.1 7 2) := fun c hc => Or.inr (Or.inr ⟨hc, n0, by rw [pNewRun_n]; omega, by omega⟩)
    rcases ho with rfl | rfl | rfl | rfl | rfl | rfl
    · refine Kx.ofL (by decide) (by decide) ⟨?_, by rw [pNewRun_n]; omega, by rw [wO 7 (by omega)]; exact L3, fun hh => ?_⟩
      · rw [pNewRun_n, lst_app n0, a7, lst_eq (g := ad 7) fun i i0 i1 => aO 7 i (Or.inl (by omega))]
        exact k2
      · rcases k5 with g | g
        · rw [g] at hh ⊢
          rcases q71 with z | z
          · exact absurd z hh
          · rw [wO _ z.2.1]; exact z.2.2
        · exact wL _ g
    · refine Kx.of7 ⟨by rw [a7]; exact k3.ok hp2, by rw [a7]; omega, by rw [a7]; exact w7, fun j j0 j1 => ?_, ?_, ?_, ?_, ?_, ?_⟩ n0 (by omega)
      · rw [a7, new3 _ _ (by omega) (by omega), g4 j j0 j1, pNewRun_f n0]
        rfl
      · rw [pNewRun_f n0]
        rfl
      · rw [a7, a71, new3 _ _ (by omega) (by omega)]; exact g5
      · rw [a7, a73, new3 _ _ (by omega) (by omega)]; exact g6
      · rw [a7, a74, new3 _ _ (by omega) (by omega)]; exact g7
      · rw [a7, a75, new3 _ _ (by omega) (by omega)]; exact g8
    · refine Kx.of71 ⟨⟨by rw [a71]; omega, by rw [a71]; exact w71 h (by omega) (by omega)⟩, by rw [a71, pNewRun_h n0]; exact hHS, by rw [a71, a72, new3 _ _ (by omega) (by omega)]; exact h4, by rw [a72]; omega, fun a ha => ?_, fun a ha => ?_⟩ n0 (by omega)
      · rw [a72] at ha
        have := h5 a ((o1 a).mp ha)
        exact w71 a (by omega) (by omega)
      · rw [a72] at ha
        exact absurd ((o2 a).mp ha) (h6 a)
    · have g := Kx.ofR (m := M3) (ow := ow') (ad := ad') (lv 73 (by omega)) ⟨by rw [a73, pNewRun_r (by omega)]; exact t4.1, fun a ha => by rw [a73] at ha; have hb := (t4.2 a).mp ha; have := t3 a hb; exact (w73 a (by omega) (by omega)), by rw [a73, new3 _ _ (by omega) (by omega)]; exact t2⟩
      exact g
    · have g := Kx.ofR (m := M3) (ow := ow') (ad := ad') (lv 74 (by omega)) ⟨by rw [a74, pNewRun_r (by omega)]; exact d4.1, fun a ha => by rw [a74] at ha; have hb := (d4.2 a).mp ha; have := d3 a hb; exact (w74 a (by omega) (by omega)), by rw [a74, new3 _ _ (by omega) (by omega)]; exact d2⟩
      exact g
    · have g := Kx.ofR (m := M3) (ow := ow') (ad := ad') (lv 75 (by omega)) ⟨by rw [a75, pNewRun_r (by omega)]; exact q4.1, fun a ha => by rw [a75] at ha; have hb := (q4.2 a).mp ha; have := q3 a hb; exact (w75 a (by omega) (qb a hb)), by rw [a75, new3 _ _ (by omega) (by omega)]; exact q2⟩
      exact g
end EN6
