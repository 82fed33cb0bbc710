/-! THE ENGINE: a run is followed in either way; the call complete. -/
section FO2
variable {m m' M2 m0 : MM} {ow ow' : Int → Int} {ad ad' ad1 : Int → Int → Int} {e e' e1 e2 : ES} {D : Int → Prop} {a b c i j k o r v w n h N B t x0 y z p q lim c2 c3 p1 : Int} {x : CX} {l : List Int} {E : Int → Ev} {s S : TS} {f : Int → Int}
/-- run i is told by version v in way w -/
def pX3 (e : ES) (i v w : Int) : CX := pCX e i v w (if w = 2 then e.1 (7000 + i) 14 else 0) (if w = 2 then e.1 (7000 + i) 15 else 0)
/-- the state that a following comes to, and a bound -/
def pFS (e : ES) (i v w lim : Int) : TS :=
  if w = 2 ∧ e.1 16 7 = i then sFollow (pX3 e i v w) lim ((lim - sg (eT e) 0 10).toNat + 1) (sg (eT e) 0 10) (sKeep (eT e))
  else told (pX3 e i v w) lim
def pFB (e : ES) (i v w lim : Int) : Int := 30 * (3 * sg (pFS e i v w lim) 0 40 + 26 * (lim + 1 + hT e i))
/-- what a following has to find -/
def FolP (e : ES) (i v w lim : Int) : Prop := CxW (pX3 e i v w) ∧ ((0 ≤ lim ∧ lim ≤ 260000) ∧ 0 ≤ hT e i) ∧ hN e i + nl (pFS e i v w lim) ≤ 524288 ∧ (w = 2 ∧ e.1 16 7 = i → SW (pX3 e i v w) (sKeep (eT e)) (eB e) ∧ BtW (pX3 e i v w) (sKeep (eT e)) ∧ (sg (eT e) 0 10 < lim ∧ eB e ≤ 30 * (3 * sg (sKeep (eT e)) 0 40 + 26 * (sg (eT e) 0 10 + hT e i))) ∧ (∀ j : Nat, sg (sFollow (pX3 e i v w) lim j (sg (eT e) 0 10) (sKeep (eT e))) 0 40 ≤ 200000 ∧ sg (sFollow (pX3 e i v w) lim j (sg (eT e) 0 10) (sKeep (eT e))) 0 41 ≤ 2047) ∧ eB e + 30 * (3 * (200000 - sg (sKeep (eT e)) 0 40) + 26 * (lim - sg (eT e) 0 10 + 1)) < 268435456) ∧ (¬ (w = 2 ∧ e.1 16 7 = i) → ∀ j : Nat, sg (sFollow (pX3 e i v w) lim j 0 s00) 0 40 ≤ 200000 ∧ sg (sFollow (pX3 e i v w) lim j 0 s00) 0 41 ≤ 2047)
theorem CE.fol2 (C : CE m ow ad e) (i0 : 0 ≤ i) (i1 : i < e.1 7 2) (t0 : 0 ≤ e.1 (7000 + i) 1) (t1 : e.1 (7000 + i) 1 < 4) (v0 : 0 ≤ v) (v1 : v < e.1 (48 + 4 * e.1 (7000 + i) 1 + 1) 2) (hw : WCod (eL e (1000 * (48 + 4 * e.1 (7000 + i) 1) + v))) (hp : FolP e i v w lim) : ∃ m', fm_X4_follow (ad 7 i) (ad (48 + 4 * e.1 (7000 + i) 1) v) lim w m = some (if sg (pFS e i v w lim) 0 30 = 0 then 1 else 0, m') ∧ CX1 m' ad (eM e (-1) (pFS e i v w lim) (pFB e i v w lim)) ∧ CR m' m' (pFS e i v w lim) (pFB e i v w lim) ∧ SW (pX3 e i v w) (pFS e i v w lim) (pFB e i v w lim) ∧ XC m' (pX3 e i v w) ∧ m' 16 7 = 0 := by
  obtain ⟨hx, ⟨⟨l0, l1⟩, hT0⟩, hN', hk, hk2⟩ := hp
  unfold pFB
  unfold pFS at *
  by_cases c : w = 2 ∧ e.1 16 7 = i
  · rw [if_pos c] at hN' ⊢
    obtain ⟨g1, g2, ⟨g3, g3b⟩, g4, g5⟩ := hk c
    obtain ⟨k1, k2, k3, k4⟩ := C.mac
    have lv := (C.code i0 i1 t0 t1 v0 v1).2
    have h16 := (C.run i0 i1).2.2.2.2.2.1
    have e14 : m (ad 7 i) 14 = e.1 (7000 + i) 14 := C.rf i0 i1 (by decide) (by decide)
    have e15 : m (ad 7 i) 15 = e.1 (7000 + i) 15 := C.rf i0 i1 (by decide) (by decide)
    have P := C.xp (w := w) (c2 := if w = 2 then e.1 (7000 + i) 14 else 0) (c3 := if w = 2 then e.1 (7000 + i) 15 else 0) i0 i1 lv hw
    rw [← h16] at P
    have h7 : m 16 7 = ad 7 i := by
      rw [k3, if_neg (by omega), c.2]
    have hX2 : (pX3 e i v w).1 2 = m (ad 7 i) 14 := by
      rw [e14]
      exact if_pos c.1
    have hX3 : (pX3 e i v w).1 3 = m (ad 7 i) 15 := by
      rw [e15]
      exact if_pos c.1
    obtain ⟨c1, c2⟩ := c
    subst c1
    obtain ⟨m', q1, q2, q3, q4, q5, q6, q7⟩ := follow_k2 (Q := 200000) k1 (C.rk i0 i1) P hx rfl hX2 hX3 (C.rk i0 i1).1 h7 g1 g2 (Int.le_of_lt g3) P.1.n.1 (by have := hw.1; show ((eL e (1000 * (48 + 4 * e.1 (7000 + i) 1) + v)).length : Int) ≤ 24; omega) (by omega) (fun j => (g4 j).1) g5 hN'
    have hcap : ∀ r, Mrow r → Cap m' r (mcK r) := q7.fin (g4 ((lim - sg (eT e) 0 10).toNat + 1)).1 (g4 ((lim - sg (eT e) 0 10).toNat + 1)).2 (by
      have h0 : 0 ≤ hN e i := P.1.n.1
      have h1 : nl (sFollow (pX3 e i v 2) lim ((lim - sg (eT e) 0 10).toNat + 1) (sg (eT e) 0 10) (sKeep (eT e))) ≤ 524288 := by omega
      exact h1) fun r hr => C.capM hr
    have q2a : CR m' m' (sFollow (pX3 e i v 2) lim ((lim - sg (eT e) 0 10).toNat + 1) (sg (eT e) 0 10) (sKeep (eT e))) (eB e + 30 * (3 * (sg (sFollow (pX3 e i v 2) lim ((lim - sg (eT e) 0 10).toNat + 1) (sg (eT e) 0 10) (sKeep (eT e))) 0 40 - sg (sKeep (eT e)) 0 40) + 26 * (lim - sg (eT e) 0 10 + 1))) := q2
    have q3a : SW (pX3 e i v 2) (sFollow (pX3 e i v 2) lim ((lim - sg (eT e) 0 10).toNat + 1) (sg (eT e) 0 10) (sKeep (eT e))) (eB e + 30 * (3 * (sg (sFollow (pX3 e i v 2) lim ((lim - sg (eT e) 0 10).toNat + 1) (sg (eT e) 0 10) (sKeep (eT e))) 0 40 - sg (sKeep (eT e)) 0 40) + 26 * (lim - sg (eT e) 0 10 + 1))) := q3
    have q2' := q2a.mono (B' := 30 * (3 * sg (sFollow (pX3 e i v 2) lim ((lim - sg (eT e) 0 10).toNat + 1) (sg (eT e) 0 10) (sKeep (eT e))) 0 40 + 26 * (lim + 1 + hT e i))) (by omega)
    have q3' := q3a.mono (B' := 30 * (3 * sg (sFollow (pX3 e i v 2) lim ((lim - sg (eT e) 0 10).toNat + 1) (sg (eT e) 0 10) (sKeep (eT e))) 0 40 + 26 * (lim + 1 + hT e i))) (by omega)
    exact ⟨m', q1, C.mach q2' q4 (k := -1) (by rw [if_pos (by decide)]; exact q6) (by have := C.cn.1; omega) hcap, q2', q3', q5, q6⟩
  · rw [if_neg c] at hN' ⊢
    exact C.folB i0 i1 t0 t1 v0 v1 hw hx rfl (fun h => if_pos h) c l0 l1 (hk2 c) hN' (show 30 * (3 * sg (told (pX3 e i v w) lim) 0 40 + 26 * (lim + 1)) ≤ 30 * (3 * sg (told (pX3 e i v w) lim) 0 40 + 26 * (lim + 1 + hT e i)) by omega)
/-- a worker has replayed once more -/
def pRep (w : Int) (e : ES) : ES := if 0 ≤ w ∧ w < 3 then eS e 11 w (w32 (e.1 11 w + 1)) else e
theorem CE.rep (C : CE m ow ad e) : ∃ m', fm_X11_countReplay w m = some (0, m') ∧ CE m' ow ad (pRep w e) := by
  unfold fm_X11_countReplay pRep
  by_cases c1 : w < 0
  · rw [if_pos c1, if_neg (by omega)]
    exact ⟨m, rfl, C⟩
  · rw [if_neg c1]
    by_cases c2 : w < 3
    · rw [if_pos c2, if_pos ⟨by omega, c2⟩, gd_t ⟨by omega, c2⟩, lx_p, (C.glo (o := 11) (by omega)).2 w (by omega), up_t]
      exact ⟨_, rfl, C.sG (by omega)⟩
    · rw [if_neg c2, if_neg (by omega)]
      exact ⟨m, rfl, C⟩
theorem rep_a {u : Int} (h : a ≠ 11) : (pRep w e).1 a u = e.1 a u := by
  unfold pRep
  split
  · exact eS_a h
  · rfl
theorem rep_mo : MO e (pRep w e) := by
  unfold pRep
  split
  · exact set_mo (Or.inl (by decide)) (by decide) (by decide) (Or.inl (by decide))
  · exact MO.rf
theorem rep_2 : (pRep w e).2 = e.2 := by
  unfold pRep
  split <;> rfl
/-- whether worker w has kept run r -/
def pKept (r w : Int) (e : ES) : Int := if e.1 (7000 + r) 12 = w ∧ e.1 (7000 + r) 13 = pMark e r then 1 else 0
/-- the state that complete of task k follows in, way w -/
def pCmp2 (k : Int) (e : ES) : ES := if pKept (e.1 (9000 + k) 1) (e.1 (9000 + k) 0) (eS e (9000 + k) 5 1) = 0 then pRep (e.1 (9000 + k) 0) (eS e (9000 + k) 5 1) else eS e (9000 + k) 5 1
def pCmpW (k : Int) (e : ES) : Int := if pKept (e.1 (9000 + k) 1) (e.1 (9000 + k) 0) (eS e (9000 + k) 5 1) = 0 then 0 else 2
def pCmpV (k : Int) (e : ES) : Int := e.1 (7000 + e.1 (9000 + k) 1) 3
def pCmpS (k : Int) (e : ES) : TS := pFS (pCmp2 k e) (e.1 (9000 + k) 1) (pCmpV k e) (pCmpW k e) (e.1 (9000 + k) 3)
def pCmpB (k : Int) (e : ES) : Int := pFB (pCmp2 k e) (e.1 (9000 + k) 1) (pCmpV k e) (pCmpW k e) (e.1 (9000 + k) 3)
def pCmpX (k : Int) (e : ES) : CX := pX3 (pCmp2 k e) (e.1 (9000 + k) 1) (pCmpV k e) (pCmpW k e)
def pcComplete (p1 : Int) (e : ES) : (Int ⊕ Nat) × ES :=
  if 0 ≤ p1 ∧ p1 < e.1 9 2 then
    if e.1 (9000 + p1) 5 = 0 ∧ e.1 (7000 + e.1 (9000 + p1) 1) 6 = 0 ∧ pMark e (e.1 (9000 + p1) 1) = e.1 (9000 + p1) 4 then
      pcComp2 (e.1 (9000 + p1) 1) p1 (pKept (e.1 (9000 + p1) 1) (e.1 (9000 + p1) 0) (eS e (9000 + p1) 5 1)) (pCmpX p1 e) (pCmpS p1 e) (pCmpB p1 e) (eM (pCmp2 p1 e) (-1) (pCmpS p1 e) (pCmpB p1 e))
    else (.inl (-1), eS e (9000 + p1) 5 1)
  else rT 0 e
/-- what a complete has to find -/
def CmpP (k : Int) (e : ES) : Prop := FolP (pCmp2 k e) (e.1 (9000 + k) 1) (pCmpV k e) (pCmpW k e) (e.1 (9000 + k) 3) ∧ (sg (sBeh (pCmpX k e) (pCmpS k e)) 0 30 = 0 → NwB (sn (pCmpS k e)) ∧ NwC (sn (pCmpS k e)) ∧ (sn (pCmpS k e)).length < 1000000 ∧ hN e (e.1 (9000 + k) 1) + (sn (pCmpS k e)).length ≤ 524288 ∧ MkB (pPN2 (e.1 (9000 + k) 1) k (pKept (e.1 (9000 + k) 1) (e.1 (9000 + k) 0) (eS e (9000 + k) 5 1)) (eM (eM (pCmp2 k e) (-1) (pCmpS k e) (pCmpB k e)) (-1) (sBeh (pCmpX k e) (pCmpS k e)) (pCmpB k e))) (e.1 (9000 + k) 1)) ∧ 0 ≤ sg (pCmpS k e) 0 11 ∧ 0 ≤ e.1 4 11 ∧ e.1 4 11 + (sn (pCmpS k e)).length < 2147483647
/-- room for timers in what a complete carries out -/
def CmpT (k : Int) (e : ES) : Prop := sg (sBeh (pCmpX k e) (pCmpS k e)) 0 30 = 0 → CarT (e.1 (9000 + k) 1) (sn (pCmpS k e)).length (hN e (e.1 (9000 + k) 1)) (pPN (e.1 (9000 + k) 1) k (pKept (e.1 (9000 + k) 1) (e.1 (9000 + k) 0) (eS e (9000 + k) 5 1)) (eM (eM (pCmp2 k e) (-1) (pCmpS k e) (pCmpB k e)) (-1) (sBeh (pCmpX k e) (pCmpS k e)) (pCmpB k e)))
theorem cmp2_a {u : Int} (h : a ≠ 11) (h2 : a ≠ 9000 + k ∨ u ≠ 5) : (pCmp2 k e).1 a u = e.1 a u := by
  have h3 : (eS e (9000 + k) 5 1).1 a u = e.1 a u := by
    by_cases c : a = 9000 + k
    · subst c
      exact eS_j (by omega)
    · exact eS_a c
  unfold pCmp2
  split
  · rw [rep_a h, h3]
  · exact h3
theorem cmp2_2 : (pCmp2 k e).2 = e.2 := by
  unfold pCmp2
  split
  · rw [rep_2]; rfl
  · rfl
/-- the state that a complete's following comes to keeps its bounds -/
theorem sw_cmp (C : CE m ow ad e) (hw : WX e) (k0 : 0 ≤ k) (k1 : k < e.1 9 2) (P1 : FolP (pCmp2 k e) (e.1 (9000 + k) 1) (pCmpV k e) (pCmpW k e) (e.1 (9000 + k) 3)) : SW (pCmpX k e) (pCmpS k e) (pCmpB k e) := by
  have n9 := C.cn.2.2.1
  have n7 := C.cn.1
  obtain ⟨t1, t2, t3, ⟨t4, t5⟩, t6, t7⟩ := C.tsk k0 k1
  have hrun := hw.run t4 t5
  have C1 := C.s9 (v := 1) k0 k1 (j := 5) (by omega)
  have C2 : ∃ m2, CE m2 ow ad (pCmp2 k e) := by
    unfold pCmp2
    by_cases ck : pKept (e.1 (9000 + k) 1) (e.1 (9000 + k) 0) (eS e (9000 + k) 5 1) = 0
    · rw [if_pos ck]
      obtain ⟨m2, -, C2⟩ := C1.rep (w := e.1 (9000 + k) 0)
      exact ⟨m2, C2⟩
    · rw [if_neg ck]
      exact ⟨_, C1⟩
  obtain ⟨m2, C2⟩ := C2
  have a7 : (pCmp2 k e).1 7 2 = e.1 7 2 := cmp2_a (by decide) (by omega)
  have aT : (pCmp2 k e).1 (7000 + e.1 (9000 + k) 1) 1 = e.1 (7000 + e.1 (9000 + k) 1) 1 := cmp2_a (by omega) (by omega)
  have aN : (pCmp2 k e).1 (48 + 4 * e.1 (7000 + e.1 (9000 + k) 1) 1 + 1) 2 = e.1 (48 + 4 * e.1 (7000 + e.1 (9000 + k) 1) 1 + 1) 2 := cmp2_a (by have := hrun.1; omega) (by have := hrun.1; omega)
  have aL : ∀ c, eL (pCmp2 k e) c = eL e c := fun c => by unfold eL; rw [cmp2_2]
  have v0 : 0 ≤ pCmpV k e := hrun.2.2.1.1
  have v1 : pCmpV k e < (pCmp2 k e).1 (48 + 4 * (pCmp2 k e).1 (7000 + e.1 (9000 + k) 1) 1 + 1) 2 := by rw [aT, aN]; exact hrun.2.2.1.2
  have hcod : WCod (eL (pCmp2 k e) (1000 * (48 + 4 * (pCmp2 k e).1 (7000 + e.1 (9000 + k) 1) 1) + pCmpV k e)) := by
    rw [aL, aT]
    exact (hw.glo.2.2.2.2.2.2.1 _ (isT_4 hrun.1.1 hrun.1.2)).2 _ v0 (by have := hrun.2.2.1.2; exact Int.le_of_lt this)
  obtain ⟨m3, -, -, -, g4, -, -⟩ := C2.fol2 (w := pCmpW k e) t4 (by rw [a7]; exact t5) (by rw [aT]; exact hrun.1.1) (by rw [aT]; exact hrun.1.2) v0 v1 hcod P1
  exact g4
theorem c_complete (C : CE m ow ad e) (hw : WX e) (hl : BDl e) (hf : BDf (pcComplete p1 e).2) (hTO : TyO e) (hm : 0 ≤ p1 → p1 < e.1 9 2 → TmO e (e.1 (9000 + p1) 1) ∧ MkB e (e.1 (9000 + p1) 1) ∧ (e.1 (9000 + p1) 5 = 0 → e.1 (7000 + e.1 (9000 + p1) 1) 6 = 0 → pMark e (e.1 (9000 + p1) 1) = e.1 (9000 + p1) 4 → CmpP p1 e ∧ CmpT p1 e)) : OKc e ad (fm_X11_complete p1 m) (pcComplete p1 e) := by
  unfold fm_X11_complete
  by_cases c0 : 0 ≤ p1 ∧ p1 < e.1 9 2
  · obtain ⟨k0, k1⟩ := c0
    obtain ⟨hm, hb, hP⟩ := hm k0 k1
    have n9 := C.cn.2.2.1
    have n7 := C.cn.1
    obtain ⟨t1, t2, t3, ⟨t4, t5⟩, t6, t7⟩ := C.tsk k0 k1
    have hrun := hw.run t4 t5
    have htsk := hw.tsk k0 k1
    rw [if_neg (by omega), bp_t (C.size (c := 9) (by decide) (by decide)), if_pos k1, bp_t (C.get (c := 9) (by decide) (by decide) k0 k1), gd_t t1, lx_p, t6, bp_t (stale_e C k0 k1 hb), up_t]
    have C1 := C.s9 (v := 1) k0 k1 (j := 5) (by omega)
    unfold pcComplete at hf ⊢
    have hk : 0 ≤ p1 ∧ p1 < e.1 9 2 := ⟨k0, k1⟩
    rw [if_pos hk] at hf ⊢
    by_cases cs : e.1 (9000 + p1) 5 = 0 ∧ e.1 (7000 + e.1 (9000 + p1) 1) 6 = 0 ∧ pMark e (e.1 (9000 + p1) 1) = e.1 (9000 + p1) 4
    · rw [if_pos cs] at hf ⊢
      rw [if_pos cs, if_pos rfl]
      obtain ⟨⟨P1, P6, P7, P8, P9⟩, PT⟩ := hP cs.1 cs.2.1 cs.2.2
      have d7 : e.1 (9000 + p1) 1 < (eS e (9000 + p1) 5 1).1 7 2 := by rw [eS_a (by omega)]; exact t5
      have d9 : p1 < (eS e (9000 + p1) 5 1).1 9 2 := by rw [eS_a (by omega)]; exact k1
      have hb1 : MkB (eS e (9000 + p1) 5 1) (e.1 (9000 + p1) 1) := by
        unfold MkB hT hN
        rw [eS_a (by omega), eS_a (by omega), eS_a (by omega)]
        exact hb
      have w0 : mset m (ad 9 p1) 5 1 (ad 9 p1) 0 = e.1 (9000 + p1) 0 := by rw [ms_j (by decide)]; exact t7 0 (by omega)
      have kp := kept_e C1 (w := e.1 (9000 + p1) 0) t4 d7 hb1
      have kp2 : fm_X6_isKeptBy (ad 7 (e.1 (9000 + p1) 1)) (e.1 (9000 + p1) 0) (mset m (ad 9 p1) 5 1) = some (pKept (e.1 (9000 + p1) 1) (e.1 (9000 + p1) 0) (eS e (9000 + p1) 5 1)) := kp
      rw [lx_p, w0, gd_t (C1.rk t4 d7), bp_t kp2]
      -- behind the count
      have key : ∀ (m2 : MM) (kk : Int), (kk = 0 ∨ kk = 1) → kk = pKept (e.1 (9000 + p1) 1) (e.1 (9000 + p1) 0) (eS e (9000 + p1) 5 1) → CE m2 ow ad (pCmp2 p1 e) → OKc e ad (fj_X11_complete_85 (ad 9 p1) (ad 7 (e.1 (9000 + p1) 1)) kk m2) (pcComp2 (e.1 (9000 + p1) 1) p1 kk (pCmpX p1 e) (pCmpS p1 e) (pCmpB p1 e) (eM (pCmp2 p1 e) (-1) (pCmpS p1 e) (pCmpB p1 e))) := fun m2 kk hk01 hkk C2 => by
        have a7 : (pCmp2 p1 e).1 7 2 = e.1 7 2 := cmp2_a (by decide) (by omega)
        have a9 : (pCmp2 p1 e).1 9 2 = e.1 9 2 := cmp2_a (by decide) (by omega)
        have aT : (pCmp2 p1 e).1 (7000 + e.1 (9000 + p1) 1) 1 = e.1 (7000 + e.1 (9000 + p1) 1) 1 := cmp2_a (by omega) (by omega)
        have aV : (pCmp2 p1 e).1 (7000 + e.1 (9000 + p1) 1) 3 = pCmpV p1 e := cmp2_a (by omega) (by omega)
        have aN : (pCmp2 p1 e).1 (48 + 4 * e.1 (7000 + e.1 (9000 + p1) 1) 1 + 1) 2 = e.1 (48 + 4 * e.1 (7000 + e.1 (9000 + p1) 1) 1 + 1) 2 := cmp2_a (by have := hrun.1; omega) (by have := hrun.1; omega)
        have aL : ∀ c, eL (pCmp2 p1 e) c = eL e c := fun c => by unfold eL; rw [cmp2_2]
        have hwy : (if kk = 0 then fj_X11_complete_95 (ad 9 p1) (ad 7 (e.1 (9000 + p1) 1)) kk 0 m2 else fj_X11_complete_95 (ad 9 p1) (ad 7 (e.1 (9000 + p1) 1)) kk 2 m2) = fj_X11_complete_95 (ad 9 p1) (ad 7 (e.1 (9000 + p1) 1)) kk (pCmpW p1 e) m2 := by
          unfold pCmpW
          rw [← hkk]
          split <;> rfl
        unfold fj_X11_complete_85
        rw [hwy]
        unfold fj_X11_complete_95
        have r1 : e.1 (9000 + p1) 1 < (pCmp2 p1 e).1 7 2 := by rw [a7]; exact t5
        have r9 : p1 < (pCmp2 p1 e).1 9 2 := by rw [a9]; exact k1
        have u0 : 0 ≤ (pCmp2 p1 e).1 (7000 + e.1 (9000 + p1) 1) 1 := by rw [aT]; exact hrun.1.1
        have u1 : (pCmp2 p1 e).1 (7000 + e.1 (9000 + p1) 1) 1 < 4 := by rw [aT]; exact hrun.1.2
        have v0 : 0 ≤ pCmpV p1 e := hrun.2.2.1.1
        have v1 : pCmpV p1 e < (pCmp2 p1 e).1 (48 + 4 * (pCmp2 p1 e).1 (7000 + e.1 (9000 + p1) 1) 1 + 1) 2 := by rw [aT, aN]; exact hrun.2.2.1.2
        have hcod : WCod (eL (pCmp2 p1 e) (1000 * (48 + 4 * (pCmp2 p1 e).1 (7000 + e.1 (9000 + p1) 1) 1) + pCmpV p1 e)) := by
          rw [aL, aT]
          exact (hw.glo.2.2.2.2.2.2.1 _ (isT_4 hrun.1.1 hrun.1.2)).2 _ v0 (by have := hrun.2.2.1.2; exact Int.le_of_lt this)
        obtain ⟨t1', -, -, -, -, t7'⟩ := C2.tsk k0 r9
        have e3 : m2 (ad 9 p1) 3 = e.1 (9000 + p1) 3 := by rw [t7' 3 (by omega)]; exact cmp2_a (by omega) (by omega)
        obtain ⟨m3, g1, ⟨ow3, C3⟩, g3, g4, g5, g6⟩ := C2.fol2 (w := pCmpW p1 e) t4 r1 u0 u1 v0 v1 hcod P1
        rw [gd_t (C2.rk t4 r1), lx_p, C2.rf t4 r1 (by decide) (by decide), aV, bp_t (C2.code t4 r1 u0 u1 v0 v1).1, gd_t t1', lx_p, e3, bd_t g1]
        have C3' : CE m3 ow3 ad (eM (pCmp2 p1 e) (-1) (pCmpS p1 e) (pCmpB p1 e)) := C3
        have bA : ∀ a u : Int, a ≠ 11 → a ≠ 16 → (a ≠ 9000 + p1 ∨ u ≠ 5) → (eM (pCmp2 p1 e) (-1) (pCmpS p1 e) (pCmpB p1 e)).1 a u = e.1 a u := fun a u h1 h2 h3 => by rw [eM_a h2, cmp2_a h1 h3]
        have hNe : ∀ i, 0 ≤ i → i < 1000 → hN (eM (pCmp2 p1 e) (-1) (pCmpS p1 e) (pCmpB p1 e)) i = hN e i := fun i i0 i1 => by
          unfold hN
          rw [bA _ _ (by omega) (by omega) (by omega)]
        have hmo : MO e (eM (pCmp2 p1 e) (-1) (pCmpS p1 e) (pCmpB p1 e)) := by
          refine (?_ : MO e (pCmp2 p1 e)).tr eM_mo
          have h5 : MO e (eS e (9000 + p1) 5 1) := set_mo (Or.inl (by omega)) (by omega) (by omega) (Or.inl (by omega))
          unfold pCmp2
          split
          · exact h5.tr rep_mo
          · exact h5
        have hTy : TyO (eM (pCmp2 p1 e) (-1) (pCmpS p1 e) (pCmpB p1 e)) := fun i i0 i1 => by
          rw [bA _ _ (by decide) (by decide) (by omega)] at i1
          rw [bA _ _ (by omega) (by omega) (by omega), bA _ _ (by omega) (by omega) (by omega)]
          exact hTO i i0 i1
        have hTm : TmO (eM (pCmp2 p1 e) (-1) (pCmpS p1 e) (pCmpB p1 e)) (e.1 (9000 + p1) 1) := by
          have hh : ∀ c, eL (eM (pCmp2 p1 e) (-1) (pCmpS p1 e) (pCmpB p1 e)) c = eL e c := aL
          unfold TmO
          rw [hh, hh]
          exact hm
        have e93 : (eM (pCmp2 p1 e) (-1) (pCmpS p1 e) (pCmpB p1 e)).1 (9000 + p1) 3 = e.1 (9000 + p1) 3 := bA _ _ (by omega) (by omega) (by omega)
        have hlim := P1.2.1.1
        have sw := g4
        have R := comp2_e (p := kk) (x := pCmpX p1 e) (S := pCmpS p1 e) (B := pCmpB p1 e) C3' t4 (by rw [bA _ _ (by decide) (by decide) (by omega)]; exact t5) (by rw [bA _ _ (by omega) (by omega) (by omega)]; exact cs.2.1) k0 (by rw [bA _ _ (by decide) (by decide) (by omega)]; exact k1) (hmo.2 hl) (by rw [hkk]; exact hf) hTy hTm g3 g5 g6 ⟨rfl, rfl, by show mset (pCmp2 p1 e).1 16 7 (-1) 16 7 = -1; exact ms_e⟩ sw.1.1 sw.2.2.2.2.2.2.2.2.1 (fun hb => by rw [hkk, hNe _ t4 (by omega)]; exact P6 hb) (fun hb => by rw [hkk, hNe _ t4 (by omega)]; exact PT hb) (by rw [e93]; omega) sw.2.2.2.2.1 P7 (by rw [bA _ _ (by decide) (by decide) (by omega)]; exact P8) (by rw [bA _ _ (by decide) (by decide) (by omega)]; exact P9)
        obtain ⟨m4, ad4, q1, q2, q3⟩ := R
        refine ⟨m4, ad4, ?_, q2, fun c' i' hv => q3 c' i' (hv.mono ?_ ?_ ?_ ?_ fun t ht => ?_)⟩
        · rw [← q1]
          have hpf : pFS (pCmp2 p1 e) (e.1 (9000 + p1) 1) (pCmpV p1 e) (pCmpW p1 e) (e.1 (9000 + p1) 3) = pCmpS p1 e := rfl
          rw [hpf]
          by_cases c : sg (pCmpS p1 e) 0 30 = 0
          · rw [if_pos c, if_pos c, if_neg (by decide)]
          · rw [if_neg c, if_neg c, if_pos rfl]
        · rw [bA _ _ (by decide) (by decide) (by omega)]; omega
        · rw [bA _ _ (by decide) (by decide) (by omega)]; omega
        · rw [bA _ _ (by decide) (by decide) (by omega)]; omega
        · rw [bA _ _ (by decide) (by decide) (by omega)]; omega
        · have := isT_b ht
          rw [bA _ _ (by omega) (by omega) (by omega)]; omega
      by_cases ck : pKept (e.1 (9000 + p1) 1) (e.1 (9000 + p1) 0) (eS e (9000 + p1) 5 1) = 0
      · obtain ⟨m2, g1, C2⟩ := C1.rep (w := e.1 (9000 + p1) 0)
        rw [if_pos ck, bd_t g1]
        refine key m2 _ (Or.inl ck) rfl ?_
        unfold pCmp2
        rw [if_pos ck]
        exact C2
      · rw [if_neg ck]
        refine key _ _ ?_ rfl ?_
        · unfold pKept
          split <;> omega
        · unfold pCmp2
          rw [if_neg ck]
          exact C1
    · rw [if_neg cs] at hf ⊢
      rw [if_neg cs, if_neg (by decide)]
      exact OKc.rt ⟨ow, C1⟩ rfl
  · unfold pcComplete
    rw [if_neg c0]
    by_cases c1 : p1 < 0
    · rw [if_pos c1]
      exact OKc.thr C
    · rw [if_neg c1, bp_t (C.size (c := 9) (by decide) (by decide)), if_neg (by omega)]
      exact OKc.thr C
end FO2
