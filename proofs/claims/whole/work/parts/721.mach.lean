/-! THE ENGINE: the machine's other methods; a run is followed. -/
section MCH
variable {m m' M2 m0 : MM} {ow ow' : Int → Int} {ad ad' ad1 : Int → Int → Int} {e e' e1 e2 : ES} {D : Int → Prop} {a b c i j k o r v w n h N B t x0 y z p q lim c2 c3 : Int} {x : CX} {l : List Int} {E : Int → Ev} {s : TS} {f : Int → Int}
/-- a command event that was not met is left -/
def sLeft (x : CX) (s : TS) : TS := if nc x (sg s 0 12) < x.1 0 then sStuck s (nc x (sg s 0 12)) else s
theorem left_e (hC : CR m m s B) (X : XC m x) (h12 : 0 ≤ sg s 0 12) (h30 : sg s 0 30 = 0 ∨ sg s 0 30 = 1) : ∃ m', fm_X4_isLeft m = some (sg (sLeft x s) 0 30, m') ∧ CR m' m' (sLeft x s) B ∧ PF m m' ∧ m' 16 7 = m 16 7 ∧ LD m m' := by
  obtain ⟨q1, q2, q3, q4⟩ := X.hc (FrM.rf : FrM m m)
  have e12 : m 17 12 = sg s 0 12 := hC.c17 (by decide) (by decide)
  unfold fm_X4_isLeft sLeft
  rw [lx_p, lx_p, e12, gd_t q4, bp_t (nextCmd_e q2 h12), lx_p, q2.2.1]
  by_cases c : nc x (sg s 0 12) < x.1 0
  · rw [if_pos c, if_pos c]
    obtain ⟨m1, g1, g2⟩ := stuck_e (v := nc x (sg s 0 12)) hC
    have e10 : m1 16 10 = sg (sStuck s (nc x (sg s 0 12))) 0 30 := g2.c16 (j := 10) (by decide) (by decide)
    have e30 : sg (sStuck s (nc x (sg s 0 12))) 0 30 = 1 := rfl
    refine ⟨m1, ?_, g2.re, PF.of g2, g2.2.1.2.2 7 (by decide), ?_⟩
    rotate_right
    · unfold fm_X4_getStuck at g1
      rw [up_t, up_t] at g1
      cases g1
      exact LD.tr (hC.ld (Or.inl rfl) (by decide)) ((hC.p16 (j := 10) (v := 1) (by decide) (by decide)).ld (Or.inl rfl) (by decide))
    rw [bd_t g1, lx_p, e10, e30, gd_t (Or.inr rfl)]
  · rw [if_neg c, if_neg c]
    have e10 : m 16 10 = sg s 0 30 := hC.c16 (j := 10) (by decide) (by decide)
    refine ⟨m, ?_, hC, PF.rf, rfl, LD.rf⟩
    rw [lx_p, e10, gd_t h30]
/-- from now on the state is what the last worker of a run has kept -/
def sKnow (N : Int) (s : TS) : TS := st (st s 0 12 N) 0 13 N
theorem CE.knows (C : CE m ow ad e) (i0 : 0 ≤ i) (i1 : i < e.1 7 2) : ∃ m', fm_X4_knows (ad 7 i) m = some (0, m') ∧ CX1 m' ad (eM e i (sKnow (hN e i) (eT e)) (eB e)) := by
  obtain ⟨s1, s2, -⟩ := (C.his i0 i1).sl
  have K := C.mac.1
  have h16 := (C.run i0 i1).2.2.2.2.2.1
  have ha7 : ∀ a, ow a ≠ 16 → a ≠ 16 ∧ a ≠ 17 := fun a ha => by
    have g := C.mac.2.1
    exact ⟨fun h => ha (h ▸ g 16 (Or.inl (Or.inl rfl))), fun h => ha (h ▸ g 17 (Or.inl (Or.inr (Or.inl rfl))))⟩
  have n7 := ha7 (ad 7 i) (by rw [(C.run i0 i1).2.2.1]; omega)
  have n71 := ha7 (ad 71 i) (by rw [(C.his i0 i1).1.2]; omega)
  have K1 : CR m (mset m 17 12 (hN e i)) (st (eT e) 0 12 (hN e i)) (eB e) := K.p17 (by decide) (by decide)
  have K2 : CR m (mset (mset m 17 12 (hN e i)) 17 13 (hN e i)) (sKnow (hN e i) (eT e)) (eB e) := K1.p17 (by decide) (by decide)
  have K3 := K2.re.low (j := 7) (v := ad 7 i) (by decide) (by decide)
  have P3 := (PF.of K2).tr (K2.re.pfl (j := 7) (v := ad 7 i) (by decide))
  have r1 : mset m 17 12 (hN e i) (ad 7 i) 16 = ad 71 i := by rw [ms_a n7.2]; exact h16
  have r2 : mset m 17 12 (hN e i) (ad 71 i) 1 = hN e i := by rw [ms_a n71.2]; exact s2
  have x1 : Ext m (mset m 17 12 (hN e i)) := mset_ext (by decide) (by decide)
  have ld : LD m (mset (mset (mset m 17 12 (hN e i)) 17 13 (hN e i)) 16 7 (ad 7 i)) := LD.tr (K.ld (Or.inr (Or.inl rfl)) (by decide)) (LD.tr (K1.ld (Or.inr (Or.inl rfl)) (by decide)) (K2.ld (Or.inl rfl) (by decide)))
  refine ⟨_, ?_, C.mach K3 P3 (k := i) ?_ i1 fun r hr => (ld r hr).cap (C.capM hr)⟩
  · unfold fm_X4_knows
    rw [gd_t (C.rk i0 i1), lx_p, h16, gd_t s1, lx_p, s2, up_t, lx_p, r1, gd_t (x1.ok s1), lx_p, r2, up_t, up_t]
  · rw [ms_e, if_neg (by omega)]
/-- what is fixed in a telling of a run by a version: way w; c2, c3: what a worker has seen -/
def pCX (e : ES) (i v w c2 c3 : Int) : CX := (fun j => if j = 0 then hN e i else if j = 1 then hC e i else if j = 2 then c2 else if j = 3 then c3 else if j = 4 then w else if j = 5 then ((eL e (1000 * (48 + 4 * e.1 (7000 + i) 1) + v)).length : Int) else 0, eH e i, fun l => ((eL e (1000 * (48 + 4 * e.1 (7000 + i) 1) + v)).getD l.toNat 0 / 1000000, (eL e (1000 * (48 + 4 * e.1 (7000 + i) 1) + v)).getD l.toNat 0 / 1000 % 1000, (eL e (1000 * (48 + 4 * e.1 (7000 + i) 1) + v)).getD l.toNat 0 % 1000))
theorem code_is (h : WCod l) : CodeIs l (fun q => (l.getD q.toNat 0 / 1000000, l.getD q.toNat 0 / 1000 % 1000, l.getD q.toNat 0 % 1000)) := by
  intro n v hv
  obtain ⟨c, a, b, h1, h2⟩ := h.2 v (List.mem_of_getElem? hv)
  have hg : l.getD ((n : Int)).toNat 0 = v := by
    rw [Int.toNat_natCast, List.getD_eq_getElem?_getD, hv]
    rfl
  obtain ⟨l1, l2, l3, l4, l5, l6, -⟩ := h2
  show v = 1000000 * (l.getD ((n : Int)).toNat 0 / 1000000) + 1000 * (l.getD ((n : Int)).toNat 0 / 1000 % 1000) + l.getD ((n : Int)).toNat 0 % 1000 ∧ 0 ≤ l.getD ((n : Int)).toNat 0 / 1000000 ∧ l.getD ((n : Int)).toNat 0 / 1000000 ≤ 23 ∧ 0 ≤ l.getD ((n : Int)).toNat 0 / 1000 % 1000 ∧ l.getD ((n : Int)).toNat 0 / 1000 % 1000 ≤ 100 ∧ 0 ≤ l.getD ((n : Int)).toNat 0 % 1000 ∧ l.getD ((n : Int)).toNat 0 % 1000 ≤ 999
  rw [hg, h1]
  omega
/-- the address of a code, and where it lies -/
theorem CE.code (C : CE m ow ad e) (i0 : 0 ≤ i) (i1 : i < e.1 7 2) (t0 : 0 ≤ e.1 (7000 + i) 1) (t1 : e.1 (7000 + i) 1 < 4) (v0 : 0 ≤ v) (v1 : v < e.1 (48 + 4 * e.1 (7000 + i) 1 + 1) 2) : fm_X11_codeOf (ad 7 i) v m = some (ad (48 + 4 * e.1 (7000 + i) 1) v) ∧ LvR e (48 + 4 * e.1 (7000 + i) 1) v := by
  have ht := isT_4 t0 t1
  have hc := C.cn.2.2.2.2 _ ht
  have lv : LvR e (48 + 4 * e.1 (7000 + i) 1) v := Or.inr (Or.inl ⟨ht, v0, by omega, by omega⟩)
  refine ⟨?_, lv⟩
  unfold fm_X11_codeOf
  rw [bp_t (C.tyOf i0 i1 t0 t1), gd_t (C.tk ht)]
  unfold fm_X10_code
  rw [if_neg (by omega), lx_p, ty0 C.fix ht, gd_t (C.vk ht), bp_t (C.ver ht).size, if_pos v1, bp_t ((C.ver ht).get v0 v1), gd_t (C.okr lv).1, bp_t rfl]
theorem CE.xp (C : CE m ow ad e) (i0 : 0 ≤ i) (i1 : i < e.1 7 2) (lv : LvR e (48 + 4 * e.1 (7000 + i) 1) v) (hw : WCod (eL e (1000 * (48 + 4 * e.1 (7000 + i) 1) + v))) : XP m (ad 71 i) (ad (48 + 4 * e.1 (7000 + i) 1) v) (pCX e i v w c2 c3) := by
  have H := C.his i0 i1
  obtain ⟨g1, g2, g3⟩ := C.row lv
  have mo := C.mac.2.1
  obtain ⟨⟨h1, h2⟩, h3, h4, h5, h6, h7⟩ := C.his i0 i1
  obtain ⟨lh, hrow, -⟩ := h3.1.2.2
  have n7 := C.cn.1
  refine ⟨H.hc (pCX e i v w c2 c3) rfl rfl, fun hh => ?_, fun a ha hh => ?_, H.sl.2.2.2.2, ⟨_, g1, rfl, ?_, code_is hw⟩, fun a ha hh => ?_⟩
  · have := mo _ hh
    omega
  · have g := mo a hh
    rw [h4] at ha hrow
    rcases Fp.split hrow.1 ha with k | k
    · have := h6 a k
      omega
    · obtain ⟨j, j0, j1, j2, -⟩ := h7 a k
      omega
  · have := hw.1
    show ((eL e (1000 * (48 + 4 * e.1 (7000 + i) 1) + v)).length : Int) ≤ 24
    omega
  · have k1 := g2 a ha
    have k2 := mo a hh
    have : 1000 * (48 + 4 * e.1 (7000 + i) 1) + v = 16 := by omega
    simp only [LvR, isT] at lv
    omega
/-- a run is followed, from the beginning -/
theorem CE.folB {B' : Int} (C : CE m ow ad e) (i0 : 0 ≤ i) (i1 : i < e.1 7 2) (t0 : 0 ≤ e.1 (7000 + i) 1) (t1 : e.1 (7000 + i) 1 < 4) (v0 : 0 ≤ v) (v1 : v < e.1 (48 + 4 * e.1 (7000 + i) 1 + 1) 2) (hw : WCod (eL e (1000 * (48 + 4 * e.1 (7000 + i) 1) + v))) (hx : CxW (pCX e i v w c2 c3)) (h2 : c2 = if w = 2 then e.1 (7000 + i) 14 else 0) (h3 : w = 2 → c3 = e.1 (7000 + i) 15) (hkn : ¬ (w = 2 ∧ e.1 16 7 = i)) (l0 : 0 ≤ lim) (hl : lim ≤ 260000) (hQ : ∀ j : Nat, sg (sFollow (pCX e i v w c2 c3) lim j 0 s00) 0 40 ≤ 200000 ∧ sg (sFollow (pCX e i v w c2 c3) lim j 0 s00) 0 41 ≤ 2047) (hN' : hN e i + nl (told (pCX e i v w c2 c3) lim) ≤ 524288) (hB : 30 * (3 * sg (told (pCX e i v w c2 c3) lim) 0 40 + 26 * (lim + 1)) ≤ B') : ∃ m', fm_X4_follow (ad 7 i) (ad (48 + 4 * e.1 (7000 + i) 1) v) lim w m = some (if sg (told (pCX e i v w c2 c3) lim) 0 30 = 0 then 1 else 0, m') ∧ CX1 m' ad (eM e (-1) (told (pCX e i v w c2 c3) lim) B') ∧ CR m' m' (told (pCX e i v w c2 c3) lim) B' ∧ SW (pCX e i v w c2 c3) (told (pCX e i v w c2 c3) lim) B' ∧ XC m' (pCX e i v w c2 c3) ∧ m' 16 7 = 0 := by
  obtain ⟨k1, k2, k3, k4⟩ := C.mac
  have lv := (C.code i0 i1 t0 t1 v0 v1).2
  have h16 := (C.run i0 i1).2.2.2.2.2.1
  have hk7 : m 16 7 = 0 ∨ 4 ≤ m 16 7 := by
    rw [k3]
    split
    · exact Or.inl rfl
    · have := (C.rk (i := e.1 16 7) (by omega) k4).1
      exact Or.inr this
  have hkn' : ¬ (w = 2 ∧ m 16 7 = ad 7 i) := fun hh => hkn ⟨hh.1, by
    have h9 := hh.2
    rw [k3] at h9
    split at h9
    · have := (C.rk i0 i1).1
      omega
    · exact C.rinj (by omega) k4 i0 i1 h9⟩
  have e14 : m (ad 7 i) 14 = e.1 (7000 + i) 14 := C.rf i0 i1 (by decide) (by decide)
  have e15 : m (ad 7 i) 15 = e.1 (7000 + i) 15 := C.rf i0 i1 (by decide) (by decide)
  have P := C.xp (w := w) (c2 := c2) (c3 := c3) i0 i1 lv hw
  rw [← h16] at P
  obtain ⟨m', g1, g2, g3, g4, g5, g6, g7⟩ := follow_e2 (w := w) (l := lim) k1 (C.rk i0 i1) hk7 P hx rfl (by rw [e14]; exact h2) (fun hh => by rw [e15]; exact h3 hh) hkn' l0 P.1.n.1 (by have := hw.1; show ((eL e (1000 * (48 + 4 * e.1 (7000 + i) 1) + v)).length : Int) ≤ 24; omega) (by omega) (fun j => (hQ j).1) hN'
  have hcap : ∀ r, Mrow r → Cap m' r (mcK r) := g7.fin (hQ (lim.toNat + 1)).1 (hQ (lim.toNat + 1)).2 (by
    have h0 : 0 ≤ hN e i := P.1.n.1
    have h1 : nl (told (pCX e i v w c2 c3) lim) = ((told (pCX e i v w c2 c3) lim).2.2.2.2.length : Int) := rfl
    omega) fun r hr => C.capM hr
  have g2' := g2.mono hB
  exact ⟨m', g1, C.mach g2' g4 (k := -1) (by rw [if_pos (by decide)]; exact g6) (by have := C.cn.1; omega) hcap, g2', g3.mono hB, g5, g6⟩
theorem CE.fol (C : CE m ow ad e) (i0 : 0 ≤ i) (i1 : i < e.1 7 2) (t0 : 0 ≤ e.1 (7000 + i) 1) (t1 : e.1 (7000 + i) 1 < 4) (v0 : 0 ≤ v) (v1 : v < e.1 (48 + 4 * e.1 (7000 + i) 1 + 1) 2) (hw : WCod (eL e (1000 * (48 + 4 * e.1 (7000 + i) 1) + v))) (hx : CxW (pCX e i v w c2 c3)) (h2 : c2 = if w = 2 then e.1 (7000 + i) 14 else 0) (h3 : w = 2 → c3 = e.1 (7000 + i) 15) (hkn : ¬ (w = 2 ∧ e.1 16 7 = i)) (l0 : 0 ≤ lim) (hl : lim ≤ 260000) (hQ : ∀ j : Nat, sg (sFollow (pCX e i v w c2 c3) lim j 0 s00) 0 40 ≤ 200000 ∧ sg (sFollow (pCX e i v w c2 c3) lim j 0 s00) 0 41 ≤ 2047) (hN' : hN e i + nl (told (pCX e i v w c2 c3) lim) ≤ 524288) : ∃ m', fm_X4_follow (ad 7 i) (ad (48 + 4 * e.1 (7000 + i) 1) v) lim w m = some (if sg (told (pCX e i v w c2 c3) lim) 0 30 = 0 then 1 else 0, m') ∧ CX1 m' ad (eM e (-1) (told (pCX e i v w c2 c3) lim) (30 * (3 * sg (told (pCX e i v w c2 c3) lim) 0 40 + 26 * (lim + 1)))) ∧ CR m' m' (told (pCX e i v w c2 c3) lim) (30 * (3 * sg (told (pCX e i v w c2 c3) lim) 0 40 + 26 * (lim + 1))) ∧ SW (pCX e i v w c2 c3) (told (pCX e i v w c2 c3) lim) (30 * (3 * sg (told (pCX e i v w c2 c3) lim) 0 40 + 26 * (lim + 1))) ∧ XC m' (pCX e i v w c2 c3) ∧ m' 16 7 = 0 := CE.folB C i0 i1 t0 t1 v0 v1 hw hx h2 h3 hkn l0 hl hQ hN' (Int.le_refl _)
end MCH
