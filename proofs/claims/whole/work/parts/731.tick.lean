/-! THE ENGINE: move; a tick begins; timers fire. -/
section TCK
variable {m m' M2 m0 : MM} {ow ow' : Int → Int} {ad ad' ad1 : Int → Int → Int} {e e' e1 e2 : ES} {D : Int → Prop} {a b c i j k o r v w h N B t y z q lim c2 c3 p p1 p2 p3 : Int} {n : Nat} {x : CX} {l : List Int} {E : Int → Ev} {s S : TS} {f : Int → Int}
theorem CE.chkVer (C : CE m ow ad e) (ht : isT t) : fm_X11_checkVersion t p m = some (if 0 ≤ p ∧ p < e.1 (t + 1) 2 then (.inl 0, m) else (.inr 0, mthr m)) := by
  unfold fm_X11_checkVersion
  by_cases c : p < 0
  · rw [if_pos c, if_neg (by omega)]
  · rw [if_neg c, gd_t (C.tk ht), lx_p, ty0 C.fix ht, gd_t (C.vk ht), bp_t (C.ver ht).size]
    by_cases c2 : p < e.1 (t + 1) 2
    · rw [if_pos c2, if_pos (by omega)]
    · rw [if_neg c2, if_neg (by omega)]
def pMv2 (p1 p2 : Int) (e : ES) : ES := eS (eS e (7000 + p1) 3 p2) (7000 + p1) 6 0
def pcMove (p1 p2 : Int) (e : ES) : (Int ⊕ Nat) × ES :=
  if 0 ≤ p1 ∧ p1 < e.1 7 2 then
    if 0 ≤ p2 ∧ p2 < e.1 (48 + 4 * e.1 (7000 + p1) 1 + 1) 2 then
      if e.1 (7000 + p1) 6 = 0 ∨ e.1 (7000 + p1) 6 = 6 then (.inl (if sg (qS (pMv2 p1 p2 e) p1 p2 0) 0 30 = 0 then 1 else 0), qM (pMv2 p1 p2 e) p1 p2 0)
      else rT 2 e
    else rT 0 e
  else rT 0 e
theorem mv2_a {u : Int} (h : a ≠ 7000 + p1 ∨ (u ≠ 3 ∧ u ≠ 6)) : (pMv2 p1 p2 e).1 a u = e.1 a u := by
  unfold pMv2
  by_cases c : a = 7000 + p1
  · subst c
    rw [eS_j (by omega), eS_j (by omega)]
  · rw [eS_a c, eS_a c]
theorem c_move (C : CE m ow ad e) (hW : WX e) (F : 0 ≤ p1 → p1 < e.1 7 2 → FOK (pMv2 p1 p2 e) p1 p2 0 0 0 (hC e p1)) : OKc e ad (fm_X11_move p1 p2 m) (pcMove p1 p2 e) := by
  unfold fm_X11_move pcMove
  rw [C.runAt]
  by_cases c1 : 0 ≤ p1 ∧ p1 < e.1 7 2
  · obtain ⟨w1, w2, w3, -⟩ := hW.run c1.1 c1.2
    have ht := isT_4 w1.1 w1.2
    have F := F c1.1 c1.2
    have n7 := C.cn.1
    have e1 : m (ad 7 p1) 1 = e.1 (7000 + p1) 1 := C.rf c1.1 c1.2 (by decide) (by decide)
    rw [if_pos c1, if_pos c1, bx_l rfl, gd_t (C.rk c1.1 c1.2), lx_p, e1, typeAt_e C.fix, if_pos w1, bx_l rfl, C.chkVer ht]
    by_cases c2 : 0 ≤ p2 ∧ p2 < e.1 (48 + 4 * e.1 (7000 + p1) 1 + 1) 2
    · rw [if_pos c2, if_pos c2, bx_l rfl, bp_t (alive_e C c1.1 c1.2)]
      by_cases c3 : e.1 (7000 + p1) 6 = 0 ∨ e.1 (7000 + p1) 6 = 6
      · rw [if_pos c3, if_pos c3, if_neg (by decide), up_t, up_t]
        have nd : ¬ Dead e p1 := fun hh => by
          unfold Dead at hh
          omega
        have C1 := C.s7 (v := p2) c1.1 c1.2 (j := 3) (by decide) (by decide) (fun h => by omega)
        have d7 : p1 < (eS e (7000 + p1) 3 p2).1 7 2 := by rw [eS_a (by omega)]; exact c1.2
        have C2 := C1.s7 (v := 0) c1.1 d7 (j := 6) (by decide) (by decide) (fun _ hh => absurd ((Dead.set (Or.inr (by decide))).mp hh) nd)
        have C2' : CE _ ow ad (pMv2 p1 p2 e) := C2
        have g7 : p1 < (pMv2 p1 p2 e).1 7 2 := by rw [mv2_a (by omega)]; exact c1.2
        have gT : (pMv2 p1 p2 e).1 (7000 + p1) 1 = e.1 (7000 + p1) 1 := mv2_a (by omega)
        have gV : (pMv2 p1 p2 e).1 (48 + 4 * e.1 (7000 + p1) 1 + 1) 2 = e.1 (48 + 4 * e.1 (7000 + p1) 1 + 1) 2 := mv2_a (by omega)
        have gC : hC (pMv2 p1 p2 e) p1 = hC e p1 := by
          unfold hC hN
          rw [mv2_a (by omega)]
          rfl
        have u0 : 0 ≤ (pMv2 p1 p2 e).1 (7000 + p1) 1 := by rw [gT]; exact w1.1
        have u1 : (pMv2 p1 p2 e).1 (7000 + p1) 1 < 4 := by rw [gT]; exact w1.2
        have v1 : p2 < (pMv2 p1 p2 e).1 (48 + 4 * (pMv2 p1 p2 e).1 (7000 + p1) 1 + 1) 2 := by rw [gT, gV]; exact c2.2
        have hcod : WCod (eL (pMv2 p1 p2 e) (1000 * (48 + 4 * (pMv2 p1 p2 e).1 (7000 + p1) 1) + p2)) := by
          rw [gT]
          exact (hW.glo.2.2.2.2.2.2.1 _ ht).2 p2 c2.1 (Int.le_of_lt c2.2)
        rw [← gC] at F
        obtain ⟨m3, q1, q2, q3, -⟩ := C2'.fol (w := 0) (c2 := 0) (c3 := 0) c1.1 g7 u0 u1 c2.1 v1 hcod F.1 (if_neg (by decide)).symm (fun h => absurd h (by decide)) (fun h => absurd h.1 (by decide)) F.2.1.1 F.2.1.2 F.2.2.2 F.2.2.1
        obtain ⟨k1, k2, k3, k4⟩ := C2'.rd16 c1.1 g7
        rw [bp_t (C2'.code c1.1 g7 u0 u1 c2.1 v1).1, lx_p, k1, gd_t k2, lx_p, k3, bd_t q1, gd_t (by split <;> omega)]
        exact OKc.rt q2 rfl
      · rw [if_neg c3, if_neg c3, if_pos rfl]; exact OKc.thr C
    · rw [if_neg c2, if_neg c2, bx_r rfl]; exact OKc.thr C
  · rw [if_neg c1, if_neg c1, bx_r rfl]; exact OKc.thr C
/-- a tick begins -/
def pBT (e : ES) : ES := eS (eS (eS (eS e 4 14 (e.1 4 14 + 1)) 13 0 0) 13 1 0) 13 2 0
theorem bt_a {u : Int} (h : a ≠ 4 ∨ u ≠ 14) (h2 : a ≠ 13) : (pBT e).1 a u = e.1 a u := by
  unfold pBT
  rw [eS_a h2, eS_a h2, eS_a h2]
  by_cases c : a = 4
  · subst c
    exact eS_j (by omega)
  · exact eS_a c
theorem bt_t : (pBT e).1 4 14 = e.1 4 14 + 1 := by
  unfold pBT
  rw [eS_a (by decide), eS_a (by decide), eS_a (by decide)]
  exact eS_e
theorem bt_l (hl : BDl e) (h : e.1 4 14 + 1 < 1000000) : BDl (pBT e) := by
  obtain ⟨g1, g2, g3, g4, g5, g6, g7⟩ := hl
  refine ⟨by rw [bt_t]; omega, by rw [bt_a (by omega) (by omega)]; exact g2, by rw [bt_a (by omega) (by omega)]; exact g3, by rw [bt_a (by omega) (by omega)]; exact g4, fun i i0 i1 => ?_, by rw [bt_a (by omega) (by omega)]; exact g6, fun c i hc i0 i1 => ?_⟩
  · rw [bt_a (by omega) (by omega)] at i1
    unfold hN
    rw [bt_a (by omega) (by omega), bt_a (by omega) (by omega)]
    exact g5 i i0 i1
  · rw [bt_a (by omega) (by omega)] at i1
    rw [bt_a (by omega) (by omega)]
    exact g7 c i hc i0 i1
theorem CE.tick (C : CE m ow ad e) (hl : BDl e) (h : e.1 4 14 + 1 < 1000000) : ∃ m', fm_X11_beginTick m = some (0, m') ∧ CE m' ow ad (pBT e) := by
  have g1 := hl.1
  have C1 : CE (mset m 4 14 (e.1 4 14 + 1)) ow ad (eS e 4 14 (e.1 4 14 + 1)) := C.sG (Or.inl ⟨rfl, by decide, by decide⟩)
  have C2 := C1.sG (o := 13) (j := 0) (v := 0) (Or.inr (Or.inl ⟨by decide, by decide, by decide, by decide⟩))
  have C3 := C2.sG (o := 13) (j := 1) (v := 0) (Or.inr (Or.inl ⟨by decide, by decide, by decide, by decide⟩))
  have C4 := C3.sG (o := 13) (j := 2) (v := 0) (Or.inr (Or.inl ⟨by decide, by decide, by decide, by decide⟩))
  refine ⟨_, ?_, C4⟩
  have key : ∀ (f : Nat) (m : MM), 4 ≤ f → fl_X11_beginTick_12 f 0 m = some (0, mset (mset (mset m 13 0 0) 13 1 0) 13 2 0) := fun f m hf => by
    obtain ⟨f, rfl⟩ : ∃ g, f = g + 1 + 1 + 1 + 1 := ⟨f - 4, by omega⟩
    unfold fl_X11_beginTick_12
    rw [if_pos (by decide), gd_t (by decide), up_t, lx_p, show w32 (0 + 1) = 1 from w32_id (by decide) (by decide)]
    unfold fl_X11_beginTick_12
    rw [if_pos (by decide), gd_t (by decide), up_t, lx_p, show w32 (1 + 1) = 2 from w32_id (by decide) (by decide)]
    unfold fl_X11_beginTick_12
    rw [if_pos (by decide), gd_t (by decide), up_t, lx_p, show w32 (2 + 1) = 3 from w32_id (by decide) (by decide)]
    unfold fl_X11_beginTick_12
    rw [if_neg (by decide)]
  have e14 : m 4 14 = e.1 4 14 := C.g4 (by decide) (by decide)
  unfold fm_X11_beginTick
  rw [lx_p, e14, w32_id (by omega) (by omega), up_t]
  exact key BIG _ (Nat.le_of_lt (BIG_g (by decide)))
/-- a timer is taken away -/
def pRemT (r k : Int) (e : ES) : ES := eLs (eLs e (73000 + r) ((eL e (73000 + r)).eraseIdx k.toNat)) (74000 + r) ((eL e (74000 + r)).eraseIdx k.toNat)
theorem remT_cl : CL e (pRemT r k e) := by
  refine ⟨(row_mo (Or.inl ?_)).tr (row_mo (Or.inl ?_)), SF.of fun a u _ _ => rfl⟩
  · have := List.length_eraseIdx_le (eL e (73000 + r)) k.toNat
    omega
  · rw [eLs_a (by omega)]
    have := List.length_eraseIdx_le (eL e (74000 + r)) k.toNat
    omega
/-- the timers of a run that are due fire: n are to be looked at, from k on -/
def pFireL (r : Int) : Nat → Int → ES → ES
  | 0, _, e => e
  | n + 1, k, e => if e.1 4 14 < (eL e (74000 + r)).getD k.toNat 0 then pFireL r n (k + 1) e
    else pFireL r n k (pRemT r k (pArr r 3 ((eL e (73000 + r)).getD k.toNat 0) 0 e))
def pFire (r : Int) (e : ES) : ES := pFireL r (eL e (73000 + r)).length 0 e
theorem fireL_cl (r0 : 0 ≤ r) (r1 : r < 1000) : ∀ (n : Nat) (k : Int) (e : ES), e.1 7 2 ≤ 1000 → CL e (pFireL r n k e) := by
  intro n
  induction n with
  | zero => intro k e _; exact CL.rf
  | succ n ih =>
    intro k e h7
    unfold pFireL
    split
    · exact ih _ _ h7
    · have h1 := arr_cl (e := e) (i := r) (k := 3) (x := (eL e (73000 + r)).getD k.toNat 0) (y := 0) r0 r1 h7
      have h2 := h1.tr (remT_cl (r := r) (k := k))
      exact h2.tr (ih _ _ (by rw [h2.2.1 7 (by decide) (by decide)]; exact h7))
theorem at_row (C : CE m ow ad e) (lv : LvR e c i) (k0 : 0 ≤ k) (k1 : k < (eL e (1000 * c + i)).length) (hv : ∀ v ∈ eL e (1000 * c + i), 0 ≤ v ∧ v < 2147483648) : fm_X5_at (ad c i) k m = some ((eL e (1000 * c + i)).getD k.toNat 0) := by
  have hw := C.rat (n := k) lv k0
  have hg : (eL e (1000 * c + i)).getD k.toNat 0 ∈ eL e (1000 * c + i) := by
    rw [List.getD_eq_getElem?_getD, List.getElem?_eq_getElem (by omega)]
    exact List.getElem_mem _
  have hb := hv _ hg
  unfold fm_X5_at
  rw [bp_t hw]
  congr 1
  exact w32_id (by omega) (by omega)
theorem fireL_l (r0 : 0 ≤ r) (hz : z < 268435456) : ∀ (n f : Nat) (k j : Int) (m : MM) (ow : Int → Int) (e : ES), CE m ow ad e → r < e.1 7 2 → (eL e (73000 + r)).length = (eL e (74000 + r)).length → (∀ v ∈ eL e (73000 + r), 0 ≤ v ∧ v < 524288) → (∀ v ∈ eL e (74000 + r), 0 ≤ v ∧ v < 2000000000) → (Dead e r → eL e (73000 + r) = []) → 0 ≤ k → k + n = (eL e (73000 + r)).length → 0 ≤ j → k ≤ j → j + n = z → BDl e → BDf (pFireL r n k e) → n < f → ∃ m', fl_X11_fireTimers_13 (ad 7 r) z f k j m = some (0, m') ∧ CX1 m' ad (pFireL r n k e) := by
  intro n
  induction n with
  | zero =>
    intro f k j m ow e C r1 hl hv hd hD k0 k1 j0 kj j1 hb hf h2
    obtain ⟨f, rfl⟩ : ∃ g, f = g + 1 := ⟨f - 1, by omega⟩
    unfold fl_X11_fireTimers_13
    rw [if_neg (by omega)]
    exact ⟨m, rfl, ow, C⟩
  | succ n ih =>
    intro f k j m ow e C r1 hl hv hd hD k0 k1 j0 kj j1 hb hf h2
    obtain ⟨f, rfl⟩ : ∃ g, f = g + 1 := ⟨f - 1, by omega⟩
    have n7 := C.cn.1
    have l3 := C.lv7 (c := 73) (i := r) (by omega) r0 r1
    have l4 := C.lv7 (c := 74) (i := r) (by omega) r0 r1
    have a3 : fm_X5_at (ad 73 r) k m = some ((eL e (73000 + r)).getD k.toNat 0) := at_row C l3 k0 (by show k < (eL e (73000 + r)).length; omega) fun v hh => by have := hv v hh; omega
    have a4 : fm_X5_at (ad 74 r) k m = some ((eL e (74000 + r)).getD k.toNat 0) := at_row C l4 k0 (by show k < (eL e (74000 + r)).length; omega) fun v hh => by have := hd v hh; omega
    have e14 : m 4 14 = e.1 4 14 := C.g4 (by decide) (by decide)
    unfold fl_X11_fireTimers_13
    unfold pFireL at hf ⊢
    rw [if_pos (by omega), gd_t (C.rk r0 r1), lx_p, (C.run r0 r1).2.2.2.2.2.2.2.1, gd_t (C.okr l4).1, bp_t a4, lx_p, e14]
    by_cases c : e.1 4 14 < (eL e (74000 + r)).getD k.toNat 0
    · rw [if_pos c] at hf ⊢
      rw [if_pos c, lx_p, lx_p, w32_id (by omega) (by omega), w32_id (by omega) (by omega)]
      exact ih f (k + 1) (j + 1) m ow e C r1 hl hv hd hD (by omega) (by omega) (by omega) (by omega) (by omega) hb hf (by omega)
    · rw [if_neg c] at hf ⊢
      rw [if_neg c, lx_p, (C.run r0 r1).2.2.2.2.2.2.1, gd_t (C.okr l3).1, bp_t a3]
      have hk : k.toNat < (eL e (73000 + r)).length := by omega
      have hg : (eL e (73000 + r)).getD k.toNat 0 ∈ eL e (73000 + r) := by
        rw [List.getD_eq_getElem?_getD, List.getElem?_eq_getElem hk]
        exact List.getElem_mem _
      have hgb := hv _ hg
      have nd : ¬ Dead e r := fun hh => by
        rw [hD hh] at hk
        exact absurd hk (by simp)
      generalize hev : (eL e (73000 + r)).getD k.toNat 0 = ev at *
      have h1 := arr_cl (e := e) (i := r) (k := 3) (x := ev) (y := 0) r0 (by omega) (by omega)
      have h2' := remT_cl (e := pArr r 3 ev 0 e) (r := r) (k := k)
      have h12 := h1.tr h2'
      have s7 : (pRemT r k (pArr r 3 ev 0 e)).1 7 2 = e.1 7 2 := h12.2.1 7 (by decide) (by decide)
      have h3 := fireL_cl (r := r) r0 (by omega) n k (pRemT r k (pArr r 3 ev 0 e)) (by omega)
      obtain ⟨m1, g1, ow1, C1⟩ := C.arr (k := 3) (x := ev) (y := 0) r0 r1 nd (hb.bd r0 (hf.of (h2'.1.tr h3.1))) (by decide) (by decide) hgb.1 hgb.2 (by decide) (by decide)
      have d7 : r < (pArr r 3 ev 0 e).1 7 2 := by rw [h1.2.1 7 (by decide) (by decide)]; exact r1
      have lt := C1.lv7 (c := 73) (i := r) (by omega) r0 d7
      have q3 : eL (pArr r 3 ev 0 e) (73000 + r) = eL e (73000 + r) := arr_l
      have q4 : eL (pArr r 3 ev 0 e) (74000 + r) = eL e (74000 + r) := arr_l
      obtain ⟨m2, g2, ow2, C2⟩ := C1.rem (p := k.toNat) lt (by show k.toNat < (eL (pArr r 3 ev 0 e) (73000 + r)).length; rw [q3]; exact hk)
      rw [show ((k.toNat : Nat) : Int) = k by omega] at g2
      have e74 : eL (eLs (pArr r 3 ev 0 e) (1000 * 73 + r) ((eL (pArr r 3 ev 0 e) (1000 * 73 + r)).eraseIdx k.toNat)) (1000 * 74 + r) = eL (pArr r 3 ev 0 e) (1000 * 74 + r) := eLs_a (by omega)
      have lt4 := C2.lv7 (c := 74) (i := r) (by omega) r0 d7
      obtain ⟨m3, g3, ow3, C3⟩ := C2.rem (p := k.toNat) lt4 (by rw [e74]; show k.toNat < (eL (pArr r 3 ev 0 e) (74000 + r)).length; rw [q4]; omega)
      rw [show ((k.toNat : Nat) : Int) = k by omega] at g3
      rw [e74] at C3
      have C3' : CE m3 ow3 ad (pRemT r k (pArr r 3 ev 0 e)) := C3
      rw [bd_t g1, lx_p, (C1.run r0 d7).2.2.2.2.2.2.1, gd_t (C1.okr lt).1, bd_t g2, lx_p, (C2.run r0 d7).2.2.2.2.2.2.2.1, gd_t (C2.okr lt4).1, bd_t g3, lx_p, w32_id (by omega) (by omega)]
      have w3 : eL (pRemT r k (pArr r 3 ev 0 e)) (73000 + r) = (eL e (73000 + r)).eraseIdx k.toNat := by
        unfold pRemT
        rw [eLs_a (by omega), q3]
        exact eLs_e
      have w4 : eL (pRemT r k (pArr r 3 ev 0 e)) (74000 + r) = (eL e (74000 + r)).eraseIdx k.toNat := by
        unfold pRemT
        rw [q4]
        exact eLs_e
      refine ih f k (j + 1) m3 ow3 _ C3' (by rw [s7]; exact r1) ?_ ?_ ?_ (fun hh => absurd ?_ nd) k0 ?_ (by omega) (by omega) (by omega) (h12.1.2 hb) hf (by omega)
      · rw [w3, w4, List.length_eraseIdx, List.length_eraseIdx, hl]
      · rw [w3]
        exact fun v hv' => hv v (List.mem_of_mem_eraseIdx hv')
      · rw [w4]
        exact fun v hv' => hd v (List.mem_of_mem_eraseIdx hv')
      · unfold Dead at hh ⊢
        have e6 : (pRemT r k (pArr r 3 ev 0 e)).1 (7000 + r) 6 = e.1 (7000 + r) 6 := arr_a (by omega) (by omega) (by omega) (by omega) (by omega)
        rw [e6] at hh
        exact hh
      · rw [w3, List.length_eraseIdx, if_pos (by omega)]
        omega
theorem CE.fire (C : CE m ow ad e) (r0 : 0 ≤ r) (r1 : r < e.1 7 2) (hr : WRun e r) (hD : Dead e r → eL e (73000 + r) = []) (hb : BDl e) (hf : BDf (pFire r e)) (hL : (eL e (73000 + r)).length < 268435456) : ∃ m', fm_X11_fireTimers (ad 7 r) m = some (0, m') ∧ CX1 m' ad (pFire r e) := by
  obtain ⟨-, -, -, -, -, -, -, -, ⟨b1, b2, b3⟩, -⟩ := hr
  have lt := C.lv7 (c := 73) (i := r) (by omega) r0 r1
  have hs : m (ad 73 r) 2 = ((eL e (73000 + r)).length : Int) := (C.okr lt).2
  obtain ⟨m1, g1, g2⟩ := fireL_l (ad := ad) (z := ((eL e (73000 + r)).length : Int)) r0 (by omega) (eL e (73000 + r)).length BIG 0 0 m ow e C r1 b1 b2 b3 hD (by decide) (by omega) (by decide) (by decide) (by omega) hb hf (BIG_g (by omega))
  refine ⟨m1, ?_, g2⟩
  unfold fm_X11_fireTimers
  rw [gd_t (C.rk r0 r1), lx_p, (C.run r0 r1).2.2.2.2.2.2.1, gd_t (C.okr lt).1, lx_p, hs, g1]
end TCK
