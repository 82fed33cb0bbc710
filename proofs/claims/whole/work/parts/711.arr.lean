/-! THE ENGINE: an arrival; what is asked for is there; how calls are told. -/
section EN10
variable {m m' M2 : MM} {ow ow' : Int → Int} {ad ad' : Int → Int → Int} {e e' : ES} {D : Int → Prop} {a b c i j k o r v n h N B t x y z p p1 p2 p3 p4 p5 kd ln : Int} {l : List Int} {E : Int → Ev} {s : TS} {f : Int → Int}
/-- what time, the count of arrivals and the histories' lengths have to be -/
def BD (e : ES) : Prop := (0 ≤ e.1 4 14 ∧ e.1 4 14 < 1000000) ∧ (0 ≤ e.1 4 16 ∧ e.1 4 16 < 1048576) ∧ (0 ≤ e.1 3 0 ∧ e.1 3 0 < 268435456) ∧ ∀ i : Int, 0 ≤ i → i < e.1 7 2 → hN e i ≤ e.1 3 0
def pArr (i k x y : Int) (e : ES) : ES := eS (pPut i k x y (e.1 4 14) (e.1 4 16) e) 4 16 (e.1 4 16 + 1)
theorem put_a {u : Int} (h1 : a ≠ 68) (h2 : a ≠ 3) (h3 : a ≠ 76000 + i) (h4 : a ≠ 71000 + i) : (pPut i k x y t o e).1 a u = e.1 a u := by
  unfold pPut
  show (eS (eS (pOrd i k e) (76000 + i) _ _) (71000 + i) 1 _).1 a u = _
  rw [eS_a h4, eS_a h3, ord_7 h1 h2]
theorem ord_2 : (pOrd i k e).2 = e.2 := by
  unfold pOrd pOrd0
  split <;> rfl
theorem put_l : eL (pPut i k x y t o e) c = eL e c := by
  show (pOrd i k e).2.2.1 c = e.2.2.1 c
  rw [ord_2]
theorem put_T : (pPut i k x y t o e).2.2.2 = e.2.2.2 := by
  show (pOrd i k e).2.2.2 = e.2.2.2
  rw [ord_2]
theorem put_N (i0 : 0 ≤ i) : hN (pPut i k x y t o e) i = hN e i + 1 := by
  unfold hN pPut
  show (eS (eS (pOrd i k e) (76000 + i) _ _) (71000 + i) 1 _).1 (71000 + i) 1 = _
  rw [eS_e, ord_7 (by omega) (by omega)]
theorem put_Na (h : j ≠ i) (j0 : 0 ≤ j) (j1 : j < 1000) (i0 : 0 ≤ i) : hN (pPut i k x y t o e) j = hN e j := put_a (by omega) (by omega) (by omega) (by omega)
theorem arr_a {u : Int} (h1 : a ≠ 68) (h2 : a ≠ 3) (h3 : a ≠ 76000 + i) (h4 : a ≠ 71000 + i) (h5 : a ≠ 4 ∨ u ≠ 16) : (pArr i k x y e).1 a u = e.1 a u := by
  unfold pArr
  by_cases c1 : a = 4
  · subst c1
    rw [eS_j (h5.resolve_left fun h => h rfl), put_a h1 h2 h3 h4]
  · rw [eS_a c1, put_a h1 h2 h3 h4]
theorem CE.arr (C : CE m ow ad e) (i0 : 0 ≤ i) (i1 : i < e.1 7 2) (hd : ¬ Dead e i) (hb : BD e) (k0 : 0 ≤ k) (k1 : k ≤ 7) (x0 : 0 ≤ x) (x1 : x < 524288) (y0 : 0 ≤ y) (y1 : y < 1024) : ∃ m', fm_X11_arrive (ad 7 i) k x y m = some (0, m') ∧ CX1 m' ad (pArr i k x y e) := by
  obtain ⟨b1, b2, b3, b4⟩ := hb
  have hi := C.cn.1
  obtain ⟨m1, g1, ow1, C1⟩ := C.put (k := k) (x := x) (y := y) (t := e.1 4 14) (o := e.1 4 16) i0 i1 hd (by have := b4 i i0 i1; unfold hN at this; omega) k0 (by omega) x0 x1 y0 y1 b1.1 (by omega) b2.1 b2.2
  have e16 : m1 4 16 = e.1 4 16 := by rw [C1.g4 (by decide) (by decide), put_a (by decide) (by decide) (by omega) (by omega)]
  have C2 : CE (mset m1 4 16 (e.1 4 16 + 1)) ow1 ad (pArr i k x y e) := C1.sG (Or.inl ⟨rfl, by decide, by decide⟩)
  refine ⟨_, ?_, ow1, C2⟩
  unfold fm_X11_arrive
  simp only [lx_p]
  rw [gd_t (C.rk i0 i1), (C.run i0 i1).2.2.2.2.2.1, C.g4 (by decide) (by decide), C.g4 (by decide) (by decide), gd_t (C.his i0 i1).sl.1, bd_t g1, up_t, e16, w32_id (by omega) (by omega)]
/-- what is asked of a history, of it alone -/
def pX (e : ES) (i : Int) : CX := (fun j => if j = 0 then hN e i else if j = 1 then hC e i else 0, eH e i, fun _ => (0, 0, 0))
theorem CE.hx (C : CE m ow ad e) (i0 : 0 ≤ i) (i1 : i < e.1 7 2) : HC m (ad 71 i) ((pX e i).1 0) (pX e i).2.1 := (C.his i0 i1).hc (pX e i) rfl rfl
def pCan (i : Int) (e : ES) : Int × ES := if hasK (pX e i) 7 = true then (0, e) else (1, pArr i 7 0 0 e)
theorem CE.can (C : CE m ow ad e) (i0 : 0 ≤ i) (i1 : i < e.1 7 2) (hd : ¬ Dead e i) (hb : BD e) : ∃ m', fm_X11_cancelRun (ad 7 i) m = some ((pCan i e).1, m') ∧ CX1 m' ad (pCan i e).2 := by
  have hh := has_e (k := 7) (C.hx i0 i1)
  have hs := (C.his i0 i1).sl.1
  have h16 := (C.run i0 i1).2.2.2.2.2.1
  unfold fm_X11_cancelRun pCan
  by_cases c : hasK (pX e i) 7 = true
  · rw [if_pos c] at hh ⊢
    refine ⟨m, ?_, ow, C⟩
    rw [gd_t (C.rk i0 i1), lx_p, h16, gd_t hs, bp_t hh, if_neg (by decide)]
  · rw [if_neg c] at hh ⊢
    obtain ⟨m1, g1, g2⟩ := C.arr (k := 7) (x := 0) (y := 0) i0 i1 hd hb (by decide) (by decide) (by decide) (by decide) (by decide) (by decide)
    refine ⟨m1, ?_, g2⟩
    rw [gd_t (C.rk i0 i1), lx_p, h16, gd_t hs, bp_t hh, if_pos rfl, bd_t g1]
theorem CE.runAt (C : CE m ow ad e) : fm_X11_runAt p m = some (if 0 ≤ p ∧ p < e.1 7 2 then (.inl (ad 7 p), m) else (.inr 0, mthr m)) := by
  unfold fm_X11_runAt
  by_cases c : p < 0
  · rw [if_pos c, if_neg (by omega)]
  · rw [if_neg c, bp_t (C.size (by decide) (by decide))]
    by_cases c2 : p < e.1 7 2
    · rw [if_pos c2, if_pos ⟨by omega, c2⟩, bp_t (C.get (by decide) (by decide) (by omega) c2), gd_t (C.rk (by omega) c2)]
    · rw [if_neg c2, if_neg (by omega)]
theorem CE.actAt (C : CE m ow ad e) : fm_X11_activityAt p m = some (if 0 ≤ p ∧ p < e.1 8 2 then (.inl (ad 8 p), m) else (.inr 0, mthr m)) := by
  unfold fm_X11_activityAt
  by_cases c : p < 0
  · rw [if_pos c, if_neg (by omega)]
  · rw [if_neg c, bp_t (C.size (by decide) (by decide))]
    by_cases c2 : p < e.1 8 2
    · rw [if_pos c2, if_pos ⟨by omega, c2⟩, bp_t (C.get (by decide) (by decide) (by omega) c2), gd_t (C.act (by omega) c2).1]
    · rw [if_neg c2, if_neg (by omega)]
theorem CE.schAt (C : CE m ow ad e) : fm_X11_scheduleAt p m = some (if 0 ≤ p ∧ p < e.1 10 2 then (.inl (ad 10 p), m) else (.inr 0, mthr m)) := by
  unfold fm_X11_scheduleAt
  by_cases c : p < 0
  · rw [if_pos c, if_neg (by omega)]
  · rw [if_neg c, bp_t (C.size (by decide) (by decide))]
    by_cases c2 : p < e.1 10 2
    · rw [if_pos c2, if_pos ⟨by omega, c2⟩, bp_t (C.get (by decide) (by decide) (by omega) c2), gd_t (C.sch (by omega) c2).1]
    · rw [if_neg c2, if_neg (by omega)]
theorem ar5 (hF : Fix m) (h0 : 0 ≤ p) (h1 : p < 4) : m 5 p = 48 + 4 * p ∧ m 6 p = 64 + p := by
  have h5 := (hF.2 (5, 106, 4, [(0, 48), (1, 52), (2, 56), (3, 60)]) (by decide +kernel)).2.2
  have h6 := (hF.2 (6, 104, 4, [(0, 64), (1, 65), (2, 66), (3, 67)]) (by decide +kernel)).2.2
  have hp : p = 0 ∨ p = 1 ∨ p = 2 ∨ p = 3 := by omega
  rcases hp with rfl | rfl | rfl | rfl
  · exact ⟨h5 (0, 48) (by decide), h6 (0, 64) (by decide)⟩
  · exact ⟨h5 (1, 52) (by decide), h6 (1, 65) (by decide)⟩
  · exact ⟨h5 (2, 56) (by decide), h6 (2, 66) (by decide)⟩
  · exact ⟨h5 (3, 60) (by decide), h6 (3, 67) (by decide)⟩
theorem typeAt_e (hF : Fix m) : fm_X11_typeAt p m = some (if 0 ≤ p ∧ p < 4 then (.inl (48 + 4 * p), m) else (.inr 0, mthr m)) := by
  unfold fm_X11_typeAt
  by_cases c : p < 0
  · rw [if_pos c, if_neg (by omega)]
  · rw [if_neg c]
    by_cases c2 : p < 4
    · rw [if_pos c2, if_pos (show 0 ≤ p ∧ p < 4 by omega), gd_t (by omega), lx_p, (ar5 hF (by omega) c2).1]
    · rw [if_neg c2, if_neg (by omega)]
theorem kindAt_e (hF : Fix m) : fm_X11_kindAt p m = some (if 0 ≤ p ∧ p < 4 then (.inl (64 + p), m) else (.inr 0, mthr m)) := by
  unfold fm_X11_kindAt
  by_cases c : p < 0
  · rw [if_pos c, if_neg (by omega)]
  · rw [if_neg c]
    by_cases c2 : p < 4
    · rw [if_pos c2, if_pos (show 0 ≤ p ∧ p < 4 by omega), gd_t (by omega), lx_p, (ar5 hF (by omega) c2).2]
    · rw [if_neg c2, if_neg (by omega)]
theorem chkTen : fm_X11_checkTenant p m = some (if 0 ≤ p ∧ p < 3 then (.inl 0, m) else (.inr 0, mthr m)) := by
  unfold fm_X11_checkTenant
  by_cases c : p < 0
  · rw [if_pos c, if_neg (by omega)]
  · rw [if_neg c]
    by_cases c2 : p < 3
    · rw [if_pos c2, if_pos (by omega)]
    · rw [if_neg c2, if_neg (by omega)]
theorem chkWor : fm_X11_checkWorker p m = some (if 0 ≤ p ∧ p < 3 then (.inl 0, m) else (.inr 0, mthr m)) := by
  unfold fm_X11_checkWorker
  by_cases c : p < 0
  · rw [if_pos c, if_neg (by omega)]
  · rw [if_neg c]
    by_cases c2 : p < 3
    · rw [if_pos c2, if_pos (by omega)]
    · rw [if_neg c2, if_neg (by omega)]
theorem chkNam : fm_X11_checkName p m = some (if 0 ≤ p ∧ p < 4 then (.inl 0, m) else (.inr 0, mthr m)) := by
  unfold fm_X11_checkName
  by_cases c : p < 0
  · rw [if_pos c, if_neg (by omega)]
  · rw [if_neg c]
    by_cases c2 : p < 4
    · rw [if_pos c2, if_pos (by omega)]
    · rw [if_neg c2, if_neg (by omega)]
theorem chkVar : fm_X11_checkVariable p m = some (if 0 ≤ p ∧ p < 6 then (.inl 0, m) else (.inr 0, mthr m)) := by
  unfold fm_X11_checkVariable
  by_cases c : p < 0
  · rw [if_pos c, if_neg (by omega)]
  · rw [if_neg c]
    by_cases c2 : p < 6
    · rw [if_pos c2, if_pos (by omega)]
    · rw [if_neg c2, if_neg (by omega)]
theorem chkVal : fm_X11_checkValue p m = some (if 0 ≤ p ∧ p < 1000 then (.inl 0, m) else (.inr 1, mthr m)) := by
  unfold fm_X11_checkValue
  by_cases c : p < 0
  · rw [if_pos c, if_neg (by omega)]
  · rw [if_neg c]
    by_cases c2 : 999 < p
    · rw [if_pos c2, if_neg (by omega)]
    · rw [if_neg c2, if_pos (by omega)]
/-- a call, as it is told -/
def OKc (e : ES) (ad : Int → Int → Int) (f : Option ((Int ⊕ Nat) × MM)) (r : (Int ⊕ Nat) × ES) : Prop := ∃ m' ad', f = some (r.1, m') ∧ CX1 m' ad' r.2 ∧ AG e ad ad'
def rT (q : Nat) (e : ES) : (Int ⊕ Nat) × ES := (.inr q, pThr e)
theorem OKc.thr {q : Nat} (C : CE m ow ad e) : OKc e ad (some (.inr q, mthr m)) (rT q e) := by
  obtain ⟨ow', h⟩ := C.thr
  exact ⟨_, ad, rfl, ⟨ow', h⟩, AG.rf⟩
theorem OKc.rt (C : CX1 m' ad e') (hv : v = z) : OKc e ad (some (.inl v, m')) (.inl z, e') := ⟨_, ad, by rw [hv], C, AG.rf⟩
theorem alive_e (C : CE m ow ad e) (i0 : 0 ≤ i) (i1 : i < e.1 7 2) : fm_X6_isAlive (ad 7 i) m = some (if e.1 (7000 + i) 6 = 0 ∨ e.1 (7000 + i) 6 = 6 then 1 else 0) := by
  unfold fm_X6_isAlive
  rw [lx_p, C.rf i0 i1 (by decide) (by decide)]
  by_cases c : e.1 (7000 + i) 6 = 0
  · rw [if_pos c, if_pos (Or.inl c)]
  · rw [if_neg c]
    by_cases c2 : e.1 (7000 + i) 6 = 6
    · rw [if_pos c2, if_pos (Or.inr c2)]
    · rw [if_neg c2, if_neg (fun h => h.elim c c2)]
end EN10
