/-! THE ENGINE: the class's calls: activities, copy, togglePause, shift, search, bringIn. -/
section CA2
variable {m m' M2 : MM} {ow ow' : Int → Int} {ad ad' : Int → Int → Int} {e e' : ES} {D : Int → Prop} {a b c i j k o r v n h N B t x y z p p1 p2 p3 p4 p5 p6 kd ln : Int} {l : List Int} {E : Int → Ev} {s : TS} {f : Int → Int}
theorem CE.af (C : CE m ow ad e) (i0 : 0 ≤ i) (i1 : i < e.1 8 2) (j0 : 1 ≤ j) (j1 : j ≤ 10) : m (ad 8 i) j = e.1 (8000 + i) j := (C.act i0 i1).2.2.2.2.2 j j0 j1
theorem CE.arun (C : CE m ow ad e) (i0 : 0 ≤ i) (i1 : i < e.1 8 2) : m (ad 8 i) 0 = ad 7 (e.1 (8000 + i) 0) ∧ 0 ≤ e.1 (8000 + i) 0 ∧ e.1 (8000 + i) 0 < e.1 7 2 := ⟨(C.act i0 i1).2.2.2.2.1, (C.act i0 i1).2.2.2.1⟩
theorem BD.set (hb : BD e) (h4 : a ≠ 4) (h3 : a ≠ 3) (h7 : a ≠ 7) (h71 : ∀ i : Int, 0 ≤ i → i < e.1 7 2 → a ≠ 71000 + i) : BD (eS e a j v) := by
  obtain ⟨b1, b2, b3, b4⟩ := hb
  unfold BD
  rw [eS_a (Ne.symm h4), eS_a (Ne.symm h4), eS_a (Ne.symm h3), eS_a (Ne.symm h7)]
  refine ⟨b1, b2, b3, fun i i0 i1 => ?_⟩
  unfold hN
  rw [eS_a (Ne.symm (h71 i i0 i1))]
  exact b4 i i0 i1
theorem Dead.set (h : a ≠ 7000 + i ∨ j ≠ 6) : Dead (eS e a j v) i ↔ Dead e i := by
  unfold Dead
  by_cases c : a = 7000 + i
  · subst c
    rw [eS_j (Ne.symm (h.resolve_left fun hh => hh rfl))]
  · rw [eS_a (Ne.symm c)]
def pcAnswer (p1 p2 : Int) (e : ES) : (Int ⊕ Nat) × ES :=
  if 0 ≤ p1 ∧ p1 < e.1 8 2 then
    if 0 ≤ p2 ∧ p2 < 1000 then
      if e.1 (8000 + p1) 5 = 1 then (.inl 1, pArr (e.1 (8000 + p1) 0) 1 (e.1 (8000 + p1) 1) p2 (eS e (8000 + p1) 5 2)) else (.inl 0, e)
    else rT 1 e
  else rT 0 e
theorem c_answer (C : CE m ow ad e) (hW : WB e) : OKc e ad (fm_X11_answer p1 p2 m) (pcAnswer p1 p2 e) := by
  unfold fm_X11_answer pcAnswer
  rw [C.actAt]
  by_cases c1 : 0 ≤ p1 ∧ p1 < e.1 8 2
  · rw [if_pos c1, if_pos c1, bx_l rfl, chkVal]
    by_cases c3 : 0 ≤ p2 ∧ p2 < 1000
    · rw [if_pos c3, if_pos c3, bx_l rfl, gd_t (C.act c1.1 c1.2).1, lx_p, C.af c1.1 c1.2 (by decide) (by decide)]
      by_cases c4 : e.1 (8000 + p1) 5 = 1
      · rw [if_pos c4, if_pos c4, up_t]
        have C1 := C.s8 (v := 2) c1.1 c1.2 (j := 5) (by decide) (by decide)
        have d8 : p1 < (eS e (8000 + p1) 5 2).1 8 2 := by rw [eS_a (by omega)]; exact c1.2
        obtain ⟨q1, q2, q3⟩ := C1.arun c1.1 d8
        rw [eS_j (by decide)] at q1 q2 q3
        have q9 := (C.arun c1.1 c1.2).2.2
        have hw := hW.act c1.1 c1.2
        have hlv := hW.lv.1 p1 c1.1 c1.2 (by omega)
        have n7 := C.cn.1
        obtain ⟨m1, g1, g2⟩ := C1.arr (k := 1) (x := e.1 (8000 + p1) 1) (y := p2) q2 q3 (fun hh => hlv ((Dead.set (Or.inl (by omega))).mp hh)) (hW.bd.set (by omega) (by omega) (by omega) (fun i i0 i1 => by have := C.cn.2.1; omega)) (by decide) (by decide) hw.1.1 hw.1.2 c3.1 (by omega)
        rw [lx_p, q1, lx_p, C1.af c1.1 d8 (by decide) (by decide), eS_j (by decide), bd_t g1]
        exact OKc.rt g2 rfl
      · rw [if_neg c4, if_neg c4]
        exact OKc.rt ⟨ow, C⟩ rfl
    · rw [if_neg c3, if_neg c3, bx_r rfl]; exact OKc.thr C
  · rw [if_neg c1, if_neg c1, bx_r rfl]; exact OKc.thr C
/-- an attempt fails -/
def pMiss (p fin : Int) (e : ES) : ES :=
  if fin = 0 ∧ e.1 (8000 + p) 6 < e.1 (64 + e.1 (8000 + p) 2) 0 then eS (eS e (8000 + p) 5 0) (8000 + p) 7 (e.1 4 14 + e.1 (64 + e.1 (8000 + p) 2) 1)
  else pArr (e.1 (8000 + p) 0) 2 (e.1 (8000 + p) 1) 0 (eS e (8000 + p) 5 2)
theorem CE.miss (C : CE m ow ad e) (hb : BD e) (hG : WGlo e) (hA : WAct e p) (hlv : ¬ Dead e (e.1 (8000 + p) 0)) (i0 : 0 ≤ p) (i1 : p < e.1 8 2) : ∃ m', fm_X11_failAttempt (ad 8 p) v m = some (0, m') ∧ CX1 m' ad (pMiss p v e) := by
  obtain ⟨a1, a2, a3, a4, a5, a6, a7, a8, a9, a10⟩ := hA
  have n8 := C.cn.2.1
  have hk := hG.2.2.2.2.2.1 _ a2.1 a2.2
  unfold fm_X11_failAttempt pMiss
  rw [gd_t (C.act i0 i1).1, lx_p, C.af i0 i1 (by decide) (by decide), bp_t (fmod_e (by omega) (by omega) (by decide) (by decide)), Int.emod_eq_of_lt a2.1 a2.2, gd_t a2, lx_p, (ar5 C.fix a2.1 a2.2).2]
  have last : ∃ m', fj_X11_failAttempt_54 (ad 8 p) m = some (0, m') ∧ CX1 m' ad (pArr (e.1 (8000 + p) 0) 2 (e.1 (8000 + p) 1) 0 (eS e (8000 + p) 5 2)) := by
    have C1 := C.s8 (v := 2) i0 i1 (j := 5) (by decide) (by decide)
    have d8 : p < (eS e (8000 + p) 5 2).1 8 2 := by rw [eS_a (by omega)]; exact i1
    obtain ⟨q1, q2, q3⟩ := C1.arun i0 d8
    rw [eS_j (by decide)] at q1 q2 q3
    have q9 := (C.arun i0 i1).2.2
    have n7 := C.cn.1
    obtain ⟨m1, g1, g2⟩ := C1.arr (k := 2) (x := e.1 (8000 + p) 1) (y := 0) q2 q3 (fun hh => hlv ((Dead.set (Or.inl (by omega))).mp hh)) (hb.set (by omega) (by omega) (by omega) (fun i _ _ => by omega)) (by decide) (by decide) a1.1 a1.2 (by decide) (by decide)
    refine ⟨m1, ?_, g2⟩
    unfold fj_X11_failAttempt_54
    rw [gd_t (C.act i0 i1).1, up_t, lx_p, q1, lx_p, C1.af i0 d8 (by decide) (by decide), eS_j (by decide), bd_t g1]
  by_cases c1 : v = 0
  · rw [if_pos c1, lx_p, C.af i0 i1 (by decide) (by decide), gd_t (C.kk a2.1 a2.2), lx_p, C.gk (by omega) (by omega) (by decide) (by decide)]
    by_cases c2 : e.1 (8000 + p) 6 < e.1 (64 + e.1 (8000 + p) 2) 0
    · rw [if_pos c2, if_pos ⟨c1, c2⟩, up_t]
      have C1 := C.s8 (v := 0) i0 i1 (j := 5) (by decide) (by decide)
      have d8 : p < (eS e (8000 + p) 5 0).1 8 2 := by rw [eS_a (by omega)]; exact i1
      have C2 := C1.s8 (v := e.1 4 14 + e.1 (64 + e.1 (8000 + p) 2) 1) i0 d8 (j := 7) (by decide) (by decide)
      have k1 : mset m (ad 8 p) 5 0 4 14 = e.1 4 14 := by rw [C1.g4 (by decide) (by decide), eS_a (by omega)]
      have k2 : mset m (ad 8 p) 5 0 (64 + e.1 (8000 + p) 2) 1 = e.1 (64 + e.1 (8000 + p) 2) 1 := by rw [C1.gk (by omega) (by omega) (by decide) (by decide), eS_a (by omega)]
      have hb1 := hb.1
      rw [lx_p, lx_p, k1, k2, w32_id (by omega) (by omega), up_t]
      exact ⟨_, rfl, ow, C2⟩
    · rw [if_neg c2, if_neg (fun h => c2 h.2)]
      exact last
  · rw [if_neg c1, if_neg (fun h => c1 h.1)]
    exact last
def pcFail (p1 p2 : Int) (e : ES) : (Int ⊕ Nat) × ES :=
  if 0 ≤ p1 ∧ p1 < e.1 8 2 then (if e.1 (8000 + p1) 5 = 1 then (.inl 1, pMiss p1 p2 e) else (.inl 0, e)) else rT 0 e
theorem c_fail (C : CE m ow ad e) (hW : WB e) : OKc e ad (fm_X11_fail p1 p2 m) (pcFail p1 p2 e) := by
  unfold fm_X11_fail pcFail
  rw [C.actAt]
  by_cases c1 : 0 ≤ p1 ∧ p1 < e.1 8 2
  · rw [if_pos c1, if_pos c1, bx_l rfl, gd_t (C.act c1.1 c1.2).1, lx_p, C.af c1.1 c1.2 (by decide) (by decide)]
    by_cases c4 : e.1 (8000 + p1) 5 = 1
    · rw [if_pos c4, if_pos c4]
      obtain ⟨m1, g1, g2⟩ := C.miss (v := p2) hW.bd hW.glo (hW.act c1.1 c1.2) (hW.lv.1 p1 c1.1 c1.2 (by omega)) c1.1 c1.2
      rw [bd_t g1]
      exact OKc.rt g2 rfl
    · rw [if_neg c4, if_neg c4]
      exact OKc.rt ⟨ow, C⟩ rfl
  · rw [if_neg c1, if_neg c1, bx_r rfl]; exact OKc.thr C
def pcBeat (p1 p2 : Int) (e : ES) : (Int ⊕ Nat) × ES :=
  if 0 ≤ p1 ∧ p1 < e.1 8 2 then
    if 0 ≤ p2 ∧ p2 < 1000 then
      if e.1 (8000 + p1) 5 = 1 then (.inl (e.1 (8000 + p1) 10), eS (eS e (8000 + p1) 10 p2) (8000 + p1) 9 (e.1 4 14)) else (.inl (-1), e)
    else rT 1 e
  else rT 0 e
theorem c_beat (C : CE m ow ad e) : OKc e ad (fm_X11_beat p1 p2 m) (pcBeat p1 p2 e) := by
  unfold fm_X11_beat pcBeat
  rw [C.actAt]
  by_cases c1 : 0 ≤ p1 ∧ p1 < e.1 8 2
  · rw [if_pos c1, if_pos c1, bx_l rfl, chkVal]
    by_cases c3 : 0 ≤ p2 ∧ p2 < 1000
    · rw [if_pos c3, if_pos c3, bx_l rfl, gd_t (C.act c1.1 c1.2).1, lx_p, C.af c1.1 c1.2 (by decide) (by decide)]
      by_cases c4 : e.1 (8000 + p1) 5 = 1
      · rw [if_pos c4, if_pos c4]
        have C1 := C.s8 (v := p2) c1.1 c1.2 (j := 10) (by decide) (by decide)
        have d8 : p1 < (eS e (8000 + p1) 10 p2).1 8 2 := by rw [eS_a (by omega)]; exact c1.2
        have C2 := C1.s8 (v := e.1 4 14) c1.1 d8 (j := 9) (by decide) (by decide)
        have k1 : mset m (ad 8 p1) 10 p2 4 14 = e.1 4 14 := by rw [C1.g4 (by decide) (by decide), eS_a (by omega)]
        rw [lx_p, up_t, lx_p, k1, up_t]
        exact OKc.rt ⟨ow, C2⟩ (C.af c1.1 c1.2 (by decide) (by decide))
      · rw [if_neg c4, if_neg c4]
        exact OKc.rt ⟨ow, C⟩ rfl
    · rw [if_neg c3, if_neg c3, bx_r rfl]; exact OKc.thr C
  · rw [if_neg c1, if_neg c1, bx_r rfl]; exact OKc.thr C
def pcActivity (p1 : Int) (e : ES) : (Int ⊕ Nat) × ES :=
  if 0 ≤ p1 ∧ p1 < e.1 8 2 then (.inl (100 * e.1 (8000 + p1) 0 + 10 * e.1 (8000 + p1) 6 + e.1 (8000 + p1) 5), e) else rT 0 e
theorem c_activity (C : CE m ow ad e) (hW : WB e) : OKc e ad (fm_X11_activity p1 m) (pcActivity p1 e) := by
  unfold fm_X11_activity pcActivity
  rw [C.actAt]
  by_cases c1 : 0 ≤ p1 ∧ p1 < e.1 8 2
  · obtain ⟨q1, q2, q3⟩ := C.arun c1.1 c1.2
    obtain ⟨a1, a2, a3, a4, a5, a6, a7, a8, a9, a10⟩ := hW.act c1.1 c1.2
    have h7 := C.cn.1
    have hnum := (C.run q2 q3).2.2.2.2.1
    have e0 : m (ad 7 (e.1 (8000 + p1) 0)) 0 = e.1 (8000 + p1) 0 := by rw [C.rf q2 q3 (by decide) (by decide)]; exact hnum
    rw [if_pos c1, if_pos c1, bx_l rfl, gd_t (C.act c1.1 c1.2).1, lx_p, q1, gd_t (C.rk q2 q3), lx_p, e0, lx_p, C.af c1.1 c1.2 (by decide) (by decide), lx_p, C.af c1.1 c1.2 (by decide) (by decide), w32_id (z := 100 * e.1 (8000 + p1) 0) (by omega) (by omega), w32_id (z := 10 * e.1 (8000 + p1) 6) (by omega) (by omega), w32_id (z := 100 * e.1 (8000 + p1) 0 + 10 * e.1 (8000 + p1) 6) (by omega) (by omega), w32_id (by omega) (by omega)]
    exact OKc.rt ⟨ow, C⟩ rfl
  · rw [if_neg c1, if_neg c1, bx_r rfl]; exact OKc.thr C
/-- the first activity that can be taken -/
def fTk (e : ES) (k : Int) : Nat → Int → Int
  | 0, _ => -1
  | n + 1, i => if i < e.1 8 2 then (if e.1 (8000 + i) 2 = k ∧ e.1 (8000 + i) 5 = 0 ∧ e.1 (8000 + i) 7 ≤ e.1 4 14 then i else fTk e k n (i + 1)) else -1
def pcTake (p1 : Int) (e : ES) : (Int ⊕ Nat) × ES :=
  if 0 ≤ p1 ∧ p1 < 4 then
    if fTk e p1 61 0 < 0 then (.inl (-1), e)
    else (.inl (1000 * fTk e p1 61 0 + e.1 (8000 + fTk e p1 61 0) 3), eS (eS (eS (eS e (8000 + fTk e p1 61 0) 5 1) (8000 + fTk e p1 61 0) 6 (e.1 (8000 + fTk e p1 61 0) 6 + 1)) (8000 + fTk e p1 61 0) 8 (e.1 4 14)) (8000 + fTk e p1 61 0) 9 (e.1 4 14))
  else rT 0 e
theorem take_l (C : CE m ow ad e) {K : Int → Int → Option ((Int ⊕ Nat) × MM)} : ∀ (n f : Nat) (i : Int), 0 ≤ i → i ≤ e.1 8 2 → e.1 8 2 - i < n → n ≤ f → fl_X11_take_8 k m K f i = (if fTk e k n i < 0 then some (.inl (-1), m) else K (fTk e k n i) (ad 8 (fTk e k n i))) ∧ (0 ≤ fTk e k n i → fTk e k n i < e.1 8 2) := by
  intro n
  induction n with
  | zero =>
    intro f i i0 i9 h1 h2
    omega
  | succ n ih =>
    intro f i i0 i9 h1 h2
    obtain ⟨f, rfl⟩ : ∃ g, f = g + 1 := ⟨f - 1, by omega⟩
    unfold fl_X11_take_8 fTk
    rw [bp_t (C.size (by decide) (by decide))]
    have n8 := C.cn.2.1
    by_cases c1 : i < e.1 8 2
    · rw [if_pos c1, if_pos c1, bp_t (C.get (by decide) (by decide) i0 c1), gd_t (C.act i0 c1).1, lx_p, C.af i0 c1 (by decide) (by decide)]
      have hr := ih f (i + 1) (by omega) (by omega) (by omega) (by omega)
      by_cases c2 : e.1 (8000 + i) 2 = k
      · rw [if_pos c2, lx_p, C.af i0 c1 (by decide) (by decide)]
        by_cases c3 : e.1 (8000 + i) 5 = 0
        · rw [if_pos c3, lx_p, C.af i0 c1 (by decide) (by decide), lx_p, C.g4 (by decide) (by decide)]
          by_cases c4 : e.1 4 14 < e.1 (8000 + i) 7
          · rw [if_pos c4, if_neg (show ¬ (e.1 (8000 + i) 2 = k ∧ e.1 (8000 + i) 5 = 0 ∧ e.1 (8000 + i) 7 ≤ e.1 4 14) from fun h => by omega), lx_p, w32_id (by omega) (by omega)]
            exact hr
          · rw [if_neg c4, if_pos (show e.1 (8000 + i) 2 = k ∧ e.1 (8000 + i) 5 = 0 ∧ e.1 (8000 + i) 7 ≤ e.1 4 14 from ⟨c2, c3, by omega⟩), if_neg (by omega)]
            exact ⟨rfl, fun _ => c1⟩
        · rw [if_neg c3, if_neg (show ¬ (e.1 (8000 + i) 2 = k ∧ e.1 (8000 + i) 5 = 0 ∧ e.1 (8000 + i) 7 ≤ e.1 4 14) from fun h => c3 h.2.1), lx_p, w32_id (by omega) (by omega)]
          exact hr
      · rw [if_neg c2, if_neg (show ¬ (e.1 (8000 + i) 2 = k ∧ e.1 (8000 + i) 5 = 0 ∧ e.1 (8000 + i) 7 ≤ e.1 4 14) from fun h => c2 h.1), lx_p, w32_id (by omega) (by omega)]
        exact hr
    · rw [if_neg c1, if_neg c1, if_pos (by decide)]
      exact ⟨rfl, fun h => by omega⟩
theorem c_take (C : CE m ow ad e) (hW : WB e) : OKc e ad (fm_X11_take p1 m) (pcTake p1 e) := by
  unfold fm_X11_take pcTake
  rw [kindAt_e C.fix]
  by_cases c1 : 0 ≤ p1 ∧ p1 < 4
  · rw [if_pos c1, if_pos c1, bx_l rfl]
    have n8 := C.cn.2.1
    obtain ⟨t1, t2⟩ := take_l C (k := p1) (K := fun x_111 x_112 =>
lx (m 4 14) fun x_128 =>
gd (okc m x_112 1) <| bd (fm_X0_beTaken x_112 x_128 m) fun x_132 m_133 =>
lx (m_133 x_112 3) fun x_151 =>
some (.inl (w32 ((w32 (1000 * x_111)) + x_151)), m_133)) 61 BIG 0 (by decide) (by omega) (by omega) (Nat.le_of_lt (BIG_g (by decide)))
    rw [t1]
    by_cases c2 : fTk e p1 61 0 < 0
    · rw [if_pos c2, if_pos c2]
      exact OKc.rt ⟨ow, C⟩ rfl
    · rw [if_neg c2, if_neg c2]
      have i0 : 0 ≤ fTk e p1 61 0 := by omega
      have i1 := t2 i0
      generalize fTk e p1 61 0 = q at *
      obtain ⟨a1, a2, a3, a4, a5, a6, a7, a8, a9, a10⟩ := hW.act i0 i1
      have C1 := C.s8 (v := 1) i0 i1 (j := 5) (by decide) (by decide)
      have d1 : q < (eS e (8000 + q) 5 1).1 8 2 := by rw [eS_a (by omega)]; exact i1
      have C2 := C1.s8 (v := e.1 (8000 + q) 6 + 1) i0 d1 (j := 6) (by decide) (by decide)
      have d2 : q < (eS (eS e (8000 + q) 5 1) (8000 + q) 6 (e.1 (8000 + q) 6 + 1)).1 8 2 := by rw [eS_a (by omega)]; exact d1
      have C3 := C2.s8 (v := e.1 4 14) i0 d2 (j := 8) (by decide) (by decide)
      have d3 : q < (eS (eS (eS e (8000 + q) 5 1) (8000 + q) 6 (e.1 (8000 + q) 6 + 1)) (8000 + q) 8 (e.1 4 14)).1 8 2 := by rw [eS_a (by omega)]; exact d2
      have C4 := C3.s8 (v := e.1 4 14) i0 d3 (j := 9) (by decide) (by decide)
      have d4 : q < (eS (eS (eS (eS e (8000 + q) 5 1) (8000 + q) 6 (e.1 (8000 + q) 6 + 1)) (8000 + q) 8 (e.1 4 14)) (8000 + q) 9 (e.1 4 14)).1 8 2 := by rw [eS_a (by omega)]; exact d3
      have k6 : mset m (ad 8 q) 5 1 (ad 8 q) 6 = e.1 (8000 + q) 6 := by rw [ms_j (by decide)]; exact C.af i0 i1 (by decide) (by decide)
      rw [lx_p, C.g4 (by decide) (by decide), gd_t (C.act i0 i1).1]
      unfold fm_X0_beTaken
      rw [up_t, lx_p, k6, w32_id (z := e.1 (8000 + q) 6 + 1) (by omega) (by omega), up_t, up_t, up_t, bd_t rfl, lx_p, C4.af i0 d4 (by decide) (by decide), eS_j (by decide), eS_j (by decide), eS_j (by decide), eS_j (by decide), w32_id (z := 1000 * q) (by omega) (by omega), w32_id (by omega) (by omega)]
      exact OKc.rt ⟨ow, C4⟩ rfl
  · rw [if_neg c1, if_neg c1, bx_r rfl]; exact OKc.thr C
def pcCopy (p1 p2 : Int) (e : ES) : (Int ⊕ Nat) × ES :=
  if 0 ≤ p1 ∧ p1 < e.1 7 2 then
    if p2 < 1 ∨ 100 < p2 then rT 1 e
    else (.inl (if e.1 (7000 + p1) 8 + p2 < hN e p1 then e.1 (7000 + p1) 8 + p2 else hN e p1), eS e (7000 + p1) 8 (if e.1 (7000 + p1) 8 + p2 < hN e p1 then e.1 (7000 + p1) 8 + p2 else hN e p1))
  else rT 0 e
theorem c_copy (C : CE m ow ad e) (hW : WB e) : OKc e ad (fm_X11_copy p1 p2 m) (pcCopy p1 p2 e) := by
  unfold fm_X11_copy pcCopy
  rw [C.runAt]
  by_cases c1 : 0 ≤ p1 ∧ p1 < e.1 7 2
  · rw [if_pos c1, if_pos c1, bx_l rfl]
    by_cases c2 : p2 < 1
    · rw [if_pos c2, if_pos (Or.inl c2)]; exact OKc.thr C
    rw [if_neg c2]
    by_cases c3 : 100 < p2
    · rw [if_pos c3, if_pos (Or.inr c3)]; exact OKc.thr C
    rw [if_neg c3, if_neg (by omega)]
    obtain ⟨w1, w2, w3, w4, w5, w6, w7, -⟩ := hW.run c1.1 c1.2
    have hbN := hW.bd.2.2.2 p1 c1.1 c1.2
    have hb3 := hW.bd.2.2.1
    obtain ⟨s1, s2, -⟩ := (C.his c1.1 c1.2).sl
    have C1 := C.s7 (v := if e.1 (7000 + p1) 8 + p2 < hN e p1 then e.1 (7000 + p1) 8 + p2 else hN e p1) c1.1 c1.2 (j := 8) (by decide) (by decide) (fun h => by omega)
    rw [gd_t (C.rk c1.1 c1.2), lx_p, (C.run c1.1 c1.2).2.2.2.2.2.1, gd_t s1, lx_p, s2, lx_p, C.rf c1.1 c1.2 (by decide) (by decide), w32_id (by omega) (by omega), bp_t min_e, up_t, lx_p, ms_e]
    exact OKc.rt ⟨ow, C1⟩ rfl
  · rw [if_neg c1, if_neg c1, bx_r rfl]; exact OKc.thr C
theorem CE.sf (C : CE m ow ad e) (i0 : 0 ≤ i) (i1 : i < e.1 10 2) (j0 : 0 ≤ j) (j1 : j ≤ 8) : m (ad 10 i) j = e.1 (10000 + i) j := (C.sch i0 i1).2.2.2 j j0 j1
def pcTogglePause (p1 : Int) (e : ES) : (Int ⊕ Nat) × ES :=
  if 0 ≤ p1 ∧ p1 < e.1 10 2 then (.inl (if e.1 (10000 + p1) 5 = 0 then 1 else 0), eS e (10000 + p1) 5 (if e.1 (10000 + p1) 5 = 0 then 1 else 0)) else rT 0 e
theorem c_togglePause (C : CE m ow ad e) : OKc e ad (fm_X11_togglePause p1 m) (pcTogglePause p1 e) := by
  unfold fm_X11_togglePause pcTogglePause
  rw [C.schAt]
  by_cases c1 : 0 ≤ p1 ∧ p1 < e.1 10 2
  · rw [if_pos c1, if_pos c1, bx_l rfl, gd_t (C.sch c1.1 c1.2).1, lx_p, C.sf c1.1 c1.2 (by decide) (by decide)]
    by_cases c2 : e.1 (10000 + p1) 5 = 0
    · rw [if_pos c2, if_pos c2, up_t, lx_p, ms_e, gd_t (Or.inr rfl)]
      exact OKc.rt ⟨ow, C.s10 c1.1 c1.2 (by decide) (by decide)⟩ rfl
    · rw [if_neg c2, if_neg c2, up_t, lx_p, ms_e, gd_t (Or.inl rfl)]
      exact OKc.rt ⟨ow, C.s10 c1.1 c1.2 (by decide) (by decide)⟩ rfl
  · rw [if_neg c1, if_neg c1, bx_r rfl]; exact OKc.thr C
def pcShift (p1 : Int) (e : ES) : (Int ⊕ Nat) × ES := if p1 < -20 ∨ 20 < p1 then rT 1 e else (.inl (e.1 4 14 + (e.1 4 15 + p1)), eS e 4 15 (e.1 4 15 + p1))
theorem c_shift (C : CE m ow ad e) (hW : WB e) : OKc e ad (fm_X11_shift p1 m) (pcShift p1 e) := by
  unfold fm_X11_shift pcShift
  by_cases c1 : p1 < -20
  · rw [if_pos c1, if_pos (Or.inl c1)]; exact OKc.thr C
  rw [if_neg c1]
  by_cases c2 : 20 < p1
  · rw [if_pos c2, if_pos (Or.inr c2)]; exact OKc.thr C
  have hb := hW.bd.1
  have hg := hW.glo.1
  rw [if_neg c2, if_neg (by omega), lx_p, C.g4 (by decide) (by decide), w32_id (by omega) (by omega), up_t, lx_p, ms_j (i := 14) (by decide), C.g4 (by decide) (by decide), lx_p, ms_e, w32_id (by omega) (by omega)]
  exact OKc.rt ⟨ow, C.sG (by omega)⟩ rfl
/-- the runs with a tag, a bit each -/
def fSea (e : ES) (t : Int) : Nat → Int → Int → Int
  | 0, a, _ => a
  | n + 1, a, i => if i < e.1 7 2 then fSea e t n (if e.1 (7000 + i) 11 = t then iOr a (iShl 1 i) else a) (i + 1) else a
def pcSearch (p1 : Int) (e : ES) : (Int ⊕ Nat) × ES := if 0 ≤ p1 ∧ p1 < 1000 then (.inl (fSea e p1 31 0 0), e) else rT 1 e
theorem sea_l (C : CE m ow ad e) : ∀ (n f : Nat) (a i : Int), 0 ≤ i → i ≤ e.1 7 2 → e.1 7 2 - i < n → n ≤ f → fl_X11_search_9 k m f a i = some (.inl (fSea e k n a i), m) := by
  intro n
  induction n with
  | zero =>
    intro f a i i0 i9 h1 h2
    omega
  | succ n ih =>
    intro f a i i0 i9 h1 h2
    obtain ⟨f, rfl⟩ : ∃ g, f = g + 1 := ⟨f - 1, by omega⟩
    unfold fl_X11_search_9 fSea
    rw [bp_t (C.size (by decide) (by decide))]
    have n7 := C.cn.1
    by_cases c1 : i < e.1 7 2
    · rw [if_pos c1, if_pos c1, if_pos (by omega), bp_t (C.get (by decide) (by decide) i0 c1), gd_t (C.rk i0 c1), lx_p, C.rf i0 c1 (by decide) (by decide)]
      by_cases c2 : e.1 (7000 + i) 11 = k
      · rw [if_pos c2, if_pos c2, lx_p, lx_p, w32_id (by omega) (by omega)]
        exact ih f _ (i + 1) (by omega) (by omega) (by omega) (by omega)
      · rw [if_neg c2, if_neg c2, lx_p, w32_id (by omega) (by omega)]
        exact ih f _ (i + 1) (by omega) (by omega) (by omega) (by omega)
    · rw [if_neg c1, if_neg c1]
theorem c_search (C : CE m ow ad e) : OKc e ad (fm_X11_search p1 m) (pcSearch p1 e) := by
  unfold fm_X11_search pcSearch
  rw [chkVal]
  have n7 := C.cn.1
  by_cases c1 : 0 ≤ p1 ∧ p1 < 1000
  · rw [if_pos c1, if_pos c1, bx_l rfl, sea_l C 31 BIG 0 0 (by decide) (by omega) (by omega) (Nat.le_of_lt (BIG_g (by decide)))]
    exact OKc.rt ⟨ow, C⟩ rfl
  · rw [if_neg c1, if_neg c1, bx_r rfl]; exact OKc.thr C
end CA2
