/-! THE ENGINE: the class's calls: line, deploy, setKind, setPolicy, signal, cancel, standing, event, difference, setRate, replays. -/
section CA1
variable {m m' M2 : MM} {ow ow' : Int → Int} {ad ad' : Int → Int → Int} {e e' : ES} {D : Int → Prop} {a b c i j k o r v n h N B t x y z p p1 p2 p3 p4 p5 p6 kd ln : Int} {l : List Int} {E : Int → Ev} {s : TS} {f : Int → Int}
/-- the draft's row -/
def dRow (t : Int) (e : ES) : Int := 1000 * t + e.1 (t + 1) 2
theorem CE.dr (C : CE m ow ad e) (ht : isT t) : LvR e t (e.1 (t + 1) 2) := by
  have := C.cn.2.2.2.2 t ht
  exact Or.inr (Or.inl ⟨ht, by omega, Int.le_refl _, by omega⟩)
theorem isT_4 (h0 : 0 ≤ p) (h1 : p < 4) : isT (48 + 4 * p) := by unfold isT; omega
theorem CE.tk (C : CE m ow ad e) (ht : isT t) : okc m t 11 := by
  have hk : fxk t 11 = true := by
    rcases ht with rfl | rfl | rfl | rfl <;> decide +kernel
  exact fx_kF C.fix hk
theorem CE.vk (C : CE m ow ad e) (ht : isT t) : okc m (t + 1) 0 := by
  have hk : fxk (t + 1) 0 = true := by
    rcases ht with rfl | rfl | rfl | rfl <;> decide +kernel
  exact fx_kF C.fix hk
theorem CE.kk (C : CE m ow ad e) (h0 : 0 ≤ p) (h1 : p < 4) : okc m (64 + p) 4 := by
  have hk : fxk (64 + p) 4 = true := by
    have hp : p = 0 ∨ p = 1 ∨ p = 2 ∨ p = 3 := by omega
    rcases hp with rfl | rfl | rfl | rfl <;> decide +kernel
  exact fx_kF C.fix hk
def pcLine (p1 p2 p3 p4 : Int) (e : ES) : (Int ⊕ Nat) × ES :=
  if 0 ≤ p1 ∧ p1 < 4 then
    if p2 < 0 ∨ 23 < p2 then rT 1 e
    else if p3 < (if p2 = 3 then 1 else 0) ∨ tA p2 < p3 ∨ p4 < 0 ∨ tB p2 < p4 then rT 1 e
    else if ((eL e (dRow (48 + 4 * p1) e)).length : Int) < 24 then (.inl ((eL e (dRow (48 + 4 * p1) e)).length + 1), eLs e (dRow (48 + 4 * p1) e) (eL e (dRow (48 + 4 * p1) e) ++ [1000000 * p2 + 1000 * p3 + p4]))
    else rT 2 e
  else rT 0 e
theorem tA_b : ∀ i : Int, 0 ≤ i → i < 24 → 0 ≤ tA i ∧ tA i ≤ 100 ∧ 0 ≤ tB i ∧ tB i ≤ 999 := by
  have key : ∀ n ∈ List.range 24, 0 ≤ tA (n : Int) ∧ tA (n : Int) ≤ 100 ∧ 0 ≤ tB (n : Int) ∧ tB (n : Int) ≤ 999 := by decide +kernel
  intro i h0 h1
  have := key i.toNat (List.mem_range.mpr (by omega))
  rw [show ((i.toNat : Nat) : Int) = i by omega] at this
  exact this
theorem c_line (C : CE m ow ad e) : OKc e ad (fm_X11_line p1 p2 p3 p4 m) (pcLine p1 p2 p3 p4 e) := by
  unfold fm_X11_line pcLine
  rw [typeAt_e C.fix]
  by_cases c1 : 0 ≤ p1 ∧ p1 < 4
  · rw [if_pos c1, if_pos c1, bx_l rfl]
    by_cases c2 : p2 < 0 ∨ 23 < p2
    · rw [if_pos c2]
      by_cases c3 : p2 < 0
      · rw [if_pos c3]; exact OKc.thr C
      · rw [if_neg c3, if_pos (show 23 < p2 by omega)]; exact OKc.thr C
    · rw [if_neg c2, if_neg (show ¬ p2 < 0 by omega), if_neg (show ¬ 23 < p2 by omega), if_pos (show p2 < 24 by omega), if_pos (show p2 < 24 by omega)]
      have e53 : (if p2 = 3 then fj_X11_line_53 p2 p3 p4 (48 + 4 * p1) 1 m else fj_X11_line_53 p2 p3 p4 (48 + 4 * p1) 0 m) = fj_X11_line_53 p2 p3 p4 (48 + 4 * p1) (if p2 = 3 then 1 else 0) m := by
        split <;> rfl
      rw [e53]
      unfold fj_X11_line_53
      have ht := isT_4 c1.1 c1.2
      generalize 48 + 4 * p1 = t at *
      have hb := tA_b p2 (by omega) (by omega)
      have hls : (if p2 = 3 then (1 : Int) else 0) = 0 ∨ (if p2 = 3 then (1 : Int) else 0) = 1 := by split <;> omega
      generalize (if p2 = 3 then (1 : Int) else 0) = ls at *
      by_cases c3 : p3 < ls
      · rw [if_pos c3, if_pos (Or.inl c3)]; exact OKc.thr C
      rw [if_neg c3, gd_t (show 0 ≤ p2 ∧ p2 < 24 by omega)]
      by_cases c4 : tA p2 < p3
      · rw [if_pos c4, if_pos (Or.inr (Or.inl c4))]; exact OKc.thr C
      rw [if_neg c4]
      by_cases c5 : p4 < 0
      · rw [if_pos c5, if_pos (Or.inr (Or.inr (Or.inl c5)))]; exact OKc.thr C
      rw [if_neg c5]
      by_cases c6 : tB p2 < p4
      · rw [if_pos c6, if_pos (Or.inr (Or.inr (Or.inr c6)))]; exact OKc.thr C
      rw [if_neg c6, if_neg (show ¬ (p3 < ls ∨ tA p2 < p3 ∨ p4 < 0 ∨ tB p2 < p4) by omega)]
      obtain ⟨T1, T2, T3⟩ := C.typ ht
      have hok := C.okr (C.dr ht)
      rw [gd_t (C.tk ht), lx_p, T2, gd_t hok.1, lx_p, hok.2]
      show OKc e ad (if ((eL e (dRow t e)).length : Int) < 24 then _ else _) _
      by_cases c7 : ((eL e (dRow t e)).length : Int) < 24
      · rw [if_pos c7, if_pos c7]
        have ep : fm_X10_packed p2 p3 p4 m = some (1000000 * p2 + 1000 * p3 + p4) := by
          unfold fm_X10_packed
          rw [w32_id (z := p2 * 1000000) (by omega) (by omega), w32_id (z := p3 * 1000) (by omega) (by omega), w32_id (z := p2 * 1000000 + p3 * 1000) (by omega) (by omega), w32_id (by omega) (by omega)]
          congr 1
          omega
        obtain ⟨m1, g1, ow1, C1⟩ := C.add (v := 1000000 * p2 + 1000 * p3 + p4) (C.dr ht) (show ((eL e (dRow t e)).length : Int) < 64 * cpK t by rw [cpK_t ht]; omega)
        have T2' := (C1.typ ht).2.1
        have hok' := C1.okr (C1.dr ht)
        have en : (eLs e (1000 * t + e.1 (t + 1) 2) (eL e (1000 * t + e.1 (t + 1) 2) ++ [1000000 * p2 + 1000 * p3 + p4])).1 = e.1 := rfl
        rw [en] at T2' hok'
        rw [bp_t ep, bd_t g1, lx_p, T2', gd_t hok'.1, lx_p, hok'.2]
        refine OKc.rt ⟨ow1, C1⟩ ?_
        rw [eLs_e, List.length_append]
        show ((((eL e (dRow t e)).length + 1 : Nat)) : Int) = _
        omega
      · rw [if_neg c7, if_neg c7]; exact OKc.thr C
  · rw [if_neg c1, if_neg c1, bx_r rfl]; exact OKc.thr C
def pcDeploy (p1 : Int) (e : ES) : (Int ⊕ Nat) × ES :=
  if 0 ≤ p1 ∧ p1 < 4 then
    if eL e (dRow (48 + 4 * p1) e) = [] then rT 2 e
    else if e.1 (48 + 4 * p1 + 1) 2 < 4 then (.inl (e.1 (48 + 4 * p1 + 1) 2), pDep (48 + 4 * p1) e)
    else rT 2 e
  else rT 0 e
theorem c_deploy (C : CE m ow ad e) : OKc e ad (fm_X11_deploy p1 m) (pcDeploy p1 e) := by
  unfold fm_X11_deploy pcDeploy
  rw [typeAt_e C.fix]
  by_cases c1 : 0 ≤ p1 ∧ p1 < 4
  · rw [if_pos c1, if_pos c1, bx_l rfl]
    have ht := isT_4 c1.1 c1.2
    generalize 48 + 4 * p1 = t at *
    obtain ⟨T1, T2, T3⟩ := C.typ ht
    have hok := C.okr (C.dr ht)
    have hn := C.cn.2.2.2.2 t ht
    rw [gd_t (C.tk ht), lx_p, T2, gd_t hok.1, lx_p, hok.2]
    show OKc e ad (if ((eL e (dRow t e)).length : Int) = 0 then _ else _) _
    by_cases c2 : eL e (dRow t e) = []
    · rw [if_pos c2, if_pos (by rw [c2]; rfl)]; exact OKc.thr C
    · rw [if_neg c2, if_neg (fun hh => c2 (List.eq_nil_of_length_eq_zero (by omega))), lx_p, ty0 C.fix ht, gd_t (C.vk ht), bp_t (C.ver ht).size]
      by_cases c3 : e.1 (t + 1) 2 < 4
      · rw [if_pos c3, if_pos c3]
        obtain ⟨m1, ad1, g1, ⟨ow1, C1⟩, g3⟩ := C.deploy ht c3
        have hs := (C1.ver ht).size
        rw [pDep_n] at hs
        rw [bd_t g1, lx_p, ty0 C1.fix ht, gd_t (C1.vk ht), bp_t hs, w32_id (by omega) (by omega)]
        exact ⟨m1, ad1, by rw [show e.1 (t + 1) 2 + 1 - 1 = e.1 (t + 1) 2 by omega], ⟨ow1, C1⟩, g3⟩
      · rw [if_neg c3, if_neg c3]; exact OKc.thr C
  · rw [if_neg c1, if_neg c1, bx_r rfl]; exact OKc.thr C
def pcSetKind (p1 p2 p3 p4 p5 p6 : Int) (e : ES) : (Int ⊕ Nat) × ES :=
  if 0 ≤ p1 ∧ p1 < 4 then
    if p2 < 1 ∨ 4 < p2 ∨ p3 < 0 ∨ 20 < p3 ∨ p4 < 0 ∨ 50 < p4 ∨ p5 < 0 ∨ 50 < p5 ∨ p6 < 0 ∨ 50 < p6 then rT 1 e
    else (.inl 0, eS (eS (eS (eS (eS e (64 + p1) 0 p2) (64 + p1) 1 p3) (64 + p1) 2 p4) (64 + p1) 3 p5) (64 + p1) 4 p6)
  else rT 0 e
theorem c_setKind (C : CE m ow ad e) : OKc e ad (fm_X11_setKind p1 p2 p3 p4 p5 p6 m) (pcSetKind p1 p2 p3 p4 p5 p6 e) := by
  unfold fm_X11_setKind pcSetKind
  rw [kindAt_e C.fix]
  by_cases c1 : 0 ≤ p1 ∧ p1 < 4
  · rw [if_pos c1, if_pos c1, bx_l rfl]
    by_cases c2 : p2 < 1 ∨ 4 < p2 ∨ p3 < 0 ∨ 20 < p3 ∨ p4 < 0 ∨ 50 < p4 ∨ p5 < 0 ∨ 50 < p5 ∨ p6 < 0 ∨ 50 < p6
    · rw [if_pos c2]
      by_cases d1 : p2 < 1
      · rw [if_pos d1]; exact OKc.thr C
      rw [if_neg d1]
      by_cases d2 : 4 < p2
      · rw [if_pos d2]; exact OKc.thr C
      rw [if_neg d2]
      by_cases d3 : p3 < 0
      · rw [if_pos d3]; exact OKc.thr C
      rw [if_neg d3]
      by_cases d4 : 20 < p3
      · rw [if_pos d4]; exact OKc.thr C
      rw [if_neg d4]
      by_cases d5 : p4 < 0
      · rw [if_pos d5]; exact OKc.thr C
      rw [if_neg d5]
      by_cases d6 : 50 < p4
      · rw [if_pos d6]; exact OKc.thr C
      rw [if_neg d6]
      by_cases d7 : p5 < 0
      · rw [if_pos d7]; exact OKc.thr C
      rw [if_neg d7]
      by_cases d8 : 50 < p5
      · rw [if_pos d8]; exact OKc.thr C
      rw [if_neg d8]
      by_cases d9 : p6 < 0
      · rw [if_pos d9]; exact OKc.thr C
      rw [if_neg d9, if_pos (by omega)]; exact OKc.thr C
    · rw [if_neg c2, if_neg (by omega), if_neg (by omega), if_neg (by omega), if_neg (by omega), if_neg (by omega), if_neg (by omega), if_neg (by omega), if_neg (by omega), if_neg (by omega), if_neg (by omega), gd_t (C.kk c1.1 c1.2), up_t, up_t, up_t, up_t, up_t]
      exact OKc.rt ⟨ow, ((((C.sG (o := 64 + p1) (j := 0) (by omega)).sG (by omega)).sG (by omega)).sG (by omega)).sG (by omega)⟩ rfl
  · rw [if_neg c1, if_neg c1, bx_r rfl]; exact OKc.thr C
def pcSetPolicy (p1 p2 : Int) (e : ES) : (Int ⊕ Nat) × ES :=
  if 0 ≤ p1 ∧ p1 < 4 then
    if p2 < 0 ∨ 2 < p2 then rT 1 e else (.inl (e.1 (48 + 4 * p1) 2), eS e (48 + 4 * p1) 2 p2)
  else rT 0 e
theorem c_setPolicy (C : CE m ow ad e) : OKc e ad (fm_X11_setPolicy p1 p2 m) (pcSetPolicy p1 p2 e) := by
  unfold fm_X11_setPolicy pcSetPolicy
  rw [typeAt_e C.fix]
  by_cases c1 : 0 ≤ p1 ∧ p1 < 4
  · rw [if_pos c1, if_pos c1, bx_l rfl]
    have ht := isT_4 c1.1 c1.2
    generalize 48 + 4 * p1 = t at *
    by_cases c2 : p2 < 0 ∨ 2 < p2
    · rw [if_pos c2]
      by_cases d1 : p2 < 0
      · rw [if_pos d1]; exact OKc.thr C
      rw [if_neg d1, if_pos (by omega)]; exact OKc.thr C
    · rw [if_neg c2, if_neg (by omega), if_neg (by omega), gd_t (C.tk ht), lx_p, up_t]
      exact OKc.rt ⟨ow, C.sT ht⟩ (C.typ ht).2.2
  · rw [if_neg c1, if_neg c1, bx_r rfl]; exact OKc.thr C
def pcSignal (p1 p2 p3 : Int) (e : ES) : (Int ⊕ Nat) × ES :=
  if 0 ≤ p1 ∧ p1 < e.1 7 2 then
    if 0 ≤ p2 ∧ p2 < 4 then
      if 0 ≤ p3 ∧ p3 < 1000 then
        if (e.1 (7000 + p1) 6 = 0 ∨ e.1 (7000 + p1) 6 = 6) ∧ hN e p1 < 100 then (.inl (hN e p1), pArr p1 4 p2 p3 e) else rT 2 e
      else rT 1 e
    else rT 0 e
  else rT 0 e
theorem arr_N (i0 : 0 ≤ i) : hN (pArr i k x y e) i = hN e i + 1 := by
  unfold pArr hN
  rw [eS_a (by omega)]
  exact put_N i0
theorem nDead (h : e.1 (7000 + i) 6 = 0 ∨ e.1 (7000 + i) 6 = 6) : ¬ Dead e i := fun hh => h.elim hh.1 hh.2
theorem c_signal (C : CE m ow ad e) (hb : BD e) : OKc e ad (fm_X11_signal p1 p2 p3 m) (pcSignal p1 p2 p3 e) := by
  unfold fm_X11_signal pcSignal
  rw [C.runAt]
  by_cases c1 : 0 ≤ p1 ∧ p1 < e.1 7 2
  · rw [if_pos c1, if_pos c1, bx_l rfl, chkNam]
    by_cases c2 : 0 ≤ p2 ∧ p2 < 4
    · rw [if_pos c2, if_pos c2, bx_l rfl, chkVal]
      by_cases c3 : 0 ≤ p3 ∧ p3 < 1000
      · rw [if_pos c3, if_pos c3, bx_l rfl, gd_t (C.rk c1.1 c1.2), bp_t (alive_e C c1.1 c1.2)]
        obtain ⟨s1, s2, -⟩ := (C.his c1.1 c1.2).sl
        by_cases c4 : e.1 (7000 + p1) 6 = 0 ∨ e.1 (7000 + p1) 6 = 6
        · rw [if_pos c4, if_neg (by decide), lx_p, (C.run c1.1 c1.2).2.2.2.2.2.1, gd_t s1, lx_p, s2]
          by_cases c5 : hN e p1 < 100
          · rw [if_pos c5, if_pos ⟨c4, c5⟩]
            obtain ⟨m1, g1, ow1, C1⟩ := C.arr (k := 4) (x := p2) (y := p3) c1.1 c1.2 (nDead c4) hb (by decide) (by decide) c2.1 (by omega) c3.1 (by omega)
            have d1 : p1 < (pArr p1 4 p2 p3 e).1 7 2 := by rw [arr_a (by decide) (by decide) (by omega) (by omega) (Or.inl (by decide))]; exact c1.2
            obtain ⟨u1, u2, -⟩ := (C1.his c1.1 d1).sl
            have hn : 0 ≤ hN e p1 := (C.hx c1.1 c1.2).n.1
            rw [bd_t g1, lx_p, (C1.run c1.1 d1).2.2.2.2.2.1, gd_t u1, lx_p, u2, arr_N c1.1, w32_id (by omega) (by omega)]
            exact OKc.rt ⟨ow1, C1⟩ (by omega)
          · rw [if_neg c5, if_neg (fun h => c5 h.2)]; exact OKc.thr C
        · rw [if_neg c4, if_pos rfl, if_neg (fun h => c4 h.1)]; exact OKc.thr C
      · rw [if_neg c3, if_neg c3, bx_r rfl]; exact OKc.thr C
    · rw [if_neg c2, if_neg c2, bx_r rfl]; exact OKc.thr C
  · rw [if_neg c1, if_neg c1, bx_r rfl]; exact OKc.thr C
def pcCancel (p1 : Int) (e : ES) : (Int ⊕ Nat) × ES :=
  if 0 ≤ p1 ∧ p1 < e.1 7 2 then
    if e.1 (7000 + p1) 6 = 0 ∨ e.1 (7000 + p1) 6 = 6 then (.inl (pCan p1 e).1, (pCan p1 e).2) else rT 2 e
  else rT 0 e
theorem can_01 : (pCan i e).1 = 0 ∨ (pCan i e).1 = 1 := by
  unfold pCan
  split
  · exact Or.inl rfl
  · exact Or.inr rfl
theorem c_cancel (C : CE m ow ad e) (hb : BD e) : OKc e ad (fm_X11_cancel p1 m) (pcCancel p1 e) := by
  unfold fm_X11_cancel pcCancel
  rw [C.runAt]
  by_cases c1 : 0 ≤ p1 ∧ p1 < e.1 7 2
  · rw [if_pos c1, if_pos c1, bx_l rfl, gd_t (C.rk c1.1 c1.2), bp_t (alive_e C c1.1 c1.2)]
    by_cases c4 : e.1 (7000 + p1) 6 = 0 ∨ e.1 (7000 + p1) 6 = 6
    · rw [if_pos c4, if_neg (by decide), if_pos c4]
      obtain ⟨m1, g1, g2⟩ := C.can c1.1 c1.2 (nDead c4) hb
      rw [bd_t g1, gd_t can_01]
      exact OKc.rt g2 rfl
    · rw [if_neg c4, if_pos rfl, if_neg c4]; exact OKc.thr C
  · rw [if_neg c1, if_neg c1, bx_r rfl]; exact OKc.thr C
def pcStanding (p1 : Int) (e : ES) : (Int ⊕ Nat) × ES := if 0 ≤ p1 ∧ p1 < e.1 7 2 then (.inl (10 * hN e p1 + e.1 (7000 + p1) 6), e) else rT 0 e
theorem c_standing (C : CE m ow ad e) (hb : BD e) (h6 : ∀ i : Int, 0 ≤ i → i < e.1 7 2 → 0 ≤ e.1 (7000 + i) 6 ∧ e.1 (7000 + i) 6 ≤ 6) (hN' : ∀ i : Int, 0 ≤ i → i < e.1 7 2 → hN e i ≤ 100000000) : OKc e ad (fm_X11_standing p1 m) (pcStanding p1 e) := by
  unfold fm_X11_standing pcStanding
  rw [C.runAt]
  by_cases c1 : 0 ≤ p1 ∧ p1 < e.1 7 2
  · obtain ⟨s1, s2, -⟩ := (C.his c1.1 c1.2).sl
    have hn := (C.hx c1.1 c1.2).n.1
    have h6' := h6 p1 c1.1 c1.2
    have hN2 := hN' p1 c1.1 c1.2
    have hn : 0 ≤ hN e p1 := hn
    rw [if_pos c1, if_pos c1, bx_l rfl, gd_t (C.rk c1.1 c1.2), lx_p, (C.run c1.1 c1.2).2.2.2.2.2.1, gd_t s1, lx_p, s2, lx_p, C.rf c1.1 c1.2 (by decide) (by decide), w32_id (z := 10 * hN e p1) (by omega) (by omega), w32_id (by omega) (by omega)]
    exact OKc.rt ⟨ow, C⟩ rfl
  · rw [if_neg c1, if_neg c1, bx_r rfl]; exact OKc.thr C
def pcEvent (p1 p2 : Int) (e : ES) : (Int ⊕ Nat) × ES := if 0 ≤ p1 ∧ p1 < e.1 7 2 then (if 0 ≤ p2 ∧ p2 < hN e p1 then (.inl (1000000 * ek (eH e p1 p2) + 1000 * ex (eH e p1 p2) + ey (eH e p1 p2)), e) else rT 0 e) else rT 0 e
theorem c_event (C : CE m ow ad e) : OKc e ad (fm_X11_event p1 p2 m) (pcEvent p1 p2 e) := by
  unfold fm_X11_event pcEvent
  rw [C.runAt]
  by_cases c1 : 0 ≤ p1 ∧ p1 < e.1 7 2
  · obtain ⟨s1, s2, -⟩ := (C.his c1.1 c1.2).sl
    have H := C.hx c1.1 c1.2
    rw [if_pos c1, if_pos c1, bx_l rfl]
    by_cases c2 : p2 < 0
    · rw [if_pos c2, if_neg (by omega)]; exact OKc.thr C
    · rw [if_neg c2, gd_t (C.rk c1.1 c1.2), lx_p, (C.run c1.1 c1.2).2.2.2.2.2.1, gd_t s1, lx_p, s2]
      by_cases c3 : p2 < hN e p1
      · have hk := kind_e H (i := p2) (by omega) c3
        have hx := x_e H (i := p2) (by omega) c3
        have hy := y_e H (i := p2) (by omega) c3
        obtain ⟨-, ⟨b1, b2, b3, -⟩, -⟩ := H.get (i := p2) (by omega) c3
        have ek1 : ek (eH e p1 p2) = (((eH e p1 p2).1 : Nat) : Int) := rfl
        have ex1 : ex (eH e p1 p2) = (((eH e p1 p2).2.1 : Nat) : Int) := rfl
        have ey1 : ey (eH e p1 p2) = (((eH e p1 p2).2.2.1 : Nat) : Int) := rfl
        have b1' : (eH e p1 p2).1 ≤ 17 := b1
        have b2' : (eH e p1 p2).2.1 < 524288 := b2
        have b3' : (eH e p1 p2).2.2.1 < 1024 := b3
        rw [if_pos c3, if_pos ⟨by omega, c3⟩, bp_t hk, bp_t hx, bp_t hy]
        show OKc e ad (some (.inl (w32 (w32 (w32 (1000000 * ek (eH e p1 p2)) + w32 (1000 * ex (eH e p1 p2))) + ey (eH e p1 p2))), m)) _
        rw [w32_id (z := 1000000 * ek (eH e p1 p2)) (by omega) (by omega), w32_id (z := 1000 * ex (eH e p1 p2)) (by omega) (by omega), w32_id (z := 1000000 * ek (eH e p1 p2) + 1000 * ex (eH e p1 p2)) (by omega) (by omega), w32_id (by omega) (by omega)]
        exact OKc.rt ⟨ow, C⟩ rfl
      · rw [if_neg c3, if_neg (fun h => c3 h.2)]; exact OKc.thr C
  · rw [if_neg c1, if_neg c1, bx_r rfl]; exact OKc.thr C
def pcDifference (p1 : Int) (e : ES) : (Int ⊕ Nat) × ES := if 0 ≤ p1 ∧ p1 < e.1 7 2 then (if e.1 (7000 + p1) 6 = 6 then (.inl (e.1 (7000 + p1) 7), e) else rT 2 e) else rT 0 e
theorem c_difference (C : CE m ow ad e) : OKc e ad (fm_X11_difference p1 m) (pcDifference p1 e) := by
  unfold fm_X11_difference pcDifference
  rw [C.runAt]
  by_cases c1 : 0 ≤ p1 ∧ p1 < e.1 7 2
  · rw [if_pos c1, if_pos c1, bx_l rfl, gd_t (C.rk c1.1 c1.2), lx_p, C.rf c1.1 c1.2 (by decide) (by decide)]
    by_cases c2 : e.1 (7000 + p1) 6 = 6
    · rw [if_pos c2, if_pos c2, lx_p]
      exact OKc.rt ⟨ow, C⟩ (C.rf c1.1 c1.2 (by decide) (by decide))
    · rw [if_neg c2, if_neg c2]; exact OKc.thr C
  · rw [if_neg c1, if_neg c1, bx_r rfl]; exact OKc.thr C
def pcSetRate (p1 : Int) (e : ES) : (Int ⊕ Nat) × ES := if p1 < 1 ∨ 10 < p1 then rT 1 e else (.inl (e.1 4 13), eS e 4 13 p1)
theorem c_setRate (C : CE m ow ad e) : OKc e ad (fm_X11_setRate p1 m) (pcSetRate p1 e) := by
  unfold fm_X11_setRate pcSetRate
  by_cases c1 : p1 < 1
  · rw [if_pos c1, if_pos (Or.inl c1)]; exact OKc.thr C
  rw [if_neg c1]
  by_cases c2 : 10 < p1
  · rw [if_pos c2, if_pos (Or.inr c2)]; exact OKc.thr C
  rw [if_neg c2, if_neg (by omega), lx_p, up_t]
  exact OKc.rt ⟨ow, C.sG (by omega)⟩ (C.g4 (by decide) (by decide))
def pcReplays (p1 : Int) (e : ES) : (Int ⊕ Nat) × ES := if 0 ≤ p1 ∧ p1 < 3 then (.inl (e.1 11 p1), e) else rT 0 e
theorem c_replays (C : CE m ow ad e) : OKc e ad (fm_X11_replays p1 m) (pcReplays p1 e) := by
  unfold fm_X11_replays pcReplays
  rw [chkWor]
  by_cases c1 : 0 ≤ p1 ∧ p1 < 3
  · rw [if_pos c1, if_pos c1, bx_l rfl, gd_t c1, lx_p]
    exact OKc.rt ⟨ow, C⟩ (C.g3 (by decide) (by decide) c1.1 c1.2)
  · rw [if_neg c1, if_neg c1, bx_r rfl]; exact OKc.thr C
end CA1
