/-! THE ENGINE: the call setBack. -/
section STB
variable {m m' M2 m0 : MM} {ow ow' : Int → Int} {ad ad' ad1 : Int → Int → Int} {e e' e0 e1 e2 : ES} {D : Int → Prop} {a b c i j k o r v w h B t y z q lim c2 c3 p p1 p2 p3 N T : Int} {n : Nat} {x : CX} {l : List Int} {E : Int → Ev} {s S : TS} {f : Int → Int}
theorem xTsk_b : ∀ (n : Nat) (c i : Int), 0 ≤ i → -1 ≤ xTsk x v n c i ∧ (0 ≤ xTsk x v n c i → xTsk x v n c i < x.1 0) := by
  intro n
  induction n with
  | zero => intro c i _; exact ⟨Int.le_refl _, fun h => absurd h (by show ¬ (0 : Int) ≤ -1; decide)⟩
  | succ n ih =>
    intro c i i0
    unfold xTsk
    split
    · split
      · split
        · rename_i h1 _ _
          exact ⟨by omega, fun _ => h1⟩
        · exact ih _ _ (by omega)
      · exact ih _ _ (by omega)
    · exact ⟨Int.le_refl _, fun h => absurd h (by decide)⟩
/-- the whens of a run's history, to another's -/
def eW (k i : Int) (e : ES) : ES := (fun a j => if a = 76000 + k then e.1 (76000 + i) j else e.1 a j, e.2)
theorem eW_a {u : Int} (h : a ≠ 76000 + k) : (eW k i e).1 a u = e.1 a u := if_neg h
theorem CE.when (C : CE m ow ad e) (k0 : 0 ≤ k) : CE m ow ad (eW k i e) := C.gho (o := 76000 + k) (by omega) (fun _ _ ha => eW_a ha) rfl
theorem eW_mo (k0 : 0 ≤ k) : MO e (eW k i e) := by
  have ha : ∀ a u, a < 76000 → (eW k i e).1 a u = e.1 a u := fun a u h => eW_a (by omega)
  refine ⟨⟨by rw [ha _ _ (by decide)]; omega, by rw [ha _ _ (by decide)]; omega, by rw [ha _ _ (by decide)]; omega⟩, fun hl => ?_⟩
  obtain ⟨g1, g2, g3, g4, g5, g6, g7⟩ := hl
  refine ⟨by rw [ha _ _ (by decide)]; exact g1, by rw [ha _ _ (by decide)]; exact g2, by rw [ha _ _ (by decide)]; exact g3, by rw [ha _ _ (by decide)]; exact g4, fun j j0 j1 => ?_, by rw [ha _ _ (by decide)]; exact g6, fun c j hc j0 j1 => ?_⟩
  · rw [ha _ _ (by decide)] at j1 ⊢
    unfold hN
    rw [ha _ _ (by omega)]
    exact g5 j j0 j1
  · rw [ha _ _ (by decide)] at j1 ⊢
    exact g7 c j hc j0 j1
theorem fst_mo (k0 : 0 ≤ k) (k1 : k < 1000) (i0 : 0 ≤ i) (i1 : i < e.1 7 2) (n1 : T ≤ hN e i) : MO e (pFstH k i T e) := by
  have ha : ∀ a u, a ≠ 71000 + k → (pFstH k i T e).1 a u = e.1 a u := fun a u h => eS_a h
  refine ⟨⟨by rw [ha _ _ (by omega)]; omega, by rw [ha _ _ (by omega)]; omega, by rw [ha _ _ (by omega)]; omega⟩, fun hl => ?_⟩
  obtain ⟨g1, g2, g3, g4, g5, g6, g7⟩ := hl
  refine ⟨by rw [ha _ _ (by omega)]; exact g1, by rw [ha _ _ (by omega)]; exact g2, by rw [ha _ _ (by omega)]; exact g3, by rw [ha _ _ (by omega)]; exact g4, fun j j0 j1 => ?_, by rw [ha _ _ (by omega)]; exact g6, fun c j hc j0 j1 => ?_⟩
  · rw [ha _ _ (by omega)] at j1 ⊢
    by_cases c : j = k
    · subst c
      have : hN (pFstH j i T e) j = T := eS_e
      rw [this]
      have := g5 i i0 i1
      omega
    · unfold hN
      rw [ha _ _ (by omega)]
      exact g5 j j0 j1
  · rw [ha _ _ (by omega)] at j1 ⊢
    exact g7 c j hc j0 j1
def pSb1 (r : Int) (e : ES) : ES := eS (pNewRun (e.1 (7000 + r) 1) (e.1 (7000 + r) 2) (e.1 (7000 + r) 3) (e.1 (7000 + r) 4) (e.1 (7000 + r) 5) e) (7000 + r) 6 5
def pSb5 (r T : Int) (e : ES) : ES := pPar r 0 (pEnd r (eW (e.1 7 2) r (pFstH (e.1 7 2) r T (pSb1 r e))))
def pSetB (r T : Int) (e : ES) : ES := pSnd (e.1 7 2) r T (pRest (e.1 7 2) (pSb5 r T e))
def pcSetBack (p1 p2 : Int) (e : ES) : (Int ⊕ Nat) × ES :=
  if 0 ≤ p1 ∧ p1 < e.1 7 2 then
    if taskN (pX e p1) p2 < 0 then rT 0 e
    else if e.1 (7000 + p1) 6 = 0 ∨ e.1 (7000 + p1) 6 = 6 then (if e.1 7 2 < 30 then (.inl (e.1 7 2), pSetB p1 (taskN (pX e p1) p2 + 1) e) else rT 2 e)
    else rT 2 e
  else rT 0 e
theorem sb1_a {u : Int} (n0 : 0 ≤ e.1 7 2) (h1 : a ≠ 7) (h2 : a ≠ 7000 + e.1 7 2) (h3 : a ≠ 71000 + e.1 7 2) (h4 : a ≠ 7000 + r ∨ u ≠ 6) : (pSb1 r e).1 a u = e.1 a u := by
  unfold pSb1
  by_cases c : a = 7000 + r
  · subst c
    rw [eS_j (by omega)]
    exact pNewRun_1 h1 h2 h3
  · rw [eS_a c]
    exact pNewRun_1 h1 h2 h3
/-- the state before what is not ended is begun again -/
theorem sb5_a {u : Int} (n0 : 0 ≤ e.1 7 2) (n1 : e.1 7 2 < 30) (h8 : e.1 8 2 ≤ 60) (h1 : a < 8000 ∨ 9000 ≤ a) (h2 : a < 7000 ∨ u ≠ 4) (h3 : a ≠ 71000 + e.1 7 2) (h4 : a ≠ 76000 + e.1 7 2) (s7 : (pSb1 r e).1 7 2 = e.1 7 2 + 1) (s8 : (pSb1 r e).1 8 2 = e.1 8 2) : (pSb5 r T e).1 a u = (pSb1 r e).1 a u := by
  have w : ∀ a u : Int, a ≠ 71000 + e.1 7 2 → a ≠ 76000 + e.1 7 2 → (eW (e.1 7 2) r (pFstH (e.1 7 2) r T (pSb1 r e))).1 a u = (pSb1 r e).1 a u := fun a u g1 g2 => by
    rw [eW_a g2]
    exact eS_a g1
  have w2 : ∀ a u : Int, (a < 8000 ∨ 9000 ≤ a) → a ≠ 71000 + e.1 7 2 → a ≠ 76000 + e.1 7 2 → (pEnd r (eW (e.1 7 2) r (pFstH (e.1 7 2) r T (pSb1 r e)))).1 a u = (pSb1 r e).1 a u := fun a u g0 g1 g2 => by
    rw [end_a (by rw [w _ _ (by omega) (by omega), s8]; omega), w a u g1 g2]
  unfold pSb5
  rw [par_a (by rw [w2 _ _ (by omega) (by omega) (by omega), s7]; omega), w2 a u h1 h3 h4]
theorem sb5_l (r0 : 0 ≤ r) (hr : r ≠ e.1 7 2) (r1 : r < 1000) (n0 : 0 ≤ e.1 7 2) (n1 : e.1 7 2 < 30) (hc : c = 73 ∨ c = 74 ∨ c = 75) : eL (pSb5 r T e) (1000 * c + e.1 7 2) = [] := by
  have h1 : eL (pSb5 r T e) (1000 * c + e.1 7 2) = eL (pEnd r (eW (e.1 7 2) r (pFstH (e.1 7 2) r T (pSb1 r e)))) (1000 * c + e.1 7 2) := by
    unfold pSb5 pPar eL
    rw [(parL_a (r := r) (fr := 0) 31 0 _ (by decide)).1]
  rw [h1]
  unfold pEnd
  rw [eLs_a (by omega), eLs_a (by omega)]
  have h2 : eL (pEndA r 61 0 (eW (e.1 7 2) r (pFstH (e.1 7 2) r T (pSb1 r e)))) (1000 * c + e.1 7 2) = eL (pSb1 r e) (1000 * c + e.1 7 2) := by
    unfold eL
    rw [(endA_a (r := r) 61 0 _ (by decide)).1]
    rfl
  rw [h2]
  exact pNewRun_r hc
theorem c_setBack (C : CE m ow ad e) (hl : BDl e) (hf : BDf (pcSetBack p1 p2 e).2) (hH : ∀ i : Int, 0 ≤ i → i < e.1 7 2 → hN e i ≤ 524287 ∧ hN e i ≤ 391000) (hE : 0 ≤ p1 → p1 < e.1 7 2 → e.1 7 2 < 30 → 0 ≤ taskN (pX e p1) p2 → (e.1 (7000 + p1) 6 = 0 ∨ e.1 (7000 + p1) 6 = 6) → TmO (pRest (e.1 7 2) (pSb5 p1 (taskN (pX e p1) p2 + 1) e)) (e.1 7 2) → (pRest (e.1 7 2) (pSb5 p1 (taskN (pX e p1) p2 + 1) e)).1 7 2 = e.1 7 2 + 1 → (eL (pRest (e.1 7 2) (pSb5 p1 (taskN (pX e p1) p2 + 1) e)) (73000 + e.1 7 2)).length ≤ 512) : OKc e ad (fm_X11_setBack p1 p2 m) (pcSetBack p1 p2 e) := by
  unfold pcSetBack at hf
  unfold fm_X11_setBack pcSetBack
  rw [C.runAt]
  by_cases c1 : 0 ≤ p1 ∧ p1 < e.1 7 2
  · rw [if_pos c1] at hf
    have r0 := c1.1
    have r1 := c1.2
    have n7 := C.cn.1
    have n8 := C.cn.2.1
    obtain ⟨hH, hH2⟩ := hH p1 r0 r1
    obtain ⟨s1, s2, -⟩ := (C.his r0 r1).sl
    have H := C.hx r0 r1
    have htk : fm_X2_taskAt (ad 71 p1) p2 m = some (taskN (pX e p1) p2) := taskN_e H
    have hb : -1 ≤ taskN (pX e p1) p2 ∧ (0 ≤ taskN (pX e p1) p2 → taskN (pX e p1) p2 < hN e p1) := xTsk_b _ _ _ (Int.le_refl _)
    rw [if_pos c1, if_pos c1, bx_l rfl, gd_t (C.rk r0 r1), lx_p, (C.run r0 r1).2.2.2.2.2.1, gd_t s1, bp_t htk]
    by_cases c2 : taskN (pX e p1) p2 < 0
    · rw [if_pos c2, if_pos c2]; exact OKc.thr C
    rw [if_neg c2] at hf
    rw [if_neg c2, if_neg c2, bp_t (alive_e C r0 r1)]
    by_cases c3 : e.1 (7000 + p1) 6 = 0 ∨ e.1 (7000 + p1) 6 = 6
    · rw [if_pos c3] at hf
      rw [if_pos c3, if_pos c3, if_neg (show ¬ (1 : Int) = 0 by decide), bp_t (C.size (c := 7) (by decide) (by decide))]
      by_cases c4 : e.1 7 2 < 30
      · rw [if_pos c4] at hf
        rw [if_pos c4, if_pos c4, w32_id (z := taskN (pX e p1) p2 + 1) (by omega) (by omega)]
        have hE3 := hE r0 r1 c4 (by omega) c3
        have hTb : 0 ≤ taskN (pX e p1) p2 + 1 ∧ taskN (pX e p1) p2 + 1 ≤ hN e p1 := by omega
        generalize taskN (pX e p1) p2 + 1 = T at *
        have f1 : m (ad 7 p1) 1 = e.1 (7000 + p1) 1 := C.rf r0 r1 (by decide) (by decide)
        have f2 : m (ad 7 p1) 2 = e.1 (7000 + p1) 2 := C.rf r0 r1 (by decide) (by decide)
        have f3 : m (ad 7 p1) 3 = e.1 (7000 + p1) 3 := C.rf r0 r1 (by decide) (by decide)
        have f4 : m (ad 7 p1) 4 = e.1 (7000 + p1) 4 := C.rf r0 r1 (by decide) (by decide)
        have f5 : m (ad 7 p1) 5 = e.1 (7000 + p1) 5 := C.rf r0 r1 (by decide) (by decide)
        rw [lx_p, f1, lx_p, f2, lx_p, f3, lx_p, f4, lx_p, f5]
        obtain ⟨m1, ad1, g1, ⟨ow1, C1⟩, k1⟩ := C.addRun (p1 := e.1 (7000 + p1) 1) (p2 := e.1 (7000 + p1) 2) (p3 := e.1 (7000 + p1) 3) (p4 := e.1 (7000 + p1) 4) (p5 := e.1 (7000 + p1) 5) c4
        have d7 : ad1 7 p1 = ad 7 p1 := k1 7 p1 (Or.inl ⟨Or.inl rfl, r0, r1⟩)
        have hne : p1 ≠ e.1 7 2 := by omega
        have C2 := C1.s7 (i := p1) (v := 5) r0 (by rw [pNewRun_n]; omega) (j := 6) (by decide) (by decide) (fun _ _ => by decide)
        have C2' : CE (mset m1 (ad1 7 p1) 6 5) ow1 ad1 (pSb1 p1 e) := C2
        have s7 : (pSb1 p1 e).1 7 2 = e.1 7 2 + 1 := by
          unfold pSb1
          rw [eS_a (by omega)]
          exact pNewRun_n
        have s8 : (pSb1 p1 e).1 8 2 = e.1 8 2 := sb1_a n7.1 (by decide) (by omega) (by omega) (by omega)
        have sD : Dead (pSb1 p1 e) p1 := by
          unfold Dead pSb1
          rw [eS_e]
          decide
        have s60 : (pSb1 p1 e).1 (7000 + e.1 7 2) 6 = 0 := by
          unfold pSb1
          rw [eS_a (by omega), pNewRun_f n7.1]
          rfl
        have s90 : (pSb1 p1 e).1 (7000 + e.1 7 2) 9 = 0 := by
          unfold pSb1
          rw [eS_a (by omega), pNewRun_f n7.1]
          rfl
        have sND : ¬ Dead (pSb1 p1 e) (e.1 7 2) := fun hh => hh.1 s60
        have sN : hN (pSb1 p1 e) p1 = hN e p1 := sb1_a n7.1 (by omega) (by omega) (by omega) (by omega)
        have mo2 : MO e (pSb1 p1 e) := (newrun_mo n7.1 c4).tr (set_mo (Or.inl (by omega)) (by omega) (by omega) (Or.inl (by omega)))
        obtain ⟨m3, g3, ow3, C3⟩ := C2'.firstH (i := p1) (k := e.1 7 2) (n := T) r0 (by omega) n7.1 (by omega) sD sND (by omega) hTb.1 (by omega) (by omega) (by rw [s90]; decide)
        have mo3 := fst_mo (e := pSb1 p1 e) (k := e.1 7 2) (i := p1) (T := T) n7.1 (by omega) r0 (by omega) (by omega)
        have C4 := C3.when (k := e.1 7 2) (i := p1) n7.1
        have mo4 : MO e (eW (e.1 7 2) p1 (pFstH (e.1 7 2) p1 T (pSb1 p1 e))) := (mo2.tr mo3).tr (eW_mo n7.1)
        have q7 : (eW (e.1 7 2) p1 (pFstH (e.1 7 2) p1 T (pSb1 p1 e))).1 7 2 = e.1 7 2 + 1 := by
          rw [eW_a (by omega), ← s7]
          exact eS_a (by omega)
        have q8 : (eW (e.1 7 2) p1 (pFstH (e.1 7 2) p1 T (pSb1 p1 e))).1 8 2 = e.1 8 2 := by
          rw [eW_a (by omega), ← s8]
          exact eS_a (by omega)
        obtain ⟨m5, g5, ow5, C5⟩ := C4.endw r0 (by omega)
        have q75 : (pEnd p1 (eW (e.1 7 2) p1 (pFstH (e.1 7 2) p1 T (pSb1 p1 e)))).1 7 2 = e.1 7 2 + 1 := by rw [end_a (by omega)]; exact q7
        have e0 : m5 (ad1 7 p1) 0 = p1 := by rw [C5.rf r0 (by omega) (by decide) (by decide)]; exact (C5.run r0 (by omega)).2.2.2.2.1
        obtain ⟨m6, g6, ow6, C6⟩ := C5.parts (r := p1) (fr := 0)
        have C6' : CE m6 ow6 ad1 (pSb5 p1 T e) := C6
        have mo6 : MO e (pSb5 p1 T e) := (mo4.tr (end_mo (by omega))).tr (par_mo (by omega))
        have z7 : (pSb5 p1 T e).1 7 2 = e.1 7 2 + 1 := by rw [sb5_a n7.1 c4 (by omega) (by omega) (by omega) (by omega) (by omega) s7 s8]; exact s7
        have z6 : (pSb5 p1 T e).1 (7000 + e.1 7 2) 6 = 0 := by rw [sb5_a n7.1 c4 (by omega) (by omega) (by omega) (by omega) (by omega) s7 s8]; exact s60
        have zD : ¬ Dead (pSb5 p1 T e) (e.1 7 2) := fun hh => hh.1 z6
        have zN : hN (pSb5 p1 T e) (e.1 7 2) = T := by
          unfold hN pSb5
          rw [par_a (by rw [q75]; omega), end_a (by rw [q8]; omega), eW_a (by omega)]
          exact eS_e
        have z3 := sb5_l (T := T) r0 hne (show p1 < 1000 by omega) n7.1 c4 (c := 73) (by omega)
        have z4 := sb5_l (T := T) r0 hne (show p1 < 1000 by omega) n7.1 c4 (c := 74) (by omega)
        have zT : TmO (pSb5 p1 T e) (e.1 7 2) := by
          have z3' : eL (pSb5 p1 T e) (73000 + e.1 7 2) = [] := z3
          have z4' : eL (pSb5 p1 T e) (74000 + e.1 7 2) = [] := z4
          unfold TmO
          rw [z3', z4']
          exact ⟨rfl, fun v hv => absurd hv List.not_mem_nil⟩
        obtain ⟨kp, kp11, kp7⟩ := rsL_kp (r := e.1 7 2) (N := hN (pSb5 p1 T e) (e.1 7 2)) n7.1 (by omega) (by rw [zN]; omega) ((hN (pSb5 p1 T e) (e.1 7 2)).toNat + 1) 0 (pSb5 p1 T e) (by omega) (C6'.cn.2.1.1) zT (Int.le_refl _)
        have kp' : KpL (e.1 7 2) (pSb5 p1 T e) (pRest (e.1 7 2) (pSb5 p1 T e)) := kp
        have kp7' : (pRest (e.1 7 2) (pSb5 p1 T e)).1 7 2 = e.1 7 2 + 1 := kp7.trans z7
        have mo8 : MO (pRest (e.1 7 2) (pSb5 p1 T e)) (pSetB p1 T e) := (snd_cl (to := e.1 7 2) n7.1 (by omega) _ _ _ (by rw [kp7']; omega)).1
        obtain ⟨m7, ad7, g7, ⟨ow7, C7⟩, k7⟩ := C6'.restore (r := e.1 7 2) n7.1 (by omega) zD zT (by rw [zN]; omega) (mo6.2 hl) (hf.of mo8) (by
          have g := kp'.2.2.2.1 zT
          have g3 := hE3 g kp7'
          have g4 := g.1
          omega)
        have d77 : ad7 7 p1 = ad1 7 p1 := k7 7 p1 (Or.inl ⟨Or.inl rfl, r0, by omega⟩)
        have d7n : ad7 7 (e.1 7 2) = ad1 7 (e.1 7 2) := k7 7 _ (Or.inl ⟨Or.inl rfl, n7.1, by omega⟩)
        obtain ⟨m8, g8, ow8, C8⟩ := C7.snd (to := e.1 7 2) (q := p1) (fr := T) n7.1 (by omega) r0 (by omega) hne (kp'.2.2.2.2.1 zD) (kp'.1.2 (mo6.2 hl)) hf hTb.1
        have C8' : CE m8 ow8 ad7 (pSetB p1 T e) := C8
        have z8 : (pSetB p1 T e).1 7 2 = e.1 7 2 + 1 := by
          rw [← kp7']
          exact (snd_cl (to := e.1 7 2) n7.1 (by omega) _ _ _ (by rw [kp7']; omega)).2.1 7 (by decide) (by decide)
        have e08 : m8 (ad7 7 (e.1 7 2)) 0 = e.1 7 2 := by rw [C8'.rf n7.1 (by omega) (by decide) (by decide)]; exact (C8'.run n7.1 (by omega)).2.2.2.2.1
        have h16n : mset m1 (ad1 7 p1) 6 5 (ad1 7 (e.1 7 2)) 16 = ad1 71 (e.1 7 2) := (C2'.run n7.1 (by omega)).2.2.2.2.2.1
        have h16p : mset m1 (ad1 7 p1) 6 5 (ad1 7 p1) 16 = ad1 71 p1 := (C2'.run r0 (by omega)).2.2.2.2.2.1
        have h16q : m7 (ad1 7 p1) 16 = ad7 71 p1 := by rw [← d77]; exact (C7.run r0 (by omega)).2.2.2.2.2.1
        refine ⟨m8, ad7, ?_, ⟨ow8, C8'⟩, ?_⟩
        · rw [bd_t g1, ← d7, up_t, gd_t (C2'.rk n7.1 (by omega)), lx_p, h16n, lx_p, h16p, gd_t (C2'.his n7.1 (by omega)).sl.1, bd_t g3, bd_t g5, lx_p, e0, bd_t g6, bd_t g7, lx_p, h16q, ← d7n, bd_t g8, lx_p, e08]
        · refine fun c' i' hv => ?_
          have h1 : ad1 c' i' = ad c' i' := k1 c' i' hv
          have hv2 : LvA (pSb5 p1 T e) c' i' := hv.mono (by rw [z7]; omega) (by rw [sb5_a n7.1 c4 (by omega) (by omega) (by omega) (by omega) (by omega) s7 s8, s8]; omega) (by rw [sb5_a n7.1 c4 (by omega) (by omega) (by omega) (by omega) (by omega) s7 s8, sb1_a n7.1 (by decide) (by omega) (by omega) (by omega)]; omega) (by rw [sb5_a n7.1 c4 (by omega) (by omega) (by omega) (by omega) (by omega) s7 s8, sb1_a n7.1 (by decide) (by omega) (by omega) (by omega)]; omega) (fun t ht => by have := isT_b ht; rw [sb5_a n7.1 c4 (by omega) (by omega) (by omega) (by omega) (by omega) s7 s8, sb1_a n7.1 (by omega) (by omega) (by omega) (by omega)]; omega)
          rw [k7 c' i' hv2, h1]
      · rw [if_neg c4, if_neg c4]; exact OKc.thr C
    · rw [if_neg c3, if_neg c3, if_pos (show (0 : Int) = 0 from rfl)]; exact OKc.thr C
  · rw [if_neg c1, if_neg c1, bx_r rfl]; exact OKc.thr C
end STB
