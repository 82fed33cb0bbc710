/-! THE ENGINE: what new commands do: activities, children, drops, tags; signals that come again. -/
section CRY
variable {m m' M2 : MM} {ow ow' : Int → Int} {ad ad' : Int → Int → Int} {e e' e1 e2 : ES} {D : Int → Prop} {a b c i j k o r v n h N B t x y z p q tn par pe inp fr p1 p2 p3 p4 p5 p6 kd ln : Int} {l : List Int} {E : Int → Ev} {s : TS} {f : Int → Int}
theorem new_mo (h8 : 8 ≤ c) (h10 : c ≤ 10) (hn : 0 ≤ e.1 c 2) (hn2 : e.1 c 2 < 1000) : MO e (pNew c f e) := by
  have e4 : ∀ a u, (a = 3 ∨ a = 4 ∨ a = 7 ∨ 71000 ≤ a) → (pNew c f e).1 a u = e.1 a u := fun a u ha => pNew_a (by omega) (by omega)
  refine ⟨⟨by rw [e4 _ _ (by omega)]; omega, by rw [e4 _ _ (by omega)]; omega, by rw [e4 _ _ (by omega)]; omega⟩, fun ⟨g1, g2, g3, g4, g5, g6, g7⟩ => ⟨by rw [e4 _ _ (by omega)]; exact g1, by rw [e4 _ _ (by omega)]; exact g2, by rw [e4 _ _ (by omega)]; exact g3, by rw [e4 _ _ (by omega)]; exact g4, fun i j0 j1 => ?_, by rw [e4 _ _ (by omega)]; exact g6, fun c' i hc j0 j1 => ?_⟩⟩
  · rw [e4 _ _ (by omega)] at j1
    unfold hN
    rw [e4 _ _ (by omega), e4 _ _ (by omega)]
    exact g5 i j0 j1
  · rw [e4 _ _ (by omega)] at j1
    rw [e4 _ _ (by omega)]
    exact g7 c' i hc j0 j1
/-- an activity is made; FAILED comes where there are too many -/
def pMakA (i ev k x : Int) (e : ES) : ES := if e.1 8 2 < 60 then pNew 8 (fAct i ev k x (e.1 4 14)) e else pArr i 2 ev 0 e
theorem makA_mo (i0 : 0 ≤ i) (i1 : i < 1000) (h8 : 0 ≤ e.1 8 2) : MO e (pMakA i o k x e) := by
  unfold pMakA
  split
  · exact new_mo (by decide) (by decide) h8 (by omega)
  · exact arr_mo i0 i1
theorem CE.makA (C : CE m ow ad e) (i0 : 0 ≤ i) (i1 : i < e.1 7 2) (hd : ¬ Dead e i) (hl : BDl e) (hf : BDf (pMakA i o k x e)) (o0 : 0 ≤ o) (o1 : o < 524288) : ∃ m' ad', fm_X11_makeActivity (ad 7 i) o k x m = some (0, m') ∧ CX1 m' ad' (pMakA i o k x e) ∧ AG e ad ad' := by
  have h163 := C.fix.1
  unfold fm_X11_makeActivity
  unfold pMakA at hf ⊢
  rw [bp_t (C.size (by decide) (by decide))]
  by_cases c : e.1 8 2 < 60
  · rw [if_pos c] at hf ⊢
    rw [if_pos c]
    obtain ⟨M2, m1, ad1, g1, g2, g3, g4⟩ := C.addAct (p2 := o) (p3 := k) (p4 := x) (p5 := e.1 4 14) c i0 i1
    refine ⟨m1, ad1, ?_, g3, g4⟩
    rw [nw_t, lx_p, mn_o (by omega) (by decide), C.g4 (by decide) (by decide), bd_t g1, bd_t g2]
  · rw [if_neg c] at hf ⊢
    rw [if_neg c]
    obtain ⟨m1, g1, g2⟩ := C.arr (k := 2) (x := o) (y := 0) i0 i1 hd (hl.bd i0 hf) (by decide) (by decide) o0 o1 (by decide) (by decide)
    exact ⟨m1, ad, by rw [bd_t g1], g2, AG.rf⟩
/-- a child is begun; BROKEN comes where that can't be -/
def pChi (i ev t x : Int) (e : ES) : ES := if e.1 7 2 < 30 ∧ 0 < e.1 (48 + 4 * t + 1) 2 then pStart t (e.1 (7000 + i) 2) x i ev e else pArr i 6 ev 0 e
theorem chi_mo (i0 : 0 ≤ i) (i1 : i < 1000) (h7 : 0 ≤ e.1 7 2) : MO e (pChi i o t x e) := by
  unfold pChi
  split
  · rename_i c
    exact start_mo h7 c.1
  · exact arr_mo i0 i1
theorem CE.chi (C : CE m ow ad e) (i0 : 0 ≤ i) (i1 : i < e.1 7 2) (hd : ¬ Dead e i) (hl : BDl e) (hf : BDf (pChi i o t x e)) (o0 : 0 ≤ o) (o1 : o < 524288) (t0 : 0 ≤ t) (t1 : t < 4) (x0 : 0 ≤ x) (x1 : x < 1000) : ∃ m' ad', fm_X11_beginChild (ad 7 i) o t x m = some (0, m') ∧ CX1 m' ad' (pChi i o t x e) ∧ AG e ad ad' := by
  have ht := isT_4 t0 t1
  have hc := C.cn.2.2.2.2 _ ht
  unfold fm_X11_beginChild
  unfold pChi at hf ⊢
  rw [bp_t (C.size (by decide) (by decide))]
  have last : ¬ (e.1 7 2 < 30 ∧ 0 < e.1 (48 + 4 * t + 1) 2) → ∃ m' ad', fj_X11_beginChild_35 (ad 7 i) o m = some (0, m') ∧ CX1 m' ad' (if e.1 7 2 < 30 ∧ 0 < e.1 (48 + 4 * t + 1) 2 then pStart t (e.1 (7000 + i) 2) x i o e else pArr i 6 o 0 e) ∧ AG e ad ad' := fun c => by
    rw [if_neg c] at hf ⊢
    obtain ⟨m1, g1, g2⟩ := C.arr (k := 6) (x := o) (y := 0) i0 i1 hd (hl.bd i0 hf) (by decide) (by decide) o0 o1 (by decide) (by decide)
    exact ⟨m1, ad, by unfold fj_X11_beginChild_35; rw [bd_t g1], g2, AG.rf⟩
  by_cases c : e.1 7 2 < 30
  · rw [if_pos c, bp_t (fmod_e (by omega) (by omega) (by decide) (by decide)), Int.emod_eq_of_lt t0 t1, gd_t ⟨t0, t1⟩, lx_p, (ar5 C.fix t0 t1).1, gd_t (C.tk ht), lx_p, ty0 C.fix ht, gd_t (C.vk ht), bp_t (C.ver ht).empty]
    by_cases c2 : e.1 (48 + 4 * t + 1) 2 = 0
    · rw [if_pos c2, if_neg (by decide)]
      exact last fun hh => by omega
    · have cc : e.1 7 2 < 30 ∧ 0 < e.1 (48 + 4 * t + 1) 2 := ⟨c, by omega⟩
      rw [if_pos cc] at hf
      rw [if_neg c2, if_pos rfl, if_pos cc]
      obtain ⟨m1, ad1, g1, g2, g3⟩ := C.start (tn := e.1 (7000 + i) 2) (par := i) (pe := o) hl c t0 t1 x0 x1 hf
      have e0 : m (ad 7 i) 0 = i := by rw [C.rf i0 i1 (by decide) (by decide)]; exact (C.run i0 i1).2.2.2.2.1
      have e2 : m (ad 7 i) 2 = e.1 (7000 + i) 2 := C.rf i0 i1 (by decide) (by decide)
      refine ⟨m1, ad1, ?_, g2, g3⟩
      rw [gd_t (C.rk i0 i1), lx_p, e2, lx_p, e0, bd_t g1]
  · rw [if_neg c]
    exact last fun hh => c hh.1
/-- a tag goes into the queue -/
def pQT (i x : Int) (e : ES) : ES := eS (if (eL e 14).length < 51200 then eLs e 14 (eL e 14 ++ [i * 1000 + x]) else e) 4 11 (e.1 4 11 + 1)
theorem qt_mo : MO e (pQT i x e) := by
  unfold pQT
  split
  · exact (row_mo (Or.inr (Or.inl (by decide)))).tr (set_mo (Or.inr (by decide)) (by decide) (by decide) (Or.inl (by decide)))
  · exact set_mo (Or.inr (by decide)) (by decide) (by decide) (Or.inl (by decide))
theorem CE.qt (C : CE m ow ad e) (i0 : 0 ≤ i) (i1 : i < e.1 7 2) (x0 : 0 ≤ x) (x1 : x < 1000) (h11 : 0 ≤ e.1 4 11 ∧ e.1 4 11 < 2147483647) : ∃ m', fm_X11_queueTag (ad 7 i) x m = some (0, m') ∧ CX1 m' ad (pQT i x e) := by
  have lv : LvR e 0 14 := Or.inl ⟨rfl, rfl⟩
  have a14 : ad 0 14 = 14 := C.1.2.2.2.1.2
  have hs := C.okr lv
  rw [a14] at hs
  have hs2 : m 14 2 = ((eL e 14).length : Int) := hs.2
  have n7 := C.cn.1
  unfold fm_X11_queueTag pQT
  rw [lx_p, hs2]
  by_cases c : ((eL e 14).length : Int) < 51200
  · rw [if_pos c, if_pos (by omega)]
    obtain ⟨m1, g1, ow1, C1⟩ := C.add (v := i * 1000 + x) lv (by show ((eL e 14).length : Int) < 64 * 800; omega)
    rw [a14] at g1
    have e0 : m (ad 7 i) 0 = i := by rw [C.rf i0 i1 (by decide) (by decide)]; exact (C.run i0 i1).2.2.2.2.1
    have e11 : m1 4 11 = e.1 4 11 := C1.g4 (by decide) (by decide)
    refine ⟨_, ?_, ow1, C1.sG (o := 4) (j := 11) (v := e.1 4 11 + 1) (by omega)⟩
    rw [gd_t (C.rk i0 i1), lx_p, e0, w32_id (z := i * 1000) (by omega) (by omega), w32_id (z := i * 1000 + x) (by omega) (by omega), bd_t g1]
    unfold fj_X11_queueTag_31
    rw [lx_p, e11, w32_id (by omega) (by omega), up_t]
  · rw [if_neg c, if_neg (by omega)]
    refine ⟨_, ?_, ow, C.sG (o := 4) (j := 11) (v := e.1 4 11 + 1) (by omega)⟩
    unfold fj_X11_queueTag_31
    rw [lx_p, C.g4 (by decide) (by decide), w32_id (by omega) (by omega), up_t]
/-- the activities of an event are over -/
def pDrAL (r ev : Int) : Nat → Int → ES → ES
  | 0, _, e => e
  | n + 1, i, e => if i < e.1 8 2 then pDrAL r ev n (i + 1) (if e.1 (8000 + i) 0 = r ∧ e.1 (8000 + i) 1 = ev then eS e (8000 + i) 5 2 else e) else e
theorem drA_a : ∀ (n : Nat) (i : Int) (e : ES), 0 ≤ i → e.1 8 2 ≤ 1000 → MO e (pDrAL r v n i e) ∧ (pDrAL r v n i e).2 = e.2 ∧ ∀ a u, (a < 8000 ∨ 8000 + e.1 8 2 ≤ a ∨ u ≠ 5) → (pDrAL r v n i e).1 a u = e.1 a u := by
  intro n
  induction n with
  | zero => intro i e _ _; exact ⟨MO.rf, rfl, fun _ _ _ => rfl⟩
  | succ n ih =>
    intro i e i0 h8
    unfold pDrAL
    split
    · rename_i c
      split
      · obtain ⟨h0, h1, h2⟩ := ih (i + 1) (eS e (8000 + i) 5 2) (by omega) (by rw [(set8_n i0).1]; exact h8)
        rw [(set8_n i0).1] at h2
        refine ⟨(set_mo (j := 5) (v := 2) (Or.inl (by omega)) (by omega) (by omega) (Or.inl (by omega))).tr h0, h1, fun a u hh => ?_⟩
        rw [h2 a u hh]
        by_cases ca : a = 8000 + i
        · rw [ca, eS_j (by omega)]
        · exact eS_a ca
      · exact ih _ _ (by omega) h8
    · exact ⟨MO.rf, rfl, fun _ _ _ => rfl⟩
theorem drA_l (hr : 0 ≤ r) {K : MM → Option (Int × MM)} : ∀ (n f : Nat) (i : Int) (m : MM) (ow : Int → Int) (e : ES), CE m ow ad e → r < e.1 7 2 → 0 ≤ i → i ≤ e.1 8 2 → e.1 8 2 - i < n → n ≤ f → ∃ m', fl_X11_dropEvent_2 (ad 7 r) v K f i m = K m' ∧ CX1 m' ad (pDrAL r v n i e) := by
  intro n
  induction n with
  | zero => intro f i m ow e C r1 i0 i9 h1 h2; omega
  | succ n ih =>
    intro f i m ow e C r1 i0 i9 h1 h2
    obtain ⟨f, rfl⟩ : ∃ g, f = g + 1 := ⟨f - 1, by omega⟩
    unfold fl_X11_dropEvent_2 pDrAL
    rw [bp_t (C.size (by decide) (by decide))]
    have n8 := C.cn.2.1
    by_cases c1 : i < e.1 8 2
    · obtain ⟨q1, q2, q3⟩ := C.arun i0 c1
      have ha := C.run q2 q3
      have hr4 := (C.run hr r1).2.1
      rw [if_pos c1, if_pos c1, bp_t (C.get (by decide) (by decide) i0 c1), gd_t (C.act i0 c1).1, lx_p, q1, gd_t (Or.inr (Or.inr (by have := ha.2.1; omega))), gd_t (Or.inr (Or.inr (by omega)))]
      by_cases c2 : e.1 (8000 + i) 0 = r
      · rw [if_pos (by rw [c2]), lx_p, C.af i0 c1 (by decide) (by decide)]
        by_cases c3 : e.1 (8000 + i) 1 = v
        · rw [if_pos c3, if_pos (show e.1 (8000 + i) 0 = r ∧ e.1 (8000 + i) 1 = v from ⟨c2, c3⟩), up_t, lx_p, w32_id (by omega) (by omega)]
          have C1 := C.s8 (v := 2) i0 c1 (j := 5) (by decide) (by decide)
          have hs := set8_n (e := e) (j := 5) (v := 2) i0
          exact ih f (i + 1) _ ow _ C1 (by rw [hs.2]; exact r1) (by omega) (by rw [hs.1]; omega) (by rw [hs.1]; omega) (by omega)
        · rw [if_neg c3, if_neg (show ¬ (e.1 (8000 + i) 0 = r ∧ e.1 (8000 + i) 1 = v) from fun h => c3 h.2), lx_p, w32_id (by omega) (by omega)]
          exact ih f (i + 1) m ow e C r1 (by omega) (by omega) (by omega) (by omega)
      · rw [if_neg (fun hh => c2 (C.rinj q2 q3 hr r1 hh)), if_neg (show ¬ (e.1 (8000 + i) 0 = r ∧ e.1 (8000 + i) 1 = v) from fun h => c2 h.1), lx_p, w32_id (by omega) (by omega)]
        exact ih f (i + 1) m ow e C r1 (by omega) (by omega) (by omega) (by omega)
    · rw [if_neg c1, if_neg c1]
      exact ⟨m, rfl, ow, C⟩
/-- what stays of the runs and the code -/
def SF (e e' : ES) : Prop := (∀ c : Int, 7 ≤ c → c ≤ 10 → e'.1 c 2 = e.1 c 2) ∧ (∀ i : Int, 0 ≤ i → i < e.1 7 2 → (∀ j : Int, (0 ≤ j ∧ j ≤ 3) ∨ j = 5 → e'.1 (7000 + i) j = e.1 (7000 + i) j) ∧ (Dead e i → Dead e' i)) ∧ (∀ t : Int, 48 ≤ t → t ≤ 61 → e'.1 t 2 = e.1 t 2) ∧ e'.1 4 14 = e.1 4 14
def CL (e e' : ES) : Prop := MO e e' ∧ SF e e'
theorem SF.rf : SF e e := ⟨fun _ _ _ => rfl, fun _ _ _ => ⟨fun _ _ => rfl, id⟩, fun _ _ _ => rfl, rfl⟩
theorem SF.tr (h : SF e e1) (k : SF e1 e2) : SF e e2 := ⟨fun c h1 h2 => (k.1 c h1 h2).trans (h.1 c h1 h2), fun i i0 i1 => ⟨fun j hj => ((k.2.1 i i0 (by rw [h.1 7 (by decide) (by decide)]; exact i1)).1 j hj).trans ((h.2.1 i i0 i1).1 j hj), fun g => (k.2.1 i i0 (by rw [h.1 7 (by decide) (by decide)]; exact i1)).2 ((h.2.1 i i0 i1).2 g)⟩, fun t h1 h2 => (k.2.2.1 t h1 h2).trans (h.2.2.1 t h1 h2), k.2.2.2.trans h.2.2.2⟩
theorem CL.rf : CL e e := ⟨MO.rf, SF.rf⟩
theorem CL.tr (h : CL e e1) (k : CL e1 e2) : CL e e2 := ⟨h.1.tr k.1, h.2.tr k.2⟩
theorem SF.of (h : ∀ a u, (4 ≤ a ∧ a < 62) ∨ (7000 ≤ a ∧ a < 7000 + e.1 7 2 ∧ ((0 ≤ u ∧ u ≤ 3) ∨ u = 5 ∨ u = 6)) → (a = 4 → u = 14) → e'.1 a u = e.1 a u) : SF e e' := by
  refine ⟨fun c h1 h2 => h c 2 (by omega) (by omega), fun i i0 i1 => ⟨fun j hj => h _ j (by omega) (by omega), fun g => ?_⟩, fun t h1 h2 => h t 2 (by omega) (by omega), h 4 14 (by omega) (fun _ => rfl)⟩
  unfold Dead
  rw [h (7000 + i) 6 (by omega) (by omega)]
  exact g
theorem arr_cl (i0 : 0 ≤ i) (i1 : i < 1000) (h7 : e.1 7 2 ≤ 1000) : CL e (pArr i k x y e) := ⟨arr_mo i0 i1, SF.of fun a u ha hb => arr_a (by omega) (by omega) (by omega) (by omega) (by omega)⟩
theorem can_cl (i0 : 0 ≤ i) (i1 : i < 1000) (h7 : e.1 7 2 ≤ 1000) : CL e (pCan i e).2 := by
  unfold pCan
  split
  · exact CL.rf
  · exact arr_cl i0 i1 h7
theorem end_cl (h8 : e.1 8 2 ≤ 1000) (h7 : e.1 7 2 ≤ 1000) : CL e (pEnd i e) := ⟨end_mo h8, SF.of fun a u ha hb => end_a (by omega)⟩
theorem drA_cl {n : Nat} (h8 : e.1 8 2 ≤ 1000) (h7 : e.1 7 2 ≤ 1000) : CL e (pDrAL r v n 0 e) := ⟨(drA_a n 0 e (by decide) h8).1, SF.of fun a u ha hb => (drA_a n 0 e (by decide) h8).2.2 a u (by omega)⟩
theorem drT_cl : CL e (pDrT r v e) := ⟨drT_mo, SF.of fun a u _ _ => by rw [drT_1]⟩
/-- a run's status, for good -/
theorem stat_cl (i0 : 0 ≤ i) (i1 : i < 1000) (hv : v ≠ 0 ∧ v ≠ 6) : CL e (eS e (7000 + i) 6 v) := by
  refine ⟨set_mo (Or.inl (by omega)) (by omega) (by omega) (Or.inl (by omega)), fun c h1 h2 => eS_a (by omega), fun j j0 j1 => ⟨fun u hu => ?_, fun g => ?_⟩, fun t h1 h2 => eS_a (by omega), eS_a (by omega)⟩
  · by_cases c : j = i
    · subst c
      exact eS_j (by omega)
    · exact eS_a (by omega)
  · by_cases c : j = i
    · subst c
      unfold Dead
      rw [eS_e]
      exact hv
    · exact (Dead.set (Or.inl (by omega))).mpr g
theorem par_cl (i0 : 0 ≤ i) (i1 : i < 1000) : CL e (eS e (7000 + i) 4 v) := by
  refine ⟨set_mo (Or.inl (by omega)) (by omega) (by omega) (Or.inl (by omega)), fun c h1 h2 => eS_a (by omega), fun j j0 j1 => ⟨fun u hu => ?_, fun g => (Dead.set (Or.inr (by decide))).mpr g⟩, fun t h1 h2 => eS_a (by omega), eS_a (by omega)⟩
  · by_cases c : j = i
    · subst c
      exact eS_j (by omega)
    · exact eS_a (by omega)
end CRY
