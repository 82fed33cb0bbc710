/-! THE ENGINE: what was not handed over is lost. -/
section LSE
variable {m m' M2 m0 : MM} {ow ow' : Int → Int} {ad ad' ad1 : Int → Int → Int} {e e' e0 e1 e2 : ES} {D : Int → Prop} {a b c i j k o r v w h B t y z q lim c2 c3 p p1 p2 p3 N F : Int} {n : Nat} {x : CX} {l : List Int} {E : Int → Ev} {s S : TS} {f : Int → Int}
/-- what was sent is kept, to be sent again -/
def pLo1 (i j : Int) (e : ES) : ES := if ek (eH e i j) = 4 then eS (eLs e (75000 + i) (eL e (75000 + i) ++ [1000 * ex (eH e i j) + ey (eH e i j)])) 3 1 (e.1 3 1 + 1) else e
def pLoL (i N : Int) : Nat → Int → ES → ES
  | 0, _, e => e
  | n + 1, j, e => if j < N then pLoL i N n (j + 1) (pLo1 i j e) else e
def pLoA (i : Int) (e : ES) : ES := pLoL i (hN e i) ((hN e i - e.1 (7000 + i) 8).toNat + 1) (e.1 (7000 + i) 8) e
def pLoB (i : Int) (e : ES) : ES := if 0 < hN e i - e.1 (7000 + i) 8 then eS (pCutH i (e.1 (7000 + i) 8) e) (7000 + i) 9 (e.1 (7000 + i) 9 + 1) else e
def pLose (i : Int) (e : ES) : ES := pEnd i (pPar i (e.1 (7000 + i) 8) (pLoB i (pLoA i e)))
theorem lo1_a {u : Int} (h : a ≠ 3) : (pLo1 i j e).1 a u = e.1 a u := by
  unfold pLo1
  split
  · exact eS_a h
  · rfl
theorem lo1_2 : (pLo1 i j e).2.1 = e.2.1 ∧ (pLo1 i j e).2.2.2 = e.2.2.2 := by
  unfold pLo1
  split <;> exact ⟨rfl, rfl⟩
theorem lo1_mo (i0 : 0 ≤ i) (i1 : i < 1000) : MO e (pLo1 i j e) := by
  unfold pLo1
  split
  · exact rowadd_mo (by omega)
  · exact MO.rf
theorem lo1_l (hc : c ≠ 75000 + i) : eL (pLo1 i j e) c = eL e c := by
  unfold pLo1
  split
  · exact eLs_a hc
  · rfl
theorem loL_f (i0 : 0 ≤ i) (i1 : i < 1000) : ∀ (n : Nat) (j : Int) (e : ES), MO e (pLoL i N n j e) ∧ (∀ a u : Int, a ≠ 3 → (pLoL i N n j e).1 a u = e.1 a u) ∧ ((pLoL i N n j e).2.1 = e.2.1 ∧ (pLoL i N n j e).2.2.2 = e.2.2.2) ∧ ∀ c, c ≠ 75000 + i → eL (pLoL i N n j e) c = eL e c := by
  intro n
  induction n with
  | zero => intro j e; exact ⟨MO.rf, fun _ _ _ => rfl, ⟨rfl, rfl⟩, fun _ _ => rfl⟩
  | succ n ih =>
    intro j e
    unfold pLoL
    split
    · obtain ⟨g1, g2, g3, g4⟩ := ih (j + 1) (pLo1 i j e)
      exact ⟨(lo1_mo i0 i1).tr g1, fun a u ha => (g2 a u ha).trans (lo1_a ha), ⟨g3.1.trans lo1_2.1, g3.2.trans lo1_2.2⟩, fun c hc => (g4 c hc).trans (lo1_l hc)⟩
    · exact ⟨MO.rf, fun _ _ _ => rfl, ⟨rfl, rfl⟩, fun _ _ => rfl⟩
theorem lo1_t : ∀ c, (eL e c).length ≤ (eL (pLo1 i j e) c).length := fun c => by
  by_cases h : c = 75000 + i
  · unfold pLo1
    split
    · subst h
      have g : eL (eS (eLs e (75000 + i) (eL e (75000 + i) ++ [1000 * ex (eH e i j) + ey (eH e i j)])) 3 1 (e.1 3 1 + 1)) (75000 + i) = eL e (75000 + i) ++ [1000 * ex (eH e i j) + ey (eH e i j)] := eLs_e (e := e)
      rw [g, List.length_append]
      omega
    · exact Nat.le_refl _
  · rw [lo1_l h]
    exact Nat.le_refl _
theorem loL_t : ∀ (n : Nat) (j : Int) (e : ES) (c : Int), (eL e c).length ≤ (eL (pLoL i N n j e) c).length := by
  intro n
  induction n with
  | zero => intro j e c; exact Nat.le_refl _
  | succ n ih =>
    intro j e c
    unfold pLoL
    split
    · exact Nat.le_trans (lo1_t c) (ih _ _ c)
    · exact Nat.le_refl _
theorem cutH_mo (i0 : 0 ≤ i) (i1 : i < 1000) (n0 : 0 ≤ N) (n1 : N ≤ hN e i) : MO e (pCutH i N e) := by
  have ha : ∀ a u, a ≠ 71000 + i → (pCutH i N e).1 a u = e.1 a u := fun a u h => eS_a h
  refine ⟨⟨by rw [ha _ _ (by omega)]; omega, by rw [ha _ _ (by omega)]; omega, by rw [ha _ _ (by omega)]; omega⟩, fun hl => ?_⟩
  obtain ⟨g1, g2, g3, g4, g5, g6, g7⟩ := hl
  refine ⟨by rw [ha _ _ (by omega)]; exact g1, by rw [ha _ _ (by omega)]; exact g2, by rw [ha _ _ (by omega)]; exact g3, by rw [ha _ _ (by omega)]; exact g4, fun j j0 j1 => ?_, by rw [ha _ _ (by omega)]; exact g6, fun c j hc j0 j1 => ?_⟩
  · rw [ha _ _ (by omega)] at j1 ⊢
    by_cases c : j = i
    · subst c
      have : hN (pCutH j N e) j = N := eS_e
      rw [this]
      have := g5 j j0 j1
      omega
    · unfold hN
      rw [ha _ _ (by omega)]
      exact g5 j j0 j1
  · rw [ha _ _ (by omega)] at j1 ⊢
    exact g7 c j hc j0 j1
theorem lo1_h (H : HC m h (x.1 0) E) (j0 : 0 ≤ j) (j1 : j < x.1 0) : (0 ≤ ex (E j) ∧ ex (E j) < 524288) ∧ 0 ≤ ey (E j) ∧ ey (E j) < 1024 := by
  obtain ⟨-, ⟨b1, b2, b3, b4⟩, -⟩ := H.get j0 j1
  refine ⟨⟨Int.natCast_nonneg _, ?_⟩, Int.natCast_nonneg _, ?_⟩
  · have : (E j).2.1 < 524288 := b2
    show (((E j).2.1 : Nat) : Int) < 524288
    omega
  · have : (E j).2.2.1 < 1024 := b3
    show (((E j).2.2.1 : Nat) : Int) < 1024
    omega
theorem lo_l (i0 : 0 ≤ i) {K : MM → Option (Int × MM)} : ∀ (n f : Nat) (j : Int) (m : MM) (ow : Int → Int) (e : ES), CE m ow ad e → i < e.1 7 2 → hN e i = N → 0 ≤ j → j ≤ N → N < 268435456 → BDl e → BDf (pLoL i N n j e) → N - j < n → n ≤ f → (eL (pLoL i N n j e) (75000 + i)).length ≤ 4096 → ∃ m', fl_X11_loseEvents_21 (ad 7 i) (ad 71 i) z K f j m = K m' ∧ CX1 m' ad (pLoL i N n j e) := by
  intro n
  induction n with
  | zero =>
    intro f j m ow e C i1 hN' j0 j9 hN9 hl hf h1 h2 hE
    omega
  | succ n ih =>
    intro f j m ow e C i1 hN' j0 j9 hN9 hl hf h1 h2 hE
    obtain ⟨f, rfl⟩ : ∃ g, f = g + 1 := ⟨f - 1, by omega⟩
    have n7 := C.cn.1
    obtain ⟨s1, s2, -⟩ := (C.his i0 i1).sl
    unfold pLoL at hf hE ⊢
    rw [fl_X11_loseEvents_21, gd_t s1, lx_p, s2, hN']
    by_cases c : j < N
    · rw [if_pos c] at hf hE ⊢
      rw [if_pos c]
      have hE1 := loL_t (i := i) (N := N) n (j + 1) (pLo1 i j e) (75000 + i)
      have H := C.hx i0 i1
      have hj : j < (pX e i).1 0 := by show j < hN e i; omega
      have hk : fm_X2_kind (ad 71 i) j m = some (ek (eH e i j)) := kind_e H j0 hj
      have hx : fm_X2_x (ad 71 i) j m = some (ex (eH e i j)) := x_e H j0 hj
      have hy : fm_X2_y (ad 71 i) j m = some (ey (eH e i j)) := y_e H j0 hj
      have hb : (0 ≤ ex (eH e i j) ∧ ex (eH e i j) < 524288) ∧ 0 ≤ ey (eH e i j) ∧ ey (eH e i j) < 1024 := lo1_h H j0 hj
      have hw : w32 (j + 1) = j + 1 := w32_id (by omega) (by omega)
      have hr := (loL_f (N := N) i0 (show i < 1000 by omega) n (j + 1) (pLo1 i j e)).1
      have go : ∀ (m1 : MM) (ow1 : Int → Int), CE m1 ow1 ad (pLo1 i j e) → ∃ m', fl_X11_loseEvents_21 (ad 7 i) (ad 71 i) z K f (j + 1) m1 = K m' ∧ CX1 m' ad (pLoL i N n (j + 1) (pLo1 i j e)) := fun m1 ow1 C1 =>
        ih f (j + 1) m1 ow1 _ C1 (by rw [lo1_a (by decide)]; exact i1) (by unfold hN; rw [lo1_a (by omega)]; exact hN') (by omega) (by omega) hN9 ((lo1_mo i0 (by omega)).2 hl) hf (by omega) (by omega) hE
      rw [bp_t hk]
      by_cases c4 : ek (eH e i j) = 4
      · have hq : pLo1 i j e = eS (eLs e (75000 + i) (eL e (75000 + i) ++ [1000 * ex (eH e i j) + ey (eH e i j)])) 3 1 (e.1 3 1 + 1) := if_pos c4
        have lv := C.lv7 (c := 75) (i := i) (by omega) i0 i1
        have b3 := hl.2.2.2.2.2.2 75 i (by omega) i0 i1
        have hf3 := (hf.of hr).2.2
        have e31 : (pLo1 i j e).1 3 1 = e.1 3 1 + 1 := by rw [hq]; exact eS_e
        rw [e31] at hf3
        have hlen : (eL (pLo1 i j e) (75000 + i)).length = (eL e (75000 + i)).length + 1 := by
          rw [hq]
          have g : eL (eS (eLs e (75000 + i) (eL e (75000 + i) ++ [1000 * ex (eH e i j) + ey (eH e i j)])) 3 1 (e.1 3 1 + 1)) (75000 + i) = eL e (75000 + i) ++ [1000 * ex (eH e i j) + ey (eH e i j)] := eLs_e (e := e)
          rw [g, List.length_append]
          rfl
        obtain ⟨m1, g1, ow1, C1⟩ := C.add (v := 1000 * ex (eH e i j) + ey (eH e i j)) lv (by show ((eL e (75000 + i)).length : Int) < 64 * 64; omega)
        have C2 := C1.gS (o := 3) (j := 1) (v := e.1 3 1 + 1) (by omega)
        have C3 : CE m1 ow1 ad (pLo1 i j e) := by rw [hq]; exact C2
        rw [if_pos c4, gd_t (C.rk i0 i1), lx_p, (C.run i0 i1).2.2.2.2.2.2.2.2, bp_t hx, bp_t hy, gd_t (C.okr lv).1, w32_id (z := 1000 * ex (eH e i j)) (by omega) (by omega), w32_id (z := 1000 * ex (eH e i j) + ey (eH e i j)) (by omega) (by omega), bd_t g1, lx_p, hw]
        exact go m1 ow1 C3
      · have hq : pLo1 i j e = e := if_neg c4
        have C3 := C
        rw [← hq] at C3
        rw [if_neg c4, lx_p, hw]
        exact go m ow C3
    · rw [if_neg c, if_neg c]
      exact ⟨m, rfl, ow, C⟩
theorem loB_mo (i0 : 0 ≤ i) (i1 : i < 1000) (h0 : 0 ≤ e.1 (7000 + i) 8) : MO e (pLoB i e) := by
  unfold pLoB
  split
  · exact (cutH_mo i0 i1 h0 (by omega)).tr (set_mo (Or.inl (by omega)) (by omega) (by omega) (Or.inl (by omega)))
  · exact MO.rf
theorem loB_a {u : Int} (h1 : a ≠ 71000 + i) (h2 : a ≠ 7000 + i ∨ u ≠ 9) : (pLoB i e).1 a u = e.1 a u := by
  unfold pLoB
  split
  · by_cases c : a = 7000 + i
    · subst c
      rw [eS_j (by omega)]
      exact eS_a h1
    · rw [eS_a c]
      exact eS_a h1
  · rfl
theorem lose_mo (i0 : 0 ≤ i) (i1 : i < 1000) (h0 : 0 ≤ e.1 (7000 + i) 8) (h7 : e.1 7 2 ≤ 1000) (h8 : e.1 8 2 ≤ 1000) : MO (pLoA i e) (pLose i e) ∧ MO e (pLoA i e) := by
  obtain ⟨g1, g2, g3, g4⟩ := loL_f (N := hN e i) i0 i1 ((hN e i - e.1 (7000 + i) 8).toNat + 1) (e.1 (7000 + i) 8) e
  have a8 : (pLoA i e).1 (7000 + i) 8 = e.1 (7000 + i) 8 := g2 _ _ (by omega)
  have a72 : (pLoA i e).1 7 2 = e.1 7 2 := g2 _ _ (by omega)
  have a82 : (pLoA i e).1 8 2 = e.1 8 2 := g2 _ _ (by omega)
  have hB := loB_mo (e := pLoA i e) i0 i1 (by rw [a8]; exact h0)
  have b72 : (pLoB i (pLoA i e)).1 7 2 = e.1 7 2 := by rw [loB_a (by omega) (by omega)]; exact a72
  have b82 : (pLoB i (pLoA i e)).1 8 2 = e.1 8 2 := by rw [loB_a (by omega) (by omega)]; exact a82
  refine ⟨hB.tr ((par_mo (by rw [b72]; exact h7)).tr (end_mo ?_)), g1⟩
  rw [par_a (by omega), b82]
  exact h8
theorem lo93 (C : CE m ow ad e) (i0 : 0 ≤ i) (i1 : i < e.1 7 2) : ∃ m', fj_X11_loseEvents_93 (ad 7 i) z m = some (z, m') ∧ CX1 m' ad (pEnd i (pPar i (e.1 (7000 + i) 8) e)) := by
  have e0 : m (ad 7 i) 0 = i := by rw [C.rf i0 i1 (by decide) (by decide)]; exact (C.run i0 i1).2.2.2.2.1
  have e8 : m (ad 7 i) 8 = e.1 (7000 + i) 8 := C.rf i0 i1 (by decide) (by decide)
  obtain ⟨m1, g1, ow1, C1⟩ := C.parts (r := i) (fr := e.1 (7000 + i) 8)
  have d7 : i < (pPar i (e.1 (7000 + i) 8) e).1 7 2 := by rw [par_a (by omega)]; exact i1
  obtain ⟨m2, k1, k2⟩ := C1.endw i0 d7
  refine ⟨m2, ?_, k2⟩
  unfold fj_X11_loseEvents_93
  rw [gd_t (C.rk i0 i1), lx_p, e0, lx_p, e8, bd_t g1, bd_t k1]
theorem lose_e (C : CE m ow ad e) (i0 : 0 ≤ i) (i1 : i < e.1 7 2) (hd : ¬ Dead e i) (h8 : 0 ≤ e.1 (7000 + i) 8 ∧ e.1 (7000 + i) 8 ≤ hN e i) (h9 : 0 ≤ e.1 (7000 + i) 9 ∧ e.1 (7000 + i) 9 < 1000000) (hN9 : hN e i < 268435456) (hl : BDl e) (hf : BDf (pLose i e)) (hE : (eL (pLoA i e) (75000 + i)).length ≤ 4096) : ∃ m', fm_X11_loseEvents (ad 7 i) m = some (hN e i - e.1 (7000 + i) 8, m') ∧ CX1 m' ad (pLose i e) := by
  have n7 := C.cn.1
  have n8 := C.cn.2.1
  obtain ⟨s1, s2, -⟩ := (C.his i0 i1).sl
  have e8 : m (ad 7 i) 8 = e.1 (7000 + i) 8 := C.rf i0 i1 (by decide) (by decide)
  obtain ⟨mo1, mo0⟩ := lose_mo (e := e) i0 (show i < 1000 by omega) h8.1 (by omega) (by omega)
  obtain ⟨g1, g2, g3, g4⟩ := loL_f (N := hN e i) i0 (show i < 1000 by omega) ((hN e i - e.1 (7000 + i) 8).toNat + 1) (e.1 (7000 + i) 8) e
  obtain ⟨m1, k1, ow1, C1⟩ := lo_l (ad := ad) (z := hN e i - e.1 (7000 + i) 8) i0 (K := fun m_147 =>
if 0 < hN e i - e.1 (7000 + i) 8 then
lx (m_147 (ad 7 i) 8) fun x_192 =>
bd (fm_X2_cut (ad 71 i) x_192 m_147) fun x_196 m_197 =>
lx (m_197 (ad 7 i) 9) fun x_211 =>
up m_197 (ad 7 i) 9 (w32 (x_211 + 1)) fun m_217 =>
fj_X11_loseEvents_93 (ad 7 i) (hN e i - e.1 (7000 + i) 8) m_217
else
fj_X11_loseEvents_93 (ad 7 i) (hN e i - e.1 (7000 + i) 8) m_147) ((hN e i - e.1 (7000 + i) 8).toNat + 1) BIG (e.1 (7000 + i) 8) m ow e C i1 rfl h8.1 h8.2 hN9 hl (hf.of mo1) (by omega) (Nat.le_of_lt (BIG_g (by omega))) hE
  have C1' : CE m1 ow1 ad (pLoA i e) := C1
  have ga : ∀ a u : Int, a ≠ 3 → (pLoA i e).1 a u = e.1 a u := g2
  have a72 : i < (pLoA i e).1 7 2 := by rw [ga _ _ (by decide)]; exact i1
  have a8 : (pLoA i e).1 (7000 + i) 8 = e.1 (7000 + i) 8 := ga _ _ (by omega)
  have a9 : (pLoA i e).1 (7000 + i) 9 = e.1 (7000 + i) 9 := ga _ _ (by omega)
  have aN : hN (pLoA i e) i = hN e i := ga _ _ (by omega)
  have aD : ¬ Dead (pLoA i e) i := fun hh => hd (by
    unfold Dead at hh ⊢
    rw [ga _ _ (by omega)] at hh
    exact hh)
  have m8 : m1 (ad 7 i) 8 = e.1 (7000 + i) 8 := by rw [C1'.rf i0 a72 (by decide) (by decide)]; exact a8
  have fin : ∃ m', (if 0 < hN e i - e.1 (7000 + i) 8 then
lx (m1 (ad 7 i) 8) fun x_192 =>
bd (fm_X2_cut (ad 71 i) x_192 m1) fun x_196 m_197 =>
lx (m_197 (ad 7 i) 9) fun x_211 =>
up m_197 (ad 7 i) 9 (w32 (x_211 + 1)) fun m_217 =>
fj_X11_loseEvents_93 (ad 7 i) (hN e i - e.1 (7000 + i) 8) m_217
else
fj_X11_loseEvents_93 (ad 7 i) (hN e i - e.1 (7000 + i) 8) m1) = some (hN e i - e.1 (7000 + i) 8, m') ∧ CX1 m' ad (pLose i e) := by
    unfold pLose pLoB
    rw [aN, a8, a9]
    by_cases c : 0 < hN e i - e.1 (7000 + i) 8
    · obtain ⟨m2, q1, m9, ow3, C3'⟩ := C1'.cutH9 (n := e.1 (7000 + i) 8) i0 a72 aD h8.1 (by rw [aN]; exact h8.2)
      have d7 : i < (pCutH i (e.1 (7000 + i) 8) (pLoA i e)).1 7 2 := by
        unfold pCutH
        rw [eS_a (by omega)]
        exact a72
      rw [a9] at m9 C3'
      have C3 : CE (mset m2 (ad 7 i) 9 (e.1 (7000 + i) 9 + 1)) ow3 ad (eS (pCutH i (e.1 (7000 + i) 8) (pLoA i e)) (7000 + i) 9 (e.1 (7000 + i) 9 + 1)) := C3'
      have d73 : i < (eS (pCutH i (e.1 (7000 + i) 8) (pLoA i e)) (7000 + i) 9 (e.1 (7000 + i) 9 + 1)).1 7 2 := by rw [eS_a (by omega)]; exact d7
      obtain ⟨m4, u1, u2⟩ := lo93 (z := hN e i - e.1 (7000 + i) 8) C3 i0 d73
      have f8 : (eS (pCutH i (e.1 (7000 + i) 8) (pLoA i e)) (7000 + i) 9 (e.1 (7000 + i) 9 + 1)).1 (7000 + i) 8 = e.1 (7000 + i) 8 := by
        rw [eS_j (by decide)]
        unfold pCutH
        rw [eS_a (by omega)]
        exact a8
      rw [f8] at u2
      rw [if_pos c, if_pos c, lx_p, m8, bd_t q1, lx_p, m9, w32_id (by omega) (by omega), up_t]
      exact ⟨m4, u1, u2⟩
    · rw [if_neg c, if_neg c]
      obtain ⟨m4, u1, u2⟩ := lo93 (z := hN e i - e.1 (7000 + i) 8) C1' i0 a72
      rw [a8] at u2
      exact ⟨m4, u1, u2⟩
  obtain ⟨m2, q1, q2⟩ := fin
  refine ⟨m2, ?_, q2⟩
  unfold fm_X11_loseEvents
  rw [gd_t (C.rk i0 i1), lx_p, (C.run i0 i1).2.2.2.2.2.1, gd_t s1, lx_p, s2, lx_p, e8, lx_p, w32_id (by omega) (by omega), k1]
  exact q1
end LSE
