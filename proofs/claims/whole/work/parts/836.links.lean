/-! LINKS: who is under way refers to an open event of its run, and all histories are as they should be: what is said; an event is put. -/
section LNK
variable {e e' e1 : ES} {W W' : Int → Int → Prop} {X X' : Int → Int → Int → Prop} {S D T S' D' T' : Int} {a b c i j k q r v w n N p x y t o : Int} {ev : Ev} {E : Int → Ev}
/-- who is under way: what is set aside (X), an activity, a timer, a child -/
def Lk (X : Int → Int → Int → Prop) (e : ES) (k q v w : Int) : Prop :=
  (w = -1 ∧ X k q v) ∨ (k = 8 ∧ (0 ≤ w ∧ w < e.1 8 2) ∧ e.1 (8000 + w) 5 ≠ 2 ∧ e.1 (8000 + w) 0 = q ∧ e.1 (8000 + w) 1 = v) ∨
  (k = 9 ∧ w = 0 ∧ (0 ≤ q ∧ q < e.1 7 2) ∧ v ∈ eL e (73000 + q)) ∨
  (k = 10 ∧ ((0 ≤ w ∧ w < e.1 7 2) ∧ (0 ≤ q ∧ q < e.1 7 2)) ∧ (¬ Dead e w ∧ ¬ Dead e q) ∧ e.1 (7000 + w) 4 = q ∧ e.1 (7000 + w) 5 = v)
/-- event v of run q, a command of kind k, is open; W: what is still to be carried out -/
def Ln (W : Int → Int → Prop) (e : ES) (k q v : Int) : Prop := (0 ≤ q ∧ q < e.1 7 2) ∧ (0 ≤ v ∧ v < hN e q ∧ ek (eH e q v) = k) ∧ ¬ W q v ∧ ∀ j : Int, 0 ≤ j → j < hN e q → (bkk (ek (eH e q j)) → ex (eH e q j) ≠ v) ∧ (ek (eH e q j) = 11 → ex (eH e q j) = v → W q j)
/-- how many signals in a run's history, in all histories that are alive and lost -/
def csr (e : ES) (r : Int) : Int := csg (eH e r) (hN e r).toNat
def totF (e : ES) (r : Int) : Int := if r < e.1 7 2 then (if e.1 (7000 + r) 6 = 0 ∨ e.1 (7000 + r) 6 = 6 then csr e r else 0) + ((eL e (75000 + r)).length : Int) else 0
def tot (e : ES) : Int := sm (totF e) 30
/-- all histories; S signals; D TASKs, T cuts -/
def HsI (S D T : Int) (e : ES) : Prop := ∀ r : Int, 0 ≤ r → r < e.1 7 2 → (0 ≤ hN e r ∧ HInv (eH e r) (hN e r)) ∧ HCt (eH e r) (hN e r) S D T
def HK (S D T : Int) (W : Int → Int → Prop) (X : Int → Int → Int → Prop) (e : ES) : Prop :=
  ((CN e ∧ 0 ≤ e.1 4 16 ∧ PaR e) ∧ (S + 2 * D + 2 * T ≤ 540 ∧ 0 ≤ S ∧ 0 ≤ D ∧ 0 ≤ T) ∧ tot e ≤ S) ∧ HsI S D T e ∧
  ((∀ r j : Int, W r j → (0 ≤ r ∧ r < e.1 7 2) ∧ 0 ≤ j ∧ ∃ t : Int, j < t ∧ t < hN e r ∧ ek (eH e r t) = 17) ∧ (∀ r j : Int, 0 ≤ r → r < e.1 7 2 → 0 ≤ j → j < hN e r → bkk (ek (eH e r j)) → ¬ W r (ex (eH e r j))) ∧ ∀ r i j : Int, W r i → i < j → j < hN e r → ek (eH e r j) = 11 → W r j) ∧
  (∀ k q v w : Int, Lk X e k q v w → Ln W e k q v) ∧ ∀ k q v w w' : Int, Lk X e k q v w → Lk X e k q v w' → w = w'
theorem HK.cn (h : HK S D T W X e) : CN e := h.1.1.1
theorem HK.pr (h : HK S D T W X e) : PaR e := h.1.1.2.2
theorem HK.len (h : HK S D T W X e) (r0 : 0 ≤ r) (r1 : r < e.1 7 2) : 0 ≤ hN e r ∧ hN e r ≤ 390600 := by
  obtain ⟨⟨-, ⟨h2, h3, h4, h5⟩, -⟩, h6, -⟩ := h
  obtain ⟨⟨g1, g2⟩, g3⟩ := h6 r r0 r1
  have := g3.len g2 g1
  omega
theorem csg_0 (n : Nat) : 0 ≤ csg E n := by
  have := csg_m (E := E) n 0
  rw [Nat.zero_add] at this
  exact this
theorem totF_n (r : Int) : 0 ≤ totF e r := by
  have := csg_0 (E := eH e r) (hN e r).toNat
  unfold totF csr
  split
  · split <;> omega
  · exact Int.le_refl _
theorem al_nd : (e.1 (7000 + r) 6 = 0 ∨ e.1 (7000 + r) 6 = 6) ↔ ¬ Dead e r := by
  unfold Dead
  omega
theorem tot_le (n1 : e'.1 7 2 = e.1 7 2) (hd : ∀ r : Int, 0 ≤ r → r < e.1 7 2 → Dead e r → Dead e' r) (hc : ∀ r : Int, 0 ≤ r → r < e.1 7 2 → csr e' r ≤ csr e r) (hq : ∀ r : Int, 0 ≤ r → r < e.1 7 2 → (eL e' (75000 + r)).length ≤ (eL e (75000 + r)).length) : tot e' ≤ tot e := sm_le fun r r0 r1 => by
  unfold totF
  rw [n1]
  by_cases c : r < e.1 7 2
  · rw [if_pos c, if_pos c]
    have h1 := hc r r0 c
    have h2 := hq r r0 c
    have h3 := csg_0 (E := eH e r) (hN e r).toNat
    unfold csr at h1 ⊢
    by_cases c2 : e'.1 (7000 + r) 6 = 0 ∨ e'.1 (7000 + r) 6 = 6
    · rw [if_pos c2, if_pos (al_nd.mpr fun d => al_nd.mp c2 (hd r r0 c d))]
      omega
    · rw [if_neg c2]
      split <;> omega
  · rw [if_neg c, if_neg c]
    exact Int.le_refl _
theorem sm_one {f g : Int → Int} {n : Nat} (r0 : 0 ≤ r) (r1 : r < (n : Int)) (h : ∀ i : Int, 0 ≤ i → i < (n : Int) → i ≠ r → g i = f i) : sm g n = sm f n + g r - f r := by
  rw [← sm_up (v := g r) r0 r1]
  refine sm_to fun i i0 i1 => ?_
  show g i = if i = r then g r else f i
  by_cases c : i = r
  · rw [if_pos c, c]
  · rw [if_neg c]
    exact h i i0 i1 c
theorem csr_tot (r0 : 0 ≤ r) (r1 : r < e.1 7 2) (h7 : e.1 7 2 ≤ 30) (hd : ¬ Dead e r) : csr e r ≤ tot e := by
  have h1 := sm_one (r := r) (n := 30) (f := fun _ => 0) (g := fun i => if i = r then totF e r else 0) r0 (by omega) fun i i0 i1 hi => if_neg hi
  have h2 := sm_le (n := 30) (f := fun i => if i = r then totF e r else 0) (g := totF e) fun i i0 i1 => by
    show (if i = r then totF e r else 0) ≤ totF e i
    split
    · rename_i c
      rw [c]
      exact Int.le_refl _
    · exact totF_n i
  have h4 : totF e r = csr e r + ((eL e (75000 + r)).length : Int) := by
    unfold totF
    rw [if_pos r1, if_pos (al_nd.mpr hd)]
  rw [sm_0, if_pos rfl] at h1
  unfold tot
  omega
theorem Ln.to (h : Ln W e k q v) (n1 : e'.1 7 2 = e.1 7 2) (hh : ∀ r : Int, 0 ≤ r → r < e.1 7 2 → hN e' r = hN e r ∧ eH e' r = eH e r) : Ln W e' k q v := by
  obtain ⟨g1, g2⟩ := h
  unfold Ln
  rw [n1, (hh q g1.1 g1.2).1, (hh q g1.1 g1.2).2]
  exact ⟨g1, g2⟩
/-- the histories stay, fewer are under way -/
theorem HK.sub0 (h : HK S D T W X e) (hc : CN e') (n1 : e'.1 7 2 = e.1 7 2) (o1 : 0 ≤ e'.1 4 16) (hp : PaR e') (hh : ∀ r : Int, 0 ≤ r → r < e.1 7 2 → hN e' r = hN e r ∧ eH e' r = eH e r) (hq : ∀ r : Int, 0 ≤ r → r < e.1 7 2 → eL e' (75000 + r) = eL e (75000 + r)) (hd : ∀ r : Int, 0 ≤ r → r < e.1 7 2 → Dead e r → Dead e' r) (hl : ∀ k q v w : Int, Lk X' e' k q v w → ∃ w' : Int, Lk X e k q v w') (hu : ∀ k q v w w' : Int, Lk X' e' k q v w → Lk X' e' k q v w' → w = w') : HK S D T W X' e' := by
  obtain ⟨⟨-, c4, ct⟩, h1, ⟨h2, h3, h3b⟩, h4, -⟩ := h
  refine ⟨⟨⟨hc, o1, hp⟩, c4, Int.le_trans (tot_le n1 hd (fun r r0 r1 => by unfold csr; rw [(hh r r0 r1).1, (hh r r0 r1).2]; exact Int.le_refl _) fun r r0 r1 => by rw [hq r r0 r1]; exact Nat.le_refl _) ct⟩, fun r r0 r1 => ?_, ⟨fun r j hw => ?_, fun r j r0 r1 j0 j1 => ?_, fun r i j hw hij hj hk => ?_⟩, fun k q v w hk => ?_, hu⟩
  · rw [n1] at r1
    rw [(hh r r0 r1).1, (hh r r0 r1).2]
    exact h1 r r0 r1
  · obtain ⟨g1, g2⟩ := h2 r j hw
    rw [n1, (hh r g1.1 g1.2).1, (hh r g1.1 g1.2).2]
    exact ⟨g1, g2⟩
  · rw [n1] at r1
    rw [(hh r r0 r1).1] at j1
    rw [(hh r r0 r1).2]
    exact h3 r j r0 r1 j0 j1
  · obtain ⟨⟨r0, r1⟩, -⟩ := h2 r i hw
    rw [(hh r r0 r1).1] at hj
    rw [(hh r r0 r1).2] at hk
    exact h3b r i j hw hij hj hk
  · obtain ⟨w', g⟩ := hl k q v w hk
    exact (h4 k q v w' g).to n1 hh
theorem HK.sub (h : HK S D T W X e) (hc : CN e') (n1 : e'.1 7 2 = e.1 7 2) (o1 : 0 ≤ e'.1 4 16) (hp : PaR e') (hh : ∀ r : Int, 0 ≤ r → r < e.1 7 2 → hN e' r = hN e r ∧ eH e' r = eH e r) (hq : ∀ r : Int, 0 ≤ r → r < e.1 7 2 → eL e' (75000 + r) = eL e (75000 + r)) (hd : ∀ r : Int, 0 ≤ r → r < e.1 7 2 → Dead e r → Dead e' r) (hl : ∀ k q v w : Int, Lk X' e' k q v w → Lk X e k q v w) : HK S D T W X' e' :=
  h.sub0 hc n1 o1 hp hh hq hd (fun k q v w g => ⟨w, hl k q v w g⟩) fun k q v w w' g g' => h.2.2.2.2 k q v w w' (hl k q v w g) (hl k q v w' g')
/-- an event is put that is neither a command nor a drop -/
theorem HK.put (h : HK S D T W X e) (hc : CN e') (n1 : e'.1 7 2 = e.1 7 2) (o1 : 0 ≤ e'.1 4 16) (hp : PaR e') (r0 : 0 ≤ r) (r1 : r < e.1 7 2) (hr : hN e' r = hN e r + 1 ∧ eH e' r = Ev1 (eH e r) (hN e r) ev) (hh : ∀ q : Int, 0 ≤ q → q < e.1 7 2 → q ≠ r → hN e' q = hN e q ∧ eH e' q = eH e q) (htt : tot e' ≤ S) (hi : HInv (Ev1 (eH e r) (hN e r) ev) (hN e r + 1)) (ht : HCt (Ev1 (eH e r) (hN e r) ev) (hN e r + 1) S D T) (h11 : ek ev ≠ 11) (hb : bkk (ek ev) → ¬ W r (ex ev) ∧ ∀ k w : Int, ¬ Lk X' e' k r (ex ev) w) (hl : ∀ k q v w : Int, Lk X' e' k q v w → Lk X e k q v w) : HK S D T W X' e' := by
  obtain ⟨⟨-, c4, ct⟩, h1, ⟨h2, h3, h3b⟩, h4, h5⟩ := h
  have hn0 := (h1 r r0 r1).1.1
  have e1 : ∀ j : Int, j < hN e r → Ev1 (eH e r) (hN e r) ev j = eH e r j := fun j j1 => if_neg (by omega)
  have e2 : Ev1 (eH e r) (hN e r) ev (hN e r) = ev := if_pos rfl
  refine ⟨⟨⟨hc, o1, hp⟩, c4, htt⟩, fun q q0 q1 => ?_, ⟨fun q j hw => ?_, fun q j q0 q1 j0 j1 hk => ?_, fun q i j hw hij hj hk => ?_⟩, fun k q v w hk => ?_, fun k q v w w' g g' => h5 k q v w w' (hl k q v w g) (hl k q v w' g')⟩
  · rw [n1] at q1
    by_cases c : q = r
    · subst c
      rw [hr.1, hr.2]
      exact ⟨⟨by omega, hi⟩, ht⟩
    · rw [(hh q q0 q1 c).1, (hh q q0 q1 c).2]
      exact h1 q q0 q1
  · obtain ⟨g1, g2, t, t1, t2, t3⟩ := h2 q j hw
    rw [n1]
    refine ⟨g1, g2, t, t1, ?_⟩
    by_cases c : q = r
    · subst c
      rw [hr.1, hr.2, e1 t t2]
      exact ⟨by omega, t3⟩
    · rw [(hh q g1.1 g1.2 c).1, (hh q g1.1 g1.2 c).2]
      exact ⟨t2, t3⟩
  · rw [n1] at q1
    by_cases c : q = r
    · subst c
      rw [hr.2] at hk ⊢
      rw [hr.1] at j1
      by_cases cj : j = hN e q
      · rw [cj, e2] at hk ⊢
        exact (hb hk).1
      · rw [e1 j (by omega)] at hk ⊢
        exact h3 q j q0 q1 j0 (by omega) hk
    · rw [(hh q q0 q1 c).2] at hk ⊢
      rw [(hh q q0 q1 c).1] at j1
      exact h3 q j q0 q1 j0 j1 hk
  · obtain ⟨⟨q0, q1⟩, i0, -⟩ := h2 q i hw
    by_cases c : q = r
    · subst c
      rw [hr.2] at hk
      rw [hr.1] at hj
      by_cases cj : j = hN e q
      · rw [cj, e2] at hk
        exact absurd hk h11
      · rw [e1 j (by omega)] at hk
        exact h3b q i j hw hij (by omega) hk
    · rw [(hh q q0 q1 c).2] at hk
      rw [(hh q q0 q1 c).1] at hj
      exact h3b q i j hw hij hj hk
  · obtain ⟨g1, g2, g3, g4⟩ := h4 k q v w (hl k q v w hk)
    unfold Ln
    rw [n1]
    by_cases c : q = r
    · subst c
      rw [hr.1, hr.2]
      refine ⟨g1, ⟨g2.1, by omega, by rw [e1 v g2.2.1]; exact g2.2.2⟩, g3, fun j j0 j1 => ?_⟩
      by_cases cj : j = hN e q
      · rw [cj, e2]
        refine ⟨fun hbk hx => ?_, fun hx => absurd hx h11⟩
        have := (hb hbk).2 k w
        rw [hx] at this
        exact this hk
      · rw [e1 j (by omega)]
        exact g4 j j0 (by omega)
    · rw [(hh q g1.1 g1.2 c).1, (hh q g1.1 g1.2 c).2]
      exact ⟨g1, g2, g3, g4⟩
/-- the same fields, the same are under way -/
theorem Lk.of (hc : CN e) (ha : ∀ a u : Int, ((a = 7 ∨ a = 8) ∧ u = 2) ∨ ((7000 ≤ a ∧ a < 7030) ∧ 4 ≤ u ∧ u ≤ 6) ∨ ((8000 ≤ a ∧ a < 8060) ∧ (u = 0 ∨ u = 1 ∨ u = 5)) → e'.1 a u = e.1 a u) (hl : ∀ q : Int, 0 ≤ q → q < 30 → eL e' (73000 + q) = eL e (73000 + q)) (h : Lk X e' k q v w) : Lk X e k q v w := by
  have e7 := ha 7 2 (by omega)
  have e8 := ha 8 2 (by omega)
  obtain ⟨⟨c1, c2⟩, ⟨c3, c4⟩, -⟩ := hc
  rcases h with h | ⟨h1, h2, h3, h4, h5⟩ | ⟨h1, h2, h3, h4⟩ | ⟨h1, ⟨h2, h3⟩, ⟨h4, h5⟩, h6, h7⟩
  · exact Or.inl h
  · rw [e8] at h2
    rw [ha (8000 + w) 5 (by omega)] at h3
    rw [ha (8000 + w) 0 (by omega)] at h4
    rw [ha (8000 + w) 1 (by omega)] at h5
    exact Or.inr (Or.inl ⟨h1, h2, h3, h4, h5⟩)
  · rw [e7] at h3
    rw [hl q h3.1 (by omega)] at h4
    exact Or.inr (Or.inr (Or.inl ⟨h1, h2, h3, h4⟩))
  · rw [e7] at h2 h3
    rw [ha (7000 + w) 4 (by omega)] at h6
    rw [ha (7000 + w) 5 (by omega)] at h7
    exact Or.inr (Or.inr (Or.inr ⟨h1, ⟨h2, h3⟩, ⟨fun d => h4 ((Dead.eq (ha (7000 + w) 6 (by omega))).mpr d), fun d => h5 ((Dead.eq (ha (7000 + q) 6 (by omega))).mpr d)⟩, h6, h7⟩))
theorem Lk.arr (hc : CN e) (r0 : 0 ≤ r) (r1 : r < 1000) (h : Lk X (pArr r i x y e) k q v w) : Lk X e k q v w :=
  h.of hc (fun a u ha => arr_a (by omega) (by omega) (by omega) (by omega) (by omega)) fun _ _ _ => arr_l
theorem PaR.of (h : PaR e) (n1 : e'.1 7 2 = e.1 7 2) (h4 : ∀ r : Int, 0 ≤ r → r < e.1 7 2 → e'.1 (7000 + r) 4 = e.1 (7000 + r) 4) : PaR e' := fun i i0 i1 => by
  rw [n1] at i1 ⊢
  rw [h4 i i0 i1]
  exact h i i0 i1
theorem PaR.arr (h : PaR e) (r0 : 0 ≤ r) (r1 : r < 1000) (h7 : e.1 7 2 ≤ 1000) : PaR (pArr r k x y e) := h.of (arr_a (by decide) (by decide) (by omega) (by omega) (by omega)) fun i i0 i1 => arr_a (by omega) (by omega) (by omega) (by omega) (by omega)
theorem HCt.putS (h : HCt E N S D T) (n0 : 0 ≤ N) (hk : ek ev ≤ 7) (hs : ek ev = 4 → csg E N.toNat + 1 ≤ S) : HCt (Ev1 E N ev) (N + 1) S D T := by
  obtain ⟨h1, h2⟩ := h
  have h' : HCt E N (csg E N.toNat) D T := ⟨Int.le_refl _, h2⟩
  have := h'.put n0 (ev := ev) (Or.inl hk)
  by_cases c : ek ev = 4
  · have hs' := hs c
    rw [if_pos c, if_neg (by omega)] at this
    exact this.mono hs' (by omega) (Int.le_refl _)
  · rw [if_neg c, if_neg (by omega)] at this
    exact this.mono (by omega) (by omega) (Int.le_refl _)
theorem csg_s (n : Nat) : csg E (n + 1) = csg E n + if ek (E (n : Int)) = 4 then 1 else 0 := rfl
theorem csr_arr (r0 : 0 ≤ r) (r1 : r < 1000) (hn : 0 ≤ hN e r) (k0 : 0 ≤ k) : csr (pArr r k x y e) r = csr e r + if k = 4 then 1 else 0 := by
  obtain ⟨g1, g2⟩ := arr_eH (k := k) (x := x) (y := y) (e := e) r0 r1
  unfold csr
  rw [g1, g2, show (hN e r + 1).toNat = (hN e r).toNat + 1 by omega, csg_s, (cts_to (E := eH e r) (E' := Ev1 (eH e r) (hN e r) (evP k x y (e.1 4 14) (e.1 4 16))) (hN e r).toNat fun i i0 i1 => if_neg (by omega)).1, show (((hN e r).toNat : Nat) : Int) = hN e r by omega, show Ev1 (eH e r) (hN e r) (evP k x y (e.1 4 14) (e.1 4 16)) (hN e r) = evP k x y (e.1 4 14) (e.1 4 16) from if_pos rfl, evP_k k0]
theorem tot_arr (hc : CN e) (r0 : 0 ≤ r) (r1 : r < e.1 7 2) (hn : 0 ≤ hN e r) (k0 : 0 ≤ k) : tot (pArr r k x y e) ≤ tot e + if k = 4 then 1 else 0 := by
  have n7 := hc.1
  have e7 : (pArr r k x y e).1 7 2 = e.1 7 2 := arr_a (by decide) (by decide) (by omega) (by omega) (by omega)
  have e6 : ∀ i : Int, 0 ≤ i → i < 30 → (pArr r k x y e).1 (7000 + i) 6 = e.1 (7000 + i) 6 := fun i i0 i1 => arr_a (by omega) (by omega) (by omega) (by omega) (by omega)
  have hl : ∀ c, eL (pArr r k x y e) c = eL e c := fun c => arr_l
  have h1 := sm_one (r := r) (n := 30) (f := totF e) (g := totF (pArr r k x y e)) r0 (by omega) fun i i0 i1 hi => by
    have hN' : hN (pArr r k x y e) i = hN e i := arr_a (by omega) (by omega) (by omega) (by omega) (by omega)
    unfold totF csr
    rw [e7, e6 i i0 i1, hl, hN', arr_h hi]
  have h2 := csr_arr (k := k) (x := x) (y := y) r0 (by omega) hn k0
  have h3 : totF (pArr r k x y e) r ≤ totF e r + if k = 4 then 1 else 0 := by
    unfold totF
    rw [e7, e6 r r0 (by omega), hl, h2, if_pos r1, if_pos r1]
    split <;> split <;> omega
  unfold tot
  omega
/-- a signal, a CANCEL -/
theorem HK.arr (h : HK S D T W X e) (r0 : 0 ≤ r) (r1 : r < e.1 7 2) (hk : k = 4 ∨ k = 7) (n0 : 0 < hN e r) (x0 : 0 ≤ x) (x1 : x ≤ 999) (x4 : k = 4 → x < 4) (y0 : 0 ≤ y) (y1 : y ≤ 999) (h7 : k = 7 → ∀ j : Int, 0 ≤ j → j < hN e r → ek (eH e r j) ≠ 7) (hs : k = 4 → tot e + 1 ≤ S ∧ ¬ Dead e r) : HK S D T W X (pArr r k x y e) := by
  have hc := h.cn
  have hb := hc.1.2
  have h1 := h.2.1 r r0 r1
  have ee := arr_eH (k := k) (x := x) (y := y) (e := e) r0 (by omega)
  have hk' : ek (evP k x y (e.1 4 14) (e.1 4 16)) = k := evP_k (by omega)
  refine h.put (hc.arr r0) (arr_a (by decide) (by decide) (by omega) (by omega) (by omega)) ?_ (h.pr.arr r0 (by omega) (by omega)) r0 r1 ee (fun q q0 q1 hq => ⟨?_, arr_h hq⟩) (Int.le_trans (tot_arr hc r0 r1 h1.1.1 (by omega)) (by have := h.1.2.2; split <;> omega)) (h1.1.2.arrP h1.1.1 (by omega) (by omega) (by omega) x0 x1 x4 y0 y1 h.1.1.2.1 h7) (h1.2.putS h1.1.1 (by rw [hk']; omega) fun g => by
    have h4 := hs (by omega)
    have := csr_tot r0 r1 hb h4.2
    unfold csr at this
    omega) (by rw [hk']; omega) (fun g => by rw [hk'] at g; unfold bkk at g; omega) fun k q v w g => g.arr hc r0 (by omega)
  · rw [arr_16]
    have := h.1.1.2.1
    omega
  · exact arr_a (by omega) (by omega) (by omega) (by omega) (by omega)
/-- what comes back, of what is set aside -/
theorem HK.bk (h : HK S D T W X e) (hX : X i r x) (hk : bkk k) (hi : i = if k = 3 then 9 else if k = 1 ∨ k = 2 then 8 else 10) (y0 : 0 ≤ y) (y1 : y ≤ 999) (hX' : ∀ k q v : Int, X' k q v → X k q v ∧ ¬ (q = r ∧ v = x)) : HK S D T W X' (pArr r k x y e) := by
  have hc := h.cn
  have hb := hc.1.2
  have lx : Lk X e i r x (-1) := Or.inl ⟨rfl, hX⟩
  obtain ⟨⟨r0, r1⟩, ⟨x0, x1, xk⟩, hw, hj⟩ := h.2.2.2.1 i r x (-1) lx
  have h1 := h.2.1 r r0 r1
  have hl := h.len r0 r1
  have ee := arr_eH (k := k) (x := x) (y := y) (e := e) r0 (by omega)
  have k0 := hk
  unfold bkk at k0
  have hk' : ek (evP k x y (e.1 4 14) (e.1 4 16)) = k := evP_k (by omega)
  have hx' : ex (evP k x y (e.1 4 14) (e.1 4 16)) = x := evP_x x0
  have hl' : ∀ k' q v w : Int, Lk X' (pArr r k x y e) k' q v w → Lk X e k' q v w ∧ (w = -1 → ¬ (q = r ∧ v = x)) := fun k' q v w g => by
    rcases g with g | g
    · exact ⟨Or.inl ⟨g.1, (hX' _ _ _ g.2).1⟩, fun _ => (hX' _ _ _ g.2).2⟩
    · have g' : Lk X (pArr r k x y e) k' q v w := Or.inr g
      refine ⟨g'.arr hc r0 (by omega), fun hw => ?_⟩
      rcases g with g | g | g <;> omega
  refine h.put (hc.arr r0) (arr_a (by decide) (by decide) (by omega) (by omega) (by omega)) ?_ (h.pr.arr r0 (by omega) (by omega)) r0 r1 ee (fun q q0 q1 hq => ⟨?_, arr_h hq⟩) (Int.le_trans (tot_arr hc r0 r1 h1.1.1 (by omega)) (by have := h.1.2.2; rw [if_neg (by omega)]; omega)) (h1.1.2.bkP (by omega) hk x0 x1 (by rw [xk]; exact hi) (by omega) y0 y1 h.1.1.2.1 (fun j j0 j1 => (hj j j0 j1).1) fun d d0 d1 d2 d3 => ?_) (h1.2.putS h1.1.1 (by rw [hk']; omega) fun g => by omega) (by rw [hk']; omega) (fun _ => ⟨by rw [hx']; exact hw, fun k' w g => ?_⟩) fun k q v w g => (hl' k q v w g).1
  · rw [arr_16]
    have := h.1.1.2.1
    omega
  · exact arr_a (by omega) (by omega) (by omega) (by omega) (by omega)
  · obtain ⟨-, -, t, t1, t2, t3⟩ := h.2.2.1.1 r d ((hj d d0 d1).2 d2 d3)
    exact ⟨t, t1, t2, t3⟩
  · rw [hx'] at g
    obtain ⟨g1, g2⟩ := hl' k' r x w g
    have hk2 := (h.2.2.2.1 k' r x w g1).2.1.2.2
    have hki : k' = i := by rw [← hk2, xk]
    subst hki
    have := h.2.2.2.2 k' r x w (-1) g1 lx
    exact g2 this ⟨rfl, rfl⟩
end LNK
