/-! LINKS: fewer are under way; another is; a command is carried out. -/
section LN2
variable {e e' e1 : ES} {W W' : Int → Int → Prop} {X X' : Int → Int → Int → Prop} {S D T S' D' T' : Int} {a b c i j k q r v w n N p x y t o kd tn ver par pe inp due : Int} {ev : Ev} {E : Int → Ev}
/-- what is under way afterwards was so before -/
theorem Lk.mono (hX : ∀ k q v : Int, X' k q v → X k q v) (n7 : e'.1 7 2 = e.1 7 2) (n8 : e'.1 8 2 = e.1 8 2) (h8 : ∀ p : Int, 0 ≤ p → p < e.1 8 2 → e'.1 (8000 + p) 5 ≠ 2 → e.1 (8000 + p) 5 ≠ 2 ∧ e'.1 (8000 + p) 0 = e.1 (8000 + p) 0 ∧ e'.1 (8000 + p) 1 = e.1 (8000 + p) 1) (hl : ∀ q v : Int, 0 ≤ q → q < e.1 7 2 → v ∈ eL e' (73000 + q) → v ∈ eL e (73000 + q)) (h4 : ∀ p : Int, 0 ≤ p → p < e.1 7 2 → 0 ≤ e'.1 (7000 + p) 4 → e'.1 (7000 + p) 4 = e.1 (7000 + p) 4 ∧ e'.1 (7000 + p) 5 = e.1 (7000 + p) 5) (hd : ∀ p : Int, 0 ≤ p → p < e.1 7 2 → Dead e p → Dead e' p) (h : Lk X' e' k q v w) : Lk X e k q v w := by
  rcases h with h | ⟨h1, h2, h3, h4', h5⟩ | ⟨h1, h2, h3, h4'⟩ | ⟨h1, ⟨h2, h3⟩, ⟨g4, g5⟩, h6, h7⟩
  · exact Or.inl ⟨h.1, hX _ _ _ h.2⟩
  · rw [n8] at h2
    obtain ⟨k1, k2, k3⟩ := h8 w h2.1 h2.2 h3
    exact Or.inr (Or.inl ⟨h1, h2, k1, k2 ▸ h4', k3 ▸ h5⟩)
  · rw [n7] at h3
    exact Or.inr (Or.inr (Or.inl ⟨h1, h2, h3, hl q v h3.1 h3.2 h4'⟩))
  · rw [n7] at h2 h3
    obtain ⟨k1, k2⟩ := h4 w h2.1 h2.2 (by rw [h6]; exact h3.1)
    exact Or.inr (Or.inr (Or.inr ⟨h1, ⟨h2, h3⟩, ⟨fun d => g4 (hd w h2.1 h2.2 d), fun d => g5 (hd q h3.1 h3.2 d)⟩, k1 ▸ h6, k2 ▸ h7⟩))
/-- what no link reads may change -/
theorem HK.frm0 (h : HK S D T W X e) (hX : ∀ k q v : Int, X' k q v → X k q v) (hc : CN e') (o1 : 0 ≤ e'.1 4 16) (ha : ∀ a u : Int, (a = 7 ∨ a = 8) ∧ u = 2 ∨ ((7000 ≤ a ∧ a < 7030) ∧ 4 ≤ u ∧ u ≤ 6) ∨ ((8000 ≤ a ∧ a < 8060) ∧ (u = 0 ∨ u = 1 ∨ u = 5)) ∨ ((71000 ≤ a ∧ a < 71030) ∧ u = 1) → e'.1 a u = e.1 a u) (hl : ∀ q : Int, 0 ≤ q → q < 30 → eL e' (73000 + q) = eL e (73000 + q) ∧ eL e' (75000 + q) = eL e (75000 + q)) (hh : ∀ r : Int, 0 ≤ r → r < 30 → eH e' r = eH e r) : HK S D T W X' e' := by
  have c7 := h.cn.1
  refine h.sub hc (ha _ _ (by omega)) o1 (h.pr.of (ha _ _ (by omega)) fun r r0 r1 => ha _ _ (by omega)) (fun r r0 r1 => ⟨ha _ _ (by omega), hh r r0 (by omega)⟩) (fun r r0 r1 => (hl r r0 (by omega)).2) (fun r r0 r1 d => (Dead.eq (ha _ _ (by omega))).mpr d) fun k q v w g => ?_
  rcases g with g | g
  · exact Or.inl ⟨g.1, hX _ _ _ g.2⟩
  · have g' : Lk X e' k q v w := Or.inr g
    exact g'.of h.cn (fun a u hau => ha a u (by omega)) fun q q0 q1 => (hl q q0 q1).1
/-- one field is set that no link reads -/
theorem HK.es1 (h : HK S D T W X e) (ha : ¬ ((7 ≤ a ∧ a ≤ 10 ∨ 48 ≤ a ∧ a ≤ 61) ∧ j = 2 ∨ ((7000 ≤ a ∧ a < 7030) ∧ 4 ≤ j ∧ j ≤ 6) ∨ ((8000 ≤ a ∧ a < 8060) ∧ (j = 0 ∨ j = 1 ∨ j = 5)) ∨ ((71000 ≤ a ∧ a < 71030) ∧ j = 1))) (ho : a = 4 → j = 16 → 0 ≤ v) : HK S D T W X (eS e a j v) := by
  have key : ∀ b u : Int, ¬ (b = a ∧ u = j) → (eS e a j v).1 b u = e.1 b u := fun b u hb => by
    rw [show (eS e a j v).1 b u = mset e.1 a j v b u from rfl]
    by_cases c : b = a
    · subst c
      exact ms_j fun hu => hb ⟨rfl, hu⟩
    · exact ms_a c
  refine h.frm0 (fun _ _ _ g => g) (h.cn.of fun b hb => key _ _ (by omega)) ?_ (fun b u hb => key _ _ (by omega)) (fun _ _ _ => ⟨rfl, rfl⟩) fun _ _ _ => rfl
  by_cases c : (4 : Int) = a ∧ (16 : Int) = j
  · obtain ⟨c1, c2⟩ := c
    subst c1
    subst c2
    rw [eS_e]
    exact ho rfl rfl
  · rw [key _ _ c]
    exact h.1.1.2.1
/-- a row is set that no link reads, or with fewer timers -/
theorem HK.els (h : HK S D T W X e) {l : List Int} (h5 : ∀ q : Int, 0 ≤ q → q < 30 → c ≠ 75000 + q) (hl : ∀ v ∈ l, v ∈ eL e c) : HK S D T W X (eLs e c l) := by
  have c7 := h.cn.1
  refine h.sub (h.cn.of fun _ _ => rfl) rfl h.1.1.2.1 (h.pr.of rfl fun _ _ _ => rfl) (fun _ _ _ => ⟨rfl, rfl⟩) (fun r r0 r1 => eLs_a fun hh => h5 r r0 (by omega) hh.symm) (fun _ _ _ d => d) fun k q v w g => g.mono (e' := eLs e c l) (fun _ _ _ g => g) rfl rfl (fun p p0 p1 g => ⟨g, rfl, rfl⟩) (fun q v q0 q1 hv => ?_) (fun p p0 p1 _ => ⟨rfl, rfl⟩) fun _ _ _ d => d
  by_cases cc : 73000 + q = c
  · rw [cc, eLs_e] at hv
    rw [cc]
    exact hl v hv
  · rw [eLs_a cc] at hv
    exact hv
theorem HK.elo (h : HK S D T W X e) {l : List Int} (hl : ∀ q : Int, 0 ≤ q → q < 30 → c ≠ 73000 + q ∧ c ≠ 75000 + q) : HK S D T W X (eLs e c l) := by
  have c7 := h.cn.1
  exact h.sub (h.cn.of fun _ _ => rfl) rfl h.1.1.2.1 (h.pr.of rfl fun _ _ _ => rfl) (fun _ _ _ => ⟨rfl, rfl⟩) (fun r r0 r1 => eLs_a fun hh => (hl r r0 (by omega)).2 hh.symm) (fun _ _ _ d => d) fun k q v w g => g.mono (e' := eLs e c l) (fun _ _ _ g => g) rfl rfl (fun p p0 p1 g => ⟨g, rfl, rfl⟩) (fun q v q0 q1 hv => by rw [eLs_a (fun hh => (hl q q0 (by omega)).1 hh.symm)] at hv; exact hv) (fun p p0 p1 _ => ⟨rfl, rfl⟩) fun _ _ _ d => d
/-- a command is set aside to be carried out -/
theorem HK.opn (h : HK S D T W X e) (hw : W r i) (hk : ek (eH e r i) = k) (hk3 : k = 8 ∨ k = 9 ∨ k = 10) (hW : ∀ q j : Int, W' q j ↔ W q j ∧ ¬ (q = r ∧ j = i)) (hX : ∀ k' q v : Int, X' k' q v → X k' q v ∨ (k' = k ∧ q = r ∧ v = i)) : HK S D T W' X' e := by
  obtain ⟨c1, h1, ⟨h2, h3, h3b⟩, h4, h5⟩ := h
  have hlk : ∀ k' q v w : Int, Lk X' e k' q v w → Lk X e k' q v w ∨ (w = -1 ∧ k' = k ∧ q = r ∧ v = i) := fun k' q v w g => by
    rcases g with ⟨g1, g2⟩ | g
    · rcases hX _ _ _ g2 with g3 | g3
      · exact Or.inl (Or.inl ⟨g1, g3⟩)
      · exact Or.inr ⟨g1, g3⟩
    · exact Or.inl (Or.inr g)
  have hno : ∀ k' w : Int, ¬ Lk X e k' r i w := fun k' w g => (h4 k' r i w g).2.2.1 hw
  obtain ⟨w1, w2, t, t1, t2, t3⟩ := h2 r i hw
  refine ⟨c1, h1, ⟨fun r' j hw' => h2 r' j ((hW r' j).mp hw').1, fun r' j r0 r1 j0 j1 hb hw' => h3 r' j r0 r1 j0 j1 hb ((hW _ _).mp hw').1, fun r' i' j hw' hij hj hkk => (hW _ _).mpr ⟨h3b r' i' j ((hW _ _).mp hw').1 hij hj hkk, fun hh => by rw [hh.1, hh.2, hk] at hkk; omega⟩⟩, fun k' q v w g => ?_, fun k' q v w w' g g' => ?_⟩
  · rcases hlk k' q v w g with g | ⟨g1, g2, g3, g4⟩
    · obtain ⟨a1, a2, a3, a4⟩ := h4 k' q v w g
      refine ⟨a1, a2, fun hh => a3 ((hW _ _).mp hh).1, fun j j0 j1 => ⟨(a4 j j0 j1).1, fun h11' hx => (hW _ _).mpr ⟨(a4 j j0 j1).2 h11' hx, fun hh => ?_⟩⟩⟩
      rw [hh.1, hh.2, hk] at h11'
      omega
    · rw [g2, g3, g4]
      refine ⟨w1, ⟨w2, by omega, hk⟩, fun hh => ((hW _ _).mp hh).2 ⟨rfl, rfl⟩, fun j j0 j1 => ⟨fun hb hx => ?_, fun hb hx => ?_⟩⟩
      · have := h3 r j w1.1 w1.2 j0 j1 hb
        rw [hx] at this
        exact this hw
      · have hq := (((h1 r w1.1 w1.2).1.2.1 j j0 j1).2.2.2.2.1 (by omega)).1
        have hlt := (hq.2.2.2.2.1 hb).1
        exact (hW _ _).mpr ⟨h3b r i j hw (by omega) j1 hb, fun hh => by omega⟩
  · rcases hlk k' q v w g with g1 | ⟨g1, g2, g3, g4⟩
    · rcases hlk k' q v w' g' with g1' | ⟨g1', g2', g3', g4'⟩
      · exact h5 k' q v w w' g1 g1'
      · rw [g3', g4'] at g1
        exact absurd g1 (hno _ _)
    · rcases hlk k' q v w' g' with g1' | ⟨g1', g2', g3', g4'⟩
      · rw [g3, g4] at g1'
        exact absurd g1' (hno _ _)
      · omega
/-- another command is carried out; of what it drops nothing is under way -/
theorem HK.skp (h : HK S D T W X e) (hmin : ∀ j : Int, W r j → i ≤ j) (hno : ek (eH e r i) = 11 → ∀ k w : Int, ¬ Lk X e k r (ex (eH e r i)) w) (hW : ∀ q j : Int, W' q j ↔ W q j ∧ ¬ (q = r ∧ j = i)) : HK S D T W' X e := by
  obtain ⟨c1, h1, ⟨h2, h3, h3b⟩, h4, h5⟩ := h
  refine ⟨c1, h1, ⟨fun r' j hw' => h2 r' j ((hW r' j).mp hw').1, fun r' j r0 r1 j0 j1 hb hw' => h3 r' j r0 r1 j0 j1 hb ((hW _ _).mp hw').1, fun r' i' j hw' hij hj hkk => (hW _ _).mpr ⟨h3b r' i' j ((hW _ _).mp hw').1 hij hj hkk, fun hh => ?_⟩⟩, fun k' q v w g => ?_, h5⟩
  · have hq := ((hW _ _).mp hw').1
    rw [hh.1] at hq
    have := hmin _ hq
    omega
  obtain ⟨a1, a2, a3, a4⟩ := h4 k' q v w g
  refine ⟨a1, a2, fun hh => a3 ((hW _ _).mp hh).1, fun j j0 j1 => ⟨(a4 j j0 j1).1, fun h11 hx => (hW _ _).mpr ⟨(a4 j j0 j1).2 h11 hx, fun hh => ?_⟩⟩⟩
  obtain ⟨hq, hj⟩ := hh
  subst hq
  subst hj
  rw [← hx] at g
  exact hno h11 _ _ g
/-- nothing waits any more -/
theorem HK.wno (h : HK S D T W X e) (hW' : ∀ q j : Int, ¬ W' q j) (hW : ∀ q j : Int, ¬ W q j) : HK S D T W' X e := by
  obtain ⟨c1, h1, ⟨h2, h3, h3b⟩, h4, h5⟩ := h
  refine ⟨c1, h1, ⟨fun r' j hw' => absurd hw' (hW' _ _), fun r' j r0 r1 j0 j1 hb hw' => hW' _ _ hw', fun r' i' j hw' _ _ _ => absurd hw' (hW' _ _)⟩, fun k' q v w g => ?_, h5⟩
  obtain ⟨a1, a2, a3, a4⟩ := h4 k' q v w g
  exact ⟨a1, a2, hW' _ _, fun j j0 j1 => ⟨(a4 j j0 j1).1, fun h11 hx => absurd ((a4 j j0 j1).2 h11 hx) (hW _ _)⟩⟩
/-- from what is set aside, to another that is under way -/
theorem HK.frm (h : HK S D T W X e) (hX : X a r b) (hc : CN e') (n1 : e'.1 7 2 = e.1 7 2) (o1 : 0 ≤ e'.1 4 16) (hp : PaR e') (hh : ∀ r : Int, 0 ≤ r → r < e.1 7 2 → hN e' r = hN e r ∧ eH e' r = eH e r) (hq : ∀ r : Int, 0 ≤ r → r < e.1 7 2 → eL e' (75000 + r) = eL e (75000 + r)) (hd : ∀ r : Int, 0 ≤ r → r < e.1 7 2 → Dead e r → Dead e' r) (hl : ∀ k q v w : Int, Lk X' e' k q v w → (Lk X e k q v w ∧ ¬ (k = a ∧ q = r ∧ v = b)) ∨ (w = N ∧ k = a ∧ q = r ∧ v = b)) : HK S D T W X' e' := by
  refine h.sub0 hc n1 o1 hp hh hq hd (fun k q v w g => ?_) fun k q v w w' g g' => ?_
  · rcases hl k q v w g with g1 | ⟨g1, g2, g3, g4⟩
    · exact ⟨w, g1.1⟩
    · rw [g2, g3, g4]
      exact ⟨-1, Or.inl ⟨rfl, hX⟩⟩
  · rcases hl k q v w g with g1 | ⟨g1, g2, g3, g4⟩
    · rcases hl k q v w' g' with g1' | ⟨g1', g2', g3', g4'⟩
      · exact h.2.2.2.2 k q v w w' g1.1 g1'.1
      · exact absurd ⟨g2', g3', g4'⟩ g1.2
    · rcases hl k q v w' g' with g1' | ⟨g1', g2', g3', g4'⟩
      · exact absurd ⟨g2, g3, g4⟩ g1'.2
      · omega
/-- another activity -/
theorem HK.new8 (h : HK S D T W X e) (hX : X 8 r b) (hn : e.1 8 2 < 60) (hX' : ∀ k q v : Int, X' k q v → X k q v ∧ ¬ (k = 8 ∧ q = r ∧ v = b)) : HK S D T W X' (pNew 8 (fAct r b kd x t) e) := by
  have hc := h.cn
  obtain ⟨c7, c8, -⟩ := hc
  refine h.frm (N := e.1 8 2) hX (h.cn.pnew (by decide) (by decide) (fun _ => hn) (fun g => by omega) fun g => by omega) (pNew_a (by decide) (by omega)) ?_ (h.pr.of (pNew_a (by decide) (by omega)) fun r r0 r1 => pNew_a (by omega) (by omega)) (fun r r0 r1 => ⟨pNew_a (by omega) (by omega), rfl⟩) (fun _ _ _ => rfl) (fun r r0 r1 d => (Dead.eq (pNew_a (by omega) (by omega))).mpr d) fun k q v w g => ?_
  · rw [pNew_a (by decide) (by omega)]
    exact h.1.1.2.1
  have hlx : Lk X e 8 r b (-1) := Or.inl ⟨rfl, hX⟩
  have hne : ∀ w : Int, w ≠ -1 → Lk X e k q v w → ¬ (k = 8 ∧ q = r ∧ v = b) := fun w hw gg ⟨g1, g2, g3⟩ => by
    subst g1
    subst g2
    subst g3
    exact hw (h.2.2.2.2 _ _ _ _ _ gg hlx)
  rcases g with g | ⟨h1, h2, h3, h4, h5⟩ | ⟨h1, h2, h3, h4⟩ | ⟨h1, ⟨h2, h3⟩, ⟨g4, g5⟩, h6, h7⟩
  · exact Or.inl ⟨Or.inl ⟨g.1, (hX' _ _ _ g.2).1⟩, (hX' _ _ _ g.2).2⟩
  · rw [pNew_n] at h2
    by_cases cw : w = e.1 8 2
    · rw [cw, pNew_f8 (by omega)] at h4 h5
      exact Or.inr ⟨cw, h1, h4.symm, h5.symm⟩
    · rw [pNew_a (by omega) (by omega)] at h3 h4 h5
      have g : Lk X e k q v w := Or.inr (Or.inl ⟨h1, by omega, h3, h4, h5⟩)
      exact Or.inl ⟨g, hne w (by omega) g⟩
  · rw [pNew_a (by decide) (by omega)] at h3
    have g : Lk X e k q v w := Or.inr (Or.inr (Or.inl ⟨h1, h2, h3, h4⟩))
    exact Or.inl ⟨g, hne w (by omega) g⟩
  · rw [pNew_a (by decide) (by omega)] at h2 h3
    rw [pNew_a (by omega) (by omega)] at h6 h7
    have g : Lk X e k q v w := Or.inr (Or.inr (Or.inr ⟨h1, ⟨h2, h3⟩, ⟨fun d => g4 ((Dead.eq (pNew_a (by omega) (by omega))).mpr d), fun d => g5 ((Dead.eq (pNew_a (by omega) (by omega))).mpr d)⟩, h6, h7⟩))
    exact Or.inl ⟨g, hne w (by omega) g⟩
/-- another timer -/
theorem HK.addT (h : HK S D T W X e) (hX : X 9 r b) (hX' : ∀ k q v : Int, X' k q v → X k q v ∧ ¬ (k = 9 ∧ q = r ∧ v = b)) : HK S D T W X' (pAddT r b due e) := by
  have hc := h.cn
  obtain ⟨c7, c8, -⟩ := hc
  have f1 : ∀ a u : Int, a ≠ 3 → (pAddT r b due e).1 a u = e.1 a u := fun a u ha => eS_a ha
  have lx : Lk X e 9 r b (-1) := Or.inl ⟨rfl, hX⟩
  have hL := h.2.2.2.1 9 r b (-1) lx
  refine h.frm (N := 0) hX (h.cn.of fun a _ => f1 a 2 (by omega)) (f1 _ _ (by decide)) (by rw [f1 _ _ (by decide)]; exact h.1.1.2.1) (h.pr.of (f1 _ _ (by decide)) fun r r0 r1 => f1 _ _ (by omega)) (fun r r0 r1 => ⟨f1 _ _ (by omega), rfl⟩) (fun q q0 q1 => ?_) (fun r r0 r1 d => (Dead.eq (f1 _ _ (by omega))).mpr d) fun k q v w g => ?_
  · have := hL.1
    show (if 75000 + q = 74000 + r then eL e (74000 + r) ++ [due] else if 75000 + q = 73000 + r then eL e (73000 + r) ++ [b] else eL e (75000 + q)) = eL e (75000 + q)
    rw [if_neg (by omega), if_neg (by omega)]
  have hne : ∀ w : Int, w ≠ -1 → Lk X e k q v w → ¬ (k = 9 ∧ q = r ∧ v = b) := fun w hw gg ⟨g1, g2, g3⟩ => by
    subst g1
    subst g2
    subst g3
    exact hw (h.2.2.2.2 _ _ _ _ _ gg lx)
  rcases g with g | ⟨h1, h2, h3, h4, h5⟩ | ⟨h1, h2, h3, h4⟩ | ⟨h1, ⟨h2, h3⟩, ⟨g4, g5⟩, h6, h7⟩
  · exact Or.inl ⟨Or.inl ⟨g.1, (hX' _ _ _ g.2).1⟩, (hX' _ _ _ g.2).2⟩
  · rw [f1 _ _ (by decide)] at h2
    rw [f1 _ _ (by omega)] at h3 h4 h5
    have g : Lk X e k q v w := Or.inr (Or.inl ⟨h1, h2, h3, h4, h5⟩)
    exact Or.inl ⟨g, hne w (by omega) g⟩
  · rw [f1 _ _ (by decide)] at h3
    have hr : v ∈ eL e (73000 + q) ∨ (q = r ∧ v = b) := by
      have h4' : v ∈ (if 73000 + q = 74000 + r then eL e (74000 + r) ++ [due] else if 73000 + q = 73000 + r then eL e (73000 + r) ++ [b] else eL e (73000 + q)) := h4
      have hr1 := hL.1
      rw [if_neg (by omega)] at h4'
      by_cases cq : q = r
      · rw [if_pos (by omega)] at h4'
        rcases List.mem_append.mp h4' with z | z
        · left
          rw [cq]
          exact z
        · right
          exact ⟨cq, List.mem_singleton.mp z⟩
      · rw [if_neg (by omega)] at h4'
        exact Or.inl h4'
    rcases hr with hr | ⟨hq, hv⟩
    · have g : Lk X e k q v w := Or.inr (Or.inr (Or.inl ⟨h1, h2, h3, hr⟩))
      exact Or.inl ⟨g, hne w (by omega) g⟩
    · exact Or.inr ⟨h2, h1, hq, hv⟩
  · rw [f1 _ _ (by decide)] at h2 h3
    rw [f1 _ _ (by omega)] at h6 h7
    have g : Lk X e k q v w := Or.inr (Or.inr (Or.inr ⟨h1, ⟨h2, h3⟩, ⟨fun d => g4 ((Dead.eq (f1 _ _ (by omega))).mpr d), fun d => g5 ((Dead.eq (f1 _ _ (by omega))).mpr d)⟩, h6, h7⟩))
    exact Or.inl ⟨g, hne w (by omega) g⟩
end LN2
