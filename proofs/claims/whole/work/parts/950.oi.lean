/-! THE ROOM: how many objects of each kind there are: g what an object of a kind and a length costs; a list pays for what it holds, and all that belongs to it. -/
section KIA
variable {m m1 mb m' : MM} {C D a b j k r v z e n p : Int} {W W' : List (Int × Int × Int)} {g : Int → Int → Int} {d d' d1 d2 : (Int → Int → Int) → Int}
def GOK (g : Int → Int → Int) : Prop := (∀ k l, 0 ≤ g k l) ∧ ∀ l, g 101 l = 0 ∧ g 107 l = 0 ∧ g 108 l = 0
def cwt (g : Int → Int → Int) (m : MM) (a : Int) : Int := if a < 163 then 0 else g (m a (-1)) (m a (-2))
def uRun (g : Int → Int → Int) : Int := g 7 20 + g 3 5 + 4 * g 6 3
def LSg (g : Int → Int → Int) (m : MM) : Int := uRun g * m 7 2 + g 1 11 * m 8 2 + g 10 6 * m 9 2 + g 8 9 * m 10 2 + g 6 3 * m 49 2 + g 6 3 * m 53 2 + g 6 3 * m 57 2 + g 6 3 * m 61 2
/-- what a list pays for one more in it -/
def uof (g : Int → Int → Int) (p : Int) : Int := if p = 7 then uRun g else if p = 8 then g 1 11 else if p = 9 then g 10 6 else if p = 10 then g 8 9 else if p = 49 ∨ p = 53 ∨ p = 57 ∨ p = 61 then g 6 3 else 0
def isLs (q : Int) : Prop := q = 7 ∨ q = 8 ∨ q = 9 ∨ q = 10 ∨ q = 49 ∨ q = 53 ∨ q = 57 ∨ q = 61
def NEG (m : MM) : Prop := ∃ q : Int, isLs q ∧ m q 2 < 0
/-- (a list whose size has gone beyond 2147483647 stays as it is) -/
def OWk (g : Int → Int → Int) (C : Int) (m : MM) : Prop := NEG m ∨ ((∀ q : Int, isLs q → m q 2 < 2147483648) ∧ sm (cwt g m) (m 0 0).toNat ≤ C + LSg g m)
theorem ls_ok (hF : Fix m) (h : isLs z) : okc m z 0 := by
  rcases h with rfl | rfl | rfl | rfl | rfl | rfl | rfl | rfl <;> exact fx_kF hF (by decide +kernel)
theorem lsg_eq (h : ∀ q : Int, isLs q → m' q 2 = m q 2) : LSg g m' = LSg g m := by
  unfold LSg
  rw [h 7 (by unfold isLs; decide), h 8 (by unfold isLs; decide), h 9 (by unfold isLs; decide), h 10 (by unfold isLs; decide), h 49 (by unfold isLs; decide), h 53 (by unfold isLs; decide), h 57 (by unfold isLs; decide), h 61 (by unfold isLs; decide)]
theorem OWk.mono (h : OWk g C m) (hc : C ≤ D) : OWk g D m := h.imp id fun h => ⟨h.1, Int.le_trans h.2 (by omega)⟩
theorem OWk.same (h : OWk g C m) (e0 : m' 0 0 = m 0 0) (kn : ∀ b i : Int, i < 0 → m' b i = m b i) (hl : ∀ q : Int, isLs q → m' q 2 = m q 2) : OWk g C m' := by
  refine h.imp (fun ⟨q, q1, q2⟩ => ⟨q, q1, by rw [hl q q1]; exact q2⟩) fun ⟨h1, h2⟩ => ⟨fun q hq => by rw [hl q hq]; exact h1 q hq, ?_⟩
  rw [e0, lsg_eq hl]
  refine Int.le_trans (Int.le_of_eq (sm_ext fun i _ _ => ?_)) h2
  unfold cwt
  rw [kn i _ (by decide), kn i _ (by decide)]
theorem OWk.ms {kd : Nat} (h : OWk g C m) (hF : Fix m) (ok : okc m a kd) (hj : 0 ≤ j) (s : kd ≠ 0 ∨ j ≠ 2) : OWk g C (mset m a j v) := by
  have kn : ∀ b i : Int, i < 0 → mset m a j v b i = m b i := fun b i hi => if_neg fun hh => by omega
  refine h.same (ms_a (by have := ok.1; omega)) kn fun q hq => if_neg fun hh => ?_
  have h1 := (ls_ok hF hq).2.2
  have h2 := ok.2.2
  rw [hh.1] at h1
  omega
theorem OWk.xt (h : OWk g C m) (hF : Fix m) (e0 : m' 0 0 = m 0 0 + 1) (hk : ∀ b i, b < m 0 0 → b ≠ 0 → m' b i = m b i) : OWk g (C + g (m' (m 0 0) (-1)) (m' (m 0 0) (-2))) m' := by
  have h163 := hF.1
  have hl : ∀ q : Int, isLs q → m' q 2 = m q 2 := fun q hq => by
    have := ls_ok hF hq
    exact hk q 2 this.2.1 (by have := this.1; omega)
  refine h.imp (fun ⟨q, q1, q2⟩ => ⟨q, q1, by rw [hl q q1]; exact q2⟩) fun ⟨h1, h2⟩ => ⟨fun q hq => by rw [hl q hq]; exact h1 q hq, ?_⟩
  rw [lsg_eq hl]
  have en : (m' 0 0).toNat = (m 0 0).toNat + 1 := by omega
  rw [en]
  show sm (cwt g m') (m 0 0).toNat + cwt g m' ((m 0 0).toNat : Int) ≤ _
  have es : sm (cwt g m') (m 0 0).toNat = sm (cwt g m) (m 0 0).toNat := sm_ext fun i i0 i1 => by
    have i2 : i < m 0 0 := by omega
    unfold cwt
    by_cases c : i < 163
    · rw [if_pos c, if_pos c]
    · rw [if_neg c, if_neg c, hk i _ i2 (by omega), hk i _ i2 (by omega)]
  have ec : cwt g m' ((m 0 0).toNat : Int) = g (m' (m 0 0) (-1)) (m' (m 0 0) (-2)) := by
    rw [show (((m 0 0).toNat : Nat) : Int) = m 0 0 by omega]
    exact if_neg (by omega)
  rw [es, ec]
  omega
theorem OWk.nw {kd : Nat} {ln : Int} (h : OWk g C m) (hF : Fix m) : OWk g (C + g (kd : Int) ln) (mnew m (kd : Int) ln) := by
  have h163 := hF.1
  have g1 : ∀ j : Int, mnew m kd ln (m 0 0) j = if j = -1 then (kd : Int) else if j = -2 then ln else 0 := fun j => if_pos rfl
  have key := h.xt (m' := mnew m (kd : Int) ln) hF (mn_c (by omega)).1 fun b i hb hb0 => mn_o (by omega) hb0
  rw [g1, g1, if_pos rfl, if_neg (by decide), if_pos rfl] at key
  exact key
theorem OWk.thr (h : OWk g C m) (hF : Fix m) : OWk g (C + g 99 0) (mthr m) := by
  have h163 := hF.1
  have g1 : ∀ j : Int, mthr m (m 0 0) j = if j = -1 then (99 : Int) else if j = -2 then 0 else 0 := fun j => if_pos rfl
  have key := h.xt (m' := mthr m) hF (by unfold mthr; rw [if_neg (by omega), if_pos rfl, if_pos rfl]) fun b i hb hb0 => by unfold mthr; rw [if_neg (by omega), if_neg hb0]
  rw [g1, g1, if_pos rfl, if_neg (by decide), if_pos rfl] at key
  exact key
theorem OWk.cl (h : OWk g C m) (hg : GOK g) (hF : Fix m) (ok : okc m a 101) : OWk g C (mcl m a) := by
  have h163 := hF.1
  have g1 : mcl m a (m 0 0) (-1) = 101 := by
    unfold mcl
    rw [if_pos rfl, if_pos (by decide)]
    exact ok.2.2
  have key := h.xt (m' := mcl m a) hF (by unfold mcl; rw [if_neg (by omega), if_pos rfl, if_pos rfl]) fun b i hb hb0 => by unfold mcl; rw [if_neg (by omega), if_neg hb0]
  rw [g1, (hg.2 _).1] at key
  exact key.mono (by omega)
theorem OWk.cp (h : OWk g C m) (hg : GOK g) (hF : Fix m) : OWk g C (mcp m a n) := by
  have h163 := hF.1
  have g1 : mcp m a n (m 0 0) (-1) = 107 := by
    unfold mcp
    rw [if_pos rfl, if_pos rfl]
  have key := h.xt (m' := mcp m a n) hF (by unfold mcp; rw [if_neg (by omega), if_pos rfl, if_pos rfl]) fun b i hb hb0 => by unfold mcp; rw [if_neg (by omega), if_neg hb0]
  rw [g1, (hg.2 _).2.1] at key
  exact key.mono (by omega)
theorem mif {u : Int} {c : Prop} [Decidable c] : u * (if c then 1 else 0) = if c then u else 0 := by
  split
  · exact Int.mul_one u
  · exact Int.mul_zero u
/-- one list has one more -/
theorem OWk.ls1 (h : OWk g C m) (em : m' = mset m p 2 (w32 (m p 2 + 1))) (h4 : 4 ≤ p) (h0 : 0 ≤ m p 2) : OWk g (C - uof g p) m' := by
  have ko : ∀ q : Int, q ≠ p → m' q 2 = m q 2 := fun q hq => by rw [em]; exact ms_a hq
  rcases h with ⟨q, q1, q2⟩ | ⟨h1, h⟩
  · exact Or.inl ⟨q, q1, by rw [ko q (fun hh => by rw [hh] at q2; omega)]; exact q2⟩
  by_cases cL : isLs p
  rotate_left
  · have ez : uof g p = 0 := by
      unfold isLs at cL
      unfold uof
      rw [if_neg (by omega), if_neg (by omega), if_neg (by omega), if_neg (by omega), if_neg (by omega)]
    refine OWk.mono (OWk.same (Or.inr ⟨h1, h⟩) (by rw [em]; exact ms_a (by omega)) (fun b i hi => by rw [em]; exact if_neg fun hh => by omega) fun q hq => ko q fun hh => cL (hh ▸ hq)) (by omega)
  by_cases cB : m p 2 + 1 < 2147483648
  rotate_left
  · have hs := h1 p cL
    refine Or.inl ⟨p, cL, ?_⟩
    rw [em, ms_e, show m p 2 + 1 = 2147483648 by omega]
    decide
  rw [w32_id (by omega) cB] at em
  have kn : ∀ b i : Int, i < 0 → m' b i = m b i := fun b i hi => by rw [em]; exact if_neg fun hh => by omega
  have kl : ∀ q : Int, m' q 2 = m q 2 + (if q = p then 1 else 0) := fun q => by
    rw [em]
    by_cases c : q = p
    · rw [c, if_pos rfl, ms_e]
    · rw [if_neg c, ms_a c]
      omega
  have e0 : m' 0 0 = m 0 0 := by rw [em]; exact ms_a (by omega)
  have es : sm (cwt g m') (m 0 0).toNat = sm (cwt g m) (m 0 0).toNat := sm_ext fun i _ _ => by
    unfold cwt
    rw [kn i _ (by decide), kn i _ (by decide)]
  have el : LSg g m' = LSg g m + uof g p := by
    unfold LSg uof
    rw [kl, kl, kl, kl, kl, kl, kl, kl]
    simp only [Int.mul_add, mif]
    by_cases c1 : p = 7
    · subst c1
      rw [if_pos (show (7 : Int) = 7 from rfl), if_neg (show ¬ (8 : Int) = 7 by decide), if_neg (show ¬ (9 : Int) = 7 by decide), if_neg (show ¬ (10 : Int) = 7 by decide), if_neg (show ¬ (49 : Int) = 7 by decide), if_neg (show ¬ (53 : Int) = 7 by decide), if_neg (show ¬ (57 : Int) = 7 by decide), if_neg (show ¬ (61 : Int) = 7 by decide)]
      rw [if_pos (show (7 : Int) = 7 from rfl)]
      omega
    by_cases c2 : p = 8
    · subst c2
      rw [if_neg (show ¬ (7 : Int) = 8 by decide), if_pos (show (8 : Int) = 8 from rfl), if_neg (show ¬ (9 : Int) = 8 by decide), if_neg (show ¬ (10 : Int) = 8 by decide), if_neg (show ¬ (49 : Int) = 8 by decide), if_neg (show ¬ (53 : Int) = 8 by decide), if_neg (show ¬ (57 : Int) = 8 by decide), if_neg (show ¬ (61 : Int) = 8 by decide)]
      rw [if_neg (show ¬ (8 : Int) = 7 by decide), if_pos (show (8 : Int) = 8 from rfl)]
      omega
    by_cases c3 : p = 9
    · subst c3
      rw [if_neg (show ¬ (7 : Int) = 9 by decide), if_neg (show ¬ (8 : Int) = 9 by decide), if_pos (show (9 : Int) = 9 from rfl), if_neg (show ¬ (10 : Int) = 9 by decide), if_neg (show ¬ (49 : Int) = 9 by decide), if_neg (show ¬ (53 : Int) = 9 by decide), if_neg (show ¬ (57 : Int) = 9 by decide), if_neg (show ¬ (61 : Int) = 9 by decide)]
      rw [if_neg (show ¬ (9 : Int) = 7 by decide), if_neg (show ¬ (9 : Int) = 8 by decide), if_pos (show (9 : Int) = 9 from rfl)]
      omega
    by_cases c4 : p = 10
    · subst c4
      rw [if_neg (show ¬ (7 : Int) = 10 by decide), if_neg (show ¬ (8 : Int) = 10 by decide), if_neg (show ¬ (9 : Int) = 10 by decide), if_pos (show (10 : Int) = 10 from rfl), if_neg (show ¬ (49 : Int) = 10 by decide), if_neg (show ¬ (53 : Int) = 10 by decide), if_neg (show ¬ (57 : Int) = 10 by decide), if_neg (show ¬ (61 : Int) = 10 by decide)]
      rw [if_neg (show ¬ (10 : Int) = 7 by decide), if_neg (show ¬ (10 : Int) = 8 by decide), if_neg (show ¬ (10 : Int) = 9 by decide), if_pos (show (10 : Int) = 10 from rfl)]
      omega
    rw [if_neg (Ne.symm c1), if_neg (Ne.symm c2), if_neg (Ne.symm c3), if_neg (Ne.symm c4), if_neg c1, if_neg c2, if_neg c3, if_neg c4]
    by_cases c5 : p = 49 ∨ p = 53 ∨ p = 57 ∨ p = 61
    · rw [if_pos c5]
      rcases c5 with rfl | rfl | rfl | rfl
      · rw [if_pos rfl, if_neg (by decide), if_neg (by decide), if_neg (by decide)]
        omega
      · rw [if_neg (by decide), if_pos rfl, if_neg (by decide), if_neg (by decide)]
        omega
      · rw [if_neg (by decide), if_neg (by decide), if_pos rfl, if_neg (by decide)]
        omega
      · rw [if_neg (by decide), if_neg (by decide), if_neg (by decide), if_pos rfl]
        omega
    · rw [if_neg c5, if_neg (by omega), if_neg (by omega), if_neg (by omega), if_neg (by omega)]
      omega
  refine Or.inr ⟨fun q hq => ?_, ?_⟩
  · rw [kl]
    split
    · rename_i c
      rw [c]
      exact cB
    · have := h1 q hq
      omega
  · rw [e0, es, el]
    omega
theorem uof_n (hg : GOK g) : 0 ≤ uof g p := by
  have h7 := hg.1 7 20
  have h3 := hg.1 3 5
  have h6 := hg.1 6 3
  have h1 := hg.1 1 11
  have h10 := hg.1 10 6
  have h8 := hg.1 8 9
  unfold uof uRun
  split
  · omega
  · split
    · omega
    · split
      · omega
      · split
        · omega
        · split <;> omega
/-- what a method keeps of it: d is what it makes anew, unpaid -/
def Kd (W : List (Int × Int × Int)) (e : Int) (d : (Int → Int → Int) → Int) (m m' : MM) : Prop := Fr W e m m' ∧ ∀ (g : Int → Int → Int) (C : Int), GOK g → OWk g C m → OWk g (C + d g) m'
/-- n things are thrown -/
def Kr (W : List (Int × Int × Int)) (e n : Int) (m m' : MM) : Prop := Kd W e (fun g => n * g 99 0) m m'
theorem Kd.fix (w : Kd W e d mb m) : Fix m := w.1.fix
theorem Kd.ext (w : Kd W e d mb m) : Ext mb m := w.1.ext
theorem Kd.nge (w : Kd W e d mb m) (ez : z = m 0 0) : mb 0 0 ≤ z := w.1.nge ez
theorem Kd.rf (hF : Fix m) : Kd W e (fun _ => 0) m m := ⟨Fr.rf hF, fun g C _ h => h.mono (by (try dsimp only); omega)⟩
theorem Kd.le (w : Kd W e d mb m) (h : ∀ g, GOK g → d g ≤ d' g) : Kd W e d' mb m := ⟨w.1, fun g C hg o => (w.2 g C hg o).mono (by have := h g hg; omega)⟩
theorem Kd.upE {kd : Nat} (w : Kd W a d mb m) (em : m1 = mset m a j v) (xe : Ext m m1) (ha : 4 ≤ a) (fx : Fix (mset m a j v)) (ok : okc m a kd) (hj : 0 ≤ j) (s : kd ≠ 0 ∨ j ≠ 2) : Kd W a d mb m1 := ⟨w.1.upE em xe ha fx, fun g C hg h => by rw [em]; exact (w.2 g C hg h).ms w.fix ok hj s⟩
theorem Kd.upC {y : Int} {kd : Nat} (w : Kd W e d mb m) (em : m1 = mset m a j v) (xe : Ext m m1) (ha : 4 ≤ a) (fx : Fix (mset m a j v)) (hy : y = -9 ∨ y = j) (hm : W.contains (0, a, y) = true) (ok : okc m a kd) (hj : 0 ≤ j) (s : kd ≠ 0 ∨ j ≠ 2) : Kd W e d mb m1 := ⟨w.1.upC em xe ha fx hy hm, fun g C hg h => by rw [em]; exact (w.2 g C hg h).ms w.fix ok hj s⟩
theorem Kd.upK {y : Int} {kd kd' : Nat} (w : Kd W e d mb m) (em : m1 = mset m a j v) (xe : Ext m m1) (ha : 4 ≤ a) (fx : Fix (mset m a j v)) (ok' : okc m a kd') (hy : y = -9 ∨ y = j) (hm : W.contains (1, (kd' : Int), y) = true) (ok : okc m a kd) (hj : 0 ≤ j) (s : kd ≠ 0 ∨ j ≠ 2) : Kd W e d mb m1 := ⟨w.1.upK em xe ha fx ok' hy hm, fun g C hg h => by rw [em]; exact (w.2 g C hg h).ms w.fix ok hj s⟩
theorem Kd.upA {kd : Nat} (w : Kd W e d mb m) (em : m1 = mset m a j v) (xe : Ext m m1) (ha : 4 ≤ a) (fx : Fix (mset m a j v)) (ok' : okc m a 101) (h163 : 163 ≤ a) (hm : W.contains (3, 101, -9) = true) (ok : okc m a kd) (hj : 0 ≤ j) (s : kd ≠ 0 ∨ j ≠ 2) : Kd W e d mb m1 := ⟨w.1.upA em xe ha fx ok' h163 hm, fun g C hg h => by rw [em]; exact (w.2 g C hg h).ms w.fix ok hj s⟩
theorem Kd.nw {kd : Nat} {kz ln : Int} (hz : kz = (kd : Int)) (w : Kd W e d mb m) (em : m1 = mnew m (kd : Int) ln) (hm : W.contains (9, 0, 0) = true) : Kd W e (fun g => d g + g kz ln) mb m1 := ⟨w.1.nw em hm, fun g C hg h => by rw [em, hz]; exact ((w.2 g C hg h).nw w.fix).mono (by (try dsimp only); omega)⟩
theorem Kd.nw0 {kd : Nat} {ln : Int} (w : Kd W e d mb m) (em : m1 = mnew m (kd : Int) ln) (hm : W.contains (9, 0, 0) = true) (hk : kd = 101 ∨ kd = 107 ∨ kd = 108) : Kd W e d mb m1 := ⟨w.1.nw em hm, fun g C hg h => by
  rw [em]
  refine ((w.2 g C hg h).nw w.fix).mono ?_
  obtain ⟨q1, q2, q3⟩ := hg.2 ln
  rcases hk with rfl | rfl | rfl
  · show _ + g 101 ln ≤ _
    omega
  · show _ + g 107 ln ≤ _
    omega
  · show _ + g 108 ln ≤ _
    omega⟩
theorem Kd.thr (w : Kd W e d mb m) (hm : W.contains (9, 0, 0) = true) : Kd W e (fun g => d g + g 99 0) mb (mthr m) := ⟨w.1.thr hm, fun g C hg h => ((w.2 g C hg h).thr w.fix).mono (by (try dsimp only); omega)⟩
theorem Kd.cl (w : Kd W e d mb m) (em : m1 = mcl m a) (hm : W.contains (9, 0, 0) = true) (ok : okc m a 101) : Kd W e d mb m1 := ⟨w.1.cl em hm, fun g C hg h => by rw [em]; exact (w.2 g C hg h).cl hg w.fix ok⟩
theorem Kd.tr0 (w : Kd W e d1 mb m) (f : Kd W' 0 d2 m m1) (hs : (W'.all fun w => W.contains w) = true) : Kd W e (fun g => d1 g + d2 g) mb m1 := ⟨w.1.tr0 f.1 hs, fun g C hg h => (f.2 g _ hg (w.2 g C hg h)).mono (by (try dsimp only); omega)⟩
theorem Kd.trN (w : Kd W e d1 mb m) (f : Kd W' a d2 m m1) (hn : mb 0 0 ≤ a) (hs : (W'.all fun w => W.contains w) = true) : Kd W e (fun g => d1 g + d2 g) mb m1 := ⟨w.1.trN f.1 hn hs, fun g C hg h => (f.2 g _ hg (w.2 g C hg h)).mono (by (try dsimp only); omega)⟩
theorem Kd.trE (w : Kd W e d1 mb m) (f : Kd W' e d2 m m1) (hs : (W'.all fun w => W.contains w) = true) : Kd W e (fun g => d1 g + d2 g) mb m1 := ⟨w.1.trE f.1 hs, fun g C hg h => (f.2 g _ hg (w.2 g C hg h)).mono (by (try dsimp only); omega)⟩
theorem Kd.trS (w : Kd W e d1 mb m) (f : Kd W e d2 m m1) : Kd W e (fun g => d1 g + d2 g) mb m1 := ⟨w.1.trS f.1, fun g C hg h => (f.2 g _ hg (w.2 g C hg h)).mono (by (try dsimp only); omega)⟩
theorem Kr.fix (w : Kr W e n mb m) : Fix m := w.1.fix
theorem Kr.ext (w : Kr W e n mb m) : Ext mb m := w.1.ext
theorem Kr.nge (w : Kr W e n mb m) (ez : z = m 0 0) : mb 0 0 ≤ z := w.1.nge ez
theorem Kr.rf (hF : Fix m) : Kr W e 0 m m := Kd.le (Kd.rf hF) fun g hg => by (try dsimp only); omega
theorem Kr.le (w : Kr W e n mb m) (h : n ≤ k) : Kr W e k mb m := Kd.le w fun g hg => Int.mul_le_mul_of_nonneg_right h (hg.1 99 0)
theorem Kr.upE {kd : Nat} (w : Kr W a n mb m) (em : m1 = mset m a j v) (xe : Ext m m1) (ha : 4 ≤ a) (fx : Fix (mset m a j v)) (ok : okc m a kd) (hj : 0 ≤ j) (s : kd ≠ 0 ∨ j ≠ 2) : Kr W a n mb m1 := Kd.upE w em xe ha fx ok hj s
theorem Kr.upC {y : Int} {kd : Nat} (w : Kr W e n mb m) (em : m1 = mset m a j v) (xe : Ext m m1) (ha : 4 ≤ a) (fx : Fix (mset m a j v)) (hy : y = -9 ∨ y = j) (hm : W.contains (0, a, y) = true) (ok : okc m a kd) (hj : 0 ≤ j) (s : kd ≠ 0 ∨ j ≠ 2) : Kr W e n mb m1 := Kd.upC w em xe ha fx hy hm ok hj s
theorem Kr.upK {y : Int} {kd kd' : Nat} (w : Kr W e n mb m) (em : m1 = mset m a j v) (xe : Ext m m1) (ha : 4 ≤ a) (fx : Fix (mset m a j v)) (ok' : okc m a kd') (hy : y = -9 ∨ y = j) (hm : W.contains (1, (kd' : Int), y) = true) (ok : okc m a kd) (hj : 0 ≤ j) (s : kd ≠ 0 ∨ j ≠ 2) : Kr W e n mb m1 := Kd.upK w em xe ha fx ok' hy hm ok hj s
theorem Kr.upA {kd : Nat} (w : Kr W e n mb m) (em : m1 = mset m a j v) (xe : Ext m m1) (ha : 4 ≤ a) (fx : Fix (mset m a j v)) (ok' : okc m a 101) (h163 : 163 ≤ a) (hm : W.contains (3, 101, -9) = true) (ok : okc m a kd) (hj : 0 ≤ j) (s : kd ≠ 0 ∨ j ≠ 2) : Kr W e n mb m1 := Kd.upA w em xe ha fx ok' h163 hm ok hj s
theorem Kr.nw0 {kd : Nat} {ln : Int} (w : Kr W e n mb m) (em : m1 = mnew m (kd : Int) ln) (hm : W.contains (9, 0, 0) = true) (hk : kd = 101 ∨ kd = 107 ∨ kd = 108) : Kr W e n mb m1 := Kd.nw0 w em hm hk
theorem Kr.cl (w : Kr W e n mb m) (em : m1 = mcl m a) (hm : W.contains (9, 0, 0) = true) (ok : okc m a 101) : Kr W e n mb m1 := Kd.cl w em hm ok
theorem Kr.thr (w : Kr W e 0 mb m) (hm : W.contains (9, 0, 0) = true) : Kr W e 1 mb (mthr m) := ⟨w.1.thr hm, fun g C hg h => ((w.2 g C hg h).thr w.fix).mono (by (try dsimp only); omega)⟩
theorem Kr.tr0 (w : Kr W e 0 mb m) (f : Kr W' 0 n m m1) (hs : (W'.all fun w => W.contains w) = true) : Kr W e n mb m1 := Kd.le (Kd.tr0 w f hs) fun g _ => by (try dsimp only); omega
theorem Kr.trN (w : Kr W e 0 mb m) (f : Kr W' a n m m1) (hn : mb 0 0 ≤ a) (hs : (W'.all fun w => W.contains w) = true) : Kr W e n mb m1 := Kd.le (Kd.trN w f hn hs) fun g _ => by (try dsimp only); omega
theorem Kr.trE (w : Kr W e 0 mb m) (f : Kr W' e n m m1) (hs : (W'.all fun w => W.contains w) = true) : Kr W e n mb m1 := Kd.le (Kd.trE w f hs) fun g _ => by (try dsimp only); omega
theorem Kr.trS (w : Kr W e 0 mb m) (f : Kr W e n m m1) : Kr W e n mb m1 := Kd.le (Kd.trS w f) fun g _ => by (try dsimp only); omega
theorem uo_7 : uof g 7 = uRun g := if_pos rfl
theorem uo_8 : uof g 8 = g 1 11 := (if_neg (by decide)).trans (if_pos rfl)
theorem uo_9 : uof g 9 = g 10 6 := (if_neg (by decide)).trans ((if_neg (by decide)).trans (if_pos rfl))
theorem uo_10 : uof g 10 = g 8 9 := (if_neg (by decide)).trans ((if_neg (by decide)).trans ((if_neg (by decide)).trans (if_pos rfl)))
theorem uo_t {t : Int} (hF : Fix m) (ht : isT t) : uof g (m t 0) = g 6 3 := by
  rw [ty0 hF ht]
  unfold uof
  unfold isT at ht
  rw [if_neg (by omega), if_neg (by omega), if_neg (by omega), if_neg (by omega), if_pos (by omega)]
theorem ty_isT {x : Int} (hF : Fix m) (h : fm_X11_typeAt p m = some (.inl x, m')) : isT x := by
  rw [typeAt_e hF] at h
  by_cases c : 0 ≤ p ∧ p < 4
  · rw [if_pos c] at h
    cases h
    exact isT_4 c.1 c.2
  · rw [if_neg c] at h
    cases h
/-- whether it has thrown -/
def tn (rr : Int ⊕ Nat) : Int := match rr with
  | .inl _ => 0
  | .inr _ => 1
end KIA
/-! by hand: a list grows, arrays are copied -/
section KIB
variable {m m1 mb m' : MM} {C D a b j k r v z e n p : Int} {g : Int → Int → Int} {d : (Int → Int → Int) → Int}
theorem kw_J7_copyOf_1904c {m0 : MM} {p0 p1 : Int} {rz : Int} {rm : MM} (hF : Fix m0) (h : fm_J7_copyOf_1904c p0 p1 m0 = some (rz, rm)) : Kr [(9, 0, 0)] 0 0 m0 rm := by
  refine ⟨fw_J7_copyOf_1904c hF h, fun g C hg o => ?_⟩
  obtain ⟨hk, h⟩ := @gd_s _ _ (Classical.propDecidable _) _ _ h
  cases h
  exact (o.cp hg hF).mono (by (try dsimp only); omega)
theorem kw_J7_copyOf_c38d5 {m0 : MM} {p0 p1 : Int} {rz : Int} {rm : MM} (hF : Fix m0) (h : fm_J7_copyOf_c38d5 p0 p1 m0 = some (rz, rm)) : Kr fW_J7_copyOf_c38d5 0 0 m0 rm := by
  refine ⟨fw_J7_copyOf_c38d5 hF h, fun g C hg o => ?_⟩
  unfold fm_J7_copyOf_c38d5 at h
  obtain ⟨g_3, h⟩ := gd_s h
  rcases it_s h with ⟨hp_4, h⟩ | ⟨hp_4, h⟩
  · obtain ⟨x_40, m_41, e_42, e_43, h⟩ := cl_s h
    cases h
    rw [e_43]
    exact (o.cl hg hF g_3).mono (by (try dsimp only); omega)
  · obtain ⟨g_5, h⟩ := gd_s h
    obtain ⟨x_6, m_7, e_8, e_9, h⟩ := nw_s h
    obtain ⟨x_32, hc_31, h⟩ := bp_s h
    cases h
theorem kd_ladd {p0 p1 rz : Int} {rm m0 : MM} (hF : Fix m0) (g0 : okc m0 p0 0) (h : fm_Jx4a65c_add_9ea2d p0 p1 m0 = some (rz, rm)) : Kd fW_Jx4a65c_add_9ea2d 0 (fun g => - uof g p0) m0 rm := by
  refine ⟨fw_Jx4a65c_add_9ea2d hF g0 h, fun g C hg o => ?_⟩
  unfold fm_Jx4a65c_add_9ea2d at h
  obtain ⟨x_4, e_5, h⟩ := lx_s h
  obtain ⟨m_10, e_11, h⟩ := up_s h
  obtain ⟨x_21, e_22, h⟩ := lx_s h
  obtain ⟨x_26, e_27, h⟩ := lx_s h
  obtain ⟨x_29, m_30, hc, h⟩ := bd_s h
  cases h
  have hx := ext_up e_11 g0.1 (by decide)
  have o1 : OWk g C m_10 := by rw [e_11]; exact o.ms hF g0 (by decide) (Or.inr (by decide))
  have hF1 : Fix m_10 := by rw [e_11]; exact fx_f (j := 0) hF g0 (by decide +kernel)
  have ok1 := hx.ok g0
  have jn : ∀ {q : MM} {y : Int}, OWk g C q → Fix q → okc q p0 0 → q p0 2 = x_26 → fj_Jx4a65c_add_72be8_11 p0 p1 y x_26 q = some (x_29, rm) → OWk g (C - uof g p0) rm := fun {q y} o2 fq ok2 e2 h => by
    unfold fj_Jx4a65c_add_72be8_11 at h
    obtain ⟨g_1, h⟩ := gd_s h
    obtain ⟨g_2, h⟩ := gd_s h
    obtain ⟨g_3, h⟩ := gd_s h
    obtain ⟨m_7, e_8, h⟩ := up_s h
    obtain ⟨m_20, e_21, h⟩ := up_s h
    cases h
    have hne : p0 ≠ y := okc_ap ok2 g_1 (by decide)
    have o3 : OWk g C m_7 := by rw [e_8]; exact o2.ms fq g_1 g_2.1 (Or.inl (by decide))
    have e3 : m_7 p0 2 = x_26 := by rw [e_8, ms_a hne]; exact e2
    refine o3.ls1 (p := p0) (by rw [e3]; exact e_21) ok2.1 (by rw [e3]; exact g_2.1)
  have o9 : ∀ {q : MM}, OWk g (C - uof g p0) q → OWk g (C + (fun g => - uof g p0) g) q := fun h => h.mono (by (try dsimp only); omega)
  refine o9 ?_
  unfold fm_Jx4a65c_add_72be8 at hc
  obtain ⟨g_2, hc⟩ := gd_s hc
  rcases it_s hc with ⟨hp, hc⟩ | ⟨hp, hc⟩
  · obtain ⟨x_28, m_29, hc_2, hc⟩ := bd_s hc
    have w := fw_Jx4a65c_grow_d5877 hF1 ok1 hc_2
    have e2 : m_29 p0 2 = m_10 p0 2 ∧ OWk g C m_29 := by
      unfold fm_Jx4a65c_grow_d5877 at hc_2
      obtain ⟨x_5, e_6, hc_2⟩ := lx_s hc_2
      obtain ⟨x_11, m_12, hc_3, hc_2⟩ := bd_s hc_2
      cases hc_2
      have big : ∀ {y1 y2 : Int}, fj_Jx4a65c_grow_92f84_20 p0 y1 y2 m_10 = some (x_28, m_29) → m_29 p0 2 = m_10 p0 2 ∧ OWk g C m_29 := fun h => by
        unfold fj_Jx4a65c_grow_92f84_20 at h
        obtain ⟨x_25, hc_24, h⟩ := bp_s h
        obtain ⟨x_40, e_41, h⟩ := lx_s h
        obtain ⟨x_43, m_44, hc_42, h⟩ := bd_s h
        obtain ⟨m_55, e_56, h⟩ := up_s h
        cases h
        have w2 := fw_J7_copyOf_1904c hF1 hc_42
        obtain ⟨hk, hc_42⟩ := @gd_s _ _ (Classical.propDecidable _) _ _ hc_42
        cases hc_42
        refine ⟨?_, ?_⟩
        · rw [e_56, ms_j (by decide)]
          unfold mcp
          have := ok1.1
          have := ok1.2.1
          rw [if_neg (by omega), if_neg (by omega)]
        · rw [e_56]
          exact (o1.cp hg hF1).ms w2.fix (w2.ext.ok ok1) (by decide) (Or.inr (by decide))
      unfold fm_Jx4a65c_grow_92f84 at hc_3
      obtain ⟨x_4, e_5, hc_3⟩ := lx_s hc_3
      obtain ⟨g_8, hc_3⟩ := gd_s hc_3
      obtain ⟨x_9, e_10, hc_3⟩ := lx_s hc_3
      rcases it_s hc_3 with ⟨hp_17, hc_3⟩ | ⟨hp_17, hc_3⟩
      · exact big hc_3
      · obtain ⟨g_68, hc_3⟩ := gd_s hc_3
        rcases it_s hc_3 with ⟨hp_67, hc_3⟩ | ⟨hp_67, hc_3⟩
        · obtain ⟨x_72, hc_71, hc_3⟩ := bp_s hc_3
          obtain ⟨g_80, hc_3⟩ := gd_s hc_3
          obtain ⟨x_81, m_82, e_83, e_84, hc_3⟩ := nw_s hc_3
          obtain ⟨m_95, e_96, hc_3⟩ := up_s hc_3
          cases hc_3
          have hx2 := ext_nw hF1 e_84
          refine ⟨?_, ?_⟩
          · rw [e_96, ms_j (by decide), e_84]
            have := ok1.1
            have := ok1.2.1
            exact mn_o (by omega) (by omega)
          · rw [e_96]
            refine OWk.ms ?_ (by rw [e_84]; exact fx_mnew hF1) (hx2.ok ok1) (by decide) (Or.inr (by decide))
            rw [e_84]
            refine (o1.nw (kd := 107) hF1).mono ?_
            have := (hg.2 x_72).2.1
            show C + g 107 x_72 ≤ C
            omega
        · exact big hc_3
    exact jn e2.2 w.fix (w.ext.ok ok1) (by rw [e2.1, e_27]) hc
  · exact jn o1 hF1 ok1 e_27.symm hc
theorem kw_Jx4a65c_add_9ea2d {m0 : MM} {p0 p1 : Int} {rz : Int} {rm : MM} (hF : Fix m0) (g0 : okc m0 p0 0) (h : fm_Jx4a65c_add_9ea2d p0 p1 m0 = some (rz, rm)) : Kr fW_Jx4a65c_add_9ea2d 0 0 m0 rm := Kd.le (kd_ladd hF g0 h) fun g hg => by
  have := uof_n (p := p0) hg
  (try dsimp only)
  omega
end KIB
