/-! THE REFERENCE'S ENGINE: timers; all of a run is over. -/
section RXT1
variable {m m' M : MM} {e e' e2 : ES} {a b c i j k o r v w p t s x y n ev due q A B : Int} {l : List Int}
theorem setP {α : Type} : ∀ (l : List α) (k : Nat) (z : α) (hk : k < l.length), (l[k] :: l.set k z).Perm (z :: l) := by
  intro l
  induction l with
  | nil => intro k z hk; exact absurd hk (by simp)
  | cons x t ih =>
    intro k z hk
    cases k with
    | zero => exact List.Perm.swap z x t
    | succ k =>
      have hk' : k < t.length := Nat.lt_of_succ_lt_succ hk
      have h1 := ih k z hk'
      show (t[k] :: x :: t.set k z).Perm (z :: x :: t)
      exact (List.Perm.swap x (t[k]) _).trans ((h1.cons x).trans (List.Perm.swap z x t))
/-- the last one comes to the place of one that goes -/
theorem rgP {α : Type} {f g : Nat → α} {n k : Nat} (hk : k ≤ n) (hg : ∀ i, i < n → g i = if i = k then f n else f i) : (f k :: (List.range n).map g).Perm ((List.range (n + 1)).map f) := by
  rw [List.range_succ, List.map_append]
  show (f k :: (List.range n).map g).Perm ((List.range n).map f ++ [f n])
  by_cases c : k = n
  · subst c
    have : (List.range k).map g = (List.range k).map f := List.map_congr_left fun i hi => by
      have := List.mem_range.mp hi
      rw [hg i this, if_neg (by omega)]
    rw [this]
    exact (List.perm_append_singleton (f k) _).symm
  · have hk2 : k < ((List.range n).map f).length := by rw [List.length_map, List.length_range]; omega
    have e1 : (List.range n).map g = ((List.range n).map f).set k (f n) := by
      apply List.ext_getElem
      · simp
      · intro i h1 h2
        have hi : i < n := by simpa using h1
        rw [List.getElem_map, List.getElem_range, List.getElem_set, hg i hi]
        by_cases ci : i = k
        · rw [if_pos ci, if_pos ci.symm]
        · rw [if_neg ci, if_neg (fun hh => ci hh.symm), List.getElem_map, List.getElem_range]
    have e2 : f k = ((List.range n).map f)[k] := by rw [List.getElem_map, List.getElem_range]
    rw [e1, e2]
    exact (setP _ k (f n) hk2).trans (List.perm_append_singleton (f n) _).symm
/-- what a change of timers leaves -/
def FrT (m m' : MM) : Prop := ∀ a j : Int, ¬ (109 ≤ a ∧ a ≤ 111) → (a ≠ 68 ∨ j ≠ 46) → m' a j = m a j
theorem FrT.rf : FrT m m := fun _ _ _ _ => rfl
theorem FrT.tr (h : FrT m m') (g : FrT m' M) : FrT m M := fun a j h1 h2 => (g a j h1 h2).trans (h a j h1 h2)
theorem FrT.scr (h : FrT m m') : SCR m m' := ⟨fun a j g1 g2 => h a j (by omega) (Or.inl g1), fun j g1 => h _ _ (by decide) (Or.inr (by omega))⟩
def TI (m : MM) : Prop := 0 ≤ m 68 46 ∧ m 68 46 ≤ 512
theorem rRem (h : TI m) (k0 : 0 ≤ k) (k1 : k < m 68 46) : ∃ m', fm_X12_removesTimer k m = some (0, m') ∧ FrT m m' ∧ TI m' ∧ m' 68 46 = m 68 46 - 1 ∧ ((m 109 k, m 110 k, m 111 k) :: xT m').Perm (xT m) ∧ ∀ j, 0 ≤ j → j < m 68 46 - 1 → (m' 109 j = if j = k then m 109 (m 68 46 - 1) else m 109 j) ∧ (m' 110 j = if j = k then m 110 (m 68 46 - 1) else m 110 j) := by
  obtain ⟨h0, h1⟩ := h
  obtain ⟨c, hc⟩ : ∃ c, c = m 68 46 - 1 := ⟨_, rfl⟩
  have e1 : fm_X12_removesTimer k m = some (0, mset (mset (mset (mset m 68 46 c) 109 k (m 109 c)) 110 k (m 110 c)) 111 k (m 111 c)) := by
    unfold fm_X12_removesTimer
    rw [lx_p, w32_id (z := m 68 46 - 1) (by omega) (by omega), ← hc, up_t, lx_p, ms_e, gd_t (by omega), lx_p, ms_a (by decide), gd_t (by omega), up_t, lx_p, ms_a (b := 68) (by decide), ms_e, gd_t (by omega), lx_p, ms_a (by decide), ms_a (by decide), up_t, lx_p, ms_a (b := 68) (by decide), ms_a (b := 68) (by decide), ms_e, gd_t (by omega), lx_p, ms_a (by decide), ms_a (by decide), ms_a (by decide), up_t]
  have f1 : ∀ a j : Int, ¬ (109 ≤ a ∧ a ≤ 111) → (a ≠ 68 ∨ j ≠ 46) → mset (mset (mset (mset m 68 46 c) 109 k (m 109 c)) 110 k (m 110 c)) 111 k (m 111 c) a j = m a j := fun a j g1 g2 => by
    unfold mset
    rw [if_neg (by omega), if_neg (by omega), if_neg (by omega), if_neg (by omega)]
  have f46 : mset (mset (mset (mset m 68 46 c) 109 k (m 109 c)) 110 k (m 110 c)) 111 k (m 111 c) 68 46 = c := by
    rw [ms_a (by decide), ms_a (by decide), ms_a (by decide)]; exact ms_e
  have f9 : ∀ j, mset (mset (mset (mset m 68 46 c) 109 k (m 109 c)) 110 k (m 110 c)) 111 k (m 111 c) 109 j = if j = k then m 109 c else m 109 j := fun j => by
    rw [ms_a (by decide), ms_a (by decide), ms_i, ms_a (by decide)]
  have f10 : ∀ j, mset (mset (mset (mset m 68 46 c) 109 k (m 109 c)) 110 k (m 110 c)) 111 k (m 111 c) 110 j = if j = k then m 110 c else m 110 j := fun j => by
    rw [ms_a (by decide), ms_i, ms_a (by decide), ms_a (by decide)]
  have f11 : ∀ j, mset (mset (mset (mset m 68 46 c) 109 k (m 109 c)) 110 k (m 110 c)) 111 k (m 111 c) 111 j = if j = k then m 111 c else m 111 j := fun j => by
    rw [ms_i, ms_a (by decide), ms_a (by decide), ms_a (by decide)]
  refine ⟨_, e1, f1, ⟨by rw [f46]; omega, by rw [f46]; omega⟩, by rw [f46]; exact hc, ?_, fun j j0 j1 => ⟨by rw [f9, hc], by rw [f10, hc]⟩⟩
  unfold xT
  rw [f46, show (m 68 46).toNat = c.toNat + 1 by omega]
  have := rgP (f := fun i : Nat => (m 109 i, m 110 i, m 111 i)) (g := fun i : Nat => (mset (mset (mset (mset m 68 46 c) 109 k (m 109 c)) 110 k (m 110 c)) 111 k (m 111 c) 109 i, mset (mset (mset (mset m 68 46 c) 109 k (m 109 c)) 110 k (m 110 c)) 111 k (m 111 c) 110 i, mset (mset (mset (mset m 68 46 c) 109 k (m 109 c)) 110 k (m 110 c)) 111 k (m 111 c) 111 i)) (n := c.toNat) (k := k.toNat) (by omega) (fun i hi => by
    show (_, _, _) = _
    rw [f9, f10, f11]
    by_cases ci : (i : Int) = k
    · rw [if_pos ci, if_pos ci, if_pos ci, if_pos (by omega)]
      show _ = (m 109 ((c.toNat : Nat) : Int), m 110 ((c.toNat : Nat) : Int), m 111 ((c.toNat : Nat) : Int))
      rw [show ((c.toNat : Nat) : Int) = c by omega]
    · rw [if_neg ci, if_neg ci, if_neg ci, if_neg (by omega)])
  have e2 : ((k.toNat : Nat) : Int) = k := by omega
  simp only [e2] at this
  exact this
theorem xT_mem (h : TI m) {z : Int × Int × Int} : z ∈ xT m ↔ ∃ k : Int, (0 ≤ k ∧ k < m 68 46) ∧ z = (m 109 k, m 110 k, m 111 k) := by
  unfold xT
  rw [List.mem_map]
  constructor
  · rintro ⟨k, hk, rfl⟩
    have := List.mem_range.mp hk
    exact ⟨(k : Int), by have := h.1; omega, rfl⟩
  · rintro ⟨k, hk, rfl⟩
    refine ⟨k.toNat, List.mem_range.mpr (by omega), ?_⟩
    show (m 109 ((k.toNat : Nat) : Int), m 110 ((k.toNat : Nat) : Int), m 111 ((k.toNat : Nat) : Int)) = _
    rw [show ((k.toNat : Nat) : Int) = k by omega]
/-- timers of a run go -/
theorem stp49 : ∀ (n f : Nat) (y : Int) (m : MM), TI m → (y + 1).toNat = n → n < f → -1 ≤ y → y < m 68 46 → (∀ j, y < j → j < m 68 46 → m 109 j ≠ r) → ∃ m', fl_X12_stops_49 r f y m = some (0, m') ∧ FrT m m' ∧ TI m' ∧ (xT m').Perm ((xT m).filter fun z => decide (z.1 ≠ r)) := by
  intro n
  induction n with
  | zero =>
    intro f y m hT h1 h2 y0 y1 hj
    obtain ⟨f, rfl⟩ : ∃ g, f = g + 1 := ⟨f - 1, by omega⟩
    unfold fl_X12_stops_49
    rw [if_pos (by omega)]
    refine ⟨m, rfl, FrT.rf, hT, ?_⟩
    rw [List.filter_eq_self.mpr]
    intro z hz
    obtain ⟨k, ⟨k0, k1⟩, rfl⟩ := (xT_mem hT).mp hz
    exact decide_eq_true (hj k (by omega) k1)
  | succ n ih =>
    intro f y m hT h1 h2 y0 y1 hj
    obtain ⟨f, rfl⟩ : ∃ g, f = g + 1 := ⟨f - 1, by omega⟩
    have t1 := hT.2
    unfold fl_X12_stops_49
    rw [if_neg (by omega), gd_t (by omega), lx_p]
    by_cases c : m 109 y = r
    · obtain ⟨m1, g1, g2, g3, g4, g5, g6⟩ := rRem hT (show 0 ≤ y by omega) y1
      rw [if_pos c, bd_t g1, lx_p, w32_id (by omega) (by omega)]
      obtain ⟨m', q1, q2, q3, q4⟩ := ih f (y + -1) m1 g3 (by omega) (by omega) (by omega) (by omega) (fun j j0 j1 => by
        rw [(g6 j (by omega) (by omega)).1]
        by_cases cj : j = y
        · rw [if_pos cj]
          exact hj _ (by omega) (by omega)
        · rw [if_neg cj]
          exact hj j (by omega) (by omega))
      refine ⟨m', q1, g2.tr q2, q3, q4.trans ?_⟩
      have := g5.filter (fun z => decide (z.1 ≠ r))
      rw [List.filter_cons_of_neg (by simp [c])] at this
      exact this
    · rw [if_neg c, lx_p, w32_id (by omega) (by omega)]
      exact ih f (y + -1) m hT (by omega) (by omega) (by omega) (by omega) (fun j j0 j1 => by
        by_cases cj : j = y
        · rw [cj]; exact c
        · exact hj j (by omega) j1)
theorem drp59 {K : MM → Option (Int × MM)} : ∀ (n f : Nat) (y : Int) (m : MM), TI m → (y + 1).toNat = n → n < f → -1 ≤ y → y < m 68 46 → (∀ j, y < j → j < m 68 46 → ¬ (m 109 j = r ∧ m 110 j = ev)) → ∃ m', fl_X12_drops_59 r ev K f y m = K m' ∧ FrT m m' ∧ TI m' ∧ (xT m').Perm ((xT m).filter fun z => decide (¬ (z.1 = r ∧ z.2.1 = ev))) := by
  intro n
  induction n with
  | zero =>
    intro f y m hT h1 h2 y0 y1 hj
    obtain ⟨f, rfl⟩ : ∃ g, f = g + 1 := ⟨f - 1, by omega⟩
    unfold fl_X12_drops_59
    rw [if_pos (by omega)]
    refine ⟨m, rfl, FrT.rf, hT, ?_⟩
    rw [List.filter_eq_self.mpr]
    intro z hz
    obtain ⟨k, ⟨k0, k1⟩, rfl⟩ := (xT_mem hT).mp hz
    exact decide_eq_true (hj k (by omega) k1)
  | succ n ih =>
    intro f y m hT h1 h2 y0 y1 hj
    obtain ⟨f, rfl⟩ : ∃ g, f = g + 1 := ⟨f - 1, by omega⟩
    have t1 := hT.2
    have no : ¬ (m 109 y = r ∧ m 110 y = ev) → ∃ m', fl_X12_drops_59 r ev K f (y + -1) m = K m' ∧ FrT m m' ∧ TI m' ∧ (xT m').Perm ((xT m).filter fun z => decide (¬ (z.1 = r ∧ z.2.1 = ev))) := fun c =>
      ih f (y + -1) m hT (by omega) (by omega) (by omega) (by omega) (fun j j0 j1 => by
        by_cases cj : j = y
        · rw [cj]; exact c
        · exact hj j (by omega) j1)
    unfold fl_X12_drops_59
    rw [if_neg (by omega), gd_t (by omega), lx_p]
    by_cases c : m 109 y = r
    · rw [if_pos c, lx_p]
      by_cases c2 : m 110 y = ev
      · obtain ⟨m1, g1, g2, g3, g4, g5, g6⟩ := rRem hT (show 0 ≤ y by omega) y1
        rw [if_pos c2, bd_t g1, lx_p, w32_id (by omega) (by omega)]
        obtain ⟨m', q1, q2, q3, q4⟩ := ih f (y + -1) m1 g3 (by omega) (by omega) (by omega) (by omega) (fun j j0 j1 => by
          obtain ⟨u1, u2⟩ := g6 j (by omega) (by omega)
          rw [u1, u2]
          by_cases cj : j = y
          · rw [if_pos cj, if_pos cj]
            exact hj _ (by omega) (by omega)
          · rw [if_neg cj, if_neg cj]
            exact hj j (by omega) (by omega))
        refine ⟨m', q1, g2.tr q2, q3, q4.trans ?_⟩
        have := g5.filter (fun z => decide (¬ (z.1 = r ∧ z.2.1 = ev)))
        rw [List.filter_cons_of_neg (by simp [c, c2])] at this
        exact this
      · rw [if_neg c2, lx_p, w32_id (by omega) (by omega)]
        exact no fun hh => c2 hh.2
    · rw [if_neg c, lx_p, w32_id (by omega) (by omega)]
      exact no fun hh => c hh.1
/-- what is changed of timers alone -/
theorem RXE.tm (h : RXE m e) (hc : CN e) (r0 : 0 ≤ r) (r1 : r < e.1 7 2) (fR : FrT m m') (fE : ∀ a u : Int, a ≠ 3 → e'.1 a u = e.1 a u) (f3 : e.1 3 0 ≤ e'.1 3 0) (fl : ∀ c : Int, c ≠ 73000 + r → c ≠ 74000 + r → eL e' c = eL e c) (fh : ∀ i, eH e' i = eH e i) (hq : TI m') (hp : (xT m').Perm (pT e' (e.1 7 2).toNat)) : RXE m' e' := by
  have n7 := hc.1
  refine h.chg hc (W := fun a => 109 ≤ a ∧ a ≤ 111) (U := fun a => a = 46) (V := fun a => a = 3 ∨ a = 73000 + r ∨ a = 74000 + r) (fun a j g1 g2 g3 => fR a j g3 (by omega)) (fun u g1 g2 => fR _ _ (by decide) (by omega)) ⟨fun a u g => fE a u (by omega), fun c g => fl c (by omega) (by omega), fun i _ => fh i⟩ (by rw [fE _ _ (by omega)]; omega) (DdM.of fun q q0 q1 => fE _ _ (by omega)) f3 (Or.inl ⟨fun a g => by omega, fun a g => by omega, fun a g => by omega⟩) (Or.inl ⟨fun a g => by omega, fun a g => by omega, fun a g => by omega⟩) (Or.inl ⟨fun a g => by omega, fun a g => by omega, fun a g => by omega⟩) (Or.inl ⟨fun a g => by omega, fun a g => by omega, fun a g => by omega⟩) (Or.inl ⟨fun a g => by omega, fun a g => by omega, fun a g => by omega⟩) (Or.inr ⟨hq, ?_⟩) (Or.inl ⟨fun a g => by omega, fun a g => by omega, fun a g => by omega⟩) (Or.inl ⟨fun a g => by omega, fun a g => by omega, fun a g => by omega⟩) (Or.inl ⟨fun a g => by omega, fun a g => by omega, fun a g => by omega⟩) (Or.inl ⟨fun a g => by omega, fun a g => by omega, fun a g => by omega⟩) (Or.inl ⟨fun a g => by omega, fun a g => by omega, fun a g => by omega⟩) (Or.inl ⟨fun a g => by omega, fun a g => by omega, fun a g => by omega⟩) (Or.inl ⟨fun a g => by omega, fun a g => by omega, fun a g => by omega⟩)
  rw [fE _ _ (by omega)]
  exact hp
theorem pT1_1 {z : Int × Int × Int} (h : z ∈ pT1 e r) : z.1 = r := by
  unfold pT1 at h
  obtain ⟨q, -, rfl⟩ := List.mem_map.mp h
  rfl
theorem pT_b {z : Int × Int × Int} : ∀ {n : Nat}, z ∈ pT e n → 0 ≤ z.1 ∧ z.1 < (n : Int) := by
  intro n
  induction n with
  | zero => intro h; exact absurd h (by unfold pT; simp)
  | succ n ih =>
    intro h
    unfold pT at h
    rcases List.mem_append.mp h with h | h
    · have := ih h; omega
    · rw [pT1_1 h]; omega
/-- a run's part is sifted -/
theorem pT_sift {P : Int × Int × Int → Bool} (hl : ∀ i : Int, i ≠ r → 0 ≤ i → i < 1000 → eL e' (73000 + i) = eL e (73000 + i) ∧ eL e' (74000 + i) = eL e (74000 + i)) (h1 : pT1 e' r = (pT1 e r).filter P) (hP : ∀ z : Int × Int × Int, z.1 ≠ r → P z = true) : ∀ n : Nat, n ≤ 1000 → pT e' n = (pT e n).filter P := by
  intro n
  induction n with
  | zero => intro _; rfl
  | succ n ih =>
    intro hn
    unfold pT
    rw [List.filter_append, ih (by omega)]
    by_cases c : (n : Int) = r
    · rw [c, h1]
    · have : pT1 e' (n : Int) = pT1 e (n : Int) := by
        unfold pT1
        rw [(hl n c (by omega) (by omega)).1, (hl n c (by omega) (by omega)).2]
      rw [this, List.filter_eq_self.mpr (show ∀ z ∈ pT1 e (n : Int), P z = true from fun z hz => hP z (by rw [pT1_1 hz]; exact c))]
theorem ms_id : mset m a j (m a j) = m := by
  funext b i
  by_cases c : b = a ∧ i = j
  · rw [c.1, c.2, ms_e]
  · exact if_neg c
theorem stp2 {K : MM → Option (Int × MM)} (r0 : 0 ≤ r) : ∀ (n f : Nat) (i : Int) (m : MM) (e : ES), RXE m e → CN e → 0 ≤ i → e.1 8 2 < i + n → 0 < n → n ≤ f → ∃ m', fl_X12_stops_2 r K f i m = K m' ∧ RXE m' (pEndA r n i e) ∧ SCR m m' ∧ ∀ j, m' 68 j = m 68 j := by
  intro n
  induction n with
  | zero =>
    intro f i m e h hc i0 i1 hn h2
    omega
  | succ n ih =>
    intro f i m e h hc i0 i1 hn h2
    have n8 := hc.2.1
    have e34 : m 68 34 = e.1 8 2 := h.ps.2.2.2.2.1
    obtain ⟨f, rfl⟩ : ∃ g, f = g + 1 := ⟨f - 1, by omega⟩
    unfold fl_X12_stops_2 pEndA
    rw [lx_p, e34]
    by_cases c : i < e.1 8 2
    · obtain ⟨⟨k98, k99, k100, k101, k102, -⟩, -⟩ := h.pa i i0 c
      rw [if_pos c, if_pos c, gd_t (by omega), lx_p, k98]
      by_cases c2 : e.1 (8000 + i) 0 = r
      · rw [if_pos c2, if_pos c2, up_t, lx_p, w32_id (by omega) (by omega)]
        have e8 : (eS e (8000 + i) 5 2).1 8 2 = e.1 8 2 := eS_a (by omega)
        obtain ⟨m', g1, g2, g3, g4⟩ := ih f (i + 1) _ _ (h.ast (v := 2) hc i0 c (by decide)) (cn_eS hc (by omega)) (by omega) (by rw [e8]; omega) (by omega) (by omega)
        exact ⟨m', g1, g2, (SCR.ms (by decide) (by decide) (by decide) (by omega)).tr g3, fun j => by rw [g4]; exact ms_a (by decide)⟩
      · rw [if_neg c2, if_neg c2, lx_p, up_t, ms_id, lx_p, w32_id (by omega) (by omega)]
        exact ih f (i + 1) m e h hc (by omega) (by omega) (by omega) (by omega)
    · rw [if_neg c, if_neg c]
      exact ⟨m, rfl, h, SCR.rf, fun _ => rfl⟩
theorem endA_cn {n : Nat} (hc : CN e) (i0 : 0 ≤ i) : CN (pEndA r n i e) := hc.of fun a ha => (endA_a (r := r) n i e i0).2 a 2 (by omega)
theorem CN.endw (hc : CN e) : CN (pEnd r e) := hc.of fun a ha => end_a (by omega)
theorem mr_end (hc : CN e) : MR e (pEnd r e) := by
  have n8 := hc.2.1
  exact MR.of (end_a (by omega)) (fun j => end_a (by omega)) (fun j => end_a (by omega)) (end_a (by omega)) (fun i i0 i1 => by unfold hN; exact end_a (by omega))
/-- all of a run is over -/
theorem RXE.endw (h : RXE m e) (hc : CN e) (r0 : 0 ≤ r) (r1 : r < e.1 7 2) : ∃ m', fm_X12_stops r m = some (0, m') ∧ RXE m' (pEnd r e) ∧ SCR m m' := by
  have n7 := hc.1
  have n8 := hc.2.1
  obtain ⟨m1, g1, g2, g3, g4⟩ := stp2 (K := fun m_80 => lx (m_80 68 46) fun x_88 => lx (w32 (x_88 - 1)) fun x_94 => fl_X12_stops_49 r BIG x_94 m_80) r0 61 BIG 0 m e h hc (by decide) (by omega) (by decide) (Nat.le_of_lt (BIG_g (by decide)))
  have hT : TI m1 := g2.pm.1
  obtain ⟨m2, q1, q2, q3, q4⟩ := stp49 (r := r) ((m1 68 46 - 1) + 1).toNat BIG (m1 68 46 - 1) m1 hT rfl (BIG_g (by have := hT.2; omega)) (by have := hT.1; omega) (by omega) (fun j j0 j1 => by omega)
  refine ⟨m2, ?_, ?_, g3.tr q2.scr⟩
  · unfold fm_X12_stops
    rw [g1, lx_p, lx_p, w32_id (by have := hT.1; omega) (by have := hT.2; omega)]
    exact q1
  · have eA : ∀ a u, (a < 8000 ∨ 9000 ≤ a) → (pEndA r 61 0 e).1 a u = e.1 a u := fun a u ha => (endA_a (r := r) 61 0 e (by decide)).2 a u (by omega)
    have e7 : (pEndA r 61 0 e).1 7 2 = e.1 7 2 := eA _ _ (by omega)
    refine g2.tm (endA_cn hc (by decide)) r0 (by rw [e7]; exact r1) q2 (fun a u _ => rfl) (Int.le_refl _) (fun c c1 c2 => ?_) (fun i => rfl) q3 ?_
    · show eL (eLs (eLs _ _ _) _ _) c = _
      rw [eLs_a c2, eLs_a c1]
    · rw [pT_sift (e := pEndA r 61 0 e) (r := r) (P := fun z => decide (z.1 ≠ r)) (fun i hi i0 i1 => ?_) ?_ (fun z hz => decide_eq_true hz) _ (by rw [e7]; omega)]
      · exact q4.trans ((g2.pm.2).filter _)
      · have z1 : eL (pEnd r e) (73000 + r) = [] := by
          show eL (eLs (eLs _ _ _) _ _) _ = _
          rw [eLs_a (by omega), eLs_e]
        have z2 : pT1 (pEnd r e) r = [] := by
          unfold pT1
          rw [z1]
          rfl
        rw [z2, List.filter_eq_nil_iff.mpr]
        intro z hz
        rw [pT1_1 hz]
        simp
      · show eL (eLs (eLs _ _ _) _ _) _ = _ ∧ eL (eLs (eLs _ _ _) _ _) _ = _
        rw [eLs_a (by omega), eLs_a (by omega), eLs_a (by omega), eLs_a (by omega)]
        exact ⟨rfl, rfl⟩
/-- a timer more -/
theorem RXE.addT (h : RXE m e) (hc : CN e) (r0 : 0 ≤ r) (r1 : r < e.1 7 2) (hl : (eL e (73000 + r)).length = (eL e (74000 + r)).length) (hn : (pT e (e.1 7 2).toNat).length < 512) : ∃ m', fm_X12_makesTimer r ev due m = some (0, m') ∧ RXE m' (pAddT r ev due e) ∧ SCR m m' := by
  have n7 := hc.1
  obtain ⟨T0, P0⟩ := h.pm
  have hlen : (m 68 46).toNat < 512 := by
    have := P0.length_eq
    unfold xT at this
    rw [List.length_map, List.length_range] at this
    omega
  obtain ⟨c, hcc⟩ : ∃ c, c = m 68 46 := ⟨_, rfl⟩
  rw [← hcc] at T0 hlen
  have e1 : fm_X12_makesTimer r ev due m = some (0, mset (mset (mset (mset m 109 c r) 110 c ev) 111 c due) 68 46 (c + 1)) := by
    unfold fm_X12_makesTimer
    rw [lx_p, ← hcc, gd_t (by omega), up_t, lx_p, ms_a (b := 68) (by decide), ← hcc, gd_t (by omega), up_t, lx_p, ms_a (b := 68) (by decide), ms_a (b := 68) (by decide), ← hcc, gd_t (by omega), up_t, lx_p, ms_a (b := 68) (by decide), ms_a (b := 68) (by decide), ms_a (b := 68) (by decide), ← hcc, w32_id (by omega) (by omega), up_t]
  have f1 : FrT m (mset (mset (mset (mset m 109 c r) 110 c ev) 111 c due) 68 46 (c + 1)) := fun a j g1 g2 => by
    unfold mset
    rw [if_neg (by omega), if_neg (by omega), if_neg (by omega), if_neg (by omega)]
  have f46 : mset (mset (mset (mset m 109 c r) 110 c ev) 111 c due) 68 46 (c + 1) 68 46 = c + 1 := ms_e
  have fx : ∀ (i : Nat), (i : Int) ≤ c → (mset (mset (mset (mset m 109 c r) 110 c ev) 111 c due) 68 46 (c + 1) 109 i, mset (mset (mset (mset m 109 c r) 110 c ev) 111 c due) 68 46 (c + 1) 110 i, mset (mset (mset (mset m 109 c r) 110 c ev) 111 c due) 68 46 (c + 1) 111 i) = if (i : Int) = c then (r, ev, due) else (m 109 i, m 110 i, m 111 i) := fun i hi => by
    rw [ms_a (b := 109) (by decide), ms_a (b := 110) (by decide), ms_a (b := 111) (by decide), ms_a (b := 109) (by decide), ms_a (b := 109) (by decide), ms_a (b := 110) (by decide), ms_i, ms_i, ms_i, ms_a (b := 110) (by decide), ms_a (b := 111) (by decide), ms_a (b := 111) (by decide)]
    by_cases ci : (i : Int) = c
    · rw [if_pos ci, if_pos ci, if_pos ci, if_pos ci]
    · rw [if_neg ci, if_neg ci, if_neg ci, if_neg ci]
  refine ⟨_, e1, h.tm hc r0 r1 f1 (fun a u g => addT_1 g) ?_ (fun q q1 q2 => ?_) (fun i => rfl) ⟨by rw [f46]; omega, by rw [f46]; omega⟩ ?_, f1.scr⟩
  · have h30 : (pAddT r ev due e).1 3 0 = e.1 3 0 := eS_j (e := eLs e (73000 + r) (eL e (73000 + r) ++ [ev])) (a := 3) (i := 0) (j := 1) (v := e.1 3 1 + 1) (by decide)
    rw [h30]
    exact Int.le_refl _
  · show eL (eLs (eS (eLs e _ _) _ _ _) _ _) q = _
    rw [eLs_a q2]
    show eL (eLs e _ _) q = _
    rw [eLs_a q1]
  · have x1 : xT (mset (mset (mset (mset m 109 c r) 110 c ev) 111 c due) 68 46 (c + 1)) = xT m ++ [(r, ev, due)] := by
      unfold xT
      rw [f46, ← hcc, show (c + 1).toNat = c.toNat + 1 by omega, List.range_succ, List.map_append]
      congr 1
      · exact List.map_congr_left fun i hi => by
          have := List.mem_range.mp hi
          rw [fx i (by omega), if_neg (by omega)]
      · have := fx c.toNat (by omega)
        rw [if_pos (by omega)] at this
        exact congrArg (fun z => [z]) this
    have p1 : pT1 (pAddT r ev due e) r = pT1 e r ++ [(r, ev, due)] := by
      have z1 : eL (pAddT r ev due e) (73000 + r) = eL e (73000 + r) ++ [ev] := by
        show eL (eLs (eS (eLs e _ _) _ _ _) _ _) _ = _
        rw [eLs_a (by omega)]
        show eL (eLs e _ _) _ = _
        rw [eLs_e]
      have z2 : eL (pAddT r ev due e) (74000 + r) = eL e (74000 + r) ++ [due] := by
        show eL (eLs (eS (eLs e _ _) _ _ _) _ _) _ = _
        rw [eLs_e]
      unfold pT1
      rw [z1, z2, List.zip_append hl, List.map_append]
      rfl
    have p2 : ∀ n : Nat, n ≤ 30 → (r < (n : Int) → ((r, ev, due) :: pT e n).Perm (pT (pAddT r ev due e) n)) ∧ ((n : Int) ≤ r → pT (pAddT r ev due e) n = pT e n) := by
      have zl : ∀ i : Int, i ≠ r → 0 ≤ i → i < 1000 → pT1 (pAddT r ev due e) i = pT1 e i := fun i hi i0 i1 => by
        have y1 : ∀ c : Int, c ≠ 73000 + r → c ≠ 74000 + r → eL (pAddT r ev due e) c = eL e c := fun q q1 q2 => by
          show eL (eLs (eS (eLs e _ _) _ _ _) _ _) q = _
          rw [eLs_a q2]
          show eL (eLs e _ _) q = _
          rw [eLs_a q1]
        unfold pT1
        rw [y1 _ (by omega) (by omega), y1 _ (by omega) (by omega)]
      intro n
      induction n with
      | zero => intro _; exact ⟨fun hh => by omega, fun _ => rfl⟩
      | succ n ih =>
        intro hn30
        have ih := ih (by omega)
        unfold pT
        by_cases c1 : (n : Int) = r
        · refine ⟨fun _ => ?_, fun hh => by omega⟩
          rw [c1, p1, ih.2 (by omega), ← List.append_assoc]
          exact (List.perm_append_singleton _ _).symm
        · rw [zl n c1 (by omega) (by omega)]
          exact ⟨fun hh => (ih.1 (by omega)).append_right _, fun hh => by rw [ih.2 (by omega)]⟩
    rw [x1]
    exact ((List.perm_append_singleton _ _).trans (P0.cons _)).trans ((p2 (e.1 7 2).toNat (by omega)).1 (by omega))
end RXT1
