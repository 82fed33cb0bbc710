/-! THE REFERENCE'S CALLS: histories that share; counting again; children part. -/
section RXU8
variable {m m' M m1 m2 : MM} {e e' e2 : ES} {a b c i j k o r v w p t s x y n q A B N u z fr y1 y2 : Int} {l L : List Int} {E : Int → Ev}
theorem at2_not {K K' : Int → Option Int} (hs : ∀ z : Int, 0 ≤ z → z < N → 0 < m 88 z → (0 ≤ m 87 z ∧ m 87 z < z) ∧ m 87 z ≠ a) (h7 : ∀ j, j ≠ a → m' 87 j = m 87 j) (h8 : ∀ j, j ≠ a → m' 88 j = m 88 j) (i0 : 0 ≤ i) (hk : ∀ z, z ≠ a → K' z = K z) : ∀ (f : Nat) (y : Int), 0 ≤ y → y < N → y ≠ a → fl_X12_at_2 i m' K' f y = fl_X12_at_2 i m K f y := by
  intro f
  induction f with
  | zero => intro y _ _ _; rfl
  | succ f ih =>
    intro y y0 y1 ya
    unfold fl_X12_at_2
    rw [h7 y ya, h8 y ya, hk y ya]
    by_cases c : i < m 88 y
    · obtain ⟨⟨g1, g2⟩, g3⟩ := hs y y0 y1 (by omega)
      rw [lx_p, if_pos c, lx_p, lx_p, if_pos c, lx_p, ih _ g1 (by omega) g3]
    · rw [lx_p, if_neg c, lx_p, if_neg c]
theorem at_not (hs : ∀ z : Int, 0 ≤ z → z < N → 0 < m 88 z → (0 ≤ m 87 z ∧ m 87 z < z) ∧ m 87 z ≠ a) (h7 : ∀ j, j ≠ a → m' 87 j = m 87 j) (h8 : ∀ j, j ≠ a → m' 88 j = m 88 j) (h9 : ∀ j, m' 96 j = m 96 j) (i0 : 0 ≤ i) (r0 : 0 ≤ r) (r1 : r < N) (ra : r ≠ a) : fm_X12_at r i m' = fm_X12_at r i m := at2_not hs h7 h8 i0 (fun z hz => by
  rw [h8 z hz]
  simp only [h9]) BIG r r0 r1 ra
/-- turns that are left don't matter -/
theorem at2_fu {K : Int → Option Int} (hs : ∀ z : Int, 0 ≤ z → z < N → 0 < m 88 z → 0 ≤ m 87 z ∧ m 87 z < z) (i0 : 0 ≤ i) : ∀ (b : Nat) (y : Int), 0 ≤ y → y < b → y < N → ∀ f f' : Nat, b ≤ f → b ≤ f' → fl_X12_at_2 i m K f y = fl_X12_at_2 i m K f' y := by
  intro b
  induction b with
  | zero => intro y y0 y1; omega
  | succ b ih =>
    intro y y0 y1 y2 f f' h1 h2
    obtain ⟨f, rfl⟩ : ∃ g, f = g + 1 := ⟨f - 1, by omega⟩
    obtain ⟨f', rfl⟩ : ∃ g, f' = g + 1 := ⟨f' - 1, by omega⟩
    unfold fl_X12_at_2
    by_cases c : i < m 88 y
    · obtain ⟨g1, g2⟩ := hs y y0 y2 (by omega)
      rw [lx_p, if_pos c, lx_p, lx_p, if_pos c, lx_p, ih _ g1 (by omega) (by omega) f f' (by omega) (by omega)]
    · rw [lx_p, if_neg c, lx_p, if_neg c]
/-- one step back -/
theorem at_step (hs : ∀ z : Int, 0 ≤ z → z < N → 0 < m 88 z → 0 ≤ m 87 z ∧ m 87 z < z) (i0 : 0 ≤ i) (r0 : 0 ≤ r) (r1 : r < N) (hN3 : N ≤ 30) (r3 : r < 30) (hi : i < m 88 r) : fm_X12_at r i m = fm_X12_at (m 87 r) i m := by
  obtain ⟨B, hB⟩ := BIG_s
  obtain ⟨g1, g2⟩ := hs r r0 r1 (by omega)
  unfold fm_X12_at
  rw [hB]
  conv => lhs; unfold fl_X12_at_2
  rw [gd_t ⟨r0, r3⟩, lx_p, if_pos hi, lx_p]
  have : B = BIG - 1 := by omega
  have hb : BIG = 1000000000 := rfl
  exact at2_fu hs i0 30 _ g1 (by omega) (by omega) B (B + 1) (by omega) (by omega)
theorem RXE.sh (h : RXE m e) : ∀ z : Int, 0 ≤ z → z < e.1 7 2 → 0 < m 88 z → (0 ≤ m 87 z ∧ m 87 z < z) ∧ Dead e (m 87 z) := by
  obtain ⟨mx, -, -, -, -, -, p8⟩ := h.pp
  exact p8
theorem rLeast : fm_X12_least x y m = some (if x < y then x else y) := by
  unfold fm_X12_least
  split <;> rfl
/-- counting again -/
def F3 (r : Int) (m m' : MM) : Prop := ∀ a j : Int, ((a ≠ 89 ∧ a ≠ 90 ∧ a ≠ 91) ∨ j ≠ r) → m' a j = m a j
theorem F3.tr (h : F3 r m m') (g : F3 r m' M) : F3 r m M := fun a j hh => (g a j hh).trans (h a j hh)
/-- no TASK counts less than one before it -/
def TkM (E : Int → Ev) (n : Int) : Prop := ∀ k : Int, 0 ≤ k → k < n → ek (E k) = 17 → cC E k.toNat ≤ ex (E k)
theorem rRec (r0 : 0 ≤ r) (r1 : r < 30) (h86 : m 86 r = n) (n0 : 0 ≤ n) (n1 : n < 524288) (hT : TkM E n) (hk : ∀ M : MM, F3 r m M → ∀ i : Int, 0 ≤ i → i < n → fm_X12_kindAt r i M = some (ek (E i)) ∧ fm_X12_xAt r i M = some (ex (E i))) : ∃ m', fm_X12_recounts r m = some (0, m') ∧ F3 r m m' ∧ m' 89 r = cA E n.toNat ∧ m' 90 r = cT E n.toNat ∧ m' 91 r = cC E n.toNat := by
  have key : ∀ (d f : Nat) (y : Int) (M : MM), F3 r m M → (n - y).toNat = d → d < f → 0 ≤ y → y ≤ n → M 89 r = cA E y.toNat → M 90 r = cT E y.toNat → M 91 r = cC E y.toNat → ∃ m', fl_X12_recounts_23 r f y M = some (0, m') ∧ F3 r m m' ∧ m' 89 r = cA E n.toNat ∧ m' 90 r = cT E n.toNat ∧ m' 91 r = cC E n.toNat := by
    intro d
    induction d with
    | zero =>
      intro f y M g hd hf y0 y1 a1 a2 a3
      obtain ⟨f, rfl⟩ : ∃ g, f = g + 1 := ⟨f - 1, by omega⟩
      have ey' : y = n := by omega
      rw [ey'] at a1 a2 a3
      unfold fl_X12_recounts_23
      rw [gd_t ⟨r0, r1⟩, lx_p, g 86 r (by omega), h86, if_neg (by omega)]
      exact ⟨M, rfl, g, a1, a2, a3⟩
    | succ d ih =>
      intro f y M g hd hf y0 y1 a1 a2 a3
      obtain ⟨f, rfl⟩ : ∃ g, f = g + 1 := ⟨f - 1, by omega⟩
      have hy : y < n := by omega
      obtain ⟨k1, k2⟩ := hk M g y y0 hy
      have ca := cA_b (E := E) y.toNat
      have ct := cT_b (E := E) y.toNat
      have en : (y + 1).toNat = y.toNat + 1 := by omega
      have ey' : ((y.toNat : Nat) : Int) = y := by omega
      have hcc := x_counts (m := M) (k := ek (E y)) (x := ex (E y)) r0 r1 (by rw [a1]; omega) (by rw [a2]; omega) (fun h => by rw [a3]; exact hT y y0 hy h)
      obtain ⟨m', g1, g2, g3⟩ := ih f (y + 1) (mset (mset (mset M 89 r (if ek (E y) ≤ 7 then M 89 r + 1 else M 89 r)) 90 r (if ek (E y) = 17 then M 90 r + 1 else M 90 r)) 91 r (if ek (E y) = 17 then ex (E y) else M 91 r)) (g.tr fun a j hh => by
        unfold mset
        rw [if_neg (by omega), if_neg (by omega), if_neg (by omega)]) (by omega) (by omega) (by omega) (by omega) (by
        rw [ms_a (by decide), ms_a (by decide), ms_e, en, a1]
        show _ = if ek (E ((y.toNat : Nat) : Int)) ≤ 7 then _ else _
        rw [ey']) (by
        rw [ms_a (by decide), ms_e, en, a2]
        show _ = if ek (E ((y.toNat : Nat) : Int)) = 17 then _ else _
        rw [ey']) (by
        rw [ms_e, en, a3]
        show _ = if ek (E ((y.toNat : Nat) : Int)) = 17 then _ else _
        rw [ey'])
      refine ⟨m', ?_, g2, g3⟩
      unfold fl_X12_recounts_23
      rw [gd_t ⟨r0, r1⟩, lx_p, g 86 r (by omega), h86, if_pos hy, bp_t k1, bp_t k2, bd_t hcc, lx_p, w32_id (z := y + 1) (by omega) (by omega)]
      exact g1
  unfold fm_X12_recounts
  rw [gd_t ⟨r0, r1⟩, up_t, up_t, up_t]
  refine key (n - 0).toNat BIG 0 _ (fun a j hh => ?_) rfl (BIG_g (by omega)) (Int.le_refl _) n0 ?_ ?_ ms_e
  · unfold mset
    rw [if_neg (by omega), if_neg (by omega), if_neg (by omega)]
  · rw [ms_a (by decide), ms_a (by decide)]
    exact ms_e
  · rw [ms_a (by decide)]
    exact ms_e
/-- what ends, told at each place -/
theorem endA_pt : ∀ (n : Nat) (i : Int) (e : ES), 0 ≤ i → e.1 8 2 ≤ i + n → ∀ a u : Int, (pEndA r n i e).1 a u = if (8000 + i ≤ a ∧ a < 8000 + e.1 8 2) ∧ u = 5 ∧ e.1 a 0 = r then 2 else e.1 a u := by
  intro n
  induction n with
  | zero =>
    intro i e i0 hn a u
    rw [if_neg (by omega)]
    rfl
  | succ n ih =>
    intro i e i0 hn a u
    unfold pEndA
    by_cases c : i < e.1 8 2
    · rw [if_pos c]
      by_cases c2 : e.1 (8000 + i) 0 = r
      · rw [if_pos c2, ih (i + 1) _ (by omega) (by rw [(set8_n i0).1]; omega), (set8_n i0).1]
        by_cases ca : a = 8000 + i
        · subst ca
          rw [if_neg (by omega)]
          by_cases cu : u = 5
          · subst cu
            rw [eS_e, if_pos ⟨by omega, rfl, c2⟩]
          · rw [eS_j cu, if_neg (fun hh => cu hh.2.1)]
        · rw [eS_a ca, eS_a ca]
          by_cases cc : (8000 + i ≤ a ∧ a < 8000 + e.1 8 2) ∧ u = 5 ∧ e.1 a 0 = r
          · rw [if_pos cc, if_pos ⟨by omega, cc.2⟩]
          · rw [if_neg cc, if_neg (fun hh => cc ⟨by omega, hh.2⟩)]
      · rw [if_neg c2, ih (i + 1) e (by omega) (by omega)]
        by_cases ca : a = 8000 + i
        · subst ca
          rw [if_neg (by omega), if_neg (fun hh => c2 hh.2.2)]
        · by_cases cc : (8000 + i ≤ a ∧ a < 8000 + e.1 8 2) ∧ u = 5 ∧ e.1 a 0 = r
          · rw [if_pos cc, if_pos ⟨by omega, cc.2⟩]
          · rw [if_neg cc, if_neg (fun hh => cc ⟨by omega, hh.2⟩)]
    · rw [if_neg c, if_neg (by omega)]
theorem end_pt (hc : CN e) : (∀ a u : Int, (pEnd r e).1 a u = if (8000 ≤ a ∧ a < 8000 + e.1 8 2) ∧ u = 5 ∧ e.1 a 0 = r then 2 else e.1 a u) ∧ (pEnd r e).2.1 = e.2.1 ∧ (pEnd r e).2.2.2 = e.2.2.2 ∧ ∀ c, eL (pEnd r e) c = if c = 73000 + r ∨ c = 74000 + r then [] else eL e c := by
  have n8 := hc.2.1
  have h2 := (endA_a (r := r) 61 0 e (by decide)).1
  refine ⟨fun a u => ?_, congrArg (·.1) h2, congrArg (·.2.2) h2, fun c => ?_⟩
  · have := endA_pt (r := r) 61 0 e (by decide) (by omega) a u
    rw [show (8000 : Int) + 0 = 8000 by decide] at this
    exact this
  · unfold pEnd
    by_cases c4 : c = 74000 + r
    · rw [c4, eLs_e, if_pos (Or.inr rfl)]
    · rw [eLs_a c4]
      by_cases c3 : c = 73000 + r
      · rw [c3, eLs_e, if_pos (Or.inl rfl)]
      · rw [eLs_a c3, if_neg (fun hh => hh.elim c3 c4)]
        unfold eL
        rw [h2]
theorem parL_pt : ∀ (n : Nat) (i : Int) (e : ES), 0 ≤ i → e.1 7 2 ≤ i + n → ∀ a u : Int, (pParL r fr n i e).1 a u = if (7000 + i ≤ a ∧ a < 7000 + e.1 7 2) ∧ u = 4 ∧ e.1 a 4 = r ∧ fr ≤ e.1 a 5 then -1 else e.1 a u := by
  intro n
  induction n with
  | zero =>
    intro i e i0 hn a u
    rw [if_neg (by omega)]
    rfl
  | succ n ih =>
    intro i e i0 hn a u
    unfold pParL
    by_cases c : i < e.1 7 2
    · rw [if_pos c]
      by_cases c2 : e.1 (7000 + i) 4 = r ∧ fr ≤ e.1 (7000 + i) 5
      · rw [if_pos c2, ih (i + 1) _ (by omega) (by rw [(set7_n i0).2]; omega), (set7_n i0).2]
        by_cases ca : a = 7000 + i
        · subst ca
          rw [if_neg (by omega)]
          by_cases cu : u = 4
          · subst cu
            rw [eS_e, if_pos ⟨by omega, rfl, c2⟩]
          · rw [eS_j cu, if_neg (fun hh => cu hh.2.1)]
        · rw [eS_a ca, eS_a ca, eS_a ca]
          by_cases cc : (7000 + i ≤ a ∧ a < 7000 + e.1 7 2) ∧ u = 4 ∧ e.1 a 4 = r ∧ fr ≤ e.1 a 5
          · rw [if_pos cc, if_pos ⟨by omega, cc.2⟩]
          · rw [if_neg cc, if_neg (fun hh => cc ⟨by omega, hh.2⟩)]
      · rw [if_neg c2, ih (i + 1) e (by omega) (by omega)]
        by_cases ca : a = 7000 + i
        · subst ca
          rw [if_neg (by omega), if_neg (fun hh => c2 hh.2.2)]
        · by_cases cc : (7000 + i ≤ a ∧ a < 7000 + e.1 7 2) ∧ u = 4 ∧ e.1 a 4 = r ∧ fr ≤ e.1 a 5
          · rw [if_pos cc, if_pos ⟨by omega, cc.2⟩]
          · rw [if_neg cc, if_neg (fun hh => cc ⟨by omega, hh.2⟩)]
    · rw [if_neg c, if_neg (by omega)]
theorem par_pt (hc : CN e) : (∀ a u : Int, (pPar r fr e).1 a u = if (7000 ≤ a ∧ a < 7000 + e.1 7 2) ∧ u = 4 ∧ e.1 a 4 = r ∧ fr ≤ e.1 a 5 then -1 else e.1 a u) ∧ (pPar r fr e).2 = e.2 := by
  have n7 := hc.1
  refine ⟨fun a u => ?_, (parL_a (r := r) (fr := fr) 31 0 e (by decide)).1⟩
  have := parL_pt (r := r) (fr := fr) 31 0 e (by decide) (by omega) a u
  rw [show (7000 : Int) + 0 = 7000 by decide] at this
  exact this
theorem es_ext {e e' : ES} (h1 : ∀ a u, e.1 a u = e'.1 a u) (h2 : e.2.1 = e'.2.1) (h3 : ∀ c, eL e c = eL e' c) (h4 : e.2.2.2 = e'.2.2.2) : e = e' := by
  obtain ⟨q1, q2, q3, q4⟩ := e
  obtain ⟨t1, t2, t3, t4⟩ := e'
  have g1 : q1 = t1 := funext fun a => funext fun u => h1 a u
  have g2 : q2 = t2 := h2
  have g3 : q3 = t3 := funext fun c => h3 c
  have g4 : q4 = t4 := h4
  rw [g1, g2, g3, g4]
theorem CN.par (hc : CN e) : CN (pPar r fr e) := hc.of fun a _ => par_a (by omega)
/-- who parts, then what ends; or the other way round -/
theorem par_end (hc : CN e) : pPar r fr (pEnd r e) = pEnd r (pPar r fr e) := by
  have n7 := hc.1
  have n8 := hc.2.1
  obtain ⟨a1, a2⟩ := par_pt (r := r) (fr := fr) (hc.endw (r := r))
  obtain ⟨b1, b2, b3, b4⟩ := end_pt (r := r) hc
  obtain ⟨c1, c2, c3, c4⟩ := end_pt (r := r) (hc.par (r := r) (fr := fr))
  obtain ⟨d1, d2⟩ := par_pt (r := r) (fr := fr) hc
  have e7 : (pEnd r e).1 7 2 = e.1 7 2 := end_a (by omega)
  have e8 : (pPar r fr e).1 8 2 = e.1 8 2 := par_a (by omega)
  refine es_ext (fun a u => ?_) ?_ (fun c => ?_) ?_
  · rw [a1, c1, e7, e8]
    by_cases ca : 7000 ≤ a ∧ a < 7000 + e.1 7 2
    · have z : ∀ u, (pEnd r e).1 a u = e.1 a u := fun u => by rw [b1, if_neg (by omega)]
      rw [z, z, z, if_neg (show ¬ ((8000 ≤ a ∧ a < 8000 + e.1 8 2) ∧ u = 5 ∧ (pPar r fr e).1 a 0 = r) from fun hh => by omega), d1]
    · have z : ∀ u, (pPar r fr e).1 a u = e.1 a u := fun u => by rw [d1, if_neg (fun hh => ca hh.1)]
      rw [if_neg (fun hh => ca hh.1), b1, z, z]
  · rw [c2, d2, ← b2]
    exact congrArg (·.1) a2
  · rw [c4]
    show (pPar r fr (pEnd r e)).2.2.1 c = _
    rw [a2]
    show eL (pEnd r e) c = _
    rw [b4]
    unfold eL
    rw [d2]
  · rw [c3, d2, ← b3]
    exact congrArg (·.2.2) a2
/-- children part: each as it is told -/
theorem RXE.par1 (h : RXE m e) (hc : CN e) (i0 : 0 ≤ i) (i1 : i < e.1 7 2) : RXE (mset m 84 i (-1)) (eS e (7000 + i) 4 (-1)) := h.rs hc i0 i1 (Or.inr (Or.inr (Or.inl ⟨rfl, rfl, rfl⟩)))
theorem mr_par1 : MR e (eS e (7000 + i) 4 (-1)) ∨ True := Or.inr trivial
def PEv (e : ES) : Prop := ∀ i : Int, 0 ≤ i → i < e.1 7 2 → e.1 (7000 + i) 4 ≠ -1 → 0 ≤ e.1 (7000 + i) 5
theorem sb86 {K : MM → Option (Int × MM)} (r0 : 0 ≤ r) : ∀ (n f : Nat) (i : Int) (m : MM) (e : ES), RXE m e → CN e → PEv e → 0 ≤ i → e.1 7 2 < i + n → 0 < n → n ≤ f → ∃ m', fl_X12_setBack_86 r y2 K f i m = K m' ∧ RXE m' (pParL r 0 n i e) ∧ SCR m m' := by
  intro n
  induction n with
  | zero => intro f i m e h hc hP i0 h1 h2; omega
  | succ n ih =>
    intro f i m e h hc hP i0 h1 h2 h3
    obtain ⟨f, rfl⟩ : ∃ g, f = g + 1 := ⟨f - 1, by omega⟩
    have n7 := hc.1
    have e12 : m 68 12 = e.1 7 2 := h.ps.2.1
    unfold pParL fl_X12_setBack_86
    rw [lx_p, e12]
    by_cases c : i < e.1 7 2
    · have k84 : m 84 i = e.1 (7000 + i) 4 := (h.pr.1 i i0 c).1.2.2.2.2.1
      rw [if_pos c, if_pos c, gd_t (by omega), lx_p, k84]
      by_cases c2 : e.1 (7000 + i) 4 = r
      · have := hP i i0 c (by omega)
        rw [if_pos c2, if_pos ⟨c2, this⟩, up_t, lx_p, w32_id (z := i + 1) (by omega) (by omega)]
        have hP2 : PEv (eS e (7000 + i) 4 (-1)) := fun q q0 q1 hq => by
          rw [(set7_n i0).2] at q1
          by_cases cq : q = i
          · rw [cq, eS_e] at hq
            exact absurd rfl hq
          · rw [eS_a (by omega)] at hq ⊢
            exact hP q q0 q1 hq
        obtain ⟨m', g1, g2, g3⟩ := ih f (i + 1) (mset m 84 i (-1)) _ (h.par1 hc i0 c) (cn_eS hc (by omega)) hP2 (by omega) (by rw [(set7_n i0).2]; omega) (by omega) (by omega)
        exact ⟨m', g1, g2, (SCR.ms (by decide) (by decide) (by decide) (by omega)).tr g3⟩
      · rw [if_neg c2, if_neg (fun hh => c2 hh.1), ← k84, up_t, lx_p, w32_id (z := i + 1) (by omega) (by omega), ms_id]
        exact ih f (i + 1) m e h hc hP (by omega) (by omega) (by omega) (by omega)
    · rw [if_neg c, if_neg c]
      exact ⟨m, rfl, h, SCR.rf⟩
theorem cr160 (r0 : 0 ≤ r) (r1 : r < 30) : ∀ (n f : Nat) (i : Int) (m : MM) (e : ES), RXE m e → CN e → m 86 r = fr → 0 ≤ i → e.1 7 2 < i + n → 0 < n → n ≤ f → ∃ m', fl_X12_cutsRun_160 r y2 f i m = some (y2, m') ∧ RXE m' (pParL r fr n i e) ∧ SCR m m' := by
  intro n
  induction n with
  | zero => intro f i m e h hc hP i0 h1 h2; omega
  | succ n ih =>
    intro f i m e h hc hP i0 h1 h2 h3
    obtain ⟨f, rfl⟩ : ∃ g, f = g + 1 := ⟨f - 1, by omega⟩
    have n7 := hc.1
    have e12 : m 68 12 = e.1 7 2 := h.ps.2.1
    unfold pParL fl_X12_cutsRun_160
    rw [lx_p, e12]
    by_cases c : i < e.1 7 2
    · obtain ⟨-, -, -, -, k84, k85⟩ := (h.pr.1 i i0 c).1
      rw [if_pos c, if_pos c, gd_t (by omega), lx_p, k84]
      by_cases c2 : e.1 (7000 + i) 4 = r
      · rw [if_pos c2, lx_p, k85 (by omega), gd_t ⟨r0, r1⟩, lx_p, hP]
        by_cases c3 : e.1 (7000 + i) 5 < fr
        · rw [if_pos c3, if_neg (fun hh => by omega), ← k84, up_t, lx_p, w32_id (z := i + 1) (by omega) (by omega), ms_id]
          exact ih f (i + 1) m e h hc hP (by omega) (by omega) (by omega) (by omega)
        · rw [if_neg c3, if_pos ⟨c2, by omega⟩, up_t, lx_p, w32_id (z := i + 1) (by omega) (by omega)]
          obtain ⟨m', g1, g2, g3⟩ := ih f (i + 1) (mset m 84 i (-1)) _ (h.par1 hc i0 c) (cn_eS hc (by omega)) ((ms_a (by decide)).trans hP) (by omega) (by rw [(set7_n i0).2]; omega) (by omega) (by omega)
          exact ⟨m', g1, g2, (SCR.ms (by decide) (by decide) (by decide) (by omega)).tr g3⟩
      · rw [if_neg c2, if_neg (fun hh => c2 hh.1), ← k84, up_t, lx_p, w32_id (z := i + 1) (by omega) (by omega), ms_id]
        exact ih f (i + 1) m e h hc hP (by omega) (by omega) (by omega) (by omega)
    · rw [if_neg c, if_neg c]
      exact ⟨m, rfl, h, SCR.rf⟩
/-- a lost signal -/
theorem pLst_cut {n : Nat} : ∀ {k : Nat}, n ≤ k → (∀ j : Int, (n : Int) ≤ j → j < (k : Int) → eL e (75000 + j) = []) → pLst e k = pLst e n := by
  intro k
  induction k with
  | zero => intro h _; rw [show n = 0 by omega]
  | succ k ih =>
    intro h hz
    by_cases c : n = k + 1
    · rw [c]
    · show pLst e k ++ _ = _
      rw [ih (by omega) (fun j j0 j1 => hz j j0 (by omega)), hz k (by omega) (by omega)]
      exact List.append_nil _
theorem RXE.lo1 (h : RXE m e) (hc : CN e) (r0 : 0 ≤ r) (r1 : r < e.1 7 2) (hz : ∀ j : Int, r < j → j < e.1 7 2 → eL e (75000 + j) = []) (y0 : 0 ≤ y) (y1 : y < 1000) (hB : B = m 68 84) : RXE (mset (mset (mset (mset m 139 B r) 140 B x) 141 B y) 68 84 (B + 1)) (eS (eLs e (75000 + r) (eL e (75000 + r) ++ [1000 * x + y])) 3 1 (e.1 3 1 + 1)) := by
  have n7 := hc.1
  obtain ⟨k1, k2, k3⟩ := h.pl
  have ha : ∀ a u : Int, a ≠ 3 → (eS (eLs e (75000 + r) (eL e (75000 + r) ++ [1000 * x + y])) 3 1 (e.1 3 1 + 1)).1 a u = e.1 a u := fun a u g => eS_a g
  have hr : ∀ c, eL (eS (eLs e (75000 + r) (eL e (75000 + r) ++ [1000 * x + y])) 3 1 (e.1 3 1 + 1)) c = if c = 75000 + r then eL e (75000 + r) ++ [1000 * x + y] else eL e c := fun c => rfl
  have h3 : (eS (eLs e (75000 + r) (eL e (75000 + r) ++ [1000 * x + y])) 3 1 (e.1 3 1 + 1)).1 3 0 = e.1 3 0 := eS_j (i := 0) (by decide)
  have hh' : ∀ i, eH (eS (eLs e (75000 + r) (eL e (75000 + r) ++ [1000 * x + y])) 3 1 (e.1 3 1 + 1)) i = eH e i := fun i => rfl
  generalize eS (eLs e (75000 + r) (eL e (75000 + r) ++ [1000 * x + y])) 3 1 (e.1 3 1 + 1) = e' at *
  have hp : pLst e' (e'.1 7 2).toNat = pLst e (e.1 7 2).toNat ++ [(r, 1000 * x + y)] := by
    rw [ha 7 2 (by decide), pLst_cut (n := r.toNat + 1) (k := (e.1 7 2).toNat) (e := e) (by omega) (fun j j0 j1 => hz j (by omega) (by omega)), pLst_cut (n := r.toNat + 1) (k := (e.1 7 2).toNat) (e := e') (by omega) (fun j j0 j1 => by rw [hr, if_neg (by omega)]; exact hz j (by omega) (by omega))]
    show pLst e' r.toNat ++ _ = (pLst e r.toNat ++ _) ++ _
    rw [pLst_eq (e := e) (e' := e') (n := r.toNat) (fun i i0 i1 => by rw [hr, if_neg (by omega)]), hr, if_pos (by omega), List.append_assoc, show (75000 : Int) + ((r.toNat : Nat) : Int) = 75000 + r by omega, List.map_append, show ((r.toNat : Nat) : Int) = r by omega]
    rfl
  refine h.chg hc (W := fun a => 139 ≤ a ∧ a ≤ 141) (U := fun j => j = 84) (V := fun a => a = 3 ∨ a = 75000 + r) (fun a j g1 g2 g3 => ?_) (fun j g1 g2 => ?_) ⟨fun a j g => ha a j (by omega), fun c g => by rw [hr, if_neg (by omega)], fun i _ => hh' i⟩ (by rw [ha _ _ (by decide)]; omega) (DdM.of fun q q0 q1 => ha _ _ (by omega)) (by omega) (Or.inl ⟨fun a g => by omega, fun a g => by omega, fun a g => by omega⟩) (Or.inl ⟨fun a g => by omega, fun a g => by omega, fun a g => by omega⟩) (Or.inl ⟨fun a g => by omega, fun a g => by omega, fun a g => by omega⟩) (Or.inl ⟨fun a g => by omega, fun a g => by omega, fun a g => by omega⟩) (Or.inl ⟨fun a g => by omega, fun a g => by omega, fun a g => by omega⟩) (Or.inl ⟨fun a g => by omega, fun a g => by omega, fun a g => by omega⟩) (Or.inl ⟨fun a g => by omega, fun a g => by omega, fun a g => by omega⟩) (Or.inl ⟨fun a g => by omega, fun a g => by omega, fun a g => by omega⟩) (Or.inl ⟨fun a g => by omega, fun a g => by omega, fun a g => by omega⟩) (Or.inl ⟨fun a g => by omega, fun a g => by omega, fun a g => by omega⟩) (Or.inl ⟨fun a g => by omega, fun a g => by omega, fun a g => by omega⟩) (Or.inl ⟨fun a g => by omega, fun a g => by omega, fun a g => by omega⟩) (Or.inr ?_)
  · unfold mset
    rw [if_neg (by omega), if_neg (by omega), if_neg (by omega), if_neg (by omega)]
  · unfold mset
    rw [if_neg (by omega), if_neg (by omega), if_neg (by omega), if_neg (by omega)]
  · unfold RXl
    rw [hp, ms_e, ms_j (by decide), ms_a (by decide), ms_a (by decide), ms_a (by decide), ha 4 17 (by decide), List.length_append, List.length_singleton]
    refine ⟨k1, by omega, fun i q hq => ?_⟩
    by_cases c : i < (pLst e (e.1 7 2).toNat).length
    · rw [List.getElem?_append_left c] at hq
      obtain ⟨g1, g2, g3⟩ := k3 i q hq
      have ne : (i : Int) ≠ B := by omega
      rw [ms_a (by decide), ms_a (by decide), ms_a (by decide), ms_j ne, ms_a (by decide), ms_a (by decide), ms_j ne, ms_a (by decide), ms_a (by decide), ms_j ne, ms_a (by decide), ms_a (by decide)]
      exact ⟨g1, g2, g3⟩
    · rw [List.getElem?_append_right (by omega)] at hq
      have hi : i - (pLst e (e.1 7 2).toNat).length = 0 := by
        by_cases c0 : i - (pLst e (e.1 7 2).toNat).length = 0
        · exact c0
        · rw [List.getElem?_eq_none (by rw [List.length_singleton]; omega)] at hq
          exact absurd hq (by simp)
      rw [hi] at hq
      have hq' := Option.some.inj hq
      have eB : (i : Int) = B := by omega
      rw [← hq', eB, ms_a (by decide), ms_a (by decide), ms_a (by decide), ms_e, ms_a (by decide), ms_a (by decide), ms_e, ms_a (by decide), ms_e]
      exact ⟨rfl, by show x = (1000 * x + y) / 1000; omega, by show y = (1000 * x + y) % 1000; omega⟩
end RXU8
