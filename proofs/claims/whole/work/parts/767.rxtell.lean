/-! THE REFERENCE'S CALLS: tellings: query, plain, move, and call 27. -/
section RXL1
variable {m m' M : MM} {e e' e2 : ES} {a b c i j k o r v w p t s x y n p1 p2 p3 q A B : Int} {l : List Int} {S : TS} {X : CX}
theorem RXE.eqm (h : RXE m e) (hc : CN e) (hE : EQM e e') : RXE m e' := by
  have n7 := hc.1
  obtain ⟨h1, h2, h3⟩ := hE
  exact h.chg hc (W := fun a => a = 1000000) (U := fun a => a = 1000000) (V := fun a => a = 16) (fun a j _ _ _ => rfl) (fun u _ _ => rfl) ⟨fun a u g => h1 a u g, fun c _ => congrFun h3 c, fun i _ => congrFun h2 i⟩ (by rw [h1 _ _ (by omega)]; omega) (DdM.of fun q q0 q1 => h1 _ _ (by omega)) (by rw [h1 _ _ (by omega)]; omega) (Or.inl ⟨fun a g => by omega, fun a g => by omega, fun a g => by omega⟩) (Or.inl ⟨fun a g => by omega, fun a g => by omega, fun a g => by omega⟩) (Or.inl ⟨fun a g => by omega, fun a g => by omega, fun a g => by omega⟩) (Or.inl ⟨fun a g => by omega, fun a g => by omega, fun a g => by omega⟩) (Or.inl ⟨fun a g => by omega, fun a g => by omega, fun a g => by omega⟩) (Or.inl ⟨fun a g => by omega, fun a g => by omega, fun a g => by omega⟩) (Or.inl ⟨fun a g => by omega, fun a g => by omega, fun a g => by omega⟩) (Or.inl ⟨fun a g => by omega, fun a g => by omega, fun a g => by omega⟩) (Or.inl ⟨fun a g => by omega, fun a g => by omega, fun a g => by omega⟩) (Or.inl ⟨fun a g => by omega, fun a g => by omega, fun a g => by omega⟩) (Or.inl ⟨fun a g => by omega, fun a g => by omega, fun a g => by omega⟩) (Or.inl ⟨fun a g => by omega, fun a g => by omega, fun a g => by omega⟩) (Or.inl ⟨fun a g => by omega, fun a g => by omega, fun a g => by omega⟩)
theorem CN.eqm (hc : CN e) (hE : EQM e e') : CN e' := hc.of fun a ha => hE.1 _ _ (by omega)
theorem tow_no (h : a ≠ 68 → a < 142) (h2 : a = 68 → j ≤ 87 ∨ 126 < j) : ¬ tow a j := fun hh => by
  rcases hh with (⟨g1, g2⟩ | ⟨g1, g2⟩) | g | ⟨g1, g2⟩
  · have := h2 g1; omega
  · have := h (by omega); omega
  · unfold own3 at g
    by_cases c : a = 68
    · have := h2 c; omega
    · omega
  · have := h2 g1; omega
theorem RXE.tfw (h : RXE m e) (hc : CN e) (g : TFW m m') : RXE m' e := h.fr hc (fun a j g1 g2 g3 g4 => g a j (tow_no (fun _ => by omega) (fun hh => Or.inl (by have := g1 hh; omega)))) (fun _ _ _ => rfl) ⟨rfl, rfl⟩
/-- what a telling has to fit into -/
def TelB (S : TS) : Prop := nl S < 65536 ∧ sg S 0 41 + 1 ≤ 2048 ∧ sg S 0 40 + 61 < 196608
theorem nxt_lt : ∀ (n : Nat) (i : Int), 0 ≤ i → (X.1 0 - i).toNat = n → (∃ j : Int, i ≤ j ∧ j < X.1 0 ∧ ek (X.2.1 j) = 17 ∧ t < ex (X.2.1 j)) → nxt X t n i < X.1 0 := by
  intro n
  induction n with
  | zero =>
    rintro i i0 h1 ⟨j, j0, j1, -⟩
    omega
  | succ n ih =>
    rintro i i0 h1 ⟨j, j0, j1, j2, j3⟩
    have hi : i < X.1 0 := by omega
    have go : j ≠ i → nxt X t n (i + 1) < X.1 0 := fun hh => ih (i + 1) (by omega) (by omega) ⟨j, by omega, j1, j2, j3⟩
    unfold nxt
    rw [if_pos hi]
    by_cases c : ek (X.2.1 i) = 17
    · rw [if_pos c]
      by_cases c2 : t < ex (X.2.1 i)
      · rw [if_pos c2]; exact hi
      · rw [if_neg c2]
        exact go fun hh => c2 (by rw [← hh]; exact j3)
    · rw [if_neg c]
      exact go fun hh => c (by rw [← hh]; exact j2)
theorem cC_ev {E : Int → Ev} : ∀ n : Nat, 0 < cC E n → ∃ j : Int, 0 ≤ j ∧ j < (n : Int) ∧ ek (E j) = 17 ∧ ex (E j) = cC E n := by
  intro n
  induction n with
  | zero => intro h; exact absurd h (show ¬ (0 : Int) < 0 by decide)
  | succ n ih =>
    intro h
    unfold cC at h ⊢
    by_cases c : ek (E n) = 17
    · rw [if_pos c]
      exact ⟨n, by omega, by omega, c, rfl⟩
    · rw [if_neg c] at h ⊢
      obtain ⟨j, j0, j1, j2, j3⟩ := ih h
      exact ⟨j, j0, by omega, j2, j3⟩
theorem tb_all (hn : 0 ≤ hN e r) (t0 : 0 ≤ t) (t1 : t < hC e r) : tb (pCX e r v w p q) t < hN e r := by
  obtain ⟨j, j0, j1, j2, j3⟩ := cC_ev (hN e r).toNat (show 0 < hC e r by omega)
  exact nxt_lt (X := pCX e r v w p q) (hN e r).toNat 0 (by decide) (by show (hN e r - 0).toNat = _; rw [Int.sub_zero]) ⟨j, j0, by show j < hN e r; omega, j2, by
    show t < ex (eH e r j)
    have : cC (eH e r) (hN e r).toNat = hC e r := rfl
    omega⟩
/-- a run's telling by a version, all seen: what it has to find -/
def TlP (e : ES) (r v : Int) : Prop := CXX (pCX e r v 0 0 0) ∧ (0 ≤ hC e r ∧ hC e r ≤ 260000) ∧ TelB (qS e r v 0)
theorem rTold (h : RXE m e) (hc : CN e) (hP : P113 m) (hT : TlP e r v) (hR : 0 ≤ e.1 (7000 + r) 1 ∧ e.1 (7000 + r) 1 < 4) (r0 : 0 ≤ r) (r1 : r < e.1 7 2) (v0 : 0 ≤ v) (v1 : v < e.1 (48 + 4 * e.1 (7000 + r) 1 + 1) 2) : ∃ m', fm_X12_tellsRun r v (hC e r) (hN e r) (hC e r) m = some (0, m') ∧ FIN m m' (pCX e r v 0 0 0) (qS e r v 0) (hN e r) ∧ P113 m' ∧ RXE m' e ∧ m' 68 129 = m 68 129 ∧ m' 68 119 = hC e r := by
  have n7 := hc.1
  obtain ⟨X, ⟨l0, l1⟩, b1, b2, b3⟩ := hT
  have hN0 : 0 ≤ hN e r ∧ hN e r ≤ 458752 := X.2.2.2.2
  have hv := hc.2.2.2.2 (48 + 4 * e.1 (7000 + r) 1) (isT_4 hR.1 hR.2)
  have R0 := h.rh0 (w := 0) (c2 := 0) (c3 := 0) r0 r1 (by omega) hR.1 hR.2 v0 (by rw [show 49 + 4 * e.1 (7000 + r) 1 = 48 + 4 * e.1 (7000 + r) 1 + 1 by omega]; exact v1) (by omega) (by omega)
  have MA0 : MA (pCX e r v 0 0 0) (hN e r) (hC e r) := ⟨⟨hN0.1, Int.le_refl _⟩, fun t t0 t1 => tb_all hN0.1 t0 t1, Int.le_refl _, by show (0 : Int) ≠ 1; decide, Or.inl ⟨rfl, rfl, Int.le_refl _⟩⟩
  obtain ⟨m', g1, g2, g3, gR⟩ := tells_all (lim := hC e r) X R0 MA0 (replay_gb (x := pCX e r v 0 0 0)).1 trivial (fun _ hh => absurd hh (Int.lt_irrefl _)) hP l0 l1 b1 b2 b3
  have hT : TFW m m' := g2.1
  exact ⟨m', g1, g2, g3, h.tfw hc hT, hT _ _ (tow_no (fun hh => absurd rfl hh) (fun _ => Or.inr (by decide))), gR.2.2.2.2.2.1⟩
theorem FIN.s30 {rh : Int} (h : FIN m m' X S rh) : (sg S 0 30 = 0 ∧ m' 68 114 = 0) ∨ (sg S 0 30 = 1 ∧ m' 68 114 = 1) := by
  obtain ⟨-, -, h⟩ := h
  rcases h with ⟨h1, ⟨v, E, h2⟩, -⟩ | ⟨h1, h2, -⟩
  · left
    refine ⟨h1, ?_⟩
    have := h2.2.1.2.2.2.2.2.2.1
    rw [this, st_g, if_neg (by omega)]
    exact h1
  · exact Or.inr ⟨h1, h2⟩
theorem FIN.var {rh : Int} (h : FIN m m' X S rh) (hS : sg S 0 30 = 0) (a0 : 0 ≤ a) (a1 : a < 6) : m' 142 a = sg S 1 a := by
  obtain ⟨-, -, h⟩ := h
  rcases h with ⟨h1, ⟨v, E, h2⟩, -⟩ | ⟨h1, h2, -⟩
  · rw [h2.2.2.1 a a0 a1, st_g, if_neg (by omega)]
  · omega
theorem rSafe (h : RXE m e) (hc : CN e) (hP : P113 m) (hT : TlP e r v) (hR : 0 ≤ e.1 (7000 + r) 1 ∧ e.1 (7000 + r) 1 < 4) (r0 : 0 ≤ r) (r1 : r < e.1 7 2) (v0 : 0 ≤ v) (v1 : v < e.1 (48 + 4 * e.1 (7000 + r) 1 + 1) 2) : ∃ m', fm_X12_isSafe r v m = some (if sg (qS e r v 0) 0 30 = 0 then 1 else 0, m') ∧ FIN m m' (pCX e r v 0 0 0) (qS e r v 0) (hN e r) ∧ P113 m' ∧ RXE m' e ∧ m' 68 129 = m 68 129 ∧ m' 68 119 = hC e r := by
  have n7 := hc.1
  obtain ⟨m', g1, g2, g3, g4, g5⟩ := rTold h hc hP hT hR r0 r1 v0 v1
  have k := (h.pr.1 r r0 r1).2.1
  refine ⟨m', ?_, g2, g3, g4, g5⟩
  unfold fm_X12_isSafe
  rw [gd_t (by omega), lx_p, k.2.2.2, lx_p, k.1, bd_t g1, lx_p]
  rcases g2.s30 with ⟨z1, z2⟩ | ⟨z1, z2⟩
  · rw [z2, if_pos rfl, if_pos z1]
  · rw [z2, if_neg (by decide), if_neg (by omega)]
/-- a call that tells: the number of steps stays in its bounds too -/
def OKp (f : Option (Int × MM)) (code : Nat → Int) (r : (Int ⊕ Nat) × ES) : Prop := ∃ v m', f = some (v, m') ∧ RXE m' r.2 ∧ P113 m' ∧ (∀ z, r.1 = .inl z → v = z ∧ m' 68 129 = 0) ∧ ∀ q, r.1 = .inr q → m' 68 129 = code q
theorem P113.th (h : P113 m) : P113 (mset m 68 129 q) := ⟨fx_f h.1 (fx_kF (c := 13) h.1 (by decide +kernel)) (by decide +kernel), by rw [ms_j (by decide)]; exact h.2.1, by rw [ms_j (by decide)]; exact h.2.2⟩
theorem OKp.no {cd : Nat → Int} {n : Nat} (h : RXE m e) (hc : CN e) (hP : P113 m) (hq : cd n = q) : OKp (some (v, mset m 68 129 q)) cd (rT n e) := ⟨_, _, rfl, h.thr hc, hP.th, fun z hz => absurd hz (by unfold rT; simp), fun q' hq' => by
  have : n = q' := Sum.inr.inj hq'
  rw [← this, hq]
  exact ms_e⟩
theorem OKp.fin {cd : Nat → Int} (h : RXE m e) (hP : P113 m) (h1 : m 68 129 = 0) : OKp (some (v, m)) cd (.inl v, e) := ⟨_, _, rfl, h, hP, fun z hz => ⟨Sum.inl.inj hz, h1⟩, fun q hq => absurd hq (by simp)⟩
/-- looked at by the plain answer z of the variable -/
theorem x_asks (h : RXE m e) (hc : CN e) (hP : P113 m) (hT : 0 ≤ p1 → p1 < e.1 7 2 → TlP e p1 (e.1 (7000 + p1) 3) ∧ WRun e p1) {Z : (Int ⊕ Nat) × ES} (hz1 : ¬ (0 ≤ p1 ∧ p1 < e.1 7 2 ∧ 0 ≤ p2 ∧ p2 < 6) → Z = rT 0 e) (hz2 : 0 ≤ p1 → p1 < e.1 7 2 → 0 ≤ p2 → p2 < 6 → ∃ e', EQM e e' ∧ Z = if sg (qS e p1 (e.1 (7000 + p1) 3) 0) 0 30 = 0 then (.inl (sg (qS e p1 (e.1 (7000 + p1) 3) 0) 1 p2), e') else rT 2 e') : OKp (fm_X12_asks p1 p2 m) cdS Z := by
  have n7 := hc.1
  have no : OKp (fj_X12_asks_22 p1 p2 0 m) cdS (rT 0 e) := by
    unfold fj_X12_asks_22 fj_X12_asks_46 fj_X12_asks_67
    rw [if_pos rfl, if_pos rfl, bd_t fails_e, if_pos (show (0 : Int) < 1 by decide), if_neg (show ¬ (1 : Int) = 0 by decide)]
    exact OKp.no h hc hP rfl
  unfold fm_X12_asks
  rw [bp_t (rIsR h hc)]
  by_cases c1 : 0 ≤ p1 ∧ p1 < e.1 7 2
  · rw [if_pos c1, if_neg (show ¬ (1 : Int) = 0 by decide), bp_t isIn_e]
    by_cases c2 : 0 ≤ p2 ∧ p2 ≤ 5
    · obtain ⟨t1, t2⟩ := hT c1.1 c1.2
      obtain ⟨e', q1, q2⟩ := hz2 c1.1 c1.2 c2.1 (by omega)
      have k82 := (h.pr.1 p1 c1.1 c1.2).1.2.2.1
      obtain ⟨m', g1, g2, g3, g4, g5, -⟩ := rSafe h hc hP t1 t2.1 c1.1 c1.2 t2.2.2.1.1 t2.2.2.1.2
      have h1 := g4.eqm hc q1
      have hc1 := hc.eqm q1
      rw [if_pos c2, if_neg (show ¬ (1 : Int) = 0 by decide), q2]
      unfold fj_X12_asks_22
      rw [if_neg (show ¬ (1 : Int) = 0 by decide), gd_t (by omega), lx_p, k82, bd_t g1]
      by_cases c3 : sg (qS e p1 (e.1 (7000 + p1) 3) 0) 0 30 = 0
      · rw [if_pos c3, if_pos c3, if_neg (show ¬ (1 : Int) = 0 by decide)]
        unfold fj_X12_asks_46 fj_X12_asks_67
        rw [if_neg (show ¬ (1 : Int) = 0 by decide), if_neg (show ¬ (1 : Int) = 0 by decide), bd_t fails_e, if_neg (show ¬ (0 : Int) < 0 by decide), if_pos (show (0 : Int) = 0 from rfl), gd_t (by omega), lx_p, ms_a (by decide), g2.var c3 c2.1 (by omega)]
        exact OKp.fin (h1.th hc1) g3.th ms_e
      · rw [if_neg c3, if_neg c3, if_pos (show (0 : Int) = 0 from rfl)]
        unfold fj_X12_asks_46 fj_X12_asks_67
        rw [if_neg (show ¬ (1 : Int) = 0 by decide), if_pos (show (0 : Int) = 0 from rfl), bd_t fails_e, if_pos (show (0 : Int) < 2 by decide), if_neg (show ¬ (1 : Int) = 0 by decide)]
        exact OKp.no h1 hc1 g3 rfl
    · rw [if_neg c2, if_pos (show (0 : Int) = 0 from rfl), hz1 (fun hh => c2 ⟨hh.2.2.1, by omega⟩)]
      exact no
  · rw [if_neg c1, if_pos (show (0 : Int) = 0 from rfl), hz1 (fun hh => c1 ⟨hh.1, hh.2.1⟩)]
    exact no
theorem bd_pair {f : Option (Int × MM)} : bd f (fun x_2 m_3 => some (x_2, m_3)) = f := by
  unfold bd
  cases f with
  | none => rfl
  | some z => rfl
theorem qm_eq : EQM e (qM e i v w) := eM_eq
theorem x_query (h : RXE m e) (hc : CN e) (hP : P113 m) (hT : 0 ≤ p1 → p1 < e.1 7 2 → TlP e p1 (e.1 (7000 + p1) 3) ∧ WRun e p1) : OKp (fm_X12_query p1 p2 m) cdS (pcQuery p1 p2 e) := by
  unfold fm_X12_query
  rw [bd_pair]
  refine x_asks h hc hP hT (fun hh => ?_) (fun a0 a1 b0 b1 => ⟨_, qm_eq (i := p1) (v := e.1 (7000 + p1) 3) (w := 0), ?_⟩)
  · unfold pcQuery
    by_cases c1 : 0 ≤ p1 ∧ p1 < e.1 7 2
    · rw [if_pos c1, if_neg (fun h2 => hh ⟨c1.1, c1.2, h2.1, h2.2⟩)]
    · rw [if_neg c1]
  · unfold pcQuery
    rw [if_pos (show 0 ≤ p1 ∧ p1 < e.1 7 2 from ⟨a0, a1⟩), if_pos (show 0 ≤ p2 ∧ p2 < 6 from ⟨b0, b1⟩)]
theorem x_plain (h : RXE m e) (hc : CN e) (hP : P113 m) (hT : 0 ≤ p1 → p1 < e.1 7 2 → TlP e p1 (e.1 (7000 + p1) 3) ∧ WRun e p1) (hk : ∀ i : Int, 0 ≤ i → i < hN e p1 → ek (eH e p1 i) ≤ 17) : OKp (fm_X12_plain p1 p2 m) cdS (pcPlain p1 p2 e) := by
  unfold fm_X12_plain
  rw [bd_pair]
  by_cases c3 : sg (qS e p1 (e.1 (7000 + p1) 3) 0) 0 30 = 0
  · refine x_asks h hc hP hT (fun hh => ?_) (fun a0 a1 b0 b1 => ⟨_, (qm_eq (i := p1) (v := e.1 (7000 + p1) 3) (w := 0)).tr (qm_eq (i := p1) (v := e.1 (7000 + p1) 3) (w := 1)), ?_⟩)
    · unfold pcPlain
      by_cases c1 : 0 ≤ p1 ∧ p1 < e.1 7 2
      · rw [if_pos c1, if_neg (fun h2 => hh ⟨c1.1, c1.2, h2.1, h2.2⟩)]
      · rw [if_neg c1]
    · unfold pcPlain
      obtain ⟨⟨X, -⟩, -⟩ := hT a0 a1
      have hE : EQX (pCX e p1 (e.1 (7000 + p1) 3) 0 0 0) (pCX e p1 (e.1 (7000 + p1) 3) 1 0 0) := ⟨fun j hj => by
        unfold pCX
        dsimp only
        rw [if_neg (show ¬ j = 4 from hj), if_neg (show ¬ j = 4 from hj)], rfl, Or.inr rfl⟩
      obtain ⟨q, hq⟩ := plain_told (l := hC e p1) hE X hk (bp00 X.2.2.2.2.1) c3
      have := sm_g hq (a := 1) (j := p2) (Or.inl (by decide))
      rw [if_pos (show 0 ≤ p1 ∧ p1 < e.1 7 2 from ⟨a0, a1⟩), if_pos (show 0 ≤ p2 ∧ p2 < 6 from ⟨b0, b1⟩), if_pos c3, if_pos c3]
      show (Sum.inl (sg (qS e p1 (e.1 (7000 + p1) 3) 1) 1 p2), _) = _
      rw [show sg (qS e p1 (e.1 (7000 + p1) 3) 1) 1 p2 = sg (qS e p1 (e.1 (7000 + p1) 3) 0) 1 p2 from this]
  · refine x_asks h hc hP hT (fun hh => ?_) (fun a0 a1 b0 b1 => ⟨_, qm_eq (i := p1) (v := e.1 (7000 + p1) 3) (w := 0), ?_⟩)
    · unfold pcPlain
      by_cases c1 : 0 ≤ p1 ∧ p1 < e.1 7 2
      · rw [if_pos c1, if_neg (fun h2 => hh ⟨c1.1, c1.2, h2.1, h2.2⟩)]
      · rw [if_neg c1]
    · unfold pcPlain
      rw [if_pos (show 0 ≤ p1 ∧ p1 < e.1 7 2 from ⟨a0, a1⟩), if_pos (show 0 ≤ p2 ∧ p2 < 6 from ⟨b0, b1⟩), if_neg c3, if_neg c3]
theorem rVer (h : RXE m e) (hc : CN e) : fm_X12_isVersion p1 p2 m = some (if (0 ≤ p1 ∧ p1 < 4) ∧ 0 ≤ p2 ∧ p2 < e.1 (48 + 4 * p1 + 1) 2 then 1 else 0) := by
  unfold fm_X12_isVersion
  rw [bp_t rIsT]
  by_cases c1 : 0 ≤ p1 ∧ p1 < 4
  · have t1 := (h.pt p1 c1.1 c1.2).1
    have hv := hc.2.2.2.2 (48 + 4 * p1) (isT_4 c1.1 c1.2)
    rw [if_pos c1, if_neg (show ¬ (1 : Int) = 0 by decide), gd_t c1, lx_p, t1, show 49 + 4 * p1 = 48 + 4 * p1 + 1 by omega, w32_id (by omega) (by omega), bp_t isIn_e]
    by_cases c2 : 0 ≤ p2 ∧ p2 < e.1 (48 + 4 * p1 + 1) 2
    · rw [if_pos (show 0 ≤ p2 ∧ p2 ≤ e.1 (48 + 4 * p1 + 1) 2 - 1 by omega), if_neg (show ¬ (1 : Int) = 0 by decide), if_pos ⟨c1, c2⟩]
    · rw [if_neg (show ¬ (0 ≤ p2 ∧ p2 ≤ e.1 (48 + 4 * p1 + 1) 2 - 1) by omega), if_pos rfl, if_neg (fun hh => c2 hh.2)]
  · rw [if_neg c1, if_pos rfl, if_neg (fun hh => c1 hh.1)]
theorem RXE.P83 (hP : P113 m) (ha : a = 82 ∨ a = 83) (hj : 0 ≤ j) : P113 (mset m a j v) := by
  have fx1 : ∀ q ∈ fixk, (q.1 = 82 ∨ q.1 = 83) → ∀ p ∈ q.2.2.2, False := by decide +kernel
  refine ⟨fx_z hP.1 (by omega) hj (fun q g1 g2 p g3 _ => fx1 q g1 (by omega) p g3), by rw [ms_a (by omega)]; exact hP.2.1, by rw [ms_a (by omega)]; exact hP.2.2⟩
theorem x_move (h : RXE m e) (hc : CN e) (hP : P113 m) (hR : ∀ r : Int, 0 ≤ r → r < e.1 7 2 → WRun e r) (hT : 0 ≤ p1 → p1 < e.1 7 2 → 0 ≤ p2 → p2 < e.1 (48 + 4 * e.1 (7000 + p1) 1 + 1) 2 → e.1 (7000 + p1) 6 = 0 ∨ e.1 (7000 + p1) 6 = 6 → TlP (pMv2 p1 p2 e) p1 p2 ∧ WRun (pMv2 p1 p2 e) p1) : OKp (fm_X12_move p1 p2 m) cdS (pcMove p1 p2 e) := by
  have n7 := hc.1
  have h0 := h.th (q := 0) hc
  have no : ∀ (q : Int) (n : Nat), 0 < q → cdS n = q → OKp (fj_X12_move_50 p1 p2 q m) cdS (rT n e) := fun q n hq hn => by
    unfold fj_X12_move_50
    rw [bd_t fails_e, if_pos hq, if_neg (show ¬ (1 : Int) = 0 by decide)]
    exact OKp.no h hc hP hn
  unfold fm_X12_move pcMove
  rw [bp_t (rIsR h hc)]
  by_cases c1 : 0 ≤ p1 ∧ p1 < e.1 7 2
  · have k80 := (h.pr.1 p1 c1.1 c1.2).1.1
    have hR1 := hR p1 c1.1 c1.2
    rw [if_pos c1, if_neg (show ¬ (1 : Int) = 0 by decide), if_pos c1, gd_t (by omega), lx_p, k80, bp_t (rVer h hc)]
    by_cases c2 : 0 ≤ p2 ∧ p2 < e.1 (48 + 4 * e.1 (7000 + p1) 1 + 1) 2
    · rw [if_pos (show (0 ≤ e.1 (7000 + p1) 1 ∧ e.1 (7000 + p1) 1 < 4) ∧ 0 ≤ p2 ∧ p2 < e.1 (48 + 4 * e.1 (7000 + p1) 1 + 1) 2 from ⟨hR1.1, c2⟩), if_neg (show ¬ (1 : Int) = 0 by decide), if_pos c2]
      unfold fj_X12_move_27
      rw [if_neg (show ¬ (1 : Int) = 0 by decide), bp_t (rAlive h hc c1.1 c1.2)]
      by_cases c3 : e.1 (7000 + p1) 6 = 0 ∨ e.1 (7000 + p1) 6 = 6
      · obtain ⟨t1, t2⟩ := hT c1.1 c1.2 c2.1 c2.2 c3
        have h1 := h0.rs (A := 82) (j := 3) (v := p2) hc c1.1 c1.2 (by omega)
        have hc1 : CN (eS e (7000 + p1) 3 p2) := cn_eS hc (by omega)
        have e7a : (eS e (7000 + p1) 3 p2).1 7 2 = e.1 7 2 := eS_a (by omega)
        have h2 := h1.rs (A := 83) (j := 6) (v := 0) (r := p1) hc1 c1.1 (by rw [e7a]; exact c1.2) (Or.inr (Or.inl ⟨rfl, rfl, by decide, fun _ hh => by
          unfold Dead at hh
          rw [eS_j (by decide)] at hh
          exact nDead c3 hh⟩))
        have hc2 : CN (pMv2 p1 p2 e) := cn_eS hc1 (by omega)
        have e7b : (pMv2 p1 p2 e).1 7 2 = e.1 7 2 := (eS_a (by omega)).trans e7a
        have ety : (pMv2 p1 p2 e).1 (7000 + p1) 1 = e.1 (7000 + p1) 1 := (eS_j (by decide)).trans (eS_j (by decide))
        have ev2 : ∀ t : Int, 0 ≤ t → t < 4 → (pMv2 p1 p2 e).1 (48 + 4 * t + 1) 2 = e.1 (48 + 4 * t + 1) 2 := fun t t0 t1 => (eS_a (by omega)).trans (eS_a (by omega))
        obtain ⟨m', g1, g2, g3, g4, g5, -⟩ := rSafe (e := pMv2 p1 p2 e) h2 hc2 (RXE.P83 (RXE.P83 hP.th (Or.inl rfl) c1.1) (Or.inr rfl) c1.1) t1 t2.1 c1.1 (by rw [e7b]; exact c1.2) c2.1 (by rw [ety, ev2 _ hR1.1.1 hR1.1.2]; exact c2.2)
        rw [if_pos c3, if_neg (show ¬ (1 : Int) = 0 by decide), if_pos c3]
        unfold fj_X12_move_50
        rw [bd_t fails_e, if_neg (show ¬ (0 : Int) < 0 by decide), if_pos (show (0 : Int) = 0 from rfl), gd_t (by omega), up_t, up_t, bd_t g1, gd_t (by split <;> omega)]
        exact OKp.fin (g4.eqm hc2 qm_eq) g3 (by rw [g5, ms_a (by decide), ms_a (by decide)]; exact ms_e)
      · rw [if_neg c3, if_pos (show (0 : Int) = 0 from rfl), if_neg c3]
        exact no 2 2 (by decide) rfl
    · rw [if_neg (show ¬ ((0 ≤ e.1 (7000 + p1) 1 ∧ e.1 (7000 + p1) 1 < 4) ∧ 0 ≤ p2 ∧ p2 < e.1 (48 + 4 * e.1 (7000 + p1) 1 + 1) 2) from fun hh => c2 hh.2), if_pos (show (0 : Int) = 0 from rfl), if_neg c2]
      unfold fj_X12_move_27
      rw [if_pos (show (0 : Int) = 0 from rfl)]
      exact no 1 0 (by decide) rfl
  · rw [if_neg c1, if_pos (show (0 : Int) = 0 from rfl), if_neg c1]
    unfold fj_X12_move_27
    rw [if_pos (show (0 : Int) = 0 from rfl)]
    exact no 1 0 (by decide) rfl
theorem unL (hv : 0 ≤ v) (ht : 0 ≤ t ∧ t < 4) : ∀ (n f : Nat) (c i : Int) (m : MM) (e : ES), RXE m e → CN e → P113 m → (∀ r : Int, 0 ≤ r → r < e.1 7 2 → e.1 (7000 + r) 1 = t → TlP e r v) → v < e.1 (48 + 4 * t + 1) 2 → 0 ≤ i → e.1 7 2 < i + n → 0 < n → n ≤ f → (0 ≤ c ∧ c ≤ i) → ∃ m', fl_X12_unsafe_28 t v f c i m = some ((pUnL t v n c i e).1, m') ∧ RXE m' (pUnL t v n c i e).2 ∧ P113 m' ∧ m' 68 129 = m 68 129 := by
  intro n
  induction n with
  | zero => intro f c i m e h hc hP hT hv1 i0 i1 hn; omega
  | succ n ih =>
    intro f c i m e h hc hP hT hv1 i0 i1 hn h2 hcb
    obtain ⟨f, rfl⟩ : ∃ g, f = g + 1 := ⟨f - 1, by omega⟩
    have n7 := hc.1
    have e12 : m 68 12 = e.1 7 2 := h.ps.2.1
    unfold fl_X12_unsafe_28 pUnL
    rw [lx_p, e12]
    by_cases c1 : i < e.1 7 2
    · have kr := (h.pr.1 i i0 c1).1
      rw [if_pos c1, if_pos c1, gd_t (by omega), lx_p, kr.2.2.2.1]
      by_cases c2 : e.1 (7000 + i) 6 = 0
      · rw [if_pos c2, lx_p, kr.1]
        by_cases c3 : e.1 (7000 + i) 1 = t
        · have t1 := hT i i0 c1 c3
          obtain ⟨m1, g1, g2, g3, g4, g5, -⟩ := rSafe h hc hP t1 (by rw [c3]; exact ht) i0 c1 hv (by rw [c3]; exact hv1)
          have hE : EQM e (qM e i v 0) := qm_eq
          have s1 : ∀ a j : Int, a ≠ 16 → (qM e i v 0).1 a j = e.1 a j := hE.1
          have hT' : ∀ r : Int, 0 ≤ r → r < (qM e i v 0).1 7 2 → (qM e i v 0).1 (7000 + r) 1 = t → TlP (qM e i v 0) r v := fun r r0 r1 r2 => by
            have q7 := s1 7 2 (by decide)
            have u1 := hT r r0 (by omega) (by rw [← s1 (7000 + r) 1 (by omega)]; exact r2)
            have pc : pCX (qM e i v 0) r v 0 0 0 = pCX e r v 0 0 0 := by
              have z1 : hN (qM e i v 0) r = hN e r := s1 _ _ (by omega)
              have z2 : (qM e i v 0).1 (7000 + r) 1 = e.1 (7000 + r) 1 := s1 _ _ (by omega)
              unfold pCX hC
              rw [z1, z2]
              rfl
            have ch : hC (qM e i v 0) r = hC e r := by
              have z1 : hN (qM e i v 0) r = hN e r := s1 _ _ (by omega)
              unfold hC
              rw [z1]
              rfl
            unfold TlP qS at u1 ⊢
            rw [pc, ch]
            exact u1
          rw [if_pos c3, if_pos ⟨c3, c2⟩, bd_t g1]
          have hc1 := hc.eqm hE
          have h1 := g4.eqm hc hE
          by_cases c4 : sg (qS e i v 0) 0 30 = 0
          · obtain ⟨m', u1, u2, u3, u4⟩ := ih f c (i + 1) m1 _ h1 hc1 g3 hT' (by rw [s1 _ _ (by omega)]; exact hv1) (by omega) (by rw [s1 7 2 (by decide)]; omega) (by omega) (by omega) (by omega)
            rw [if_pos c4, if_neg (show ¬ (1 : Int) = 0 by decide), if_pos c4, lx_p, lx_p, w32_id (z := c + 0) (by omega) (by omega), w32_id (z := i + 1) (by omega) (by omega), show c + 0 = c by omega]
            exact ⟨m', u1, u2, u3, u4.trans g5⟩
          · obtain ⟨m', u1, u2, u3, u4⟩ := ih f (c + 1) (i + 1) m1 _ h1 hc1 g3 hT' (by rw [s1 _ _ (by omega)]; exact hv1) (by omega) (by rw [s1 7 2 (by decide)]; omega) (by omega) (by omega) (by omega)
            rw [if_neg c4, if_pos (show (0 : Int) = 0 from rfl), if_neg c4, lx_p, lx_p, w32_id (z := c + 1) (by omega) (by omega), w32_id (z := i + 1) (by omega) (by omega)]
            exact ⟨m', u1, u2, u3, u4.trans g5⟩
        · rw [if_neg c3, if_neg (fun hh => c3 hh.1), lx_p, lx_p, w32_id (z := c + 0) (by omega) (by omega), w32_id (z := i + 1) (by omega) (by omega), show c + 0 = c by omega]
          exact ih f c (i + 1) m e h hc hP hT hv1 (by omega) (by omega) (by omega) (by omega) (by omega)
      · rw [if_neg c2, if_neg (fun hh => c2 hh.2), lx_p, lx_p, w32_id (z := c + 0) (by omega) (by omega), w32_id (z := i + 1) (by omega) (by omega), show c + 0 = c by omega]
        exact ih f c (i + 1) m e h hc hP hT hv1 (by omega) (by omega) (by omega) (by omega) (by omega)
    · rw [if_neg c1, if_neg c1]
      exact ⟨m, rfl, h, hP, rfl⟩
theorem x_27 (h : RXE m e) (hc : CN e) (hP : P113 m) (hT : 0 ≤ p1 → p1 < 4 → 0 ≤ p2 → p2 < e.1 (48 + 4 * p1 + 1) 2 → ∀ r : Int, 0 ≤ r → r < e.1 7 2 → e.1 (7000 + r) 1 = p1 → TlP e r p2) : OKp (fm_X12_unsafe p1 p2 m) cd1 (pcUnsafe p1 p2 e) := by
  have n7 := hc.1
  have no : OKp (fj_X12_unsafe_15 p1 p2 1 m) cd1 (rT 0 e) := by
    unfold fj_X12_unsafe_15
    rw [bd_t fails_e, if_pos (show (0 : Int) < 1 by decide), if_neg (show ¬ (1 : Int) = 0 by decide)]
    exact OKp.no h hc hP rfl
  unfold fm_X12_unsafe pcUnsafe
  rw [bp_t (rVer h hc)]
  by_cases c1 : 0 ≤ p1 ∧ p1 < 4
  · rw [if_pos c1]
    by_cases c2 : 0 ≤ p2 ∧ p2 < e.1 (48 + 4 * p1 + 1) 2
    · obtain ⟨m', u1, u2, u3, u4⟩ := unL c2.1 c1 31 BIG 0 0 (mset m 68 129 0) e (h.th hc) hc hP.th (hT c1.1 c1.2 c2.1 c2.2) c2.2 (by decide) (by omega) (by decide) (Nat.le_of_lt (BIG_g (by decide))) ⟨Int.le_refl _, Int.le_refl _⟩
      rw [if_pos (show (0 ≤ p1 ∧ p1 < 4) ∧ 0 ≤ p2 ∧ p2 < e.1 (48 + 4 * p1 + 1) 2 from ⟨c1, c2⟩), if_neg (show ¬ (1 : Int) = 0 by decide), if_pos c2]
      unfold fj_X12_unsafe_15
      rw [bd_t fails_e, if_neg (show ¬ (0 : Int) < 0 by decide), if_pos (show (0 : Int) = 0 from rfl), u1]
      exact OKp.fin u2 u3 (by rw [u4]; exact ms_e)
    · rw [if_neg (show ¬ ((0 ≤ p1 ∧ p1 < 4) ∧ 0 ≤ p2 ∧ p2 < e.1 (48 + 4 * p1 + 1) 2) from fun hh => c2 hh.2), if_pos (show (0 : Int) = 0 from rfl), if_neg c2]
      exact no
  · rw [if_neg (show ¬ ((0 ≤ p1 ∧ p1 < 4) ∧ 0 ≤ p2 ∧ p2 < e.1 (48 + 4 * p1 + 1) 2) from fun hh => c1 hh.1), if_pos (show (0 : Int) = 0 from rfl), if_neg c1]
    exact no
end RXL1
