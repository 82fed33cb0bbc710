/-! WHO HOLDS A RUN, lost signals, cuts: what stands between the calls. -/
section SMAa
variable {e e' e1 e2 : ES} {S D T T' a b c d i j k q r v w N M p x y t o p1 p2 p3 p4 p5 p6 : Int} {n : Nat}
/-- who holds a run; cuts -/
def Sm0 (T : Int) (e : ES) : Prop := HeldI e ∧ ∀ r : Int, 0 ≤ r → r < e.1 7 2 → 0 ≤ e.1 (7000 + r) 9 ∧ e.1 (7000 + r) 9 ≤ T
/-- where a taking over may come nothing is lost -/
def SmJ (e : ES) : Prop := e.1 4 17 = 1 → ∀ j : Int, 0 ≤ j → j < e.1 7 2 → eL e (75000 + j) = []
def SmA (T : Int) (e : ES) : Prop := Sm0 T e ∧ SmJ e
theorem Sm0.mono (h : Sm0 T e) (ht : T ≤ T') : Sm0 T' e := ⟨h.1, fun r r0 r1 => by have := h.2 r r0 r1; omega⟩
theorem SmA.mono (h : SmA T e) (ht : T ≤ T') : SmA T' e := ⟨h.1.mono ht, h.2⟩
theorem HeldI.fr (h : HeldI e) (hc : CN e) (ha : ∀ a u : Int, (a = 7 ∧ u = 2) ∨ (a = 9 ∧ u = 2) ∨ (a = 4 ∧ u = 14) ∨ (7000 ≤ a ∧ a < 7030 ∧ u = 10) ∨ (9000 ≤ a ∧ a < 9512 ∧ (u = 1 ∨ u = 2 ∨ u = 5)) → e'.1 a u = e.1 a u) : HeldI e' := by
  have n7 := hc.1
  have n9 := hc.2.2.1
  obtain ⟨h1, h2⟩ := h
  refine ⟨fun i k i0 i1 k0 k1 g1 g5 gt => ?_, fun i i0 i1 q0 q1 => ?_⟩
  · rw [ha 7 2 (by omega)] at i1
    rw [ha 9 2 (by omega)] at k1
    rw [ha (9000 + k) 1 (by omega)] at g1
    rw [ha (9000 + k) 5 (by omega)] at g5
    rw [ha 4 14 (by omega), ha (9000 + k) 2 (by omega)] at gt
    rw [ha (7000 + i) 10 (by omega)]
    exact h1 i k i0 i1 k0 k1 g1 g5 gt
  · rw [ha 7 2 (by omega)] at i1
    rw [ha (7000 + i) 10 (by omega)] at q0 q1 ⊢
    rw [ha 9 2 (by omega)] at q1
    rw [ha (9000 + e.1 (7000 + i) 10) 1 (by omega)]
    exact h2 i i0 i1 q0 q1
theorem SmA.fr (h : SmA T e) (hc : CN e) (ha : ∀ a u : Int, (a = 7 ∧ u = 2) ∨ (a = 9 ∧ u = 2) ∨ (a = 4 ∧ (u = 14 ∨ u = 17)) ∨ (7000 ≤ a ∧ a < 7030 ∧ (u = 9 ∨ u = 10)) ∨ (9000 ≤ a ∧ a < 9512 ∧ (u = 1 ∨ u = 2 ∨ u = 5)) → e'.1 a u = e.1 a u) (hl : ∀ c : Int, 75000 ≤ c → c < 75030 → eL e' c = eL e c) : SmA T e' := by
  have n7 := hc.1
  obtain ⟨⟨h1, h4⟩, h3⟩ := h
  refine ⟨⟨h1.fr hc fun a u hau => ha a u (by omega), fun r r0 r1 => ?_⟩, fun h17 j j0 j1 => ?_⟩
  · rw [ha 7 2 (by omega)] at r1
    rw [ha (7000 + r) 9 (by omega)]
    exact h4 r r0 r1
  · rw [ha 7 2 (by omega)] at j1
    rw [ha 4 17 (by omega)] at h17
    rw [hl _ (by omega) (by omega)]
    exact h3 h17 j j0 j1
/-- a field that nothing of this hangs on -/
theorem SmA.es (h : SmA T e) (hc : CN e) (ha : ¬ ((a = 7 ∧ j = 2) ∨ (a = 9 ∧ j = 2) ∨ (a = 4 ∧ (j = 14 ∨ j = 17)) ∨ (7000 ≤ a ∧ a < 7030 ∧ (j = 9 ∨ j = 10)) ∨ (9000 ≤ a ∧ a < 9512 ∧ (j = 1 ∨ j = 2 ∨ j = 5)))) : SmA T (eS e a j v) := h.fr hc (fun b u hb => by rw [es_pt, if_neg (by omega)]) fun _ _ _ => rfl
theorem SmA.thr (h : SmA T e) (hc : CN e) : SmA T (pThr e) := h.es hc (by omega)
theorem SmA.eqm (h : SmA T e) (hc : CN e) (g : EQM e e') : SmA T e' := h.fr hc (fun a u ha => g.1 _ _ (by omega)) fun c _ _ => congrFun g.2.2 c
/-- what a tick and inner steps leave alone -/
theorem Sm0.sd (h : Sm0 T e) (hc : CN e) (hT : TsR e) (s : SD e e') (t0 : 0 ≤ T) : Sm0 T e' := by
  have n7 := hc.1
  have n9 := hc.2.2.1
  obtain ⟨⟨h1, h2⟩, h4⟩ := h
  obtain ⟨⟨s1, s1b⟩, s2, s3, s4, s5, -, -⟩ := s
  refine ⟨⟨fun i k i0 i1 k0 k1 g1 g5 gt => ?_, fun i i0 i1 q0 q1 => ?_⟩, fun r r0 r1 => ?_⟩
  · rw [s2 9 2 (by omega)] at k1
    rw [s2 (9000 + k) 1 (by omega)] at g1
    rw [s2 (9000 + k) 5 (by omega)] at g5
    rw [s2 (9000 + k) 2 (by omega)] at gt
    have hk := hT k k0 k1
    rw [s4 i i0 (by omega) 10 (Or.inr rfl)]
    exact h1 i k i0 (by omega) k0 k1 g1 g5 (by omega)
  · by_cases c : i < e.1 7 2
    · rw [s4 i i0 c 10 (Or.inr rfl)] at q0 q1 ⊢
      rw [s2 9 2 (by omega)] at q1
      rw [s2 (9000 + e.1 (7000 + i) 10) 1 (by omega)]
      exact h2 i i0 c q0 q1
    · have := (s5 i i0 (by omega) i1).2.1
      omega
  · by_cases c : r < e.1 7 2
    · rw [s4 r r0 c 9 (Or.inl rfl)]
      exact h4 r r0 c
    · rw [(s5 r r0 (by omega) r1).1]
      omega
theorem SmA.sd (h : SmA T e) (hc : CN e) (hT : TsR e) (s : SD e e') (t0 : 0 ≤ T) : SmA T e' := by
  refine ⟨h.1.sd hc hT s t0, fun h17 j j0 j1 => ?_⟩
  obtain ⟨⟨s1, s1b⟩, s2, s3, s4, s5, -, -⟩ := s
  rw [s2 4 17 (by omega)] at h17
  by_cases c : j < e.1 7 2
  · rw [s3 _ (by omega) (by omega)]
    exact h.2 h17 j j0 c
  · exact (s5 j j0 (by omega) j1).2.2
theorem TsR.sd (h : TsR e) (hc : CN e) (s : SD e e') : TsR e' := fun k k0 k1 => by
  have n9 := hc.2.2.1
  obtain ⟨⟨s1, s1b⟩, s2, -⟩ := s
  rw [s2 9 2 (by omega)] at k1
  rw [s2 (9000 + k) 1 (by omega)]
  have := h k k0 k1
  omega
theorem SmA.ex (h : SmA T e) (hc : CN e) (hT : TsR e) (s : EX e e') (t0 : 0 ≤ T) : SmA T e' := h.sd hc hT s.sd t0
theorem HH.tsr (h : HH S D T e) : TsR e := h.2.2.2.2.2.1.2
theorem HH.t0 (h : HH S D T e) : 0 ≤ T := h.1.1.1.2.1.2.2.2
theorem ml_line (h : SmA T e) (hc : CN e) : SmA T (pcLine p1 p2 p3 p4 e).2 := by
  unfold pcLine
  by_cases c : 0 ≤ p1 ∧ p1 < 4
  · rw [if_pos c]
    have hr := dRow_b hc c.1 c.2
    by_cases c2 : p2 < 0 ∨ 23 < p2
    · rw [if_pos c2]; exact h.thr hc
    rw [if_neg c2]
    by_cases c3 : p3 < (if p2 = 3 then 1 else 0) ∨ tA p2 < p3 ∨ p4 < 0 ∨ tB p2 < p4
    · rw [if_pos c3]; exact h.thr hc
    rw [if_neg c3]
    by_cases c4 : ((eL e (dRow (48 + 4 * p1) e)).length : Int) < 24
    · rw [if_pos c4]
      exact h.fr hc (fun _ _ _ => rfl) fun c c0 c1 => eLs_a (by omega)
    · rw [if_neg c4]; exact h.thr hc
  · rw [if_neg c]; exact h.thr hc
theorem ml_deploy (h : SmA T e) (hc : CN e) : SmA T (pcDeploy p1 e).2 := by
  unfold pcDeploy
  by_cases c : 0 ≤ p1 ∧ p1 < 4
  · rw [if_pos c]
    by_cases c2 : eL e (dRow (48 + 4 * p1) e) = []
    · rw [if_pos c2]; exact h.thr hc
    rw [if_neg c2]
    by_cases c3 : e.1 (48 + 4 * p1 + 1) 2 < 4
    · rw [if_pos c3]
      have hv0 := hc.2.2.2.2 _ (isT_4 c.1 c.2)
      exact h.fr hc (fun a u ha => by
        unfold pDep
        rw [es_pt, if_neg (by omega)]
        rfl) fun c c0 c1 => eLs_a (by omega)
    · rw [if_neg c3]; exact h.thr hc
  · rw [if_neg c]; exact h.thr hc
theorem ml_setRate (h : SmA T e) (hc : CN e) : SmA T (pcSetRate p1 e).2 := by
  unfold pcSetRate
  split
  · exact h.thr hc
  · exact h.es hc (by omega)
theorem ml_shift (h : SmA T e) (hc : CN e) : SmA T (pcShift p1 e).2 := by
  unfold pcShift
  split
  · exact h.thr hc
  · exact h.es hc (by omega)
theorem ml_setKind (h : SmA T e) (hc : CN e) : SmA T (pcSetKind p1 p2 p3 p4 p5 p6 e).2 := by
  unfold pcSetKind
  split
  · rename_i c
    split
    · exact h.thr hc
    · have hs : ∀ (e1 : ES) (j v : Int), SmA T e1 ∧ CN e1 → SmA T (eS e1 (64 + p1) j v) ∧ CN (eS e1 (64 + p1) j v) := fun e1 j v g => ⟨g.1.es g.2 (by omega), g.2.of fun a ha => eS_a (by omega)⟩
      exact (hs _ _ _ (hs _ _ _ (hs _ _ _ (hs _ _ _ (hs _ _ _ ⟨h, hc⟩))))).1
  · exact h.thr hc
theorem ml_setPolicy (h : SmA T e) (hc : CN e) : SmA T (pcSetPolicy p1 p2 e).2 := by
  unfold pcSetPolicy
  split
  · split
    · exact h.thr hc
    · exact h.es hc (by omega)
  · exact h.thr hc
theorem ml_togglePause (h : SmA T e) (hc : CN e) : SmA T (pcTogglePause p1 e).2 := by
  have n10 := hc.2.2.2.1
  unfold pcTogglePause
  split
  · exact h.es hc (by omega)
  · exact h.thr hc
theorem ml_beat (h : SmA T e) (hc : CN e) : SmA T (pcBeat p1 p2 e).2 := by
  have n8 := hc.2.1
  unfold pcBeat
  split
  · split
    · split
      · have h1 := h.es (a := 8000 + p1) (j := 10) (v := p2) hc (by omega)
        exact h1.es (hc.of fun a ha => by rw [es_pt, if_neg (by omega)]) (by omega)
      · exact h
    · exact h.thr hc
  · exact h.thr hc
theorem ml_copy (h : SmA T e) (hc : CN e) : SmA T (pcCopy p1 p2 e).2 := by
  have n7 := hc.1
  unfold pcCopy
  split
  · split
    · exact h.thr hc
    · exact h.es hc (by omega)
  · exact h.thr hc
theorem ml_take (h : SmA T e) (hc : CN e) : SmA T (pcTake p1 e).2 := by
  have n8 := hc.2.1
  unfold pcTake
  split
  · split
    · exact h
    · rename_i c
      obtain ⟨b1, -⟩ := fTk_c (e := e) (k := p1) 61 0 (Int.le_refl _) (by omega)
      generalize hp : fTk e p1 61 0 = p at b1 c ⊢
      have hs : ∀ (e1 : ES) (j v : Int), SmA T e1 ∧ CN e1 → SmA T (eS e1 (8000 + p) j v) ∧ CN (eS e1 (8000 + p) j v) := fun e1 j v g => ⟨g.1.es g.2 (by omega), g.2.of fun a ha => eS_a (by omega)⟩
      exact (hs _ _ _ (hs _ _ _ (hs _ _ _ (hs _ _ _ ⟨h, hc⟩)))).1
  · exact h.thr hc
theorem ml_query (h : SmA T e) (hc : CN e) : SmA T (pcQuery p1 p2 e).2 := by
  have g := h.eqm hc (eM_eq : EQM e (qM e p1 (e.1 (7000 + p1) 3) 0))
  have hc2 : CN (qM e p1 (e.1 (7000 + p1) 3) 0) := hc.of fun a ha => eM_eq.1 _ _ (by omega)
  unfold pcQuery
  split
  · split
    · split
      · exact g
      · exact g.thr hc2
    · exact h.thr hc
  · exact h.thr hc
theorem ml_plain (h : SmA T e) (hc : CN e) : SmA T (pcPlain p1 p2 e).2 := by
  have g := h.eqm hc (eM_eq : EQM e (qM e p1 (e.1 (7000 + p1) 3) 0))
  have hc2 : CN (qM e p1 (e.1 (7000 + p1) 3) 0) := hc.of fun a ha => eM_eq.1 _ _ (by omega)
  unfold pcPlain
  split
  · split
    · split
      · exact g.eqm hc2 eM_eq
      · exact g.thr hc2
    · exact h.thr hc
  · exact h.thr hc
theorem ml_move (h : SmA T e) (hc : CN e) : SmA T (pcMove p1 p2 e).2 := by
  have n7 := hc.1
  unfold pcMove
  split
  · split
    · split
      · have h1 := h.es (a := 7000 + p1) (j := 3) (v := p2) hc (by omega)
        have hc1 : CN (eS e (7000 + p1) 3 p2) := hc.of fun a ha => by rw [es_pt, if_neg (by omega)]
        have h2 : SmA T (pMv2 p1 p2 e) := h1.es hc1 (by omega)
        exact h2.eqm (hc1.of fun a ha => by unfold pMv2; rw [es_pt, if_neg (by omega)]) eM_eq
      · exact h.thr hc
    · exact h.thr hc
  · exact h.thr hc
theorem ml_unL : ∀ (n : Nat) (a i : Int) (e : ES), SmA T e → CN e → SmA T (pUnL t v n a i e).2 := by
  intro n
  induction n with
  | zero => intro a i e h _; exact h
  | succ n ih =>
    intro a i e h hc
    unfold pUnL
    split
    · split
      · exact ih _ _ _ (h.eqm hc eM_eq) (hc.of fun a ha => eM_eq.1 _ _ (by omega))
      · exact ih _ _ _ h hc
    · exact h
theorem ml_27 (h : SmA T e) (hc : CN e) : SmA T (pcUnsafe p1 p2 e).2 := by
  unfold pcUnsafe
  split
  · split
    · exact ml_unL _ _ _ _ h hc
    · exact h.thr hc
  · exact h.thr hc
theorem ml_schedule (h : SmA T e) (hc : CN e) : SmA T (pcSchedule p1 p2 p3 p4 e).2 := by
  have n10 := hc.2.2.2.1
  unfold pcSchedule
  by_cases c1 : 0 ≤ p1 ∧ p1 < 4
  · rw [if_pos c1]
    by_cases c2 : 0 ≤ p2 ∧ p2 < 3
    · rw [if_pos c2]
      by_cases c3 : p3 < 1 ∨ 50 < p3 ∨ p4 < 0 ∨ 3 < p4
      · rw [if_pos c3]; exact h.thr hc
      rw [if_neg c3]
      by_cases c4 : 0 < e.1 (48 + 4 * p1 + 1) 2 ∧ e.1 10 2 < 4
      · rw [if_pos c4]
        exact h.fr hc (fun a u ha => pNew_a (by omega) (by omega)) fun _ _ _ => rfl
      · rw [if_neg c4]; exact h.thr hc
    · rw [if_neg c2]; exact h.thr hc
  · rw [if_neg c1]; exact h.thr hc
end SMAa
