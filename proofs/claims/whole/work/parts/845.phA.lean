/-! LINKS AND HISTORIES, through the calls: what the calls do that put at most one event. -/
section PHA
variable {e e' e1 e2 : ES} {S D T S' D' T' : Int} {a b c i j k q r v w N M p x y t o ev tn ver inp par pe fin p1 p2 p3 p4 p5 p6 : Int} {n : Nat} {s : TS} {B : Int} {E : Int → Ev}
def nWt : Int → Int → Prop := fun _ _ => False
theorem nWt_n : ∀ q j : Int, ¬ nWt q j := fun _ _ g => g
/-- histories, links: as they stand between the calls -/
def PHs (S D T : Int) (e : ES) : Prop := HK S D T nWt noX e ∧ NZ e
theorem PHs.cn (h : PHs S D T e) : CN e := h.1.cn
theorem PHs.fr (h : PHs S D T e) (hc : CN e') (o1 : 0 ≤ e'.1 4 16) (ha : ∀ a u : Int, (a = 7 ∨ a = 8) ∧ u = 2 ∨ ((7000 ≤ a ∧ a < 7030) ∧ 4 ≤ u ∧ u ≤ 6) ∨ ((8000 ≤ a ∧ a < 8060) ∧ (u = 0 ∨ u = 1 ∨ u = 5)) ∨ ((71000 ≤ a ∧ a < 71030) ∧ u = 1) → e'.1 a u = e.1 a u) (hl : ∀ q : Int, 0 ≤ q → q < 30 → eL e' (73000 + q) = eL e (73000 + q) ∧ eL e' (75000 + q) = eL e (75000 + q)) (hh : ∀ r : Int, 0 ≤ r → r < 30 → eH e' r = eH e r) : PHs S D T e' := by
  have n7 := h.cn.1
  exact ⟨h.1.frm0 (fun _ _ _ g => g) hc o1 ha hl hh, h.2.of (ha _ _ (by omega)) (fun r r0 r1 d => (Dead.eq (ha _ _ (by omega))).mpr d) fun r r0 r1 => by unfold hN; rw [ha _ _ (by omega)]; omega⟩
theorem PHs.es (h : PHs S D T e) (hc : CN (eS e a j v)) (ha : ¬ ((a = 7 ∨ a = 8) ∧ j = 2 ∨ ((7000 ≤ a ∧ a < 7030) ∧ 4 ≤ j ∧ j ≤ 6) ∨ ((8000 ≤ a ∧ a < 8060) ∧ (j = 0 ∨ j = 1 ∨ j = 5)) ∨ ((71000 ≤ a ∧ a < 71030) ∧ j = 1))) (ho : a ≠ 4 ∨ j ≠ 16) : PHs S D T (eS e a j v) :=
  h.fr hc (by rw [es_pt, if_neg (by omega)]; exact h.1.1.1.2.1) (fun b u hb => by rw [es_pt, if_neg (by omega)]) (fun _ _ _ => ⟨rfl, rfl⟩) fun _ _ _ => rfl
theorem PHs.es0 (h : PHs S D T e) (ha : ¬ ((7 ≤ a ∧ a ≤ 10) ∨ (48 ≤ a ∧ a ≤ 61)) ∧ ¬ (((7000 ≤ a ∧ a < 7030) ∧ 4 ≤ j ∧ j ≤ 6) ∨ ((8000 ≤ a ∧ a < 8060) ∧ (j = 0 ∨ j = 1 ∨ j = 5)) ∨ ((71000 ≤ a ∧ a < 71030) ∧ j = 1))) (ho : a ≠ 4 ∨ j ≠ 16) : PHs S D T (eS e a j v) :=
  h.es (cn_eS h.cn ha.1) (by omega) ho
theorem PHs.thr (h : PHs S D T e) : PHs S D T (pThr e) := h.es0 (by omega) (by omega)
theorem PHs.eqm (h : PHs S D T e) (g : EQM e e') : PHs S D T e' := by
  obtain ⟨g1, g2, g3⟩ := g
  exact h.fr (h.cn.of fun a ha => g1 _ _ (by omega)) (by rw [g1 _ _ (by decide)]; exact h.1.1.1.2.1) (fun a u ha => g1 _ _ (by omega)) (fun q _ _ => ⟨congrFun g3 _, congrFun g3 _⟩) fun r _ _ => congrFun g2 r
theorem PHs.elo (h : PHs S D T e) {l : List Int} (hl : ∀ q : Int, 0 ≤ q → q < 30 → c ≠ 73000 + q ∧ c ≠ 75000 + q) : PHs S D T (eLs e c l) := ⟨h.1.elo hl, h.2.hn rfl⟩
theorem PHs.up (h : PHs S D T e) (hs : S ≤ S') (hd : D ≤ D') (ht : T ≤ T') (hb : S' + 2 * D' + 2 * T' ≤ 540) : PHs S' D' T' e := ⟨h.1.up hs hd ht hb, h.2⟩
theorem dRow_b (hc : CN e) (t0 : 0 ≤ p1) (t1 : p1 < 4) : 48000 ≤ dRow (48 + 4 * p1) e ∧ dRow (48 + 4 * p1) e < 61000 := by
  have ht : isT (48 + 4 * p1) := isT_4 t0 t1
  have := hc.2.2.2.2 _ ht
  unfold dRow
  omega
theorem ph_line (h : PHs S D T e) : PHs S D T (pcLine p1 p2 p3 p4 e).2 := by
  unfold pcLine
  by_cases c : 0 ≤ p1 ∧ p1 < 4
  · rw [if_pos c]
    have := dRow_b h.cn c.1 c.2
    by_cases c2 : p2 < 0 ∨ 23 < p2
    · rw [if_pos c2]
      exact h.thr
    · rw [if_neg c2]
      by_cases c3 : p3 < (if p2 = 3 then 1 else 0) ∨ tA p2 < p3 ∨ p4 < 0 ∨ tB p2 < p4
      · rw [if_pos c3]
        exact h.thr
      · rw [if_neg c3]
        by_cases c4 : ((eL e (dRow (48 + 4 * p1) e)).length : Int) < 24
        · rw [if_pos c4]
          exact h.elo fun q q0 q1 => by omega
        · rw [if_neg c4]
          exact h.thr
  · rw [if_neg c]
    exact h.thr
theorem ph_deploy (h : PHs S D T e) (hc : CN (pcDeploy p1 e).2) : PHs S D T (pcDeploy p1 e).2 := by
  unfold pcDeploy at hc ⊢
  by_cases c : 0 ≤ p1 ∧ p1 < 4
  · rw [if_pos c] at hc ⊢
    by_cases c2 : eL e (dRow (48 + 4 * p1) e) = []
    · rw [if_pos c2]
      exact h.thr
    · rw [if_neg c2] at hc ⊢
      by_cases c3 : e.1 (48 + 4 * p1 + 1) 2 < 4
      · rw [if_pos c3] at hc ⊢
        have hv := h.cn.2.2.2.2 _ (isT_4 c.1 c.2)
        have pa : ∀ a u : Int, a ≠ 48 + 4 * p1 + 1 ∨ u ≠ 2 → (pDep (48 + 4 * p1) e).1 a u = e.1 a u := fun a u hh => by
          unfold pDep
          rw [es_pt, if_neg (by omega)]
          rfl
        have pl : ∀ c, c ≠ 1000 * (48 + 4 * p1) + (e.1 (48 + 4 * p1 + 1) 2 + 1) → eL (pDep (48 + 4 * p1) e) c = eL e c := fun c hcc => eLs_a hcc
        exact h.fr hc (by rw [pa _ _ (by omega)]; exact h.1.1.1.2.1) (fun a u ha => pa _ _ (by omega)) (fun q q0 q1 => ⟨pl _ (by omega), pl _ (by omega)⟩) fun _ _ _ => rfl
      · rw [if_neg c3]
        exact h.thr
  · rw [if_neg c]
    exact h.thr
theorem ph_setKind (h : PHs S D T e) : PHs S D T (pcSetKind p1 p2 p3 p4 p5 p6 e).2 := by
  unfold pcSetKind
  split
  · split
    · exact h.thr
    · exact ((((h.es0 (by omega) (by omega)).es0 (by omega) (by omega)).es0 (by omega) (by omega)).es0 (by omega) (by omega)).es0 (by omega) (by omega)
  · exact h.thr
theorem ph_setPolicy (h : PHs S D T e) (hc : CN (pcSetPolicy p1 p2 e).2) : PHs S D T (pcSetPolicy p1 p2 e).2 := by
  unfold pcSetPolicy at hc ⊢
  by_cases c : 0 ≤ p1 ∧ p1 < 4
  · rw [if_pos c] at hc ⊢
    by_cases c2 : p2 < 0 ∨ 2 < p2
    · rw [if_pos c2]
      exact h.thr
    · rw [if_neg c2] at hc ⊢
      exact h.es hc (by omega) (by omega)
  · rw [if_neg c]
    exact h.thr
theorem ph_setRate (h : PHs S D T e) : PHs S D T (pcSetRate p1 e).2 := by
  unfold pcSetRate
  split
  · exact h.thr
  · exact h.es0 (by omega) (by omega)
theorem ph_replays (h : PHs S D T e) : PHs S D T (pcReplays p1 e).2 := by
  unfold pcReplays
  split
  · exact h
  · exact h.thr
theorem ph_standing (h : PHs S D T e) : PHs S D T (pcStanding p1 e).2 := by
  unfold pcStanding
  split
  · exact h
  · exact h.thr
theorem ph_event (h : PHs S D T e) : PHs S D T (pcEvent p1 p2 e).2 := by
  unfold pcEvent
  split
  · split
    · exact h
    · exact h.thr
  · exact h.thr
theorem ph_difference (h : PHs S D T e) : PHs S D T (pcDifference p1 e).2 := by
  unfold pcDifference
  split
  · split
    · exact h
    · exact h.thr
  · exact h.thr
theorem ph_activity (h : PHs S D T e) : PHs S D T (pcActivity p1 e).2 := by
  unfold pcActivity
  split
  · exact h
  · exact h.thr
theorem ph_search (h : PHs S D T e) : PHs S D T (pcSearch p1 e).2 := by
  unfold pcSearch
  split
  · exact h
  · exact h.thr
theorem ph_shift (h : PHs S D T e) : PHs S D T (pcShift p1 e).2 := by
  unfold pcShift
  split
  · exact h.thr
  · exact h.es0 (by omega) (by omega)
theorem ph_togglePause (h : PHs S D T e) : PHs S D T (pcTogglePause p1 e).2 := by
  have := h.cn
  unfold pcTogglePause
  split
  · exact h.es0 (by omega) (by omega)
  · exact h.thr
theorem ph_copy (h : PHs S D T e) : PHs S D T (pcCopy p1 p2 e).2 := by
  have n7 := h.cn.1
  unfold pcCopy
  split
  · split
    · exact h.thr
    · exact h.es0 (by omega) (by omega)
  · exact h.thr
theorem ph_signal (h : PHs S D T e) (hb : S + 1 + 2 * D + 2 * T ≤ 540) : PHs (S + 1) D T (pcSignal p1 p2 p3 e).2 := by
  have h1 := h.up (S' := S + 1) (by omega) (Int.le_refl _) (Int.le_refl _) hb
  unfold pcSignal
  by_cases c1 : 0 ≤ p1 ∧ p1 < e.1 7 2
  · rw [if_pos c1]
    by_cases c2 : 0 ≤ p2 ∧ p2 < 4
    · rw [if_pos c2]
      by_cases c3 : 0 ≤ p3 ∧ p3 < 1000
      · rw [if_pos c3]
        by_cases c4 : (e.1 (7000 + p1) 6 = 0 ∨ e.1 (7000 + p1) 6 = 6) ∧ hN e p1 < 100
        · rw [if_pos c4]
          have hd : ¬ Dead e p1 := al_nd.mp c4.1
          have ht := h.1.1.2.2
          exact ⟨h1.1.arr c1.1 c1.2 (Or.inl rfl) (h.2 p1 c1.1 c1.2 hd) c2.1 (by omega) (fun _ => c2.2) c3.1 (by omega) (fun g => by omega) fun _ => ⟨by omega, hd⟩, h1.2.cs (cs_arr h1.cn c1.1 c1.2)⟩
        · rw [if_neg c4]
          exact h1.thr
      · rw [if_neg c3]
        exact h1.thr
    · rw [if_neg c2]
      exact h1.thr
  · rw [if_neg c1]
    exact h1.thr
theorem PHs.can (h : PHs S D T e) (i0 : 0 ≤ i) (i1 : i < e.1 7 2) (hd : ¬ Dead e i) : PHs S D T (pCan i e).2 := ⟨h.1.can h.2 i0 i1 hd, h.2.cs (cs_can h.cn i0 i1)⟩
theorem ph_cancel (h : PHs S D T e) : PHs S D T (pcCancel p1 e).2 := by
  unfold pcCancel
  split
  · rename_i c
    split
    · rename_i c2
      exact h.can c.1 c.2 (al_nd.mp c2)
    · exact h.thr
  · exact h.thr
theorem ph_answer (h : PHs S D T e) : PHs S D T (pcAnswer p1 p2 e).2 := by
  unfold pcAnswer
  split
  · rename_i c
    split
    · rename_i c2
      split
      · rename_i c3
        exact h.1.back8 h.2 c.1 c.2 (by omega) (Or.inl rfl) c2.1 (by omega)
      · exact h
    · exact h.thr
  · exact h.thr
theorem ph_fail (h : PHs S D T e) : PHs S D T (pcFail p1 p2 e).2 := by
  unfold pcFail
  split
  · rename_i c
    split
    · rename_i c3
      exact h.1.miss h.2 c.1 c.2 (by omega)
    · exact h
  · exact h.thr
theorem ph_beat (h : PHs S D T e) : PHs S D T (pcBeat p1 p2 e).2 := by
  have n8 := h.cn.2.1
  unfold pcBeat
  split
  · split
    · split
      · exact (h.es0 (by omega) (by omega)).es0 (by omega) (by omega)
      · exact h
    · exact h.thr
  · exact h.thr
theorem fTk_c : ∀ (n : Nat) (i : Int), 0 ≤ i → 0 ≤ fTk e k n i → fTk e k n i < e.1 8 2 ∧ e.1 (8000 + fTk e k n i) 5 = 0 := by
  intro n
  induction n with
  | zero => intro i _ h; exact absurd h (by unfold fTk; decide)
  | succ n ih =>
    intro i i0 h
    unfold fTk at h ⊢
    by_cases c : i < e.1 8 2
    · rw [if_pos c] at h ⊢
      by_cases c2 : e.1 (8000 + i) 2 = k ∧ e.1 (8000 + i) 5 = 0 ∧ e.1 (8000 + i) 7 ≤ e.1 4 14
      · rw [if_pos c2]
        exact ⟨c, c2.2.1⟩
      · rw [if_neg c2] at h ⊢
        exact ih _ (by omega) h
    · rw [if_neg c] at h
      exact absurd h (by decide)
theorem ph_take (h : PHs S D T e) : PHs S D T (pcTake p1 e).2 := by
  have n8 := h.cn.2.1
  have n7 := h.cn.1
  unfold pcTake
  split
  · split
    · exact h
    · rename_i c
      obtain ⟨b1, b2⟩ := fTk_c (e := e) (k := p1) 61 0 (Int.le_refl _) (by omega)
      have h1 : PHs S D T (eS e (8000 + fTk e p1 61 0) 5 1) := ⟨h.1.act5 (by omega) b1 (by omega), h.2.es1 (by omega) (by omega) (by omega) n7.2⟩
      exact ((h1.es0 (by omega) (by omega)).es0 (by omega) (by omega)).es0 (by omega) (by omega)
  · exact h.thr
theorem PHs.start (h : PHs S D T e) (hn : e.1 7 2 < 30) (x0 : 0 ≤ inp) (x1 : inp ≤ 999) : PHs S D T (pStart t tn inp (-1) 0 e) := by
  have n7 := h.cn.1
  exact ⟨h.1.start hn (by omega) x0 x1 (fun g => by omega) fun _ _ _ g => g.elim, h.2.start h.cn hn⟩
theorem ph_begin (h : PHs S D T e) : PHs S D T (pcBegin p1 p2 p3 e).2 := by
  unfold pcBegin
  split
  · split
    · split
      · rename_i c
        split
        · rename_i c2
          exact h.start c2.2 c.1 (by omega)
        · exact h.thr
      · exact h.thr
    · exact h.thr
  · exact h.thr
theorem ph_schedule (h : PHs S D T e) (hc : CN (pcSchedule p1 p2 p3 p4 e).2) : PHs S D T (pcSchedule p1 p2 p3 p4 e).2 := by
  have n10 := h.cn.2.2.2.1
  unfold pcSchedule at hc ⊢
  by_cases c1 : 0 ≤ p1 ∧ p1 < 4
  · rw [if_pos c1] at hc ⊢
    by_cases c2 : 0 ≤ p2 ∧ p2 < 3
    · rw [if_pos c2] at hc ⊢
      by_cases c3 : p3 < 1 ∨ 50 < p3 ∨ p4 < 0 ∨ 3 < p4
      · rw [if_pos c3]
        exact h.thr
      · rw [if_neg c3] at hc ⊢
        by_cases c4 : 0 < e.1 (48 + 4 * p1 + 1) 2 ∧ e.1 10 2 < 4
        · rw [if_pos c4] at hc ⊢
          exact h.fr hc (by rw [pNew_a (by omega) (by omega)]; exact h.1.1.1.2.1) (fun a u ha => pNew_a (by omega) (by omega)) (fun _ _ _ => ⟨rfl, rfl⟩) fun _ _ _ => rfl
        · rw [if_neg c4]
          exact h.thr
    · rw [if_neg c2]
      exact h.thr
  · rw [if_neg c1]
    exact h.thr
theorem qm_EQM (g : EQM e e1) : EQM e (qM e1 i v w) := g.tr eM_eq
theorem ph_query (h : PHs S D T e) : PHs S D T (pcQuery p1 p2 e).2 := by
  unfold pcQuery
  split
  · split
    · split
      · exact h.eqm eM_eq
      · exact (h.eqm eM_eq).thr
    · exact h.thr
  · exact h.thr
theorem ph_plain (h : PHs S D T e) : PHs S D T (pcPlain p1 p2 e).2 := by
  unfold pcPlain
  split
  · split
    · split
      · exact (h.eqm eM_eq).eqm eM_eq
      · exact (h.eqm eM_eq).thr
    · exact h.thr
  · exact h.thr
theorem ph_update (h : PHs S D T e) (hb : S + 1 + 2 * D + 2 * T ≤ 540) : PHs (S + 1) D T (pcUpdate p1 p2 p3 e).2 := by
  have h1 := h.up (S' := S + 1) (by omega) (Int.le_refl _) (Int.le_refl _) hb
  unfold pcUpdate
  by_cases c1 : 0 ≤ p1 ∧ p1 < e.1 7 2
  · rw [if_pos c1]
    by_cases c2 : 0 ≤ p2 ∧ p2 < 4
    · rw [if_pos c2]
      by_cases c3 : 0 ≤ p3 ∧ p3 < 1000
      · rw [if_pos c3]
        by_cases c4 : e.1 (7000 + p1) 6 = 0 ∧ hN e p1 < 100
        · rw [if_pos c4]
          have g : EQM e (qM e p1 (e.1 (7000 + p1) 3) 0) := eM_eq
          have h2 := h1.eqm g
          have h3 := h.eqm g
          split
          · have e7 : (qM e p1 (e.1 (7000 + p1) 3) 0).1 7 2 = e.1 7 2 := g.1 _ _ (by decide)
            have hd : ¬ Dead (qM e p1 (e.1 (7000 + p1) 3) 0) p1 := al_nd.mp (by rw [g.1 _ _ (by omega)]; exact Or.inl c4.1)
            have ht := h3.1.1.2.2
            exact ⟨h2.1.arr c1.1 (by omega) (Or.inl rfl) (h2.2 p1 c1.1 (by omega) hd) c2.1 (by omega) (fun _ => c2.2) c3.1 (by omega) (fun g => by omega) fun _ => ⟨by omega, hd⟩, h2.2.cs (cs_arr h2.cn c1.1 (by omega))⟩
          · exact h2
        · rw [if_neg c4]
          exact h1.thr
      · rw [if_neg c3]
        exact h1.thr
    · rw [if_neg c2]
      exact h1.thr
  · rw [if_neg c1]
    exact h1.thr
end PHA
