/-! THE REFERENCE'S ENGINE: one field of a run; drops. -/
section RXT2
variable {m m' M : MM} {e e' e2 : ES} {a b c i j k o r v w p t s x y n ev due q A B f1 : Int} {l : List Int}
/-- one field of a run -/
theorem RXE.rs (h : RXE m e) (hc : CN e) (r0 : 0 ≤ r) (r1 : r < e.1 7 2) (hAv : (A = 82 ∧ j = 3) ∨ (A = 83 ∧ j = 6 ∧ v ≠ 6 ∧ (v = 0 → ¬ Dead e r)) ∨ (A = 84 ∧ j = 4 ∧ v = -1) ∨ (A = 92 ∧ j = 8) ∨ (A = 138 ∧ j = 11)) : RXE (mset m A r v) (eS e (7000 + r) j v) := by
  have n7 := hc.1
  obtain ⟨⟨a1, a2, a3, a4, a5, a6⟩, ⟨k86, k89, k90, k91⟩, k92, k93, k94, k138⟩ := h.pr.1 r r0 r1
  have key : ∀ B i : Int, (B = A ↔ i = j) → m B r = e.1 (7000 + r) i → mset m A r v B r = (eS e (7000 + r) j v).1 (7000 + r) i := fun B i hB hb => by
    by_cases c : B = A
    · rw [c, hB.mp c, ms_e, eS_e]
    · rw [ms_a c, eS_j (fun hh => c (hB.mpr hh))]
      exact hb
  have hN1 : hN (eS e (7000 + r) j v) r = hN e r := eS_a (by omega)
  refine h.rn hc r0 r1 (fun a u g1 g2 g3 _ => ?_) (fun a u g => ?_) rfl (fun hd => ?_) ⟨⟨?_, ?_, ?_, ?_, ?_, fun hh => ?_⟩, ⟨?_, ?_, ?_, ?_⟩, ?_, ?_, fun hh => ?_, ?_⟩
  · unfold mset
    rw [if_neg (by omega)]
  · by_cases c : a = 7000 + r
    · rw [c]; exact eS_j (by omega)
    · exact eS_a c
  · unfold Dead
    by_cases c : j = 6
    · rw [c, eS_e]
      have hv : v ≠ 6 ∧ (v = 0 → ¬ Dead e r) := by
        rcases hAv with ⟨-, h⟩ | ⟨-, -, h1, h2⟩ | ⟨-, h, -⟩ | ⟨-, h⟩ | ⟨-, h⟩
        · omega
        · exact ⟨h1, h2⟩
        · omega
        · omega
        · omega
      exact ⟨fun hh => hv.2 hh hd, hv.1⟩
    · rw [eS_j (fun hh => c hh.symm)]
      exact hd
  · exact key 80 1 (by omega) a1
  · exact key 81 2 (by omega) a2
  · exact key 82 3 (by omega) a3
  · exact key 83 6 (by omega) a4
  · exact key 84 4 (by omega) a5
  · rw [ms_a (by omega), eS_j (by omega)]
    by_cases c : j = 4
    · rw [c, eS_e] at hh
      omega
    · rw [eS_j (fun h2 => c h2.symm)] at hh
      exact a6 hh
  · rw [ms_a (by omega), hN1]; exact k86
  · rw [ms_a (by omega), k89]; unfold hA; rw [hN1]; rfl
  · rw [ms_a (by omega), k90]; unfold hT; rw [hN1]; rfl
  · rw [ms_a (by omega), k91]; unfold hC; rw [hN1]; rfl
  · exact key 92 8 (by omega) k92
  · rw [ms_a (by omega), eS_j (by omega)]; exact k93
  · rw [ms_a (by omega), eS_j (by omega)]
    by_cases c : j = 6
    · rw [c, eS_e] at hh
      omega
    · rw [eS_j (fun h2 => c h2.symm)] at hh
      exact k94 hh
  · exact key 138 11 (by omega) k138
theorem mr_eS (h1 : a ≠ 4) (h2 : a ≠ 3) (h3 : a ≠ 68) (h4 : a ≠ 7) (h5 : a < 71000) : MR e (eS e a j v) := MR.of (eS_a (Ne.symm h2)) (fun j => eS_a (Ne.symm h1)) (fun j => eS_a (Ne.symm h3)) (eS_a (Ne.symm h4)) (fun i i0 i1 => eS_a (by omega))
theorem mset_cm (h : a ≠ b) : mset (mset m a j v) b i w = mset (mset m b i w) a j v := by
  funext c k
  unfold mset
  by_cases h1 : c = b ∧ k = i
  · rw [if_pos h1]
    by_cases h2 : c = a ∧ k = j
    · omega
    · rw [if_neg h2, if_pos h1]
  · rw [if_neg h1]
    by_cases h2 : c = a ∧ k = j
    · rw [if_pos h2, if_pos h2]
    · rw [if_neg h2, if_neg h2, if_neg h1]
/-- a field elsewhere, then a put: the other way round -/
theorem put_cm (h1 : a ≠ 68) (h2 : a ≠ 3) (h3 : a ≠ 76000 + r) (h4 : a ≠ 71000 + r) : pPut r k x y t o (eS e a j v) = eS (pPut r k x y t o e) a j v := by
  have hO : pOrd r k (eS e a j v) = eS (pOrd r k e) a j v := by
    have hG : ∀ e : ES, pGh r (eS e a j v) = eS (pGh r e) a j v := fun e => by
      have hF : gF r (eS e a j v) = gF r e := by
        unfold gF
        rw [eS_a (Ne.symm h1), eS_a (Ne.symm h1), eS_a (Ne.symm h4)]
      have hM : gM r (eS e a j v) = gM r e := by
        unfold gM
        rw [hF, eS_a (Ne.symm h1), eS_a (Ne.symm h4)]
      unfold pGh
      rw [hF, hM, eS_a (Ne.symm h1), eS_a (Ne.symm h1), eS_a (Ne.symm h4)]
      unfold eS
      rw [mset_cm h1, mset_cm h1, mset_cm h1, mset_cm h1]
    unfold pOrd
    rw [← hG]
    refine congrArg (pGh r) ?_
    unfold pOrd0
    rw [eS_a (Ne.symm h1), eS_a (Ne.symm h1), eS_a (Ne.symm h2)]
    by_cases c : k ≤ 7
    · rw [if_pos c, if_pos c]
      unfold eS
      rw [mset_cm h1, mset_cm h1, mset_cm h2]
    · rw [if_neg c, if_neg c]
      unfold eS
      rw [mset_cm h2]
  have eR : ∀ e : ES, pPut r k x y t o e = eHs (eS (eS (pOrd r k e) (76000 + r) ((pOrd r k e).1 (71000 + r) 1) (if k ≤ 7 then 1000 * (pOrd r k e).1 68 29 + t % 1000 else t)) (71000 + r) 1 ((pOrd r k e).1 (71000 + r) 1 + 1)) r (Ev1 (eH (pOrd r k e) r) ((pOrd r k e).1 (71000 + r) 1) (evP k x y t o)) := fun e => rfl
  rw [eR, eR, hO, eS_a (b := 71000 + r) (Ne.symm h4), eS_a (b := 68) (Ne.symm h1)]
  unfold eS eHs
  rw [mset_cm h3, mset_cm h4]
  rfl
theorem arr_cm (h1 : a ≠ 68) (h2 : a ≠ 3) (h3 : a ≠ 76000 + r) (h4 : a ≠ 71000 + r) (h5 : a ≠ 4) : pArr r k x y (eS e a j v) = eS (pArr r k x y e) a j v := by
  unfold pArr
  rw [eS_a (Ne.symm h5), eS_a (Ne.symm h5), put_cm h1 h2 h3 h4]
  unfold eS
  rw [mset_cm h5]
theorem can_cm (h1 : a ≠ 68) (h2 : a ≠ 3) (h3 : a ≠ 76000 + r) (h4 : a ≠ 71000 + r) (h5 : a ≠ 4) : pCan r (eS e a j v) = ((pCan r e).1, eS (pCan r e).2 a j v) := by
  have hX : pX (eS e a j v) r = pX e r := by
    have hN1 : hN (eS e a j v) r = hN e r := eS_a (Ne.symm h4)
    unfold pX hC
    rw [hN1]
    rfl
  unfold pCan
  rw [hX]
  by_cases c : hasK (pX e r) 7 = true
  · rw [if_pos c, if_pos c]
  · rw [if_neg c, if_neg c, arr_cm h1 h2 h3 h4 h5]
theorem zip_er : ∀ (l1 l2 : List Int) (k : Nat), (l1.eraseIdx k).zip (l2.eraseIdx k) = (l1.zip l2).eraseIdx k := by
  intro l1
  induction l1 with
  | nil => intro l2 k; simp
  | cons a t ih =>
    intro l2 k
    cases l2 with
    | nil => simp
    | cons b u =>
      cases k with
      | zero => simp
      | succ k => simp [ih]
theorem flt_er {α : Type} {P : α → Bool} : ∀ (l : List α) (k : Nat) (hk : k < l.length), P l[k] = false → (l.eraseIdx k).filter P = l.filter P := by
  intro l
  induction l with
  | nil => intro k hk; exact absurd hk (by simp)
  | cons a t ih =>
    intro k hk hp
    cases k with
    | zero =>
      have hp' : P a = false := hp
      rw [List.filter_cons_of_neg (by rw [hp']; decide)]
      rfl
    | succ k =>
      have := ih k (by simpa using hk) hp
      show (a :: t.eraseIdx k).filter P = (a :: t).filter P
      rw [List.filter_cons, List.filter_cons, this]
/-- a run's timers for one event go -/
theorem drTL_z (r0 : 0 ≤ r) : ∀ (n : Nat) (k : Int) (e : ES), -1 ≤ k → (k + 1).toNat < n → (eL e (73000 + r)).length = (eL e (74000 + r)).length → k < (eL e (73000 + r)).length → (∀ (i : Nat) (v : Int), k < i → (eL e (73000 + r))[i]? = some v → v ≠ ev) → ((eL (pDrTL r ev n k e) (73000 + r)).zip (eL (pDrTL r ev n k e) (74000 + r))) = ((eL e (73000 + r)).zip (eL e (74000 + r))).filter (fun z => decide (z.1 ≠ ev)) ∧ ∀ c, c ≠ 73000 + r → c ≠ 74000 + r → eL (pDrTL r ev n k e) c = eL e c := by
  intro n
  induction n with
  | zero => intro k e k0 h1; omega
  | succ n ih =>
    intro k e k0 h1 hl hk hs
    unfold pDrTL
    by_cases c : k < 0
    · rw [if_pos c]
      refine ⟨(List.filter_eq_self.mpr fun z hz => ?_).symm, fun _ _ _ => rfl⟩
      obtain ⟨i, hi⟩ := List.getElem?_of_mem (List.of_mem_zip (a := z.1) (b := z.2) hz).1
      exact decide_eq_true (hs i _ (by omega) hi)
    · rw [if_neg c]
      have hk2 : k.toNat < (eL e (73000 + r)).length := by omega
      have hg : (eL e (73000 + r)).getD k.toNat 0 = (eL e (73000 + r))[k.toNat] := by
        rw [List.getD_eq_getElem?_getD, List.getElem?_eq_getElem hk2]
        rfl
      by_cases c2 : (eL e (73000 + r)).getD k.toNat 0 = ev
      · rw [if_pos c2]
        obtain ⟨E, hE⟩ : ∃ E, E = eLs (eLs e (73000 + r) ((eL e (73000 + r)).eraseIdx k.toNat)) (74000 + r) ((eL e (74000 + r)).eraseIdx k.toNat) := ⟨_, rfl⟩
        have z1 : eL E (73000 + r) = (eL e (73000 + r)).eraseIdx k.toNat := by rw [hE, eLs_a (by omega), eLs_e]
        have z2 : eL E (74000 + r) = (eL e (74000 + r)).eraseIdx k.toNat := by rw [hE, eLs_e]
        have zl1 : (eL E (73000 + r)).length = (eL e (73000 + r)).length - 1 := by rw [z1, List.length_eraseIdx, if_pos hk2]
        have zl2 : (eL E (74000 + r)).length = (eL e (74000 + r)).length - 1 := by rw [z2, List.length_eraseIdx, if_pos (by omega)]
        rw [← hE]
        obtain ⟨g1, g2⟩ := ih (k - 1) E (by omega) (by omega) (by omega) (by omega) (fun i v hi hv => by
          rw [z1, List.getElem?_eraseIdx_of_ge (by omega)] at hv
          exact hs (i + 1) v (by omega) hv)
        refine ⟨?_, fun c' q1 q2 => by rw [g2 c' q1 q2, hE, eLs_a q2, eLs_a q1]⟩
        rw [g1, z1, z2, zip_er]
        have hz : k.toNat < ((eL e (73000 + r)).zip (eL e (74000 + r))).length := by rw [List.length_zip]; omega
        refine flt_er _ _ hz ?_
        rw [List.getElem_zip]
        refine decide_eq_false fun hh => hh ?_
        rw [← c2, hg]
      · rw [if_neg c2]
        exact ih (k - 1) e (by omega) (by omega) hl (by omega) (fun i v hi hv => by
          by_cases ci : (i : Int) = k
          · have : i = k.toNat := by omega
            rw [this, List.getElem?_eq_getElem hk2] at hv
            rw [hg] at c2
            rw [← Option.some.inj hv]
            exact c2
          · exact hs i v (by omega) hv)
theorem drp2 {K : MM → Option (Int × MM)} (r0 : 0 ≤ r) : ∀ (n f : Nat) (i : Int) (m : MM) (e : ES), RXE m e → CN e → 0 ≤ i → e.1 8 2 < i + n → 0 < n → n ≤ f → ∃ m', fl_X12_drops_2 r ev K f i m = K m' ∧ RXE m' (pDrAL r ev n i e) ∧ SCR m m' ∧ ∀ j, m' 68 j = m 68 j := by
  intro n
  induction n with
  | zero =>
    intro f i m e h hc i0 i1 hn h2
    omega
  | succ n ih =>
    intro f i m e h hc i0 i1 hn h2
    have n8 := hc.2.1
    have e34 : m 68 34 = e.1 8 2 := h.ps.2.2.2.2.1
    obtain ⟨f, rfl⟩ : ∃ g, f = g + 1 := ⟨f - 1, by omega⟩
    unfold fl_X12_drops_2 pDrAL
    rw [lx_p, e34]
    by_cases c : i < e.1 8 2
    · obtain ⟨⟨k98, k99, k100, k101, k102, -⟩, -⟩ := h.pa i i0 c
      rw [if_pos c, if_pos c, gd_t (by omega), lx_p, k98]
      by_cases c2 : e.1 (8000 + i) 0 = r
      · rw [if_pos c2, lx_p, k99]
        by_cases c3 : e.1 (8000 + i) 1 = ev
        · rw [if_pos c3, if_pos ⟨c2, c3⟩, up_t, lx_p, w32_id (by omega) (by omega)]
          have e8 : (eS e (8000 + i) 5 2).1 8 2 = e.1 8 2 := eS_a (by omega)
          obtain ⟨m', g1, g2, g3, g4⟩ := ih f (i + 1) _ _ (h.ast (v := 2) hc i0 c (by decide)) (cn_eS hc (by omega)) (by omega) (by rw [e8]; omega) (by omega) (by omega)
          exact ⟨m', g1, g2, (SCR.ms (by decide) (by decide) (by decide) (by omega)).tr g3, fun j => by rw [g4]; exact ms_a (by decide)⟩
        · rw [if_neg c3, if_neg (fun hh => c3 hh.2), lx_p, up_t, ms_id, lx_p, w32_id (by omega) (by omega)]
          exact ih f (i + 1) m e h hc (by omega) (by omega) (by omega) (by omega)
      · rw [if_neg c2, if_neg (fun hh => c2 hh.1), lx_p, up_t, ms_id, lx_p, w32_id (by omega) (by omega)]
        exact ih f (i + 1) m e h hc (by omega) (by omega) (by omega) (by omega)
    · rw [if_neg c, if_neg c]
      exact ⟨m, rfl, h, SCR.rf, fun _ => rfl⟩
theorem mr_drC : ∀ (n : Nat) (i : Int) (e : ES), 0 ≤ i → CN e → MR e (pDrCL r ev n i e) ∧ CN (pDrCL r ev n i e) := by
  intro n
  induction n with
  | zero => intro i e _ hc; exact ⟨MR.rf, hc⟩
  | succ n ih =>
    intro i e i0 hc
    unfold pDrCL
    by_cases c : i < e.1 7 2
    · have n7 := hc.1
      rw [if_pos c]
      by_cases c2 : e.1 (7000 + i) 4 = r ∧ e.1 (7000 + i) 5 = ev
      · rw [if_pos c2]
        have s1 : MR e (if e.1 (7000 + i) 6 = 0 then (pCan i e).2 else e) ∧ CN (if e.1 (7000 + i) 6 = 0 then (pCan i e).2 else e) := by
          split
          · exact ⟨mr_can hc i0 c, hc.can i0⟩
          · exact ⟨MR.rf, hc⟩
        obtain ⟨g1, g2⟩ := ih (i + 1) (eS (if e.1 (7000 + i) 6 = 0 then (pCan i e).2 else e) (7000 + i) 4 (-1)) (by omega) (cn_eS s1.2 (by omega))
        exact ⟨(s1.1.tr (mr_eS (by omega) (by omega) (by omega) (by omega) (by omega))).tr g1, g2⟩
      · rw [if_neg c2]
        exact ih (i + 1) e (by omega) hc
    · rw [if_neg c]
      exact ⟨MR.rf, hc⟩
theorem drp96 (r0 : 0 ≤ r) : ∀ (n f : Nat) (i : Int) (m : MM) (e : ES), RXE m e → CN e → RLw e → RFw (pDrCL r ev n i e) → 0 ≤ i → e.1 7 2 < i + n → 0 < n → n ≤ f → ∃ m', fl_X12_drops_96 r ev f i m = some (0, m') ∧ RXE m' (pDrCL r ev n i e) ∧ SCR m m' := by
  intro n
  induction n with
  | zero =>
    intro f i m e h hc hl hf i0 i1 hn h2
    omega
  | succ n ih =>
    intro f i m e h hc hl hf i0 i1 hn h2
    have n7 := hc.1
    have e12 : m 68 12 = e.1 7 2 := h.ps.2.1
    obtain ⟨f, rfl⟩ : ∃ g, f = g + 1 := ⟨f - 1, by omega⟩
    unfold fl_X12_drops_96
    unfold pDrCL at hf ⊢
    rw [lx_p, e12]
    by_cases c : i < e.1 7 2
    · obtain ⟨⟨a1, a2, a3, a4, a5, a6⟩, -⟩ := h.pr.1 i i0 c
      rw [if_pos c] at hf
      rw [if_pos c, if_pos c, gd_t (by omega), lx_p, a5]
      by_cases c2 : e.1 (7000 + i) 4 = r
      · rw [if_pos c2, lx_p, a6 (by omega)]
        by_cases c3 : e.1 (7000 + i) 5 = ev
        · rw [if_pos ⟨c2, c3⟩] at hf
          rw [if_pos c3, if_pos ⟨c2, c3⟩, up_t, lx_p, ms_a (by decide), a4]
          have h1 := h.rs (A := 84) (j := 4) (v := -1) hc i0 c (by omega)
          have hc1 : CN (eS e (7000 + i) 4 (-1)) := cn_eS hc (by omega)
          have hl1 : RLw (eS e (7000 + i) 4 (-1)) := rl_eS hl (by omega) (by omega) (by omega) (by omega) (by omega)
          by_cases c4 : e.1 (7000 + i) 6 = 0
          · rw [if_pos c4] at hf
            rw [if_pos c4, if_pos c4]
            have cm : pCan i (eS e (7000 + i) 4 (-1)) = ((pCan i e).1, eS (pCan i e).2 (7000 + i) 4 (-1)) := can_cm (by omega) (by omega) (by omega) (by omega) (by omega)
            have hc2 : CN (eS (pCan i e).2 (7000 + i) 4 (-1)) := cn_eS (hc.can i0) (by omega)
            have hf2 : RFw (eS (pCan i e).2 (7000 + i) 4 (-1)) := hf.bk (mr_drC n (i + 1) _ (by omega) hc2).1
            have e7 : (eS e (7000 + i) 4 (-1)).1 7 2 = e.1 7 2 := eS_a (by omega)
            obtain ⟨m1, g1, g2, g3⟩ := h1.can (r := i) hc1 hl1 (by rw [cm]; exact hf2) i0 (by rw [e7]; exact c) (fun hh => by
              have := hh.1
              rw [eS_j (by decide)] at this
              exact this c4)
            rw [cm] at g2
            have g2' : RXE m1 (eS (pCan i e).2 (7000 + i) 4 (-1)) := g2
            have hl2 : RLw (eS (pCan i e).2 (7000 + i) 4 (-1)) := rl_eS ((mr_can hc i0 c).2.2 hl) (by omega) (by omega) (by omega) (by omega) (by omega)
            have e7b : (eS (pCan i e).2 (7000 + i) 4 (-1)).1 7 2 ≤ e.1 7 2 := by
              rw [eS_a (by omega)]
              unfold pCan
              split
              · exact Int.le_refl _
              · rw [arr_a (by decide) (by decide) (by omega) (by omega) (by decide)]
                exact Int.le_refl _
            obtain ⟨m2, q1, q2, q3⟩ := ih f (i + 1) m1 _ g2' hc2 hl2 hf (by omega) (by omega) (by omega) (by omega)
            rw [bd_t g1, lx_p, w32_id (by omega) (by omega)]
            exact ⟨m2, q1, q2, ((SCR.ms (by decide) (by decide) (by decide) (by omega)).tr g3).tr q3⟩
          · rw [if_neg c4] at hf
            rw [if_neg c4, if_neg c4, lx_p, w32_id (by omega) (by omega)]
            have e7 : (eS e (7000 + i) 4 (-1)).1 7 2 = e.1 7 2 := eS_a (by omega)
            obtain ⟨m2, q1, q2, q3⟩ := ih f (i + 1) _ _ h1 hc1 hl1 hf (by omega) (by rw [e7]; omega) (by omega) (by omega)
            exact ⟨m2, q1, q2, (SCR.ms (by decide) (by decide) (by decide) (by omega)).tr q3⟩
        · rw [if_neg (fun hh => c3 hh.2)] at hf
          rw [if_neg c3, if_neg (fun hh => c3 hh.2), lx_p, w32_id (by omega) (by omega)]
          exact ih f (i + 1) m e h hc hl hf (by omega) (by omega) (by omega) (by omega)
      · rw [if_neg (fun hh => c2 hh.1)] at hf
        rw [if_neg c2, if_neg (fun hh => c2 hh.1), lx_p, w32_id (by omega) (by omega)]
        exact ih f (i + 1) m e h hc hl hf (by omega) (by omega) (by omega) (by omega)
    · rw [if_neg c, if_neg c]
      exact ⟨m, rfl, h, SCR.rf⟩
theorem drA_cn {n : Nat} (hc : CN e) : CN (pDrAL r ev n 0 e) := hc.of fun a ha => (drA_a n 0 e (by decide) (by have := hc.2.1; omega)).2.2 a 2 (by omega)
theorem mr_drA {n : Nat} (hc : CN e) : MR e (pDrAL r ev n 0 e) := by
  have n8 := hc.2.1
  have g := (drA_a (r := r) (v := ev) n 0 e (by decide) (by omega)).2.2
  exact MR.of (g _ _ (by omega)) (fun j => g _ _ (by omega)) (fun j => g _ _ (by omega)) (g _ _ (by omega)) (fun i i0 i1 => g _ _ (by omega))
theorem mr_drT : MR e (pDrT r ev e) := MR.of (by rw [drT_1]) (fun j => by rw [drT_1]) (fun j => by rw [drT_1]) (by rw [drT_1]) (fun i _ _ => by unfold hN; rw [drT_1])
theorem CN.drT (hc : CN e) : CN (pDrT r ev e) := hc.of fun a _ => by rw [drT_1]
theorem mr_drop (hc : CN e) : MR e (pDrop r ev e) ∧ CN (pDrop r ev e) := by
  have h1 := mr_drA (r := r) (ev := ev) (n := 61) hc
  have c1 := drA_cn (r := r) (ev := ev) (n := 61) hc
  obtain ⟨h3, c3⟩ := mr_drC (r := r) (ev := ev) 31 0 (pDrT r ev (pDrAL r ev 61 0 e)) (by decide) c1.drT
  exact ⟨(h1.tr mr_drT).tr h3, c3⟩
theorem RXE.drop (h : RXE m e) (hc : CN e) (hl : RLw e) (hf : RFw (pDrop r ev e)) (r0 : 0 ≤ r) (r1 : r < e.1 7 2) (hw : TmO e r) : ∃ m', fm_X12_drops r ev m = some (0, m') ∧ RXE m' (pDrop r ev e) ∧ SCR m m' := by
  have n7 := hc.1
  have n8 := hc.2.1
  obtain ⟨m1, g1, g2, g3, g4⟩ := drp2 (K := fun m_121 => lx (m_121 68 46) fun x_129 => lx (w32 (x_129 - 1)) fun x_135 => fl_X12_drops_59 r ev (fun m_221 => fl_X12_drops_96 r ev BIG 0 m_221) BIG x_135 m_121) (ev := ev) r0 61 BIG 0 m e h hc (by decide) (by omega) (by decide) (Nat.le_of_lt (BIG_g (by decide)))
  have hT : TI m1 := g2.pm.1
  obtain ⟨m2, q1, q2, q3, q4⟩ := drp59 (r := r) (ev := ev) (K := fun m_221 => fl_X12_drops_96 r ev BIG 0 m_221) ((m1 68 46 - 1) + 1).toNat BIG (m1 68 46 - 1) m1 hT rfl (BIG_g (by have := hT.2; omega)) (by have := hT.1; omega) (by omega) (fun j j0 j1 => by omega)
  have c1 := drA_cn (r := r) (ev := ev) (n := 61) hc
  have eA := (drA_a (r := r) (v := ev) 61 0 e (by decide) (by omega)).2
  have eL1 : ∀ c, eL (pDrAL r ev 61 0 e) c = eL e c := fun c => by unfold eL; rw [eA.1]
  have e7 : (pDrAL r ev 61 0 e).1 7 2 = e.1 7 2 := eA.2 _ _ (by omega)
  obtain ⟨z1, z2⟩ := drTL_z (ev := ev) r0 ((eL (pDrAL r ev 61 0 e) (73000 + r)).length + 1 + 1) ((eL (pDrAL r ev 61 0 e) (73000 + r)).length - 1) (pDrAL r ev 61 0 e) (by omega) (by omega) (by rw [eL1, eL1]; exact hw.1) (by omega) (fun i v hi hv => by
    rw [List.getElem?_eq_none (by omega)] at hv
    exact absurd hv (by simp))
  have h2 : RXE m2 (pDrT r ev (pDrAL r ev 61 0 e)) := by
    refine g2.tm c1 r0 (by rw [e7]; exact r1) q2 (fun a u _ => by rw [drT_1]) (by rw [drT_1]; exact Int.le_refl _) z2 (fun i => ?_) q3 ?_
    · have := (drTL_T (v := ev) r0 ((eL (pDrAL r ev 61 0 e) (73000 + r)).length + 1 + 1) ((eL (pDrAL r ev 61 0 e) (73000 + r)).length - 1) (pDrAL r ev 61 0 e)).1
      exact congrFun this i
    · rw [pT_sift (e' := pDrT r ev (pDrAL r ev 61 0 e)) (e := pDrAL r ev 61 0 e) (r := r) (P := fun z => decide (¬ (z.1 = r ∧ z.2.1 = ev))) (fun i hi i0 i1 => ⟨z2 _ (by omega) (by omega), z2 _ (by omega) (by omega)⟩) ?_ (fun z hz => decide_eq_true fun hh => hz hh.1) _ (by omega)]
      · exact q4.trans ((g2.pm.2).filter _)
      · unfold pT1
        show List.map _ ((eL (pDrTL _ _ _ _ _) _).zip (eL (pDrTL _ _ _ _ _) _)) = _
        rw [z1, List.filter_map]
        congr 1
        refine List.filter_congr fun z _ => ?_
        by_cases cz : z.1 = ev
        · simp [Function.comp, cz]
        · simp [Function.comp, cz]
  have hl2 : RLw (pDrT r ev (pDrAL r ev 61 0 e)) := mr_drT.2.2 ((mr_drA hc).2.2 hl)
  have e7b : (pDrT r ev (pDrAL r ev 61 0 e)).1 7 2 = e.1 7 2 := by rw [drT_1, e7]
  obtain ⟨m3, u1, u2, u3⟩ := drp96 (ev := ev) r0 31 BIG 0 m2 _ h2 c1.drT hl2 hf (by decide) (by rw [e7b]; omega) (by decide) (Nat.le_of_lt (BIG_g (by decide)))
  refine ⟨m3, ?_, u2, (g3.tr q2.scr).tr u3⟩
  unfold fm_X12_drops
  rw [g1, lx_p, lx_p, w32_id (by have := hT.1; omega) (by have := hT.2; omega), q1]
  exact u1
end RXT2
