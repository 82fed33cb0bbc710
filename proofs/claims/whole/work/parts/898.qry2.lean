/-! TOLD FROM THE BEGINNING: what the calls that ask a telling are given. -/
section QR2
variable {m m' M : MM} {ow : Int → Int} {ad : Int → Int → Int} {e e' : ES} {S D T a b c d i j k q r v w N y o p1 p2 p3 : Int} {n : Nat} {W : Int → Int → Prop} {X : Int → Int → Int → Prop}
/-- PLAIN: without looking at commands -/
theorem fok_1 (h : HK S D T W X e) (r0 : 0 ≤ r) (r1 : r < e.1 7 2) (hw : WCod (eL e (1000 * (48 + 4 * e.1 (7000 + r) 1) + v))) (h30 : sg (qS e r v 0) 0 30 = 0) : FOK e r v 1 0 0 (hC e r) := by
  obtain ⟨⟨f1, f2, f3, f4⟩, hX, -⟩ := fok_0 h r0 r1 hw
  have hl := h.len r0 r1
  have hI := (h.2.1 r r0 r1).1.2
  have hE : EQX (pCX e r v 0 0 0) (pCX e r v 1 0 0) := ⟨fun j hj => by unfold pCX; simp only [if_neg hj], rfl, Or.inr rfl⟩
  have key : ∀ n : Nat, ∃ q, Sm (JE (pCX e r v 0 0 0)) q (sFollow (pCX e r v 1 0 0) (hC e r) n 0 s00) (sFollow (pCX e r v 0 0 0) (hC e r) n 0 s00) := fun n => eq_follow hE hX (fun i i0 i1 => (hI.1 i i0 i1).1.1) n 0 (sg s00 0 13) s00 s00 1 (bp00 hX.2.2.2.2.1) (Or.inr (fol_30 h30 n)) ⟨sg s00 0 12, sn s00, ax_id, rfl, rfl⟩ (Or.inl rfl)
  refine ⟨⟨f1.1, f1.2.1, f1.2.2⟩, f2, ?_, fun j => ?_⟩
  · obtain ⟨q, hs⟩ := key ((hC e r).toNat + 1)
    obtain ⟨p, L, h1, h2, h3⟩ := hs
    have e1 : nl (told (pCX e r v 1 0 0) (hC e r)) = nl (told (pCX e r v 0 0 0) (hC e r)) := by
      show ((sn (sFollow (pCX e r v 1 0 0) (hC e r) ((hC e r).toNat + 1) 0 s00)).length : Int) = ((sn (sFollow (pCX e r v 0 0 0) (hC e r) ((hC e r).toNat + 1) 0 s00)).length : Int)
      rw [h1, ← h3]
      rfl
    rw [e1]
    exact f3
  · obtain ⟨q, hs⟩ := key j
    rw [sm_g hs (by omega), sm_g hs (by omega)]
    exact f4 j
theorem HH.code (h : HH S D T e) (gl : GLo k e) (r0 : 0 ≤ r) (r1 : r < e.1 7 2) (v0 : 0 ≤ v) (v1 : v ≤ e.1 (48 + 4 * e.1 (7000 + r) 1 + 1) 2) : WCod (eL e (1000 * (48 + 4 * e.1 (7000 + r) 1) + v)) := by
  have hr := (h.2.1.1 r r0 r1).1
  exact (gl.2.2.2.2.2.1 _ (isT_4 hr.1 hr.2)).2 v v0 v1
theorem HH.fok (h : HH S D T e) (gl : GLo k e) (r0 : 0 ≤ r) (r1 : r < e.1 7 2) (v0 : 0 ≤ v) (v1 : v ≤ e.1 (48 + 4 * e.1 (7000 + r) 1 + 1) 2) : FOK e r v 0 0 0 (hC e r) ∧ TlP e r v := fok_0 h.1.1 r0 r1 (h.code gl r0 r1 v0 v1)
theorem HH.fok3 (h : HH S D T e) (gl : GLo k e) (r0 : 0 ≤ r) (r1 : r < e.1 7 2) : FOK e r (e.1 (7000 + r) 3) 0 0 0 (hC e r) ∧ TlP e r (e.1 (7000 + r) 3) := by
  have hr := (h.2.1.1 r r0 r1).2.2.1
  exact h.fok gl r0 r1 hr.1 (by omega)
theorem HH.fokp (h : HH S D T e) (gl : GLo k e) (r0 : 0 ≤ r) (r1 : r < e.1 7 2) (hw : w = 0 ∨ (w = 1 ∧ sg (qS e r (e.1 (7000 + r) 3) 0) 0 30 = 0)) : FOK e r (e.1 (7000 + r) 3) w 0 0 (hC e r) := by
  have hr := (h.2.1.1 r r0 r1).2.2.1
  rcases hw with rfl | ⟨rfl, g⟩
  · exact (h.fok3 gl r0 r1).1
  · exact fok_1 h.1.1 r0 r1 (h.code gl r0 r1 hr.1 (by omega)) g
/-- a run told by another version -/
theorem HH.fokm (h : HH S D T e) (gl : GLo k e) (r0 : 0 ≤ p1) (r1 : p1 < e.1 7 2) (v0 : 0 ≤ p2) (v1 : p2 < e.1 (48 + 4 * e.1 (7000 + p1) 1 + 1) 2) : FOK (pMv2 p1 p2 e) p1 p2 0 0 0 (hC e p1) ∧ TlP (pMv2 p1 p2 e) p1 p2 ∧ WRun (pMv2 p1 p2 e) p1 := by
  have n7 := h.cn.1
  have pa : ∀ a u : Int, a ≠ 7000 + p1 ∨ (u ≠ 3 ∧ u ≠ 6) → (pMv2 p1 p2 e).1 a u = e.1 a u := fun a u ha => by
    unfold pMv2
    rw [es_pt, if_neg (by omega), es_pt, if_neg (by omega)]
  have p3 : (pMv2 p1 p2 e).1 (7000 + p1) 3 = p2 := by
    unfold pMv2
    rw [eS_j (by decide)]
    exact eS_e
  have p6 : (pMv2 p1 p2 e).1 (7000 + p1) 6 = 0 := eS_e
  have eN : hN (pMv2 p1 p2 e) p1 = hN e p1 := pa _ _ (by omega)
  have eX : ∀ w, pCX (pMv2 p1 p2 e) p1 p2 w 0 0 = pCX e p1 p2 w 0 0 := fun w => pcx_to eN rfl (pa _ _ (by omega)) fun _ => rfl
  have eC : hC (pMv2 p1 p2 e) p1 = hC e p1 := by
    unfold hC
    rw [eN]
    rfl
  obtain ⟨f1, f2⟩ := h.fok gl r0 r1 v0 (by omega)
  have hw := h.wrun r0 r1
  refine ⟨?_, ?_, ?_⟩
  · unfold FOK at f1 ⊢
    rw [eX, eN]
    exact f1
  · unfold TlP qS at f2 ⊢
    rw [eX, eC]
    exact f2
  · obtain ⟨q1, q2, q3, q4, q5, q6, q7, q8, q9, q10⟩ := hw
    unfold WRun
    rw [pa _ 1 (by omega), pa _ 2 (by omega), p3, pa _ 4 (by omega), pa _ 5 (by omega), p6, pa _ 8 (by omega), pa _ 10 (by omega), pa (48 + 4 * e.1 (7000 + p1) 1 + 1) 2 (by omega), pa 7 2 (by omega), pa 9 2 (by omega), eN]
    exact ⟨q1, q2, ⟨v0, v1⟩, q4, q5, by omega, q7, q8, q9, q10⟩
theorem c_move2 (C : CE m ow ad e) (hW : WX e) (F : 0 ≤ p1 → p1 < e.1 7 2 → 0 ≤ p2 → p2 < e.1 (48 + 4 * e.1 (7000 + p1) 1 + 1) 2 → FOK (pMv2 p1 p2 e) p1 p2 0 0 0 (hC e p1)) : OKc e ad (fm_X11_move p1 p2 m) (pcMove p1 p2 e) := by
  by_cases c : 0 ≤ p1 ∧ p1 < e.1 7 2 → 0 ≤ p2 ∧ p2 < e.1 (48 + 4 * e.1 (7000 + p1) 1 + 1) 2
  · exact c_move C hW fun h1 h2 => F h1 h2 (c ⟨h1, h2⟩).1 (c ⟨h1, h2⟩).2
  · have c1 : 0 ≤ p1 ∧ p1 < e.1 7 2 := Classical.byContradiction fun g => c fun g2 => absurd g2 g
    have c2 : ¬ (0 ≤ p2 ∧ p2 < e.1 (48 + 4 * e.1 (7000 + p1) 1 + 1) 2) := fun g => c fun _ => g
    unfold fm_X11_move pcMove
    rw [C.runAt]
    obtain ⟨w1, w2, w3, -⟩ := hW.run c1.1 c1.2
    have ht := isT_4 w1.1 w1.2
    have e1 : m (ad 7 p1) 1 = e.1 (7000 + p1) 1 := C.rf c1.1 c1.2 (by decide) (by decide)
    rw [if_pos c1, if_pos c1, bx_l rfl, gd_t (C.rk c1.1 c1.2), lx_p, e1, typeAt_e C.fix, if_pos w1, bx_l rfl, C.chkVer ht, if_neg c2, if_neg c2, bx_r rfl]
    exact OKc.thr C
/-- an update finds of a run that is open -/
theorem HH.upd (h : HH S D T e) (gl : GLo k e) (r0 : 0 ≤ p1) (r1 : p1 < e.1 7 2) (hs : e.1 (7000 + p1) 6 = 0) (h30 : sg (qS e p1 (e.1 (7000 + p1) 3) 0) 0 30 = 0) : ND (qS e p1 (e.1 (7000 + p1) 3) 0) ∧ (sWfs (qS e p1 (e.1 (7000 + p1) 3) 0) p2 13 0 = true → sq (qS e p1 (e.1 (7000 + p1) 3) 0) p2 = []) := by
  obtain ⟨-, hX, -⟩ := h.fok3 gl r0 r1
  have hI := (h.1.1.2.1 p1 r0 r1).1.2
  have hl := h.1.1.len r0 r1
  have hcc := hI.cc (hN e p1).toNat (by omega)
  have hNE := h.2.2.2.2.2.2 p1 r0 r1 (fun d => d.1 hs)
  exact told_wt hX ((show HInv (pCX e p1 (e.1 (7000 + p1) 3) 0 0 0).2.1 ((pCX e p1 (e.1 (7000 + p1) 3) 0 0 0).1 0) from hI).hl rfl rfl) (show (0 : Int) ≤ hC e p1 from hcc.2.2.1) (fun d d0 d1 => hNE d d0 d1) (Int.le_refl _) h30
theorem x_update2 (h : RXE m e) (hc : CN e) (hP : P113 m) (hl : RLw e) (hf : RFw (pcUpdate p1 p2 p3 e).2) (hT : 0 ≤ p1 → p1 < e.1 7 2 → TlP e p1 (e.1 (7000 + p1) 3) ∧ WRun e p1) (hE : 0 ≤ p1 → p1 < e.1 7 2 → e.1 (7000 + p1) 6 = 0 → sg (qS e p1 (e.1 (7000 + p1) 3) 0) 0 30 = 0 → ND (qS e p1 (e.1 (7000 + p1) 3) 0) ∧ (sWfs (qS e p1 (e.1 (7000 + p1) 3) 0) p2 13 0 = true → sq (qS e p1 (e.1 (7000 + p1) 3) 0) p2 = [])) : OKp (fm_X12_update p1 p2 p3 m) cd3 (pcUpdate p1 p2 p3 e) := by
  by_cases c : 0 ≤ p1 ∧ p1 < e.1 7 2 → e.1 (7000 + p1) 6 = 0
  · exact x_update h hc hP hl hf hT fun h1 h2 => hE h1 h2 (c ⟨h1, h2⟩)
  · have c1 : 0 ≤ p1 ∧ p1 < e.1 7 2 := Classical.byContradiction fun g => c fun g2 => absurd g2 g
    have c4 : ¬ e.1 (7000 + p1) 6 = 0 := fun g => c fun _ => g
    have no : ∀ (q : Int) (n : Nat), 0 < q → cd3 n = q → OKp (fj_X12_update_68 p1 p2 p3 q m) cd3 (rT n e) := fun q n hq hn => by
      unfold fj_X12_update_68
      rw [bd_t fails_e, if_pos hq, if_neg (show ¬ (1 : Int) = 0 by decide)]
      exact OKp.no h hc hP hn
    unfold fm_X12_update pcUpdate
    rw [bp_t (rIsR h hc), if_pos c1, if_neg (show ¬ (1 : Int) = 0 by decide), if_pos c1, bp_t rIsN]
    by_cases c2 : 0 ≤ p2 ∧ p2 < 4
    · rw [if_pos c2, if_neg (show ¬ (1 : Int) = 0 by decide), if_pos c2]
      unfold fj_X12_update_20
      rw [if_neg (show ¬ (1 : Int) = 0 by decide), bp_t rIsV]
      by_cases c3 : 0 ≤ p3 ∧ p3 < 1000
      · have kr := h.pr.1 p1 c1.1 c1.2
        rw [if_pos c3, if_neg (show ¬ (1 : Int) = 0 by decide), if_pos c3, gd_t (by have := hc.1; omega), lx_p, kr.1.2.2.2.1, if_neg c4, if_neg (show ¬ (e.1 (7000 + p1) 6 = 0 ∧ hN e p1 < 100) from fun hh => c4 hh.1)]
        exact no 3 2 (by decide) rfl
      · rw [if_neg c3, if_pos (show (0 : Int) = 0 from rfl), if_neg c3]
        exact no 2 1 (by decide) rfl
    · rw [if_neg c2, if_pos (show (0 : Int) = 0 from rfl), if_neg c2]
      unfold fj_X12_update_20
      rw [if_pos (show (0 : Int) = 0 from rfl)]
      exact no 1 0 (by decide) rfl
end QR2
