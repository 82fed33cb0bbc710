/-! THE TELLING in the reference: line 19. -/
section RF17
variable {m0 m m' : MM} {x : CX} {s s' : TS} {B H : Int} {a b c e i j v k h n l w p r t o rh E ty ver rc : Int} {G : Int → Nat}
theorem st_comm (hh : a ≠ b ∨ i ≠ j) : st (st s a i v) b j w = st (st s b j w) a i v := by
  refine Prod.ext ?_ rfl
  funext p q
  show mset (mset s.1 a i v) b j w p q = mset (mset s.1 b j w) a i v p q
  unfold mset
  by_cases q1 : p = b ∧ q = j
  · rw [if_pos q1, if_neg (by omega), if_pos q1]
  · rw [if_neg q1, if_neg q1]
theorem cmd_st7 : sCmd x k a b (st s 0 7 v) = ((sCmd x k a b s).1, st (sCmd x k a b s).2 0 7 v) := by
  have e12 : sg (st s 0 7 v) 0 12 = sg s 0 12 := by rw [st_g, if_neg (by decide)]
  have e10 : sg (st s 0 7 v) 0 10 = sg s 0 10 := by rw [st_g, if_neg (by decide)]
  have es : sSeen x (st s 0 7 v) = sSeen x s := by unfold sSeen; rw [e10]
  have en : sn (st s 0 7 v) = sn s := rfl
  have c1 : ∀ w, st (st s 0 7 v) 0 12 w = st (st s 0 12 w) 0 7 v := fun w => st_comm (Or.inr (by decide))
  have c2 : ∀ (s : TS) e, sStuck (st s 0 7 v) e = st (sStuck s e) 0 7 v := fun s e => by
    unfold sStuck
    rw [st_comm (a := 0) (i := 7) (b := 0) (j := 30) (Or.inr (by decide)), st_comm (a := 0) (i := 7) (b := 0) (j := 31) (Or.inr (by decide))]
  have c3 : ∀ (s : TS) L, stn (st s 0 7 v) L = st (stn s L) 0 7 v := fun _ _ => rfl
  unfold sCmd
  rw [e12, e10, es, en]
  simp only [c1, c2, c3]
  by_cases q1 : nc x (sg s 0 12) < sSeen x s
  · rw [if_pos q1, if_pos q1]
    by_cases q2 : x.1 4 = 1 ∨ eis (x.2.1 (nc x (sg s 0 12))) k a b = true
    · rw [if_pos q2, if_pos q2]
      rw [st_comm (a := 0) (i := 7) (b := 0) (j := 12) (Or.inr (by decide))]
    · rw [if_neg q2, if_neg q2]
  · rw [if_neg q1, if_neg q1]
    split <;> rfl
theorem patch_line : sLine x k 19 a b s = if iAnd (iShr (sg s 0 7) a) 1 = 0 then (if (nc x (sg s 0 12) < sSeen x s ∧ eis (x.2.1 (nc x (sg s 0 12))) 12 a 0 = true) ∨ (¬ nc x (sg s 0 12) < sSeen x s ∧ ¬ sg s 0 10 < x.1 1) then sGo k (sg s (2 + k) 4 + 1) (sCmd x 12 a 0 (st s 0 7 (iOr (sg s 0 7) (iShl 1 a)))).2 else sGo k b s) else sGo k (sg s (2 + k) 4 + 1) s := by
  rw [sl19]
  unfold sPatch
  by_cases q : iAnd (iShr (sg s 0 7) a) 1 = 0
  · rw [if_pos q, if_pos q]
    by_cases q2 : (nc x (sg s 0 12) < sSeen x s ∧ eis (x.2.1 (nc x (sg s 0 12))) 12 a 0 = true) ∨ (¬ nc x (sg s 0 12) < sSeen x s ∧ ¬ sg s 0 10 < x.1 1)
    · rw [if_pos q2, if_pos q2]
      simp only [if_true]
    · rw [if_neg q2, if_neg q2]
      simp only [Bool.false_eq_true, if_false]
  · rw [if_neg q, if_neg q]
    simp only [if_true]
theorem rl19 (L : LB m0 m x s rh E H B k) (X : RX m0 x G r ty ver rh rc s) (hK : KI x s (sLine x k 19 a b s) rc) (a0 : 0 ≤ a) (a9 : a ≤ 9) (hKP : rc ≤ sg s 0 10 → sg s 0 10 < x.1 1 → rh ≤ nc x (sg s 0 12) → iAnd (iShr (sg s 0 7) a) 1 = 0 → nc x (sg s 0 12) < x.1 0 ∧ eis (x.2.1 (nc x (sg s 0 12))) 12 a 0 = true) (hy : ∀ i : Int, 0 ≤ i → i < x.1 0 → ek (x.2.1 i) = 12 → ey (x.2.1 i) = 0) : ∃ m', dsL k (sg s (2 + k) 4) 19 a b m = some (0, m') ∧ RG m0 m' x (sLine x k 19 a b s) rh E H := by
  obtain ⟨h, hW, h30, hA, ⟨k0, k1⟩, h7, h9, hl, hn, hH⟩ := L
  have hb4 := (hW.br k0 k1).2.1
  have h5 := hW.2.2.2.2.2.2.2.1
  have h10 := hW.2.2.2.2.2.2.2.2.2
  have e110 : m 68 110 = sg s 0 7 := h.2.1.2.2.1
  have hN := X.1.2.2.2.2.2.2.2.2.1
  rw [ds19, dm19]
  rw [patch_line] at hK ⊢
  unfold fm_X12_patches
  rw [lx_p, e110]
  by_cases q0 : ¬ iAnd (iShr (sg s 0 7) a) 1 = 0
  · have hb1 : iAnd (iShr (sg s 0 7) a) 1 = 1 := (iAnd1 (u := iShr (sg s 0 7) a)).resolve_left q0
    rw [if_neg q0, if_neg q0]
    unfold fj_X12_patches_116
    simp only [lx_p, up_t]
    rw [e110, if_pos hb1, gd_t ⟨k0, by omega⟩, (h.br k0 k1).2.1, w32_id (by omega) (by omega)]
    exact ⟨mset m 144 k (sg s (2 + k) 4 + 1), by rw [bd_t rfl, bd_t rfl], Or.inl ⟨by rw [u_go]; exact h30, h.nx k0 k1 h7 h9⟩, hA.go k0⟩
  · have q0 := Classical.not_not.mp q0
    rw [if_pos q0] at hK ⊢
    rw [if_pos q0]
    obtain ⟨p1, p2, p3, p4, p5⟩ := h.2.2.2.2.2.2.2.2.1 h30
    have hncb := nc_b hW.1.2
    obtain ⟨m1, z, f1, f2, f3, f4, f5⟩ := rnext X.1 h.1 p1.1 p1.2
    have hz : 0 ≤ z ∧ z ≤ x.1 0 := by
      have hb1 := nc_b (x := x) p1.2
      rcases f3 with ⟨g1, g2⟩ | ⟨g1, g2, g3⟩ <;> omega
    have ss : st s 0 12 (sg s 0 12) = s := Prod.ext mset_same rfl
    have h1 : RR m0 m1 x s rh E H := by
      have := h.met (v := z) (w := sg s 0 12) (fun _ => by
        rw [ms_e, ms_j (by decide), ss, f4]
        exact ⟨hz, p2, p3, p4, p5⟩)
      rw [ss, ← f2] at this
      exact this
    have R1 := X.1.to h1.1
    have hseen := X.2.1.seen (s := s) h10
    have hMA := X.2.1
    have e117 : m1 68 117 = sg s 0 10 + 1 := by
      rw [h1.1 68 117 (fun hh => by rcases hh with ⟨-, g⟩ | ⟨g, -⟩ <;> omega)]
      exact X.2.2.1
    -- the reference's question
    have hq : (bd (fm_X12_nextCommand m) fun x_59 m_60 => lx (m_60 68 124) fun x_80 => if x_59 < x_80 then fj_X12_patches_31 k a b x_59 1 m_60 else fj_X12_patches_31 k a b x_59 0 m_60) = if (z < rh ∧ ek (x.2.1 z) = 12 ∧ ex (x.2.1 z) = a) ∨ (¬ z < rh ∧ rc < sg s 0 10 + 1) then fj_X12_patches_95 k a b m1 else fj_X12_patches_116 k a b m1 := by
      have w1 : fj_X12_patches_72 k a b 1 0 m1 = fj_X12_patches_116 k a b m1 := by
        unfold fj_X12_patches_72
        rw [if_pos (show (0 : Int) = 0 from rfl), if_neg (show ¬ ((1 : Int) = 0) by decide)]
      have w2 : ∀ y, fj_X12_patches_72 k a b y 1 m1 = fj_X12_patches_95 k a b m1 := fun y => by
        unfold fj_X12_patches_72
        rw [if_neg (show ¬ ((1 : Int) = 0) by decide)]
      have w3 : fj_X12_patches_72 k a b 0 0 m1 = if rc < sg s 0 10 + 1 then fj_X12_patches_95 k a b m1 else fj_X12_patches_116 k a b m1 := by
        unfold fj_X12_patches_72
        rw [if_pos (show (0 : Int) = 0 from rfl), if_pos (show (0 : Int) = 0 from rfl), lx_p, lx_p, e117, R1.2.2.2.2.2.1]
      have w4 : fj_X12_patches_31 k a b z 0 m1 = fj_X12_patches_72 k a b 0 0 m1 := by
        unfold fj_X12_patches_31
        rw [if_pos (show (0 : Int) = 0 from rfl)]
      rw [bd_t f1, lx_p, R1.2.2.2.2.2.2.1.1]
      by_cases q1 : z < rh
      · have hzN : z < x.1 0 := by have := hMA.1.2; omega
        rw [if_pos q1]
        unfold fj_X12_patches_31
        rw [if_neg (show ¬ ((1 : Int) = 0) by decide), lx_p, R1.1.1, bp_t (rkind R1 hz.1 hzN), bp_t (rx R1 hz.1 hzN), w1, w2]
        by_cases q2 : ek (x.2.1 z) = 12
        · by_cases q3 : ex (x.2.1 z) = a
          · rw [if_pos q2, if_pos q3, if_pos (show ((z < rh ∧ ek (x.2.1 z) = 12 ∧ ex (x.2.1 z) = a) ∨ (¬ z < rh ∧ rc < sg s 0 10 + 1)) from Or.inl ⟨q1, q2, q3⟩)]
          · rw [if_pos q2, if_neg q3, if_neg (show ¬ ((z < rh ∧ ek (x.2.1 z) = 12 ∧ ex (x.2.1 z) = a) ∨ (¬ z < rh ∧ rc < sg s 0 10 + 1)) from fun g => g.elim (fun g => q3 g.2.2) (fun g => g.1 q1))]
        · rw [if_neg q2, if_neg (show ¬ ((z < rh ∧ ek (x.2.1 z) = 12 ∧ ex (x.2.1 z) = a) ∨ (¬ z < rh ∧ rc < sg s 0 10 + 1)) from fun g => g.elim (fun g => q2 g.2.1) (fun g => g.1 q1))]
      · rw [if_neg q1, w4, w3]
        by_cases q2 : rc < sg s 0 10 + 1
        · rw [if_pos q2, if_pos (show ((z < rh ∧ ek (x.2.1 z) = 12 ∧ ex (x.2.1 z) = a) ∨ (¬ z < rh ∧ rc < sg s 0 10 + 1)) from Or.inr ⟨q1, q2⟩)]
        · rw [if_neg q2, if_neg (show ¬ ((z < rh ∧ ek (x.2.1 z) = 12 ∧ ex (x.2.1 z) = a) ∨ (¬ z < rh ∧ rc < sg s 0 10 + 1)) from fun g => g.elim (fun g => q1 g.1) (fun g => q2 g.2))]
    rw [hq]
    generalize hc : nc x (sg s 0 12) = c at *
    have hiff : ((c < sSeen x s ∧ eis (x.2.1 c) 12 a 0 = true) ∨ (¬ c < sSeen x s ∧ ¬ sg s 0 10 < x.1 1)) ↔ ((z < rh ∧ ek (x.2.1 z) = 12 ∧ ex (x.2.1 z) = a) ∨ (¬ z < rh ∧ rc < sg s 0 10 + 1)) := by
      obtain ⟨a1, a2, a3, a4, a5⟩ := hMA
      by_cases c1 : c < rh
      · have hzc : z = c := by
          have := p3 c1
          rcases f3 with ⟨g1, g2⟩ | ⟨g1, g2, g3⟩ <;> omega
        subst hzc
        have hcs : z < sSeen x s := by
          rcases hseen with ⟨-, g⟩ | g <;> omega
        have he : eis (x.2.1 z) 12 a 0 = true ↔ (ek (x.2.1 z) = 12 ∧ ex (x.2.1 z) = a) := by
          unfold eis
          constructor
          · intro g
            simp at g
            exact ⟨g.1, g.2.1⟩
          · intro g
            simp [g.1, g.2, hy z hz.1 (by omega) g.1]
        rw [he]
        constructor
        · rintro (⟨-, g⟩ | ⟨g, -⟩)
          · exact Or.inl ⟨c1, g⟩
          · exact absurd hcs g
        · rintro (⟨-, g⟩ | ⟨g, -⟩)
          · exact Or.inl ⟨hcs, g⟩
          · exact absurd c1 g
      · have hzr : ¬ z < rh := by
          have := p4 (by omega)
          rcases f3 with ⟨g1, g2⟩ | ⟨g1, g2, g3⟩ <;> omega
        constructor
        · intro g
          refine Or.inr ⟨hzr, ?_⟩
          rcases g with ⟨g1, -⟩ | ⟨-, g⟩
          · rcases hseen with ⟨g2, g3⟩ | g2
            · omega
            · rcases a5 with ⟨b1, b2, b3⟩ | ⟨b1, b2⟩
              · omega
              · by_cases q : sg s 0 10 < rc
                · have : sSeen x s = rh := by
                    unfold sSeen
                    rw [if_pos (by omega)]
                    exact b2
                  omega
                · omega
          · omega
        · rintro (⟨g, -⟩ | ⟨-, g⟩)
          · exact absurd g hzr
          · by_cases q : sg s 0 10 < x.1 1
            · obtain ⟨k1, k2⟩ := hKP (by omega) q (by omega) q0
              refine Or.inl ⟨?_, k2⟩
              rcases hseen with ⟨g2, -⟩ | g2 <;> omega
            · have hNc : rh < x.1 0 → x.1 0 ≤ c := fun g2 => by
                have := hA (by omega) g2
                rw [hc] at this
                exact this
              refine Or.inr ⟨?_, q⟩
              rcases hseen with ⟨g2, -⟩ | g2
              · omega
              · by_cases q3 : rh < x.1 0
                · have := hNc q3
                  omega
                · omega
    by_cases hP : (c < sSeen x s ∧ eis (x.2.1 c) 12 a 0 = true) ∨ (¬ c < sSeen x s ∧ ¬ sg s 0 10 < x.1 1)
    · rw [if_pos hP] at hK ⊢
      rw [if_pos (hiff.mp hP)]
      rw [cmd_st7] at hK ⊢
      obtain ⟨m2, y, c1, c2, c3, c4⟩ := rcmd (k := 12) (a := a) (b := 0) h1 X.1 X.2.1 hW h30 X.2.2.1 hA (fun g1 g2 => by
        have := hK g1 g2
        have e : sg (sGo k (sg s (2 + k) 4 + 1) (st (sCmd x 12 a 0 s).2 0 7 (iOr (sg s 0 7) (iShl 1 a)))) 0 30 = sg (sCmd x 12 a 0 s).2 0 30 := by rw [u_go, u_st (Or.inr (by decide))]
        exact e.symm.trans this) (by decide) (by decide) a0 (by omega) (by decide) (by decide) hn
      have cg : ∀ p q : Int, (p ≠ 0 ∨ (q ≠ 12 ∧ q ≠ 30 ∧ q ≠ 31)) → sg (sCmd x 12 a 0 s).2 p q = sg s p q := fun p q hh => cmd_g hh
      have hfun : (bd (fj_X12_patches_95 k a b m1) fun x_297 m_298 => some ((0 : Int), m_298)) = some (0, mset (mset m2 68 110 (iOr (m2 68 110) (iShl 1 a))) 144 k (w32 (m2 144 k + 1))) := by
        unfold fj_X12_patches_95 fj_X12_patches_116
        rw [bd_t c1]
        simp only [lx_p, up_t]
        rw [ms_e, if_pos (bit_set a0 a9), gd_t ⟨k0, by omega⟩, show mset m2 68 110 (iOr (m2 68 110) (iShl 1 a)) 144 k = m2 144 k from ms_a (by decide), bd_t rfl]
      refine ⟨mset (mset m2 68 110 (iOr (m2 68 110) (iShl 1 a))) 144 k (w32 (m2 144 k + 1)), by rw [bd_id]; exact hfun, ?_⟩
      show RG m0 _ x (sGo k (sg s (2 + k) 4 + 1) (st (sCmd x 12 a 0 s).2 0 7 (iOr (sg s 0 7) (iShl 1 a)))) rh E H
      refine ⟨?_, (c4.st (by omega)).go k0⟩
      rcases c2 with ⟨g30, g⟩ | ⟨g1, g2, g3, g4, g5, g6⟩
      · have k1' : k < sg (sCmd x 12 a 0 s).2 0 5 := by rw [cg 0 5 (by omega)]; exact k1
        rw [(g.br k0 k1').2.1, cg _ 4 (by omega), w32_id (by omega) (by omega), show m2 68 110 = sg s 0 7 from g.2.1.2.2.1.trans (cg 0 7 (by omega))]
        exact Or.inl ⟨by rw [u_go, u_st (Or.inr (by decide))]; exact g30, (g.p0 (by omega)).nx k0 (by rw [st_g, if_neg (by omega)]; exact k1') (by rw [st_g, if_neg (by omega), cg _ 7 (by omega)]; exact h7) (by rw [st_g, if_neg (by omega), cg _ 9 (by omega)]; exact h9)⟩
      · exact Or.inr ⟨(g1.ms (mtb68 (by omega))).ms (mtb1 (by decide) (by decide) k0), by rw [u_go, u_st (Or.inr (by decide))]; exact g2, by rw [ms_a (by decide), ms_j (by decide)]; exact g3, by rw [ms_a (by decide), ms_j (by decide), go_g, if_neg (by omega), if_neg (by omega), st_g, if_neg (by omega)]; exact g4, by rw [ms_a (by decide), ms_j (by decide)]; exact g5, by rw [ms_a (by decide), ms_j (by decide)]; exact g6⟩
    · rw [if_neg hP] at hK ⊢
      rw [if_neg (fun g => hP (hiff.mpr g))]
      have e1 : m1 68 110 = sg s 0 7 := h1.2.1.2.2.1
      unfold fj_X12_patches_116
      simp only [lx_p, up_t]
      rw [e1, q0, if_neg (by decide), gd_t ⟨k0, by omega⟩]
      exact ⟨_, rfl, Or.inl ⟨by show sg (sGo k b s) 0 30 = 0; rw [u_go]; exact h30, h1.nx k0 k1 h7 h9⟩, hA.go k0⟩
end RF17
