/-! THE TELLING in the reference: any line, any turn. -/
section RF21
variable {m0 m m' : MM} {x : CX} {s s' : TS} {B H : Int} {a b c e i j v k h n l w p r t o rh E ty ver rc : Int} {G : Int → Nat}
theorem RG.mono {H' : Int} (h : RG m0 m x s rh E H) (hb : H ≤ H') : RG m0 m x s rh E H' := ⟨h.1.mono hb, h.2⟩
/-- what a worker saw to come of it: at a PATCH the PATCH is there -/
def KP (x : CX) (s : TS) (rc rh a : Int) : Prop := rc ≤ sg s 0 10 → sg s 0 10 < x.1 1 → rh ≤ nc x (sg s 0 12) → iAnd (iShr (sg s 0 7) a) 1 = 0 → nc x (sg s 0 12) < x.1 0 ∧ eis (x.2.1 (nc x (sg s 0 12))) 12 a 0 = true
def HY (x : CX) : Prop := ∀ i : Int, 0 ≤ i → i < x.1 0 → ek (x.2.1 i) = 12 → ey (x.2.1 i) = 0
theorem line_r (L : LB m0 m x s rh E H B k) (X : RX m0 x G r ty ver rh rc s) (hF0 : Fix m0) (hE : 12 ≤ E) (hx5 : x.1 5 ≤ 24) (hP : PI s) (hB : B < 268435456) (hov : sg s 0 9 = 0) (h118 : m0 68 118 = ew (x.2.1 (sg s 0 28)) % 1024) (hK : KI x s (sLine x k c a b s) rc) (hKP : c = 19 → KP x s rc rh a) (hy : HY x) (hnl : nl (sLine x k c a b s) < 65536) (hc : x.2.2 (sg s (2 + k) 4) = (c, a, b)) (hL : LineOk c a b) : ∃ m', fm_X12_does k m = some (0, m') ∧ RG m0 m' x (sLine x k c a b s) rh E (H + 1) := by
  have hb4 := (L.2.1.br L.2.2.2.2.1.1 L.2.2.2.2.1.2).2.1
  have hd := does_0 L.1 X.1 L.2.2.2.2.1.1 L.2.2.2.2.1.2 hb4.1 L.2.2.2.2.2.2.2.1
  have hH6 : sg s 0 6 ≤ 196608 := by
    have := L.1.2.2.2.2.2.2.2.2.2.2.2
    have := L.2.2.2.2.2.2.2.2.2
    omega
  rw [hc] at hd
  simp only at hd
  rw [hd]
  have hc1 : (x.2.2 (sg s (2 + k) 4)).1 = c := by rw [hc]
  have hc3 : (x.2.2 (sg s (2 + k) 4)).2.2 = b := by rw [hc]
  obtain ⟨z1, z2, z3, z4, z5, z6, z7, z8, z9, z10, z11, z12, z13⟩ := hL
  have up : (∃ m', dsL k (sg s (2 + k) 4) c a b m = some (0, m') ∧ RG m0 m' x (sLine x k c a b s) rh E H) → ∃ m', dsL k (sg s (2 + k) 4) c a b m = some (0, m') ∧ RG m0 m' x (sLine x k c a b s) rh E (H + 1) := fun ⟨m', g1, g2⟩ => ⟨m', g1, g2.mono (by omega)⟩
  have hcc : c = 0 ∨ c = 1 ∨ c = 2 ∨ c = 3 ∨ c = 4 ∨ c = 5 ∨ c = 6 ∨ c = 7 ∨ c = 8 ∨ c = 9 ∨ c = 10 ∨ c = 11 ∨ c = 12 ∨ c = 13 ∨ c = 14 ∨ c = 15 ∨ c = 16 ∨ c = 17 ∨ c = 18 ∨ c = 19 ∨ c = 20 ∨ c = 21 ∨ c = 22 ∨ c = 23 := by omega
  rcases hcc with rfl | rfl | rfl | rfl | rfl | rfl | rfl | rfl | rfl | rfl | rfl | rfl | rfl | rfl | rfl | rfl | rfl | rfl | rfl | rfl | rfl | rfl | rfl | rfl
  · exact up (rl0 L z3 (by omega))
  · exact up (rl1 L z3 (by omega) z5 (by omega))
  · exact up (rl2 L X hK hc1 hc3 z3 (by omega) z5 (by omega))
  · exact up (rl3 L X hK hc1 z3 z4)
  · exact up (rl4 L hc3)
  · exact up (rl5 L X hK hc1 hc3 z3 (by omega) z5 (by omega))
  · exact up (rl6 L z3 (by omega))
  · exact up (rl7 L)
  · exact rl8 L hx5 hE z3 (by omega)
  · exact up (rl9 L)
  · exact rl10 L hx5 hE hP.1.si hP.1.ri z3 (by omega)
  · exact up (rl11 L X hF0 hE hx5 hP.1.si hP.1.ab hP.2 hP.1.ri hov hH6 hK hnl)
  · exact rl12 L z3 (by omega)
  · exact up (rl13 L)
  · exact rl14 L z3 (by omega) z5 (by omega)
  · exact up (rl15 L X hK)
  · exact up (rl16 L hE X hK)
  · exact up (rl17 L X hK)
  · exact up (rl18 L X hK z3 (by omega))
  · exact up (rl19 L X hK z3 (by omega) (hKP rfl) hy)
  · exact up (rl20 L h118 z3 (by omega))
  · exact up (rl21 L hB)
  · exact up (rl22 L hE hx5 hB hov X hK)
  · exact up (rl23 L X hK z3 (by omega))
theorem end_r2 (h : RR m0 m x s rh E H) (hW : SW x s B) (h30 : sg s 0 30 = 0) (hA : A2 x s rh) (k0 : 0 ≤ k) (k1 : k < sg s 0 5) (hn : nl s < 65536) (hE : 12 ≤ E) (X : RX m0 x G r ty ver rh rc s) (hK : KI x s (sEnd x k s) rc) : ∃ m', fm_X12_endsBranch k m = some (0, m') ∧ RG m0 m' x (sEnd x k s) rh E H := by
  have h5 := hW.2.2.2.2.2.2.2.1
  have hv := v_lt (a := 0) hW (by decide) (by decide)
  have ev : m 142 0 = sg s 1 0 := h.2.2.1 0 (by decide) (by decide)
  unfold fm_X12_endsBranch
  simp only [lx_p]
  rw [gd_t ⟨k0, by omega⟩, (h.br k0 k1).1]
  by_cases c : sg s (2 + k) 0 = 0
  · have hd : sEnd x k s = sEndR x 14 (sg s 1 0) s := by
      unfold sEnd
      rw [if_pos c]
      rfl
    rw [hd] at hK ⊢
    obtain ⟨m', f1, f2⟩ := ends_r h X hW h30 hA hK (by decide) (by decide) hv.1 (by omega) hn
    exact ⟨m', by rw [if_pos c, ev, bd_t f1], f2⟩
  · have hd : sEnd x k s = sRem k s := by
      unfold sEnd
      rw [if_neg c]
    rw [hd]
    obtain ⟨m', f1, f2⟩ := rrem h hE hW k0 k1
    exact ⟨m', by rw [if_neg c, bd_t f1], Or.inl ⟨by rw [u_rem]; exact h30, f2⟩, hA.to (kp_rem (Or.inl rfl)) (rem_o (Or.inl ⟨rfl, by decide, by decide⟩))⟩
/-- a branch that goes on: its end, one step too many, or its line -/
theorem walk1_r {K : Int → MM → Option (Int × MM)} (h : RR m0 m x s rh E (H + sg s 0 29)) (X : RX m0 x G r ty ver rh rc s) (hF0 : Fix m0) (hE : 12 ≤ E) (hx5 : x.1 5 ≤ 24) (hP : PI s) (hW : SW x s B) (hB : B < 268435456) (hg : goes s = true) (hA : A2 x s rh) (h118 : m0 68 118 = ew (x.2.1 (sg s 0 28)) % 1024) (k0 : 0 ≤ k) (k1 : k < sg s 0 5) (h7 : sg s (2 + k) 7 = 0) (hK : KI x s (sTurn x k s) rc) (hKP : sg s (2 + k) 4 < x.1 5 → sg s 0 29 < 60 → (x.2.2 (sg s (2 + k) 4)).1 = 19 → KP x s rc rh (x.2.2 (sg s (2 + k) 4)).2.1) (hy : HY x) (hnl : nl (sTurn x k s) < 65536) (hH : H + 60 < 196608) : ∃ m1, (lx (m 144 k) fun x_44 => lx (m 68 88) fun x_57 => gd (0 ≤ x_57 ∧ x_57 < 30) <| lx (m 80 x_57) fun x_63 => lx (m 68 89) fun x_70 => gd (0 ≤ w32 ((w32 (5 * x_63)) + x_70) ∧ w32 ((w32 (5 * x_63)) + x_70) < 20) <| lx (m 70 (w32 ((w32 (5 * x_63)) + x_70))) fun x_78 => if x_44 < x_78 then lx (m 68 113) fun x_84 => if x_84 = 60 then bd (fm_X12_spins m) fun x_165 m_166 => K x_165 m_166 else up m 68 113 (w32 (x_84 + 1)) fun m_96 => bd (fm_X12_does k m_96) fun x_104 m_105 => K x_104 m_105 else bd (fm_X12_endsBranch k m) fun x_177 m_178 => K x_177 m_178) = K 0 m1 ∧ RG m0 m1 x (sTurn x k s) rh E (H + sg (sTurn x k s) 0 29) := by
  obtain ⟨h30, hov⟩ := goes_s hg
  have h5 := hW.2.2.2.2.2.2.2.1
  have h29 := hW.2.2.2.2.2.2.1
  have hb4 := (hW.br k0 k1).2.1
  have hN := X.1.2.2.2.2.2.2.2.2.1
  obtain ⟨⟨r1, r2, r3⟩, ⟨r4, r5, r6⟩, ⟨r7, r8, r9⟩, r10, r11, -⟩ := X.1.to h.1
  have e144 := (h.br k0 k1).2.1
  have e113 : m 68 113 = sg s 0 29 := h.2.1.2.2.2.2.2.1
  have hnl0 : nl s < 65536 := Int.lt_of_le_of_lt nl_turn hnl
  simp only [lx_p]
  rw [e144, r1, gd_t ⟨r2, r3⟩, r7, r4, w32_id (z := 5 * ty) (by omega) (by omega), w32_id (z := 5 * ty + ver) (by omega) (by omega), gd_t ⟨by omega, by omega⟩, r10, e113]
  unfold sTurn at hK hnl ⊢
  rw [if_neg (show ¬ sg s (2 + k) 7 ≠ 0 from fun hh => hh h7)] at hK hnl ⊢
  by_cases cl : x.1 5 ≤ sg s (2 + k) 4
  · rw [if_pos cl] at hK hnl ⊢
    rw [if_neg (show ¬ sg s (2 + k) 4 < x.1 5 by omega)]
    obtain ⟨m', f1, f2⟩ := end_r2 h hW h30 hA k0 k1 hnl0 hE X hK
    refine ⟨m', by rw [bd_t f1], ?_⟩
    have e : sg (sEnd x k s) 0 29 = sg s 0 29 := kr_end (by unfold KR; omega)
    rw [e]
    exact f2
  · rw [if_neg cl] at hK hnl ⊢
    rw [if_pos (show sg s (2 + k) 4 < x.1 5 by omega)]
    by_cases c6 : 60 ≤ sg s 0 29
    · rw [if_pos c6, if_pos (show sg s 0 29 = 60 by omega)]
      refine ⟨mset (mset m 68 114 1) 68 115 (-1), ?_, ?_, hA.stk⟩
      · unfold fm_X12_spins
        rw [up_t, up_t, bd_t rfl]
      · have e : sg (sStuck s (-1)) 0 29 = sg s 0 29 := kr_stuck (by unfold KR; omega)
        rw [e]
        exact RE.stk h
    · rw [if_neg c6] at hK hnl ⊢
      rw [if_neg (show ¬ sg s 0 29 = 60 by omega), w32_id (by omega) (by omega), up_t]
      have v1 := (hW.s29 (v := sg s 0 29 + 1) (by omega) (by omega)).s0 (j := 40) (v := sg s 0 40 + 1) (by decide) (by decide) (by decide) (by decide) (by decide) (Or.inl (by decide))
      have es : ∀ p q : Int, (p ≠ 0 ∨ (q ≠ 29 ∧ q ≠ 40)) → sg (st (st s 0 29 (sg s 0 29 + 1)) 0 40 (sg s 0 40 + 1)) p q = sg s p q := fun p q hh => by rw [st_g, if_neg (by omega), st_g, if_neg (by omega)]
      have e29 : sg (st (st s 0 29 (sg s 0 29 + 1)) 0 40 (sg s 0 40 + 1)) 0 29 = sg s 0 29 + 1 := by rw [st_g, if_neg (by omega), st_g, if_pos ⟨rfl, rfl⟩]
      have w1 : RR m0 (mset m 68 113 (sg s 0 29 + 1)) x (st (st s 0 29 (sg s 0 29 + 1)) 0 40 (sg s 0 40 + 1)) rh E (H + sg s 0 29) := (h.p0 (by omega)).s40
      have p1 : PI (st (st s 0 29 (sg s 0 29 + 1)) 0 40 (sg s 0 40 + 1)) := hP.of hW.2.2.2.2.2.1.1 fun a i hh => es a i (by omega)
      have hL := X.2.2.2.2.2 (sg s (2 + k) 4) hb4.1 (by omega)
      have hLB : LB m0 (mset m 68 113 (sg s 0 29 + 1)) x (st (st s 0 29 (sg s 0 29 + 1)) 0 40 (sg s 0 40 + 1)) rh E (H + sg s 0 29) B k := ⟨w1, v1, by rw [es _ _ (by omega)]; exact h30, (hA.st (by omega)).st (by omega), ⟨k0, by rw [es _ _ (by omega)]; exact k1⟩, by rw [es _ _ (by omega)]; exact h7, by rw [es _ _ (by omega)]; exact hP.2 k k0 k1, by rw [es _ _ (by omega)]; omega, hnl0, by omega⟩
      have hX1 := X.to (s' := st (st s 0 29 (sg s 0 29 + 1)) 0 40 (sg s 0 40 + 1)) (es 0 10 (by omega))
      have e29L : sg (sLine x k (x.2.2 (sg s (2 + k) 4)).1 (x.2.2 (sg s (2 + k) 4)).2.1 (x.2.2 (sg s (2 + k) 4)).2.2 (st (st s 0 29 (sg s 0 29 + 1)) 0 40 (sg s 0 40 + 1))) 0 29 = sg s 0 29 + 1 := by
        rw [kr_line hL.1 hL.2.1 (by rw [es _ _ (by omega)]; exact h5.1) k0 (by unfold KR; omega), e29]
      obtain ⟨m', f1, f2⟩ := line_r (c := (x.2.2 (sg s (2 + k) 4)).1) (a := (x.2.2 (sg s (2 + k) 4)).2.1) (b := (x.2.2 (sg s (2 + k) 4)).2.2) hLB hX1 hF0 hE hx5 p1 hB (by rw [es _ _ (by omega)]; exact hov) (by rw [es 0 28 (by omega)]; exact h118) (fun g1 g2 => by rw [es _ _ (by omega)] at g1 g2; exact hK g1 g2) (fun g19 g1 g2 g4 g3 => by
        rw [es _ _ (by omega)] at g1 g2 g3 g4
        rw [es _ _ (by omega)]
        exact hKP (by omega) (by omega) g19 g1 g2 g4 g3) hy hnl (by rw [es _ _ (by omega)]) hL
      refine ⟨m', by rw [bd_t f1], ?_⟩
      rw [e29L]
      exact f2.mono (by omega)
end RF21
