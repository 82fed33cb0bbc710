/-! THE TELLING, plain: a potential, IV: a line, a turn. -/
section PTD
variable {x : CX} {s s' s1 s2 : TS} {B : Int} {a b c d e i j v k h l w p r t o q u kd ω κ : Int} {f : Int → Int → Int → Int} {g : Int → Int → Int → Int → Int} {E : Int → Ev} {L : List (Int × Int × Int)} {F T Z : Prop}
/-- a command that is waited for -/
theorem pz_cw (C : PC x f g ω κ F T Z) (hZ : Z) (hH : QH x B F T s) (hs : x.1 3 ≤ x.1 0) (h4 : x.1 4 ≠ 1) (k0 : 0 ≤ k) (k1 : k < sg s 0 5) (hw : sg s (2 + k) 7 = 0) (hl : sg s (2 + k) 4 < x.1 5) (hk : (w = 1 ∧ (kd = 8 ∨ kd = 9 ∨ kd = 10)) ∨ (w = 2 ∧ kd = 8)) (ha : CmA kd a b) (h30 : sg (match sCmd x kd a b s with | (r, s1) => sWait k w r s1) 0 30 = 0) : PZ f g ω κ x (match sCmd x kd a b s with | (r, s1) => sWait k w r s1) ≤ PZ f g ω κ x s + κ := by
  have h5 := hH.n5
  have hb := hH.ln k0 k1
  have hu : sg (sCmd x kd a b s).2 0 30 = 0 := by
    have : sg (sWait k w (sCmd x kd a b s).1 (sCmd x kd a b s).2) 0 30 = 0 := h30
    rw [u_wait] at this
    exact this
  obtain ⟨z0, z1, z2, z3, z4⟩ := PZ_cmd (f := f) (g := g) (ω := ω) (κ := κ) hH hs h4 (by omega) (by omega) hu
  show PZ f g ω κ x (sWait k w (sCmd x kd a b s).1 (sCmd x kd a b s).2) ≤ _
  have e5 : sg (sCmd x kd a b s).2 0 5 = sg s 0 5 := cmd_g (by omega)
  have ep : pv f (sCmd x kd a b s).2 k = f 0 0 (sg s (2 + k) 4) := by rw [pv_same (s := s) e5 (cmd_g (Or.inl (by omega))) (cmd_g (Or.inl (by omega))) (cmd_g (Or.inl (by omega))), pv_w C k1 hw]
  rw [PZ_wait k0 (by omega) (by omega), ep, cmd_g (Or.inl (by omega)), z1]
  have hc := C.2.2.2.2.2.2.1 (sCmd x kd a b s).1 (sg s (2 + k) 4) kd a b z2 z3 z4.1 hb.1 hl ha
  rcases hk with ⟨rfl, hk⟩ | ⟨rfl, rfl⟩
  · have := hc.1 hZ hk; omega
  · have := hc.2.1 hZ rfl; omega
theorem pz_line (C : PC x f g ω κ F T Z) (hZ : c = 2 ∨ c = 3 ∨ c = 5 ∨ c = 15 → Z) (hH : QH x B F T s) (hs : x.1 3 ≤ x.1 0) (h4 : x.1 4 ≠ 1) (hl2 : x.1 5 ≤ 24) (h9 : sg s 0 9 = 0) (k0 : 0 ≤ k) (k1 : k < sg s 0 5) (hw : sg s (2 + k) 7 = 0) (hl : sg s (2 + k) 4 < x.1 5) (hL : LineOk c a b) (h30 : sg (sLine x k c a b s) 0 30 = 0) : PZ f g ω κ x (sLine x k c a b s) ≤ PZ f g ω κ x s + κ := by
  have h5 := hH.n5
  have hb4 := hH.ln k0 k1
  have hpv := pv_w C k1 hw
  obtain ⟨c0, c1, a0, a1, b0, b1, q1, q2, q3, q4, q5, q6, q7⟩ := hL
  have hk0 := C.1.2
  have J := C.2.2.2.1 (sg s (2 + k) 4)
  have hv : ∀ z : Int, 0 ≤ z → z < 6 → 0 ≤ sg s 1 z ∧ sg s 1 z ≤ 999 := hH.1.2.1
  -- a branch goes to a line
  have jp : ∀ (s1 : TS) (l' : Int), PZ f g ω κ x s1 = PZ f g ω κ x s → sg s1 0 5 = sg s 0 5 → sg s1 (2 + k) 7 = 0 → sg s1 (2 + k) 4 = sg s (2 + k) 4 → 0 ≤ l' → l' ≤ 24 → PZ f g ω κ x (sGo k l' s1) ≤ PZ f g ω κ x s + κ := by
    intro s1 l' g1 g2 g3 g4 g5 g6
    rw [PZ_go k0 (by omega) (by omega), C.e0 (by omega), pv_w C (by omega) g3, g1, g4]
    have := J l' hb4.1 hl g5 g6
    omega
  have gP : PZ f g ω κ x (sGo k (sg s (2 + k) 4 + 1) s) = PZ f g ω κ x s + (f 0 0 (sg s (2 + k) 4 + 1) - f 0 0 (sg s (2 + k) 4)) := by rw [PZ_go k0 k1 h5.2, C.e0 (by omega), hpv]
  have gH : QH x B F T (sGo k (sg s (2 + k) 4 + 1) s) := hH.go k0 (by omega) (by omega)
  have g5 : sg (sGo k (sg s (2 + k) 4 + 1) s) 0 5 = sg s 0 5 := by rw [go_g, if_neg (by omega), if_neg (by omega)]
  have g7 : sg (sGo k (sg s (2 + k) 4 + 1) s) (2 + k) 7 = 0 := by rw [go_g, if_neg (by omega), if_pos ⟨rfl, rfl⟩]
  have g4 : sg (sGo k (sg s (2 + k) 4 + 1) s) (2 + k) 4 = sg s (2 + k) 4 + 1 := by rw [go_g, if_pos ⟨rfl, rfl⟩]
  have g9 : sg (sGo k (sg s (2 + k) 4 + 1) s) 0 9 = 0 := by rw [go_g, if_neg (by omega), if_neg (by omega)]; exact h9
  have J1 := J (sg s (2 + k) 4 + 1) hb4.1 hl (by omega) (by omega)
  have hcc : c = 0 ∨ c = 1 ∨ c = 2 ∨ c = 3 ∨ c = 4 ∨ c = 5 ∨ c = 6 ∨ c = 7 ∨ c = 8 ∨ c = 9 ∨ c = 10 ∨ c = 11 ∨ c = 12 ∨ c = 13 ∨ c = 14 ∨ c = 15 ∨ c = 16 ∨ c = 17 ∨ c = 18 ∨ c = 19 ∨ c = 20 ∨ c = 21 ∨ c = 22 ∨ c = 23 := by omega
  rcases hcc with rfl | rfl | rfl | rfl | rfl | rfl | rfl | rfl | rfl | rfl | rfl | rfl | rfl | rfl | rfl | rfl | rfl | rfl | rfl | rfl | rfl | rfl | rfl | rfl
  · rw [sl0]; exact jp _ _ (PZ_sx (by omega)) (by rw [st_g, if_neg (by omega)]) (by rw [st_g, if_neg (by omega)]; exact hw) (by rw [st_g, if_neg (by omega)]) (by omega) (by omega)
  · rw [sl1]; exact jp _ _ (PZ_sx (by omega)) (by rw [st_g, if_neg (by omega)]) (by rw [st_g, if_neg (by omega)]; exact hw) (by rw [st_g, if_neg (by omega)]) (by omega) (by omega)
  · rw [sl2] at h30 ⊢
    exact pz_cw C (hZ (by omega)) hH hs h4 k0 k1 hw hl (Or.inl ⟨rfl, by omega⟩) ⟨fun _ => ⟨⟨a0, q3 (by omega)⟩, hv b b0 (by have := q2 (by omega); omega)⟩, fun z => by omega, fun z => by omega, fun z => by omega, fun z => by omega, fun z => by omega⟩ h30
  · rw [sl3] at h30 ⊢
    exact pz_cw C (hZ (by omega)) hH hs h4 k0 k1 hw hl (Or.inl ⟨rfl, by omega⟩) ⟨fun z => by omega, fun _ => ⟨⟨q7 rfl, a1⟩, rfl⟩, fun z => by omega, fun z => by omega, fun z => by omega, fun z => by omega⟩ h30
  · rw [sl4, PZ_wait k0 k1 h5.2, C.e0 (by omega), hpv]
    have := (C.2.2.2.2.1 _ hb4.1 hl).1
    omega
  · rw [sl5] at h30 ⊢
    exact pz_cw C (hZ (by omega)) hH hs h4 k0 k1 hw hl (Or.inl ⟨rfl, by omega⟩) ⟨fun z => by omega, fun z => by omega, fun _ => ⟨⟨a0, q3 (by omega)⟩, hv b b0 (by have := q2 (by omega); omega)⟩, fun z => by omega, fun z => by omega, fun z => by omega⟩ h30
  · rw [sl6]
    split
    · exact jp s b rfl rfl hw rfl b0 (by have := q6 (by omega); omega)
    · exact jp s _ rfl rfl hw rfl (by omega) (by omega)
  · rw [sl7]; exact jp s a rfl rfl hw rfl a0 (by have := q4 (by omega); omega)
  · rw [sl8] at h30 ⊢
    unfold sBelow at h30 ⊢
    split at h30
    · rename_i c12
      rw [if_pos c12, PZ_begin (by omega) c12, gP]
      have := C.2.2.2.2.2.1 _ a hb4.1 hl a0 (q4 (by omega))
      omega
    · exact absurd h30 u_stuck
  · rw [sl9, PZ_wait k0 k1 h5.2, hpv]
    have := (C.2.2.2.2.1 _ hb4.1 hl).2.1
    omega
  · rw [sl10] at h30 ⊢
    unfold sRace at h30 ⊢
    split at h30
    · rename_i c12
      rw [if_pos c12]
      simp only
      have y : PZ f g ω κ x (sBegin (sg (sGo k (sg s (2 + k) 4 + 1) s) (2 + k) 0) a (sGo k (sg s (2 + k) 4 + 1) s)) ≤ PZ f g ω κ x s + κ := by
        rw [PZ_begin (by omega) c12, gP]
        have := C.2.2.2.2.2.1 _ a hb4.1 hl a0 (q4 (by omega))
        omega
      generalize sBegin (sg (sGo k (sg s (2 + k) 4 + 1) s) (2 + k) 0) a (sGo k (sg s (2 + k) 4 + 1) s) = s1 at y
      have hfb := find_b (s := s1) (v := sg s1 (2 + k) 3)
      rw [PZ_sx (by omega), PZ_sx (by omega)]
      split
      · exact y
      · rw [PZ_sx (by omega)]; exact y
    · exact absurd h30 u_stuck
  · rw [sl11] at h30 ⊢
    have := pz_win C gH hs h4 g9 k0 (by omega) g7 h30
    omega
  · rw [sl12]
    have er : PZ f g ω κ x (sth (sGo k (sg s (2 + k) 4 + 1) s) k (a :: sh s k)) = PZ f g ω κ x (sGo k (sg s (2 + k) 4 + 1) s) := PZ_r rfl rfl fun _ => rfl
    omega
  · rw [sl13]
    have er : PZ f g ω κ x (sth (sGo k (sg s (2 + k) 4 + 1) s) k (sh s k).tail) = PZ f g ω κ x (sGo k (sg s (2 + k) 4 + 1) s) := PZ_r rfl rfl fun _ => rfl
    omega
  · rw [sl14]; exact jp _ _ (PZ_r rfl rfl fun _ => rfl) rfl hw rfl (by omega) (by omega)
  · rw [sl15] at h30 ⊢
    unfold sUndo at h30 ⊢
    split at h30
    · omega
    · rename_i v t hu
      have hm := hH.1.2.2.2.1 v (by rw [hu]; exact List.mem_cons_self ..)
      have hH2 : QH x B F T (stu s t) := ⟨hH.1.ustk fun z hz => hH.1.2.2.2.1 z (by rw [hu]; exact List.mem_cons_of_mem _ hz), hH.2.1.same (fun _ _ _ => rfl) rfl, hH.2.2.1.same rfl rfl rfl, hH.2.2.2⟩
      have := pz_cw (kd := 8) (a := v / 1000) (b := v % 1000) (w := 2) C (hZ (by omega)) hH2 hs h4 k0 k1 hw hl (Or.inr ⟨rfl, rfl⟩) ⟨fun _ => ⟨⟨by omega, by omega⟩, by omega, by omega⟩, fun z => by omega, fun z => by omega, fun z => by omega, fun z => by omega, fun z => by omega⟩ h30
      rw [PZ_r (s := s) (s' := stu s t) rfl rfl fun _ => rfl] at this
      exact this
  · rw [sl16] at h30 ⊢
    have := pz_end C hH hs h4 k0 k1 hw h30
    omega
  · rw [sl17] at h30 ⊢
    obtain ⟨l', y1, y2⟩ := pz_fail C hH hs h4 k0 k1 h30
    have := J l' hb4.1 hl y1.1 y1.2
    omega
  · rw [sl18] at h30 ⊢
    have := pz_endR (kd := 16) (a := sg s 1 a) C hH hs h4 (by decide) (by decide) ⟨fun z => by omega, fun z => by omega, fun z => by omega, fun z => by omega, fun _ => ⟨hv a a0 (by have := q1 (by omega); omega), rfl⟩, fun z => by omega⟩ h30
    exact Int.le_trans this (by omega)
  · rw [sl19] at h30 ⊢
    have hu : sg (sPatch x a s).2 0 30 = 0 := by
      have : sg (sGo k (if (sPatch x a s).1 then sg s (2 + k) 4 + 1 else b) (sPatch x a s).2) 0 30 = 0 := h30
      rw [u_go] at this
      exact this
    show PZ f g ω κ x (sGo k (if (sPatch x a s).1 then sg s (2 + k) 4 + 1 else b) (sPatch x a s).2) ≤ _
    unfold sPatch at hu ⊢
    have bb := q6 (by omega)
    by_cases k1' : iAnd (iShr (sg s 0 7) a) 1 = 0
    · rw [if_pos k1'] at hu ⊢
      by_cases k2 : (nc x (sg s 0 12) < sSeen x s ∧ eis (x.2.1 (nc x (sg s 0 12))) 12 a 0 = true) ∨ (¬ nc x (sg s 0 12) < sSeen x s ∧ ¬ sg s 0 10 < x.1 1)
      · rw [if_pos k2] at hu ⊢
        have hH2 : QH x B F T (st s 0 7 (iOr (sg s 0 7) (iShl 1 a))) := ⟨hH.1.s0 (by decide) (by decide) (by decide) (by decide) (by decide) (Or.inl (by decide)), hH.2.1.sx (by omega), hH.2.2.1.same (by rw [st_g, if_neg (by omega)]) (by rw [st_g, if_neg (by omega)]) rfl, by rw [u_st (by omega)]; exact hH.2.2.2⟩
        obtain ⟨z0, z1, z2, z3, z4⟩ := PZ_cmd (f := f) (g := g) (ω := ω) (κ := κ) hH2 hs h4 (by decide) (by decide) hu
        show PZ f g ω κ x (sGo k (sg s (2 + k) 4 + 1) (sCmd x 12 a 0 (st s 0 7 (iOr (sg s 0 7) (iShl 1 a)))).2) ≤ _
        have y5 : sg (sCmd x 12 a 0 (st s 0 7 (iOr (sg s 0 7) (iShl 1 a)))).2 0 5 = sg s 0 5 := by rw [cmd_g (by omega), st_g, if_neg (by omega)]
        have yf : ∀ q : Int, sg (sCmd x 12 a 0 (st s 0 7 (iOr (sg s 0 7) (iShl 1 a)))).2 (2 + k) q = sg s (2 + k) q := fun q => by rw [cmd_g (Or.inl (by omega)), st_g, if_neg (by omega)]
        rw [PZ_go k0 (by omega) (by omega), C.e0 (by omega), pv_same (s := s) y5 (yf _) (yf _) (yf _), hpv, z1, PZ_sx (by omega)]
        have := (C.2.2.2.2.2.2.1 _ (sg s (2 + k) 4) 12 a 0 z2 z3 z4.1 hb4.1 hl ⟨fun z => by omega, fun z => by omega, fun z => by omega, fun _ => ⟨⟨a0, q5 rfl⟩, rfl⟩, fun z => by omega, fun z => by omega⟩).2.2 (Or.inl rfl)
        omega
      · rw [if_neg k2]
        exact jp s b rfl rfl hw rfl b0 (by omega)
    · rw [if_neg k1']
      exact jp s _ rfl rfl hw rfl (by omega) (by omega)
  · rw [sl20]; exact jp _ _ (PZ_sx (by omega)) (by rw [st_g, if_neg (by omega)]) (by rw [st_g, if_neg (by omega)]; exact hw) (by rw [st_g, if_neg (by omega)]) (by omega) (by omega)
  · rw [sl21]; exact jp _ _ (PZ_sx (by omega)) (by rw [st_g, if_neg (by omega)]) (by rw [st_g, if_neg (by omega)]; exact hw) (by rw [st_g, if_neg (by omega)]) (by omega) (by omega)
  · rw [sl22] at h30 ⊢
    have hbw := w_bare k0 k1 hH.1
    have hbr : WK x (sBare k s).2 ∧ PZ f g ω κ x (sBare k s).2 = PZ f g ω κ x s ∧ (∀ p q : Int, (p = 0 ∨ q = 4 ∨ q = 7) → sg (sBare k s).2 p q = sg s p q) ∧ sn (sBare k s).2 = sn s := by
      unfold sBare
      simp only
      generalize (if 0 < sg s (2 + k) 5 then sg s (2 + k) 5 - 1 else 0) = y
      split
      · exact ⟨(hH.2.1.sx (a := 2 + k) (j := 5) (v := y) (by omega)).sx (by omega), by rw [PZ_sx (by omega), PZ_sx (by omega)], fun p q hh => by rw [st_g, if_neg (by omega), st_g, if_neg (by omega)], rfl⟩
      · exact ⟨(hH.2.1.sx (a := 2 + k) (j := 5) (v := y) (by omega)).sx (by omega), by rw [PZ_sx (by omega), PZ_sx (by omega)], fun p q hh => by rw [st_g, if_neg (by omega), st_g, if_neg (by omega)], rfl⟩
    obtain ⟨y1, y2, y3, y4⟩ := hbr
    have hH2 : QH x B F T (sBare k s).2 := ⟨hbw.1, y1, hH.2.2.1.same (y3 _ _ (Or.inl rfl)) (y3 _ _ (Or.inl rfl)) y4, by rw [y3 _ _ (Or.inl rfl)]; exact hH.2.2.2⟩
    generalize sBare k s = rr at h30 hH2 y2 y3 ⊢
    obtain ⟨r, s1⟩ := rr
    simp only at h30 hH2 y2 y3 ⊢
    have f5 : sg s1 0 5 = sg s 0 5 := y3 _ _ (Or.inl rfl)
    have f7 : sg s1 (2 + k) 7 = 0 := by rw [y3 _ _ (by omega)]; exact hw
    have f4 : sg s1 (2 + k) 4 = sg s (2 + k) 4 := y3 _ _ (by omega)
    have z := jp s1 (sg s (2 + k) 4 + 1) y2 f5 f7 f4 (by omega) (by omega)
    cases r with
    | false => exact z
    | true =>
      have hH3 : QH x B F T (sGo k (sg s (2 + k) 4 + 1) s1) := hH2.go k0 (by omega) (by omega)
      have e5 : sg (sGo k (sg s (2 + k) 4 + 1) s1) 0 5 = sg s 0 5 := by rw [go_g, if_neg (by omega), if_neg (by omega)]; exact f5
      have e7 : sg (sGo k (sg s (2 + k) 4 + 1) s1) (2 + k) 7 = 0 := by rw [go_g, if_neg (by omega), if_pos ⟨rfl, rfl⟩]
      have e4 : sg (sGo k (sg s (2 + k) 4 + 1) s1) (2 + k) 4 = sg s (2 + k) 4 + 1 := by rw [go_g, if_pos ⟨rfl, rfl⟩]
      obtain ⟨l', v1, v2⟩ := pz_fail C hH3 hs h4 k0 (by omega) h30
      rw [pv_w C (by omega) e7, e4, PZ_go k0 (by omega) (by omega), C.e0 (by omega), pv_w C (by omega) f7, f4, y2] at v2
      have := J l' hb4.1 hl v1.1 v1.2
      show PZ f g ω κ x (sFail x k (sGo k (sg s (2 + k) 4 + 1) s1)) ≤ _
      omega
  · rw [sl23] at h30 ⊢
    have hu : sg (sCmd x 13 (sg s 1 a) 0 s).2 0 30 = 0 := by rw [u_go] at h30; exact h30
    obtain ⟨z0, z1, z2, z3, z4⟩ := PZ_cmd (f := f) (g := g) (ω := ω) (κ := κ) hH hs h4 (by decide) (by decide) hu
    have y5 : sg (sCmd x 13 (sg s 1 a) 0 s).2 0 5 = sg s 0 5 := cmd_g (by omega)
    rw [PZ_go k0 (by omega) (by omega), C.e0 (by omega), pv_same (s := s) y5 (cmd_g (Or.inl (by omega))) (cmd_g (Or.inl (by omega))) (cmd_g (Or.inl (by omega))), hpv, z1]
    have := (C.2.2.2.2.2.2.1 _ (sg s (2 + k) 4) 13 (sg s 1 a) 0 z2 z3 z4.1 hb4.1 hl ⟨fun z => by omega, fun z => by omega, fun z => by omega, fun z => by omega, fun _ => ⟨hv a a0 (by have := q1 (by omega); omega), rfl⟩, fun z => by omega⟩).2.2 (Or.inr rfl)
    omega
end PTD
