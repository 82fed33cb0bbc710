/-! THE TELLING in the reference: lines 0 to 9. -/
section RF13
variable {m0 m m' : MM} {x : CX} {s s' : TS} {B H : Int} {a b c e i j v k h n l w p r t o rh E ty ver rc : Int} {G : Int → Nat}
/-- a line's business: what has to hold before, and what comes of it -/
def LB (m0 m : MM) (x : CX) (s : TS) (rh E H B k : Int) : Prop := RR m0 m x s rh E H ∧ SW x s B ∧ sg s 0 30 = 0 ∧ A2 x s rh ∧ (0 ≤ k ∧ k < sg s 0 5) ∧ sg s (2 + k) 7 = 0 ∧ sg s (2 + k) 9 = 0 ∧ sg s (2 + k) 4 < x.1 5 ∧ nl s < 65536 ∧ H < 196608
theorem v_lt (hW : SW x s B) (a0 : 0 ≤ a) (a5 : a ≤ 5) : 0 ≤ sg s 1 a ∧ sg s 1 a ≤ 999 := hW.2.1 a a0 (by omega)
theorem rl0 (L : LB m0 m x s rh E H B k) (a0 : 0 ≤ a) (a5 : a ≤ 5) : ∃ m', dsL k (sg s (2 + k) 4) 0 a b m = some (0, m') ∧ RG m0 m' x (sLine x k 0 a b s) rh E H := by
  obtain ⟨h, hW, h30, hA, ⟨k0, k1⟩, h7, h9, hl, hn, hH⟩ := L
  have hb4 := (hW.br k0 k1).2.1
  have e4 : mset m 142 a b 144 k = sg s (2 + k) 4 := by rw [ms_a (by decide)]; exact (h.br k0 k1).2.1
  have es : ∀ q, sg (st s 1 a b) (2 + k) q = sg s (2 + k) q := fun q => by rw [st_g, if_neg (by omega)]
  refine ⟨mset (mset m 142 a b) 144 k (sg s (2 + k) 4 + 1), ?_, Or.inl ⟨by rw [sl0, u_go, u_st (by omega)]; exact h30, ?_⟩, (hA.st (by omega)).go k0⟩
  · rw [ds0]
    simp only [lx_p, up_t]
    rw [gd_t ⟨a0, by omega⟩, e4, w32_id (by omega) (by omega)]
  · rw [sl0]
    exact (h.p1 a0).nx k0 (by rw [st_g, if_neg (by omega)]; exact k1) (by rw [es]; exact h7) (by rw [es]; exact h9)
theorem rl1 (L : LB m0 m x s rh E H B k) (a0 : 0 ≤ a) (a5 : a ≤ 5) (b0 : 0 ≤ b) (b5 : b ≤ 5) : ∃ m', dsL k (sg s (2 + k) 4) 1 a b m = some (0, m') ∧ RG m0 m' x (sLine x k 1 a b s) rh E H := by
  obtain ⟨h, hW, h30, hA, ⟨k0, k1⟩, h7, h9, hl, hn, hH⟩ := L
  have hb4 := (hW.br k0 k1).2.1
  have va := v_lt hW a0 a5
  have vb := v_lt hW b0 b5
  have ea : m 142 a = sg s 1 a := h.2.2.1 a a0 (by omega)
  have eb : m 142 b = sg s 1 b := h.2.2.1 b b0 (by omega)
  have e4 : ∀ v, mset m 142 a v 144 k = sg s (2 + k) 4 := fun v => by rw [ms_a (by decide)]; exact (h.br k0 k1).2.1
  have es : ∀ v q, sg (st s 1 a v) (2 + k) q = sg s (2 + k) q := fun v q => by rw [st_g, if_neg (by omega)]
  refine ⟨mset (mset m 142 a ((sg s 1 a + sg s 1 b) % 1000)) 144 k (sg s (2 + k) 4 + 1), ?_, Or.inl ⟨by rw [sl1, u_go, u_st (by omega)]; exact h30, ?_⟩, (hA.st (by omega)).go k0⟩
  · rw [ds1]
    simp only [lx_p, up_t]
    rw [gd_t ⟨a0, by omega⟩, gd_t ⟨b0, by omega⟩, ea, eb, w32_id (z := sg s 1 a + sg s 1 b) (by omega) (by omega), Int.tmod_eq_emod_of_nonneg (by omega), e4, w32_id (by omega) (by omega)]
  · rw [sl1]
    exact (h.p1 a0).nx k0 (by rw [st_g, if_neg (by omega)]; exact k1) (by rw [es]; exact h7) (by rw [es]; exact h9)
/-- a command, and the branch waits for what comes of it -/
theorem aw_r (L : LB m0 m x s rh E H B k) (X : RX m0 x G r ty ver rh rc s) {kd : Int} (hK : KI x s (sCmd x kd a b s).2 rc) (kd0 : 8 ≤ kd) (kd1 : kd ≤ 16) (a0 : 0 ≤ a) (a1 : a < 524288) (b0 : 0 ≤ b) (b1 : b ≤ 999) (ht1 : w = 1 → t = rinto x (sg s (2 + k) 4)) (hw : w = 1 ∨ w = 2) : ∃ m', (bd (fm_X12_commands kd a b m) fun z m_190 => bd (fm_X12_awaits k (wmp w) z t m_190) fun _ m_202 => some ((0 : Int), m_202)) = some (0, m') ∧ RG m0 m' x (sWait k w (sCmd x kd a b s).1 (sCmd x kd a b s).2) rh E H := by
  obtain ⟨h, hW, h30, hA, ⟨k0, k1⟩, h7, h9, hl, hn, hH⟩ := L
  have h5 := hW.2.2.2.2.2.2.2.1
  obtain ⟨m1, z, c1, c2, c3, c4⟩ := rcmd h X.1 X.2.1 hW h30 X.2.2.1 hA hK kd0 kd1 a0 a1 b0 b1 hn
  have cg : ∀ p q : Int, (p ≠ 0 ∨ (q ≠ 12 ∧ q ≠ 30 ∧ q ≠ 31)) → sg (sCmd x kd a b s).2 p q = sg s p q := fun p q hh => cmd_g hh
  refine ⟨mset (mset (mset m1 145 k (wmp w)) 146 k z) 147 k t, ?_, ?_, ?_⟩
  · rw [bd_t c1]
    unfold fm_X12_awaits
    simp only [up_t]
    rw [gd_t ⟨k0, by omega⟩]
    rfl
  · rcases c2 with ⟨g30, g⟩ | ⟨g1, g2, g3, g4, g5, g6⟩
    · rw [c3 g30]
      exact Or.inl ⟨by rw [u_wait]; exact g30, g.wait k0 (by rw [cg 0 5 (by omega)]; exact k1) (fun q => by omega) (fun q => by rw [cg _ 4 (by omega)]; exact ht1 q)⟩
    · refine Or.inr ⟨((g1.ms (mtb1 (by decide) (by decide) k0)).ms (mtb1 (by decide) (by decide) k0)).ms (mtb1 (by decide) (by decide) k0), by rw [u_wait]; exact g2, ?_, ?_, ?_, ?_⟩
      · rw [ms_a (by decide), ms_a (by decide), ms_a (by decide)]; exact g3
      · rw [ms_a (by decide), ms_a (by decide), ms_a (by decide), wait_g, if_neg (by omega), if_neg (by omega)]; exact g4
      · rw [ms_a (by decide), ms_a (by decide), ms_a (by decide)]; exact g5
      · rw [ms_a (by decide), ms_a (by decide), ms_a (by decide)]; exact g6
  · exact c4.to (by rw [wait_g, if_neg (by omega), if_neg (by omega)]) (by rw [wait_g, if_neg (by omega), if_neg (by omega)])
theorem rinto_n (hc : (x.2.2 l).1 ≠ 3) : rinto x l = bOf x l := if_neg hc
theorem rl2 (L : LB m0 m x s rh E H B k) (X : RX m0 x G r ty ver rh rc s) (hK : KI x s (sLine x k 2 a b s) rc) (hc : (x.2.2 (sg s (2 + k) 4)).1 = 2) (hb : (x.2.2 (sg s (2 + k) 4)).2.2 = b) (a0 : 0 ≤ a) (a3 : a ≤ 3) (b0 : 0 ≤ b) (b5 : b ≤ 5) : ∃ m', dsL k (sg s (2 + k) 4) 2 a b m = some (0, m') ∧ RG m0 m' x (sLine x k 2 a b s) rh E H := by
  have vb := v_lt L.2.1 b0 b5
  have eb : m 142 b = sg s 1 b := L.1.2.2.1 b b0 (by omega)
  obtain ⟨m', f1, f2⟩ := aw_r (w := 1) (t := b) (kd := 8) (a := a) (b := sg s 1 b) L X (fun g1 g2 => by
    have := hK g1 g2
    rw [sl2] at this
    exact (u_wait (k := k) (w := 1) (n := (sCmd x 8 a (sg s 1 b) s).1)).symm.trans this) (by decide) (by decide) a0 (by omega) vb.1 vb.2 (fun _ => by rw [rinto_n (by omega)]; exact hb.symm) (Or.inl rfl)
  refine ⟨m', ?_, by rw [sl2]; exact f2⟩
  rw [ds2, gd_t ⟨b0, by omega⟩, lx_p, eb]
  exact f1
theorem rl5 (L : LB m0 m x s rh E H B k) (X : RX m0 x G r ty ver rh rc s) (hK : KI x s (sLine x k 5 a b s) rc) (hc : (x.2.2 (sg s (2 + k) 4)).1 = 5) (hb : (x.2.2 (sg s (2 + k) 4)).2.2 = b) (a0 : 0 ≤ a) (a3 : a ≤ 3) (b0 : 0 ≤ b) (b5 : b ≤ 5) : ∃ m', dsL k (sg s (2 + k) 4) 5 a b m = some (0, m') ∧ RG m0 m' x (sLine x k 5 a b s) rh E H := by
  have vb := v_lt L.2.1 b0 b5
  have eb : m 142 b = sg s 1 b := L.1.2.2.1 b b0 (by omega)
  obtain ⟨m', f1, f2⟩ := aw_r (w := 1) (t := b) (kd := 10) (a := a) (b := sg s 1 b) L X (fun g1 g2 => by
    have := hK g1 g2
    rw [sl5] at this
    exact (u_wait (k := k) (w := 1) (n := (sCmd x 10 a (sg s 1 b) s).1)).symm.trans this) (by decide) (by decide) a0 (by omega) vb.1 vb.2 (fun _ => by rw [rinto_n (by omega)]; exact hb.symm) (Or.inl rfl)
  refine ⟨m', ?_, by rw [sl5]; exact f2⟩
  rw [ds5, gd_t ⟨b0, by omega⟩, lx_p, eb]
  exact f1
theorem rl3 (L : LB m0 m x s rh E H B k) (X : RX m0 x G r ty ver rh rc s) (hK : KI x s (sLine x k 3 a b s) rc) (hc : (x.2.2 (sg s (2 + k) 4)).1 = 3) (a0 : 0 ≤ a) (a3 : a ≤ 100) : ∃ m', dsL k (sg s (2 + k) 4) 3 a b m = some (0, m') ∧ RG m0 m' x (sLine x k 3 a b s) rh E H := by
  obtain ⟨m', f1, f2⟩ := aw_r (w := 1) (t := -1) (kd := 9) (a := a) (b := 0) L X (fun g1 g2 => by
    have := hK g1 g2
    rw [sl3] at this
    exact (u_wait (k := k) (w := 1) (n := (sCmd x 9 a 0 s).1)).symm.trans this) (by decide) (by decide) a0 (by omega) (by decide) (by decide) (fun _ => by unfold rinto; rw [if_pos hc]) (Or.inl rfl)
  refine ⟨m', ?_, by rw [sl3]; exact f2⟩
  rw [ds3]
  exact f1
theorem rl4 (L : LB m0 m x s rh E H B k) (hb : (x.2.2 (sg s (2 + k) 4)).2.2 = b) : ∃ m', dsL k (sg s (2 + k) 4) 4 a b m = some (0, m') ∧ RG m0 m' x (sLine x k 4 a b s) rh E H := by
  obtain ⟨h, hW, h30, hA, ⟨k0, k1⟩, h7, h9, hl, hn, hH⟩ := L
  have h5 := hW.2.2.2.2.2.2.2.1
  refine ⟨mset (mset (mset m 145 k (wmp 3)) 146 k a) 147 k b, ?_, Or.inl ⟨by rw [sl4, u_wait]; exact h30, ?_⟩, ?_⟩
  · rw [ds4]
    unfold fm_X12_awaits
    simp only [up_t]
    rw [gd_t ⟨k0, by omega⟩]
    rfl
  · rw [sl4]
    exact h.wait k0 k1 (fun _ => hb.symm) (fun q => by omega)
  · rw [sl4]
    exact hA.to (by rw [wait_g, if_neg (by omega), if_neg (by omega)]) (by rw [wait_g, if_neg (by omega), if_neg (by omega)])
theorem rl6 (L : LB m0 m x s rh E H B k) (a0 : 0 ≤ a) (a5 : a ≤ 5) : ∃ m', dsL k (sg s (2 + k) 4) 6 a b m = some (0, m') ∧ RG m0 m' x (sLine x k 6 a b s) rh E H := by
  obtain ⟨h, hW, h30, hA, ⟨k0, k1⟩, h7, h9, hl, hn, hH⟩ := L
  have hb4 := (hW.br k0 k1).2.1
  have ea : m 142 a = sg s 1 a := h.2.2.1 a a0 (by omega)
  rw [ds6, sl6, gd_t ⟨a0, by omega⟩]
  simp only [lx_p, up_t]
  rw [ea]
  by_cases q : sg s 1 a = 0
  · rw [if_pos q, if_pos q]
    exact ⟨_, rfl, Or.inl ⟨by rw [u_go]; exact h30, h.nx k0 k1 h7 h9⟩, hA.go k0⟩
  · rw [if_neg q, if_neg q, w32_id (by omega) (by omega)]
    exact ⟨_, rfl, Or.inl ⟨by rw [u_go]; exact h30, h.nx k0 k1 h7 h9⟩, hA.go k0⟩
theorem rl7 (L : LB m0 m x s rh E H B k) : ∃ m', dsL k (sg s (2 + k) 4) 7 a b m = some (0, m') ∧ RG m0 m' x (sLine x k 7 a b s) rh E H := by
  obtain ⟨h, hW, h30, hA, ⟨k0, k1⟩, h7, h9, hl, hn, hH⟩ := L
  rw [ds7, sl7]
  simp only [up_t]
  exact ⟨_, rfl, Or.inl ⟨by rw [u_go]; exact h30, h.nx k0 k1 h7 h9⟩, hA.go k0⟩
theorem rl9 (L : LB m0 m x s rh E H B k) : ∃ m', dsL k (sg s (2 + k) 4) 9 a b m = some (0, m') ∧ RG m0 m' x (sLine x k 9 a b s) rh E H := by
  obtain ⟨h, hW, h30, hA, ⟨k0, k1⟩, h7, h9, hl, hn, hH⟩ := L
  rw [ds9, sl9]
  simp only [up_t]
  exact ⟨_, rfl, Or.inl ⟨by rw [u_wait]; exact h30, h.waitJ k0 k1⟩, hA.to (by rw [wait_g, if_neg (by omega), if_neg (by omega)]) (by rw [wait_g, if_neg (by omega), if_neg (by omega)])⟩
end RF13
