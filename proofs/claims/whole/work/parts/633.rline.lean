/-! THE TELLING in the reference: lines 8, 12 to 18, 20, 21, 23. -/
section RF14
variable {m0 m m' : MM} {x : CX} {s s' : TS} {B H : Int} {a b c e i j v k h n l w p r t o rh E ty ver rc : Int} {G : Int → Nat}
theorem RE.stk (h : RR m0 m x s rh E H) : RE m0 (mset (mset m 68 114 1) 68 115 v) x (sStuck s v) rh E H := by
  have h91 := h.n91
  refine Or.inr ⟨(h.1.ms (mtb68 (by omega))).ms (mtb68 (by omega)), rfl, ?_, ?_, ?_, ?_⟩
  · rw [ms_j (by decide), ms_e]
  · rw [ms_e]; rfl
  · rw [ms_j (by decide), ms_j (by decide)]; exact h91.1
  · rw [ms_j (by decide), ms_j (by decide)]; exact h91.2.1
theorem A2.stk (h : A2 x s rh) : A2 x (sStuck s v) rh := (h.st (by omega)).st (by omega)
theorem A2.begin (h : A2 x s rh) (h5 : 0 ≤ sg s 0 5) : A2 x (sBegin p l s) rh := h.to (by rw [begin_g (by decide), if_neg (by omega), if_neg (by omega), if_neg (by omega)]) (by rw [begin_g (by decide), if_neg (by omega), if_neg (by omega), if_neg (by omega)])
theorem RE.mono {H' : Int} (h : RE m0 m x s rh E H) (hb : H ≤ H') : RE m0 m x s rh E H' := h.imp (fun g => ⟨g.1, g.2.mono hb⟩) id
theorem begins_full (h : RR m0 m x s rh E H) (h12 : sg s 0 5 = 12) : fm_X12_begins a p m = some (0, mset (mset m 68 114 1) 68 115 (-1)) := by
  unfold fm_X12_begins fm_X12_spins
  simp only [lx_p, up_t]
  rw [h.n91.2.2, if_pos h12]
  rfl
theorem rl8 (L : LB m0 m x s rh E H B k) (hx5 : x.1 5 ≤ 24) (hE : 12 ≤ E) (a0 : 0 ≤ a) (a1 : a ≤ 23) : ∃ m', dsL k (sg s (2 + k) 4) 8 a b m = some (0, m') ∧ RG m0 m' x (sLine x k 8 a b s) rh E (H + 1) := by
  obtain ⟨h, hW, h30, hA, ⟨k0, k1⟩, h7, h9, hl, hn, hH⟩ := L
  have hb4 := (hW.br k0 k1).2.1
  have h5 := hW.2.2.2.2.2.2.2.1
  have h1 := h.nx (l := sg s (2 + k) 4 + 1) k0 k1 h7 h9
  have e143 : mset m 144 k (sg s (2 + k) 4 + 1) 143 k = sg s (2 + k) 0 := by rw [ms_a (by decide)]; exact (h.br k0 k1).1
  have g0 : ∀ q, sg (sGo k (sg s (2 + k) 4 + 1) s) 0 q = sg s 0 q := fun q => by rw [go_g, if_neg (by omega), if_neg (by omega)]
  have gk : sg (sGo k (sg s (2 + k) 4 + 1) s) (2 + k) 0 = sg s (2 + k) 0 := by rw [go_g, if_neg (by omega), if_neg (by omega)]
  have hH6 := h.2.2.2.2.2.2.2.2.2.2.2
  rw [ds8, sl8]
  simp only [lx_p, up_t]
  rw [w32_id (by omega) (by omega), e143]
  unfold sBelow
  rw [g0, gk]
  by_cases c1 : sg s 0 5 < 12
  · rw [if_pos c1]
    obtain ⟨m', f1, f2⟩ := rbegin (l := a) (p := sg s (2 + k) 0) h1 (hW.go k0 (by omega) (by omega)) (by rw [g0]; exact c1) (by rw [g0]; omega) (by omega) hE
    refine ⟨m', by rw [bd_t f1], Or.inl ⟨?_, f2⟩, (hA.go k0).begin (by rw [g0]; exact h5.1)⟩
    rw [u_begin (by rw [g0]; exact h5.1), u_go]
    exact h30
  · rw [if_neg c1, bd_t (begins_full h1 (by rw [g0]; omega))]
    exact ⟨_, rfl, (RE.stk h1).mono (by omega), (hA.go k0).stk⟩
theorem rl12 (L : LB m0 m x s rh E H B k) (a0 : 0 ≤ a) (a1 : a ≤ 23) : ∃ m', dsL k (sg s (2 + k) 4) 12 a b m = some (0, m') ∧ RG m0 m' x (sLine x k 12 a b s) rh E (H + 1) := by
  obtain ⟨h, hW, h30, hA, ⟨k0, k1⟩, h7, h9, hl, hn, hH⟩ := L
  have hb4 := (hW.br k0 k1).2.1
  have h5 := hW.2.2.2.2.2.2.2.1
  have h103 := h.2.2.2.2.2.2.2.2.2.1
  have hp := (h.hpush (v := a) k0 k1 a0 (by omega)).nx (l := sg s (2 + k) 4 + 1) k0 k1 h7 h9
  have ht : -1 ≤ m 148 k ∧ m 148 k < 196608 := by
    have hc := (h.br k0 k1).2.2.2.2.1
    cases hs : sh s k with
    | nil => rw [hs] at hc; have : m 148 k = -1 := hc; omega
    | cons v t => rw [hs] at hc; have := hc.1; have := hc.2.1; omega
  rw [ds12, dm12, sl12]
  simp only [lx_p, up_t]
  rw [gd_t ⟨k0, by omega⟩, gd_t ⟨by omega, by omega⟩, w32_id (z := m 148 k + 1) (by omega) (by omega), w32_id (z := 24 * (m 148 k + 1)) (by omega) (by omega), w32_id (z := 24 * (m 148 k + 1) + a) (by omega) (by omega), show mset m 153 (m 68 103) (24 * (m 148 k + 1) + a) 68 103 = m 68 103 from ms_a (by decide), show mset (mset m 153 (m 68 103) (24 * (m 148 k + 1) + a)) 148 k (m 68 103) 68 103 = m 68 103 by rw [ms_a (by decide), ms_a (by decide)], w32_id (z := m 68 103 + 1) (by omega) (by omega), show mset (mset (mset m 153 (m 68 103) (24 * (m 148 k + 1) + a)) 148 k (m 68 103)) 68 103 (m 68 103 + 1) 144 k = sg s (2 + k) 4 by rw [ms_a (by decide), ms_a (by decide), ms_a (by decide)]; exact (h.br k0 k1).2.1, w32_id (z := sg s (2 + k) 4 + 1) (by omega) (by omega)]
  exact ⟨_, rfl, Or.inl ⟨by show sg (sGo k (sg s (2 + k) 4 + 1) s) 0 30 = 0; rw [u_go]; exact h30, hp⟩, (hA.go k0).to rfl rfl⟩
theorem rl13 (L : LB m0 m x s rh E H B k) : ∃ m', dsL k (sg s (2 + k) 4) 13 a b m = some (0, m') ∧ RG m0 m' x (sLine x k 13 a b s) rh E H := by
  obtain ⟨h, hW, h30, hA, ⟨k0, k1⟩, h7, h9, hl, hn, hH⟩ := L
  have hb4 := (hW.br k0 k1).2.1
  have h5 := hW.2.2.2.2.2.2.2.1
  have h103 := h.2.2.2.2.2.2.2.2.2.1
  have e4 : ∀ v, mset m 148 k v 144 k = sg s (2 + k) 4 := fun v => by rw [ms_a (by decide)]; exact (h.br k0 k1).2.1
  have fin : ∀ v, ChR m (sh s k).tail v → ∃ m', (bd (fj_X12_doesMore_150 k v k m) fun _ m_458 => some ((0 : Int), m_458)) = some (0, m') ∧ RG m0 m' x (sth (sGo k (sg s (2 + k) 4 + 1) s) k (sh s k).tail) rh E H := by
    intro v hv
    unfold fj_X12_doesMore_150
    simp only [lx_p, up_t]
    rw [gd_t ⟨k0, by omega⟩, gd_t ⟨k0, by omega⟩, e4, w32_id (by omega) (by omega)]
    exact ⟨_, rfl, Or.inl ⟨by show sg (sGo k (sg s (2 + k) 4 + 1) s) 0 30 = 0; rw [u_go]; exact h30, (h.hp k0 k1 hv).nx (l := sg s (2 + k) 4 + 1) k0 k1 h7 h9⟩, (hA.go k0).to rfl rfl⟩
  rw [ds13, dm13, sl13, gd_t ⟨k0, by omega⟩, lx_p]
  have hc := (h.br k0 k1).2.2.2.2.1
  cases hs : sh s k with
  | nil =>
    rw [hs] at hc fin
    have h1 : m 148 k = -1 := hc
    rw [if_pos h1]
    exact fin (-1) rfl
  | cons v t =>
    rw [hs] at hc fin
    obtain ⟨g1, g2, g3, g4, h', g5, g6, g7, g8⟩ := hc
    have t2 : Int.tdiv (24 * (h' + 1) + v) 24 = h' + 1 := by
      rw [Int.tdiv_eq_ediv_of_nonneg (by omega)]
      omega
    rw [if_neg (by omega), gd_t ⟨g1, by omega⟩, lx_p, g7, t2, w32_id (z := h' + 1) (by omega) (by omega), w32_id (z := h' + 1 - 1) (by omega) (by omega), show h' + 1 - 1 = h' by omega]
    exact fin h' g8
theorem rl14 (L : LB m0 m x s rh E H B k) (a0 : 0 ≤ a) (a3 : a ≤ 3) (b0 : 0 ≤ b) (b5 : b ≤ 5) : ∃ m', dsL k (sg s (2 + k) 4) 14 a b m = some (0, m') ∧ RG m0 m' x (sLine x k 14 a b s) rh E (H + 1) := by
  obtain ⟨h, hW, h30, hA, ⟨k0, k1⟩, h7, h9, hl, hn, hH⟩ := L
  have hb4 := (hW.br k0 k1).2.1
  have h5 := hW.2.2.2.2.2.2.2.1
  have vb := v_lt hW b0 b5
  have eb : m 142 b = sg s 1 b := h.2.2.1 b b0 (by omega)
  have hu := h.2.2.2.2.2.2.1.1
  have hu2 := h.2.2.2.2.2.2.2.2.2.2.1
  have hp := (h.upush (a := a) (v := sg s 1 b) a0 vb.1 vb.2).nx (l := sg s (2 + k) 4 + 1) k0 k1 h7 h9
  rw [ds14, dm14, sl14]
  simp only [lx_p, up_t]
  rw [gd_t ⟨b0, by omega⟩, eb, gd_t ⟨by omega, by omega⟩, w32_id (z := 10 * sg s 1 b) (by omega) (by omega), w32_id (z := 10 * sg s 1 b + a) (by omega) (by omega), show mset m 154 (m 68 105) (10 * sg s 1 b + a) 68 105 = m 68 105 from ms_a (by decide), w32_id (z := m 68 105 + 1) (by omega) (by omega), gd_t ⟨k0, by omega⟩, show mset (mset m 154 (m 68 105) (10 * sg s 1 b + a)) 68 105 (m 68 105 + 1) 144 k = sg s (2 + k) 4 by rw [ms_a (by decide), ms_a (by decide)]; exact (h.br k0 k1).2.1, w32_id (z := sg s (2 + k) 4 + 1) (by omega) (by omega)]
  exact ⟨_, rfl, Or.inl ⟨by rw [u_go]; exact h30, hp⟩, (hA.to rfl rfl).go k0⟩
theorem end_r (L : LB m0 m x s rh E H B k) (hE : 12 ≤ E) (X : RX m0 x G r ty ver rh rc s) (hK : KI x s (sEnd x k s) rc) : ∃ m', fm_X12_endsBranch k m = some (0, m') ∧ RG m0 m' x (sEnd x k s) rh E H := by
  obtain ⟨h, hW, h30, hA, ⟨k0, k1⟩, h7, h9, hl, hn, hH⟩ := L
  have h5 := hW.2.2.2.2.2.2.2.1
  have hv := v_lt (a := 0) hW (by decide) (by decide)
  have ev : m 142 0 = sg s 1 0 := h.2.2.1 0 (by decide) (by decide)
  unfold fm_X12_endsBranch
  simp only [lx_p]
  rw [gd_t ⟨k0, by omega⟩, (h.br k0 k1).1]
  by_cases c : sg s (2 + k) 0 = 0
  · have hd : sEnd x k s = sEndR x 14 (sg s 1 0) s := by
      unfold sEnd
      rw [if_pos c]
      rfl
    rw [hd] at hK ⊢
    obtain ⟨m', f1, f2⟩ := ends_r h X hW h30 hA hK (by decide) (by decide) hv.1 (by omega) hn
    exact ⟨m', by rw [if_pos c, ev, bd_t f1], f2⟩
  · have hd : sEnd x k s = sRem k s := by
      unfold sEnd
      rw [if_neg c]
    rw [hd]
    obtain ⟨m', f1, f2⟩ := rrem h hE hW k0 k1
    exact ⟨m', by rw [if_neg c, bd_t f1], Or.inl ⟨by rw [u_rem]; exact h30, f2⟩, hA.to (kp_rem (Or.inl rfl)) (rem_o (Or.inl ⟨rfl, by decide, by decide⟩))⟩
theorem rl16 (L : LB m0 m x s rh E H B k) (hE : 12 ≤ E) (X : RX m0 x G r ty ver rh rc s) (hK : KI x s (sLine x k 16 a b s) rc) : ∃ m', dsL k (sg s (2 + k) 4) 16 a b m = some (0, m') ∧ RG m0 m' x (sLine x k 16 a b s) rh E H := by
  rw [sl16] at hK ⊢
  obtain ⟨m', f1, f2⟩ := end_r L hE X hK
  exact ⟨m', by rw [ds16, dm16, bd_t f1]; rfl, f2⟩
theorem rl17 (L : LB m0 m x s rh E H B k) (X : RX m0 x G r ty ver rh rc s) (hK : KI x s (sLine x k 17 a b s) rc) : ∃ m', dsL k (sg s (2 + k) 4) 17 a b m = some (0, m') ∧ RG m0 m' x (sLine x k 17 a b s) rh E H := by
  rw [sl17] at hK ⊢
  obtain ⟨h, hW, h30, hA, ⟨k0, k1⟩, h7, h9, hl, hn, hH⟩ := L
  obtain ⟨m', f1, f2⟩ := fails_r h X hW h30 hA hK k0 k1 hn (by omega)
  exact ⟨m', by rw [ds17, dm17, bd_t f1]; rfl, f2⟩
theorem rl18 (L : LB m0 m x s rh E H B k) (X : RX m0 x G r ty ver rh rc s) (hK : KI x s (sLine x k 18 a b s) rc) (a0 : 0 ≤ a) (a5 : a ≤ 5) : ∃ m', dsL k (sg s (2 + k) 4) 18 a b m = some (0, m') ∧ RG m0 m' x (sLine x k 18 a b s) rh E H := by
  have hd : sLine x k 18 a b s = sEndR x 16 (sg s 1 a) s := by rw [sl18]; rfl
  rw [hd] at hK ⊢
  obtain ⟨h, hW, h30, hA, ⟨k0, k1⟩, h7, h9, hl, hn, hH⟩ := L
  have va := v_lt hW a0 a5
  have ea : m 142 a = sg s 1 a := h.2.2.1 a a0 (by omega)
  obtain ⟨m', f1, f2⟩ := ends_r h X hW h30 hA hK (by decide) (by decide) va.1 (by omega) hn
  exact ⟨m', by rw [ds18, dm18, gd_t ⟨a0, by omega⟩, lx_p, ea, bd_t f1]; rfl, f2⟩
theorem rl20 (L : LB m0 m x s rh E H B k) (h118 : m0 68 118 = ew (x.2.1 (sg s 0 28)) % 1024) (a0 : 0 ≤ a) (a5 : a ≤ 5) : ∃ m', dsL k (sg s (2 + k) 4) 20 a b m = some (0, m') ∧ RG m0 m' x (sLine x k 20 a b s) rh E H := by
  obtain ⟨h, hW, h30, hA, ⟨k0, k1⟩, h7, h9, hl, hn, hH⟩ := L
  have hb4 := (hW.br k0 k1).2.1
  have h5 := hW.2.2.2.2.2.2.2.1
  have e118 : m 68 118 = ew (x.2.1 (sg s 0 28)) % 1024 := by
    rw [h.1 68 118 (fun hh => by rcases hh with ⟨-, g⟩ | ⟨g, -⟩ <;> omega)]
    exact h118
  have es : ∀ v q, sg (st s 1 a v) (2 + k) q = sg s (2 + k) q := fun v q => by rw [st_g, if_neg (by omega)]
  rw [ds20, dm20, sl20]
  simp only [lx_p, up_t]
  rw [gd_t ⟨a0, by omega⟩, gd_t ⟨k0, by omega⟩, e118, show mset m 142 a (ew (x.2.1 (sg s 0 28)) % 1024) 144 k = sg s (2 + k) 4 by rw [ms_a (by decide)]; exact (h.br k0 k1).2.1, w32_id (by omega) (by omega)]
  exact ⟨_, rfl, Or.inl ⟨by rw [u_go, u_st (by omega)]; exact h30, (h.p1 a0).nx k0 (by rw [st_g, if_neg (by omega)]; exact k1) (by rw [es]; exact h7) (by rw [es]; exact h9)⟩, (hA.st (by omega)).go k0⟩
theorem rl21 (L : LB m0 m x s rh E H B k) (hB : B < 268435456) : ∃ m', dsL k (sg s (2 + k) 4) 21 a b m = some (0, m') ∧ RG m0 m' x (sLine x k 21 a b s) rh E H := by
  obtain ⟨h, hW, h30, hA, ⟨k0, k1⟩, h7, h9, hl, hn, hH⟩ := L
  have hb4 := (hW.br k0 k1).2.1
  have h5 := hW.2.2.2.2.2.2.2.1
  have hb5 := (hW.br k0 k1).2.2.2.2.2.1
  rw [ds21, dm21, sl21]
  simp only [lx_p, up_t]
  rw [gd_t ⟨k0, by omega⟩, (h.br k0 k1).2.2.1, w32_id (z := sg s (2 + k) 5 + 1) (by omega) (by omega), show mset m 150 k (sg s (2 + k) 5 + 1) 144 k = sg s (2 + k) 4 by rw [ms_a (by decide)]; exact (h.br k0 k1).2.1, w32_id (z := sg s (2 + k) 4 + 1) (by omega) (by omega)]
  exact ⟨_, rfl, Or.inl ⟨by rw [u_go, u_st (by omega)]; exact h30, (h.sl k0 k1 (Or.inl ⟨rfl, rfl, rfl⟩)).nx k0 (by rw [st_g, if_neg (by omega)]; exact k1) (by rw [st_g, if_neg (by omega)]; exact h7) (by rw [st_g, if_neg (by omega)]; exact h9)⟩, (hA.st (by omega)).go k0⟩
end RF14
