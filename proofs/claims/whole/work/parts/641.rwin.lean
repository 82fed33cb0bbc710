/-! THE TELLING in the reference: line 11. -/
section RF20
variable {m0 m m' : MM} {x : CX} {s s' : TS} {B H : Int} {a b c e i j v k h n l w p r t o rh E ty ver rc : Int} {G : Int → Nat}
theorem doomdrop_r (h : RR m0 m x s rh E H) (hF0 : Fix m0) (hE : 12 ≤ E) (X : RX m0 x G r ty ver rh rc s) (hW : SW x s B) (h30 : sg s 0 30 = 0) (hA : A2 x s rh) (hov : sg s 0 9 = 0) (hI : SI s) (hAB : AB s) (hN : ND s) (hb : sg s 0 6 ≤ 196608) (k0 : 0 ≤ k) (k1 : k < sg s 0 5) (hK : KI x s (sDrop x (sDoom k s)) rc) (hn : nl (sDrop x (sDoom k s)) < 65536) : ∃ m', fm_X12_dropsBranch (sg s (2 + k) 0) m = some (0, m') ∧ RG m0 m' x (sDrop x (sDoom k s)) rh E H := by
  obtain ⟨d1, d2⟩ := doom_d hI hAB hN hW k0 k1
  have e0 : ∀ i, sg (sDoom k s) 0 i = sg s 0 i := fun i => d1.1 0 i (by omega)
  have hR := h.e9 d1 hN
  refine drops_r (o := sg s (2 + k) 0) hR hF0 hE (fun j j0 j1 => ?_) (X.to (e0 _)) (w_doom k0 hW) (by rw [e0]; exact h30) (hA.to (e0 _) (e0 _)) (fun g1 g2 => by rw [e0] at g1 g2; exact hK g1 g2) (d1.cg.si hI) (fun j j0 j1 => ?_) (by rw [e0]; exact hb) hn (by rw [e0]; exact hov)
  · rw [e0] at j1
    obtain ⟨z1, z2, -⟩ := (h.br j0 j1).2.2.2.2.2.2.2 (hN j j0 j1)
    rw [d1.1 _ 7 (by omega), d1.1 _ 8 (by omega)]
    exact ⟨z1, fun q => z2 (by omega)⟩
  · rw [e0] at j1
    rw [d2 j j0 j1, d1.1 _ 0 (by omega)]
    exact (blw_cg d1.cg.2.2.2.2).symm
/-- a rival that is not there is told as none -/
theorem RR.rn (h : RR m0 m x s rh E H) (h0 : 0 ≤ k) (h1 : k < sg s 0 5) (hv : sg s (2 + k) 3 < sg s 0 6) (hn : ∀ i : Int, 0 ≤ i → i < sg s 0 5 → sg s (2 + i) 0 ≠ sg s (2 + k) 3) : RR m0 (mset m 149 k (-1)) x s rh E H := by
  obtain ⟨b1, b2, b3, b4, b5, b6, b7, b8⟩ := h.br h0 h1
  have em : ∀ p q : Int, ¬ (143 ≤ p ∧ p ≤ 151 ∧ q = k) → mset m 149 k (-1) p q = m p q := fun p q hh => if_neg (by omega)
  have ek : ∀ p : Int, p ≠ 149 → mset m 149 k (-1) p k = m p k := fun p q1 => ms_a q1
  refine h.bup h0 h1 em (fun _ _ _ => rfl) (fun _ _ => rfl) rfl rfl ⟨?_, ?_, ?_, ?_, ?_, ?_, b7, fun g => ?_⟩
  · rw [ek _ (by decide)]; exact b1
  · rw [ek _ (by decide)]; exact b2
  · rw [ek _ (by decide)]; exact b3
  · rw [ek _ (by decide)]; exact b4
  · rw [ek _ (by decide)]; exact h.chk em b5
  · exact Or.inr ⟨ms_e, hv, hn⟩
  · rw [ek _ (by decide), ek _ (by decide), ek _ (by decide)]
    exact b8 g
theorem drop1_ng (hg : ¬ goes s = true) : ∀ (n : Nat) (k : Int), sDrop1 x n k s = s := by
  intro n
  cases n with
  | zero => intro k; rfl
  | succ n =>
    intro k
    unfold sDrop1
    rw [if_neg hg]
    split <;> rfl
theorem drop_ng (hg : ¬ goes s = true) : sg (sDrop x s) 0 30 = sg s 0 30 ∧ sg (sDrop x s) 0 31 = sg s 0 31 ∧ sg (sDrop x s) 0 10 = sg s 0 10 ∧ sg (sDrop x s) 0 12 = sg s 0 12 ∧ sg (sDrop x s) 0 9 = sg s 0 9 := by
  have e : sDrop x s = sDrop2 13 (sg s 0 5 - 1) s := by
    unfold sDrop
    simp only
    rw [drop1_ng hg]
  rw [e]
  obtain ⟨g1, g2, g3, g4⟩ := drop2_s 13 (sg s 0 5 - 1) s
  exact ⟨u_drop2 _ _ _, g1, g2, g3, g4⟩
theorem find_none (h : find s v = -1) (h5 : sg s 0 5 ≤ 12) : ∀ i : Int, 0 ≤ i → i < sg s 0 5 → sg s (2 + i) 0 ≠ v := fun i i0 i1 => sFind_n h5 12 0 (by decide) rfl h i i0 i1
theorem rl11 (L : LB m0 m x s rh E H B k) (X : RX m0 x G r ty ver rh rc s) (hF0 : Fix m0) (hE : 12 ≤ E) (hx5 : x.1 5 ≤ 24) (hI : SI s) (hAB : AB s) (hN : ND s) (hRI : RI s) (hov : sg s 0 9 = 0) (hb : sg s 0 6 ≤ 196608) (hK : KI x s (sLine x k 11 a b s) rc) (hnl : nl (sLine x k 11 a b s) < 65536) : ∃ m', dsL k (sg s (2 + k) 4) 11 a b m = some (0, m') ∧ RG m0 m' x (sLine x k 11 a b s) rh E H := by
  obtain ⟨h, hW, h30, hA, ⟨k0, k1⟩, h7, h9, hl, hn, hH⟩ := L
  have hb4 := (hW.br k0 k1).2.1
  have hbn := (hW.br k0 k1).1
  have h5 := hW.2.2.2.2.2.2.2.1
  have hs := X.2.2.2.1
  have hNN := X.1.2.2.2.2.2.2.2.2.1
  have h1 := h.nx (l := sg s (2 + k) 4 + 1) k0 k1 h7 h9
  have hW1 := hW.go (k := k) (l := sg s (2 + k) 4 + 1) k0 (by omega) (by omega)
  have hA1 := hA.go (k := k) (l := sg s (2 + k) 4 + 1) k0
  have g0 : ∀ q, sg (sGo k (sg s (2 + k) 4 + 1) s) 0 q = sg s 0 q := fun q => by rw [go_g, if_neg (by omega), if_neg (by omega)]
  have gs : ∀ i q : Int, q ≠ 4 → q ≠ 7 → sg (sGo k (sg s (2 + k) 4 + 1) s) (2 + i) q = sg s (2 + i) q := fun i q q1 q2 => by rw [go_g, if_neg (by omega), if_neg (by omega)]
  have cg1 : Cg s (sGo k (sg s (2 + k) 4 + 1) s) := Cg.go k0
  have hI1 := cg1.si hI
  have hAB1 := cg1.ab hAB
  have hN1 := cg1.nd (fun i _ => gs i 9 (by decide) (by decide)) hN
  have hR1 := cg1.ri (fun i _ => Or.inl (gs i 3 (by decide) (by decide))) (by omega) hRI
  have hX1 := X.to (g0 10)
  have e4k : sg (sGo k (sg s (2 + k) 4 + 1) s) (2 + k) 4 = sg s (2 + k) 4 + 1 := by rw [go_g, if_pos ⟨rfl, rfl⟩]
  have e0k := gs k 0 (by decide) (by decide)
  have e3k := gs k 3 (by decide) (by decide)
  have efi : find (sGo k (sg s (2 + k) 4 + 1) s) (sg s (2 + k) 3) = find s (sg s (2 + k) 3) := cg1.find
  rw [sl11] at hK hnl ⊢
  rw [ds11]
  suffices hsuf : ∃ m', fm_X12_wins k m = some (0, m') ∧ RG m0 m' x (sDrop x (sWin x k (sGo k (sg s (2 + k) 4 + 1) s))) rh E H by
    obtain ⟨m', z1, z2⟩ := hsuf
    exact ⟨m', by rw [bd_t z1], z2⟩
  have hKs : KI x (sGo k (sg s (2 + k) 4 + 1) s) (sDrop x (sWin x k (sGo k (sg s (2 + k) 4 + 1) s))) rc := fun g1 g2 => by rw [g0] at g1 g2; exact hK g1 g2
  have e144 := (h.br k0 k1).2.1
  have e143 := (h.br k0 k1).1
  have hrv := (h.br k0 k1).2.2.2.2.2.1
  have e30 : sg (sGo k (sg s (2 + k) 4 + 1) s) 0 30 = 0 := by rw [g0]; exact h30
  have e9 : sg (sGo k (sg s (2 + k) 4 + 1) s) 0 9 = 0 := by rw [g0]; exact hov
  have e5 := g0 5
  have e6 := g0 6
  clear hK
  generalize sGo k (sg s (2 + k) 4 + 1) s = s1 at *
  have m149 : mset m 144 k (sg s (2 + k) 4 + 1) 149 k = m 149 k := ms_a (by decide)
  -- no rival is there
  have none : find s (sg s (2 + k) 3) = -1 → ∃ m', fj_X12_wins_28 k (sg s (2 + k) 0) (m 149 k) (-1) m = some (0, m') ∧ RG m0 m' x (sDrop x (sWin x k s1)) rh E H := by
    intro hf
    have hw : sWin x k s1 = s1 := by
      unfold sWin
      rw [e3k, efi, hf]
      exact if_pos (by decide)
    rw [hw, drop_nd hN1]
    refine ⟨mset (mset m 144 k (sg s (2 + k) 4 + 1)) 149 k (-1), ?_, Or.inl ⟨e30, h1.rn k0 (by omega) (hR1 k k0 (by omega)) ?_⟩, hA1⟩
    · unfold fj_X12_wins_28
      simp only [lx_p, up_t]
      rw [gd_t ⟨k0, by omega⟩, e144, w32_id (by omega) (by omega), if_pos trivial]
    · rw [e3k]
      exact find_none (by rw [efi]; exact hf) (by omega)
  unfold fm_X12_wins
  rw [gd_t ⟨k0, by omega⟩, lx_p, lx_p, e143]
  by_cases cm : m 149 k = -1
  · rw [if_pos cm]
    refine none ?_
    rcases hrv with g | ⟨g1, g2, g3⟩
    · rw [cm] at g
      rw [← g]
      refine find_n fun i i0 i1 => ?_
      have := (hW.br i0 i1).1.1
      omega
    · exact find_n g3
  · rw [if_neg cm]
    have hv : m 149 k = sg s (2 + k) 3 := by
      rcases hrv with g | ⟨g1, -, -⟩
      · exact g
      · exact absurd g1 cm
    rw [bp_t (slot_r h hI), hv]
    rcases find_b (s := s) (v := sg s (2 + k) 3) with g | ⟨f0, f1, f2⟩
    · obtain ⟨m', z1, z2⟩ := none g
      rw [hv] at z1
      rw [g]
      exact ⟨m', z1, z2⟩
    · have hf1 : find s1 (sg s1 (2 + k) 3) = find s (sg s (2 + k) 3) := by rw [e3k, efi]
      have num_f : sg s1 (2 + find s (sg s (2 + k) 3)) 0 = sg s (2 + k) 3 := by rw [cg1.2.2.1 _ f0]; exact f2
      unfold sWin at hKs hnl ⊢
      simp only at hKs hnl ⊢
      rw [hf1] at hKs hnl ⊢
      rw [if_neg (by omega)] at hKs hnl ⊢
      have hd : fj_X12_wins_28 k (sg s (2 + k) 0) (sg s (2 + k) 3) (find s (sg s (2 + k) 3)) m = (if sg s1 (-1) (sg s (2 + k) 0) = sg s (2 + k) 3 then (bd (fm_X12_lets (find s (sg s (2 + k) 3)) (mset (mset (mset m 144 k (sg s (2 + k) 4 + 1)) 149 k (-1)) 149 (find s (sg s (2 + k) 3)) (-1))) fun x_133 m_134 =>
up m_134 144 (find s (sg s (2 + k) 3)) (sg s (2 + k) 4 + 1) fun m_147 =>
bp (fm_X12_goes m_147) fun x_155 =>
if x_155 = 0 then
some (0, m_147)
else
bd (fm_X12_dropsBranch (sg s (2 + k) 0) m_147) fun x_165 m_166 =>
some (0, m_166)) else bd (fm_X12_dropsBranch (sg s (2 + k) 3) (mset (mset (mset m 144 k (sg s (2 + k) 4 + 1)) 149 k (-1)) 149 (find s (sg s (2 + k) 3)) (-1))) fun x_107 m_108 => some (0, m_108)) := by
        unfold fj_X12_wins_28
        simp only [lx_p, up_t]
        have p152 : mset (mset (mset m 144 k (sg s (2 + k) 4 + 1)) 149 k (-1)) 149 (find s (sg s (2 + k) 3)) (-1) 152 (sg s (2 + k) 0) = sg s1 (-1) (sg s (2 + k) 0) := by
          rw [ms_a (by decide), ms_a (by decide)]
          exact h1.2.2.2.1 _ hbn.1 (by omega)
        have p144 : mset (mset (mset m 144 k (sg s (2 + k) 4 + 1)) 149 k (-1)) 149 (find s (sg s (2 + k) 3)) (-1) 144 k = sg s (2 + k) 4 + 1 := by
          rw [ms_a (by decide), ms_a (by decide), ms_e]
        rw [gd_t ⟨k0, by omega⟩, e144, w32_id (by omega) (by omega), if_neg (by omega), gd_t ⟨f0, by omega⟩, gd_t ⟨hbn.1, by omega⟩, p152, p144]
      rw [hd]
      clear hd
      have w1 := h1.sl (a := 149) (sl := 3) (v := -1) (w := -1) (k := k) k0 (by omega) (Or.inr (Or.inr ⟨rfl, rfl, rfl⟩))
      have w2 := w1.sl (a := 149) (sl := 3) (v := -1) (w := -1) (k := find s (sg s (2 + k) 3)) f0 (by rw [st_g, if_neg (by omega)]; omega) (Or.inr (Or.inr ⟨rfl, rfl, rfl⟩))
      have hW2 := (hW1.s6 (k := k) (j := 3) (v := -1) k0 (Or.inr (Or.inr (Or.inl rfl)))).s6 (k := find s (sg s (2 + k) 3)) (j := 3) (v := -1) f0 (Or.inr (Or.inr (Or.inl rfl)))
      have hA2 := (hA1.st (a := 2 + k) (j := 3) (v := -1) (by omega)).st (a := 2 + find s (sg s (2 + k) 3)) (j := 3) (v := -1) (by omega)
      have es : ∀ p q : Int, (p < 2 ∨ q ≠ 3) → sg (st (st s1 (2 + k) 3 (-1)) (2 + find s (sg s (2 + k) 3)) 3 (-1)) p q = sg s1 p q := fun p q hh => by rw [st_g, if_neg (by omega), st_g, if_neg (by omega)]
      have cg2 : Cg s1 (st (st s1 (2 + k) 3 (-1)) (2 + find s (sg s (2 + k) 3)) 3 (-1)) := Cg.of fun p q hh => es p q (by omega)
      have hI2 := cg2.si hI1
      have hAB2 := cg2.ab hAB1
      have hN2 := cg2.nd (fun i _ => es _ 9 (by omega)) hN1
      have b7 : sg s1 (2 + k) 1 = sg s1 (-1) (sg s (2 + k) 0) := by rw [← e0k]; exact (h1.br k0 (by omega)).2.2.2.2.2.2.1
      rw [es (2 + find s (sg s (2 + k) 3)) 0 (by omega), es (2 + k) 1 (by omega), num_f, b7] at hKs hnl ⊢
      have n0 : sg (st (st s1 (2 + k) 3 (-1)) (2 + find s (sg s (2 + k) 3)) 3 (-1)) (2 + k) 0 = sg s (2 + k) 0 := by rw [es _ _ (by omega)]; exact e0k
      have nf : sg (st (st s1 (2 + k) 3 (-1)) (2 + find s (sg s (2 + k) 3)) 3 (-1)) (2 + find s (sg s (2 + k) 3)) 0 = sg s (2 + k) 3 := by rw [es _ _ (by omega)]; exact num_f
      have n4 : sg (st (st s1 (2 + k) 3 (-1)) (2 + find s (sg s (2 + k) 3)) 3 (-1)) (2 + k) 4 = sg s (2 + k) 4 + 1 := by rw [es _ _ (by omega)]; exact e4k
      have z30 : sg (st (st s1 (2 + k) 3 (-1)) (2 + find s (sg s (2 + k) 3)) 3 (-1)) 0 30 = 0 := by rw [es _ _ (by omega)]; exact e30
      have z9 : sg (st (st s1 (2 + k) 3 (-1)) (2 + find s (sg s (2 + k) 3)) 3 (-1)) 0 9 = 0 := by rw [es _ _ (by omega)]; exact e9
      have z5 : sg (st (st s1 (2 + k) 3 (-1)) (2 + find s (sg s (2 + k) 3)) 3 (-1)) 0 5 = sg s 0 5 := by rw [es _ _ (by omega)]; exact e5
      have z6 : sg (st (st s1 (2 + k) 3 (-1)) (2 + find s (sg s (2 + k) 3)) 3 (-1)) 0 6 = sg s 0 6 := by rw [es _ _ (by omega)]; exact e6
      have z10 : sg (st (st s1 (2 + k) 3 (-1)) (2 + find s (sg s (2 + k) 3)) 3 (-1)) 0 10 = sg s1 0 10 := es _ _ (by omega)
      have hX2 := hX1.to z10
      have hK2 : ∀ S : TS, KI x s1 S rc → KI x (st (st s1 (2 + k) 3 (-1)) (2 + find s (sg s (2 + k) 3)) 3 (-1)) S rc := fun S q g1 g2 => q (by rw [← z10]; exact g1) (by rw [← z10]; exact g2)
      generalize find s (sg s (2 + k) 3) = f at *
      generalize st (st s1 (2 + k) 3 (-1)) (2 + f) 3 (-1) = s2 at *
      generalize mset (mset (mset m 144 k (sg s (2 + k) 4 + 1)) 149 k (-1)) 149 f (-1) = m3 at *
      by_cases cp : sg s1 (-1) (sg s (2 + k) 0) = sg s (2 + k) 3
      · rw [if_pos cp] at *
        rw [if_pos cp.symm] at hKs hnl ⊢
        -- what the parent waits for is dropped
        have hfin : (if sg s2 (2 + f) 7 = 1 ∨ sg s2 (2 + f) 7 = 2 then (match sCmd x 11 (sg s2 (2 + f) 8) 0 s2 with
            | (r, s2') => if r < 0 then s2' else sDoom k (sGo f (sg s2' (2 + k) 4) s2')) else sDoom k (sGo f (sg s2 (2 + k) 4) s2)) = if sg (sLet x f s2) 0 30 = 0 then sDoom k (sGo f (sg s (2 + k) 4 + 1) (sLet x f s2)) else sLet x f s2 := by
          have e4' : sg (sLet x f s2) (2 + k) 4 = sg s (2 + k) 4 + 1 := (let_g (Or.inl (by omega))).trans n4
          unfold sLet at e4' ⊢
          by_cases cw : sg s2 (2 + f) 7 = 1 ∨ sg s2 (2 + f) 7 = 2
          · rw [if_pos cw] at e4' ⊢
            rw [if_pos cw]
            have hng := cmd_neg (k := 11) (a := sg s2 (2 + f) 8) (b := 0) hW2 hs hNN.1 z30
            have hrr := cmd_r (c := 11) (a := sg s2 (2 + f) 8) (b := 0) hW2 hs hNN.1
            show (if (sCmd x 11 (sg s2 (2 + f) 8) 0 s2).1 < 0 then (sCmd x 11 (sg s2 (2 + f) 8) 0 s2).2 else sDoom k (sGo f (sg (sCmd x 11 (sg s2 (2 + f) 8) 0 s2).2 (2 + k) 4) (sCmd x 11 (sg s2 (2 + f) 8) 0 s2).2)) = _
            by_cases cn : (sCmd x 11 (sg s2 (2 + f) 8) 0 s2).1 < 0
            · have := hng.mp cn
              rw [if_pos cn, if_neg (by omega)]
            · have : sg (sCmd x 11 (sg s2 (2 + f) 8) 0 s2).2 0 30 = 0 := by
                rcases hrr with ⟨g, -, -⟩ | ⟨-, -, g, -⟩
                · omega
                · omega
              rw [if_neg cn, if_pos this, e4']
          · rw [if_neg cw, if_neg cw, if_pos z30, n4]
        rw [hfin] at hKs hnl ⊢
        obtain ⟨b1, b2, -⟩ := (w2.br f0 (by omega)).2.2.2.2.2.2.2 (hN2 f f0 (by omega))
        have u1 : sg (sDrop x (if sg (sLet x f s2) 0 30 = 0 then sDoom k (sGo f (sg s (2 + k) 4 + 1) (sLet x f s2)) else sLet x f s2)) 0 30 = 0 → sg (sLet x f s2) 0 30 = 0 := fun g => by
          have := u_drop g
          by_cases q : sg (sLet x f s2) 0 30 = 0
          · exact q
          · rw [if_neg q] at this; exact this
        have nl1 : nl (sLet x f s2) ≤ nl (sDrop x (if sg (sLet x f s2) 0 30 = 0 then sDoom k (sGo f (sg s (2 + k) 4 + 1) (sLet x f s2)) else sLet x f s2)) := by
          have nld : ∀ s : TS, nl s ≤ nl (sDrop x s) := fun s => by
            have : nl (sDrop x s) = nl (sDrop1 x 13 0 s) := nl_drop2 _ _ _
            rw [this]
            exact nl_drop1 _ _ _
          refine Int.le_trans ?_ (nld _)
          split
          · have : nl (sDoom k (sGo f (sg s (2 + k) 4 + 1) (sLet x f s2))) = nl (sLet x f s2) := by
              unfold nl sDoom
              rw [(sn_doomL _ _ _).1]
              rfl
            omega
          · exact Int.le_refl _
        obtain ⟨m4, c1, c2, c3⟩ := lets_0 w2 hX2 hW2 z30 hA2 (fun g1 g2 => u1 (hKs (by rw [← z10]; exact g1) (by rw [← z10]; exact g2))) f0 (by omega) (Int.lt_of_le_of_lt (Int.le_trans nl_let nl1) hnl) b1 (fun q => b2 (by omega))
        rw [bd_t c1, up_t]
        have l10 : sg (sLet x f s2) 0 10 = sg s2 0 10 := let_g (by omega)
        rcases c2 with ⟨g30, g⟩ | g
        · rw [if_pos g30] at hKs hnl ⊢
          have l5 : sg (sLet x f s2) 0 5 = sg s 0 5 := (let_g (by omega)).trans z5
          have hg5 := g.go (k := f) (l := sg s (2 + k) 4 + 1) f0 (by omega)
          have q0 : ∀ q, sg (sGo f (sg s (2 + k) 4 + 1) (sLet x f s2)) 0 q = sg (sLet x f s2) 0 q := fun q => by rw [go_g, if_neg (by omega), if_neg (by omega)]
          have cg3 : Cg s2 (sGo f (sg s (2 + k) 4 + 1) (sLet x f s2)) := Cg.lt.tr (Cg.go f0)
          have hgo : fm_X12_goes (mset (mset m4 145 f 0) 144 f (sg s (2 + k) 4 + 1)) = some 1 := by
            rw [goes_r (Or.inl ⟨by rw [q0]; exact g30, hg5⟩)]
            unfold goes
            rw [q0, q0, g30, show sg (sLet x f s2) 0 9 = 0 from (let_g (by omega)).trans z9]
            rfl
          rw [bp_t hgo, if_neg (by decide)]
          obtain ⟨m', z1, z2⟩ := doomdrop_r (k := k) hg5 hF0 hE (hX2.to ((q0 10).trans l10)) ((w_let hs hW2).go f0 (by omega) (by omega)) (by rw [q0]; exact g30) (c3.go f0) (by rw [q0]; exact (let_g (by omega)).trans z9) (cg3.si hI2) (cg3.ab hAB2) (cg3.nd (fun i i0 => by rw [go_g, if_neg (by omega), if_neg (by omega)]; exact let_g (Or.inl (by omega))) hN2) (by rw [cg3.2.1]; omega) k0 (by rw [cg3.1]; omega) (fun g1 g2 => hKs (by rw [q0, l10, z10] at g1; exact g1) (by rw [q0, l10, z10] at g2; exact g2)) hnl
          rw [show sg (sGo f (sg s (2 + k) 4 + 1) (sLet x f s2)) (2 + k) 0 = sg s (2 + k) 0 from (cg3.2.2.1 k k0).trans n0] at z1
          rw [bd_t z1]
          exact ⟨m', rfl, z2⟩
        · have g1 := g.2.1
          rw [if_neg (by omega)] at hKs hnl ⊢
          have hst : RE m0 (mset (mset m4 145 f 0) 144 f (sg s (2 + k) 4 + 1)) x (sLet x f s2) rh E H := ((RE.stp (Or.inr g) g1 (mtb1 (by decide) (by decide) f0) (by decide)).stp g1 (mtb1 (by decide) (by decide) f0) (by decide))
          have hng : ¬ goes (sLet x f s2) = true := fun z => by have := (goes_s z).1; omega
          obtain ⟨d1, d2, d3, d4, d5⟩ := drop_ng (x := x) hng
          rw [bp_t (goes_r hst), if_neg hng, if_pos rfl]
          exact ⟨_, rfl, hst.any g1 (by rw [d1]; exact g1) d2, c3.to d3 d4⟩
      · rw [if_neg cp]
        rw [if_neg (fun g => cp g.symm)] at hKs hnl ⊢
        obtain ⟨m', z1, z2⟩ := doomdrop_r (k := f) w2 hF0 hE hX2 hW2 z30 hA2 z9 hI2 hAB2 hN2 (by omega) f0 (by omega) (hK2 _ hKs) hnl
        rw [nf] at z1
        rw [bd_t z1]
        exact ⟨m', rfl, z2⟩
end RF20
