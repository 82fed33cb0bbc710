/-! THE TELLING in the reference: line 10. -/
section RF18
variable {m0 m m' : MM} {x : CX} {s s' : TS} {B H : Int} {a b c e i j v k h n l w p r t o rh E ty ver rc : Int} {G : Int → Nat}
/-- a rival was begun -/
def RI (s : TS) : Prop := ∀ k : Int, 0 ≤ k → k < sg s 0 5 → sg s (2 + k) 3 < sg s 0 6
theorem find_ge (h : sg s 0 5 ≤ k) : ∀ n : Nat, sFind s j v n k = -1 := by
  intro n
  cases n with
  | zero => rfl
  | succ n => unfold sFind; rw [if_neg (by omega)]
theorem begin_5 : sg (sBegin p l s) 0 5 = sg s 0 5 + 1 := by rw [begin_g (by decide), if_neg (by omega), if_pos ⟨rfl, rfl⟩]
theorem begin_6 : sg (sBegin p l s) 0 6 = sg s 0 6 + 1 := by rw [begin_g (by decide), if_pos ⟨rfl, rfl⟩]
theorem begin_b {q : Int} (h0 : 0 ≤ k) (h1 : k < sg s 0 5) : sg (sBegin p l s) (2 + k) q = sg s (2 + k) q := by rw [begin_g (by omega), if_neg (by omega), if_neg (by omega), if_neg (by omega)]
theorem begin_n {q : Int} (h5 : 0 ≤ sg s 0 5) : sg (sBegin p l s) (2 + sg s 0 5) q = newB (sg s 0 6) p l q := by rw [begin_g (by omega), if_neg (by omega), if_neg (by omega), if_pos rfl]
theorem begin_p (h5 : 0 ≤ sg s 0 5) : sg (sBegin p l s) (-1) n = if n = sg s 0 6 then p else sg s (-1) n := by
  show (if (-1 : Int) = 0 ∧ n = 6 then sg s 0 6 + 1 else if (-1 : Int) = 0 ∧ n = 5 then sg s 0 5 + 1 else if (-1 : Int) = 2 + sg s 0 5 then (if n = 0 then sg s 0 6 else if n = 1 then p else if n = 2 then p else if n = 3 then -1 else if n = 4 then l else 0) else if (-1 : Int) = -1 ∧ n = sg s 0 6 then p else s.1 (-1) n) = _
  rw [if_neg (by omega), if_neg (by omega), if_neg (by omega)]
  by_cases c : n = sg s 0 6
  · rw [if_pos ⟨rfl, c⟩, if_pos c]
  · rw [if_neg (fun g => c g.2), if_neg c]
    rfl
theorem find_begin (h0 : 0 ≤ sg s 0 5) (hv : v ≠ sg s 0 6) : find (sBegin p l s) v = find s v := by
  have key : ∀ (n : Nat) (k : Int), 0 ≤ k → sFind (sBegin p l s) 0 v n k = sFind s 0 v n k := by
    intro n
    induction n with
    | zero => intro k _; rfl
    | succ n ih =>
      intro k hk
      unfold sFind
      rw [begin_5]
      by_cases c : k < sg s 0 5
      · rw [if_pos (by omega), if_pos c, begin_b hk c]
        split
        · rfl
        · exact ih _ (by omega)
      · rw [if_neg c]
        by_cases c2 : k < sg s 0 5 + 1
        · have hk5 : k = sg s 0 5 := by omega
          have e : sg (sBegin p l s) (2 + k) 0 = sg s 0 6 := by rw [hk5, begin_n h0]; rfl
          rw [if_pos c2, e, if_neg (fun hh => hv hh.symm)]
          exact find_ge (by rw [begin_5]; omega) n
        · rw [if_neg c2]
  exact key 12 0 (by decide)
theorem find_n (h : ∀ i : Int, 0 ≤ i → i < sg s 0 5 → sg s (2 + i) 0 ≠ v) : find s v = -1 := by
  rcases find_b (s := s) (v := v) with g | ⟨g1, g2, g3⟩
  · exact g
  · exact absurd g3 (h _ g1 g2)
theorem find_st {q : Int} (h : a ≠ 0 ∨ q ≠ 5) (hq : a < 2 ∨ q ≠ 0) : find (st s a q w) v = find s v := by
  have key : ∀ (n : Nat) (k : Int), 0 ≤ k → sFind (st s a q w) 0 v n k = sFind s 0 v n k := by
    intro n
    induction n with
    | zero => intro k _; rfl
    | succ n ih =>
      intro k hk
      have e5 : sg (st s a q w) 0 5 = sg s 0 5 := by rw [st_g, if_neg (by omega)]
      have e0 : sg (st s a q w) (2 + k) 0 = sg s (2 + k) 0 := by rw [st_g, if_neg (by omega)]
      unfold sFind
      rw [e5, e0, ih _ (by omega)]
  exact key 12 0 (by decide)
theorem find_go : find (sGo k l s) v = find s v ∨ k < 0 := by
  by_cases hk : k < 0
  · exact Or.inr hk
  · left
    unfold sGo
    rw [find_st (by omega) (by omega), find_st (by omega) (by omega)]
theorem begin_st {q : Int} (h0 : 0 ≤ k) (h1 : k < sg s 0 5) : sBegin p l (st s (2 + k) q w) = st (sBegin p l s) (2 + k) q w := by
  have e5 : sg (st s (2 + k) q w) 0 5 = sg s 0 5 := by rw [st_g, if_neg (by omega)]
  have e6 : sg (st s (2 + k) q w) 0 6 = sg s 0 6 := by rw [st_g, if_neg (by omega)]
  refine Prod.ext ?_ ?_
  · funext a i
    show sg (sBegin p l (st s (2 + k) q w)) a i = sg (st (sBegin p l s) (2 + k) q w) a i
    by_cases ha : a = -1
    · subst ha
      have e1 : sg (st s (2 + k) q w) (-1) i = sg s (-1) i := by rw [st_g, if_neg (by omega)]
      rw [st_g, if_neg (by omega), begin_p (by omega), begin_p (by omega), e6, e1]
    · have e1 : sg (st s (2 + k) q w) a i = if a = 2 + k ∧ i = q then w else sg s a i := st_g
      have e2 : sg (st (sBegin p l s) (2 + k) q w) a i = if a = 2 + k ∧ i = q then w else sg (sBegin p l s) a i := st_g
      rw [e2, begin_g ha, begin_g ha, e5, e6, e1]
      by_cases c1 : a = 0 ∧ i = 6
      · rw [if_pos c1, if_pos c1, if_neg (by omega)]
      · rw [if_neg c1, if_neg c1]
        by_cases c2 : a = 0 ∧ i = 5
        · rw [if_pos c2, if_pos c2, if_neg (by omega)]
        · rw [if_neg c2, if_neg c2]
          by_cases c3 : a = 2 + sg s 0 5
          · rw [if_pos c3, if_pos c3, if_neg (by omega)]
          · rw [if_neg c3, if_neg c3]
  · show (sBegin p l (st s (2 + k) q w)).2 = (sBegin p l s).2
    unfold sBegin
    rw [e5]
    rfl
theorem rl10 (L : LB m0 m x s rh E H B k) (hx5 : x.1 5 ≤ 24) (hE : 12 ≤ E) (hI : SI s) (hR : RI s) (a0 : 0 ≤ a) (a1 : a ≤ 23) : ∃ m', dsL k (sg s (2 + k) 4) 10 a b m = some (0, m') ∧ RG m0 m' x (sLine x k 10 a b s) rh E (H + 1) := by
  obtain ⟨h, hW, h30, hA, ⟨k0, k1⟩, h7, h9, hl, hn, hH⟩ := L
  have hb4 := (hW.br k0 k1).2.1
  have h5 := hW.2.2.2.2.2.2.2.1
  have h1 := h.nx (l := sg s (2 + k) 4 + 1) k0 k1 h7 h9
  have hW1 := hW.go (k := k) (l := sg s (2 + k) 4 + 1) k0 (by omega) (by omega)
  have hA1 := hA.go (k := k) (l := sg s (2 + k) 4 + 1) k0
  have hH6 := h.2.2.2.2.2.2.2.2.2.2.2
  have g0 : ∀ q, sg (sGo k (sg s (2 + k) 4 + 1) s) 0 q = sg s 0 q := fun q => by rw [go_g, if_neg (by omega), if_neg (by omega)]
  have gs : ∀ i q : Int, q ≠ 4 → q ≠ 7 → sg (sGo k (sg s (2 + k) 4 + 1) s) (2 + i) q = sg s (2 + i) q := fun i q q1 q2 => by rw [go_g, if_neg (by omega), if_neg (by omega)]
  have hI1 : SI (sGo k (sg s (2 + k) 4 + 1) s) := by
    refine ⟨fun i j i0 i1 i2 => ?_, fun n n0 n1 => ?_⟩
    · rw [gs _ _ (by decide) (by decide), gs _ _ (by decide) (by decide)]
      exact hI.1 i j i0 i1 (by rw [g0] at i2; exact i2)
    · rw [g0] at n1
      rw [go_g, if_neg (by omega), if_neg (by omega)]
      exact hI.2 n n0 n1
  rw [ds10, sl10]
  simp only [up_t]
  rw [w32_id (by omega) (by omega)]
  generalize hM : mset m 144 k (sg s (2 + k) 4 + 1) = m1 at h1
  have e30 : sg (sGo k (sg s (2 + k) 4 + 1) s) 0 30 = 0 := by rw [g0]; exact h30
  have r3 : sg (sGo k (sg s (2 + k) 4 + 1) s) (2 + k) 3 < sg s 0 6 := by rw [gs _ _ (by decide) (by decide)]; exact hR k k0 k1
  have k1' : k < sg (sGo k (sg s (2 + k) 4 + 1) s) 0 5 := by rw [g0]; exact k1
  have e6 := g0 6
  have e5 := g0 5
  generalize sGo k (sg s (2 + k) 4 + 1) s = s1 at h1 hW1 hA1 hI1 e30 r3 k1' e5 e6
  have hbr := h1.br k0 k1'
  have e143 : m1 143 k = sg s1 (2 + k) 0 := hbr.1
  -- what is done behind the parting from an old rival
  have fin : ∀ (m2 : MM) (s2 : TS), RR m0 m2 x s2 rh E H → SW x s2 B → A2 x s2 rh → sg s2 0 30 = 0 → sg s2 0 5 = sg s1 0 5 → sg s2 0 6 = sg s1 0 6 → sg s2 (2 + k) 0 = sg s1 (2 + k) 0 → (sg s1 0 5 < 12 → (if find (sBegin (sg s1 (2 + k) 0) a s1) (sg (sBegin (sg s1 (2 + k) 0) a s1) (2 + k) 3) < 0 then sBegin (sg s1 (2 + k) 0) a s1 else st (sBegin (sg s1 (2 + k) 0) a s1) (2 + find (sBegin (sg s1 (2 + k) 0) a s1) (sg (sBegin (sg s1 (2 + k) 0) a s1) (2 + k) 3)) 3 (-1)) = sBegin (sg s1 (2 + k) 0) a s2) → ∃ m', (bd (fj_X12_races_37 k a m2) fun _ m_426 => some ((0 : Int), m_426)) = some (0, m') ∧ RG m0 m' x (sRace k a s1) rh E (H + 1) := by
    intro m2 s2 q1 q2 q3 q4 q5 q6 q7 q8
    have f143 : m2 143 k = sg s1 (2 + k) 0 := by rw [(q1.br k0 (by omega)).1]; exact q7
    unfold fj_X12_races_37 sRace
    rw [gd_t ⟨k0, by omega⟩, lx_p, f143]
    by_cases c : sg s1 0 5 < 12
    · rw [if_pos c]
      obtain ⟨m3, f1, f2⟩ := rbegin (l := a) (p := sg s1 (2 + k) 0) q1 q2 (by omega) (by omega) (by omega) hE
      have q8 := q8 c
      have b5 : sg (sBegin (sg s1 (2 + k) 0) a s2) 0 5 = sg s1 0 5 + 1 := by rw [begin_5, q5]
      have b30 : sg (sBegin (sg s1 (2 + k) 0) a s2) 0 30 = 0 := by rw [u_begin (by omega)]; exact q4
      have hAb : A2 x (sBegin (sg s1 (2 + k) 0) a s2) rh := q3.begin (by omega)
      simp only
      rw [q8]
      generalize sBegin (sg s1 (2 + k) 0) a s2 = s3 at f2 b5 b30 hAb
      have e114 : m3 68 114 = 0 := by rw [f2.2.1.2.2.2.2.2.2.1]; exact b30
      have e91 : m3 68 91 = sg s1 0 5 + 1 := by rw [f2.2.1.1]; exact b5
      have en : m3 143 (sg s1 0 5) = sg s3 (2 + sg s1 0 5) 0 := (f2.br (by omega) (by omega)).1
      have ekk : m3 143 k = sg s3 (2 + k) 0 := (f2.br k0 (by omega)).1
      have w1 := f2.sl (a := 149) (sl := 3) (v := sg s3 (2 + sg s1 0 5) 0) (w := sg s3 (2 + sg s1 0 5) 0) (k := k) k0 (by omega) (Or.inr (Or.inr ⟨rfl, rfl, rfl⟩))
      have w2 := w1.sl (a := 149) (sl := 3) (v := sg s3 (2 + k) 0) (w := sg s3 (2 + k) 0) (k := sg s1 0 5) (by omega) (by rw [st_g, if_neg (by omega)]; omega) (Or.inr (Or.inr ⟨rfl, rfl, rfl⟩))
      refine ⟨mset (mset m3 149 k (sg s3 (2 + sg s1 0 5) 0)) 149 (sg s1 0 5) (sg s3 (2 + k) 0), ?_, Or.inl ⟨by rw [u_st (by omega), u_st (by omega)]; exact b30, w2⟩, (hAb.st (by omega)).st (by omega)⟩
      rw [bd_t f1]
      simp only [lx_p, up_t]
      have f91 : mset m3 149 k (sg s3 (2 + sg s1 0 5) 0) 68 91 = sg s1 0 5 + 1 := by rw [ms_a (by decide)]; exact e91
      have f143' : mset m3 149 k (sg s3 (2 + sg s1 0 5) 0) 143 k = sg s3 (2 + k) 0 := by rw [ms_a (by decide)]; exact ekk
      rw [e114, if_pos rfl, e91, w32_id (z := sg s1 0 5 + 1 - 1) (by omega) (by omega), show sg s1 0 5 + 1 - 1 = sg s1 0 5 by omega, gd_t ⟨by omega, by omega⟩, en, f91, f143', w32_id (z := sg s1 0 5 + 1 - 1) (by omega) (by omega), show sg s1 0 5 + 1 - 1 = sg s1 0 5 by omega, gd_t ⟨by omega, by omega⟩, bd_t rfl]
    · rw [if_neg c]
      have hf := begins_full (a := a) (p := sg s1 (2 + k) 0) q1 (by omega)
      have hre := RE.stk (v := -1) q1
      refine ⟨mset (mset m2 68 114 1) 68 115 (-1), ?_, ?_, hA1.stk⟩
      · rw [bd_t hf]
        simp only [lx_p]
        rw [ms_j (by decide), ms_e, if_neg (by decide), bd_t rfl]
      · rcases hre with ⟨g, -⟩ | ⟨g1, g2, g3, g4, g5, g6⟩
        · exact absurd g (by show ¬ ((1 : Int) = 0); decide)
        · exact Or.inr ⟨g1, rfl, g3, by rw [ms_e]; rfl, g5, g6⟩
  have hrv := hbr.2.2.2.2.2.1
  unfold fm_X12_races
  rw [gd_t ⟨k0, by omega⟩, lx_p]
  have bg3 : sg (sBegin (sg s1 (2 + k) 0) a s1) (2 + k) 3 = sg s1 (2 + k) 3 := begin_b k0 k1'
  have hfb : find (sBegin (sg s1 (2 + k) 0) a s1) (sg s1 (2 + k) 3) = find s1 (sg s1 (2 + k) 3) := find_begin (by omega) (by omega)
  by_cases cm : m1 149 k = -1
  · rw [if_pos cm]
    have hf : find s1 (sg s1 (2 + k) 3) = -1 := by
      rcases hrv with g | ⟨g1, g2, g3⟩
      · rw [cm] at g
        rw [← g]
        refine find_n fun i i0 i1 => ?_
        have := (hW1.br i0 i1).1.1
        omega
      · exact find_n g3
    obtain ⟨m', z1, z2⟩ := fin m1 s1 h1 hW1 hA1 e30 rfl rfl rfl (fun _ => by rw [bg3, hfb, hf, if_pos (by decide)])
    refine ⟨m', ?_, z2⟩
    unfold fj_X12_races_24
    rw [if_pos rfl]
    exact z1
  · rw [if_neg cm]
    have hv : m1 149 k = sg s1 (2 + k) 3 := by
      rcases hrv with g | ⟨g1, -, -⟩
      · exact g
      · exact absurd g1 cm
    rw [bp_t (slot_r h1 hI1), hv]
    unfold fj_X12_races_24
    rcases find_b (s := s1) (v := sg s1 (2 + k) 3) with g | ⟨g1, g2, g3⟩
    · rw [g, if_pos rfl]
      exact fin m1 s1 h1 hW1 hA1 e30 rfl rfl rfl (fun _ => by rw [bg3, hfb, g, if_pos (by decide)])
    · rw [if_neg (by omega), gd_t ⟨g1, by omega⟩, up_t]
      refine fin _ (st s1 (2 + find s1 (sg s1 (2 + k) 3)) 3 (-1)) (h1.sl g1 g2 (Or.inr (Or.inr ⟨rfl, rfl, rfl⟩))) (hW1.s6 g1 (Or.inr (Or.inr (Or.inl rfl)))) (hA1.st (by omega)) (by rw [u_st (by omega)]; exact e30) (by rw [st_g, if_neg (by omega)]) (by rw [st_g, if_neg (by omega)]) (by rw [st_g, if_neg (by omega)]) (fun _ => ?_)
      rw [bg3, hfb, if_neg (by omega), begin_st g1 g2]
end RF18
