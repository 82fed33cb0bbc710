/-! THE TELLING in the reference: a run ends; a branch fails. -/
section RF8
variable {m0 m m' : MM} {x : CX} {s s' : TS} {B H : Int} {a b c e i j v k h n l w p r t o rh E ty ver rc : Int} {G : Int → Nat}
/-- what is fixed while an arrival is taken -/
def RX (m0 : MM) (x : CX) (G : Int → Nat) (r ty ver rh rc : Int) (s : TS) : Prop := RC m0 x G r ty ver rh rc ∧ MA x rh rc ∧ m0 68 117 = sg s 0 10 + 1 ∧ x.1 3 ≤ x.1 0 ∧ x.1 0 ≤ 458752 ∧ CodeW x
def RG (m0 m : MM) (x : CX) (s : TS) (rh E H : Int) : Prop := RE m0 m x s rh E H ∧ A2 x s rh
theorem RX.to (X : RX m0 x G r ty ver rh rc s) (e : sg s' 0 10 = sg s 0 10) : RX m0 x G r ty ver rh rc s' := by
  unfold RX at X ⊢
  rw [e]
  exact X
theorem A2.to (h : A2 x s rh) (e : sg s' 0 10 = sg s 0 10) (e2 : sg s' 0 12 = sg s 0 12) : A2 x s' rh := by
  unfold A2 at h ⊢
  rw [e, e2]
  exact h
theorem A2.st (h : A2 x s rh) (h1 : a ≠ 0 ∨ (j ≠ 10 ∧ j ≠ 12)) : A2 x (st s a j v) rh := h.to (by rw [st_g, if_neg (by omega)]) (by rw [st_g, if_neg (by omega)])
theorem A2.go (h : A2 x s rh) (hk : 0 ≤ k) : A2 x (sGo k l s) rh := h.to (by rw [go_g, if_neg (by omega), if_neg (by omega)]) (by rw [go_g, if_neg (by omega), if_neg (by omega)])
def sEndR (x : CX) (k a : Int) (s : TS) : TS := match sCmd x k a 0 s with
  | (r, s1) => if r < 0 then s1 else st s1 0 9 k
theorem endR_30 : sg (sEndR x k a s) 0 30 = sg (sCmd x k a 0 s).2 0 30 := by
  unfold sEndR
  show sg (if (sCmd x k a 0 s).1 < 0 then (sCmd x k a 0 s).2 else st (sCmd x k a 0 s).2 0 9 k) 0 30 = _
  split
  · rfl
  · rw [st_g, if_neg (by decide)]
theorem ends_r (h : RR m0 m x s rh E H) (X : RX m0 x G r ty ver rh rc s) (hW : SW x s B) (h30 : sg s 0 30 = 0) (hA : A2 x s rh) (hK : KI x s (sEndR x k a s) rc) (k0 : 8 ≤ k) (k1 : k ≤ 16) (a0 : 0 ≤ a) (a1 : a < 524288) (hn : nl s < 65536) : ∃ m', fm_X12_endsRun k a m = some (0, m') ∧ RG m0 m' x (sEndR x k a s) rh E H := by
  obtain ⟨R, A, ha, hs, hx, -⟩ := X
  obtain ⟨m1, z, c1, c2, c3, c4⟩ := rcmd (b := 0) h R A hW h30 ha hA (fun g1 g2 => by rw [← endR_30]; exact hK g1 g2) k0 k1 a0 a1 (by decide) (by decide) hn
  have hr := cmd_r (c := k) (a := a) (b := 0) hW hs R.2.2.2.2.2.2.2.2.1.1
  have hd : sEndR x k a s = if (sCmd x k a 0 s).1 < 0 then (sCmd x k a 0 s).2 else st (sCmd x k a 0 s).2 0 9 k := rfl
  rcases c2 with ⟨g30, g⟩ | g
  · have e114 : m1 68 114 = 0 := by rw [g.2.1.2.2.2.2.2.2.1]; exact g30
    have hz := c3 g30
    have hr0 : ¬ (sCmd x k a 0 s).1 < 0 := by
      rcases hr with ⟨-, q, -⟩ | ⟨q, -⟩ <;> omega
    refine ⟨mset m1 68 112 k, ?_, ?_, ?_⟩
    · unfold fm_X12_endsRun
      rw [bd_t c1]
      simp only [lx_p, up_t]
      rw [e114, if_pos rfl, hz, if_neg hr0]
    · rw [hd, if_neg hr0]
      exact Or.inl ⟨by rw [st_g, if_neg (by decide)]; exact g30, g.p0 (by omega)⟩
    · rw [hd, if_neg hr0]
      exact c4.st (by omega)
  · have e114 := g.2.2.1
    have hr0 : (sCmd x k a 0 s).1 < 0 := by
      have := g.2.1
      rcases hr with ⟨q, -, -⟩ | ⟨-, -, q, -⟩ <;> omega
    refine ⟨m1, ?_, ?_, ?_⟩
    · unfold fm_X12_endsRun
      rw [bd_t c1]
      simp only [lx_p, up_t]
      rw [e114, if_neg (by decide)]
    · rw [hd, if_pos hr0]
      exact Or.inr g
    · rw [hd, if_pos hr0]
      exact c4
theorem go_go : sGo k v (sGo k w s) = sGo k v s := by
  refine Prod.ext ?_ rfl
  funext b j
  show mset (mset (mset (mset s.1 (2 + k) 7 0) (2 + k) 4 w) (2 + k) 7 0) (2 + k) 4 v b j = mset (mset s.1 (2 + k) 7 0) (2 + k) 4 v b j
  unfold mset
  repeat' split
  all_goals first | rfl | omega
theorem sw_same : mset (mset m 145 k 0) 144 k (m 144 k) = mset m 145 k 0 := by
  funext b j
  unfold mset
  by_cases q : b = 144 ∧ j = k
  · rw [if_pos q, q.1, q.2, if_neg (by omega)]
  · rw [if_neg q]
theorem fails_idem : fm_X12_failsBranch k (mset m 145 k 0) = fm_X12_failsBranch k m := by
  have e : mset (mset m 145 k 0) 145 k 0 = mset m 145 k 0 := by
    funext b j
    unfold mset
    split <;> rfl
  unfold fm_X12_failsBranch
  simp only [up_t]
  rw [e]
theorem fails_r (h : RR m0 m x s rh E H) (X : RX m0 x G r ty ver rh rc s) (hW : SW x s B) (h30 : sg s 0 30 = 0) (hA : A2 x s rh) (hK : KI x s (sFail x k s) rc) (k0 : 0 ≤ k) (k1 : k < sg s 0 5) (hn : nl s < 65536) (hH : H ≤ 196608) : ∃ m', fm_X12_failsBranch k m = some (0, m') ∧ RG m0 m' x (sFail x k s) rh E H := by
  have hb := h.br k0 k1
  have h91 := h.n91
  have hc := hb.2.2.2.2.1
  have e148 : mset m 145 k 0 148 k = m 148 k := ms_a (by decide)
  cases hsh : sh s k with
  | nil =>
    rw [hsh] at hc
    have hc1 : m 148 k = -1 := hc
    have hd : sFail x k s = sEndR x 15 0 (sGo k (sg s (2 + k) 4) s) := by
      unfold sFail
      rw [hsh]
      rfl
    have hg := h.go (l := sg s (2 + k) 4) k0 k1
    rw [← hb.2.1, sw_same, hb.2.1] at hg
    have go0 : ∀ q, sg (sGo k (sg s (2 + k) 4) s) 0 q = sg s 0 q := fun q => by rw [go_g, if_neg (by omega), if_neg (by omega)]
    obtain ⟨m', f1, f2⟩ := ends_r (k := 15) (a := 0) hg (X.to (go0 _)) (hW.go k0 (hW.br k0 k1).2.1.1 (hW.br k0 k1).2.1.2) (by rw [go0]; exact h30) (hA.go k0) (fun g1 g2 => by
      rw [go0] at g1 g2
      rw [← hd]
      exact hK g1 g2) (by decide) (by decide) (by decide) (by decide) hn
    refine ⟨m', ?_, by rw [hd]; exact f2⟩
    unfold fm_X12_failsBranch
    simp only [lx_p, up_t]
    rw [gd_t ⟨k0, by omega⟩, e148, hc1, if_pos rfl, bd_t f1]
  | cons v t =>
    rw [hsh] at hc
    obtain ⟨g1, g2, g3, g4, h', g5, g6, g7, g8⟩ := hc
    have h103 := h.2.2.2.2.2.2.2.2.2.1
    have hd : sFail x k s = sth (sGo k v s) k t := by
      unfold sFail
      rw [hsh]
      show sth (sGo k v (sGo k (sg s (2 + k) 4) s)) k t = _
      rw [go_go]
    have hg := h.go (l := v) k0 k1
    have go0 : ∀ q, sg (sGo k v s) 0 q = sg s 0 q := fun q => by rw [go_g, if_neg (by omega), if_neg (by omega)]
    have hch : ChR (mset (mset m 145 k 0) 144 k v) t h' := g8.mono (by rw [ms_a (by decide), ms_a (by decide)]; exact Int.le_refl _) (fun q _ _ => by rw [ms_a (by decide), ms_a (by decide)])
    have hp := hg.hp (v := h') (tl := t) k0 (by rw [go0]; exact k1) hch
    refine ⟨_, ?_, by rw [hd]; exact Or.inl ⟨by show sg (sGo k v s) 0 30 = 0; rw [go0]; exact h30, hp⟩, by rw [hd]; exact (hA.go k0).to rfl rfl⟩
    have e153 : mset m 145 k 0 153 (m 148 k) = m 153 (m 148 k) := ms_a (by decide)
    have e148' : mset (mset m 145 k 0) 144 k v 148 k = m 148 k := by rw [ms_a (by decide)]; exact e148
    have e153' : mset (mset m 145 k 0) 144 k v 153 (m 148 k) = m 153 (m 148 k) := by rw [ms_a (by decide)]; exact e153
    have t1 : Int.tmod (24 * (h' + 1) + v) 24 = v := by
      rw [Int.tmod_eq_emod_of_nonneg (by omega)]
      omega
    have t2 : Int.tdiv (24 * (h' + 1) + v) 24 = h' + 1 := by
      rw [Int.tdiv_eq_ediv_of_nonneg (by omega)]
      omega
    unfold fm_X12_failsBranch
    simp only [lx_p, up_t]
    rw [gd_t ⟨k0, by omega⟩, e148, if_neg (by omega), gd_t ⟨g1, by omega⟩, e153, g7, t1, e148', gd_t ⟨g1, by omega⟩, e153', g7, t2, w32_id (z := h' + 1) (by omega) (by omega), w32_id (z := h' + 1 - 1) (by omega) (by omega), show h' + 1 - 1 = h' by omega]
end RF8
