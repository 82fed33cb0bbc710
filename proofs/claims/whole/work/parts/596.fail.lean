/-! THE TELLING: the class's branches go on, wait, fail; CANCEL is told. -/
section FAI
variable {m0 m m' : MM} {x : CX} {s : TS} {B : Int} {a b c j v k h n l w : Int} {W : List (Int × Int × Int)}
def noW (W : List (Int × Int × Int)) (a kd : Int) : Bool := W.all fun q => !(q.1 == 0 && q.2.1 == a) && (!(q.1 == 1 && q.2.1 == kd) && !(q.1 == 3 && q.2.1 == kd))
theorem Fr.keep {kd : Nat} (f : Fr W 0 m m') (ho : okc m a kd) (h : noW W a kd = true) (hj : 0 ≤ j) : m' a j = m a j := by
  refine f.2.2.2.1 a j ho.1 ho.2.1 hj fun hw => ?_
  rcases hw with h0 | ⟨q, hq, h1, -⟩
  · have := ho.1
    omega
  · have h2 := List.all_eq_true.mp h q hq
    simp only [Bool.and_eq_true, Bool.not_eq_true', Bool.and_eq_false_iff, beq_eq_false_iff_ne] at h2
    have h3 := ho.2.2
    rcases h1 with ⟨g1, g2⟩ | ⟨g1, g2⟩ | ⟨g1, g2, -⟩
    · rcases h2.1 with g | g
      · exact g g1
      · exact g g2.symm
    · rcases h2.2.1 with g | g
      · exact g g1
      · exact g (by omega)
    · rcases h2.2.2 with g | g
      · exact g g1
      · exact g (by omega)
theorem ok19 (hF : Fix m) : okc m 19 103 := fx_kF hF (by decide +kernel)
theorem cmd19 (hF : Fix m) {r : Int} (h : fm_X4_command a b c m = some (r, m')) (hj : 0 ≤ j) : m' 19 j = m 19 j := (fw_X4_command hF h).keep (ok19 hF) (by decide +kernel) hj
theorem go_e (hC : CR m0 m s B) (hk : 0 ≤ k) (hk2 : k < sg s 0 5) (hb : m 19 k = b) : ∃ m', fm_X1_goOnAt b l m = some (0, m') ∧ CR m0 m' (sGo k l s) B ∧ ∀ i, m' 19 i = m 19 i := by
  have ho := hC.ob hk (by have := hC.th.2.2; omega)
  subst hb
  have h1 := hC.pB (j := 7) (v := 0) hk hk2 (by decide) (by decide)
  have e19 : ∀ i, mset m (m 19 k) 7 0 19 i = m 19 i := fun i => ms_a (by omega)
  have h2 := h1.pB (k := k) (j := 4) (v := l) hk (by rw [st_g, if_neg (by omega)]; exact hk2) (by decide) (by decide)
  rw [e19] at h2
  refine ⟨_, ?_, h2, fun i => by rw [ms_a (by omega), e19]⟩
  unfold fm_X1_goOnAt
  rw [up_t, up_t]
theorem wait_e (hC : CR m0 m s B) (hk : 0 ≤ k) (hk2 : k < sg s 0 5) (hb : m 19 k = b) : ∃ m', fm_X1_waitFor b w n m = some (0, m') ∧ CR m0 m' (sWait k w n s) B ∧ ∀ i, m' 19 i = m 19 i := by
  have ho := hC.ob hk (by have := hC.th.2.2; omega)
  subst hb
  have h1 := hC.pB (j := 7) (v := w) hk hk2 (by decide) (by decide)
  have e19 : ∀ i, mset m (m 19 k) 7 w 19 i = m 19 i := fun i => ms_a (by omega)
  have h2 := h1.pB (k := k) (j := 8) (v := n) hk (by rw [st_g, if_neg (by omega)]; exact hk2) (by decide) (by decide)
  rw [e19] at h2
  refine ⟨_, ?_, h2, fun i => by rw [ms_a (by omega), e19]⟩
  unfold fm_X1_waitFor
  rw [up_t, up_t]
/-- the top of a stack, and what is below it -/
theorem top_e {t : List Int} {L : Int → List Int} (hR : MRows m0 m L) (hs : Stk (L 21) (v :: t) h) : fm_X8_top h m = some v ∧ ∃ h', fm_X8_popped h m = some h' ∧ Stk (L 21) t h' := by
  obtain ⟨h1, h2, h3, h4, h', h5, h6, h7, h8⟩ := hs
  have hi := (hR 21 (Or.inl rfl)).1
  have hl := hi.len
  have hw := wide_get hi h7
  rw [show (((h - 1).toNat : Nat) : Int) = h - 1 by omega] at hw
  refine ⟨?_, h', ?_, h8⟩
  · unfold fm_X8_top
    rw [w32_id (z := h - 1) (by omega) (by omega), bp_t hw, tmod_e (by omega), show (10000 * h' + v) % 10000 = v by omega, w32_id (by omega) (by omega)]
  · unfold fm_X8_popped
    rw [w32_id (z := h - 1) (by omega) (by omega), bp_t hw, tdiv_e (by omega), show (10000 * h' + v) / 10000 = h' by omega, w64_id (by omega) (by omega), w32_id (by omega) (by omega)]
theorem pop0_e {L : Int → List Int} (hR : MRows m0 m L) : fm_X8_popped 0 m = some 0 := by
  have hi := (hR 21 (Or.inl rfl)).1
  have hw := wide_none hi (i := -1) (Or.inl (by decide))
  unfold fm_X8_popped
  rw [w32_id (z := 0 - 1) (by decide) (by decide), show (0 - 1 : Int) = -1 from rfl, bp_t hw]
  decide
theorem CR.stack (hC : CR m0 m s B) (hk : 0 ≤ k) (hk2 : k < sg s 0 5) : ∃ L, MRows m0 m L ∧ CRl m s B L ∧ Stk (L 21) (sh s k) (m (m 19 k) 10) ∧ Mc m0 m s L := by
  obtain ⟨-, -, -, -, L, hR, hL, lC⟩ := hC
  exact ⟨L, hR, hL, hL.2.2.2.1 k hk hk2, lC⟩
def nl (s : TS) : Int := ((sn s).length : Int)
theorem nl_cmd : nl s ≤ nl (sCmd x a b c s).2 := by
  have := cmd_n (x := x) (s := s) (c := a) (a := b) (b := c)
  unfold nl
  omega
theorem nl_fail : nl s ≤ nl (sFail x k s) := by
  unfold sFail
  split
  · exact Int.le_refl _
  · have h := nl_cmd (x := x) (a := 15) (b := 0) (c := 0) (s := sGo k (sg s (2 + k) 4) s)
    have h2 : nl (sGo k (sg s (2 + k) 4) s) = nl s := rfl
    rw [h2] at h
    generalize hr : sCmd x 15 0 0 (sGo k (sg s (2 + k) 4) s) = r at h
    obtain ⟨r, s1⟩ := r
    simp only
    split
    · exact h
    · exact h
/-- what failing leaves alone -/
theorem fail_g {p q : Int} (h : p ≠ 2 + k) (h2 : p ≠ 0 ∨ (q ≠ 12 ∧ q ≠ 30 ∧ q ≠ 31 ∧ q ≠ 9)) : sg (sFail x k s) p q = sg s p q := by
  have eg : ∀ (l : Int) (s : TS), sg (sGo k l s) p q = sg s p q := fun l s => by rw [go_g, if_neg (fun hh => h hh.1), if_neg (fun hh => h hh.1)]
  unfold sFail
  split
  · show sg (sth _ k _) p q = _
    show sg (sGo k _ (sGo k _ s)) p q = _
    rw [eg, eg]
  · have hc := cmd_g (x := x) (s := sGo k (sg s (2 + k) 4) s) (c := 15) (a := 0) (b := 0) (p := p) (q := q) (by omega)
    generalize hr : sCmd x 15 0 0 (sGo k (sg s (2 + k) 4) s) = r at hc
    obtain ⟨r, s1⟩ := r
    simp only
    split
    · exact hc.trans (eg _ _)
    · rw [st_g, if_neg (by omega)]
      exact hc.trans (eg _ _)
theorem SW.fail (hW : SW x s B) (hs : x.1 3 ≤ x.1 0) (hk : 0 ≤ k) (hk2 : k < sg s 0 5) : SW x (sFail x k s) B := by
  obtain ⟨k1, k2, k3, k4, k5, k6, k7⟩ := hW.br hk hk2
  have h9 := hW.go hk k2.1 k2.2
  unfold sFail
  split
  · rename_i v t hvt
    rw [hvt] at k7
    exact (h9.go hk (k7 v List.mem_cons_self).1 (by have := k7 v List.mem_cons_self; omega)).hd hk fun w hw => k7 w (List.mem_cons_of_mem _ hw)
  · have hc := h9.cmd (c := 15) (a := 0) (b := 0) hs
    generalize hr : sCmd x 15 0 0 (sGo k (sg s (2 + k) 4) s) = r at hc
    obtain ⟨r, s1⟩ := r
    simp only
    split
    · exact hc
    · exact hc.s0 (by decide) (by decide) (by decide) (by decide) (by decide) (Or.inl (by decide))
theorem fail_e (hC : CR m0 m s B) (X : XC m0 x) (hW : SW x s B) (hB : B < 268435456) (hs : x.1 3 ≤ x.1 0) (hk : 0 ≤ k) (hk2 : k < sg s 0 5) (hb : m 19 k = b) : ∃ m', fm_X4_failBranch b m = some (0, m') ∧ CR m0 m' (sFail x k s) (B + 1) ∧ ∀ i : Int, 0 ≤ i → m' 19 i = m 19 i := by
  have ho := hC.ob hk (by have := hC.th.2.2; omega)
  rw [hb] at ho
  obtain ⟨k1, k2, k3, k4, k5, k6, k7⟩ := hW.br hk hk2
  have e4 : m b 4 = sg s (2 + k) 4 := by rw [← hb]; exact hC.br hk hk2 (by decide) (by decide)
  obtain ⟨m9, g1, g2, g3⟩ := go_e (l := sg s (2 + k) 4) hC hk hk2 hb
  have e5 : sg (sGo k (sg s (2 + k) 4) s) 0 5 = sg s 0 5 := by rw [go_g, if_neg (by omega), if_neg (by omega)]
  have hb9 : m9 19 k = b := by rw [g3]; exact hb
  obtain ⟨L, hR, hL, hS, lC⟩ := g2.stack hk (by rw [e5]; exact hk2)
  have esh : sh (sGo k (sg s (2 + k) 4) s) k = sh s k := rfl
  rw [hb9, esh] at hS
  have hp := hS.pos
  cases hsh : sh s k with
  | nil =>
    rw [hsh] at hS
    have h0 : m9 b 10 = 0 := hS
    have hW9 := hW.go hk k2.1 k2.2
    obtain ⟨m1, f1, f2⟩ := command_e (k := 15) (a := 0) (b := 0) g2 X hW9 hB hs (by decide) (by decide) (by decide) (by decide) (by decide) (by decide)
    have e : fm_X4_failBranch b m = (if (sCmd x 15 0 0 (sGo k (sg s (2 + k) 4) s)).1 < 0 then some (0, m1) else some (0, mset m1 17 9 15)) := by
      unfold fm_X4_failBranch
      simp only [lx_p]
      rw [gd_t ho.2.2, e4, bd_t g1, h0, if_neg (by decide), bd_t f1]
      simp only [up_t]
    rw [e]
    unfold sFail
    rw [hsh]
    have h19 : ∀ i : Int, 0 ≤ i → m1 19 i = m 19 i := fun i hi => by rw [cmd19 g2.1 f1 hi, g3]
    generalize hr : sCmd x 15 0 0 (sGo k (sg s (2 + k) 4) s) = r at f2
    obtain ⟨r, s1⟩ := r
    simp only
    split
    · exact ⟨_, rfl, f2, h19⟩
    · exact ⟨_, rfl, f2.p17 (by decide) (by decide), fun i hi => by rw [ms_a (by decide)]; exact h19 i hi⟩
  | cons v t =>
    rw [hsh] at hS
    have hpos : 0 < m9 b 10 := by have := hS.1; omega
    obtain ⟨t1, -⟩ := top_e hR hS
    obtain ⟨m74, f1, f2, f3⟩ := go_e (l := v) g2 hk (by rw [e5]; exact hk2) hb9
    have e5b : sg (sGo k v (sGo k (sg s (2 + k) 4) s)) 0 5 = sg s 0 5 := by rw [go_g, if_neg (by omega), if_neg (by omega), e5]
    have hb74 : m74 19 k = b := by rw [f3]; exact hb9
    obtain ⟨L', hR', hL', hS', lC'⟩ := f2.stack hk (by rw [e5b]; exact hk2)
    have esh' : sh (sGo k v (sGo k (sg s (2 + k) 4) s)) k = sh s k := rfl
    rw [hb74, esh', hsh] at hS'
    obtain ⟨-, h', u1, u2⟩ := top_e hR' hS'
    have hfin := f2.pH hR' hL' lC' hk (by rw [e5b]; exact hk2) u2
    rw [hb74] at hfin
    refine ⟨mset m74 b 10 h', ?_, ?_, fun i hi => ?_⟩
    rotate_left
    · unfold sFail
      rw [hsh]
      exact hfin.mono (by omega)
    · rw [ms_a (by omega), f3, g3]
    · unfold fm_X4_failBranch
      simp only [lx_p]
      rw [gd_t ho.2.2, e4, bd_t g1, if_pos hpos, bp_t t1, bd_t f1, bp_t u1, up_t]
end FAI
