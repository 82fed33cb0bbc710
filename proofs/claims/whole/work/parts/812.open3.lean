/-! THE TELLING, plain: never more than twelve are open, through a telling. -/
section OP3
variable {x : CX} {s s' s1 s2 S : TS} {B : Int} {a b c d e i j v k h l w p r t o q u kd lim m N : Int} {F T Z : Prop} {E : Int → Ev} {g : Int → Int → Int → Int → Int}
/-- the news are longer -/
theorem ext_turn (hx : CodeW x) (hW : SW x s B) (k0 : 0 ≤ k) (k1 : k < sg s 0 5) (h30 : sg (sTurn x k s) 0 30 = 0) : ∃ z, sn s ++ z = sn (sTurn x k s) :=
  (o_turn (okG (x := x) (F := sn (sTurn x k s))) hx (hW.br k0 k1).2.1.1 hW.2.2.2.2.2.2.2.1.1 ⟨h30, [], List.append_nil _⟩).2
theorem cp_turn (hC : CXX x) (hx : HFx x) (hH : QH x B F T s) (hT : TkW x s) (hg : goes s = true) (k0 : 0 ≤ k) (k1 : k < sg s 0 5) (ha : sAble s k = true) (h30 : sg (sTurn x k s) 0 30 = 0) (m0 : 0 ≤ m) (hm : m ≤ x.1 0) (hc : CPx x m s) : CPx x m (sTurn x k s) := by
  obtain ⟨hcx, hx5, h4, hXI, hN0⟩ := id hC
  obtain ⟨hcw, har, hs⟩ := hcx
  obtain ⟨c1, c2, c3⟩ := hc
  have h9 := (goes_s hg).2
  have hA : ∀ e : Int, PZ (fA e) (gA e) 0 0 x (sTurn x k s) ≤ cbk x.2.1 e m.toNat := fun e => Int.le_trans (pz_turn (Z := True) pcA (fun _ _ _ => trivial) hH hcw hs h4 hN0.1 hx5 hT h9 k0 k1 ha h30).1 (c1 e)
  obtain ⟨q1, hH'⟩ := pz_turn (Z := True) (pcB (Q := QD) nwD) (fun _ _ _ => trivial) hH hcw hs h4 hN0.1 hx5 hT h9 k0 k1 ha h30
  rw [pz0, pz0] at q1
  have hQ : pI (gB (x.1 0) QD) x (sTurn x k s) ≤ 0 := by omega
  obtain ⟨z, hz⟩ := ext_turn hcw hH.1 k0 k1 h30
  refine ⟨hA, hQ, ?_⟩
  by_cases cl : sg s (2 + k) 7 = 0 ∧ sg s (2 + k) 4 < x.1 5 ∧ ((x.2.2 (sg s (2 + k) 4)).1 = 2 ∨ (x.2.2 (sg s (2 + k) 4)).1 = 3 ∨ (x.2.2 (sg s (2 + k) 4)).1 = 5 ∨ (x.2.2 (sg s (2 + k) 4)).1 = 15)
  · have hnu := (nu_turn (x := x) (s := s) hcw k0 (hH.1.br k0 k1).2.1.1).2 cl.1 cl.2.1 cl.2.2
    intro p p0 p1 l hl he
    by_cases c : p ≤ x.1 0 + nl s
    · exact c3 p p0 c l hl fun e hh => (he e hh).to (fun i i0 i1 => ⟨(kS_app hz (by omega)).1.symm, (kS_app hz (by omega)).2.symm⟩) (Int.le_refl _) (he e hh).1.2
    · have hpe : p = x.1 0 + nl (sTurn x k s) := by omega
      have hne : sn (sTurn x k s) ≠ [] := fun hh => by
        have : nl (sTurn x k s) = 0 := by unfold nl; rw [hh]; rfl
        have := nl_nn0 (s := s)
        omega
      rw [hpe] at he
      exact ho_at hH'.1 hx hA hQ m0 hm (hH'.2.2.1.1 hne) hl he
  · refine ho_none c3 hz hN0.1 hH.1.1.2 hH'.1.1.2 ?_
    have := (pz_turn (Z := False) (pcO (N := x.1 0)) (fun h1 h2 h3 => cl ⟨h1, h2, h3⟩) hH hcw hs h4 hN0.1 hx5 hT h9 k0 k1 ha h30).1
    rw [pz0, pz0] at this
    exact this
theorem cp_on (hC : CXX x) (hx : HFx x) (m0 : 0 ≤ m) (hm : m ≤ x.1 0) : ∀ (n : Nat) (s : TS) (B : Int), QH x B F T s → TkW x s → sg (sOn x n s) 0 30 = 0 → CPx x m s → CPx x m (sOn x n s) := by
  obtain ⟨hcx, hx5, h4, hXI, hN0⟩ := id hC
  obtain ⟨hcw, har, hs⟩ := hcx
  intro n
  induction n with
  | zero => intro s B _ _ _ h; exact h
  | succ n ih =>
    intro s B hH hT h30 hc
    unfold sOn at h30 ⊢
    rcases first_b (s := s) with z | ⟨z1, z2, z3⟩
    · rw [if_pos (by omega)]; exact hc
    · rw [if_neg (by omega)] at h30 ⊢
      by_cases hg : goes s = true
      · rw [if_pos hg] at h30 ⊢
        have hW1 := w_turn hcw hs hN0.1 hx5 z1 z2 hT z3 hH.1
        have hT1 : TkW x (sTurn x (first s) s) := by
          unfold TkW at hT ⊢
          rw [kp_turn hH.n5.1 z1 (by unfold KQ; omega)]
          exact hT
        have h30' : sg (sTurn x (first s) s) 0 30 = 0 := o_on ok30 hcw hs hN0.1 hx5 n _ _ hW1 hT1 h30
        have y2 := (pz_turn (Z := True) (pcA (e := 0)) (fun _ _ _ => trivial) hH hcw hs h4 hN0.1 hx5 hT (goes_s hg).2 z1 z2 z3 h30').2
        exact ih _ _ y2 hT1 h30 (cp_turn hC hx hH hT hg z1 z2 z3 h30' m0 hm hc)
      · rw [if_neg hg]; exact hc
theorem cp_noted (hC : CXX x) (hP : BP x s B) (hJ : JJ x F T s) (hg : goes s = true) (i0 : sg s 0 11 ≤ i) (i1 : i < x.1 0) (hi7 : ek (x.2.1 i) ≤ 7) (h30 : sg (sNoted x i s) 0 30 = 0) (hc : CPx x (sg s 0 11) s) : CPx x (i + 1) (sNoted x i s) := by
  obtain ⟨c1, c2, c3⟩ := hc
  have h11 := hP.2.2.2.2.1
  obtain ⟨q1, hH⟩ := pz_noted (Z := True) (pcB (Q := QD) nwD) (pdB' nwD) hC hP hJ hg i0 i1 hi7 h30
  rw [pz0, pz0, nK0] at q1
  have hz : ∃ z, sn s ++ z = sn (sNoted x i s) := (o_noted (okG (x := x) (F := sn (sNoted x i s))) hC hP i0 i1 hi7 ⟨h30, [], List.append_nil _⟩).2
  obtain ⟨z, hz⟩ := hz
  refine ⟨fun e => ?_, by omega, ho_none c3 hz hC.2.2.2.2.1 hP.1.1.2 hH.1.1.2 ?_⟩
  · have := (pz_noted (Z := True) (pcA (e := e)) pdA hC hP hJ hg i0 i1 hi7 h30).1
    have := c1 e
    have := nkA (x := x) (s := s) (e := e) i0 h11.1 hi7
    omega
  · have := (pz_noted (Z := False) (pcO (N := x.1 0)) pdO hC hP hJ hg i0 i1 hi7 h30).1
    rw [pz0, pz0, nK0] at this
    omega
theorem cp_same (h : ∀ p q : Int, (p ≠ 0 ∨ (q ≠ 10 ∧ q ≠ 13 ∧ q ≠ 28 ∧ q ≠ 11)) → sg s' p q = sg s p q) (h2 : s'.2 = s.2) (hc : CPx x m s) : CPx x m s' := by
  have hn : sn s' = sn s := by unfold sn; rw [h2]
  have hq : ∀ n : Int, sq s' n = sq s n := fun n => by unfold sq; rw [h2]
  have hz : ∀ (f : Int → Int → Int → Int) (g : Int → Int → Int → Int → Int), PZ f g 0 0 x s' = PZ f g 0 0 x s := fun f g => by
    have := PZ_f (f := f) (g := g) (ω := 0) (κ := 0) (x := x) (s := s) (s' := s') (d := 0) (h _ _ (by omega)) hn (h _ _ (by omega)) hq (h _ _ (by omega)) (by rw [pF_same (s := s) (s' := s') (h _ _ (by omega)) fun i q _ _ => h _ _ (by omega)]; omega)
    omega
  obtain ⟨c1, c2, c3⟩ := hc
  have ek' : ∀ i : Int, kS x s' i = kS x s i ∧ xS x s' i = xS x s i := fun i => by
    unfold kS xS
    rw [hn]
    exact ⟨rfl, rfl⟩
  have enl : nl s' = nl s := by unfold nl; rw [hn]
  refine ⟨fun e => by rw [hz]; exact c1 e, by rw [pI_same (h _ _ (by omega)) hn]; exact c2, ?_⟩
  rw [enl]
  exact c3.to fun i _ _ => ek' i
theorem cp_take (hC : CXX x) (hx : HFx x) (hP : BP x s B) (hJ : JJ x F T s) (hg : goes s = true) (i0 : sg s 0 11 ≤ i) (i1 : i < x.1 0) (hi7 : ek (x.2.1 i) ≤ 7) (h30 : sg (sTake x i s) 0 30 = 0) (hc : CPx x (sg s 0 11) s) : CPx x (i + 1) (sTake x i s) := by
  obtain ⟨t1, v, t2⟩ := take_st h30
  obtain ⟨n1, n2, n3, n4, n5, n6, n7, n8⟩ := noted_all hC hP i0 i1 hi7
  have h11 := hP.2.2.2.2.1
  have h30n : sg (sNoted x i s) 0 30 = 0 := o_taken ok30 hC hP i0 i1 hi7 (by exact t1)
  have hH := (pz_noted (Z := True) (pcA (e := 0)) pdA hC hP hJ hg i0 i1 hi7 h30n).2
  have h1 := cp_noted hC hP hJ hg i0 i1 hi7 h30n hc
  have h2 := cp_on hC hx (m := i + 1) (by omega) (by omega) 1000 _ _ hH n3 t1 h1
  rw [t2]
  exact cp_same (fun p q hh => by rw [st_g, if_neg (by omega), st_g, if_neg (by omega)]) rfl h2
theorem take_11 (hC : CXX x) (hP : BP x s B) (i0 : sg s 0 11 ≤ i) (i1 : i < x.1 0) (hi7 : ek (x.2.1 i) ≤ 7) (h30 : sg (sTake x i s) 0 30 = 0) : sg (sTake x i s) 0 11 = i + 1 := by
  obtain ⟨t1, v, t2⟩ := take_st h30
  rw [t2, st_g, if_neg (by omega), st_g, if_neg (by omega)]
  exact (taken_all hC hP i0 i1 hi7).2.2.2.2.1
theorem pz_s00 {f : Int → Int → Int → Int} : PZ f g 0 0 x s00 = 0 := by
  unfold PZ
  rw [Int.zero_mul, Int.zero_mul]
  have hp : ∀ (n : Nat) (k : Int), 0 ≤ k → pF f s00 n k = 0 := by
    intro n
    induction n with
    | zero => intro k _; rfl
    | succ n ih =>
      intro k k0
      show pv f s00 k + pF f s00 n (k + 1) = 0
      rw [ih (k + 1) (by omega), pv_o (by show ¬ k < 0; omega)]
      rfl
  rw [hp 12 0 (by decide)]
  show (0 : Int) + 0 + 0 + 0 - 0 = 0
  decide
/-- a telling that isn't stuck: what is open -/
theorem told_cp (hC : CXX x) (hx : HFx x) (h2 : x.1 2 ≤ x.1 1) (hO : HOF (fun i => ek (x.2.1 i)) (fun i => ex (x.2.1 i)) (x.1 0)) (h30 : sg (told x lim) 0 30 = 0) : ∃ m : Int, 0 ≤ m ∧ m ≤ x.1 0 ∧ CPx x m (told x lim) := by
  have h0 : CPx x 0 s00 := by
    refine ⟨fun e => by rw [pz_s00]; exact Int.le_refl _, by show (0 : Int) + 0 ≤ 0; decide, ?_⟩
    have : x.1 0 + nl s00 = x.1 0 := by
      show x.1 0 + (([] : List (Int × Int × Int)).length : Int) = x.1 0
      simp
    rw [this]
    exact hO.to fun i _ i1 => ⟨(kS_lo i1).1, (kS_lo i1).2⟩
  have hk := told_ind (P := fun s => JJ x False False s ∧ CPx x (sg s 0 11) s) hC (fun s B i hP hp hg _ i0 i1 i7 _ h3 => by
    refine ⟨hp.1.take hC hP i0 i1 i7, ?_⟩
    rw [take_11 hC hP i0 i1 i7 h3]
    exact cp_take hC hx hP hp.1 hg i0 i1 i7 h3 hp.2) ⟨jj00 h2, h0⟩ h30
  obtain ⟨s', B', v, ⟨-, h4⟩, h5, h6⟩ := hk
  have h7 := h5.2.2.2.2.1
  refine ⟨sg s' 0 11, h7.1, h7.2, ?_⟩
  rw [h6]
  exact cp_same (fun p q hh => by rw [st_g, if_neg (by omega)]) rfl h4
end OP3
