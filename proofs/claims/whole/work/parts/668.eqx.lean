/-! THE TELLING, plain: one telling as another: the same history, looked at or not; an arrival. -/
section SI4
variable {x x' : CX} {s t s1 s2 : TS} {B : Int} {a b c e i j v k h n l w p q r o u kd : Int} {L : List (Int × Int × Int)} {J : TS → Int → List (Int × Int × Int) → Prop} {Kp : TS → Int → Prop} {Ok : TS → Prop}
theorem nc_eq (h0 : x'.1 0 = x.1 0) (h2 : x'.2.1 = x.2.1) : nc x' i = nc x i := by
  have key : ∀ (n : Nat) (i : Int), nxc x' n i = nxc x n i := by
    intro n
    induction n with
    | zero => intro i; rfl
    | succ n ih =>
      intro i
      unfold nxc
      rw [h0, h2, ih]
  unfold nc
  rw [h0]
  exact key _ _
theorem na_eq (h0 : x'.1 0 = x.1 0) (h2 : x'.2.1 = x.2.1) : na x' i = na x i := by
  have key : ∀ (n : Nat) (i : Int), nxa x' n i = nxa x n i := by
    intro n
    induction n with
    | zero => intro i; rfl
    | succ n ih =>
      intro i
      unfold nxa
      rw [h0, h2, ih]
  unfold na
  rw [h0]
  exact key _ _
theorem tb_eq (h0 : x'.1 0 = x.1 0) (h2 : x'.2.1 = x.2.1) : tb x' i = tb x i := by
  have key : ∀ (n : Nat) (j : Int), nxt x' i n j = nxt x i n j := by
    intro n
    induction n with
    | zero => intro j; rfl
    | succ n ih =>
      intro j
      unfold nxt
      rw [h0, h2, ih]
  unfold tb
  rw [h0]
  exact key _ _
/-- the same history and code, looked at as well or not at all -/
def EQX (x x' : CX) : Prop := (∀ j : Int, j ≠ 4 → x'.1 j = x.1 j) ∧ x'.2 = x.2 ∧ (x'.1 4 = x.1 4 ∨ x'.1 4 = 1)
def JE (x : CX) (s : TS) (p : Int) (L : List (Int × Int × Int)) : Prop := nc x p = nc x (sg s 0 12) ∧ L = sn s
def OkE (x x' : CX) (s : TS) : Prop := x'.1 4 = x.1 4 ∨ sg s 0 30 = 0
theorem okE : OKH x (OkE x x') := by
  refine ⟨fun s s' h1 _ _ _ => ?_, fun s k a b h => h.imp_right u_cmd, fun s v h => h.imp_right fun g => absurd g u_stuck⟩
  unfold OkE
  rw [h1]
theorem simE (h : EQX x x') : SIMH x x' (JE x) (OkE x x') (fun _ _ => True) := by
  obtain ⟨h1, h2, h4⟩ := h
  have g2 : x'.2.1 = x.2.1 := by rw [h2]
  have en : ∀ i : Int, nc x' i = nc x i := fun i => nc_eq (h1 0 (by decide)) g2
  have et : ∀ i : Int, tb x' i = tb x i := fun i => tb_eq (h1 0 (by decide)) g2
  have es : ∀ (s : TS) (p q : Int) (L : List (Int × Int × Int)), sSeen x' (ax p q L s) = sSeen x s := fun s p q L => by
    unfold sSeen
    rw [ax_o (by omega), h1 2 (by decide), h1 3 (by decide), h1 0 (by decide)]
  refine ⟨h1 5 (by decide), by rw [h2], ?_, ?_, ?_, okE⟩
  · intro s p L k a b q hJ hf
    obtain ⟨j1, j2⟩ := hJ
    have e12 : sg (ax p q L s) 0 12 = p := by rw [ax_g, if_pos ⟨rfl, rfl⟩]
    have e10 : sg (ax p q L s) 0 10 = sg s 0 10 := ax_o (by omega)
    have eL : sn (ax p q L s) = L := rfl
    subst j2
    unfold sCmd at hf ⊢
    rw [e12, e10, es, en, j1, h1 0 (by decide), h1 1 (by decide), et, g2, eL]
    by_cases c1 : nc x (sg s 0 12) < sSeen x s
    · rw [if_pos c1] at hf
      rw [if_pos c1, if_pos c1]
      by_cases c2 : x.1 4 = 1 ∨ eis (x.2.1 (nc x (sg s 0 12))) k a b = true
      · rw [if_pos c2, if_pos (show x'.1 4 = 1 ∨ eis (x.2.1 (nc x (sg s 0 12))) k a b = true by
          rcases c2 with g | g
          · rcases h4 with z | z
            · exact Or.inl (z.trans g)
            · exact Or.inl z
          · exact Or.inr g)]
        refine ⟨nc x (sg s 0 12) + 1, sn s, ?_, rfl, rfl⟩
        rw [ax_12 (w := nc x (sg s 0 12)), ax_12 (w := nc x (sg s 0 12) + 1)]
      · rw [if_neg c2] at hf
        have h4' : x'.1 4 = x.1 4 := hf.resolve_right u_stuck
        rw [if_neg c2, if_neg (by rw [h4']; exact c2)]
        refine ⟨nc x (sg s 0 12), sn s, ?_, rfl, rfl⟩
        rw [ax_12 (w := nc x (sg s 0 12)), ax_stk]
    · rw [if_neg c1] at hf
      rw [if_neg c1, if_neg c1]
      by_cases c2 : sg s 0 10 < x.1 1
      · rw [if_pos c2, if_pos c2]
        refine ⟨nc x (sg s 0 12), sn s, ?_, rfl, rfl⟩
        rw [ax_12 (w := nc x (sg s 0 12)), ax_stk]
      · rw [if_neg c2, if_neg c2]
        refine ⟨nc x (sg s 0 12), sn s ++ [(k, a, b)], ?_, rfl, rfl⟩
        rw [ax_12 (w := nc x (sg s 0 12))]
        rfl
  · intro s s1 p L hJ e12 _ en'
    unfold JE at hJ ⊢
    rw [e12, en']
    exact hJ
  · intro s p L a q hJ _ _ _
    rw [es, en, hJ.1, g2, h1 1 (by decide)]
/-- an arrival is noted -/
def sNoted (x : CX) (i : Int) (s : TS) : TS := sNote x (ek (x.2.1 i)) (ex (x.2.1 i)) (ey (x.2.1 i)) (st (st (st s 0 28 i) 0 11 (i + 1)) 0 29 0)
theorem taken_d : sTaken x i s = sOn x 1000 (sNoted x i s) := rfl
theorem noted_all (hC : CXX x) (hP : BP x s B) (i0 : sg s 0 11 ≤ i) (i1 : i < x.1 0) (hi7 : ek (x.2.1 i) ≤ 7) : SW x (sNoted x i s) (B + 1) ∧ OW (sNoted x i s) ∧ TkW x (sNoted x i s) ∧ PI (sNoted x i s) ∧ WK x (sNoted x i s) ∧ sg (sNoted x i s) 0 28 = i ∧ sg (sNoted x i s) 0 10 = sg s 0 10 ∧ 0 ≤ sg (st (st (st s 0 28 i) 0 11 (i + 1)) 0 29 0) 0 5 := by
  obtain ⟨hW, hPI, hK, hO, hBt⟩ := hP
  obtain ⟨⟨hcw, har, hs⟩, hx5, h4, hXI, hN0⟩ := hC
  have ii0 : 0 ≤ i := by have := hBt.1.1; omega
  obtain ⟨ay, asig, ast, aw⟩ := har i ii0 i1 hi7
  have h5 := hW.2.2.2.2.2.2.2.1
  have eb : ∀ a j : Int, (a ≠ 0 ∨ (j ≠ 28 ∧ j ≠ 11 ∧ j ≠ 29)) → sg (st (st (st s 0 28 i) 0 11 (i + 1)) 0 29 0) a j = sg s a j := fun a j hh => by rw [st_g, if_neg (by omega), st_g, if_neg (by omega), st_g, if_neg (by omega)]
  have hWb : SW x (st (st (st s 0 28 i) 0 11 (i + 1)) 0 29 0) B := ((hW.s0 (by decide) (by decide) (by decide) (by decide) (by decide) (Or.inl (by decide))).s0 (by decide) (by decide) (by decide) (by decide) (by decide) (Or.inl (by decide))).s29 (by decide) (by decide)
  have hPb : PI (st (st (st s 0 28 i) 0 11 (i + 1)) 0 29 0) := hPI.of hW.2.2.2.2.2.1.1 fun a j hh => eb a j (by omega)
  have hKb : WK x (st (st (st s 0 28 i) 0 11 (i + 1)) 0 29 0) := hK.same (fun a j hh => eb a j (by omega)) rfl
  have hOb : OW (st (st (st s 0 28 i) 0 11 (i + 1)) 0 29 0) := hO.of fun a j hh => eb a j (by omega)
  have hnok : NoteOk (st (st (st s 0 28 i) 0 11 (i + 1)) 0 29 0) (ek (x.2.1 i)) (ex (x.2.1 i)) (ey (x.2.1 i)) := by
    refine ⟨⟨Int.natCast_nonneg _, ay⟩, fun z => ?_, fun z => ⟨Int.natCast_nonneg _, asig z⟩⟩
    obtain ⟨z1, z2⟩ := ast z
    exact ⟨Int.natCast_nonneg _, z1, by rw [eb _ _ (by omega), hBt.2.2.1 (by have := hBt.1.1; omega)]; decide⟩
  obtain ⟨n1, n2, n3, n4⟩ := note_all hs hWb hPb hKb hOb hnok hx5
  have b5 : 0 ≤ sg (st (st (st s 0 28 i) 0 11 (i + 1)) 0 29 0) 0 5 := by rw [eb _ _ (by omega)]; exact h5.1
  have k4 : ∀ q, KQ q → sg (sNoted x i s) 0 q = sg (st (st (st s 0 28 i) 0 11 (i + 1)) 0 29 0) 0 q := fun q hq => kp_note b5 hq
  have e28 : sg (sNoted x i s) 0 28 = i := by rw [k4 28 (by unfold KQ; omega), st_g, if_neg (by omega), st_g, if_neg (by omega), st_g, if_pos ⟨rfl, rfl⟩]
  refine ⟨n1, n4, ?_, n2, n3, e28, ?_, b5⟩
  · unfold TkW
    rw [e28]
    exact ⟨ii0, i1, aw⟩
  · rw [k4 10 (by unfold KQ; omega), eb _ _ (by omega)]
theorem o_noted (O : OKH x Ok) (hC : CXX x) (hP : BP x s B) (i0 : sg s 0 11 ≤ i) (i1 : i < x.1 0) (hi7 : ek (x.2.1 i) ≤ 7) (hf : Ok (sNoted x i s)) : Ok s := by
  have h := o_note O (noted_all hC hP i0 i1 hi7).2.2.2.2.2.2.2 hf
  exact (o_st O (by omega)).mp ((o_st O (by omega)).mp ((o_st O (by omega)).mp h))
theorem o_taken (O : OKH x Ok) (hC : CXX x) (hP : BP x s B) (i0 : sg s 0 11 ≤ i) (i1 : i < x.1 0) (hi7 : ek (x.2.1 i) ≤ 7) (hf : Ok (sTaken x i s)) : Ok (sNoted x i s) := by
  have hN := noted_all hC hP i0 i1 hi7
  exact o_on O hC.1.1 hC.1.2.2 hC.2.2.2.2.1 hC.2.1 1000 _ _ hN.1 hN.2.2.1 hf
theorem o_pass (O : OKH x Ok) : ∀ (n : Nat) (i : Int) (s : TS), Ok (sPass x n i s) → Ok s := by
  intro n
  induction n with
  | zero => intro i s h; exact h
  | succ n ih =>
    intro i s h
    unfold sPass at h
    split at h
    · split at h
      · split at h
        · split at h
          · exact (o_st O (by omega)).mp h
          · have := ih _ _ h
            split at this
            · exact O.2.2 _ _ this
            · exact this
        · exact ih _ _ h
      · exact (o_st O (by omega)).mp h
    · exact (o_st O (by omega)).mp h
theorem o_take (O : OKH x Ok) (hf : Ok (sTake x i s)) : Ok (sTaken x i s) := by
  rw [take_d] at hf
  exact (o_st O (by omega)).mp (o_pass O _ _ _ hf)
theorem sm_noted (H : SIMH x x' J Ok Kp) (hC : CXX x) (hP : BP x s B) (i0 : sg s 0 11 ≤ i) (i1 : i < x.1 0) (hi7 : ek (x.2.1 i) ≤ 7) (hE : x'.2.1 i = x.2.1 i) (h : Sm J q t s) (hf : Ok (sNoted x i s)) : Sm J q (sNoted x' i t) (sNoted x i s) := by
  have hN := noted_all hC hP i0 i1 hi7
  unfold sNoted at hf ⊢
  rw [hE]
  exact sm_note H hN.2.2.2.2.2.2.2 (sm_sx H (sm_sx H (sm_sx H h (by omega)) (by omega)) (by omega)) hf
theorem sm_taken (H : SIMH x x' J Ok Kp) (hC : CXX x) (hP : BP x s B) (i0 : sg s 0 11 ≤ i) (i1 : i < x.1 0) (hi7 : ek (x.2.1 i) ≤ 7) (hE : ∀ i : Int, 0 ≤ i → i < x.1 0 → x'.2.1 i = x.2.1 i) {Q : TS → Prop} (hQ : ∀ s, Q s → goes s = true → 0 ≤ first s → Q (sTurn x (first s) s)) (hK : ∀ s, Q s → goes s = true → 0 ≤ first s → sg s (2 + first s) 7 = 0 → sg s (2 + first s) 4 < x.1 5 → sg s 0 29 < 60 → (x.2.2 (sg s (2 + first s) 4)).1 = 19 → Kp (st (st s 0 29 (sg s 0 29 + 1)) 0 40 (sg s 0 40 + 1)) (x.2.2 (sg s (2 + first s) 4)).2.1) (hq : Q (sNoted x i s)) (h : Sm J q t s) (hf : Ok (sTaken x i s)) : Sm J q (sTaken x' i t) (sTaken x i s) := by
  have hN := noted_all hC hP i0 i1 hi7
  have ii0 : 0 ≤ i := by have := hP.2.2.2.2.1.1; omega
  rw [taken_d, taken_d]
  exact sm_on H hC.1.1 hC.1.2.2 hC.2.2.2.2.1 hC.2.1 hE hQ hK 1000 _ _ _ hN.1 hN.2.2.1 hq (sm_noted H hC hP i0 i1 hi7 (hE i ii0 i1) h (o_taken H.2.2.2.2.2 hC hP i0 i1 hi7 hf)) hf
end SI4
