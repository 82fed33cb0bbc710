/-! THE TELLING, plain: how many lines a telling has at most, all of it. -/
section LN3
variable {x : CX} {s s' s1 s2 S : TS} {B : Int} {a b c d e i j v k h l w p r t o q u kd lim m N : Int} {F T Z : Prop} {E : Int → Ev} {g : Int → Int → Int → Int → Int}
theorem note_41 (h4 : kd ≠ 4) (h5 : 0 ≤ sg s 0 5) : sg (sNote x kd a b s) 0 41 = sg s 0 41 := by
  have hwb := wtr_b (s := s) (e := a)
  have fl : sg (sFailed x (wtr s a) s) 0 41 = sg s 0 41 := by
    unfold sFailed
    by_cases c : wtr s a < 0
    · rw [if_pos c]
    · rw [if_neg c]
      split
      · exact kr_go (by unfold KR; omega)
      · exact kr_fail (by omega) (by unfold KR; omega)
  unfold sNote
  split
  · have e5 : sg (st (st s 1 0 a) 0 40 (sg s 0 40 + 1)) 0 5 = sg s 0 5 := by rw [st_g, if_neg (by omega), st_g, if_neg (by omega)]
    rw [kr_begin (by omega) (by unfold KR; omega), st_g, if_neg (by omega), st_g, if_neg (by omega)]
  · split
    · exact fl
    · split
      · exact fl
      · split
        · rw [kr_tell (by unfold KR; omega) _ _ _ (by decide), st_g, if_neg (by omega)]
        · unfold sEnded
          by_cases c : wtr s a < 0
          · rw [if_pos c]
          · rw [if_neg c]
            split
            · exact kr_go (by unfold KR; omega)
            · split
              · exact kr_go (by unfold KR; omega)
              · rw [kr_go (by unfold KR; omega), st_g, if_neg (by omega)]
theorem note_41s (h5 : 0 ≤ sg s 0 5) : sg (sNote x 4 a b s) 0 41 = sg s 0 41 + 1 := by
  unfold sNote
  rw [if_neg (by decide), if_neg (by decide), if_neg (by decide), if_pos rfl, st_g, if_pos ⟨rfl, rfl⟩]
/-- signals that came, lines: an arrival, stuck or not -/
theorem up_take (hC : CXX x) (hP : BP x s B) (i0 : sg s 0 11 ≤ i) (i1 : i < x.1 0) (hi7 : ek (x.2.1 i) ≤ 7) : sg (sTake x i s) 0 41 = sg s 0 41 + (if ek (x.2.1 i) = 4 then 1 else 0) ∧ sg (sTake x i s) 0 40 ≤ sg s 0 40 + 61 ∧ (ek (x.2.1 i) ≠ 0 → sg (sTake x i s) 0 40 ≤ sg s 0 40 + 60) := by
  obtain ⟨hcx, hx5, h4, hXI, hN0⟩ := id hC
  obtain ⟨hcw, har, hs⟩ := hcx
  obtain ⟨n1, n2, n3, n4, n5, n6, n7, n8⟩ := noted_all hC hP i0 i1 hi7
  have hall := fun m : Nat => (on_all hcw hs hN0.1 hx5 m (sNoted x i s) _ n1 n3 n2).1
  have h40 := on_40 (x := x) 1000 (sNoted x i s) n1.2.2.2.2.2.2.2.1.1 fun m => (hall m).2.2.2.2.2.2.2.1.1
  have h41 := on_41 (x := x) 1000 (sNoted x i s) fun m => (hall m).2.2.2.2.2.2.2.1.1
  have hb29 := (hall 1000).2.2.2.2.2.2.1
  have es : ∀ p q : Int, (p ≠ 0 ∨ (q ≠ 28 ∧ q ≠ 11 ∧ q ≠ 29)) → sg (st (st (st s 0 28 i) 0 11 (i + 1)) 0 29 0) p q = sg s p q := fun p q hh => by rw [st_g, if_neg (by omega), st_g, if_neg (by omega), st_g, if_neg (by omega)]
  have e29 : sg (st (st (st s 0 28 i) 0 11 (i + 1)) 0 29 0) 0 29 = 0 := by rw [st_g, if_pos ⟨rfl, rfl⟩]
  have hk29 := (note_kr (x := x) (kd := ek (x.2.1 i)) (a := ex (x.2.1 i)) (b := ey (x.2.1 i)) n8).2.2
  have h29 : sg (sNoted x i s) 0 29 = 0 := by
    show sg (sNote x _ _ _ _) 0 29 = 0
    rw [hk29, e29]
  have f40 : sg (sNoted x i s) 0 40 ≤ sg s 0 40 + 1 ∧ (ek (x.2.1 i) ≠ 0 → sg (sNoted x i s) 0 40 ≤ sg s 0 40) := by
    show sg (sNote x _ _ _ _) 0 40 ≤ _ ∧ (_ → sg (sNote x _ _ _ _) 0 40 ≤ _)
    by_cases c0 : ek (x.2.1 i) = 0
    · refine ⟨?_, fun hh => absurd c0 hh⟩
      unfold sNote
      rw [if_pos c0, begin_40 n8, es _ _ (by omega)]
      exact Int.le_refl _
    · rw [note_40 c0 n8, es _ _ (by omega)]
      exact ⟨by omega, fun _ => Int.le_refl _⟩
  have f41 : sg (sNoted x i s) 0 41 = sg s 0 41 + (if ek (x.2.1 i) = 4 then 1 else 0) := by
    show sg (sNote x _ _ _ _) 0 41 = _
    by_cases c4 : ek (x.2.1 i) = 4
    · rw [if_pos c4, c4, note_41s n8, es _ _ (by omega)]
    · rw [if_neg c4, note_41 c4 n8, es _ _ (by omega)]
      omega
  have pass : ∀ (n : Nat) (i : Int) (s : TS) (q : Int), (q = 40 ∨ q = 41) → sg (sPass x n i s) 0 q = sg s 0 q := by
    intro n
    induction n with
    | zero => intro i s q _; rfl
    | succ n ih =>
      intro i s q hq
      unfold sPass
      split
      · split
        · split
          · split
            · rw [st_g, if_neg (by omega)]
            · rw [ih _ _ _ hq]
              split
              · unfold sStuck
                rw [st_g, if_neg (by omega), st_g, if_neg (by omega)]
              · rfl
          · exact ih _ _ _ hq
        · rw [st_g, if_neg (by omega)]
      · rw [st_g, if_neg (by omega)]
  have ft : ∀ q : Int, (q = 40 ∨ q = 41) → sg (sTake x i s) 0 q = sg (sOn x 1000 (sNoted x i s)) 0 q := fun q hq => by
    rw [take_d, pass _ _ _ q hq, st_g, if_neg (by omega)]
    rfl
  rw [ft 41 (Or.inr rfl), ft 40 (Or.inl rfl)]
  exact ⟨h41.trans f41, by omega, fun hh => by have := f40.2 hh; omega⟩
theorem take_60 (hC : CXX x) (hP : BP x s B) (i0 : sg s 0 11 ≤ i) (i1 : i < x.1 0) (hi7 : ek (x.2.1 i) ≤ 7) (h0 : ek (x.2.1 i) ≠ 0) : sg (sTake x i s) 0 40 ≤ sg s 0 40 + 60 := (up_take hC hP i0 i1 hi7).2.2 h0
/-- what is known of lines at an arrival's end -/
def LNx (x : CX) (s : TS) : Prop := (JJ x False False s ∧ (first s < 0 ∨ ¬ goes s = true)) ∧ (∀ e : Int, PZ (fU e) (gU e) 0 0 x s ≤ 0) ∧ pI (gB (x.1 0) QD) x s ≤ 0 ∧ PSx x s ∧ sg s 0 41 ≤ csg x.2.1 (sg s 0 11).toNat ∧ ∃ b : Int, BLK x.2.1 (sg s 0 11) b ∧ sg s 0 40 ≤ 60 * cns s + 60 * b + (if 0 < sg s 0 11 then 61 else 0) + 60 * ccn x.2.1 (sg s 0 11).toNat
theorem ln_step (hC : CXX x) (hx : HLn x) (hP : BP x s B) (hg : goes s = true) (i0 : sg s 0 11 ≤ i) (i1 : i < x.1 0) (hi7 : ek (x.2.1 i) ≤ 7) (hi : i = na x (sg s 0 11)) (h30 : sg (sTake x i s) 0 30 = 0) (hp : LNx x s) : LNx x (sTake x i s) := by
  obtain ⟨⟨p1, p2⟩, p3, p4, p5, p6, b, p7, p8⟩ := hp
  have hf : first s < 0 := p2.resolve_right (fun h => h hg)
  have h11 := hP.2.2.2.2.1
  obtain ⟨l1, l2⟩ := ln_take hC hP p1 hg hf i0 i1 hi7 h30
  have hcn := cns_take hC hP p1 hg i0 i1 hi7 h30
  have e11 := take_11 hC hP i0 i1 hi7 h30
  obtain ⟨u1, u2⟩ := up_take hC hP i0 i1 hi7
  have hgap : ∀ j : Int, sg s 0 11 ≤ j → j < i → 7 < ek (x.2.1 j) := fun j j0 j1 => na_gap (x := x) (i := sg s 0 11) j0 (by omega)
  have en : (i + 1).toNat = i.toNat + 1 := by omega
  have ei : ((i.toNat : Nat) : Int) = i := by omega
  refine ⟨⟨p1.take hC hP i0 i1 hi7, l2⟩, fun e => ?_, ?_, ps_take hC hx.2.1 hx.1.2 hP hi i1 h30 p5, ?_, ?_⟩
  · have h1 := (pz_take (Z := True) (pcU (e := e)) trivial pdU hC hP p1 hg i0 i1 hi7 h30).1
    rw [nkU] at h1
    have := p3 e
    omega
  · have h1 := (pz_take (Z := True) (pcB (Q := QD) nwD) trivial (pdB' nwD) hC hP p1 hg i0 i1 hi7 h30).1
    rw [pz0, pz0, nK0] at h1
    omega
  · rw [e11, en, u1]
    have hm := csg_m (E := x.2.1) (i.toNat - (sg s 0 11).toNat) (sg s 0 11).toNat
    rw [show (sg s 0 11).toNat + (i.toNat - (sg s 0 11).toNat) = i.toNat by omega] at hm
    show _ ≤ csg x.2.1 i.toNat + if ek (x.2.1 (i.toNat : Int)) = 4 then 1 else 0
    rw [ei]
    omega
  · rw [e11]
    have hm := ccn_m (E := x.2.1) (i.toNat - (sg s 0 11).toNat) (sg s 0 11).toNat
    rw [show (sg s 0 11).toNat + (i.toNat - (sg s 0 11).toNat) = i.toNat by omega] at hm
    have ecc : ccn x.2.1 (i + 1).toNat = ccn x.2.1 i.toNat + if ek (x.2.1 i) = 7 then 1 else 0 := by
      rw [en]
      show ccn x.2.1 i.toNat + (if ek (x.2.1 (i.toNat : Int)) = 7 then 1 else 0) = _
      rw [ei]
    rw [if_pos (show 0 < i + 1 by omega), ecc]
    unfold lnK at l1
    by_cases cb : bkk (ek (x.2.1 i)) ∧ 0 ≤ wtr s (ex (x.2.1 i))
    · refine ⟨b + 1, blk_step hx.2.2.2.1 (fun hh => by have := hx.2.2.2.2 hh; omega) p7 h11.1 i0 i1 hi7 hgap (Or.inr ⟨rfl, cb.1, prod_opn hx hP.1 p5 (Or.inr p4) (p3 _) ⟨h11.1, i0⟩ hgap i1 cb.1 cb.2⟩), ?_⟩
      obtain ⟨c1, c2⟩ := cb
      unfold bkk at c1
      rw [if_neg (by omega), if_neg (by omega), if_neg (by omega), if_neg (by omega)] at l1
      rw [if_neg (show ¬ ek (x.2.1 i) = 7 by omega)]
      split at p8 <;> omega
    · refine ⟨b + 0, blk_step hx.2.2.2.1 (fun hh => by have := hx.2.2.2.2 hh; omega) p7 h11.1 i0 i1 hi7 hgap (Or.inl rfl), ?_⟩
      have hk0 : 0 ≤ ek (x.2.1 i) := Int.natCast_nonneg _
      by_cases c0 : ek (x.2.1 i) = 0
      · rw [if_pos c0] at l1
        have hz := ((hC.1.2.1 i (by omega) i1 hi7).2.2.1 c0).2
        rw [if_neg (show ¬ 0 < sg s 0 11 by omega)] at p8
        rw [if_neg (show ¬ ek (x.2.1 i) = 7 by omega)]
        omega
      · rw [if_neg c0] at l1
        by_cases c4 : ek (x.2.1 i) = 4
        · rw [if_pos c4] at l1
          rw [if_neg (show ¬ ek (x.2.1 i) = 7 by omega)]
          split at p8 <;> omega
        · rw [if_neg c4] at l1
          by_cases c7 : ek (x.2.1 i) = 7
          · rw [if_pos c7] at l1
            rw [if_pos c7]
            split at p8 <;> omega
          · rw [if_neg c7] at l1
            rw [if_neg c7]
            by_cases cw : wtr s (ex (x.2.1 i)) < 0
            · rw [if_pos cw] at l1
              split at p8 <;> omega
            · exfalso
              refine cb ⟨?_, by omega⟩
              unfold bkk
              omega
theorem ln00 (hC : CXX x) (hx : HLn x) (h2 : x.1 2 ≤ x.1 1) : LNx x s00 := by
  refine ⟨⟨jj00 h2, Or.inl (by show (-1 : Int) < 0; decide)⟩, fun e => by rw [pz_s00]; exact Int.le_refl _, by show (0 : Int) + 0 ≤ 0; decide, ps00 hx.2.1, Int.le_refl _, 0, Or.inl ⟨rfl, rfl⟩, ?_⟩
  have e11 : sg s00 0 11 = 0 := rfl
  have e40 : sg s00 0 40 = 0 := rfl
  have ec : cns s00 = 0 := rfl
  have en : ccn x.2.1 (sg s00 0 11).toNat = 0 := rfl
  rw [e40, ec, en, e11]
  decide
/-- how many lines, how many signals, whatever comes of it -/
theorem told_ln (hC : CXX x) (hx : HLn x) (h2 : x.1 2 ≤ x.1 1) : ∃ b : Int, (b = 0 ∨ b ≤ 12 * (nbl x.2.1 (x.1 0).toNat - 1)) ∧ sg (told x lim) 0 40 ≤ 60 * csg x.2.1 (x.1 0).toNat + 60 * b + 60 * ccn x.2.1 (x.1 0).toNat + 122 ∧ sg (told x lim) 0 41 ≤ csg x.2.1 (x.1 0).toNat + 1 := by
  have key : ∀ s' : TS, LNx x s' → sg s' 0 11 ≤ x.1 0 → 0 ≤ sg s' 0 11 → ∃ b : Int, (b = 0 ∨ b ≤ 12 * (nbl x.2.1 (x.1 0).toNat - 1)) ∧ sg s' 0 40 ≤ 60 * csg x.2.1 (x.1 0).toNat + 60 * b + 60 * ccn x.2.1 (x.1 0).toNat + 61 ∧ sg s' 0 41 ≤ csg x.2.1 (x.1 0).toNat := by
    intro s' ⟨_, _, _, _, p6, b, p7, p8⟩ hm h0
    have m1 := csg_m (E := x.2.1) ((x.1 0).toNat - (sg s' 0 11).toNat) (sg s' 0 11).toNat
    have m2 := ccn_m (E := x.2.1) ((x.1 0).toNat - (sg s' 0 11).toNat) (sg s' 0 11).toNat
    have m3 := nbl_m (E := x.2.1) ((x.1 0).toNat - (sg s' 0 11).toNat) (sg s' 0 11).toNat
    rw [show (sg s' 0 11).toNat + ((x.1 0).toNat - (sg s' 0 11).toNat) = (x.1 0).toNat by omega] at m1 m2 m3
    have hq : cns s' ≤ sg s' 0 41 := by
      unfold cns Qn
      omega
    refine ⟨b, ?_, ?_, by omega⟩
    · by_cases c : sg s' 0 11 = 0
      · rcases p7 with p7 | ⟨j, l, b0, ⟨j0, j1⟩, -⟩
        · exact Or.inl p7.2
        · omega
      · have := blk_len hx.2.2.2.1 p7 hm (by omega)
        exact Or.inr (by omega)
    · split at p8 <;> omega
  rcases fol_ind (P := LNx x) (lim := lim) hC (fun s B i hP hp hg _ i0 i1 i7 hi h3 => ln_step hC hx hP hg i0 i1 i7 hi h3 hp) (lim.toNat + 1) 0 s00 1 (bp00 hC.2.2.2.2.1) (ln00 hC hx h2) rfl with ⟨s', B', v, h1, h3, h4⟩ | ⟨s', B', j, h1, h3, h4, h5, h6, h7, h8⟩
  · have hb := h3.2.2.2.2.1
    obtain ⟨b, q1, q2, q3⟩ := key s' h1 hb.2 hb.1
    have e : told x lim = st s' 0 28 v := h4
    refine ⟨b, q1, ?_, ?_⟩
    · rw [e, st_g, if_neg (by omega)]; omega
    · rw [e, st_g, if_neg (by omega)]; omega
  · have hb := h3.2.2.2.2.1
    obtain ⟨b, q1, q2, q3⟩ := key s' h1 hb.2 hb.1
    have e : told x lim = sTake x j s' := h7
    obtain ⟨u1, u2⟩ := up_take hC h3 h6.1 h6.2.1 h6.2.2
    refine ⟨b, q1, ?_, ?_⟩
    · rw [e]; omega
    · rw [e, u1]
      split <;> omega
end LN3
