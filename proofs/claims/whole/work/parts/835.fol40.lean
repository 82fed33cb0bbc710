/-! THE TELLING, plain: how many lines, however far it is told. -/
section FL4
variable {x : CX} {s s' s1 s2 S : TS} {B : Int} {a b c d e i j v k h l w p r t o q u kd lim m N : Int} {F T Z : Prop} {E : Int → Ev} {g : Int → Int → Int → Int → Int}
/-- how many lines, how many signals, whatever comes of it -/
theorem fol_ln (hC : CXX x) (hx : HLn x) (h2 : x.1 2 ≤ x.1 1) (n : Nat) : ∃ b : Int, (b = 0 ∨ b ≤ 12 * (nbl x.2.1 (x.1 0).toNat - 1)) ∧ sg (sFollow x lim n 0 s00) 0 40 ≤ 60 * csg x.2.1 (x.1 0).toNat + 60 * b + 60 * ccn x.2.1 (x.1 0).toNat + 122 ∧ sg (sFollow x lim n 0 s00) 0 41 ≤ csg x.2.1 (x.1 0).toNat + 1 := by
  have key : ∀ s' : TS, LNx x s' → sg s' 0 11 ≤ x.1 0 → 0 ≤ sg s' 0 11 → ∃ b : Int, (b = 0 ∨ b ≤ 12 * (nbl x.2.1 (x.1 0).toNat - 1)) ∧ sg s' 0 40 ≤ 60 * csg x.2.1 (x.1 0).toNat + 60 * b + 60 * ccn x.2.1 (x.1 0).toNat + 61 ∧ sg s' 0 41 ≤ csg x.2.1 (x.1 0).toNat := by
    intro s' ⟨_, _, _, _, p6, b, p7, p8⟩ hm h0
    have m1 := csg_m (E := x.2.1) ((x.1 0).toNat - (sg s' 0 11).toNat) (sg s' 0 11).toNat
    have m2 := ccn_m (E := x.2.1) ((x.1 0).toNat - (sg s' 0 11).toNat) (sg s' 0 11).toNat
    have m3 := nbl_m (E := x.2.1) ((x.1 0).toNat - (sg s' 0 11).toNat) (sg s' 0 11).toNat
    rw [show (sg s' 0 11).toNat + ((x.1 0).toNat - (sg s' 0 11).toNat) = (x.1 0).toNat by omega] at m1 m2 m3
    have hq : cns s' ≤ sg s' 0 41 := by
      unfold cns Qn
      omega
    refine ⟨b, ?_, ?_, by omega⟩
    · by_cases c : sg s' 0 11 = 0
      · rcases p7 with p7 | ⟨j, l, b0, ⟨j0, j1⟩, -⟩
        · exact Or.inl p7.2
        · omega
      · have := blk_len hx.2.2.2.1 p7 hm (by omega)
        exact Or.inr (by omega)
    · split at p8 <;> omega
  rcases fol_ind (P := LNx x) (lim := lim) hC (fun s B i hP hp hg _ i0 i1 i7 hi h3 => ln_step hC hx hP hg i0 i1 i7 hi h3 hp) n 0 s00 1 (bp00 hC.2.2.2.2.1) (ln00 hC hx h2) rfl with ⟨s', B', v, h1, h3, h4⟩ | ⟨s', B', j, h1, h3, h4, h5, h6, h7, h8⟩
  · have hb := h3.2.2.2.2.1
    obtain ⟨b, q1, q2, q3⟩ := key s' h1 hb.2 hb.1
    have e : sFollow x lim n 0 s00 = st s' 0 28 v := h4
    refine ⟨b, q1, ?_, ?_⟩
    · rw [e, st_g, if_neg (by omega)]; omega
    · rw [e, st_g, if_neg (by omega)]; omega
  · have hb := h3.2.2.2.2.1
    obtain ⟨b, q1, q2, q3⟩ := key s' h1 hb.2 hb.1
    have e : sFollow x lim n 0 s00 = sTake x j s' := h7
    obtain ⟨u1, u2⟩ := up_take hC h3 h6.1 h6.2.1 h6.2.2
    refine ⟨b, q1, ?_, ?_⟩
    · rw [e]; omega
    · rw [e, u1]
      split <;> omega
theorem fol_40 (hC : CXX x) (h : HInv x.2.1 (x.1 0)) (h2 : x.1 2 ≤ x.1 1) {C D T : Int} (hc : HCt x.2.1 (x.1 0) C D T) (hk : C + 2 * D + 2 * T ≤ 540) (n : Nat) : sg (sFollow x lim n 0 s00) 0 40 ≤ 194582 := by
  have hn := hC.2.2.2.2
  have hb := nbl_le (E := x.2.1) (x.1 0).toNat fun i i0 i1 => (h.1 i i0 (by omega)).1.1
  have hcn : ccn x.2.1 (x.1 0).toNat ≤ 1 := by
    rcases h.ccn1 (x.1 0).toNat (by omega) with g | ⟨g, -⟩ <;> omega
  obtain ⟨b, q1, q2, q3⟩ := fol_ln (lim := lim) hC (h.hl rfl rfl) h2 n
  obtain ⟨c1, c2, c3, c4, c5⟩ := hc
  have l1 := lcm_b (E := x.2.1) (N := x.1 0)
  have bT := cT_b (E := x.2.1) (x.1 0).toNat
  have z2 := nbc_m (E := x.2.1) (x.1 0).toNat 0
  rw [Nat.zero_add] at z2
  have z2 : 0 ≤ nbc x.2.1 (x.1 0).toNat := z2
  have hb' : nbl x.2.1 (x.1 0).toNat ≤ 1 + D + T := by split at hb <;> omega
  have z1 := csg_m (E := x.2.1) (x.1 0).toNat 0
  rw [Nat.zero_add] at z1
  have z1 : 0 ≤ csg x.2.1 (x.1 0).toNat := z1
  omega
theorem fol_41 (hC : CXX x) (h : HInv x.2.1 (x.1 0)) (h2 : x.1 2 ≤ x.1 1) {C D T : Int} (hc : HCt x.2.1 (x.1 0) C D T) (hk : C + 2 * D + 2 * T ≤ 540) (n : Nat) : sg (sFollow x lim n 0 s00) 0 41 ≤ 541 := by
  have hn := hC.2.2.2.2
  have hb := nbl_le (E := x.2.1) (x.1 0).toNat fun i i0 i1 => (h.1 i i0 (by omega)).1.1
  have hcn : ccn x.2.1 (x.1 0).toNat ≤ 1 := by
    rcases h.ccn1 (x.1 0).toNat (by omega) with g | ⟨g, -⟩ <;> omega
  obtain ⟨b, q1, q2, q3⟩ := fol_ln (lim := lim) hC (h.hl rfl rfl) h2 n
  obtain ⟨c1, c2, c3, c4, c5⟩ := hc
  have l1 := lcm_b (E := x.2.1) (N := x.1 0)
  have bT := cT_b (E := x.2.1) (x.1 0).toNat
  have z2 := nbc_m (E := x.2.1) (x.1 0).toNat 0
  rw [Nat.zero_add] at z2
  have z2 : 0 ≤ nbc x.2.1 (x.1 0).toNat := z2
  have hb' : nbl x.2.1 (x.1 0).toNat ≤ 1 + D + T := by split at hb <;> omega
  have z1 := csg_m (E := x.2.1) (x.1 0).toNat 0
  rw [Nat.zero_add] at z1
  have z1 : 0 ≤ csg x.2.1 (x.1 0).toNat := z1
  omega
end FL4
