/-! THE TELLING in the reference: CANCEL. -/
section RF9
variable {m0 m m' : MM} {x : CX} {s s' : TS} {B H : Int} {a b c e i j v k h n l w p r t o rh E ty ver rc : Int} {G : Int → Nat}
def sCan (x : CX) (k : Int) (s : TS) : TS := if sg s (2 + k) 7 = 1 ∨ sg s (2 + k) 7 = 2 then (if (sCmd x 11 (sg s (2 + k) 8) 0 s).1 < 0 then (sCmd x 11 (sg s (2 + k) 8) 0 s).2 else sFail x k (sCmd x 11 (sg s (2 + k) 8) 0 s).2) else sFail x k s
theorem tell_u {n : Nat} : sTell x (n + 1) k s = if k < sg s 0 5 then (if goes s = true then (if 0 < sg s (2 + k) 5 then sTell x n (k + 1) (st s (2 + k) 6 1) else sTell x n (k + 1) (sCan x k s)) else s) else s := by
  unfold sCan
  conv => lhs; unfold sTell
  by_cases c1 : k < sg s 0 5
  · rw [if_pos c1, if_pos c1]
    by_cases c2 : goes s = true
    · rw [if_pos c2, if_pos c2]
      by_cases c3 : 0 < sg s (2 + k) 5
      · rw [if_pos c3, if_pos c3]
      · rw [if_neg c3, if_neg c3]
        by_cases c4 : sg s (2 + k) 7 = 1 ∨ sg s (2 + k) 7 = 2
        · rw [if_pos c4, if_pos c4]
          generalize sCmd x 11 (sg s (2 + k) 8) 0 s = q
          obtain ⟨r, s1⟩ := q
          simp only
          split <;> rfl
        · rw [if_neg c4, if_neg c4]
    · rw [if_neg c2, if_neg c2]
  · rw [if_neg c1, if_neg c1]
theorem u_can (h : sg (sCan x k s) 0 30 = 0) : sg s 0 30 = 0 := by
  unfold sCan at h
  split at h
  · split at h
    · exact u_cmd h
    · exact u_cmd (u_fail h)
  · exact u_fail h
theorem nl_can : nl s ≤ nl (sCan x k s) := by
  unfold sCan
  split
  · split
    · exact nl_cmd
    · exact Int.le_trans nl_cmd nl_fail
  · exact nl_fail
theorem can_g {p q : Int} (h : p ≠ 2 + k) (h2 : p ≠ 0 ∨ (q ≠ 12 ∧ q ≠ 30 ∧ q ≠ 31 ∧ q ≠ 9)) : sg (sCan x k s) p q = sg s p q := by
  unfold sCan
  split
  · split
    · exact cmd_g (by omega)
    · rw [fail_g h h2]; exact cmd_g (by omega)
  · exact fail_g h h2
theorem w_can (hs : x.1 3 ≤ x.1 0) (hk : 0 ≤ k) (hk2 : k < sg s 0 5) (hW : SW x s B) : SW x (sCan x k s) B := by
  unfold sCan
  split
  · split
    · exact hW.cmd hs
    · refine (hW.cmd hs).fail hs hk ?_
      rw [cmd_g (Or.inr ⟨by decide, by decide, by decide⟩)]
      exact hk2
  · exact hW.fail hs hk hk2
theorem goes_ms (h : a ≠ 68) : fm_X12_goes (mset m a j v) = fm_X12_goes m := by
  unfold fm_X12_goes
  rw [ms_a (show (68 : Int) ≠ a from fun g => h g.symm), ms_a (show (68 : Int) ≠ a from fun g => h g.symm)]
/-- how far the branches were told -/
theorem RR.e1 (h : RR m0 m x s rh k H) (h0 : 0 ≤ k) : RR m0 (mset m 151 k (if sg s (2 + k) 6 = 0 then 0 else 1)) x s rh (k + 1) H := by
  obtain ⟨hT, hS, hV, hP, hB, hQ, hU, hN, hC, hH⟩ := h
  refine ⟨hT.ms (mtb1 (by decide) (by decide) h0), hS, hV, hP, ⟨hB.1, fun i g1 g2 => ?_⟩, hQ, hU, hN, hC, hH⟩
  have hch : ∀ {tl : List Int} {z : Int}, ChR m tl z → ChR (mset m 151 k (if sg s (2 + k) 6 = 0 then 0 else 1)) tl z := fun hc => ChR.mono (m := m) (by rw [ms_a (by decide)]; exact Int.le_refl _) (fun _ _ _ => by rw [ms_a (by decide)]) hc
  obtain ⟨b1, b2, b3, b4, b5, b6, b7, b8⟩ := hB.2 i g1 g2
  refine ⟨b1, b2, b3, ?_, hch b5, b6, b7, b8⟩
  rw [ms_i]
  by_cases q : i = k
  · rw [if_pos q, q]
    by_cases q2 : sg s (2 + k) 6 = 0
    · rw [if_pos q2, if_pos ⟨by omega, q2⟩]
    · rw [if_neg q2, if_neg (fun g => q2 g.2)]
  · rw [if_neg q, b4]
    by_cases q2 : i < k ∧ sg s (2 + i) 6 = 0
    · rw [if_pos q2, if_pos ⟨by omega, q2.2⟩]
    · rw [if_neg q2, if_neg (fun g => q2 ⟨by omega, g.2⟩)]
theorem RR.eup {E' : Int} (h : RR m0 m x s rh E H) (h1 : sg s 0 5 ≤ E) (h2 : sg s 0 5 ≤ E') : RR m0 m x s rh E' H := by
  obtain ⟨hT, hS, hV, hP, hB, hQ, hU, hN, hC, hH⟩ := h
  refine ⟨hT, hS, hV, hP, ⟨hB.1, fun i g1 g2 => ?_⟩, hQ, hU, hN, hC, hH⟩
  obtain ⟨b1, b2, b3, b4, b5⟩ := hB.2 i g1 g2
  refine ⟨b1, b2, b3, ?_, b5⟩
  rw [b4]
  by_cases q : sg s (2 + i) 6 = 0
  · rw [if_pos ⟨by omega, q⟩, if_pos ⟨by omega, q⟩]
  · rw [if_neg (fun g => q g.2), if_neg (fun g => q g.2)]
theorem cancels_r (h : RR m0 m x s rh k H) (X : RX m0 x G r ty ver rh rc s) (hW : SW x s B) (hg : goes s = true) (hA : A2 x s rh) (hK : KI x s (sCan x k s) rc) (k0 : 0 ≤ k) (k1 : k < sg s 0 5) (h9 : sg s (2 + k) 9 = 0) (h6 : sg s (2 + k) 6 = 0) (hn : nl (sCan x k s) < 65536) (hH : H ≤ 196608) : ∃ m', fm_X12_cancelsBranch k m = some (0, m') ∧ RG m0 m' x (sCan x k s) rh (k + 1) H := by
  obtain ⟨h30, hover⟩ := goes_s hg
  have h5 := hW.2.2.2.2.2.2.2.1
  have e1 := h.e1 k0
  rw [if_pos h6] at e1
  generalize hm7 : mset m 151 k 0 = m7 at e1
  have hN := X.1.2.2.2.2.2.2.2.2.1
  have hgo7 : fm_X12_goes m7 = some 1 := by
    rw [goes_r (Or.inl ⟨h30, e1⟩), if_pos hg]
  obtain ⟨b1, b2, -⟩ := (e1.br k0 k1).2.2.2.2.2.2.2 h9
  have hnl : nl s < 65536 := Int.lt_of_le_of_lt nl_can hn
  have top : fm_X12_cancelsBranch k m = bd (fm_X12_lets k m7) fun x_15 m_16 =>
bp (fm_X12_goes m_16) fun x_27 =>
if x_27 = 0 then
some (0, m_16)
else
bd (fm_X12_failsBranch k m_16) fun x_37 m_38 =>
some (0, m_38) := by
    unfold fm_X12_cancelsBranch
    simp only [up_t]
    rw [gd_t ⟨k0, by omega⟩, hm7]
  by_cases cw : sg s (2 + k) 7 = 1 ∨ sg s (2 + k) 7 = 2
  · have hlet : fm_X12_lets k m7 = fj_X12_lets_20 k m7 := by
      unfold fm_X12_lets
      simp only [lx_p]
      rw [gd_t ⟨k0, by omega⟩, b1]
      by_cases q1 : sg s (2 + k) 7 = 1
      · rw [if_pos (wmp1.mpr q1)]
      · rw [if_neg (fun g => q1 (wmp1.mp g)), if_pos (wmp4.mpr (by omega))]
    have hwf := (hW.br k0 k1).2.2.2.2.1 cw h30
    have hd : sCan x k s = if (sCmd x 11 (sg s (2 + k) 8) 0 s).1 < 0 then (sCmd x 11 (sg s (2 + k) 8) 0 s).2 else sFail x k (sCmd x 11 (sg s (2 + k) 8) 0 s).2 := by
      unfold sCan
      rw [if_pos cw]
    have h117 := X.2.2.1
    have hs := X.2.2.2.1
    have hx0 := X.2.2.2.2.1
    have hKc : KI x s (sCmd x 11 (sg s (2 + k) 8) 0 s).2 rc := fun g1 g2 => by
      have := hK g1 g2
      rw [hd] at this
      split at this
      · exact this
      · exact u_fail this
    have hnn : nl s = ((sn s).length : Int) := rfl
    obtain ⟨m1, z, c1, c2, c3, c4⟩ := rcmd (a := sg s (2 + k) 8) (b := 0) e1 X.1 X.2.1 hW h30 h117 hA hKc (by decide) (by decide) hwf.1 (by omega) (by decide) (by decide) hnl
    have hr := cmd_r (c := 11) (a := sg s (2 + k) 8) (b := 0) hW hs hN.1
    have hl2 : fm_X12_lets k m7 = some (0, mset m1 145 k 0) := by
      rw [hlet]
      unfold fj_X12_lets_20
      simp only [lx_p, up_t]
      rw [gd_t ⟨k0, by omega⟩, b2 (by omega), bd_t c1]
    rw [bd_t hl2] at top
    rcases c2 with ⟨g30, g⟩ | g
    · have hr0 : ¬ (sCmd x 11 (sg s (2 + k) 8) 0 s).1 < 0 := by
        rcases hr with ⟨-, q, -⟩ | ⟨q, -⟩ <;> omega
      rw [if_neg hr0] at hd
      have cg : ∀ p q : Int, (p ≠ 0 ∨ (q ≠ 12 ∧ q ≠ 30 ∧ q ≠ 31)) → sg (sCmd x 11 (sg s (2 + k) 8) 0 s).2 p q = sg s p q := fun p q hh => cmd_g hh
      have hg1 : goes (sCmd x 11 (sg s (2 + k) 8) 0 s).2 = true := by
        unfold goes
        rw [g30, cg 0 9 (by omega), hover]
        rfl
      have hgo : fm_X12_goes (mset m1 145 k 0) = some 1 := by
        rw [goes_ms (by decide), goes_r (Or.inl ⟨g30, g⟩), if_pos hg1]
      have e10 : sg (sCmd x 11 (sg s (2 + k) 8) 0 s).2 0 10 = sg s 0 10 := cg 0 10 (by omega)
      obtain ⟨m', f1, f2⟩ := fails_r (k := k) g (X.to e10) (hW.cmd hs) g30 c4 (fun g1 g2 => by
        rw [e10] at g1 g2
        have := hK g1 g2
        rw [hd] at this
        exact this) k0 (by rw [cg 0 5 (by omega)]; exact k1) (Int.lt_of_le_of_lt nl_fail (by rw [hd] at hn; exact hn)) hH
      refine ⟨m', ?_, by rw [hd]; exact f2⟩
      rw [top, bp_t hgo, if_neg (by decide), fails_idem, bd_t f1]
    · have hr0 : (sCmd x 11 (sg s (2 + k) 8) 0 s).1 < 0 := by
        have := g.2.1
        rcases hr with ⟨q, -, -⟩ | ⟨-, -, q, -⟩ <;> omega
      rw [if_pos hr0] at hd
      obtain ⟨g1, g2, g3, g4, g5, g6⟩ := g
      have hR : RE m0 (mset m1 145 k 0) x (sCmd x 11 (sg s (2 + k) 8) 0 s).2 rh (k + 1) H := Or.inr ⟨g1.ms (mtb1 (by decide) (by decide) k0), g2, by rw [ms_a (by decide)]; exact g3, by rw [ms_a (by decide)]; exact g4, by rw [ms_a (by decide)]; exact g5, by rw [ms_a (by decide)]; exact g6⟩
      refine ⟨mset m1 145 k 0, ?_, by rw [hd]; exact ⟨hR, c4⟩⟩
      have hgs : ¬ goes (sCmd x 11 (sg s (2 + k) 8) 0 s).2 = true := fun q => by
        have := (goes_s q).1
        omega
      rw [top, bp_t (goes_r hR), if_neg hgs, if_pos rfl]
  · have hd : sCan x k s = sFail x k s := by
      unfold sCan
      rw [if_neg cw]
    rw [hd] at hK hn
    have hl2 : fm_X12_lets k m7 = some (0, mset m7 145 k 0) := by
      unfold fm_X12_lets
      simp only [lx_p, up_t]
      rw [gd_t ⟨k0, by omega⟩, b1, if_neg (fun g => cw (Or.inl (wmp1.mp g))), if_neg (fun g => cw (Or.inr (wmp4.mp g)))]
    obtain ⟨m', f1, f2⟩ := fails_r (k := k) e1 X hW h30 hA hK k0 k1 hnl hH
    refine ⟨m', ?_, by rw [hd]; exact f2⟩
    rw [top, bd_t hl2, bp_t (by rw [goes_ms (by decide)]; exact hgo7), if_neg (by decide), fails_idem, bd_t f1]
end RF9
