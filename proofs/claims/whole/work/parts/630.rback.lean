/-! THE TELLING in the reference: what a branch waited for comes back. -/
section RF11
variable {m0 m m' : MM} {x : CX} {s s' : TS} {B H : Int} {a b c e i j v k h n l w p r t o rh E ty ver rc : Int} {G : Int → Nat}
theorem mset_comm {M : MM} (hh : a ≠ b) : mset (mset M a i v) b j w = mset (mset M b j w) a i v := by
  funext p q
  unfold mset
  by_cases q1 : p = b ∧ q = j
  · rw [if_pos q1, if_neg (by omega), if_pos q1]
  · rw [if_neg q1, if_neg q1]
/-- the branch at a place goes on where it stands -/
theorem RR.stay (h : RR m0 m x s rh E H) (h0 : 0 ≤ k) (h1 : k < sg s 0 5) : RR m0 (mset m 145 k 0) x (sGo k (sg s (2 + k) 4) s) rh E H := by
  have hg := h.go (l := sg s (2 + k) 4) h0 h1
  rw [← (h.br h0 h1).2.1, sw_same, (h.br h0 h1).2.1] at hg
  exact hg
def sBack (x : CX) (k a b : Int) (s : TS) : TS := if k = 2 ∨ k = 6 then sFailed x (wtr s a) s else sEnded x (wtr s a) k b s
theorem back_r (h : RR m0 m x s rh E H) (X : RX m0 x G r ty ver rh rc s) (hW : SW x s B) (h30 : sg s 0 30 = 0) (hA : A2 x s rh) (hN : ND s) (hD : WD s) (hK : KI x s (sBack x k a b s) rc) (hn : nl s < 65536) (hH : H ≤ 196608) (hc : 0 ≤ wtr s a → sg s (2 + wtr s a) 7 = 1 → ((x.2.2 (sg s (2 + wtr s a) 4)).1 = 2 ∨ (x.2.2 (sg s (2 + wtr s a) 4)).1 = 3 ∨ (x.2.2 (sg s (2 + wtr s a) 4)).1 = 5) ∧ (k = 3 ↔ (x.2.2 (sg s (2 + wtr s a) 4)).1 = 3)) : ∃ m', fm_X12_comesBack k a b m = some (0, m') ∧ RG m0 m' x (sBack x k a b s) rh E H := by
  have hw := wtr_r (e := a) h hN hD
  have h5 := hW.2.2.2.2.2.2.2.1
  unfold fm_X12_comesBack
  rw [bp_t hw]
  rcases wtr_b (s := s) (e := a) with g | ⟨g1, g2, g3, g4⟩
  · have hd : sBack x k a b s = s := by
      unfold sBack sFailed sEnded
      rw [g, if_pos (show (-1 : Int) < 0 by decide), if_pos (show (-1 : Int) < 0 by decide)]
      split <;> rfl
    rw [hd]
    refine ⟨m, ?_, Or.inl ⟨h30, h⟩, hA⟩
    rw [if_pos g]
  · unfold sBack at hK ⊢
    unfold sFailed sEnded at hK ⊢
    generalize hq : wtr s a = q at *
    have hb := h.br g1 g2
    obtain ⟨b1, b2, b3, b4⟩ := hb.2.2.2.2.2.2.2 (hN q g1 g2)
    have hbw := hW.br g1 g2
    have hbl := hbw.2.2.1 (by omega)
    have hst := h.stay g1 g2
    rw [if_neg (by omega), gd_t ⟨g1, by omega⟩, lx_p, b1]
    unfold fj_X12_comesBack_30
    rw [gd_t ⟨g1, by omega⟩, gd_t ⟨g1, by omega⟩]
    simp only [up_t]
    by_cases c2 : sg s (2 + q) 7 = 2
    · have hd : (if k = 2 ∨ k = 6 then (if q < 0 then s else if sg s (2 + q) 7 = 2 then sGo q (sg s (2 + q) 4) s else sFail x q s) else (if q < 0 then s else if sg s (2 + q) 7 = 2 then sGo q (sg s (2 + q) 4) s else if k = 3 then sGo q (sg s (2 + q) 4 + 1) s else sGo q (sg s (2 + q) 4 + 1) (st s 1 (bOf x (sg s (2 + q) 4)) b))) = sGo q (sg s (2 + q) 4) s := by
        rw [if_neg (show ¬ q < 0 by omega), if_neg (show ¬ q < 0 by omega), if_pos c2, if_pos c2]
        split <;> rfl
      rw [hd, if_pos (wmp4.mpr c2), if_neg (by decide)]
      exact ⟨_, rfl, Or.inl ⟨by rw [u_go]; exact h30, hst⟩, hA.go g1⟩
    · have c1 : sg s (2 + q) 7 = 1 := by omega
      obtain ⟨hc1, hc3⟩ := hc g1 c1
      rw [if_neg (show ¬ q < 0 by omega), if_neg (show ¬ q < 0 by omega), if_neg c2, if_neg c2] at hK ⊢
      rw [if_neg (fun g => c2 (wmp4.mp g)), if_pos trivial]
      have h147 : mset m 145 q 0 147 q = rinto x (sg s (2 + q) 4) := by rw [ms_a (by decide)]; exact b4 c1
      by_cases ck : k = 2 ∨ k = 6
      · rw [if_pos ck] at hK ⊢
        obtain ⟨m', f1, f2⟩ := fails_r h X hW h30 hA hK g1 g2 hn hH
        refine ⟨m', ?_, f2⟩
        unfold fj_X12_comesBack_57
        rw [fails_idem, bd_t f1]
        split
        · rfl
        · rw [if_pos (by omega)]
      · rw [if_neg ck] at hK ⊢
        rw [if_neg (fun g => ck (Or.inl g)), if_neg (fun g => ck (Or.inr g)), lx_p, h147]
        have hl0 := hbw.2.1
        have hl : w32 (sg s (2 + q) 4 + 1) = sg s (2 + q) 4 + 1 := w32_id (by omega) (by omega)
        unfold fj_X12_comesBack_88
        have hq12 : 0 ≤ q ∧ q < 12 := ⟨g1, by omega⟩
        simp only [lx_p, up_t, gd_t hq12]
        unfold rinto
        by_cases c3 : k = 3
        · rw [if_pos c3] at hK ⊢
          rw [if_pos (hc3.mp c3), if_pos rfl]
          refine ⟨_, rfl, Or.inl ⟨by rw [u_go]; exact h30, ?_⟩, hA.go g1⟩
          have hg := h.go (l := sg s (2 + q) 4 + 1) g1 g2
          rw [show mset m 145 q 0 144 q = m 144 q from ms_a (by decide), hb.2.1, hl]
          exact hg
        · rw [if_neg c3] at hK ⊢
          have hlo := X.2.2.2.2.2 _ hbw.2.1.1 hbl
          unfold LineOk at hlo
          have hbo : 0 ≤ bOf x (sg s (2 + q) 4) ∧ bOf x (sg s (2 + q) 4) < 6 := by
            have : (x.2.2 (sg s (2 + q) 4)).1 ≠ 3 := fun g => c3 (hc3.mpr g)
            obtain ⟨-, -, -, -, l1, -, -, l2, -⟩ := hlo
            have l3 := l2 (by omega)
            clear l2
            unfold bOf
            omega
          rw [if_neg (fun g => c3 (hc3.mpr g)), if_neg (by omega), gd_t hbo]
          refine ⟨_, rfl, Or.inl ⟨by rw [u_go, st_g, if_neg (by omega)]; exact h30, ?_⟩, (hA.st (by omega)).go g1⟩
          have hg := (h.p1 (v := b) hbo.1).go (k := q) (l := sg s (2 + q) 4 + 1) g1 (by rw [st_g, if_neg (by omega)]; exact g2)
          rw [show mset (mset m 145 q 0) 142 (bOf x (sg s (2 + q) 4)) b 144 q = m 144 q by rw [ms_a (by decide), ms_a (by decide)], hb.2.1, hl, show mset (mset m 145 q 0) 142 (bOf x (sg s (2 + q) 4)) b = mset (mset m 142 (bOf x (sg s (2 + q) 4)) b) 145 q 0 from mset_comm (by decide)]
          exact hg
end RF11
