/-! THE TELLING: the class's commands. -/
section CMD
variable {m0 m m' : MM} {x : CX} {s : TS} {B : Int} {a b c j v k h n : Int}
theorem Fix.sl (hF : Fix m) {q : Int × Int × Int × List (Int × Int)} (hq : fixk.contains q = true) {p : Int × Int} (hp : q.2.2.2.contains p = true) : m q.1 p.1 = p.2 := (hF.2 q (List.contains_iff_mem.mp hq)).2.2 p (List.contains_iff_mem.mp hp)
theorem Fix.s43 (hF : Fix m) : m 43 0 = 44 := hF.sl (q := (43, 3, 5, [(0, 44)])) (p := (0, 44)) (by decide +kernel) (by decide +kernel)
theorem Fix.s20 (hF : Fix m) (h0 : 0 ≤ k) (h1 : k < 4) : m 20 k = 35 + 2 * k := by
  have hq : fixk.contains (20, 105, 4, [(0, 35), (1, 37), (2, 39), (3, 41)]) = true := by decide +kernel
  have : k = 0 ∨ k = 1 ∨ k = 2 ∨ k = 3 := by omega
  rcases this with rfl | rfl | rfl | rfl
  · exact hF.sl hq (p := (0, 35)) (by decide +kernel)
  · exact hF.sl hq (p := (1, 37)) (by decide +kernel)
  · exact hF.sl hq (p := (2, 39)) (by decide +kernel)
  · exact hF.sl hq (p := (3, 41)) (by decide +kernel)
theorem goes_e (hC : CR m0 m s B) : fm_X4_goes m = some (if goes s = true then 1 else 0) := by
  unfold fm_X4_goes goes
  simp only [lx_p]
  rw [hC.c16 (j := 10) (by decide) (by decide), hC.c17 (j := 9) (by decide) (by decide)]
  have e : (20 + 10 : Int) = 30 := rfl
  rw [e]
  by_cases c1 : sg s 0 30 = 0
  · rw [if_pos c1]
    by_cases c2 : sg s 0 9 = 0
    · rw [if_pos c2, if_pos (by simp [c1, c2])]
    · rw [if_neg c2, if_neg (by simp [c2])]
  · rw [if_neg c1, if_neg (by simp [c1])]
theorem stuck_e (hC : CR m0 m s B) : ∃ m', fm_X4_getStuck v m = some (0, m') ∧ CR m0 m' (sStuck s v) B := by
  refine ⟨mset (mset m 16 10 1) 16 11 v, ?_, ?_⟩
  · unfold fm_X4_getStuck
    rw [up_t, up_t]
  · have h1 := hC.p16 (j := 10) (v := 1) (by decide) (by decide)
    exact h1.p16 (j := 11) (v := v) (by decide) (by decide)
theorem seen_e (hC : CR m0 m s B) (X : XC m0 x) (h10 : 0 ≤ sg s 0 10) : fm_X4_seen m = some (sSeen x s) := by
  obtain ⟨e2, H, -, hk⟩ := X.hc hC.2.1
  unfold fm_X4_seen sSeen
  simp only [lx_p]
  rw [hC.c17 (j := 10) (by decide) (by decide), hC.2.1.2.2 5 (by decide), hC.2.1.2.2 6 (by decide), X.2.2.2.2.1, e2]
  by_cases c : sg s 0 10 < x.1 2
  · rw [if_pos c, if_pos c, X.2.2.2.2.2.1 (by omega)]
  · rw [if_neg c, if_neg c, gd_t hk, H.sz]
theorem CRs.cong43 (h : CRs m s) : CRs (mset m 43 j v) s := ⟨fun i g1 g2 => by rw [ms_a (by decide)]; exact h.1 i g1 g2, fun i g1 g2 => by rw [ms_a (by decide)]; exact h.2.1 i g1 g2, fun i g1 g2 => by rw [ms_a (by decide)]; exact h.2.2 i g1 g2⟩
theorem CRb.cong43 (h : CRb m s) : CRb (mset m 43 j v) s := by
  obtain ⟨b1, b2, b3, b4⟩ := h
  have e : ∀ i, mset m 43 j v 19 i = m 19 i := fun i => ms_a (by decide)
  refine ⟨b1, fun k g1 g2 => by rw [e]; exact b2 k g1 g2, fun k k' g1 g2 g3 g4 => by rw [e, e]; exact b3 k k' g1 g2 g3 g4, fun k i g1 g2 g3 g4 => ?_⟩
  have := b2 k g1 (by omega)
  rw [e, ms_a (by omega)]
  exact b4 k i g1 g2 g3 g4
theorem CR.news (hC : CR m0 m s B) (hB : B < 268435456) (k0 : 8 ≤ k) (k1 : k ≤ 16) (a0 : 0 ≤ a) (a1 : a < 524288) (b0 : 0 ≤ b) (b1 : b < 1024) : ∃ m', fm_X2_put 43 k a b 0 0 m = some (0, m') ∧ CR m0 m' (stn s (sn s ++ [(k, a, b)])) (B + 1) ∧ m' 43 1 = ((sn s).length : Int) + 1 := by
  have hC0 := hC
  obtain ⟨hF, hM, hS, hb, L, hR, hL, lC⟩ := hC
  have hr : Mrow 44 := Or.inr (Or.inr (Or.inr (Or.inr (Or.inr rfl))))
  obtain ⟨i1, i2, i3, i4⟩ := hR 44 hr
  have hlB := hL.1 44 hr
  have hp := c_pack (k := k.toNat) (x := a.toNat) (y := b.toNat) (w := 0) (by omega) (by omega) (by omega) (by omega)
  rw [show ((k.toNat : Nat) : Int) = k by omega, show ((a.toNat : Nat) : Int) = a by omega, show ((b.toNat : Nat) : Int) = b by omega, show ((0 : Nat) : Int) = 0 from rfl] at hp
  generalize hz : lOr (lOr (lOr (lShl k 59) (lShl (iAnd a 524287) 40)) (lShl (iAnd b 1023) 30)) (iAnd 0 1073741823) = z at hp
  obtain ⟨a1', a2, a3, a4, a5, a6⟩ := add_ok (v := z) hF i1 (by omega)
  obtain ⟨u1, u2⟩ := hR.upd hF hM hr a2 (by rw [a4]; exact i2) a3
  have hc : ∀ a j : Int, Mcel a → addM m 44 z a j = m a j := fun a j ha => RFr.mc hF i1.1 a3 ha
  have h43 : Mcel 43 := Or.inr (Or.inr (Or.inr (Or.inr (Or.inr rfl))))
  have hn1 := hL.2.2.2.2.1
  have hn2 := hL.2.2.2.2.2
  have el : addM m 44 z 44 2 = ((sn s).length : Int) + 1 := by
    rw [a2.2.2.1, List.length_append, hn2.1]
    simp only [List.length_cons, List.length_nil]
    unfold sn
    omega
  have ef : fm_X2_put 43 k a b 0 0 m = some (0, mset (addM m 44 z) 43 1 (((sn s).length : Int) + 1)) := by
    unfold fm_X2_put fj_X2_put_27
    simp only [lx_p]
    rw [if_pos (by omega), hF.s43, gd_t i1.1.1, hz, bd_t a1', a5.s43, gd_t a2.1.1, el, up_t, if_pos (by omega), if_neg (by omega)]
  have lC1 : Mc m0 (addM m 44 z) s (fun i => if i = 44 then L 44 ++ [z] else L i) := by
    have oth := hR.oth hr a3
    have e2 := i1.2.2.1
    obtain ⟨⟨c1, c2⟩, c3, c4⟩ := lC
    refine ⟨⟨c1.sm (oth 21 (Or.inl rfl) (by decide)), c2⟩, ?_, fun q hq => ?_⟩
    · show CpS m0 (addM m 44 z) 44 ((L 44 ++ [z]).length : Int)
      refine c3.add ?_ a6 ?_
      · rw [List.length_append]
        simp only [List.length_cons, List.length_nil]
        omega
      · rw [List.length_append]
        simp only [List.length_cons, List.length_nil]
        omega
    · have hq44 : q ≠ 44 := by
        unfold Mq at hq
        omega
      show CpS m0 (addM m 44 z) q (s.1 0 41) ∧ ((if q = 44 then L 44 ++ [z] else L q).length : Int) ≤ s.1 0 41
      rw [if_neg hq44]
      exact ⟨(c4 q hq).1.sm (oth q hq.row hq44), (c4 q hq).2⟩
  refine ⟨_, ef, ⟨fx43 a5 (by decide), u2.ms a5 h43 (by decide) (by omega), (hS.cong hc).cong43 , (hb.cong hc).cong43, _, u1.ms a5 h43 (by decide), ?_, lC1.ms u1 a5 h43 (by decide) rfl rfl⟩, ms_e⟩
  obtain ⟨l1, l2, l3, l4, l5, l6⟩ := hL
  have e5 : (stn s (sn s ++ [(k, a, b)])).1 0 5 = s.1 0 5 := rfl
  refine ⟨fun r g => ?_, fun n g1 g2 => ?_, ?_, fun k' g1 g2 => ?_, ?_, ?_⟩
  · have := l1 r g
    show ((if r = 44 then L 44 ++ [z] else L r).length : Int) ≤ B + 1
    by_cases e : r = 44
    · subst e
      rw [if_pos rfl, List.length_append]
      simp only [List.length_cons, List.length_nil]
      omega
    · rw [if_neg e]
      omega
  · show (if 35 + 2 * n = 44 then L 44 ++ [z] else L (35 + 2 * n)) = _
    rw [if_neg (by omega)]
    exact l2 n g1 g2
  · rw [ms_a (by decide), hc 17 4 (Or.inr (Or.inl rfl))]
    exact l3
  · rw [e5] at g2
    have hk' := hb.2.1 k' g1 (by have := hb.1.2; omega)
    rw [ms_a (a := 43) (b := 19) (by decide), hc 19 k' (Or.inr (Or.inr (Or.inr (Or.inl rfl)))), ms_a (by omega), hc _ 10 (Or.inr (Or.inr (Or.inr (Or.inr (Or.inl hk')))))]
    exact l4 k' g1 g2
  · rw [ms_e]
    show ((sn s).length : Int) + 1 = ((sn s ++ [(k, a, b)]).length : Int)
    rw [List.length_append]
    simp only [List.length_cons, List.length_nil]
    omega
  · show NewsIs (L 44 ++ [z]) (sn s ++ [(k, a, b)])
    refine ⟨by rw [List.length_append, List.length_append]; have := l6.1; unfold sn; simp only [List.length_cons, List.length_nil]; omega, fun i k' a' b' hi => ?_⟩
    have hl6 : (L 44).length = (sn s).length := l6.1
    by_cases c : i < (sn s).length
    · rw [List.getElem?_append_left c] at hi
      obtain ⟨q1, q2, q3, q4, q5, q6, v, q7, q8⟩ := l6.2 i k' a' b' hi
      exact ⟨q1, q2, q3, q4, q5, q6, v, by rw [List.getElem?_append_left (by omega)]; exact q7, q8⟩
    · have hi3 : i = (sn s).length := by
        have := (List.getElem?_eq_some_iff.mp hi).1
        rw [List.length_append] at this
        simp only [List.length_cons, List.length_nil] at this
        omega
      subst hi3
      rw [List.getElem?_append_right (Nat.le_refl _)] at hi
      simp at hi
      obtain ⟨rfl, rfl, rfl⟩ := hi
      exact ⟨k0, k1, a0, a1, b0, b1, z, by rw [List.getElem?_append_right (by omega)]; simp [hl6], hp⟩
theorem command_e (hC : CR m0 m s B) (X : XC m0 x) (hW : SW x s B) (hB : B < 268435456) (hs : x.1 3 ≤ x.1 0) (k0 : 8 ≤ k) (k1 : k ≤ 16) (a0 : 0 ≤ a) (a1 : a < 524288) (b0 : 0 ≤ b) (b1 : b < 1024) : ∃ m', fm_X4_command k a b m = some ((sCmd x k a b s).1, m') ∧ CR m0 m' (sCmd x k a b s).2 (B + 1) := by
  obtain ⟨e2, H, e4, hk⟩ := X.hc hC.2.1
  have hn := H.n
  have hnc := nc_b hW.1.2
  have h12 := hW.1
  have hse := seen_b (s := s) hs
  have hlen := hC.2.2.2.2
  have hC1 : CR m0 (mset m 17 12 (nc x (sg s 0 12))) (st s 0 12 (nc x (sg s 0 12))) B := hC.p17 (by decide) (by decide)
  obtain ⟨f2, H1, f4, fk⟩ := X.hc hC1.2.1
  have es : sSeen x (st s 0 12 (nc x (sg s 0 12))) = sSeen x s := rfl
  have hd : fm_X4_command k a b m = (if nc x (sg s 0 12) < sSeen x s then
      (if x.1 4 = 1 then fj_X4_command_65 (nc x (sg s 0 12)) (mset m 17 12 (nc x (sg s 0 12)))
      else bp (fm_X2_is (m0 16 2) (nc x (sg s 0 12)) k a b (mset m 17 12 (nc x (sg s 0 12)))) fun x_176 =>
        if x_176 = 0 then bd (fm_X4_getStuck (nc x (sg s 0 12)) (mset m 17 12 (nc x (sg s 0 12)))) fun x_186 m_187 => some ((-1), m_187)
        else fj_X4_command_65 (nc x (sg s 0 12)) (mset m 17 12 (nc x (sg s 0 12))))
      else if sg s 0 10 < x.1 1 then bp (fm_X2_taskBeyond (m0 16 2) (sg s 0 10) (mset m 17 12 (nc x (sg s 0 12)))) fun x_125 =>
        bd (fm_X4_getStuck x_125 (mset m 17 12 (nc x (sg s 0 12)))) fun x_134 m_135 => some ((-1), m_135)
      else bd (fm_X2_put 43 k a b 0 0 (mset m 17 12 (nc x (sg s 0 12)))) fun x_79 m_80 => gd (okc m_80 (m_80 16 2) 3) <| some (w32 ((w32 (m_80 (m_80 16 2) 1 + m_80 43 1)) - 1), m_80)) := by
    unfold fm_X4_command
    simp only [lx_p]
    rw [e2, hC.c17 (j := 12) (by decide) (by decide), gd_t hk, bp_t (nextCmd_e H h12.1), up_t, bp_t (seen_e hC1 X hW.2.2.2.2.2.2.2.2.2), es, hC1.2.1.2.2 4 (by decide), X.2.2.2.1, f2, gd_t fk, gd_t fk, hC1.c17 (j := 10) (by decide) (by decide), f4]
    rfl
  rw [hd]
  unfold sCmd
  by_cases c1 : nc x (sg s 0 12) < sSeen x s
  · rw [if_pos c1, if_pos c1]
    have hj : fj_X4_command_65 (nc x (sg s 0 12)) (mset m 17 12 (nc x (sg s 0 12))) = some (nc x (sg s 0 12), mset (mset m 17 12 (nc x (sg s 0 12))) 17 12 (nc x (sg s 0 12) + 1)) := by
      unfold fj_X4_command_65
      rw [up_t, w32_id (by omega) (by omega)]
    have hCj := (hC1.p17 (j := 12) (v := nc x (sg s 0 12) + 1) (by decide) (by decide)).mono (B' := B + 1) (by omega)
    by_cases c2 : x.1 4 = 1
    · rw [if_pos c2, if_pos (Or.inl c2), hj]
      exact ⟨_, rfl, hCj⟩
    · rw [if_neg c2, bp_t (is_e H1 (by omega) (by omega) (by omega) (by omega) a0 a1 b0 b1)]
      by_cases c3 : eis (x.2.1 (nc x (sg s 0 12))) k a b = true
      · rw [if_pos c3, if_neg (by decide), if_pos (Or.inr c3), hj]
        exact ⟨_, rfl, hCj⟩
      · obtain ⟨m', g1, g2⟩ := stuck_e (v := nc x (sg s 0 12)) hC1
        rw [if_neg c3, if_pos rfl, if_neg (by rintro (g | g); exact c2 g; exact c3 g), bd_t g1]
        exact ⟨_, rfl, g2.mono (by omega)⟩
  · rw [if_neg c1, if_neg c1]
    by_cases c2 : sg s 0 10 < x.1 1
    · obtain ⟨m', g1, g2⟩ := stuck_e (v := tb x (sg s 0 10)) hC1
      rw [if_pos c2, if_pos c2, bp_t (taskB_e H1), bd_t g1]
      exact ⟨_, rfl, g2.mono (by omega)⟩
    · obtain ⟨m', g1, g2, g3⟩ := hC1.news (k := k) (a := a) (b := b) hB k0 k1 a0 a1 b0 b1
      obtain ⟨q2, Hq, -, qk⟩ := X.hc g2.2.1
      have hlB : ((sn s).length : Int) ≤ B := by
        obtain ⟨-, -, -, -, L, -, ⟨l1, -, -, -, l5, l6⟩, -⟩ := hC
        have := l1 44 (Or.inr (Or.inr (Or.inr (Or.inr (Or.inr rfl)))))
        have := l6.1
        unfold sn
        omega
      have en : sn (st s 0 12 (nc x (sg s 0 12))) = sn s := rfl
      rw [if_neg c2, if_neg c2, bd_t g1, q2, gd_t qk, Hq.sz, g3, en, w32_id (z := x.1 0 + (((sn s).length : Int) + 1)) (by omega) (by omega), w32_id (by omega) (by omega)]
      refine ⟨m', ?_, g2⟩
      rw [show x.1 0 + (((sn s).length : Int) + 1) - 1 = x.1 0 + ((sn s).length : Int) by omega]
end CMD
