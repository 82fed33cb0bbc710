/-! THE CLASS'S TELLING: rows grow with lines and arrivals: all arrivals. -/
section RWE
variable {m0 m m' : MM} {x : CX} {s s' s1 : TS} {B l : Int} {i j k : Int}
theorem follow_l2 (X : XC m0 x) (hx : CxW x) (hN0 : 0 ≤ x.1 0) (hl2 : x.1 5 ≤ 24) {Q : Int} : ∀ (n F : Nat) (i : Int) (s : TS) (m : MM) (B : Int), l - i < n → n ≤ F → (0 ≤ i ∧ i ≤ l) → l < 2147483647 → CR m0 m s B → SW x s B → BtW x s → (∀ j : Nat, j ≤ n → sg (sFollow x l j i s) 0 40 ≤ Q) → B + 30 * (3 * (Q - sg s 0 40) + 26 * n) < 268435456 → x.1 0 + nl (sFollow x l n i s) ≤ 524288 → ∃ m', fl_X4_follow_17 l (fun m_231 => fj_X4_follow_147 m_231) (fun m_252 => fj_X4_follow_147 m_252) F i m = some (if sg (sFollow x l n i s) 0 30 = 0 then 1 else 0, m') ∧ CR m0 m' (sFollow x l n i s) (B + 30 * (3 * (sg (sFollow x l n i s) 0 40 - sg s 0 40) + 26 * n)) ∧ SW x (sFollow x l n i s) (B + 30 * (3 * (sg (sFollow x l n i s) 0 40 - sg s 0 40) + 26 * n)) := by
  intro n
  induction n with
  | zero => 
    intro F i s m B h1 h2 h3 h4 hC hW hb hL hB hN
    omega
  | succ n ih =>
    intro F i s m B h1 h2 h3 h4 hC hW hb hL hB hN
    obtain ⟨F, rfl⟩ : ∃ g, F = g + 1 := ⟨F - 1, by omega⟩
    have hL0 : sg s 0 40 ≤ Q := hL 0 (Nat.zero_le _)
    have hend : ∀ (m : MM) (s' : TS), CR m0 m s' B → SW x s' B → sg s' 0 40 = sg s 0 40 → ∃ m', fj_X4_follow_147 m = some (if sg s' 0 30 = 0 then 1 else 0, m') ∧ CR m0 m' s' (B + 30 * (3 * (sg s' 0 40 - sg s 0 40) + 26 * (n + 1 : Nat))) ∧ SW x s' (B + 30 * (3 * (sg s' 0 40 - sg s 0 40) + 26 * (n + 1 : Nat))) := by
      intro m s g1 g2 g40
      refine ⟨m, ?_, g1.mono (by omega), g2.mono (by omega)⟩
      have e10 : m 16 10 = sg s 0 30 := g1.c16 (j := 10) (by decide) (by decide)
      unfold fj_X4_follow_147
      rw [lx_p, e10]
      split <;> rfl
    unfold fl_X4_follow_17
    have hLs : ∀ (c1 : i < l) (cg : goes s = true) (c2 : na x (sg s 0 11) < x.1 0) (j : Nat), sFollow x l (j + 1) i s = sFollow x l j (i + 1) (sTake x (na x (sg s 0 11)) s) := fun c1 cg c2 j => by
      show (if i < l then (if goes s then (if na x (sg s 0 11) < x.1 0 then sFollow x l j (i + 1) (sTake x (na x (sg s 0 11)) s) else _) else _) else _) = _
      rw [if_pos c1, if_pos cg, if_pos c2]
    unfold sFollow at hN ⊢
    simp only [lx_p, up_t]
    by_cases c1 : i < l
    · rw [if_pos c1] at hN
      rw [if_pos c1, if_pos c1, bp_t (goes_e hC)]
      by_cases cg : goes s = true
      · rw [if_pos cg] at hN
        obtain ⟨e2, H, e4, hk⟩ := X.hc hC.2.1
        have hn := H.n
        have hna := na_b (x := x) _ (sg s 0 11) rfl
        have hna2 : nxa x (x.1 0 - sg s 0 11).toNat (sg s 0 11) = na x (sg s 0 11) := rfl
        rw [hna2] at hna
        have w1 : CR m0 (mset m 16 8 (na x (sg s 0 11))) (st s 0 28 (na x (sg s 0 11))) B := hC.p16 (j := 8) (by decide) (by decide)
        obtain ⟨d2, D, d4, dk⟩ := X.hc w1.2.1
        rw [if_pos cg, if_pos cg, if_neg (by decide), e2, hC.c17 (j := 11) (by decide) (by decide), gd_t hk, bp_t (nextArr_e H hb.1.1), ms_e, d2, gd_t dk, D.sz]
        by_cases c2 : na x (sg s 0 11) < x.1 0
        · rw [if_pos c2] at hN
          rw [if_pos c2, if_pos c2, w32_id (z := na x (sg s 0 11) + 1) (by have := hb.1.1; omega) (by omega)]
          have hq1 := hL 1 (by omega)
          rw [hLs c1 cg c2 0] at hq1
          have hq1 : sg (sTake x (na x (sg s 0 11)) s) 0 40 ≤ Q := hq1
          obtain ⟨m2, f1, f2, f3, f4, f5, f6⟩ := take_e2 hC X hx hN0 hl2 (by omega) hW hb (by omega) hna.1 c2 (hna.2.1 c2) (Int.le_trans (Int.add_le_add_left (nl_follow n (i + 1) _) _) hN)
          have w3 : CR m0 (mset (mset (mset m 16 8 (na x (sg s 0 11))) 17 11 (na x (sg s 0 11) + 1)) 16 9 0) (st (st (st s 0 28 (na x (sg s 0 11))) 0 11 (na x (sg s 0 11) + 1)) 0 29 0) B := (w1.p17 (j := 11) (by decide) (by decide)).p16 (j := 9) (by decide) (by decide)
          obtain ⟨x2, XH, x4, xk⟩ := X.hc w3.2.1
          have x8 : mset (mset (mset m 16 8 (na x (sg s 0 11))) 17 11 (na x (sg s 0 11) + 1)) 16 9 0 16 8 = na x (sg s 0 11) := by rw [ms_j (by decide), ms_a (by decide), ms_e]
          obtain ⟨m', g1, g2, g3⟩ := ih F (i + 1) (sTake x (na x (sg s 0 11)) s) m2 _ (by omega) (by omega) (by omega) h4 f2 f3 f4 (fun j hj => by rw [← hLs c1 cg c2 j]; exact hL (j + 1) (by omega)) (by omega) hN
          refine ⟨m', ?_, g2.mono (by omega), g3.mono (by omega)⟩
          rw [x2, x8, gd_t xk, ← g1]
          unfold takeF at f1
          obtain ⟨z1, p1, f1⟩ := bp_s f1
          obtain ⟨z2, p2, f1⟩ := bp_s f1
          obtain ⟨z3, p3, f1⟩ := bp_s f1
          obtain ⟨z4, mm4, p4, f1⟩ := bd_s f1
          obtain ⟨z5, mm5, p5, f1⟩ := bd_s f1
          rw [up_t] at f1
          rw [bp_t p1, bp_t p2, bp_t p3, bd_t p4, bd_t p5, bd_t f1, w32_id (by omega) (by omega)]
        · rw [if_neg c2, if_neg c2]
          exact hend _ _ w1 (hW.s0 (by decide) (by decide) (by decide) (by decide) (by decide) (Or.inl (by decide))) (by rw [st_g, if_neg (by omega)])
      · rw [if_neg cg, if_neg cg, if_pos rfl]
        exact hend m s hC hW rfl
    · rw [if_neg c1, if_neg c1]
      exact hend m s hC hW rfl
end RWE
