/-! THE TELLING, plain: one telling as another on the same history: to the end. -/
section SI5
variable {x x' : CX} {s t s1 s2 : TS} {B : Int} {a b c e i j v k h n l w p q r o u kd lim : Int} {L : List (Int × Int × Int)} {J : TS → Int → List (Int × Int × Int) → Prop} {Kp : TS → Int → Prop} {Ok : TS → Prop}
theorem ax_13 : st (ax p q L s) 0 13 v = ax p v L (st s 0 13 w) := by
  refine Prod.ext ?_ rfl
  funext b i
  show (if b = 0 ∧ i = 13 then v else if b = 0 ∧ i = 12 then p else if b = 0 ∧ i = 13 then q else s.1 b i) = if b = 0 ∧ i = 12 then p else if b = 0 ∧ i = 13 then v else if b = 0 ∧ i = 13 then w else s.1 b i
  by_cases c1 : b = 0 ∧ i = 13
  · rw [if_pos c1, if_neg (by omega), if_pos c1]
  · rw [if_neg c1, if_neg c1, if_neg c1, if_neg c1]
theorem ax_id : s = ax (sg s 0 12) (sg s 0 13) (sn s) s := by
  refine Prod.ext ?_ rfl
  funext b i
  show s.1 b i = if b = 0 ∧ i = 12 then s.1 0 12 else if b = 0 ∧ i = 13 then s.1 0 13 else s.1 b i
  by_cases c1 : b = 0 ∧ i = 12
  · rw [if_pos c1, c1.1, c1.2]
  · rw [if_neg c1]
    by_cases c2 : b = 0 ∧ i = 13
    · rw [if_pos c2, c2.1, c2.2]
    · rw [if_neg c2]
theorem o_follow (O : OKH x Ok) (hC : CXX x) : ∀ (n : Nat) (i : Int) (s : TS) (B : Int), BP x s B → Ok (sFollow x lim n i s) → Ok s := by
  intro n
  induction n with
  | zero => intro i s B _ h; exact h
  | succ n ih =>
    intro i s B hP h
    unfold sFollow at h
    split at h
    · split at h
      · split at h
        · rename_i hna
          obtain ⟨z1, z2⟩ := na_ok hna
          exact o_noted O hC hP z1 hna z2 (o_taken O hC hP z1 hna z2 (o_take O (ih _ _ _ (BP.take hC hP z1 hna z2).1 h)))
        · exact (o_st O (by omega)).mp h
      · exact h
    · exact h
theorem pass_end : ∀ (n : Nat) (i : Int) (s : TS), i ≤ x.1 0 → x.1 0 - i < n → sg s 0 30 = 0 → x.1 0 ≤ nc x (sg s 0 12) → (∀ j : Int, i ≤ j → j < x.1 0 → ek (x.2.1 j) = 17 → ex (x.2.1 j) ≤ sg s 0 10) → sPass x n i s = st s 0 13 (x.1 0) := by
  intro n
  induction n with
  | zero => intro i s h0 h1 _ _ _; omega
  | succ n ih =>
    intro i s h0 h1 h30 hn hT
    unfold sPass
    by_cases c1 : i < x.1 0
    · rw [if_pos c1, if_pos h30]
      by_cases c2 : ek (x.2.1 i) = 17
      · have := hT i (Int.le_refl _) c1 c2
        rw [if_pos c2, if_neg (by omega), if_neg (by omega)]
        exact ih _ _ (by omega) (by omega) h30 hn fun j j0 => hT j (by omega)
      · rw [if_neg c2]
        exact ih _ _ (by omega) (by omega) h30 hn fun j j0 => hT j (by omega)
    · rw [if_neg c1, show i = x.1 0 by omega]
/-- what is passed is passed by the other as well, from the same place -/
theorem ax_pass (h0 : x'.1 0 = x.1 0) (h2 : x'.2.1 = x.2.1) : ∀ (n : Nat) (i q : Int) (s : TS) (p : Int) (L : List (Int × Int × Int)), nc x p = nc x (sg s 0 12) → L = sn s → ∃ q', sPass x' n i (ax p q L s) = ax p q' L (sPass x n i s) ∧ (q = sg s 0 13 → q' = sg (sPass x n i s) 0 13) ∧ sg (sPass x n i s) 0 12 = sg s 0 12 ∧ sn (sPass x n i s) = sn s := by
  intro n
  induction n with
  | zero => intro i q s p L _ _; exact ⟨q, rfl, fun z => z, rfl, rfl⟩
  | succ n ih =>
    intro i q s p L hn hL
    have e12 : sg (ax p q L s) 0 12 = p := by rw [ax_g, if_pos ⟨rfl, rfl⟩]
    have e10 : sg (ax p q L s) 0 10 = sg s 0 10 := ax_o (by omega)
    have e30 : sg (ax p q L s) 0 30 = sg s 0 30 := ax_o (by omega)
    have hend : ∃ q', st (ax p q L s) 0 13 i = ax p q' L (st s 0 13 i) ∧ (q = sg s 0 13 → q' = sg (st s 0 13 i) 0 13) ∧ sg (st s 0 13 i) 0 12 = sg s 0 12 ∧ sn (st s 0 13 i) = sn s := ⟨i, ax_13, fun _ => by rw [st_g, if_pos ⟨rfl, rfl⟩], by rw [st_g, if_neg (by omega)], rfl⟩
    unfold sPass
    rw [e12, e10, e30, nc_eq h0 h2, hn, h0, h2]
    by_cases c1 : i < x.1 0
    · rw [if_pos c1, if_pos c1]
      by_cases c2 : sg s 0 30 = 0
      · rw [if_pos c2, if_pos c2]
        by_cases c3 : ek (x.2.1 i) = 17
        · rw [if_pos c3, if_pos c3]
          by_cases c4 : sg s 0 10 < ex (x.2.1 i)
          · rw [if_pos c4, if_pos c4]; exact hend
          · rw [if_neg c4, if_neg c4]
            by_cases c5 : nc x (sg s 0 12) < i
            · rw [if_pos c5, if_pos c5, ax_stk]
              exact ih _ _ (sStuck s (nc x (sg s 0 12))) _ _ hn hL
            · rw [if_neg c5, if_neg c5]
              exact ih _ _ _ _ _ hn hL
        · rw [if_neg c3, if_neg c3]
          exact ih _ _ _ _ _ hn hL
      · rw [if_neg c2, if_neg c2]; exact hend
    · rw [if_neg c1, if_neg c1]; exact hend
/-- what is not below stays so -/
theorem okM : OKH x (fun s => sg s 0 12 < v) := by
  refine ⟨fun s s' _ h2 _ _ => by show sg s' 0 12 < v ↔ sg s 0 12 < v; rw [h2], fun s k a b h => ?_, fun s w h => h⟩
  have hb := (nxc_b (x := x) (x.1 0 - sg s 0 12).toNat (sg s 0 12) rfl).1
  have hc : nc x (sg s 0 12) ≤ sg (sCmd x k a b s).2 0 12 := by
    unfold sCmd
    split
    · split
      · show nc x (sg s 0 12) ≤ nc x (sg s 0 12) + 1
        omega
      · exact Int.le_refl _
    · split
      · exact Int.le_refl _
      · exact Int.le_refl _
  have : sg s 0 12 ≤ nc x (sg s 0 12) := hb
  omega
theorem nc_far (hk : ∀ i : Int, 0 ≤ i → i < x.1 0 → ek (x.2.1 i) ≤ 17) : ∀ (n : Nat) (a b : Int), (b - a).toNat = n → 0 ≤ a → a ≤ b → x.1 0 ≤ nc x a → x.1 0 ≤ nc x b := by
  intro n
  induction n with
  | zero => intro a b hn _ hab h; rw [show b = a by omega]; exact h
  | succ n ih =>
    intro a b hn h0 hab h
    by_cases c : a < x.1 0
    · refine ih (a + 1) b (by omega) (by omega) (by omega) ?_
      rw [← nc_u c (fun g => by rw [nc_at c g] at h; omega) (hk a h0 c)]
      exact h
    · have := (nxc_b (x := x) (x.1 0 - b).toNat b rfl).1
      have : b ≤ nc x b := this
      omega
/-- all TASKs from the two places on are passed, all commands met -/
def KC (x : CX) (q : Int) (s : TS) : Prop := (0 ≤ q ∧ q ≤ x.1 0) ∧ (∀ j : Int, q ≤ j ∨ sg s 0 13 ≤ j → j < x.1 0 → ek (x.2.1 j) = 17 → ex (x.2.1 j) ≤ sg s 0 10) ∧ x.1 0 ≤ nc x (sg s 0 12)
theorem eq_take (h : EQX x x') (hC : CXX x) (hk : ∀ i : Int, 0 ≤ i → i < x.1 0 → ek (x.2.1 i) ≤ 17) (hP : BP x s B) (i0 : sg s 0 11 ≤ i) (i1 : i < x.1 0) (hi7 : ek (x.2.1 i) ≤ 7) (hf : OkE x x' (sTake x i s)) (ht : Sm (JE x) q t s) (hq : q = sg s 0 13 ∨ KC x q s) : ∃ q', Sm (JE x) q' (sTake x' i t) (sTake x i s) ∧ (q' = sg (sTake x i s) 0 13 ∨ ¬ goes (sTake x i s) = true) := by
  have O : OKH x (OkE x x') := okE
  have g2 : x'.2.1 = x.2.1 := by rw [h.2.1]
  have h0 : x'.1 0 = x.1 0 := h.1 0 (by decide)
  have hfT := o_take O hf
  obtain ⟨a1, a2, a3, a4, a5, a6, -⟩ := taken_all hC hP i0 i1 hi7
  have hT := sm_taken (Q := fun _ => True) (simE h) hC hP i0 i1 hi7 (fun j _ _ => by rw [g2]) (fun _ _ _ _ => trivial) (fun _ _ _ _ _ _ _ _ => trivial) trivial ht hfT
  have hm : sg s 0 12 ≤ sg (sTaken x i s) 0 12 := by
    have hh : ¬ sg (sTaken x i s) 0 12 < sg s 0 12 := fun hc => absurd (o_noted okM hC hP i0 i1 hi7 (o_taken okM hC hP i0 i1 hi7 hc)) (Int.lt_irrefl _)
    omega
  rw [take_d, take_d]
  generalize sTaken x i s = S at hT hm hfT a1 a2 a3 a4 a5 a6
  generalize sTaken x' i t = T at hT
  obtain ⟨p, L, rfl, j1, j2⟩ := hT
  have e10 : sg (ax p q L S) 0 10 = sg S 0 10 := ax_o (by omega)
  have e13 : sg (ax p q L S) 0 13 = q := by rw [ax_g, if_neg (by omega), if_pos ⟨rfl, rfl⟩]
  rw [e10, e13, h0, ax_st (by omega)]
  have hBt := hP.2.2.2.2
  have s12 : sg (st S 0 10 (sg S 0 10 + 1)) 0 12 = sg S 0 12 := by rw [st_g, if_neg (by omega)]
  have s13 : sg (st S 0 10 (sg S 0 10 + 1)) 0 13 = sg S 0 13 := by rw [st_g, if_neg (by omega)]
  have s30 : sg (st S 0 10 (sg S 0 10 + 1)) 0 30 = sg S 0 30 := by rw [st_g, if_neg (by omega)]
  have s10 : sg (st S 0 10 (sg S 0 10 + 1)) 0 10 = sg S 0 10 + 1 := by rw [st_g, if_pos ⟨rfl, rfl⟩]
  rcases hq with rfl | ⟨⟨k1, k1'⟩, k2, k3⟩
  · obtain ⟨q', z1, z2, z3, z4⟩ := ax_pass h0 g2 (x.1 0 - sg s 0 13 + 1).toNat (sg s 0 13) (sg s 0 13) (st S 0 10 (sg S 0 10 + 1)) p L (by rw [s12]; exact j1) j2
    rw [z1, a6]
    refine ⟨q', ⟨p, L, rfl, ?_, ?_⟩, Or.inl (z2 (by rw [s13, a6]))⟩
    · rw [z3, s12]; exact j1
    · rw [z4]; exact j2
  · by_cases c30 : sg S 0 30 = 0
    · have hn : x.1 0 ≤ nc x (sg S 0 12) := nc_far hk _ _ _ rfl hP.1.1.1 hm k3
      have hb13 := hBt.2.1
      have p1 := pass_end (x := x) (x.1 0 - sg S 0 13 + 1).toNat (sg S 0 13) (st S 0 10 (sg S 0 10 + 1)) (by rw [a6]; exact hb13.2) (by rw [a6]; omega) (by rw [s30]; exact c30) (by rw [s12]; exact hn) (fun j z0 z1 z2 => by
        rw [s10, a4]
        have := k2 j (Or.inr (by rw [a6] at z0; exact z0)) z1 z2
        omega)
      have p2 := pass_end (x := x') (x.1 0 - q + 1).toNat q (ax p q L (st S 0 10 (sg S 0 10 + 1))) (by rw [h0]; exact k1') (by rw [h0]; omega) (by rw [ax_o (by omega), s30]; exact c30) (by rw [h0, nc_eq h0 g2, show sg (ax p q L (st S 0 10 (sg S 0 10 + 1))) 0 12 = p by rw [ax_g, if_pos ⟨rfl, rfl⟩], j1]; exact hn) (fun j z0 z1 z2 => by
        rw [ax_o (by omega), s10, a4, g2]
        rw [h0] at z1
        rw [g2] at z2
        have := k2 j (Or.inl z0) z1 z2
        omega)
      rw [p1, p2, h0, ax_13 (w := x.1 0)]
      refine ⟨x.1 0, ⟨p, L, rfl, ?_, j2⟩, Or.inl (by rw [st_g, if_pos ⟨rfl, rfl⟩])⟩
      rw [st_g, if_neg (by omega), s12]
      exact j1
    · obtain ⟨n1, e1⟩ : ∃ n : Nat, (x.1 0 - q + 1).toNat = n + 1 := ⟨(x.1 0 - q).toNat, by omega⟩
      obtain ⟨n2, e2⟩ : ∃ n : Nat, (x.1 0 - sg S 0 13 + 1).toNat = n + 1 := ⟨(x.1 0 - sg S 0 13).toNat, by rw [a6]; have := hBt.2.1; omega⟩
      have stp : ∀ (y : CX) (n : Nat) (i : Int) (u : TS), sg u 0 30 ≠ 0 → sPass y (n + 1) i u = st u 0 13 i := by
        intro y n i u hu
        unfold sPass
        by_cases q1 : i < y.1 0
        · rw [if_pos q1, if_neg hu]
        · rw [if_neg q1]
      rw [e1, e2, stp _ _ _ _ (by rw [ax_o (by omega), s30]; exact c30), stp _ _ _ _ (by rw [s30]; exact c30), ax_13 (w := sg S 0 13)]
      refine ⟨q, ⟨p, L, rfl, ?_, j2⟩, Or.inr (not_goes (Or.inl ?_))⟩
      · rw [st_g, if_neg (by omega), s12]; exact j1
      · rw [st_g, if_neg (by omega), s30]; exact c30
theorem eq_follow (h : EQX x x') (hC : CXX x) (hk : ∀ i : Int, 0 ≤ i → i < x.1 0 → ek (x.2.1 i) ≤ 17) : ∀ (n : Nat) (i q : Int) (t s : TS) (B : Int), BP x s B → OkE x x' (sFollow x lim n i s) → Sm (JE x) q t s → (q = sg s 0 13 ∨ KC x q s ∨ ¬ goes s = true) → ∃ q', Sm (JE x) q' (sFollow x' lim n i t) (sFollow x lim n i s) := by
  intro n
  induction n with
  | zero => intro i q t s B _ _ h _; exact ⟨q, h⟩
  | succ n ih =>
    intro i q t s B hP hf ht hq
    have g2 : x'.2.1 = x.2.1 := by rw [h.2.1]
    have h0 : x'.1 0 = x.1 0 := h.1 0 (by decide)
    unfold sFollow at hf ⊢
    rw [sm_goes ht, sm_g (a := 0) (j := 11) ht (by omega), na_eq h0 g2, h0]
    by_cases c1 : i < lim
    · rw [if_pos c1] at hf
      rw [if_pos c1, if_pos c1]
      by_cases c2 : goes s = true
      · rw [if_pos c2] at hf
        rw [if_pos c2, if_pos c2]
        by_cases c3 : na x (sg s 0 11) < x.1 0
        · rw [if_pos c3] at hf
          rw [if_pos c3, if_pos c3]
          obtain ⟨z1, z2⟩ := na_ok c3
          have hP1 := (BP.take hC hP z1 c3 z2).1
          obtain ⟨q', w1, w2⟩ := eq_take h hC hk hP z1 c3 z2 (o_follow okE hC _ _ _ _ hP1 hf) ht (by
            rcases hq with g | g | g
            · exact Or.inl g
            · exact Or.inr g
            · exact absurd c2 g)
          exact ih _ _ _ _ _ hP1 hf w1 (w2.imp_right Or.inr)
        · rw [if_neg c3, if_neg c3]
          exact ⟨q, sm_sx (simE h) ht (by omega)⟩
      · rw [if_neg c2, if_neg c2]
        exact ⟨q, ht⟩
    · rw [if_neg c1, if_neg c1]
      exact ⟨q, ht⟩
/-- without looking at commands, a telling that is not stuck comes to the same -/
theorem plain_told (h : EQX x x') (hC : CXX x) (hk : ∀ i : Int, 0 ≤ i → i < x.1 0 → ek (x.2.1 i) ≤ 17) (hP : BP x s00 B) (hf : sg (told x l) 0 30 = 0) : ∃ q, Sm (JE x) q (told x' l) (told x l) :=
  eq_follow h hC hk _ _ (sg s00 0 13) _ _ _ hP (Or.inr hf) ⟨sg s00 0 12, sn s00, ax_id, rfl, rfl⟩ (Or.inl rfl)
end SI5
