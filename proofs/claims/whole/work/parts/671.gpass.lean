/-! THE TELLING, plain: a history that has grown: TASKs are passed, arrivals taken. -/
section SI7
variable {x x' : CX} {s t s1 s2 : TS} {B : Int} {a b c e i j v k h n l w p q r o u kd lim c0 n0 : Int} {L F : List (Int × Int × Int)} {Q : TS → Prop}
theorem GRW.cmdat (h : GRW x x' F lim c0 n0) (h0 : x.1 0 ≤ j) (h1 : j < x.1 0 + F.length) : 8 ≤ ek (x'.2.1 j) ∧ ek (x'.2.1 j) ≤ 16 := by
  obtain ⟨m, hm⟩ : ∃ m : Nat, j = x.1 0 + m := ⟨(j - x.1 0).toNat, by omega⟩
  subst hm
  have c : m < F.length := by omega
  have hF : F[m]? = some (F[m].1, F[m].2.1, F[m].2.2) := List.getElem?_eq_getElem c
  obtain ⟨g1, g2, g3⟩ := h.2.2.1 m _ _ _ hF
  unfold eis at g1
  simp only [Bool.and_eq_true, decide_eq_true_eq] at g1
  omega
/-- from behind the old history on, as long as fewer are taken than the new TASK counts -/
theorem GRW.pass2 (h : GRW x x' F lim c0 n0) : ∀ (n : Nat) (i : Int) (u : TS), x.1 0 ≤ i → i ≤ x.1 0 + F.length → x'.1 0 - i < n → sg u 0 30 = 0 → sg u 0 10 < lim → sPass x' n i u = st u 0 13 (x.1 0 + F.length) := by
  intro n
  have h8 := h.2.2.2.2.2.2.2.1
  induction n with
  | zero => intro i u h0 h1 hn; omega
  | succ n ih =>
    intro i u h0 h1 hn h30 ht
    unfold sPass
    rw [if_pos (by omega), if_pos h30]
    by_cases c : i < x.1 0 + F.length
    · have := h.cmdat h0 c
      rw [if_neg (by omega)]
      exact ih _ _ (by omega) (by omega) (by omega) h30 ht
    · have e : i = x.1 0 + F.length := by omega
      subst e
      obtain ⟨g1, g2⟩ := h.2.2.2.1
      rw [if_pos g1, g2, if_pos ht]
/-- and behind that -/
theorem GRW.pass3 (h : GRW x x' F lim c0 n0) {n : Nat} {u : TS} (h0 : x.1 0 ≤ i) (h1 : i ≤ x'.1 0) (hn : x'.1 0 - i < n) (h30 : sg u 0 30 = 0) (ht : lim ≤ sg u 0 10) (hc : x'.1 0 ≤ nc x' (sg u 0 12)) : sPass x' n i u = st u 0 13 (x'.1 0) := by
  refine pass_end n i u h1 hn h30 hc fun j z0 z1 z2 => ?_
  by_cases c : j < x.1 0 + F.length
  · have := h.cmdat (by omega) c
    omega
  · by_cases c2 : j = x.1 0 + F.length
    · rw [c2, h.2.2.2.1.2]; exact ht
    · have := h.2.2.2.2.1 j (by omega) z1
      omega
/-- how the two pointers to TASKs stand -/
def R13 (x : CX) (F : List (Int × Int × Int)) (q : Int) (s : TS) : Prop := (sg s 0 13 < x.1 0 ∧ q = sg s 0 13) ∨ (sg s 0 13 = x.1 0 ∧ x.1 0 ≤ q ∧ q ≤ x.1 0 + F.length)
theorem GRW.pass1 (h : GRW x x' F lim c0 n0) (hT : ∀ j : Int, 0 ≤ j → j < x.1 0 → ek (x.2.1 j) = 17 → ex (x.2.1 j) ≤ lim) : ∀ (n n' : Nat) (i q : Int) (s : TS), JG x x' F s p [] → OkG F (sPass x n i s) → 0 ≤ i → i ≤ x.1 0 → x.1 0 - i < n → x'.1 0 - i < n' → sg s 0 10 ≤ lim → (sg s 0 10 = lim → x.1 0 ≤ nc x (sg s 0 12) ∧ (sn s).length = F.length) → ∃ i' q', sPass x n i s = st s 0 13 i' ∧ sPass x' n' i (ax p q [] s) = ax p q' [] (st s 0 13 i') ∧ (sg s 0 10 < lim → R13 x F q' (st s 0 13 i')) ∧ (sg s 0 10 = lim → i' = x.1 0 ∧ q' = x'.1 0) := by
  intro n
  have h8 := h.2.2.2.2.2.2.2.1
  induction n with
  | zero => intro n' i q s _ _ h0 h1 hn; omega
  | succ n ih =>
    intro n' i q s hJ hf h0 h1 hn hn' ht hl
    obtain ⟨m', rfl⟩ : ∃ m', n' = m' + 1 := ⟨n' - 1, by omega⟩
    have h30 : sg s 0 30 = 0 := (o_pass okG _ _ _ hf).1
    have e12 : sg (ax p q [] s) 0 12 = p := by rw [ax_g, if_pos ⟨rfl, rfl⟩]
    have e10 : sg (ax p q [] s) 0 10 = sg s 0 10 := ax_o (by omega)
    have e30 : sg (ax p q [] s) 0 30 = 0 := (ax_o (by omega)).trans h30
    by_cases c1 : i < x.1 0
    · have hE := h.2.1 i h0 c1
      unfold sPass at hf ⊢
      rw [if_pos c1, if_pos h30] at hf
      rw [if_pos c1, if_pos h30, if_pos (show i < x'.1 0 by omega), if_pos e30, hE, e10, e12]
      by_cases c2 : ek (x.2.1 i) = 17
      · rw [if_pos c2] at hf
        rw [if_pos c2, if_pos c2]
        by_cases c3 : sg s 0 10 < ex (x.2.1 i)
        · rw [if_pos c3, if_pos c3]
          refine ⟨i, i, rfl, ax_13, fun _ => Or.inl ⟨?_, ?_⟩, fun z => ?_⟩
          · rw [st_g, if_pos ⟨rfl, rfl⟩]; exact c1
          · rw [st_g, if_pos ⟨rfl, rfl⟩]
          · have := hT i h0 c1 c2
            omega
        · rw [if_neg c3] at hf
          rw [if_neg c3, if_neg c3]
          have c4 : ¬ nc x (sg s 0 12) < i := fun g => by
            rw [if_pos g] at hf
            exact absurd (o_pass okG _ _ _ hf).1 u_stuck
          rw [if_neg c4] at hf
          rw [if_neg c4]
          obtain ⟨-, j0, j10, j1, j2, j3⟩ := hJ
          rw [if_neg (show ¬ nc x' p < i by
            by_cases g : nc x (sg s 0 12) < x.1 0
            · rw [j1 g]; exact c4
            · rw [j2 (by omega)]; split <;> omega)]
          exact ih m' (i + 1) q s ⟨rfl, j0, j10, j1, j2, j3⟩ hf (by omega) (by omega) (by omega) (by omega) ht hl
      · rw [if_neg c2] at hf
        rw [if_neg c2, if_neg c2]
        exact ih m' (i + 1) q s hJ hf (by omega) (by omega) (by omega) (by omega) ht hl
    · have ei : i = x.1 0 := by omega
      subst ei
      have e1 : sPass x (n + 1) (x.1 0) s = st s 0 13 (x.1 0) := by
        unfold sPass
        rw [if_neg (Int.lt_irrefl _)]
      by_cases c2 : sg s 0 10 < lim
      · refine ⟨x.1 0, x.1 0 + F.length, e1, ?_, fun _ => Or.inr ⟨?_, by omega, by omega⟩, fun z => by omega⟩
        · rw [h.pass2 _ _ _ (Int.le_refl _) (by omega) hn' e30 (by rw [e10]; exact c2)]
          exact ax_13
        · rw [st_g, if_pos ⟨rfl, rfl⟩]
      · have e : sg s 0 10 = lim := by omega
        obtain ⟨l1, l2⟩ := hl e
        refine ⟨x.1 0, x'.1 0, e1, ?_, fun z => by omega, fun _ => ⟨rfl, rfl⟩⟩
        rw [h.pass3 (Int.le_refl _) (by omega) hn' e30 (by rw [e10]; omega) (by rw [e12, hJ.2.2.2.2.1 l1, if_neg (by omega)]; exact Int.le_refl _)]
        exact ax_13
theorem GRW.nax (h : GRW x x' F lim c0 n0) (hi : 0 ≤ i) (hn : na x i < x.1 0) : na x' i = na x i := by
  have h8 := h.2.2.2.2.2.2.2.1
  have key : ∀ (n : Nat) (i : Int), (x.1 0 - i).toNat = n → 0 ≤ i → na x i < x.1 0 → na x' i = na x i := by
    intro n
    induction n with
    | zero => intro i hn h0 hl; rw [na_end (by omega)] at hl; omega
    | succ n ih =>
      intro i hn h0 hl
      have hi : i < x.1 0 := by omega
      have hE := h.2.1 i h0 hi
      by_cases c : 7 < ek (x.2.1 i)
      · rw [na_u hi c] at hl ⊢
        rw [na_u (by omega) (by rw [hE]; exact c)]
        exact ih _ (by omega) (by omega) hl
      · rw [na_at hi c, na_at (by omega) (by rw [hE]; exact c)]
  exact key _ _ rfl hi hn
/-- an arrival that the old telling took is taken so by the new -/
theorem GRW.take (h : GRW x x' F lim c0 n0) (hC : CXX x) (hG : GQ x c0 n0 Q) (hT : ∀ j : Int, 0 ≤ j → j < x.1 0 → ek (x.2.1 j) = 17 → ex (x.2.1 j) ≤ lim) (hP : BP x s B) (i0 : sg s 0 11 ≤ i) (i1 : i < x.1 0) (hi7 : ek (x.2.1 i) ≤ 7) (hq : Q (sNoted x i s)) (hf : OkG F (sTake x i s)) (hS : Sm (JG x x' F) q t s) (h13 : R13 x F q s) (hl : sg s 0 10 < lim) (hlast : sg s 0 10 + 1 = lim → x.1 0 ≤ nc x (sg (sTaken x i s) 0 12) ∧ (sn (sTaken x i s)).length = F.length) : ∃ q', Sm (JG x x' F) q' (sTake x' i t) (sTake x i s) ∧ (sg s 0 10 + 1 < lim → R13 x F q' (sTake x i s)) ∧ (sg s 0 10 + 1 = lim → sg (sTake x i s) 0 13 = x.1 0 ∧ q' = x'.1 0) := by
  have h8 := h.2.2.2.2.2.2.2.1
  have O := okG (x := x) (F := F)
  have hfT := o_take O hf
  obtain ⟨a1, a2, a3, a4, a5, a6, -⟩ := taken_all hC hP i0 i1 hi7
  have hTk := sm_taken (Q := Q) (simG h) hC hP i0 i1 hi7 h.2.1 hG.1 (fun s z1 z2 z3 z4 z5 z6 z7 => by
    have := hG.2.2 s z1 z2 z3 z4 z5 z6 z7
    unfold KP at this ⊢
    rw [st_g, if_neg (by omega), st_g, if_neg (by omega), st_g, if_neg (by omega), st_g, if_neg (by omega), st_g, if_neg (by omega), st_g, if_neg (by omega)]
    exact this) hq hS hfT
  rw [take_d] at hf
  rw [take_d, take_d]
  generalize sTaken x i s = S at hTk hf hfT a1 a2 a3 a4 a5 a6 hlast
  generalize sTaken x' i t = T at hTk
  obtain ⟨p, L, rfl, hJ⟩ := hTk
  have eL : L = [] := hJ.1
  subst eL
  have e10 : sg (ax p q [] S) 0 10 = sg S 0 10 := ax_o (by omega)
  have e13 : sg (ax p q [] S) 0 13 = q := by rw [ax_g, if_neg (by omega), if_pos ⟨rfl, rfl⟩]
  rw [e10, e13, ax_st (by omega)]
  have s12 : sg (st S 0 10 (sg S 0 10 + 1)) 0 12 = sg S 0 12 := by rw [st_g, if_neg (by omega)]
  have s10 : sg (st S 0 10 (sg S 0 10 + 1)) 0 10 = sg s 0 10 + 1 := by rw [st_g, if_pos ⟨rfl, rfl⟩, a4]
  have s30 : sg (st S 0 10 (sg S 0 10 + 1)) 0 30 = 0 := by rw [st_g, if_neg (by omega)]; exact hfT.1
  have hJ2 : JG x x' F (st S 0 10 (sg S 0 10 + 1)) p [] := by
    unfold JG at hJ ⊢
    rw [s12, s10]
    have := hJ.2.2.1
    exact ⟨rfl, hJ.2.1, by omega, hJ.2.2.2.1, hJ.2.2.2.2.1, hJ.2.2.2.2.2⟩
  have hjx : ∀ z : Int, JG x x' F (st (st S 0 10 (sg S 0 10 + 1)) 0 13 z) p [] := fun z => (simG h).2.2.2.1 _ _ _ _ hJ2 (by rw [st_g, if_neg (by omega)]) (by rw [st_g, if_neg (by omega)]) rfl
  have hb13 := hP.2.2.2.2.2.1
  have hlq : ∃ n' i' q', (x'.1 0 - q + 1).toNat = n' ∧ sPass x (x.1 0 - sg S 0 13 + 1).toNat (sg S 0 13) (st S 0 10 (sg S 0 10 + 1)) = st (st S 0 10 (sg S 0 10 + 1)) 0 13 i' ∧ sPass x' n' q (ax p q [] (st S 0 10 (sg S 0 10 + 1))) = ax p q' [] (st (st S 0 10 (sg S 0 10 + 1)) 0 13 i') ∧ (sg s 0 10 + 1 < lim → R13 x F q' (st (st S 0 10 (sg S 0 10 + 1)) 0 13 i')) ∧ (sg s 0 10 + 1 = lim → i' = x.1 0 ∧ q' = x'.1 0) := by
    rcases h13 with ⟨z1, z2⟩ | ⟨z1, z2, z3⟩
    · have := h.pass1 hT (x.1 0 - sg S 0 13 + 1).toNat (x'.1 0 - q + 1).toNat (sg S 0 13) q (st S 0 10 (sg S 0 10 + 1)) hJ2 hf (by rw [a6]; exact hb13.1) (by rw [a6]; exact hb13.2) (by rw [a6]; omega) (by rw [a6]; omega) (by rw [s10]; omega) (fun z => by rw [s10] at z; rw [s12]; exact hlast z)
      obtain ⟨i', q', w1, w2, w3, w4⟩ := this
      rw [s10] at w3 w4
      refine ⟨_, i', q', rfl, w1, ?_, w3, w4⟩
      rw [a6, ← z2] at w2
      exact w2
    · have e1 : sPass x (x.1 0 - sg S 0 13 + 1).toNat (sg S 0 13) (st S 0 10 (sg S 0 10 + 1)) = st (st S 0 10 (sg S 0 10 + 1)) 0 13 (x.1 0) := by
        rw [a6, z1, show (x.1 0 - x.1 0 + 1).toNat = 0 + 1 by omega]
        unfold sPass
        rw [if_neg (Int.lt_irrefl _)]
      have u30 : sg (ax p q [] (st S 0 10 (sg S 0 10 + 1))) 0 30 = 0 := (ax_o (by omega)).trans s30
      have u10 : sg (ax p q [] (st S 0 10 (sg S 0 10 + 1))) 0 10 = sg s 0 10 + 1 := (ax_o (by omega)).trans s10
      by_cases c2 : sg s 0 10 + 1 < lim
      · refine ⟨_, x.1 0, x.1 0 + F.length, rfl, e1, ?_, fun _ => Or.inr ⟨?_, by omega, by omega⟩, fun z => by omega⟩
        · rw [h.pass2 _ _ _ z2 z3 (by omega) u30 (by rw [u10]; exact c2)]
          exact ax_13
        · rw [st_g, if_pos ⟨rfl, rfl⟩]
      · obtain ⟨l1, l2⟩ := hlast (by omega)
        refine ⟨_, x.1 0, x'.1 0, rfl, e1, ?_, fun z => by omega, fun _ => ⟨rfl, rfl⟩⟩
        rw [h.pass3 z2 (by omega) (by omega) u30 (by rw [u10]; omega) (by rw [show sg (ax p q [] (st S 0 10 (sg S 0 10 + 1))) 0 12 = p by rw [ax_g, if_pos ⟨rfl, rfl⟩], hJ.2.2.2.2.1 l1, if_neg (by omega)]; exact Int.le_refl _)]
        exact ax_13
  obtain ⟨n', i', q', w0, w1, w2, w3, w4⟩ := hlq
  rw [w0, w1, w2]
  exact ⟨q', ⟨p, [], rfl, hjx i'⟩, w3, fun z => ⟨by rw [st_g, if_pos ⟨rfl, rfl⟩]; exact (w4 z).1, (w4 z).2⟩⟩
end SI7
