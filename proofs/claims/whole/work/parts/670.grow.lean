/-! THE TELLING, plain: a history that has grown by what a telling has put. -/
section SI6
variable {x x' : CX} {s t s1 s2 : TS} {B : Int} {a b c e i j v k h n l w p q r o u kd lim c0 n0 : Int} {L F : List (Int × Int × Int)} {Ok : TS → Prop}
theorem nc_free (hk : ∀ j : Int, i ≤ j → j < x.1 0 → ek (x.2.1 j) ≤ 7) (hi : i ≤ x.1 0) : nc x i = x.1 0 := by
  have key : ∀ (n : Nat) (i : Int), (x.1 0 - i).toNat = n → i ≤ x.1 0 → (∀ j : Int, i ≤ j → j < x.1 0 → ek (x.2.1 j) ≤ 7) → nc x i = x.1 0 := by
    intro n
    induction n with
    | zero => intro i hn hi _; rw [nc_end (by omega)]; omega
    | succ n ih =>
      intro i hn hi hk
      have := hk i (Int.le_refl _) (by omega)
      rw [nc_u (by omega) (by omega) (by omega)]
      exact ih (i + 1) (by omega) (by omega) fun j z => hk j (by omega)
  exact key _ _ rfl hi hk
/-- x' is x with the commands F, a TASK that counts lim, and arrivals -/
def GRW (x x' : CX) (F : List (Int × Int × Int)) (lim c0 n0 : Int) : Prop := (x'.1 5 = x.1 5 ∧ x'.2.2 = x.2.2) ∧ (∀ i : Int, 0 ≤ i → i < x.1 0 → x'.2.1 i = x.2.1 i) ∧ (∀ (i : Nat) (k a b : Int), F[i]? = some (k, a, b) → eis (x'.2.1 (x.1 0 + i)) k a b = true ∧ 8 ≤ k ∧ k ≤ 16) ∧ (ek (x'.2.1 (x.1 0 + F.length)) = 17 ∧ ex (x'.2.1 (x.1 0 + F.length)) = lim) ∧ (∀ i : Int, x.1 0 + F.length < i → i < x'.1 0 → ek (x'.2.1 i) ≤ 7) ∧ x'.1 1 = lim ∧ (x.1 4 ≠ 1 ∧ x'.1 4 ≠ 1) ∧ x.1 0 + F.length < x'.1 0 ∧ (x'.1 2 = c0 ∧ x'.1 3 = n0 ∧ c0 ≤ x.1 1 ∧ x.1 1 ≤ lim ∧ n0 ≤ x.1 0) ∧ ((x.1 2 ≤ 0 ∧ n0 = x.1 0 ∧ c0 = x.1 1) ∨ (x.1 2 = c0 ∧ x.1 3 = n0)) ∧ (∀ i : Int, 0 ≤ i → i < x.1 0 → ek (x.2.1 i) ≤ 17) ∧ 0 ≤ x.1 0
theorem GRW.nc2 (h : GRW x x' F lim c0 n0) (m : Nat) (hm : m ≤ F.length) : nc x' (x.1 0 + m) = if (m : Int) < F.length then x.1 0 + m else x'.1 0 := by
  obtain ⟨h1, h2, h3, ⟨h4, h4'⟩, h5, h6, h7, h8, h9, h10, h11, h12⟩ := h
  by_cases c : m < F.length
  · rw [if_pos (by omega)]
    have hF : F[m]? = some (F[m].1, F[m].2.1, F[m].2.2) := List.getElem?_eq_getElem c
    obtain ⟨g1, g2, g3⟩ := h3 m _ _ _ hF
    unfold eis at g1
    simp only [Bool.and_eq_true, decide_eq_true_eq] at g1
    exact nc_at (by omega) ⟨by omega, by omega⟩
  · rw [if_neg (by omega), show (m : Int) = F.length by omega]
    rw [nc_u (by omega) (by omega) (by omega)]
    exact nc_free (fun j z0 z1 => h5 j (by omega) z1) (by omega)
theorem GRW.nc1 (h : GRW x x' F lim c0 n0) : ∀ (n : Nat) (i : Int), (x.1 0 - i).toNat = n → 0 ≤ i → i ≤ x.1 0 → (nc x i < x.1 0 → nc x' i = nc x i) ∧ (x.1 0 ≤ nc x i → nc x' i = if (0 : Int) < F.length then x.1 0 else x'.1 0) := by
  intro n
  induction n with
  | zero =>
    intro i hn i0 i1
    have e : i = x.1 0 := by omega
    subst e
    refine ⟨fun z => by rw [nc_end (Int.le_refl _)] at z; omega, fun _ => ?_⟩
    have := h.nc2 0 (Nat.zero_le _)
    simp only [Int.natCast_zero, Int.add_zero] at this
    exact this
  | succ n ih =>
    intro i hn i0 i1
    have hi : i < x.1 0 := by omega
    have e := h.2.1 i i0 hi
    have hN : i < x'.1 0 := by have := h.2.2.2.2.2.2.2.1; omega
    by_cases c : 8 ≤ ek (x.2.1 i) ∧ ek (x.2.1 i) ≤ 16
    · rw [nc_at hi c, nc_at hN (by rw [e]; exact c)]
      exact ⟨fun _ => rfl, fun z => by omega⟩
    · have h17 := h.2.2.2.2.2.2.2.2.2.2.1 i i0 hi
      rw [nc_u hi c h17, nc_u hN (by rw [e]; exact c) (by rw [e]; exact h17)]
      exact ih (i + 1) (by omega) (by omega) (by omega)
def JG (x x' : CX) (F : List (Int × Int × Int)) (s : TS) (p : Int) (L : List (Int × Int × Int)) : Prop := L = [] ∧ (0 ≤ sg s 0 12 ∧ sg s 0 12 ≤ x.1 0) ∧ 0 ≤ sg s 0 10 ∧ (nc x (sg s 0 12) < x.1 0 → nc x' p = nc x (sg s 0 12)) ∧ (x.1 0 ≤ nc x (sg s 0 12) → nc x' p = if ((sn s).length : Int) < F.length then x.1 0 + (sn s).length else x'.1 0) ∧ (sn s ≠ [] → x.1 0 ≤ nc x (sg s 0 12))
def OkG (F : List (Int × Int × Int)) (s : TS) : Prop := sg s 0 30 = 0 ∧ ∃ z, sn s ++ z = F
theorem okG : OKH x (OkG F) := by
  refine ⟨fun s s' h1 _ _ h3 => ?_, fun s k a b h => ⟨u_cmd h.1, ?_⟩, fun s v h => absurd h.1 u_stuck⟩
  · unfold OkG
    rw [h1, h3]
  · obtain ⟨z, hz⟩ := h.2
    unfold sCmd at hz
    split at hz
    · split at hz
      · exact ⟨z, hz⟩
      · exact ⟨z, hz⟩
    · split at hz
      · exact ⟨z, hz⟩
      · exact ⟨(k, a, b) :: z, by rw [← hz]; show _ = (sn s ++ [(k, a, b)]) ++ z; rw [List.append_assoc]; rfl⟩
theorem GRW.seen0 (h : GRW x x' F lim c0 n0) (h10 : 0 ≤ sg s 0 10) (hc : sg s 0 10 < c0) : sSeen x s = n0 ∧ sSeen x' (ax p q L s) = n0 := by
  obtain ⟨h1, h2, h3, h4, h5, h6, h7, h8, h9, h10', h11, h12⟩ := h
  unfold sSeen
  rw [ax_o (by omega), h9.1, h9.2.1, if_pos hc]
  refine ⟨?_, rfl⟩
  rcases h10' with ⟨z1, z2, z3⟩ | ⟨z1, z2⟩
  · rw [if_neg (by omega)]; exact z2.symm
  · rw [if_pos (by omega)]; exact z2
theorem GRW.seen1 (h : GRW x x' F lim c0 n0) (h10 : 0 ≤ sg s 0 10) (hc : c0 ≤ sg s 0 10) : sSeen x s = x.1 0 ∧ sSeen x' (ax p q L s) = x'.1 0 := by
  obtain ⟨h1, h2, h3, h4, h5, h6, h7, h8, h9, h10', h11, h12⟩ := h
  unfold sSeen
  rw [ax_o (by omega), h9.1, h9.2.1, if_neg (show ¬ sg s 0 10 < c0 by omega)]
  refine ⟨?_, rfl⟩
  rcases h10' with ⟨z1, z2, z3⟩ | ⟨z1, z2⟩
  · rw [if_neg (by omega)]
  · rw [if_neg (by omega)]
theorem GRW.at (h : GRW x x' F lim c0 n0) {z : List (Int × Int × Int)} (hz : (sn s ++ [(k, a, b)]) ++ z = F) : ((sn s).length : Int) < F.length ∧ eis (x'.2.1 (x.1 0 + (sn s).length)) k a b = true := by
  have e : F[(sn s).length]? = some (k, a, b) := by
    rw [← hz, List.append_assoc, List.getElem?_append_right (Nat.le_refl _), Nat.sub_self]
    rfl
  refine ⟨?_, (h.2.2.1 _ _ _ _ e).1⟩
  have : F.length = (sn s).length + 1 + z.length := by
    rw [← hz, List.length_append, List.length_append]
    rfl
  omega
theorem simG (h : GRW x x' F lim c0 n0) : SIMH x x' (JG x x' F) (OkG F) (fun s a => KP x s c0 n0 a) := by
  have H := h
  obtain ⟨h1, h2, h3, h4, h5, h6, ⟨h7, h7'⟩, h8, h9, h10', h11, h12⟩ := h
  refine ⟨h1.1, h1.2, ?_, ?_, ?_, okG⟩
  · intro s p L k a b q hJ hf
    obtain ⟨rfl, ⟨j0, j0'⟩, j10, j1, j2, j3⟩ := hJ
    have e12 : sg (ax p q [] s) 0 12 = p := by rw [ax_g, if_pos ⟨rfl, rfl⟩]
    have e10 : sg (ax p q [] s) 0 10 = sg s 0 10 := ax_o (by omega)
    have hnb := nc_b (x := x) j0'
    unfold sCmd at hf ⊢
    rw [e12, e10]
    by_cases c1 : nc x (sg s 0 12) < sSeen x s
    · rw [if_pos c1] at hf
      rw [if_pos c1]
      have cs : nc x (sg s 0 12) < x.1 0 ∧ nc x (sg s 0 12) < sSeen x' (ax p q [] s) := by
        by_cases cc : sg s 0 10 < c0
        · obtain ⟨z1, z2⟩ := H.seen0 (p := p) (q := q) (L := []) j10 cc
          rw [z2]; omega
        · obtain ⟨z1, z2⟩ := H.seen1 (p := p) (q := q) (L := []) j10 (by omega)
          rw [z2]; omega
      have ep := j1 cs.1
      rw [ep, if_pos cs.2, h2 _ (by omega) cs.1]
      by_cases c2 : x.1 4 = 1 ∨ eis (x.2.1 (nc x (sg s 0 12))) k a b = true
      · have c3 : eis (x.2.1 (nc x (sg s 0 12))) k a b = true := c2.resolve_left h7
        rw [if_pos c2, if_pos (Or.inr c3)]
        have hnil : sn s = [] := Decidable.byContradiction fun g => by have := j3 g; omega
        refine ⟨nc x (sg s 0 12) + 1, [], ?_, rfl, ?_⟩
        · rw [ax_12 (w := nc x (sg s 0 12)), ax_12 (w := nc x (sg s 0 12) + 1)]
        · have e : sg (st (st s 0 12 (nc x (sg s 0 12))) 0 12 (nc x (sg s 0 12) + 1)) 0 12 = nc x (sg s 0 12) + 1 := by rw [st_g, if_pos ⟨rfl, rfl⟩]
          have e0 : sg (st (st s 0 12 (nc x (sg s 0 12))) 0 12 (nc x (sg s 0 12) + 1)) 0 10 = sg s 0 10 := by rw [st_g, if_neg (by omega), st_g, if_neg (by omega)]
          obtain ⟨y1, y2⟩ := H.nc1 _ (nc x (sg s 0 12) + 1) rfl (by omega) (by omega)
          show (_ ∧ _) ∧ _ ∧ _ ∧ _ ∧ _
          rw [e, e0, show sn (st (st s 0 12 (nc x (sg s 0 12))) 0 12 (nc x (sg s 0 12) + 1)) = [] from hnil]
          exact ⟨⟨by omega, by omega⟩, j10, y1, fun z => by rw [y2 z]; simp, fun z => absurd rfl z⟩
      · rw [if_neg c2] at hf
        exact absurd hf.1 u_stuck
    · rw [if_neg c1] at hf
      rw [if_neg c1]
      by_cases c2 : sg s 0 10 < x.1 1
      · rw [if_pos c2] at hf
        exact absurd hf.1 u_stuck
      · rw [if_neg c2] at hf
        rw [if_neg c2]
        obtain ⟨z1, z2⟩ := H.seen1 (p := p) (q := q) (L := []) j10 (show c0 ≤ sg s 0 10 by omega)
        obtain ⟨-, z, hz⟩ := hf
        obtain ⟨w1, w2⟩ := H.at (s := s) hz
        have ep := j2 (by omega)
        rw [if_pos w1] at ep
        rw [z2, ep, if_pos (by omega), if_pos (Or.inr w2)]
        refine ⟨x.1 0 + (sn s).length + 1, [], ?_, rfl, ?_⟩
        · rw [ax_12 (w := nc x (sg s 0 12)), ax_12 (w := nc x (sg s 0 12))]
          refine Prod.ext rfl ?_
          refine Prod.ext ?_ rfl
          funext b' i'
          show (if b' = 0 ∧ i' = 12 then _ else if b' = 0 ∧ i' = 13 then q else if b' = 0 ∧ i' = 12 then _ else if b' = 0 ∧ i' = 12 then _ else s.1 b' i') = (if b' = 0 ∧ i' = 12 then _ else if b' = 0 ∧ i' = 13 then q else if b' = 0 ∧ i' = 12 then _ else s.1 b' i')
          split
          · rfl
          · split
            · rfl
            · rfl
        · have e : sg (stn (st s 0 12 (nc x (sg s 0 12))) (sn s ++ [(k, a, b)])) 0 12 = nc x (sg s 0 12) := by show sg (st s 0 12 (nc x (sg s 0 12))) 0 12 = _; rw [st_g, if_pos ⟨rfl, rfl⟩]
          have e0 : sg (stn (st s 0 12 (nc x (sg s 0 12))) (sn s ++ [(k, a, b)])) 0 10 = sg s 0 10 := by show sg (st s 0 12 (nc x (sg s 0 12))) 0 10 = _; rw [st_g, if_neg (by omega)]
          have en : (((sn s ++ [(k, a, b)]).length : Nat) : Int) = (sn s).length + 1 := by rw [List.length_append]; rfl
          have ew : nc x (nc x (sg s 0 12)) = nc x (sg s 0 12) := nc_nc j0 j0'
          show (_ ∧ _) ∧ _ ∧ _ ∧ _ ∧ _
          rw [e, e0, ew, show sn (stn (st s 0 12 (nc x (sg s 0 12))) (sn s ++ [(k, a, b)])) = sn s ++ [(k, a, b)] from rfl, en]
          refine ⟨⟨by omega, by omega⟩, j10, fun z => by omega, fun _ => ?_, fun _ => by omega⟩
          have := H.nc2 ((sn s).length + 1) (by omega)
          rw [show x.1 0 + (((sn s).length + 1 : Nat) : Int) = x.1 0 + (sn s).length + 1 by omega] at this
          rw [this, Int.add_assoc]
          rfl
  · intro s s1 p L hJ e12 e10 en
    unfold JG at hJ ⊢
    rw [e12, e10, en]
    exact hJ
  · intro s p L a q hJ hK hf hb
    obtain ⟨rfl, ⟨j0, j0'⟩, j10, j1, j2, j3⟩ := hJ
    have hnb := nc_b (x := x) j0'
    by_cases cc : sg s 0 10 < c0
    · obtain ⟨z1, z2⟩ := H.seen0 (p := p) (q := q) (L := []) j10 cc
      rw [z1, z2, h6]
      by_cases c1 : nc x (sg s 0 12) < x.1 0
      · rw [j1 c1, h2 _ (by omega) c1]
        constructor
        · rintro (g | g)
          · exact Or.inl g
          · omega
        · rintro (g | g)
          · exact Or.inl g
          · omega
      · have ep := j2 (by omega)
        have : x.1 0 ≤ nc x' p := by rw [ep]; split <;> omega
        constructor
        · rintro (g | g) <;> omega
        · rintro (g | g) <;> omega
    · obtain ⟨z1, z2⟩ := H.seen1 (p := p) (q := q) (L := []) j10 (by omega)
      rw [z1, z2, h6]
      by_cases c1 : nc x (sg s 0 12) < x.1 0
      · rw [j1 c1, h2 _ (by omega) c1]
        constructor
        · rintro (g | g)
          · exact Or.inl ⟨by omega, g.2⟩
          · omega
        · rintro (g | g)
          · exact Or.inl ⟨c1, g.2⟩
          · omega
      · by_cases c2 : sg s 0 10 < x.1 1
        · have := hK (by omega) c2 (by omega) hb
          omega
        · have hsp : sPatch x a s = (true, (sCmd x 12 a 0 (st s 0 7 (iOr (sg s 0 7) (iShl 1 a)))).2) := by
            unfold sPatch
            rw [if_pos hb, if_pos (Or.inr ⟨by rw [z1]; exact c1, c2⟩)]
          rw [hsp] at hf
          obtain ⟨-, z, hz⟩ := hf
          have hsc : sn (sCmd x 12 a 0 (st s 0 7 (iOr (sg s 0 7) (iShl 1 a)))).2 = sn s ++ [(12, a, 0)] := by
            have f12 : sg (st s 0 7 (iOr (sg s 0 7) (iShl 1 a))) 0 12 = sg s 0 12 := by rw [st_g, if_neg (by omega)]
            have f10 : sg (st s 0 7 (iOr (sg s 0 7) (iShl 1 a))) 0 10 = sg s 0 10 := by rw [st_g, if_neg (by omega)]
            have fs : sSeen x (st s 0 7 (iOr (sg s 0 7) (iShl 1 a))) = x.1 0 := by rw [← z1]; unfold sSeen; rw [f10]
            unfold sCmd
            rw [f12, f10, fs, if_neg c1, if_neg c2]
            rfl
          rw [hsc] at hz
          obtain ⟨w1, w2⟩ := H.at (s := s) hz
          have ep := j2 (by omega)
          rw [if_pos w1] at ep
          rw [ep]
          exact ⟨fun _ => Or.inl ⟨by omega, w2⟩, fun _ => Or.inr ⟨c1, c2⟩⟩
end SI6
