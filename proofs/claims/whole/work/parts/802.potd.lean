/-! THE TELLING, plain: a potential, III: a branch fails, ends, is dropped, wins. -/
section PTC
variable {x : CX} {s s' s1 s2 : TS} {B : Int} {a b c d e i j v k h l w p r t o q u kd ω κ : Int} {f : Int → Int → Int → Int} {g : Int → Int → Int → Int → Int} {E : Int → Ev} {L : List (Int × Int × Int)} {F T Z : Prop}
theorem QH.n5 (h : QH x B F T s) : 0 ≤ sg s 0 5 ∧ sg s 0 5 ≤ 12 := h.1.2.2.2.2.2.2.2.1
theorem QH.ln (h : QH x B F T s) (k0 : 0 ≤ k) (k1 : k < sg s 0 5) : 0 ≤ sg s (2 + k) 4 ∧ sg s (2 + k) 4 ≤ 24 := (h.1.br k0 k1).2.1
theorem QH.go (h : QH x B F T s) (k0 : 0 ≤ k) (l0 : 0 ≤ l) (l1 : l ≤ 24) : QH x B F T (sGo k l s) :=
  ⟨h.1.go k0 l0 l1, h.2.1.go k0, h.2.2.1.same (by rw [go_g, if_neg (by omega), if_neg (by omega)]) (by rw [go_g, if_neg (by omega), if_neg (by omega)]) rfl, by rw [u_go]; exact h.2.2.2⟩
theorem QH.doom (h : QH x B F T s) (k0 : 0 ≤ k) : QH x B F T (sDoom k s) := by
  have he := e9_doom (s := s) k0
  exact ⟨w_doom k0 h.1, h.2.1.e9 he, h.2.2.1.same (he.1 _ _ (by omega)) (he.1 _ _ (by omega)) (by unfold sn; rw [he.2]), by rw [u_doom]; exact h.2.2.2⟩
theorem QH.s3 (h : QH x B F T s) (k0 : 0 ≤ k) : QH x B F T (st s (2 + k) 3 v) :=
  ⟨h.1.s6 k0 (Or.inr (Or.inr (Or.inl rfl))), h.2.1.sx (by omega), h.2.2.1.same (by rw [st_g, if_neg (by omega)]) (by rw [st_g, if_neg (by omega)]) rfl, by rw [u_st (by omega)]; exact h.2.2.2⟩
theorem pv_w (C : PC x f g ω κ F T Z) (k1 : k < sg s 0 5) (hw : sg s (2 + k) 7 = 0) : pv f s k = f 0 0 (sg s (2 + k) 4) := by
  rw [pv_i k1, hw]
  exact C.e0 (by omega)
theorem pz_endR (C : PC x f g ω κ F T Z) (hH : QH x B F T s) (hs : x.1 3 ≤ x.1 0) (h4 : x.1 4 ≠ 1) (m0 : 14 ≤ kd) (m1 : kd ≤ 16) (ha : CmA kd a 0) (h30 : sg (sEndR x kd a s) 0 30 = 0) : PZ f g ω κ x (sEndR x kd a s) ≤ PZ f g ω κ x s := by
  have hu : sg (sCmd x kd a 0 s).2 0 30 = 0 := by rw [← endR_30]; exact h30
  obtain ⟨-, z1, z2, z3, z4⟩ := PZ_cmd (f := f) (g := g) (ω := ω) (κ := κ) hH hs h4 (by omega) m1 hu
  have := C.2.2.2.2.2.2.2 _ _ _ _ z2 z3 z4.1 ha m0 m1
  have e : sEndR x kd a s = if (sCmd x kd a 0 s).1 < 0 then (sCmd x kd a 0 s).2 else st (sCmd x kd a 0 s).2 0 9 kd := rfl
  rw [e]
  split
  · omega
  · rw [PZ_sx (by omega)]; omega
theorem pz_fail (C : PC x f g ω κ F T Z) (hH : QH x B F T s) (hs : x.1 3 ≤ x.1 0) (h4 : x.1 4 ≠ 1) (k0 : 0 ≤ k) (k1 : k < sg s 0 5) (h30 : sg (sFail x k s) 0 30 = 0) : ∃ l' : Int, (0 ≤ l' ∧ l' ≤ 24) ∧ PZ f g ω κ x (sFail x k s) ≤ PZ f g ω κ x s + (f 0 0 l' - pv f s k) := by
  have h5 := hH.n5
  have hb := hH.ln k0 k1
  have hg := PZ_go (f := f) (g := g) (ω := ω) (κ := κ) (x := x) (l := sg s (2 + k) 4) k0 k1 h5.2
  rw [C.e0 (by omega)] at hg
  have e5 : sg (sGo k (sg s (2 + k) 4) s) 0 5 = sg s 0 5 := by rw [go_g, if_neg (by omega), if_neg (by omega)]
  have e7 : sg (sGo k (sg s (2 + k) 4) s) (2 + k) 7 = 0 := by rw [go_g, if_neg (by omega), if_pos ⟨rfl, rfl⟩]
  have e4 : sg (sGo k (sg s (2 + k) 4) s) (2 + k) 4 = sg s (2 + k) 4 := by rw [go_g, if_pos ⟨rfl, rfl⟩]
  unfold sFail at h30 ⊢
  split at h30
  · rename_i v t hv
    have hv2 := (hH.1.br k0 k1).2.2.2.2.2.2 v (by rw [hv]; exact List.mem_cons_self ..)
    refine ⟨v, ⟨hv2.1, by omega⟩, ?_⟩
    have er : PZ f g ω κ x (sth (sGo k v (sGo k (sg s (2 + k) 4) s)) k t) = PZ f g ω κ x (sGo k v (sGo k (sg s (2 + k) 4) s)) := PZ_r rfl rfl fun _ => rfl
    rw [er, PZ_go k0 (by omega) (by omega), pv_w C (by omega) e7, e4, C.e0 (j := sg (sGo k (sg s (2 + k) 4) s) (2 + k) 8) (by omega), hg]
    omega
  · refine ⟨sg s (2 + k) 4, hb, ?_⟩
    have := pz_endR (kd := 15) (a := 0) C (hH.go (k := k) k0 hb.1 hb.2) hs h4 (by decide) (by decide) ⟨fun z => by omega, fun z => by omega, fun z => by omega, fun z => by omega, fun z => by omega, fun _ => ⟨rfl, rfl⟩⟩ h30
    rw [hg] at this
    exact this
theorem pz_end (C : PC x f g ω κ F T Z) (hH : QH x B F T s) (hs : x.1 3 ≤ x.1 0) (h4 : x.1 4 ≠ 1) (k0 : 0 ≤ k) (k1 : k < sg s 0 5) (hw : sg s (2 + k) 7 = 0) (h30 : sg (sEnd x k s) 0 30 = 0) : PZ f g ω κ x (sEnd x k s) ≤ PZ f g ω κ x s := by
  have hv := hH.1.2.1 0 (by decide) (by decide)
  unfold sEnd at h30 ⊢
  split at h30
  · rename_i c
    rw [if_pos c]
    exact pz_endR (kd := 14) (a := sg s 1 0) C hH hs h4 (by decide) (by decide) ⟨fun z => by omega, fun z => by omega, fun z => by omega, fun z => by omega, fun _ => ⟨hv, rfl⟩, fun z => by omega⟩ h30
  · rename_i c
    rw [if_neg c, PZ_rem hH.n5.2 k0 k1, pv_w C k1 hw]
    have := (C.2.1 0 0 (sg s (2 + k) 4) (by omega)).2
    omega
/-- what is doomed bears; what of that waits bears -/
def dv (f : Int → Int → Int → Int) (s : TS) (i : Int) : Int := if sg s (2 + i) 9 ≠ 0 then pv f s i else 0
def dw (f : Int → Int → Int → Int) (s : TS) (i : Int) : Int := if sg s (2 + i) 9 ≠ 0 ∧ (sg s (2 + i) 7 = 1 ∨ sg s (2 + i) 7 = 2) then pv f s i else 0
def dS (z : Int → Int) : Nat → Int
  | 0 => 0
  | n + 1 => dS z n + z (n : Int)
theorem dS_to {z z' : Int → Int} : ∀ n : Nat, (∀ i : Int, 0 ≤ i → i < n → z' i = z i) → dS z' n = dS z n := by
  intro n
  induction n with
  | zero => intro _; rfl
  | succ n ih =>
    intro h
    show dS z' n + z' n = dS z n + z n
    rw [ih fun i g0 g1 => h i g0 (by omega), h n (by omega) (by omega)]
theorem dS_le {z z' : Int → Int} (h : ∀ i : Int, 0 ≤ i → z i ≤ z' i) (hk : z k + c ≤ z' k) (k0 : 0 ≤ k) : ∀ n : Nat, dS z n + (if k < n then c else 0) ≤ dS z' n := by
  intro n
  induction n with
  | zero =>
    show (0 : Int) + (if k < ((0 : Nat) : Int) then c else 0) ≤ 0
    rw [if_neg (by omega)]
    decide
  | succ n ih =>
    show dS z n + z n + _ ≤ dS z' n + z' n
    have hn := h n (by omega)
    by_cases c1 : k < (n : Int)
    · rw [if_pos c1] at ih
      rw [if_pos (by omega)]
      omega
    · rw [if_neg c1] at ih
      by_cases c2 : k = (n : Int)
      · rw [if_pos (by omega)]
        rw [c2] at hk
        omega
      · rw [if_neg (by omega)]
        omega
theorem drop1_g {p q : Int} (h : p ≠ 0 ∨ (q ≠ 12 ∧ q ≠ 30 ∧ q ≠ 31)) : ∀ (n : Nat) (k : Int) (s : TS), sg (sDrop1 x n k s) p q = sg s p q := by
  intro n
  induction n with
  | zero => intro k s; rfl
  | succ n ih =>
    intro k s
    rw [drop1_u]
    split
    · split
      · rw [ih]
        split
        · exact let_g h
        · rfl
      · rfl
    · rfl
theorem pz_drop1 (C : PC x f g ω κ F T Z) (hs : x.1 3 ≤ x.1 0) (h4 : x.1 4 ≠ 1) : ∀ (n k : Nat) (s : TS), QH x B F T s → sg s 0 9 = 0 → sg (sDrop1 x n (k : Int) s) 0 30 = 0 → QH x B F T (sDrop1 x n (k : Int) s) ∧ PZ f g ω κ x (sDrop1 x n (k : Int) s) + dS (dw f s) k ≤ PZ f g ω κ x s + dS (dw f s) (k + n) := by
  intro n
  induction n with
  | zero => intro k s hH _ _; exact ⟨hH, Int.le_refl _⟩
  | succ n ih =>
    intro k s hH h9 h30
    rw [drop1_u] at h30 ⊢
    have hz : ∀ m : Nat, sg s 0 5 ≤ (k : Int) → dS (dw f s) (k + m) = dS (dw f s) k := by
      intro m hm
      induction m with
      | zero => rfl
      | succ m ihm =>
        show dS (dw f s) (k + m) + dw f s ((k + m : Nat) : Int) = _
        rw [ihm]
        have : dw f s ((k + m : Nat) : Int) = 0 := by
          unfold dw
          rw [pv_o (by omega)]
          split <;> rfl
        omega
    by_cases ck : (k : Int) < sg s 0 5
    · have hgo : goes s = true := by
        unfold goes
        rw [hH.2.2.2, h9]
        rfl
      rw [if_pos ck, if_pos hgo] at h30 ⊢
      have es : ((k : Int) + 1) = ((k + 1 : Nat) : Int) := by omega
      rw [es] at h30 ⊢
      have hnext : sg (if sg s (2 + (k : Int)) 9 ≠ 0 then sLet x (k : Int) s else s) 0 30 = 0 := u_drop1 _ _ _ h30
      have h9' : sg (if sg s (2 + (k : Int)) 9 ≠ 0 then sLet x (k : Int) s else s) 0 9 = 0 := by
        split
        · rw [let_g (by omega)]; exact h9
        · exact h9
      have hst : QH x B F T (if sg s (2 + (k : Int)) 9 ≠ 0 then sLet x (k : Int) s else s) ∧ PZ f g ω κ x (if sg s (2 + (k : Int)) 9 ≠ 0 then sLet x (k : Int) s else s) ≤ PZ f g ω κ x s + dw f s k ∧ ∀ i : Int, 0 ≤ i → dw f (if sg s (2 + (k : Int)) 9 ≠ 0 then sLet x (k : Int) s else s) i = dw f s i := by
        by_cases c9 : sg s (2 + (k : Int)) 9 ≠ 0
        · rw [if_pos c9] at hnext ⊢
          have hd : ∀ i : Int, 0 ≤ i → dw f (sLet x (k : Int) s) i = dw f s i := fun i i0 => by
            unfold dw
            rw [let_g (Or.inl (by omega)), let_g (Or.inl (by omega)), pv_same (let_g (by omega)) (let_g (Or.inl (by omega))) (let_g (Or.inl (by omega))) (let_g (Or.inl (by omega)))]
          refine ⟨?_, ?_, hd⟩
          · unfold sLet at hnext ⊢
            split at hnext
            · rename_i cw
              rw [if_pos cw]
              exact (PZ_cmd (f := f) (g := g) (ω := ω) (κ := κ) hH hs h4 (by decide) (by decide) hnext).1
            · rename_i cw
              rw [if_neg cw]
              exact hH
          · unfold sLet at hnext ⊢
            unfold dw
            split at hnext
            · rename_i cw
              obtain ⟨-, z1, z2, z3, z4, z5⟩ := PZ_cmd (f := f) (g := g) (ω := ω) (κ := κ) hH hs h4 (by decide) (by decide) hnext
              have hk := z5 k (by omega) ck cw
              have := C.2.2.1 _ (sg s (2 + (k : Int)) 7) _ (sg s (2 + (k : Int)) 4) cw hk.1 hk.2 z2 z3
              rw [if_pos cw, if_pos ⟨c9, cw⟩, pv_i ck, z1]
              omega
            · rename_i cw
              rw [if_neg cw, if_neg (fun hh => cw hh.2)]
              omega
        · rw [if_neg c9]
          refine ⟨hH, ?_, fun i _ => rfl⟩
          unfold dw
          rw [if_neg (fun hh => c9 hh.1)]
          omega
      obtain ⟨q1, q2, q3⟩ := hst
      obtain ⟨y1, y2⟩ := ih (k + 1) _ q1 h9' h30
      refine ⟨y1, ?_⟩
      rw [dS_to (k + 1) fun i g0 _ => q3 i g0, dS_to (k + 1 + n) fun i g0 _ => q3 i g0] at y2
      have e1 : dS (dw f s) (k + 1) = dS (dw f s) k + dw f s k := rfl
      have e2 : k + 1 + n = k + (n + 1) := by omega
      rw [e2] at y2
      omega
    · rw [if_neg ck] at h30 ⊢
      refine ⟨hH, ?_⟩
      rw [hz (n + 1) (by omega)]
      omega
theorem pz_drop2 : ∀ (n m : Nat) (s : TS), m ≤ n → (m : Int) ≤ sg s 0 5 → sg s 0 5 ≤ 12 → PZ f g ω κ x (sDrop2 n ((m : Int) - 1) s) = PZ f g ω κ x s - dS (dv f s) m := by
  intro n
  induction n with
  | zero =>
    intro m s h _ _
    have : m = 0 := by omega
    rw [this]
    show PZ f g ω κ x s = PZ f g ω κ x s - 0
    omega
  | succ n ih =>
    intro m s h h5 h12
    unfold sDrop2
    rcases m with _ | m
    · rw [if_pos (by omega)]
      show PZ f g ω κ x s = PZ f g ω κ x s - 0
      omega
    · have e1 : ((m + 1 : Nat) : Int) - 1 = (m : Int) := by omega
      rw [e1, if_neg (by omega)]
      have ed : dS (dv f s) (m + 1) = dS (dv f s) m + dv f s m := rfl
      rw [ed]
      split
      · rename_i c9
        have hd : dv f s (m : Int) = 0 := if_neg (fun hh => hh c9)
        rw [ih m s (by omega) (by omega) h12, hd]
        omega
      · rename_i c9
        have hd : dv f s (m : Int) = pv f s m := if_pos c9
        rw [ih m (sRem m s) (by omega) (by rw [rem_5]; omega) (by rw [rem_5]; omega), PZ_rem h12 (by omega) (by omega), hd]
        have : dS (dv f (sRem (m : Int) s)) m = dS (dv f s) m := dS_to m fun i i0 i1 => by
          unfold dv
          rw [rem_g i0 (by omega) (by decide), if_pos i1, pv_i (by rw [rem_5]; omega), pv_i (s := s) (by omega), rem_g i0 (by omega) (by decide), rem_g i0 (by omega) (by decide), rem_g i0 (by omega) (by decide), if_pos i1]
        rw [this]
        omega
theorem dS_13 (h : sg s 0 5 ≤ 12) : ∀ m : Nat, sg s 0 5 ≤ (m : Int) → dS (dv f s) m = dS (dv f s) (sg s 0 5).toNat := by
  intro m
  induction m with
  | zero => intro h0; rw [show (sg s 0 5).toNat = 0 by omega]
  | succ m ih =>
    intro h0
    by_cases c : sg s 0 5 ≤ (m : Int)
    · show dS (dv f s) m + dv f s m = _
      rw [ih c]
      unfold dv
      rw [pv_o (by omega)]
      split <;> omega
    · rw [show (sg s 0 5).toNat = m + 1 by omega]
/-- all that is doomed is dropped; k: one that is doomed and doesn't wait -/
theorem pz_drop (C : PC x f g ω κ F T Z) (hH : QH x B F T s) (hs : x.1 3 ≤ x.1 0) (h4 : x.1 4 ≠ 1) (h9 : sg s 0 9 = 0) (k0 : 0 ≤ k) (hc : c = 0 ∨ (k < sg s 0 5 ∧ sg s (2 + k) 9 ≠ 0 ∧ sg s (2 + k) 7 = 0 ∧ c = pv f s k)) (h30 : sg (sDrop x s) 0 30 = 0) : PZ f g ω κ x (sDrop x s) + c ≤ PZ f g ω κ x s := by
  have hu : sg (sDrop1 x 13 0 s) 0 30 = 0 := by
    have : sg (sDrop x s) 0 30 = sg (sDrop1 x 13 0 s) 0 30 := by
      unfold sDrop
      simp only
      exact u_drop2 _ _ _
    rw [← this]; exact h30
  obtain ⟨q1, q2⟩ := pz_drop1 C hs h4 13 0 s hH h9 hu
  have h5 := hH.n5
  have e5 : sg (sDrop1 x 13 0 s) 0 5 = sg s 0 5 := drop1_g (by omega) _ _ _
  have hd : PZ f g ω κ x (sDrop x s) = PZ f g ω κ x (sDrop1 x 13 0 s) - dS (dv f s) (sg s 0 5).toNat := by
    unfold sDrop
    simp only
    have := pz_drop2 (f := f) (g := g) (ω := ω) (κ := κ) (x := x) 13 (sg (sDrop1 x 13 0 s) 0 5).toNat (sDrop1 x 13 0 s) (by omega) (by omega) (by omega)
    rw [show (((sg (sDrop1 x 13 0 s) 0 5).toNat : Nat) : Int) - 1 = sg (sDrop1 x 13 0 s) 0 5 - 1 by omega] at this
    rw [this, e5]
    congr 1
    exact dS_to _ fun i i0 i1 => by
      unfold dv
      rw [drop1_g (Or.inl (by omega)), pv_same e5 (drop1_g (Or.inl (by omega)) _ _ _) (drop1_g (Or.inl (by omega)) _ _ _) (drop1_g (Or.inl (by omega)) _ _ _)]
  have hle : ∀ i : Int, 0 ≤ i → dw f s i ≤ dv f s i := fun i i0 => by
    unfold dw dv
    by_cases c9 : sg s (2 + i) 9 ≠ 0
    · by_cases cw : sg s (2 + i) 7 = 1 ∨ sg s (2 + i) 7 = 2
      · rw [if_pos ⟨c9, cw⟩, if_pos c9]; omega
      · rw [if_neg (fun hh => cw hh.2), if_pos c9]
        by_cases c5 : i < sg s 0 5
        · rw [pv_i c5]; exact C.nn cw
        · rw [pv_o c5]; omega
    · rw [if_neg (fun hh => c9 hh.1), if_neg c9]; omega
  have hk : dw f s k + c ≤ dv f s k := by
    rcases hc with hc | ⟨c1, c2, c3, c4⟩
    · have := hle k k0; omega
    · unfold dw dv
      rw [if_neg (fun hh => by omega), if_pos c2]
      omega
  have hS := dS_le hle hk k0 13
  rw [dS_13 h5.2 13 (by omega)] at hS
  have e0 : dS (dw f s) 0 = 0 := rfl
  have e13 : dS (dw f s) (0 + 13) = dS (dw f s) 13 := rfl
  rw [e0, e13] at q2
  have q2' : PZ f g ω κ x (sDrop1 x 13 0 s) + 0 ≤ PZ f g ω κ x s + dS (dw f s) 13 := q2
  rcases hc with hc | ⟨c1, c2, c3, c4⟩
  · rw [hc] at hS ⊢
    rw [hd]
    split at hS <;> omega
  · rw [if_pos (by omega)] at hS
    rw [hd]
    omega
theorem doomL_k (k0 : 0 ≤ k) : ∀ (n : Nat) (i : Int) (s : TS), sg s (2 + k) 9 ≠ 0 → sg (sDoomL n i s) (2 + k) 9 ≠ 0 := by
  intro n
  induction n with
  | zero => intro i s h; exact h
  | succ n ih =>
    intro i s h
    unfold sDoomL
    split
    · split
      · exact ih _ _ h
      · split
        · exact ih _ _ h
        · refine ih _ _ ?_
          rw [st_g]
          split
          · decide
          · exact h
    · exact h
theorem doom_k (k0 : 0 ≤ k) : sg (sDoom k s) (2 + k) 9 ≠ 0 := doomL_k k0 _ _ _ (by rw [st_g, if_pos ⟨rfl, rfl⟩]; decide)
/-- a branch wins -/
theorem pz_win (C : PC x f g ω κ F T Z) (hH : QH x B F T s) (hs : x.1 3 ≤ x.1 0) (h4 : x.1 4 ≠ 1) (h9 : sg s 0 9 = 0) (k0 : 0 ≤ k) (k1 : k < sg s 0 5) (hw : sg s (2 + k) 7 = 0) (h30 : sg (sDrop x (sWin x k s)) 0 30 = 0) : PZ f g ω κ x (sDrop x (sWin x k s)) ≤ PZ f g ω κ x s := by
  have h5 := hH.n5
  unfold sWin at h30 ⊢
  simp only at h30 ⊢
  have hfb := find_b (s := s) (v := sg s (2 + k) 3)
  generalize find s (sg s (2 + k) 3) = o at h30 hfb ⊢
  by_cases co : o < 0
  · rw [if_pos co] at h30 ⊢
    have := pz_drop (k := 0) (c := 0) C hH hs h4 h9 (by decide) (Or.inl rfl) h30
    omega
  · rw [if_neg co] at h30 ⊢
    obtain ⟨o0, o1, -⟩ := hfb.resolve_left (by omega)
    have hH2 : QH x B F T (st (st s (2 + k) 3 (-1)) (2 + o) 3 (-1)) := (hH.s3 k0).s3 o0
    have eP : PZ f g ω κ x (st (st s (2 + k) 3 (-1)) (2 + o) 3 (-1)) = PZ f g ω κ x s := by rw [PZ_sx (by omega), PZ_sx (by omega)]
    have es : ∀ p q : Int, q ≠ 3 → sg (st (st s (2 + k) 3 (-1)) (2 + o) 3 (-1)) p q = sg s p q := fun p q hq => by rw [st_g, if_neg (by omega), st_g, if_neg (by omega)]
    generalize st (st s (2 + k) 3 (-1)) (2 + o) 3 (-1) = s2 at h30 hH2 eP es ⊢
    have f5 : sg s2 0 5 = sg s 0 5 := es _ _ (by decide)
    have f9 : sg s2 0 9 = 0 := by rw [es _ _ (by decide)]; exact h9
    have fw : sg s2 (2 + k) 7 = 0 := by rw [es _ _ (by decide)]; exact hw
    -- behind the parent's wait
    have fin : ∀ s3 : TS, QH x B F T s3 → (∀ p q : Int, p ≠ 0 ∨ (q ≠ 12 ∧ q ≠ 30 ∧ q ≠ 31) → sg s3 p q = sg s2 p q) → PZ f g ω κ x s3 ≤ PZ f g ω κ x s2 + pv f s2 o → sg (sDrop x (sDoom k (sGo o (sg s3 (2 + k) 4) s3))) 0 30 = 0 → PZ f g ω κ x (sDrop x (sDoom k (sGo o (sg s3 (2 + k) 4) s3))) ≤ PZ f g ω κ x s := by
      intro s3 g1 g2 g3 g4
      have l3 := g1.ln k0 (by rw [g2 _ _ (by omega), f5]; exact k1)
      have g5 := (g1.go (k := o) o0 l3.1 l3.2).doom k0
      have e9 := e9_doom (s := sGo o (sg s3 (2 + k) 4) s3) k0
      have b5 : sg s3 0 5 = sg s 0 5 := by rw [g2 _ _ (by omega), f5]
      have c5 : sg (sGo o (sg s3 (2 + k) 4) s3) 0 5 = sg s 0 5 := by rw [go_g, if_neg (by omega), if_neg (by omega)]; exact b5
      have d5 : sg (sDoom k (sGo o (sg s3 (2 + k) 4) s3)) 0 5 = sg s 0 5 := by rw [e9.1 _ _ (by omega)]; exact c5
      have d7 : sg (sDoom k (sGo o (sg s3 (2 + k) 4) s3)) (2 + k) 7 = 0 := by
        rw [e9.1 _ _ (by omega), go_g, if_neg (by omega)]
        split
        · rfl
        · rw [g2 _ _ (Or.inl (by omega))]; exact fw
      have d4 : sg (sDoom k (sGo o (sg s3 (2 + k) 4) s3)) (2 + k) 4 = sg s3 (2 + k) 4 := by
        rw [e9.1 _ _ (by omega), go_g]
        split
        · rfl
        · rw [if_neg (by omega)]
      have d9 : sg (sDoom k (sGo o (sg s3 (2 + k) 4) s3)) 0 9 = 0 := by
        rw [e9.1 _ _ (by omega), go_g, if_neg (by omega), if_neg (by omega), g2 _ _ (by omega)]; exact f9
      have y := pz_drop (k := k) (c := pv f (sDoom k (sGo o (sg s3 (2 + k) 4) s3)) k) C g5 hs h4 d9 k0 (Or.inr ⟨by rw [d5]; exact k1, doom_k k0, d7, rfl⟩) g4
      rw [pv_w C (by rw [d5]; exact k1) d7, d4, PZ_e9 e9, PZ_go o0 (by rw [b5]; exact o1) (by omega), C.e0 (j := sg s3 (2 + o) 8) (by omega), pv_same (s' := s3) (s := s2) (g2 _ _ (by omega)) (g2 _ _ (Or.inl (by omega))) (g2 _ _ (Or.inl (by omega))) (g2 _ _ (Or.inl (by omega)))] at y
      omega
    by_cases cp : sg s2 (2 + o) 0 = sg s2 (2 + k) 1
    · rw [if_pos cp] at h30 ⊢
      by_cases cw : sg s2 (2 + o) 7 = 1 ∨ sg s2 (2 + o) 7 = 2
      · rw [if_pos cw] at h30 ⊢
        have hr := cmd_r (c := 11) (a := sg s2 (2 + o) 8) (b := 0) hH2.1 hs (Int.le_trans hH2.1.1.1 hH2.1.1.2)
        by_cases cr : (sCmd x 11 (sg s2 (2 + o) 8) 0 s2).1 < 0
        · rw [if_pos cr] at h30
          have := u_drop h30
          omega
        · rw [if_neg cr] at h30 ⊢
          have h3 : sg (sCmd x 11 (sg s2 (2 + o) 8) 0 s2).2 0 30 = 0 := by
            have := u_drop h30
            rw [u_doom, u_go] at this
            exact this
          obtain ⟨z0, z1, z2, z3, z4, z5⟩ := PZ_cmd (f := f) (g := g) (ω := ω) (κ := κ) hH2 hs h4 (by decide) (by decide) h3
          refine fin _ z0 (fun p q hh => cmd_g hh) ?_ h30
          have hk := z5 o o0 (by omega) cw
          have := C.2.2.1 _ (sg s2 (2 + o) 7) _ (sg s2 (2 + o) 4) cw hk.1 hk.2 z2 z3
          rw [z1, pv_i (by omega)]
          omega
      · rw [if_neg cw] at h30 ⊢
        refine fin s2 hH2 (fun _ _ _ => rfl) ?_ h30
        rw [pv_i (by omega)]
        have := C.nn (j := sg s2 (2 + o) 8) (l := sg s2 (2 + o) 4) cw
        omega
    · rw [if_neg cp] at h30 ⊢
      have e9 := e9_doom (s := s2) o0
      have := pz_drop (k := 0) (c := 0) C (hH2.doom o0) hs h4 (by rw [e9.1 _ _ (by omega)]; exact f9) (by decide) (Or.inl rfl) h30
      rw [PZ_e9 e9] at this
      omega
end PTC
