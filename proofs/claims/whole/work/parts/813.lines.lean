/-! THE TELLING, plain: TASKs that were passed; what comes back to somebody was open. -/
section LN1
variable {x : CX} {s s' s1 s2 S : TS} {B : Int} {a b c d e i j v k h l w p r t o q u kd lim m N : Int} {F T Z : Prop} {E : Int → Ev} {g : Int → Int → Int → Int → Int}
theorem nc_cmd2 (hk : ∀ i : Int, 0 ≤ i → i < x.1 0 → ek (x.2.1 i) ≤ 17) (h0 : 0 ≤ i) (h1 : i ≤ x.1 0) (h : nc x i < x.1 0) : 8 ≤ ek (x.2.1 (nc x i)) ∧ ek (x.2.1 (nc x i)) ≤ 16 := by
  have hb := nc_b (x := x) h1
  by_cases c : 8 ≤ ek (x.2.1 (nc x i)) ∧ ek (x.2.1 (nc x i)) ≤ 16
  · exact c
  · exfalso
    have h2 := nc_u h c (hk _ (by omega) h)
    rw [nc_nc h0 h1] at h2
    have h3 := nc_b (x := x) (a := nc x i + 1) (by omega)
    omega
theorem nc_mono (hk : ∀ i : Int, 0 ≤ i → i < x.1 0 → ek (x.2.1 i) ≤ 17) (h0 : 0 ≤ a) (hab : a ≤ b) (hb : b ≤ x.1 0) : nc x a ≤ nc x b := by
  have h1 := nc_b (x := x) (a := a) (by omega)
  have h2 := nc_b (x := x) (a := b) hb
  by_cases c : nc x a ≤ nc x b
  · exact c
  · exfalso
    have h3 := nc_cmd2 hk (i := b) (by omega) hb (by omega)
    exact nc_gap (x := x) (i := a) (j := nc x b) (by omega) (by omega) h3
/-- TASKs of a history -/
def HTk (E : Int → Ev) (N : Int) : Prop := (∀ t : Int, 0 ≤ t → t < N → ek (E t) = 17 → 1 ≤ ex (E t) ∧ ex (E t) ≤ cA E t.toNat) ∧ ∀ t u : Int, 0 ≤ t → t < u → u < N → ek (E t) = 17 → ek (E u) = 17 → ex (E t) ≤ ex (E u)
/-- what comes back, of a history -/
def HBk (E : Int → Ev) (N : Int) : Prop := (∀ i : Int, 0 ≤ i → i < N → bkk (ek (E i)) → opk (ek (E (ex (E i))))) ∧ (∀ i j : Int, 0 ≤ i → i < j → j < N → bkk (ek (E i)) → bkk (ek (E j)) → ex (E i) ≠ ex (E j)) ∧ ∀ d i : Int, 0 ≤ d → d < i → i < N → ek (E d) = 11 → bkk (ek (E i)) → ex (E d) = ex (E i) → ∃ t : Int, d < t ∧ t < i ∧ ek (E t) = 17
/-- TASKs that count so many are passed, and what lies ahead of them was met -/
def PSx (x : CX) (s : TS) : Prop := (∀ t : Int, 0 ≤ t → t < sg s 0 13 → ek (x.2.1 t) = 17 → t ≤ nc x (sg s 0 12)) ∧ (∀ t : Int, 0 ≤ t → t < x.1 0 → ek (x.2.1 t) = 17 → ex (x.2.1 t) ≤ sg s 0 10 → t < sg s 0 13) ∧ sg s 0 10 = cA x.2.1 (sg s 0 11).toNat
theorem ps_pass : ∀ (n : Nat) (i : Int) (s : TS), 0 ≤ i → i ≤ x.1 0 → x.1 0 - i < n → sg (sPass x n i s) 0 30 = 0 → ∃ v, sPass x n i s = st s 0 13 v ∧ i ≤ v ∧ v ≤ x.1 0 ∧ (∀ t : Int, i ≤ t → t < v → ek (x.2.1 t) = 17 → t ≤ nc x (sg s 0 12)) ∧ (v = x.1 0 ∨ (ek (x.2.1 v) = 17 ∧ sg s 0 10 < ex (x.2.1 v))) := by
  intro n
  induction n with
  | zero => intro i s _ _ h; omega
  | succ n ih =>
    intro i s i0 i1 hn h
    unfold sPass at h ⊢
    by_cases c1 : i < x.1 0
    · rw [if_pos c1] at h ⊢
      by_cases c2 : sg s 0 30 = 0
      · rw [if_pos c2] at h ⊢
        by_cases c3 : ek (x.2.1 i) = 17
        · rw [if_pos c3] at h ⊢
          by_cases c4 : sg s 0 10 < ex (x.2.1 i)
          · rw [if_pos c4]
            exact ⟨i, rfl, Int.le_refl _, i1, fun t t0 t1 => by omega, Or.inr ⟨c3, c4⟩⟩
          · rw [if_neg c4] at h ⊢
            by_cases c5 : nc x (sg s 0 12) < i
            · rw [if_pos c5] at h
              exact absurd (o_pass ok30 _ _ _ h) u_stuck
            · rw [if_neg c5] at h ⊢
              obtain ⟨v, v1, v2, v3, v4, v5⟩ := ih (i + 1) s (by omega) (by omega) (by omega) h
              refine ⟨v, v1, by omega, v3, fun t t0 t1 tk => ?_, v5⟩
              by_cases ct : t = i
              · omega
              · exact v4 t (by omega) t1 tk
        · rw [if_neg c3] at h ⊢
          obtain ⟨v, v1, v2, v3, v4, v5⟩ := ih (i + 1) s (by omega) (by omega) (by omega) h
          refine ⟨v, v1, by omega, v3, fun t t0 t1 tk => ?_, v5⟩
          by_cases ct : t = i
          · rw [ct] at tk; exact absurd tk c3
          · exact v4 t (by omega) t1 tk
      · rw [if_neg c2] at h
        rw [u_st (by omega)] at h
        exact absurd h c2
    · rw [if_neg c1]
      exact ⟨i, rfl, Int.le_refl _, i1, fun t t0 t1 => by omega, Or.inl (by omega)⟩
theorem cA_skip : ∀ (d n : Nat), (∀ i : Int, (n : Int) ≤ i → i < n + d → 7 < ek (E i)) → cA E (n + d) = cA E n := by
  intro d
  induction d with
  | zero => intro n _; rfl
  | succ d ih =>
    intro n h
    show (if ek (E ((n + d : Nat) : Int)) ≤ 7 then cA E (n + d) + 1 else cA E (n + d)) = cA E n
    rw [if_neg (by have := h ((n + d : Nat) : Int) (by omega) (by omega); omega)]
    exact ih n fun i i0 i1 => h i i0 (by omega)
theorem cA_mn : ∀ (d n : Nat), cA E n ≤ cA E (n + d) := by
  intro d
  induction d with
  | zero => intro n; exact Int.le_refl _
  | succ d ih =>
    intro n
    have := ih n
    show _ ≤ if ek (E ((n + d : Nat) : Int)) ≤ 7 then cA E (n + d) + 1 else cA E (n + d)
    split <;> omega
/-- between arrivals there are none -/
theorem nxa_gap : ∀ (n : Nat) (i : Int), (x.1 0 - i).toNat = n → ∀ j : Int, i ≤ j → j < nxa x n i → 7 < ek (x.2.1 j) := by
  intro n
  induction n with
  | zero => intro i _ j h0 h1; exact absurd h1 (by show ¬ j < i; omega)
  | succ n ih =>
    intro i hn j h0 h1
    unfold nxa at h1
    rw [if_pos (by omega)] at h1
    split at h1
    · by_cases hj : j = i
      · rw [hj]; assumption
      · exact ih (i + 1) (by omega) j (by omega) h1
    · omega
theorem na_gap (h0 : i ≤ j) (h1 : j < na x i) : 7 < ek (x.2.1 j) := nxa_gap _ i rfl j h0 h1
theorem ps_take (hC : CXX x) (hT : HTk x.2.1 (x.1 0)) (hk : ∀ i : Int, 0 ≤ i → i < x.1 0 → ek (x.2.1 i) ≤ 17) (hP : BP x s B) (hi : i = na x (sg s 0 11)) (i1 : i < x.1 0) (h30 : sg (sTake x i s) 0 30 = 0) (hp : PSx x s) : PSx x (sTake x i s) := by
  obtain ⟨p1, p2, p3⟩ := hp
  have hb := hP.2.2.2.2
  have hb1 := hb.1
  have hb2 := hb.2.1
  have hna := na_ok (x := x) (i := sg s 0 11) (by omega)
  rw [← hi] at hna
  obtain ⟨t1, v, t2⟩ := take_st h30
  obtain ⟨a1, a2, a3, a4, a5, a6, a7⟩ := taken_all hC hP hna.1 i1 hna.2
  have m12 : sg s 0 12 ≤ sg (sTaken x i s) 0 12 := by
    by_cases c : sg s 0 12 ≤ sg (sTaken x i s) 0 12
    · exact c
    · have := o_noted (okM (x := x) (v := sg s 0 12)) hC hP hna.1 i1 hna.2 (o_taken okM hC hP hna.1 i1 hna.2 (by omega))
      omega
  have hp2 : sTake x i s = sPass x (x.1 0 - sg (sTaken x i s) 0 13 + 1).toNat (sg (sTaken x i s) 0 13) (st (sTaken x i s) 0 10 (sg (sTaken x i s) 0 10 + 1)) := take_d
  have h3 := h30
  rw [hp2] at h3
  obtain ⟨z, z1, z2, z3, z4, z5⟩ := ps_pass _ _ _ (by omega) (by omega) (by omega) h3
  rw [hp2, z1]
  have e12 : sg (st (sTaken x i s) 0 10 (sg (sTaken x i s) 0 10 + 1)) 0 12 = sg (sTaken x i s) 0 12 := by rw [st_g, if_neg (by omega)]
  have e10 : sg (st (sTaken x i s) 0 10 (sg (sTaken x i s) 0 10 + 1)) 0 10 = sg s 0 10 + 1 := by rw [st_g, if_pos ⟨rfl, rfl⟩, a4]
  rw [e12] at z4
  rw [e10] at z5
  have f12 : sg (st (st (sTaken x i s) 0 10 (sg (sTaken x i s) 0 10 + 1)) 0 13 z) 0 12 = sg (sTaken x i s) 0 12 := by rw [st_g, if_neg (by omega), e12]
  have f13 : sg (st (st (sTaken x i s) 0 10 (sg (sTaken x i s) 0 10 + 1)) 0 13 z) 0 13 = z := by rw [st_g, if_pos ⟨rfl, rfl⟩]
  have f10 : sg (st (st (sTaken x i s) 0 10 (sg (sTaken x i s) 0 10 + 1)) 0 13 z) 0 10 = sg s 0 10 + 1 := by rw [st_g, if_neg (by omega), e10]
  have f11 : sg (st (st (sTaken x i s) 0 10 (sg (sTaken x i s) 0 10 + 1)) 0 13 z) 0 11 = i + 1 := by rw [st_g, if_neg (by omega), st_g, if_neg (by omega), a5]
  refine ⟨fun t t0 t1 tk => ?_, fun t t0 t1 tk te => ?_, ?_⟩
  · rw [f13] at t1
    rw [f12]
    by_cases c : t < sg s 0 13
    · have h1 := p1 t t0 c tk
      have h2 := nc_mono hk hP.1.1.1 m12 a1.1.2
      omega
    · exact z4 t (by omega) t1 tk
  · rw [f10] at te
    rw [f13]
    rcases z5 with z5 | ⟨z5, z6⟩
    · omega
    · by_cases c : t < z
      · exact c
      · exfalso
        by_cases cz : t = z
        · rw [cz] at te; omega
        · have := hT.2 z t (by omega) (by omega) t1 z5 tk
          omega
  · rw [f10, f11, p3]
    have e1 : (i + 1).toNat = i.toNat + 1 := by omega
    have e2 := cA_skip (E := x.2.1) (i.toNat - (sg s 0 11).toNat) (sg s 0 11).toNat fun j j0 j1 => na_gap (x := x) (i := sg s 0 11) (by omega) (by omega)
    rw [show (sg s 0 11).toNat + (i.toNat - (sg s 0 11).toNat) = i.toNat by omega] at e2
    rw [e1]
    show _ = if ek (x.2.1 (i.toNat : Int)) ≤ 7 then cA x.2.1 i.toNat + 1 else cA x.2.1 i.toNat
    rw [show ((i.toNat : Nat) : Int) = i by omega, if_pos hna.2, e2]
theorem ps00 (hT : HTk x.2.1 (x.1 0)) : PSx x s00 := by
  refine ⟨fun t t0 t1 => ?_, fun t t0 t1 tk te => ?_, rfl⟩
  · have : sg s00 0 13 = 0 := rfl
    omega
  · have h1 := (hT.1 t t0 t1 tk).1
    have : sg s00 0 10 = 0 := rfl
    omega
def fU (e w n l : Int) : Int := if (w = 1 ∨ w = 2) ∧ n = e then 1 else 0
def gU (e r k a b : Int) : Int := (if r = e ∧ (k = 8 ∨ k = 9 ∨ k = 10) then -1 else 0) + (if k = 11 ∧ a = e then 1 else 0)
theorem fU_0 (h : ¬ (w = 1 ∨ w = 2)) : fU e w t l = 0 := if_neg fun hh => h hh.1
theorem fU_w (h : w = 1 ∨ w = 2) : fU e w t l = if t = e then 1 else 0 := by
  unfold fU
  by_cases c : t = e
  · rw [if_pos ⟨h, c⟩, if_pos c]
  · rw [if_neg (fun hh => c hh.2), if_neg c]
theorem fU_nn : 0 ≤ fU e w t l := by unfold fU; split <;> decide
theorem gU_d : gU e r 11 a b = if a = e then 1 else 0 := by
  unfold gU
  rw [if_neg (by omega)]
  by_cases c : a = e
  · rw [if_pos ⟨rfl, c⟩, if_pos c]; rfl
  · rw [if_neg (fun hh => c hh.2), if_neg c]; rfl
theorem gU_o (h : k = 8 ∨ k = 9 ∨ k = 10) : gU e r k a b = if r = e then -1 else 0 := by
  unfold gU
  rw [if_neg (show ¬ (k = 11 ∧ a = e) by omega)]
  by_cases c : r = e
  · rw [if_pos ⟨c, h⟩, if_pos c]; rfl
  · rw [if_neg (fun hh => c hh.1), if_neg c]; rfl
theorem gU_n (h : 12 ≤ k) : gU e r k a b = 0 := by
  unfold gU
  rw [if_neg (by omega), if_neg (by omega)]
  rfl
theorem pcU : PC x (fU e) (gU e) 0 0 F T Z := by
  refine ⟨⟨trivial, Int.le_refl _⟩, fun w n l hw => ⟨by rw [fU_0 hw, fU_0 hw], by rw [fU_0 hw]; exact Int.le_refl _⟩, fun r w n l hw _ _ _ _ => by rw [fU_w hw, gU_d]; exact Int.le_refl _, fun l l' _ _ _ _ => by rw [fU_0 (by omega), fU_0 (by omega)]; decide, fun l _ _ => by rw [fU_0 (by omega), fU_0 (by omega), fU_0 (by omega), fU_0 (by omega)]; exact ⟨by decide, by decide, by decide, by decide⟩, fun l l' _ _ _ _ => by rw [fU_0 (by omega), fU_0 (by omega), fU_0 (by omega)]; decide, fun r l k a b _ _ _ _ _ _ => ⟨fun _ hk => ?_, fun _ hk => ?_, fun hk => ?_⟩, fun r k a b _ _ _ _ k0 k1 => by rw [gU_n (by omega)]; exact Int.le_refl _⟩
  · rw [fU_w (Or.inl rfl), gU_o hk, fU_0 (by omega)]
    split <;> omega
  · rw [fU_w (Or.inr rfl), gU_o (Or.inl rfl), fU_0 (by omega)]
    split <;> omega
  · rw [gU_n (by omega), fU_0 (by omega), fU_0 (by omega)]
    decide
theorem pdU : PD x (fU e) (gU e) F T (fun _ => 0) 0 := by
  refine ⟨Int.le_refl _, fun w n l l' hw _ _ _ _ => ?_, fun r w n l l' _ _ _ _ => ⟨fun hw _ _ _ _ => ?_, fun hw => ?_⟩⟩
  · rw [fU_0 (by omega), fU_w hw]
    show (0 : Int) ≤ (if n = e then 1 else 0) + 0
    split <;> decide
  · rw [fU_0 (by omega), fU_w hw, gU_d]
    omega
  · rw [fU_0 (by omega), fU_0 hw]
    decide
theorem nkU : nK (fU e) 0 (fun _ => 0) 0 s kd a = 0 := by
  unfold nK
  rw [fU_0 (by omega)]
  split
  · rfl
  · split
    · rfl
    · split
      · rfl
      · split <;> rfl
end LN1
