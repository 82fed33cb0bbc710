/-! THE TELLING, plain: never more than twelve are open, in what is new too. -/
section OP2
variable {x : CX} {s s' s1 s2 S : TS} {B : Int} {a b c d e i j v k h l w p r t o q u kd lim m N : Int} {F T Z : Prop} {E : Int → Ev} {g : Int → Int → Int → Int → Int}
/-- what arrivals and DROPs speak of came before -/
def BEF (E : Int → Ev) (N : Int) : Prop := ∀ i : Int, 0 ≤ i → i < N → (ek (E i) = 11 ∨ bkk (ek (E i))) → ex (E i) < i
def QD (r k a b : Int) : Prop := 8 ≤ k ∧ k ≤ 16 ∧ 0 ≤ a ∧ 0 ≤ b ∧ (k = 11 → a < r ∧ b = 0) ∧ (k ≠ 11 → CmA k a b)
theorem nwD : NwQ QD N := by
  refine ⟨fun r n _ h0 h1 => ⟨by decide, by decide, h0, by decide, fun _ => ⟨h1, rfl⟩, fun h => absurd rfl h⟩, fun r k a b _ hc hk => ⟨by omega, by omega, ?_, ?_, fun h => by omega, fun _ => hc⟩⟩
  · obtain ⟨c1, c2, c3, c4, c5, c6⟩ := hc
    rcases hk with h | h | h | h
    · have := c1 h; omega
    · have := c2 h; omega
    · have := c3 h; omega
    · by_cases k12 : k = 12
      · have := c4 k12; omega
      · by_cases k15 : k = 15
        · have := c6 k15; omega
        · have := c5 (by omega); omega
  · obtain ⟨c1, c2, c3, c4, c5, c6⟩ := hc
    rcases hk with h | h | h | h
    · have := c1 h; omega
    · have := c2 h; omega
    · have := c3 h; omega
    · by_cases k12 : k = 12
      · have := c4 k12; omega
      · by_cases k15 : k = 15
        · have := c6 k15; omega
        · have := c5 (by omega); omega
/-- news are as they should be -/
theorem qd_of (h : pI (gB (x.1 0) QD) x s ≤ 0) (h0 : x.1 0 ≤ i) (h1 : i < x.1 0 + nl s) : ∃ z, (sn s)[(i - x.1 0).toNat]? = some z ∧ kS x s i = z.1 ∧ xS x s i = z.2.1 ∧ QD i z.1 z.2.1 z.2.2 := by
  obtain ⟨z, z1, z2, z3⟩ := kS_hi h0 h1
  refine ⟨z, z1, z2, z3, ?_⟩
  have h6 := iL_mem (g := gB (x.1 0) QD) (fun _ _ _ _ => gB_nn) (sn s) (x.1 0) _ z z1
  have h7 := iE_nn (g := gB (x.1 0) QD) (E := x.2.1) (fun _ _ _ _ => gB_nn) (sg s 0 12).toNat
  rw [show x.1 0 + ((i - x.1 0).toNat : Int) = i by omega] at h6
  unfold pI at h
  rcases gB_1 (by omega : gB (x.1 0) QD i z.1 z.2.1 z.2.2 ≤ 0) with h8 | h8
  · omega
  · exact h8
/-- sums from below -/
theorem iE_ge : ∀ n : Nat, (∀ i : Int, 0 ≤ i → i < n → 8 ≤ ek (E i) → ek (E i) ≤ 16 → 0 ≤ g i (ek (E i)) (ex (E i)) (ey (E i))) → 0 ≤ iE g E n ∧ ∀ i : Int, 0 ≤ i → i < n → 8 ≤ ek (E i) → ek (E i) ≤ 16 → g i (ek (E i)) (ex (E i)) (ey (E i)) ≤ iE g E n := by
  intro n
  induction n with
  | zero => intro _; exact ⟨Int.le_refl _, fun i i0 i1 => by omega⟩
  | succ n ih =>
    intro h
    obtain ⟨h1, h2⟩ := ih fun i i0 i1 => h i i0 (by omega)
    have ht : 0 ≤ if 8 ≤ ek (E (n : Int)) ∧ ek (E (n : Int)) ≤ 16 then g (n : Int) (ek (E (n : Int))) (ex (E (n : Int))) (ey (E (n : Int))) else 0 := by
      split
      · rename_i hh; exact h n (by omega) (by omega) hh.1 hh.2
      · exact Int.le_refl _
    refine ⟨?_, fun i i0 i1 k0 k1 => ?_⟩
    · show 0 ≤ iE g E n + (if _ then _ else _)
      omega
    · show _ ≤ iE g E n + (if _ then _ else _)
      by_cases c : i = (n : Int)
      · rw [c] at k0 k1 ⊢
        rw [if_pos ⟨k0, k1⟩]
        omega
      · have := h2 i i0 (by omega) k0 k1
        omega
theorem iL_ge : ∀ (L : List (Int × Int × Int)) (r : Int), (∀ (i : Nat) (z : Int × Int × Int), L[i]? = some z → 0 ≤ g (r + i) z.1 z.2.1 z.2.2) → 0 ≤ iL g r L ∧ ∀ (i : Nat) (z : Int × Int × Int), L[i]? = some z → g (r + i) z.1 z.2.1 z.2.2 ≤ iL g r L := by
  intro L
  induction L with
  | nil => intro r _; exact ⟨Int.le_refl _, fun i z hz => absurd hz (by simp)⟩
  | cons y L ih =>
    intro r h
    obtain ⟨h1, h2⟩ := ih (r + 1) fun i z hz => by
      have := h (i + 1) z (by simpa using hz)
      rw [show r + ((i + 1 : Nat) : Int) = r + 1 + i by omega] at this
      exact this
    have h0 := h 0 y rfl
    rw [show r + ((0 : Nat) : Int) = r by omega] at h0
    refine ⟨?_, fun i z hz => ?_⟩
    · show 0 ≤ g r y.1 y.2.1 y.2.2 + iL g (r + 1) L
      omega
    · show _ ≤ g r y.1 y.2.1 y.2.2 + iL g (r + 1) L
      cases i with
      | zero =>
        have e : y = z := by simpa using hz
        rw [← e, show r + ((0 : Nat) : Int) = r by omega]
        omega
      | succ i =>
        have := h2 i z (by simpa using hz)
        rw [show r + ((i + 1 : Nat) : Int) = r + 1 + i by omega]
        omega
/-- what is open is waited for -/
theorem opn_w (hW : SW x s B) (hb : BEF x.2.1 (x.1 0)) (hk : ∀ i : Int, 0 ≤ i → i < x.1 0 → ek (x.2.1 i) ≤ 17) (hA : PZ (fA e) (gA e) 0 0 x s ≤ cbk x.2.1 e m.toNat) (m0 : 0 ≤ m) (hm : m ≤ x.1 0) (hQ : pI (gB (x.1 0) QD) x s ≤ 0) (hf : x.1 0 ≤ nc x (sg s 0 12)) (ho : OpnF (kS x s) (xS x s) (x.1 0 + nl s) e) : ∃ k : Int, 0 ≤ k ∧ k < sg s 0 5 ∧ (sg s (2 + k) 7 = 1 ∨ sg s (2 + k) 7 = 2) ∧ sg s (2 + k) 8 = e := by
  obtain ⟨⟨e0, e1⟩, e2, e3⟩ := ho
  have h5 := hW.2.2.2.2.2.2.2.1
  have hn0 := nl_nn0 (s := s)
  -- nothing came back, nothing was dropped
  have hc : cbk x.2.1 e m.toNat = 0 := cbk_0 _ fun i i0 i1 hh => by
    by_cases ci : i ≤ e
    · have := hb i i0 (by omega) (Or.inr hh.1); omega
    · have := e3 i (by omega) (by omega)
      rw [(kS_lo (by omega)).1, (kS_lo (by omega)).2] at this
      exact this ⟨Or.inr hh.1, hh.2⟩
  have tE : ∀ i : Int, 0 ≤ i → i < (sg s 0 12).toNat → 8 ≤ ek (x.2.1 i) → ek (x.2.1 i) ≤ 16 → 0 ≤ gA e i (ek (x.2.1 i)) (ex (x.2.1 i)) (ey (x.2.1 i)) := fun i i0 i1 k0 k1 => by
    have hiN : i < x.1 0 := by have := hW.1; omega
    by_cases c11 : ek (x.2.1 i) = 11
    · rw [c11, gA_d, if_neg]
      · exact Int.le_refl _
      · intro hh
        by_cases ci : i ≤ e
        · have := hb i i0 hiN (Or.inl c11); omega
        · have := e3 i (by omega) (by omega)
          rw [(kS_lo hiN).1, (kS_lo hiN).2] at this
          exact this ⟨Or.inl c11, hh⟩
    · by_cases co : ek (x.2.1 i) = 8 ∨ ek (x.2.1 i) = 9 ∨ ek (x.2.1 i) = 10
      · rw [gA_o co]; split <;> decide
      · rw [gA_n (by omega)]; exact Int.le_refl _
  have tL : ∀ (i : Nat) (z : Int × Int × Int), (sn s)[i]? = some z → 0 ≤ gA e (x.1 0 + i) z.1 z.2.1 z.2.2 := fun i z hz => by
    have hil : i < (sn s).length := by
      by_cases c : i < (sn s).length
      · exact c
      · rw [List.getElem?_eq_none (by omega)] at hz; exact absurd hz (by simp)
    obtain ⟨y, y1, y2, y3, y4⟩ := qd_of (i := x.1 0 + i) hQ (by omega) (by unfold nl; omega)
    rw [show (x.1 0 + (i : Int) - x.1 0).toNat = i by omega, hz] at y1
    cases y1
    obtain ⟨q1, q2, q3, q4, q5, q6⟩ := y4
    by_cases c11 : z.1 = 11
    · rw [c11, gA_d, if_neg]
      · exact Int.le_refl _
      · intro hh
        have q := q5 c11
        have := e3 (x.1 0 + i) (by omega) (by unfold nl; omega)
        rw [y2, y3] at this
        exact this ⟨Or.inl c11, hh⟩
    · by_cases co : z.1 = 8 ∨ z.1 = 9 ∨ z.1 = 10
      · rw [gA_o co]; split <;> decide
      · rw [gA_n (by omega)]; exact Int.le_refl _
  obtain ⟨gE0, gE1⟩ := iE_ge (g := gA e) (E := x.2.1) _ tE
  obtain ⟨gL0, gL1⟩ := iL_ge (g := gA e) (sn s) (x.1 0) tL
  have h1 : 1 ≤ pI (gA e) x s := by
    unfold pI
    by_cases ce : e < x.1 0
    · have hek := e2
      rw [(kS_lo ce).1] at hek
      unfold opk at hek
      have h12 : e < sg s 0 12 := by
        by_cases c : e < sg s 0 12
        · exact c
        · have := nc_gap (x := x) (i := sg s 0 12) (j := e) (by omega) (by omega)
          omega
      have := gE1 e e0 (by omega) (by omega) (by omega)
      rw [gA_o hek, if_pos rfl] at this
      omega
    · obtain ⟨z, z1, z2, z3⟩ := kS_hi (s := s) (by omega : x.1 0 ≤ e) e1
      rw [z2] at e2
      unfold opk at e2
      have := gL1 _ z z1
      rw [show x.1 0 + ((e - x.1 0).toNat : Int) = e by omega, gA_o e2, if_pos rfl] at this
      omega
  -- then somebody waits
  by_cases hx : ∃ k : Int, 0 ≤ k ∧ k < sg s 0 5 ∧ (sg s (2 + k) 7 = 1 ∨ sg s (2 + k) 7 = 2) ∧ sg s (2 + k) 8 = e
  · exact hx
  · exfalso
    have hp : ∀ (n : Nat) (k : Int), 0 ≤ k → pF (fA e) s n k = 0 := by
      intro n
      induction n with
      | zero => intro k _; rfl
      | succ n ih =>
        intro k k0
        show pv (fA e) s k + pF (fA e) s n (k + 1) = 0
        rw [ih (k + 1) (by omega)]
        by_cases c : k < sg s 0 5
        · rw [pv_i c]
          by_cases cw : sg s (2 + k) 7 = 1 ∨ sg s (2 + k) 7 = 2
          · rw [fA_w cw, if_neg (fun hh => hx ⟨k, k0, c, cw, hh⟩)]
            rfl
          · rw [fA_0 cw]; rfl
        · rw [pv_o c]; rfl
    unfold PZ at hA
    rw [hp 12 0 (by decide), hc, Int.zero_mul, Int.zero_mul] at hA
    omega
/-- what is known along a telling -/
def CPx (x : CX) (m : Int) (s : TS) : Prop := (∀ e : Int, PZ (fA e) (gA e) 0 0 x s ≤ cbk x.2.1 e m.toNat) ∧ pI (gB (x.1 0) QD) x s ≤ 0 ∧ HOF (kS x s) (xS x s) (x.1 0 + nl s)
/-- what is fixed: history -/
def HFx (x : CX) : Prop := BEF x.2.1 (x.1 0) ∧ (∀ i : Int, 0 ≤ i → i < x.1 0 → ek (x.2.1 i) ≤ 17)
theorem ho_at (hW : SW x s B) (hx : HFx x) (h : ∀ e : Int, PZ (fA e) (gA e) 0 0 x s ≤ cbk x.2.1 e m.toNat) (hQ : pI (gB (x.1 0) QD) x s ≤ 0) (m0 : 0 ≤ m) (hm : m ≤ x.1 0) (hf : x.1 0 ≤ nc x (sg s 0 12)) {l : List Int} (hl : l.Nodup) (he : ∀ e ∈ l, OpnF (kS x s) (xS x s) (x.1 0 + nl s) e) : l.length ≤ 12 := by
  have h5 := hW.2.2.2.2.2.2.2.1
  exact pigeon (R := fun k e => sg s (2 + k) 8 = e) (fun k e e' h1 h2 => h1.symm.trans h2) 12 l hl fun e hh => by
    obtain ⟨k, k0, k1, -, k3⟩ := opn_w hW hx.1 hx.2 (h e) m0 hm hQ hf (he e hh)
    exact ⟨k, k0, by omega, k3⟩
/-- commands that open something, of what is new -/
def gO (N r k a b : Int) : Int := if N ≤ r ∧ (k = 8 ∨ k = 9 ∨ k = 10) then 1 else 0
theorem gO_nn : 0 ≤ gO N r k a b := by unfold gO; split <;> decide
theorem gO_n (h : ¬ (k = 8 ∨ k = 9 ∨ k = 10)) : gO N r k a b = 0 := if_neg fun hh => h hh.2
theorem pcO : PC x f00 (gO N) 0 0 F T False :=
  ⟨⟨trivial, Int.le_refl _⟩, fun _ _ _ _ => ⟨rfl, Int.le_refl _⟩, fun r w n l _ _ _ _ _ => by rw [gO_n (by omega)]; exact Int.le_refl _, fun _ _ _ _ _ _ => Int.le_refl _, fun _ _ _ => ⟨Int.le_refl _, Int.le_refl _, Int.le_refl _, Int.le_refl _⟩, fun _ _ _ _ _ _ => Int.le_refl _, fun r l k a b _ _ _ _ _ _ => ⟨fun hz => hz.elim, fun hz => hz.elim, fun hk => by rw [gO_n (by omega)]; exact Int.le_refl _⟩, fun r k a b _ _ _ _ k0 k1 => by rw [gO_n (by omega)]; exact Int.le_refl _⟩
theorem pdO : PD x f00 (gO N) F T (fun _ => 0) 0 := ⟨Int.le_refl _, fun _ _ _ _ _ _ _ _ _ => Int.le_refl _, fun r w n l l' _ _ _ _ => ⟨fun _ _ _ _ _ => by rw [gO_n (by omega)]; exact Int.le_refl _, fun _ => Int.le_refl _⟩⟩
theorem iE_O {E : Int → Ev} : ∀ n : Nat, (n : Int) ≤ N → iE (gO N) E n = 0 := by
  intro n
  induction n with
  | zero => intro _; rfl
  | succ n ih =>
    intro h
    show iE (gO N) E n + (if _ then _ else _) = 0
    rw [ih (by omega)]
    have : gO N (n : Int) (ek (E (n : Int))) (ex (E (n : Int))) (ey (E (n : Int))) = 0 := if_neg fun hh => by omega
    split
    · rw [this]; rfl
    · rfl
theorem iL_ap2 : ∀ (L M : List (Int × Int × Int)) (r : Int), iL g r (L ++ M) = iL g r L + iL g (r + (L.length : Int)) M := by
  intro L
  induction L with
  | nil =>
    intro M r
    show iL g r M = 0 + iL g (r + 0) M
    rw [Int.add_zero, Int.zero_add]
  | cons z L ih =>
    intro M r
    show g r z.1 z.2.1 z.2.2 + iL g (r + 1) (L ++ M) = g r z.1 z.2.1 z.2.2 + iL g (r + 1) L + iL g (r + ((L.length + 1 : Nat) : Int)) M
    rw [ih, show r + 1 + (L.length : Int) = r + ((L.length + 1 : Nat) : Int) by omega, Int.add_assoc]
/-- where nothing new opens -/
theorem ho_none (hH : HOF (kS x s) (xS x s) (x.1 0 + nl s)) {z : List (Int × Int × Int)} (hz : sn s ++ z = sn s') (hN : 0 ≤ x.1 0) (h12 : sg s 0 12 ≤ x.1 0) (h12' : sg s' 0 12 ≤ x.1 0) (hp : pI (gO (x.1 0)) x s' ≤ pI (gO (x.1 0)) x s) : HOF (kS x s') (xS x s') (x.1 0 + nl s') := by
  have hnone : iL (gO (x.1 0)) (x.1 0 + ((sn s).length : Int)) z ≤ 0 := by
    unfold pI at hp
    rw [iE_O (sg s 0 12).toNat (by omega), iE_O (sg s' 0 12).toNat (by omega), ← hz, iL_ap2] at hp
    omega
  intro p p0 p1 l hl he
  by_cases c : p ≤ x.1 0 + nl s
  · exact hH p p0 c l hl fun e hh => (he e hh).to (fun i i0 i1 => ⟨(kS_app hz (by omega)).1.symm, (kS_app hz (by omega)).2.symm⟩) (Int.le_refl _) (he e hh).1.2
  · refine hH (x.1 0 + nl s) (by have := nl_nn0 (s := s); omega) (Int.le_refl _) l hl fun e hh => ?_
    have h1 := he e hh
    refine h1.to (fun i i0 i1 => ⟨(kS_app hz i1).1.symm, (kS_app hz i1).2.symm⟩) (by omega) ?_
    by_cases ce : e < x.1 0 + nl s
    · exact ce
    · exfalso
      obtain ⟨y, y1, y2, -⟩ := kS_hi (x := x) (s := s') (i := e) (by have := nl_nn0 (s := s); omega) (by have := h1.1.2; omega)
      have h2 := h1.2.1
      rw [y2] at h2
      have hle : (sn s).length ≤ (e - x.1 0).toNat := by unfold nl at ce; omega
      rw [← hz, List.getElem?_append_right hle] at y1
      have h3 := (iL_ge (g := gO (x.1 0)) z (x.1 0 + ((sn s).length : Int)) fun _ _ _ => gO_nn).2 _ y y1
      have h4 : gO (x.1 0) (x.1 0 + ((sn s).length : Int) + (((e - x.1 0).toNat - (sn s).length : Nat) : Int)) y.1 y.2.1 y.2.2 = 1 := if_pos ⟨by omega, h2⟩
      omega
end OP2
