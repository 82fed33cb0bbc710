/-! THE TELLING, plain: what is open: commanded, not dropped, nothing came back; who waits for it. -/
section OPN
variable {x : CX} {s s' s1 s2 S : TS} {B : Int} {a b c d e i j v k h l w p r t o q u kd lim m N : Int} {F T Z : Prop} {E : Int → Ev} {kf xf kg xg : Int → Int}
def opk (k : Int) : Prop := k = 8 ∨ k = 9 ∨ k = 10
def bkk (k : Int) : Prop := k = 1 ∨ k = 2 ∨ k = 3 ∨ k = 5 ∨ k = 6
/-- e is open at p, by kinds and first numbers -/
def OpnF (kf xf : Int → Int) (p e : Int) : Prop := (0 ≤ e ∧ e < p) ∧ opk (kf e) ∧ ∀ i : Int, e < i → i < p → ¬ ((kf i = 11 ∨ bkk (kf i)) ∧ xf i = e)
/-- never more than twelve are open -/
def HOF (kf xf : Int → Int) (N : Int) : Prop := ∀ p : Int, 0 ≤ p → p ≤ N → ∀ l : List Int, l.Nodup → (∀ e ∈ l, OpnF kf xf p e) → l.length ≤ 12
theorem OpnF.to (h : OpnF kf xf p e) (hk : ∀ i : Int, 0 ≤ i → i < q → kg i = kf i ∧ xg i = xf i) (hq : q ≤ p) (he : e < q) : OpnF kg xg q e := by
  obtain ⟨⟨h0, h1⟩, h2, h3⟩ := h
  refine ⟨⟨h0, he⟩, by rw [(hk e h0 he).1]; exact h2, fun i i0 i1 => ?_⟩
  rw [(hk i (by omega) i1).1, (hk i (by omega) i1).2]
  exact h3 i i0 (by omega)
theorem HOF.to (h : HOF kf xf N) (hk : ∀ i : Int, 0 ≤ i → i < N → kg i = kf i ∧ xg i = xf i) : HOF kg xg N := fun p p0 p1 l hl he => h p p0 p1 l hl fun e hh => (he e hh).to (fun i i0 i1 => ⟨(hk i i0 (by omega)).1.symm, (hk i i0 (by omega)).2.symm⟩) (Int.le_refl _) (he e hh).1.2
theorem HOF.le (h : HOF kf xf N) (hN : m ≤ N) : HOF kf xf m := fun p p0 p1 => h p p0 (by omega)
/-- so many, each with its own -/
theorem pigeon {R : Int → Int → Prop} (hR : ∀ k e e' : Int, R k e → R k e' → e = e') : ∀ (n : Nat) (l : List Int), l.Nodup → (∀ e ∈ l, ∃ k : Int, 0 ≤ k ∧ k < n ∧ R k e) → l.length ≤ n := by
  intro n
  induction n with
  | zero =>
    intro l _ h
    cases l with
    | nil => exact Nat.le_refl _
    | cons e l =>
      obtain ⟨k, k0, k1, -⟩ := h e (List.mem_cons_self ..)
      omega
  | succ n ih =>
    intro l hl h
    by_cases c : ∃ e0, e0 ∈ l ∧ R (n : Int) e0
    · obtain ⟨e0, m0, r0⟩ := c
      have h1 := ih (l.erase e0) (hl.erase e0) fun e he => by
        have hne := (List.Nodup.mem_erase_iff hl).mp he
        obtain ⟨k, k0, k1, k2⟩ := h e hne.2
        refine ⟨k, k0, ?_, k2⟩
        by_cases ck : k = (n : Int)
        · rw [ck] at k2
          exact absurd (hR _ _ _ k2 r0) hne.1
        · omega
      have h2 := List.length_erase_of_mem m0
      have h3 := List.length_pos_of_mem m0
      omega
    · have := ih l hl fun e he => by
        obtain ⟨k, k0, k1, k2⟩ := h e he
        refine ⟨k, k0, ?_, k2⟩
        by_cases ck : k = (n : Int)
        · rw [ck] at k2
          exact absurd ⟨e, he, k2⟩ c
        · omega
      omega
/-- kinds and first numbers of the history with what is new -/
def kS (x : CX) (s : TS) (i : Int) : Int := if i < x.1 0 then ek (x.2.1 i) else ((sn s)[(i - x.1 0).toNat]?.getD (0, 0, 0)).1
def xS (x : CX) (s : TS) (i : Int) : Int := if i < x.1 0 then ex (x.2.1 i) else ((sn s)[(i - x.1 0).toNat]?.getD (0, 0, 0)).2.1
theorem kS_lo (h : i < x.1 0) : kS x s i = ek (x.2.1 i) ∧ xS x s i = ex (x.2.1 i) := ⟨if_pos h, if_pos h⟩
theorem kS_hi (h0 : x.1 0 ≤ i) (h1 : i < x.1 0 + nl s) : ∃ z, (sn s)[(i - x.1 0).toNat]? = some z ∧ kS x s i = z.1 ∧ xS x s i = z.2.1 := by
  have hlt : (i - x.1 0).toNat < (sn s).length := by unfold nl at h1; omega
  refine ⟨(sn s)[(i - x.1 0).toNat], List.getElem?_eq_getElem hlt, ?_, ?_⟩
  · unfold kS
    rw [if_neg (by omega), List.getElem?_eq_getElem hlt]
    rfl
  · unfold xS
    rw [if_neg (by omega), List.getElem?_eq_getElem hlt]
    rfl
/-- more news: what was before stays -/
theorem kS_app {z : List (Int × Int × Int)} (h : sn s ++ z = sn s') (h1 : i < x.1 0 + nl s) : kS x s' i = kS x s i ∧ xS x s' i = xS x s i := by
  by_cases c : i < x.1 0
  · rw [(kS_lo c).1, (kS_lo c).2, (kS_lo c).1, (kS_lo c).2]
    exact ⟨rfl, rfl⟩
  · have hlt : (i - x.1 0).toNat < (sn s).length := by unfold nl at h1; omega
    unfold kS xS
    rw [if_neg c, if_neg c, if_neg c, if_neg c, ← h, List.getElem?_append_left hlt]
    exact ⟨rfl, rfl⟩
def fA (e w n l : Int) : Int := if (w = 1 ∨ w = 2) ∧ n = e then -1 else 0
def gA (e r k a b : Int) : Int := (if r = e ∧ (k = 8 ∨ k = 9 ∨ k = 10) then 1 else 0) + (if k = 11 ∧ a = e then -1 else 0)
def dA (e n : Int) : Int := if n = e then 1 else 0
theorem fA_0 (h : ¬ (w = 1 ∨ w = 2)) : fA e w t l = 0 := if_neg fun hh => h hh.1
theorem fA_w (h : w = 1 ∨ w = 2) : fA e w t l = if t = e then -1 else 0 := by
  unfold fA
  by_cases c : t = e
  · rw [if_pos ⟨h, c⟩, if_pos c]
  · rw [if_neg (fun hh => c hh.2), if_neg c]
theorem gA_d : gA e r 11 a b = if a = e then -1 else 0 := by
  unfold gA
  rw [if_neg (by omega)]
  by_cases c : a = e
  · rw [if_pos ⟨rfl, c⟩, if_pos c]; rfl
  · rw [if_neg (fun hh => c hh.2), if_neg c]; rfl
theorem gA_o (h : k = 8 ∨ k = 9 ∨ k = 10) : gA e r k a b = if r = e then 1 else 0 := by
  unfold gA
  rw [if_neg (show ¬ (k = 11 ∧ a = e) by omega)]
  by_cases c : r = e
  · rw [if_pos ⟨c, h⟩, if_pos c]; rfl
  · rw [if_neg (fun hh => c hh.1), if_neg c]; rfl
theorem gA_n (h : 12 ≤ k) : gA e r k a b = 0 := by
  unfold gA
  rw [if_neg (by omega), if_neg (by omega)]
  rfl
theorem pcA : PC x (fA e) (gA e) 0 0 F T Z := by
  refine ⟨⟨trivial, Int.le_refl _⟩, fun w n l hw => ⟨by rw [fA_0 hw, fA_0 hw], by rw [fA_0 hw]; exact Int.le_refl _⟩, fun r w n l hw _ _ _ _ => by rw [fA_w hw, gA_d]; exact Int.le_refl _, fun l l' _ _ _ _ => by rw [fA_0 (by omega), fA_0 (by omega)]; decide, fun l _ _ => by rw [fA_0 (by omega), fA_0 (by omega), fA_0 (by omega), fA_0 (by omega)]; exact ⟨by decide, by decide, by decide, by decide⟩, fun l l' _ _ _ _ => by rw [fA_0 (by omega), fA_0 (by omega), fA_0 (by omega)]; decide, fun r l k a b _ _ _ _ _ _ => ⟨fun _ hk => ?_, fun _ hk => ?_, fun hk => ?_⟩, fun r k a b _ _ _ _ k0 k1 => by rw [gA_n (by omega)]; exact Int.le_refl _⟩
  · rw [fA_w (Or.inl rfl), gA_o hk, fA_0 (by omega)]
    split <;> omega
  · rw [fA_w (Or.inr rfl), gA_o (Or.inl rfl), fA_0 (by omega)]
    split <;> omega
  · rw [gA_n (by omega), fA_0 (by omega), fA_0 (by omega)]
    decide
theorem pdA : PD x (fA e) (gA e) F T (dA e) 0 := by
  refine ⟨Int.le_refl _, fun w n l l' hw _ _ _ _ => ?_, fun r w n l l' _ _ _ _ => ⟨fun hw _ _ _ _ => ?_, fun hw => ?_⟩⟩
  · rw [fA_0 (by omega), fA_w hw]
    unfold dA
    split <;> omega
  · rw [fA_0 (by omega), fA_w hw, gA_d]
    omega
  · rw [fA_0 (by omega), fA_0 hw]
    decide
/-- how often something came back for e -/
def cbk (E : Int → Ev) (e : Int) : Nat → Int
  | 0 => 0
  | n + 1 => cbk E e n + if (ek (E (n : Int)) = 1 ∨ ek (E (n : Int)) = 2 ∨ ek (E (n : Int)) = 3 ∨ ek (E (n : Int)) = 5 ∨ ek (E (n : Int)) = 6) ∧ ex (E (n : Int)) = e then 1 else 0
theorem cbk_mono : ∀ (d n : Nat), cbk E e n ≤ cbk E e (n + d) := by
  intro d
  induction d with
  | zero => intro n; exact Int.le_refl _
  | succ d ih =>
    intro n
    have := ih n
    show _ ≤ cbk E e (n + d) + (if _ then _ else _)
    split <;> omega
theorem cbk_0 : ∀ n : Nat, (∀ i : Int, 0 ≤ i → i < n → ¬ (bkk (ek (E i)) ∧ ex (E i) = e)) → cbk E e n = 0 := by
  intro n
  induction n with
  | zero => intro _; rfl
  | succ n ih =>
    intro h
    show cbk E e n + (if _ then _ else _) = 0
    rw [ih fun i i0 i1 => h i i0 (by omega)]
    split
    · rename_i hh
      exact absurd hh (h n (by omega) (by omega))
    · decide
/-- an arrival's step of it -/
theorem nkA (i0 : sg s 0 11 ≤ i) (h11 : 0 ≤ sg s 0 11) (i7 : ek (x.2.1 i) ≤ 7) : cbk x.2.1 e (sg s 0 11).toNat + nK (fA e) 0 (dA e) 0 s (ek (x.2.1 i)) (ex (x.2.1 i)) ≤ cbk x.2.1 e (i + 1).toNat := by
  have e1 : (i + 1).toNat = i.toNat + 1 := by omega
  have h1 := cbk_mono (E := x.2.1) (e := e) (i.toNat - (sg s 0 11).toNat) (sg s 0 11).toNat
  rw [show (sg s 0 11).toNat + (i.toNat - (sg s 0 11).toNat) = i.toNat by omega] at h1
  rw [e1]
  show _ ≤ cbk x.2.1 e i.toNat + (if _ then _ else _)
  rw [show ((i.toNat : Nat) : Int) = i by omega]
  unfold nK
  have hk := Int.natCast_nonneg (x.2.1 i).1
  by_cases c0 : ek (x.2.1 i) = 0
  · rw [if_pos c0, fA_0 (by omega)]
    split <;> omega
  · rw [if_neg c0]
    by_cases c4 : ek (x.2.1 i) = 4
    · rw [if_pos c4]
      split <;> omega
    · rw [if_neg c4]
      by_cases c7 : ek (x.2.1 i) = 7
      · rw [if_pos c7]
        split <;> omega
      · rw [if_neg c7]
        by_cases cw : wtr s (ex (x.2.1 i)) < 0
        · rw [if_pos cw]
          split <;> omega
        · rw [if_neg cw]
          unfold dA
          by_cases ce : ex (x.2.1 i) = e
          · rw [if_pos ce]
            by_cases ck : ek (x.2.1 i) = 1 ∨ ek (x.2.1 i) = 2 ∨ ek (x.2.1 i) = 3 ∨ ek (x.2.1 i) = 5 ∨ ek (x.2.1 i) = 6
            · rw [if_pos ⟨ck, ce⟩]; omega
            · rw [if_neg (fun hh => ck hh.1)]
              -- no other kind of arrival
              exfalso
              have : 0 ≤ ek (x.2.1 i) := hk
              omega
          · rw [if_neg ce]
            split <;> omega
end OPN
