/-! THE ENGINE: an event is put into a history. -/
section HPU
variable {m m' : MM} {r a b i j v n h N k x y t o : Int} {l : List Int} {E : Int → Ev} {ev : Ev}
theorem iShl_10 (h0 : 0 ≤ a) (h1 : a < 1048576) : iShl a 10 = 1024 * a := by
  have e : (Int32.ofInt a <<< (Int32.ofInt 10 &&& 31)).toBitVec.toNat = a.toNat * 1024 := by
    rw [Int32.toBitVec_shiftLeft, show (Int32.ofInt 10 &&& 31).toBitVec.smod 32 = BitVec.ofNat 32 10 by decide, BitVec.shiftLeft_eq', BitVec.toNat_shiftLeft, i32_toNat h0 (by omega)]
    show a.toNat <<< 10 % 2 ^ 32 = _
    rw [Nat.shiftLeft_eq]
    omega
  have := i32_back e (by omega)
  unfold iShl
  rw [this]
  omega
theorem iOr_10 (h0 : 0 ≤ a) (h1 : a < 1048576) (b0 : 0 ≤ b) (b1 : b < 1024) : iOr (1024 * a) b = 1024 * a + b := by
  have e : (Int32.ofInt (1024 * a) ||| Int32.ofInt b).toBitVec.toNat = a.toNat * 2 ^ 10 + b.toNat := by
    rw [Int32.toBitVec_or, BitVec.toNat_or, i32_toNat (by omega) (by omega), i32_toNat b0 (by omega), show (1024 * a).toNat = a.toNat * 2 ^ 10 by omega, or_add (show b.toNat < 2 ^ 10 by omega)]
  have := i32_back e (by omega)
  unfold iOr
  rw [this]
  omega
/-- how many arrivals, how many TASKs, how many arrivals the last TASK counts -/
def cA (E : Int → Ev) : Nat → Int
  | 0 => 0
  | n + 1 => if ek (E n) ≤ 7 then cA E n + 1 else cA E n
def cT (E : Int → Ev) : Nat → Int
  | 0 => 0
  | n + 1 => if ek (E n) = 17 then cT E n + 1 else cT E n
def cC (E : Int → Ev) : Nat → Int
  | 0 => 0
  | n + 1 => if ek (E n) = 17 then ex (E n) else cC E n
theorem cA_b : ∀ n : Nat, 0 ≤ cA E n ∧ cA E n ≤ n := by
  intro n
  induction n with
  | zero => exact ⟨Int.le_refl _, Int.le_refl _⟩
  | succ n ih =>
    unfold cA
    split <;> omega
theorem cT_b : ∀ n : Nat, 0 ≤ cT E n ∧ cT E n ≤ n := by
  intro n
  induction n with
  | zero => exact ⟨Int.le_refl _, Int.le_refl _⟩
  | succ n ih =>
    unfold cT
    split <;> omega
/-- the history with another event at its end -/
def Ev1 (E : Int → Ev) (N : Int) (ev : Ev) : Int → Ev := fun i => if i = N then ev else E i
theorem cc_to {E E' : Int → Ev} : ∀ n : Nat, (∀ i : Int, 0 ≤ i → i < n → E' i = E i) → cA E' n = cA E n ∧ cT E' n = cT E n ∧ cC E' n = cC E n := by
  intro n
  induction n with
  | zero => intro _; exact ⟨rfl, rfl, rfl⟩
  | succ n ih =>
    intro h
    obtain ⟨h1, h2, h3⟩ := ih fun i i0 i1 => h i i0 (by omega)
    have e := h n (by omega) (by omega)
    unfold cA cT cC
    rw [e, h1, h2, h3]
    exact ⟨rfl, rfl, rfl⟩
/-- a history with its counts -/
def HS (m : MM) (h N : Int) (E : Int → Ev) : Prop := HC m h N E ∧ m h 2 = cA E N.toNat ∧ m h 3 = cT E N.toNat ∧ m h 4 = cC E N.toNat
/-- what an event that is put looks like -/
def evP (k x y t o : Int) : Ev := (k.toNat, x.toNat, y.toNat, if k ≤ 7 then (1024 * o + t % 1000).toNat else t.toNat)
/-- the memory behind: the history's fields, its row's own places -/
def HFr (m m' : MM) (h : Int) : Prop := Ext m m' ∧ (∀ a j : Int, a < m 0 0 → a ≠ 0 → ¬ Op m (m h 0) a → (a ≠ h ∨ j < 1 ∨ 4 < j) → m' a j = m a j) ∧ (∀ a, Op m' (m h 0) a → Op m (m h 0) a ∨ m 0 0 ≤ a) ∧ ∀ a, Sh m' (m h 0) a ↔ Sh m (m h 0) a
/-- what is written into a history's own fields leaves its row alone -/
def PH (m M : MM) (h : Int) (L : List Int) : Prop := RowIs M (m h 0) L ∧ Fix M ∧ Ext m M ∧ okc M h 3 ∧ (∀ a j : Int, a < m 0 0 → a ≠ 0 → ¬ Op m (m h 0) a → (a ≠ h ∨ j < 1 ∨ 4 < j) → M a j = m a j) ∧ (∀ a, Op M (m h 0) a → Op m (m h 0) a ∨ m 0 0 ≤ a) ∧ (∀ a, Sh M (m h 0) a ↔ Sh m (m h 0) a) ∧ ¬ Fp M (m h 0) h ∧ M h 0 = m h 0
theorem PH.step {M : MM} {L : List Int} (g : PH m M h L) (hm : 163 ≤ h) (j0 : 1 ≤ j) (j1 : j ≤ 4) : PH m (mset M h j v) h L := by
  obtain ⟨g1, g2, g3, g4, g5, g6, g7, g8, g9⟩ := g
  have hx : Ext M (mset M h j v) := mset_ext (by omega) (by omega)
  have n1 : m h 0 ≠ h := fun e => g8 (Or.inl e.symm)
  have n2 : M (m h 0) 0 ≠ h := fun e => g8 (Or.inr (Or.inl e.symm))
  have e1 : ∀ j', mset M h j v (m h 0) j' = M (m h 0) j' := fun j' => ms_a n1
  have e2 : ∀ j', mset M h j v (M (m h 0) 0) j' = M (M (m h 0) 0) j' := fun j' => ms_a n2
  have r1 := g1.fr hx fun a i ha _ => ms_a (v := v) (j := j) (i := i) (fun e => g8 (e ▸ ha))
  refine ⟨r1.1, fx_new g2 hm (by omega), g3.tr hx, hx.ok g4, fun a i a1 a2 a3 a4 => ?_, fun a ha => g6 a ?_, fun a => ?_, fun f => g8 ((r1.2 h).mp f), by rw [ms_j (by omega)]; exact g9⟩
  · rw [← g5 a i a1 a2 a3 a4]
    show (if a = h ∧ i = j then v else M a i) = M a i
    rw [if_neg (by omega)]
  · unfold Op at ha ⊢
    simp only [e1, e2] at ha
    exact ha
  · rw [← g7 a]
    unfold Sh
    simp only [e1, e2]
theorem put_h (hF : Fix m) (H : HS m h N E) (hm : 163 ≤ h) (hN : N < 268435456) (hh : ¬ Op m (m h 0) h) (hh2 : ¬ Sh m (m h 0) h) (k0 : 0 ≤ k) (k1 : k ≤ 17) (x0 : 0 ≤ x) (x1 : x < 524288) (y0 : 0 ≤ y) (y1 : y < 1024) (t0 : 0 ≤ t) (t1 : t < 1073741824) (o0 : 0 ≤ o) (o1 : o < 1048576) : ∃ m', fm_X2_put h k x y t o m = some (0, m') ∧ HS m' h (N + 1) (Ev1 E N (evP k x y t o)) ∧ HFr m m' h ∧ Fix m' ∧ m' h 0 = m h 0 ∧ AdR m m' (m h 0) := by
  obtain ⟨⟨H1, H2, l, H3, H4, H5⟩, HA, HT, HCo⟩ := H
  have l0 : 0 ≤ N := by omega
  have tm : 0 ≤ t % 1000 ∧ t % 1000 < 1000 := by omega
  have hw0 : ((evP k x y t o).2.2.2 : Nat) < 1073741824 := by
    show (if k ≤ 7 then (1024 * o + t % 1000).toNat else t.toNat) < _
    split <;> omega
  have ewd : (((evP k x y t o).2.2.2 : Nat) : Int) = if k ≤ 7 then 1024 * o + t % 1000 else t := by
    show (((if k ≤ 7 then (1024 * o + t % 1000).toNat else t.toNat) : Nat) : Int) = _
    split <;> omega
  have hp := c_pack (k := k.toNat) (x := x.toNat) (y := y.toNat) (w := (evP k x y t o).2.2.2) (by omega) (by omega) (by omega) hw0
  rw [show ((k.toNat : Nat) : Int) = k by omega, show ((x.toNat : Nat) : Int) = x by omega, show ((y.toNat : Nat) : Int) = y by omega] at hp
  generalize hz : lOr (lOr (lOr (lShl k 59) (lShl (iAnd x 524287) 40)) (lShl (iAnd y 1023) 30)) (iAnd ((evP k x y t o).2.2.2 : Nat) 1073741823) = z at hp
  have hll : l.length < 268435456 := by omega
  obtain ⟨a1, a2, a3, a4, a5, -⟩ := add_ok (v := z) hF H3 hll
  obtain ⟨p1, p2, p3⟩ := add_own (v := z) hF.1 H3 hll
  have aR := add_rm (v := z) hF.1 H3 hll
  have ep : fm_X2_put h k x y t o m = fj_X2_put_27 h k x y ((evP k x y t o).2.2.2 : Nat) m := by
    unfold fm_X2_put
    by_cases c : 7 < k
    · rw [if_pos c, ewd, if_neg (by omega)]
    · rw [if_neg c, lx_p, ewd, if_pos (by omega), iAnd_mask 20 (by decide) (by decide) o0 (by omega), show o % 2 ^ 20 = o by omega, iShl_10 o0 o1, show Int.tmod t 1000 = t % 1000 from Int.tmod_eq_emod_of_nonneg t0, iOr_10 o0 o1 tm.1 (by omega)]
  have q := H1
  have hlt := H1.2.1
  have ek0 : ∀ j, addM m (m h 0) z h j = m h j := fun j => p1 h j hlt (by omega) hh
  have el : addM m (m h 0) z (m h 0) 2 = N + 1 := by
    rw [a2.2.2.1, List.length_append]
    simp only [List.length_cons, List.length_nil]
    omega
  have nf : ¬ Fp (addM m (m h 0) z) (m h 0) h := fun f => (Fp.split a2.1 f).elim (fun g => (p2 h g).elim hh fun w => by omega) fun g => hh2 ((p3 h).mp g)
  have g0 : PH m (addM m (m h 0) z) h (l ++ [z]) := ⟨a2, a5, a3.1, a3.1.ok H1, fun a j b1 b2 b3 _ => p1 a j b1 b2 b3, p2, p3, nf, ek0 0⟩
  have g1 := g0.step (j := 1) (v := N + 1) hm (by decide) (by decide)
  have hd : ∀ i : Int, 0 ≤ i → i < (N.toNat : Int) → Ev1 E N (evP k x y t o) i = E i := fun i i0 i1 => if_neg (by omega)
  obtain ⟨d1, d2, d3⟩ := cc_to N.toNat hd
  have eN : Ev1 E N (evP k x y t o) ((N.toNat : Nat) : Int) = evP k x y t o := if_pos (by omega)
  have eN1 : (N + 1).toNat = N.toNat + 1 := by omega
  have ekk : ek (evP k x y t o) = k := by show ((k.toNat : Nat) : Int) = k; omega
  have exx : ex (evP k x y t o) = x := by show ((x.toNat : Nat) : Int) = x; omega
  have cA1 : cA (Ev1 E N (evP k x y t o)) (N + 1).toNat = if k ≤ 7 then cA E N.toNat + 1 else cA E N.toNat := by
    rw [eN1, show ∀ (E : Int → Ev) (n : Nat), cA E (n + 1) = if ek (E n) ≤ 7 then cA E n + 1 else cA E n from fun _ _ => rfl, eN, ekk, d1]
  have cT1 : cT (Ev1 E N (evP k x y t o)) (N + 1).toNat = if k = 17 then cT E N.toNat + 1 else cT E N.toNat := by
    rw [eN1, show ∀ (E : Int → Ev) (n : Nat), cT E (n + 1) = if ek (E n) = 17 then cT E n + 1 else cT E n from fun _ _ => rfl, eN, ekk, d2]
  have cC1 : cC (Ev1 E N (evP k x y t o)) (N + 1).toNat = if k = 17 then x else cC E N.toNat := by
    rw [eN1, show ∀ (E : Int → Ev) (n : Nat), cC E (n + 1) = if ek (E n) = 17 then ex (E n) else cC E n from fun _ _ => rfl, eN, ekk, exx, d3]
  have hEv : EvIs (l ++ [z]) (Ev1 E N (evP k x y t o)) := by
    intro n w hn
    by_cases c : n < l.length
    · rw [List.getElem?_append_left c] at hn
      rw [show Ev1 E N (evP k x y t o) n = E n from if_neg (by omega)]
      exact H5 n w hn
    · have c2 : n = l.length := by
        have := (List.getElem?_eq_some_iff.mp hn).1
        rw [List.length_append] at this
        simp only [List.length_cons, List.length_nil] at this
        omega
      subst c2
      rw [List.getElem?_append_right (Nat.le_refl _), Nat.sub_self] at hn
      have hw : z = w := by
        simp only [List.getElem?_cons_zero, Option.some.injEq] at hn
        exact hn
      subst hw
      rw [show Ev1 E N (evP k x y t o) ((l.length : Nat) : Int) = evP k x y t o from if_pos (by omega)]
      refine ⟨⟨?_, ?_, ?_, hw0⟩, hp⟩
      · show k.toNat ≤ 17
        omega
      · show x.toNat < 524288
        omega
      · show y.toNat < 1024
        omega
  have bA := cA_b (E := E) N.toNat
  have bT := cT_b (E := E) N.toNat
  have fin : ∀ M : MM, PH m M h (l ++ [z]) → (∀ a j : Int, a ≠ h → M a j = addM m (m h 0) z a j) → M h 1 = N + 1 → M h 2 = cA (Ev1 E N (evP k x y t o)) (N + 1).toNat → M h 3 = cT (Ev1 E N (evP k x y t o)) (N + 1).toNat → M h 4 = cC (Ev1 E N (evP k x y t o)) (N + 1).toNat → HS M h (N + 1) (Ev1 E N (evP k x y t o)) ∧ HFr m M h ∧ Fix M ∧ M h 0 = m h 0 ∧ AdR m M (m h 0) := by
    rintro M ⟨g1, g2, g3, g4, g5, g6, g7, g8, g9⟩ hM f1 f2 f3 f4
    have n1 : m h 0 ≠ h := fun hh => nf (Or.inl hh.symm)
    have n2 : addM m (m h 0) z (m h 0) 0 ≠ h := fun hh => nf (Or.inr (Or.inl hh.symm))
    refine ⟨⟨⟨g4, f1, l ++ [z], by rw [g9]; exact g1, ?_, hEv⟩, f2, f3, f4⟩, ⟨g3, g5, g6, g7⟩, g2, g9, aR.sm ⟨hM _ _ n1, hM _ _ n1, fun i _ => hM _ _ n2, hM _ _ n2⟩ a2.1.2.2.2.2.1⟩
    rw [List.length_append]
    simp only [List.length_cons, List.length_nil]
    omega
  rw [ep]
  unfold fj_X2_put_27
  simp only [lx_p]
  rw [gd_t H3.1.1, hz, bd_t a1, ek0 0, gd_t a2.1.1, el, up_t]
  by_cases c1 : 7 < k
  · rw [if_pos c1]
    by_cases c2 : k = 17
    · rw [if_pos c2, up_t, up_t, ms_j (show (3 : Int) ≠ 1 by decide), ek0 3, HT, w32_id (by omega) (by omega)]
      refine ⟨_, rfl, fin _ ((g1.step (j := 3) hm (by decide) (by decide)).step (j := 4) hm (by decide) (by decide)) (fun a j ha => by rw [ms_a ha, ms_a ha, ms_a ha]) ?_ ?_ ?_ ?_⟩
      · rw [ms_j (by decide), ms_j (by decide), ms_e]
      · rw [ms_j (by decide), ms_j (by decide), ms_j (by decide), ek0 2, HA, cA1, if_neg (by omega)]
      · rw [ms_j (by decide), ms_e, cT1, if_pos c2]
      · rw [ms_e, cC1, if_pos c2]
    · rw [if_neg c2]
      refine ⟨_, rfl, fin _ g1 (fun a j ha => ms_a ha) ?_ ?_ ?_ ?_⟩
      · rw [ms_e]
      · rw [ms_j (by decide), ek0 2, HA, cA1, if_neg (by omega)]
      · rw [ms_j (by decide), ek0 3, HT, cT1, if_neg c2]
      · rw [ms_j (by decide), ek0 4, HCo, cC1, if_neg c2]
  · rw [if_neg c1, up_t, ms_j (show (2 : Int) ≠ 1 by decide), ek0 2, HA, w32_id (by omega) (by omega)]
    refine ⟨_, rfl, fin _ (g1.step (j := 2) hm (by decide) (by decide)) (fun a j ha => by rw [ms_a ha, ms_a ha]) ?_ ?_ ?_ ?_⟩
    · rw [ms_j (by decide), ms_e]
    · rw [ms_e, cA1, if_pos (by omega)]
    · rw [ms_j (by decide), ms_j (by decide), ek0 3, HT, cT1, if_neg (by omega)]
    · rw [ms_j (by decide), ms_j (by decide), ek0 4, HCo, cC1, if_neg (by omega)]
end HPU
