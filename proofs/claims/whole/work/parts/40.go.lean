/-! FROM THE BYTECODE TO FUNCTIONS, I: the pure memory (addresses and slots to Ints), how it stands for a store, and what functions are made of. Slot -1: the kind, slot -2: the length; address 0: slot 0 the next address, slot 1 the slots made so far. -/
section GO
abbrev MM : Type := Int → Int → Int
def mset (m : MM) (a k v : Int) : MM := fun b j => if b = a ∧ j = k then v else m b j
def mnew (m : MM) (kd ln : Int) : MM := fun b j => if b = m 0 0 then (if j = -1 then kd else if j = -2 then ln else 0) else if b = 0 then (if j = 0 then m 0 0 + 1 else if j = 1 then m 0 1 + ln else m b j) else m b j
/-- behind a throw: one cell of kind 99, six slots -/
def mthr (m : MM) : MM := fun b j => if b = m 0 0 then (if j = -1 then 99 else if j = -2 then 0 else 0) else if b = 0 then (if j = 0 then m 0 0 + 1 else if j = 1 then m 0 1 + 6 else m b j) else m b j
def w32 (z : Int) : Int := z.bmod 4294967296
def w64 (z : Int) : Int := z.bmod 18446744073709551616
def iAnd (a b : Int) : Int := (Int32.ofInt a &&& Int32.ofInt b).toInt
def iOr (a b : Int) : Int := (Int32.ofInt a ||| Int32.ofInt b).toInt
def iXor (a b : Int) : Int := (Int32.ofInt a ^^^ Int32.ofInt b).toInt
def iShl (a b : Int) : Int := (Int32.ofInt a <<< (Int32.ofInt b &&& 31)).toInt
def iShr (a b : Int) : Int := (Int32.ofInt a >>> (Int32.ofInt b &&& 31)).toInt
def lAnd (a b : Int) : Int := (Int64.ofInt a &&& Int64.ofInt b).toInt
def lOr (a b : Int) : Int := (Int64.ofInt a ||| Int64.ofInt b).toInt
def lShl (a b : Int) : Int := (Int64.ofInt a <<< ((Int32.ofInt b).toInt64 &&& 63)).toInt
def lShr (a b : Int) : Int := (Int64.ofInt a >>> ((Int32.ofInt b).toInt64 &&& 63)).toInt
def lUshr (a b : Int) : Int := ((Int64.ofInt a).toUInt64 >>> ((Int32.ofInt b).toInt64.toUInt64 &&& Int64.toUInt64 63)).toInt64.toInt
def lCmp (a b : Int) : Int := if b < a then 1 else if a = b then 0 else -1
/-- what functions are made of -/
def gd {β : Type} (c : Prop) [Decidable c] (k : Option β) : Option β := if c then k else none
def lx {β : Type} (z : Int) (k : Int → Option β) : Option β := k z
def up {β : Type} (m : MM) (a j v : Int) (k : MM → Option β) : Option β := k (mset m a j v)
def nw {β : Type} (m : MM) (kd ln : Int) (k : Int → MM → Option β) : Option β := k (m 0 0) (mnew m kd ln)
def bp {β : Type} (o : Option Int) (k : Int → Option β) : Option β := match o with
  | some z => k z
  | none => none
def bd {β : Type} (o : Option (Int × MM)) (k : Int → MM → Option β) : Option β := match o with
  | some r => k r.1 r.2
  | none => none
/-- a call that may throw -/
def bx {β : Type} (o : Option ((Int ⊕ Nat) × MM)) (x : Nat → MM → Option β) (k : Int → MM → Option β) : Option β := match o with
  | some (.inr e, m) => x e m
  | some (.inl v, m) => k v m
  | none => none
theorem gd_s {β : Type} {c : Prop} [Decidable c] {k : Option β} {y : β} (h : gd c k = some y) : c ∧ k = some y := by
  unfold gd at h
  split at h
  · exact ⟨by assumption, h⟩
  · cases h
theorem lx_s {β : Type} {z : Int} {k : Int → Option β} {y : β} (h : lx z k = some y) : ∃ x, x = z ∧ k x = some y := ⟨z, rfl, h⟩
theorem up_s {β : Type} {m : MM} {a j v : Int} {k : MM → Option β} {y : β} (h : up m a j v k = some y) : ∃ m1, m1 = mset m a j v ∧ k m1 = some y := ⟨_, rfl, h⟩
theorem nw_s {β : Type} {m : MM} {kd ln : Int} {k : Int → MM → Option β} {y : β} (h : nw m kd ln k = some y) : ∃ z m1, z = m 0 0 ∧ m1 = mnew m kd ln ∧ k z m1 = some y := ⟨_, _, rfl, rfl, h⟩
theorem bp_s {β : Type} {o : Option Int} {k : Int → Option β} {y : β} (h : bp o k = some y) : ∃ z, o = some z ∧ k z = some y := by
  cases o with
  | none => cases h
  | some z => exact ⟨z, rfl, h⟩
theorem bd_s {β : Type} {o : Option (Int × MM)} {k : Int → MM → Option β} {y : β} (h : bd o k = some y) : ∃ z m, o = some (z, m) ∧ k z m = some y := by
  cases o with
  | none => cases h
  | some r => exact ⟨r.1, r.2, rfl, h⟩
theorem bx_s {β : Type} {o : Option ((Int ⊕ Nat) × MM)} {x : Nat → MM → Option β} {k : Int → MM → Option β} {y : β} (h : bx o x k = some y) : ∃ r m, o = some (r, m) ∧ ((∃ e, r = .inr e ∧ x e m = some y) ∨ ∃ z, r = .inl z ∧ k z m = some y) := by
  unfold bx at h
  split at h
  · exact ⟨_, _, rfl, Or.inl ⟨_, rfl, h⟩⟩
  · exact ⟨_, _, rfl, Or.inr ⟨_, rfl, h⟩⟩
  · cases h
/-- what slots hold: 0 ints (and booleans), 1 longs, 2 references, 3 what nobody looks at; 7: the script -/
def q_tyn (ty : FieldType) : Nat := match ty with
  | .int => 0
  | .boolean => 0
  | .long => 1
  | .object _ => 2
  | .array _ => 2
  | _ => 3
def q_sty (kd i : Nat) : Nat := q_tyn (if kd < 50 then q_fty kd i else q_ty kd)
def q_is (t : Nat) (v : Value) (z : Int) : Prop := match t with
  | 0 => ∃ x : Int32, v = .int x ∧ x.toInt = z
  | 1 => ∃ x : Int64, v = .long x ∧ x.toInt = z
  | 2 => (v = .null ∧ z = 0) ∨ ∃ r : Nat, v = .ref r ∧ (r : Int) = z ∧ 0 < r
  | 7 => v = .ref 0
  | _ => True
/-- the memory m stands for the store S -/
def Rp0 (S : QS) (m : MM) : Prop := m 0 0 = (S.1.length : Int) + 4 ∧ m 0 1 = (S.2.2 : Int) ∧ S.2.1 = S.1.length ∧ m 1 (-2) = 0 ∧
  ∀ (k : Nat) (c : QC), S.1[k]? = some c → m ((k : Int) + 4) (-1) = (c.1 : Int) ∧ m ((k : Int) + 4) (-2) = (c.2.1 : Int) ∧ ∀ j : Nat, q_is (q_sty c.1 j) (q_rd c j) (m ((k : Int) + 4) (j : Int))
/-- an old cell of kind c at a -/
abbrev okc (m : MM) (a : Int) (c : Nat) : Prop := 4 ≤ a ∧ a < m 0 0 ∧ m a (-1) = (c : Int)
/-- an index of the array at a -/
abbrev okx (m : MM) (a : Int) (i : Int) : Prop := 0 ≤ i ∧ i < m a (-2)
/-- an array whose length may be asked -/
abbrev okl (m : MM) (a : Int) : Prop := a = 1 ∨ (4 ≤ a ∧ a < m 0 0 ∧ 100 ≤ m a (-1))
def Ext (m m' : MM) : Prop := m 0 0 ≤ m' 0 0 ∧ ∀ a : Int, 4 ≤ a → a < m 0 0 → m' a (-1) = m a (-1) ∧ m' a (-2) = m a (-2)
theorem Ext.rf (m : MM) : Ext m m := ⟨Int.le_refl _, fun _ _ _ => ⟨rfl, rfl⟩⟩
theorem Ext.tr {a b c : MM} (h : Ext a b) (k : Ext b c) : Ext a c := ⟨Int.le_trans h.1 k.1, fun x h1 h2 => ⟨((k.2 x h1 (Int.lt_of_lt_of_le h2 h.1)).1).trans (h.2 x h1 h2).1, ((k.2 x h1 (Int.lt_of_lt_of_le h2 h.1)).2).trans (h.2 x h1 h2).2⟩⟩
theorem Ext.ok {m m' : MM} {a : Int} {c : Nat} (x : Ext m m') (h : okc m a c) : okc m' a c := ⟨h.1, Int.lt_of_lt_of_le h.2.1 x.1, ((x.2 a h.1 h.2.1).1).trans h.2.2⟩
theorem mset_ext {m : MM} {a j v : Int} (ha : 4 ≤ a) (hj : 0 ≤ j) : Ext m (mset m a j v) := by
  refine ⟨?_, fun b h1 h2 => ⟨?_, ?_⟩⟩
  · unfold mset; rw [if_neg (by omega)]; exact Int.le_refl _
  · unfold mset; rw [if_neg (by omega)]
  · unfold mset; rw [if_neg (by omega)]
theorem mnew_ext {m : MM} {kd ln : Int} (h0 : 4 ≤ m 0 0) : Ext m (mnew m kd ln) := by
  refine ⟨?_, fun b h1 h2 => ⟨?_, ?_⟩⟩
  · unfold mnew; rw [if_neg (by omega), if_pos rfl, if_pos rfl]; omega
  · unfold mnew; rw [if_neg (by omega), if_neg (by omega)]
  · unfold mnew; rw [if_neg (by omega), if_neg (by omega)]
theorem mthr_ext {m : MM} (h0 : 4 ≤ m 0 0) : Ext m (mthr m) := by
  refine ⟨?_, fun b h1 h2 => ⟨?_, ?_⟩⟩
  · unfold mthr; rw [if_neg (by omega), if_pos rfl, if_pos rfl]; omega
  · unfold mthr; rw [if_neg (by omega), if_neg (by omega)]
  · unfold mthr; rw [if_neg (by omega), if_neg (by omega)]
def Fix (m : MM) : Prop := 163 ≤ m 0 0 ∧ ∀ q ∈ fixk, m q.1 (-1) = q.2.1 ∧ m q.1 (-2) = q.2.2.1 ∧ ∀ p ∈ q.2.2.2, m q.1 p.1 = p.2
/-- no fixed cell of the kind c has the slot j -/
def fxb (c : Nat) (j : Int) : Bool := decide (0 ≤ j) && fixk.all (fun q => !(q.2.1 == (c : Int)) || q.2.2.2.all (fun p => !(p.1 == j)))
/-- no fixed cell of the kind c has a slot -/
def fxa (c : Nat) : Bool := fixk.all (fun q => !(q.2.1 == (c : Int)) || q.2.2.2.isEmpty)
theorem fixk_lt : ∀ q ∈ fixk, 4 ≤ q.1 ∧ q.1 < 163 := by decide +kernel
theorem fx_z {m : MM} {a j z : Int} (hF : Fix m) (ha : 4 ≤ a) (hj : 0 ≤ j) (h : ∀ q ∈ fixk, q.1 = a → ∀ p ∈ q.2.2.2, p.1 ≠ j) : Fix (mset m a j z) := by
  refine ⟨?_, fun q hq => ?_⟩
  · unfold mset; rw [if_neg (by omega)]; exact hF.1
  · obtain ⟨h1, h2, h3⟩ := hF.2 q hq
    refine ⟨?_, ?_, fun p hp => ?_⟩
    · unfold mset; rw [if_neg (by omega)]; exact h1
    · unfold mset; rw [if_neg (by omega)]; exact h2
    · unfold mset
      rw [if_neg (fun hh => h q hq hh.1 p hp hh.2)]
      exact h3 p hp
theorem fx_f {m : MM} {a z : Int} {c j : Nat} (hF : Fix m) (ho : okc m a c) (hb : fxb c (j : Int) = true) : Fix (mset m a (j : Int) z) := by
  refine fx_z hF ho.1 (Int.natCast_nonneg j) fun q hq ha p hp hpj => ?_
  subst ha
  simp only [fxb, Bool.and_eq_true, List.all_eq_true, Bool.or_eq_true, Bool.not_eq_true', beq_eq_false_iff_ne] at hb
  have h1 := hb.2 q hq
  have h2 := (hF.2 q hq).1
  rcases h1 with h1 | h1
  · exact h1 (by rw [← h2]; exact ho.2.2)
  · exact h1 p hp hpj
theorem fx_new {m : MM} {a z j : Int} (hF : Fix m) (ha : 163 ≤ a) (hj : 0 ≤ j) : Fix (mset m a j z) :=
  fx_z hF (by omega) hj fun q hq h => by have := (fixk_lt q hq).2; omega
theorem fx_a {m : MM} {a z i : Int} {c : Nat} (hF : Fix m) (ho : okc m a c) (hi : 0 ≤ i) (hb : fxa c = true) : Fix (mset m a i z) := by
  refine fx_z hF ho.1 hi fun q hq ha p hp hpj => ?_
  subst ha
  simp only [fxa, List.all_eq_true, Bool.or_eq_true, Bool.not_eq_true', beq_eq_false_iff_ne] at hb
  have h1 := hb q hq
  have h2 := (hF.2 q hq).1
  rcases h1 with h1 | h1
  · exact h1 (by rw [← h2]; exact ho.2.2)
  · rw [List.isEmpty_iff] at h1
    rw [h1] at hp
    cases hp
theorem fx_mnew {m : MM} {kd ln : Int} (hF : Fix m) : Fix (mnew m kd ln) := by
  have h0 := hF.1
  refine ⟨?_, fun q hq => ?_⟩
  · unfold mnew; rw [if_neg (by omega), if_pos rfl, if_pos rfl]; omega
  · obtain ⟨h1, h2, h3⟩ := hF.2 q hq
    have := fixk_lt q hq
    unfold mnew
    refine ⟨?_, ?_, fun p hp => ?_⟩
    · rw [if_neg (by omega), if_neg (by omega)]; exact h1
    · rw [if_neg (by omega), if_neg (by omega)]; exact h2
    · rw [if_neg (by omega), if_neg (by omega)]; exact h3 p hp
theorem fx_mthr {m : MM} (hF : Fix m) : Fix (mthr m) := by
  have h0 := hF.1
  refine ⟨?_, fun q hq => ?_⟩
  · unfold mthr; rw [if_neg (by omega), if_pos rfl, if_pos rfl]; omega
  · obtain ⟨h1, h2, h3⟩ := hF.2 q hq
    have := fixk_lt q hq
    unfold mthr
    refine ⟨?_, ?_, fun p hp => ?_⟩
    · rw [if_neg (by omega), if_neg (by omega)]; exact h1
    · rw [if_neg (by omega), if_neg (by omega)]; exact h2
    · rw [if_neg (by omega), if_neg (by omega)]; exact h3 p hp
/-- the memory stands for the store, and what is fixed is as it was made -/
def Rp (S : QS) (m : MM) : Prop := Rp0 S m ∧ Fix m
theorem q_is_cat {t : Nat} {v : Value} {z : Int} (h : q_is t v z) (ht : t = 0 ∨ t = 2) : v.category = 1 := by
  rcases ht with rfl | rfl
  · obtain ⟨x, rfl, -⟩ := h; rfl
  · rcases h with ⟨rfl, -⟩ | ⟨r, rfl, -⟩ <;> rfl
theorem q_is_ref {v : Value} {z : Int} (h : q_is 2 v z) (hz : z ≠ 0) : ∃ r : Nat, v = .ref r ∧ (r : Int) = z := by
  rcases h with ⟨-, h⟩ | ⟨r, h1, h2, -⟩
  · exact absurd h hz
  · exact ⟨r, h1, h2⟩
theorem q_cat2 (v : Value) : v.category ≤ 2 := by cases v <;> simp [Value.category]
theorem q_sum8 : ∀ (l : List Value), l.length ≤ 4 → (l.map fun v => v.category).sum ≤ 8 := by
  intro l h
  have key : ∀ l : List Value, (l.map fun v => v.category).sum ≤ 2 * l.length := by
    intro l
    induction l with
    | nil => exact Nat.le_refl _
    | cons v t ih =>
      have := q_cat2 v
      simp only [List.map_cons, List.sum_cons, List.length_cons]
      omega
  have := key l
  omega
/-- the cell at a -/
theorem Rp_at {S : QS} {m : MM} {a : Int} (hR : Rp S m) (h1 : 4 ≤ a) (h2 : a < m 0 0) : ∃ (k : Nat) (c : QC), a = (k : Int) + 4 ∧ q_at S (k + 4) = some c ∧ S.1[k]? = some c ∧ m a (-1) = (c.1 : Int) ∧ m a (-2) = (c.2.1 : Int) ∧ ∀ j : Nat, q_is (q_sty c.1 j) (q_rd c j) (m a (j : Int)) := by
  obtain ⟨hn, -, -, -, hc⟩ := hR.1
  obtain ⟨k, hk⟩ : ∃ k : Nat, a = (k : Int) + 4 := ⟨(a - 4).toNat, by omega⟩
  have hl : k < S.1.length := by omega
  have hg : S.1[k]? = some S.1[k] := List.getElem?_eq_getElem hl
  obtain ⟨g1, g2, g3⟩ := hc k _ hg
  refine ⟨k, S.1[k], hk, ?_, hg, by rw [hk]; exact g1, by rw [hk]; exact g2, fun j => by rw [hk]; exact g3 j⟩
  unfold q_at
  rw [if_neg (by omega), show k + 4 - 4 = k from by omega]
  exact hg
/-- a write -/
theorem Rp_set {S : QS} {m : MM} {k j : Nat} {c : QC} {v : Value} {z : Int} (hR : Rp0 S m) (hc : S.1[k]? = some c) (hv : q_is (q_sty c.1 j) v z) : Rp0 (q_put S (k + 4) (q_wr c j v)) (mset m ((k : Int) + 4) (j : Int) z) := by
  obtain ⟨h1, h2, h3, h4, h5⟩ := hR
  have e : k + 4 - 4 = k := by omega
  unfold q_put
  rw [e]
  refine ⟨?_, ?_, ?_, ?_, fun i x hx => ?_⟩
  · unfold mset; rw [if_neg (by omega), h1]; simp
  · unfold mset; rw [if_neg (by omega)]; exact h2
  · simp [h3]
  · unfold mset; rw [if_neg (by omega)]; exact h4
  · have hx : (S.1.set k (q_wr c j v))[i]? = some x := hx
    by_cases hi : i = k
    · subst hi
      have hl : i < S.1.length := (List.getElem?_eq_some_iff.mp hc).1
      rw [List.getElem?_set_self hl] at hx
      cases hx
      obtain ⟨g1, g2, g3⟩ := h5 i c hc
      refine ⟨?_, ?_, fun q => ?_⟩
      · unfold mset; rw [if_neg (by omega)]; exact g1
      · unfold mset; rw [if_neg (by omega)]; exact g2
      · show q_is (q_sty c.1 q) (q_rd (q_wr c j v) q) _
        rw [q_rd_wr]
        unfold mset
        by_cases hq : q = j
        · subst hq
          rw [if_pos rfl, if_pos ⟨rfl, rfl⟩]
          exact hv
        · rw [if_neg hq, if_neg (by omega)]
          exact g3 q
    · rw [List.getElem?_set_ne (fun q => hi q.symm)] at hx
      obtain ⟨g1, g2, g3⟩ := h5 i x hx
      refine ⟨?_, ?_, fun q => ?_⟩
      · unfold mset; rw [if_neg (by omega)]; exact g1
      · unfold mset; rw [if_neg (by omega)]; exact g2
      · unfold mset; rw [if_neg (by omega)]; exact g3 q
theorem q_dv_is (kd i : Nat) : q_is (q_sty kd i) (q_dv kd i) 0 := by
  unfold q_sty q_dv
  have key : ∀ ty : FieldType, q_is (q_tyn ty) (defaultValue ty) 0 := by
    intro ty
    cases ty <;> first | exact ⟨0, rfl, rfl⟩ | exact Or.inl ⟨rfl, rfl⟩ | trivial
  by_cases h : kd < 50
  · rw [if_pos h, if_pos h]; exact key _
  · rw [if_neg h, if_neg h]; exact key _
/-- a making -/
theorem Rp_new {S : QS} {m : MM} {kd n : Nat} (hR : Rp0 S m) : Rp0 (q_new S (kd, n, [])) (mnew m (kd : Int) (n : Int)) := by
  obtain ⟨h1, h2, h3, h4, h5⟩ := hR
  unfold q_new
  refine ⟨?_, ?_, ?_, ?_, fun i x hx => ?_⟩
  · unfold mnew; rw [if_neg (by omega), if_pos rfl, if_pos rfl, h1]; simp; omega
  · unfold mnew; rw [if_neg (by omega), if_pos rfl, if_neg (by decide), if_pos rfl, h2]; simp
  · simp [h3]
  · unfold mnew; rw [if_neg (by omega), if_neg (by decide)]; exact h4
  · have hx : (S.1 ++ [(kd, n, ([] : List (Nat × Value)))])[i]? = some x := hx
    have hl : i < (S.1 ++ [(kd, n, ([] : List (Nat × Value)))]).length := (List.getElem?_eq_some_iff.mp hx).1
    rw [List.length_append, List.length_singleton] at hl
    by_cases hi : i < S.1.length
    · rw [List.getElem?_append_left hi] at hx
      obtain ⟨g1, g2, g3⟩ := h5 i x hx
      unfold mnew
      refine ⟨?_, ?_, fun q => ?_⟩
      · rw [if_neg (by omega), if_neg (by omega)]; exact g1
      · rw [if_neg (by omega), if_neg (by omega)]; exact g2
      · rw [if_neg (by omega), if_neg (by omega)]; exact g3 q
    · have he : i = S.1.length := by omega
      subst he
      rw [List.getElem?_append_right (Nat.le_refl _), Nat.sub_self] at hx
      cases hx
      unfold mnew
      refine ⟨?_, ?_, fun q => ?_⟩
      · rw [if_pos h1.symm, if_pos rfl]
      · rw [if_pos h1.symm, if_neg (by decide), if_pos rfl]
      · rw [if_pos h1.symm, if_neg (by omega), if_neg (by omega)]
        exact q_dv_is kd q
theorem Rp_thr {S : QS} {m : MM} (hR : Rp0 S m) : Rp0 (S.1 ++ [(99, 0, [])], S.2.1 + 1, S.2.2 + 6) (mthr m) := by
  obtain ⟨h1, h2, h3, h4, h5⟩ := hR
  refine ⟨?_, ?_, ?_, ?_, fun i x hx => ?_⟩
  · unfold mthr; rw [if_neg (by omega), if_pos rfl, if_pos rfl, h1]; simp; omega
  · unfold mthr; rw [if_neg (by omega), if_pos rfl, if_neg (by decide), if_pos rfl, h2]; simp
  · simp [h3]
  · unfold mthr; rw [if_neg (by omega), if_neg (by decide)]; exact h4
  · have hx : (S.1 ++ [(99, 0, ([] : List (Nat × Value)))])[i]? = some x := hx
    have hl : i < (S.1 ++ [(99, 0, ([] : List (Nat × Value)))]).length := (List.getElem?_eq_some_iff.mp hx).1
    rw [List.length_append, List.length_singleton] at hl
    by_cases hi : i < S.1.length
    · rw [List.getElem?_append_left hi] at hx
      obtain ⟨g1, g2, g3⟩ := h5 i x hx
      unfold mthr
      refine ⟨?_, ?_, fun q => ?_⟩
      · rw [if_neg (by omega), if_neg (by omega)]; exact g1
      · rw [if_neg (by omega), if_neg (by omega)]; exact g2
      · rw [if_neg (by omega), if_neg (by omega)]; exact g3 q
    · have he : i = S.1.length := by omega
      subst he
      rw [List.getElem?_append_right (Nat.le_refl _), Nat.sub_self] at hx
      cases hx
      unfold mthr
      refine ⟨?_, ?_, fun q => ?_⟩
      · rw [if_pos h1.symm, if_pos rfl]; rfl
      · rw [if_pos h1.symm, if_neg (by decide), if_pos rfl]; rfl
      · rw [if_pos h1.symm, if_neg (by omega), if_neg (by omega)]
        exact q_dv_is 99 q
end GO
