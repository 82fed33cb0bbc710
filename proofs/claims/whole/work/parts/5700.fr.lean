/-! WHAT METHODS LEAVE AS IT WAS: which places may have changed. An entry of W: (0, a, j) the place j of the cell a; (1, k, j) of any cell of the kind k; (3, k, j) of any of the kind k that was made behind the start; j = -9: any place; (9, 0, 0): something may be made. e: one more cell, or 0. -/
section FRB
def wok (W : List (Int × Int × Int)) (e : Int) (m : MM) (a j : Int) : Prop := a = e ∨ ∃ w ∈ W, ((w.1 = 0 ∧ a = w.2.1) ∨ (w.1 = 1 ∧ m a (-1) = w.2.1) ∨ (w.1 = 3 ∧ m a (-1) = w.2.1 ∧ 163 ≤ a)) ∧ (w.2.2 = -9 ∨ w.2.2 = j)
def Fr (W : List (Int × Int × Int)) (e : Int) (m m' : MM) : Prop := Fix m ∧ Fix m' ∧ Ext m m' ∧ (∀ a j : Int, 4 ≤ a → a < m 0 0 → 0 ≤ j → ¬ wok W e m a j → m' a j = m a j) ∧ (W.contains (9, 0, 0) = false → m' 0 0 = m 0 0 ∧ m' 0 1 = m 0 1 ∧ m' 1 (-2) = m 1 (-2))
variable {W W' : List (Int × Int × Int)} {e : Int} {mb m m1 : MM} {a j v z : Int}
theorem Fr.fix (w : Fr W e mb m) : Fix m := w.2.1
theorem Fr.ext (w : Fr W e mb m) : Ext mb m := w.2.2.1
theorem Fr.rf (hF : Fix m) : Fr W e m m := ⟨hF, hF, Ext.rf m, fun _ _ _ _ _ _ => rfl, fun _ => ⟨rfl, rfl, rfl⟩⟩
theorem it_s {β : Type} {c : Prop} [Decidable c] {x y : Option β} {r : β} (h : (if c then x else y) = some r) : (c ∧ x = some r) ∨ (¬ c ∧ y = some r) := by
  by_cases hc : c
  · exact Or.inl ⟨hc, it_t hc h⟩
  · exact Or.inr ⟨hc, it_f hc h⟩
theorem fx_kF {a : Int} {c : Nat} (hF : Fix m) (h : fxk a c = true) : okc m a c := by
  simp only [fxk, List.any_eq_true, Bool.and_eq_true, beq_iff_eq] at h
  obtain ⟨q, hq, rfl, h2⟩ := h
  have h3 := fixk_lt q hq
  have h4 := (hF.2 q hq).1
  have h5 := hF.1
  exact ⟨h3.1, by omega, by rw [h4, h2]⟩
theorem Fix.p4 (hF : Fix m) : (4 : Int) ≤ m 0 0 := by have := hF.1; omega
theorem okc_nwF {c : Nat} {ln : Int} (hF : Fix m) (hz : z = m 0 0) (hm : m1 = mnew m (c : Int) ln) : okc m1 z c := by
  subst hz hm
  exact okc_new hF.p4
theorem okc_clF (hF : Fix m) (ho : okc m a 101) (hz : z = m 0 0) (hm : m1 = mcl m a) : okc m1 z 101 := by
  subst hz hm
  have h0 := hF.p4
  refine ⟨h0, ?_, ?_⟩
  · unfold mcl; rw [if_neg (by omega), if_pos rfl, if_pos rfl]; omega
  · unfold mcl; rw [if_pos rfl, if_pos (Or.inr (Or.inl rfl))]; exact ho.2.2
theorem ext_up (em : m1 = mset m a j v) (ha : 4 ≤ a) (hj : 0 ≤ j) : Ext m m1 := by subst em; exact mset_ext ha hj
theorem ext_nw {kd ln : Int} (hF : Fix m) (em : m1 = mnew m kd ln) : Ext m m1 := by subst em; exact mnew_ext hF.p4
theorem ext_cl (hF : Fix m) (em : m1 = mcl m a) : Ext m m1 := by subst em; exact mcl_ext hF.p4
theorem Fr.nge (w : Fr W e mb m) (ez : z = m 0 0) : mb 0 0 ≤ z := by rw [ez]; exact w.ext.1
/-- a write -/
theorem Fr.up1 (w : Fr W e mb m) (em : m1 = mset m a j v) (xe : Ext m m1) (ha : 4 ≤ a) (fx : Fix (mset m a j v)) (h : a < mb 0 0 → 4 ≤ a → wok W e mb a j) : Fr W e mb m1 := by
  refine ⟨w.1, by rw [em]; exact fx, w.ext.tr xe, fun b i h1 h2 h3 h4 => ?_, fun h9 => ?_⟩
  rotate_left
  · have := w.2.2.2.2 h9
    rw [em]
    unfold mset
    rw [if_neg (by omega), if_neg (by omega), if_neg (by omega)]
    exact this
  rw [em]
  unfold mset
  by_cases hb : b = a ∧ i = j
  · exfalso
    obtain ⟨rfl, rfl⟩ := hb
    exact h4 (h h2 h1)
  · rw [if_neg hb]
    exact w.2.2.2.1 b i h1 h2 h3 h4
theorem Fr.upN (w : Fr W e mb m) (em : m1 = mset m a j v) (xe : Ext m m1) (ha : 4 ≤ a) (fx : Fix (mset m a j v)) (hn : mb 0 0 ≤ a) : Fr W e mb m1 := Fr.up1 w em xe ha fx fun h => by omega
theorem Fr.upE (w : Fr W a mb m) (em : m1 = mset m a j v) (xe : Ext m m1) (ha : 4 ≤ a) (fx : Fix (mset m a j v)) : Fr W a mb m1 := Fr.up1 w em xe ha fx fun _ _ => Or.inl rfl
theorem Fr.upC {y : Int} (w : Fr W e mb m) (em : m1 = mset m a j v) (xe : Ext m m1) (ha : 4 ≤ a) (fx : Fix (mset m a j v)) (hy : y = -9 ∨ y = j) (hm : W.contains (0, a, y) = true) : Fr W e mb m1 :=
  Fr.up1 w em xe ha fx fun _ _ => Or.inr ⟨_, List.contains_iff_mem.mp hm, Or.inl ⟨rfl, rfl⟩, hy⟩
theorem Fr.upK {y : Int} {kd : Nat} (w : Fr W e mb m) (em : m1 = mset m a j v) (xe : Ext m m1) (ha : 4 ≤ a) (fx : Fix (mset m a j v)) (ok : okc m a kd) (hy : y = -9 ∨ y = j) (hm : W.contains (1, (kd : Int), y) = true) : Fr W e mb m1 :=
  Fr.up1 w em xe ha fx fun h1 h2 => Or.inr ⟨_, List.contains_iff_mem.mp hm, Or.inr (Or.inl ⟨rfl, by rw [← (w.ext.2 a h2 h1).1]; exact ok.2.2⟩), hy⟩
theorem Fr.upA (w : Fr W e mb m) (em : m1 = mset m a j v) (xe : Ext m m1) (ha : 4 ≤ a) (fx : Fix (mset m a j v)) (ok : okc m a 101) (h163 : 163 ≤ a) (hm : W.contains (3, 101, -9) = true) : Fr W e mb m1 :=
  Fr.up1 w em xe ha fx fun h1 h2 => Or.inr ⟨_, List.contains_iff_mem.mp hm, Or.inr (Or.inr ⟨rfl, by rw [← (w.ext.2 a h2 h1).1]; exact ok.2.2, h163⟩), Or.inl rfl⟩
theorem Fr.nw {kd ln : Int} (w : Fr W e mb m) (em : m1 = mnew m kd ln) (hm : W.contains (9, 0, 0) = true) : Fr W e mb m1 := by
  subst em
  refine ⟨w.1, fx_mnew w.fix, w.ext.tr (mnew_ext w.fix.p4), fun b i h1 h2 h3 h4 => ?_, fun h9 => by rw [hm] at h9; cases h9⟩
  have := w.ext.1
  rw [← w.2.2.2.1 b i h1 h2 h3 h4]
  unfold mnew
  rw [if_neg (by omega), if_neg (by omega)]
theorem Fr.cl (w : Fr W e mb m) (em : m1 = mcl m a) (hm : W.contains (9, 0, 0) = true) : Fr W e mb m1 := by
  subst em
  refine ⟨w.1, fx_mcl w.fix, w.ext.tr (mcl_ext w.fix.p4), fun b i h1 h2 h3 h4 => ?_, fun h9 => by rw [hm] at h9; cases h9⟩
  have := w.ext.1
  rw [← w.2.2.2.1 b i h1 h2 h3 h4]
  unfold mcl
  rw [if_neg (by omega), if_neg (by omega)]
theorem Fr.thr (w : Fr W e mb m) (hm : W.contains (9, 0, 0) = true) : Fr W e mb (mthr m) := by
  refine ⟨w.1, fx_mthr w.fix, w.ext.tr (mthr_ext w.fix.p4), fun b i h1 h2 h3 h4 => ?_, fun h9 => by rw [hm] at h9; cases h9⟩
  have := w.ext.1
  rw [← w.2.2.2.1 b i h1 h2 h3 h4]
  unfold mthr
  rw [if_neg (by omega), if_neg (by omega)]
theorem wok_to (x : Ext mb m) (h1 : 4 ≤ a) (h2 : a < mb 0 0) (h : wok W e m a j) : wok W e mb a j := by
  unfold wok at h ⊢
  rw [(x.2 a h1 h2).1] at h
  exact h
theorem wok_sub {e' : Int} (he : a = e' → a = e ∨ False) (hs : (W'.all fun w => W.contains w) = true) (h : wok W' e' m a j) : wok W e m a j := by
  rcases h with h | ⟨w, h1, h2⟩
  · exact Or.inl ((he h).resolve_right id)
  · exact Or.inr ⟨w, List.contains_iff_mem.mp (List.all_eq_true.mp hs w h1), h2⟩
theorem Fr.trG {e' : Int} (w : Fr W e mb m) (f : Fr W' e' m m1) (he : a = a → ∀ b : Int, 4 ≤ b → b < mb 0 0 → b = e' → b = e) (hs : (W'.all fun w => W.contains w) = true) : Fr W e mb m1 := by
  refine ⟨w.1, f.fix, w.ext.tr f.ext, fun b i h1 h2 h3 h4 => ?_, fun h9 => ?_⟩
  rotate_left
  · have h8 : W'.contains (9, 0, 0) = false := by
      cases hh : W'.contains (9, 0, 0) with
      | false => rfl
      | true =>
        have := List.all_eq_true.mp hs _ (List.contains_iff_mem.mp hh)
        rw [h9] at this
        cases this
    have p1 := w.2.2.2.2 h9
    have p2 := f.2.2.2.2 h8
    exact ⟨p2.1.trans p1.1, p2.2.1.trans p1.2.1, p2.2.2.trans p1.2.2⟩
  rw [← w.2.2.2.1 b i h1 h2 h3 h4]
  refine f.2.2.2.1 b i h1 (Int.lt_of_lt_of_le h2 w.ext.1) h3 fun hw => h4 (wok_to w.ext h1 h2 (wok_sub (fun h => Or.inl (he rfl b h1 h2 h)) hs hw))
theorem Fr.trS (w : Fr W e mb m) (f : Fr W e m m1) : Fr W e mb m1 := Fr.trG (a := 0) w f (fun _ _ _ _ h => h) (List.all_eq_true.mpr fun x hx => List.contains_iff_mem.mpr hx)
theorem Fr.tr0 (w : Fr W e mb m) (f : Fr W' 0 m m1) (hs : (W'.all fun w => W.contains w) = true) : Fr W e mb m1 := Fr.trG (a := 0) w f (fun _ b h1 _ h => by omega) hs
theorem Fr.trN (w : Fr W e mb m) (f : Fr W' a m m1) (hn : mb 0 0 ≤ a) (hs : (W'.all fun w => W.contains w) = true) : Fr W e mb m1 := Fr.trG (a := 0) w f (fun _ b _ h2 h => by omega) hs
theorem Fr.trE (w : Fr W e mb m) (f : Fr W' e m m1) (hs : (W'.all fun w => W.contains w) = true) : Fr W e mb m1 := Fr.trG (a := 0) w f (fun _ b _ _ h => h) hs
theorem fw_J7_copyOf_1904c {m0 : MM} {p0 p1 : Int} {rz : Int} {rm : MM} (hF : Fix m0) (h : fm_J7_copyOf_1904c p0 p1 m0 = some (rz, rm)) : Fr [(9, 0, 0)] 0 m0 rm := by
  obtain ⟨hk, h⟩ := @gd_s _ _ (Classical.propDecidable _) _ _ h
  cases h
  have h0 := hF.1
  have key : ∀ b i : Int, b < m0 0 0 → b ≠ 0 → mcp m0 p0 p1 b i = m0 b i := by
    intro b i h1 h2
    unfold mcp
    rw [if_neg (by omega), if_neg h2]
  have kn : mcp m0 p0 p1 0 0 = m0 0 0 + 1 := by
    unfold mcp
    rw [if_neg (by omega), if_pos rfl, if_pos rfl]
  refine ⟨hF, ⟨by rw [kn]; omega, fun q hq => ?_⟩, ⟨by rw [kn]; omega, fun b h1 h2 => ⟨key _ _ h2 (by omega), key _ _ h2 (by omega)⟩⟩, fun b i h1 h2 _ _ => key _ _ h2 (by omega), fun h9 => by cases h9⟩
  have h3 := fixk_lt q hq
  obtain ⟨g1, g2, g3⟩ := hF.2 q hq
  refine ⟨by rw [key _ _ (by omega) (by omega)]; exact g1, by rw [key _ _ (by omega) (by omega)]; exact g2, fun p hp => by rw [key _ _ (by omega) (by omega)]; exact g3 p hp⟩
end FRB
