/-! THE LAW: the beginning, the class's side, all of it. -/
section LWC2
variable {a j k r c i o t : Int}
theorem ow00_o (h : (4 ≤ a ∧ a ≤ 13) ∨ a = 48 ∨ a = 49 ∨ a = 52 ∨ a = 53 ∨ a = 56 ∨ a = 57 ∨ a = 60 ∨ a = 61 ∨ (64 ≤ a ∧ a ≤ 67) ∨ 162 ≤ a) : ow00 a = a := by
  unfold ow00
  rw [if_neg (by omega), if_neg (by omega), if_neg (by omega), if_neg (by omega), if_neg (by omega), if_neg (by omega), if_neg (by omega), if_neg (by omega)]
theorem lst00 (hc : (7 ≤ c ∧ c ≤ 10) ∨ c = 49 ∨ c = 53 ∨ c = 57 ∨ c = 61) {f : Int → Int} : KLst mm0 ow00 e00 c f := by
  obtain ⟨-, -, -, -, -, -, -, -, f9⟩ := mm0_f
  have e2 : e00.1 c 2 = 0 := e00_z (by omega) (by omega) (by omega) (by omega) (by omega)
  have hm : mm0 c 1 = 1 ∧ mm0 c 2 = 0 := by
    rcases hc with h | h | h | h | h
    · have := f9 ⟨(c - 7).toNat, by omega⟩
      have ei : (((⟨(c - 7).toNat, by omega⟩ : Fin 4).val : Nat) : Int) = c - 7 := by show (((c - 7).toNat : Nat) : Int) = c - 7; omega
      rw [ei, show 7 + (c - 7) = c by omega] at this
      exact this.2.2.2.2
    · subst h; exact ⟨(f9 0).2.2.1, (f9 0).2.2.2.1⟩
    · subst h; exact ⟨(f9 1).2.2.1, (f9 1).2.2.2.1⟩
    · subst h; exact ⟨(f9 2).2.2.1, (f9 2).2.2.2.1⟩
    · subst h; exact ⟨(f9 3).2.2.1, (f9 3).2.2.2.1⟩
  have hl := mm0_len
  unfold KLst
  rw [e2]
  refine ⟨⟨⟨by omega, by omega⟩, hm.2, by show (0 : Int) < 60000000; decide, fun v hv => absurd hv (by show ¬ v ∈ ([] : List Int); simp), Or.inl ⟨hm.1, rfl⟩⟩, Int.le_refl _, ow00_o (by omega), fun h => absurd hm.1 h⟩
theorem lv00 (hv : LvR e00 c i) : ad00 c i ∈ rows00 := by
  rcases hv with ⟨h1, h2⟩ | ⟨h1, h2, h3, h4⟩ | ⟨h1, h2, h3, h4⟩
  · subst h1 h2
    decide
  · have e2 : e00.1 (c + 1) 2 = 0 := e00_z (by omega) (by omega) (by omega) (by omega) (by omega)
    have hi : i = 0 := by omega
    subst hi
    rcases h1 with rfl | rfl | rfl | rfl <;> decide
  · have e2 : e00.1 7 2 = 0 := e00_z (by omega) (by omega) (by omega) (by omega) (by omega)
    omega
/-- the room at the beginning -/
theorem rm00 : RM mm0 ow00 ad00 e00 := by
  have e2 : e00.1 7 2 = 0 := e00_z (by omega) (by omega) (by omega) (by omega) (by omega)
  refine ⟨fun o => ⟨fun c i hv _ => (fr00 (lv00 hv)).cap cpK_b.1, fun _ r hR => (fr00 (mrow00 hR).1).cap ?_⟩, ⟨fun _ => 0, fun _ => 0, fun _ => ⟨Int.le_refl _, Int.le_refl _, (show (0 : Int) ≤ 391000 by decide)⟩, ?_, fun i i0 i1 => by omega⟩, ⟨rfl, rfl⟩, (mm0_rows 46 (by decide)).2.1, (mm0_rows 46 (by decide)).2.2.1, fr00 (by decide)⟩
  · unfold mcK
    split
    · decide
    · split <;> decide
  · rw [sm_0]
    show (0 : Int) + 400000 ≤ 400000
    decide
theorem ce00 : CE mm0 ow00 ad00 e00 := by
  obtain ⟨-, ⟨f2, -⟩, -, -, -, ⟨g1, g2, g3, g4, g5, g6, g7⟩, f7, f8, f9⟩ := mm0_f
  have z7 : ∀ c : Int, 7 ≤ c → c ≤ 10 → e00.1 c 2 = 0 := fun c h1 h2 => e00_z (by omega) (by omega) (by omega) (by omega) (by omega)
  have zt : ∀ t, isT t → e00.1 t 2 = 0 ∧ e00.1 (t + 1) 2 = 0 := fun t ht => by
    unfold isT at ht
    exact ⟨e00_z (by omega) (by omega) (by omega) (by omega) (by omega), e00_z (by omega) (by omega) (by omega) (by omega) (by omega)⟩
  have hcn : CN e00 := ⟨by rw [z7 7 (by decide) (by decide)]; decide, by rw [z7 8 (by decide) (by decide)]; decide, by rw [z7 9 (by decide) (by decide)]; decide, by rw [z7 10 (by decide) (by decide)]; decide, fun t ht => by rw [(zt t ht).2]; decide⟩
  refine ⟨⟨mm0_rp.2, rfl, fun a h1 h2 => ?_, ⟨ow00_o (by decide), rfl⟩, hcn, rm00⟩, fun o => ⟨fun ho => ?_, fun ho => ⟨ow00_o (by omega), fun j hj => ?_⟩, fun ho => ?_, fun ho => ?_, fun ho => lst00 (Or.inl ho), fun c i hv ho => ?_, fun i i0 i1 => ?_, fun i i0 i1 => ?_, fun i i0 i1 => ?_, fun i i0 i1 => ?_, fun i i0 i1 => ?_⟩⟩
  · unfold ow00
    rw [if_neg (by omega), if_neg (by omega), if_neg (by omega), if_neg (by omega), if_neg (by omega), if_neg (by omega), if_neg (by omega), if_pos ⟨h1, h2⟩]
  · refine ⟨cr00, fun a ha => ?_, f2, by rw [z7 7 (by decide) (by decide)]; decide⟩
    have hb : (16 ≤ a ∧ a ≤ 47) ∧ a ≠ 46 ∧ a ≠ 47 := by
      rcases ha with ha | ⟨r, hr, ha⟩
      · unfold Mcel at ha; omega
      · obtain ⟨h1, h2, h3⟩ := mrow00 hr
        have := (row00 h1 h2 h3).2.2 a ha
        unfold Mrow at hr
        omega
    unfold ow00
    rw [if_neg (by omega), if_neg (by omega), if_pos hb.1]
  · rcases hj with ⟨rfl, j1, j2⟩ | ⟨h1, h2, h3, h4⟩ | ⟨h1, h2, h3, h4⟩
    · have : j = 11 ∨ j = 12 ∨ j = 13 ∨ j = 14 ∨ j = 15 ∨ j = 16 ∨ j = 17 := by omega
      rcases this with rfl | rfl | rfl | rfl | rfl | rfl | rfl
      · exact g1
      · exact g2
      · exact g3
      · exact g4
      · exact g5
      · exact g6
      · exact g7
    · have := f7 ⟨(o - 11).toNat, by omega⟩ ⟨j.toNat, by omega⟩
      rw [show (((⟨(o - 11).toNat, by omega⟩ : Fin 3).val : Nat) : Int) = o - 11 by show (((o - 11).toNat : Nat) : Int) = o - 11; omega, show (((⟨j.toNat, by omega⟩ : Fin 3).val : Nat) : Int) = j by show ((j.toNat : Nat) : Int) = j; omega, show 11 + (o - 11) = o by omega] at this
      rw [e00_z (by omega) (by omega) (by omega) (by omega) (by omega)]
      exact this
    · have := f8 ⟨(o - 64).toNat, by omega⟩ ⟨j.toNat, by omega⟩
      rw [show (((⟨(o - 64).toNat, by omega⟩ : Fin 4).val : Nat) : Int) = o - 64 by show (((o - 64).toNat : Nat) : Int) = o - 64; omega, show (((⟨j.toNat, by omega⟩ : Fin 5).val : Nat) : Int) = j by show ((j.toNat : Nat) : Int) = j; omega, show 64 + (o - 64) = o by omega] at this
      have ej : e00.1 o j = if j = 0 then 3 else if j = 1 then 2 else 0 := by
        show (if _ then _ else _) = _
        rw [if_neg (by omega), if_pos (by omega)]
      rw [ej]
      refine this.trans ?_
      show (if j.toNat = 0 then (3 : Int) else if j.toNat = 1 then 2 else 0) = _
      by_cases c0 : j = 0
      · rw [if_pos (by omega), if_pos c0]
      · rw [if_neg (by omega), if_neg c0]
        by_cases c1 : j = 1
        · rw [if_pos (by omega), if_pos c1]
        · rw [if_neg (by omega), if_neg c1]
  · refine ⟨ow00_o (by unfold isT at ho; omega), ?_, ?_⟩
    · rw [(zt o ho).2]
      rcases ho with rfl | rfl | rfl | rfl
      · exact (f9 0).1
      · exact (f9 1).1
      · exact (f9 2).1
      · exact (f9 3).1
    · rw [(zt o ho).1]
      rcases ho with rfl | rfl | rfl | rfl
      · exact (f9 0).2.1
      · exact (f9 1).2.1
      · exact (f9 2).2.1
      · exact (f9 3).2.1
  · exact lst00 (by unfold isT at ho; omega)
  · have key : ∃ r, ad00 c i = r ∧ r ∈ rows00 ∧ (4 ≤ r ∧ r < 162) ∧ ow00 r = 1000 * c + i ∧ ow00 (r + 1) = 1000 * c + i := by
      rcases hv with ⟨h1, h2⟩ | ⟨h1, h2, h3, h4⟩ | ⟨h1, h2, h3, h4⟩
      · subst h1 h2; exact ⟨14, rfl, by decide, by decide, rfl, rfl⟩
      · rw [(zt c h1).2] at h3
        have hi : i = 0 := by omega
        subst hi
        rcases h1 with rfl | rfl | rfl | rfl
        · exact ⟨50, rfl, by decide, by decide, rfl, rfl⟩
        · exact ⟨54, rfl, by decide, by decide, rfl, rfl⟩
        · exact ⟨58, rfl, by decide, by decide, rfl, rfl⟩
        · exact ⟨62, rfl, by decide, by decide, rfl, rfl⟩
      · rw [z7 7 (by decide) (by decide)] at h3
        omega
    obtain ⟨r, k1, k2, k3, k4, k5⟩ := key
    obtain ⟨q1, q2, q3⟩ := row00 k2 k3.1 k3.2
    unfold KRow
    rw [k1]
    refine ⟨q1, fun a ha => ?_, q2⟩
    rcases q3 a ha with h | h
    · rw [h]; exact k4
    · rw [h]; exact k5
  · rw [z7 7 (by decide) (by decide)] at i1; omega
  · rw [z7 7 (by decide) (by decide)] at i1; omega
  · rw [z7 8 (by decide) (by decide)] at i1; omega
  · rw [z7 9 (by decide) (by decide)] at i1; omega
  · rw [z7 10 (by decide) (by decide)] at i1; omega
end LWC2
