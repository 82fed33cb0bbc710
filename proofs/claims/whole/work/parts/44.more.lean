/-! FROM THE BYTECODE TO FUNCTIONS, V: what is left. -/
section GP
variable {xs : List Int32} {d : Nat} {M : QM} {pc : Nat} {L : QL} {st rest : List Value} {S : QS} {Q : QO → QS → Prop} {m : MM}
/-- how often a loop goes round at most -/
def BIG : Nat := 1000000000
/-- how deep closeRun goes at most -/
def BIGR : Nat := 64
theorem okc_ne {a : Int} {c : Nat} (h : okc m a c) : a ≠ 0 := by have := h.1; omega
theorem q_out_v {t : Nat} {v : Value} {z : Int} (ht : t ≠ 9) (h : q_is t v z) : q_out t (.inl (some v)) z := by
  unfold q_out
  rw [if_neg ht]
  exact ⟨v, rfl, h⟩
theorem q_out_n {z : Int} : q_out 9 (.inl none) z := rfl
theorem q_is_cat2 {v : Value} {z : Int} (h : q_is 1 v z) : v.category = 2 := by
  obtain ⟨x, rfl, -⟩ := h
  rfl
theorem sl_0 : (lg_sl []).length = 0 := rfl
theorem sl_1 {v : Value} {t : List Value} (h : v.category = 1) : (lg_sl (v :: t)).length = (lg_sl t).length + 1 := by
  simp only [lg_sl, List.flatMap_cons, List.length_append]
  rw [if_neg (by omega)]
  simp
  omega
theorem sl_2 {v : Value} {t : List Value} (h : v.category = 2) : (lg_sl (v :: t)).length = (lg_sl t).length + 2 := by
  simp only [lg_sl, List.flatMap_cons, List.length_append]
  rw [if_pos h]
  simp
  omega
theorem la_0 {i : Nat} : lv_args i [] = [] := rfl
theorem la_1 {i : Nat} {v : Value} {t : List Value} (h : v.category = 1) : lv_args i (v :: t) = (i, v) :: lv_args (i + 1) t := by
  simp only [lv_args]
  rw [h, if_neg (by decide)]
theorem la_2 {i : Nat} {v : Value} {t : List Value} (h : v.category = 2) : lv_args i (v :: t) = (i, v) :: lv_args (i + 2) t := by
  simp only [lv_args]
  rw [h, if_pos rfl]
/-- what Object[] takes -/
abbrev okob (m : MM) (a : Int) : Prop := 4 ≤ a ∧ a < m 0 0 ∧ (m a (-1) = 1 ∨ m a (-1) = 6 ∨ m a (-1) = 7 ∨ m a (-1) = 8 ∨ m a (-1) = 10)
theorem go_aastO {vr vi v : Value} {a z y : Int} {m' : MM} (hc : q_code M pc = some .aastore) (hR : Rp S m) (hr : q_is 2 vr a) (hi : q_is 0 vi z) (hv : q_is 2 v y) (hok : okc m a 107) (hx : okx m a z) (hy : okob m y) (hm : m' = mset m a z y) (hF : Fix (mset m a z y)) (k : ∀ S', Rp S' m' → Ext m m' → Go xs d M (pc + 1) L st S' Q) : Go xs d M pc L (v :: vi :: vr :: st) S Q := by
  obtain ⟨h1, h2, h3⟩ := hy
  rcases h3 with h3 | h3 | h3 | h3 | h3
  · exact go_aast (kd := 107) (vk := 1) hc (by decide) hR hr hi hv hok hx (Or.inr ⟨h1, h2, h3⟩) hm hF k
  · exact go_aast (kd := 107) (vk := 6) hc (by decide) hR hr hi hv hok hx (Or.inr ⟨h1, h2, h3⟩) hm hF k
  · exact go_aast (kd := 107) (vk := 7) hc (by decide) hR hr hi hv hok hx (Or.inr ⟨h1, h2, h3⟩) hm hF k
  · exact go_aast (kd := 107) (vk := 8) hc (by decide) hR hr hi hv hok hx (Or.inr ⟨h1, h2, h3⟩) hm hF k
  · exact go_aast (kd := 107) (vk := 10) hc (by decide) hR hr hi hv hok hx (Or.inr ⟨h1, h2, h3⟩) hm hF k
/-- a clone of an array of longs -/
def mcl (m : MM) (a : Int) : MM := fun b j => if b = m 0 0 then (if 0 ≤ j ∨ j = -1 ∨ j = -2 then m a j else 0) else if b = 0 then (if j = 0 then m 0 0 + 1 else if j = 1 then m 0 1 + m a (-2) else m b j) else m b j
def cl {β : Type} (m : MM) (a : Int) (k : Int → MM → Option β) : Option β := k (m 0 0) (mcl m a)
theorem cl_s {β : Type} {a : Int} {k : Int → MM → Option β} {y : β} (h : cl m a k = some y) : ∃ z m1, z = m 0 0 ∧ m1 = mcl m a ∧ k z m1 = some y := ⟨_, _, rfl, rfl, h⟩
theorem mcl_ext {a : Int} (h0 : 4 ≤ m 0 0) : Ext m (mcl m a) := by
  refine ⟨?_, fun b h1 h2 => ⟨?_, ?_⟩⟩
  · unfold mcl; rw [if_neg (by omega), if_pos rfl, if_pos rfl]; omega
  · unfold mcl; rw [if_neg (by omega), if_neg (by omega)]
  · unfold mcl; rw [if_neg (by omega), if_neg (by omega)]
theorem okc_cl {a z : Int} {m1 : MM} (hR : Rp S m) (ho : okc m a 101) (hz : z = m 0 0) (hm : m1 = mcl m a) : okc m1 z 101 := by
  subst hz hm
  have h0 := hR.p4
  refine ⟨h0, ?_, ?_⟩
  · unfold mcl; rw [if_neg (by omega), if_pos rfl, if_pos rfl]; omega
  · unfold mcl; rw [if_pos rfl, if_pos (Or.inr (Or.inl rfl))]; exact ho.2.2
theorem fx_mcl {a : Int} (hF : Fix m) : Fix (mcl m a) := by
  have h0 := hF.1
  refine ⟨?_, fun q hq => ?_⟩
  · unfold mcl; rw [if_neg (by omega), if_pos rfl, if_pos rfl]; omega
  · obtain ⟨h1, h2, h3⟩ := hF.2 q hq
    have := fixk_lt q hq
    unfold mcl
    refine ⟨?_, ?_, fun p hp => ?_⟩
    · rw [if_neg (by omega), if_neg (by omega)]; exact h1
    · rw [if_neg (by omega), if_neg (by omega)]; exact h2
    · rw [if_neg (by omega), if_neg (by omega)]; exact h3 p hp
theorem Rp_cl {k : Nat} {c : QC} (hR : Rp0 S m) (hc : S.1[k]? = some c) : Rp0 (q_new S c) (mcl m ((k : Int) + 4)) := by
  obtain ⟨h1, h2, h3, h4, h5⟩ := hR
  obtain ⟨a1, a2, a3⟩ := h5 k c hc
  unfold q_new
  refine ⟨?_, ?_, ?_, ?_, fun i x hx => ?_⟩
  · unfold mcl; rw [if_neg (by omega), if_pos rfl, if_pos rfl, h1]; simp; omega
  · unfold mcl; rw [if_neg (by omega), if_pos rfl, if_neg (by decide), if_pos rfl, h2, a2]; simp
  · simp [h3]
  · unfold mcl; rw [if_neg (by omega), if_neg (by decide)]; exact h4
  · have hx : (S.1 ++ [c])[i]? = some x := hx
    have hl : i < (S.1 ++ [c]).length := (List.getElem?_eq_some_iff.mp hx).1
    rw [List.length_append, List.length_singleton] at hl
    by_cases hi : i < S.1.length
    · rw [List.getElem?_append_left hi] at hx
      obtain ⟨g1, g2, g3⟩ := h5 i x hx
      unfold mcl
      refine ⟨?_, ?_, fun q => ?_⟩
      · rw [if_neg (by omega), if_neg (by omega)]; exact g1
      · rw [if_neg (by omega), if_neg (by omega)]; exact g2
      · rw [if_neg (by omega), if_neg (by omega)]; exact g3 q
    · have he : i = S.1.length := by omega
      subst he
      rw [List.getElem?_append_right (Nat.le_refl _), Nat.sub_self] at hx
      cases hx
      unfold mcl
      refine ⟨?_, ?_, fun q => ?_⟩
      · rw [if_pos h1.symm, if_pos (Or.inr (Or.inl rfl))]; exact a1
      · rw [if_pos h1.symm, if_pos (Or.inr (Or.inr rfl))]; exact a2
      · rw [if_pos h1.symm, if_pos (Or.inl (Int.natCast_nonneg q))]; exact a3 q
theorem go_clone {x a b e : Nat} {vr : Value} {r z : Int} {m1 : MM} (hc : q_code M pc = some (.invokevirtual x)) (hlk : q_lk (qm_k M) x = some (20, a, b, e)) (hR : Rp S m) (hr : q_is 2 vr r) (hok : okc m r 101) (hz : z = m 0 0) (hm : m1 = mcl m r) (hl : (st.map fun v => v.category).sum ≤ 8) (k : ∀ v S', q_is 2 v z → Rp S' m1 → Ext m m1 → Go xs d M (pc + 3) L (v :: st) S' Q) : Go xs d M pc L (vr :: st) S Q := by
  subst hz hm
  obtain ⟨r, rfl, hra⟩ := q_is_ref hr (by omega)
  obtain ⟨k9, c, e1, e2, e6, e3, e5, e4⟩ := Rp_at hR hok.1 hok.2.1
  have hkk : r = k9 + 4 := by omega
  subst hkk
  have hck : c.1 = 101 := by have := hok.2.2; omega
  have hR2 := Rp_cl hR.1 e6
  rw [← e1] at hR2
  refine go_more hc ⟨fun _ => rfl, rfl, rfl, fun _ => rfl, fun _ => rfl⟩ rfl (q_read_no rfl) rfl rfl (st' := .ref (S.1.length + 4) :: st) (S' := q_new S c) ?_ rfl (k _ _ (Or.inr ⟨_, rfl, ?_, Nat.succ_pos _⟩) ⟨hR2, fx_mcl hR.2⟩ (mcl_ext hR.p4))
  · unfold q_more
    simp only [hlk, e2]
    rw [if_pos]
    refine ⟨hck, hl, List.all_eq_true.mpr fun j hj => ?_⟩
    have h4 := e4 j
    have hs : q_sty c.1 j = 1 := by rw [hck]; rfl
    rw [hs] at h4
    simp [q_is_tag h4 (by decide)]
  · rw [hR.1.1]
    simp
/-- the script -/
def sln (xs : List Int32) : Int := (Int32.ofNat xs.length).toInt
def scr (xs : List Int32) (i : Int) : Int := (xs.getD i.toNat 0).toInt
theorem go_aloadS {n : Fin 4} {v : Value} {z : Int} (hc : q_code M pc = some (.aload_n n)) (hl : q_lo L (n : Nat) = some v) (hv : q_is 7 v z) (k : Go xs d M (pc + 1) L (v :: st) S Q) : Go xs d M pc L st S Q := by
  have h : v = .ref 0 := hv
  subst h
  refine Go.step (pc' := pc + 1) (L' := L) (st' := .ref 0 :: st) (S' := S) hc ?_ k
  unfold q_step
  rw [show q_simple (.aload_n n) st = none from rfl, show q_ldi (.aload_n n) = some (2, (n : Nat)) from rfl]
  simp only
  rw [hl]
  rfl
theorem go_script {i : Instr} {st' : List Value} (hc : q_code M pc = some i) (hp : q_pl M i) (h5 : q_oi M i st = none) (h6 : q_read M i st S = none) (h7 : q_write M i st S = none) (h8 : q_script (some xs) i st = some st') (k : Go xs d M (pc + 1) L st' S Q) : Go xs d M pc L st S Q := by
  refine Go.step (pc' := pc + 1) (L' := L) (st' := st') (S' := S) hc ?_ k
  unfold q_step
  rw [hp.1, hp.2.1, hp.2.2.1, hp.2.2.2.1, hp.2.2.2.2, h5, h6, h7, h8]
theorem go_slen {vr : Value} {z : Int} (hc : q_code M pc = some .arraylength) (hr : q_is 7 vr z) (k : ∀ v, q_is 0 v (sln xs) → Go xs d M (pc + 1) L (v :: st) S Q) : Go xs d M pc L (vr :: st) S Q := by
  have h : vr = .ref 0 := hr
  subst h
  exact go_script (st' := .int (Int32.ofNat xs.length) :: st) hc ⟨fun _ => rfl, rfl, rfl, fun _ => rfl, fun _ => rfl⟩ rfl rfl rfl rfl (k _ ⟨_, rfl, rfl⟩)
theorem go_sld {vr vi : Value} {z y : Int} (hc : q_code M pc = some .iaload) (hr : q_is 7 vr y) (hi : q_is 0 vi z) (hg : 0 ≤ z ∧ z < (xs.length : Int)) (k : ∀ v, q_is 0 v (scr xs z) → Go xs d M (pc + 1) L (v :: st) S Q) : Go xs d M pc L (vi :: vr :: st) S Q := by
  have h : vr = .ref 0 := hr
  subst h
  obtain ⟨x, rfl, rfl⟩ := hi
  refine go_script (st' := .int (xs.getD x.toInt.toNat 0) :: st) hc ⟨fun _ => rfl, rfl, rfl, fun _ => rfl, fun _ => rfl⟩ rfl rfl rfl ?_ (k _ ⟨_, rfl, rfl⟩)
  show (q_idx x xs.length).map (fun j => Value.int (xs.getD j 0) :: st) = _
  rw [q_idx_of hg.1 hg.2]
  rfl
end GP
