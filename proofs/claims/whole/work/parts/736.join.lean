/-! THE ENGINE: the call join: what was lost is sent again. -/
section JON
variable {m m' M2 m0 : MM} {ow ow' : Int → Int} {ad ad' ad1 : Int → Int → Int} {e e' e0 e1 e2 : ES} {D : Int → Prop} {a b c i j k o r v w h B t y z q lim c2 c3 p p1 p2 p3 N : Int} {n : Nat} {x : CX} {l : List Int} {E : Int → Ev} {s S : TS} {f : Int → Int}
def pJnL (i : Int) : List Int → ES → ES
  | [], e => e
  | v :: L, e => pJnL i L (pArr i 4 (v / 1000) (v % 1000) e)
def pJn1 (i : Int) (e : ES) : ES := eLs (if e.1 (7000 + i) 6 = 0 then pJnL i (eL e (75000 + i)) e else e) (75000 + i) []
def pJnC (i : Int) (e : ES) : Int := if e.1 (7000 + i) 6 = 0 then ((eL e (75000 + i)).length : Int) else 0
def pJnR : Nat → Int → Int → ES → Int × ES
  | 0, a, _, e => (a, e)
  | n + 1, a, i, e => if i < e.1 7 2 then pJnR n (a + pJnC i e) (i + 1) (pJn1 i e) else (a, e)
def pcJoin (e : ES) : (Int ⊕ Nat) × ES := if e.1 4 17 = 0 then (.inl (pJnR 31 0 0 (eS e 4 17 1)).1, (pJnR 31 0 0 (eS e 4 17 1)).2) else rT 2 e
theorem jnL_cl (i0 : 0 ≤ i) (i1 : i < 1000) : ∀ (L : List Int) (e : ES), e.1 7 2 ≤ 1000 → CL e (pJnL i L e) ∧ (∀ c, eL (pJnL i L e) c = eL e c) ∧ ∀ a u : Int, a < 71000 → a ≠ 68 → a ≠ 3 → (a ≠ 4 ∨ u ≠ 16) → (pJnL i L e).1 a u = e.1 a u := by
  intro L
  induction L with
  | nil => intro e _; exact ⟨CL.rf, fun _ => rfl, fun _ _ _ _ _ _ => rfl⟩
  | cons v L ih =>
    intro e h7
    have h1 := arr_cl (e := e) (i := i) (k := 4) (x := v / 1000) (y := v % 1000) i0 i1 h7
    obtain ⟨g1, g2, g3⟩ := ih (pArr i 4 (v / 1000) (v % 1000) e) (by rw [h1.2.1 7 (by decide) (by decide)]; exact h7)
    exact ⟨h1.tr g1, fun c => (g2 c).trans arr_l, fun a u h2 h3 h4 h5 => (g3 a u h2 h3 h4 h5).trans (arr_a h3 h4 (by omega) (by omega) h5)⟩
theorem jn1_cl (i0 : 0 ≤ i) (i1 : i < 1000) (h7 : e.1 7 2 ≤ 1000) : CL e (pJn1 i e) ∧ (∀ c, c ≠ 75000 + i → eL (pJn1 i e) c = eL e c) ∧ ∀ a u : Int, a < 71000 → a ≠ 68 → a ≠ 3 → (a ≠ 4 ∨ u ≠ 16) → (pJn1 i e).1 a u = e.1 a u := by
  have hr : ∀ e1 : ES, CL e1 (eLs e1 (75000 + i) []) := fun e1 => ⟨row_mo (Or.inl (by simp only [List.length_nil]; omega)), SF.of fun a u _ _ => rfl⟩
  obtain ⟨g1, g2, g3⟩ := jnL_cl (i := i) i0 i1 (eL e (75000 + i)) e h7
  unfold pJn1
  split
  · exact ⟨g1.tr (hr _), fun c hc => (eLs_a hc).trans (g2 c), g3⟩
  · exact ⟨hr _, fun c hc => eLs_a hc, fun _ _ _ _ _ _ => rfl⟩
theorem jnR_mo : ∀ (n : Nat) (a i : Int) (e : ES), 0 ≤ i → e.1 7 2 ≤ 1000 → MO e (pJnR n a i e).2 := by
  intro n
  induction n with
  | zero => intro a i e _ _; exact MO.rf
  | succ n ih =>
    intro a i e i0 h7
    unfold pJnR
    split
    · rename_i c
      have h := (jn1_cl (e := e) (i := i) i0 (by omega) h7).1
      exact h.1.tr (ih _ _ _ (by omega) (by rw [h.2.1 7 (by decide) (by decide)]; exact h7))
    · exact MO.rf
theorem jn_l (i0 : 0 ≤ i) {K : Int → MM → Option ((Int ⊕ Nat) × MM)} {R : List Int} (hR : ∀ v ∈ R, 0 ≤ v ∧ v < 4000) (hR2 : R.length < 1000000) : ∀ (L : List Int) (f : Nat) (a k : Int) (m : MM) (ow : Int → Int) (e : ES), CE m ow ad e → eL e (75000 + i) = R → R.drop k.toNat = L → 0 ≤ k → k ≤ R.length → 0 ≤ a → a + L.length < 2000000000 → i < e.1 7 2 → e.1 (7000 + i) 6 = 0 → BDl e → BDf (pJnL i L e) → L.length < f → ∃ m', fl_X11_join_53 z (ad 7 i) K f a k m = K (a + L.length) m' ∧ CX1 m' ad (pJnL i L e) := by
  intro L
  induction L with
  | nil =>
    intro f a k m ow e C hr hd k0 k1 a0 a1 i1 h6 hl hf h2
    obtain ⟨f, rfl⟩ : ∃ g, f = g + 1 := ⟨f - 1, by omega⟩
    have lv := C.lv7 (c := 75) (i := i) (by omega) i0 i1
    have hs : m (ad 75 i) 2 = ((eL e (75000 + i)).length : Int) := (C.okr lv).2
    have : R.length ≤ k.toNat := List.drop_eq_nil_iff.mp hd
    unfold fl_X11_join_53
    rw [gd_t (C.rk i0 i1), lx_p, (C.run i0 i1).2.2.2.2.2.2.2.2, gd_t (C.okr lv).1, lx_p, hs, hr, if_neg (by omega)]
    exact ⟨m, by simp only [List.length_nil]; rw [show a + ((0 : Nat) : Int) = a by omega], ow, C⟩
  | cons v L ih =>
    intro f a k m ow e C hr hd k0 k1 a0 a1 i1 h6 hl hf h2
    obtain ⟨f, rfl⟩ : ∃ g, f = g + 1 := ⟨f - 1, by omega⟩
    have lv := C.lv7 (c := 75) (i := i) (by omega) i0 i1
    have hs : m (ad 75 i) 2 = ((eL e (75000 + i)).length : Int) := (C.okr lv).2
    have n7 := C.cn.1
    have hk : k.toNat < R.length := by
      have := congrArg List.length hd
      rw [List.length_drop] at this
      simp only [List.length_cons] at this
      omega
    have hg : R[k.toNat]? = some v := by
      have := congrArg (fun z => z[0]?) hd
      simp only [List.getElem?_drop, List.getElem?_cons_zero, Nat.add_zero] at this
      exact this
    have hv := hR v (List.mem_of_getElem? hg)
    have hat : fm_X5_at (ad 75 i) k m = some v := by
      have h1 := at_row C (k := k) lv k0 (by show k < (eL e (75000 + i)).length; rw [hr]; omega) (fun u hu => by have h9 : u ∈ eL e (75000 + i) := hu; rw [hr] at h9; have := hR u h9; omega)
      have h2 : (eL e (1000 * 75 + i)).getD k.toNat 0 = v := by
        show (eL e (75000 + i)).getD k.toNat 0 = v
        rw [hr, List.getD_eq_getElem?_getD, hg]
        rfl
      rw [h2] at h1
      exact h1
    have e6 : m (ad 7 i) 6 = e.1 (7000 + i) 6 := C.rf i0 i1 (by decide) (by decide)
    have nd : ¬ Dead e i := fun hh => hh.1 h6
    obtain ⟨g1, g2, g3⟩ := jnL_cl (i := i) i0 (show i < 1000 by omega) L (pArr i 4 (v / 1000) (v % 1000) e) (by rw [(arr_cl (e := e) (i := i) (k := 4) (x := v / 1000) (y := v % 1000) i0 (by omega) (by omega)).2.1 7 (by decide) (by decide)]; omega)
    have h1 := arr_cl (e := e) (i := i) (k := 4) (x := v / 1000) (y := v % 1000) i0 (show i < 1000 by omega) (by omega)
    obtain ⟨m1, u1, ow1, C1⟩ := C.arr (k := 4) (x := v / 1000) (y := v % 1000) i0 i1 nd (hl.bd i0 (hf.of g1.1)) (by decide) (by decide) (by omega) (by omega) (by omega) (by omega)
    simp only [List.length_cons] at a1 h2
    unfold fl_X11_join_53
    rw [gd_t (C.rk i0 i1), lx_p, (C.run i0 i1).2.2.2.2.2.2.2.2, gd_t (C.okr lv).1, lx_p, hs, hr, if_pos (by omega), lx_p, e6, if_pos h6, bp_t hat, Int.tdiv_eq_ediv_of_nonneg hv.1, Int.tmod_eq_emod_of_nonneg hv.1, w32_id (z := v / 1000) (by omega) (by omega), bd_t u1, lx_p, show w32 (a + 1) = a + 1 from w32_id (by omega) (by omega), lx_p, show w32 (k + 1) = k + 1 from w32_id (by omega) (by omega)]
    obtain ⟨m2, q1, q2⟩ := ih f (a + 1) (k + 1) m1 ow1 _ C1 (by rw [arr_l]; exact hr) (by rw [show (k + 1).toNat = k.toNat + 1 by omega, ← List.tail_drop, hd]; rfl) (by omega) (by omega) (by omega) (by omega) (by rw [h1.2.1 7 (by decide) (by decide)]; exact i1) (by rw [arr_a (by omega) (by omega) (by omega) (by omega) (by omega)]; exact h6) (h1.1.2 hl) hf (by omega)
    refine ⟨m2, ?_, q2⟩
    rw [q1, List.length_cons, show a + 1 + (L.length : Int) = a + ((L.length + 1 : Nat) : Int) by omega]
theorem jn1_l (C : CE m ow ad e) (i0 : 0 ≤ i) (i1 : i < e.1 7 2) (hR : ∀ v ∈ eL e (75000 + i), 0 ≤ v ∧ v < 4000) (hR2 : (eL e (75000 + i)).length < 1000000) (a0 : 0 ≤ a) (a1 : a + pJnC i e < 2000000000) (hl : BDl e) (hf : BDf (pJn1 i e)) : ∃ m', (gd (okc m (ad 7 i) 7) <| fl_X11_join_53 i (ad 7 i) (fun x_155 m_171 =>
lx (m_171 (ad 7 i) 19) fun x_180 =>
gd (okc m_171 x_180 6) <| bd (fm_X5_cut x_180 0 m_171) fun x_186 m_187 =>
lx (w32 (i + 1)) fun x_202 =>
fl_X11_join_27 n x_155 x_202 m_187) BIG a 0 m) = fl_X11_join_27 n (a + pJnC i e) (i + 1) m' ∧ CX1 m' ad (pJn1 i e) := by
  have n7 := C.cn.1
  have hw : w32 (i + 1) = i + 1 := w32_id (by omega) (by omega)
  have fin : ∀ (m1 : MM) (ow1 : Int → Int) (e1 : ES) (b : Int), CE m1 ow1 ad e1 → i < e1.1 7 2 → ∃ m', (lx (m1 (ad 7 i) 19) fun x_180 =>
gd (okc m1 x_180 6) <| bd (fm_X5_cut x_180 0 m1) fun x_186 m_187 =>
lx (w32 (i + 1)) fun x_202 =>
fl_X11_join_27 n b x_202 m_187) = fl_X11_join_27 n b (i + 1) m' ∧ CX1 m' ad (eLs e1 (75000 + i) []) := fun m1 ow1 e1 b C1 d7 => by
    have lv := C1.lv7 (c := 75) (i := i) (by omega) i0 d7
    obtain ⟨m2, k1, k2⟩ := C1.cut (n := 0) lv (by decide)
    refine ⟨m2, ?_, k2⟩
    rw [lx_p, (C1.run i0 d7).2.2.2.2.2.2.2.2, gd_t (C1.okr lv).1, bd_t k1, lx_p, hw]
  unfold pJn1 pJnC at *
  rw [gd_t (C.rk i0 i1)]
  by_cases c : e.1 (7000 + i) 6 = 0
  · rw [if_pos c] at hf a1 ⊢
    rw [if_pos c]
    have hcl := (jnL_cl (i := i) i0 (show i < 1000 by omega) (eL e (75000 + i)) e (by omega)).1
    obtain ⟨m1, g1, ow1, C1⟩ := jn_l (ad := ad) (z := i) i0 (K := fun x_155 m_171 =>
lx (m_171 (ad 7 i) 19) fun x_180 =>
gd (okc m_171 x_180 6) <| bd (fm_X5_cut x_180 0 m_171) fun x_186 m_187 =>
lx (w32 (i + 1)) fun x_202 =>
fl_X11_join_27 n x_155 x_202 m_187) hR hR2 (eL e (75000 + i)) BIG a 0 m ow e C rfl rfl (by decide) (by omega) a0 a1 i1 c hl (hf.of (row_mo (Or.inl (by simp only [List.length_nil]; omega)))) (BIG_g (by omega))
    obtain ⟨m2, k1, k2⟩ := fin m1 ow1 _ (a + (eL e (75000 + i)).length) C1 (by rw [hcl.2.1 7 (by decide) (by decide)]; exact i1)
    exact ⟨m2, g1.trans k1, k2⟩
  · rw [if_neg c] at hf a1 ⊢
    rw [if_neg c]
    have lv := C.lv7 (c := 75) (i := i) (by omega) i0 i1
    have hs : m (ad 75 i) 2 = ((eL e (75000 + i)).length : Int) := (C.okr lv).2
    have e6 : m (ad 7 i) 6 = e.1 (7000 + i) 6 := C.rf i0 i1 (by decide) (by decide)
    obtain ⟨m2, k1, k2⟩ := fin m ow e a C i1
    rw [(C.run i0 i1).2.2.2.2.2.2.2.2] at k1
    refine ⟨m2, ?_, k2⟩
    obtain ⟨B, hB⟩ : ∃ B, BIG = B + 1 := ⟨BIG - 1, rfl⟩
    rw [hB, fl_X11_join_53, gd_t (C.rk i0 i1), lx_p, (C.run i0 i1).2.2.2.2.2.2.2.2, gd_t (C.okr lv).1, lx_p, hs, show a + (0 : Int) = a by omega]
    by_cases c2 : (0 : Int) < (eL e (75000 + i)).length
    · rw [if_pos c2, lx_p, e6, if_neg c]
      exact k1
    · rw [if_neg c2]
      exact k1
theorem jnR_l : ∀ (n f : Nat) (a i : Int) (m : MM) (ow : Int → Int) (e : ES), CE m ow ad e → (∀ j : Int, 0 ≤ j → j < e.1 7 2 → (∀ v ∈ eL e (75000 + j), 0 ≤ v ∧ v < 4000) ∧ (eL e (75000 + j)).length < 1000000) → 0 ≤ i → i ≤ e.1 7 2 → 0 ≤ a → a ≤ 1000000 * i → BDl e → BDf (pJnR n a i e).2 → e.1 7 2 - i < n → n ≤ f → ∃ m', fl_X11_join_27 f a i m = some (.inl (pJnR n a i e).1, m') ∧ CX1 m' ad (pJnR n a i e).2 := by
  intro n
  induction n with
  | zero =>
    intro f a i m ow e C hR i0 i9 a0 a1 hl hf h1 h2
    omega
  | succ n ih =>
    intro f a i m ow e C hR i0 i9 a0 a1 hl hf h1 h2
    obtain ⟨f, rfl⟩ : ∃ g, f = g + 1 := ⟨f - 1, by omega⟩
    have n7 := C.cn.1
    unfold pJnR at hf ⊢
    rw [fl_X11_join_27, bp_t (C.size (c := 7) (by decide) (by decide))]
    by_cases c : i < e.1 7 2
    · rw [if_pos c] at hf ⊢
      rw [if_pos c, bp_t (C.get (c := 7) (by decide) (by decide) i0 c)]
      have hj := hR i i0 c
      obtain ⟨q1, q2, q3⟩ := jn1_cl (e := e) (i := i) i0 (show i < 1000 by omega) (by omega)
      have s7 : (pJn1 i e).1 7 2 = e.1 7 2 := q1.2.1 7 (by decide) (by decide)
      have hc : 0 ≤ pJnC i e ∧ pJnC i e ≤ 1000000 := by
        unfold pJnC
        split <;> omega
      obtain ⟨m1, g1, ow1, C1⟩ := jn1_l (n := f) (a := a) C i0 c hj.1 hj.2 a0 (by omega) hl (hf.of (jnR_mo n _ _ _ (by omega) (by omega)))
      obtain ⟨m2, k1, k2⟩ := ih f (a + pJnC i e) (i + 1) m1 ow1 _ C1 (fun j j0 j1 => by
        rw [s7] at j1
        by_cases cj : j = i
        · have hz : eL (pJn1 i e) (75000 + j) = [] := by
            rw [cj]
            exact eLs_e
          rw [hz]
          exact ⟨fun v hv => absurd hv List.not_mem_nil, by decide⟩
        · rw [q2 _ (by omega)]
          exact hR j j0 j1) (by omega) (by omega) (by omega) (by omega) (q1.1.2 hl) hf (by omega) (by omega)
      exact ⟨m2, g1.trans k1, k2⟩
    · rw [if_neg c, if_neg c]
      exact ⟨m, rfl, ow, C⟩
theorem c_join (C : CE m ow ad e) (hW : WX e) (hR : ∀ j : Int, 0 ≤ j → j < e.1 7 2 → (eL e (75000 + j)).length < 1000000) (hl : BDl e) (hf : BDf (pcJoin e).2) : OKc e ad (fm_X11_join m) (pcJoin e) := by
  have n7 := C.cn.1
  have e17 : m 4 17 = e.1 4 17 := C.g4 (by decide) (by decide)
  unfold pcJoin at hf
  unfold fm_X11_join pcJoin
  rw [lx_p, e17]
  by_cases c : e.1 4 17 = 0
  · rw [if_pos c] at hf
    rw [if_pos c, if_pos c, up_t]
    have C1 : CE (mset m 4 17 1) ow ad (eS e 4 17 1) := C.sG (Or.inl ⟨rfl, by decide, by decide⟩)
    have h7 : (eS e 4 17 1).1 7 2 = e.1 7 2 := eS_a (by decide)
    obtain ⟨m1, g1, g2⟩ := jnR_l (ad := ad) 31 BIG 0 0 _ ow _ C1 (fun j j0 j1 => by rw [h7] at j1; exact ⟨(hW.run j0 j1).2.2.2.2.2.2.2.2.2, hR j j0 j1⟩) (by decide) (by omega) (by decide) (by decide) ((set_mo (Or.inr ⟨by decide, by decide⟩) (by decide) (by decide) (Or.inl (by decide))).2 hl) hf (by omega) (Nat.le_of_lt (BIG_g (by decide)))
    exact ⟨m1, ad, g1, g2, AG.rf⟩
  · rw [if_neg c, if_neg c]
    exact OKc.thr C
end JON
