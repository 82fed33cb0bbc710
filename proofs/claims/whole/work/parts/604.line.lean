/-! THE TELLING: the lines. -/
section LNS
variable {m0 m m' M : MM} {x : CX} {s : TS} {B : Int} {a b c e j v k h n l w p g t kd : Int}
def LnH (m0 m : MM) (x : CX) (s : TS) (B k : Int) : Prop := CR m0 m s B ∧ XC m0 x ∧ SW x s B ∧ (B + 30 < 268435456 ∧ m 21 2 < sg s 0 40) ∧ x.1 3 ≤ x.1 0 ∧ 0 ≤ k ∧ k < sg s 0 5 ∧ sg s (2 + k) 4 < x.1 5 ∧ sg s 0 30 = 0
def LnR (m0 : MM) (x : CX) (B : Int) (f : Option (Int × MM)) (s' : TS) : Prop := ∃ m', f = some (0, m') ∧ CR m0 m' s' (B + 30) ∧ SW x s' (B + 30)
theorem goAt21 (h : fm_X1_goOnAt b l m = some (0, m')) (hb : b ≠ 21) : m' 21 2 = m 21 2 := by
  unfold fm_X1_goOnAt at h
  rw [up_t, up_t] at h
  cases h
  rw [ms_a (Ne.symm hb), ms_a (Ne.symm hb)]
theorem LnR.of {f : Option (Int × MM)} {s' : TS} {B' : Int} (hb : B' ≤ B + 30) (h : f = some (0, m')) (hC : CR m0 m' s' B') (hW : SW x s' B') : LnR m0 x B f s' := ⟨m', h, hC.mono hb, hW.mono hb⟩
theorem LnH.ln (H : LnH m0 m x s B k) : 0 ≤ sg s (2 + k) 4 ∧ sg s (2 + k) 4 + 1 ≤ 24 ∧ okc m (m 19 k) 2 ∧ m (m 19 k) 4 = sg s (2 + k) 4 := by
  obtain ⟨hC, X, hW, hB, hs, hk, hk2, hl, h30⟩ := H
  have h5 := (X.code hC.2.1).2.2.2.1
  have := (hW.br hk hk2).2.1
  exact ⟨this.1, by omega, (hC.ob hk (by have := hC.th.2.2; omega)).2.2, hC.br hk hk2 (by decide) (by decide)⟩
/-- a command, and its answer is waited for -/
theorem cw (H : LnH m0 m x s B k) (k0 : 8 ≤ kd) (k1 : kd ≤ 16) (a0 : 0 ≤ a) (a1 : a < 524288) (b0 : 0 ≤ b) (b1 : b < 1024) : LnR m0 x B (bd (fm_X4_command kd a b m) fun x_1 m_1 => bd (fm_X1_waitFor (m 19 k) 1 x_1 m_1) fun _ m_2 => some (0, m_2)) (match sCmd x kd a b s with
    | (r, s1) => sWait k 1 r s1) := by
  obtain ⟨hC, X, hW, hB, hs, hk, hk2, hl, h30⟩ := H
  have hn := (X.hc hC.2.1).2.1.n
  obtain ⟨m1, f1, f2⟩ := command_e (k := kd) (a := a) (b := b) hC X hW (by omega) hs k0 k1 a0 a1 b0 b1
  have hc := hW.cmd (c := kd) (a := a) (b := b) hs
  have hcr := cmd_r (c := kd) (a := a) (b := b) hW hs hn.1
  have g5 : ∀ p q : Int, p ≠ 0 ∨ (q ≠ 12 ∧ q ≠ 30 ∧ q ≠ 31) → sg (sCmd x kd a b s).2 p q = sg s p q := fun p q hh => cmd_g hh
  have e5 := g5 0 5 (Or.inr ⟨by decide, by decide, by decide⟩)
  have e4 := g5 (2 + k) 4 (Or.inl (by omega))
  have h19 : m1 19 k = m 19 k := cmd19 hC.1 f1 hk
  rw [bd_t f1]
  generalize hr : sCmd x kd a b s = r at f2 hc hcr e5 e4
  obtain ⟨r, s1⟩ := r
  simp only at f2 hc hcr e5 e4 ⊢
  obtain ⟨m2, q1, q2, q3⟩ := wait_e (w := 1) (n := r) f2 hk (by rw [e5]; exact hk2) h19
  rw [bd_t q1]
  refine LnR.of (B' := B + 1) (by omega) rfl q2 ((hc.wait hk (fun _ => by rw [e4]; exact hl) (fun h => by omega) (fun _ h30 => ?_)).mono (by omega))
  rcases hcr with ⟨z1, z2, z3⟩ | ⟨z1, z2, z3, z4⟩
  · omega
  · exact ⟨z1, z2⟩
theorem fin189 (hC : CR m0 m s B) (hW : SW x s B) (hk : 0 ≤ k) (hk2 : k < sg s 0 5) (hb : m 19 k = p) (l0 : 0 ≤ l) (l1 : l ≤ 24) : ∃ m', fj_X4_doPlainLine_189 p l m = some (0, m') ∧ CR m0 m' (sGo k l s) B ∧ SW x (sGo k l s) B := by
  have ho := hC.ob hk (by have := hC.th.2.2; omega)
  obtain ⟨m', g1, g2, g3⟩ := go_e (l := l) hC hk hk2 hb
  subst hb
  refine ⟨m', ?_, g2, hW.go hk l0 l1⟩
  unfold fj_X4_doPlainLine_189
  rw [gd_t ho.2.2, bd_t g1]
theorem fin128 (hC : CR m0 m s B) (hW : SW x s B) (hk : 0 ≤ k) (hk2 : k < sg s 0 5) (hb : m 19 k = p) (l0 : 0 ≤ l) (l1 : l ≤ 24) : ∃ m', fj_X4_doOtherLine_128 p l 0 m = some (0, m') ∧ CR m0 m' (sGo k l s) B ∧ SW x (sGo k l s) B := by
  have ho := hC.ob hk (by have := hC.th.2.2; omega)
  obtain ⟨m', g1, g2, g3⟩ := go_e (l := l) hC hk hk2 hb
  subst hb
  refine ⟨m', ?_, g2, hW.go hk l0 l1⟩
  unfold fj_X4_doOtherLine_128
  rw [gd_t ho.2.2, bd_t g1, if_pos rfl]
theorem ln_0 (H : LnH m0 m x s B k) (h : LineOk 0 a b) : LnR m0 x B (fm_X4_doPlainLine (m 19 k) 0 a b m) (sLine x k 0 a b s) := by
  have H0 := H
  obtain ⟨l0, l1, okb, e4⟩ := H.ln
  obtain ⟨hC, X, hW, hB, hs, hk, hk2, hl, h30⟩ := H
  obtain ⟨z1, z2, z3, z4, z5, z6, z7, z8, z9, z10, z11, z12, z13⟩ := h
  have es : sLine x k 0 a b s = sGo k (sg s (2 + k) 4 + 1) (st s 1 a b) := rfl
  rw [es]
  obtain ⟨m1, f1, f2, f3⟩ := set_e (v := b) hC (a := a) z3
  have v1 := hW.var (j := a) (v := b) z5 z6
  obtain ⟨m2, g1, g2, g3⟩ := fin189 (l := sg s (2 + k) 4 + 1) f2 v1 hk (by rw [st_g, if_neg (by omega)]; exact hk2) (f3 k) (by omega) l1
  have hd : fm_X4_doPlainLine (m 19 k) 0 a b m = (bd (fm_X8_set a b m) fun x_28 m_29 => fj_X4_doPlainLine_189 (m 19 k) (sg s (2 + k) 4 + 1) m_29) := by
    unfold fm_X4_doPlainLine
    simp only [lx_p]
    rw [gd_t okb, e4, w32_id (z := sg s (2 + k) 4 + 1) (by omega) (by omega), if_pos trivial]
  rw [hd, bd_t f1]
  exact LnR.of (by omega) g1 g2 g3
theorem ln_1 (H : LnH m0 m x s B k) (h : LineOk 1 a b) : LnR m0 x B (fm_X4_doPlainLine (m 19 k) 1 a b m) (sLine x k 1 a b s) := by
  have H0 := H
  obtain ⟨l0, l1, okb, e4⟩ := H.ln
  obtain ⟨hC, X, hW, hB, hs, hk, hk2, hl, h30⟩ := H
  obtain ⟨z1, z2, z3, z4, z5, z6, z7, z8, z9, z10, z11, z12, z13⟩ := h
  have es : sLine x k 1 a b s = sGo k (sg s (2 + k) 4 + 1) (st s 1 a ((sg s 1 a + sg s 1 b) % 1000)) := rfl
  rw [es]
  have ha := hW.2.1 a z3 (by omega)
  have hb := hW.2.1 b z5 (by omega)
  obtain ⟨m1, f1, f2, f3⟩ := set_e (v := (sg s 1 a + sg s 1 b) % 1000) hC (a := a) z3
  have v1 := hW.var (j := a) (v := (sg s 1 a + sg s 1 b) % 1000) (by omega) (by omega)
  obtain ⟨m2, g1, g2, g3⟩ := fin189 (l := sg s (2 + k) 4 + 1) f2 v1 hk (by rw [st_g, if_neg (by omega)]; exact hk2) (f3 k) (by omega) l1
  have hd : fm_X4_doPlainLine (m 19 k) 1 a b m = (bd (fm_X8_set a ((sg s 1 a + sg s 1 b) % 1000) m) fun x_28 m_29 => fj_X4_doPlainLine_189 (m 19 k) (sg s (2 + k) 4 + 1) m_29) := by
    unfold fm_X4_doPlainLine
    simp only [lx_p]
    rw [gd_t okb, e4, w32_id (z := sg s (2 + k) 4 + 1) (by omega) (by omega), if_neg (show ¬ ((1 : Int) = 0) by decide), if_pos trivial, bp_t (val_e hC z3 (by omega)), bp_t (val_e hC z5 (by omega)), w32_id (z := sg s 1 a + sg s 1 b) (by omega) (by omega), tmod_e (by omega)]
  rw [hd, bd_t f1]
  exact LnR.of (by omega) g1 g2 g3
theorem ln_2 (H : LnH m0 m x s B k) (h : LineOk 2 a b) : LnR m0 x B (fm_X4_doPlainLine (m 19 k) 2 a b m) (sLine x k 2 a b s) := by
  have H0 := H
  obtain ⟨l0, l1, okb, e4⟩ := H.ln
  obtain ⟨hC, X, hW, hB, hs, hk, hk2, hl, h30⟩ := H
  obtain ⟨z1, z2, z3, z4, z5, z6, z7, z8, z9, z10, z11, z12, z13⟩ := h
  have es : sLine x k 2 a b s = (match sCmd x 8 a (sg s 1 b) s with
    | (r, s1) => sWait k 1 r s1) := rfl
  rw [es]
  have hb := hW.2.1 b z5 (by omega)
  have hd : fm_X4_doPlainLine (m 19 k) 2 a b m = (bd (fm_X4_command 8 a (sg s 1 b) m) fun x_1 m_1 => bd (fm_X1_waitFor (m 19 k) 1 x_1 m_1) fun _ m_2 => some (0, m_2)) := by
    unfold fm_X4_doPlainLine
    simp only [lx_p]
    rw [gd_t okb, e4, w32_id (z := sg s (2 + k) 4 + 1) (by omega) (by omega), if_neg (show ¬ ((2 : Int) = 0) by decide), if_neg (show ¬ ((2 : Int) = 1) by decide), if_pos trivial, bp_t (val_e hC z5 (by omega))]
  rw [hd]
  exact cw H0 (by decide) (by decide) z3 (by omega) hb.1 (by omega)
theorem ln_5 (H : LnH m0 m x s B k) (h : LineOk 5 a b) : LnR m0 x B (fm_X4_doPlainLine (m 19 k) 5 a b m) (sLine x k 5 a b s) := by
  have H0 := H
  obtain ⟨l0, l1, okb, e4⟩ := H.ln
  obtain ⟨hC, X, hW, hB, hs, hk, hk2, hl, h30⟩ := H
  obtain ⟨z1, z2, z3, z4, z5, z6, z7, z8, z9, z10, z11, z12, z13⟩ := h
  have es : sLine x k 5 a b s = (match sCmd x 10 a (sg s 1 b) s with
    | (r, s1) => sWait k 1 r s1) := rfl
  rw [es]
  have hb := hW.2.1 b z5 (by omega)
  have hd : fm_X4_doPlainLine (m 19 k) 5 a b m = (bd (fm_X4_command 10 a (sg s 1 b) m) fun x_1 m_1 => bd (fm_X1_waitFor (m 19 k) 1 x_1 m_1) fun _ m_2 => some (0, m_2)) := by
    unfold fm_X4_doPlainLine
    simp only [lx_p]
    rw [gd_t okb, e4, w32_id (z := sg s (2 + k) 4 + 1) (by omega) (by omega), if_neg (show ¬ ((5 : Int) = 0) by decide), if_neg (show ¬ ((5 : Int) = 1) by decide), if_neg (show ¬ ((5 : Int) = 2) by decide), if_neg (show ¬ ((5 : Int) = 3) by decide), if_neg (show ¬ ((5 : Int) = 4) by decide), if_pos trivial, bp_t (val_e hC z5 (by omega))]
  rw [hd]
  exact cw H0 (by decide) (by decide) z3 (by omega) hb.1 (by omega)
theorem ln_3 (H : LnH m0 m x s B k) (h : LineOk 3 a b) : LnR m0 x B (fm_X4_doPlainLine (m 19 k) 3 a b m) (sLine x k 3 a b s) := by
  have H0 := H
  obtain ⟨l0, l1, okb, e4⟩ := H.ln
  obtain ⟨hC, X, hW, hB, hs, hk, hk2, hl, h30⟩ := H
  obtain ⟨z1, z2, z3, z4, z5, z6, z7, z8, z9, z10, z11, z12, z13⟩ := h
  have es : sLine x k 3 a b s = (match sCmd x 9 a 0 s with
    | (r, s1) => sWait k 1 r s1) := rfl
  rw [es]
  have hd : fm_X4_doPlainLine (m 19 k) 3 a b m = (bd (fm_X4_command 9 a 0 m) fun x_1 m_1 => bd (fm_X1_waitFor (m 19 k) 1 x_1 m_1) fun _ m_2 => some (0, m_2)) := by
    unfold fm_X4_doPlainLine
    simp only [lx_p]
    rw [gd_t okb, e4, w32_id (z := sg s (2 + k) 4 + 1) (by omega) (by omega), if_neg (show ¬ ((3 : Int) = 0) by decide), if_neg (show ¬ ((3 : Int) = 1) by decide), if_neg (show ¬ ((3 : Int) = 2) by decide), if_pos trivial]
  rw [hd]
  exact cw H0 (by decide) (by decide) z3 (by omega) (by decide) (by decide)
theorem ln_4 (H : LnH m0 m x s B k) (h : LineOk 4 a b) : LnR m0 x B (fm_X4_doPlainLine (m 19 k) 4 a b m) (sLine x k 4 a b s) := by
  have H0 := H
  obtain ⟨l0, l1, okb, e4⟩ := H.ln
  obtain ⟨hC, X, hW, hB, hs, hk, hk2, hl, h30⟩ := H
  obtain ⟨z1, z2, z3, z4, z5, z6, z7, z8, z9, z10, z11, z12, z13⟩ := h
  have es : sLine x k 4 a b s = sWait k 3 a s := rfl
  rw [es]
  obtain ⟨m2, q1, q2, q3⟩ := wait_e (w := 3) (n := a) hC hk hk2 rfl
  have hd : fm_X4_doPlainLine (m 19 k) 4 a b m = (bd (fm_X1_waitFor (m 19 k) 3 a m) fun _ m_2 => some (0, m_2)) := by
    unfold fm_X4_doPlainLine
    simp only [lx_p]
    rw [gd_t okb, e4, w32_id (z := sg s (2 + k) 4 + 1) (by omega) (by omega), if_neg (show ¬ ((4 : Int) = 0) by decide), if_neg (show ¬ ((4 : Int) = 1) by decide), if_neg (show ¬ ((4 : Int) = 2) by decide), if_neg (show ¬ ((4 : Int) = 3) by decide), if_pos trivial]
  rw [hd, bd_t q1]
  exact LnR.of (by omega) rfl q2 (hW.wait hk (fun _ => hl) (fun _ => ⟨z3, by omega⟩) (fun hh => by omega))
theorem ln_6 (H : LnH m0 m x s B k) (h : LineOk 6 a b) : LnR m0 x B (fm_X4_doPlainLine (m 19 k) 6 a b m) (sLine x k 6 a b s) := by
  have H0 := H
  obtain ⟨l0, l1, okb, e4⟩ := H.ln
  obtain ⟨hC, X, hW, hB, hs, hk, hk2, hl, h30⟩ := H
  obtain ⟨z1, z2, z3, z4, z5, z6, z7, z8, z9, z10, z11, z12, z13⟩ := h
  have es : sLine x k 6 a b s = (if sg s 1 a = 0 then sGo k b s else sGo k (sg s (2 + k) 4 + 1) s) := rfl
  rw [es]
  have hd : fm_X4_doPlainLine (m 19 k) 6 a b m = (if sg s 1 a = 0 then fj_X4_doPlainLine_189 (m 19 k) b m else fj_X4_doPlainLine_189 (m 19 k) (sg s (2 + k) 4 + 1) m) := by
    unfold fm_X4_doPlainLine
    simp only [lx_p]
    rw [gd_t okb, e4, w32_id (z := sg s (2 + k) 4 + 1) (by omega) (by omega), if_neg (show ¬ ((6 : Int) = 0) by decide), if_neg (show ¬ ((6 : Int) = 1) by decide), if_neg (show ¬ ((6 : Int) = 2) by decide), if_neg (show ¬ ((6 : Int) = 3) by decide), if_neg (show ¬ ((6 : Int) = 4) by decide), if_neg (show ¬ ((6 : Int) = 5) by decide), if_pos trivial, bp_t (val_e hC z3 (by omega))]
  rw [hd]
  by_cases q : sg s 1 a = 0
  · obtain ⟨m2, g1, g2, g3⟩ := fin189 (l := b) hC hW hk hk2 rfl z5 (by omega)
    rw [if_pos q, if_pos q]
    exact LnR.of (by omega) g1 g2 g3
  · obtain ⟨m2, g1, g2, g3⟩ := fin189 (l := sg s (2 + k) 4 + 1) hC hW hk hk2 rfl (by omega) l1
    rw [if_neg q, if_neg q]
    exact LnR.of (by omega) g1 g2 g3
theorem ln_7 (H : LnH m0 m x s B k) (h : LineOk 7 a b) : LnR m0 x B (fm_X4_doPlainLine (m 19 k) 7 a b m) (sLine x k 7 a b s) := by
  have H0 := H
  obtain ⟨l0, l1, okb, e4⟩ := H.ln
  obtain ⟨hC, X, hW, hB, hs, hk, hk2, hl, h30⟩ := H
  obtain ⟨z1, z2, z3, z4, z5, z6, z7, z8, z9, z10, z11, z12, z13⟩ := h
  have es : sLine x k 7 a b s = sGo k a s := rfl
  rw [es]
  have hd : fm_X4_doPlainLine (m 19 k) 7 a b m = fj_X4_doPlainLine_189 (m 19 k) a m := by
    unfold fm_X4_doPlainLine
    simp only [lx_p]
    rw [gd_t okb, e4, w32_id (z := sg s (2 + k) 4 + 1) (by omega) (by omega), if_neg (show ¬ ((7 : Int) = 0) by decide), if_neg (show ¬ ((7 : Int) = 1) by decide), if_neg (show ¬ ((7 : Int) = 2) by decide), if_neg (show ¬ ((7 : Int) = 3) by decide), if_neg (show ¬ ((7 : Int) = 4) by decide), if_neg (show ¬ ((7 : Int) = 5) by decide), if_neg (show ¬ ((7 : Int) = 6) by decide)]
  rw [hd]
  obtain ⟨m2, g1, g2, g3⟩ := fin189 (l := a) hC hW hk hk2 rfl z3 (by omega)
  exact LnR.of (by omega) g1 g2 g3
theorem ln_9 (H : LnH m0 m x s B k) (h : LineOk 9 a b) : LnR m0 x B (fm_X4_doBranchLine (m 19 k) 9 a m) (sLine x k 9 a b s) := by
  have H0 := H
  obtain ⟨l0, l1, okb, e4⟩ := H.ln
  obtain ⟨hC, X, hW, hB, hs, hk, hk2, hl, h30⟩ := H
  obtain ⟨z1, z2, z3, z4, z5, z6, z7, z8, z9, z10, z11, z12, z13⟩ := h
  have es : sLine x k 9 a b s = sWait k 4 0 s := rfl
  rw [es]
  obtain ⟨m2, q1, q2, q3⟩ := wait_e (w := 4) (n := 0) hC hk hk2 rfl
  have hd : fm_X4_doBranchLine (m 19 k) 9 a m = (bd (fm_X1_waitFor (m 19 k) 4 0 m) fun _ m_2 => some (0, m_2)) := by
    unfold fm_X4_doBranchLine
    rw [if_pos rfl, gd_t okb]
  rw [hd, bd_t q1]
  exact LnR.of (by omega) rfl q2 (hW.wait hk (fun _ => hl) (fun hh => by omega) (fun hh => by omega))
theorem ln_8 (H : LnH m0 m x s B k) (h : LineOk 8 a b) : LnR m0 x B (fm_X4_doBranchLine (m 19 k) 8 a m) (sLine x k 8 a b s) := by
  have H0 := H
  obtain ⟨l0, l1, okb, e4⟩ := H.ln
  obtain ⟨hC, X, hW, hB, hs, hk, hk2, hl, h30⟩ := H
  obtain ⟨z1, z2, z3, z4, z5, z6, z7, z8, z9, z10, z11, z12, z13⟩ := h
  have es : sLine x k 8 a b s = sBelow k a (sGo k (sg s (2 + k) 4 + 1) s) := rfl
  rw [es]
  obtain ⟨m1, f1, f2, f3⟩ := go_e (l := sg s (2 + k) 4 + 1) hC hk hk2 rfl
  have v1 := hW.go (l := sg s (2 + k) 4 + 1) hk (by omega) l1
  have t1 : sg (sGo k (sg s (2 + k) 4 + 1) s) 0 5 = sg s 0 5 := by rw [go_g, if_neg (by omega), if_neg (by omega)]
  have hk3 : k < sg (sGo k (sg s (2 + k) 4 + 1) s) 0 5 := by rw [t1]; exact hk2
  
  obtain ⟨m2, g1, g2, g3, g4⟩ := below_e (l := a) f2 v1 (by omega) hk hk3 z3 (by omega)
  rw [f3] at g1
  have hd : fm_X4_doBranchLine (m 19 k) 8 a m = (bd (fm_X4_beginBelow (m 19 k) a m1) fun x_29 m_30 => some (0, m_30)) := by
    unfold fm_X4_doBranchLine
    simp only [lx_p]
    rw [if_neg (show ¬ ((8 : Int) = 9) by decide), gd_t okb, e4, w32_id (z := sg s (2 + k) 4 + 1) (by omega) (by omega), bd_t f1, if_pos trivial]
  rw [hd, bd_t g1]
  exact LnR.of (B' := B + 1) (by omega) rfl (g2.mono (by omega)) g3
theorem ln_10 (H : LnH m0 m x s B k) (h : LineOk 10 a b) : LnR m0 x B (fm_X4_doBranchLine (m 19 k) 10 a m) (sLine x k 10 a b s) := by
  have H0 := H
  obtain ⟨l0, l1, okb, e4⟩ := H.ln
  obtain ⟨hC, X, hW, hB, hs, hk, hk2, hl, h30⟩ := H
  obtain ⟨z1, z2, z3, z4, z5, z6, z7, z8, z9, z10, z11, z12, z13⟩ := h
  have es : sLine x k 10 a b s = sRace k a (sGo k (sg s (2 + k) 4 + 1) s) := rfl
  rw [es]
  obtain ⟨m1, f1, f2, f3⟩ := go_e (l := sg s (2 + k) 4 + 1) hC hk hk2 rfl
  have v1 := hW.go (l := sg s (2 + k) 4 + 1) hk (by omega) l1
  have t1 : sg (sGo k (sg s (2 + k) 4 + 1) s) 0 5 = sg s 0 5 := by rw [go_g, if_neg (by omega), if_neg (by omega)]
  have hk3 : k < sg (sGo k (sg s (2 + k) 4 + 1) s) 0 5 := by rw [t1]; exact hk2
  
  obtain ⟨m2, m3, o, g1, g2, g3, g4⟩ := race_e (l := a) f2 v1 (by omega) hk hk3 z3 (by omega)
  rw [f3] at g1 g2
  have hd : fm_X4_doBranchLine (m 19 k) 10 a m = (bd (fm_X4_beginBelow (m 19 k) a m1) fun x_43 m_44 => bd (fm_X4_race (m 19 k) x_43 m_44) fun x_55 m_56 => some (0, m_56)) := by
    unfold fm_X4_doBranchLine
    simp only [lx_p]
    rw [if_neg (show ¬ ((10 : Int) = 9) by decide), gd_t okb, e4, w32_id (z := sg s (2 + k) 4 + 1) (by omega) (by omega), bd_t f1, if_neg (show ¬ ((10 : Int) = 8) by decide), if_pos trivial]
  rw [hd, bd_t g1, bd_t g2]
  exact LnR.of (B' := B + 1) (by omega) rfl (g3.mono (by omega)) g4
theorem ln_11 (H : LnH m0 m x s B k) (h : LineOk 11 a b) (hN : x.1 0 + nl (sLine x k 11 a b s) ≤ 524288) : LnR m0 x B (fm_X4_doBranchLine (m 19 k) 11 a m) (sLine x k 11 a b s) := by
  have H0 := H
  obtain ⟨l0, l1, okb, e4⟩ := H.ln
  obtain ⟨hC, X, hW, hB, hs, hk, hk2, hl, h30⟩ := H
  obtain ⟨z1, z2, z3, z4, z5, z6, z7, z8, z9, z10, z11, z12, z13⟩ := h
  have es : sLine x k 11 a b s = sDrop x (sWin x k (sGo k (sg s (2 + k) 4 + 1) s)) := rfl
  rw [es]
  obtain ⟨m1, f1, f2, f3⟩ := go_e (l := sg s (2 + k) 4 + 1) hC hk hk2 rfl
  have v1 := hW.go (l := sg s (2 + k) 4 + 1) hk (by omega) l1
  have t1 : sg (sGo k (sg s (2 + k) 4 + 1) s) 0 5 = sg s 0 5 := by rw [go_g, if_neg (by omega), if_neg (by omega)]
  have hk3 : k < sg (sGo k (sg s (2 + k) 4 + 1) s) 0 5 := by rw [t1]; exact hk2
  
  have n1 : nl (sDrop x (sWin x k (sGo k (sg s (2 + k) 4 + 1) s))) = nl (sDrop1 x 13 0 (sWin x k (sGo k (sg s (2 + k) 4 + 1) s))) := nl_drop2 _ _ _
  have n2 := nl_drop1 (x := x) 13 0 (sWin x k (sGo k (sg s (2 + k) 4 + 1) s))
  have n3 := nl_win (x := x) (k := k) (s := sGo k (sg s (2 + k) 4 + 1) s)
  rw [es] at hN
  have t30 : sg (sGo k (sg s (2 + k) 4 + 1) s) 0 30 = 0 := by rw [go_g, if_neg (by omega), if_neg (by omega)]; exact h30
  obtain ⟨m2, g1, g2, g3⟩ := win_e f2 X v1 (by omega) hs (by omega) t30 hk hk3
  rw [f3] at g1
  obtain ⟨m3, q1, q2, q3⟩ := drop_e g2 X g3 (by omega) hs hN
  have hd : fm_X4_doBranchLine (m 19 k) 11 a m = (bd (fm_X4_win (m 19 k) m1) fun x_69 m_70 => bd (fm_X4_dropDoomed m_70) fun x_81 m_82 => some (0, m_82)) := by
    unfold fm_X4_doBranchLine
    simp only [lx_p]
    rw [if_neg (show ¬ ((11 : Int) = 9) by decide), gd_t okb, e4, w32_id (z := sg s (2 + k) 4 + 1) (by omega) (by omega), bd_t f1, if_neg (show ¬ ((11 : Int) = 8) by decide), if_neg (show ¬ ((11 : Int) = 10) by decide), if_pos trivial]
  rw [hd, bd_t g1, bd_t q1]
  exact LnR.of (B' := B + 1 + 13) (by omega) rfl q2 q3
theorem ln_12 (H : LnH m0 m x s B k) (h : LineOk 12 a b) : LnR m0 x B (fm_X4_doBranchLine (m 19 k) 12 a m) (sLine x k 12 a b s) := by
  have H0 := H
  obtain ⟨l0, l1, okb, e4⟩ := H.ln
  obtain ⟨hC, X, hW, hB, hs, hk, hk2, hl, h30⟩ := H
  obtain ⟨z1, z2, z3, z4, z5, z6, z7, z8, z9, z10, z11, z12, z13⟩ := h
  have es : sLine x k 12 a b s = sth (sGo k (sg s (2 + k) 4 + 1) s) k (a :: sh s k) := rfl
  rw [es]
  obtain ⟨m1, f1, f2, f3⟩ := go_e (l := sg s (2 + k) 4 + 1) hC hk hk2 rfl
  have v1 := hW.go (l := sg s (2 + k) 4 + 1) hk (by omega) l1
  have t1 : sg (sGo k (sg s (2 + k) 4 + 1) s) 0 5 = sg s 0 5 := by rw [go_g, if_neg (by omega), if_neg (by omega)]
  have hk3 : k < sg (sGo k (sg s (2 + k) 4 + 1) s) 0 5 := by rw [t1]; exact hk2
  
  obtain ⟨L, hR, hL, hS, lC⟩ := f2.stack hk hk3
  rw [f3] at hS
  have ho := hC.ob hk (by have := hC.th.2.2; omega)
  have h40 : m1 21 2 < sg (sGo k (sg s (2 + k) 4 + 1) s) 0 40 := by
    rw [goAt21 f1 (by omega), go_g, if_neg (by omega), if_neg (by omega)]
    exact hB.2
  obtain ⟨m2, L', g1, g2, g3, g4, g5, g6, g7⟩ := f2.push (h := m1 (m 19 k) 10) (v := a) (by omega) hR hL lC h40 hS z3 (by omega)
  have h19 : m2 19 k = m 19 k := (g6 19 k (Or.inr (Or.inr (Or.inr (Or.inl rfl))))).trans (f3 k)
  have w := g2.pH g3 g4 g7 hk hk3 g5
  rw [h19] at w
  have hd : fm_X4_doBranchLine (m 19 k) 12 a m = some (0, mset m2 (m 19 k) 10 ((L' 21).length : Int)) := by
    unfold fm_X4_doBranchLine
    simp only [lx_p]
    rw [if_neg (show ¬ ((12 : Int) = 9) by decide), gd_t okb, e4, w32_id (z := sg s (2 + k) 4 + 1) (by omega) (by omega), bd_t f1, if_neg (show ¬ ((12 : Int) = 8) by decide), if_neg (show ¬ ((12 : Int) = 10) by decide), if_neg (show ¬ ((12 : Int) = 11) by decide), if_pos trivial, bd_t g1, up_t]
  rw [hd]
  refine LnR.of (B' := B + 1) (by omega) rfl w ((v1.mono (by omega)).hd hk fun w hw => ?_)
  rcases List.mem_cons.mp hw with hh | hh
  · rw [hh]; exact ⟨z3, by omega⟩
  · exact (hW.br hk hk2).2.2.2.2.2.2 w hh
theorem ln_13 (H : LnH m0 m x s B k) (h : LineOk 13 a b) : LnR m0 x B (fm_X4_doBranchLine (m 19 k) 13 a m) (sLine x k 13 a b s) := by
  have H0 := H
  obtain ⟨l0, l1, okb, e4⟩ := H.ln
  obtain ⟨hC, X, hW, hB, hs, hk, hk2, hl, h30⟩ := H
  obtain ⟨z1, z2, z3, z4, z5, z6, z7, z8, z9, z10, z11, z12, z13⟩ := h
  have es : sLine x k 13 a b s = sth (sGo k (sg s (2 + k) 4 + 1) s) k (sh s k).tail := rfl
  rw [es]
  obtain ⟨m1, f1, f2, f3⟩ := go_e (l := sg s (2 + k) 4 + 1) hC hk hk2 rfl
  have v1 := hW.go (l := sg s (2 + k) 4 + 1) hk (by omega) l1
  have t1 : sg (sGo k (sg s (2 + k) 4 + 1) s) 0 5 = sg s 0 5 := by rw [go_g, if_neg (by omega), if_neg (by omega)]
  have hk3 : k < sg (sGo k (sg s (2 + k) 4 + 1) s) 0 5 := by rw [t1]; exact hk2
  
  obtain ⟨L, hR, hL, hS, lC⟩ := f2.stack hk hk3
  rw [f3] at hS
  have ho := hC.ob hk (by have := hC.th.2.2; omega)
  have ok1 := f2.1.k2 ho.1 ho.2.1
  obtain ⟨h', p1, p2⟩ : ∃ h', fm_X8_popped (m1 (m 19 k) 10) m1 = some h' ∧ Stk (L 21) (sh s k).tail h' := by
    have hS' : Stk (L 21) (sh s k) (m1 (m 19 k) 10) := hS
    cases hh : sh s k with
    | nil =>
      rw [hh] at hS'
      have h0 : m1 (m 19 k) 10 = 0 := hS'
      exact ⟨0, by rw [h0]; exact pop0_e hR, rfl⟩
    | cons v t =>
      rw [hh] at hS'
      exact (top_e hR hS').2
  have w := f2.pH hR hL lC hk hk3 p2
  rw [f3] at w
  have hd : fm_X4_doBranchLine (m 19 k) 13 a m = some (0, mset m1 (m 19 k) 10 h') := by
    unfold fm_X4_doBranchLine
    simp only [lx_p]
    rw [if_neg (show ¬ ((13 : Int) = 9) by decide), gd_t okb, e4, w32_id (z := sg s (2 + k) 4 + 1) (by omega) (by omega), bd_t f1, if_neg (show ¬ ((13 : Int) = 8) by decide), if_neg (show ¬ ((13 : Int) = 10) by decide), if_neg (show ¬ ((13 : Int) = 11) by decide), if_neg (show ¬ ((13 : Int) = 12) by decide)]
    unfold fj_X4_doBranchLine_115
    simp only [lx_p]
    rw [gd_t ok1, bp_t p1, up_t]
  rw [hd]
  refine LnR.of (B' := B) (by omega) rfl w (v1.hd hk fun w hw => ?_)
  exact (hW.br hk hk2).2.2.2.2.2.2 w (List.mem_of_mem_tail hw)
theorem ln_14 (H : LnH m0 m x s B k) (h : LineOk 14 a b) : LnR m0 x B (fm_X4_doEndingLine (m 19 k) 14 a b m) (sLine x k 14 a b s) := by
  have H0 := H
  obtain ⟨l0, l1, okb, e4⟩ := H.ln
  obtain ⟨hC, X, hW, hB, hs, hk, hk2, hl, h30⟩ := H
  obtain ⟨z1, z2, z3, z4, z5, z6, z7, z8, z9, z10, z11, z12, z13⟩ := h
  have es : sLine x k 14 a b s = sGo k (sg s (2 + k) 4 + 1) (stu s ((1000 * a + sg s 1 b) :: su s)) := rfl
  rw [es]
  have hb := hW.2.1 b z5 (by omega)
  have ho := hC.ob hk (by have := hC.th.2.2; omega)
  have hC0 := hC
  obtain ⟨-, -, -, -, L, hR, hL, lC⟩ := hC0
  obtain ⟨m2, L', g1, g2, g3, g4, g5, g6, g7⟩ := hC.push (h := m 17 4) (v := 1000 * a + sg s 1 b) (by omega) hR hL lC hB.2 hL.2.2.1 (by omega) (by omega)
  have w := g2.pU g3 g4 g7 g5
  have v1 : SW x (stu s ((1000 * a + sg s 1 b) :: su s)) B := by
    refine hW.to rfl rfl (Or.inl rfl) (Or.inl rfl) (Nat.le_refl _) (Or.inl rfl) (Or.inl rfl) (fun _ _ _ => Or.inl rfl) (fun v hv => ?_) hW.2.2.2.2.1 fun k _ _ => Or.inl ⟨fun _ => rfl, rfl⟩
    rcases List.mem_cons.mp hv with hh | hh
    · rw [hh]; omega
    · exact hW.2.2.2.1 v hh
  have h19 : mset m2 17 4 ((L' 21).length : Int) 19 k = m 19 k := by rw [ms_a (by decide)]; exact g6 19 k (Or.inr (Or.inr (Or.inr (Or.inl rfl))))
  have ok2 := w.1.k2 ho.1 ho.2.1
  have e42 : mset m2 17 4 ((L' 21).length : Int) (m 19 k) 4 = sg s (2 + k) 4 := by
    have := w.br hk hk2 (j := 4) (by decide) (by decide)
    rw [h19] at this
    exact this
  obtain ⟨m3, f1, f2, f3⟩ := go_e (l := sg s (2 + k) 4 + 1) w hk hk2 h19
  have hd : fm_X4_doEndingLine (m 19 k) 14 a b m = some (0, m3) := by
    unfold fm_X4_doEndingLine
    simp only [lx_p, up_t]
    rw [if_pos trivial, bp_t (val_e hC z5 (by omega)), w32_id (z := 1000 * a) (by omega) (by omega), w32_id (z := 1000 * a + sg s 1 b) (by omega) (by omega), bd_t g1, gd_t ok2, e42, w32_id (by omega) (by omega), bd_t f1]
  rw [hd]
  exact LnR.of (B' := B + 1) (by omega) rfl f2 ((v1.go hk (by omega) l1).mono (by omega))
theorem ln_15 (H : LnH m0 m x s B k) (h : LineOk 15 a b) : LnR m0 x B (fm_X4_doEndingLine (m 19 k) 15 a b m) (sLine x k 15 a b s) := by
  have H0 := H
  obtain ⟨l0, l1, okb, e4⟩ := H.ln
  obtain ⟨hC, X, hW, hB, hs, hk, hk2, hl, h30⟩ := H
  obtain ⟨z1, z2, z3, z4, z5, z6, z7, z8, z9, z10, z11, z12, z13⟩ := h
  have es : sLine x k 15 a b s = sUndo x k s := rfl
  rw [es]
  obtain ⟨m1, f1, f2, f3⟩ := undo_e hC X hW (by omega) hs hk hk2 hl
  have hd : fm_X4_doEndingLine (m 19 k) 15 a b m = some (0, m1) := by
    unfold fm_X4_doEndingLine
    rw [if_neg (show ¬ ((15 : Int) = 14) by decide), if_pos rfl, bd_t f1]
  rw [hd]
  exact LnR.of (B' := B + 1) (by omega) rfl f2 f3
theorem ln_16 (H : LnH m0 m x s B k) (h : LineOk 16 a b) : LnR m0 x B (fm_X4_doEndingLine (m 19 k) 16 a b m) (sLine x k 16 a b s) := by
  have H0 := H
  obtain ⟨l0, l1, okb, e4⟩ := H.ln
  obtain ⟨hC, X, hW, hB, hs, hk, hk2, hl, h30⟩ := H
  obtain ⟨z1, z2, z3, z4, z5, z6, z7, z8, z9, z10, z11, z12, z13⟩ := h
  have es : sLine x k 16 a b s = sEnd x k s := rfl
  rw [es]
  obtain ⟨m1, f1, f2, f3⟩ := end_e hC X hW (by omega) hs hk hk2
  have hd : fm_X4_doEndingLine (m 19 k) 16 a b m = some (0, m1) := by
    unfold fm_X4_doEndingLine
    rw [if_neg (show ¬ ((16 : Int) = 14) by decide), if_neg (show ¬ ((16 : Int) = 15) by decide), if_pos rfl, bd_t f1]
  rw [hd]
  exact LnR.of (B' := B + 1) (by omega) rfl f2 f3
theorem ln_17 (H : LnH m0 m x s B k) (h : LineOk 17 a b) : LnR m0 x B (fm_X4_doEndingLine (m 19 k) 17 a b m) (sLine x k 17 a b s) := by
  have H0 := H
  obtain ⟨l0, l1, okb, e4⟩ := H.ln
  obtain ⟨hC, X, hW, hB, hs, hk, hk2, hl, h30⟩ := H
  obtain ⟨z1, z2, z3, z4, z5, z6, z7, z8, z9, z10, z11, z12, z13⟩ := h
  have es : sLine x k 17 a b s = sFail x k s := rfl
  rw [es]
  obtain ⟨m1, f1, f2, f3⟩ := fail_e hC X hW (by omega) hs hk hk2 rfl
  have hd : fm_X4_doEndingLine (m 19 k) 17 a b m = some (0, m1) := by
    unfold fm_X4_doEndingLine
    rw [if_neg (show ¬ ((17 : Int) = 14) by decide), if_neg (show ¬ ((17 : Int) = 15) by decide), if_neg (show ¬ ((17 : Int) = 16) by decide), if_pos rfl, bd_t f1]
  rw [hd]
  exact LnR.of (B' := B + 1) (by omega) rfl f2 ((hW.fail hs hk hk2).mono (by omega))
theorem ln_18 (H : LnH m0 m x s B k) (h : LineOk 18 a b) : LnR m0 x B (fm_X4_doEndingLine (m 19 k) 18 a b m) (sLine x k 18 a b s) := by
  have H0 := H
  obtain ⟨l0, l1, okb, e4⟩ := H.ln
  obtain ⟨hC, X, hW, hB, hs, hk, hk2, hl, h30⟩ := H
  obtain ⟨z1, z2, z3, z4, z5, z6, z7, z8, z9, z10, z11, z12, z13⟩ := h
  have es : sLine x k 18 a b s = (match sCmd x 16 (sg s 1 a) 0 s with
    | (r, s1) => if r < 0 then s1 else st s1 0 9 16) := rfl
  rw [es]
  have ha := hW.2.1 a z3 (by omega)
  obtain ⟨m1, f1, f2⟩ := command_e (k := 16) (a := sg s 1 a) (b := 0) hC X hW (by omega) hs (by decide) (by decide) ha.1 (by omega) (by decide) (by decide)
  have hc := hW.cmd (c := 16) (a := sg s 1 a) (b := 0) hs
  have hd : fm_X4_doEndingLine (m 19 k) 18 a b m = (if (sCmd x 16 (sg s 1 a) 0 s).1 < 0 then some (0, m1) else some (0, mset m1 17 9 16)) := by
    unfold fm_X4_doEndingLine
    simp only [lx_p, up_t]
    rw [if_neg (show ¬ ((18 : Int) = 14) by decide), if_neg (show ¬ ((18 : Int) = 15) by decide), if_neg (show ¬ ((18 : Int) = 16) by decide), if_neg (show ¬ ((18 : Int) = 17) by decide), bp_t (val_e hC z3 (by omega)), bd_t f1]
  rw [hd]
  generalize hr : sCmd x 16 (sg s 1 a) 0 s = r at f2 hc
  obtain ⟨r, s1⟩ := r
  simp only at f2 hc ⊢
  split
  · exact LnR.of (B' := B + 1) (by omega) rfl f2 (hc.mono (by omega))
  · exact LnR.of (B' := B + 1) (by omega) rfl (f2.p17 (by decide) (by decide)) ((hc.s0 (by decide) (by decide) (by decide) (by decide) (by decide) (Or.inl (by decide))).mono (by omega))
theorem ln_19 (H : LnH m0 m x s B k) (h : LineOk 19 a b) : LnR m0 x B (fm_X4_doOtherLine (m 19 k) 19 a b m) (sLine x k 19 a b s) := by
  have H0 := H
  obtain ⟨l0, l1, okb, e4⟩ := H.ln
  obtain ⟨hC, X, hW, hB, hs, hk, hk2, hl, h30⟩ := H
  obtain ⟨z1, z2, z3, z4, z5, z6, z7, z8, z9, z10, z11, z12, z13⟩ := h
  have es : sLine x k 19 a b s = (match sPatch x a s with
    | (p, s1) => sGo k (if p then sg s (2 + k) 4 + 1 else b) s1) := rfl
  rw [es]
  obtain ⟨m1, f1, f2, f3, f4⟩ := patch_e (p := a) hC X hW (by omega) hs z3 (by omega)
  have hd : fm_X4_doOtherLine (m 19 k) 19 a b m = (if (if (sPatch x a s).1 = true then (1 : Int) else 0) = 0 then fj_X4_doOtherLine_128 (m 19 k) b 0 m1 else fj_X4_doOtherLine_128 (m 19 k) (sg s (2 + k) 4 + 1) 0 m1) := by
    unfold fm_X4_doOtherLine
    simp only [lx_p, up_t]
    rw [gd_t okb, e4, w32_id (z := sg s (2 + k) 4 + 1) (by omega) (by omega), if_pos trivial, bd_t f1]
  rw [hd]
  have t5 : sg (sPatch x a s).2 0 5 = sg s 0 5 := by
    unfold sPatch
    split
    · split
      · exact (cmd_g (Or.inr ⟨by decide, by decide, by decide⟩)).trans (by rw [st_g, if_neg (by omega)])
      · rfl
    · rfl
  generalize hp : sPatch x a s = P at f2 f3 t5
  obtain ⟨P1, s1⟩ := P
  simp only at f2 f3 t5 ⊢
  cases P1 with
  | false =>
    obtain ⟨m2, g1, g2, g3⟩ := fin128 (l := b) f2 f3 hk (by rw [t5]; exact hk2) (f4 k hk) z5 (by omega)
    rw [if_neg (show ¬ (false = true) by decide), if_pos (show (0 : Int) = 0 from rfl), if_neg (show ¬ (false = true) by decide)]
    exact LnR.of (B' := B + 1) (by omega) g1 g2 g3
  | true =>
    obtain ⟨m2, g1, g2, g3⟩ := fin128 (l := sg s (2 + k) 4 + 1) f2 f3 hk (by rw [t5]; exact hk2) (f4 k hk) (by omega) l1
    rw [if_pos (show true = true from rfl), if_neg (show ¬ ((1 : Int) = 0) by decide), if_pos (show true = true from rfl)]
    exact LnR.of (B' := B + 1) (by omega) g1 g2 g3
theorem ln_20 (H : LnH m0 m x s B k) (h : LineOk 20 a b) (hT : 0 ≤ sg s 0 28 ∧ sg s 0 28 < x.1 0 ∧ ew (x.2.1 (sg s 0 28)) % 1024 ≤ 999) : LnR m0 x B (fm_X4_doOtherLine (m 19 k) 20 a b m) (sLine x k 20 a b s) := by
  have H0 := H
  obtain ⟨l0, l1, okb, e4⟩ := H.ln
  obtain ⟨hC, X, hW, hB, hs, hk, hk2, hl, h30⟩ := H
  obtain ⟨z1, z2, z3, z4, z5, z6, z7, z8, z9, z10, z11, z12, z13⟩ := h
  have es : sLine x k 20 a b s = sGo k (sg s (2 + k) 4 + 1) (st s 1 a (ew (x.2.1 (sg s 0 28)) % 1024)) := rfl
  rw [es]
  obtain ⟨e2, Hh, e4c, hkc⟩ := X.hc hC.2.1
  have e8 : m 16 8 = sg s 0 28 := hC.c16 (j := 8) (by decide) (by decide)
  have hew : 0 ≤ ew (x.2.1 (sg s 0 28)) := Int.natCast_nonneg _
  obtain ⟨m1, f1, f2, f3⟩ := set_e (v := ew (x.2.1 (sg s 0 28)) % 1024) hC (a := a) z3
  have v1 := hW.var (j := a) (v := ew (x.2.1 (sg s 0 28)) % 1024) (by omega) hT.2.2
  obtain ⟨m2, g1, g2, g3⟩ := fin128 (l := sg s (2 + k) 4 + 1) f2 v1 hk (by rw [st_g, if_neg (by omega)]; exact hk2) (f3 k) (by omega) l1
  have hd : fm_X4_doOtherLine (m 19 k) 20 a b m = fj_X4_doOtherLine_128 (m 19 k) (sg s (2 + k) 4 + 1) 0 m1 := by
    unfold fm_X4_doOtherLine
    simp only [lx_p, up_t]
    rw [gd_t okb, e4, w32_id (z := sg s (2 + k) 4 + 1) (by omega) (by omega), if_neg (show ¬ ((20 : Int) = 19) by decide), if_pos trivial, e2, e8, gd_t hkc, bp_t (clock_e Hh hT.1 hT.2.1), bd_t f1]
  rw [hd]
  exact LnR.of (by omega) g1 g2 g3
theorem ln_21 (H : LnH m0 m x s B k) (h : LineOk 21 a b) : LnR m0 x B (fm_X4_doOtherLine (m 19 k) 21 a b m) (sLine x k 21 a b s) := by
  have H0 := H
  obtain ⟨l0, l1, okb, e4⟩ := H.ln
  obtain ⟨hC, X, hW, hB, hs, hk, hk2, hl, h30⟩ := H
  obtain ⟨z1, z2, z3, z4, z5, z6, z7, z8, z9, z10, z11, z12, z13⟩ := h
  have es : sLine x k 21 a b s = sGo k (sg s (2 + k) 4 + 1) (st s (2 + k) 5 (sg s (2 + k) 5 + 1)) := rfl
  rw [es]
  have h5 := (hW.br hk hk2).2.2.2.2.2.1
  have e5 : m (m 19 k) 5 = sg s (2 + k) 5 := hC.br hk hk2 (by decide) (by decide)
  have w1 := (hC.mono (B' := B + 1) (by omega)).pB (j := 5) (v := sg s (2 + k) 5 + 1) hk hk2 (by decide) (by decide)
  have v1 := (hW.mono (B' := B + 1) (by omega)).s5 (v := sg s (2 + k) 5 + 1) hk (by omega) (by omega)
  have ho := hC.ob hk (by have := hC.th.2.2; omega)
  obtain ⟨m2, g1, g2, g3⟩ := fin128 (l := sg s (2 + k) 4 + 1) w1 v1 hk (by rw [st_g, if_neg (by omega)]; exact hk2) (ms_a (by omega)) (by omega) l1
  have hd : fm_X4_doOtherLine (m 19 k) 21 a b m = fj_X4_doOtherLine_128 (m 19 k) (sg s (2 + k) 4 + 1) 0 (mset m (m 19 k) 5 (sg s (2 + k) 5 + 1)) := by
    unfold fm_X4_doOtherLine
    simp only [lx_p, up_t]
    rw [gd_t okb, e4, w32_id (z := sg s (2 + k) 4 + 1) (by omega) (by omega), if_neg (show ¬ ((21 : Int) = 19) by decide), if_neg (show ¬ ((21 : Int) = 20) by decide), if_pos trivial, e5, w32_id (z := sg s (2 + k) 5 + 1) (by omega) (by omega)]
  rw [hd]
  exact LnR.of (B' := B + 1) (by omega) g1 g2 g3
theorem ln_23 (H : LnH m0 m x s B k) (h : LineOk 23 a b) : LnR m0 x B (fm_X4_doOtherLine (m 19 k) 23 a b m) (sLine x k 23 a b s) := by
  have H0 := H
  obtain ⟨l0, l1, okb, e4⟩ := H.ln
  obtain ⟨hC, X, hW, hB, hs, hk, hk2, hl, h30⟩ := H
  obtain ⟨z1, z2, z3, z4, z5, z6, z7, z8, z9, z10, z11, z12, z13⟩ := h
  have es : sLine x k 23 a b s = sGo k (sg s (2 + k) 4 + 1) (sCmd x 13 (sg s 1 a) 0 s).2 := rfl
  rw [es]
  have ha := hW.2.1 a z3 (by omega)
  obtain ⟨m1, f1, f2⟩ := command_e (k := 13) (a := sg s 1 a) (b := 0) hC X hW (by omega) hs (by decide) (by decide) ha.1 (by omega) (by decide) (by decide)
  have hc := hW.cmd (c := 13) (a := sg s 1 a) (b := 0) hs
  have t5 : sg (sCmd x 13 (sg s 1 a) 0 s).2 0 5 = sg s 0 5 := cmd_g (Or.inr ⟨by decide, by decide, by decide⟩)
  obtain ⟨m2, g1, g2, g3⟩ := fin128 (l := sg s (2 + k) 4 + 1) f2 (hc.mono (by omega)) hk (by rw [t5]; exact hk2) (cmd19 hC.1 f1 hk) (by omega) l1
  have hd : fm_X4_doOtherLine (m 19 k) 23 a b m = fj_X4_doOtherLine_128 (m 19 k) (sg s (2 + k) 4 + 1) 0 m1 := by
    unfold fm_X4_doOtherLine
    simp only [lx_p, up_t]
    rw [gd_t okb, e4, w32_id (z := sg s (2 + k) 4 + 1) (by omega) (by omega), if_neg (show ¬ ((23 : Int) = 19) by decide), if_neg (show ¬ ((23 : Int) = 20) by decide), if_neg (show ¬ ((23 : Int) = 21) by decide), if_pos trivial, bp_t (val_e hC z3 (by omega)), bd_t f1]
  rw [hd]
  exact LnR.of (B' := B + 1) (by omega) g1 g2 g3
theorem ln_22 (H : LnH m0 m x s B k) (h : LineOk 22 a b) : LnR m0 x B (fm_X4_doOtherLine (m 19 k) 22 a b m) (sLine x k 22 a b s) := by
  have H0 := H
  obtain ⟨l0, l1, okb, e4⟩ := H.ln
  obtain ⟨hC, X, hW, hB, hs, hk, hk2, hl, h30⟩ := H
  obtain ⟨z1, z2, z3, z4, z5, z6, z7, z8, z9, z10, z11, z12, z13⟩ := h
  have es : sLine x k 22 a b s = (match sBare k s with
    | (f, s1) => if f then sFail x k (sGo k (sg s (2 + k) 4 + 1) s1) else sGo k (sg s (2 + k) 4 + 1) s1) := rfl
  rw [es]
  obtain ⟨m1, f1, f2, f3, f4⟩ := bare_e hC hW (by omega) hk hk2
  have ho := hC.ob hk (by have := hC.th.2.2; omega)
  have ok1 := f2.1.k2 ho.1 ho.2.1
  have hd : fm_X4_doOtherLine (m 19 k) 22 a b m = fj_X4_doOtherLine_128 (m 19 k) (sg s (2 + k) 4 + 1) (if (sBare k s).1 = true then 1 else 0) m1 := by
    unfold fm_X4_doOtherLine
    simp only [lx_p, up_t]
    rw [gd_t okb, e4, w32_id (z := sg s (2 + k) 4 + 1) (by omega) (by omega), if_neg (show ¬ ((22 : Int) = 19) by decide), if_neg (show ¬ ((22 : Int) = 20) by decide), if_neg (show ¬ ((22 : Int) = 21) by decide), if_neg (show ¬ ((22 : Int) = 23) by decide)]
    unfold fj_X4_doOtherLine_122
    rw [gd_t okb, bd_t f1]
  rw [hd]
  have t5 : sg (sBare k s).2 0 5 = sg s 0 5 := by
    unfold sBare
    simp only
    generalize (if 0 < sg s (2 + k) 5 then sg s (2 + k) 5 - 1 else 0) = y
    split
    · show sg (st (st s (2 + k) 5 _) (2 + k) 6 0) 0 5 = _
      rw [st_g, if_neg (by omega), st_g, if_neg (by omega)]
    · show sg (st (st s (2 + k) 5 _) (2 + k) 6 _) 0 5 = _
      rw [st_g, if_neg (by omega), st_g, if_neg (by omega)]
  generalize hp : sBare k s = P at f2 f3 t5
  obtain ⟨P1, s1⟩ := P
  simp only at f2 f3 t5 ⊢
  cases P1 with
  | false =>
    obtain ⟨m2, g1, g2, g3⟩ := fin128 (l := sg s (2 + k) 4 + 1) f2 f3 hk (by rw [t5]; exact hk2) (f4 k) (by omega) l1
    rw [if_neg (show ¬ (false = true) by decide), if_neg (show ¬ (false = true) by decide)]
    exact LnR.of (B' := B) (by omega) g1 g2 g3
  | true =>
    obtain ⟨m2, g1, g2, g3⟩ := go_e (l := sg s (2 + k) 4 + 1) f2 hk (by rw [t5]; exact hk2) (f4 k)
    have v1 := f3.go (l := sg s (2 + k) 4 + 1) hk (by omega) l1
    have t6 : sg (sGo k (sg s (2 + k) 4 + 1) s1) 0 5 = sg s 0 5 := by rw [go_g, if_neg (by omega), if_neg (by omega)]; exact t5
    obtain ⟨m3, q1, q2, q3⟩ := fail_e g2 X v1 (by omega) hs hk (by rw [t6]; exact hk2) ((g3 k).trans (f4 k))
    rw [if_pos (show true = true from rfl), if_pos (show true = true from rfl)]
    refine LnR.of (B' := B + 1) (by omega) ?_ q2 ((v1.fail hs hk (by rw [t6]; exact hk2)).mono (by omega))
    unfold fj_X4_doOtherLine_128
    rw [gd_t ok1, bd_t g1, if_neg (show ¬ ((1 : Int) = 0) by decide), bd_t q1]
end LNS
