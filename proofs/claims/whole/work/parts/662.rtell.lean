/-! THE TELLING in the reference: a whole telling. -/
section RF27
variable {m0 m m' M : MM} {x : CX} {s s' s1 s2 : TS} {B H : Int} {a b c e i j v k h n l w p r t o q rh E ty ver rc kd lim : Int} {G : Int → Nat} {Q QB : TS → Prop}
/-- the places of a telling -/
def tow (a j : Int) : Prop := mtb a j ∨ own3 a j ∨ (a = 68 ∧ (j = 88 ∨ j = 89 ∨ j = 119 ∨ j = 124))
def TFW (M m : MM) : Prop := ∀ a j : Int, ¬ tow a j → m a j = M a j
theorem TFW.rf : TFW M M := fun _ _ _ => rfl
theorem TFW.tr (h : TFW M m) (g : TFW m m') : TFW M m' := fun a j hh => (g a j hh).trans (h a j hh)
theorem TFW.of (h : TFr m m') : TFW m m' := fun a j hh => h a j fun g => hh (Or.inl g)
theorem TFW.ms (h : TFW M m) (ha : tow a j) : TFW M (mset m a j v) := fun b i hb => by
  have : ¬ (b = a ∧ i = j) := fun hh => hb (by rw [hh.1, hh.2]; exact ha)
  rw [show mset m a j v b i = m b i from if_neg this]
  exact h b i hb
theorem tow_own (h : j = 117 ∨ j = 118 ∨ j = 123) : tow 68 j := Or.inr (Or.inl ⟨rfl, h⟩)
/-- how the arrays stand behind a telling -/
def FIN (M m : MM) (x : CX) (S : TS) (rh : Int) : Prop := TFW M m ∧ Fix m ∧ ((sg S 0 30 = 0 ∧ (∃ v E, RR m m x (st S 0 29 v) rh E (sg S 0 40)) ∧ m 68 123 = sg S 0 10) ∨ (sg S 0 30 = 1 ∧ m 68 114 = 1 ∧ m 68 115 = sg S 0 31))
def GB (x : CX) (rc rh : Int) (Q QB : TS → Prop) : Prop := GQ x rc rh Q ∧ (∀ s, QB s → goes s = true → na x (sg s 0 11) < x.1 0 → Q (sNote x (ek (x.2.1 (na x (sg s 0 11)))) (ex (x.2.1 (na x (sg s 0 11)))) (ey (x.2.1 (na x (sg s 0 11)))) (st (st (st s 0 28 (na x (sg s 0 11))) 0 11 (na x (sg s 0 11) + 1)) 0 29 0)) ∧ QB (sTake x (na x (sg s 0 11)) s)) ∧ (∀ s, QB s → goes s = true → na x (sg s 0 11) < x.1 0 → rh < x.1 0 → sg (sTaken x (na x (sg s 0 11)) s) 0 30 = 0 → sg (sTake x (na x (sg s 0 11)) s) 0 30 = 0) ∧ ∀ s, QB s → sg s 0 30 = 0 → x.1 1 ≤ sg s 0 10 → rh < x.1 0 → x.1 0 ≤ nc x (sg s 0 12)
theorem mset_f {z : Int} (h : ∀ b i, (b = a ∧ i = j) → z = m b i) : mset m a j z = m := by
  funext b i
  unfold mset
  by_cases q : b = a ∧ i = j
  · rw [if_pos q]; exact h b i q
  · rw [if_neg q]
theorem na_u (h0 : k < x.1 0) (h7 : 7 < ek (x.2.1 k)) : na x k = na x (k + 1) := by
  unfold na
  obtain ⟨n, hn⟩ : ∃ n, (x.1 0 - k).toNat = n + 1 := ⟨(x.1 0 - k).toNat - 1, by omega⟩
  have hn2 : (x.1 0 - (k + 1)).toNat = n := by omega
  rw [hn, hn2]
  show (if k < x.1 0 then (if 7 < ek (x.2.1 k) then nxa x n (k + 1) else k) else k) = _
  rw [if_pos h0, if_pos h7]
theorem na_at (h0 : k < x.1 0) (h7 : ¬ 7 < ek (x.2.1 k)) : na x k = k := by
  unfold na
  obtain ⟨n, hn⟩ : ∃ n, (x.1 0 - k).toNat = n + 1 := ⟨(x.1 0 - k).toNat - 1, by omega⟩
  rw [hn]
  show (if k < x.1 0 then (if 7 < ek (x.2.1 k) then nxa x n (k + 1) else k) else k) = _
  rw [if_pos h0, if_neg h7]
theorem na_end (h0 : x.1 0 ≤ k) : na x k = k := by
  unfold na
  have hn : (x.1 0 - k).toNat = 0 := by omega
  rw [hn]
  rfl
/-- a run that is over or stuck: nothing more is told -/
theorem follow_stop (h : ¬ goes s = true) : ∀ (n : Nat) (i : Int), sFollow x lim n i s = s := by
  intro n
  cases n with
  | zero => intro i; rfl
  | succ n =>
    intro i
    unfold sFollow
    first | (split <;> rfl) | (split <;> simp_all)
theorem loop_stuck {f : Nat} (h : m 68 114 ≠ 0) (r0 : 0 ≤ r ∧ r < 30) : fl_X12_tellsRun_151 r lim (f + 1) k m = some (0, m) := by
  unfold fl_X12_tellsRun_151
  simp only [lx_p]
  rw [gd_t r0]
  split
  · split <;> rfl
  · rfl
theorem over_loop (hC : CXX x) (hr : 0 ≤ rh ∧ rh ≤ x.1 0) : ∀ (n f : Nat) (k : Int) (m : MM) (c : Int), x.1 0 - k < n → n < f → 0 ≤ k → (∃ v E, RR m m x (st s 0 29 v) rh E H) → RC m x G r ty ver rh rc → sg s 0 30 = 0 → sg s 0 9 ≠ 0 → (0 ≤ sg s 0 12 ∧ sg s 0 12 ≤ x.1 0) → rh ≤ nc x (sg s 0 12) → (0 ≤ m 68 126 ∧ m 68 126 ≤ rh) → m 68 123 = c → Fix m → 0 ≤ m 68 117 → m 68 117 ≤ k → ∃ m', fl_X12_tellsRun_151 r lim f k m = some (0, m') ∧ TFW m m' ∧ Fix m' ∧ (∃ v E, RR m' m' x (st s 0 29 v) rh E H) ∧ m' 68 123 = c := by
  intro n
  induction n with
  | zero =>
    intro f k m c h0 h1 k0 hR R h30 h9 h12 ho h126 h123 hF t0 tk
    have hNN := R.2.2.2.2.2.2.2.2.1
    obtain ⟨f, rfl⟩ : ∃ g, f = g + 1 := ⟨f - 1, by omega⟩
    refine ⟨m, ?_, TFW.rf, hF, hR, h123⟩
    unfold fl_X12_tellsRun_151
    simp only [lx_p]
    rw [gd_t R.1.2, R.2.2.2.2.2.2.2.1, if_neg (by omega)]
  | succ n ih =>
    intro f k m c h0 h1 k0 hR R h30 h9 h12 ho h126 h123 hF t0 tk
    obtain ⟨f, rfl⟩ : ∃ g, f = g + 1 := ⟨f - 1, by omega⟩
    have hNN := R.2.2.2.2.2.2.2.2.1
    obtain ⟨v, E, hRR⟩ := hR
    have e114 : m 68 114 = 0 := by
      rw [hRR.2.1.2.2.2.2.2.2.1, st_g, if_neg (by omega)]; exact h30
    have e112 : m 68 112 ≠ 0 := by
      rw [hRR.2.1.2.2.2.2.1, st_g, if_neg (by omega)]; exact h9
    unfold fl_X12_tellsRun_151
    simp only [lx_p]
    rw [gd_t R.1.2, R.2.2.2.2.2.2.2.1]
    by_cases c1 : k < x.1 0
    · rw [if_pos c1]
      by_cases c2 : m 68 117 < lim
      · rw [if_pos c2, e114, if_pos rfl, bp_t (rkind R k0 c1), w32_id (z := k + 1) (by omega) (by omega)]
        by_cases c3 : 7 < ek (x.2.1 k)
        · rw [if_pos c3]
          exact ih f (k + 1) m c (by omega) (by omega) (by omega) ⟨v, E, hRR⟩ R h30 h9 h12 ho h126 h123 hF t0 (by omega)
        · rw [if_neg c3, up_t, w32_id (z := m 68 117 + 1) (by omega) (by omega)]
          have own : ∀ a j : Int, ¬ own3 a j → mset m 68 117 (m 68 117 + 1) a j = m a j := fun a j hh => if_neg fun g => hh ⟨g.1, by omega⟩
          have R1 : RC (mset m 68 117 (m 68 117 + 1)) x G r ty ver rh rc := R.fr2 own
          have hR1 : RR (mset m 68 117 (m 68 117 + 1)) (mset m 68 117 (m 68 117 + 1)) x (st s 0 29 v) rh E H := hRR.re own
          rw [show mset m 68 117 (m 68 117 + 1) 68 112 = m 68 112 from ms_j (by decide), if_neg e112]
          unfold fj_X12_tellsRun_222
          simp only [lx_p]
          rw [show mset m 68 117 (m 68 117 + 1) 68 114 = m 68 114 from ms_j (by decide), e114, if_pos rfl, ms_e]
          obtain ⟨m2, z1, z2, z3, z4⟩ := gby_over (p := m 68 117 + 1) R1 hr (s := st s 0 29 v) (by rw [st_g, if_neg (by omega)]; exact h12) (by rw [st_g, if_neg (by omega)]; exact h30) (by rw [st_g, if_neg (by omega)]; exact ho) (rh - m 68 126 + 1).toNat BIG (m 68 126) (mset m 68 117 (m 68 117 + 1)) h126.1 h126.2 (by omega) (Nat.le_of_lt (BIG_g (by omega))) hR1 (ms_j (by decide))
          have hgb : fm_X12_goesBy (m 68 117 + 1) (mset m 68 117 (m 68 117 + 1)) = some (0, m2) := z1
          rw [bd_t hgb, w32_id (z := k + 1) (by omega) (by omega)]
          have hT2 := z2.1
          have hF1 : Fix (mset m 68 117 (m 68 117 + 1)) := fx_f (j := 117) hF (fx_kF (c := 13) hF (by decide +kernel)) (by decide +kernel)
          have n117 : ∀ q : Int, q = 117 ∨ q = 123 → ¬ mtb 68 q := fun q hq hh => by
            rcases hh with ⟨-, g⟩ | ⟨g, -⟩ <;> omega
          have e117 : m2 68 117 = m 68 117 + 1 := by rw [hT2 68 117 (n117 _ (by omega)), ms_e]
          have e123 : m2 68 123 = c := by rw [hT2 68 123 (n117 _ (by omega)), ms_j (by decide)]; exact h123
          obtain ⟨m3, y1, y2, y3, y4, y5⟩ := ih f (k + 1) m2 c (by omega) (by omega) (by omega) ⟨v, E, z2.re (fun _ _ _ => rfl)⟩ (R1.to hT2) h30 h9 h12 ho ⟨z3, z4⟩ e123 (Fix.tfr hF1 hT2) (by omega) (by omega)
          exact ⟨m3, y1, ((TFW.rf.ms (tow_own (by omega))).tr (TFW.of hT2)).tr y2, y3, y4, y5⟩
      · rw [if_neg c2]
        exact ⟨m, rfl, TFW.rf, hF, ⟨v, E, hRR⟩, h123⟩
    · rw [if_neg c1]
      exact ⟨m, rfl, TFW.rf, hF, ⟨v, E, hRR⟩, h123⟩
theorem pass_all : ∀ (n : Nat) (i : Int) (s : TS), SW x s B → PI s → WK x s → OW s → SW x (sPass x n i s) B ∧ PI (sPass x n i s) ∧ WK x (sPass x n i s) ∧ OW (sPass x n i s) := by
  intro n
  induction n with
  | zero => intro i s h1 h2 h3 h4; exact ⟨h1, h2, h3, h4⟩
  | succ n ih =>
    intro i s h1 h2 h3 h4
    have h6 := h1.2.2.2.2.2.1.1
    have hend : SW x (st s 0 13 i) B ∧ PI (st s 0 13 i) ∧ WK x (st s 0 13 i) ∧ OW (st s 0 13 i) := ⟨h1.s0 (by decide) (by decide) (by decide) (by decide) (by decide) (Or.inl (by decide)), h2.sx h6 (by omega), h3.sx (by omega), h4.sx (by omega)⟩
    unfold sPass
    split
    · split
      · split
        · split
          · exact hend
          · split
            · exact ih _ _ h1.stk (h2.stk h6) h3.stk h4.stk
            · exact ih _ _ h1 h2 h3 h4
        · exact ih _ _ h1 h2 h3 h4
      · exact hend
    · exact hend
/-- an arrival that is taken keeps what holds -/
theorem BP.take (hC : CXX x) (hP : BP x s B) (i0 : sg s 0 11 ≤ i) (i1 : i < x.1 0) (hi7 : ek (x.2.1 i) ≤ 7) : BP x (sTake x i s) (B + 1001) ∧ sg (sTake x i s) 0 10 = sg s 0 10 + 1 ∧ sg (sTake x i s) 0 11 = i + 1 ∧ sg s 0 40 ≤ sg (sTake x i s) 0 40 ∧ sg s 0 41 ≤ sg (sTake x i s) 0 41 ∧ nl s ≤ nl (sTake x i s) ∧ sg (sTake x i s) 0 40 = sg (sTaken x i s) 0 40 ∧ nl (sTake x i s) = nl (sTaken x i s) := by
  obtain ⟨g1, g2, g3, g4, g5, g6, g7, g8, g9, g10, g11⟩ := taken_all hC hP i0 i1 hi7
  have hBt := hP.2.2.2.2
  have h10 := hP.1.2.2.2.2.2.2.2.2.2
  have v1 : SW x (st (sTaken x i s) 0 10 (sg (sTaken x i s) 0 10 + 1)) (B + 1001) := g1.s0 (by decide) (by decide) (by decide) (by decide) (by decide) (Or.inr (by omega))
  obtain ⟨p1, p2, p3, p4⟩ := pass_all (x := x) (x.1 0 - sg (sTaken x i s) 0 13 + 1).toNat (sg (sTaken x i s) 0 13) _ v1 (g10.sx g1.2.2.2.2.2.1.1 (by omega)) (g11.sx (by omega)) (g2.sx (by omega))
  have e10 : sg (sTake x i s) 0 10 = sg s 0 10 + 1 := by
    rw [take_d, (pass_g ⟨by decide, by decide, by decide⟩ _ _ _).1, st_g, if_pos ⟨rfl, rfl⟩, g4]
  have e11 : sg (sTake x i s) 0 11 = i + 1 := by
    rw [take_d, (pass_g ⟨by decide, by decide, by decide⟩ _ _ _).1, st_g, if_neg (by omega), g5]
  have e40 : sg (sTake x i s) 0 40 = sg (sTaken x i s) 0 40 := by
    rw [take_d, (pass_g ⟨by decide, by decide, by decide⟩ _ _ _).1, st_g, if_neg (by omega)]
  have e41 : sg (sTake x i s) 0 41 = sg (sTaken x i s) 0 41 := by
    rw [take_d, (pass_g ⟨by decide, by decide, by decide⟩ _ _ _).1, st_g, if_neg (by omega)]
  have enl : nl (sTake x i s) = nl (sTaken x i s) := by
    rw [take_d]
    unfold nl
    rw [(pass_g (q := 10) ⟨by decide, by decide, by decide⟩ _ _ _).2]
    rfl
  have e13 := pass_13 (x := x) (x.1 0 - sg (sTaken x i s) 0 13 + 1).toNat (sg (sTaken x i s) 0 13) (st (sTaken x i s) 0 10 (sg (sTaken x i s) 0 10 + 1)) (by rw [g6]; exact hBt.2.1.1) (by rw [g6]; exact hBt.2.1.2) (by omega)
  rw [← take_d] at p1 p2 p3 p4 e13
  exact ⟨⟨p1, p2, p3, p4, ⟨by rw [e11]; have := hBt.1.1; omega, e13, fun z => by rw [e11] at z; have := hBt.1.1; omega, by rw [e10]; omega, by rw [e10, e11]; have := hBt.2.2.2.2; omega⟩⟩, e10, e11, by omega, by omega, by omega, e40, enl⟩
theorem na_ok (h : na x i < x.1 0) : i ≤ na x i ∧ ek (x.2.1 (na x i)) ≤ 7 := by
  have := na_b (x := x) (x.1 0 - i).toNat i rfl
  exact ⟨this.1, this.2.1 h⟩
theorem follow_mono (hC : CXX x) : ∀ (n : Nat) (i : Int) (s : TS) (B : Int), BP x s B → sg s 0 40 ≤ sg (sFollow x lim n i s) 0 40 ∧ sg s 0 41 ≤ sg (sFollow x lim n i s) 0 41 ∧ nl s ≤ nl (sFollow x lim n i s) := by
  intro n
  induction n with
  | zero => intro i s B _; exact ⟨Int.le_refl _, Int.le_refl _, Int.le_refl _⟩
  | succ n ih =>
    intro i s B hP
    unfold sFollow
    split
    · split
      · split
        · rename_i hna
          obtain ⟨z1, z2⟩ := na_ok hna
          obtain ⟨b1, b2, b3, b4, b5, b6, -⟩ := BP.take hC hP z1 hna z2
          obtain ⟨q1, q2, q3⟩ := ih (i + 1) _ _ b1
          exact ⟨by omega, by omega, by omega⟩
        · rw [st_g, if_neg (by omega), st_g, if_neg (by omega)]
          exact ⟨Int.le_refl _, Int.le_refl _, Int.le_refl _⟩
      · exact ⟨Int.le_refl _, Int.le_refl _, Int.le_refl _⟩
    · exact ⟨Int.le_refl _, Int.le_refl _, Int.le_refl _⟩
end RF27
