/-! THE TELLING, plain: from arrival to arrival, for what is kept by each; what is new looks like commands; what ends is last. -/
section FID
variable {x : CX} {s s' s1 s2 S : TS} {B : Int} {a b c d e i j v k h l w p r t o q u kd lim ω κ γ : Int} {F T Z : Prop} {P : TS → Prop} {f : Int → Int → Int → Int} {g : Int → Int → Int → Int → Int} {δ : Int → Int}
theorem JJ.take (hJ : JJ x F False s) (hC : CXX x) (hP : BP x s B) (i0 : sg s 0 11 ≤ i) (i1 : i < x.1 0) (hi7 : ek (x.2.1 i) ≤ 7) : JJ x F False (sTake x i s) := by
  obtain ⟨j1, j2, j3, j4⟩ := hJ
  have ho : ∀ Ok : TS → Prop, OKH x Ok → Ok (sTake x i s) → Ok s := fun Ok O hf => o_noted O hC hP i0 i1 hi7 (o_taken O hC hP i0 i1 hi7 (o_take O hf))
  refine ⟨fun hn => ?_, fun hF => ?_, fun hT => hT.elim, j4⟩
  · by_cases hf : x.1 0 ≤ nc x (sg (sTake x i s) 0 12)
    · exact hf
    · have := ho _ (okNF j4) ⟨hf, hn⟩
      exact absurd (j1 this.2) this.1
  · by_cases hf : x.1 0 ≤ nc x (sg (sTake x i s) 0 12)
    · exact hf
    · exact absurd (j2 hF) (ho _ okFar hf)
theorem jj00 (h2 : x.1 2 ≤ x.1 1) : JJ x False False s00 := ⟨fun h => absurd rfl h, fun h => h.elim, fun h => h.elim, h2⟩
theorem st_id : st s 0 28 (sg s 0 28) = s := by
  show (mset s.1 0 28 (s.1 0 28), s.2) = s
  rw [mset_f fun b i hh => by rw [hh.1, hh.2]]
/-- what is kept from arrival to arrival holds at the end; or a last arrival is stuck -/
theorem fol_ind (hC : CXX x) (hstep : ∀ (s : TS) (B i : Int), BP x s B → P s → goes s = true → sg s 0 10 < lim → sg s 0 11 ≤ i → i < x.1 0 → ek (x.2.1 i) ≤ 7 → i = na x (sg s 0 11) → sg (sTake x i s) 0 30 = 0 → P (sTake x i s)) : ∀ (n : Nat) (i : Int) (s : TS) (B : Int), BP x s B → P s → sg s 0 10 = i → (∃ s' B' v, P s' ∧ BP x s' B' ∧ sFollow x lim n i s = st s' 0 28 v) ∨ ∃ s' B' j, P s' ∧ BP x s' B' ∧ goes s' = true ∧ sg s' 0 10 < lim ∧ (sg s' 0 11 ≤ j ∧ j < x.1 0 ∧ ek (x.2.1 j) ≤ 7) ∧ sFollow x lim n i s = sTake x j s' ∧ sg (sTake x j s') 0 30 ≠ 0 := by
  intro n
  induction n with
  | zero => intro i s B hP hp _; exact Or.inl ⟨s, B, _, hp, hP, st_id.symm⟩
  | succ n ih =>
    intro i s B hP hp h10
    unfold sFollow
    by_cases c1 : i < lim
    · rw [if_pos c1]
      by_cases c2 : goes s = true
      · rw [if_pos c2]
        by_cases c3 : na x (sg s 0 11) < x.1 0
        · rw [if_pos c3]
          have hna := na_ok c3
          have hb := BP.take (i := na x (sg s 0 11)) hC hP hna.1 c3 hna.2
          by_cases c4 : sg (sTake x (na x (sg s 0 11)) s) 0 30 = 0
          · exact ih (i + 1) _ _ hb.1 (hstep s B _ hP hp c2 (by omega) hna.1 c3 hna.2 rfl c4) (by rw [hb.2.1, h10])
          · rw [follow_stop (fun hg => c4 (goes_s hg).1)]
            exact Or.inr ⟨s, B, _, hp, hP, c2, by omega, ⟨hna.1, c3, hna.2⟩, rfl, c4⟩
        · rw [if_neg c3]; exact Or.inl ⟨s, B, _, hp, hP, rfl⟩
      · rw [if_neg c2]; exact Or.inl ⟨s, B, _, hp, hP, st_id.symm⟩
    · rw [if_neg c1]; exact Or.inl ⟨s, B, _, hp, hP, st_id.symm⟩
/-- where a telling isn't stuck -/
theorem told_ind (hC : CXX x) (hstep : ∀ (s : TS) (B i : Int), BP x s B → P s → goes s = true → sg s 0 10 < lim → sg s 0 11 ≤ i → i < x.1 0 → ek (x.2.1 i) ≤ 7 → i = na x (sg s 0 11) → sg (sTake x i s) 0 30 = 0 → P (sTake x i s)) (h0 : P s00) (h30 : sg (told x lim) 0 30 = 0) : ∃ s' B' v, P s' ∧ BP x s' B' ∧ told x lim = st s' 0 28 v := by
  rcases fol_ind hC hstep (lim.toNat + 1) 0 s00 1 (bp00 hC.2.2.2.2.1) h0 rfl with h | ⟨s', B', j, -, -, -, -, -, h5, h6⟩
  · exact h
  · have : told x lim = sTake x j s' := h5
    rw [this] at h30
    exact absurd h30 h6
/-- what is not as it should be counts one -/
noncomputable def gB (N : Int) (P : Int → Int → Int → Int → Prop) (r k a b : Int) : Int := @ite Int (r < N ∨ P r k a b) (Classical.propDecidable _) 0 1
variable {Q : Int → Int → Int → Int → Prop} {N : Int}
theorem gB_0 (h : r < N ∨ Q r k a b) : gB N Q r k a b = 0 := if_pos h
theorem gB_nn : 0 ≤ gB N Q r k a b := by
  unfold gB
  by_cases h : r < N ∨ Q r k a b
  · rw [if_pos h]; decide
  · rw [if_neg h]; decide
theorem gB_1 (h : gB N Q r k a b ≤ 0) : r < N ∨ Q r k a b := by
  by_cases c : r < N ∨ Q r k a b
  · exact c
  · have : gB N Q r k a b = 1 := if_neg c
    omega
theorem iE_nn (h : ∀ r k a b : Int, 0 ≤ g r k a b) {E : Int → Ev} : ∀ n : Nat, 0 ≤ iE g E n := by
  intro n
  induction n with
  | zero => exact Int.le_refl _
  | succ n ih =>
    show 0 ≤ iE g E n + (if _ then _ else _)
    split
    · have := h n (ek (E n)) (ex (E n)) (ey (E n)); omega
    · omega
theorem iL_nn (h : ∀ r k a b : Int, 0 ≤ g r k a b) : ∀ (L : List (Int × Int × Int)) (r : Int), 0 ≤ iL g r L := by
  intro L
  induction L with
  | nil => intro r; exact Int.le_refl _
  | cons z L ih =>
    intro r
    show 0 ≤ g r z.1 z.2.1 z.2.2 + iL g (r + 1) L
    have := ih (r + 1)
    have := h r z.1 z.2.1 z.2.2
    omega
theorem iL_mem (h : ∀ r k a b : Int, 0 ≤ g r k a b) : ∀ (L : List (Int × Int × Int)) (r : Int) (i : Nat) (z : Int × Int × Int), L[i]? = some z → g (r + i) z.1 z.2.1 z.2.2 ≤ iL g r L := by
  intro L
  induction L with
  | nil => intro r i z hz; exact absurd hz (by simp)
  | cons y L ih =>
    intro r i z hz
    show _ ≤ g r y.1 y.2.1 y.2.2 + iL g (r + 1) L
    cases i with
    | zero =>
      have e : y = z := by simpa using hz
      have := iL_nn h L (r + 1)
      rw [e, show r + ((0 : Nat) : Int) = r by omega]
      omega
    | succ i =>
      have := ih (r + 1) i z (by simpa using hz)
      have := h r y.1 y.2.1 y.2.2
      rw [show r + ((i + 1 : Nat) : Int) = r + 1 + i by omega]
      omega
theorem pz0 : PZ f00 g 0 0 x s = pI g x s := by
  unfold PZ
  rw [pF_0, Int.zero_mul, Int.zero_mul]
  omega
theorem nK0 : nK f00 0 (fun _ => 0) 0 s kd a = 0 := by
  unfold nK
  split
  · rfl
  · split
    · rfl
    · split
      · rfl
      · split <;> rfl
/-- what commands look like, with DROPs -/
def NwQ (Q : Int → Int → Int → Int → Prop) (N : Int) : Prop := (∀ r n : Int, N ≤ r → 0 ≤ n → n < r → Q r 11 n 0) ∧ ∀ r k a b : Int, N ≤ r → CmA k a b → (k = 8 ∨ k = 9 ∨ k = 10 ∨ (12 ≤ k ∧ k ≤ 16)) → Q r k a b
theorem pcB (hQ : NwQ Q (x.1 0)) : PC x f00 (gB (x.1 0) Q) 0 0 F T Z := by
  have hz : ∀ r n : Int, 0 ≤ n → n < r → gB (x.1 0) Q r 11 n 0 = 0 := fun r n h0 h1 => gB_0 (by
    by_cases c : r < x.1 0
    · exact Or.inl c
    · exact Or.inr (hQ.1 r n (by omega) h0 h1))
  have hc : ∀ r k a b : Int, CmA k a b → (k = 8 ∨ k = 9 ∨ k = 10 ∨ (12 ≤ k ∧ k ≤ 16)) → gB (x.1 0) Q r k a b = 0 := fun r k a b h0 h1 => gB_0 (by
    by_cases c : r < x.1 0
    · exact Or.inl c
    · exact Or.inr (hQ.2 r k a b (by omega) h0 h1))
  refine ⟨⟨trivial, Int.le_refl _⟩, fun _ _ _ _ => ⟨rfl, Int.le_refl _⟩, fun r w n l _ h0 h1 _ _ => ?_, fun _ _ _ _ _ _ => Int.le_refl _, fun _ _ _ => ⟨Int.le_refl _, Int.le_refl _, Int.le_refl _, Int.le_refl _⟩, fun _ _ _ _ _ _ => Int.le_refl _, fun r l k a b _ _ _ _ _ ha => ⟨fun _ hk => ?_, fun _ hk => ?_, fun hk => ?_⟩, fun r k a b _ _ _ ha k0 k1 => ?_⟩
  · rw [hz r n h0 h1]; exact Int.le_refl _
  · rw [hc r k a b ha (by omega)]; exact Int.le_refl _
  · rw [hk] at ha
    rw [hc r 8 a b ha (by omega)]; exact Int.le_refl _
  · rw [hc r k a b ha (by omega)]; exact Int.le_refl _
  · rw [hc r k a b ha (by omega)]; exact Int.le_refl _
theorem pdB (hQ : NwQ Q (x.1 0)) (hN : 0 ≤ x.1 0) : PD x f00 (gB (x.1 0) Q) True T (fun _ => 0) 0 := by
  refine ⟨Int.le_refl _, fun _ _ _ _ _ _ _ _ _ => Int.le_refl _, fun r w n l l' _ _ _ _ => ⟨fun _ h0 h1 hr _ => ?_, fun _ => Int.le_refl _⟩⟩
  rw [gB_0 (Or.inr (hQ.1 r n (hr trivial) h0 h1))]
  exact Int.le_refl _
theorem pdB' (hQ : NwQ Q (x.1 0)) : PD x f00 (gB (x.1 0) Q) F T (fun _ => 0) 0 := by
  refine ⟨Int.le_refl _, fun _ _ _ _ _ _ _ _ _ => Int.le_refl _, fun r w n l l' _ _ _ _ => ⟨fun _ h0 h1 _ _ => ?_, fun _ => Int.le_refl _⟩⟩
  have : gB (x.1 0) Q r 11 n 0 = 0 := gB_0 (by
    by_cases c : r < x.1 0
    · exact Or.inl c
    · exact Or.inr (hQ.1 r n (by omega) h0 h1))
  rw [this]
  exact Int.le_refl _
/-- what is new looks like commands -/
theorem told_nw (hC : CXX x) (h2 : x.1 2 ≤ x.1 1) (hQ : NwQ Q (x.1 0)) (h30 : sg (told x lim) 0 30 = 0) (i : Nat) (z : Int × Int × Int) (hz : (sn (told x lim))[i]? = some z) : Q (x.1 0 + i) z.1 z.2.1 z.2.2 := by
  have hk := told_ind (P := fun s => JJ x False False s ∧ pI (gB (x.1 0) Q) x s ≤ 0) hC (fun s B i hP hp hg _ i0 i1 i7 _ h3 => by
    refine ⟨hp.1.take hC hP i0 i1 i7, ?_⟩
    have := (pz_take (Z := True) (pcB hQ) trivial (pdB' hQ) hC hP hp.1 hg i0 i1 i7 h3).1
    rw [pz0, pz0, nK0] at this
    have := hp.2
    omega) ⟨jj00 h2, by
    unfold pI
    show (0 : Int) + 0 ≤ 0
    decide⟩ h30
  obtain ⟨s', B', v, ⟨-, h4⟩, -, h5⟩ := hk
  have hz' : (sn s')[i]? = some z := by rw [h5] at hz; exact hz
  have h6 := iL_mem (g := gB (x.1 0) Q) (fun _ _ _ _ => gB_nn) (sn s') (x.1 0) i z hz'
  have h7 := iE_nn (g := gB (x.1 0) Q) (E := x.2.1) (fun _ _ _ _ => gB_nn) (sg s' 0 12).toNat
  unfold pI at h4
  rcases gB_1 (by omega : gB (x.1 0) Q (x.1 0 + i) z.1 z.2.1 z.2.2 ≤ 0) with h8 | h8
  · omega
  · exact h8
/-- what ends the run is the last that is new -/
theorem told_en (hC : CXX x) (h30 : sg (told x lim) 0 30 = 0) : EnL (sn (told x lim)) := by
  have hk := told_ind (P := fun s => EnL (sn s) ∧ (sg s 0 9 = 0 → NEn (sn s))) hC (fun s B i hP hp hg _ i0 i1 i7 _ h3 => by
    have h := fi_taken (fi_en hC.2.2.2.2.1) hC hP i0 i1 i7 ((fi_en (x := x) hC.2.2.2.2.1).2.2.2.2 s hg hp)
    rw [take_d, (pass_n _ _ _).1, (pass_n _ _ _).2]
    have e9 : ∀ v : Int, sg (st (sTaken x i s) 0 10 v) 0 9 = sg (sTaken x i s) 0 9 := fun v => by rw [st_g, if_neg (by omega)]
    rw [e9]
    exact h) ⟨Or.inl (fun z hz => absurd hz (by simp [sn, s00])), fun _ z hz => absurd hz (by simp [sn, s00])⟩ h30
  obtain ⟨s', B', v, ⟨h4, -⟩, -, h5⟩ := hk
  rw [h5]
  exact h4
end FID
