/-! THE TELLING, plain: how many TAGs are new at most; signals that are counted and used. -/
section TGP
variable {x : CX} {s s' s1 S : TS} {B : Int} {a b d e i j k h l w r n q lim m L : Int} {F T Z : Prop} {E : Int → Ev}
def hT0 (L l : Int) : Int := if l < 0 then L else if l < L then L - l else 0
def fT0 (L w n l : Int) : Int := hT0 L l + if w = 0 then 0 else L - 1
def gT0 (L r k a b : Int) : Int := if k = 13 then L else 0
theorem hT0_b (h1 : 1 ≤ L) : 0 ≤ hT0 L l ∧ hT0 L l ≤ L := by unfold hT0; split <;> (try split) <;> omega
theorem hT0_s (l0 : 0 ≤ l) (hl : l < L) : hT0 L l = L - l := by unfold hT0; rw [if_neg (by omega), if_pos hl]
theorem hT0_n (h1 : 1 ≤ L) (l0 : 0 ≤ l) (hl : l < L) : hT0 L (l + 1) = hT0 L l - 1 := by
  rw [hT0_s l0 hl]
  unfold hT0
  rw [if_neg (by omega)]
  split <;> omega
theorem gT0_nn (h1 : 1 ≤ L) : 0 ≤ gT0 L r k a b ∧ gT0 L r k a b ≤ L := by unfold gT0; split <;> omega
theorem fT0_b (h1 : 1 ≤ L) : 0 ≤ fT0 L w n l ∧ fT0 L w n l ≤ 2 * L := by
  have := hT0_b (l := l) h1
  unfold fT0
  split <;> omega
theorem pcT0 (h1 : 1 ≤ L) (h5 : x.1 5 ≤ L) : PC x (fT0 L) (gT0 L) L (L - 1) F T Z := by
  have e0 : ∀ w n l : Int, w ≠ 0 → fT0 L w n l = hT0 L l + (L - 1) := fun w n l hw => by unfold fT0; rw [if_neg hw]
  have e1 : ∀ n l : Int, fT0 L 0 n l = hT0 L l := fun n l => by unfold fT0; rw [if_pos rfl]; omega
  have g0 : ∀ r k a b : Int, k ≠ 13 → gT0 L r k a b = 0 := fun r k a b hk => if_neg hk
  refine ⟨⟨trivial, by omega⟩, fun w n l hw => ⟨rfl, (fT0_b h1).1⟩, fun r w n l hw _ _ _ _ => ?_, fun l l' l0 l1 l2 _ => ?_, fun l l0 l1 => ?_, fun l l' l0 l1 l2 _ => ?_, fun r l k a b _ _ _ l0 l1 _ => ⟨fun _ hk => ?_, fun _ hk => ?_, fun hk => ?_⟩, fun r k a b _ _ _ _ k0 k1 => ?_⟩
  · rw [g0 _ _ _ _ (by decide)]
    exact (fT0_b h1).1
  · rw [e1, e1]
    have := (hT0_b (l := l') h1).2
    rw [hT0_s l0 (show l < L by omega)]
    omega
  · rw [e0 3 _ _ (by decide), e0 4 _ _ (by decide), e1, e1, hT0_n h1 l0 (by omega)]
    exact ⟨by omega, by omega, by omega, by omega⟩
  · rw [e1, e1, e1, hT0_n h1 l0 (show l < L by omega)]
    have := (hT0_b (l := l') h1).2
    omega
  · rw [e0 1 _ _ (by decide), e1, g0 _ _ _ _ (by omega)]
    omega
  · rw [e0 2 _ _ (by decide), e1, g0 _ _ _ _ (by omega)]
    omega
  · rw [e1, e1, hT0_n h1 l0 (show l < L by omega)]
    have := (gT0_nn (r := r) (k := k) (a := a) (b := b) h1).2
    omega
  · rw [g0 _ _ _ _ (by omega)]
    exact Int.le_refl _
theorem pdT0 (h1 : 1 ≤ L) (h5 : x.1 5 ≤ L) : PD x (fT0 L) (gT0 L) F T (fun _ => 0) L := by
  have e0 : ∀ w n l : Int, w ≠ 0 → fT0 L w n l = hT0 L l + (L - 1) := fun w n l hw => by unfold fT0; rw [if_neg hw]
  have e1 : ∀ n l : Int, fT0 L 0 n l = hT0 L l := fun n l => by unfold fT0; rw [if_pos rfl]; omega
  have g0 : ∀ r k a b : Int, k ≠ 13 → gT0 L r k a b = 0 := fun r k a b hk => if_neg hk
  refine ⟨by omega, fun w n l l' hw l0 l1 l2 _ => ?_, fun r w n l l' _ _ l2 _ => ⟨fun hw _ _ _ _ => ?_, fun hw => ?_⟩⟩
  · have := (hT0_b (l := l') h1).2
    rw [e1, e0 _ _ _ (by omega), hT0_s l0 (show l < L by omega)]
    show hT0 L l' ≤ L - l + (L - 1) + 0
    omega
  · have := (hT0_b (l := l') h1).2
    have := (fT0_b (w := w) (n := n) (l := l) h1).1
    rw [g0 _ _ _ _ (by decide), e1]
    omega
  · have := (hT0_b (l := l') h1).2
    have := (fT0_b (w := w) (n := 0) (l := l) h1).1
    rw [e1]
    omega
theorem pF_bT (h1 : 1 ≤ L) : ∀ (n : Nat) (k : Int), 0 ≤ pF (fT0 L) s n k ∧ pF (fT0 L) s n k ≤ 2 * L * n := by
  intro n
  induction n with
  | zero => intro k; exact ⟨Int.le_refl _, by show (0 : Int) ≤ 2 * L * 0; omega⟩
  | succ n ih =>
    intro k
    obtain ⟨i1, i2⟩ := ih (k + 1)
    have h2 : 0 ≤ pv (fT0 L) s k ∧ pv (fT0 L) s k ≤ 2 * L := by
      unfold pv
      split
      · exact fT0_b h1
      · omega
    refine ⟨by show 0 ≤ pv (fT0 L) s k + pF (fT0 L) s n (k + 1); omega, ?_⟩
    show pv (fT0 L) s k + pF (fT0 L) s n (k + 1) ≤ 2 * L * ((n + 1 : Nat) : Int)
    rw [show ((n + 1 : Nat) : Int) = (n : Int) + 1 by omega, Int.mul_add, Int.mul_one]
    omega
theorem ntg_L : ∀ (l : List (Int × Int × Int)) (r : Int), iL (gT0 L) r l = L * ntg l := by
  intro l
  induction l with
  | nil => intro r; show (0 : Int) = L * 0; rw [Int.mul_zero]
  | cons z l ih =>
    intro r
    show (if z.1 = 13 then L else 0) + iL (gT0 L) (r + 1) l = L * ((if z.1 = 13 then 1 else 0) + ntg l)
    rw [ih, Int.mul_add]
    split
    · rw [Int.mul_one]
    · rw [Int.mul_zero]
theorem ntg_b : ∀ l : List (Int × Int × Int), 0 ≤ ntg l ∧ ntg l ≤ l.length := by
  intro l
  induction l with
  | nil => exact ⟨Int.le_refl _, Int.le_refl _⟩
  | cons z l ih =>
    show 0 ≤ (if z.1 = 13 then 1 else 0) + ntg l ∧ (if z.1 = 13 then 1 else 0) + ntg l ≤ ((l.length + 1 : Nat) : Int)
    split <;> omega
theorem mul_mn (a0 : 0 ≤ a) (h : d ≤ e) : a * d ≤ a * e := Int.mul_le_mul_of_nonneg_left h a0
/-- what a telling's TAGs come to: X lines more, D' signals used -/
theorem tg_key {t p1 p2 tl X D' Y c : Int} (h1 : 1 ≤ L) (hz : L * t + p2 + L * D' - (L - 1) * X ≤ L * tl + p1 + 1 + 13 * L * c) (hp2 : 0 ≤ p2) (hp1 : p1 ≤ 24 * L) (htl : tl ≤ 87) (hX : X ≤ 60 * Y + 781 + 60 * c) (hY : Y ≤ D') (c0 : 0 ≤ c) (c1 : c ≤ 1) : L * t ≤ (59 * L - 60) * Y + 965 * L := by
  have q1 := mul_mn (a := L - 1) (by omega) hX
  have q2 := mul_mn (a := L) (by omega) htl
  have q3 := mul_mn (a := L) (by omega) hY
  have e1 : (L - 1) * (60 * Y + 781 + 60 * c) = 60 * (L * Y) - 60 * Y + (781 * L - 781) + 60 * (L * c) - 60 * c := by
    rw [Int.sub_mul, Int.one_mul, Int.mul_add, Int.mul_add, Int.mul_left_comm L 60 Y, Int.mul_left_comm L 60 c]
    omega
  have e2 : (59 * L - 60) * Y = 59 * (L * Y) - 60 * Y := by rw [Int.sub_mul, Int.mul_assoc]
  have e3 : 13 * L * c = 13 * (L * c) := by rw [Int.mul_assoc]
  have e4 : L * c ≤ L := by
    have := mul_mn (a := L) (by omega) c1
    rw [Int.mul_one] at this
    exact this
  have e5 : 0 ≤ L * c := Int.mul_nonneg (by omega) c0
  rw [e1] at q1
  rw [e2]
  rw [e3] at hz
  omega
/-- from where on all is met; signals used since -/
def NB2 (x : CX) (s : TS) : Prop := LNx x s ∧ (EnL (sn s) ∧ (sg s 0 9 = 0 → NEn (sn s))) ∧ (sg s 0 10 < x.1 1 → sn s = []) ∧ 0 ≤ cns s ∧ (¬ far1 x s ∨ ∃ s1 : TS, (far1 x s1 ∧ x.1 1 ≤ cA x.2.1 (sg s1 0 11).toNat) ∧ (nl s1 ≤ 87 ∧ sg s1 0 12 ≤ sg s 0 12) ∧ (0 ≤ sg s1 0 5 ∧ sg s1 0 5 ≤ 12) ∧ (0 ≤ cns s1 ∧ cns s1 ≤ cns s) ∧ SG2 x s1 s)
theorem nb2_step (hC : CXX x) (hx : HLn x) (hP : BP x s B) (hg : goes s = true) (i0 : sg s 0 11 ≤ i) (i1 : i < x.1 0) (hi7 : ek (x.2.1 i) ≤ 7) (hi : i = na x (sg s 0 11)) (h30 : sg (sTake x i s) 0 30 = 0) (hp : NB2 x s) : NB2 x (sTake x i s) := by
  obtain ⟨p1, p2, p3, pc, p4⟩ := hp
  have q1 := ln_step hC hx hP hg i0 i1 hi7 hi h30 p1
  have hcn := cns_take hC hP p1.1.1 hg i0 i1 hi7 h30
  have hf : first s < 0 := p1.1.2.resolve_right (fun h => h hg)
  have h11 := hP.2.2.2.2.1
  have hm12 := mono12 hC hP i0 i1 hi7
  have e11 := take_11 hC hP i0 i1 hi7 h30
  have s10 := p1.2.2.2.1.2.2
  have s10' := q1.2.2.2.1.2.2
  have hmn := cA_mn (E := x.2.1) ((i + 1).toNat - (sg s 0 11).toNat) (sg s 0 11).toNat
  rw [show (sg s 0 11).toNat + ((i + 1).toNat - (sg s 0 11).toNat) = (i + 1).toNat by omega] at hmn
  rw [e11] at s10'
  have hn' : sg s 0 10 < x.1 1 → sn (sTake x i s) = [] := fun h => nil_take hC hP i0 i1 hi7 (p3 h) h
  have q2 := en_take hC hP hg i0 i1 hi7 p2
  have hh := (BP.take hC hP i0 i1 hi7).1.1.2.2.2.2.2.2.2.1
  refine ⟨q1, q2, fun h => hn' (by omega), Int.le_trans pc hcn, ?_⟩
  by_cases hfr : far1 x s
  · rcases p4 with p4 | ⟨s1, a1, a2, a3, a5, a4⟩
    · exact absurd hfr p4
    · exact Or.inr ⟨s1, a1, ⟨a2.1, by omega⟩, a3, ⟨a5.1, Int.le_trans a5.2 hcn⟩, sg2_step hC hx hP hg i0 i1 hi7 hi h30 ⟨p1.1.1.1, fun _ => hfr.1, fun h => h.elim, p1.1.1.2.2.2⟩ hf a4⟩
  · by_cases hfs : far1 x (sTake x i s)
    · have hsn : sn s = [] ∨ sg s 0 10 < x.1 1 := by
        by_cases c : sg s 0 10 < x.1 1
        · exact Or.inr c
        · refine Or.inl (Classical.byContradiction fun hh => hfr ⟨p1.1.1.1 hh, by omega⟩)
      have hs0 : sn s = [] := hsn.elim id p3
      refine Or.inr ⟨sTake x i s, ⟨hfs, by rw [e11, ← s10']; exact hfs.2⟩, ⟨nw_first hC hP p1.1.1 hg i0 i1 hi7 h30 hs0 q2.1, Int.le_refl _⟩, hh, ⟨Int.le_trans pc hcn, Int.le_refl _⟩, sg2_rf (by rw [e11]; omega)⟩
    · exact Or.inl hfs
theorem nb200 (hC : CXX x) (hx : HLn x) (h2 : x.1 2 ≤ x.1 1) : NB2 x s00 := by
  have hc : 0 ≤ cns s00 := by unfold cns Qn; decide
  refine ⟨ln00 hC hx h2, ⟨Or.inl (fun z hz => absurd hz (by simp [sn, s00])), fun _ z hz => absurd hz (by simp [sn, s00])⟩, fun _ => rfl, hc, ?_⟩
  by_cases c : far1 x s00
  · exact Or.inr ⟨s00, ⟨c, c.2⟩, ⟨by show ((0 : Nat) : Int) ≤ 87; decide, Int.le_refl _⟩, ⟨Int.le_refl _, by show (0 : Int) ≤ 12; decide⟩, ⟨hc, Int.le_refl _⟩, sg2_rf (Int.le_refl _)⟩
  · exact Or.inl c
/-- HOW MUCH IS NEW: by signals that are counted for the first time, and used; TAGs too -/
theorem told_new2 (hC : CXX x) (hx : HLn x) (h2 : x.1 2 ≤ x.1 1) (h30 : sg (told x lim) 0 30 = 0) (hcc : ccn x.2.1 (sg (told x lim) 0 11).toNat ≤ 1) : sn (told x lim) = [] ∨ ∃ q Δ : Int, (0 ≤ q ∧ q ≤ sg (told x lim) 0 11) ∧ x.1 1 ≤ cA x.2.1 q.toNat ∧ (0 ≤ Δ ∧ Δ ≤ csg x.2.1 (sg (told x lim) 0 11).toNat - csg x.2.1 q.toNat ∧ Δ + Qn (told x lim) ≤ csg x.2.1 (sg (told x lim) 0 11).toNat) ∧ nl (told x lim) ≤ 60 * Δ + 1073 ∧ iL g33 (x.1 0) (sn (told x lim)) ≤ 60 * Δ + 1073 ∧ ∀ L : Int, 1 ≤ L → x.1 5 ≤ L → L * ntg (sn (told x lim)) ≤ (59 * L - 60) * Δ + 965 * L := by
  obtain ⟨S, B', v, ⟨p1, p2, p3, pc, p4⟩, hP, he⟩ := told_ind (P := NB2 x) hC (fun s B i hP hp hg _ i0 i1 i7 hi h3 => nb2_step hC hx hP hg i0 i1 i7 hi h3 hp) (nb200 hC hx h2) h30
  rw [he] at hcc ⊢
  have en : sn (st S 0 28 v) = sn S := rfl
  have enl : nl (st S 0 28 v) = nl S := rfl
  have e11 : sg (st S 0 28 v) 0 11 = sg S 0 11 := by rw [st_g, if_neg (by omega)]
  have eQ : Qn (st S 0 28 v) = Qn S := rfl
  rw [e11] at hcc
  rw [en, enl, e11, eQ]
  rcases p4 with p4 | ⟨s1, a1, a2, a3, a5, a4⟩
  · refine Or.inl ?_
    by_cases c : sg S 0 10 < x.1 1
    · exact p3 c
    · exact Classical.byContradiction fun hh => p4 ⟨p1.1.1.1 hh, by omega⟩
  · obtain ⟨⟨b1, b2⟩, b, b0, bw, g2, g2', g3⟩ := a4
    have w1 := Wc_b (x := x) a3
    have w2 := Wc_b (x := x) hP.1.2.2.2.2.2.2.2.1
    have z1 := g3 f11 g11 0 1 0 1 pc11 pd11 (Int.le_refl _)
    have z2 := g3 f33 g33 0 1 1 1 pc33 pd33 (by decide)
    have i1 := iE_mn (g := g11) (E := x.2.1) (fun r k a b => (g11_nn (r := r) (k := k) (a := a) (b := b)).1) ((sg S 0 12).toNat - (sg s1 0 12).toNat) (sg s1 0 12).toNat
    have i2 := iE_mn (g := g33) (E := x.2.1) g33_nn ((sg S 0 12).toNat - (sg s1 0 12).toNat) (sg s1 0 12).toNat
    rw [show (sg s1 0 12).toNat + ((sg S 0 12).toNat - (sg s1 0 12).toNat) = (sg S 0 12).toNat by omega] at i1 i2
    have hb1 : ∀ w n l : Int, 0 ≤ f11 w n l ∧ f11 w n l ≤ 1 := fun _ _ _ => by show (0 : Int) ≤ 1 ∧ (1 : Int) ≤ 1; decide
    have hb2 : ∀ w n l : Int, 0 ≤ f33 w n l ∧ f33 w n l ≤ 1 := fun _ _ _ => f33_b
    have u1 := (pF_b01 (s := S) hb1 12 0).1
    have u2 := (pF_b01 (s := s1) hb1 12 0).2
    have u3 := (pF_b01 (s := S) hb2 12 0).1
    have u4 := (pF_b01 (s := s1) hb2 12 0).2
    have j1 := iL_le (g := g11) (c := 1) (fun r k a b => (g11_nn (r := r) (k := k) (a := a) (b := b)).2) (sn s1) (x.1 0)
    have j2 := iL_le (g := g33) (c := 2) (fun r k a b => by unfold g33; split <;> decide) (sn s1) (x.1 0)
    have j3 := iL_11 (sn S) (x.1 0) p2.1
    have hl : ((sn s1).length : Int) ≤ 87 := a2.1
    have k1 : ∀ z : Int, z ≤ 0 → (if sg s1 0 11 = 0 ∧ 0 < sg S 0 11 then z else 0) ≤ 0 := fun z hz => by split <;> omega
    have k2 := k1 (f11 0 0 0 - 1) (by decide)
    have k3 := k1 (f33 0 0 0 - 1) (by decide)
    have k4 : (if sg s1 0 11 = 0 ∧ 0 < sg S 0 11 then (61 : Int) else 0) ≤ 61 := by split <;> omega
    have hm := csg_m (E := x.2.1) ((sg S 0 11).toNat - (sg s1 0 11).toNat) (sg s1 0 11).toNat
    have hmc := ccn_m (E := x.2.1) ((sg S 0 11).toNat - (sg s1 0 11).toNat) (sg s1 0 11).toNat
    rw [show (sg s1 0 11).toNat + ((sg S 0 11).toNat - (sg s1 0 11).toNat) = (sg S 0 11).toNat by omega] at hm hmc
    have hc1 := (ccn_n (E := x.2.1) (sg s1 0 11).toNat)
    have h41 := p1.2.2.2.2.1
    obtain ⟨Δ, hΔ⟩ : ∃ Δ : Int, (0 ≤ Δ ∧ Δ ≤ csg x.2.1 (sg S 0 11).toNat - csg x.2.1 (sg s1 0 11).toNat ∧ Δ ≤ cns S - cns s1) ∧ (Δ = csg x.2.1 (sg S 0 11).toNat - csg x.2.1 (sg s1 0 11).toNat ∨ Δ = cns S - cns s1) := by
      by_cases c : csg x.2.1 (sg S 0 11).toNat - csg x.2.1 (sg s1 0 11).toNat ≤ cns S - cns s1
      · exact ⟨_, ⟨by omega, Int.le_refl _, c⟩, Or.inl rfl⟩
      · exact ⟨cns S - cns s1, ⟨by omega, by omega, Int.le_refl _⟩, Or.inr rfl⟩
    have hX : sg S 0 40 - sg s1 0 40 ≤ 60 * Δ + 781 + 60 * (ccn x.2.1 (sg S 0 11).toNat - ccn x.2.1 (sg s1 0 11).toNat) := by omega
    have hQn : cns S = sg S 0 41 - Qn S := rfl
    refine Or.inr ⟨sg s1 0 11, Δ, ⟨b1, b2⟩, a1.2, ⟨hΔ.1.1, hΔ.1.2.1, by omega⟩, ?_, ?_, fun L h1 h5 => ?_⟩
    · unfold PZ pI at z1
      rw [Int.zero_mul, Int.zero_mul, Int.zero_mul, Int.one_mul, Int.one_mul] at z1
      show ((sn S).length : Int) ≤ _
      omega
    · unfold PZ pI at z2
      rw [Int.zero_mul, Int.zero_mul, Int.one_mul, Int.one_mul, Int.one_mul] at z2
      omega
    · have z3 := g3 (fT0 L) (gT0 L) L (L - 1) 0 L (pcT0 h1 h5) (pdT0 h1 h5) (Int.le_refl _)
      have i3 := iE_mn (g := gT0 L) (E := x.2.1) (fun r k a b => (gT0_nn (r := r) (k := k) (a := a) (b := b) h1).1) ((sg S 0 12).toNat - (sg s1 0 12).toNat) (sg s1 0 12).toNat
      rw [show (sg s1 0 12).toNat + ((sg S 0 12).toNat - (sg s1 0 12).toNat) = (sg S 0 12).toNat by omega] at i3
      have u5 := (pF_bT (s := S) h1 12 0).1
      have u6 := (pF_bT (s := s1) h1 12 0).2
      have k5 : (if sg s1 0 11 = 0 ∧ 0 < sg S 0 11 then fT0 L 0 0 0 - (L - 1) else 0) ≤ 1 := by
        have : fT0 L 0 0 0 = L := by
          unfold fT0
          rw [hT0_s (Int.le_refl _) (by omega), if_pos rfl]
          omega
        split <;> omega
      have t1 := (ntg_b (sn s1)).2
      unfold PZ pI at z3
      rw [ntg_L, ntg_L, Int.zero_mul] at z3
      refine tg_key (p1 := pF (fT0 L) s1 12 0) (p2 := pF (fT0 L) S 12 0) (tl := ntg (sn s1)) (X := sg S 0 40 - sg s1 0 40) (D' := cns S - cns s1) (c := ccn x.2.1 (sg S 0 11).toNat - ccn x.2.1 (sg s1 0 11).toNat) h1 ?_ u5 (by omega) (by omega) hX hΔ.1.2.2 (by omega) (by omega)
      have y1 : L * (cns S - cns s1) = L * (sg S 0 41 - Qn S) - L * (sg s1 0 41 - Qn s1) := by
        rw [← Int.mul_sub]
        rfl
      have y2 : (L - 1) * (sg S 0 40 - sg s1 0 40) = (L - 1) * sg S 0 40 - (L - 1) * sg s1 0 40 := Int.mul_sub _ _ _
      rw [y1, y2]
      generalize 13 * L * (ccn x.2.1 (sg S 0 11).toNat - ccn x.2.1 (sg s1 0 11).toNat) = y3 at z3 ⊢
      omega
end TGP
