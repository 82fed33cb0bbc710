/-! THE CLASS'S TELLING: rows grow with lines and arrivals: an arrival. -/
section RWC
variable {m0 m m' : MM} {x : CX} {s s' s1 : TS} {B l : Int} {i j k : Int}
theorem take_4 : sg (sTake x i s) 0 40 = sg (sOn x 1000 (sNote x (ek (x.2.1 i)) (ex (x.2.1 i)) (ey (x.2.1 i)) (st (st (st s 0 28 i) 0 11 (i + 1)) 0 29 0))) 0 40 := by
  unfold sTake
  simp only
  rw [(pass_g (q := 40) (by decide) _ _ _).1, st_g, if_neg (by omega)]
theorem take_e2 (hC : CR m0 m s B) (X : XC m0 x) (hx : CxW x) (hN0 : 0 ≤ x.1 0) (hl2 : x.1 5 ≤ 24) (hB0 : B + 30 < 268435456) (hW : SW x s B) (hb : BtW x s) (hB : B + 30 * (3 * (sg (sTake x i s) 0 40 - sg s 0 40) + 26) < 268435456) (i0 : sg s 0 11 ≤ i) (i1 : i < x.1 0) (ik : ek (x.2.1 i) ≤ 7) (hN : x.1 0 + nl (sTake x i s) ≤ 524288) : ∃ m', takeF (mset (mset (mset m 16 8 i) 17 11 (i + 1)) 16 9 0) (m0 16 2) i = some (0, m') ∧ CR m0 m' (sTake x i s) (B + 30 * (3 * (sg (sTake x i s) 0 40 - sg s 0 40) + 26)) ∧ SW x (sTake x i s) (B + 30 * (3 * (sg (sTake x i s) 0 40 - sg s 0 40) + 26)) ∧ BtW x (sTake x i s) ∧ sg (sTake x i s) 0 10 = sg s 0 10 + 1 ∧ sg s 0 40 ≤ sg (sTake x i s) 0 40 := by
  have e40 := take_4 (x := x) (i := i) (s := s)
  generalize hWW : sg (sTake x i s) 0 40 = W at hB e40 ⊢
  clear hWW
  obtain ⟨hcw, ha, hs⟩ := hx
  obtain ⟨⟨b1, b2⟩, ⟨b3, b4⟩, b5, b6, b7⟩ := hb
  have i9 : 0 ≤ i := by omega
  obtain ⟨a1, a2, a3, a4⟩ := ha i i9 i1 ik
  have w1 : CR m0 (mset m 16 8 i) (st s 0 28 i) B := hC.p16 (j := 8) (by decide) (by decide)
  have w2 := w1.p17 (j := 11) (v := i + 1) (by decide) (by decide)
  have w3 : CR m0 (mset (mset (mset m 16 8 i) 17 11 (i + 1)) 16 9 0) (st (st (st s 0 28 i) 0 11 (i + 1)) 0 29 0) B := w2.p16 (j := 9) (by decide) (by decide)
  have v3 := ((hW.s0 (j := 28) (v := i) (by decide) (by decide) (by decide) (by decide) (by decide) (Or.inl (by decide))).s0 (j := 11) (v := i + 1) (by decide) (by decide) (by decide) (by decide) (by decide) (Or.inl (by decide))).s29 (v := 0) (by decide) (by decide)
  unfold sTake at hN ⊢
  simp only at hN ⊢
  generalize hS : st (st (st s 0 28 i) 0 11 (i + 1)) 0 29 0 = s3 at w3 v3 hN e40 ⊢
  generalize hM : mset (mset (mset m 16 8 i) 17 11 (i + 1)) 16 9 0 = m3 at w3 ⊢
  have q : ∀ j, j ≠ 28 → j ≠ 11 → j ≠ 29 → sg s3 0 j = sg s 0 j := fun j q1 q2 q3 => by
    subst hS
    rw [st_g, if_neg (by omega), st_g, if_neg (by omega), st_g, if_neg (by omega)]
  have q28 : sg s3 0 28 = i := by subst hS; rw [st_g, if_neg (by decide), st_g, if_neg (by decide), st_g, if_pos ⟨rfl, rfl⟩]
  have q11 : sg s3 0 11 = i + 1 := by subst hS; rw [st_g, if_neg (by decide), st_g, if_pos ⟨rfl, rfl⟩]
  obtain ⟨e2, H, e4, hk⟩ := X.hc w3.2.1
  have hn := H.n
  -- the notes' size
  have n2 := nl_on (x := x) 1000 (sNote x (ek (x.2.1 i)) (ex (x.2.1 i)) (ey (x.2.1 i)) s3)
  have n3 : ∀ s1 : TS, nl (sPass x (x.1 0 - sg s1 0 13 + 1).toNat (sg s1 0 13) (st s1 0 10 (sg s1 0 10 + 1))) = nl s1 := fun s1 => by
    unfold nl
    rw [(pass_g (q := 10) (by decide) _ _ _).2]
    rfl
  rw [n3] at hN
  have ex0 : 0 ≤ ex (x.2.1 i) := Int.natCast_nonneg _
  obtain ⟨m4, f1, f2, f3⟩ := note_e (k := ek (x.2.1 i)) (a := ex (x.2.1 i)) (b := ey (x.2.1 i)) w3 X v3 (by omega) hs (by omega) (Int.natCast_nonneg _) a1 (fun hh => ⟨ex0, (a3 hh).1, by
    rw [q 5 (by decide) (by decide) (by decide)]
    have := (a3 hh).2
    have := b5 (by omega)
    omega⟩) (fun hh => ⟨ex0, a2 hh⟩)
  have kq := fun j (hj : KQ j) => kp_note (x := x) (s := s3) (k := ek (x.2.1 i)) (a := ex (x.2.1 i)) (b := ey (x.2.1 i)) (q := j) (by rw [q 5 (by decide) (by decide) (by decide)]; exact hC.th.2.1) hj
  have hnk := (note_kr (x := x) (kd := ek (x.2.1 i)) (a := ex (x.2.1 i)) (b := ey (x.2.1 i)) (s := s3) (by rw [q 5 (by decide) (by decide) (by decide)]; exact hC.th.2.1)).1
  rw [q 40 (by decide) (by decide) (by decide)] at hnk
  generalize sNote x (ek (x.2.1 i)) (ex (x.2.1 i)) (ey (x.2.1 i)) s3 = s4 at f2 f3 kq hN n2 e40 hnk ⊢
  have hT : TkW x s4 := by
    unfold TkW
    rw [kq 28 (Or.inr (Or.inr (Or.inr rfl))), q28]
    exact ⟨i9, i1, a4⟩
  have hvl := vLeft_b (s := s4)
  obtain ⟨m5, g1, g2, g3, g4, g5⟩ := on_e2 X hcw hs hN0 hl2 1000 BIG 0 s4 m4 (B + 30) (by decide) (by decide) (BIG_g (by decide)) f2 f3 (by omega) hT hN
  have o11 := (g4 11 (Or.inr (Or.inl rfl))).trans ((kq 11 (Or.inr (Or.inl rfl))).trans q11)
  have o13 := (g4 13 (Or.inr (Or.inr (Or.inl rfl)))).trans ((kq 13 (Or.inr (Or.inr (Or.inl rfl)))).trans (q 13 (by decide) (by decide) (by decide)))
  have o10 := (g4 10 (Or.inl rfl)).trans ((kq 10 (Or.inl rfl)).trans (q 10 (by decide) (by decide) (by decide)))
  generalize sOn x 1000 s4 = s5 at g2 g3 o11 o13 o10 e40 g5 ⊢
  have w6 := g2.p17 (j := 10) (v := sg s5 0 10 + 1) (by decide) (by decide)
  have v6 := g3.s0 (j := 10) (v := sg s5 0 10 + 1) (by decide) (by decide) (by decide) (by decide) (by decide) (Or.inr (by omega))
  have t13 : sg (st s5 0 10 (sg s5 0 10 + 1)) 0 13 = sg s5 0 13 := by rw [st_g, if_neg (by decide)]
  obtain ⟨m6, p1, p2, p3⟩ := pass_e X (x.1 0 - sg s5 0 13 + 1).toNat BIG (sg s5 0 13) _ _ _ (by omega) (by omega) (by omega) (Nat.le_of_lt (BIG_g (by omega))) w6 v6
  have p13 := pass_13 (x := x) (x.1 0 - sg s5 0 13 + 1).toNat (sg s5 0 13) (st s5 0 10 (sg s5 0 10 + 1)) (by omega) (by omega) (by omega)
  have pg := fun j (hj : j ≠ 13 ∧ j ≠ 30 ∧ j ≠ 31) => (pass_g (x := x) hj (x.1 0 - sg s5 0 13 + 1).toNat (sg s5 0 13) (st s5 0 10 (sg s5 0 10 + 1))).1
  refine ⟨m6, ?_, p2.mono (by omega), p3.mono (by omega), ⟨?_, p13, ?_, ?_, ?_⟩, ?_, by omega⟩
  · unfold takeF fm_X4_goOn fm_X4_passTasks
    rw [bp_t (kind_e H i9 i1), bp_t (x_e H i9 i1), bp_t (y_e H i9 i1), bd_t f1, bp_t (first_e f2 f3), bd_t g1, up_t, g2.c17 (j := 10) (by decide) (by decide), lx_p, w32_id (by omega) (by omega), w6.c17 (j := 13) (by decide) (by decide), t13]
    exact p1
  · rw [pg 11 (by decide), st_g, if_neg (by decide), o11]
    omega
  · rw [pg 11 (by decide), st_g, if_neg (by decide), o11]
    intro hh
    omega
  · rw [pg 10 (by decide), st_g, if_pos ⟨rfl, rfl⟩]
    omega
  · rw [pg 10 (by decide), pg 11 (by decide), st_g, if_pos ⟨rfl, rfl⟩, st_g, if_neg (by decide)]
    omega
  · rw [pg 10 (by decide), st_g, if_pos ⟨rfl, rfl⟩]
    omega
end RWC
