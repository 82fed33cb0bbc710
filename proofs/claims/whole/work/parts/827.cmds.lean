/-! THE TELLING, plain: how many commands there are in all, of the history and new ones. -/
section CMS
variable {x : CX} {s s' S : TS} {B : Int} {E E' : Int → Ev} {N M i j k e lim m κ : Int} {f : Int → Int → Int → Int} {g : Int → Int → Int → Int → Int}
theorem pz_00 : PZ f g 0 κ x s00 = 0 := by
  have h := pz_s00 (x := x) (f := f) (g := g)
  have e40 : sg s00 0 40 = 0 := rfl
  unfold PZ at h ⊢
  rw [e40] at h ⊢
  rw [Int.mul_zero] at h ⊢
  exact h
/-- what is kept from arrival to arrival -/
def CMx (x : CX) (s : TS) : Prop := JJ x False False s ∧ PZ f11 g11 0 1 x s ≤ 13 * ccn x.2.1 (sg s 0 11).toNat ∧ PZ f33 g33 0 1 x s ≤ nbk x.2.1 (sg s 0 11).toNat + 13 * ccn x.2.1 (sg s 0 11).toNat
theorem nbk_m : ∀ (d n : Nat), nbk E n ≤ nbk E (n + d) := by
  intro d n
  induction d with
  | zero => exact Int.le_refl _
  | succ d ih =>
    by_cases c : bkk (ek (E ((n + d : Nat) : Int)))
    · have := nbk_y c
      show nbk E n ≤ nbk E (n + d + 1)
      omega
    · have := nbk_n c
      show nbk E n ≤ nbk E (n + d + 1)
      omega
theorem cm_step (hC : CXX x) (hP : BP x s B) (hg : goes s = true) (i0 : sg s 0 11 ≤ i) (i1 : i < x.1 0) (hi7 : ek (x.2.1 i) ≤ 7) (h30 : sg (sTake x i s) 0 30 = 0) (hp : CMx x s) : CMx x (sTake x i s) := by
  obtain ⟨p1, p2, p3⟩ := hp
  have h11 := hP.2.2.2.2.1
  have e11 := take_11 hC hP i0 i1 hi7 h30
  have z1 := (pz_take (Z := True) (pc11 (x := x)) trivial pd11 hC hP p1 hg i0 i1 hi7 h30).1
  have z2 := (pz_take (Z := True) (pc33 (x := x)) trivial pd33 hC hP p1 hg i0 i1 hi7 h30).1
  have en : (i + 1).toNat = i.toNat + 1 := by omega
  have ei : ((i.toNat : Nat) : Int) = i := by omega
  have m1 := ccn_m (E := x.2.1) (i.toNat - (sg s 0 11).toNat) (sg s 0 11).toNat
  have m2 := nbk_m (E := x.2.1) (i.toNat - (sg s 0 11).toNat) (sg s 0 11).toNat
  rw [show (sg s 0 11).toNat + (i.toNat - (sg s 0 11).toNat) = i.toNat by omega] at m1 m2
  have ecc : ccn x.2.1 (i + 1).toNat = ccn x.2.1 i.toNat + if ek (x.2.1 i) = 7 then 1 else 0 := by
    rw [en]
    show ccn x.2.1 i.toNat + (if ek (x.2.1 (i.toNat : Int)) = 7 then 1 else 0) = _
    rw [ei]
  have hk0 := ek_nn (E := x.2.1) (i := i)
  have m3 : nbk x.2.1 i.toNat ≤ nbk x.2.1 (i + 1).toNat := by rw [en]; exact nbk_m 1 i.toNat
  refine ⟨p1.take hC hP i0 i1 hi7, ?_, ?_⟩
  · rw [e11, ecc]
    unfold nK at z1
    by_cases c0 : ek (x.2.1 i) = 0
    · rw [if_pos c0] at z1
      have z1 : PZ f11 g11 0 1 x (sTake x i s) ≤ PZ f11 g11 0 1 x s + (1 - 1) := z1
      rw [if_neg (by omega)]
      omega
    · rw [if_neg c0] at z1
      by_cases c4 : ek (x.2.1 i) = 4
      · rw [if_pos c4] at z1
        rw [if_neg (by omega)]
        omega
      · rw [if_neg c4] at z1
        by_cases c7 : ek (x.2.1 i) = 7
        · rw [if_pos c7] at z1
          rw [if_pos c7]
          omega
        · rw [if_neg c7] at z1
          rw [if_neg c7]
          have z1 : PZ f11 g11 0 1 x (sTake x i s) ≤ PZ f11 g11 0 1 x s + (if wtr s (ex (x.2.1 i)) < 0 then 0 else 0) := z1
          split at z1 <;> omega
  · rw [e11, ecc]
    unfold nK at z2
    by_cases c0 : ek (x.2.1 i) = 0
    · rw [if_pos c0] at z2
      have z2 : PZ f33 g33 0 1 x (sTake x i s) ≤ PZ f33 g33 0 1 x s + (f33 0 0 0 - 1) := z2
      rw [f33_0 (by omega)] at z2
      rw [if_neg (by omega)]
      omega
    · rw [if_neg c0] at z2
      by_cases c4 : ek (x.2.1 i) = 4
      · rw [if_pos c4] at z2
        rw [if_neg (by omega)]
        omega
      · rw [if_neg c4] at z2
        by_cases c7 : ek (x.2.1 i) = 7
        · rw [if_pos c7] at z2
          rw [if_pos c7]
          omega
        · rw [if_neg c7] at z2
          rw [if_neg c7]
          have z2 : PZ f33 g33 0 1 x (sTake x i s) ≤ PZ f33 g33 0 1 x s + (if wtr s (ex (x.2.1 i)) < 0 then 0 else 1) := z2
          have hb : bkk (ek (x.2.1 ((i.toNat : Nat) : Int))) := by rw [ei]; unfold bkk; omega
          have := nbk_y (E := x.2.1) hb
          rw [en, this]
          split at z2 <;> omega
/-- all commands, all that was opened -/
theorem told_cmd (hC : CXX x) (h2 : x.1 2 ≤ x.1 1) (h30 : sg (told x lim) 0 30 = 0) (hf : x.1 0 ≤ nc x (sg (told x lim) 0 12)) : iE g11 x.2.1 (x.1 0).toNat + iL g11 (x.1 0) (sn (told x lim)) ≤ sg (told x lim) 0 40 + 13 * ccn x.2.1 (x.1 0).toNat ∧ 2 * nop x.2.1 (x.1 0).toNat + iL g33 (x.1 0) (sn (told x lim)) ≤ sg (told x lim) 0 40 + nbk x.2.1 (x.1 0).toNat + 13 * ccn x.2.1 (x.1 0).toNat := by
  have e40 : nbk x.2.1 (sg s00 0 11).toNat = 0 := rfl
  have e41 : ccn x.2.1 (sg s00 0 11).toNat = 0 := rfl
  obtain ⟨s, B, v, ⟨-, p2, p3⟩, hP, he⟩ := told_ind hC (fun s B i hP hp hg _ i0 i1 i7 _ h3 => cm_step hC hP hg i0 i1 i7 h3 hp) ⟨jj00 h2, by rw [pz_00, e41]; decide, by rw [pz_00, e40, e41]; decide⟩ h30
  rw [he] at hf ⊢
  have e1 : sn (st s 0 28 v) = sn s := rfl
  have e2 : sg (st s 0 28 v) 0 40 = sg s 0 40 := by rw [st_g, if_neg (by omega)]
  have e3 : sg (st s 0 28 v) 0 12 = sg s 0 12 := by rw [st_g, if_neg (by omega)]
  rw [e3] at hf
  rw [e1, e2]
  have hb := hP.2.2.2.2.1
  have hb2 := hP.1.1
  have m1 := ccn_m (E := x.2.1) ((x.1 0).toNat - (sg s 0 11).toNat) (sg s 0 11).toNat
  have m2 := nbk_m (E := x.2.1) ((x.1 0).toNat - (sg s 0 11).toNat) (sg s 0 11).toNat
  rw [show (sg s 0 11).toNat + ((x.1 0).toNat - (sg s 0 11).toNat) = (x.1 0).toNat by omega] at m1 m2
  have gap : ∀ g, iE g x.2.1 (x.1 0).toNat = iE g x.2.1 (sg s 0 12).toNat := fun g => by
    have := iE_gap (g := g) (E := x.2.1) (p := sg s 0 12) hb2.1 (x.1 0 - sg s 0 12).toNat fun i i0 i1 => nc_gap (x := x) (i := sg s 0 12) i0 (by omega)
    rw [show sg s 0 12 + (((x.1 0 - sg s 0 12).toNat : Nat) : Int) = x.1 0 by omega] at this
    exact this
  have u1 := (pF_b01 (s := s) (f := f11) (fun _ _ _ => by show (0 : Int) ≤ 1 ∧ (1 : Int) ≤ 1; decide) 12 0).1
  have u2 := (pF_b01 (s := s) (f := f33) (fun _ _ _ => f33_b) 12 0).1
  have h33 := nop_33 (E := x.2.1) (x.1 0).toNat
  rw [gap g33] at h33
  rw [gap g11]
  unfold PZ pI at p2 p3
  rw [Int.zero_mul, Int.one_mul] at p2 p3
  exact ⟨by omega, by omega⟩
end CMS
