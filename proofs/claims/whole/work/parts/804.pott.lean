/-! THE TELLING, plain: a potential, V: a turn, all turns; what is noted; an arrival. -/
section PTE
variable {x : CX} {s s' s1 s2 : TS} {B : Int} {a b c d e i j v k h l w p r t o q u kd ω κ : Int} {f : Int → Int → Int → Int} {g : Int → Int → Int → Int → Int} {E : Int → Ev} {L : List (Int × Int × Int)} {F T Z : Prop} {Ok : TS → Prop}
theorem ok30 : OKH x (fun s => sg s 0 30 = 0) := by
  refine ⟨fun s s' h1 _ _ _ => ?_, fun s k a b h => u_cmd h, fun s v h => absurd h u_stuck⟩
  simp only
  rw [h1]
theorem far_cmd (h : x.1 0 ≤ nc x (sg s 0 12)) : x.1 0 ≤ nc x (sg (sCmd x kd a b s).2 0 12) := by
  have e1 : ∀ i : Int, x.1 0 ≤ i → x.1 0 ≤ nc x i := fun i hi => by rw [nc_end hi]; exact hi
  have estk : ∀ v : Int, sg (sStuck (st s 0 12 (nc x (sg s 0 12))) v) 0 12 = nc x (sg s 0 12) := fun v => by
    unfold sStuck
    rw [st_g, if_neg (by omega), st_g, if_neg (by omega), st_g, if_pos ⟨rfl, rfl⟩]
  unfold sCmd
  split
  · split
    · show x.1 0 ≤ nc x (sg (st (st s 0 12 (nc x (sg s 0 12))) 0 12 (nc x (sg s 0 12) + 1)) 0 12)
      rw [st_g, if_pos ⟨rfl, rfl⟩]
      exact e1 _ (by omega)
    · show x.1 0 ≤ nc x (sg (sStuck (st s 0 12 (nc x (sg s 0 12))) (nc x (sg s 0 12))) 0 12)
      rw [estk]; exact e1 _ h
  · split
    · show x.1 0 ≤ nc x (sg (sStuck (st s 0 12 (nc x (sg s 0 12))) (tb x (sg s 0 10))) 0 12)
      rw [estk]; exact e1 _ h
    · show x.1 0 ≤ nc x (sg (st s 0 12 (nc x (sg s 0 12))) 0 12)
      rw [st_g, if_pos ⟨rfl, rfl⟩]; exact e1 _ h
theorem okFar : OKH x (fun s => ¬ x.1 0 ≤ nc x (sg s 0 12)) := by
  refine ⟨fun s s' _ h2 _ _ => ?_, fun s k a b h hf => h (far_cmd hf), fun s v h hf => h ?_⟩
  · simp only
    rw [h2]
  · unfold sStuck
    rw [st_g, if_neg (by omega), st_g, if_neg (by omega)]
    exact hf
theorem okNF (h2 : x.1 2 ≤ x.1 1) : OKH x (fun s => ¬ x.1 0 ≤ nc x (sg s 0 12) ∧ sn s ≠ []) := by
  refine ⟨fun s s' _ h2 _ h4 => ?_, fun s k a b h => ⟨fun hf => h.1 (far_cmd hf), fun hn => ?_⟩, fun s v h => ⟨fun hf => h.1 ?_, h.2⟩⟩
  · simp only
    rw [h2, h4]
  · obtain ⟨q1, q2⟩ := h
    unfold sCmd at q1 q2
    by_cases c1 : nc x (sg s 0 12) < sSeen x s
    · rw [if_pos c1] at q1 q2
      by_cases c2 : x.1 4 = 1 ∨ eis (x.2.1 (nc x (sg s 0 12))) k a b = true
      · rw [if_pos c2] at q2; exact q2 hn
      · rw [if_neg c2] at q2; exact q2 hn
    · rw [if_neg c1] at q1 q2
      by_cases c2 : sg s 0 10 < x.1 1
      · rw [if_pos c2] at q2; exact q2 hn
      · rw [if_neg c2] at q1
        refine q1 ?_
        have hs : sSeen x s = x.1 0 := by
          unfold sSeen
          rw [if_neg (by omega)]
        show x.1 0 ≤ nc x (sg (st s 0 12 (nc x (sg s 0 12))) 0 12)
        rw [st_g, if_pos ⟨rfl, rfl⟩, nc_end (by omega)]
        omega
  · unfold sStuck
    rw [st_g, if_neg (by omega), st_g, if_neg (by omega)]
    exact hf
/-- what is asked back is asked of flags -/
theorem JJ.of (hJ : JJ x F T s) (ho : ∀ Ok : TS → Prop, OKH x Ok → Ok s' → Ok s) (h10 : sg s' 0 10 = sg s 0 10) : JJ x F T s' := by
  obtain ⟨j1, j2, j3, j4⟩ := hJ
  refine ⟨fun hn => ?_, fun hF => ?_, fun hT => by rw [h10]; exact j3 hT, j4⟩
  · by_cases hf : x.1 0 ≤ nc x (sg s' 0 12)
    · exact hf
    · have := ho _ (okNF j4) ⟨hf, hn⟩
      exact absurd (j1 this.2) this.1
  · by_cases hf : x.1 0 ≤ nc x (sg s' 0 12)
    · exact hf
    · exact absurd (j2 hF) (ho _ okFar hf)
theorem PZ_40 : PZ f g ω κ x (st s 0 40 (sg s 0 40 + 1)) = PZ f g ω κ x s - κ := by
  have e1 : pI g x (st s 0 40 (sg s 0 40 + 1)) = pI g x s := pI_same (by rw [st_g, if_neg (by omega)]) rfl
  have e2 : pF f (st s 0 40 (sg s 0 40 + 1)) 12 0 = pF f s 12 0 := pF_same (by rw [st_g, if_neg (by omega)]) fun i q i0 _ => by rw [st_g, if_neg (by omega)]
  have e3 : sg (st s 0 40 (sg s 0 40 + 1)) 0 41 = sg s 0 41 := by rw [st_g, if_neg (by omega)]
  have e4 : sg (st s 0 40 (sg s 0 40 + 1)) 0 40 = sg s 0 40 + 1 := by rw [st_g, if_pos ⟨rfl, rfl⟩]
  have e5 : Qn (st s 0 40 (sg s 0 40 + 1)) = Qn s := rfl
  unfold PZ
  rw [e1, e2, e3, e4, e5, Int.mul_add, Int.mul_one]
  omega
/-- a queue's length alone -/
theorem PZ_q (h0 : 0 ≤ k) (h3 : k < 4) {t : List Int} (hl : (t.length : Int) = (sq s k).length + d) : PZ f g ω κ x (stq s k t) = PZ f g ω κ x s - ω * d := by
  have e1 : pI g x (stq s k t) = pI g x s := rfl
  have e2 : pF f (stq s k t) 12 0 = pF f s 12 0 := pF_same rfl fun _ _ _ _ => rfl
  have eq : ∀ n : Int, sq (stq s k t) n = if n = k then t else sq s n := fun _ => rfl
  have e5 : Qn (stq s k t) = Qn s + d := by
    unfold Qn
    rw [eq, eq, eq, eq]
    have hk : k = 0 ∨ k = 1 ∨ k = 2 ∨ k = 3 := by omega
    rcases hk with rfl | rfl | rfl | rfl
    · rw [if_pos rfl, if_neg (by decide), if_neg (by decide), if_neg (by decide)]; omega
    · rw [if_neg (by decide), if_pos rfl, if_neg (by decide), if_neg (by decide)]; omega
    · rw [if_neg (by decide), if_neg (by decide), if_pos rfl, if_neg (by decide)]; omega
    · rw [if_neg (by decide), if_neg (by decide), if_neg (by decide), if_pos rfl]; omega
  have e3 : sg (stq s k t) 0 41 = sg s 0 41 := rfl
  have e4 : sg (stq s k t) 0 40 = sg s 0 40 := rfl
  unfold PZ
  rw [e1, e2, e3, e4, e5, show sg s 0 41 - (Qn s + d) = (sg s 0 41 - Qn s) - d by omega, Int.mul_sub]
  omega
theorem pz_turn (C : PC x f g ω κ F T Z) (hZ : sg s (2 + k) 7 = 0 → sg s (2 + k) 4 < x.1 5 → ((x.2.2 (sg s (2 + k) 4)).1 = 2 ∨ (x.2.2 (sg s (2 + k) 4)).1 = 3 ∨ (x.2.2 (sg s (2 + k) 4)).1 = 5 ∨ (x.2.2 (sg s (2 + k) 4)).1 = 15) → Z) (hH : QH x B F T s) (hx : CodeW x) (hs : x.1 3 ≤ x.1 0) (h4 : x.1 4 ≠ 1) (hN : 0 ≤ x.1 0) (hl2 : x.1 5 ≤ 24) (hT : TkW x s) (h9 : sg s 0 9 = 0) (k0 : 0 ≤ k) (k1 : k < sg s 0 5) (ha : sAble s k = true) (h30 : sg (sTurn x k s) 0 30 = 0) : PZ f g ω κ x (sTurn x k s) ≤ PZ f g ω κ x s ∧ QH x (B + 1) F T (sTurn x k s) := by
  have h5 := hH.n5
  have hb4 := hH.ln k0 k1
  have hbr := hH.1.br k0 k1
  refine ⟨?_, w_turn hx hs hN hl2 k0 k1 hT ha hH.1, hH.2.1.turn hx hs h4 hl2 hH.1 k0 k1, hH.2.2.1.of (fun Ok O hf => o_turn O hx hb4.1 h5.1 hf) (kp_turn h5.1 k0 (by unfold KQ; omega)), h30⟩
  unfold sTurn at h30 ⊢
  by_cases c7 : sg s (2 + k) 7 = 0
  · rw [if_neg (fun h => h c7)] at h30 ⊢
    by_cases cl : x.1 5 ≤ sg s (2 + k) 4
    · rw [if_pos cl] at h30 ⊢
      exact pz_end C hH hs h4 k0 k1 c7 h30
    · rw [if_neg cl] at h30 ⊢
      by_cases c6 : 60 ≤ sg s 0 29
      · rw [if_pos c6] at h30
        exact absurd h30 u_stuck
      · rw [if_neg c6] at h30 ⊢
        have h29 := hH.1.2.2.2.2.2.2.1
        have v1 := (hH.1.s29 (v := sg s 0 29 + 1) (by omega) (by omega)).s0 (j := 40) (v := sg s 0 40 + 1) (by decide) (by decide) (by decide) (by decide) (by decide) (Or.inl (by decide))
        have es : ∀ p q : Int, (p ≠ 0 ∨ (q ≠ 29 ∧ q ≠ 40)) → sg (st (st s 0 29 (sg s 0 29 + 1)) 0 40 (sg s 0 40 + 1)) p q = sg s p q := fun p q hh => by rw [st_g, if_neg (by omega), st_g, if_neg (by omega)]
        have hH1 : QH x B F T (st (st s 0 29 (sg s 0 29 + 1)) 0 40 (sg s 0 40 + 1)) := ⟨v1, hH.2.1.same (fun a i hh => es a i (by omega)) rfl, hH.2.2.1.same (es _ _ (by omega)) (es _ _ (by omega)) rfl, by rw [es _ _ (by omega)]; exact hH.2.2.2⟩
        have hL := hx (sg s (2 + k) 4) hb4.1 (by omega)
        have hp : PZ f g ω κ x (st (st s 0 29 (sg s 0 29 + 1)) 0 40 (sg s 0 40 + 1)) = PZ f g ω κ x s - κ := by
          have := PZ_40 (f := f) (g := g) (ω := ω) (κ := κ) (x := x) (s := st s 0 29 (sg s 0 29 + 1))
          have e40 : sg (st s 0 29 (sg s 0 29 + 1)) 0 40 = sg s 0 40 := by rw [st_g, if_neg (by omega)]
          have e29 : PZ f g ω κ x (st s 0 29 (sg s 0 29 + 1)) = PZ f g ω κ x s := PZ_sx (by omega)
          rw [e40, e29] at this
          exact this
        have z := pz_line C (fun hh => hZ c7 (by omega) hh) hH1 hs h4 hl2 (by rw [es _ _ (by omega)]; exact h9) k0 (by rw [es _ _ (by omega)]; exact k1) (by rw [es _ _ (by omega)]; exact c7) (by rw [es _ _ (by omega)]; omega) hL h30
        omega
  · rw [if_pos c7] at h30 ⊢
    have hpv := pv_i (f := f) k1
    have hl := hbr.2.2.1 c7
    have hA := C.2.2.2.2.1 (sg s (2 + k) 4) hb4.1 hl
    unfold sAble at ha
    rw [if_neg c7] at ha
    unfold sAwake
    by_cases c3 : sg s (2 + k) 7 = 3
    · rw [if_pos c3] at ha
      rw [if_pos c3]
      have hq := of_decide_eq_true ha
      have hn := hbr.2.2.2.1 c3
      have hS : PZ f g ω κ x (stq (st s 1 (bOf x (sg s (2 + k) 4)) ((sq s (sg s (2 + k) 8)).headD 0)) (sg s (2 + k) 8) (sq s (sg s (2 + k) 8)).tail) = PZ f g ω κ x s + ω := by
        have hlen : 0 < (sq s (sg s (2 + k) 8)).length := by
          cases hc : sq s (sg s (2 + k) 8) with
          | nil => exact absurd hc hq
          | cons a t => exact Nat.succ_pos _
        rw [PZ_q (d := -1) hn.1 hn.2 (by
          show ((sq s (sg s (2 + k) 8)).tail.length : Int) = ((sq s (sg s (2 + k) 8)).length : Int) + -1
          rw [List.length_tail]
          omega), PZ_sx (by omega)]
        omega
      have e : ∀ q : Int, sg (stq (st s 1 (bOf x (sg s (2 + k) 4)) ((sq s (sg s (2 + k) 8)).headD 0)) (sg s (2 + k) 8) (sq s (sg s (2 + k) 8)).tail) (2 + k) q = sg s (2 + k) q := fun q => (st_g (s := s) (a := 1) (j := bOf x (sg s (2 + k) 4)) (v := (sq s (sg s (2 + k) 8)).headD 0) (b := 2 + k) (i := q)).trans (if_neg (by omega))
      have e5 : sg (stq (st s 1 (bOf x (sg s (2 + k) 4)) ((sq s (sg s (2 + k) 8)).headD 0)) (sg s (2 + k) 8) (sq s (sg s (2 + k) 8)).tail) 0 5 = sg s 0 5 := (st_g (s := s) (a := 1) (j := bOf x (sg s (2 + k) 4)) (v := (sq s (sg s (2 + k) 8)).headD 0) (b := 0) (i := 5)).trans (if_neg (by omega))
      rw [PZ_go k0 (by omega) (by omega), hS, pv_same (s := s) e5 (e _) (e _) (e _), hpv, c3, C.e0 (w := 3) (by omega), C.e0 (w := 0) (j := sg (stq (st s 1 (bOf x (sg s (2 + k) 4)) ((sq s (sg s (2 + k) 8)).headD 0)) (sg s (2 + k) 8) (sq s (sg s (2 + k) 8)).tail) (2 + k) 8) (by omega)]
      omega
    · rw [if_neg c3] at ha
      rw [if_neg c3]
      have c4 : sg s (2 + k) 7 = 4 := by
        by_cases c : sg s (2 + k) 7 = 4
        · exact c
        · rw [if_neg c] at ha; exact absurd ha (by decide)
      rw [PZ_go k0 k1 h5.2, hpv, c4, C.e0 (w := 4) (by omega), C.e0 (w := 0) (j := sg s (2 + k) 8) (by omega)]
      omega
/-- through all turns of an arrival -/
theorem pz_on (C : PC x f g ω κ F T Z) (hZ : Z) (hx : CodeW x) (hs : x.1 3 ≤ x.1 0) (h4 : x.1 4 ≠ 1) (hN : 0 ≤ x.1 0) (hl2 : x.1 5 ≤ 24) : ∀ (n : Nat) (s : TS) (B : Int), QH x B F T s → TkW x s → sg (sOn x n s) 0 30 = 0 → PZ f g ω κ x (sOn x n s) ≤ PZ f g ω κ x s ∧ QH x (B + n) F T (sOn x n s) := by
  intro n
  induction n with
  | zero =>
    intro s B hH _ _
    refine ⟨Int.le_refl _, ?_⟩
    rw [show B + ((0 : Nat) : Int) = B by omega]
    exact hH
  | succ n ih =>
    intro s B hH hT h30
    have stay : PZ f g ω κ x s ≤ PZ f g ω κ x s ∧ QH x (B + ((n + 1 : Nat) : Int)) F T s := ⟨Int.le_refl _, hH.1.mono (by omega), hH.2⟩
    unfold sOn at h30 ⊢
    rcases first_b (s := s) with z | ⟨z1, z2, z3⟩
    · rw [if_pos (by omega)]; exact stay
    · rw [if_neg (by omega)] at h30 ⊢
      by_cases hg : goes s = true
      · rw [if_pos hg] at h30 ⊢
        have hW1 := w_turn hx hs hN hl2 z1 z2 hT z3 hH.1
        have hT1 : TkW x (sTurn x (first s) s) := by
          unfold TkW at hT ⊢
          rw [kp_turn hH.n5.1 z1 (by unfold KQ; omega)]
          exact hT
        have h30' : sg (sTurn x (first s) s) 0 30 = 0 := o_on ok30 hx hs hN hl2 n _ _ hW1 hT1 h30
        obtain ⟨y1, y2⟩ := pz_turn C (fun _ _ _ => hZ) hH hx hs h4 hN hl2 hT (goes_s hg).2 z1 z2 z3 h30'
        obtain ⟨y3, y4⟩ := ih _ _ y2 hT1 h30
        refine ⟨Int.le_trans y3 y1, ?_⟩
        rw [show B + ((n + 1 : Nat) : Int) = B + 1 + n by omega]
        exact y4
      · rw [if_neg hg]; exact stay
end PTE
