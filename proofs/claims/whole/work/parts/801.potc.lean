/-! THE TELLING, plain: a potential, II: what is asked of its parts; commands, drops. -/
section PTB
variable {x : CX} {s s' s1 s2 : TS} {B : Int} {a b c d e i j v k h l w p r t o q u kd m ω κ : Int} {f : Int → Int → Int → Int} {g : Int → Int → Int → Int → Int} {E : Int → Ev} {L : List (Int × Int × Int)} {F T Z : Prop}
/-- what is commanded looks so -/
def CmA (k a b : Int) : Prop := (k = 8 → (0 ≤ a ∧ a ≤ 3) ∧ 0 ≤ b ∧ b ≤ 999) ∧ (k = 9 → (1 ≤ a ∧ a ≤ 100) ∧ b = 0) ∧ (k = 10 → (0 ≤ a ∧ a ≤ 3) ∧ 0 ≤ b ∧ b ≤ 999) ∧ (k = 12 → (0 ≤ a ∧ a ≤ 9) ∧ b = 0) ∧ (k = 13 ∨ k = 14 ∨ k = 16 → (0 ≤ a ∧ a ≤ 999) ∧ b = 0) ∧ (k = 15 → a = 0 ∧ b = 0)
/-- what is asked of the parts of a potential -/
def PC (x : CX) (f : Int → Int → Int → Int) (g : Int → Int → Int → Int → Int) (ω κ : Int) (F T Z : Prop) : Prop :=
  (True ∧ 0 ≤ κ) ∧ (∀ w n l : Int, ¬ (w = 1 ∨ w = 2) → f w n l = f w 0 l ∧ 0 ≤ f w 0 l) ∧
  (∀ r w n l : Int, (w = 1 ∨ w = 2) → 0 ≤ n → n < r → (F → x.1 0 ≤ r) → (T → r < x.1 0) → g r 11 n 0 ≤ f w n l) ∧
  (∀ l l' : Int, 0 ≤ l → l < x.1 5 → 0 ≤ l' → l' ≤ 24 → f 0 0 l' ≤ f 0 0 l + κ) ∧
  (∀ l : Int, 0 ≤ l → l < x.1 5 → f 3 0 l ≤ f 0 0 l + κ ∧ f 4 0 l ≤ f 0 0 l + κ ∧ f 0 0 (l + 1) + ω ≤ f 3 0 l ∧ f 0 0 (l + 1) ≤ f 4 0 l) ∧
  (∀ l l' : Int, 0 ≤ l → l < x.1 5 → 0 ≤ l' → l' ≤ 23 → f 0 0 (l + 1) + f 0 0 l' ≤ f 0 0 l + κ) ∧
  (∀ r l k a b : Int, (F → x.1 0 ≤ r) → (T → r < x.1 0) → 0 ≤ r → 0 ≤ l → l < x.1 5 → CmA k a b → (Z → (k = 8 ∨ k = 9 ∨ k = 10) → f 1 r l + g r k a b ≤ f 0 0 l + κ) ∧ (Z → k = 8 → f 2 r l + g r 8 a b ≤ f 0 0 l + κ) ∧ (k = 12 ∨ k = 13 → f 0 0 (l + 1) + g r k a b ≤ f 0 0 l + κ)) ∧
  ∀ r k a b : Int, (F → x.1 0 ≤ r) → (T → r < x.1 0) → 0 ≤ r → CmA k a b → 14 ≤ k → k ≤ 16 → g r k a b ≤ 0
/-- how many signals are in queues -/
def Qn (s : TS) : Int := (sq s 0).length + (sq s 1).length + (sq s 2).length + (sq s 3).length
/-- the potential -/
def PZ (f : Int → Int → Int → Int) (g : Int → Int → Int → Int → Int) (ω κ : Int) (x : CX) (s : TS) : Int := pI g x s + pF f s 12 0 + ω * (sg s 0 41 - Qn s) - κ * sg s 0 40
/-- what is known along a turn -/
def QH (x : CX) (B : Int) (F T : Prop) (s : TS) : Prop := SW x s B ∧ WK x s ∧ JJ x F T s ∧ sg s 0 30 = 0
theorem PC.nn (C : PC x f g ω κ F T Z) (hw : ¬ (w = 1 ∨ w = 2)) : 0 ≤ f w j l := by
  have := C.2.1 w j l hw
  omega
theorem PC.e0 (C : PC x f g ω κ F T Z) (hw : ¬ (w = 1 ∨ w = 2)) : f w j l = f w 0 l := (C.2.1 w j l hw).1
/-- nothing but branches' is another -/
theorem PZ_f (h12 : sg s' 0 12 = sg s 0 12) (hn : sn s' = sn s) (h41 : sg s' 0 41 = sg s 0 41) (hq : ∀ n : Int, sq s' n = sq s n) (h40 : sg s' 0 40 = sg s 0 40) (hp : pF f s' 12 0 = pF f s 12 0 + d) : PZ f g ω κ x s' = PZ f g ω κ x s + d := by
  unfold PZ Qn
  rw [pI_same h12 hn, h41, h40, hq, hq, hq, hq, hp]
  omega
theorem PZ_go (k0 : 0 ≤ k) (k1 : k < sg s 0 5) (h5 : sg s 0 5 ≤ 12) : PZ f g ω κ x (sGo k l s) = PZ f g ω κ x s + (f 0 (sg s (2 + k) 8) l - pv f s k) := by
  refine PZ_f (by rw [go_g, if_neg (by omega), if_neg (by omega)]) rfl (by rw [go_g, if_neg (by omega), if_neg (by omega)]) (fun _ => rfl) (by rw [go_g, if_neg (by omega), if_neg (by omega)]) ?_
  have e5 : sg (sGo k l s) 0 5 = sg s 0 5 := by rw [go_g, if_neg (by omega), if_neg (by omega)]
  rw [pF_at (s := s) (s' := sGo k l s) e5 (fun i q i0 hi _ => by rw [go_g, if_neg (by omega), if_neg (by omega)]) k0 (by omega), pv_i (s := sGo k l s) (by rw [e5]; exact k1)]
  have e7 : sg (sGo k l s) (2 + k) 7 = 0 := by rw [go_g, if_neg (by omega), if_pos ⟨rfl, rfl⟩]
  have e8 : sg (sGo k l s) (2 + k) 8 = sg s (2 + k) 8 := by rw [go_g, if_neg (by omega), if_neg (by omega)]
  have e4 : sg (sGo k l s) (2 + k) 4 = l := by rw [go_g, if_pos ⟨rfl, rfl⟩]
  rw [e7, e8, e4]
  omega
theorem PZ_wait (k0 : 0 ≤ k) (k1 : k < sg s 0 5) (h5 : sg s 0 5 ≤ 12) : PZ f g ω κ x (sWait k w v s) = PZ f g ω κ x s + (f w v (sg s (2 + k) 4) - pv f s k) := by
  refine PZ_f (by rw [wait_g, if_neg (by omega), if_neg (by omega)]) rfl (by rw [wait_g, if_neg (by omega), if_neg (by omega)]) (fun _ => rfl) (by rw [wait_g, if_neg (by omega), if_neg (by omega)]) ?_
  have e5 : sg (sWait k w v s) 0 5 = sg s 0 5 := by rw [wait_g, if_neg (by omega), if_neg (by omega)]
  rw [pF_at (s := s) (s' := sWait k w v s) e5 (fun i q i0 hi _ => by rw [wait_g, if_neg (by omega), if_neg (by omega)]) k0 (by omega), pv_i (s := sWait k w v s) (by rw [e5]; exact k1)]
  have e7 : sg (sWait k w v s) (2 + k) 7 = w := by rw [wait_g, if_neg (by omega), if_pos ⟨rfl, rfl⟩]
  have e8 : sg (sWait k w v s) (2 + k) 8 = v := by rw [wait_g, if_pos ⟨rfl, rfl⟩]
  have e4 : sg (sWait k w v s) (2 + k) 4 = sg s (2 + k) 4 := by rw [wait_g, if_neg (by omega), if_neg (by omega)]
  rw [e7, e8, e4]
  omega
/-- a field that it doesn't look at -/
theorem PZ_sx (h : (a = 0 ∧ j ≠ 5 ∧ j ≠ 12 ∧ j ≠ 40 ∧ j ≠ 41) ∨ a = 1 ∨ (2 ≤ a ∧ j ≠ 4 ∧ j ≠ 7 ∧ j ≠ 8)) : PZ f g ω κ x (st s a j v) = PZ f g ω κ x s := by
  have := PZ_f (f := f) (g := g) (ω := ω) (κ := κ) (x := x) (s := s) (s' := st s a j v) (d := 0) (by rw [st_g, if_neg (by omega)]) rfl (by rw [st_g, if_neg (by omega)]) (fun _ => rfl) (by rw [st_g, if_neg (by omega)]) (by rw [pF_same (s := s) (s' := st s a j v) (by rw [st_g, if_neg (by omega)]) (fun i q i0 hq => by rw [st_g, if_neg (by omega)])]; omega)
  omega
theorem PZ_r (h : s'.1 = s.1) (hn : sn s' = sn s) (hq : ∀ n : Int, sq s' n = sq s n) : PZ f g ω κ x s' = PZ f g ω κ x s := by
  have e : ∀ a i : Int, sg s' a i = sg s a i := fun a i => by unfold sg; rw [h]
  have := PZ_f (f := f) (g := g) (ω := ω) (κ := κ) (x := x) (s := s) (s' := s') (d := 0) (e _ _) hn (e _ _) hq (e _ _) (by rw [pF_same (s := s) (s' := s') (e _ _) fun i q _ _ => e _ _]; omega)
  omega
theorem PZ_begin (h0 : 0 ≤ sg s 0 5) (h1 : sg s 0 5 < 12) : PZ f g ω κ x (sBegin p l s) = PZ f g ω κ x s + f 0 0 l := by
  have e : ∀ q : Int, q ≠ 5 → q ≠ 6 → sg (sBegin p l s) 0 q = sg s 0 q := fun q g1 g2 => by rw [begin_g (by decide), if_neg (by omega), if_neg (by omega), if_neg (by omega)]
  exact PZ_f (e _ (by decide) (by decide)) rfl (e _ (by decide) (by decide)) (fun _ => rfl) (e _ (by decide) (by decide)) (pF_begin h0 h1)
theorem PZ_rem (h5 : sg s 0 5 ≤ 12) (k0 : 0 ≤ k) (k1 : k < sg s 0 5) : PZ f g ω κ x (sRem k s) = PZ f g ω κ x s + (-pv f s k) := by
  have e : ∀ q : Int, q ≠ 5 → q ≠ 2 → sg (sRem k s) 0 q = sg s 0 q := fun q g1 g2 => rem_o (Or.inl ⟨rfl, g1, g2⟩)
  exact PZ_f (e _ (by decide) (by decide)) rfl (e _ (by decide) (by decide)) (fun _ => rfl) (e _ (by decide) (by decide)) (by rw [pF_rem h5 k0 k1]; omega)
theorem PZ_e9 (h : E9 s s') : PZ f g ω κ x s' = PZ f g ω κ x s := by
  have hn : sn s' = sn s := by unfold sn; rw [h.2]
  have := PZ_f (f := f) (g := g) (ω := ω) (κ := κ) (x := x) (s := s) (s' := s') (d := 0) (h.1 _ _ (by omega)) hn (h.1 _ _ (by omega)) (fun n => by unfold sq; rw [h.2]) (h.1 _ _ (by omega)) (by rw [pF_same (s := s) (s' := s') (h.1 _ _ (by omega)) fun i q _ _ => h.1 _ _ (by omega)]; omega)
  omega
/-- a command -/
theorem PZ_cmd (hH : QH x B F T s) (hs : x.1 3 ≤ x.1 0) (h4 : x.1 4 ≠ 1) (k0 : 8 ≤ kd) (k1 : kd ≤ 16) (h30 : sg (sCmd x kd a b s).2 0 30 = 0) : QH x B F T (sCmd x kd a b s).2 ∧ PZ f g ω κ x (sCmd x kd a b s).2 = PZ f g ω κ x s + g (sCmd x kd a b s).1 kd a b ∧ (F → x.1 0 ≤ (sCmd x kd a b s).1) ∧ (T → (sCmd x kd a b s).1 < x.1 0) ∧ (0 ≤ (sCmd x kd a b s).1 ∧ ∀ i : Int, 0 ≤ i → i < sg s 0 5 → (sg s (2 + i) 7 = 1 ∨ sg s (2 + i) 7 = 2) → 0 ≤ sg s (2 + i) 8 ∧ sg s (2 + i) 8 < (sCmd x kd a b s).1) := by
  obtain ⟨hW, hK, hJ, hz⟩ := hH
  obtain ⟨g1, g2⟩ := cmd_all (g := g) (a := a) (b := b) hW hs h4 hJ k0 k1
  obtain ⟨e1, e2, e3, e4, e5⟩ := g2 h30
  have h12 := hW.1
  refine ⟨⟨hW.cmd hs, hK.cmd hW, g1, h30⟩, ?_, e2, e3, by omega, fun i i0 i1 hw => ?_⟩
  · unfold PZ Qn sq
    rw [e1, cmd_g (by omega), cmd_g (by omega), cmd_l.2.1, pF_same (s := s) (s' := (sCmd x kd a b s).2) (cmd_g (by omega)) (fun i q i0 _ => cmd_g (by omega))]
    omega
  · have q1 := (hW.br i0 i1).2.2.2.2.1 hw hz
    have q2 := (hK.1 i i0 i1).2.2 hw hz
    refine ⟨q1.1, ?_⟩
    rcases q2 with q2 | ⟨q2, q3⟩
    · omega
    · have hne : sn s ≠ [] := fun hh => by
        have : nl s = 0 := by unfold nl; rw [hh]; rfl
        omega
      have := e5 hne
      omega
end PTB
