/-! THE TELLING in the reference: branches go on. -/
section RF22
variable {m0 m m' : MM} {x : CX} {s s' s1 s2 : TS} {B H : Int} {a b c e i j v k h n l w p r t o rh E ty ver rc : Int} {G : Int → Nat} {Q : TS → Prop}
theorem wmp_e : wmp 0 = 0 ∧ wmp 1 = 1 ∧ wmp 2 = 4 ∧ wmp 3 = 2 ∧ wmp 4 = 3 := by decide
theorem cang_r (h : RR m0 m x s rh E H) (hW : SW x s B) (hx : CodeW x) (hN : ND s) (hK : WK x s) (k0 : 0 ≤ k) (k1 : k < sg s 0 5) (hb : sg s 0 6 ≤ 196608) (hq : sg s 0 41 ≤ 2048) : ∃ m', fm_X12_canGoOn k m = some (if sAble s k = true then 1 else 0, m') ∧ RR m0 m' x (if sAble s k = true ∧ sg s (2 + k) 7 ≠ 0 then sAwake x k s else s) rh E H := by
  have h5 := hW.2.2.2.2.2.2.2.1
  have hbr := hW.br k0 k1
  have hb4 := hbr.2.1
  obtain ⟨b1, b2, b3, b4⟩ := (h.br k0 k1).2.2.2.2.2.2.2 (hN k k0 k1)
  have e144 := (h.br k0 k1).2.1
  have hk12 : 0 ≤ k ∧ k < 12 := ⟨k0, by omega⟩
  have j140 : ∀ M : MM, fj_X12_canGoOn_140 k M = if M 145 k = 0 then some (1, M) else some (0, M) := fun M => by
    unfold fj_X12_canGoOn_140
    rw [gd_t hk12, lx_p]
  unfold fm_X12_canGoOn
  rw [gd_t hk12, lx_p, b1]
  by_cases c3 : sg s (2 + k) 7 = 3
  · rw [if_pos (wmp2.mpr c3)]
    have hn := hbr.2.2.2.1 c3
    have e146 := b2 (by omega)
    obtain ⟨q1, q2, q3, q4⟩ := h.2.2.2.2.2.1 (sg s (2 + k) 8) hn.1 hn.2
    simp only [lx_p]
    rw [e146, gd_t ⟨hn.1, by omega⟩]
    have hable : sAble s k = decide (sq s (sg s (2 + k) 8) ≠ []) := by
      unfold sAble
      rw [if_neg (by omega), if_pos c3]
    cases hsq : sq s (sg s (2 + k) 8) with
    | nil =>
      rw [hsq] at q3 hable
      have ha : sAble s k = false := by rw [hable]; simp
      rw [if_neg (by simp only [List.length_nil] at q3; omega), ha, if_neg (by decide), if_neg (fun g => by cases g.1)]
      refine ⟨m, ?_, h⟩
      unfold fj_X12_canGoOn_100
      rw [gd_t hk12, lx_p, b1, if_neg (by rw [c3]; decide), j140, b1, if_neg (by rw [c3]; decide)]
    | cons v tl =>
      rw [hsq] at q3 hable
      have ha : sAble s k = true := by rw [hable]; simp
      have hlen : ((v :: tl).length : Int) = (tl.length : Int) + 1 := by simp
      have hline := hbr.2.2.1 (by omega)
      have hL := hx _ hbr.2.1.1 hline
      have hc4 := (hK.1 k k0 k1).1 c3
      have hinto : 0 ≤ bOf x (sg s (2 + k) 4) ∧ bOf x (sg s (2 + k) 4) < 6 := by
        obtain ⟨-, -, -, -, l1, -, -, l2, -⟩ := hL
        have := l2 (by omega)
        unfold bOf
        omega
      have p1 := h.p1 (j := bOf x (sg s (2 + k) 4)) (v := v) hinto.1
      have hsq1 : sq (st s 1 (bOf x (sg s (2 + k) 4)) v) (sg s (2 + k) 8) = v :: tl := hsq
      obtain ⟨p2, p3⟩ := p1.qpop hn.1 hn.2 hsq1
      have e156 : mset m 142 (bOf x (sg s (2 + k) 4)) v 156 (sg s (2 + k) 8) = m 156 (sg s (2 + k) 8) := ms_a (by decide)
      rw [e156] at p2 p3
      rw [ms_a (by decide)] at p3
      have p4 := p2.go (k := k) (l := sg s (2 + k) 4 + 1) k0 (by show k < sg (st s 1 (bOf x (sg s (2 + k) 4)) v) 0 5; rw [st_g, if_neg (by omega)]; exact k1)
      rw [if_pos (by omega), b3 c3, w32_id (z := 2048 * sg s (2 + k) 8) (by omega) (by omega), w32_id (z := 2048 * sg s (2 + k) 8 + m 156 (sg s (2 + k) 8)) (by omega) (by omega), gd_t ⟨by omega, by omega⟩, p3, gd_t hinto]
      simp only [up_t]
      rw [e156, w32_id (z := m 156 (sg s (2 + k) 8) + 1) (by omega) (by omega)]
      rw [show mset (mset (mset m 142 (bOf x (sg s (2 + k) 4)) v) 156 (sg s (2 + k) 8) (m 156 (sg s (2 + k) 8) + 1)) 145 k 0 144 k = sg s (2 + k) 4 by rw [ms_a (by decide), ms_a (by decide), ms_a (by decide)]; exact e144, w32_id (z := sg s (2 + k) 4 + 1) (by omega) (by omega), j140, ms_a (by decide), ms_e, if_pos rfl, ha, if_pos rfl, if_pos ⟨rfl, by omega⟩]
      refine ⟨_, rfl, ?_⟩
      have haw : sAwake x k s = sGo k (sg s (2 + k) 4 + 1) (stq (st s 1 (bOf x (sg s (2 + k) 4)) v) (sg s (2 + k) 8) tl) := by
        unfold sAwake
        rw [if_pos c3, hsq]
        rfl
      rw [haw]
      exact p4
  · rw [if_neg (fun g => c3 (wmp2.mp g))]
    unfold fj_X12_canGoOn_100
    rw [gd_t hk12, lx_p, b1]
    by_cases c4 : sg s (2 + k) 7 = 4
    · rw [if_pos (wmp3.mpr c4), lx_p, (h.br k0 k1).1, bp_t (kid_r h hW hb)]
      have hable : sAble s k = !(hasKid s (sg s (2 + k) 0)) := by
        unfold sAble
        rw [if_neg (by omega), if_neg c3, if_pos c4]
      by_cases ck : hasKid s (sg s (2 + k) 0) = true
      · have ha : sAble s k = false := by rw [hable, ck]; rfl
        rw [if_pos ck, if_neg (by decide), ha, if_neg (by decide), if_neg (fun g => by cases g.1), j140, b1, if_neg (by rw [c4]; decide)]
        exact ⟨m, rfl, h⟩
      · have ck' : hasKid s (sg s (2 + k) 0) = false := by
          cases hh : hasKid s (sg s (2 + k) 0) with
          | true => exact absurd hh ck
          | false => rfl
        have ha : sAble s k = true := by rw [hable, ck']; rfl
        have p4 := h.go (k := k) (l := sg s (2 + k) 4 + 1) k0 k1
        rw [if_neg ck, if_pos rfl]
        simp only [up_t, lx_p]
        rw [show mset m 145 k 0 144 k = sg s (2 + k) 4 by rw [ms_a (by decide)]; exact e144, w32_id (z := sg s (2 + k) 4 + 1) (by omega) (by omega), j140, ms_a (by decide), ms_e, if_pos rfl, ha, if_pos rfl, if_pos ⟨rfl, by omega⟩]
        refine ⟨_, rfl, ?_⟩
        have haw : sAwake x k s = sGo k (sg s (2 + k) 4 + 1) s := by
          unfold sAwake
          rw [if_neg c3]
        rw [haw]
        exact p4
    · rw [if_neg (fun g => c4 (wmp3.mp g)), j140, b1]
      by_cases c0 : sg s (2 + k) 7 = 0
      · have ha : sAble s k = true := by unfold sAble; rw [if_pos c0]
        rw [if_pos (wmp0.mpr c0), ha, if_pos rfl, if_neg (fun g => g.2 c0)]
        exact ⟨m, rfl, h⟩
      · have ha : sAble s k = false := by unfold sAble; rw [if_neg c0, if_neg c3, if_neg c4]
        rw [if_neg (fun g => c0 (wmp0.mp g)), ha, if_neg (by decide), if_neg (fun g => by cases g.1)]
        exact ⟨m, rfl, h⟩
theorem slot_any (h0 : 0 ≤ m 68 91) (h1 : m 68 91 ≤ 12) : ∃ z, fm_X12_slot v m = some z ∧ (z = -1 ∨ (0 ≤ z ∧ z < 12)) := by
  have key : ∀ (n f : Nat) (k y : Int), 0 ≤ k → k + n = 12 → n < f → (y = -1 ∨ (0 ≤ y ∧ y < 12)) → ∃ z, fl_X12_slot_4 v m f y k = some z ∧ (z = -1 ∨ (0 ≤ z ∧ z < 12)) := by
    intro n
    induction n with
    | zero =>
      intro f k y h0 h1 h2 h3
      obtain ⟨f, rfl⟩ : ∃ g, f = g + 1 := ⟨f - 1, by omega⟩
      unfold fl_X12_slot_4
      simp only [lx_p]
      rw [if_neg (by omega)]
      exact ⟨y, rfl, h3⟩
    | succ n ih =>
      intro f k y h0 h1 h2 h3
      obtain ⟨f, rfl⟩ : ∃ g, f = g + 1 := ⟨f - 1, by omega⟩
      unfold fl_X12_slot_4
      simp only [lx_p]
      by_cases c1 : k < m 68 91
      · rw [if_pos c1, gd_t ⟨h0, by omega⟩, w32_id (by omega) (by omega)]
        split
        · exact ih f (k + 1) k (by omega) (by omega) (by omega) (by omega)
        · exact ih f (k + 1) y (by omega) (by omega) (by omega) h3
      · rw [if_neg c1]
        exact ⟨y, rfl, h3⟩
  unfold fm_X12_slot
  exact key 12 BIG 0 (-1) (by decide) rfl (BIG_g (by omega)) (Or.inl rfl)
theorem RE.n91 (h : RE m0 m x s rh E H) : 0 ≤ m 68 91 ∧ m 68 91 ≤ 12 := by
  rcases h with ⟨-, g⟩ | g
  · exact ⟨g.n91.1, g.n91.2.1⟩
  · exact ⟨g.2.2.2.2.1, g.2.2.2.2.2⟩
/-- what is known of the states that a telling comes by -/
def GQ (x : CX) (rc rh : Int) (Q : TS → Prop) : Prop := (∀ s, Q s → goes s = true → 0 ≤ first s → Q (sTurn x (first s) s)) ∧ (∀ s, Q s → rc ≤ sg s 0 10 → sg s 0 10 < x.1 1 → sg s 0 30 = 0) ∧ ∀ s, Q s → goes s = true → 0 ≤ first s → sg s (2 + first s) 7 = 0 → sg s (2 + first s) 4 < x.1 5 → sg s 0 29 < 60 → (x.2.2 (sg s (2 + first s) 4)).1 = 19 → KP x s rc rh (x.2.2 (sg s (2 + first s) 4)).2.1
def GS (m0 m : MM) (x : CX) (G : Int → Nat) (r ty ver rh rc : Int) (s : TS) (E H B : Int) (Q : TS → Prop) : Prop := RG m0 m x s rh E (H + sg s 0 29) ∧ RX m0 x G r ty ver rh rc s ∧ SW x s B ∧ PI s ∧ WK x s ∧ TkW x s ∧ m0 68 118 = ew (x.2.1 (sg s 0 28)) % 1024 ∧ sg s 0 41 ≤ 2048 ∧ (∀ n, nl (sOn x n s) < 65536) ∧ Q s
def FX (m0 : MM) (x : CX) (rc rh E H : Int) (Q : TS → Prop) : Prop := Fix m0 ∧ 12 ≤ E ∧ x.1 5 ≤ 24 ∧ x.1 4 ≠ 1 ∧ HY x ∧ H + 60 < 196608 ∧ GQ x rc rh Q
def Ch (x : CX) (i : Nat) (s s' : TS) : Prop := ∀ n, sOn x (i + n) s = sOn x n s'
theorem Ch.zero : Ch x 0 s s := fun n => by rw [Nat.zero_add]
theorem Ch.tr {i j : Nat} (h : Ch x i s s1) (g : Ch x j s1 s2) : Ch x (i + j) s s2 := fun n => by rw [Nat.add_assoc, h (j + n), g n]
theorem Ch.one (hg : goes s = true) (hf : 0 ≤ first s) : Ch x 1 s (sTurn x (first s) s) := fun n => by
  rw [Nat.add_comm]
  show (if first s < 0 then s else if goes s then sOn x n (sTurn x (first s) s) else s) = _
  rw [if_neg (by omega), if_pos hg]
theorem turn_41 (h5 : 0 ≤ sg s 0 5) (k0 : 0 ≤ k) : sg (sTurn x k s) 0 41 = sg s 0 41 := by
  have hq : KR 41 := by unfold KR; omega
  unfold sTurn
  split
  · exact kr_awake hq
  split
  · exact kr_end hq
  split
  · exact kr_stuck hq
  · rw [kr_lineA (by rw [st_g, if_neg (by omega), st_g, if_neg (by omega)]; exact h5) k0 hq, st_g, if_neg (by omega), st_g, if_neg (by omega)]
/-- what holds is kept by a turn -/
theorem GS.step {k : Int} (hF : FX m0 x rc rh E H Q) (hS : GS m0 m x G r ty ver rh rc s E H B Q) (hg : goes s = true) (k0 : 0 ≤ k) (k1 : k < sg s 0 5) (hf : first s = k) (ha : sAble s k = true) (hR : RG m0 m' x (sTurn x k s) rh E (H + sg (sTurn x k s) 0 29)) : GS m0 m' x G r ty ver rh rc (sTurn x k s) E H (B + 1) Q := by
  obtain ⟨s1, s2, s3, s4, s5, s6, s7, s8, s9, s10⟩ := hS
  obtain ⟨f1, f2, f3, f4, f5, f6, f7⟩ := hF
  have hx := s2.2.2.2.2.2
  have hs := s2.2.2.2.1
  have hN := s2.1.2.2.2.2.2.2.2.2.1.1
  have h5 := s3.2.2.2.2.2.2.2.1
  have e28 : sg (sTurn x k s) 0 28 = sg s 0 28 := kp_turn h5.1 k0 (by unfold KQ; omega)
  have e10 : sg (sTurn x k s) 0 10 = sg s 0 10 := kp_turn h5.1 k0 (by unfold KQ; omega)
  refine ⟨hR, s2.to e10, w_turn hx hs hN f3 k0 k1 s6 ha s3, s4.turn hx hs f3 s3 k0 k1, s5.turn hx hs f4 f3 s3 k0 k1, ?_, by rw [e28]; exact s7, by rw [turn_41 h5.1 k0]; exact s8, fun n => ?_, ?_⟩
  · unfold TkW at s6 ⊢
    rw [e28]
    exact s6
  · have := (Ch.one (x := x) hg (by omega : 0 ≤ first s)) n
    rw [hf] at this
    rw [← this]
    exact s9 _
  · have := f7.1 s s10 hg (by omega)
    rw [hf] at this
    exact this
end RF22
