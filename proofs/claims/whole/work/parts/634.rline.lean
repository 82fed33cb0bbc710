/-! THE TELLING in the reference: lines 15, 22, 23. -/
section RF15
variable {m0 m m' : MM} {x : CX} {s s' : TS} {B H : Int} {a b c e i j v k h n l w p r t o rh E ty ver rc : Int} {G : Int → Nat}
theorem SW.ustk {t : List Int} (hW : SW x s B) (h : ∀ v ∈ t, 0 ≤ v ∧ v < 4000) : SW x (stu s t) B := hW.to rfl rfl (Or.inl rfl) (Or.inl rfl) (Nat.le_refl _) (Or.inl rfl) (Or.inl rfl) (fun _ _ _ => Or.inl rfl) h hW.2.2.2.2.1 (fun _ _ _ => Or.inl ⟨fun _ => rfl, rfl⟩)
theorem rl15 (L : LB m0 m x s rh E H B k) (X : RX m0 x G r ty ver rh rc s) (hK : KI x s (sLine x k 15 a b s) rc) : ∃ m', dsL k (sg s (2 + k) 4) 15 a b m = some (0, m') ∧ RG m0 m' x (sLine x k 15 a b s) rh E H := by
  have L0 := L
  obtain ⟨h, hW, h30, hA, ⟨k0, k1⟩, h7, h9, hl, hn, hH⟩ := L
  have hb4 := (hW.br k0 k1).2.1
  have h5 := hW.2.2.2.2.2.2.2.1
  have hu := h.2.2.2.2.2.2.1.1
  rw [ds15, dm15]
  rw [sl15] at hK ⊢
  unfold sUndo at hK ⊢
  unfold fm_X12_undoes
  cases hs : su s with
  | nil =>
    rw [hs] at hu
    have hu0 : m 68 105 = 0 := hu
    simp only [lx_p, up_t]
    rw [hu0, if_pos rfl, gd_t ⟨k0, by omega⟩, (h.br k0 k1).2.1, w32_id (by omega) (by omega)]
    exact ⟨_, rfl, Or.inl ⟨by rw [u_go]; exact h30, h.nx k0 k1 h7 h9⟩, hA.go k0⟩
  | cons v t =>
    obtain ⟨p1, p2, p3⟩ := h.upop hs
    have hv := hW.2.2.2.1
    rw [hs] at hv
    have hv1 := hv v (List.mem_cons_self ..)
    have hu2 := h.2.2.2.2.2.2.2.2.2.2.1
    rw [hs] at hu2
    simp only [List.length_cons] at hu2
    have hWu := hW.ustk (t := t) (fun q hq => hv q (List.mem_cons_of_mem _ hq))
    have Lu : LB m0 (mset m 68 105 (m 68 105 - 1)) x (stu s t) rh E H B k := ⟨p1, hWu, h30, hA.to rfl rfl, ⟨k0, k1⟩, h7, h9, hl, hn, hH⟩
    simp only [hs] at hK
    obtain ⟨m', f1, f2⟩ := aw_r (w := 2) (t := 0) (kd := 8) (a := v / 1000) (b := v % 1000) Lu (X.to rfl) (fun g1 g2 => by
      have := hK g1 g2
      exact (u_wait (k := k) (w := 2) (n := (sCmd x 8 (v / 1000) (v % 1000) (stu s t)).1)).symm.trans this) (by decide) (by decide) (by omega) (by omega) (by omega) (by omega) (fun q => by omega) (Or.inr rfl)
    refine ⟨m', ?_, f2⟩
    simp only [lx_p, up_t]
    have t1 : Int.tmod (10 * (v % 1000) + v / 1000) 10 = v / 1000 := by
      rw [Int.tmod_eq_emod_of_nonneg (by omega)]
      omega
    have t2 : Int.tdiv (10 * (v % 1000) + v / 1000) 10 = v % 1000 := by
      rw [Int.tdiv_eq_ediv_of_nonneg (by omega)]
      omega
    rw [if_neg (by omega), w32_id (z := m 68 105 - 1) (by omega) (by omega), ms_e, gd_t ⟨by omega, by omega⟩, show mset m 68 105 (m 68 105 - 1) 154 (m 68 105 - 1) = m 154 (m 68 105 - 1) from ms_a (by decide), p2, t1, t2, w32_id (z := v % 1000) (by omega) (by omega)]
    rw [show wmp 2 = 4 from rfl] at f1
    show bd (bd _ _) _ = _
    rw [f1]
    rfl
theorem rl23 (L : LB m0 m x s rh E H B k) (X : RX m0 x G r ty ver rh rc s) (hK : KI x s (sLine x k 23 a b s) rc) (a0 : 0 ≤ a) (a5 : a ≤ 5) : ∃ m', dsL k (sg s (2 + k) 4) 23 a b m = some (0, m') ∧ RG m0 m' x (sLine x k 23 a b s) rh E H := by
  obtain ⟨h, hW, h30, hA, ⟨k0, k1⟩, h7, h9, hl, hn, hH⟩ := L
  have hb4 := (hW.br k0 k1).2.1
  have h5 := hW.2.2.2.2.2.2.2.1
  have va := v_lt hW a0 a5
  have ea : m 142 a = sg s 1 a := h.2.2.1 a a0 (by omega)
  rw [sl23] at hK ⊢
  obtain ⟨m1, z, c1, c2, c3, c4⟩ := rcmd (k := 13) (a := sg s 1 a) (b := 0) h X.1 X.2.1 hW h30 X.2.2.1 hA (fun g1 g2 => by
    have := hK g1 g2
    rw [u_go] at this
    exact this) (by decide) (by decide) va.1 (by omega) (by decide) (by decide) hn
  have cg : ∀ p q : Int, (p ≠ 0 ∨ (q ≠ 12 ∧ q ≠ 30 ∧ q ≠ 31)) → sg (sCmd x 13 (sg s 1 a) 0 s).2 p q = sg s p q := fun p q hh => cmd_g hh
  rw [ds23, dm23]
  simp only [lx_p, up_t]
  rw [gd_t ⟨a0, by omega⟩, ea, bd_t c1, gd_t ⟨k0, by omega⟩]
  refine ⟨mset m1 144 k (w32 (m1 144 k + 1)), rfl, ?_, c4.go k0⟩
  rcases c2 with ⟨g30, g⟩ | ⟨g1, g2, g3, g4, g5, g6⟩
  · have k1' : k < sg (sCmd x 13 (sg s 1 a) 0 s).2 0 5 := by rw [cg 0 5 (by omega)]; exact k1
    rw [(g.br k0 k1').2.1, cg _ 4 (by omega), w32_id (by omega) (by omega)]
    exact Or.inl ⟨by rw [u_go]; exact g30, g.nx k0 k1' (by rw [cg _ 7 (by omega)]; exact h7) (by rw [cg _ 9 (by omega)]; exact h9)⟩
  · exact Or.inr ⟨g1.ms (mtb1 (by decide) (by decide) k0), by rw [u_go]; exact g2, by rw [ms_a (by decide)]; exact g3, by rw [ms_a (by decide), go_g, if_neg (by omega), if_neg (by omega)]; exact g4, by rw [ms_a (by decide)]; exact g5, by rw [ms_a (by decide)]; exact g6⟩
theorem bd_id {Y : Option (Int × MM)} : bd (bd Y fun _ q => some ((0 : Int), q)) (fun _ q => some ((0 : Int), q)) = bd Y fun _ q => some ((0 : Int), q) := by
  cases Y <;> rfl
theorem rl22 (L : LB m0 m x s rh E H B k) (hE : 12 ≤ E) (hx5 : x.1 5 ≤ 24) (hB : B < 268435456) (hov : sg s 0 9 = 0) (X : RX m0 x G r ty ver rh rc s) (hK : KI x s (sLine x k 22 a b s) rc) : ∃ m', dsL k (sg s (2 + k) 4) 22 a b m = some (0, m') ∧ RG m0 m' x (sLine x k 22 a b s) rh E H := by
  obtain ⟨h, hW, h30, hA, ⟨k0, k1⟩, h7, h9, hl, hn, hH⟩ := L
  have hb4 := (hW.br k0 k1).2.1
  have h5 := hW.2.2.2.2.2.2.2.1
  have hb5 := (hW.br k0 k1).2.2.2.2.2.1
  have hbr := h.br k0 k1
  have e151 := hbr.2.2.2.1
  have hkE : k < E := by omega
  generalize hhd : (if 0 < sg s (2 + k) 5 then sg s (2 + k) 5 - 1 else 0) = hh
  have hh0 : 0 ≤ hh ∧ hh ≤ B := by
    rw [← hhd]
    split <;> omega
  have hd : sLine x k 22 a b s = if sg s (2 + k) 6 ≠ 0 ∧ hh = 0 then sFail x k (sGo k (sg s (2 + k) 4 + 1) (st (st s (2 + k) 5 hh) (2 + k) 6 0)) else sGo k (sg s (2 + k) 4 + 1) (st (st s (2 + k) 5 hh) (2 + k) 6 (if sg s (2 + k) 6 = 0 then 0 else 1)) := by
    rw [sl22]
    unfold sBare
    rw [hhd]
    by_cases q : sg s (2 + k) 6 ≠ 0 ∧ hh = 0
    · simp only [if_pos q, if_true]
    · simp only [if_neg q, Bool.false_eq_true, if_false]
  rw [hd] at hK ⊢
  have es : ∀ u v q, q ≠ 5 → q ≠ 6 → sg (st (st s (2 + k) 5 u) (2 + k) 6 v) (2 + k) q = sg s (2 + k) q := fun u v q q1 q2 => by rw [st_g, if_neg (by omega), st_g, if_neg (by omega)]
  have es0 : ∀ u v q, sg (st (st s (2 + k) 5 u) (2 + k) 6 v) 0 q = sg s 0 q := fun u v q => by rw [st_g, if_neg (by omega), st_g, if_neg (by omega)]
  have hs2 : ∀ w, RR m0 (mset (mset (mset m 150 k hh) 151 k (if w = 0 then 0 else 1)) 144 k (sg s (2 + k) 4 + 1)) x (sGo k (sg s (2 + k) 4 + 1) (st (st s (2 + k) 5 hh) (2 + k) 6 w)) rh E H := fun w =>
    ((h.sl (a := 150) (sl := 5) (v := hh) (w := hh) k0 k1 (Or.inl ⟨rfl, rfl, rfl⟩)).sl (a := 151) (sl := 6) (v := if w = 0 then 0 else 1) (w := w) k0 (by rw [st_g, if_neg (by omega)]; exact k1) (Or.inr (Or.inl ⟨rfl, rfl, by
      by_cases q : w = 0
      · rw [if_pos q, if_pos ⟨hkE, q⟩]
      · rw [if_neg q, if_neg (fun g => q g.2)]⟩))).nx k0 (by rw [es0]; exact k1) (by rw [es _ _ _ (by decide) (by decide)]; exact h7) (by rw [es _ _ _ (by decide) (by decide)]; exact h9)
  have hcm : ∀ w : Int, mset (mset (mset m 150 k hh) 151 k w) 144 k (sg s (2 + k) 4 + 1) = mset (mset (mset m 144 k (sg s (2 + k) 4 + 1)) 150 k hh) 151 k w := fun w => by
    rw [mset_comm (a := 151) (b := 144) (by decide), mset_comm (a := 150) (b := 144) (by decide)]
  have hpre : dsL k (sg s (2 + k) 4) 22 a b m = (bd (gd (0 ≤ k ∧ k < 12) <| lx (mset (mset m 144 k (sg s (2 + k) 4 + 1)) 150 k hh 151 k) fun x_55 =>
if x_55 = 0 then
some (0, mset (mset m 144 k (sg s (2 + k) 4 + 1)) 150 k hh)
else
lx (mset (mset m 144 k (sg s (2 + k) 4 + 1)) 150 k hh 150 k) fun x_64 =>
if x_64 = 0 then
bd (fm_X12_cancelsBranch k (mset (mset m 144 k (sg s (2 + k) 4 + 1)) 150 k hh)) fun x_68 m_69 =>
some ((0 : Int), m_69)
else
some (0, mset (mset m 144 k (sg s (2 + k) 4 + 1)) 150 k hh)) fun _ m_458 => some ((0 : Int), m_458)) := by
    rw [ds22, dm22]
    unfold fm_X12_bares fj_X12_bares_31
    simp only [lx_p, up_t]
    rw [gd_t ⟨k0, by omega⟩, hbr.2.1, w32_id (z := sg s (2 + k) 4 + 1) (by omega) (by omega), show mset m 144 k (sg s (2 + k) 4 + 1) 150 k = sg s (2 + k) 5 by rw [ms_a (by decide)]; exact hbr.2.2.1]
    by_cases q : 0 < sg s (2 + k) 5
    · rw [if_pos q] at hhd
      rw [if_pos q, gd_t ⟨k0, by omega⟩, w32_id (z := sg s (2 + k) 5 - 1) (by omega) (by omega), hhd, bd_id]
    · rw [if_neg q] at hhd
      rw [if_neg q, gd_t ⟨k0, by omega⟩, w32_id (z := sg s (2 + k) 5 - 0) (by omega) (by omega), show sg s (2 + k) 5 - 0 = hh by omega, bd_id]
  have f151 : mset (mset m 144 k (sg s (2 + k) 4 + 1)) 150 k hh 151 k = if sg s (2 + k) 6 = 0 then 0 else 1 := by
    rw [ms_a (by decide), ms_a (by decide), e151]
    by_cases q : sg s (2 + k) 6 = 0
    · rw [if_pos ⟨hkE, q⟩, if_pos q]
    · rw [if_neg (fun g => q g.2), if_neg q]
  rw [hpre, gd_t ⟨k0, by omega⟩, lx_p, lx_p, ms_e, f151]
  have hsame : mset (mset (mset m 144 k (sg s (2 + k) 4 + 1)) 150 k hh) 151 k (if sg s (2 + k) 6 = 0 then 0 else 1) = mset (mset m 144 k (sg s (2 + k) 4 + 1)) 150 k hh := by
    rw [← f151]
    exact mset_same
  have hstay : RG m0 (mset (mset m 144 k (sg s (2 + k) 4 + 1)) 150 k hh) x (sGo k (sg s (2 + k) 4 + 1) (st (st s (2 + k) 5 hh) (2 + k) 6 (if sg s (2 + k) 6 = 0 then 0 else 1))) rh E H := by
    have g := hs2 (if sg s (2 + k) 6 = 0 then 0 else 1)
    have e : (if (if sg s (2 + k) 6 = 0 then (0 : Int) else 1) = 0 then (0 : Int) else 1) = if sg s (2 + k) 6 = 0 then 0 else 1 := by
      by_cases q : sg s (2 + k) 6 = 0
      · rw [if_pos q]; rfl
      · rw [if_neg q]; rfl
    rw [e, hcm, hsame] at g
    exact ⟨Or.inl ⟨by rw [u_go, es0]; exact h30, g⟩, ((hA.st (by omega)).st (by omega)).go k0⟩
  by_cases q6 : sg s (2 + k) 6 = 0
  · rw [if_neg (show ¬ (sg s (2 + k) 6 ≠ 0 ∧ hh = 0) from fun g => g.1 q6)] at hK ⊢
    rw [show (if sg s (2 + k) 6 = 0 then (0 : Int) else 1) = 0 from if_pos q6] at hstay ⊢
    rw [if_pos rfl]
    exact ⟨_, rfl, hstay⟩
  · rw [if_neg q6] at hstay ⊢
    rw [if_neg (show ¬ ((1 : Int) = 0) by decide)]
    by_cases q0 : hh = 0
    · rw [if_pos (show sg s (2 + k) 6 ≠ 0 ∧ hh = 0 from ⟨q6, q0⟩)] at hK ⊢
      rw [if_pos q0]
      have g := hs2 0
      rw [if_pos rfl, hcm] at g
      have e10 : ∀ q, sg (sGo k (sg s (2 + k) 4 + 1) (st (st s (2 + k) 5 hh) (2 + k) 6 0)) 0 q = sg s 0 q := fun q => by rw [go_g, if_neg (by omega), if_neg (by omega)]; exact es0 _ _ _
      have e30 := (e10 30).trans h30
      obtain ⟨m', f1, f2⟩ := fails_r g (X.to (e10 10)) (((hW.s5 k0 hh0.1 hh0.2).s6 k0 (Or.inl rfl)).go k0 (by omega) (by omega)) e30 (((hA.st (by omega)).st (by omega)).go k0) (fun g1 g2 => by
        rw [e10] at g1 g2
        exact hK g1 g2) k0 (by rw [e10]; exact k1) hn (by omega)
      refine ⟨m', ?_, f2⟩
      have g145 : mset (mset (mset m 144 k (sg s (2 + k) 4 + 1)) 150 k hh) 151 k 0 145 k = 0 := by
        rw [ms_a (by decide), ms_a (by decide), ms_a (by decide), (hbr.2.2.2.2.2.2.2 h9).1, h7]
        rfl
      have hgo : fm_X12_goes (mset (mset (mset (mset m 144 k (sg s (2 + k) 4 + 1)) 150 k hh) 151 k 0) 145 k 0) = some 1 := by
        rw [goes_ms (by decide), goes_r (Or.inl ⟨e30, g⟩)]
        unfold goes
        rw [e30, e10, hov]
        rfl
      unfold fm_X12_cancelsBranch fm_X12_lets
      simp only [lx_p, up_t]
      rw [gd_t ⟨k0, by omega⟩, gd_t ⟨k0, by omega⟩, g145, if_neg (by decide), if_neg (by decide)]
      show bd (bd (bp (fm_X12_goes _) _) _) _ = _
      rw [bp_t hgo, if_neg (by decide), fails_idem, bd_t f1]
      rfl
    · rw [if_neg (show ¬ (sg s (2 + k) 6 ≠ 0 ∧ hh = 0) from fun g => q0 g.2)] at hK ⊢
      rw [if_neg q0]
      exact ⟨_, rfl, hstay⟩
end RF15
