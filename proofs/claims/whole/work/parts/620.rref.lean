/-! THE TELLING in the reference: what it is made of, how it stands for the plain state, its reading of histories. -/
section RF1
variable {m0 m m' : MM} {x : CX} {s : TS} {B : Int} {a b c e i j v k h n l w p r : Int} {G : Int → Nat}
/-- the places that a telling writes (behind the arrival's own) -/
def mtb (a j : Int) : Prop := (a = 68 ∧ (j = 91 ∨ j = 92 ∨ j = 103 ∨ j = 105 ∨ (110 ≤ j ∧ j ≤ 116) ∨ j = 120 ∨ j = 125 ∨ j = 126)) ∨ (142 ≤ a ∧ a ≤ 159 ∧ 0 ≤ j)
def TFr (m0 m : MM) : Prop := ∀ a j : Int, ¬ mtb a j → m a j = m0 a j
theorem TFr.rf : TFr m m := fun _ _ _ => rfl
theorem TFr.ms (h : TFr m0 m) (ha : mtb a j) : TFr m0 (mset m a j v) := fun b i hb => by
  have : ¬ (b = a ∧ i = j) := fun hh => hb (by rw [hh.1, hh.2]; exact ha)
  rw [show mset m a j v b i = m b i from if_neg this]
  exact h b i hb
/-- what is fixed while an arrival is taken: the run, its version, its type; the events as they lie in the reference (G: when); rh: so many are seen, rc: so many arrivals were counted -/
def RC (m : MM) (x : CX) (G : Int → Nat) (r ty ver rh rc : Int) : Prop := (m 68 88 = r ∧ 0 ≤ r ∧ r < 30) ∧ (m 68 89 = ver ∧ 0 ≤ ver ∧ ver < 4) ∧ (m 80 r = ty ∧ 0 ≤ ty ∧ ty < 4) ∧ m 70 (5 * ty + ver) = x.1 5 ∧ (0 ≤ x.1 5 ∧ x.1 5 ≤ 24) ∧ m 68 119 = rc ∧ (m 68 124 = rh ∧ 0 ≤ rh ∧ rh ≤ x.1 0) ∧ m 86 r = x.1 0 ∧ (0 ≤ x.1 0 ∧ x.1 0 < 524288) ∧ (∀ i : Int, 0 ≤ i → i < x.1 5 → m 71 (24 * (5 * ty + ver) + i) = (x.2.2 i).1 ∧ m 72 (24 * (5 * ty + ver) + i) = (x.2.2 i).2.1 ∧ m 73 (24 * (5 * ty + ver) + i) = (x.2.2 i).2.2) ∧
  ∀ i : Int, 0 ≤ i → i < x.1 0 → ∃ A, fm_X12_at r i m = some A ∧ 0 ≤ A ∧ A < 1310720 ∧ m 95 A = (rpk (x.2.1 i).1 (x.2.1 i).2.1 (x.2.1 i).2.2.1 (G i) : Int) ∧ (x.2.1 i).1 ≤ 17 ∧ (x.2.1 i).2.1 < 524288 ∧ (x.2.1 i).2.2.1 ≤ 999 ∧ G i < 536870912 ∧ (ek (x.2.1 i) ≤ 7 → ((G i % 1000 : Nat) : Int) = ew (x.2.1 i) % 1024)
theorem at_fr (h8 : ∀ j, m 88 j = m0 88 j) (h7 : ∀ j, m 87 j = m0 87 j) (h9 : ∀ j, m 96 j = m0 96 j) : fm_X12_at r i m = fm_X12_at r i m0 := by
  have key : ∀ (k k0 : Int → Option Int) (hk : ∀ z, k z = k0 z) (n : Nat) (y : Int), fl_X12_at_2 i m k n y = fl_X12_at_2 i m0 k0 n y := by
    intro k k0 hk n
    induction n with
    | zero => intro y; rfl
    | succ n ih =>
      intro y
      unfold fl_X12_at_2
      simp only [lx_p]
      rw [h8, h7, ih, hk]
  unfold fm_X12_at
  refine key _ _ (fun z => ?_) BIG r
  simp only [lx_p]
  rw [h8, h9]
theorem RC.to (R : RC m0 x G r j v h c) (hT : TFr m0 m) : RC m x G r j v h c := by
  obtain ⟨r1, r2, r3, r4, r5, r6, r7, r8, r9, r10, r11⟩ := R
  have e : ∀ a i : Int, ¬ mtb a i → m a i = m0 a i := hT
  have nm : ∀ a i : Int, a ≠ 68 → a < 142 → ¬ mtb a i := fun a i h1 h2 hh => by rcases hh with ⟨g, -⟩ | ⟨g, -⟩ <;> omega
  have n68 : ∀ i : Int, (i = 88 ∨ i = 89 ∨ i = 119 ∨ i = 124) → ¬ mtb 68 i := fun i h1 hh => by rcases hh with ⟨-, g⟩ | ⟨g, -⟩ <;> omega
  refine ⟨by rw [e _ _ (n68 _ (by omega))]; exact r1, by rw [e _ _ (n68 _ (by omega))]; exact r2, by rw [e _ _ (nm _ _ (by decide) (by decide))]; exact r3, by rw [e _ _ (nm _ _ (by decide) (by decide))]; exact r4, r5, by rw [e _ _ (n68 _ (by omega))]; exact r6, by rw [e _ _ (n68 _ (by omega))]; exact r7, by rw [e _ _ (nm _ _ (by decide) (by decide))]; exact r8, r9, fun i h1 h2 => ?_, fun i h1 h2 => ?_⟩
  · rw [e _ _ (nm _ _ (by decide) (by decide)), e _ _ (nm _ _ (by decide) (by decide)), e _ _ (nm _ _ (by decide) (by decide))]
    exact r10 i h1 h2
  · obtain ⟨A, g1, g2, g3, g4, g5⟩ := r11 i h1 h2
    refine ⟨A, ?_, g2, g3, by rw [e _ _ (nm _ _ (by decide) (by decide))]; exact g4, g5⟩
    rw [at_fr (m0 := m0) (fun _ => e _ _ (nm _ _ (by decide) (by decide))) (fun _ => e _ _ (nm _ _ (by decide) (by decide))) (fun _ => e _ _ (nm _ _ (by decide) (by decide)))]
    exact g1
variable {ty ver rh rc : Int}
theorem rkind (R : RC m x G r ty ver rh rc) (h0 : 0 ≤ i) (h1 : i < x.1 0) : fm_X12_kindAt r i m = some (ek (x.2.1 i)) := by
  obtain ⟨A, g1, g2, g3, g4, g5, g6, g7, g8, -⟩ := R.2.2.2.2.2.2.2.2.2.2 i h0 h1
  unfold fm_X12_kindAt
  simp only [lx_p]
  rw [bp_t g1, gd_t ⟨g2, g3⟩, g4, r_kind g5 g7 g6 g8]
  rfl
theorem rx (R : RC m x G r ty ver rh rc) (h0 : 0 ≤ i) (h1 : i < x.1 0) : fm_X12_xAt r i m = some (ex (x.2.1 i)) := by
  obtain ⟨A, g1, g2, g3, g4, g5, g6, g7, g8, -⟩ := R.2.2.2.2.2.2.2.2.2.2 i h0 h1
  unfold fm_X12_xAt
  simp only [lx_p]
  rw [bp_t g1, gd_t ⟨g2, g3⟩, g4, r_x g5 g7 g6 g8]
  rfl
theorem ry (R : RC m x G r ty ver rh rc) (h0 : 0 ≤ i) (h1 : i < x.1 0) : fm_X12_yAt r i m = some (ey (x.2.1 i)) := by
  obtain ⟨A, g1, g2, g3, g4, g5, g6, g7, g8, -⟩ := R.2.2.2.2.2.2.2.2.2.2 i h0 h1
  unfold fm_X12_yAt
  simp only [lx_p]
  rw [bp_t g1, gd_t ⟨g2, g3⟩, g4, r_y g5 g7 g6 g8]
  rfl
theorem rwhen (R : RC m x G r ty ver rh rc) (h0 : 0 ≤ i) (h1 : i < x.1 0) : fm_X12_whenAt r i m = some (G i : Int) := by
  obtain ⟨A, g1, g2, g3, g4, g5, g6, g7, g8, -⟩ := R.2.2.2.2.2.2.2.2.2.2 i h0 h1
  unfold fm_X12_whenAt
  simp only [lx_p]
  rw [bp_t g1, gd_t ⟨g2, g3⟩, g4, r_w g5 g7 g6 g8]
theorem isIn_e {z lo hi : Int} : fm_X12_isIn z lo hi m = some (if lo ≤ z ∧ z ≤ hi then 1 else 0) := by
  unfold fm_X12_isIn
  by_cases c1 : z < lo
  · rw [if_pos c1, if_neg (by omega)]
  · rw [if_neg c1]
    by_cases c2 : hi < z
    · rw [if_pos c2, if_neg (by omega)]
    · rw [if_neg c2, if_pos (by omega)]
/-- a command event: 8 to 16 -/
theorem RC.k17 (R : RC m x G r ty ver rh rc) (h0 : 0 ≤ i) (h1 : i < x.1 0) : 0 ≤ ek (x.2.1 i) ∧ ek (x.2.1 i) ≤ 17 := by
  obtain ⟨A, g1, g2, g3, g4, g5, -⟩ := R.2.2.2.2.2.2.2.2.2.2 i h0 h1
  unfold ek
  omega
theorem nc_u (h0 : i < x.1 0) (h1 : ¬ (8 ≤ ek (x.2.1 i) ∧ ek (x.2.1 i) ≤ 16)) (h17 : ek (x.2.1 i) ≤ 17) : nc x i = nc x (i + 1) := by
  unfold nc
  obtain ⟨n, hn⟩ : ∃ n, (x.1 0 - i).toNat = n + 1 := ⟨(x.1 0 - i).toNat - 1, by omega⟩
  have hn2 : (x.1 0 - (i + 1)).toNat = n := by omega
  rw [hn, hn2]
  show (if i < x.1 0 then (if 7 < ek (x.2.1 i) then (if ek (x.2.1 i) = 17 then nxc x n (i + 1) else i) else nxc x n (i + 1)) else i) = _
  rw [if_pos h0]
  by_cases c : 7 < ek (x.2.1 i)
  · rw [if_pos c, if_pos (by omega)]
  · rw [if_neg c]
theorem nc_at (h0 : i < x.1 0) (h1 : 8 ≤ ek (x.2.1 i) ∧ ek (x.2.1 i) ≤ 16) : nc x i = i := by
  unfold nc
  obtain ⟨n, hn⟩ : ∃ n, (x.1 0 - i).toNat = n + 1 := ⟨(x.1 0 - i).toNat - 1, by omega⟩
  rw [hn]
  show (if i < x.1 0 then (if 7 < ek (x.2.1 i) then (if ek (x.2.1 i) = 17 then nxc x n (i + 1) else i) else nxc x n (i + 1)) else i) = _
  rw [if_pos h0, if_pos (by omega), if_neg (by omega)]
theorem nc_end (h0 : x.1 0 ≤ i) : nc x i = i := by
  unfold nc
  have hn : (x.1 0 - i).toNat = 0 := by omega
  rw [hn]
  rfl
theorem nc_nc (h0 : 0 ≤ i) (h1 : i ≤ x.1 0) : nc x (nc x i) = nc x i := by
  have key : ∀ (n : Nat) (i : Int), (x.1 0 - i).toNat = n → i ≤ x.1 0 → nc x (nxc x n i) = nxc x n i := by
    intro n
    induction n with
    | zero => intro i h1 h2; exact nc_end (by show x.1 0 ≤ i; omega)
    | succ n ih =>
      intro i h1 h2
      have hi : i < x.1 0 := by omega
      unfold nxc
      rw [if_pos hi]
      by_cases c : 7 < ek (x.2.1 i)
      · rw [if_pos c]
        by_cases c2 : ek (x.2.1 i) = 17
        · rw [if_pos c2]
          exact ih _ (by omega) (by omega)
        · rw [if_neg c2]
          unfold nc
          rw [h1]
          show (if i < x.1 0 then (if 7 < ek (x.2.1 i) then (if ek (x.2.1 i) = 17 then nxc x n (i + 1) else i) else nxc x n (i + 1)) else i) = _
          rw [if_pos hi, if_pos c, if_neg c2]
      · rw [if_neg c]
        exact ih _ (by omega) (by omega)
  exact key _ i rfl h1
/-- the reference's pointer comes to the next command event that is seen -/
theorem rnext (R : RC m0 x G r ty ver rh rc) (hT : TFr m0 m) (h0 : 0 ≤ m 68 116) (h1 : m 68 116 ≤ x.1 0) : ∃ m' z, fm_X12_nextCommand m = some (z, m') ∧ m' = mset m 68 116 z ∧ ((z < rh ∧ z = nc x (m 68 116)) ∨ (rh ≤ z ∧ rh ≤ nc x (m 68 116) ∧ z ≤ x.1 0)) ∧ nc x z = nc x (m 68 116) ∧ m 68 116 ≤ z := by
  have key : ∀ (n f : Nat) (m : MM), TFr m0 m → 0 ≤ m 68 116 → m 68 116 ≤ x.1 0 → (x.1 0 - m 68 116).toNat = n → n < f → ∃ m' z, fl_X12_nextCommand_0 f m = some (z, m') ∧ m' = mset m 68 116 z ∧ ((z < rh ∧ z = nc x (m 68 116)) ∨ (rh ≤ z ∧ rh ≤ nc x (m 68 116) ∧ z ≤ x.1 0)) ∧ nc x z = nc x (m 68 116) ∧ m 68 116 ≤ z := by
    intro n
    induction n with
    | zero =>
      intro f m hT h0 h1 h2 h3
      obtain ⟨f, rfl⟩ : ∃ g, f = g + 1 := ⟨f - 1, by omega⟩
      have R1 := R.to hT
      have hr := R1.2.2.2.2.2.2.1
      refine ⟨m, m 68 116, ?_, ?_, ?_, rfl, Int.le_refl _⟩
      · unfold fl_X12_nextCommand_0
        simp only [lx_p]
        rw [hr.1, if_neg (by omega)]
      · funext b j
        by_cases q : b = 68 ∧ j = 116
        · rw [q.1, q.2, ms_e]
        · exact (if_neg q).symm
      · right
        rw [nc_end (by omega)]
        omega
    | succ n ih =>
      intro f m hT h0 h1 h2 h3
      obtain ⟨f, rfl⟩ : ∃ g, f = g + 1 := ⟨f - 1, by omega⟩
      have R1 := R.to hT
      have hr := R1.2.2.2.2.2.2.1
      have same : m = mset m 68 116 (m 68 116) := by
        funext b j
        by_cases q : b = 68 ∧ j = 116
        · rw [q.1, q.2, ms_e]
        · exact (if_neg q).symm
      have hb := nc_b h1
      have hn9 := R1.2.2.2.2.2.2.2.2.1
      have hi : m 68 116 < x.1 0 := by omega
      have hk := R1.k17 h0 hi
      unfold fl_X12_nextCommand_0
      simp only [lx_p, up_t]
      rw [hr.1, R1.1.1, bp_t (rkind R1 h0 hi), bp_t isIn_e]
      by_cases c1 : m 68 116 < rh
      · rw [if_pos c1]
        by_cases c2 : 8 ≤ ek (x.2.1 (m 68 116)) ∧ ek (x.2.1 (m 68 116)) ≤ 16
        · rw [if_pos c2, if_neg (by decide)]
          exact ⟨m, m 68 116, rfl, same, Or.inl ⟨c1, (nc_at hi c2).symm⟩, rfl, Int.le_refl _⟩
        · rw [if_neg c2, if_pos rfl, w32_id (by omega) (by omega)]
          have e1 : mset m 68 116 (m 68 116 + 1) 68 116 = m 68 116 + 1 := ms_e
          obtain ⟨m', z, g1, g2, g3, g4, g5⟩ := ih f (mset m 68 116 (m 68 116 + 1)) (hT.ms (Or.inl ⟨rfl, by omega⟩)) (by rw [e1]; omega) (by rw [e1]; omega) (by rw [e1]; omega) (by omega)
          rw [e1] at g3 g4 g5
          rw [← nc_u hi c2 hk.2] at g3 g4
          refine ⟨m', z, g1, ?_, g3, g4, by omega⟩
          rw [g2]
          funext b j
          by_cases q : b = 68 ∧ j = 116
          · rw [q.1, q.2, ms_e, ms_e]
          · rw [show mset (mset m 68 116 (m 68 116 + 1)) 68 116 z b j = mset m 68 116 (m 68 116 + 1) b j from if_neg q, show mset m 68 116 (m 68 116 + 1) b j = m b j from if_neg q]
            exact (if_neg q).symm
      · rw [if_neg c1]
        exact ⟨m, m 68 116, rfl, same, Or.inr ⟨by omega, by omega, h1⟩, rfl, Int.le_refl _⟩
  have hn := R.2.2.2.2.2.2.2.2.1
  obtain ⟨m', z, g⟩ := key _ BIG m hT h0 h1 rfl (BIG_g (by omega))
  exact ⟨m', z, g⟩
/-- likewise, of the events behind those that are seen -/
theorem rlater (R : RC m0 x G r ty ver rh rc) (hT : TFr m0 m) (h0 : 0 ≤ m 68 125) (h1 : m 68 125 ≤ x.1 0) : ∃ m', fm_X12_nextLater m = some (nc x (m 68 125), m') ∧ m' = mset m 68 125 (nc x (m 68 125)) := by
  have key : ∀ (n f : Nat) (m : MM), TFr m0 m → 0 ≤ m 68 125 → m 68 125 ≤ x.1 0 → (x.1 0 - m 68 125).toNat = n → n < f → ∃ m', fl_X12_nextLater_0 f m = some (nc x (m 68 125), m') ∧ m' = mset m 68 125 (nc x (m 68 125)) := by
    intro n
    induction n with
    | zero =>
      intro f m hT h0 h1 h2 h3
      obtain ⟨f, rfl⟩ : ∃ g, f = g + 1 := ⟨f - 1, by omega⟩
      have R1 := R.to hT
      have h8 := R1.2.2.2.2.2.2.2.1
      rw [nc_end (by omega)]
      refine ⟨m, ?_, ?_⟩
      · unfold fl_X12_nextLater_0
        simp only [lx_p]
        rw [R1.1.1, gd_t ⟨R1.1.2.1, R1.1.2.2⟩, h8, if_neg (by omega)]
      · funext b j
        by_cases q : b = 68 ∧ j = 125
        · rw [q.1, q.2, ms_e]
        · exact (if_neg q).symm
    | succ n ih =>
      intro f m hT h0 h1 h2 h3
      obtain ⟨f, rfl⟩ : ∃ g, f = g + 1 := ⟨f - 1, by omega⟩
      have R1 := R.to hT
      have h8 := R1.2.2.2.2.2.2.2.1
      have hi : m 68 125 < x.1 0 := by omega
      have hk := R1.k17 h0 hi
      have hn := R1.2.2.2.2.2.2.2.2.1
      unfold fl_X12_nextLater_0
      simp only [lx_p, up_t]
      rw [R1.1.1, gd_t ⟨R1.1.2.1, R1.1.2.2⟩, h8, if_pos hi, bp_t (rkind R1 h0 hi), bp_t isIn_e]
      by_cases c2 : 8 ≤ ek (x.2.1 (m 68 125)) ∧ ek (x.2.1 (m 68 125)) ≤ 16
      · rw [if_pos c2, if_neg (by decide), nc_at hi c2]
        refine ⟨m, rfl, ?_⟩
        funext b j
        by_cases q : b = 68 ∧ j = 125
        · rw [q.1, q.2, ms_e]
        · exact (if_neg q).symm
      · rw [if_neg c2, if_pos rfl, w32_id (by omega) (by omega)]
        have e1 : mset m 68 125 (m 68 125 + 1) 68 125 = m 68 125 + 1 := ms_e
        obtain ⟨m', g1, g2⟩ := ih f (mset m 68 125 (m 68 125 + 1)) (hT.ms (Or.inl ⟨rfl, by omega⟩)) (by rw [e1]; omega) (by rw [e1]; omega) (by rw [e1]; omega) (by omega)
        rw [e1, ← nc_u hi c2 hk.2] at g1 g2
        refine ⟨m', g1, ?_⟩
        rw [g2]
        funext b j
        by_cases q : b = 68 ∧ j = 125
        · rw [q.1, q.2, ms_e, ms_e]
        · rw [show mset (mset m 68 125 (m 68 125 + 1)) 68 125 (nc x (m 68 125)) b j = mset m 68 125 (m 68 125 + 1) b j from if_neg q, show mset m 68 125 (m 68 125 + 1) b j = m b j from if_neg q]
          exact (if_neg q).symm
  have hn := R.2.2.2.2.2.2.2.2.1
  obtain ⟨m', g⟩ := key _ BIG m hT h0 h1 rfl (BIG_g (by omega))
  exact ⟨m', g⟩
/-- the first TASK that counts an arrival, where there is one -/
theorem rfirst (R : RC m x G r ty ver rh rc) (ha : m 68 117 = a + 1) (hz : tb x a < x.1 0) : fm_X12_firstTask m = some (tb x a) := by
  have hn := R.2.2.2.2.2.2.2.2.1
  have key : ∀ (n f : Nat) (i : Int), 0 ≤ i → (x.1 0 - i).toNat = n → nxt x a n i < x.1 0 → n < f → fl_X12_firstTask_2 m f i = some (nxt x a n i) := by
    intro n
    induction n with
    | zero =>
      intro f i h0 h1 h2 h3
      exfalso
      have : i < x.1 0 := h2
      omega
    | succ n ih =>
      intro f i h0 h1 h2 h3
      obtain ⟨f, rfl⟩ : ∃ g, f = g + 1 := ⟨f - 1, by omega⟩
      have hi : i < x.1 0 := by omega
      unfold nxt at h2 ⊢
      rw [if_pos hi] at h2
      unfold fl_X12_firstTask_2
      simp only [lx_p]
      rw [R.1.1, bp_t (rkind R h0 hi), if_pos hi, w32_id (by omega) (by omega)]
      by_cases c1 : ek (x.2.1 i) = 17
      · rw [if_pos c1] at h2
        rw [if_pos c1, if_pos c1, bp_t (rx R h0 hi), ha]
        by_cases c2 : a < ex (x.2.1 i)
        · rw [if_pos c2, if_neg (by omega)]
        · rw [if_neg c2] at h2
          rw [if_neg c2, if_pos (by omega)]
          exact ih f (i + 1) (by omega) (by omega) h2 (by omega)
      · rw [if_neg c1] at h2
        rw [if_neg c1, if_neg c1]
        exact ih f (i + 1) (by omega) (by omega) h2 (by omega)
  unfold fm_X12_firstTask tb
  unfold tb at hz
  have e : (x.1 0 - 0).toNat = (x.1 0).toNat := by rw [Int.sub_zero]
  exact key _ BIG 0 (by decide) e hz (BIG_g (by omega))
end RF1
