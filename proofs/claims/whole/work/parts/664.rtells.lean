/-! THE TELLING in the reference: a run is told. -/
section RF29
variable {m0 m m' M : MM} {x : CX} {s s' s1 s2 : TS} {B H : Int} {a b c e i j v k h n l w p r t o q rh E ty ver rc kd lim : Int} {G : Int → Nat} {Q QB : TS → Prop}
def zrw (m : MM) (a lo : Int) : MM := fun b j => if b = a ∧ 0 ≤ j ∧ j < lo then 0 else m b j
def zr2 (m : MM) (lo : Int) : MM := fun b j => if (b = 155 ∨ b = 156) ∧ 0 ≤ j ∧ j < lo then 0 else m b j
theorem tr30 {K : MM → Option (Int × MM)} : ∀ (n f : Nat) (y : Int), 0 ≤ y → y + n = 6 → n < f → fl_X12_tellsRun_30 a b c K f y (zrw m 142 y) = K (zrw m 142 6) := by
  intro n
  induction n with
  | zero =>
    intro f y h0 h1 h2
    obtain ⟨f, rfl⟩ : ∃ g, f = g + 1 := ⟨f - 1, by omega⟩
    unfold fl_X12_tellsRun_30
    rw [if_neg (by omega), show y = 6 by omega]
  | succ n ih =>
    intro f y h0 h1 h2
    obtain ⟨f, rfl⟩ : ∃ g, f = g + 1 := ⟨f - 1, by omega⟩
    have e : mset (zrw m 142 y) 142 y 0 = zrw m 142 (y + 1) := by
      funext b j
      show (if b = 142 ∧ j = y then 0 else if b = 142 ∧ 0 ≤ j ∧ j < y then 0 else m b j) = if b = 142 ∧ 0 ≤ j ∧ j < y + 1 then 0 else m b j
      by_cases q : b = 142 ∧ 0 ≤ j ∧ j < y + 1
      · rw [if_pos q]
        split
        · rfl
        · rw [if_pos (by omega)]
      · rw [if_neg q, if_neg (by omega), if_neg (by omega)]
    unfold fl_X12_tellsRun_30
    rw [if_pos (by omega), gd_t ⟨h0, by omega⟩, up_t, lx_p, w32_id (by omega) (by omega), e]
    exact ih f (y + 1) (by omega) (by omega) (by omega)
theorem tr54 {K : MM → Option (Int × MM)} : ∀ (n f : Nat) (y : Int), 0 ≤ y → y + n = 4 → n < f → fl_X12_tellsRun_54 a b c K f y (zr2 m y) = K (zr2 m 4) := by
  intro n
  induction n with
  | zero =>
    intro f y h0 h1 h2
    obtain ⟨f, rfl⟩ : ∃ g, f = g + 1 := ⟨f - 1, by omega⟩
    unfold fl_X12_tellsRun_54
    rw [if_neg (by omega), show y = 4 by omega]
  | succ n ih =>
    intro f y h0 h1 h2
    obtain ⟨f, rfl⟩ : ∃ g, f = g + 1 := ⟨f - 1, by omega⟩
    have e : mset (mset (zr2 m y) 155 y 0) 156 y 0 = zr2 m (y + 1) := by
      funext b j
      show (if b = 156 ∧ j = y then 0 else if b = 155 ∧ j = y then 0 else if (b = 155 ∨ b = 156) ∧ 0 ≤ j ∧ j < y then 0 else m b j) = if (b = 155 ∨ b = 156) ∧ 0 ≤ j ∧ j < y + 1 then 0 else m b j
      by_cases q : (b = 155 ∨ b = 156) ∧ 0 ≤ j ∧ j < y + 1
      · rw [if_pos q]
        split
        · rfl
        · split
          · rfl
          · rw [if_pos (by omega)]
      · rw [if_neg q, if_neg (by omega), if_neg (by omega), if_neg (by omega)]
    unfold fl_X12_tellsRun_54
    rw [if_pos (by omega), gd_t ⟨h0, by omega⟩, up_t, up_t, lx_p, w32_id (by omega) (by omega), e]
    exact ih f (y + 1) (by omega) (by omega) (by omega)
/-- a run's history and its code by a version, as they lie in the reference -/
def RH0 (M : MM) (x : CX) (G : Int → Nat) (r ty ver : Int) : Prop := (0 ≤ r ∧ r < 30) ∧ (0 ≤ ver ∧ ver < 4) ∧ (M 80 r = ty ∧ 0 ≤ ty ∧ ty < 4) ∧ M 70 (5 * ty + ver) = x.1 5 ∧ (0 ≤ x.1 5 ∧ x.1 5 ≤ 24) ∧ M 86 r = x.1 0 ∧ (0 ≤ x.1 0 ∧ x.1 0 < 524288) ∧ (∀ i : Int, 0 ≤ i → i < x.1 5 → M 71 (24 * (5 * ty + ver) + i) = (x.2.2 i).1 ∧ M 72 (24 * (5 * ty + ver) + i) = (x.2.2 i).2.1 ∧ M 73 (24 * (5 * ty + ver) + i) = (x.2.2 i).2.2) ∧
  ∀ i : Int, 0 ≤ i → i < x.1 0 → ∃ A, fm_X12_at r i M = some A ∧ 0 ≤ A ∧ A < 1310720 ∧ M 95 A = (rpk (x.2.1 i).1 (x.2.1 i).2.1 (x.2.1 i).2.2.1 (G i) : Int) ∧ (x.2.1 i).1 ≤ 17 ∧ (x.2.1 i).2.1 < 524288 ∧ (x.2.1 i).2.2.1 ≤ 999 ∧ G i < 536870912 ∧ (ek (x.2.1 i) ≤ 7 → ((G i % 1000 : Nat) : Int) = ew (x.2.1 i) % 1024)
theorem RH0.toRC (h : RH0 M x G r ty ver) (hT : TFW M m) (e1 : m 68 88 = r) (e2 : m 68 89 = ver) (e3 : m 68 119 = rc) (e4 : m 68 124 = rh) (hr : 0 ≤ rh ∧ rh ≤ x.1 0) : RC m x G r ty ver rh rc := by
  obtain ⟨r1, r2, r3, r4, r5, r6, r7, r8, r9⟩ := h
  have nm : ∀ a i : Int, a ≠ 68 → a < 142 → m a i = M a i := fun a i h1 h2 => hT a i fun hh => by
    rcases hh with (⟨g, -⟩ | ⟨g, -⟩) | ⟨g, -⟩ | ⟨g, -⟩ <;> omega
  refine ⟨⟨e1, r1⟩, ⟨e2, r2⟩, by rw [nm _ _ (by decide) (by decide)]; exact r3, by rw [nm _ _ (by decide) (by decide)]; exact r4, r5, e3, ⟨e4, hr⟩, by rw [nm _ _ (by decide) (by decide)]; exact r6, r7, fun i h1 h2 => ?_, fun i h1 h2 => ?_⟩
  · rw [nm _ _ (by decide) (by decide), nm _ _ (by decide) (by decide), nm _ _ (by decide) (by decide)]
    exact r8 i h1 h2
  · obtain ⟨A, g1, g2, g3, g4, g5⟩ := r9 i h1 h2
    refine ⟨A, ?_, g2, g3, by rw [nm _ _ (by decide) (by decide)]; exact g4, g5⟩
    rw [at_fr (m0 := M) (fun _ => nm _ _ (by decide) (by decide)) (fun _ => nm _ _ (by decide) (by decide)) (fun _ => nm _ _ (by decide) (by decide))]
    exact g1
theorem nc_skip (hk : ∀ i : Int, 0 ≤ i → i < x.1 0 → ek (x.2.1 i) ≤ 17) (hr : rh ≤ x.1 0) : ∀ (n : Nat) (i : Int), (rh - i).toNat = n → 0 ≤ i → i ≤ rh → rh ≤ nc x i → nc x rh = nc x i := by
  intro n
  induction n with
  | zero => intro i g1 g0 g2 g3; rw [show i = rh by omega]
  | succ n ih =>
    intro i g1 g0 g2 g3
    have hir : i < rh := by omega
    have hix : i < x.1 0 := by omega
    have hnk : ¬ (8 ≤ ek (x.2.1 i) ∧ ek (x.2.1 i) ≤ 16) := fun hh => by rw [nc_at hix hh] at g3; omega
    rw [nc_u hix hnk (hk i g0 hix)]
    rw [nc_u hix hnk (hk i g0 hix)] at g3
    exact ih (i + 1) (by omega) (by omega) (by omega) g3
theorem bp00 (h0 : 0 ≤ x.1 0) : BP x s00 1 := by
  refine ⟨(sw00 h0).mono (by decide), ⟨⟨⟨fun i k i0 i1 i2 => ?_, fun n n0 n1 => ?_⟩, fun k k0 k1 => ?_, fun k k0 k1 => ?_, fun k k0 k1 => ?_, fun k k0 k1 => ?_⟩, fun k k0 k1 => ?_⟩, ⟨fun k k0 k1 => ?_, fun _ i k i0 i1 => ?_⟩, fun k k0 k1 => ?_, btw00 h0⟩
  all_goals first
    | (exfalso; have : k < (0 : Int) := i2; omega)
    | (exfalso; have : n < (0 : Int) := n1; omega)
    | (exfalso; have : k < (0 : Int) := k1; omega)
    | (exfalso; have : i < (0 : Int) := i1; omega)
/-- at the beginning of a telling all is empty -/
theorem rr00 (hT : m' = m') (h0 : 0 ≤ x.1 0) (hk : ∀ i : Int, 0 ≤ i → i < x.1 0 → ek (x.2.1 i) ≤ 17) (hr : 0 ≤ rh ∧ rh ≤ x.1 0) (e : m 68 91 = 0 ∧ m 68 92 = 0 ∧ m 68 110 = 0 ∧ m 68 111 = 0 ∧ m 68 112 = 0 ∧ m 68 114 = 0 ∧ m 68 120 = 0 ∧ m 68 103 = 0 ∧ m 68 105 = 0 ∧ m 68 116 = 0 ∧ m 68 125 = rh) (h142 : ∀ j : Int, 0 ≤ j → j < 6 → m 142 j = 0) (h155 : ∀ j : Int, 0 ≤ j → j < 4 → m 155 j = 0 ∧ m 156 j = 0) : RR m m x (st s00 0 29 (m 68 113)) rh 12 0 := by
  obtain ⟨e1, e2, e3, e4, e5, e6, e7, e8, e9, e10, e11⟩ := e
  have z : ∀ a j : Int, ¬ (a = 0 ∧ (j = 29 ∨ j = 31)) → sg (st s00 0 29 (m 68 113)) a j = 0 := fun a j hh => by
    rw [st_g, if_neg (by omega)]
    show (if a = 0 ∧ j = 31 then (-1 : Int) else 0) = 0
    rw [if_neg (by omega)]
  have hnb := nc_b (x := x) (a := 0) h0
  refine ⟨TFr.rf, ⟨by rw [e1, z _ _ (by omega)], by rw [e2, z _ _ (by omega)], by rw [e3, z _ _ (by omega)], by rw [e4, z _ _ (by omega)], by rw [e5, z _ _ (by omega)], by rw [st_g, if_pos ⟨rfl, rfl⟩], by rw [e6, z _ _ (by omega)], e7, fun g => absurd (z 0 30 (by omega)) g⟩, fun a g1 g2 => by rw [h142 a g1 g2, z _ _ (by omega)], fun n g1 g2 => ?_, ⟨by rw [z _ _ (by omega)]; decide, fun k g1 g2 => ?_⟩, fun n g1 g2 => ?_, ⟨by rw [e9]; rfl, fun i v hv => ?_⟩, fun i k a b hi => ?_, fun _ => ?_, ⟨by rw [e8]; decide, Int.le_refl _, by rw [z _ _ (by omega)]; decide⟩⟩
  · rw [z _ _ (by omega)] at g2; omega
  · rw [z _ _ (by omega)] at g2; omega
  · obtain ⟨q1, q2⟩ := h155 n g1 g2
    rw [q1, q2, z _ _ (by omega)]
    exact ⟨by decide, by decide, rfl, fun i v hv => by cases hv⟩
  · cases hv
  · cases hi
  · rw [e10, e11, z _ _ (by omega)]
    refine ⟨⟨by decide, h0⟩, hr, fun _ => rfl, fun g => g, ?_⟩
    by_cases c : nc x 0 < rh
    · rw [if_pos c]
    · rw [if_neg c]
      exact nc_skip hk hr.2 _ 0 rfl (by decide) hr.1 (by omega)
theorem tells_all (hC : CXX x) (R0 : RH0 M x G r ty ver) (A : MA x rh rc) (hG : GB x rc rh Q QB) (hQ0 : QB s00) (hA0 : x.1 1 ≤ 0 → rh < x.1 0 → x.1 0 ≤ nc x 0) (hP : P113 M) (l0 : 0 ≤ lim) (hlim : lim ≤ 260000) (b1 : nl (told x lim) < 65536) (b2 : sg (told x lim) 0 41 + 1 ≤ 2048) (b3 : sg (told x lim) 0 40 + 61 < 196608) : ∃ m', fm_X12_tellsRun r ver lim rh rc M = some (0, m') ∧ FIN M m' x (told x lim) rh ∧ P113 m' ∧ RC m' x G r ty ver rh rc := by
  have hr := A.1
  have hN0 := hC.2.2.2.2
  have hk17 : ∀ i : Int, 0 ≤ i → i < x.1 0 → ek (x.2.1 i) ≤ 17 := fun i i0 i1 => by
    obtain ⟨A, -, -, -, -, g, -⟩ := R0.2.2.2.2.2.2.2.2 i i0 i1
    unfold ek
    omega
  have hF68 : ∀ (M : MM) (j v : Int), Fix M → 88 ≤ j → j ≤ 126 → (j = 88 ∨ j = 89 ∨ j = 91 ∨ j = 92 ∨ j = 103 ∨ j = 105 ∨ (110 ≤ j ∧ j ≤ 120) ∨ (123 ≤ j ∧ j ≤ 126)) → Fix (mset M 68 j v) := fun M j v hF j0 j1 j2 => by
    have key : ∀ q ∈ fixk, q.1 = 68 → ∀ p ∈ q.2.2.2, ¬ (p.1 = 88 ∨ p.1 = 89 ∨ p.1 = 91 ∨ p.1 = 92 ∨ p.1 = 103 ∨ p.1 = 105 ∨ (110 ≤ p.1 ∧ p.1 ≤ 120) ∨ (123 ≤ p.1 ∧ p.1 ≤ 126)) := by decide +kernel
    exact fx_z hF (by decide) (by omega) fun q g1 g2 p g3 g4 => key q g1 g2 p g3 (by rw [g4]; exact j2)
  have hFz : ∀ M : MM, Fix M → Fix (zrw M 142 6) := fun M hF => by
    refine ⟨by show 163 ≤ (if (0 : Int) = 142 ∧ _ then _ else M 0 0); rw [if_neg (by omega)]; exact hF.1, fun q hq => ?_⟩
    have key : ∀ q ∈ fixk, q.1 = 142 → q.2.2.2 = [] := by decide +kernel
    obtain ⟨h1, h2, h3⟩ := hF.2 q hq
    refine ⟨?_, ?_, fun p hp => ?_⟩
    · show (if q.1 = 142 ∧ (0 : Int) ≤ -1 ∧ _ then _ else M q.1 (-1)) = _
      rw [if_neg (by omega)]; exact h1
    · show (if q.1 = 142 ∧ (0 : Int) ≤ -2 ∧ _ then _ else M q.1 (-2)) = _
      rw [if_neg (by omega)]; exact h2
    · show (if q.1 = 142 ∧ _ ∧ _ then _ else M q.1 p.1) = _
      by_cases c : q.1 = 142
      · rw [key q hq c] at hp; cases hp
      · rw [if_neg (fun g => c g.1)]; exact h3 p hp
  have hFz2 : ∀ M : MM, Fix M → Fix (zr2 M 4) := fun M hF => by
    refine ⟨by show 163 ≤ (if ((0 : Int) = 155 ∨ (0 : Int) = 156) ∧ _ then _ else M 0 0); rw [if_neg (by omega)]; exact hF.1, fun q hq => ?_⟩
    have key : ∀ q ∈ fixk, (q.1 = 155 ∨ q.1 = 156) → q.2.2.2 = [] := by decide +kernel
    obtain ⟨h1, h2, h3⟩ := hF.2 q hq
    refine ⟨?_, ?_, fun p hp => ?_⟩
    · show (if (q.1 = 155 ∨ q.1 = 156) ∧ (0 : Int) ≤ -1 ∧ _ then _ else M q.1 (-1)) = _
      rw [if_neg (by omega)]; exact h1
    · show (if (q.1 = 155 ∨ q.1 = 156) ∧ (0 : Int) ≤ -2 ∧ _ then _ else M q.1 (-2)) = _
      rw [if_neg (by omega)]; exact h2
    · show (if (q.1 = 155 ∨ q.1 = 156) ∧ _ ∧ _ then _ else M q.1 p.1) = _
      by_cases c : q.1 = 155 ∨ q.1 = 156
      · rw [key q hq c] at hp; cases hp
      · rw [if_neg (fun g => c g.1)]; exact h3 p hp
  unfold fm_X12_tellsRun
  rw [up_t, up_t, up_t, up_t, up_t]
  have z0 : ∀ M : MM, zrw M 142 0 = M := fun M => by funext b j; exact if_neg (by omega)
  have z1 : ∀ M : MM, zr2 M 0 = M := fun M => by funext b j; exact if_neg (by omega)
  rw [← z0 (mset (mset (mset (mset (mset M 68 88 r) 68 124 rh) 68 125 rh) 68 126 0) 68 89 ver), tr30 6 BIG 0 (by decide) rfl (BIG_g (by omega)), ← z1 (zrw (mset (mset (mset (mset (mset M 68 88 r) 68 124 rh) 68 125 rh) 68 126 0) 68 89 ver) 142 6), tr54 4 BIG 0 (by decide) rfl (BIG_g (by omega))]
  rw [up_t, up_t, up_t, up_t, up_t, up_t, up_t, up_t, up_t, up_t, up_t, up_t, up_t]
  generalize hMa : mset (mset (mset (mset (mset M 68 88 r) 68 124 rh) 68 125 rh) 68 126 0) 68 89 ver = Ma
  have a68 : ∀ j, Ma 68 j = if j = 89 then ver else if j = 126 then 0 else if j = 125 then rh else if j = 124 then rh else if j = 88 then r else M 68 j := fun j => by
    subst hMa
    rw [ms_i, ms_i, ms_i, ms_i, ms_i]
  have aO : ∀ a j, a ≠ 68 → Ma a j = M a j := fun a j h => by
    subst hMa
    rw [ms_a h, ms_a h, ms_a h, ms_a h, ms_a h]
  have aF : Fix Ma := by
    subst hMa
    exact hF68 _ 89 _ (hF68 _ 126 _ (hF68 _ 125 _ (hF68 _ 124 _ (hF68 _ 88 _ hP.1 (by decide) (by decide) (by omega)) (by decide) (by decide) (by omega)) (by decide) (by decide) (by omega)) (by decide) (by decide) (by omega)) (by decide) (by decide) (by omega)
  generalize hMb : zr2 (zrw Ma 142 6) 4 = Mb
  have bF : Fix Mb := by subst hMb; exact hFz2 _ (hFz _ aF)
  have b68 : ∀ j, Mb 68 j = Ma 68 j := fun j => by
    subst hMb
    show (if ((68 : Int) = 155 ∨ (68 : Int) = 156) ∧ _ then 0 else if (68 : Int) = 142 ∧ _ then 0 else Ma 68 j) = _
    rw [if_neg (by omega), if_neg (by omega)]
  have b142 : ∀ j, 0 ≤ j → j < 6 → Mb 142 j = 0 := fun j j0 j1 => by
    subst hMb
    show (if ((142 : Int) = 155 ∨ (142 : Int) = 156) ∧ _ then 0 else if (142 : Int) = 142 ∧ 0 ≤ j ∧ j < 6 then 0 else Ma 142 j) = _
    rw [if_neg (by omega), if_pos ⟨rfl, j0, j1⟩]
  have b155 : ∀ j, 0 ≤ j → j < 4 → Mb 155 j = 0 ∧ Mb 156 j = 0 := fun j j0 j1 => by
    subst hMb
    exact ⟨if_pos ⟨Or.inl rfl, j0, j1⟩, if_pos ⟨Or.inr rfl, j0, j1⟩⟩
  have bO : ∀ a j, ¬ tow a j → Mb a j = M a j := fun a j h => by
    have h1 : ¬ ((a = 155 ∨ a = 156) ∧ 0 ≤ j ∧ j < 4) := fun g => h (Or.inl (mtb1 (by omega) (by omega) g.2.1))
    have h2 : ¬ (a = 142 ∧ 0 ≤ j ∧ j < 6) := fun g => h (Or.inl (mtb1 (by omega) (by omega) g.2.1))
    have e : Mb a j = Ma a j := by
      subst hMb
      exact (if_neg h1).trans (if_neg h2)
    rw [e]
    by_cases c : a = 68
    · subst c
      have n1 : j ≠ 89 := fun g => h (Or.inr (Or.inr ⟨rfl, by omega⟩))
      have n2 : j ≠ 126 := fun g => h (Or.inl (mtb68 (by omega)))
      have n3 : j ≠ 125 := fun g => h (Or.inl (mtb68 (by omega)))
      have n4 : j ≠ 124 := fun g => h (Or.inr (Or.inr ⟨rfl, by omega⟩))
      have n5 : j ≠ 88 := fun g => h (Or.inr (Or.inr ⟨rfl, by omega⟩))
      rw [a68, if_neg n1, if_neg n2, if_neg n3, if_neg n4, if_neg n5]
    · exact aO a j c
  clear hMa hMb aO aF
  -- the scalars
  generalize hMd : mset (mset (mset (mset (mset (mset (mset (mset (mset (mset (mset (mset (mset Mb 68 91 0) 68 92 0) 68 103 0) 68 105 0) 68 110 0) 68 111 0) 68 112 0) 68 114 0) 68 116 0) 68 117 0) 68 120 0) 68 123 0) 68 119 rc = Md
  have d68 : ∀ j, Md 68 j = if j = 119 then rc else if j = 123 then 0 else if j = 120 then 0 else if j = 117 then 0 else if j = 116 then 0 else if j = 114 then 0 else if j = 112 then 0 else if j = 111 then 0 else if j = 110 then 0 else if j = 105 then 0 else if j = 103 then 0 else if j = 92 then 0 else if j = 91 then 0 else Mb 68 j := fun j => by
    subst hMd
    rw [ms_i, ms_i, ms_i, ms_i, ms_i, ms_i, ms_i, ms_i, ms_i, ms_i, ms_i, ms_i, ms_i]
  have dO : ∀ a j, a ≠ 68 → Md a j = Mb a j := fun a j h => by
    subst hMd
    rw [ms_a h, ms_a h, ms_a h, ms_a h, ms_a h, ms_a h, ms_a h, ms_a h, ms_a h, ms_a h, ms_a h, ms_a h, ms_a h]
  have dF : Fix Md := by
    subst hMd
    exact hF68 _ 119 _ (hF68 _ 123 _ (hF68 _ 120 _ (hF68 _ 117 _ (hF68 _ 116 _ (hF68 _ 114 _ (hF68 _ 112 _ (hF68 _ 111 _ (hF68 _ 110 _ (hF68 _ 105 _ (hF68 _ 103 _ (hF68 _ 92 _ (hF68 _ 91 _ bF (by decide) (by decide) (by omega)) (by decide) (by decide) (by omega)) (by decide) (by decide) (by omega)) (by decide) (by decide) (by omega)) (by decide) (by decide) (by omega)) (by decide) (by decide) (by omega)) (by decide) (by decide) (by omega)) (by decide) (by decide) (by omega)) (by decide) (by decide) (by omega)) (by decide) (by decide) (by omega)) (by decide) (by decide) (by omega)) (by decide) (by decide) (by omega)) (by decide) (by decide) (by omega)
  have dT : TFW M Md := fun a j h => by
    by_cases c : a = 68
    · subst c
      have n : ∀ q : Int, (q = 91 ∨ q = 92 ∨ q = 103 ∨ q = 105 ∨ (110 ≤ q ∧ q ≤ 116) ∨ q = 120) → j ≠ q := fun q hq g => h (Or.inl (mtb68 (by omega)))
      have n117 : j ≠ 117 := fun g => h (tow_own (by omega))
      have n123 : j ≠ 123 := fun g => h (tow_own (by omega))
      have n119 : j ≠ 119 := fun g => h (Or.inr (Or.inr ⟨rfl, by omega⟩))
      rw [d68, if_neg n119, if_neg n123, if_neg (n 120 (by omega)), if_neg n117, if_neg (n 116 (by omega)), if_neg (n 114 (by omega)), if_neg (n 112 (by omega)), if_neg (n 111 (by omega)), if_neg (n 110 (by omega)), if_neg (n 105 (by omega)), if_neg (n 103 (by omega)), if_neg (n 92 (by omega)), if_neg (n 91 (by omega))]
      exact bO 68 j h
    · rw [dO a j c]; exact bO a j h
  have s68 : ∀ j, Md 68 j = if j = 119 then rc else if j = 123 then 0 else if j = 120 then 0 else if j = 117 then 0 else if j = 116 then 0 else if j = 114 then 0 else if j = 112 then 0 else if j = 111 then 0 else if j = 110 then 0 else if j = 105 then 0 else if j = 103 then 0 else if j = 92 then 0 else if j = 91 then 0 else if j = 89 then ver else if j = 126 then 0 else if j = 125 then rh else if j = 124 then rh else if j = 88 then r else M 68 j := fun j => by rw [d68, b68, a68]
  clear hMd d68
  have R1 : RC Md x G r ty ver rh rc := R0.toRC dT ((s68 88).trans rfl) ((s68 89).trans rfl) ((s68 119).trans rfl) ((s68 124).trans rfl) hr
  have e113 : Md 68 113 = M 68 113 := (s68 113).trans rfl
  have hRR : RR Md Md x (st s00 0 29 (Md 68 113)) rh 12 0 := rr00 (m' := M) rfl hN0.1 hk17 hr ⟨(s68 91).trans rfl, (s68 92).trans rfl, (s68 110).trans rfl, (s68 111).trans rfl, (s68 112).trans rfl, (s68 114).trans rfl, (s68 120).trans rfl, (s68 103).trans rfl, (s68 105).trans rfl, (s68 116).trans rfl, (s68 125).trans rfl⟩ (fun j j0 j1 => by rw [dO _ _ (by decide)]; exact b142 j j0 j1) (fun j j0 j1 => by rw [dO _ _ (by decide), dO _ _ (by decide)]; exact b155 j j0 j1)
  have hP1 : P113 Md := ⟨dF, by rw [e113]; exact hP.2.1, by rw [e113]; exact hP.2.2⟩
  have z13 : (if sg s00 0 13 < rh then sg s00 0 13 else rh) = 0 := by
    show (if (0 : Int) < rh then (0 : Int) else rh) = 0
    split <;> omega
  have hL : TLP M Md x G r ty ver rh rc s00 QB := ⟨dT, hP1, ⟨Md 68 113, 12, Int.le_refl _, hRR⟩, R1, ⟨(s68 117).trans rfl, (s68 123).trans rfl, by rw [z13]; exact (s68 126).trans rfl⟩, bp00 hN0.1, fun g1 g2 => hA0 g1 g2, rfl, hQ0⟩
  obtain ⟨m2, f1, f2⟩ := tell_l (M := M) hC A hG hlim ((x.1 0).toNat + 1) BIG 0 s00 Md (by omega) (BIG_g (by omega)) (by decide) hN0.1 hL (by decide) rfl (lim.toNat + 1) (by show lim - 0 < _; omega) b1 b2 b3
  have k2 := k_tellL (M0 := Md) _ _ _ f1 ⟨dF, fun _ _ => rfl⟩
  refine ⟨m2, f1, f2, p_tellL _ _ _ f1 hP1, R0.toRC f2.1 ((k2.2 88 (by omega)).trans ((s68 88).trans rfl)) ((k2.2 89 (by omega)).trans ((s68 89).trans rfl)) ((k2.2 119 (by omega)).trans ((s68 119).trans rfl)) ((k2.2 124 (by omega)).trans ((s68 124).trans rfl)) hr⟩
end RF29
