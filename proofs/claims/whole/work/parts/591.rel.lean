/-! THE TELLING: how the class's machine stands for the plain state. -/
section CR1
variable {m0 m m' : MM} {a r j v k : Int} {L : Int → List Int} {s : TS} {B : Int}
def Mrow (r : Int) : Prop := r = 21 ∨ r = 35 ∨ r = 37 ∨ r = 39 ∨ r = 41 ∨ r = 44
def Mcel (a : Int) : Prop := a = 16 ∨ a = 17 ∨ a = 18 ∨ a = 19 ∨ (23 ≤ a ∧ a ≤ 34) ∨ a = 43
def Mfp (m : MM) (a : Int) : Prop := Mcel a ∨ ∃ r, Mrow r ∧ Fp m r a
theorem Fix.k2 (hF : Fix m) (h1 : 23 ≤ a) (h2 : a ≤ 34) : okc m a 2 := by
  have : a = 23 ∨ a = 24 ∨ a = 25 ∨ a = 26 ∨ a = 27 ∨ a = 28 ∨ a = 29 ∨ a = 30 ∨ a = 31 ∨ a = 32 ∨ a = 33 ∨ a = 34 := by omega
  rcases this with rfl | rfl | rfl | rfl | rfl | rfl | rfl | rfl | rfl | rfl | rfl | rfl <;> exact fx_kF hF (by decide +kernel)
theorem Mcel.kd (hF : Fix m) (h : Mcel a) : 4 ≤ a ∧ a < 163 ∧ a < m 0 0 ∧ m a (-1) ≠ 6 ∧ m a (-1) ≠ 108 := by
  have key : ∀ c : Nat, okc m a c → c ≠ 6 → c ≠ 108 → a < 163 → 4 ≤ a ∧ a < 163 ∧ a < m 0 0 ∧ m a (-1) ≠ 6 ∧ m a (-1) ≠ 108 := by
    intro c h1 h2 h3 h4
    have := h1.2.2
    exact ⟨h1.1, h4, h1.2.1, by omega, by omega⟩
  rcases h with rfl | rfl | rfl | rfl | h | rfl
  · exact key 5 (fx_kF hF (by decide +kernel)) (by decide) (by decide) (by decide)
  · exact key 9 (fx_kF hF (by decide +kernel)) (by decide) (by decide) (by decide)
  · exact key 100 (fx_kF hF (by decide +kernel)) (by decide) (by decide) (by decide)
  · exact key 103 (fx_kF hF (by decide +kernel)) (by decide) (by decide) (by decide)
  · exact key 2 (Fix.k2 hF h.1 h.2) (by decide) (by decide) (by omega)
  · exact key 3 (fx_kF hF (by decide +kernel)) (by decide) (by decide) (by decide)
theorem Mcel.nfp (hF : Fix m) (h : Mcel a) (hr : RowOk m r) : ¬ Fp m r a := fun f => by
  obtain ⟨h1, h2, h3, h4, h5⟩ := h.kd hF
  rcases f.old hr with g | g | g
  · exact h4 g.2.2
  · exact h5 g.2.2
  · have := g.2
    omega
/-- the rows of the machine: each by itself -/
def MRows (m0 m : MM) (L : Int → List Int) : Prop := ∀ r, Mrow r → RowIs m r (L r) ∧ m r 1 = 0 ∧ (∀ a, Fp m r a → Mfp m0 a ∨ m0 0 0 ≤ a) ∧ ∀ r', Mrow r' → r' ≠ r → ∀ a, Fp m r a → ¬ Fp m r' a
def FrM (m0 m : MM) : Prop := Ext m0 m ∧ (∀ a j : Int, 1 ≤ a → a < m0 0 0 → ¬ Mfp m0 a → m a j = m0 a j) ∧ ∀ j : Int, j < 8 → m 16 j = m0 16 j
theorem MRows.fr (h : MRows m0 m L) (hx : Ext m m') (hf : ∀ r, Mrow r → ∀ a j : Int, Fp m r a → 0 ≤ j → m' a j = m a j) : MRows m0 m' L := by
  intro r hr
  obtain ⟨h1, h2, h3, h4⟩ := h r hr
  obtain ⟨g1, g2⟩ := h1.fr hx (hf r hr)
  refine ⟨g1, by rw [hf r hr r 1 (Or.inl rfl) (by decide)]; exact h2, fun a ha => h3 a ((g2 a).mp ha), fun r' hr' hne a ha hb => ?_⟩
  obtain ⟨_, g3⟩ := (h r' hr').1.fr hx (hf r' hr')
  exact h4 r' hr' hne a ((g2 a).mp ha) ((g3 a).mp hb)
theorem MRows.ms (h : MRows m0 m L) (hF : Fix m) (ha : Mcel a) (hj : 0 ≤ j) : MRows m0 (mset m a j v) L :=
  h.fr (mset_ext (ha.kd hF).1 hj) fun r hr b i hb _ => ms_a fun hh => ha.nfp hF (h r hr).1.1 (hh ▸ hb)
theorem FrM.ms (h : FrM m0 m) (hF : Fix m) (ha : Mcel a) (hj : 0 ≤ j) (h16 : a ≠ 16 ∨ 8 ≤ j) : FrM m0 (mset m a j v) := by
  refine ⟨h.1.tr (mset_ext (ha.kd hF).1 hj), fun b i h1 h2 h3 => ?_, fun i hi => ?_⟩
  rotate_left
  · rw [← h.2.2 i hi]
    exact if_neg (by omega)
  have hb : b ≠ a := fun hh => h3 (Or.inl (by rw [hh]; exact ha))
  rw [ms_a hb]
  exact h.2.1 b i h1 h2 h3
/-- a stack in the row of stacks -/
def Stk (l : List Int) : List Int → Int → Prop
  | [], h => h = 0
  | v :: t, h => 1 ≤ h ∧ h ≤ (l.length : Int) ∧ 0 ≤ v ∧ v < 10000 ∧ ∃ h', 0 ≤ h' ∧ h' < h ∧ l[(h - 1).toNat]? = some (10000 * h' + v) ∧ Stk l t h'
theorem Stk.app {l : List Int} {w : Int} : ∀ {t : List Int} {h : Int}, Stk l t h → Stk (l ++ [w]) t h := by
  intro t
  induction t with
  | nil => intro h hh; exact hh
  | cons v t ih =>
    rintro h ⟨h1, h2, h3, h4, h', h5, h6, h7, h8⟩
    refine ⟨h1, by rw [List.length_append]; omega, h3, h4, h', h5, h6, ?_, ih h8⟩
    rw [List.getElem?_append_left (by omega)]
    exact h7
theorem Stk.pos {l t : List Int} {h : Int} (hh : Stk l t h) : 0 ≤ h ∧ h ≤ (l.length : Int) := by
  cases t with
  | nil => rw [show h = 0 from hh]; omega
  | cons v t => exact ⟨by have := hh.1; omega, hh.2.1⟩
def NewsIs (l : List Int) (n : List (Int × Int × Int)) : Prop := l.length = n.length ∧ ∀ (i : Nat) (k a b : Int), n[i]? = some (k, a, b) → 8 ≤ k ∧ k ≤ 16 ∧ 0 ≤ a ∧ a < 524288 ∧ 0 ≤ b ∧ b < 1024 ∧ ∃ v, l[i]? = some v ∧ PK v (kpk k.toNat a.toNat b.toNat 0)
def CRs (m : MM) (s : TS) : Prop := (∀ j : Int, 5 ≤ j → j ≤ 13 → m 17 j = s.1 0 j) ∧ (∀ j : Int, 8 ≤ j → j ≤ 11 → m 16 j = s.1 0 (20 + j)) ∧ ∀ j : Int, 0 ≤ j → j < 6 → m 18 j = s.1 1 j
def CRb (m : MM) (s : TS) : Prop := (0 ≤ s.1 0 5 ∧ s.1 0 5 ≤ 12) ∧ (∀ k : Int, 0 ≤ k → k < 12 → 23 ≤ m 19 k ∧ m 19 k ≤ 34) ∧ (∀ k k' : Int, 0 ≤ k → k < 12 → 0 ≤ k' → k' < 12 → m 19 k = m 19 k' → k = k') ∧ ∀ k j : Int, 0 ≤ k → k < s.1 0 5 → 0 ≤ j → j ≤ 9 → m (m 19 k) j = s.1 (2 + k) j
def CRl (m : MM) (s : TS) (B : Int) (L : Int → List Int) : Prop := (∀ r, Mrow r → ((L r).length : Int) ≤ B) ∧ (∀ n : Int, 0 ≤ n → n < 4 → L (35 + 2 * n) = s.2.2.1 n) ∧ Stk (L 21) s.2.2.2.1 (m 17 4) ∧ (∀ k : Int, 0 ≤ k → k < s.1 0 5 → Stk (L 21) (s.2.1 k) (m (m 19 k) 10)) ∧ m 43 1 = (s.2.2.2.2.length : Int) ∧ NewsIs (L 44) s.2.2.2.2
def Mq (r : Int) : Prop := r = 35 ∨ r = 37 ∨ r = 39 ∨ r = 41
/-- how far the machine's rows reach -/
def Mc (m0 m : MM) (s : TS) (L : Int → List Int) : Prop := (CpS m0 m 21 (s.1 0 40) ∧ ((L 21).length : Int) ≤ s.1 0 40) ∧ CpS m0 m 44 ((L 44).length : Int) ∧ ∀ q, Mq q → CpS m0 m q (s.1 0 41) ∧ ((L q).length : Int) ≤ s.1 0 41
def CRr (m0 m : MM) (s : TS) (B : Int) : Prop := ∃ L, MRows m0 m L ∧ CRl m s B L ∧ Mc m0 m s L
theorem Mq.row (h : Mq r) : Mrow r := by
  unfold Mq at h
  unfold Mrow
  omega
theorem Mc.to {s' : TS} (h : Mc m0 m s L) (hs : ∀ r, Mrow r → SmT m m' r) (h40 : s.1 0 40 ≤ s'.1 0 40) (h41 : s.1 0 41 ≤ s'.1 0 41) : Mc m0 m' s' L := by
  obtain ⟨⟨a1, a2⟩, a3, a4⟩ := h
  refine ⟨⟨(a1.sm (hs 21 (Or.inl rfl))).mono h40, by omega⟩, a3.sm (hs 44 (Or.inr (Or.inr (Or.inr (Or.inr (Or.inr rfl)))))), fun q hq => ⟨((a4 q hq).1.sm (hs q hq.row)).mono h41, ?_⟩⟩
  have := (a4 q hq).2
  omega
theorem MRows.sm (h : MRows m0 m L) (hF : Fix m) (ha : Mcel a) (hj : 0 ≤ j) : ∀ r, Mrow r → SmT m (mset m a j v) r := fun r hr => SmT.fr (h r hr).1 (mset_ext (ha.kd hF).1 hj) fun b i hb _ => ms_a fun hh => ha.nfp hF (h r hr).1.1 (hh ▸ hb)
theorem Mc.ms {s' : TS} (h : Mc m0 m s L) (hR : MRows m0 m L) (hF : Fix m) (ha : Mcel a) (hj : 0 ≤ j) (h40 : s'.1 0 40 = s.1 0 40) (h41 : s'.1 0 41 = s.1 0 41) : Mc m0 (mset m a j v) s' L := h.to (hR.sm hF ha hj) (Int.le_of_eq h40.symm) (Int.le_of_eq h41.symm)
def CR (m0 m : MM) (s : TS) (B : Int) : Prop := Fix m ∧ FrM m0 m ∧ CRs m s ∧ CRb m s ∧ CRr m0 m s B
theorem CR.fix (h : CR m0 m s B) : Fix m := h.1
theorem CR.c40 (h : CR m0 m s B) : m 21 2 ≤ sg s 0 40 := by
  obtain ⟨-, -, -, -, L, hR, -, ⟨-, c⟩, -⟩ := h
  have := (hR 21 (Or.inl rfl)).1.2.2.1
  have e : sg s 0 40 = s.1 0 40 := rfl
  omega
/-- what a telling makes of the machine's rows -/
def CpM (m m' : MM) (s : TS) : Prop := CpS m m' 21 (s.1 0 40) ∧ CpS m m' 44 (s.2.2.2.2.length : Int) ∧ ∀ q, Mq q → CpS m m' q (s.1 0 41)
theorem CR.cpm (h : CR m0 m s B) : CpM m0 m s := by
  obtain ⟨-, -, -, -, L, hR, ⟨-, -, -, -, -, l6⟩, ⟨c1, -⟩, c3, c4⟩ := h
  exact ⟨c1, by rw [← l6.1]; exact c3, fun q hq => (c4 q hq).1⟩
theorem CpM.fin (h : CpM m m' s) (h40 : s.1 0 40 ≤ 200000) (h41 : s.1 0 41 ≤ 2047) (hn : (s.2.2.2.2.length : Int) ≤ 524288) (hc : ∀ r, Mrow r → Cap m r (mcK r)) : ∀ r, Mrow r → Cap m' r (mcK r) := fun r hr => by
  obtain ⟨h1, h2, h3⟩ := h
  have e21 : mcK 21 = 3126 := rfl
  have e44 : mcK 44 = 8192 := rfl
  have eq : ∀ q, Mq q → mcK q = 33 := fun q hq => by
    unfold Mq at hq
    unfold mcK
    rw [if_neg (by omega), if_neg (by omega)]
  by_cases c1 : r = 21
  · rw [c1]
    exact h1 _ (by omega) (by omega) (hc 21 (Or.inl rfl))
  · by_cases c2 : r = 44
    · rw [c2]
      exact h2 _ (by omega) (by omega) (hc 44 (Or.inr (Or.inr (Or.inr (Or.inr (Or.inr rfl))))))
    · have hq : Mq r := by
        unfold Mrow at hr
        unfold Mq
        omega
      have := eq r hq
      exact h3 r hq _ (by omega) (by omega) (hc r hr)
/-- all the machine's rows have the parts that they had -/
def LD (m m' : MM) : Prop := ∀ r, Mrow r → SmT m m' r
theorem LD.rf : LD m m := fun _ _ => SmT.rf
theorem LD.tr {M : MM} (h : LD m m') (k : LD m' M) : LD m M := fun r hr => (h r hr).tr (k r hr)
theorem LD.cpm {M : MM} (h : LD m m') (k : CpM m' M s) : CpM m M s := by
  have key : ∀ r t : Int, Mrow r → CpS m' M r t → CpS m M r t := fun r t hr g K k0 k1 c => g K k0 k1 ((h r hr).cap c)
  obtain ⟨h1, h2, h3⟩ := k
  exact ⟨key _ _ (Or.inl rfl) h1, key _ _ (Or.inr (Or.inr (Or.inr (Or.inr (Or.inr rfl))))) h2, fun q hq => key _ _ hq.row (h3 q hq)⟩
theorem CR.ld (h : CR m0 m s B) (ha : Mcel a) (hj : 0 ≤ j) : LD m (mset m a j v) := by
  obtain ⟨hF, -, -, -, L, hR, -⟩ := h
  exact hR.sm hF ha hj
theorem CR.mono {B' : Int} (h : CR m0 m s B) (hb : B ≤ B') : CR m0 m s B' := by
  obtain ⟨h1, h2, h3, h4, L, h5, ⟨h6, h7⟩, h8⟩ := h
  exact ⟨h1, h2, h3, h4, L, h5, ⟨fun r hr => by have := h6 r hr; omega, h7⟩, h8⟩
/-- the object at a place -/
theorem CR.ob (h : CR m0 m s B) (h0 : 0 ≤ k) (h1 : k < 12) : 23 ≤ m 19 k ∧ m 19 k ≤ 34 ∧ okc m (m 19 k) 2 := by
  have g := h.2.2.2.1.2.1 k h0 h1
  exact ⟨g.1, g.2, h.1.k2 g.1 g.2⟩
theorem CR.th (h : CR m0 m s B) : m 17 5 = sg s 0 5 ∧ 0 ≤ sg s 0 5 ∧ sg s 0 5 ≤ 12 := ⟨h.2.2.1.1 5 (by decide) (by decide), h.2.2.2.1.1.1, h.2.2.2.1.1.2⟩
theorem CR.c17 (h : CR m0 m s B) (h1 : 5 ≤ j) (h2 : j ≤ 13) : m 17 j = sg s 0 j := h.2.2.1.1 j h1 h2
theorem CR.c16 (h : CR m0 m s B) (h1 : 8 ≤ j) (h2 : j ≤ 11) : m 16 j = sg s 0 (20 + j) := h.2.2.1.2.1 j h1 h2
theorem CR.c18 (h : CR m0 m s B) (h1 : 0 ≤ j) (h2 : j < 6) : m 18 j = sg s 1 j := h.2.2.1.2.2 j h1 h2
theorem CR.br (h : CR m0 m s B) (h1 : 0 ≤ k) (h2 : k < sg s 0 5) (h3 : 0 ≤ j) (h4 : j ≤ 9) : m (m 19 k) j = sg s (2 + k) j := h.2.2.2.1.2.2.2 k j h1 h2 h3 h4
theorem CR.inj {k' : Int} (h : CR m0 m s B) (h1 : 0 ≤ k) (h2 : k < 12) (h3 : 0 ≤ k') (h4 : k' < 12) (he : m 19 k = m 19 k') : k = k' := h.2.2.2.1.2.2.1 k k' h1 h2 h3 h4 he
theorem fx17 (hF : Fix m) (hj : 4 ≤ j) : Fix (mset m 17 j v) := by
  have key : ∀ q ∈ fixk, q.1 = 17 → ∀ p ∈ q.2.2.2, p.1 < 4 := by decide +kernel
  exact fx_z hF (by decide) (by omega) fun q h1 h2 p h3 h4 => by have := key q h1 h2 p h3; omega
theorem fx16 (hF : Fix m) (hj : 2 ≤ j) : Fix (mset m 16 j v) := by
  have key : ∀ q ∈ fixk, q.1 = 16 → ∀ p ∈ q.2.2.2, p.1 < 2 := by decide +kernel
  exact fx_z hF (by decide) (by omega) fun q h1 h2 p h3 h4 => by have := key q h1 h2 p h3; omega
theorem fx18 (hF : Fix m) (hj : 0 ≤ j) : Fix (mset m 18 j v) := by
  have key : ∀ q ∈ fixk, q.1 = 18 → ∀ p ∈ q.2.2.2, False := by decide +kernel
  exact fx_z hF (by decide) (by omega) fun q h1 h2 p h3 h4 => (key q h1 h2 p h3)
theorem fx19 (hF : Fix m) (hj : 0 ≤ j) : Fix (mset m 19 j v) := by
  have key : ∀ q ∈ fixk, q.1 = 19 → ∀ p ∈ q.2.2.2, False := by decide +kernel
  exact fx_z hF (by decide) (by omega) fun q h1 h2 p h3 h4 => (key q h1 h2 p h3)
theorem fxBr (hF : Fix m) (h1 : 23 ≤ a) (h2 : a ≤ 34) (hj : 0 ≤ j) : Fix (mset m a j v) := by
  have key : ∀ q ∈ fixk, 23 ≤ q.1 ∧ q.1 ≤ 34 → ∀ p ∈ q.2.2.2, False := by decide +kernel
  exact fx_z hF (by omega) (by omega) fun q g1 g2 p g3 g4 => (key q g1 (by omega) p g3)
theorem fx43 (hF : Fix m) (hj : 1 ≤ j) : Fix (mset m 43 j v) := by
  have key : ∀ q ∈ fixk, q.1 = 43 → ∀ p ∈ q.2.2.2, p.1 < 1 := by decide +kernel
  exact fx_z hF (by decide) (by omega) fun q h1 h2 p h3 h4 => by have := key q h1 h2 p h3; omega
theorem st_g {b i : Int} : sg (st s a j v) b i = if b = a ∧ i = j then v else sg s b i := rfl
/-- a scalar of the state -/
theorem CR.p17 (h : CR m0 m s B) (h1 : 6 ≤ j) (h2 : j ≤ 13) : CR m0 (mset m 17 j v) (st s 0 j v) B := by
  obtain ⟨hF, hM, ⟨c1, c2, c3⟩, ⟨b1, b2, b3, b4⟩, L, hR, ⟨l1, l2, l3, l4, l5, l6⟩, lC⟩ := h
  have hm : Mcel 17 := Or.inr (Or.inl rfl)
  have eb : ∀ k : Int, 0 ≤ k → k < 12 → m 19 k ≠ 17 := fun k g1 g2 => by have := b2 k g1 g2; omega
  have e19 : ∀ k, mset m 17 j v 19 k = m 19 k := fun k => ms_a (by decide)
  have e05 : (st s 0 j v).1 0 5 = s.1 0 5 := if_neg (by omega)
  have es : ∀ a i : Int, a ≠ 0 → (st s 0 j v).1 a i = s.1 a i := fun a i ha => if_neg fun hh => ha hh.1
  refine ⟨fx17 hF (by omega), hM.ms hF hm (by omega) (by omega), ⟨fun i g1 g2 => ?_, fun i g1 g2 => ?_, fun i g1 g2 => ?_⟩, ⟨by rw [e05]; exact b1, fun k g1 g2 => by rw [e19]; exact b2 k g1 g2, fun k k' g1 g2 g3 g4 => by rw [e19, e19]; exact b3 k k' g1 g2 g3 g4, fun k i g1 g2 g3 g4 => ?_⟩, L, hR.ms hF hm (by omega), ⟨l1, l2, ?_, fun k g1 g2 => ?_, ?_, l6⟩, lC.ms hR hF hm (by omega) (if_neg (by omega)) (if_neg (by omega))⟩
  · show mset m 17 j v 17 i = mset s.1 0 j v 0 i
    rw [ms_i, ms_i, c1 i g1 g2]
  · rw [ms_a (by decide), c2 i g1 g2]
    exact (if_neg (by omega)).symm
  · rw [ms_a (by decide), es _ _ (by decide)]
    exact c3 i g1 g2
  · rw [e05] at g2
    rw [e19, ms_a (eb k g1 (by omega)), es _ _ (by omega)]
    exact b4 k i g1 g2 g3 g4
  · rw [ms_j (by omega)]
    exact l3
  · rw [e05] at g2
    rw [e19, ms_a (eb k g1 (by omega))]
    exact l4 k g1 g2
  · rw [ms_a (by decide)]
    exact l5
/-- a scalar of the machine -/
theorem CR.p16 (h : CR m0 m s B) (h1 : 8 ≤ j) (h2 : j ≤ 11) : CR m0 (mset m 16 j v) (st s 0 (20 + j) v) B := by
  obtain ⟨hF, hM, ⟨c1, c2, c3⟩, ⟨b1, b2, b3, b4⟩, L, hR, ⟨l1, l2, l3, l4, l5, l6⟩, lC⟩ := h
  have hm : Mcel 16 := Or.inl rfl
  have eb : ∀ k : Int, 0 ≤ k → k < 12 → m 19 k ≠ 16 := fun k g1 g2 => by have := b2 k g1 g2; omega
  have e19 : ∀ k, mset m 16 j v 19 k = m 19 k := fun k => ms_a (by decide)
  have e05 : (st s 0 (20 + j) v).1 0 5 = s.1 0 5 := if_neg (by omega)
  have es : ∀ a i : Int, a ≠ 0 → (st s 0 (20 + j) v).1 a i = s.1 a i := fun a i ha => if_neg fun hh => ha hh.1
  refine ⟨fx16 hF (by omega), hM.ms hF hm (by omega) (by omega), ⟨fun i g1 g2 => ?_, fun i g1 g2 => ?_, fun i g1 g2 => ?_⟩, ⟨by rw [e05]; exact b1, fun k g1 g2 => by rw [e19]; exact b2 k g1 g2, fun k k' g1 g2 g3 g4 => by rw [e19, e19]; exact b3 k k' g1 g2 g3 g4, fun k i g1 g2 g3 g4 => ?_⟩, L, hR.ms hF hm (by omega), ⟨l1, l2, ?_, fun k g1 g2 => ?_, ?_, l6⟩, lC.ms hR hF hm (by omega) (if_neg (by omega)) (if_neg (by omega))⟩
  · rw [ms_a (by decide), c1 i g1 g2]
    exact (if_neg (by omega)).symm
  · show mset m 16 j v 16 i = mset s.1 0 (20 + j) v 0 (20 + i)
    rw [ms_i, ms_i, c2 i g1 g2]
    by_cases hi : i = j
    · rw [if_pos hi, if_pos (by omega)]
    · rw [if_neg hi, if_neg (by omega)]
  · rw [ms_a (by decide), es _ _ (by decide)]
    exact c3 i g1 g2
  · rw [e05] at g2
    rw [e19, ms_a (eb k g1 (by omega)), es _ _ (by omega)]
    exact b4 k i g1 g2 g3 g4
  · rw [ms_a (by decide)]
    exact l3
  · rw [e05] at g2
    rw [e19, ms_a (eb k g1 (by omega))]
    exact l4 k g1 g2
  · rw [ms_a (by decide)]
    exact l5
/-- a variable -/
theorem CR.p18 (h : CR m0 m s B) (h1 : 0 ≤ j) : CR m0 (mset m 18 j v) (st s 1 j v) B := by
  obtain ⟨hF, hM, ⟨c1, c2, c3⟩, ⟨b1, b2, b3, b4⟩, L, hR, ⟨l1, l2, l3, l4, l5, l6⟩, lC⟩ := h
  have hm : Mcel 18 := Or.inr (Or.inr (Or.inl rfl))
  have eb : ∀ k : Int, 0 ≤ k → k < 12 → m 19 k ≠ 18 := fun k g1 g2 => by have := b2 k g1 g2; omega
  have e19 : ∀ k, mset m 18 j v 19 k = m 19 k := fun k => ms_a (by decide)
  have es : ∀ a i : Int, a ≠ 1 → (st s 1 j v).1 a i = s.1 a i := fun a i ha => if_neg fun hh => ha hh.1
  have e05 : (st s 1 j v).1 0 5 = s.1 0 5 := es _ _ (by decide)
  refine ⟨fx18 hF (by omega), hM.ms hF hm (by omega) (by omega), ⟨fun i g1 g2 => ?_, fun i g1 g2 => ?_, fun i g1 g2 => ?_⟩, ⟨by rw [e05]; exact b1, fun k g1 g2 => by rw [e19]; exact b2 k g1 g2, fun k k' g1 g2 g3 g4 => by rw [e19, e19]; exact b3 k k' g1 g2 g3 g4, fun k i g1 g2 g3 g4 => ?_⟩, L, hR.ms hF hm (by omega), ⟨l1, l2, ?_, fun k g1 g2 => ?_, ?_, l6⟩, lC.ms hR hF hm (by omega) (es _ _ (by decide)) (es _ _ (by decide))⟩
  · rw [ms_a (by decide), es _ _ (by decide)]
    exact c1 i g1 g2
  · rw [ms_a (by decide), es _ _ (by decide)]
    exact c2 i g1 g2
  · show mset m 18 j v 18 i = mset s.1 1 j v 1 i
    rw [ms_i, ms_i, c3 i g1 g2]
  · rw [e05] at g2
    rw [e19, ms_a (eb k g1 (by omega)), es _ _ (by omega)]
    exact b4 k i g1 g2 g3 g4
  · rw [ms_a (by decide)]
    exact l3
  · rw [e05] at g2
    rw [e19, ms_a (eb k g1 (by omega))]
    exact l4 k g1 g2
  · rw [ms_a (by decide)]
    exact l5
/-- a slot of a branch -/
theorem CR.pB (h : CR m0 m s B) (hk : 0 ≤ k) (hk2 : k < sg s 0 5) (h1 : 0 ≤ j) (h2 : j ≤ 9) : CR m0 (mset m (m 19 k) j v) (st s (2 + k) j v) B := by
  have ho := h.ob hk (by have := h.th.2.2; omega)
  obtain ⟨hF, hM, ⟨c1, c2, c3⟩, ⟨b1, b2, b3, b4⟩, L, hR, ⟨l1, l2, l3, l4, l5, l6⟩, lC⟩ := h
  have hk3 : k < s.1 0 5 := hk2
  have hm : Mcel (m 19 k) := Or.inr (Or.inr (Or.inr (Or.inr (Or.inl ⟨ho.1, ho.2.1⟩))))
  have e19 : ∀ i, mset m (m 19 k) j v 19 i = m 19 i := fun i => ms_a (by omega)
  have es : ∀ a i : Int, a ≠ 2 + k → (st s (2 + k) j v).1 a i = s.1 a i := fun a i ha => if_neg fun hh => ha hh.1
  have e05 : (st s (2 + k) j v).1 0 5 = s.1 0 5 := es _ _ (by omega)
  refine ⟨fxBr hF ho.1 ho.2.1 h1, hM.ms hF hm h1 (by omega), ⟨fun i g1 g2 => ?_, fun i g1 g2 => ?_, fun i g1 g2 => ?_⟩, ⟨by rw [e05]; exact b1, fun k g1 g2 => by rw [e19]; exact b2 k g1 g2, fun k k' g1 g2 g3 g4 => by rw [e19, e19]; exact b3 k k' g1 g2 g3 g4, fun k' i g1 g2 g3 g4 => ?_⟩, L, hR.ms hF hm h1, ⟨l1, l2, ?_, fun k' g1 g2 => ?_, ?_, l6⟩, lC.ms hR hF hm h1 (es _ _ (by omega)) (es _ _ (by omega))⟩
  · rw [ms_a (by omega), es _ _ (by omega)]
    exact c1 i g1 g2
  · rw [ms_a (by omega), es _ _ (by omega)]
    exact c2 i g1 g2
  · rw [ms_a (by omega), es _ _ (by omega)]
    exact c3 i g1 g2
  · rw [e05] at g2
    rw [e19]
    by_cases hkk : k' = k
    · subst hkk
      show mset m (m 19 k') j v (m 19 k') i = mset s.1 (2 + k') j v (2 + k') i
      rw [ms_i, ms_i, b4 k' i g1 g2 g3 g4]
    · rw [ms_a (fun hh => hkk (b3 k' k g1 (by omega) hk (by omega) hh)), es _ _ (by omega)]
      exact b4 k' i g1 g2 g3 g4
  · rw [ms_a (by omega)]
    exact l3
  · rw [e05] at g2
    rw [e19]
    by_cases hkk : k' = k
    · subst hkk
      rw [ms_j (by omega)]
      exact l4 k' g1 g2
    · rw [ms_a (fun hh => hkk (b3 k' k g1 (by omega) hk (by omega) hh))]
      exact l4 k' g1 g2
  · rw [ms_a (by omega)]
    exact l5
/-- counters that the class doesn't have -/
theorem CR.s4 (h : CR m0 m s B) (hj : 40 ≤ j) (hv : j = 40 ∨ j = 41 → s.1 0 j ≤ v) : CR m0 m (st s 0 j v) B := by
  have hq : ∀ i : Int, i = 40 ∨ i = 41 → s.1 0 i ≤ (st s 0 j v).1 0 i := fun i hi => by
    by_cases c : i = j
    · rw [show (st s 0 j v).1 0 i = v from if_pos ⟨rfl, c⟩, c]
      exact hv (c ▸ hi)
    · rw [show (st s 0 j v).1 0 i = s.1 0 i from if_neg fun hh => c hh.2]
      exact Int.le_refl _
  obtain ⟨hF, hM, ⟨c1, c2, c3⟩, ⟨b1, b2, b3, b4⟩, L, hR, ⟨l1, l2, l3, l4, l5, l6⟩, lC⟩ := h
  have e0 : ∀ i : Int, i < 40 → (st s 0 j v).1 0 i = s.1 0 i := fun i hi => if_neg (by omega)
  have es : ∀ a i : Int, a ≠ 0 → (st s 0 j v).1 a i = s.1 a i := fun a i ha => if_neg fun hh => ha hh.1
  refine ⟨hF, hM, ⟨fun i g1 g2 => by rw [e0 i (by omega)]; exact c1 i g1 g2, fun i g1 g2 => by rw [e0 _ (by omega)]; exact c2 i g1 g2, fun i g1 g2 => by rw [es _ _ (by decide)]; exact c3 i g1 g2⟩, ⟨by rw [e0 5 (by decide)]; exact b1, b2, b3, fun k i g1 g2 g3 g4 => by rw [e0 5 (by decide)] at g2; rw [es _ _ (by omega)]; exact b4 k i g1 g2 g3 g4⟩, L, hR, ⟨l1, l2, l3, fun k g1 g2 => by rw [e0 5 (by decide)] at g2; exact l4 k g1 g2, l5, l6⟩, lC.to (fun _ _ => SmT.rf) (hq 40 (Or.inl rfl)) (hq 41 (Or.inr rfl))⟩
end CR1
