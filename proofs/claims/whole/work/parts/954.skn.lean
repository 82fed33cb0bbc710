/-! THE ROOM: sums over known places; how many parts a row has. -/
section SKN
variable {f g : Int → Int} {x k r c K : Int} {m : MM} {l L : List Int} {t : Int → Int}
def lsu (f : Int → Int) : List Int → Int
  | [] => 0
  | x :: K => f x + lsu f K
theorem lsu_app : ∀ K L : List Int, lsu f (K ++ L) = lsu f K + lsu f L := by
  intro K L
  induction K with
  | nil =>
    show lsu f L = 0 + lsu f L
    omega
  | cons x K ih =>
    show f x + lsu f (K ++ L) = f x + lsu f K + lsu f L
    rw [ih]
    omega
theorem lsu_le (h : ∀ a, f a ≤ g a) : ∀ K : List Int, lsu f K ≤ lsu g K := by
  intro K
  induction K with
  | nil => exact Int.le_refl _
  | cons x K ih =>
    show f x + lsu f K ≤ g x + lsu g K
    have := h x
    omega
theorem lsu_eq : ∀ K : List Int, (∀ a ∈ K, f a = g a) → lsu f K = lsu g K := by
  intro K
  induction K with
  | nil => intro _; rfl
  | cons x K ih =>
    intro h
    show f x + lsu f K = g x + lsu g K
    rw [h x List.mem_cons_self, ih fun a ha => h a (List.mem_cons_of_mem _ ha)]
theorem lsu_ge : ∀ K : List Int, (∀ a ∈ K, 1 ≤ f a) → (K.length : Int) ≤ lsu f K := by
  intro K
  induction K with
  | nil => intro _; exact Int.le_refl _
  | cons x K ih =>
    intro h
    have h1 := h x List.mem_cons_self
    have h2 := ih fun a ha => h a (List.mem_cons_of_mem _ ha)
    show (((x :: K).length : Nat) : Int) ≤ f x + lsu f K
    rw [List.length_cons]
    omega
theorem lsu_b : ∀ K : List Int, (∀ a ∈ K, f a ≤ c) → lsu f K ≤ c * (K.length : Int) := by
  intro K
  induction K with
  | nil =>
    intro _
    show (0 : Int) ≤ c * ((0 : Nat) : Int)
    rw [show ((0 : Nat) : Int) = 0 from rfl, Int.mul_zero]
    exact Int.le_refl _
  | cons x K ih =>
    intro h
    have h1 := h x List.mem_cons_self
    have h2 := ih fun a ha => h a (List.mem_cons_of_mem _ ha)
    show f x + lsu f K ≤ c * (((x :: K).length : Nat) : Int)
    rw [List.length_cons, show ((K.length + 1 : Nat) : Int) = (K.length : Int) + 1 by omega, Int.mul_add, Int.mul_one]
    omega
theorem sk_at (h0 : 0 ≤ x) {n : Nat} (h1 : x < (n : Int)) : sm f n = f x + sm (fun j => if j = x then 0 else f j) n := by
  have := sm_up (f := f) (r := x) (v := 0) h0 h1
  omega
theorem sk_nil {n : Nat} (h : ∀ a : Int, 0 ≤ a → a < (n : Int) → f a = 0) : sm f n = 0 := (sm_ext (g := fun _ => 0) h).trans (sm_0 n)
theorem sk_0 (h : 0 ≤ f k) : 0 ≤ (if k = x then 0 else f k) := by
  split
  · exact Int.le_refl _
  · exact h
/-- more than what is known is not there -/
theorem sk_known : ∀ (K : List Int) (f : Int → Int) (n : Nat), (∀ i, 0 ≤ f i) → (∀ a : Int, 0 ≤ a → a < (n : Int) → f a ≠ 0 → a ∈ K) → sm f n ≤ lsu f K := by
  intro K
  induction K with
  | nil =>
    intro f n h0 hk
    rw [sk_nil fun i i0 i1 => by
      by_cases c : f i = 0
      · exact c
      · exact absurd (hk i i0 i1 c) List.not_mem_nil]
    exact Int.le_refl _
  | cons x K ih =>
    intro f n h0 hk
    show sm f n ≤ f x + lsu f K
    by_cases hx : 0 ≤ x ∧ x < (n : Int)
    · rw [sk_at hx.1 hx.2]
      have h1 := ih (fun j => if j = x then 0 else f j) n (fun i => sk_0 (h0 i)) (fun a a0 a1 ha => by
        have ha' : (if a = x then 0 else f a) ≠ 0 := ha
        by_cases c : a = x
        · rw [if_pos c] at ha'
          exact absurd rfl ha'
        · rw [if_neg c] at ha'
          exact (List.mem_cons.mp (hk a a0 a1 ha')).resolve_left c)
      have h2 : lsu (fun j => if j = x then 0 else f j) K ≤ lsu f K := lsu_le (fun a => by
        show (if a = x then 0 else f a) ≤ f a
        split
        · exact h0 a
        · exact Int.le_refl _) K
      omega
    · have h1 := ih f n h0 (fun a a0 a1 ha => (List.mem_cons.mp (hk a a0 a1 ha)).resolve_left fun e => hx (by rw [← e]; exact ⟨a0, a1⟩))
      have := h0 x
      omega
theorem sk_nodup : ∀ (K : List Int) (f : Int → Int) (n : Nat), (∀ i, 0 ≤ f i) → K.Nodup → (∀ a ∈ K, 0 ≤ a ∧ a < (n : Int)) → lsu f K ≤ sm f n := by
  intro K
  induction K with
  | nil => intro f n h0 _ _; exact sm_nn (fun i _ => h0 i) n
  | cons x K ih =>
    intro f n h0 hn hb
    obtain ⟨n1, n2⟩ := List.nodup_cons.mp hn
    have hx := hb x List.mem_cons_self
    rw [sk_at hx.1 hx.2]
    have h1 := ih (fun j => if j = x then 0 else f j) n (fun i => sk_0 (h0 i)) n2 (fun a ha => hb a (List.mem_cons_of_mem _ ha))
    have h2 : lsu (fun j => if j = x then 0 else f j) K = lsu f K := lsu_eq K (fun a ha => by
      show (if a = x then 0 else f a) = f a
      rw [if_neg fun e => n1 (by rw [← e]; exact ha)])
    show f x + lsu f K ≤ _
    omega
/-- where as many are known as there are, all are known -/
theorem sk_all {K : List Int} {n : Nat} (h0 : ∀ i, 0 ≤ f i) (hn : K.Nodup) (hb : ∀ a ∈ K, (0 ≤ a ∧ a < (n : Int)) ∧ 1 ≤ f a) (hc : sm f n ≤ (K.length : Int)) : ∀ a : Int, 0 ≤ a → a < (n : Int) → 1 ≤ f a → a ∈ K := fun a a0 a1 ha => by
  by_cases c : a ∈ K
  · exact c
  · have h1 := sk_nodup (a :: K) f n h0 (List.nodup_cons.mpr ⟨c, hn⟩) (fun b hb' => by
      rcases List.mem_cons.mp hb' with e | e
      · rw [e]
        exact ⟨a0, a1⟩
      · exact (hb b e).1)
    have h2 := lsu_ge K (fun b hb' => (hb b hb').2)
    have h3 : lsu f (a :: K) = f a + lsu f K := rfl
    omega
theorem nd_app {w : Int → Int} : ∀ {K L : List Int}, K.Nodup → L.Nodup → (∀ a ∈ K, ∀ b ∈ L, w a ≠ w b) → (K ++ L).Nodup := by
  intro K L
  induction K with
  | nil => intro _ h _; exact h
  | cons x K ih =>
    intro h1 h2 h3
    obtain ⟨n1, n2⟩ := List.nodup_cons.mp h1
    show (x :: (K ++ L)).Nodup
    refine List.nodup_cons.mpr ⟨fun h => ?_, ih n2 h2 fun a ha b hb => h3 a (List.mem_cons_of_mem _ ha) b hb⟩
    rcases List.mem_append.mp h with h | h
    · exact n1 h
    · exact h3 x List.mem_cons_self x h rfl
theorem nd_1 {a : Int} : [a].Nodup := List.nodup_cons.mpr ⟨List.not_mem_nil, List.nodup_nil⟩
/-- what is told apart by t lies in a list: no more than it is long -/
theorem sk_inj : ∀ (L : List Int) (g : Int → Int) (n : Nat), (∀ k, 0 ≤ g k ∧ g k ≤ 1) → (∀ k : Int, 0 ≤ k → k < (n : Int) → g k ≠ 0 → t k ∈ L) → (∀ k k' : Int, 0 ≤ k → k < (n : Int) → 0 ≤ k' → k' < (n : Int) → g k ≠ 0 → g k' ≠ 0 → t k = t k' → k = k') → sm g n ≤ (L.length : Int) := by
  intro L
  induction L with
  | nil =>
    intro g n h0 hk _
    rw [sk_nil fun i i0 i1 => by
      by_cases c : g i = 0
      · exact c
      · exact absurd (hk i i0 i1 c) List.not_mem_nil]
    exact Int.le_refl _
  | cons x L ih =>
    intro g n h0 hk hi
    have el : (((x :: L).length : Nat) : Int) = (L.length : Int) + 1 := by
      rw [List.length_cons]
      omega
    rw [el]
    by_cases c : ∃ k0 : Int, (0 ≤ k0 ∧ k0 < (n : Int)) ∧ g k0 ≠ 0 ∧ t k0 = x
    · obtain ⟨k0, ⟨k1, k2⟩, k3, k4⟩ := c
      rw [sk_at k1 k2]
      have hz : ∀ k : Int, (if k = k0 then 0 else g k) ≠ 0 → k ≠ k0 ∧ g k ≠ 0 := fun k ha => by
        by_cases c : k = k0
        · rw [if_pos c] at ha
          exact absurd rfl ha
        · rw [if_neg c] at ha
          exact ⟨c, ha⟩
      have h1 := ih (fun j => if j = k0 then 0 else g j) n (fun k => by
        show 0 ≤ (if k = k0 then 0 else g k) ∧ (if k = k0 then 0 else g k) ≤ 1
        split
        · decide
        · exact h0 k) (fun k a0 a1 ha => by
        obtain ⟨z1, z2⟩ := hz k ha
        exact (List.mem_cons.mp (hk k a0 a1 z2)).resolve_left fun e => z1 (hi k k0 a0 a1 k1 k2 z2 k3 (e.trans k4.symm))) (fun k k' a0 a1 b0 b1 ha hb e => hi k k' a0 a1 b0 b1 (hz k ha).2 (hz k' hb).2 e)
      have := (h0 k0).2
      omega
    · have h1 := ih g n h0 (fun k a0 a1 ha => (List.mem_cons.mp (hk k a0 a1 ha)).resolve_left fun e => c ⟨k, ⟨a0, a1⟩, ha, e⟩) hi
      omega
theorem nnz_cap {t : Int} (hK : 0 ≤ K) (h : ∀ k : Int, 0 ≤ k → K ≤ k → k < m t (-2) → m t k = 0) : nnz m t ≤ K := by
  unfold nnz
  refine Int.le_trans (sm_le fun i i0 i1 => ?_) (sm_ltm hK (m t (-2)).toNat).1
  show (if m t i = 0 then (0 : Int) else 1) ≤ if i < K then 1 else 0
  by_cases c : i < K
  · rw [if_pos c]
    split <;> decide
  · rw [if_neg c, if_pos (h i i0 (by omega) (by omega))]
    exact Int.le_refl _
theorem nnz_own (hr : RowIs m r l) (hp : HP m r L) : nnz m (m r 0) - m r 1 ≤ (L.length : Int) := by
  obtain ⟨o1, o2, o3, o4, o5, o6, o7, o8, o9⟩ := hr.1
  have h1 : nnz m (m r 0) ≤ sm (fun k => (if k < m r 1 then (1 : Int) else 0) + (if m r 1 ≤ k ∧ m (m r 0) k ≠ 0 then (1 : Int) else 0)) (m (m r 0) (-2)).toNat := by
    unfold nnz
    refine sm_le fun i i0 i1 => ?_
    show (if m (m r 0) i = 0 then (0 : Int) else 1) ≤ (if i < m r 1 then (1 : Int) else 0) + (if m r 1 ≤ i ∧ m (m r 0) i ≠ 0 then (1 : Int) else 0)
    by_cases c : m (m r 0) i = 0
    · rw [if_pos c]
      split <;> split <;> decide
    · rw [if_neg c]
      by_cases c2 : i < m r 1
      · rw [if_pos c2]
        split <;> decide
      · rw [if_neg c2, if_pos ⟨by omega, c⟩]
        decide
  rw [sm_add] at h1
  have h2 := (sm_ltm o5 (m (m r 0) (-2)).toNat).1
  have hz : ∀ k : Int, (if m r 1 ≤ k ∧ m (m r 0) k ≠ 0 then (1 : Int) else 0) ≠ 0 → m r 1 ≤ k ∧ m (m r 0) k ≠ 0 := fun k hk => by
    by_cases c : m r 1 ≤ k ∧ m (m r 0) k ≠ 0
    · exact c
    · rw [if_neg c] at hk
      exact absurd rfl hk
  have h3 := sk_inj (t := fun k => m (m r 0) k) L (fun k => if m r 1 ≤ k ∧ m (m r 0) k ≠ 0 then (1 : Int) else 0) (m (m r 0) (-2)).toNat (fun k => by
    show 0 ≤ (if m r 1 ≤ k ∧ m (m r 0) k ≠ 0 then (1 : Int) else 0) ∧ (if m r 1 ≤ k ∧ m (m r 0) k ≠ 0 then (1 : Int) else 0) ≤ 1
    split <;> decide) (fun k k0 k1 hk => hp _ ⟨k, (hz k hk).1, by omega, (hz k hk).2, rfl⟩) (fun k k' a0 a1 b0 b1 ha hb e => hr.2.1 k k' a0 (by omega) b0 (by omega) (hz k ha).2 e)
  omega
/-- what a row takes, where its parts end -/
theorem rpt_cap (hr : RowIs m r l) (hc : Cap m r K) : rpt 1 0 m r ≤ 68 * K ∧ rpt 0 1 m r ≤ 3 * K := by
  obtain ⟨o1, o2, o3, o4, o5, -⟩ := hr.1
  obtain ⟨c1, c2⟩ := hc
  have h1 := nnz_cap (m := m) (t := m r 0) (K := K) (by omega) fun k k0 k1 k2 => c2 k k0 k1 k2
  have h4 := o2.1
  unfold rpt
  rw [if_neg (by omega), if_neg (by omega)]
  generalize nnz m (m r 0) = z at *
  generalize m (m r 0) (-2) = y at *
  exact ⟨by omega, by omega⟩
/-- what a history takes -/
theorem rpt_his {N q b cu : Int} (hr : RowIs m r l) (h : RHi m r N q b cu) : 16 * rpt 1 0 m r ≤ 17 * q + (2048 * cu + 2096 + b) ∧ 64 * rpt 0 1 m r ≤ 3 * q + (128 * cu + 255 + 2 * b) := by
  obtain ⟨L, h1, h2, h3, h4⟩ := h
  obtain ⟨o1, o2, o3, o4, o5, -⟩ := hr.1
  have h5 := nnz_own hr h1
  have h6 := o2.1
  unfold rpt
  rw [if_neg (by omega), if_neg (by omega)]
  unfold md at h2
  generalize nnz m (m r 0) = z at *
  generalize m (m r 0) (-2) = y at *
  exact ⟨by omega, by omega⟩
end SKN
