/-! THE ROOM: what the rows, the lists, the objects take in all. -/
section BND
variable {m : MM} {ow : Int → Int} {ad : Int → Int → Int} {e : ES} {a b c i j k r t v q D K al be A Bq T : Int} {f g h : Int → Int} {l : List Int}
def rwp (al be : Int) (m : MM) (a : Int) : Int := if (4 ≤ a ∧ m a (-1) = 6) ∧ 0 ≤ rpt al be m a then rpt al be m a else 0
def lwp (al be : Int) (m : MM) (a : Int) : Int := if (4 ≤ a ∧ m a (-1) = 0) ∧ 0 ≤ lpt al be m a then lpt al be m a else 0
theorem rwp_0 : 0 ≤ rwp al be m a := by
  unfold rwp
  split
  · rename_i c
    exact c.2
  · exact Int.le_refl _
theorem lwp_0 : 0 ≤ lwp al be m a := by
  unfold lwp
  split
  · rename_i c
    exact c.2
  · exact Int.le_refl _
theorem rwp_le (h : rpt al be m a ≤ c) (h0 : 0 ≤ c) : rwp al be m a ≤ c := by
  unfold rwp
  split
  · exact h
  · exact h0
theorem lwp_le (h : lpt al be m a ≤ c) (h0 : 0 ≤ c) : lwp al be m a ≤ c := by
  unfold lwp
  split
  · exact h
  · exact h0
theorem rwp_k (h : rwp al be m a ≠ 0) : 4 ≤ a ∧ m a (-1) = 6 := by
  unfold rwp at h
  by_cases c : (4 ≤ a ∧ m a (-1) = 6) ∧ 0 ≤ rpt al be m a
  · exact c.1
  · rw [if_neg c] at h
    exact absurd rfl h
theorem lwp_k (h : lwp al be m a ≠ 0) : 4 ≤ a ∧ m a (-1) = 0 := by
  unfold lwp at h
  by_cases c : (4 ≤ a ∧ m a (-1) = 0) ∧ 0 ≤ lpt al be m a
  · exact c.1
  · rw [if_neg c] at h
    exact absurd rfl h
theorem wt_le : wt al be m a ≤ rwp al be m a + lwp al be m a + own al be m a := by
  have h1 : 0 ≤ rwp al be m a := rwp_0
  have h2 : 0 ≤ lwp al be m a := lwp_0
  unfold wt
  by_cases c : a < 4
  · have h3 : own al be m a = 0 := if_pos (by omega)
    rw [if_pos c]
    omega
  · rw [if_neg c]
    by_cases c6 : m a (-1) = 6
    · rw [if_pos c6]
      have : rpt al be m a ≤ rwp al be m a := by
        unfold rwp
        by_cases c7 : 0 ≤ rpt al be m a
        · rw [if_pos ⟨⟨by omega, c6⟩, c7⟩]
          exact Int.le_refl _
        · rw [if_neg fun h => c7 h.2]
          omega
      omega
    · rw [if_neg c6]
      by_cases c0 : m a (-1) = 0
      · rw [if_pos c0]
        have : lpt al be m a ≤ lwp al be m a := by
          unfold lwp
          by_cases c7 : 0 ≤ lpt al be m a
          · rw [if_pos ⟨⟨by omega, c0⟩, c7⟩]
            exact Int.le_refl _
          · rw [if_neg fun h => c7 h.2]
            omega
        omega
      · rw [if_neg c0]
        omega
/-- each object for itself -/
def gOA (k l : Int) : Int := if k = 101 ∨ k = 107 ∨ k = 108 then 0 else if k = 99 then 6 else if 0 ≤ l then l else 0
def gOB (k _l : Int) : Int := if k = 101 ∨ k = 107 ∨ k = 108 then 0 else 1
theorem gOA_ok : GOK gOA := ⟨fun k l => by
  unfold gOA
  split
  · decide
  · split
    · decide
    · split
      · assumption
      · decide, fun l => ⟨if_pos (by decide), if_pos (by decide), if_pos (by decide)⟩⟩
theorem gOB_ok : GOK gOB := ⟨fun k l => by unfold gOB; split <;> decide, fun l => ⟨if_pos (by decide), if_pos (by decide), if_pos (by decide)⟩⟩
theorem ownA : own 1 0 m a ≤ cwt gOA m a := by
  unfold own cwt gOA
  by_cases c : a < 163
  · rw [if_pos c, if_pos c]
    exact Int.le_refl _
  · rw [if_neg c, if_neg c]
    by_cases c1 : m a (-1) = 101 ∨ m a (-1) = 107 ∨ m a (-1) = 108
    · rw [if_pos c1, if_pos c1]
      exact Int.le_refl _
    · rw [if_neg c1, if_neg c1]
      by_cases c2 : m a (-1) = 99
      · rw [if_pos c2, if_pos c2]
        decide
      · rw [if_neg c2, if_neg c2]
        split <;> omega
theorem ownB : own 0 1 m a ≤ cwt gOB m a := by
  unfold own cwt gOB
  by_cases c : a < 163
  · rw [if_pos c, if_pos c]
    exact Int.le_refl _
  · rw [if_neg c, if_neg c]
    by_cases c1 : m a (-1) = 101 ∨ m a (-1) = 107 ∨ m a (-1) = 108
    · rw [if_pos c1, if_pos c1]
      exact Int.le_refl _
    · rw [if_neg c1, if_neg c1]
      split <;> omega
theorem lsz_b (C : CE m ow ad e) : (m 7 2 ≤ 30 ∧ m 8 2 ≤ 60 ∧ m 9 2 ≤ 512 ∧ m 10 2 ≤ 4) ∧ (m 49 2 ≤ 4 ∧ m 53 2 ≤ 4 ∧ m 57 2 ≤ 4 ∧ m 61 2 ≤ 4) ∧ (0 ≤ m 7 2 ∧ 0 ≤ m 8 2 ∧ 0 ≤ m 9 2 ∧ 0 ≤ m 10 2) ∧ (0 ≤ m 49 2 ∧ 0 ≤ m 53 2 ∧ 0 ≤ m 57 2 ∧ 0 ≤ m 61 2) := by
  obtain ⟨c7, c8, c9, c10, cT⟩ := C.cn
  have c48 := cT 48 (by unfold isT; omega)
  have c52 := cT 52 (by unfold isT; omega)
  have c56 := cT 56 (by unfold isT; omega)
  have c60 := cT 60 (by unfold isT; omega)
  have e48 : (48 : Int) + 1 = 49 := rfl
  have e52 : (52 : Int) + 1 = 53 := rfl
  have e56 : (56 : Int) + 1 = 57 := rfl
  have e60 : (60 : Int) + 1 = 61 := rfl
  rw [e48] at c48
  rw [e52] at c52
  rw [e56] at c56
  rw [e60] at c60
  have s7 := C.lsz (q := 7) (by unfold isLs; omega)
  have s8 := C.lsz (q := 8) (by unfold isLs; omega)
  have s9 := C.lsz (q := 9) (by unfold isLs; omega)
  have s10 := C.lsz (q := 10) (by unfold isLs; omega)
  have s49 := C.lsz (q := 49) (by unfold isLs; omega)
  have s53 := C.lsz (q := 53) (by unfold isLs; omega)
  have s57 := C.lsz (q := 57) (by unfold isLs; omega)
  have s61 := C.lsz (q := 61) (by unfold isLs; omega)
  omega
theorem own_sum (C : CE m ow ad e) (hO : ∀ g : Int → Int → Int, GOK g → OWk g (512 * g 99 0) m) : sm (own 1 0 m) (m 0 0).toNat ≤ 7998 ∧ sm (own 0 1 m) (m 0 0).toNat ≤ 1284 := by
  obtain ⟨⟨b1, b2, b3, b4⟩, ⟨b5, b6, b7, b8⟩, ⟨d1, d2, d3, d4⟩, d5, d6, d7, d8⟩ := lsz_b C
  have hA := C.oc (hO _ gOA_ok)
  have hB := C.oc (hO _ gOB_ok)
  have sA : sm (own 1 0 m) (m 0 0).toNat ≤ sm (cwt gOA m) (m 0 0).toNat := sm_le fun i _ _ => ownA
  have sB : sm (own 0 1 m) (m 0 0).toNat ≤ sm (cwt gOB m) (m 0 0).toNat := sm_le fun i _ _ => ownB
  have lA : LSg gOA m = 37 * m 7 2 + 11 * m 8 2 + 6 * m 9 2 + 9 * m 10 2 + 3 * m 49 2 + 3 * m 53 2 + 3 * m 57 2 + 3 * m 61 2 := by
    have a1 : gOA 7 20 = 20 := rfl
    have a2 : gOA 3 5 = 5 := rfl
    have a3 : gOA 6 3 = 3 := rfl
    have a4 : gOA 1 11 = 11 := rfl
    have a5 : gOA 10 6 = 6 := rfl
    have a6 : gOA 8 9 = 9 := rfl
    unfold LSg uRun
    rw [a1, a2, a3, a4, a5, a6]
    omega
  have lB : LSg gOB m = 6 * m 7 2 + m 8 2 + m 9 2 + m 10 2 + m 49 2 + m 53 2 + m 57 2 + m 61 2 := by
    have a1 : gOB 7 20 = 1 := rfl
    have a2 : gOB 3 5 = 1 := rfl
    have a3 : gOB 6 3 = 1 := rfl
    have a4 : gOB 1 11 = 1 := rfl
    have a5 : gOB 10 6 = 1 := rfl
    have a6 : gOB 8 9 = 1 := rfl
    unfold LSg uRun
    rw [a1, a2, a3, a4, a5, a6]
    omega
  have hA9 : gOA 99 0 = 6 := rfl
  have hB9 : gOB 99 0 = 1 := rfl
  rw [lA, hA9] at hA
  rw [lB, hB9] at hB
  exact ⟨by omega, by omega⟩
/-- the lists' arrays -/
theorem lst_sum (C : CE m ow ad e) (hG : RNA m) (hO : ∀ g : Int → Int → Int, GOK g → OWk g (512 * g 99 0) m) : sm (lwp 1 0 m) (m 0 0).toNat ≤ 5360 ∧ sm (lwp 0 1 m) (m 0 0).toNat ≤ 1340 := by
  obtain ⟨⟨b1, b2, b3, b4⟩, ⟨b5, b6, b7, b8⟩, ⟨d1, d2, d3, d4⟩, d5, d6, d7, d8⟩ := lsz_b C
  have kA := sk_known [(7 : Int), 8, 9, 10, 49, 53, 57, 61] (lwp 1 0 m) (m 0 0).toNat (fun i => lwp_0) (fun a a0 a1 ha => f0_all C hO a (lwp_k ha).1 (by omega) (lwp_k ha).2)
  have kB := sk_known [(7 : Int), 8, 9, 10, 49, 53, 57, 61] (lwp 0 1 m) (m 0 0).toNat (fun i => lwp_0) (fun a a0 a1 ha => f0_all C hO a (lwp_k ha).1 (by omega) (lwp_k ha).2)
  have one : ∀ q z : Int, 4 ≤ q → q < 163 → m q (-1) = 0 → m q 2 ≤ z → 5 ≤ z → lwp 1 0 m q ≤ 8 * z ∧ lwp 0 1 m q ≤ 2 * z := fun q z q0 q1 qk qz z5 => by
    have h163 := C.fix.1
    have h3 := (hG.2.2.1 q q0 (by omega) qk).2
    have hb : 4 ≤ m q 1 → m (m q 1) (-2) ≤ 2 * z := fun h => by
      rcases h3 h with h | h <;> omega
    refine ⟨lwp_le ?_ (by omega), lwp_le ?_ (by omega)⟩
    · unfold lpt
      by_cases c : m q 1 < 4
      · rw [if_pos c]
        omega
      · rw [if_neg c]
        have := hb (by omega)
        omega
    · unfold lpt
      by_cases c : m q 1 < 4
      · rw [if_pos c]
        omega
      · rw [if_neg c]
        have := hb (by omega)
        omega
  have kd : ∀ q : Int, isLs q → m q (-1) = 0 := fun q hq => by
    have hk : okc m q 0 := by
      unfold isLs at hq
      rcases hq with rfl | rfl | rfl | rfl | rfl | rfl | rfl | rfl <;> exact fx_kF C.fix (by decide +kernel)
    exact hk.2.2
  have l7 := one 7 30 (by decide) (by decide) (kd 7 (by unfold isLs; omega)) b1 (by decide)
  have l8 := one 8 60 (by decide) (by decide) (kd 8 (by unfold isLs; omega)) b2 (by decide)
  have l9 := one 9 512 (by decide) (by decide) (kd 9 (by unfold isLs; omega)) b3 (by decide)
  have l10 := one 10 5 (by decide) (by decide) (kd 10 (by unfold isLs; omega)) (by omega) (by decide)
  have l49 := one 49 5 (by decide) (by decide) (kd 49 (by unfold isLs; omega)) (by omega) (by decide)
  have l53 := one 53 5 (by decide) (by decide) (kd 53 (by unfold isLs; omega)) (by omega) (by decide)
  have l57 := one 57 5 (by decide) (by decide) (kd 57 (by unfold isLs; omega)) (by omega) (by decide)
  have l61 := one 61 5 (by decide) (by decide) (kd 61 (by unfold isLs; omega)) (by omega) (by decide)
  have eA : lsu (lwp 1 0 m) [(7 : Int), 8, 9, 10, 49, 53, 57, 61] = lwp 1 0 m 7 + (lwp 1 0 m 8 + (lwp 1 0 m 9 + (lwp 1 0 m 10 + (lwp 1 0 m 49 + (lwp 1 0 m 53 + (lwp 1 0 m 57 + (lwp 1 0 m 61 + 0))))))) := rfl
  have eB : lsu (lwp 0 1 m) [(7 : Int), 8, 9, 10, 49, 53, 57, 61] = lwp 0 1 m 7 + (lwp 0 1 m 8 + (lwp 0 1 m 9 + (lwp 0 1 m 10 + (lwp 0 1 m 49 + (lwp 0 1 m 53 + (lwp 0 1 m 57 + (lwp 0 1 m 61 + 0))))))) := rfl
  exact ⟨by omega, by omega⟩
/-- a run's rows, weighed -/
theorem sm_wl : ∀ n : Nat, (∀ i : Int, 0 ≤ i → i < (n : Int) → A * h i ≤ Bq * f i + c) → A * sm h n ≤ Bq * sm f n + c * (n : Int) := by
  intro n
  induction n with
  | zero =>
    intro _
    show A * 0 ≤ Bq * 0 + c * ((0 : Nat) : Int)
    rw [show ((0 : Nat) : Int) = 0 from rfl, Int.mul_zero, Int.mul_zero, Int.mul_zero]
    exact Int.le_refl _
  | succ n ih =>
    intro hh
    have h1 := ih fun i i0 i1 => hh i i0 (by omega)
    have h2 := hh (n : Int) (by omega) (by omega)
    show A * (sm h n + h (n : Int)) ≤ Bq * (sm f n + f (n : Int)) + c * ((n + 1 : Nat) : Int)
    rw [show ((n + 1 : Nat) : Int) = (n : Int) + 1 by omega, Int.mul_add, Int.mul_add, Int.mul_add, Int.mul_one]
    omega
theorem lsu_kR : ∀ n : Nat, lsu f (kR ad n) = sm (fun i => f (ad 72 i) + (f (ad 73 i) + (f (ad 74 i) + f (ad 75 i)))) n := by
  intro n
  induction n with
  | zero => rfl
  | succ n ih =>
    show lsu f (kR ad n ++ ([ad 72 (n : Int)] ++ ([ad 73 (n : Int)] ++ ([ad 74 (n : Int)] ++ [ad 75 (n : Int)])))) = sm _ n + (f (ad 72 (n : Int)) + (f (ad 73 (n : Int)) + (f (ad 74 (n : Int)) + f (ad 75 (n : Int)))))
    rw [lsu_app, ih]
    have : lsu f ([ad 72 (n : Int)] ++ ([ad 73 (n : Int)] ++ ([ad 74 (n : Int)] ++ [ad 75 (n : Int)]))) = f (ad 72 (n : Int)) + (f (ad 73 (n : Int)) + (f (ad 74 (n : Int)) + (f (ad 75 (n : Int)) + 0))) := rfl
    rw [this, Int.add_zero]
theorem kV_mem : ∀ n : Nat, ∀ a ∈ kV ad t n, ∃ v : Int, (0 ≤ v ∧ v < (n : Int)) ∧ a = ad t v := by
  intro n
  induction n with
  | zero => intro a ha; exact absurd ha List.not_mem_nil
  | succ n ih =>
    intro a ha
    rcases List.mem_append.mp ha with h | h
    · obtain ⟨v, ⟨v0, v1⟩, h2⟩ := ih a h
      exact ⟨v, ⟨v0, by omega⟩, h2⟩
    · exact ⟨(n : Int), ⟨by omega, by omega⟩, List.mem_singleton.mp h⟩
/-- a row whose parts end -/
theorem CE.rwc (C : CE m ow ad e) (hv : LvR e c i) : rwp 1 0 m (ad c i) ≤ 68 * cpK c ∧ rwp 0 1 m (ad c i) ≤ 3 * cpK c := by
  have hb := cpK_b (c := c)
  obtain ⟨h1, h2⟩ := rpt_cap (C.row hv).1 (C.cap hv)
  exact ⟨rwp_le h1 (by omega), rwp_le h2 (by omega)⟩
theorem CE.rwm (C : CE m ow ad e) (hr : Mrow r) (hK : mcK r = K) (K0 : 0 ≤ K) : rwp 1 0 m r ≤ 68 * K ∧ rwp 0 1 m r ≤ 3 * K := by
  obtain ⟨L, hL, -⟩ := C.mac.1.2.2.2.2
  obtain ⟨h1, h2⟩ := rpt_cap (hL r hr).1 (hK ▸ C.capM hr)
  exact ⟨rwp_le h1 (by omega), rwp_le h2 (by omega)⟩
theorem CE.rw46 (C : CE m ow ad e) : rwp 1 0 m 46 ≤ 68 ∧ rwp 0 1 m 46 ≤ 3 := by
  obtain ⟨-, z2, z3, z4⟩ := C.1.2.2.2.2.2.2.2
  have hz : nnz m (m 46 0) = 0 := by
    unfold nnz
    exact sk_nil fun i i0 _ => if_pos (z4.2 i i0)
  have h2 := z4.1
  refine ⟨rwp_le ?_ (by decide), rwp_le ?_ (by decide)⟩
  · unfold rpt
    rw [hz, z3, h2]
    split <;> decide
  · unfold rpt
    rw [hz, z3, h2]
    split <;> decide
/-- all rows -/
theorem row_sum (C : CE m ow ad e) (hO : ∀ g : Int → Int → Int, GOK g → OWk g (512 * g 99 0) m) (hT : ∀ i : Int, 0 ≤ i → i < e.1 7 2 → e.1 (7000 + i) 9 ≤ T) (T0 : 0 ≤ T) : 16 * sm (rwp 1 0 m) (m 0 0).toNat ≤ 27756000 + 17 * (e.1 3 0 - 400000) + 61440 * T ∧ 64 * sm (rwp 0 1 m) (m 0 0).toNat ≤ 26290000 + 3 * (e.1 3 0 - 400000) + 3840 * T := by
  have n7 := C.cn.1
  have kA := sk_known (kAll ad e) (rwp 1 0 m) (m 0 0).toNat (fun i => rwp_0) (fun a a0 a1 ha => f6_all C hO a (rwp_k ha).1 (by omega) (rwp_k ha).2)
  have kB := sk_known (kAll ad e) (rwp 0 1 m) (m 0 0).toNat (fun i => rwp_0) (fun a a0 a1 ha => f6_all C hO a (rwp_k ha).1 (by omega) (rwp_k ha).2)
  unfold kAll at kA kB
  rw [lsu_app, lsu_app, lsu_app, lsu_app, lsu_app, lsu_app, lsu_kR] at kA kB
  have eF : ∀ f : Int → Int, lsu f kF = f 21 + (f 35 + (f 37 + (f 39 + (f 41 + (f 44 + (f 46 + 0)))))) := fun _ => rfl
  have e1 : ∀ f : Int → Int, lsu f [ad 0 14] = f (ad 0 14) + 0 := fun _ => rfl
  rw [eF, e1] at kA kB
  have r21 := C.rwm (r := 21) (by unfold Mrow; omega) (K := 3126) rfl (by decide)
  have r35 := C.rwm (r := 35) (by unfold Mrow; omega) (K := 33) rfl (by decide)
  have r37 := C.rwm (r := 37) (by unfold Mrow; omega) (K := 33) rfl (by decide)
  have r39 := C.rwm (r := 39) (by unfold Mrow; omega) (K := 33) rfl (by decide)
  have r41 := C.rwm (r := 41) (by unfold Mrow; omega) (K := 33) rfl (by decide)
  have r44 := C.rwm (r := 44) (by unfold Mrow; omega) (K := 8192) rfl (by decide)
  have r46 := C.rw46
  have r14 := C.rwc (c := 0) (i := 14) (Or.inl ⟨rfl, rfl⟩)
  have ck0 : cpK 0 = 800 := rfl
  have ck73 : cpK 73 = 8 := rfl
  have ck74 : cpK 74 = 8 := rfl
  have ck75 : cpK 75 = 64 := rfl
  rw [ck0] at r14
  have vb : ∀ t : Int, isT t → lsu (rwp 1 0 m) (kV ad t (e.1 (t + 1) 2 + 1).toNat) ≤ 340 ∧ lsu (rwp 0 1 m) (kV ad t (e.1 (t + 1) 2 + 1).toNat) ≤ 15 := fun t ht => by
    have hc := C.cn.2.2.2.2 t ht
    have hm : ∀ a ∈ kV ad t (e.1 (t + 1) 2 + 1).toNat, rwp 1 0 m a ≤ 68 ∧ rwp 0 1 m a ≤ 3 := fun a ha => by
      obtain ⟨v, ⟨v0, v1⟩, rfl⟩ := kV_mem _ a ha
      have h := C.rwc (lvT C ht v0 (by omega))
      rw [cpK_t ht] at h
      omega
    have h1 := lsu_b (kV ad t (e.1 (t + 1) 2 + 1).toNat) fun a ha => (hm a ha).1
    have h2 := lsu_b (kV ad t (e.1 (t + 1) 2 + 1).toNat) fun a ha => (hm a ha).2
    rw [kV_len] at h1 h2
    exact ⟨by omega, by omega⟩
  have v48 := vb 48 (by unfold isT; omega)
  have v52 := vb 52 (by unfold isT; omega)
  have v56 := vb 56 (by unfold isT; omega)
  have v60 := vb 60 (by unfold isT; omega)
  rw [show (48 : Int) + 1 = 49 from rfl] at v48
  rw [show (52 : Int) + 1 = 53 from rfl] at v52
  rw [show (56 : Int) + 1 = 57 from rfl] at v56
  rw [show (60 : Int) + 1 = 61 from rfl] at v60
  obtain ⟨q, b, q1, q2, q3⟩ := C.hst
  have hr : ∀ i : Int, 0 ≤ i → i < e.1 7 2 → (16 * (rwp 1 0 m (ad 72 i) + (rwp 1 0 m (ad 73 i) + (rwp 1 0 m (ad 74 i) + rwp 1 0 m (ad 75 i)))) ≤ 17 * q i + (2048 * T + 480136)) ∧ 64 * (rwp 0 1 m (ad 72 i) + (rwp 0 1 m (ad 73 i) + (rwp 0 1 m (ad 74 i) + rwp 0 1 m (ad 75 i)))) ≤ 3 * q i + (128 * T + 797615) := fun i i0 i1 => by
    obtain ⟨⟨g1, g2⟩, g3, g4, g5, g6, g7⟩ := C.his i0 i1
    obtain ⟨l, hrw, -⟩ := g3.1.2.2
    rw [g4] at hrw
    obtain ⟨z1, z2⟩ := rpt_his hrw (q3 i i0 i1 (by omega))
    have hq := q1 i
    have ht := hT i i0 i1
    have w73 := C.rwc (C.lv7 (c := 73) (by omega) i0 i1)
    have w74 := C.rwc (C.lv7 (c := 74) (by omega) i0 i1)
    have w75 := C.rwc (C.lv7 (c := 75) (by omega) i0 i1)
    rw [ck73] at w73
    rw [ck74] at w74
    rw [ck75] at w75
    have y1 : 16 * rwp 1 0 m (ad 72 i) ≤ 17 * q i + (2048 * T + 393096) := by
      unfold rwp
      split <;> omega
    have y2 : 64 * rwp 0 1 m (ad 72 i) ≤ 3 * q i + (128 * T + 782255) := by
      unfold rwp
      split <;> omega
    exact ⟨by omega, by omega⟩
  have sA := sm_wl (A := 16) (Bq := 17) (c := 2048 * T + 480136) (f := q) (h := fun i => rwp 1 0 m (ad 72 i) + (rwp 1 0 m (ad 73 i) + (rwp 1 0 m (ad 74 i) + rwp 1 0 m (ad 75 i)))) (e.1 7 2).toNat fun i i0 i1 => (hr i i0 (by omega)).1
  have sB := sm_wl (A := 64) (Bq := 3) (c := 128 * T + 797615) (f := q) (h := fun i => rwp 0 1 m (ad 72 i) + (rwp 0 1 m (ad 73 i) + (rwp 0 1 m (ad 74 i) + rwp 0 1 m (ad 75 i)))) (e.1 7 2).toNat fun i i0 i1 => (hr i i0 (by omega)).2
  have sq := sm_mn (f := q) (n := (e.1 7 2).toNat) (fun i => (q1 i).1) (30 - (e.1 7 2).toNat)
  rw [show (e.1 7 2).toNat + (30 - (e.1 7 2).toNat) = 30 by omega] at sq
  have pA : (2048 * T + 480136) * (((e.1 7 2).toNat : Nat) : Int) ≤ (2048 * T + 480136) * 30 := Int.mul_le_mul_of_nonneg_left (by omega) (by omega)
  have pB : (128 * T + 797615) * (((e.1 7 2).toNat : Nat) : Int) ≤ (128 * T + 797615) * 30 := Int.mul_le_mul_of_nonneg_left (by omega) (by omega)
  generalize (2048 * T + 480136) * (((e.1 7 2).toNat : Nat) : Int) = xA at *
  generalize (128 * T + 797615) * (((e.1 7 2).toNat : Nat) : Int) = xB at *
  exact ⟨by omega, by omega⟩
end BND
