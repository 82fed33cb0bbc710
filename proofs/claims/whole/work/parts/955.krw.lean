/-! THE ROOM: all rows that there are. -/
section KRW
variable {m : MM} {ow : Int → Int} {ad : Int → Int → Int} {e : ES} {a b c i j k r t v q D lo hi : Int} {l : List Int} {g : Int → Int → Int}
/-- the sizes of the lists -/
theorem CE.lsz (C : CE m ow ad e) (hq : isLs q) : m q 2 = e.1 q 2 ∧ 0 ≤ e.1 q 2 := by
  have key : ∀ {c : Int} {f : Int → Int}, KLst m ow e c f → m c 2 = e.1 c 2 ∧ 0 ≤ e.1 c 2 := fun {c f} h => by
    have h2 := h.1.2.1
    rw [lst_len] at h2
    have := h.2.1
    exact ⟨by omega, this⟩
  unfold isLs at hq
  by_cases c : q ≤ 10
  · exact key ((C.2 q).2.2.2.2.1 (by omega))
  · exact key ((C.2 q).2.2.2.1 (by unfold isT; omega))
theorem CE.oc (C : CE m ow ad e) (h : OWk g D m) : sm (cwt g m) (m 0 0).toNat ≤ D + LSg g m := by
  rcases h with ⟨q, q1, q2⟩ | h
  · have := C.lsz q1
    omega
  · exact h.2
def kR (ad : Int → Int → Int) : Nat → List Int
  | 0 => []
  | n + 1 => kR ad n ++ ([ad 72 (n : Int)] ++ ([ad 73 (n : Int)] ++ ([ad 74 (n : Int)] ++ [ad 75 (n : Int)])))
def kV (ad : Int → Int → Int) (t : Int) : Nat → List Int
  | 0 => []
  | n + 1 => kV ad t n ++ [ad t (n : Int)]
def kF : List Int := [21, 35, 37, 39, 41, 44, 46]
/-- all rows -/
def kAll (ad : Int → Int → Int) (e : ES) : List Int := kF ++ ([ad 0 14] ++ (kV ad 48 (e.1 49 2 + 1).toNat ++ (kV ad 52 (e.1 53 2 + 1).toNat ++ (kV ad 56 (e.1 57 2 + 1).toNat ++ (kV ad 60 (e.1 61 2 + 1).toNat ++ kR ad (e.1 7 2).toNat)))))
theorem CE.rowo (C : CE m ow ad e) (hv : LvR e c i) : okc m (ad c i) 6 ∧ ow (ad c i) = 1000 * c + i := ⟨(C.row hv).1.1.1, (C.row hv).2.1 _ (Or.inl rfl)⟩
theorem CE.hiso (C : CE m ow ad e) (i0 : 0 ≤ i) (i1 : i < e.1 7 2) : okc m (ad 72 i) 6 ∧ ow (ad 72 i) = 71000 + i := by
  obtain ⟨⟨g1, g2⟩, g3, g4, g5, g6, g7⟩ := C.his i0 i1
  obtain ⟨l, hr, -⟩ := g3.1.2.2
  rw [g4] at hr
  exact ⟨hr.1.1, g6 _ (Or.inl rfl)⟩
theorem k4_in (C : CE m ow ad e) (h0 : 0 ≤ i) (h1 : i < e.1 7 2) : ∀ a ∈ [ad 72 i] ++ ([ad 73 i] ++ ([ad 74 i] ++ [ad 75 i])), okc m a 6 ∧ (ow a = 71000 + i ∨ ow a = 73000 + i ∨ ow a = 74000 + i ∨ ow a = 75000 + i) := fun a h => by
  rcases List.mem_append.mp h with h | h
  · rw [List.mem_singleton.mp h]
    obtain ⟨g1, g2⟩ := C.hiso h0 h1
    exact ⟨g1, Or.inl g2⟩
  rcases List.mem_append.mp h with h | h
  · rw [List.mem_singleton.mp h]
    obtain ⟨g1, g2⟩ := C.rowo (C.lv7 (c := 73) (by omega) h0 h1)
    exact ⟨g1, Or.inr (Or.inl (by omega))⟩
  rcases List.mem_append.mp h with h | h
  · rw [List.mem_singleton.mp h]
    obtain ⟨g1, g2⟩ := C.rowo (C.lv7 (c := 74) (by omega) h0 h1)
    exact ⟨g1, Or.inr (Or.inr (Or.inl (by omega)))⟩
  · rw [List.mem_singleton.mp h]
    obtain ⟨g1, g2⟩ := C.rowo (C.lv7 (c := 75) (by omega) h0 h1)
    exact ⟨g1, Or.inr (Or.inr (Or.inr (by omega)))⟩
theorem k4_nd (C : CE m ow ad e) (h0 : 0 ≤ i) (h1 : i < e.1 7 2) : ([ad 72 i] ++ ([ad 73 i] ++ ([ad 74 i] ++ [ad 75 i]))).Nodup := by
  have n7 := C.cn.1
  have g2 := (C.hiso h0 h1).2
  have g3 := (C.rowo (C.lv7 (c := 73) (by omega) h0 h1)).2
  have g4 := (C.rowo (C.lv7 (c := 74) (by omega) h0 h1)).2
  have g5 := (C.rowo (C.lv7 (c := 75) (by omega) h0 h1)).2
  refine nd_app (w := ow) nd_1 (nd_app (w := ow) nd_1 (nd_app (w := ow) nd_1 nd_1 fun a ha b hb => ?_) fun a ha b hb => ?_) fun a ha b hb => ?_
  · rw [List.mem_singleton.mp ha, List.mem_singleton.mp hb]
    omega
  · rw [List.mem_singleton.mp ha]
    rcases List.mem_append.mp hb with hb | hb
    · rw [List.mem_singleton.mp hb]
      omega
    · rw [List.mem_singleton.mp hb]
      omega
  · rw [List.mem_singleton.mp ha]
    rcases List.mem_append.mp hb with hb | hb
    · rw [List.mem_singleton.mp hb]
      omega
    rcases List.mem_append.mp hb with hb | hb
    · rw [List.mem_singleton.mp hb]
      omega
    · rw [List.mem_singleton.mp hb]
      omega
theorem kR_in (C : CE m ow ad e) : ∀ n : Nat, (n : Int) ≤ e.1 7 2 → ∀ a ∈ kR ad n, okc m a 6 ∧ ∃ i : Int, (0 ≤ i ∧ i < (n : Int)) ∧ (ow a = 71000 + i ∨ ow a = 73000 + i ∨ ow a = 74000 + i ∨ ow a = 75000 + i) := by
  intro n
  induction n with
  | zero => intro _ a ha; exact absurd ha List.not_mem_nil
  | succ n ih =>
    intro hn a ha
    rcases List.mem_append.mp ha with h | h
    · obtain ⟨h1, i, ⟨i0, i1⟩, h2⟩ := ih (by omega) a h
      exact ⟨h1, i, ⟨i0, by omega⟩, h2⟩
    · obtain ⟨h1, h2⟩ := k4_in C (i := (n : Int)) (by omega) (by omega) a h
      exact ⟨h1, (n : Int), ⟨by omega, by omega⟩, h2⟩
theorem kR_nd (C : CE m ow ad e) : ∀ n : Nat, (n : Int) ≤ e.1 7 2 → (kR ad n).Nodup := by
  intro n
  have n7 := C.cn.1
  induction n with
  | zero => intro _; exact List.nodup_nil
  | succ n ih =>
    intro hn
    refine nd_app (w := ow) (ih (by omega)) (k4_nd C (i := (n : Int)) (by omega) (by omega)) fun a ha b hb => ?_
    obtain ⟨-, i, ⟨i0, i1⟩, h2⟩ := kR_in C n (by omega) a ha
    obtain ⟨-, h3⟩ := k4_in C (i := (n : Int)) (by omega) (by omega) b hb
    omega
theorem kR_len : ∀ n : Nat, (kR ad n).length = 4 * n := by
  intro n
  induction n with
  | zero => rfl
  | succ n ih =>
    show (kR ad n ++ ([ad 72 (n : Int)] ++ ([ad 73 (n : Int)] ++ ([ad 74 (n : Int)] ++ [ad 75 (n : Int)])))).length = _
    rw [List.length_append, ih]
    show 4 * n + 4 = 4 * (n + 1)
    omega
theorem lvT (C : CE m ow ad e) (ht : isT t) (v0 : 0 ≤ v) (v1 : v ≤ e.1 (t + 1) 2) : LvR e t v := by
  have := C.cn.2.2.2.2 t ht
  exact Or.inr (Or.inl ⟨ht, v0, v1, by omega⟩)
theorem kV_in (C : CE m ow ad e) (ht : isT t) : ∀ n : Nat, (n : Int) ≤ e.1 (t + 1) 2 + 1 → ∀ a ∈ kV ad t n, okc m a 6 ∧ ∃ v : Int, (0 ≤ v ∧ v < (n : Int)) ∧ ow a = 1000 * t + v := by
  intro n
  induction n with
  | zero => intro _ a ha; exact absurd ha List.not_mem_nil
  | succ n ih =>
    intro hn a ha
    rcases List.mem_append.mp ha with h | h
    · obtain ⟨h1, i, ⟨i0, i1⟩, h2⟩ := ih (by omega) a h
      exact ⟨h1, i, ⟨i0, by omega⟩, h2⟩
    · rw [List.mem_singleton.mp h]
      obtain ⟨h1, h2⟩ := C.rowo (lvT C ht (v := (n : Int)) (by omega) (by omega))
      exact ⟨h1, (n : Int), ⟨by omega, by omega⟩, h2⟩
theorem kV_nd (C : CE m ow ad e) (ht : isT t) : ∀ n : Nat, (n : Int) ≤ e.1 (t + 1) 2 + 1 → (kV ad t n).Nodup := by
  intro n
  induction n with
  | zero => intro _; exact List.nodup_nil
  | succ n ih =>
    intro hn
    refine nd_app (w := ow) (ih (by omega)) nd_1 fun a ha b hb => ?_
    obtain ⟨-, i, ⟨i0, i1⟩, h2⟩ := kV_in C ht n (by omega) a ha
    rw [List.mem_singleton.mp hb]
    have h3 := (C.rowo (lvT C ht (v := (n : Int)) (by omega) (by omega))).2
    omega
theorem kV_len : ∀ n : Nat, (kV ad t n).length = n := by
  intro n
  induction n with
  | zero => rfl
  | succ n ih =>
    show (kV ad t n ++ [ad t (n : Int)]).length = n + 1
    rw [List.length_append, ih]
    rfl
theorem kF_in (C : CE m ow ad e) : ∀ a ∈ kF, okc m a 6 ∧ (ow a = 16 ∨ ow a = 5) := fun a ha => by
  have hm : ∀ r : Int, Mrow r → ow r = 16 := fun r hr => C.mac.2.1 r (Or.inr ⟨r, hr, Or.inl rfl⟩)
  have h : a = 21 ∨ a = 35 ∨ a = 37 ∨ a = 39 ∨ a = 41 ∨ a = 44 ∨ a = 46 := by
    unfold kF at ha
    simpa using ha
  rcases h with rfl | rfl | rfl | rfl | rfl | rfl | rfl
  · exact ⟨fx_kF C.fix (by decide +kernel), Or.inl (hm _ (by unfold Mrow; omega))⟩
  · exact ⟨fx_kF C.fix (by decide +kernel), Or.inl (hm _ (by unfold Mrow; omega))⟩
  · exact ⟨fx_kF C.fix (by decide +kernel), Or.inl (hm _ (by unfold Mrow; omega))⟩
  · exact ⟨fx_kF C.fix (by decide +kernel), Or.inl (hm _ (by unfold Mrow; omega))⟩
  · exact ⟨fx_kF C.fix (by decide +kernel), Or.inl (hm _ (by unfold Mrow; omega))⟩
  · exact ⟨fx_kF C.fix (by decide +kernel), Or.inl (hm _ (by unfold Mrow; omega))⟩
  · exact ⟨fx_kF C.fix (by decide +kernel), Or.inr C.1.2.2.2.2.2.2.2.1.1⟩
theorem nd_rng {K L : List Int} (hK : K.Nodup ∧ ∀ a ∈ K, okc m a 6 ∧ lo ≤ ow a ∧ ow a < hi) (hL : L.Nodup ∧ ∀ a ∈ L, okc m a 6 ∧ hi ≤ ow a) (h : lo ≤ hi) : (K ++ L).Nodup ∧ ∀ a ∈ K ++ L, okc m a 6 ∧ lo ≤ ow a := by
  refine ⟨nd_app (w := ow) hK.1 hL.1 fun a ha b hb => ?_, fun a ha => ?_⟩
  · have h1 := hK.2 a ha
    have h2 := hL.2 b hb
    omega
  · rcases List.mem_append.mp ha with h1 | h1
    · exact ⟨(hK.2 a h1).1, (hK.2 a h1).2.1⟩
    · have h2 := hL.2 a h1
      exact ⟨h2.1, by omega⟩
theorem kV_rng (C : CE m ow ad e) (ht : isT t) : (kV ad t (e.1 (t + 1) 2 + 1).toNat).Nodup ∧ ∀ a ∈ kV ad t (e.1 (t + 1) 2 + 1).toNat, okc m a 6 ∧ 1000 * t ≤ ow a ∧ ow a < 1000 * t + 1000 := by
  have hc := C.cn.2.2.2.2 t ht
  refine ⟨kV_nd C ht _ (by omega), fun a ha => ?_⟩
  obtain ⟨h1, v, ⟨v0, v1⟩, h2⟩ := kV_in C ht _ (by omega) a ha
  exact ⟨h1, by omega, by omega⟩
theorem kAll_nd (C : CE m ow ad e) : (kAll ad e).Nodup ∧ ∀ a ∈ kAll ad e, okc m a 6 := by
  have n7 := C.cn.1
  have hR : (kR ad (e.1 7 2).toNat).Nodup ∧ ∀ a ∈ kR ad (e.1 7 2).toNat, okc m a 6 ∧ 61000 ≤ ow a := ⟨kR_nd C _ (by omega), fun a ha => by
    obtain ⟨h1, i, ⟨i0, i1⟩, h2⟩ := kR_in C _ (by omega) a ha
    exact ⟨h1, by omega⟩⟩
  have v48 := kV_rng C (t := 48) (by unfold isT; omega)
  have v52 := kV_rng C (t := 52) (by unfold isT; omega)
  have v56 := kV_rng C (t := 56) (by unfold isT; omega)
  have v60 := kV_rng C (t := 60) (by unfold isT; omega)
  have a5 := nd_rng (lo := 60000) (hi := 61000) ⟨v60.1, fun a ha => by have := v60.2 a ha; exact ⟨this.1, by omega, by omega⟩⟩ hR (by decide)
  have a4 := nd_rng (lo := 56000) (hi := 60000) ⟨v56.1, fun a ha => by have := v56.2 a ha; exact ⟨this.1, by omega, by omega⟩⟩ a5 (by decide)
  have a3 := nd_rng (lo := 52000) (hi := 56000) ⟨v52.1, fun a ha => by have := v52.2 a ha; exact ⟨this.1, by omega, by omega⟩⟩ a4 (by decide)
  have a2 := nd_rng (lo := 48000) (hi := 52000) ⟨v48.1, fun a ha => by have := v48.2 a ha; exact ⟨this.1, by omega, by omega⟩⟩ a3 (by decide)
  obtain ⟨o1, o2⟩ := C.rowo (c := 0) (i := 14) (Or.inl ⟨rfl, rfl⟩)
  have hF : kF.Nodup := by decide
  refine ⟨nd_app (w := ow) hF (nd_app (w := ow) nd_1 a2.1 fun a ha b hb => ?_) fun a ha b hb => ?_, fun a ha => ?_⟩
  · rw [List.mem_singleton.mp ha]
    have := (a2.2 b hb).2
    omega
  · have h1 := (kF_in C a ha).2
    rcases List.mem_append.mp hb with hb | hb
    · rw [List.mem_singleton.mp hb]
      omega
    · have := (a2.2 b hb).2
      omega
  · rcases List.mem_append.mp ha with h | h
    · exact (kF_in C a h).1
    · rcases List.mem_append.mp h with h | h
      · rw [List.mem_singleton.mp h]
        exact o1
      · exact (a2.2 a h).1
theorem kAll_len (C : CE m ow ad e) : ((kAll ad e).length : Int) = 12 + e.1 49 2 + e.1 53 2 + e.1 57 2 + e.1 61 2 + 4 * e.1 7 2 := by
  have n7 := C.cn.1
  have c48 := C.cn.2.2.2.2 48 (by unfold isT; omega)
  have c52 := C.cn.2.2.2.2 52 (by unfold isT; omega)
  have c56 := C.cn.2.2.2.2 56 (by unfold isT; omega)
  have c60 := C.cn.2.2.2.2 60 (by unfold isT; omega)
  have hF : kF.length = 7 := rfl
  have h1 : [ad 0 14].length = 1 := rfl
  unfold kAll
  rw [List.length_append, List.length_append, List.length_append, List.length_append, List.length_append, List.length_append, kV_len, kV_len, kV_len, kV_len, kR_len, hF, h1]
  have e48 : (48 : Int) + 1 = 49 := rfl
  have e52 : (52 : Int) + 1 = 53 := rfl
  have e56 : (56 : Int) + 1 = 57 := rfl
  have e60 : (60 : Int) + 1 = 61 := rfl
  rw [e48] at c48
  rw [e52] at c52
  rw [e56] at c56
  rw [e60] at c60
  omega
end KRW
section KRX
variable {m : MM} {ow : Int → Int} {ad : Int → Int → Int} {e : ES} {a b c i j k r t v q D : Int} {g : Int → Int → Int}
theorem fix_6 (hF : Fix m) (h0 : 4 ≤ a) (h1 : a < 163) : (m a (-1) = 6 → a ∈ rows00) ∧ (m a (-1) = 0 → a ∈ [(7 : Int), 8, 9, 10, 49, 53, 57, 61]) := by
  have key : ∀ i : Fin 159, ∃ q ∈ fixk, q.1 = 4 + (i.val : Int) ∧ (q.2.1 = 6 → q.1 ∈ rows00) ∧ (q.2.1 = 0 → q.1 ∈ [(7 : Int), 8, 9, 10, 49, 53, 57, 61]) := by decide +kernel
  obtain ⟨q, hq, q1, q2, q3⟩ := key ⟨(a - 4).toNat, by omega⟩
  have qa : q.1 = a := by
    rw [q1]
    show 4 + (((a - 4).toNat : Nat) : Int) = a
    omega
  have hk := (hF.2 q hq).1
  rw [qa] at hk q2 q3
  rw [hk]
  exact ⟨q2, q3⟩
def gK6 (k _l : Int) : Int := if k = 6 then 1 else 0
def gK0 (k _l : Int) : Int := if k = 0 then 1 else 0
theorem gK6_ok : GOK gK6 := ⟨fun k l => by unfold gK6; split <;> decide, fun l => ⟨if_neg (by decide), if_neg (by decide), if_neg (by decide)⟩⟩
theorem gK0_ok : GOK gK0 := ⟨fun k l => by unfold gK0; split <;> decide, fun l => ⟨if_neg (by decide), if_neg (by decide), if_neg (by decide)⟩⟩
def f6 (m : MM) (a : Int) : Int := if 4 ≤ a ∧ m a (-1) = 6 then 1 else 0
def f61 (m : MM) (a : Int) : Int := if (4 ≤ a ∧ a < 163) ∧ m a (-1) = 6 then 1 else 0
/-- all rows are known -/
theorem f6_all (C : CE m ow ad e) (hO : ∀ g : Int → Int → Int, GOK g → OWk g (512 * g 99 0) m) : ∀ a : Int, 4 ≤ a → a < m 0 0 → m a (-1) = 6 → a ∈ kAll ad e := by
  have h163 := C.fix.1
  have h1 := C.oc (hO _ gK6_ok)
  have h99 : gK6 99 0 = 0 := if_neg (by decide)
  have hL : LSg gK6 m = 4 * m 7 2 + m 49 2 + m 53 2 + m 57 2 + m 61 2 := by
    have a1 : gK6 7 20 = 0 := if_neg (by decide)
    have a2 : gK6 3 5 = 0 := if_neg (by decide)
    have a3 : gK6 6 3 = 1 := if_pos rfl
    have a4 : gK6 1 11 = 0 := if_neg (by decide)
    have a5 : gK6 10 6 = 0 := if_neg (by decide)
    have a6 : gK6 8 9 = 0 := if_neg (by decide)
    unfold LSg uRun
    rw [a1, a2, a3, a4, a5, a6]
    omega
  rw [hL, h99] at h1
  have s7 := C.lsz (q := 7) (by unfold isLs; omega)
  have s49 := C.lsz (q := 49) (by unfold isLs; omega)
  have s53 := C.lsz (q := 53) (by unfold isLs; omega)
  have s57 := C.lsz (q := 57) (by unfold isLs; omega)
  have s61 := C.lsz (q := 61) (by unfold isLs; omega)
  have h2 : sm (f6 m) (m 0 0).toNat ≤ sm (fun i => f61 m i + cwt gK6 m i) (m 0 0).toNat := sm_le fun i i0 i1 => by
    show f6 m i ≤ f61 m i + cwt gK6 m i
    unfold f6 f61 cwt gK6
    by_cases c : 4 ≤ i ∧ m i (-1) = 6
    · by_cases c2 : i < 163
      · rw [if_pos c, if_pos ⟨⟨c.1, c2⟩, c.2⟩, if_pos c2]
        decide
      · rw [if_pos c, if_neg (fun h => c2 h.1.2), if_neg c2, if_pos c.2]
        decide
    · rw [if_neg c]
      have z1 : 0 ≤ (if (4 ≤ i ∧ i < 163) ∧ m i (-1) = 6 then (1 : Int) else 0) := by split <;> decide
      have z2 : 0 ≤ (if i < 163 then (0 : Int) else if m i (-1) = 6 then 1 else 0) := by
        split
        · decide
        · split <;> decide
      omega
  rw [sm_add] at h2
  have h3 : sm (f61 m) (m 0 0).toNat ≤ lsu (f61 m) rows00 := sk_known rows00 (f61 m) _ (fun i => by unfold f61; split <;> decide) (fun a a0 a1 ha => by
    unfold f61 at ha
    by_cases c : (4 ≤ a ∧ a < 163) ∧ m a (-1) = 6
    · exact (fix_6 C.fix c.1.1 c.1.2).1 c.2
    · rw [if_neg c] at ha
      exact absurd rfl ha)
  have h4 : lsu (f61 m) rows00 ≤ 1 * (rows00.length : Int) := lsu_b rows00 (fun a _ => by unfold f61; split <;> decide)
  have h5 : (rows00.length : Int) = 12 := rfl
  have hlen := kAll_len C
  obtain ⟨k1, k2⟩ := kAll_nd C
  intro a a4 a1 a6
  refine sk_all (f := f6 m) (n := (m 0 0).toNat) (fun i => by unfold f6; split <;> decide) k1 (fun b hb => ?_) (by omega) a (by omega) (by omega) (by unfold f6; rw [if_pos ⟨a4, a6⟩]; decide)
  obtain ⟨b1, b2, b3⟩ := k2 b hb
  exact ⟨⟨by omega, by omega⟩, by unfold f6; rw [if_pos ⟨b1, b3⟩]; decide⟩
/-- all lists are known -/
theorem f0_all (C : CE m ow ad e) (hO : ∀ g : Int → Int → Int, GOK g → OWk g (512 * g 99 0) m) : ∀ a : Int, 4 ≤ a → a < m 0 0 → m a (-1) = 0 → a ∈ [(7 : Int), 8, 9, 10, 49, 53, 57, 61] := fun a a4 a1 a0 => by
  have h163 := C.fix.1
  by_cases c : a < 163
  · exact (fix_6 C.fix a4 c).2 a0
  · exfalso
    have h1 := C.oc (hO _ gK0_ok)
    have h99 : gK0 99 0 = 0 := if_neg (by decide)
    have hL : LSg gK0 m = 0 := by
      have a1 : gK0 7 20 = 0 := if_neg (by decide)
      have a2 : gK0 3 5 = 0 := if_neg (by decide)
      have a3 : gK0 6 3 = 0 := if_neg (by decide)
      have a4 : gK0 1 11 = 0 := if_neg (by decide)
      have a5 : gK0 10 6 = 0 := if_neg (by decide)
      have a6 : gK0 8 9 = 0 := if_neg (by decide)
      unfold LSg uRun
      rw [a1, a2, a3, a4, a5, a6]
      omega
    rw [hL, h99] at h1
    have h2 := sm_ge (f := cwt gK0 m) (fun j _ => by
      unfold cwt gK0
      split
      · decide
      · split <;> decide) (i := a) (by omega) (m 0 0).toNat (by omega)
    have h3 : cwt gK0 m a = 1 := by
      unfold cwt gK0
      rw [if_neg c, if_pos a0]
    omega
end KRX
