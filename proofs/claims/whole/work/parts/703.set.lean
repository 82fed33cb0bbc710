/-! THE ENGINE: a field is written; something is thrown. -/
section EN4
variable {m m' : MM} {ow ow' : Int → Int} {ad ad' : Int → Int → Int} {e e' : ES} {D : Int → Prop} {a b c i j k o r v n h N B t x y : Int} {l : List Int} {E : Int → Ev} {s : TS} {f : Int → Int}
theorem eS_e : (eS e a j v).1 a j = v := ms_e
theorem eS_a (h : b ≠ a) : (eS e a j v).1 b i = e.1 b i := ms_a h
theorem eS_j (h : i ≠ j) : (eS e a j v).1 a i = e.1 a i := ms_j h
theorem eS_i : (eS e a j v).1 a i = if i = j then v else e.1 a i := ms_i
theorem eLs_e : eL (eLs e c l) c = l := if_pos rfl
theorem eLs_a (h : b ≠ c) : eL (eLs e c l) b = eL e b := if_neg h
theorem eHs_e : eH (eHs e i E) i = E := if_pos rfl
theorem eHs_a (h : j ≠ i) : eH (eHs e i E) j = eH e j := if_neg h
theorem CE.nfz (C : CE m ow ad e) (h : o < 71000 ∨ 71030 ≤ o) : ¬ Fz e o := fun hz => by
  obtain ⟨i', i2, i3, i4, -⟩ := hz
  have := C.cn.1
  omega
theorem CE.m1 (C : CE m ow ad e) : m 1 (-2) = 0 := C.1.2.1
/-- a run's field -/
theorem CE.s7 (C : CE m ow ad e) (i0 : 0 ≤ i) (i1 : i < e.1 7 2) (j0 : 1 ≤ j) (j1 : j ≤ 15) (hd : j = 6 → Dead e i → v ≠ 0 ∧ v ≠ 6) (h9 : j ≠ 9 := by decide) : CE (mset m (ad 7 i) j v) ow ad (eS e (7000 + i) j v) := by
  obtain ⟨k1, k2, k3, k4, k5, k6, k7, k8, k9⟩ := C.run i0 i1
  have hi : i < 1000 := by have := C.cn.1; omega
  have hx : Ext m (mset m (ad 7 i) j v) := mset_ext k1.1 (by omega)
  refine CE.one0 (o := 7000 + i) C ⟨hx, fun a j' a0 a1 ha => ms_a fun hh => ha (by rw [hh]; exact k3)⟩ (fx_new C.fix k2 (by omega)) (by rw [ms_a (by omega)]; exact C.m1) (fun _ _ => rfl) (fun a j' ha => eS_a ha) (fun _ _ => rfl) (fun _ _ => rfl) (fun _ => rfl) (C.nfz (by have := C.cn.1; omega)) (fun i' i2 i3 i4 hD => ?_) (fun c hc => eS_a (by simp only [isT] at hc; omega)) ⟨by omega, by omega, by omega, by omega⟩ (fun i' i2 i3 i4 => by rw [eS_j (Ne.symm h9)]; exact Int.le_refl _) (fun hh => by omega) (Kx.of7 ⟨hx.ok k1, k2, k3, fun j' g0 g1 => ?_, by rw [eS_j (by omega)]; exact k5, by rw [ms_j (by omega)]; exact k6, by rw [ms_j (by omega)]; exact k7, by rw [ms_j (by omega)]; exact k8, by rw [ms_j (by omega)]; exact k9⟩ i0 hi)
  · have e1 : i' = i := by omega
    subst e1
    unfold Dead
    by_cases c1 : j = 6
    · subst c1
      rw [eS_e]
      exact hd rfl hD
    · rw [eS_j (fun h => c1 h.symm)]
      exact hD
  · rw [ms_i, eS_i, k4 j' g0 g1]
/-- an activity's field -/
theorem CE.s8 (C : CE m ow ad e) (i0 : 0 ≤ i) (i1 : i < e.1 8 2) (j0 : 1 ≤ j) (j1 : j ≤ 10) : CE (mset m (ad 8 i) j v) ow ad (eS e (8000 + i) j v) := by
  obtain ⟨k1, k2, k3, k4, k5, k6⟩ := C.act i0 i1
  have hi : i < 60 := by have := C.cn.2.1; omega
  have hx : Ext m (mset m (ad 8 i) j v) := mset_ext k1.1 (by omega)
  refine CE.one0 (o := 8000 + i) C ⟨hx, fun a j' a0 a1 ha => ms_a fun hh => ha (by rw [hh]; exact k3)⟩ (fx_new C.fix k2 (by omega)) (by rw [ms_a (by omega)]; exact C.m1) (fun _ _ => rfl) (fun a j' ha => eS_a ha) (fun _ _ => rfl) (fun _ _ => rfl) (fun _ => rfl) (C.nfz (by omega)) (fun i' i2 i3 i4 hD => by have := C.cn.1; omega) (fun c hc => eS_a (by simp only [isT] at hc; omega)) ⟨by omega, by omega, by omega, by omega⟩ (fun i' i2 i3 i4 => by have := C.cn.1; omega) (fun hh => by omega) (Kx.of8 ⟨hx.ok k1, k2, k3, ?_, ?_, fun j' g0 g1 => ?_⟩ i0 (by omega))
  · rw [eS_j (by omega), eS_a (by omega)]
    exact k4
  · rw [ms_j (by omega), eS_j (by omega)]
    exact k5
  · rw [ms_i, eS_i, k6 j' g0 g1]
/-- a task's field -/
theorem CE.s9 (C : CE m ow ad e) (i0 : 0 ≤ i) (i1 : i < e.1 9 2) (hj : j = 0 ∨ (2 ≤ j ∧ j ≤ 5)) : CE (mset m (ad 9 i) j v) ow ad (eS e (9000 + i) j v) := by
  obtain ⟨k1, k2, k3, k4, k5, k6⟩ := C.tsk i0 i1
  have hi : i < 512 := by have := C.cn.2.2.1; omega
  have hx : Ext m (mset m (ad 9 i) j v) := mset_ext k1.1 (by omega)
  refine CE.one0 (o := 9000 + i) C ⟨hx, fun a j' a0 a1 ha => ms_a fun hh => ha (by rw [hh]; exact k3)⟩ (fx_new C.fix k2 (by omega)) (by rw [ms_a (by omega)]; exact C.m1) (fun _ _ => rfl) (fun a j' ha => eS_a ha) (fun _ _ => rfl) (fun _ _ => rfl) (fun _ => rfl) (C.nfz (by omega)) (fun i' i2 i3 i4 hD => by have := C.cn.1; omega) (fun c hc => eS_a (by simp only [isT] at hc; omega)) ⟨by omega, by omega, by omega, by omega⟩ (fun i' i2 i3 i4 => by have := C.cn.1; omega) (fun hh => by omega) (Kx.of9 ⟨hx.ok k1, k2, k3, ?_, ?_, fun j' g0 => ?_⟩ i0 (by omega))
  · rw [eS_j (by omega), eS_a (by omega)]
    exact k4
  · rw [ms_j (by omega), eS_j (by omega)]
    exact k5
  · rw [ms_i, eS_i, k6 j' g0]
/-- a schedule's field -/
theorem CE.s10 (C : CE m ow ad e) (i0 : 0 ≤ i) (i1 : i < e.1 10 2) (j0 : 0 ≤ j) (j1 : j ≤ 8) : CE (mset m (ad 10 i) j v) ow ad (eS e (10000 + i) j v) := by
  obtain ⟨k1, k2, k3, k6⟩ := C.sch i0 i1
  have hi : i < 4 := by have := C.cn.2.2.2.1; omega
  have hx : Ext m (mset m (ad 10 i) j v) := mset_ext k1.1 (by omega)
  refine CE.one0 (o := 10000 + i) C ⟨hx, fun a j' a0 a1 ha => ms_a fun hh => ha (by rw [hh]; exact k3)⟩ (fx_new C.fix k2 (by omega)) (by rw [ms_a (by omega)]; exact C.m1) (fun _ _ => rfl) (fun a j' ha => eS_a ha) (fun _ _ => rfl) (fun _ _ => rfl) (fun _ => rfl) (C.nfz (by omega)) (fun i' i2 i3 i4 hD => by have := C.cn.1; omega) (fun c hc => eS_a (by simp only [isT] at hc; omega)) ⟨by omega, by omega, by omega, by omega⟩ (fun i' i2 i3 i4 => by have := C.cn.1; omega) (fun hh => by omega) (Kx.of10 ⟨hx.ok k1, k2, k3, fun j' g0 g1 => ?_⟩ i0 (by omega))
  rw [ms_i, eS_i, k6 j' g0 g1]
/-- a scalar -/
theorem CE.sG (C : CE m ow ad e) (ho : (o = 4 ∧ 11 ≤ j ∧ j ≤ 17) ∨ (11 ≤ o ∧ o ≤ 13 ∧ 0 ≤ j ∧ j < 3) ∨ (64 ≤ o ∧ o ≤ 67 ∧ 0 ≤ j ∧ j < 5)) : CE (mset m o j v) ow ad (eS e o j v) := by
  obtain ⟨k1, k2⟩ := C.glo (o := o) (by omega)
  have h163 := C.fix.1
  have hx : Ext m (mset m o j v) := mset_ext (by omega) (by omega)
  have key : ∀ q ∈ fixk, (q.1 = 4 ∨ (11 ≤ q.1 ∧ q.1 ≤ 13) ∨ (64 ≤ q.1 ∧ q.1 ≤ 67)) → ∀ p ∈ q.2.2.2, q.1 = 4 ∧ p.1 < 11 := by decide +kernel
  refine CE.one0 (o := o) C ⟨hx, fun a j' a0 a1 ha => ms_a fun hh => ha (by rw [hh]; exact k1)⟩ (fx_z C.fix (by omega) (by omega) fun q h1 h2 p h3 h4 => by have := key q h1 (by omega) p h3; omega) (by rw [ms_a (by omega)]; exact C.m1) (fun _ _ => rfl) (fun a j' ha => eS_a ha) (fun _ _ => rfl) (fun _ _ => rfl) (fun _ => rfl) (C.nfz (by omega)) (fun i' i2 i3 i4 hD => by have := C.cn.1; omega) (fun c hc => eS_a (by simp only [isT] at hc; omega)) ⟨by omega, by omega, by omega, by omega⟩ (fun i' i2 i3 i4 => by have := C.cn.1; omega) (fun hh => by omega) (Kx.ofG (by omega) ⟨k1, fun j' g0 => ?_⟩)
  rw [ms_i, eS_i, k2 j' g0]
/-- a type's policy -/
theorem CE.sT (C : CE m ow ad e) (ht : isT t) : CE (mset m t 2 v) ow ad (eS e t 2 v) := by
  obtain ⟨k1, k2, k3⟩ := C.typ ht
  have hb := isT_b ht
  have h163 := C.fix.1
  have hx : Ext m (mset m t 2 v) := mset_ext (by omega) (by omega)
  have key : ∀ q ∈ fixk, (48 ≤ q.1 ∧ q.1 ≤ 60) → ∀ p ∈ q.2.2.2, p.1 = 0 := by decide +kernel
  refine CE.one0 (o := t) C ⟨hx, fun a j' a0 a1 ha => ms_a fun hh => ha (by rw [hh]; exact k1)⟩ (fx_z C.fix (by omega) (by omega) fun q h1 h2 p h3 h4 => by have := key q h1 (by omega) p h3; omega) (by rw [ms_a (by omega)]; exact C.m1) (fun _ _ => rfl) (fun a j' ha => eS_a ha) (fun _ _ => rfl) (fun _ _ => rfl) (fun _ => rfl) (C.nfz (by omega)) (fun i' i2 i3 i4 hD => by have := C.cn.1; omega) (fun c hc => eS_a (by simp only [isT] at hc ht; omega)) ⟨by omega, by omega, by omega, by omega⟩ (fun i' i2 i3 i4 => by have := C.cn.1; omega) (fun hh => by omega) (Kx.ofT ht ⟨k1, ?_, ?_⟩)
  · rw [ms_j (by decide), eS_a (by omega)]
    exact k2
  · rw [ms_e, eS_e]
/-- where the law puts an answer -/
theorem CE.s162 (C : CE m ow ad e) : CE (mset m 162 0 v) ow ad e := by
  have h163 := C.fix.1
  have hx : Ext m (mset m 162 0 v) := mset_ext (by omega) (by omega)
  have key : ∀ q ∈ fixk, q.1 = 162 → ∀ p ∈ q.2.2.2, p.1 < 0 := by decide +kernel
  exact CE.one0 (o := 162) C ⟨hx, fun a j' a0 a1 ha => ms_a fun hh => ha (by rw [hh]; exact C.1.2.2.2.1.1)⟩ (fx_z C.fix (by omega) (by omega) fun q h1 h2 p h3 h4 => by have := key q h1 h2 p h3; omega) (by rw [ms_a (by omega)]; exact C.m1) (fun _ _ => rfl) (fun a j' ha => rfl) (fun _ _ => rfl) (fun _ _ => rfl) (fun _ => rfl) (C.nfz (by omega)) (fun i' i2 i3 i4 hD => by have := C.cn.1; omega) (fun c hc => rfl) ⟨by omega, by omega, by omega, by omega⟩ (fun i' i2 i3 i4 => by have := C.cn.1; omega) (fun hh => by omega) (Kx.of0 (by omega))
/-- what the class doesn't have -/
theorem CE.gho (C : CE m ow ad e) (ho : o < 4 ∨ o = 68 ∨ o = 162 ∨ o = 99 ∨ 76000 ≤ o) (he : ∀ a j, a ≠ o → e'.1 a j = e.1 a j) (h2 : e'.2 = e.2) (h3 : o = 3 → e.1 3 0 ≤ e'.1 3 0 := by (intro hh; omega)) : CE m ow ad e' := by
  have hl : ∀ c, eL e' c = eL e c := fun c => by unfold eL; rw [h2]
  have hh : ∀ c, eH e' c = eH e c := fun c => by unfold eH; rw [h2]
  exact CE.one0 (o := o) C ⟨Ext.rf m, fun _ _ _ _ _ => rfl⟩ C.fix C.m1 (fun _ _ => rfl) he (fun c _ => hl c) (fun c _ => hh c) (fun _ => by rw [h2]) (C.nfz (by omega)) (fun i' i2 i3 i4 hD => by have := C.cn.1; omega) (fun c hc => he _ _ (by simp only [isT] at hc; omega)) ⟨by omega, by omega, by omega, by omega⟩ (fun i' i2 i3 i4 => by have := C.cn.1; omega) (fun hh => by rw [hh]; exact h3 hh) (Kx.of0 ho)
theorem CE.gS (C : CE m ow ad e) (ho : o < 4 ∨ o = 68 ∨ o = 162 ∨ o = 99 ∨ 76000 ≤ o) (h3 : o ≠ 3 ∨ j ≠ 0 ∨ e.1 3 0 ≤ v := by first | exact Or.inl (by omega) | exact Or.inr (Or.inl (by decide)) | exact Or.inr (Or.inr (by omega))) : CE m ow ad (eS e o j v) := C.gho ho (fun a j' ha => eS_a ha) rfl fun hh => by
  rcases h3 with g | g | g
  · exact absurd hh g
  · rw [hh, eS_j (Ne.symm g)]
    exact Int.le_refl _
  · rw [hh]
    by_cases c : (0 : Int) = j
    · rw [← c, eS_e]
      exact g
    · rw [eS_j c]
      exact Int.le_refl _
def pThr (e : ES) : ES := eS e 99 0 (e.1 99 0 + 1)
/-- something is thrown -/
theorem CE.thr (C : CE m ow ad e) : ∃ ow', CE (mthr m) ow' ad (pThr e) := by
  have h163 := C.fix.1
  have ho : ∀ a j : Int, a < m 0 0 → a ≠ 0 → mthr m a j = m a j := fun a j h1 h2 => by
    unfold mthr
    rw [if_neg (by omega), if_neg h2]
  refine ⟨fun a => if a < m 0 0 then ow a else 99, CE.one0 (o := 99) C ⟨mthr_ext (by omega), fun a j a0 a1 _ => ho a j a1 (by omega)⟩ (fx_mthr C.fix) (by rw [ho 1 (-2) (by omega) (by decide)]; exact C.m1) (fun a ha => if_pos ha) (fun a j' ha => eS_a ha) (fun _ _ => rfl) (fun _ _ => rfl) (fun _ => rfl) (C.nfz (by omega)) (fun i' i2 i3 i4 hD => by have := C.cn.1; omega) (fun c hc => eS_a (by simp only [isT] at hc; omega)) ⟨by omega, by omega, by omega, by omega⟩ (fun i' i2 i3 i4 => by have := C.cn.1; omega) (fun hh => by omega) (Kx.of0 (by omega))⟩
end EN4
