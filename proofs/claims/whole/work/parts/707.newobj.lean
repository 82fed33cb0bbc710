/-! THE ENGINE: another activity, task, schedule; a draft becomes a version. -/
section EN7
variable {m m' M2 : MM} {ow ow' : Int → Int} {ad ad' : Int → Int → Int} {e e' : ES} {D : Int → Prop} {a b c i j k o r v n h N B t x y p1 p2 p3 p4 p5 kd ln : Int} {l : List Int} {E : Int → Ev} {s : TS} {f : Int → Int}
/-- another object of a list, with its fields -/
def pNew (c : Int) (f : Int → Int) (e : ES) : ES := eS (eF e (1000 * c + e.1 c 2) f) c 2 (e.1 c 2 + 1)
def adN (ad : Int → Int → Int) (c n z : Int) : Int → Int → Int := fun c' i => if c' = c ∧ i = n then z else ad c' i
theorem pNew_a (h1 : a ≠ c) (h2 : a ≠ 1000 * c + e.1 c 2) : (pNew c f e).1 a j = e.1 a j := by
  unfold pNew
  rw [eS_a h1, eF_a h2]
theorem pNew_n : (pNew c f e).1 c 2 = e.1 c 2 + 1 := eS_e
theorem pNew_f (hc : 8 ≤ c) (hn : 0 ≤ e.1 c 2) : (pNew c f e).1 (1000 * c + e.1 c 2) j = f j := by
  unfold pNew
  rw [eS_a (by omega), eF_e]
theorem CE.obj (C : CE m ow ad e) (h8 : 8 ≤ c) (h10 : c ≤ 10) (O : Onl (mnew m kd ln) M2 (m 0 0)) (F2 : Fix M2) (hob : okob M2 (m 0 0)) (hcap : CN (pNew c f e)) (hK : ∀ (m' : MM) (ow' : Int → Int), (∀ j, m' (m 0 0) j = M2 (m 0 0) j) → Ext M2 m' → ow' (m 0 0) = 1000 * c + e.1 c 2 → Kx m' ow' (adN ad c (e.1 c 2) (m 0 0)) (pNew c f e) (1000 * c + e.1 c 2)) : ∃ m', fm_Jx4a65c_add_9ea2d c (m 0 0) M2 = some (1, m') ∧ (∀ j, m' (m 0 0) j = M2 (m 0 0) j) ∧ CX1 m' (adN ad c (e.1 c 2) (m 0 0)) (pNew c f e) := by
  have h163 := C.fix.1
  have cn := C.cn
  have n0 : 0 ≤ e.1 c 2 ∧ e.1 c 2 < 1000 := by
    obtain ⟨c1, c2, c3, c4, c5⟩ := cn
    have h4 : c = 8 ∨ c = 9 ∨ c = 10 := by omega
    rcases h4 with rfl | rfl | rfl
    · omega
    · omega
    · omega
  obtain ⟨L1, L2, L3, L4⟩ := C.lst (c := c) (by omega) h10
  have q71 : m c 1 = 1 ∨ (4 ≤ m c 1 ∧ m c 1 < m 0 0 ∧ ow (m c 1) = c) := by
    rcases L1.2.2.2.2 with h5 | h5
    · exact Or.inl h5.1
    · exact Or.inr ⟨h5.1.1, h5.1.2.1, L4 (by have := h5.1.1; omega)⟩
  have x0 : Ext m (mnew m kd ln) := mnew_ext (by omega)
  have e00 : mnew m kd ln 0 0 = m 0 0 + 1 := (mn_c (by omega)).1
  have old2 : ∀ a j : Int, a < m 0 0 → a ≠ 0 → M2 a j = m a j := fun a j a0 a1 => by
    rw [O.2 a j (by omega) a1 (by omega), mn_o (by omega) a1]
  have x2 : Ext m M2 := x0.tr O.1
  have M2h : m 0 0 + 1 ≤ M2 0 0 := by have := O.1.1; omega
  have LI2 : LI M2 c (lsq (e.1 c 2) (ad c)) := L1.fr x2 (fun j _ => old2 _ _ (by omega) (by omega)) fun hh j _ => old2 _ _ (by omega) (by omega)
  have e71 : M2 c 1 = m c 1 := old2 _ _ (by omega) (by omega)
  have hcl : (lsq (e.1 c 2) (ad c)).length < 1000000 := by rw [lst_len]; omega
  obtain ⟨M3, k1, k2, k3, k4, k5⟩ := li_add1 (v := m 0 0) (by omega) LI2 (by rw [old2 _ _ (by omega) (by decide)]; exact C.m1) hcl hob
  rw [e71] at k4 k5
  have new3 : ∀ a j : Int, m 0 0 ≤ a → a < M2 0 0 → M3 a j = M2 a j := fun a j a0 a1 => k4 a j a1 (by omega) (by omega) (Or.inl (by omega))
  have hk : fxk c 0 = true := by
    have h4 : c = 8 ∨ c = 9 ∨ c = 10 := by omega
    rcases h4 with rfl | rfl | rfl <;> decide +kernel
  have hF3 : Fix M3 := (fw_Jx4a65c_add_9ea2d F2 (fx_kF F2 hk) k1).fix
  have aO : ∀ c' i : Int, (c' ≠ c ∨ i ≠ e.1 c 2) → adN ad c (e.1 c 2) (m 0 0) c' i = ad c' i := fun c' i hh => if_neg (by omega)
  have wO : ∀ a, a < m 0 0 → (fun a => if a < m 0 0 then ow a else if a < M2 0 0 then 1000 * c + e.1 c 2 else c) a = ow a := fun a ha => if_pos ha
  have wp : (fun a => if a < m 0 0 then ow a else if a < M2 0 0 then 1000 * c + e.1 c 2 else c) (m 0 0) = 1000 * c + e.1 c 2 := by
    show (if _ then _ else _) = _
    rw [if_neg (by omega), if_pos (by omega)]
  have fdc : FD m M3 ow (fun o => o = c ∨ o = 1000 * c + e.1 c 2) := ⟨x2.tr k3, fun a j a0 a1 ha => by
    have h7 : a ≠ c := fun hh => ha (Or.inl (by rw [hh]; exact L3))
    have h71 : a ≠ m c 1 := fun hh => by
      rcases q71 with g | g
      · omega
      · exact ha (Or.inl (by rw [hh]; exact g.2.2))
    rw [k4 a j (by omega) (by omega) h7 (Or.inl h71)]
    exact old2 a j a1 (by omega)⟩
  have n7 := cn.1
  refine ⟨M3, k1, fun j => new3 _ _ (by omega) (by omega), fun a => if a < m 0 0 then ow a else if a < M2 0 0 then 1000 * c + e.1 c 2 else c, CE.chg (D := fun o => o = c ∨ o = 1000 * c + e.1 c 2) C ⟨fdc, hF3, ?_, wO, fun c' i hv => aO c' i ?_, fun a j ha => pNew_a (by omega) (by omega), fun _ _ => rfl, fun _ _ => rfl, fun _ => rfl, fun o hz => ?_⟩ ⟨?_, fun i i0 i1 => ?_, fun i i0 i1 => ?_, fun i i0 i1 => ?_, fun i i0 i1 => ?_, fun t ht => ?_⟩ hcap (by omega) ⟨fun o ho => RmX.of0 ⟨by omega, by omega, by omega, by omega⟩, C.rmh fdc (fun i _ _ => aO 72 i (Or.inl (by omega))) (fun i i0 i1 hh => by omega) (pNew_a (by omega) (by omega)) (fun i i0 i1 => pNew_a (by omega) (by omega)) (fun i i0 i1 => by rw [pNew_a (by omega) (by omega)]; exact Int.le_refl _) (by rw [pNew_a (by omega) (by omega)]; exact Int.le_refl _)⟩ fun o ho => ?_⟩
  · rw [k4 1 (-2) (by omega) (by decide) (by omega) (Or.inr rfl), old2 _ _ (by omega) (by decide)]
    exact C.m1
  · unfold LvA at hv
    have hT : isT c' → 48 ≤ c' ∧ c' ≤ 60 := isT_b
    rcases hv with hv | hv | hv | hv | hv | hv
    · omega
    · by_cases cc : c = 8
      · subst cc; omega
      · omega
    · by_cases cc : c = 9
      · subst cc; omega
      · omega
    · by_cases cc : c = 10
      · subst cc; omega
      · omega
    · have := hT hv.1; omega
    · omega
  · obtain ⟨i, i0, i1, i2, i3⟩ := hz
    have := cn.1
    refine ⟨by omega, i, i0, by rw [pNew_a (by omega) (by omega)]; exact i1, i2, ?_⟩
    unfold Dead
    rw [pNew_a (by omega) (by omega)]
    exact i3
  · rw [pNew_a (by omega) (by omega)]; omega
  · rw [pNew_a (by omega) (by omega)] at i1; omega
  · by_cases cc : c = 8
    · subst cc
      rw [pNew_n] at i1
      exact Or.inr (by omega)
    · rw [pNew_a (by omega) (by omega)] at i1; omega
  · by_cases cc : c = 9
    · subst cc
      rw [pNew_n] at i1
      exact Or.inr (by omega)
    · rw [pNew_a (by omega) (by omega)] at i1; omega
  · by_cases cc : c = 10
    · subst cc
      rw [pNew_n] at i1
      exact Or.inr (by omega)
    · rw [pNew_a (by omega) (by omega)] at i1; omega
  · have hb := isT_b ht
    refine ⟨fun _ => pNew_a (by omega) (by omega), fun i i0 i1 => ?_⟩
    rw [pNew_a (by omega) (by omega)] at i1
    omega
  · rcases ho with rfl | rfl
    · refine Kx.ofL (by omega) h10 ⟨?_, by rw [pNew_n]; omega, by rw [wO o (by omega)]; exact L3, fun hh => ?_⟩
      · rw [pNew_n, lst_app n0.1, lst_eq (g := ad o) fun i i0 i1 => aO o i (Or.inr (by omega)), show adN ad o (e.1 o 2) (m 0 0) o (e.1 o 2) = m 0 0 from if_pos ⟨rfl, rfl⟩]
        exact k2
      · rcases k5 with g | g
        · rw [g] at hh ⊢
          rcases q71 with z | z
          · exact absurd z hh
          · rw [wO _ z.2.1]; exact z.2.2
        · show (if _ then _ else _) = _
          rw [if_neg (by omega), if_neg (by omega)]
    · exact hK M3 _ (fun j => new3 _ _ (by omega) (by omega)) k3 wp
end EN7
