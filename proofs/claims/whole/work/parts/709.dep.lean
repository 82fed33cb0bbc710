/-! THE ENGINE: a draft becomes a version; the machine has followed. -/
section EN9
variable {m m' M2 : MM} {ow ow' : Int → Int} {ad ad' : Int → Int → Int} {e e' : ES} {D : Int → Prop} {a b c i j k o r v n h N B t x y z p1 p2 p3 p4 p5 kd ln : Int} {l : List Int} {E : Int → Ev} {s : TS} {f : Int → Int}
def pDep (t : Int) (e : ES) : ES := eS (eLs e (1000 * t + (e.1 (t + 1) 2 + 1)) []) (t + 1) 2 (e.1 (t + 1) 2 + 1)
theorem pDep_a (h : a ≠ t + 1) : (pDep t e).1 a j = e.1 a j := eS_a h
theorem pDep_n : (pDep t e).1 (t + 1) 2 = e.1 (t + 1) 2 + 1 := eS_e
theorem ty0 (hF : Fix m) (ht : isT t) : m t 0 = t + 1 := by
  have key : ∀ q ∈ fixk, (q.1 = 48 ∨ q.1 = 52 ∨ q.1 = 56 ∨ q.1 = 60) → (0, q.1 + 1) ∈ q.2.2.2 := by decide +kernel
  have k2 : ∀ t ∈ [(48 : Int), 52, 56, 60], ∃ q ∈ fixk, q.1 = t := by decide +kernel
  obtain ⟨q, q1, q2⟩ := k2 t (by unfold isT at ht; simp only [List.mem_cons, List.not_mem_nil, or_false]; omega)
  have h1 := (hF.2 q q1).2.2 (0, q.1 + 1) (key q q1 (by unfold isT at ht; omega))
  rw [q2] at h1
  exact h1
theorem CE.deploy (C : CE m ow ad e) (ht : isT t) (hc : e.1 (t + 1) 2 < 4) : ∃ m' ad', fm_X10_draftBecomesVersion t m = some (0, m') ∧ CX1 m' ad' (pDep t e) ∧ AG e ad ad' := by
  have h163 := C.fix.1
  have hb := isT_b ht
  obtain ⟨n0, n4⟩ := C.cn.2.2.2.2 t ht
  obtain ⟨L1, L2, L3, L4⟩ := C.ver ht
  obtain ⟨T1, T2, T3⟩ := C.typ ht
  have hdr := (C.row (c := t) (i := e.1 (t + 1) 2) (Or.inr (Or.inl ⟨ht, n0, Int.le_refl _, by omega⟩))).1.1.1
  have q71 : m (t + 1) 1 = 1 ∨ (4 ≤ m (t + 1) 1 ∧ m (t + 1) 1 < m 0 0 ∧ ow (m (t + 1) 1) = t + 1) := by
    rcases L1.2.2.2.2 with h5 | h5
    · exact Or.inl h5.1
    · exact Or.inr ⟨h5.1.1, h5.1.2.1, L4 (by have := h5.1.1; omega)⟩
  have hcl : (lsq (e.1 (t + 1) 2) (ad t)).length < 1000000 := by rw [lst_len]; omega
  obtain ⟨m1, k1, k2, k3, k4, k5⟩ := li_add1 (v := ad t (e.1 (t + 1) 2)) (by omega) L1 C.m1 hcl ⟨hdr.1, hdr.2.1, Or.inr (Or.inl hdr.2.2)⟩
  have hk : fxk (t + 1) 0 = true := by
    rcases ht with rfl | rfl | rfl | rfl <;> decide +kernel
  have okl : okc m (t + 1) 0 := fx_kF C.fix hk
  have F1 : Fix m1 := (fw_Jx4a65c_add_9ea2d C.fix okl k1).fix
  obtain ⟨M2, g1, g2, g3, g4, g5, g6, g7, g8, g9⟩ := row_new F1
  have m1h : m 0 0 ≤ m1 0 0 := k3.1
  have old2 : ∀ a j : Int, a < m 0 0 → a ≠ 0 → a ≠ t + 1 → (a ≠ m (t + 1) 1 ∨ a = 1) → M2 a j = m a j := fun a j a0 a1 a2 a3 => by
    rw [g5 a j (by omega) a1, k4 a j a0 a1 a2 a3]
  have x2 : Ext M2 (mset M2 t 1 (m1 0 0)) := mset_ext (by omega) (by decide)
  have hfx : Fix (mset M2 t 1 (m1 0 0)) := by
    have key : ∀ q ∈ fixk, (48 ≤ q.1 ∧ q.1 ≤ 60) → ∀ p ∈ q.2.2.2, p.1 = 0 := by decide +kernel
    exact fx_z g3 (by omega) (by omega) fun q h1 h2 p h3 h4 => by have := key q h1 (by omega) p h3; omega
  have hfp : ∀ a, Fp M2 (m1 0 0) a → m1 0 0 ≤ a := fun a ha => (Fp.split g2.1 ha).elim (g6 a) fun hh => absurd hh (g7 a)
  have r4 := g2.fr x2 fun a j ha _ => ms_a (v := m1 0 0) (j := 1) (i := j) fun hh => by have := hfp a ha; omega
  have aO : ∀ c' i : Int, (c' ≠ t ∨ i ≠ e.1 (t + 1) 2 + 1) → adN ad t (e.1 (t + 1) 2 + 1) (m1 0 0) c' i = ad c' i := fun c' i hh => if_neg (by omega)
  have aE : adN ad t (e.1 (t + 1) 2 + 1) (m1 0 0) t (e.1 (t + 1) 2 + 1) = m1 0 0 := if_pos ⟨rfl, rfl⟩
  have wO : ∀ a, a < m 0 0 → (fun a => if a < m 0 0 then ow a else if a < m1 0 0 then t + 1 else 1000 * t + (e.1 (t + 1) 2 + 1)) a = ow a := fun a ha => if_pos ha
  have hAG : AG e ad (adN ad t (e.1 (t + 1) 2 + 1) (m1 0 0)) := fun c' i hv => aO c' i (by
    unfold LvA at hv
    rcases hv with hv | hv | hv | hv | hv | hv
    · omega
    · omega
    · omega
    · omega
    · by_cases cc : c' = t
      · subst cc; omega
      · omega
    · omega)
  have fdc : FD m (mset M2 t 1 (m1 0 0)) ow (fun o => o = t ∨ o = t + 1 ∨ o = 1000 * t + (e.1 (t + 1) 2 + 1)) := ⟨(k3.tr g4).tr x2, fun a j a0 a1 ha => by
    have h1 : a ≠ t := fun hh => ha (Or.inl (by rw [hh]; exact T1))
    have h7 : a ≠ t + 1 := fun hh => ha (Or.inr (Or.inl (by rw [hh]; exact L3)))
    have h71 : a ≠ m (t + 1) 1 := fun hh => by
      rcases q71 with g | g
      · omega
      · exact ha (Or.inr (Or.inl (by rw [hh]; exact g.2.2)))
    rw [ms_a h1]
    exact old2 a j a1 (by omega) h7 (Or.inl h71)⟩
  have n7 := C.cn.1
  have hcapD : Cap (mset M2 t 1 (m1 0 0)) (m1 0 0) 1 := by
    have F2 := (fr_new F1 rfl g1).1
    have sT : SmT M2 (mset M2 t 1 (m1 0 0)) (m1 0 0) := SmT.fr g2 x2 fun a j ha _ => ms_a fun hh => by have := hfp a ha; omega
    exact sT.cap (F2.cap (Int.le_refl 1))
  refine ⟨mset M2 t 1 (m1 0 0), adN ad t (e.1 (t + 1) 2 + 1) (m1 0 0), ?_, ⟨fun a => if a < m 0 0 then ow a else if a < m1 0 0 then t + 1 else 1000 * t + (e.1 (t + 1) 2 + 1), CE.chg (D := fun o => o = t ∨ o = t + 1 ∨ o = 1000 * t + (e.1 (t + 1) 2 + 1)) C ⟨fdc, hfx, ?_, wO, hAG, fun a j ha => pDep_a (by omega), fun c hc => eLs_a (by omega), fun _ _ => rfl, fun _ => rfl, fun o hz => ?_⟩ ⟨?_, fun i i0 i1 => ?_, fun i i0 i1 => ?_, fun i i0 i1 => ?_, fun i i0 i1 => ?_, fun t' ht' => ?_⟩ ?_ (by omega) ⟨fun o ho => ?_, C.rmh fdc (fun i _ _ => aO 72 i (Or.inl (by omega))) (fun i i0 i1 hh => by omega) (pDep_a (by omega)) (fun i i0 i1 => pDep_a (by omega)) (fun i i0 i1 => by rw [pDep_a (by omega)]; exact Int.le_refl _) (by rw [pDep_a (by omega)]; exact Int.le_refl _)⟩ fun o ho => ?_⟩, hAG⟩
  · unfold fm_X10_draftBecomesVersion
    simp only [lx_p]
    rw [ty0 C.fix ht, T2, gd_t okl, bd_t k1, nw_t, bd_t g1, up_t]
  · rw [ms_a (by omega), old2 1 (-2) (by omega) (by decide) (by omega) (Or.inr rfl)]
    exact C.m1
  · obtain ⟨i, i0, i1, i2, i3⟩ := hz
    have := C.cn.1
    refine ⟨by omega, i, i0, by rw [pDep_a (by omega)]; exact i1, i2, ?_⟩
    unfold Dead
    rw [pDep_a (by omega)]
    exact i3
  · rw [pDep_a (by omega)]; omega
  · rw [pDep_a (by omega)] at i1; omega
  · rw [pDep_a (by omega)] at i1; omega
  · rw [pDep_a (by omega)] at i1; omega
  · rw [pDep_a (by omega)] at i1; omega
  · have hb' := isT_b ht'
    by_cases cc : t' = t
    · subst cc
      refine ⟨fun hh => absurd (Or.inl rfl) hh, fun i i0 i1 => ?_⟩
      rw [pDep_n] at i1
      exact Or.inr (Or.inr (by omega))
    · have hne : t' + 1 ≠ t + 1 := by omega
      refine ⟨fun _ => pDep_a hne, fun i i0 i1 => ?_⟩
      rw [pDep_a hne] at i1
      omega
  · obtain ⟨c1, c2, c3, c4, c5⟩ := C.cn
    refine ⟨by rw [pDep_a (by omega)]; exact c1, by rw [pDep_a (by omega)]; exact c2, by rw [pDep_a (by omega)]; exact c3, by rw [pDep_a (by omega)]; exact c4, fun t' ht' => ?_⟩
    by_cases cc : t' = t
    · subst cc
      rw [pDep_n]; omega
    · rw [pDep_a (by omega)]
      exact c5 t' ht'
  · rcases ho with rfl | rfl | rfl
    · exact RmX.of0 ⟨by omega, by omega, by omega, by omega⟩
    · exact RmX.of0 ⟨by omega, by omega, by omega, by omega⟩
    · exact RmX.ofR (c := t) (i := e.1 (t + 1) 2 + 1) (Or.inr (Or.inl ⟨ht, by omega, by rw [pDep_n]; omega, by omega⟩)) (by rw [aE, cpK_t ht]; exact hcapD)
  · rcases ho with rfl | rfl | rfl
    · refine Kx.ofT ht ⟨by rw [wO o (by omega)]; exact T1, by rw [ms_e, pDep_n, aE], ?_⟩
      rw [ms_j (by decide), pDep_a (by omega), old2 o 2 (by omega) (by omega) (by omega) (by
        rcases q71 with g | g
        · exact Or.inl (by omega)
        · exact Or.inl fun hh => by rw [← hh, T1] at g; omega)]
      exact T3
    · refine Kx.ofV ht ⟨?_, by rw [pDep_n]; omega, by rw [wO (t + 1) (by omega)]; exact L3, fun hh => ?_⟩
      · rw [pDep_n, lst_app n0, aO t _ (Or.inr (by omega)), lst_eq (g := ad t) fun i i0 i1 => aO t i (Or.inr (by omega))]
        have u1 : LI M2 (t + 1) (lsq (e.1 (t + 1) 2) (ad t) ++ [ad t (e.1 (t + 1) 2)]) := k2.fr g4 (fun j _ => g5 _ _ (by have := k2.1.2; omega) (by omega)) fun hn j _ => by
          rcases k2.2.2.2.2 with z | z
          · exact absurd z.1 hn
          · exact g5 _ _ z.1.2.1 (by have := z.1.1; omega)
        refine u1.fr x2 (fun j _ => ms_a (by omega)) fun hn j _ => ms_a fun hh => ?_
        rcases u1.2.2.2.2 with z | z
        · exact hn z.1
        · have h3 := z.1.2.2
          rw [hh] at h3
          have hk2 : fxk t 11 = true := by
            rcases ht with rfl | rfl | rfl | rfl <;> decide +kernel
          have := (fx_kF g3 hk2).2.2
          omega
      · have e1 : mset M2 t 1 (m1 0 0) (t + 1) 1 = m1 (t + 1) 1 := by rw [ms_a (by omega), g5 _ _ (by have := k2.1.2; omega) (by omega)]
        rw [e1] at hh ⊢
        rcases k5 with g | g
        · rw [g] at hh ⊢
          rcases q71 with z | z
          · exact absurd z hh
          · rw [wO _ z.2.1]; exact z.2.2
        · have : m1 (t + 1) 1 < m1 0 0 := by
            rcases k2.2.2.2.2 with z | z
            · omega
            · exact z.1.2.1
          show (if _ then _ else _) = _
          rw [if_neg (by omega), if_pos (by omega)]
    · refine Kx.ofR (c := t) (i := e.1 (t + 1) 2 + 1) (Or.inr (Or.inl ⟨ht, by omega, by rw [pDep_n]; omega, by omega⟩)) ⟨?_, fun a ha => ?_, ?_⟩
      · rw [aE]
        have : eL (pDep t e) (1000 * t + (e.1 (t + 1) 2 + 1)) = [] := eLs_e
        rw [this]
        exact r4.1
      · rw [aE] at ha
        have := hfp a ((r4.2 a).mp ha)
        show (if _ then _ else _) = _
        rw [if_neg (by omega), if_neg (by omega)]
      · rw [aE, ms_a (by omega)]
        exact g9
/-- the machine's state behind a telling; k: the run whose kept state it is -/
def eM (e : ES) (k : Int) (s : TS) (B : Int) : ES := (mset e.1 16 7 k, e.2.1, e.2.2.1, s, B)
theorem CE.mach (C : CE m ow ad e) (hC : CR m' m' s B) (hP : PF m m') (h7 : m' 16 7 = if k < 0 then 0 else ad 7 k) (hk : k < e.1 7 2) (hM : ∀ r, Mrow r → Cap m' r (mcK r)) : CX1 m' ad (eM e k s B) := by
  have h163 := C.fix.1
  obtain ⟨g1, g2, g3, g4⟩ := C.mac
  have hn : ∀ a, 1 ≤ a → ow a ≠ 16 → ¬ Mfp m a := fun a _ ha hh => ha (g2 a hh)
  have n1 : ¬ Mfp m 1 := fun hh => by have := (Mfp.lt g1 hh).1; omega
  have ee : ∀ a j, a ≠ 16 → (eM e k s B).1 a j = e.1 a j := fun a j ha => ms_a ha
  have fd : FD m m' ow (fun a => a = 16) := ⟨hP.1, fun a j a0 a1 ha => hP.2.1 a j (by omega) a1 (hn a (by omega) ha)⟩
  refine ⟨fun a => if a < m 0 0 then ow a else 16, CE.one (o := 16) C fd hC.1 (by rw [hP.2.1 1 (-2) (by decide) (by omega) n1]; exact C.m1) (fun a ha => if_pos ha) ee (fun _ _ => rfl) (fun _ _ => rfl) (fun hh => absurd rfl hh) (C.nfz (by omega)) (fun i' i2 i3 i4 hD => by omega) (fun c hc => ee _ _ (by simp only [isT] at hc; omega)) (by decide) ⟨⟨fun c i hv ho => by (simp only [LvR] at hv; omega), fun _ => hM⟩, C.rmh fd (fun _ _ _ => rfl) (fun i i0 i1 hh => by omega) (ee _ _ (by decide)) (fun i i0 i1 => ee _ _ (by omega)) (fun i i0 i1 => by rw [ee _ _ (by omega)]; exact Int.le_refl _) (by rw [ee _ _ (by decide)]; exact Int.le_refl _)⟩ (Kx.of16 ⟨hC, fun a ha => ?_, ?_, ?_⟩)⟩
  · rcases hP.2.2 a ha with hh | hh
    · show (if a < m 0 0 then ow a else 16) = 16
      rw [if_pos (Mfp.lt g1 hh).2]
      exact g2 a hh
    · show (if a < m 0 0 then ow a else 16) = 16
      rw [if_neg (by omega)]
  · show m' 16 7 = if mset e.1 16 7 k 16 7 < 0 then 0 else ad 7 (mset e.1 16 7 k 16 7)
    rw [ms_e]
    exact h7
  · show mset e.1 16 7 k 16 7 < mset e.1 16 7 k 7 2
    rw [ms_e, ms_a (by decide)]
    exact hk
end EN9
