/-! THE ENGINE: a history is cut; a history becomes the first of another. -/
section HCT
variable {m m' M2 m0 : MM} {ow ow' : Int → Int} {ad ad' ad1 : Int → Int → Int} {e e' e0 e1 e2 : ES} {D : Int → Prop} {a b c i j k o r v w h B t y z q lim c2 c3 p p1 p2 p3 N n : Int} {x : CX} {l : List Int} {E : Int → Ev} {s S : TS} {f : Int → Int}
theorem sh_lt (hr : RowIs m r l) (ha : Sh m r a) : a < m 0 0 := by
  obtain ⟨q, q0, q1, q2⟩ := ha
  have h6 := hr.1.2.2.2.2.2.1
  have h7 := hr.1.2.2.2.2.2.2.1
  rcases hr.1.2.2.2.2.2.2.2.2 q q0 (by omega) with ⟨_, h9⟩ | ⟨_, h9⟩
  · omega
  · rw [q2]; exact h9.1.2.1
theorem fz71 (i0 : 0 ≤ i) (hz : Fz e o) : Fz (eS (eHs e i E) (71000 + i) 1 n) o := by
  obtain ⟨i', i2, i3, i4, i5⟩ := hz
  by_cases hb : 71000 + i = 7
  · omega
  refine ⟨i', i2, ?_, i4, ?_⟩
  · show i' < (eS (eHs e i E) (71000 + i) 1 n).1 7 2
    rw [eS_a (by omega)]
    exact i3
  · unfold Dead at i5 ⊢
    by_cases h7 : 7000 + i' = 71000 + i
    · rw [← h7, eS_j (by decide)]
      exact i5
    · rw [eS_a h7]
      exact i5
def pCutH (i n : Int) (e : ES) : ES := eS e (71000 + i) 1 n
theorem CE.cutH9 (C : CE m ow ad e) (i0 : 0 ≤ i) (i1 : i < e.1 7 2) (hd : ¬ Dead e i) (n0 : 0 ≤ n) (n1 : n ≤ hN e i) : ∃ m', fm_X2_cut (ad 71 i) n m = some (0, m') ∧ m' (ad 7 i) 9 = e.1 (7000 + i) 9 ∧ CX1 (mset m' (ad 7 i) 9 (e.1 (7000 + i) 9 + 1)) ad (eS (pCutH i n e) (7000 + i) 9 (e.1 (7000 + i) 9 + 1)) := by
  have n7 := C.cn.1
  have hi : i < 30 := by omega
  obtain ⟨⟨g1, g2⟩, g3, g4, g5, g6, g7⟩ := C.his i0 i1
  obtain ⟨u1, u2, u3, u4, u5, u6, u7, u8, u9⟩ := C.run i0 i1
  have hnop := (C.his i0 i1).nop
  have h163 := C.fix.1
  have hc := g3.1.1
  obtain ⟨l, hr, -⟩ := g3.1.2.2
  rw [g4] at hr
  obtain ⟨m', p1, p2, p3, p7, p4, p5, p6, p8, p9, p10⟩ := cut_h (n := n) C.fix g3 g1 (by rw [g4]; exact g5) (by rw [g4]; exact hnop.1) (by rw [g4]; exact hnop.2) n0 n1
  rw [g4] at p4 p5 p6 p9 p10
  have hop : ∀ a, Op m (ad 72 i) a → a < m 0 0 ∧ 4 ≤ a := fun a ha => ⟨(Fp.lt hr.1 (Op.fp hr.1 ha)).2, (Fp.lt hr.1 (Op.fp hr.1 ha)).1⟩
  have ne71 : ad 7 i ≠ ad 71 i := fun hh => by
    rw [hh, g2] at u3
    omega
  have nop7 : ¬ Op m (ad 72 i) (ad 7 i) := fun hh => by
    have := g6 _ hh
    omega
  have e7 : ∀ j : Int, m' (ad 7 i) j = m (ad 7 i) j := fun j => p4 (ad 7 i) j u1.2.1 (by have := u1.1; omega) nop7 (Or.inl ne71)
  obtain ⟨l2, hr2, -⟩ := p2.1.2.2
  rw [p8, g4] at hr2
  have nfp : ¬ Fp m' (ad 72 i) (ad 7 i) := fun hh => by
    rcases Fp.split hr2.1 hh with k | k
    · rcases p5 _ k with k2 | k2
      · exact nop7 k2
      · have := u1.2.1
        omega
    · obtain ⟨j, j0, j1, j2, -⟩ := g7 _ (p6 _ k)
      omega
  have ok7 := p3.ok u1
  generalize hv : e.1 (7000 + i) 9 + 1 = v
  have xM : Ext m' (mset m' (ad 7 i) 9 v) := mset_ext ok7.1 (by decide)
  have fpM : ∀ a j : Int, Fp m' (ad 72 i) a → 0 ≤ j → mset m' (ad 7 i) 9 v a j = m' a j := fun a j ha _ => ms_a fun hh => nfp (hh ▸ ha)
  have n71 : ∀ j, mset m' (ad 7 i) 9 v (ad 71 i) j = m' (ad 71 i) j := fun j => ms_a (Ne.symm ne71)
  have hsM : HS (mset m' (ad 7 i) 9 v) (ad 71 i) n (eH e i) := HS.fr p2 xM (fun j _ => n71 j) (by rw [p8, g4]; exact fpM)
  obtain ⟨opM, shM⟩ := Op.fr hr2 xM fpM
  have smM : SmT m' (mset m' (ad 7 i) 9 v) (ad 72 i) := SmT.fr hr2 xM fpM
  have fd : FD m (mset m' (ad 7 i) 9 v) ow (fun o => o = 71000 + i ∨ o = 7000 + i) := ⟨p3.tr xM, fun a j a0 a1 ha => by
    rw [ms_a fun hh => ha (Or.inr (by rw [hh]; exact u3))]
    exact p4 a j a1 (by omega) (fun hh => ha (Or.inl (g6 a hh))) (Or.inl fun hh => ha (Or.inl (by rw [hh]; exact g2)))⟩
  have ea : ∀ a u : Int, a ≠ 71000 + i → (a ≠ 7000 + i ∨ u ≠ 9) → (eS (pCutH i n e) (7000 + i) 9 v).1 a u = e.1 a u := fun a u h1 h2 => by
    by_cases c : a = 7000 + i
    · subst c
      rw [eS_j (by omega)]
      exact eS_a h1
    · rw [eS_a c]
      exact eS_a h1
  have eN : (eS (pCutH i n e) (7000 + i) 9 v).1 (71000 + i) 1 = n := (eS_a (by omega)).trans eS_e
  have hFz : ∀ o', Fz e o' → ¬ (o' = 71000 + i ∨ o' = 7000 + i) ∧ Fz (eS (pCutH i n e) (7000 + i) 9 v) o' := fun o' hz => by
    obtain ⟨i', i2, i3, i4, i5⟩ := hz
    refine ⟨fun hh => ?_, i', i2, ?_, i4, ?_⟩
    · rcases hh with hh | hh
      · have : i' = i := by omega
        exact hd (this ▸ i5)
      · omega
    · rw [ea 7 2 (by omega) (by omega)]
      exact i3
    · unfold Dead at i5 ⊢
      rw [ea _ _ (by omega) (Or.inr (by decide))]
      exact i5
  have hcn : CN (eS (pCutH i n e) (7000 + i) 9 v) := by
    obtain ⟨c1, c2, c3, c4, c5⟩ := C.cn
    refine ⟨by rw [ea 7 2 (by omega) (by omega)]; exact c1, by rw [ea 8 2 (by omega) (by omega)]; exact c2, by rw [ea 9 2 (by omega) (by omega)]; exact c3, by rw [ea 10 2 (by omega) (by omega)]; exact c4, fun t ht => ?_⟩
    have := isT_b ht
    rw [ea (t + 1) 2 (by omega) (by omega)]
    exact c5 t ht
  have hrm : RMh (mset m' (ad 7 i) 9 v) ad (eS (pCutH i n e) (7000 + i) 9 v) := by
    obtain ⟨q, b, k1, k2, k3⟩ := C.hst
    refine ⟨q, b, k1, by rw [ea 3 0 (by omega) (by omega)]; exact k2, fun j j0 j1 j2 => ?_⟩
    rw [ea 7 2 (by omega) (by omega)] at j1
    by_cases c : j = i
    · subst c
      have h9' : (eS (pCutH j n e) (7000 + j) 9 v).1 (7000 + j) 9 = v := eS_e
      rw [eN, h9']
      obtain ⟨L, l1, l2, l3, l4⟩ := k3 j j0 j1 j2
      have n1' : n ≤ e.1 (71000 + j) 1 := n1
      refine ⟨m 0 0 :: L, smM.hp hr2.1.2.2.2.2.1 fun a ha => ?_, ?_, by omega, by rw [smM.len, p10]; exact l4⟩
      · rcases p9 a ha with h | h
        · exact List.mem_cons_of_mem _ (l1 a h)
        · rw [h]
          exact List.mem_cons_self
      · rw [List.length_cons]
        unfold md at *
        omega
    · rw [ea (71000 + j) 1 (by omega) (by omega), ea (7000 + j) 9 (by omega) (by omega)]
      have h := C.smh fd j0 j1 j2 (fun hh => by rcases hh with hh | hh <;> omega)
      exact (k3 j j0 j1 j2).sm h.1 h.2 (Int.le_refl _)
  refine ⟨m', p1, by rw [e7]; exact u4 9 (by decide) (by decide), fun a => if a < m 0 0 then ow a else 71000 + i, CE.chg (D := fun o => o = 71000 + i ∨ o = 7000 + i) C ⟨fd, fx_new p7 u2 (by decide), ?_, fun a ha => if_pos ha, fun _ _ _ => rfl, fun a u ha => ea a u (fun hh => ha (Or.inl hh)) (Or.inl fun hh => ha (Or.inr hh)), fun _ _ => rfl, fun _ _ => rfl, fun _ => rfl, hFz⟩ ⟨Int.le_of_eq (ea 7 2 (by omega) (by omega)).symm, fun j j0 j1 => ?_, fun j j0 j1 => ?_, fun j j0 j1 => ?_, fun j j0 j1 => ?_, fun t ht => ⟨fun _ => ?_, fun j j0 j1 => ?_⟩⟩ hcn (fun hh => by rcases hh with hh | hh <;> omega) ⟨fun o ho => ?_, hrm⟩ fun o ho => ?_⟩
  · rw [ms_a (by omega), p4 1 (-2) (by omega) (by decide) (fun hh => by have := hop 1 hh; omega) (Or.inl (by omega))]
    exact C.m1
  · rw [ea 7 2 (by omega) (by omega)] at j1
    omega
  · rw [ea 8 2 (by omega) (by omega)] at j1
    omega
  · rw [ea 9 2 (by omega) (by omega)] at j1
    omega
  · rw [ea 10 2 (by omega) (by omega)] at j1
    omega
  · have := isT_b ht
    exact ea (t + 1) 2 (by omega) (by omega)
  · have := isT_b ht
    rw [ea (t + 1) 2 (by omega) (by omega)] at j1
    omega
  · rcases ho with rfl | rfl
    · exact RmX.of71 i0 (by omega)
    · exact RmX.of0 ⟨by omega, by omega, by omega, by omega⟩
  · rcases ho with rfl | rfl
    · refine Kx.of71 ⟨⟨g1, ?_⟩, ?_, by rw [n71, p8]; exact g4, g5, fun a ha => ?_, fun a ha => ?_⟩ i0 (by omega)
      · show (if ad 71 i < m 0 0 then ow (ad 71 i) else 71000 + i) = _
        rw [if_pos hc.2.1]
        exact g2
      · rw [eN]
        exact hsM
      · show (if a < m 0 0 then ow a else 71000 + i) = _
        rcases p5 a ((opM a).mp ha) with hh | hh
        · rw [if_pos (hop a hh).1]
          exact g6 a hh
        · rw [if_neg (by omega)]
      · have hb := p6 a ((shM a).mp ha)
        show Fz _ (if a < m 0 0 then ow a else 71000 + i)
        rw [if_pos (sh_lt hr hb)]
        exact (hFz _ (g7 a hb)).2
    · refine Kx.of7 ⟨(p3.tr xM).ok u1, u2, ?_, fun j j0 j1 => ?_, ?_, ?_, ?_, ?_, ?_⟩ i0 (by omega)
      · show (if ad 7 i < m 0 0 then ow (ad 7 i) else 71000 + i) = _
        rw [if_pos u1.2.1]
        exact u3
      · have h1 : (pCutH i n e).1 (7000 + i) j = e.1 (7000 + i) j := eS_a (by omega)
        rw [ms_i, eS_i, e7, h1, u4 j j0 j1]
      · rw [ea _ _ (by omega) (Or.inr (by decide))]
        exact u5
      · rw [ms_j (by decide), e7]
        exact u6
      · rw [ms_j (by decide), e7]
        exact u7
      · rw [ms_j (by decide), e7]
        exact u8
      · rw [ms_j (by decide), e7]
        exact u9
/-- run k's history becomes the first n of run i's -/
def pFstH (k i n : Int) (e : ES) : ES := eS (eHs e k (eH e i)) (71000 + k) 1 n
theorem CE.firstH (C : CE m ow ad e) (i0 : 0 ≤ i) (i1 : i < e.1 7 2) (k0 : 0 ≤ k) (k1 : k < e.1 7 2) (hd : Dead e i) (hk : ¬ Dead e k) (hN' : hN e i < 268435456) (n0 : 0 ≤ n) (n1 : n ≤ hN e i) (hb : hN e i ≤ 391000) (h9 : 0 ≤ e.1 (7000 + k) 9) : ∃ m', fm_X2_becomeFirst (ad 71 k) (ad 71 i) n m = some (0, m') ∧ CX1 m' ad (pFstH k i n e) := by
  have hi : e.1 7 2 ≤ 30 := C.cn.1.2
  obtain ⟨⟨g1, g2⟩, g3, g4, g5, g6, g7⟩ := C.his i0 i1
  obtain ⟨⟨q1, q2⟩, q3, q4, q5, q6, q7⟩ := C.his k0 k1
  have h163 := C.fix.1
  have hc := q3.1.1
  obtain ⟨l, hr, -⟩ := g3.1.2.2
  obtain ⟨lk, hrk, -⟩ := q3.1.2.2
  rw [g4] at hr
  rw [q4] at hrk
  have hki : k ≠ i := fun hh => hk (hh ▸ hd)
  have nz := C.fzi hk
  -- the parts of the one that it becomes the first of
  have own : ∀ a, Fp m (ad 72 i) a → Fz e (ow a) := fun a ha => by
    rcases Fp.split hr.1 ha with hh | hh
    · rw [g6 a hh]
      exact ⟨i, i0, i1, rfl, hd⟩
    · exact g7 a hh
  have ok72 : ow (ad 72 k) = 71000 + k := q6 _ (Or.inl rfl)
  have nf1 : ¬ Fp m (ad 72 i) (ad 72 k) := fun hh => nz (by have := own _ hh; rw [ok72] at this; exact this)
  have nf2 : ¬ Fp m (ad 72 i) (ad 71 k) := fun hh => nz (by have := own _ hh; rw [q2] at this; exact this)
  obtain ⟨m', p1, p2, p3, p7, p4, p5, p6, p8, p9, p10⟩ := first_h (n := n) C.fix hc q1 (by rw [q4]; exact hrk.1.1) (by rw [q4]; exact q5) g3 hN' (by rw [g4, q4]; exact nf1) (by rw [g4]; exact nf2) n0 n1
  rw [q4] at p4 p5 p6 p9 p10
  rw [g4] at p6
  have hFz : ∀ o', Fz e o' → Fz (pFstH k i n e) o' := fun o' hz => fz71 k0 hz
  have fd : FD m m' ow (fun a => a = 71000 + k) := ⟨p3, fun a j a0 a1 ha => p4 a j a1 (by omega) (fun hh => ha (by rw [hh]; exact ok72)) (Or.inl fun hh => ha (by rw [hh]; exact q2))⟩
  have hrm : RMh m' ad (pFstH k i n e) := by
    obtain ⟨q, b, k1', k2', k3'⟩ := C.hst
    have ea : ∀ a u : Int, a ≠ 71000 + k → (pFstH k i n e).1 a u = e.1 a u := fun a u h => eS_a h
    refine ⟨q, fun j => if j = k then n else b j, fun j => ⟨(k1' j).1, ?_⟩, by rw [ea 3 0 (by omega)]; exact k2', fun j j0 j1 j2 => ?_⟩
    · have := k1' j
      show 0 ≤ (if j = k then n else b j) ∧ (if j = k then n else b j) ≤ 391000
      split <;> omega
    rw [ea 7 2 (by omega)] at j1
    rw [ea (7000 + j) 9 (by omega)]
    show RHi m' (ad 72 j) ((pFstH k i n e).1 (71000 + j) 1) (q j) (if j = k then n else b j) (e.1 (7000 + j) 9)
    by_cases c : j = k
    · subst c
      have eN : (pFstH j i n e).1 (71000 + j) 1 = n := eS_e
      rw [eN, if_pos rfl]
      obtain ⟨L, l1, l2⟩ := p9
      have := (k1' j).1
      refine ⟨L, l1, ?_, by omega, by omega⟩
      unfold md
      omega
    · rw [if_neg c, ea (71000 + j) 1 (by omega)]
      have h := C.smh fd j0 j1 j2 (fun hh => by omega)
      exact (k3' j j0 j1 j2).sm h.1 h.2 (Int.le_refl _)
  refine ⟨m', p1, fun a => if a < m 0 0 then ow a else 71000 + k, CE.one (o := 71000 + k) C fd p7 ?_ (fun a ha => if_pos ha) (fun a j' ha => eS_a ha) (fun _ _ => rfl) (fun j hj => eHs_a (by omega)) (fun _ => rfl) nz (fun i' i2 i3 i4 hD => by omega) (fun c hc => eS_a (by simp only [isT] at hc; omega)) (by omega) ⟨RmX.of71 k0 (by omega), hrm⟩ (Kx.of71 ⟨⟨q1, ?_⟩, ?_, by rw [p8]; exact q4, q5, fun a ha => ?_, fun a ha => ?_⟩ k0 (by omega))⟩
  · rw [p4 1 (-2) (by omega) (by decide) (by omega) (Or.inl (by omega))]
    exact C.m1
  · show (if ad 71 k < m 0 0 then ow (ad 71 k) else 71000 + k) = _
    rw [if_pos hc.2.1]
    exact q2
  · have hh : eH (pFstH k i n e) k = eH e i := eHs_e
    rw [hh]
    show HS m' (ad 71 k) ((eS (eHs e k (eH e i)) (71000 + k) 1 n).1 (71000 + k) 1) _
    rw [eS_e]
    exact p2
  · show (if a < m 0 0 then ow a else 71000 + k) = _
    rcases p5 a ha with hh | hh
    · rw [hh, if_pos hrk.1.1.2.1]
      exact ok72
    · rw [if_neg (by omega)]
  · have hb := p6 a ha
    show Fz _ (if a < m 0 0 then ow a else 71000 + k)
    rw [if_pos (Fp.lt hr.1 hb).2]
    exact hFz _ (own a hb)
end HCT
