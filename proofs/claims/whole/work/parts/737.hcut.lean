/-! THE ENGINE: a history is cut; a history becomes the first of another. -/
section HCT
variable {m m' M2 m0 : MM} {ow ow' : Int → Int} {ad ad' ad1 : Int → Int → Int} {e e' e0 e1 e2 : ES} {D : Int → Prop} {a b c i j k o r v w h B t y z q lim c2 c3 p p1 p2 p3 N n : Int} {x : CX} {l : List Int} {E : Int → Ev} {s S : TS} {f : Int → Int}
theorem sh_lt (hr : RowIs m r l) (ha : Sh m r a) : a < m 0 0 := by
  obtain ⟨q, q0, q1, q2⟩ := ha
  have h6 := hr.1.2.2.2.2.2.1
  have h7 := hr.1.2.2.2.2.2.2.1
  rcases hr.1.2.2.2.2.2.2.2.2 q q0 (by omega) with ⟨_, h9⟩ | ⟨_, h9⟩
  · omega
  · rw [q2]; exact h9.1.2.1
theorem fz71 (i0 : 0 ≤ i) (hz : Fz e o) : Fz (eS (eHs e i E) (71000 + i) 1 n) o := by
  obtain ⟨i', i2, i3, i4, i5⟩ := hz
  by_cases hb : 71000 + i = 7
  · omega
  refine ⟨i', i2, ?_, i4, ?_⟩
  · show i' < (eS (eHs e i E) (71000 + i) 1 n).1 7 2
    rw [eS_a (by omega)]
    exact i3
  · unfold Dead at i5 ⊢
    by_cases h7 : 7000 + i' = 71000 + i
    · rw [← h7, eS_j (by decide)]
      exact i5
    · rw [eS_a h7]
      exact i5
def pCutH (i n : Int) (e : ES) : ES := eS e (71000 + i) 1 n
theorem CE.cutH (C : CE m ow ad e) (i0 : 0 ≤ i) (i1 : i < e.1 7 2) (hd : ¬ Dead e i) (n0 : 0 ≤ n) (n1 : n ≤ hN e i) : ∃ m', fm_X2_cut (ad 71 i) n m = some (0, m') ∧ CX1 m' ad (pCutH i n e) := by
  have hi : i < 30 := by have := C.cn.1; omega
  obtain ⟨⟨g1, g2⟩, g3, g4, g5, g6, g7⟩ := C.his i0 i1
  have hnop := (C.his i0 i1).nop
  have h163 := C.fix.1
  have hc := g3.1.1
  obtain ⟨l, hr, -⟩ := g3.1.2.2
  rw [g4] at hr
  obtain ⟨m', p1, p2, p3, p7, p4, p5, p6, p8⟩ := cut_h (n := n) C.fix g3 g1 (by rw [g4]; exact g5) (by rw [g4]; exact hnop.1) (by rw [g4]; exact hnop.2) n0 n1
  rw [g4] at p4 p5 p6
  have hop : ∀ a, Op m (ad 72 i) a → a < m 0 0 ∧ 4 ≤ a := fun a ha => ⟨(Fp.lt hr.1 (Op.fp hr.1 ha)).2, (Fp.lt hr.1 (Op.fp hr.1 ha)).1⟩
  have hFz : ∀ o', Fz e o' → Fz (pCutH i n e) o' := fun o' hz => by
    have h9 := fz71 (E := eH e i) (n := n) i0 hz
    obtain ⟨i', i2, i3, i4, i5⟩ := h9
    exact ⟨i', i2, i3, i4, i5⟩
  refine ⟨m', p1, fun a => if a < m 0 0 then ow a else 71000 + i, CE.one (o := 71000 + i) C ⟨p3, fun a j a0 a1 ha => p4 a j a1 (by omega) (fun hh => ha (g6 a hh)) (Or.inl fun hh => ha (by rw [hh]; exact g2))⟩ p7 ?_ (fun a ha => if_pos ha) (fun a j' ha => eS_a ha) (fun _ _ => rfl) (fun _ _ => rfl) (fun _ => rfl) (C.fzi hd) (fun i' i2 i3 i4 hD => by have := C.cn.1; omega) (fun c hc => eS_a (by simp only [isT] at hc; omega)) trivial (Kx.of71 ⟨⟨g1, ?_⟩, ?_, by rw [p8]; exact g4, g5, fun a ha => ?_, fun a ha => ?_⟩ i0 (by omega))⟩
  · rw [p4 1 (-2) (by omega) (by decide) (fun hh => by have := hop 1 hh; omega) (Or.inl (by omega))]
    exact C.m1
  · show (if ad 71 i < m 0 0 then ow (ad 71 i) else 71000 + i) = _
    rw [if_pos hc.2.1]
    exact g2
  · show HS m' (ad 71 i) ((eS e (71000 + i) 1 n).1 (71000 + i) 1) _
    rw [eS_e]
    exact p2
  · show (if a < m 0 0 then ow a else 71000 + i) = _
    rcases p5 a ha with hh | hh
    · rw [if_pos (hop a hh).1]
      exact g6 a hh
    · rw [if_neg (by omega)]
  · have hb := p6 a ha
    show Fz _ (if a < m 0 0 then ow a else 71000 + i)
    rw [if_pos (sh_lt hr hb)]
    exact hFz _ (g7 a hb)
/-- run k's history becomes the first n of run i's -/
def pFstH (k i n : Int) (e : ES) : ES := eS (eHs e k (eH e i)) (71000 + k) 1 n
theorem CE.firstH (C : CE m ow ad e) (i0 : 0 ≤ i) (i1 : i < e.1 7 2) (k0 : 0 ≤ k) (k1 : k < e.1 7 2) (hd : Dead e i) (hk : ¬ Dead e k) (hN' : hN e i < 268435456) (n0 : 0 ≤ n) (n1 : n ≤ hN e i) : ∃ m', fm_X2_becomeFirst (ad 71 k) (ad 71 i) n m = some (0, m') ∧ CX1 m' ad (pFstH k i n e) := by
  have hi : e.1 7 2 ≤ 30 := C.cn.1.2
  obtain ⟨⟨g1, g2⟩, g3, g4, g5, g6, g7⟩ := C.his i0 i1
  obtain ⟨⟨q1, q2⟩, q3, q4, q5, q6, q7⟩ := C.his k0 k1
  have h163 := C.fix.1
  have hc := q3.1.1
  obtain ⟨l, hr, -⟩ := g3.1.2.2
  obtain ⟨lk, hrk, -⟩ := q3.1.2.2
  rw [g4] at hr
  rw [q4] at hrk
  have hki : k ≠ i := fun hh => hk (hh ▸ hd)
  have nz := C.fzi hk
  -- the parts of the one that it becomes the first of
  have own : ∀ a, Fp m (ad 72 i) a → Fz e (ow a) := fun a ha => by
    rcases Fp.split hr.1 ha with hh | hh
    · rw [g6 a hh]
      exact ⟨i, i0, i1, rfl, hd⟩
    · exact g7 a hh
  have ok72 : ow (ad 72 k) = 71000 + k := q6 _ (Or.inl rfl)
  have nf1 : ¬ Fp m (ad 72 i) (ad 72 k) := fun hh => nz (by have := own _ hh; rw [ok72] at this; exact this)
  have nf2 : ¬ Fp m (ad 72 i) (ad 71 k) := fun hh => nz (by have := own _ hh; rw [q2] at this; exact this)
  obtain ⟨m', p1, p2, p3, p7, p4, p5, p6, p8⟩ := first_h (n := n) C.fix hc q1 (by rw [q4]; exact hrk.1.1) (by rw [q4]; exact q5) g3 hN' (by rw [g4, q4]; exact nf1) (by rw [g4]; exact nf2) n0 n1
  rw [q4] at p4 p5 p6
  rw [g4] at p6
  have hFz : ∀ o', Fz e o' → Fz (pFstH k i n e) o' := fun o' hz => fz71 k0 hz
  refine ⟨m', p1, fun a => if a < m 0 0 then ow a else 71000 + k, CE.one (o := 71000 + k) C ⟨p3, fun a j a0 a1 ha => p4 a j a1 (by omega) (fun hh => ha (by rw [hh]; exact ok72)) (Or.inl fun hh => ha (by rw [hh]; exact q2))⟩ p7 ?_ (fun a ha => if_pos ha) (fun a j' ha => eS_a ha) (fun _ _ => rfl) (fun j hj => eHs_a (by omega)) (fun _ => rfl) nz (fun i' i2 i3 i4 hD => by omega) (fun c hc => eS_a (by simp only [isT] at hc; omega)) trivial (Kx.of71 ⟨⟨q1, ?_⟩, ?_, by rw [p8]; exact q4, q5, fun a ha => ?_, fun a ha => ?_⟩ k0 (by omega))⟩
  · rw [p4 1 (-2) (by omega) (by decide) (by omega) (Or.inl (by omega))]
    exact C.m1
  · show (if ad 71 k < m 0 0 then ow (ad 71 k) else 71000 + k) = _
    rw [if_pos hc.2.1]
    exact q2
  · have hh : eH (pFstH k i n e) k = eH e i := eHs_e
    rw [hh]
    show HS m' (ad 71 k) ((eS (eHs e k (eH e i)) (71000 + k) 1 n).1 (71000 + k) 1) _
    rw [eS_e]
    exact p2
  · show (if a < m 0 0 then ow a else 71000 + k) = _
    rcases p5 a ha with hh | hh
    · rw [hh, if_pos hrk.1.1.2.1]
      exact ok72
    · rw [if_neg (by omega)]
  · have hb := p6 a ha
    show Fz _ (if a < m 0 0 then ow a else 71000 + k)
    rw [if_pos (Fp.lt hr.1 hb).2]
    exact hFz _ (own a hb)
end HCT
