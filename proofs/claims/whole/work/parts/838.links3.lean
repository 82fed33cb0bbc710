/-! LINKS: another run; what ends; a run is closed. -/
section LN3
variable {e e' e1 : ES} {W W' : Int → Int → Prop} {X X' : Int → Int → Int → Prop} {S D T S' D' T' : Int} {a b c i j k q r v w N p x y t o tn ver par pe inp fr st res dep : Int} {ev : Ev} {E : Int → Ev} {n : Nat}
theorem hct_0 (hs : 0 ≤ S) (hd : 0 ≤ D) (ht : 0 ≤ T) : HCt E 0 S D T := by
  refine ⟨hs, hd, ?_, ?_, ?_⟩
  · show (0 : Int) + lcm E 0 ≤ T
    unfold lcm
    rw [if_neg (by omega)]
    omega
  · show (0 : Int) ≤ 195000
    decide
  · show (0 : Int) ≤ 195000
    decide
/-- another run, with nothing in its history -/
theorem HK.nrun (h : HK S D T W X e) (hn : e.1 7 2 < 30) (hp : -1 ≤ par ∧ par < e.1 7 2) (hX : 0 ≤ par → ¬ Dead e par → X 10 par pe) (hX' : ∀ k q v : Int, X' k q v → X k q v ∧ ¬ (k = 10 ∧ q = par ∧ v = pe)) : HK S D T W X' (pNewRun t tn ver par pe e) := by
  have hc := h.cn
  have n7 := hc.1
  have n8 := hc.2.1
  obtain ⟨⟨⟨-, o1, hpr⟩, ⟨c4, c5, c6, c7⟩, ct⟩, h1, ⟨h2, h3, h3b⟩, h4, h5⟩ := h
  have f1 : ∀ a u : Int, a ≠ 7 → a ≠ 7000 + e.1 7 2 → a ≠ 71000 + e.1 7 2 → (pNewRun t tn ver par pe e).1 a u = e.1 a u := fun a u g1 g2 g3 => pNewRun_1 g1 g2 g3
  have fn : (pNewRun t tn ver par pe e).1 7 2 = e.1 7 2 + 1 := pNewRun_n
  have fN : ∀ r : Int, 0 ≤ r → r < e.1 7 2 → hN (pNewRun t tn ver par pe e) r = hN e r := fun r r0 r1 => f1 _ _ (by omega) (by omega) (by omega)
  have fZ : hN (pNewRun t tn ver par pe e) (e.1 7 2) = 0 := pNewRun_h n7.1
  have fH : ∀ r : Int, eH (pNewRun t tn ver par pe e) r = eH e r := fun _ => rfl
  have fD : ∀ r : Int, 0 ≤ r → r < e.1 7 2 → (Dead (pNewRun t tn ver par pe e) r ↔ Dead e r) := fun r r0 r1 => Dead.eq (f1 _ _ (by omega) (by omega) (by omega))
  have hlk : ∀ k q v w : Int, Lk X' (pNewRun t tn ver par pe e) k q v w → (Lk X e k q v w ∧ ¬ (k = 10 ∧ q = par ∧ v = pe)) ∨ (w = e.1 7 2 ∧ k = 10 ∧ q = par ∧ v = pe ∧ X 10 par pe) := fun k q v w g => by
    rcases g with g | ⟨g1, g2, g3, g4, g5⟩ | ⟨g1, g2, g3, g4⟩ | ⟨g1, ⟨g2, g3⟩, ⟨g4, g5⟩, g6, g7⟩
    · exact Or.inl ⟨Or.inl ⟨g.1, (hX' _ _ _ g.2).1⟩, (hX' _ _ _ g.2).2⟩
    · rw [f1 _ _ (by omega) (by omega) (by omega)] at g2 g3 g4 g5
      exact Or.inl ⟨Or.inr (Or.inl ⟨g1, g2, g3, g4, g5⟩), by omega⟩
    · rw [fn] at g3
      by_cases cq : q = e.1 7 2
      · rw [cq] at g4
        have hr := pNewRun_r (c := 73) (t := t) (p1 := tn) (p2 := ver) (p3 := par) (p4 := pe) (e := e) (Or.inl rfl)
        rw [show (1000 : Int) * 73 = 73000 by decide] at hr
        rw [hr] at g4
        exact absurd g4 (List.not_mem_nil)
      · rw [pNewRun_l (by omega) (by omega) (by omega)] at g4
        exact Or.inl ⟨Or.inr (Or.inr (Or.inl ⟨g1, g2, by omega, g4⟩)), by omega⟩
    · rw [fn] at g2 g3
      by_cases cw : w = e.1 7 2
      · rw [cw, pNewRun_f n7.1] at g6 g7
        have g6' : par = q := g6
        have g7' : pe = v := g7
        subst g6'
        subst g7'
        exact Or.inr ⟨cw, g1, rfl, rfl, hX g3.1 fun d => g5 ((fD _ g3.1 hp.2).mpr d)⟩
      · rw [f1 _ _ (by omega) (by omega) (by omega)] at g6 g7
        have hq := (hpr w g2.1 (by omega)).2
        rw [g6] at hq
        have gl : Lk X e k q v w := Or.inr (Or.inr (Or.inr ⟨g1, ⟨by omega, by omega⟩, ⟨fun d => g4 ((fD w g2.1 (by omega)).mpr d), fun d => g5 ((fD q g3.1 hq).mpr d)⟩, g6, g7⟩))
        refine Or.inl ⟨gl, fun hh => ?_⟩
        obtain ⟨q1, q2, q3⟩ := hh
        subst q1
        subst q2
        subst q3
        have hx := hX g3.1 fun d => g5 ((fD q g3.1 hq).mpr d)
        have := h5 _ _ _ _ _ gl (Or.inl ⟨rfl, hx⟩)
        omega
  refine ⟨⟨⟨hc.nrun hn, by rw [f1 _ _ (by decide) (by omega) (by omega)]; exact o1, fun i i0 i1 => ?_⟩, ⟨c4, c5, c6, c7⟩, ?_⟩, fun r r0 r1 => ?_, ⟨fun r j hw => ?_, fun r j r0 r1 j0 j1 hb => ?_, fun r i j hw hij hj hkk => ?_⟩, fun k q v w g => ?_, fun k q v w w' g g' => ?_⟩
  · rw [fn] at i1 ⊢
    by_cases ci : i = e.1 7 2
    · rw [ci, pNewRun_f n7.1]
      show -1 ≤ par ∧ par < _
      omega
    · rw [f1 _ _ (by omega) (by omega) (by omega)]
      have := hpr i i0 (by omega)
      omega
  · refine Int.le_trans (sm_le fun r r0 r1 => ?_) ct
    unfold totF
    rw [fn]
    by_cases cr : r = e.1 7 2
    · have hr := pNewRun_r (c := 75) (t := t) (p1 := tn) (p2 := ver) (p3 := par) (p4 := pe) (e := e) (Or.inr (Or.inr rfl))
      rw [show (1000 : Int) * 75 = 75000 by decide] at hr
      unfold csr
      rw [cr, fZ, hr, if_pos (by omega), if_neg (Int.lt_irrefl _)]
      show (if _ then (0 : Int) else 0) + 0 ≤ 0
      split <;> decide
    · unfold csr
      by_cases c : r < e.1 7 2
      · rw [if_pos (by omega), if_pos c, fN r r0 c, fH, f1 _ _ (by omega) (by omega) (by omega), pNewRun_l (c := 75000 + r) (by omega) (by omega) (by omega)]
        exact Int.le_refl _
      · rw [if_neg (by omega), if_neg c]
        exact Int.le_refl _
  · rw [fn] at r1
    by_cases cr : r = e.1 7 2
    · rw [cr, fZ]
      exact ⟨⟨Int.le_refl _, hinv_0⟩, hct_0 c5 c6 c7⟩
    · rw [fN r r0 (by omega), fH]
      exact h1 r r0 (by omega)
  · obtain ⟨g1, g2⟩ := h2 r j hw
    rw [fn, fN r g1.1 g1.2, fH]
    exact ⟨⟨g1.1, by omega⟩, g2⟩
  · rw [fn] at r1
    by_cases cr : r = e.1 7 2
    · rw [cr, fZ] at j1
      omega
    · rw [fN r r0 (by omega)] at j1
      exact h3 r j r0 (by omega) j0 j1 hb
  · obtain ⟨⟨r0, r1⟩, -⟩ := h2 r i hw
    rw [fN r r0 r1] at hj
    exact h3b r i j hw hij hj hkk
  · have key : ∀ w : Int, Lk X e k q v w → Ln W (pNewRun t tn ver par pe e) k q v := fun w g => by
      obtain ⟨g1, g2⟩ := h4 k q v w g
      unfold Ln
      rw [fn, fN q g1.1 g1.2, fH]
      exact ⟨⟨g1.1, by omega⟩, g2⟩
    rcases hlk k q v w g with g1 | ⟨g1, g2, g3, g4, g5⟩
    · exact key w g1.1
    · subst g2
      subst g3
      subst g4
      exact key (-1) (Or.inl ⟨rfl, g5⟩)
  · rcases hlk k q v w g with g1 | ⟨g1, g2, g3, g4, g5⟩
    · rcases hlk k q v w' g' with g1' | ⟨g1', g2', g3', g4', g5'⟩
      · exact h5 k q v w w' g1.1 g1'.1
      · exact absurd ⟨g2', g3', g4'⟩ g1.2
    · rcases hlk k q v w' g' with g1' | ⟨g1', g2', g3', g4', g5'⟩
      · exact absurd ⟨g2, g3, g4⟩ g1'.2
      · omega
/-- a START -/
theorem HK.arr0 (h : HK S D T W X e) (r0 : 0 ≤ r) (r1 : r < e.1 7 2) (n0 : hN e r = 0) (x0 : 0 ≤ x) (x1 : x ≤ 999) : HK S D T W X (pArr r 0 x 0 e) := by
  have hc := h.cn
  have hb := hc.1.2
  have h1 := h.2.1 r r0 r1
  have ee := arr_eH (k := 0) (x := x) (y := 0) (e := e) r0 (by omega)
  have hk' : ek (evP 0 x 0 (e.1 4 14) (e.1 4 16)) = 0 := evP_k (by omega)
  refine h.put (hc.arr r0) (arr_a (by decide) (by decide) (by omega) (by omega) (by omega)) ?_ (h.pr.arr r0 (by omega) (by omega)) r0 r1 ee (fun q q0 q1 hq => ⟨?_, arr_h hq⟩) (Int.le_trans (tot_arr hc r0 r1 h1.1.1 (by omega)) (by have := h.1.2.2; rw [if_neg (by omega)]; omega)) (h1.1.2.arrP h1.1.1 (by omega) (by omega) (by omega) x0 x1 (by omega) (by omega) (by omega) h.1.1.2.1 (by omega)) (h1.2.putS h1.1.1 (by rw [hk']; omega) fun g => by omega) (by rw [hk']; omega) (fun g => by rw [hk'] at g; unfold bkk at g; omega) fun k q v w g => g.arr hc r0 (by omega)
  · rw [arr_16]
    have := h.1.1.2.1
    omega
  · exact arr_a (by omega) (by omega) (by omega) (by omega) (by omega)
theorem HK.start (h : HK S D T W X e) (hn : e.1 7 2 < 30) (hp : -1 ≤ par ∧ par < e.1 7 2) (x0 : 0 ≤ inp) (x1 : inp ≤ 999) (hX : 0 ≤ par → ¬ Dead e par → X 10 par pe) (hX' : ∀ k q v : Int, X' k q v → X k q v ∧ ¬ (k = 10 ∧ q = par ∧ v = pe)) : HK S D T W X' (pStart t tn inp par pe e) :=
  (h.nrun hn hp hX hX').arr0 h.cn.1.1 (by rw [pNewRun_n]; omega) (pNewRun_h h.cn.1.1) x0 x1
/-- what a run works on ends -/
theorem HK.endw (h : HK S D T W X e) (hr0 : 0 ≤ r) (hr1 : r < 1000) : HK S D T W X (pEnd r e) := by
  have hc := h.cn
  obtain ⟨p1, p2, p3, p4⟩ := end_pt (r := r) hc
  have n8 := hc.2.1
  have n7 := hc.1
  have pa : ∀ a u : Int, a < 8000 ∨ 8000 + e.1 8 2 ≤ a ∨ u ≠ 5 → (pEnd r e).1 a u = e.1 a u := fun a u ha => end_a ha
  refine h.sub hc.endw (pa _ _ (by omega)) (by rw [pa _ _ (by omega)]; exact h.1.1.2.1) (h.pr.of (pa _ _ (by omega)) fun r r0 r1 => pa _ _ (by omega)) (fun r r0 r1 => ⟨pa _ _ (by omega), congrFun p2 r⟩) (fun q q0 q1 => ?_) (fun p p0 p1 d => (Dead.eq (pa _ _ (by omega))).mpr d) fun k q v w g => g.mono (fun _ _ _ g => g) (pa _ _ (by omega)) (pa _ _ (by omega)) (fun p p0 p1' g => ?_) (fun q v q0 q1 hv => ?_) (fun p p0 p1 _ => ⟨pa _ _ (by omega), pa _ _ (by omega)⟩) fun p p0 p1 d => (Dead.eq (pa _ _ (by omega))).mpr d
  · rw [p4, if_neg (by have := hr1; omega)]
  · rw [p1] at g
    refine ⟨fun hh => ?_, pa _ _ (by omega), pa _ _ (by omega)⟩
    split at g
    · exact g rfl
    · exact g hh
  · rw [p4] at hv
    split at hv
    · exact absurd hv List.not_mem_nil
    · exact hv
/-- children part from a parent -/
theorem HK.parts (h : HK S D T W X e) : HK S D T W X (pPar r fr e) := by
  have hc := h.cn
  obtain ⟨p1, p2⟩ := par_pt (r := r) (fr := fr) hc
  have n8 := hc.2.1
  have n7 := hc.1
  have pa : ∀ a u : Int, a < 7000 ∨ 7000 + e.1 7 2 ≤ a ∨ u ≠ 4 → (pPar r fr e).1 a u = e.1 a u := fun a u ha => par_a ha
  have hl : ∀ c, eL (pPar r fr e) c = eL e c := fun c => by
    unfold eL
    rw [p2]
  refine h.sub hc.par (pa _ _ (by omega)) (by rw [pa _ _ (by omega)]; exact h.1.1.2.1) (fun i i0 i1 => ?_) (fun r r0 r1 => ⟨pa _ _ (by omega), congrFun (congrArg (·.1) p2) r⟩) (fun _ _ _ => hl _) (fun p p0 p1 d => (Dead.eq (pa _ _ (by omega))).mpr d) fun k q v w g => g.mono (fun _ _ _ g => g) (pa _ _ (by omega)) (pa _ _ (by omega)) (fun p p0 p1' g => ⟨fun hh => g (by rw [pa _ _ (by omega)]; exact hh), pa _ _ (by omega), pa _ _ (by omega)⟩) (fun q v q0 q1 hv => by rw [hl] at hv; exact hv) (fun p p0 p1' g => ?_) fun p p0 p1 d => (Dead.eq (pa _ _ (by omega))).mpr d
  · rw [pa _ _ (by omega)] at i1
    rw [pa 7 2 (by omega), p1]
    split
    · omega
    · exact h.pr i i0 i1
  · rw [p1] at g ⊢
    split at g
    · exact absurd g (by decide)
    · rename_i hh
      rw [if_neg hh]
      exact ⟨rfl, pa _ _ (by omega)⟩
/-- a child parts from its parent -/
theorem HK.part1 (h : HK S D T W X e) (i0 : 0 ≤ i) (i1 : i < e.1 7 2) : HK S D T W X (eS e (7000 + i) 4 (-1)) := by
  have hc := h.cn
  have n8 := hc.2.1
  have n7 := hc.1
  have pa : ∀ a u : Int, a ≠ 7000 + i ∨ u ≠ 4 → (eS e (7000 + i) 4 (-1)).1 a u = e.1 a u := fun a u h => by
    by_cases c : a = 7000 + i
    · rw [c]; exact eS_j (by omega)
    · exact eS_a c
  refine h.sub (hc.of fun a _ => pa _ _ (by omega)) (pa _ _ (by omega)) (by rw [pa _ _ (by omega)]; exact h.1.1.2.1) (fun j j0 j1 => ?_) (fun r r0 r1 => ⟨pa _ _ (by omega), rfl⟩) (fun _ _ _ => rfl) (fun p p0 p1 d => (Dead.eq (pa _ _ (by omega))).mpr d) fun k q v w g => g.mono (fun _ _ _ g => g) (pa _ _ (by omega)) (pa _ _ (by omega)) (fun p p0 p1' g => ⟨fun hh => g (by rw [pa _ _ (by omega)]; exact hh), pa _ _ (by omega), pa _ _ (by omega)⟩) (fun q v q0 q1 hv => hv) (fun p p0 p1' g => ?_) fun p p0 p1 d => (Dead.eq (pa _ _ (by omega))).mpr d
  · rw [pa _ _ (by omega)] at j1
    rw [pa 7 2 (by omega)]
    by_cases c : j = i
    · rw [c, eS_e]
      omega
    · rw [pa _ _ (by omega)]
      exact h.pr j j0 j1
  · by_cases c : p = i
    · rw [c, eS_e] at g
      omega
    · exact ⟨pa _ _ (by omega), pa _ _ (by omega)⟩
/-- what is set aside when run r ends: its place with its parent -/
def Xp (X : Int → Int → Int → Prop) (e : ES) (r : Int) (k q v : Int) : Prop := X k q v ∨ (k = 10 ∧ q = e.1 (7000 + r) 4 ∧ v = e.1 (7000 + r) 5 ∧ (0 ≤ q ∧ q < e.1 7 2) ∧ ¬ Dead e q)
theorem HK.dies (h : HK S D T W X e) (r0 : 0 ≤ r) (r1 : r < e.1 7 2) (hd : ¬ Dead e r) (h0 : st ≠ 0) (h6 : st ≠ 6) : HK S D T W (Xp X e r) (eS e (7000 + r) 6 st) := by
  have hc := h.cn
  have n8 := hc.2.1
  have n7 := hc.1
  have pa : ∀ a u : Int, a ≠ 7000 + r ∨ u ≠ 6 → (eS e (7000 + r) 6 st).1 a u = e.1 a u := fun a u h => by
    by_cases c : a = 7000 + r
    · rw [c]; exact eS_j (by omega)
    · exact eS_a c
  have hdr : Dead (eS e (7000 + r) 6 st) r := by
    unfold Dead
    rw [eS_e]
    exact ⟨h0, h6⟩
  have hm : ∀ p : Int, Dead e p → Dead (eS e (7000 + r) 6 st) p := fun p d => by
    by_cases c : p = r
    · rw [c]; exact hdr
    · exact (Dead.eq (pa _ _ (by omega))).mpr d
  have hlk : ∀ k q v w : Int, Lk (Xp X e r) (eS e (7000 + r) 6 st) k q v w → (Lk X e k q v w ∧ (k = 10 → w ≠ r)) ∨ (w = -1 ∧ Lk X e k q v r ∧ k = 10) := fun k q v w g => by
    rcases g with ⟨g1, g2 | ⟨g2, g3, g4, g5, g6⟩⟩ | ⟨g1, g2, g3, g4, g5⟩ | ⟨g1, g2, g3, g4⟩ | ⟨g1, ⟨g2, g3⟩, ⟨g4, g5⟩, g6, g7⟩
    · exact Or.inl ⟨Or.inl ⟨g1, g2⟩, fun _ => by omega⟩
    · exact Or.inr ⟨g1, Or.inr (Or.inr (Or.inr ⟨g2, ⟨⟨r0, r1⟩, g5⟩, ⟨hd, g6⟩, g3.symm, g4.symm⟩)), g2⟩
    · rw [pa _ _ (by omega)] at g2 g3 g4 g5
      exact Or.inl ⟨Or.inr (Or.inl ⟨g1, g2, g3, g4, g5⟩), fun hk => by omega⟩
    · rw [pa _ _ (by omega)] at g3
      exact Or.inl ⟨Or.inr (Or.inr (Or.inl ⟨g1, g2, g3, g4⟩)), fun hk => by omega⟩
    · rw [pa _ _ (by omega)] at g2 g3
      rw [pa _ _ (by omega)] at g6 g7
      exact Or.inl ⟨Or.inr (Or.inr (Or.inr ⟨g1, ⟨g2, g3⟩, ⟨fun d => g4 (hm _ d), fun d => g5 (hm _ d)⟩, g6, g7⟩)), fun _ hw => g4 (by rw [hw]; exact hdr)⟩
  refine h.sub0 (hc.of fun a _ => pa _ _ (by omega)) (pa _ _ (by omega)) (by rw [pa _ _ (by omega)]; exact h.1.1.2.1) (h.pr.of (pa _ _ (by omega)) fun j j0 j1 => pa _ _ (by omega)) (fun r r0 r1 => ⟨pa _ _ (by omega), rfl⟩) (fun _ _ _ => rfl) (fun p _ _ d => hm p d) (fun k q v w g => ?_) fun k q v w w' g g' => ?_
  · rcases hlk k q v w g with g1 | ⟨g1, g2, g3⟩
    · exact ⟨w, g1.1⟩
    · exact ⟨r, g2⟩
  · rcases hlk k q v w g with ⟨g1, gn⟩ | ⟨g1, g2, g3⟩
    · rcases hlk k q v w' g' with ⟨g1', gn'⟩ | ⟨g1', g2', g3'⟩
      · exact h.2.2.2.2 k q v w w' g1 g1'
      · exact absurd (h.2.2.2.2 k q v w r g1 g2') (gn g3')
    · rcases hlk k q v w' g' with ⟨g1', gn'⟩ | ⟨g1', g2', g3'⟩
      · exact absurd (h.2.2.2.2 k q v w' r g1' g2) (gn' g3)
      · omega
/-- who isn't dead has a history -/
def NZ (e : ES) : Prop := ∀ r : Int, 0 ≤ r → r < e.1 7 2 → ¬ Dead e r → 0 < hN e r
theorem NZ.of (h : NZ e) (n1 : e'.1 7 2 = e.1 7 2) (hd : ∀ r : Int, 0 ≤ r → r < e.1 7 2 → Dead e r → Dead e' r) (hn : ∀ r : Int, 0 ≤ r → r < e.1 7 2 → hN e r ≤ hN e' r) : NZ e' := fun r r0 r1 d => by
  rw [n1] at r1
  have h1 := h r r0 r1 fun hh => d (hd r r0 r1 hh)
  have := hn r r0 r1
  omega
theorem CS.dd (h : CS e e') (r0 : 0 ≤ r) (r1 : r < e.1 7 2) (d : Dead e r) : Dead e' r := by
  unfold Dead at d ⊢
  rw [(h.2.2 r r0 r1).1 d.1]
  exact d
theorem NZ.cs (h : NZ e) (g : CS e e') : NZ e' := h.of g.2.1.1 (fun r r0 r1 d => g.dd r0 r1 d) g.1.1.2.1
theorem xHas_n {x : CX} : ∀ (n : Nat) (i : Int), (x.1 0 - i).toNat = n → ¬ xHas x k n i = true → ∀ j : Int, i ≤ j → j < x.1 0 → ek (x.2.1 j) ≠ k := by
  intro n
  induction n with
  | zero => intro i hn _ j j0 j1; omega
  | succ n ih =>
    intro i hn h j j0 j1
    unfold xHas at h
    rw [if_pos (by omega)] at h
    by_cases c : ek (x.2.1 i) = k
    · rw [if_pos c] at h
      exact absurd rfl h
    · rw [if_neg c] at h
      by_cases cj : j = i
      · rw [cj]; exact c
      · exact ih (i + 1) (by omega) h j (by omega) j1
theorem HK.can (h : HK S D T W X e) (hz : NZ e) (i0 : 0 ≤ i) (i1 : i < e.1 7 2) (hd : ¬ Dead e i) : HK S D T W X (pCan i e).2 := by
  unfold pCan
  by_cases c : hasK (pX e i) 7 = true
  · rw [if_pos c]
    exact h
  · rw [if_neg c]
    exact h.arr i0 i1 (Or.inr rfl) (hz i i0 i1 hd) (Int.le_refl _) (by decide) (fun g => by omega) (Int.le_refl _) (by decide) (fun _ j j0 j1 => xHas_n (x := pX e i) _ 0 (by rw [Int.sub_zero]) c j j0 j1) (fun g => by omega)
theorem HK.xm (h : HK S D T W X e) (hX : ∀ k q v : Int, X' k q v → X k q v) : HK S D T W X' e := by
  refine h.sub h.cn rfl h.1.1.2.1 h.pr (fun _ _ _ => ⟨rfl, rfl⟩) (fun _ _ _ => rfl) (fun _ _ _ d => d) fun k q v w g => ?_
  rcases g with g | g
  · exact Or.inl ⟨g.1, hX _ _ _ g.2⟩
  · exact Or.inr g
/-- a parent is told of what was set aside -/
theorem HK.upp (h : HK S D T W X e) (r0 : 0 ≤ r) (r1 : r < e.1 7 2) (hd : ¬ Dead e r) (h2 : HK S D T W (Xp X e r) e1) (k3 : CS e e1) (p0 : 0 ≤ res) (p1 : res ≤ 999) : HK S D T W X (pUp r st res e1) := by
  obtain ⟨-, -, q4, q5⟩ := k3.2.2 r r0 r1
  unfold pUp
  by_cases c : (0 ≤ e1.1 (7000 + r) 4 ∧ e1.1 (7000 + r) 4 < e1.1 7 2) ∧ (e1.1 (7000 + e1.1 (7000 + r) 4) 6 = 0 ∨ e1.1 (7000 + e1.1 (7000 + r) 4) 6 = 6)
  · rw [if_pos c]
    rw [q4, q5]
    rw [q4, k3.2.1.1] at c
    have hnd : ¬ Dead e (e.1 (7000 + r) 4) := fun d => by
      have := k3.dd c.1.1 c.1.2 d
      unfold Dead at this
      omega
    have hx : Xp X e r 10 (e.1 (7000 + r) 4) (e.1 (7000 + r) 5) := Or.inr ⟨rfl, rfl, rfl, c.1, hnd⟩
    have lr : Lk X e 10 (e.1 (7000 + r) 4) (e.1 (7000 + r) 5) r := Or.inr (Or.inr (Or.inr ⟨rfl, ⟨⟨r0, r1⟩, c.1⟩, ⟨hd, hnd⟩, rfl, rfl⟩))
    have hX' : ∀ k q v : Int, X k q v → Xp X e r k q v ∧ ¬ (q = e.1 (7000 + r) 4 ∧ v = e.1 (7000 + r) 5) := fun k q v g => by
      refine ⟨Or.inl g, fun hh => ?_⟩
      obtain ⟨g1, g2⟩ := hh
      subst g1
      subst g2
      have lx : Lk X e k _ _ (-1) := Or.inl ⟨rfl, g⟩
      have kk : k = 10 := by
        rw [← (h.2.2.2.1 _ _ _ _ lx).2.1.2.2, (h.2.2.2.1 _ _ _ _ lr).2.1.2.2]
      subst kk
      have := h.2.2.2.2 _ _ _ _ _ lx lr
      omega
    split
    · exact h2.bk hx (Or.inr (Or.inr (Or.inr (Or.inl rfl)))) (by decide) p0 p1 hX'
    · exact h2.bk hx (Or.inr (Or.inr (Or.inr (Or.inr rfl)))) (by decide) (Int.le_refl _) (by decide) hX'
  · rw [if_neg c]
    exact h2.xm fun k q v g => Or.inl g
/-- a run is closed -/
theorem HK.deal {rec : Int → Int → ES → ES} (hrec : ∀ (i d : Int) (e : ES), 0 ≤ i → i < e.1 7 2 → HK S D T W X e → NZ e → e.1 (7000 + i) 6 = 0 → HK S D T W X (rec i d e) ∧ NZ (rec i d e)) : ∀ (n : Nat) (i : Int) (e : ES), 0 ≤ i → HK S D T W X e → NZ e → HK S D T W X (pDealL rec r dep n i e) ∧ NZ (pDealL rec r dep n i e) := by
  intro n
  induction n with
  | zero => intro i e _ h z; exact ⟨h, z⟩
  | succ n ih =>
    intro i e i0 h z
    unfold pDealL
    by_cases c : i < e.1 7 2
    · rw [if_pos c]
      by_cases c2 : e.1 (7000 + i) 4 = r ∧ e.1 (7000 + i) 6 = 0
      · rw [if_pos c2]
        have hd : ¬ Dead e i := fun d => d.1 c2.2
        split
        · exact ih _ _ (by omega) (h.can z i0 c hd) (z.cs (cs_can h.cn i0 c))
        · split
          · have := hrec i (dep + 1) e i0 c h z c2.2
            exact ih _ _ (by omega) this.1 this.2
          · exact ih _ _ (by omega) h z
      · rw [if_neg c2]
        exact ih _ _ (by omega) h z
    · rw [if_neg c]
      exact ⟨h, z⟩
theorem HK.close : ∀ (n : Nat) (r st res dep : Int) (X : Int → Int → Int → Prop) (e : ES), HK S D T W X e → NZ e → 0 ≤ r → r < e.1 7 2 → e.1 (7000 + r) 6 = 0 → st ≠ 0 → st ≠ 6 → 0 ≤ res → res ≤ 999 → HK S D T W X (pClose n r st res dep e) ∧ NZ (pClose n r st res dep e) := by
  intro n
  induction n with
  | zero => intro r st res dep X e h z _ _ _ _ _ _ _; exact ⟨h, z⟩
  | succ n ih =>
    intro r st res dep X e h z r0 r1 hs s0 s6 p0 p1
    have hc := h.cn
    have hd : ¬ Dead e r := fun d => d.1 hs
    unfold pClose
    have k1 : CS e (eS e (7000 + r) 6 st) := cs_st hc r0 r1 hs
    have k2 := k1.tr (cs_end (r := r) k1.1.2)
    have k3 := k2.tr (cs_deal (r := r) (dep := dep) (rec := fun i d e => pClose n i 5 0 d e) (fun i d e i0 i1 hc h0 => cs_close n i 5 0 d e i0 i1 hc h0) 31 0 _ (by decide) k2.1.2)
    have h1 := (h.dies r0 r1 hd s0 s6).endw (r := r) r0 (by have := hc.1; omega)
    have h2 := HK.deal (r := r) (dep := dep) (rec := fun i d e => pClose n i 5 0 d e) (fun i d e i0 i1 h z hs => ih i 5 0 d _ e h z i0 i1 hs (by decide) (by decide) (Int.le_refl _) (by decide)) 31 0 _ (Int.le_refl _) h1 (z.cs k2)
    generalize pDealL (fun i d e => pClose n i 5 0 d e) r dep 31 0 (pEnd r (eS e (7000 + r) 6 st)) = e3 at h2 k3
    obtain ⟨h3, z3⟩ := h2
    exact ⟨h.upp r0 r1 hd h3 k3 p0 p1, z3.cs (cs_up h3.cn)⟩
end LN3
