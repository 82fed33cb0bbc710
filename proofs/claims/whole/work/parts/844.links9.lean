/-! LINKS: what the calls do, one after another: activities, timers, schedules. -/
section LN9
variable {e e' e1 e2 : ES} {W W' : Int → Int → Prop} {X X' : Int → Int → Int → Prop} {S D T S' D' T' : Int} {a b c i j k q r v w N M p x y t o ev kd due par pe tn ver fin p1 p2 p3 p4 p5 p6 : Int} {n : Nat} {s : TS} {B : Int} {E : Int → Ev}
/-- an activity that is under way stays so, or ends -/
theorem HK.act5 (h : HK S D T W X e) (i0 : 0 ≤ i) (i1 : i < e.1 8 2) (hv : e.1 (8000 + i) 5 ≠ 2) : HK S D T W X (eS e (8000 + i) 5 v) := by
  have hc := h.cn
  have n8 := hc.2.1
  have n7 := hc.1
  have pa : ∀ a u : Int, a ≠ 8000 + i ∨ u ≠ 5 → (eS e (8000 + i) 5 v).1 a u = e.1 a u := fun a u hh => by rw [es_pt, if_neg (by omega)]
  refine h.sub (hc.of fun a _ => pa _ _ (by omega)) (pa _ _ (by omega)) (by rw [pa _ _ (by omega)]; exact h.1.1.2.1) (h.pr.of (pa _ _ (by omega)) fun j j0 j1 => pa _ _ (by omega)) (fun r r0 r1 => ⟨pa _ _ (by omega), rfl⟩) (fun _ _ _ => rfl) (fun p p0 p1 d => (Dead.eq (pa _ _ (by omega))).mpr d) fun k q v w g => g.mono (fun _ _ _ g => g) (pa _ _ (by omega)) (pa _ _ (by omega)) (fun p p0 p1' g => ?_) (fun q v q0 q1 hv => hv) (fun p p0 p1' g => ⟨pa _ _ (by omega), pa _ _ (by omega)⟩) fun p p0 p1 d => (Dead.eq (pa _ _ (by omega))).mpr d
  by_cases c : p = i
  · rw [c]
    exact ⟨hv, pa _ _ (by omega), pa _ _ (by omega)⟩
  · rw [pa _ _ (by omega)] at g
    exact ⟨g, pa _ _ (by omega), pa _ _ (by omega)⟩
/-- an activity is set aside: it comes back -/
theorem HK.give8 (h : HK S D T W noX e) (i0 : 0 ≤ i) (i1 : i < e.1 8 2) (hv : e.1 (8000 + i) 5 ≠ 2) : HK S D T W (X1 8 (e.1 (8000 + i) 0) (e.1 (8000 + i) 1)) (eS e (8000 + i) 5 2) := by
  have hc := h.cn
  have n8 := hc.2.1
  have n7 := hc.1
  have pa : ∀ a u : Int, a ≠ 8000 + i ∨ u ≠ 5 → (eS e (8000 + i) 5 2).1 a u = e.1 a u := fun a u hh => by rw [es_pt, if_neg (by omega)]
  have hlk : ∀ k q v w : Int, Lk (X1 8 (e.1 (8000 + i) 0) (e.1 (8000 + i) 1)) (eS e (8000 + i) 5 2) k q v w → (Lk noX e k q v w ∧ (k = 8 → w ≠ i)) ∨ (w = -1 ∧ k = 8 ∧ Lk noX e k q v i) := fun k q v w g => by
    rcases g with ⟨g1, g2, g3, g4⟩ | ⟨g1, g2, g3, g4, g5⟩ | ⟨g1, g2, g3, g4⟩ | ⟨g1, ⟨g2, g3⟩, ⟨g4, g5⟩, g6, g7⟩
    · exact Or.inr ⟨g1, g2, Or.inr (Or.inl ⟨g2, ⟨i0, i1⟩, hv, g3.symm, g4.symm⟩)⟩
    · rw [pa _ _ (by omega)] at g2 g4 g5
      have hw : w ≠ i := fun hw => by
        rw [hw, eS_e] at g3
        exact g3 rfl
      rw [pa _ _ (by omega)] at g3
      exact Or.inl ⟨Or.inr (Or.inl ⟨g1, g2, g3, g4, g5⟩), fun _ => hw⟩
    · rw [pa _ _ (by omega)] at g3
      exact Or.inl ⟨Or.inr (Or.inr (Or.inl ⟨g1, g2, g3, g4⟩)), fun hk => by omega⟩
    · rw [pa _ _ (by omega)] at g2 g3
      rw [pa _ _ (by omega)] at g6 g7
      exact Or.inl ⟨Or.inr (Or.inr (Or.inr ⟨g1, ⟨g2, g3⟩, ⟨fun d => g4 ((Dead.eq (pa _ _ (by omega))).mpr d), fun d => g5 ((Dead.eq (pa _ _ (by omega))).mpr d)⟩, g6, g7⟩)), fun hk => by omega⟩
  refine h.sub0 (hc.of fun a _ => pa _ _ (by omega)) (pa _ _ (by omega)) (by rw [pa _ _ (by omega)]; exact h.1.1.2.1) (h.pr.of (pa _ _ (by omega)) fun j j0 j1 => pa _ _ (by omega)) (fun r r0 r1 => ⟨pa _ _ (by omega), rfl⟩) (fun _ _ _ => rfl) (fun p p0 p1 d => (Dead.eq (pa _ _ (by omega))).mpr d) (fun k q v w g => ?_) fun k q v w w' g g' => ?_
  · rcases hlk k q v w g with g | g
    · exact ⟨w, g.1⟩
    · exact ⟨i, g.2.2⟩
  · rcases hlk k q v w g with ⟨g1, gn⟩ | ⟨g1, g2, g3⟩
    · rcases hlk k q v w' g' with ⟨g1', gn'⟩ | ⟨g1', g2', g3'⟩
      · exact h.2.2.2.2 k q v w w' g1 g1'
      · exact absurd (h.2.2.2.2 k q v w i g1 g3') (gn g2')
    · rcases hlk k q v w' g' with ⟨g1', gn'⟩ | ⟨g1', g2', g3'⟩
      · exact absurd (h.2.2.2.2 k q v w' i g1' g3) (gn' g2)
      · omega
theorem NZ.es1 (z : NZ e) (h : a ≠ 7 ∨ j ≠ 2) (h2 : a < 7000 ∨ 7030 ≤ a ∨ j ≠ 6) (h3 : a < 71000 ∨ 71030 ≤ a ∨ j ≠ 1) (h7 : e.1 7 2 ≤ 30) : NZ (eS e a j v) := z.of (by rw [es_pt, if_neg (by omega)]) (fun r r0 r1 d => (Dead.eq (by rw [es_pt, if_neg (by omega)])).mpr d) fun r r0 r1 => by
  unfold hN
  rw [es_pt, if_neg (by omega)]
  omega
/-- an activity comes back -/
theorem HK.back8 (h : HK S D T W noX e) (z : NZ e) (i0 : 0 ≤ i) (i1 : i < e.1 8 2) (hv : e.1 (8000 + i) 5 ≠ 2) (hk : k = 1 ∨ k = 2) (y0 : 0 ≤ y) (y1 : y ≤ 999) : HK S D T W noX (pArr (e.1 (8000 + i) 0) k (e.1 (8000 + i) 1) y (eS e (8000 + i) 5 2)) ∧ NZ (pArr (e.1 (8000 + i) 0) k (e.1 (8000 + i) 1) y (eS e (8000 + i) 5 2)) := by
  have n7 := h.cn.1
  have n8 := h.cn.2.1
  have h1 := h.give8 i0 i1 hv
  have hl := (h.2.2.2.1 8 _ _ i (Or.inr (Or.inl ⟨rfl, ⟨i0, i1⟩, hv, rfl, rfl⟩))).1
  have z1 : NZ (eS e (8000 + i) 5 2) := z.es1 (by omega) (by omega) (by omega) n7.2
  refine ⟨h1.bk (i := 8) ⟨rfl, rfl, rfl⟩ (by unfold bkk; omega) (by rw [if_neg (by omega), if_pos hk]) y0 y1 fun _ _ _ g => g.elim, z1.cs (cs_arr h1.cn hl.1 (by rw [es_pt, if_neg (by omega)]; exact hl.2))⟩
theorem HK.miss (h : HK S D T W noX e) (z : NZ e) (i0 : 0 ≤ i) (i1 : i < e.1 8 2) (hv : e.1 (8000 + i) 5 ≠ 2) : HK S D T W noX (pMiss i fin e) ∧ NZ (pMiss i fin e) := by
  have n7 := h.cn.1
  have n8 := h.cn.2.1
  unfold pMiss
  split
  · exact ⟨(h.act5 i0 i1 hv).es1 (by omega) (by omega), (z.es1 (by omega) (by omega) (by omega) n7.2).es1 (by omega) (by omega) (by omega) (by rw [es_pt, if_neg (by omega)]; exact n7.2)⟩
  · exact h.back8 z i0 i1 hv (Or.inr rfl) (Int.le_refl _) (by decide)
/-- a timer is set aside: it fires -/
theorem HK.give9 (h : HK S D T W noX e) (r0 : 0 ≤ r) (r1 : r < e.1 7 2) (k0 : 0 ≤ k) (k1 : k < (eL e (73000 + r)).length) (hp : (eL e (73000 + r)).Pairwise (· < ·)) : HK S D T W (X1 9 r ((eL e (73000 + r)).getD k.toNat 0)) (pRemT r k e) := by
  have hc := h.cn
  have n7 := hc.1
  have w3 : eL (pRemT r k e) (73000 + r) = (eL e (73000 + r)).eraseIdx k.toNat := by
    unfold pRemT
    rw [eLs_a (by omega)]
    exact eLs_e
  have wo : ∀ c, c ≠ 73000 + r → c ≠ 74000 + r → eL (pRemT r k e) c = eL e c := fun c c1 c2 => by
    unfold pRemT
    rw [eLs_a c2, eLs_a c1]
  have hk2 : k.toNat < (eL e (73000 + r)).length := by omega
  have hg : (eL e (73000 + r)).getD k.toNat 0 = (eL e (73000 + r))[k.toNat] := by
    rw [List.getD_eq_getElem?_getD, List.getElem?_eq_getElem hk2]
    rfl
  have hmem : (eL e (73000 + r)).getD k.toNat 0 ∈ eL e (73000 + r) := by
    rw [hg]
    exact List.getElem_mem hk2
  have hno : (eL e (73000 + r)).getD k.toNat 0 ∉ (eL e (73000 + r)).eraseIdx k.toNat := fun hm => by
    obtain ⟨i, hi⟩ := List.getElem?_of_mem hm
    have hpi : ∀ (i j : Nat) (a b : Int), i < j → (eL e (73000 + r))[i]? = some a → (eL e (73000 + r))[j]? = some b → a < b := fun i j a b hij ha hb => by
      have hi := List.getElem?_eq_some_iff.mp ha
      have hj := List.getElem?_eq_some_iff.mp hb
      obtain ⟨hi1, hi2⟩ := hi
      obtain ⟨hj1, hj2⟩ := hj
      rw [← hi2, ← hj2]
      exact List.pairwise_iff_getElem.mp hp i j hi1 hj1 hij
    have hgk : (eL e (73000 + r))[k.toNat]? = some ((eL e (73000 + r)).getD k.toNat 0) := by rw [List.getElem?_eq_getElem hk2, hg]
    by_cases ci : i < k.toNat
    · rw [List.getElem?_eraseIdx_of_lt ci] at hi
      have := hpi i k.toNat _ _ ci hi hgk
      omega
    · rw [List.getElem?_eraseIdx_of_ge (by omega)] at hi
      have := hpi k.toNat (i + 1) _ _ (by omega) hgk hi
      omega
  have hlk : ∀ k' q v w : Int, Lk (X1 9 r ((eL e (73000 + r)).getD k.toNat 0)) (pRemT r k e) k' q v w → (Lk noX e k' q v w ∧ ¬ (k' = 9 ∧ q = r ∧ v = (eL e (73000 + r)).getD k.toNat 0)) ∨ (w = -1 ∧ k' = 9 ∧ q = r ∧ v = (eL e (73000 + r)).getD k.toNat 0) := fun k' q v w g => by
    rcases g with g | g | ⟨g1, g2, g3, g4⟩ | ⟨g1, g2, ⟨g4, g5⟩, g6⟩
    · exact Or.inr g
    · exact Or.inl ⟨Or.inr (Or.inl g), by have := g.1; omega⟩
    · by_cases cq : q = r
      · rw [cq, w3] at g4
        refine Or.inl ⟨Or.inr (Or.inr (Or.inl ⟨g1, g2, g3, ?_⟩)), fun hh => hno (by rw [← hh.2.2]; exact g4)⟩
        rw [cq]
        exact List.mem_of_mem_eraseIdx g4
      · have g32 : q < e.1 7 2 := g3.2
        rw [wo _ (by omega) (by omega)] at g4
        exact Or.inl ⟨Or.inr (Or.inr (Or.inl ⟨g1, g2, g3, g4⟩)), fun hh => cq hh.2.1⟩
    · exact Or.inl ⟨Or.inr (Or.inr (Or.inr ⟨g1, g2, ⟨fun d => g4 d, fun d => g5 d⟩, g6⟩)), by omega⟩
  refine h.sub0 (hc.of fun _ _ => rfl) rfl h.1.1.2.1 (h.pr.of rfl fun _ _ _ => rfl) (fun _ _ _ => ⟨rfl, rfl⟩) (fun q q0 q1 => wo _ (by omega) (by omega)) (fun _ _ _ d => d) (fun k' q v w g => ?_) fun k' q v w w' g g' => ?_
  · rcases hlk k' q v w g with g | ⟨g1, g2, g3, g4⟩
    · exact ⟨w, g.1⟩
    · rw [g2, g3, g4]
      exact ⟨0, Or.inr (Or.inr (Or.inl ⟨rfl, rfl, ⟨r0, r1⟩, hmem⟩))⟩
  · rcases hlk k' q v w g with g1 | ⟨g1, g2, g3, g4⟩
    · rcases hlk k' q v w' g' with g1' | ⟨g1', g2', g3', g4'⟩
      · exact h.2.2.2.2 k' q v w w' g1.1 g1'.1
      · exact absurd ⟨g2', g3', g4'⟩ g1.2
    · rcases hlk k' q v w' g' with g1' | ⟨g1', g2', g3', g4'⟩
      · exact absurd ⟨g2, g3, g4⟩ g1'.2
      · omega
theorem ord0_els {l : List Int} : eLs (pOrd0 r k e) c l = pOrd0 r k (eLs e c l) := by
  unfold pOrd0
  by_cases h : k ≤ 7
  · rw [if_pos h, if_pos h]
    rfl
  · rw [if_neg h, if_neg h]
    rfl
theorem gh_els {l : List Int} : eLs (pGh r e) c l = pGh r (eLs e c l) := by
  have h1 : gF r (eLs e c l) = gF r e := rfl
  have h2 : gM r (eLs e c l) = gM r e := rfl
  unfold pGh
  rw [h1, h2]
  rfl
theorem put_els {l : List Int} : eLs (pPut r k x y t o e) c l = pPut r k x y t o (eLs e c l) := by
  have h : eLs (pOrd r k e) c l = pOrd r k (eLs e c l) := by
    unfold pOrd
    rw [gh_els, ord0_els]
  unfold pPut
  rw [← h]
  rfl
theorem arr_els {l : List Int} : eLs (pArr r i x y e) c l = pArr r i x y (eLs e c l) := by
  have h : eLs (pPut r i x y (e.1 4 14) (e.1 4 16) e) c l = pPut r i x y ((eLs e c l).1 4 14) ((eLs e c l).1 4 16) (eLs e c l) := put_els
  unfold pArr
  rw [← h]
  rfl
theorem remT_cm : pRemT r k (pArr r i x y e) = pArr r i x y (pRemT r k e) := by
  unfold pRemT
  rw [arr_l, arr_l, arr_els, arr_els]
/-- all of a run's timers that are due fire -/
theorem HK.fireL (r0 : 0 ≤ r) : ∀ (n : Nat) (k : Int) (e : ES), HK S D T W noX e → NZ e → r < e.1 7 2 → 0 ≤ k → k + n = (eL e (73000 + r)).length → (eL e (73000 + r)).length = (eL e (74000 + r)).length → (eL e (73000 + r)).Pairwise (· < ·) → HK S D T W noX (pFireL r n k e) ∧ NZ (pFireL r n k e) ∧ (pFireL r n k e).1 7 2 = e.1 7 2 := by
  intro n
  induction n with
  | zero => intro k e h z _ _ _ _ _; exact ⟨h, z, rfl⟩
  | succ n ih =>
    intro k e h z r1 k0 hk hl hp
    have n7 := h.cn.1
    unfold pFireL
    split
    · exact ih (k + 1) e h z r1 (by omega) (by omega) hl hp
    · rw [remT_cm]
      have h1 := h.give9 r0 r1 k0 (by omega) hp
      have h2 := h1.bk (i := 9) (k := 3) (y := 0) ⟨rfl, rfl, rfl⟩ (Or.inr (Or.inr (Or.inl rfl))) (by decide) (Int.le_refl _) (by decide) (X' := noX) fun _ _ _ g => g.elim
      have z1 : NZ (pRemT r k e) := z.hn rfl
      have z2 := z1.cs (cs_arr (k := 3) (x := (eL e (73000 + r)).getD k.toNat 0) (y := 0) h1.cn r0 r1)
      have w3 : eL (pRemT r k e) (73000 + r) = (eL e (73000 + r)).eraseIdx k.toNat := by
        unfold pRemT
        rw [eLs_a (by omega)]
        exact eLs_e
      have w4 : eL (pRemT r k e) (74000 + r) = (eL e (74000 + r)).eraseIdx k.toNat := eLs_e
      have e7 : (pArr r 3 ((eL e (73000 + r)).getD k.toNat 0) 0 (pRemT r k e)).1 7 2 = e.1 7 2 := arr_a (by decide) (by decide) (by omega) (by omega) (by omega)
      obtain ⟨u1, u2, u3⟩ := ih k _ h2 z2 (by rw [e7]; exact r1) k0 (by rw [arr_l, w3, List.length_eraseIdx, if_pos (by omega)]; omega) (by rw [arr_l, arr_l, w3, w4, List.length_eraseIdx, List.length_eraseIdx, hl]) (by rw [arr_l, w3]; exact hp.sublist (List.eraseIdx_sublist _ _))
      exact ⟨u1, u2, u3.trans e7⟩
end LN9
