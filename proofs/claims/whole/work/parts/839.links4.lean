/-! LINKS: what belongs to a command that is dropped. -/
section LN4
variable {e e' e1 : ES} {W W' : Int → Int → Prop} {X X' : Int → Int → Int → Prop} {S D T S' D' T' : Int} {a b c i j k q r v w N p x y t o ev : Int} {n : Nat}
/-- an activity ends -/
theorem HK.actE (h : HK S D T W X e) (i0 : 0 ≤ i) (i1 : i < e.1 8 2) : HK S D T W X (eS e (8000 + i) 5 2) := by
  have hc := h.cn
  have n8 := hc.2.1
  have n7 := hc.1
  have pa : ∀ a u : Int, a ≠ 8000 + i ∨ u ≠ 5 → (eS e (8000 + i) 5 2).1 a u = e.1 a u := fun a u h => by
    by_cases c : a = 8000 + i
    · rw [c]; exact eS_j (by omega)
    · exact eS_a c
  refine h.sub (hc.of fun a _ => pa _ _ (by omega)) (pa _ _ (by omega)) (by rw [pa _ _ (by omega)]; exact h.1.1.2.1) (h.pr.of (pa _ _ (by omega)) fun j j0 j1 => pa _ _ (by omega)) (fun r r0 r1 => ⟨pa _ _ (by omega), rfl⟩) (fun _ _ _ => rfl) (fun p p0 p1 d => (Dead.eq (pa _ _ (by omega))).mpr d) fun k q v w g => g.mono (fun _ _ _ g => g) (pa _ _ (by omega)) (pa _ _ (by omega)) (fun p p0 p1' g => ?_) (fun q v q0 q1 hv => hv) (fun p p0 p1' g => ⟨pa _ _ (by omega), pa _ _ (by omega)⟩) fun p p0 p1 d => (Dead.eq (pa _ _ (by omega))).mpr d
  by_cases c : p = i
  · rw [c, eS_e] at g
    exact absurd rfl g
  · rw [pa _ _ (by omega)] at g
    exact ⟨g, pa _ _ (by omega), pa _ _ (by omega)⟩
theorem HK.drA : ∀ (n : Nat) (i : Int) (e : ES), 0 ≤ i → HK S D T W X e → HK S D T W X (pDrAL r ev n i e) := by
  intro n
  induction n with
  | zero => intro i e _ h; exact h
  | succ n ih =>
    intro i e i0 h
    unfold pDrAL
    by_cases c : i < e.1 8 2
    · rw [if_pos c]
      split
      · exact ih _ _ (by omega) (h.actE i0 c)
      · exact ih _ _ (by omega) h
    · rw [if_neg c]
      exact h
theorem drA_pt : ∀ (n : Nat) (i : Int) (e : ES), 0 ≤ i → e.1 8 2 ≤ i + n → ∀ a u : Int, (pDrAL r ev n i e).1 a u = if (8000 + i ≤ a ∧ a < 8000 + e.1 8 2) ∧ u = 5 ∧ e.1 a 0 = r ∧ e.1 a 1 = ev then 2 else e.1 a u := by
  intro n
  induction n with
  | zero =>
    intro i e i0 hn a u
    rw [if_neg (by omega)]
    rfl
  | succ n ih =>
    intro i e i0 hn a u
    unfold pDrAL
    by_cases c : i < e.1 8 2
    · rw [if_pos c]
      by_cases c2 : e.1 (8000 + i) 0 = r ∧ e.1 (8000 + i) 1 = ev
      · rw [if_pos c2, ih (i + 1) _ (by omega) (by rw [(set8_n i0).1]; omega), (set8_n i0).1]
        by_cases ca : a = 8000 + i
        · subst ca
          rw [if_neg (by omega)]
          by_cases cu : u = 5
          · subst cu
            rw [eS_e, if_pos ⟨by omega, rfl, c2⟩]
          · rw [eS_j cu, if_neg (fun hh => cu hh.2.1)]
        · rw [eS_a ca, eS_a ca, eS_a ca]
          by_cases cc : (8000 + i ≤ a ∧ a < 8000 + e.1 8 2) ∧ u = 5 ∧ e.1 a 0 = r ∧ e.1 a 1 = ev
          · rw [if_pos cc, if_pos ⟨by omega, cc.2⟩]
          · rw [if_neg cc, if_neg (fun hh => cc ⟨by omega, hh.2⟩)]
      · rw [if_neg c2, ih (i + 1) e (by omega) (by omega)]
        by_cases ca : a = 8000 + i
        · subst ca
          rw [if_neg (by omega), if_neg (fun hh => c2 hh.2.2)]
        · by_cases cc : (8000 + i ≤ a ∧ a < 8000 + e.1 8 2) ∧ u = 5 ∧ e.1 a 0 = r ∧ e.1 a 1 = ev
          · rw [if_pos cc, if_pos ⟨by omega, cc.2⟩]
          · rw [if_neg cc, if_neg (fun hh => cc ⟨by omega, hh.2⟩)]
    · rw [if_neg c, if_neg (by omega)]
/-- a run's timers, those of one event dropped -/
theorem drT_row (r0 : 0 ≤ r) (hT : TmO e r) : (∀ v ∈ eL (pDrT r ev e) (73000 + r), v ∈ eL e (73000 + r) ∧ v ≠ ev) ∧ ∀ c, c ≠ 73000 + r → c ≠ 74000 + r → eL (pDrT r ev e) c = eL e c := by
  obtain ⟨z1, z2⟩ := drTL_z (ev := ev) r0 ((eL e (73000 + r)).length + 1 + 1) ((eL e (73000 + r)).length - 1) e (by omega) (by omega) hT.1 (by omega) (fun i v hi hv => by
    rw [List.getElem?_eq_none (by omega)] at hv
    exact absurd hv (by simp))
  have t1 := ((drTL_T (v := ev) r0 ((eL e (73000 + r)).length + 1 + 1) ((eL e (73000 + r)).length - 1) e).2.2 hT (by omega)).1
  refine ⟨fun v hv => ?_, z2⟩
  obtain ⟨i, hi⟩ := List.getElem?_of_mem hv
  have hi1 : i < (eL (pDrTL r ev ((eL e (73000 + r)).length + 1 + 1) ((eL e (73000 + r)).length - 1) e) (73000 + r)).length := by
    by_cases c : i < (eL (pDrTL r ev ((eL e (73000 + r)).length + 1 + 1) ((eL e (73000 + r)).length - 1) e) (73000 + r)).length
    · exact c
    · rw [List.getElem?_eq_none (by unfold pDrT; omega)] at hi
      exact absurd hi (by simp)
  have hv1 : (eL (pDrTL r ev ((eL e (73000 + r)).length + 1 + 1) ((eL e (73000 + r)).length - 1) e) (73000 + r))[i] = v := by
    have := List.getElem?_eq_getElem hi1
    unfold pDrT at hi
    rw [this] at hi
    exact Option.some.inj hi
  have hm : (v, (eL (pDrTL r ev ((eL e (73000 + r)).length + 1 + 1) ((eL e (73000 + r)).length - 1) e) (74000 + r))[i]'(by omega)) ∈ (eL (pDrTL r ev ((eL e (73000 + r)).length + 1 + 1) ((eL e (73000 + r)).length - 1) e) (73000 + r)).zip (eL (pDrTL r ev ((eL e (73000 + r)).length + 1 + 1) ((eL e (73000 + r)).length - 1) e) (74000 + r)) := by
    have hz : i < ((eL (pDrTL r ev ((eL e (73000 + r)).length + 1 + 1) ((eL e (73000 + r)).length - 1) e) (73000 + r)).zip (eL (pDrTL r ev ((eL e (73000 + r)).length + 1 + 1) ((eL e (73000 + r)).length - 1) e) (74000 + r))).length := by rw [List.length_zip]; omega
    have hq : ((eL (pDrTL r ev ((eL e (73000 + r)).length + 1 + 1) ((eL e (73000 + r)).length - 1) e) (73000 + r)).zip (eL (pDrTL r ev ((eL e (73000 + r)).length + 1 + 1) ((eL e (73000 + r)).length - 1) e) (74000 + r)))[i]? = some (v, (eL (pDrTL r ev ((eL e (73000 + r)).length + 1 + 1) ((eL e (73000 + r)).length - 1) e) (74000 + r))[i]'(by omega)) := by
      rw [List.getElem?_eq_getElem hz, List.getElem_zip, hv1]
    exact List.mem_of_getElem? hq
  rw [z1] at hm
  obtain ⟨m1, m2⟩ := List.mem_filter.mp hm
  exact ⟨(List.of_mem_zip m1).1, of_decide_eq_true m2⟩
theorem HK.drT (h : HK S D T W X e) (r0 : 0 ≤ r) (r1 : r < 1000) (hT : TmO e r) : HK S D T W X (pDrT r ev e) := by
  have hc := h.cn
  have n7 := hc.1
  obtain ⟨t1, t2⟩ := drT_row (ev := ev) r0 hT
  have b0 : (pDrT r ev e).1 = e.1 := drT_1
  have b1 := (drTL_T (v := ev) r0 ((eL e (73000 + r)).length + 1 + 1) ((eL e (73000 + r)).length - 1) e).1
  refine h.sub hc.drT (by rw [b0]) (by rw [b0]; exact h.1.1.2.1) (h.pr.of (by rw [b0]) fun _ _ _ => by rw [b0]) (fun q q0 q1 => ⟨by unfold hN; rw [b0], congrFun b1 q⟩) (fun q q0 q1 => t2 _ (by omega) (by omega)) (fun p p0 p1 d => (Dead.eq (by rw [b0])).mpr d) fun k q v w g => g.mono (fun _ _ _ g => g) (by rw [b0]) (by rw [b0]) (fun p p0 p1 g => ?_) (fun q v q0 q1 hv => ?_) (fun p p0 p1 _ => by rw [b0]; exact ⟨rfl, rfl⟩) fun p p0 p1 d => (Dead.eq (by rw [b0])).mpr d
  · rw [b0] at g ⊢
    exact ⟨g, rfl, rfl⟩
  · by_cases c : q = r
    · rw [c] at hv ⊢
      exact (t1 v hv).1
    · rw [t2 _ (by omega) (by omega)] at hv
      exact hv
theorem NZ.hn (h : NZ e) (h1 : e'.1 = e.1) : NZ e' := h.of (by rw [h1]) (fun r _ _ d => (Dead.eq (by rw [h1])).mpr d) fun r _ _ => by
  unfold hN
  rw [h1]
  omega
/-- one child that may be dropped -/
theorem drC1 (h : HK S D T W X e) (z : NZ e) (i0 : 0 ≤ i) (i1 : i < e.1 7 2) : HK S D T W X (eS (if e.1 (7000 + i) 6 = 0 then (pCan i e).2 else e) (7000 + i) 4 (-1)) ∧ NZ (eS (if e.1 (7000 + i) 6 = 0 then (pCan i e).2 else e) (7000 + i) 4 (-1)) ∧ (∀ a u : Int, a < 71000 → a ≠ 68 → a ≠ 3 → a ≠ 4 → (a ≠ 7000 + i ∨ u ≠ 4) → (eS (if e.1 (7000 + i) 6 = 0 then (pCan i e).2 else e) (7000 + i) 4 (-1)).1 a u = e.1 a u) ∧ ∀ c, eL (eS (if e.1 (7000 + i) 6 = 0 then (pCan i e).2 else e) (7000 + i) 4 (-1)) c = eL e c := by
  have hc := h.cn
  have n7 := hc.1
  have key : HK S D T W X (if e.1 (7000 + i) 6 = 0 then (pCan i e).2 else e) ∧ NZ (if e.1 (7000 + i) 6 = 0 then (pCan i e).2 else e) ∧ (∀ a u : Int, a < 71000 → a ≠ 68 → a ≠ 3 → a ≠ 4 → (if e.1 (7000 + i) 6 = 0 then (pCan i e).2 else e).1 a u = e.1 a u) ∧ ∀ c, eL (if e.1 (7000 + i) 6 = 0 then (pCan i e).2 else e) c = eL e c := by
    by_cases c : e.1 (7000 + i) 6 = 0
    · rw [if_pos c]
      refine ⟨h.can z i0 i1 fun d => d.1 c, z.cs (cs_can hc i0 i1), fun a u h1 h2 h3 h4 => ?_, fun c' => ?_⟩
      · unfold pCan
        split
        · rfl
        · exact arr_a h2 h3 (by omega) (by omega) (Or.inl h4)
      · unfold pCan
        split
        · rfl
        · exact arr_l
    · rw [if_neg c]
      exact ⟨h, z, fun _ _ _ _ _ _ => rfl, fun _ => rfl⟩
  generalize (if e.1 (7000 + i) 6 = 0 then (pCan i e).2 else e) = e2 at key
  obtain ⟨k1, k2, k3, k4⟩ := key
  have e7 : e2.1 7 2 = e.1 7 2 := k3 _ _ (by decide) (by decide) (by decide) (by decide)
  have pa : ∀ a u : Int, a ≠ 7000 + i ∨ u ≠ 4 → (eS e2 (7000 + i) 4 (-1)).1 a u = e2.1 a u := fun a u h => by
    by_cases c : a = 7000 + i
    · rw [c]; exact eS_j (by omega)
    · exact eS_a c
  exact ⟨k1.part1 i0 (by omega), k2.of (pa _ _ (by omega)) (fun r r0 r1 d => (Dead.eq (pa _ _ (by omega))).mpr d) fun r r0 r1 => by unfold hN; rw [pa _ _ (by omega)]; omega, fun a u h1 h2 h3 h4 h5 => (pa _ _ h5).trans (k3 a u h1 h2 h3 h4), fun c => k4 c⟩
theorem HK.drC (hr : 0 ≤ r) : ∀ (n : Nat) (i : Int) (e : ES), 0 ≤ i → e.1 7 2 ≤ i + n → HK S D T W X e → NZ e → (HK S D T W X (pDrCL r ev n i e) ∧ NZ (pDrCL r ev n i e)) ∧ (∀ a u : Int, a < 71000 → a ≠ 68 → a ≠ 3 → a ≠ 4 → (a < 7000 ∨ 7000 + e.1 7 2 ≤ a ∨ u ≠ 4) → (pDrCL r ev n i e).1 a u = e.1 a u) ∧ (∀ c, eL (pDrCL r ev n i e) c = eL e c) ∧ ∀ c : Int, 0 ≤ c → c < e.1 7 2 → (pDrCL r ev n i e).1 (7000 + c) 4 = r → (pDrCL r ev n i e).1 (7000 + c) 5 = ev → c < i ∧ e.1 (7000 + c) 4 = r ∧ e.1 (7000 + c) 5 = ev := by
  intro n
  induction n with
  | zero =>
    intro i e i0 hn h z
    exact ⟨⟨h, z⟩, fun _ _ _ _ _ _ _ => rfl, fun _ => rfl, fun c c0 c1 q1 q2 => ⟨by omega, q1, q2⟩⟩
  | succ n ih =>
    intro i e i0 hn h z
    unfold pDrCL
    by_cases c : i < e.1 7 2
    · rw [if_pos c]
      by_cases c2 : e.1 (7000 + i) 4 = r ∧ e.1 (7000 + i) 5 = ev
      · rw [if_pos c2]
        obtain ⟨k1, k2, k3, k4⟩ := drC1 h z i0 c
        have k5 : (eS (if e.1 (7000 + i) 6 = 0 then (pCan i e).2 else e) (7000 + i) 4 (-1)).1 (7000 + i) 4 = -1 := eS_e
        generalize (eS (if e.1 (7000 + i) 6 = 0 then (pCan i e).2 else e) (7000 + i) 4 (-1)) = e2 at k1 k2 k3 k4 k5
        have n7 := h.cn.1
        have e7 : e2.1 7 2 = e.1 7 2 := k3 _ _ (by decide) (by decide) (by decide) (by decide) (by omega)
        obtain ⟨g1, g2, g3, g4⟩ := ih (i + 1) e2 (by omega) (by rw [e7]; omega) k1 k2
        refine ⟨g1, fun a u h1 h2 h3 h4 h5 => (g2 a u h1 h2 h3 h4 (by rw [e7]; exact h5)).trans (k3 a u h1 h2 h3 h4 (by omega)), fun c => (g3 c).trans (k4 c), fun p p0 p1 q1 q2 => ?_⟩
        obtain ⟨u1, u2, u3⟩ := g4 p p0 (by rw [e7]; exact p1) q1 q2
        by_cases cp : p = i
        · rw [cp, k5] at u2
          omega
        · rw [k3 _ _ (by omega) (by omega) (by omega) (by omega) (by omega)] at u2 u3
          exact ⟨by omega, u2, u3⟩
      · rw [if_neg c2]
        obtain ⟨g1, g2, g3, g4⟩ := ih (i + 1) e (by omega) (by omega) h z
        refine ⟨g1, g2, g3, fun p p0 p1 q1 q2 => ?_⟩
        obtain ⟨u1, u2, u3⟩ := g4 p p0 p1 q1 q2
        by_cases cp : p = i
        · subst cp
          exact absurd ⟨u2, u3⟩ c2
        · exact ⟨by omega, u2, u3⟩
    · rw [if_neg c]
      exact ⟨⟨h, z⟩, fun _ _ _ _ _ _ _ => rfl, fun _ => rfl, fun p p0 p1 q1 q2 => ⟨by omega, q1, q2⟩⟩
theorem HK.drop (h : HK S D T W X e) (z : NZ e) (r0 : 0 ≤ r) (r1 : r < 1000) (hT : TmO e r) (hX : ∀ k : Int, ¬ X k r ev) : (HK S D T W X (pDrop r ev e) ∧ NZ (pDrop r ev e)) ∧ ∀ k w : Int, ¬ Lk X (pDrop r ev e) k r ev w := by
  have hc := h.cn
  have n7 := hc.1
  have n8 := hc.2.1
  have a1 := drA_pt (r := r) (ev := ev) 61 0 e (by decide) (by omega)
  have a2 := (drA_a (r := r) (v := ev) 61 0 e (by decide) (by omega)).2.1
  have h1 := HK.drA (r := r) (ev := ev) 61 0 e (Int.le_refl _) h
  have aL : ∀ c, eL (pDrAL r ev 61 0 e) c = eL e c := fun c => by unfold eL; rw [a2]
  have hT1 : TmO (pDrAL r ev 61 0 e) r := by
    unfold TmO
    rw [aL, aL]
    exact hT
  have e7 : (pDrAL r ev 61 0 e).1 7 2 = e.1 7 2 := by rw [a1, if_neg (by omega)]
  have z1 : NZ (pDrAL r ev 61 0 e) := z.of e7 (fun p p0 p1 d => (Dead.eq (by rw [a1, if_neg (by omega)])).mpr d) fun p p0 p1 => by
    unfold hN
    rw [a1, if_neg (by omega)]
    omega
  have h2 := h1.drT (ev := ev) r0 r1 hT1
  have z2 : NZ (pDrT r ev (pDrAL r ev 61 0 e)) := z1.hn drT_1
  obtain ⟨t1, t2⟩ := drT_row (ev := ev) r0 hT1
  have b0 : (pDrT r ev (pDrAL r ev 61 0 e)).1 = (pDrAL r ev 61 0 e).1 := drT_1
  obtain ⟨g1, g2, g3, g4⟩ := HK.drC (ev := ev) r0 31 0 _ (Int.le_refl _) (by rw [b0, e7]; omega) h2 z2
  rw [b0, e7] at g2 g4
  refine ⟨g1, fun k w g => ?_⟩
  have m7 : (pDrop r ev e).1 7 2 = e.1 7 2 := (g2 7 2 (by decide) (by decide) (by decide) (by decide) (by omega)).trans e7
  have m8 : (pDrop r ev e).1 8 2 = e.1 8 2 := (g2 8 2 (by decide) (by decide) (by decide) (by decide) (by omega)).trans (by rw [a1, if_neg (by omega)])
  rcases g with ⟨-, g⟩ | ⟨-, q2, q3, q4, q5⟩ | ⟨-, -, q3, q4⟩ | ⟨-, ⟨q2, q3⟩, -, q6, q7⟩
  · exact hX k g
  · rw [m8] at q2
    have m : ∀ u : Int, (pDrop r ev e).1 (8000 + w) u = (pDrAL r ev 61 0 e).1 (8000 + w) u := fun u => g2 _ _ (by omega) (by omega) (by omega) (by omega) (by omega)
    rw [m, a1] at q3 q4 q5
    rw [if_neg (by omega)] at q4 q5
    rw [if_pos ⟨by omega, rfl, q4, q5⟩] at q3
    exact q3 rfl
  · have : ev ∈ eL (pDrT r ev (pDrAL r ev 61 0 e)) (73000 + r) := by
      rw [← g3]
      exact q4
    exact (t1 ev this).2 rfl
  · rw [m7] at q2
    have := (g4 w q2.1 q2.2 q6 q7).1
    omega
end LN4
