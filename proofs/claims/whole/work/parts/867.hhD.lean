/-! ALL THAT STANDS BETWEEN THE CALLS: died, moved, brought in, backfilled. -/
section HHD
variable {e e' e1 e2 : ES} {Z : Int → Prop} {S D T S' D' T' a b c d i j k q r v w N M p y t o p1 p2 p3 p4 p5 p6 : Int} {n : Nat} {s : TS} {l : List Int}
theorem RunF.of2 (h : RunF e i) (n7 : e'.1 7 2 = e.1 7 2) (n9 : e'.1 9 2 = e.1 9 2) (hu : ∀ u : Int, u = 1 ∨ u = 2 ∨ u = 4 ∨ u = 5 ∨ u = 8 ∨ u = 10 → e'.1 (7000 + i) u = e.1 (7000 + i) u) (h3 : 0 ≤ e'.1 (7000 + i) 3 ∧ e'.1 (7000 + i) 3 < e.1 (48 + 4 * e.1 (7000 + i) 1 + 1) 2) (h6 : 0 ≤ e'.1 (7000 + i) 6 ∧ e'.1 (7000 + i) 6 ≤ 6) (hn : hN e' i = hN e i) (hv : ∀ t : Int, 0 ≤ t → t < 4 → e'.1 (48 + 4 * t + 1) 2 = e.1 (48 + 4 * t + 1) 2) : RunF e' i := by
  obtain ⟨q1, q2, q3, q4, q5, q6, q7, q8⟩ := h
  have hb := hv _ q1.1 q1.2
  unfold RunF
  rw [hu 1 (by omega), hu 2 (by omega), hu 4 (by omega), hu 5 (by omega), hu 8 (by omega), hu 10 (by omega), hb, n9, n7, hn]
  exact ⟨q1, q2, h3, q4, q5, h6, q7, q8⟩
theorem FBi.mk5 (h : FBi Z e) (hc : CN e) (e7 : e'.1 7 2 = e.1 7 2) (e8 : e'.1 8 2 = e.1 8 2) (hR : ∀ r : Int, 0 ≤ r → r < e.1 7 2 → RunF e' r) (h8 : ∀ a u : Int, 8000 ≤ a → a < 8060 → e'.1 a u = e.1 a u) (hD : ∀ r : Int, 0 ≤ r → r < e.1 7 2 → (Dead e' r ↔ Dead e r)) (hl : ∀ c : Int, 73000 ≤ c → c < 76000 → eL e' c = eL e c) (hT : TgF e') : FBi Z e' := by
  have n7 := hc.1
  have n8 := hc.2.1
  obtain ⟨f1, f2, f3, f4, f5⟩ := h
  refine ⟨fun j j0 j1 => hR j j0 (by omega), fun j j0 j1 => ?_, fun p p0 p1 => ?_, fun j j0 j1 => ?_, hT⟩
  · rw [e7] at j1
    unfold TmF
    rw [hl _ (by omega) (by omega), hl _ (by omega) (by omega), hD j j0 j1]
    exact f2 j j0 j1
  · rw [e8] at p1
    obtain ⟨q1, q2, q3⟩ := f3 p p0 p1
    unfold AcF WAs WAct
    simp only [fun u => h8 (8000 + p) u (by omega) (by omega)]
    rw [e7, hD _ q2.1 q2.2]
    exact ⟨q1, q2, q3⟩
  · rw [e7] at j1
    rw [hl _ (by omega) (by omega)]
    exact f4 j j0 j1
theorem TgF.eq (h : TgF e) (h7 : e'.1 7 2 = e.1 7 2) (hl : eL e' 14 = eL e 14) (h1 : e'.1 4 11 = e.1 4 11) (h2 : e'.1 4 12 = e.1 4 12) : TgF e' := by
  unfold TgF
  rw [hl, h7, h1, h2]
  exact h
/-- a worker loses what it kept -/
theorem HH.s12 (h : HH S D T e) (r0 : 0 ≤ r) (r1 : r < e.1 7 2) : HH S D T (eS e (7000 + r) 12 (-1)) := by
  have hc := h.cn
  have n7 := hc.1
  have hn := h.hn
  have pa : ∀ b u : Int, b ≠ 7000 + r ∨ u ≠ 12 → (eS e (7000 + r) 12 (-1)).1 b u = e.1 b u := fun b u hb => by rw [es_pt, if_neg (by omega)]
  have e7 : (eS e (7000 + r) 12 (-1)).1 7 2 = e.1 7 2 := pa _ _ (by omega)
  have e9 : (eS e (7000 + r) 12 (-1)).1 9 2 = e.1 9 2 := pa _ _ (by omega)
  have eN : ∀ q : Int, 0 ≤ q → q < e.1 7 2 → hN (eS e (7000 + r) 12 (-1)) q = hN e q := fun q q0 q1 => pa _ _ (by omega)
  have hD : ∀ q : Int, Dead (eS e (7000 + r) 12 (-1)) q ↔ Dead e q := fun q => Dead.eq (pa _ _ (by omega))
  have hAR : ∀ q : Int, 0 ≤ q → q < e.1 7 2 → AR (eH e q) (hN e q) (eH (eS e (7000 + r) 12 (-1)) q) (hN (eS e (7000 + r) 12 (-1)) q) := fun q q0 q1 => by
    rw [eN q q0 q1]
    exact AR.rf
  obtain ⟨hp, hF, k1, k2, k3, ⟨k4, k5⟩, k6⟩ := h
  refine ⟨hp.es0 (by omega) (by omega), hF.mk5 hc e7 (pa _ _ (by omega)) (fun q q0 q1 => (hF.1 q q0 q1).of2 e7 e9 (fun u hu => pa _ _ (by omega)) (by rw [pa _ _ (by omega)]; exact (hF.1 q q0 q1).2.2.1) (by rw [pa _ _ (by omega)]; exact (hF.1 q q0 q1).2.2.2.2.2.1) (eN q q0 q1) fun t t0 t1 => pa _ _ (by omega)) (fun a u a0 a1 => pa _ _ (by omega)) (fun q _ _ => hD q) (fun _ _ _ => rfl) (hF.2.2.2.2.eq e7 rfl (pa _ _ (by omega)) (pa _ _ (by omega))), k1.fr e7 (pa _ _ (by omega)) (pa _ _ (by omega)) (pa _ _ (by omega)) (fun q _ _ => (hD q).mpr) (fun q q0 q1 => ⟨by rw [eN q q0 q1]; omega, fun p p0 p1 => ⟨rfl, pa _ _ (by omega)⟩⟩), fun q q0 q1 hDq h12 => ?_, fun q q0 q1 h12 => ?_, ⟨fun k k0 k1' hDk => ?_, fun k k0 k1' => ?_⟩, fun q q0 q1 hDq j j0 j1 => ?_⟩
  · rw [e7] at q1
    by_cases c : q = r
    · subst c
      rw [eS_e] at h12
      omega
    · exact KpR.ar (e := e) (k2 q q0 q1 fun g => hDq ((hD q).mpr g)) (hAR q q0 q1) (hn q q0 q1) (fun u hu => pa _ _ (by omega)) (fun v _ => rfl) (fun g => ⟨by rw [← pa 16 7 (by omega)]; exact g, rfl, rfl⟩) h12
  · rw [e7] at q1
    by_cases c : q = r
    · subst c
      rw [eS_e] at h12
      omega
    · have ht := (hF.1 q q0 q1).1
      rw [pa (7000 + q) 12 (by omega)] at h12
      rw [pa (7000 + q) 13 (by omega), pa (7000 + q) 1 (by omega), pa _ _ (by omega)]
      exact k3 q q0 q1 h12
  · rw [e9] at k1'
    obtain ⟨q0, q1⟩ := k5 k k0 k1'
    have hk : ∀ u : Int, (eS e (7000 + r) 12 (-1)).1 (9000 + k) u = e.1 (9000 + k) u := fun u => pa _ _ (by omega)
    rw [hk 1] at hDk
    exact TkO.ar (k4 k k0 k1' fun g => hDk ((hD _).mpr g)) (fun u _ => hk u) rfl (hAR _ q0 q1) (hn _ q0 q1) (pa _ _ (by omega))
  · rw [e9] at k1'
    rw [e7, pa (9000 + k) 1 (by omega)]
    exact k5 k k0 k1'
  · rw [e7] at q1
    rw [eN q q0 q1] at j1
    exact k6 q q0 q1 (fun g => hDq ((hD q).mpr g)) j j0 j1
theorem hh_dieL : ∀ (n : Nat) (c i : Int) (e : ES), HH S D T e → 0 ≤ i → HH S D T (pDieL w n c i e).2 := by
  intro n
  induction n with
  | zero => intro c i e h _; exact h
  | succ n ih =>
    intro c i e h i0
    have n9 := h.cn.2.2.1
    unfold pDieL
    split
    · split
      · exact ih _ _ _ (h.es (h.1.es0 (by omega) (by omega)) (by omega)) (by omega)
      · exact ih _ _ _ h (by omega)
    · exact h
theorem hh_die2 : ∀ (n : Nat) (i : Int) (e : ES), HH S D T e → 0 ≤ i → HH S D T (pDie2 w n i e) := by
  intro n
  induction n with
  | zero => intro i e h _; exact h
  | succ n ih =>
    intro i e h i0
    unfold pDie2
    split
    · rename_i c
      refine ih _ _ ?_ (by omega)
      by_cases c2 : e.1 (7000 + i) 12 = w
      · rw [if_pos c2]
        exact h.s12 i0 c
      · rw [if_neg c2, es_id]
        exact h
    · exact h
theorem hh_die (h : HH S D T e) : HH S D T (pcDie p1 e).2 := by
  unfold pcDie
  split
  · exact hh_die2 _ _ _ (hh_dieL _ _ _ _ h (Int.le_refl _)) (Int.le_refl _)
  · exact h.thr
theorem hh_move (h : HH S D T e) : HH S D T (pcMove p1 p2 e).2 := by
  have hp := ph_move (p1 := p1) (p2 := p2) h.1
  have hc := h.cn
  have n7 := hc.1
  have n8 := hc.2.1
  unfold pcMove at hp ⊢
  by_cases c : 0 ≤ p1 ∧ p1 < e.1 7 2
  · rw [if_pos c] at hp ⊢
    by_cases c2 : 0 ≤ p2 ∧ p2 < e.1 (48 + 4 * e.1 (7000 + p1) 1 + 1) 2
    · rw [if_pos c2] at hp ⊢
      by_cases c3 : e.1 (7000 + p1) 6 = 0 ∨ e.1 (7000 + p1) 6 = 6
      · rw [if_pos c3] at hp ⊢
        have ht := (h.2.1.1 p1 c.1 c.2).1
        have pa : ∀ b u : Int, b ≠ 7000 + p1 ∨ (u ≠ 3 ∧ u ≠ 6) → (pMv2 p1 p2 e).1 b u = e.1 b u := fun b u hb => by
          unfold pMv2
          rw [es_pt, if_neg (by omega), es_pt, if_neg (by omega)]
        have p3 : (pMv2 p1 p2 e).1 (7000 + p1) 3 = p2 := by
          unfold pMv2
          rw [es_pt, if_neg (by omega), eS_e]
        have p6 : (pMv2 p1 p2 e).1 (7000 + p1) 6 = 0 := eS_e
        have hD : ∀ q : Int, Dead (pMv2 p1 p2 e) q ↔ Dead e q := fun q => by
          by_cases cq : q = p1
          · subst cq
            unfold Dead
            rw [p6]
            omega
          · exact Dead.eq (pa _ _ (by omega))
        have e7 : (pMv2 p1 p2 e).1 7 2 = e.1 7 2 := pa _ _ (by omega)
        have hF : FBi nZ (pMv2 p1 p2 e) := h.2.1.mk5 hc e7 (pa _ _ (by omega)) (fun q q0 q1 => (h.2.1.1 q q0 q1).of2 e7 (pa _ _ (by omega)) (fun u hu => pa _ _ (by omega)) (by
          by_cases cq : q = p1
          · subst cq
            rw [p3]
            exact c2
          · rw [pa _ _ (by omega)]
            exact (h.2.1.1 q q0 q1).2.2.1) (by
          by_cases cq : q = p1
          · subst cq
            rw [p6]
            decide
          · rw [pa _ _ (by omega)]
            exact (h.2.1.1 q q0 q1).2.2.2.2.2.1) (pa _ _ (by omega)) fun t t0 t1 => pa _ _ (by omega)) (fun a u a0 a1 => pa _ _ (by omega)) (fun q _ _ => hD q) (fun _ _ _ => rfl) (h.2.1.2.2.2.2.eq e7 rfl (pa _ _ (by omega)) (pa _ _ (by omega)))
        have hK : KK (pMv2 p1 p2 e) := h.2.2.fr h.2.1.1 h.hn hc (fun a u hau => pa a u (by omega)) (fun t t0 t1 => by rw [pa _ _ (by omega)]; omega) (fun _ _ _ _ _ _ => rfl) (fun r _ _ => (hD r).mpr) (fun _ _ _ => rfl) fun r r0 g => ⟨by rw [← pa 16 7 (by omega)]; exact g, rfl, rfl⟩
        have hp2 : PHs S D T (pMv2 p1 p2 e) := by
          have h1 : PHs S D T (eS e (7000 + p1) 3 p2) := h.1.es0 (by omega) (by omega)
          have e7' : (eS e (7000 + p1) 3 p2).1 7 2 = e.1 7 2 := by rw [es_pt, if_neg (by omega)]
          have e6 : (eS e (7000 + p1) 3 p2).1 (7000 + p1) 6 = e.1 (7000 + p1) 6 := by rw [es_pt, if_neg (by omega)]
          exact h1.st0 c.1 (by omega) (al_nd.mp (by rw [e6]; exact c3)) (Or.inl rfl)
        have hh : HH S D T (pMv2 p1 p2 e) := ⟨hp2, hF, hK⟩
        exact hh.qm
      · rw [if_neg c3]; exact h.thr
    · rw [if_neg c2]; exact h.thr
  · rw [if_neg c]; exact h.thr
theorem br1_b {u : Int} (h : a ≠ 4 ∨ u ≠ 12) (h2 : a < 7000 ∨ 7030 ≤ a ∨ u ≠ 11) (hv : ∀ v ∈ eL e 14, 0 ≤ v ∧ v < 30000) (hn : e.1 7 2 ≤ 30) : (pBr1 e).1 a u = e.1 a u := by
  by_cases c : a < 7000 ∨ u ≠ 11
  · exact br1_a h c hv
  · have hg : 0 ≤ (eL e 14).getD (e.1 4 12).toNat 0 := by
      rw [List.getD_eq_getElem?_getD]
      cases hh : (eL e 14)[(e.1 4 12).toNat]? with
      | none => exact Int.le_refl _
      | some w => exact (hv w (List.mem_of_getElem? hh)).1
    unfold pBr1
    rw [es_pt, if_neg (by omega)]
    split
    · rw [es_pt, if_neg (by omega)]
    · rfl
/-- one TAG is brought in -/
theorem hh_br1 (h : HH S D T e) (hlt : e.1 4 12 < e.1 4 11) (hp : PHs S D T (pBr1 e)) : HH S D T (pBr1 e) := by
  have hc := h.cn
  have n7 := hc.1
  have hn := h.hn
  obtain ⟨-, ⟨f1, f2, f3, f4, f5⟩, hK⟩ := h
  have hF : FBi nZ e := ⟨f1, f2, f3, f4, f5⟩
  have hv : ∀ v ∈ eL e 14, 0 ≤ v ∧ v < 30000 := fun v hv => by
    have := f5.2.2 v hv
    omega
  have pa : ∀ b u : Int, (b ≠ 4 ∨ u ≠ 12) → (b < 7000 ∨ 7030 ≤ b ∨ u ≠ 11) → (pBr1 e).1 b u = e.1 b u := fun b u h1 h2 => br1_b h1 h2 hv n7.2
  have p12 : (pBr1 e).1 4 12 = e.1 4 12 + 1 := eS_e
  have e2 : (pBr1 e).2 = e.2 := by
    unfold pBr1
    split <;> rfl
  have eN : ∀ q : Int, 0 ≤ q → q < e.1 7 2 → hN (pBr1 e) q = hN e q := fun q q0 q1 => pa _ _ (by omega) (by omega)
  have hD : ∀ q : Int, 0 ≤ q → q < e.1 7 2 → (Dead (pBr1 e) q ↔ Dead e q) := fun q q0 q1 => Dead.eq (pa _ _ (by omega) (by omega))
  have e7 : (pBr1 e).1 7 2 = e.1 7 2 := pa _ _ (by omega) (by omega)
  have eLL : ∀ c, eL (pBr1 e) c = eL e c := fun c => by unfold eL; rw [e2]
  refine ⟨hp, hF.mk5 hc e7 (pa _ _ (by omega) (by omega)) (fun q q0 q1 => (f1 q q0 q1).of2 e7 (pa _ _ (by omega) (by omega)) (fun u hu => pa _ _ (by omega) (by omega)) (by rw [pa _ _ (by omega) (by omega)]; exact (f1 q q0 q1).2.2.1) (by rw [pa _ _ (by omega) (by omega)]; exact (f1 q q0 q1).2.2.2.2.2.1) (eN q q0 q1) fun t t0 t1 => pa _ _ (by omega) (by omega)) (fun a u a0 a1 => pa _ _ (by omega) (by omega)) hD (fun c _ _ => eLL c) ?_, hK.fr f1 hn hc (fun a u hau => pa a u (by omega) (by omega)) (fun t t0 t1 => by rw [pa _ _ (by omega) (by omega)]; omega) (fun _ _ _ _ _ _ => eLL _) (fun r r0 r1 => (hD r r0 r1).mpr) (fun _ _ _ => by unfold eH; rw [e2]) fun r r0 g => ⟨by rw [← pa 16 7 (by omega) (by omega)]; exact g, by unfold eT; rw [e2], by unfold eB; rw [e2]⟩⟩
  obtain ⟨g1, g2, g3⟩ := f5
  unfold TgF
  rw [eLL, e7, p12, pa 4 11 (by omega) (by omega)]
  exact ⟨by omega, g2, g3⟩
end HHD
