/-! FIELDS: activities, timers, another run, tags; signals put. -/
section GXB
variable {e e' e1 e2 : ES} {Z Z' Z2 : Int → Prop} {a b c i j k q r v w N M p x y t o ev tn ver inp par pe st kd due to nm sz : Int} {n : Nat} {s : TS}
/-- an activity ends -/
theorem gx_act2 (hc : CN e) (i0 : 0 ≤ i) (i1 : i < e.1 8 2) : GX Z Z e (eS e (8000 + i) 5 2) := by
  have n7 := hc.1
  have n8 := hc.2.1
  have pa : ∀ a u : Int, a ≠ 8000 + i ∨ u ≠ 5 → (eS e (8000 + i) 5 2).1 a u = e.1 a u := fun a u h => by rw [es_pt, if_neg (by omega)]
  have e7 : (eS e (8000 + i) 5 2).1 7 2 = e.1 7 2 := pa _ _ (by omega)
  have hD : ∀ j : Int, 0 ≤ j → j < e.1 7 2 → (Dead (eS e (8000 + i) 5 2) j ↔ Dead e j) := fun j j0 j1 => Dead.eq (pa _ _ (by omega))
  refine ⟨EX.of e7 (by rw [pa _ _ (by omega)]; omega) (fun j j0 j1 => ⟨pa _ _ (by omega), rfl⟩) (fun j u j0 j1 h4 _ => pa _ _ (by omega)) (fun j j0 j1 => (hD j j0 j1).mpr) (fun a u ha => pa _ _ (by omega)) (fun u _ _ => pa _ _ (by omega)) (fun _ _ _ => rfl) rfl (fun u => pa _ _ (by omega)) (pa _ _ (by omega)) (pa _ _ (by omega)), fun ⟨f1, f2, f3, f4, f5⟩ => ⟨fun j j0 j1 => ?_, fun j j0 j1 => ?_, fun p p0 p1 => ?_, fun j j0 j1 => ?_, ?_⟩, fun h => h.fr e7 (pa _ _ (by omega)) (pa _ _ (by omega)) (pa _ _ (by omega)) (fun j j0 j1 => (hD j j0 j1).mpr) fun j j0 j1 => ⟨by unfold hN; rw [pa _ _ (by omega)]; omega, fun p p0 p1 => ⟨rfl, pa _ _ (by omega)⟩⟩⟩
  · rw [e7] at j1
    exact (f1 j j0 j1).of (by omega) (pa _ _ (by omega)) j0 (fun u h4 _ => pa _ _ (by omega)) (Or.inl (pa _ _ (by omega))) (Or.inl (pa _ _ (by omega))) (by unfold hN; rw [pa _ _ (by omega)]; omega) fun t t0 t1 => pa _ _ (by omega)
  · rw [e7] at j1
    unfold TmF
    rw [hD j j0 j1]
    exact f2 j j0 j1
  · rw [pa _ _ (by omega)] at p1
    obtain ⟨q1, q2, q3⟩ := f3 p p0 p1
    by_cases c : p = i
    · subst c
      refine ⟨⟨wact5 q1.1 (by decide) (by decide), by rw [eS_j (by decide)]; exact q1.2.1, fun g => by rw [eS_e] at g; exact absurd g (by decide)⟩, ?_, fun g => ?_⟩
      · rw [eS_j (by decide), e7]
        exact q2
      · rw [eS_e] at g
        exact absurd rfl g
    · unfold AcF WAs WAct
      simp only [fun u => pa (8000 + p) u (by omega)]
      rw [e7, hD _ q2.1 q2.2]
      exact ⟨q1, q2, q3⟩
  · rw [e7] at j1
    exact f4 j j0 j1
  · unfold TgF
    rw [e7, pa _ _ (by omega), pa _ _ (by omega)]
    exact f5
/-- a run's timers change -/
theorem gx_rows (hc : CN e) (r0 : 0 ≤ r) (r1 : r < e.1 7 2) (h1 : e'.1 = e.1) (h2 : e'.2.1 = e.2.1) (h3 : e'.2.2.2 = e.2.2.2) (hl : ∀ c, c ≠ 73000 + r → c ≠ 74000 + r → eL e' c = eL e c) (hT : TmF Z e r → TmF Z e' r) : GX Z Z e e' := by
  have n7 := hc.1
  have n8 := hc.2.1
  have hD : ∀ j : Int, (Dead e' j ↔ Dead e j) := fun j => Dead.eq (by rw [h1])
  have hH : ∀ j, eH e' j = eH e j := fun j => congrFun h2 j
  have hNj : ∀ j, hN e' j = hN e j := fun j => by unfold hN; rw [h1]
  refine ⟨EX.of (by rw [h1]) (by rw [h1]; omega) (fun j j0 j1 => ⟨hNj j, hH j⟩) (fun j u j0 j1 h4 _ => by rw [h1]) (fun j _ _ => (hD j).mpr) (fun a u ha => by rw [h1]) (fun u _ _ => by rw [h1]) (fun c c0 c1 => hl c (by omega) (by omega)) h3 (fun u => by rw [h1]) (by rw [h1]) (by rw [h1]), fun ⟨f1, f2, f3, f4, f5⟩ => ⟨fun j j0 j1 => ?_, fun j j0 j1 => ?_, fun p p0 p1 => ?_, fun j j0 j1 => ?_, ?_⟩, fun h => h.fr (by rw [h1]) (by rw [h1]) (by rw [h1]) (by rw [h1]) (fun j _ _ => (hD j).mpr) fun j j0 j1 => ⟨by rw [hNj]; omega, fun p p0 p1 => ⟨by rw [hH], by rw [h1]⟩⟩⟩
  · rw [h1] at j1
    exact (f1 j j0 j1).of (by rw [h1]; omega) (by rw [h1]) j0 (fun u h4 _ => by rw [h1]) (Or.inl (by rw [h1])) (Or.inl (by rw [h1])) (by rw [hNj]; omega) fun t t0 t1 => by rw [h1]
  · rw [h1] at j1
    by_cases c : j = r
    · rw [c]
      exact hT (f2 r r0 r1)
    · unfold TmF
      rw [hD, hl _ (by omega) (by omega), hl _ (by omega) (by omega)]
      exact f2 j j0 j1
  · rw [h1] at p1
    obtain ⟨q1, q2, q3⟩ := f3 p p0 p1
    unfold AcF WAs WAct
    rw [h1, hD]
    exact ⟨q1, q2, q3⟩
  · rw [h1] at j1
    rw [hl _ (by omega) (by omega)]
    exact f4 j j0 j1
  · unfold TgF
    rw [h1, hl _ (by omega) (by omega)]
    exact f5
/-- timers of one event are dropped, from the k-th down -/
theorem gx_drTL (r0 : 0 ≤ r) : ∀ (n : Nat) (k : Int) (e : ES), CN e → r < e.1 7 2 → GX Z Z e (pDrTL r ev n k e) := by
  intro n
  induction n with
  | zero => intro k e _ _; exact GX.rf
  | succ n ih =>
    intro k e hc r1
    have n7 := hc.1
    unfold pDrTL
    by_cases c : k < 0
    · rw [if_pos c]
      exact GX.rf
    · rw [if_neg c]
      by_cases c2 : (eL e (73000 + r)).getD k.toNat 0 = ev
      · rw [if_pos c2]
        have w3 : eL (eLs (eLs e (73000 + r) ((eL e (73000 + r)).eraseIdx k.toNat)) (74000 + r) ((eL e (74000 + r)).eraseIdx k.toNat)) (73000 + r) = (eL e (73000 + r)).eraseIdx k.toNat := by rw [eLs_a (by omega), eLs_e]
        have w4 : eL (eLs (eLs e (73000 + r) ((eL e (73000 + r)).eraseIdx k.toNat)) (74000 + r) ((eL e (74000 + r)).eraseIdx k.toNat)) (74000 + r) = (eL e (74000 + r)).eraseIdx k.toNat := eLs_e
        have s1 : GX Z Z e (eLs (eLs e (73000 + r) ((eL e (73000 + r)).eraseIdx k.toNat)) (74000 + r) ((eL e (74000 + r)).eraseIdx k.toNat)) := by
          refine gx_rows hc r0 r1 rfl rfl rfl (fun c c1 c2 => by rw [eLs_a c2, eLs_a c1]) fun ⟨⟨q1, q2, q3⟩, q4, q5⟩ => ?_
          unfold TmF
          rw [w3, w4]
          refine ⟨⟨by rw [List.length_eraseIdx, List.length_eraseIdx, q1], fun v hv => q2 v (List.mem_of_mem_eraseIdx hv), fun v hv => q3 v (List.mem_of_mem_eraseIdx hv)⟩, q4.sublist (List.eraseIdx_sublist _ _), fun g => q5 fun h => g ?_⟩
          rw [h]
          rfl
        have hc1 : CN (eLs (eLs e (73000 + r) ((eL e (73000 + r)).eraseIdx k.toNat)) (74000 + r) ((eL e (74000 + r)).eraseIdx k.toNat)) := hc.of fun _ _ => rfl
        obtain ⟨u1, u2, u3⟩ := ih (k - 1) _ hc1 r1
        refine ⟨⟨⟨?_, ?_⟩, ?_⟩, fun z => u2 (s1.2.1 z), fun z => u3 (s1.2.2 z)⟩
        · exact u1.1.1
        · exact u1.1.2
        · obtain ⟨-, b2, b3, b4, b5, b6, b7⟩ := u1
          exact ⟨b2, b3, b4, b5, fun c c0 c1 => (b6 c c0 c1).trans (by rw [eLs_a (by omega), eLs_a (by omega)]), b7⟩
      · rw [if_neg c2]
        exact ih (k - 1) e hc r1
/-- another activity -/
theorem gx_new8 (hc : CN e) (hn : e.1 8 2 < 60) (r0 : 0 ≤ r) (r1 : r < e.1 7 2) (hd : ¬ Dead e r) (v0 : 0 ≤ v) (v1 : v < 524288) (k0 : 0 ≤ kd) (k1 : kd < 4) (x0 : 0 ≤ x) (x1 : x ≤ 999) (t0 : 0 ≤ t) (t1 : t < 1000000) : GX Z Z e (pNew 8 (fAct r v kd x t) e) := by
  have n7 := hc.1
  have n8 := hc.2.1
  have pa : ∀ a u : Int, a ≠ 8 → a ≠ 8000 + e.1 8 2 → (pNew 8 (fAct r v kd x t) e).1 a u = e.1 a u := fun a u h1 h2 => pNew_a h1 h2
  have e7 : (pNew 8 (fAct r v kd x t) e).1 7 2 = e.1 7 2 := pa _ _ (by omega) (by omega)
  have hD : ∀ j : Int, 0 ≤ j → j < e.1 7 2 → (Dead (pNew 8 (fAct r v kd x t) e) j ↔ Dead e j) := fun j j0 j1 => Dead.eq (pa _ _ (by omega) (by omega))
  refine ⟨EX.of e7 (by rw [pNew_n]; omega) (fun j j0 j1 => ⟨pa _ _ (by omega) (by omega), rfl⟩) (fun j u j0 j1 h4 _ => pa _ _ (by omega) (by omega)) (fun j j0 j1 => (hD j j0 j1).mpr) (fun a u ha => pa _ _ (by omega) (by omega)) (fun u _ _ => pa _ _ (by omega) (by omega)) (fun _ _ _ => rfl) rfl (fun u => pa _ _ (by omega) (by omega)) (pa _ _ (by omega) (by omega)) (pa _ _ (by omega) (by omega)), fun ⟨f1, f2, f3, f4, f5⟩ => ⟨fun j j0 j1 => ?_, fun j j0 j1 => ?_, fun p p0 p1 => ?_, fun j j0 j1 => ?_, ?_⟩, fun h => h.fr e7 (pa _ _ (by omega) (by omega)) (pa _ _ (by omega) (by omega)) (pa _ _ (by omega) (by omega)) (fun j j0 j1 => (hD j j0 j1).mpr) fun j j0 j1 => ⟨by unfold hN; rw [pa _ _ (by omega) (by omega)]; omega, fun p p0 p1 => ⟨rfl, pa _ _ (by omega) (by omega)⟩⟩⟩
  · rw [e7] at j1
    exact (f1 j j0 j1).of (by omega) (pa _ _ (by omega) (by omega)) j0 (fun u h4 _ => pa _ _ (by omega) (by omega)) (Or.inl (pa _ _ (by omega) (by omega))) (Or.inl (pa _ _ (by omega) (by omega))) (by unfold hN; rw [pa _ _ (by omega) (by omega)]; omega) fun t t0 t1 => pa _ _ (by omega) (by omega)
  · rw [e7] at j1
    unfold TmF
    rw [hD j j0 j1]
    exact f2 j j0 j1
  · rw [pNew_n] at p1
    by_cases c : p = e.1 8 2
    · subst c
      have hf : ∀ u : Int, (pNew 8 (fAct r v kd x t) e).1 (8000 + e.1 8 2) u = fAct r v kd x t u := fun u => pNew_f8 n8.1
      unfold AcF WAs WAct
      simp only [hf]
      rw [e7]
      refine ⟨⟨⟨⟨v0, v1⟩, ⟨k0, k1⟩, ⟨x0, x1⟩, ⟨t0, t1⟩, ⟨Int.le_refl _, by show (0 : Int) ≤ 2; decide⟩, ⟨Int.le_refl _, by show (0 : Int) < 1000000; decide⟩, ⟨Int.le_refl _, by show (0 : Int) < 2000000; decide⟩, ⟨Int.le_refl _, by show (0 : Int) < 1000000; decide⟩, ⟨Int.le_refl _, by show (0 : Int) < 1000000; decide⟩, Int.le_refl _, by show (0 : Int) ≤ 999; decide⟩, by show (0 : Int) ≤ 4; decide, fun _ => by show (0 : Int) ≤ 3; decide⟩, ⟨r0, r1⟩, fun _ => Or.inl fun d => hd ((hD r r0 r1).mp d)⟩
    · obtain ⟨q1, q2, q3⟩ := f3 p p0 (by omega)
      unfold AcF WAs WAct
      simp only [fun u => pa (8000 + p) u (by omega) (by omega)]
      rw [e7, hD _ q2.1 q2.2]
      exact ⟨q1, q2, q3⟩
  · rw [e7] at j1
    exact f4 j j0 j1
  · unfold TgF
    rw [e7, pa _ _ (by omega) (by omega), pa _ _ (by omega) (by omega)]
    exact f5
/-- another timer -/
theorem gx_addT (hc : CN e) (r0 : 0 ≤ r) (r1 : r < e.1 7 2) (hd : ¬ Dead e r) (v0 : 0 ≤ v) (v1 : v < 524288) (d0 : 0 ≤ due) (d1 : due < 2000000000) (hv : ∀ u ∈ eL e (73000 + r), u < v) : GX Z Z e (pAddT r v due e) := by
  have n7 := hc.1
  have n8 := hc.2.1
  have f1 : ∀ a u : Int, a ≠ 3 → (pAddT r v due e).1 a u = e.1 a u := fun a u ha => eS_a ha
  obtain ⟨t1, t2, t3⟩ := addT_r (r := r) (ev := v) (due := due) (e := e)
  have hD : ∀ j : Int, 0 ≤ j → j < e.1 7 2 → (Dead (pAddT r v due e) j ↔ Dead e j) := fun j j0 j1 => Dead.eq (f1 _ _ (by omega))
  refine ⟨EX.of (f1 _ _ (by omega)) (by rw [f1 _ _ (by omega)]; omega) (fun j j0 j1 => ⟨f1 _ _ (by omega), rfl⟩) (fun j u j0 j1 h4 _ => f1 _ _ (by omega)) (fun j j0 j1 => (hD j j0 j1).mpr) (fun a u ha => f1 _ _ (by omega)) (fun u _ _ => f1 _ _ (by omega)) (fun c c0 c1 => t3 c (by omega) (by omega)) rfl (fun u => f1 _ _ (by omega)) (by show (eS (eLs e (73000 + r) (eL e (73000 + r) ++ [v])) 3 1 (e.1 3 1 + 1)).1 3 0 = _; rw [eS_j (by decide)]; rfl) (f1 _ _ (by omega)), fun ⟨q1, q2, q3, q4, q5⟩ => ⟨fun j j0 j1 => ?_, fun j j0 j1 => ?_, fun p p0 p1 => ?_, fun j j0 j1 => ?_, ?_⟩, fun h => h.fr (f1 _ _ (by omega)) (f1 _ _ (by omega)) (f1 _ _ (by omega)) (f1 _ _ (by omega)) (fun j j0 j1 => (hD j j0 j1).mpr) fun j j0 j1 => ⟨by unfold hN; rw [f1 _ _ (by omega)]; omega, fun p p0 p1 => ⟨rfl, f1 _ _ (by omega)⟩⟩⟩
  · rw [f1 _ _ (by omega)] at j1
    exact (q1 j j0 j1).of (by rw [f1 _ _ (by omega)]; omega) (f1 _ _ (by omega)) j0 (fun u h4 _ => f1 _ _ (by omega)) (Or.inl (f1 _ _ (by omega))) (Or.inl (f1 _ _ (by omega))) (by unfold hN; rw [f1 _ _ (by omega)]; omega) fun t t0 t1 => f1 _ _ (by omega)
  · rw [f1 _ _ (by omega)] at j1
    obtain ⟨⟨w1, w2, w3⟩, w4, w5⟩ := q2 j j0 j1
    unfold TmF
    rw [hD j j0 j1]
    by_cases c : j = r
    · subst c
      rw [t1, t2]
      refine ⟨⟨by rw [List.length_append, List.length_append, w1]; rfl, fun u hu => ?_, fun u hu => ?_⟩, ?_, fun _ => Or.inl hd⟩
      · rcases List.mem_append.mp hu with g | g
        · exact w2 u g
        · rw [List.mem_singleton.mp g]
          exact ⟨v0, v1⟩
      · rcases List.mem_append.mp hu with g | g
        · exact w3 u g
        · rw [List.mem_singleton.mp g]
          exact ⟨d0, d1⟩
      · refine List.pairwise_append.mpr ⟨w4, List.pairwise_singleton _ _, fun u hu z hz => ?_⟩
        rw [List.mem_singleton.mp hz]
        exact hv u hu
    · rw [t3 _ (by omega) (by omega), t3 _ (by omega) (by omega)]
      exact ⟨⟨w1, w2, w3⟩, w4, w5⟩
  · rw [f1 _ _ (by omega)] at p1
    obtain ⟨w1, w2, w3⟩ := q3 p p0 p1
    unfold AcF WAs WAct
    simp only [fun u => f1 (8000 + p) u (by omega)]
    rw [f1 _ _ (by omega), hD _ w2.1 w2.2]
    exact ⟨w1, w2, w3⟩
  · rw [f1 _ _ (by omega)] at j1
    rw [t3 _ (by omega) (by omega)]
    exact q4 j j0 j1
  · unfold TgF
    rw [f1 _ _ (by omega), f1 _ _ (by omega), f1 _ _ (by omega), t3 _ (by omega) (by omega)]
    exact q5
/-- another run -/
theorem gx_nrun (hc : CN e) (hn : e.1 7 2 < 30) (ht : 0 ≤ t ∧ t < 4) (htn : 0 ≤ tn ∧ tn < 3) (hv : 0 ≤ ver ∧ ver < e.1 (48 + 4 * t + 1) 2) (hp : -1 ≤ par ∧ par < e.1 7 2) (hpe : 0 ≤ pe ∧ pe < 524288) : GX Z Z e (pNewRun t tn ver par pe e) := by
  have n7 := hc.1
  have n8 := hc.2.1
  have n9 := hc.2.2.1
  have f1 : ∀ a u : Int, a ≠ 7 → a ≠ 7000 + e.1 7 2 → a ≠ 71000 + e.1 7 2 → (pNewRun t tn ver par pe e).1 a u = e.1 a u := fun a u g1 g2 g3 => pNewRun_1 g1 g2 g3
  have fn : (pNewRun t tn ver par pe e).1 7 2 = e.1 7 2 + 1 := pNewRun_n
  have ff : ∀ u : Int, (pNewRun t tn ver par pe e).1 (7000 + e.1 7 2) u = fRun (e.1 7 2) t tn ver par pe u := fun u => pNewRun_f n7.1
  have fl : ∀ c, c ≠ 73000 + e.1 7 2 → c ≠ 74000 + e.1 7 2 → c ≠ 75000 + e.1 7 2 → eL (pNewRun t tn ver par pe e) c = eL e c := fun c h1 h2 h3 => pNewRun_l h1 h2 h3
  have hD : ∀ j : Int, 0 ≤ j → j < e.1 7 2 → (Dead (pNewRun t tn ver par pe e) j ↔ Dead e j) := fun j j0 j1 => Dead.eq (f1 _ _ (by omega) (by omega) (by omega))
  have hNj : ∀ j : Int, 0 ≤ j → j < e.1 7 2 → hN (pNewRun t tn ver par pe e) j = hN e j := fun j j0 j1 => f1 _ _ (by omega) (by omega) (by omega)
  have hr3 := pNewRun_r (c := 73) (t := t) (p1 := tn) (p2 := ver) (p3 := par) (p4 := pe) (e := e) (Or.inl rfl)
  have hr4 := pNewRun_r (c := 74) (t := t) (p1 := tn) (p2 := ver) (p3 := par) (p4 := pe) (e := e) (Or.inr (Or.inl rfl))
  have hr5 := pNewRun_r (c := 75) (t := t) (p1 := tn) (p2 := ver) (p3 := par) (p4 := pe) (e := e) (Or.inr (Or.inr rfl))
  rw [show (1000 : Int) * 73 = 73000 by decide] at hr3
  rw [show (1000 : Int) * 74 = 74000 by decide] at hr4
  rw [show (1000 : Int) * 75 = 75000 by decide] at hr5
  refine ⟨⟨⟨by omega, by rw [f1 _ _ (by omega) (by omega) (by omega)]; omega⟩, fun j j0 j1 => ⟨by rw [hNj j j0 j1]; exact AR.rf, fun u _ _ => f1 _ _ (by omega) (by omega) (by omega), (hD j j0 j1).mpr⟩, fun j j0 j1 => ?_, fun a u ha => f1 _ _ (by omega) (by omega) (by omega), fun u _ _ => f1 _ _ (by omega) (by omega) (by omega), fun c c0 c1 => fl c (by omega) (by omega) (by omega), rfl, GR.nrun hc⟩, fun ⟨q1, q2, q3, q4, q5⟩ => ⟨fun j j0 j1 => ?_, fun j j0 j1 => ?_, fun p p0 p1 => ?_, fun j j0 j1 => ?_, ?_⟩, fun h => h.nrun hc⟩
  · have hz : hN (pNewRun t tn ver par pe e) (e.1 7 2) = 0 := pNewRun_h n7.1
    rw [show j = e.1 7 2 by omega, ff, ff, ff, hr5, hz]
    exact ⟨⟨rfl, rfl, rfl, rfl⟩, Int.le_refl _, fun u u0 u1 => by omega⟩
  · rw [fn] at j1
    by_cases c : j = e.1 7 2
    · subst c
      have hz : hN (pNewRun t tn ver par pe e) (e.1 7 2) = 0 := pNewRun_h n7.1
      unfold RunF
      simp only [ff]
      rw [fn, hz, f1 9 _ (by omega) (by omega) (by omega)]
      refine ⟨ht, htn, ?_, ?_, hpe, ⟨Int.le_refl _, by show (0 : Int) ≤ 6; decide⟩, ⟨Int.le_refl _, by show (0 : Int) ≤ 0; decide⟩, by show (-1 : Int) ≤ -1; decide, by show (-1 : Int) < e.1 9 2; omega⟩
      · show 0 ≤ ver ∧ ver < (pNewRun t tn ver par pe e).1 (48 + 4 * t + 1) 2
        rw [f1 _ _ (by omega) (by omega) (by omega)]
        exact hv
      · show -1 ≤ par ∧ par < e.1 7 2 + 1 ∧ par ≠ e.1 7 2
        omega
    · exact (q1 j j0 (by omega)).of (by omega) (f1 _ _ (by omega) (by omega) (by omega)) j0 (fun u _ _ => f1 _ _ (by omega) (by omega) (by omega)) (Or.inl (f1 _ _ (by omega) (by omega) (by omega))) (Or.inl (f1 _ _ (by omega) (by omega) (by omega))) (by rw [hNj j j0 (by omega)]; omega) fun t t0 t1 => f1 _ _ (by omega) (by omega) (by omega)
  · rw [fn] at j1
    by_cases c : j = e.1 7 2
    · subst c
      unfold TmF
      rw [hr3, hr4]
      exact ⟨⟨rfl, fun v hv => absurd hv List.not_mem_nil, fun v hv => absurd hv List.not_mem_nil⟩, List.Pairwise.nil, fun g => absurd rfl g⟩
    · unfold TmF
      rw [fl _ (by omega) (by omega) (by omega), fl _ (by omega) (by omega) (by omega), hD j j0 (by omega)]
      exact q2 j j0 (by omega)
  · rw [f1 _ _ (by omega) (by omega) (by omega)] at p1
    obtain ⟨w1, w2, w3⟩ := q3 p p0 p1
    unfold AcF WAs WAct
    simp only [fun u => f1 (8000 + p) u (by omega) (by omega) (by omega)]
    rw [fn, hD _ w2.1 w2.2]
    exact ⟨w1, ⟨w2.1, by omega⟩, w3⟩
  · rw [fn] at j1
    by_cases c : j = e.1 7 2
    · rw [c, hr5]
      exact fun v hv => absurd hv List.not_mem_nil
    · rw [fl _ (by omega) (by omega) (by omega)]
      exact q4 j j0 (by omega)
  · obtain ⟨w1, w2, w3⟩ := q5
    unfold TgF
    rw [fn, f1 _ _ (by omega) (by omega) (by omega), f1 _ _ (by omega) (by omega) (by omega), fl _ (by omega) (by omega) (by omega)]
    exact ⟨w1, w2, fun v hv => by have := w3 v hv; omega⟩
theorem hn_nn (hK : ∀ r : Int, 0 ≤ r → r < e.1 7 2 → 0 ≤ hN e r) (hc : CN e) : ∀ r : Int, 0 ≤ r → r < (pNewRun t tn ver par pe e).1 7 2 → 0 ≤ hN (pNewRun t tn ver par pe e) r := fun r r0 r1 => by
  have n7 := hc.1
  rw [pNewRun_n] at r1
  by_cases c : r = e.1 7 2
  · have hz : hN (pNewRun t tn ver par pe e) (e.1 7 2) = 0 := pNewRun_h n7.1
    rw [c, hz]
    exact Int.le_refl _
  · have : hN (pNewRun t tn ver par pe e) r = hN e r := pNewRun_1 (by omega) (by omega) (by omega)
    rw [this]
    exact hK r r0 (by omega)
theorem gx_start (hc : CN e) (hK : ∀ r : Int, 0 ≤ r → r < e.1 7 2 → 0 ≤ hN e r) (hn : e.1 7 2 < 30) (ht : 0 ≤ t ∧ t < 4) (htn : 0 ≤ tn ∧ tn < 3) (hv : 0 < e.1 (48 + 4 * t + 1) 2) (hp : -1 ≤ par ∧ par < e.1 7 2) (hpe : 0 ≤ pe ∧ pe < 524288) : GX Z Z e (pStart t tn inp par pe e) := by
  have n7 := hc.1
  have h1 := gx_nrun (Z := Z) (tn := tn) (ver := e.1 (48 + 4 * t + 1) 2 - 1) (par := par) (pe := pe) hc hn ht htn (by omega) hp hpe
  exact h1.tr (gx_arr (hc.nrun hn) n7.1 (by rw [pNewRun_n]; omega) (hn_nn hK hc _ n7.1 (by rw [pNewRun_n]; omega)) (Int.le_refl _) (by decide)) hK n7.1
/-- a tag -/
theorem gx_qt (hc : CN e) (r0 : 0 ≤ r) (r1 : r < e.1 7 2) (x0 : 0 ≤ x) (x1 : x < 1000) : GX Z Z e (pQT r x e) := by
  have n7 := hc.1
  have n8 := hc.2.1
  have f1 : ∀ a u : Int, a ≠ 4 → (pQT r x e).1 a u = e.1 a u := fun a u ha => qt_1 ha
  have f4 : ∀ u : Int, (pQT r x e).1 4 u = if u = 11 then e.1 4 11 + 1 else e.1 4 u := fun u => by
    unfold pQT
    rw [es_pt]
    by_cases c : u = 11
    · rw [if_pos ⟨rfl, c⟩, if_pos c]
    · rw [if_neg (fun h => c h.2), if_neg c]
      split <;> rfl
  have fl : ∀ c, c ≠ 14 → eL (pQT r x e) c = eL e c := fun c hcc => by
    unfold pQT
    show eL (if _ then _ else _) c = _
    split
    · exact eLs_a hcc
    · rfl
  have fl14 : eL (pQT r x e) 14 = if (eL e 14).length < 51200 then eL e 14 ++ [r * 1000 + x] else eL e 14 := by
    unfold pQT
    show eL (if _ then _ else _) 14 = _
    split
    · exact eLs_e
    · rfl
  have f2 : (pQT r x e).2.1 = e.2.1 := by
    unfold pQT
    show (if (eL e 14).length < 51200 then eLs e 14 (eL e 14 ++ [r * 1000 + x]) else e).2.1 = _
    split <;> rfl
  have f3 : (pQT r x e).2.2.2 = e.2.2.2 := by
    unfold pQT
    show (if (eL e 14).length < 51200 then eLs e 14 (eL e 14 ++ [r * 1000 + x]) else e).2.2.2 = _
    split <;> rfl
  have hD : ∀ j : Int, 0 ≤ j → j < e.1 7 2 → (Dead (pQT r x e) j ↔ Dead e j) := fun j j0 j1 => Dead.eq (f1 _ _ (by omega))
  refine ⟨EX.of (f1 _ _ (by omega)) (by rw [f1 _ _ (by omega)]; omega) (fun j j0 j1 => ⟨f1 _ _ (by omega), congrFun f2 j⟩) (fun j u j0 j1 h4 _ => f1 _ _ (by omega)) (fun j j0 j1 => (hD j j0 j1).mpr) (fun a u ha => f1 _ _ (by omega)) (fun u h11 _ => by rw [f4, if_neg h11]) (fun c c0 c1 => fl c (by omega)) f3 (fun u => f1 _ _ (by omega)) (f1 _ _ (by omega)) (by rw [f4, if_neg (by decide)]), fun ⟨q1, q2, q3, q4, q5⟩ => ⟨fun j j0 j1 => ?_, fun j j0 j1 => ?_, fun p p0 p1 => ?_, fun j j0 j1 => ?_, ?_⟩, fun h => h.fr (f1 _ _ (by omega)) (by rw [f4, if_neg (by decide)]) (f1 _ _ (by omega)) (f1 _ _ (by omega)) (fun j j0 j1 => (hD j j0 j1).mpr) fun j j0 j1 => ⟨by unfold hN; rw [f1 _ _ (by omega)]; omega, fun p p0 p1 => ⟨congrFun (congrFun f2 j) p, f1 _ _ (by omega)⟩⟩⟩
  · rw [f1 _ _ (by omega)] at j1
    exact (q1 j j0 j1).of (by rw [f1 _ _ (by omega)]; omega) (f1 _ _ (by omega)) j0 (fun u h4 _ => f1 _ _ (by omega)) (Or.inl (f1 _ _ (by omega))) (Or.inl (f1 _ _ (by omega))) (by unfold hN; rw [f1 _ _ (by omega)]; omega) fun t t0 t1 => f1 _ _ (by omega)
  · rw [f1 _ _ (by omega)] at j1
    unfold TmF
    rw [fl _ (by omega), fl _ (by omega), hD j j0 j1]
    exact q2 j j0 j1
  · rw [f1 _ _ (by omega)] at p1
    obtain ⟨w1, w2, w3⟩ := q3 p p0 p1
    unfold AcF WAs WAct
    simp only [fun u => f1 (8000 + p) u (by omega)]
    rw [f1 _ _ (by omega), hD _ w2.1 w2.2]
    exact ⟨w1, w2, w3⟩
  · rw [f1 _ _ (by omega)] at j1
    rw [fl _ (by omega)]
    exact q4 j j0 j1
  · obtain ⟨w1, w2, w3⟩ := q5
    unfold TgF
    rw [f4, f4, if_neg (by decide), if_pos rfl, f1 _ _ (by omega), fl14]
    refine ⟨by omega, ?_, fun v hv => ?_⟩
    · by_cases c : e.1 4 11 < 51200
      · rw [if_pos c] at w2
        rw [if_pos (by omega), List.length_append, List.length_singleton]
        split <;> omega
      · rw [if_neg c] at w2
        rw [if_neg (by omega), if_neg (by omega)]
        exact w2
    · split at hv
      · rcases List.mem_append.mp hv with g | g
        · exact w3 v g
        · rw [List.mem_singleton.mp g]
          omega
      · exact w3 v hv
end GXB
