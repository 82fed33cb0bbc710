/-! HOW MUCH IS PUT: arrivals against what is under way, run by run; one step each. -/
section QQA
variable {e e' e1 e2 : ES} {a b c d i j k q r v w N M p x y t o n m s z n' m' s' z' st tn ver inp par pe kd ev due : Int}
def qAl (e : ES) (i : Int) : Int := if i < e.1 7 2 ∧ (e.1 (7000 + i) 6 = 0 ∨ e.1 (7000 + i) 6 = 6) then 1 else 0
def ccr (e : ES) (i : Int) : Int := ccn (eH e i) (hN e i).toNat
def qNc (e : ES) (i : Int) : Int := if i < e.1 7 2 then 1 - ccr e i else 0
def qTm (e : ES) (i : Int) : Int := if i < e.1 7 2 then ((eL e (73000 + i)).length : Int) else 0
def qAc (e : ES) (i : Int) : Int := if i < e.1 8 2 ∧ e.1 (8000 + i) 5 ≠ 2 then 1 else 0
def qCs (e : ES) (i : Int) : Int := if i < e.1 7 2 then csr e i else 0
/-- runs that are open, that no CANCEL has come to; timers, activities -/
def QV (e : ES) : Int := sm (qAl e) 30 + sm (qNc e) 30
def QLk (e : ES) : Int := sm (qTm e) 30 + sm (qAc e) 60
/-- n: arrivals and what is under way; m: arrivals to others than r; s: signals; z: rows' growth -/
def QQ (r n m s z : Int) (e e' : ES) : Prop := e'.1 4 16 + QLk e' + QV e' ≤ e.1 4 16 + QLk e + QV e + n ∧ e'.1 4 16 - hN0 e' r + QV e' ≤ e.1 4 16 - hN0 e r + QV e + m ∧ sm (qCs e') 30 ≤ sm (qCs e) 30 + s ∧ e.1 3 1 ≤ e'.1 3 1 ∧ e'.1 3 1 ≤ e.1 3 1 + z
theorem QQ.rf : QQ r 0 0 0 0 e e := ⟨by omega, by omega, by omega, by omega, by omega⟩
theorem QQ.tr (h : QQ r n m s z e e1) (g : QQ r n' m' s' z' e1 e2) : QQ r (n + n') (m + m') (s + s') (z + z') e e2 := by
  obtain ⟨h1, h2, h3, h4, h5⟩ := h
  obtain ⟨g1, g2, g3, g4, g5⟩ := g
  exact ⟨by omega, by omega, by omega, by omega, by omega⟩
theorem QQ.mono (h : QQ r n m s z e e') (hn : n ≤ n') (hm : m ≤ m') (hs : s ≤ s') (hz : z ≤ z') : QQ r n' m' s' z' e e' := by
  obtain ⟨h1, h2, h3, h4, h5⟩ := h
  exact ⟨by omega, by omega, by omega, by omega, by omega⟩
/-- nothing is put, and no more is under way -/
theorem QQ.fr (r0 : 0 ≤ r) (h7 : e'.1 7 2 = e.1 7 2) (h8 : e'.1 8 2 = e.1 8 2) (h16 : e'.1 4 16 = e.1 4 16) (h31 : e'.1 3 1 = e.1 3 1) (hs : ∀ i : Int, 0 ≤ i → i < e.1 7 2 → e'.1 (7000 + i) 6 = e.1 (7000 + i) 6 ∨ e.1 (7000 + i) 6 = 0 ∨ e.1 (7000 + i) 6 = 6) (ha : ∀ p : Int, 0 ≤ p → p < e.1 8 2 → e'.1 (8000 + p) 5 = e.1 (8000 + p) 5 ∨ e'.1 (8000 + p) 5 = 2 ∨ e.1 (8000 + p) 5 ≠ 2) (hl : ∀ i : Int, 0 ≤ i → i < e.1 7 2 → (eL e' (73000 + i)).length ≤ (eL e (73000 + i)).length) (hh : ∀ i : Int, 0 ≤ i → i < e.1 7 2 → hN e' i = hN e i ∧ eH e' i = eH e i) : QQ r 0 0 0 0 e e' := by
  have a1 : sm (qAl e') 30 ≤ sm (qAl e) 30 := sm_le fun i i0 _ => by
    unfold qAl
    rw [h7]
    by_cases c : i < e.1 7 2
    · rcases hs i i0 c with g | g
      · rw [g]; omega
      · rw [if_pos (show i < e.1 7 2 ∧ (e.1 (7000 + i) 6 = 0 ∨ e.1 (7000 + i) 6 = 6) from ⟨c, g⟩)]
        split <;> omega
    · rw [if_neg (fun g => c g.1), if_neg (fun g => c g.1)]; omega
  have a2 : sm (qNc e') 30 ≤ sm (qNc e) 30 := sm_le fun i i0 _ => by
    unfold qNc ccr
    rw [h7]
    by_cases c : i < e.1 7 2
    · rw [(hh i i0 c).1, (hh i i0 c).2]; omega
    · rw [if_neg c, if_neg c]; omega
  have a3 : sm (qTm e') 30 ≤ sm (qTm e) 30 := sm_le fun i i0 _ => by
    unfold qTm
    rw [h7]
    by_cases c : i < e.1 7 2
    · rw [if_pos c, if_pos c]
      have := hl i i0 c
      omega
    · rw [if_neg c, if_neg c]; omega
  have a4 : sm (qAc e') 60 ≤ sm (qAc e) 60 := sm_le fun i i0 _ => by
    unfold qAc
    rw [h8]
    by_cases c : i < e.1 8 2
    · rcases ha i i0 c with g | g | g
      · rw [g]; omega
      · rw [if_neg (fun hh => hh.2 g)]
        split <;> omega
      · rw [if_pos (show i < e.1 8 2 ∧ e.1 (8000 + i) 5 ≠ 2 from ⟨c, g⟩)]
        split <;> omega
    · rw [if_neg (fun g => c g.1), if_neg (fun g => c g.1)]; omega
  have a5 : sm (qCs e') 30 ≤ sm (qCs e) 30 := sm_le fun i i0 _ => by
    unfold qCs csr
    rw [h7]
    by_cases c : i < e.1 7 2
    · rw [(hh i i0 c).1, (hh i i0 c).2]; omega
    · rw [if_neg c, if_neg c]; omega
  have a6 : hN0 e' r = hN0 e r := by
    unfold hN0
    rw [h7]
    by_cases c : r < e.1 7 2
    · rw [if_pos c, if_pos c, (hh r r0 c).1]
    · rw [if_neg c, if_neg c]
  unfold QQ QLk QV
  exact ⟨by omega, by omega, by omega, by omega, by omega⟩
theorem ccr_arr (r0 : 0 ≤ r) (r1 : r < 1000) (hn : 0 ≤ hN e r) (k0 : 0 ≤ k) : ccr (pArr r k x y e) r = ccr e r + if k = 7 then 1 else 0 := by
  obtain ⟨g1, g2⟩ := arr_eH (k := k) (x := x) (y := y) (e := e) r0 r1
  have hs : ∀ (E : Int → Ev) (n : Nat), ccn E (n + 1) = ccn E n + if ek (E (n : Int)) = 7 then 1 else 0 := fun _ _ => rfl
  unfold ccr
  rw [g1, g2, show (hN e r + 1).toNat = (hN e r).toNat + 1 by omega, hs, (cts_to (E := eH e r) (E' := Ev1 (eH e r) (hN e r) (evP k x y (e.1 4 14) (e.1 4 16))) (hN e r).toNat fun i i0 i1 => if_neg (by omega)).2.2.2.2.2, show (((hN e r).toNat : Nat) : Int) = hN e r by omega, show Ev1 (eH e r) (hN e r) (evP k x y (e.1 4 14) (e.1 4 16)) (hN e r) = evP k x y (e.1 4 14) (e.1 4 16) from if_pos rfl, evP_k k0]
theorem qq_arr (hc : CN e) (r0 : 0 ≤ r) (q0 : 0 ≤ q) (q1 : q < e.1 7 2) (hn : 0 ≤ hN e q) (k0 : 0 ≤ k) : QQ r (if k = 7 then 0 else 1) ((if q = r then 0 else 1) - (if k = 7 then 1 else 0)) (if k = 4 then 1 else 0) 0 e (pArr q k x y e) := by
  have n7 := hc.1
  have n8 := hc.2.1
  have pa : ∀ a u : Int, a ≠ 68 → a ≠ 3 → a < 71000 → (a ≠ 4 ∨ u ≠ 16) → (pArr q k x y e).1 a u = e.1 a u := fun a u h1 h2 h3 h4 => arr_a h1 h2 (by omega) (by omega) h4
  have e7 : (pArr q k x y e).1 7 2 = e.1 7 2 := pa _ _ (by omega) (by omega) (by omega) (by omega)
  have e8 : (pArr q k x y e).1 8 2 = e.1 8 2 := pa _ _ (by omega) (by omega) (by omega) (by omega)
  have e16 : (pArr q k x y e).1 4 16 = e.1 4 16 + 1 := eS_e
  have e31 : (pArr q k x y e).1 3 1 = e.1 3 1 := by
    unfold pArr pPut
    rw [eS_a (by decide)]
    show (eS (eS (pOrd q k e) (76000 + q) _ _) (71000 + q) 1 _).1 3 1 = _
    rw [eS_a (by omega), eS_a (by omega)]
    unfold pOrd
    rw [gh_a (by decide)]
    unfold pOrd0
    rw [eS_j (by decide)]
    split
    · rw [eS_a (by decide), eS_a (by decide)]
    · rfl
  have oth : ∀ i : Int, 0 ≤ i → i < 30 → i ≠ q → hN (pArr q k x y e) i = hN e i ∧ eH (pArr q k x y e) i = eH e i := fun i i0 i1 hi => ⟨arr_a (by omega) (by omega) (by omega) (by omega) (by omega), arr_h hi⟩
  have a1 : sm (qAl (pArr q k x y e)) 30 = sm (qAl e) 30 := sm_to fun i i0 i1 => by
    unfold qAl
    rw [e7, pa _ _ (by omega) (by omega) (by omega) (by omega)]
  have a2 : sm (qNc (pArr q k x y e)) 30 = sm (qNc e) 30 - if k = 7 then 1 else 0 := by
    rw [sm_one (r := q) (f := qNc e) (g := qNc (pArr q k x y e)) (n := 30) q0 (by omega) fun i i0 i1 hi => by
      unfold qNc ccr
      rw [e7, (oth i i0 (by omega) hi).1, (oth i i0 (by omega) hi).2]]
    have := ccr_arr (k := k) (x := x) (y := y) q0 (by omega) hn k0
    unfold qNc
    rw [e7, if_pos q1, if_pos q1, this]
    omega
  have a3 : sm (qTm (pArr q k x y e)) 30 = sm (qTm e) 30 := sm_to fun i i0 i1 => by
    unfold qTm
    rw [e7, arr_l]
  have a4 : sm (qAc (pArr q k x y e)) 60 = sm (qAc e) 60 := sm_to fun i i0 i1 => by
    unfold qAc
    rw [e8, pa _ _ (by omega) (by omega) (by omega) (by omega)]
  have a5 : sm (qCs (pArr q k x y e)) 30 = sm (qCs e) 30 + if k = 4 then 1 else 0 := by
    rw [sm_one (r := q) (f := qCs e) (g := qCs (pArr q k x y e)) (n := 30) q0 (by omega) fun i i0 i1 hi => by
      unfold qCs csr
      rw [e7, (oth i i0 (by omega) hi).1, (oth i i0 (by omega) hi).2]]
    have := csr_arr (k := k) (x := x) (y := y) q0 (by omega) hn k0
    unfold qCs
    rw [e7, if_pos q1, if_pos q1, this]
    omega
  have a6 : hN0 (pArr q k x y e) r = hN0 e r + if q = r then 1 else 0 := by
    unfold hN0
    rw [e7]
    by_cases cq : q = r
    · rw [← cq, if_pos q1, if_pos q1, if_pos rfl]
      exact arr_N q0
    · rw [if_neg cq]
      by_cases c : r < e.1 7 2
      · rw [if_pos c, if_pos c, (oth r r0 (by omega) (Ne.symm cq)).1]; omega
      · rw [if_neg c, if_neg c]; omega
  unfold QQ QLk QV
  refine ⟨?_, ?_, by omega, by omega, by omega⟩
  · split at a2 <;> split <;> omega
  · by_cases c7 : k = 7
    · rw [if_pos c7] at a2
      rw [if_pos c7]
      split at a6 <;> split <;> omega
    · rw [if_neg c7] at a2
      rw [if_neg c7]
      split at a6 <;> split <;> omega
theorem qq_can (hc : CN e) (r0 : 0 ≤ r) (q0 : 0 ≤ q) (q1 : q < e.1 7 2) (hn : 0 ≤ hN e q) : QQ r 0 0 0 0 e (pCan q e).2 := by
  unfold pCan
  split
  · exact QQ.rf
  · exact (qq_arr (k := 7) (x := 0) (y := 0) hc r0 q0 q1 hn (by decide)).mono (by decide) (by split <;> decide) (by decide) (by decide)
theorem qq_st (hc : CN e) (r0 : 0 ≤ r) (q0 : 0 ≤ q) (q1 : q < e.1 7 2) (hs : e.1 (7000 + q) 6 = 0) (h0 : st ≠ 0) (h6 : st ≠ 6) : QQ r (-1) (-1) 0 0 e (eS e (7000 + q) 6 st) := by
  have n7 := hc.1
  have n8 := hc.2.1
  have pa : ∀ a u : Int, a ≠ 7000 + q ∨ u ≠ 6 → (eS e (7000 + q) 6 st).1 a u = e.1 a u := fun a u h => by rw [es_pt, if_neg (by omega)]
  have e7 : (eS e (7000 + q) 6 st).1 7 2 = e.1 7 2 := pa _ _ (by omega)
  have a1 : sm (qAl (eS e (7000 + q) 6 st)) 30 = sm (qAl e) 30 - 1 := by
    rw [sm_one (r := q) (f := qAl e) (g := qAl (eS e (7000 + q) 6 st)) (n := 30) q0 (by omega) fun i i0 i1 hi => by
      unfold qAl
      rw [e7, pa _ _ (by omega)]]
    unfold qAl
    rw [e7, eS_e, if_neg (by omega), if_pos ⟨q1, Or.inl hs⟩]
    omega
  have a2 : sm (qNc (eS e (7000 + q) 6 st)) 30 = sm (qNc e) 30 := sm_to fun i i0 i1 => by
    unfold qNc ccr hN
    rw [e7, pa (71000 + i) 1 (by omega)]
    rfl
  have a3 : sm (qTm (eS e (7000 + q) 6 st)) 30 = sm (qTm e) 30 := sm_to fun i i0 i1 => by
    unfold qTm
    rw [e7]
    rfl
  have a4 : sm (qAc (eS e (7000 + q) 6 st)) 60 = sm (qAc e) 60 := sm_to fun i i0 i1 => by
    unfold qAc
    rw [pa 8 2 (by omega), pa (8000 + i) 5 (by omega)]
  have a5 : sm (qCs (eS e (7000 + q) 6 st)) 30 = sm (qCs e) 30 := sm_to fun i i0 i1 => by
    unfold qCs csr hN
    rw [e7, pa (71000 + i) 1 (by omega)]
    rfl
  have a6 : hN0 (eS e (7000 + q) 6 st) r = hN0 e r := by
    unfold hN0 hN
    rw [e7, pa (71000 + r) 1 (by omega)]
  have a7 : (eS e (7000 + q) 6 st).1 4 16 = e.1 4 16 := pa _ _ (by omega)
  have a8 : (eS e (7000 + q) 6 st).1 3 1 = e.1 3 1 := pa _ _ (by omega)
  unfold QQ QLk QV
  exact ⟨by omega, by omega, by omega, by omega, by omega⟩
theorem qq_new8 {f : Int → Int} (hc : CN e) (r0 : 0 ≤ r) (hn : e.1 8 2 < 60) : QQ r 1 0 0 0 e (pNew 8 f e) := by
  have n7 := hc.1
  have n8 := hc.2.1
  have pa : ∀ a u : Int, a ≠ 8 → a ≠ 8000 + e.1 8 2 → (pNew 8 f e).1 a u = e.1 a u := fun a u h1 h2 => pNew_a (by omega) (by omega)
  have e7 : (pNew 8 f e).1 7 2 = e.1 7 2 := pa _ _ (by omega) (by omega)
  have e8 : (pNew 8 f e).1 8 2 = e.1 8 2 + 1 := pNew_n
  have a1 : sm (qAl (pNew 8 f e)) 30 = sm (qAl e) 30 := sm_to fun i i0 i1 => by
    unfold qAl
    rw [e7, pa _ _ (by omega) (by omega)]
  have a2 : sm (qNc (pNew 8 f e)) 30 = sm (qNc e) 30 := sm_to fun i i0 i1 => by
    unfold qNc ccr hN
    rw [e7, pa (71000 + i) 1 (by omega) (by omega)]
    rfl
  have a3 : sm (qTm (pNew 8 f e)) 30 = sm (qTm e) 30 := sm_to fun i i0 i1 => by
    unfold qTm
    rw [e7]
    rfl
  have a4 : sm (qAc (pNew 8 f e)) 60 ≤ sm (qAc e) 60 + 1 := by
    rw [sm_one (r := e.1 8 2) (f := qAc e) (g := qAc (pNew 8 f e)) (n := 60) n8.1 (by omega) fun i i0 i1 hi => by
      unfold qAc
      rw [e8, pa (8000 + i) 5 (by omega) (by omega)]
      by_cases c : i < e.1 8 2
      · by_cases c2 : e.1 (8000 + i) 5 ≠ 2
        · rw [if_pos ⟨by omega, c2⟩, if_pos ⟨c, c2⟩]
        · rw [if_neg (fun g => c2 g.2), if_neg (fun g => c2 g.2)]
      · rw [if_neg (fun g => by omega), if_neg (fun g => c g.1)]]
    have h1 : qAc (pNew 8 f e) (e.1 8 2) ≤ 1 := by unfold qAc; split <;> omega
    have h2 : qAc e (e.1 8 2) = 0 := if_neg (fun g => by omega)
    omega
  have a5 : sm (qCs (pNew 8 f e)) 30 = sm (qCs e) 30 := sm_to fun i i0 i1 => by
    unfold qCs csr hN
    rw [e7, pa (71000 + i) 1 (by omega) (by omega)]
    rfl
  have a6 : hN0 (pNew 8 f e) r = hN0 e r := by
    unfold hN0 hN
    rw [e7, pa (71000 + r) 1 (by omega) (by omega)]
  have a7 : (pNew 8 f e).1 4 16 = e.1 4 16 := pa _ _ (by omega) (by omega)
  have a8 : (pNew 8 f e).1 3 1 = e.1 3 1 := pa _ _ (by omega) (by omega)
  unfold QQ QLk QV
  exact ⟨by omega, by omega, by omega, by omega, by omega⟩
theorem qq_addT (hc : CN e) (r0 : 0 ≤ r) (q0 : 0 ≤ q) (q1 : q < e.1 7 2) : QQ r 1 0 0 1 e (pAddT q v due e) := by
  have n7 := hc.1
  have n8 := hc.2.1
  have pa : ∀ a u : Int, a ≠ 3 → (pAddT q v due e).1 a u = e.1 a u := fun a u h => addT_1 h
  obtain ⟨t1, t2, t3⟩ := addT_r (r := q) (ev := v) (due := due) (e := e)
  have e7 : (pAddT q v due e).1 7 2 = e.1 7 2 := pa _ _ (by omega)
  have a1 : sm (qAl (pAddT q v due e)) 30 = sm (qAl e) 30 := sm_to fun i i0 i1 => by
    unfold qAl
    rw [e7, pa _ _ (by omega)]
  have a2 : sm (qNc (pAddT q v due e)) 30 = sm (qNc e) 30 := sm_to fun i i0 i1 => by
    unfold qNc ccr hN
    rw [e7, pa (71000 + i) 1 (by omega)]
    rfl
  have a3 : sm (qTm (pAddT q v due e)) 30 = sm (qTm e) 30 + 1 := by
    rw [sm_one (r := q) (f := qTm e) (g := qTm (pAddT q v due e)) (n := 30) q0 (by omega) fun i i0 i1 hi => by
      unfold qTm
      rw [e7, t3 _ (by omega) (by omega)]]
    unfold qTm
    rw [e7, if_pos q1, if_pos q1, t1, List.length_append, List.length_singleton]
    omega
  have a4 : sm (qAc (pAddT q v due e)) 60 = sm (qAc e) 60 := sm_to fun i i0 i1 => by
    unfold qAc
    rw [pa 8 2 (by omega), pa (8000 + i) 5 (by omega)]
  have a5 : sm (qCs (pAddT q v due e)) 30 = sm (qCs e) 30 := sm_to fun i i0 i1 => by
    unfold qCs csr hN
    rw [e7, pa (71000 + i) 1 (by omega)]
    rfl
  have a6 : hN0 (pAddT q v due e) r = hN0 e r := by
    unfold hN0 hN
    rw [e7, pa (71000 + r) 1 (by omega)]
  have a7 : (pAddT q v due e).1 4 16 = e.1 4 16 := pa _ _ (by omega)
  have a8 : (pAddT q v due e).1 3 1 = e.1 3 1 + 1 := by
    show (eS (eLs e (73000 + q) (eL e (73000 + q) ++ [v])) 3 1 (e.1 3 1 + 1)).1 3 1 = _
    rw [eS_e]
  unfold QQ QLk QV
  exact ⟨by omega, by omega, by omega, by omega, by omega⟩
theorem qq_nrun (hc : CN e) (r0 : 0 ≤ r) (hn : e.1 7 2 < 30) : QQ r 2 2 0 0 e (pNewRun t tn ver par pe e) := by
  have n7 := hc.1
  have n8 := hc.2.1
  have f1 : ∀ a u : Int, a ≠ 7 → a ≠ 7000 + e.1 7 2 → a ≠ 71000 + e.1 7 2 → (pNewRun t tn ver par pe e).1 a u = e.1 a u := fun a u g1 g2 g3 => pNewRun_1 g1 g2 g3
  have fn : (pNewRun t tn ver par pe e).1 7 2 = e.1 7 2 + 1 := pNewRun_n
  have fl : ∀ c, c ≠ 73000 + e.1 7 2 → c ≠ 74000 + e.1 7 2 → c ≠ 75000 + e.1 7 2 → eL (pNewRun t tn ver par pe e) c = eL e c := fun c h1 h2 h3 => pNewRun_l h1 h2 h3
  have hr3 := pNewRun_r (c := 73) (t := t) (p1 := tn) (p2 := ver) (p3 := par) (p4 := pe) (e := e) (Or.inl rfl)
  rw [show (1000 : Int) * 73 = 73000 by decide] at hr3
  have hz : hN (pNewRun t tn ver par pe e) (e.1 7 2) = 0 := pNewRun_h n7.1
  have key : ∀ (F : ES → Int → Int) (b : Int), (∀ i : Int, 0 ≤ i → i < 30 → i ≠ e.1 7 2 → F (pNewRun t tn ver par pe e) i = F e i) → F (pNewRun t tn ver par pe e) (e.1 7 2) ≤ F e (e.1 7 2) + b → sm (F (pNewRun t tn ver par pe e)) 30 ≤ sm (F e) 30 + b := fun F b h1 h2 => by
    rw [sm_one (r := e.1 7 2) (f := F e) (g := F (pNewRun t tn ver par pe e)) (n := 30) n7.1 (by omega) fun i i0 i1 hi => h1 i i0 (by omega) hi]
    omega
  have lt : ∀ i : Int, i ≠ e.1 7 2 → (i < (pNewRun t tn ver par pe e).1 7 2 ↔ i < e.1 7 2) := fun i hi => by rw [fn]; omega
  have a1 := key qAl 1 (fun i i0 i1 hi => by
    unfold qAl
    rw [f1 (7000 + i) 6 (by omega) (by omega) (by omega)]
    by_cases c : i < e.1 7 2 ∧ (e.1 (7000 + i) 6 = 0 ∨ e.1 (7000 + i) 6 = 6)
    · rw [if_pos c, if_pos ⟨(lt i hi).mpr c.1, c.2⟩]
    · rw [if_neg c, if_neg fun g => c ⟨(lt i hi).mp g.1, g.2⟩]) (by
    have h2 : qAl e (e.1 7 2) = 0 := if_neg (fun g => by omega)
    rw [h2]
    unfold qAl
    split <;> omega)
  have a2 := key qNc 1 (fun i i0 i1 hi => by
    unfold qNc ccr hN
    rw [f1 (71000 + i) 1 (by omega) (by omega) (by omega)]
    by_cases c : i < e.1 7 2
    · rw [if_pos c, if_pos ((lt i hi).mpr c)]
      rfl
    · rw [if_neg c, if_neg fun g => c ((lt i hi).mp g)]) (by
    have h2 : qNc e (e.1 7 2) = 0 := if_neg (by omega)
    rw [h2]
    unfold qNc ccr
    rw [hz, if_pos (by omega)]
    show (1 : Int) - 0 ≤ 0 + 1
    decide)
  have a3 := key qTm 0 (fun i i0 i1 hi => by
    unfold qTm
    rw [fl _ (by omega) (by omega) (by omega)]
    by_cases c : i < e.1 7 2
    · rw [if_pos c, if_pos ((lt i hi).mpr c)]
    · rw [if_neg c, if_neg fun g => c ((lt i hi).mp g)]) (by
    have h2 : qTm e (e.1 7 2) = 0 := if_neg (by omega)
    rw [h2]
    unfold qTm
    rw [hr3, if_pos (by omega)]
    decide)
  have a5 := key qCs 0 (fun i i0 i1 hi => by
    unfold qCs csr hN
    rw [f1 (71000 + i) 1 (by omega) (by omega) (by omega)]
    by_cases c : i < e.1 7 2
    · rw [if_pos c, if_pos ((lt i hi).mpr c)]
      rfl
    · rw [if_neg c, if_neg fun g => c ((lt i hi).mp g)]) (by
    have h2 : qCs e (e.1 7 2) = 0 := if_neg (by omega)
    rw [h2]
    unfold qCs csr
    rw [hz, if_pos (by omega)]
    show (0 : Int) ≤ 0 + 0
    decide)
  have a4 : sm (qAc (pNewRun t tn ver par pe e)) 60 = sm (qAc e) 60 := sm_to fun i i0 i1 => by
    unfold qAc
    rw [f1 8 2 (by omega) (by omega) (by omega), f1 (8000 + i) 5 (by omega) (by omega) (by omega)]
  have a6 := hN0_nrun (t := t) (tn := tn) (ver := ver) (par := par) (pe := pe) hc r0
  have a7 : (pNewRun t tn ver par pe e).1 4 16 = e.1 4 16 := f1 _ _ (by omega) (by omega) (by omega)
  have a8 : (pNewRun t tn ver par pe e).1 3 1 = e.1 3 1 := f1 _ _ (by omega) (by omega) (by omega)
  unfold QQ QLk QV
  exact ⟨by omega, by omega, by omega, by omega, by omega⟩
end QQA
