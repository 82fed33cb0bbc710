/-! A COMPLETE: the news and the TASK are put. -/
section PNF
variable {e e' e1 e2 : ES} {S D T a b c d i j k q r v w N M p y t o lim kd g : Int} {n : Nat} {s s' : TS} {x : CX} {L : List (Int × Int × Int)} {B : Int} {Z : Int → Prop}
/-- without an end in the history a telling ends by what is new alone -/
theorem fi_nd (hN : 0 ≤ x.1 0) (h4 : x.1 4 ≠ 1) (h3 : x.1 3 ≤ x.1 0) (hno : ∀ d : Int, 0 ≤ d → d < x.1 0 → ¬ (14 ≤ ek (x.2.1 d) ∧ ek (x.2.1 d) ≤ 16)) : FI x (fun s => sg s 0 9 = 0 ∧ 0 ≤ sg s 0 12) (fun s => 0 ≤ sg s 0 12 ∧ (sg s 0 9 = 0 ∨ ∃ z ∈ sn s, 14 ≤ z.1 ∧ z.1 ≤ 16)) := by
  have h12 : ∀ (s : TS) (k a b : Int), 0 ≤ sg s 0 12 → 0 ≤ sg (sCmd x k a b s).2 0 12 := fun s k a b h => by
    have hb : sg s 0 12 ≤ nc x (sg s 0 12) := (nxc_b (x := x) (x.1 0 - sg s 0 12).toNat (sg s 0 12) rfl).1
    unfold sCmd
    split
    · split
      · show 0 ≤ nc x (sg s 0 12) + 1
        omega
      · show 0 ≤ nc x (sg s 0 12)
        omega
    · split
      · show 0 ≤ nc x (sg s 0 12)
        omega
      · show 0 ≤ nc x (sg s 0 12)
        omega
  refine ⟨fun s s' _ h2 h9 h12' => ⟨fun h => by simp only [h9, h12']; exact h, fun h => by simp only [h2, h9, h12']; exact h⟩, fun s k a b _ _ h => ⟨by rw [cmd_g (by omega)]; exact h.1, h12 s k a b h.2⟩, fun s h => ⟨h.2, Or.inl h.1⟩, fun s k a k0 k1 h => ?_, fun s hg h => ⟨(goes_p hg).2, h.1⟩⟩
  have g9 : sg (sCmd x k a 0 s).2 0 9 = 0 := by rw [cmd_g (by omega)]; exact h.1
  have g12 := h12 s k a 0 h.2
  unfold sEndR
  show 0 ≤ sg (if (sCmd x k a 0 s).1 < 0 then (sCmd x k a 0 s).2 else st (sCmd x k a 0 s).2 0 9 k) 0 12 ∧ (sg (if (sCmd x k a 0 s).1 < 0 then (sCmd x k a 0 s).2 else st (sCmd x k a 0 s).2 0 9 k) 0 9 = 0 ∨ ∃ z ∈ sn (if (sCmd x k a 0 s).1 < 0 then (sCmd x k a 0 s).2 else st (sCmd x k a 0 s).2 0 9 k), 14 ≤ z.1 ∧ z.1 ≤ 16)
  by_cases c : (sCmd x k a 0 s).1 < 0
  · rw [if_pos c]
    exact ⟨g12, Or.inl g9⟩
  · rw [if_neg c]
    refine ⟨by rw [st_g, if_neg (by omega)]; exact g12, Or.inr ?_⟩
    have hb : sg s 0 12 ≤ nc x (sg s 0 12) := (nxc_b (x := x) (x.1 0 - sg s 0 12).toNat (sg s 0 12) rfl).1
    have hsee : sSeen x s ≤ x.1 0 := by
      unfold sSeen
      split <;> omega
    have hs : sn (st (sCmd x k a 0 s).2 0 9 k) = sn (sCmd x k a 0 s).2 := rfl
    rw [hs]
    unfold sCmd at c ⊢
    by_cases c1 : nc x (sg s 0 12) < sSeen x s
    · rw [if_pos c1] at c
      by_cases c2 : x.1 4 = 1 ∨ eis (x.2.1 (nc x (sg s 0 12))) k a 0 = true
      · rcases c2 with c2 | c2
        · exact absurd c2 h4
        · unfold eis at c2
          simp only [Bool.and_eq_true, decide_eq_true_eq] at c2
          have := c2.1
          exact absurd (show 14 ≤ ek (x.2.1 (nc x (sg s 0 12))) ∧ ek (x.2.1 (nc x (sg s 0 12))) ≤ 16 by omega) (hno _ (by omega) (by omega))
      · rw [if_neg c2] at c
        exact absurd (show (-1 : Int) < 0 by decide) c
    · rw [if_neg c1] at c ⊢
      by_cases c2 : sg s 0 10 < x.1 1
      · rw [if_pos c2] at c
        exact absurd (show (-1 : Int) < 0 by decide) c
      · rw [if_neg c2]
        exact ⟨(k, a, 0), List.mem_append.mpr (Or.inr (List.mem_singleton.mpr rfl)), k0, k1⟩
theorem told_nd (hC : CXX x) (hno : ∀ d : Int, 0 ≤ d → d < x.1 0 → ¬ (14 ≤ ek (x.2.1 d) ∧ ek (x.2.1 d) ≤ 16)) (h30 : sg (told x lim) 0 30 = 0) : sg (told x lim) 0 9 = 0 ∨ ∃ z ∈ sn (told x lim), 14 ≤ z.1 ∧ z.1 ≤ 16 := by
  have hF := fi_nd hC.2.2.2.2.1 hC.2.2.1 hC.1.2.2 hno
  have hk := told_ind (P := fun s => 0 ≤ sg s 0 12 ∧ (sg s 0 9 = 0 ∨ ∃ z ∈ sn s, 14 ≤ z.1 ∧ z.1 ≤ 16)) hC (fun s B i hP hp hg _ i0 i1 i7 _ h3 => by
    have h := fi_taken hF hC hP i0 i1 i7 (hF.2.2.2.2 s hg hp)
    have e9 : sg (sTake x i s) 0 9 = sg (sTaken x i s) 0 9 := by
      rw [take_d, (pass_n _ _ _).2, st_g, if_neg (by omega)]
    rw [take_12.1, take_12.2, e9]
    exact h) ⟨by decide, Or.inl rfl⟩ h30
  obtain ⟨s', B', v, ⟨-, h4⟩, -, h5⟩ := hk
  rw [h5]
  rcases h4 with h4 | h4
  · exact Or.inl (by rw [st_g, if_neg (by omega)]; exact h4)
  · exact Or.inr h4
/-- the news are put: other runs' histories -/
theorem pnl_o (r0 : 0 ≤ r) (r1 : r < 1000) (hj : j ≠ r) (j0 : 0 ≤ j) (j1 : j < 1000) : ∀ (L : List (Int × Int × Int)) (e : ES), eH (pPNL r t L e) j = eH e j ∧ (∀ c, eL (pPNL r t L e) c = eL e c) ∧ (pPNL r t L e).2.2.2 = e.2.2.2 := by
  intro L
  induction L with
  | nil => intro e; exact ⟨rfl, fun _ => rfl, rfl⟩
  | cons u L ih =>
    intro e
    obtain ⟨g1, g2⟩ := put_hN (e := e) (i := r) (j := j) (k := u.1) (p := u.2.1) (q := u.2.2) (t := t) (o := 0) r0 j0 j1
    rw [if_neg hj] at g1 g2
    obtain ⟨h1, h2, h3⟩ := ih (pPut r u.1 u.2.1 u.2.2 t 0 e)
    unfold pPNL
    exact ⟨h1.trans g2, fun c => (h2 c).trans put_l, h3.trans put_T⟩
theorem oi_pnl (r0 : 0 ≤ r) (t0 : 0 ≤ t) (t1 : t < 1000000) : ∀ (L : List (Int × Int × Int)) (e : ES), CN e → r < e.1 7 2 → 0 ≤ hN e r → (∀ q ∈ L, 8 ≤ q.1) → OI e → OI (pPNL r t L e) ∧ CN (pPNL r t L e) := by
  intro L
  induction L with
  | nil => intro e hc _ _ _ h; exact ⟨h, hc⟩
  | cons u L ih =>
    intro e hc r1 hn hq h
    have n7 := hc.1
    unfold pPNL
    have h1 := h.put (k := u.1) (x := u.2.1) (y := u.2.2) (t := t) (o := 0) hc r0 r1 hn (hq u List.mem_cons_self) t0 t1
    exact ih _ (hc.put r0) (by rw [put_a (by omega) (by omega) (by omega) (by omega)]; exact r1) (by rw [put_N r0]; omega) (fun q hm => hq q (List.mem_cons_of_mem _ hm)) h1
/-- the state behind the news and the TASK, as it differs from the one before -/
def PnF (r k g : Int) (L : List (Int × Int × Int)) (e e' : ES) : Prop :=
  (∀ a u : Int, a ≠ 68 → a ≠ 3 → a ≠ 76000 + r → a ≠ 71000 + r → a ≠ 16 → (a ≠ 7000 + r ∨ u < 12 ∨ 15 < u) → e'.1 a u = e.1 a u) ∧
  (∀ c, eL e' c = eL e c) ∧ (∀ j : Int, j ≠ r → 0 ≤ j → j < 1000 → hN e' j = hN e j ∧ eH e' j = eH e j) ∧
  (hN e' r = hN e r + L.length + 1 ∧ (∀ i : Int, 0 ≤ i → i < hN e r → eH e' r i = eH e r i) ∧ (∀ (i : Nat) (q : Int × Int × Int), L[i]? = some q → eH e' r (hN e r + i) = evP q.1 q.2.1 q.2.2 (e.1 4 14) 0) ∧ eH e' r (hN e r + L.length) = evP 17 (e.1 (9000 + k) 3) 0 (e.1 4 14) 0) ∧
  (e'.1 (7000 + r) 12 = e.1 (9000 + k) 0 ∧ e'.1 (7000 + r) 13 = pMark e' r ∧ e'.1 (7000 + r) 14 = (if g = 0 then hC e r else e.1 (7000 + r) 14) ∧ e'.1 (7000 + r) 15 = if g = 0 then hN e r else e.1 (7000 + r) 15) ∧
  e'.1 16 7 = r ∧ eT e' = sKnow (hN e' r) (eT e) ∧ eB e' = eB e
theorem pn_f (hc : CN e) (r0 : 0 ≤ r) (r1 : r < e.1 7 2) (k0 : 0 ≤ k) (k1 : k < 1000) (hL : sn (eT e) = L) : PnF r k g L e (pPN r k g e) := by
  have n7 := hc.1
  -- the counts
  have f0 : ∀ a u : Int, (a ≠ 7000 + r ∨ (u ≠ 14 ∧ u ≠ 15)) → (pPN0 r g e).1 a u = e.1 a u := fun a u h => by
    unfold pPN0
    split
    · rw [es_pt, if_neg (by omega), es_pt, if_neg (by omega)]
    · rfl
  have f02 : (pPN0 r g e).2 = e.2 := by
    unfold pPN0
    split <;> rfl
  have f0N : hN (pPN0 r g e) r = hN e r := f0 _ _ (by omega)
  have f0H : ∀ j, eH (pPN0 r g e) j = eH e j := fun j => by unfold eH; rw [f02]
  -- the news
  obtain ⟨p1, p2, p3⟩ := pnl_h (t := e.1 4 14) r0 (by omega) L (pPN0 r g e)
  rw [f0N] at p1 p2 p3
  have p4 : ∀ a u : Int, a ≠ 68 → a ≠ 3 → a ≠ 76000 + r → a ≠ 71000 + r → (pPNL r (e.1 4 14) L (pPN0 r g e)).1 a u = (pPN0 r g e).1 a u := fun a u h1 h2 h3 h4 => pnl_a h1 h2 h3 h4 L _
  -- the TASK
  have w2 : pPN2 r k g e = pPut r 17 (e.1 (9000 + k) 3) 0 (e.1 4 14) 0 (pPNL r (e.1 4 14) L (pPN0 r g e)) := by unfold pPN2; rw [hL]
  have q4 : ∀ a u : Int, a ≠ 68 → a ≠ 3 → a ≠ 76000 + r → a ≠ 71000 + r → (pPN2 r k g e).1 a u = (pPN0 r g e).1 a u := fun a u h1 h2 h3 h4 => by
    rw [w2, put_a h1 h2 h3 h4]
    exact p4 a u h1 h2 h3 h4
  have qn : ∀ j : Int, 0 ≤ j → j < 1000 → hN (pPN2 r k g e) j = (if j = r then hN e r + L.length + 1 else hN e j) ∧ eH (pPN2 r k g e) j = if j = r then Ev1 (eH (pPNL r (e.1 4 14) L (pPN0 r g e)) r) (hN e r + L.length) (evP 17 (e.1 (9000 + k) 3) 0 (e.1 4 14) 0) else eH e j := fun j j0 j1 => by
    obtain ⟨g1, g2⟩ := put_hN (e := pPNL r (e.1 4 14) L (pPN0 r g e)) (i := r) (j := j) (k := 17) (p := e.1 (9000 + k) 3) (q := 0) (t := e.1 4 14) (o := 0) r0 j0 j1
    rw [w2, g1, g2]
    by_cases c : j = r
    · rw [if_pos c, if_pos c, if_pos c, if_pos c, c, p1]
      exact ⟨rfl, rfl⟩
    · rw [if_neg c, if_neg c, if_neg c, if_neg c, (pnl_o r0 (by omega) c j0 j1 L (pPN0 r g e)).1, f0H]
      refine ⟨?_, rfl⟩
      unfold hN
      rw [p4 _ _ (by omega) (by omega) (by omega) (by omega)]
      exact f0 _ _ (by omega)
  have q2 : ∀ c, eL (pPN2 r k g e) c = eL e c := fun c => by
    rw [w2, put_l, (pnl_o (j := r + 1) r0 (by omega) (by omega) (by omega) (by omega) L (pPN0 r g e)).2.1]
    unfold eL
    rw [f02]
  have q3 : (pPN2 r k g e).2.2.2 = e.2.2.2 := by
    rw [w2, put_T, (pnl_o (j := r + 1) r0 (by omega) (by omega) (by omega) (by omega) L (pPN0 r g e)).2.2, f02]
  -- the marks, the machine
  have m4 : ∀ a u : Int, (a ≠ 7000 + r ∨ (u ≠ 12 ∧ u ≠ 13)) → (pPN4 r k g e).1 a u = (pPN2 r k g e).1 a u := fun a u h => by
    unfold pPN4
    rw [es_pt, if_neg (by omega), es_pt, if_neg (by omega)]
  have m5 : ∀ a u : Int, a ≠ 16 → (pPN r k g e).1 a u = (pPN4 r k g e).1 a u := fun a u h => ms_a h
  have hN5 : ∀ j : Int, 0 ≤ j → j < 1000 → hN (pPN r k g e) j = hN (pPN2 r k g e) j := fun j j0 j1 => (m5 _ _ (by omega)).trans (m4 _ _ (by omega))
  have hH5 : ∀ j : Int, eH (pPN r k g e) j = eH (pPN2 r k g e) j := fun j => rfl
  obtain ⟨t1, t2⟩ := qn r r0 (by omega)
  rw [if_pos rfl] at t1 t2
  refine ⟨fun a u h1 h2 h3 h4 h5 h6 => ?_, fun c => q2 c, fun j hj j0 j1 => ?_, ⟨?_, fun i i0 i1 => ?_, fun i q hq => ?_, ?_⟩, ⟨?_, ?_, ?_, ?_⟩, (show mset (pPN4 r k g e).1 16 7 r 16 7 = r from ms_e), ?_, ?_⟩
  · rw [m5 _ _ h5, m4 _ _ (by omega), q4 _ _ h1 h2 h3 h4, f0 _ _ (by omega)]
  · obtain ⟨g1, g2⟩ := qn j j0 j1
    rw [if_neg hj] at g1 g2
    rw [hN5 j j0 j1, hH5, g1, g2]
    exact ⟨rfl, rfl⟩
  · rw [hN5 r r0 (by omega), t1]
  · rw [hH5, t2]
    show (if i = hN e r + L.length then _ else eH (pPNL r (e.1 4 14) L (pPN0 r g e)) r i) = _
    rw [if_neg (by omega), p2 i i1, f0H]
  · have hl : (i : Int) < L.length := by
      have := (List.getElem?_eq_some_iff.mp hq).1
      omega
    rw [hH5, t2]
    show (if hN e r + (i : Int) = hN e r + L.length then _ else eH (pPNL r (e.1 4 14) L (pPN0 r g e)) r (hN e r + i)) = _
    rw [if_neg (by omega)]
    exact p3 i q hq
  · rw [hH5, t2]
    exact if_pos rfl
  · rw [m5 _ _ (by omega)]
    unfold pPN4
    rw [es_pt, if_neg (by omega), eS_e]
  · have e13 : (pPN r k g e).1 (7000 + r) 13 = pMark (pPN2 r k g e) r := by
      rw [m5 _ _ (by omega)]
      unfold pPN4
      exact eS_e
    rw [e13]
    unfold pMark hT
    rw [hN5 r r0 (by omega), hH5, m5 (7000 + r) 9 (by omega), m5 (7000 + r) 3 (by omega), m4 _ _ (by omega), m4 _ _ (by omega)]
  · rw [m5 _ _ (by omega), m4 _ _ (by omega), q4 _ _ (by omega) (by omega) (by omega) (by omega)]
    unfold pPN0
    by_cases c : g = 0
    · rw [if_pos c, if_pos c, eS_e]
    · rw [if_neg c, if_neg c]
  · rw [m5 _ _ (by omega), m4 _ _ (by omega), q4 _ _ (by omega) (by omega) (by omega) (by omega)]
    unfold pPN0
    by_cases c : g = 0
    · rw [if_pos c, if_pos c, es_pt, if_neg (by omega), eS_e]
    · rw [if_neg c, if_neg c]
  · have e1 : eT (pPN r k g e) = sKnow (hN (pPN4 r k g e) r) (eT e) := rfl
    rw [e1, show hN (pPN4 r k g e) r = hN (pPN r k g e) r from (m5 _ _ (by omega)).symm]
  · rfl
end PNF
