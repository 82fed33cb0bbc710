/-! THE REFERENCE'S CALLS: work of a history begins anew, the loop. -/
section RXU7
variable {m m' M m1 : MM} {e e' e2 : ES} {a b c i j k o r v w p t s x y n q A B N u z ev due : Int} {l L : List Int}
/-- how many timers there are -/
def nTm (e : ES) : Nat := (pT e (e.1 7 2).toNat).length
theorem pT1_len : (pT1 e r).length = min (eL e (73000 + r)).length (eL e (74000 + r)).length := by
  unfold pT1
  rw [List.length_map, List.length_zip]
theorem pT_len : ∀ {n : Nat}, (pT e (n + 1)).length = (pT e n).length + (pT1 e (n : Int)).length := fun {n} => by
  show (pT e n ++ pT1 e (n : Int)).length = _
  rw [List.length_append]
theorem pT_le : ∀ {n : Nat}, (∀ j : Int, 0 ≤ j → j < (n : Int) → (pT1 e j).length ≤ (pT1 e' j).length) → (pT e n).length ≤ (pT e' n).length := by
  intro n
  induction n with
  | zero => intro _; exact Nat.le_refl _
  | succ n ih =>
    intro h
    rw [pT_len, pT_len]
    have h1 := ih fun j j0 j1 => h j j0 (by omega)
    have h2 := h (n : Int) (by omega) (by omega)
    omega
theorem pT_lt (r0 : 0 ≤ r) : ∀ {n : Nat}, r < (n : Int) → (∀ j : Int, 0 ≤ j → j < (n : Int) → (pT1 e j).length ≤ (pT1 e' j).length) → (pT1 e r).length + 1 ≤ (pT1 e' r).length → (pT e n).length + 1 ≤ (pT e' n).length := by
  intro n
  induction n with
  | zero => intro h _ _; omega
  | succ n ih =>
    intro h h1 h2
    rw [pT_len, pT_len]
    by_cases c : r = (n : Int)
    · have g1 := pT_le (e := e) (e' := e') (n := n) fun j j0 j1 => h1 j j0 (by omega)
      rw [← c]
      omega
    · have g1 := ih (by omega) (fun j j0 j1 => h1 j j0 (by omega)) h2
      have g2 := h1 (n : Int) (by omega) (by omega)
      omega
/-- what a step of it leaves -/
def RsK (r i : Int) (e e' : ES) : Prop := (MR e e' ∧ CN e' ∧ e'.1 7 2 = e.1 7 2 ∧ (Dead e' r ↔ Dead e r)) ∧ (TmO e r → TmO e' r) ∧ (hN e r ≤ hN e' r ∧ ∀ k : Int, 0 ≤ k → k < hN e r → eH e' r k = eH e r k ∧ e'.1 (76000 + r) k = e.1 (76000 + r) k) ∧ (∀ j : Int, 0 ≤ j → j ≠ i → (ended (pX e' r) j = true ↔ ended (pX e r) j = true)) ∧ nTm e ≤ nTm e'
theorem RsK.rf (hc : CN e) : RsK r i e e := ⟨⟨MR.rf, hc, rfl, Iff.rfl⟩, id, ⟨Int.le_refl _, fun _ _ _ => ⟨rfl, rfl⟩⟩, fun _ _ _ => Iff.rfl, Nat.le_refl _⟩
/-- the history as it was -/
theorem ended_s (h1 : hN e' r = hN e r) (h2 : eH e' r = eH e r) : ended (pX e' r) j = true ↔ ended (pX e r) j = true := by
  rw [ended_i, ended_i, h1, h2]
theorem arr_eH (r0 : 0 ≤ r) (r1 : r < 1000) : hN (pArr r k x y e) r = hN e r + 1 ∧ eH (pArr r k x y e) r = Ev1 (eH e r) (hN e r) (evP k x y (e.1 4 14) (e.1 4 16)) := by
  obtain ⟨g1, g2⟩ := put_hN (i := r) (j := r) (k := k) (p := x) (q := y) (t := e.1 4 14) (o := e.1 4 16) (e := e) r0 r0 r1
  rw [if_pos rfl] at g1 g2
  refine ⟨?_, g2⟩
  have : hN (pArr r k x y e) r = hN (pPut r k x y (e.1 4 14) (e.1 4 16) e) r := eS_a (by omega)
  rw [this]
  exact g1
theorem ended_arr (r0 : 0 ≤ r) (r1 : r < 1000) (x0 : 0 ≤ x) (hj : j ≠ x) (j0 : 0 ≤ j) : ended (pX (pArr r k x y e) r) j = true ↔ ended (pX e r) j = true := by
  obtain ⟨g1, g2⟩ := arr_eH (r := r) (k := k) (x := x) (y := y) (e := e) r0 r1
  rw [ended_i, ended_i, g1, g2]
  have ho : ∀ u : Int, u ≠ hN e r → Ev1 (eH e r) (hN e r) (evP k x y (e.1 4 14) (e.1 4 16)) u = eH e r u := fun u hu => if_neg hu
  have hs : ex (Ev1 (eH e r) (hN e r) (evP k x y (e.1 4 14) (e.1 4 16)) (hN e r)) = x := by
    rw [show Ev1 (eH e r) (hN e r) (evP k x y (e.1 4 14) (e.1 4 16)) (hN e r) = evP k x y (e.1 4 14) (e.1 4 16) from if_pos rfl]
    show ((x.toNat : Nat) : Int) = x
    omega
  constructor
  · rintro ⟨u, u0, u1, u2, u3⟩
    by_cases c : u = hN e r
    · rw [c, hs] at u3
      exact absurd u3.symm hj
    · rw [ho u c] at u2 u3
      exact ⟨u, u0, by omega, u2, u3⟩
  · rintro ⟨u, u0, u1, u2, u3⟩
    refine ⟨u, u0, by omega, ?_, ?_⟩
    · rw [ho u (by omega)]; exact u2
    · rw [ho u (by omega)]; exact u3
theorem rk_arr (hc : CN e) (r0 : 0 ≤ r) (r1 : r < e.1 7 2) (i0 : 0 ≤ i) : RsK r i e (pArr r k i y e) := by
  have n7 := hc.1
  obtain ⟨g1, g2⟩ := arr_eH (r := r) (k := k) (x := i) (y := y) (e := e) r0 (by omega)
  have e7 : (pArr r k i y e).1 7 2 = e.1 7 2 := arr_a (by decide) (by decide) (by omega) (by omega) (by decide)
  refine ⟨⟨mr_arr hc r0 r1, hc.arr r0, e7, ?_⟩, fun g => ?_, ⟨by omega, fun u u0 u1 => ⟨?_, ?_⟩⟩, fun j j0 hj => ended_arr r0 (by omega) i0 hj j0, ?_⟩
  · unfold Dead
    rw [arr_a (by omega) (by omega) (by omega) (by omega) (by omega)]
  · unfold TmO at g ⊢
    rw [arr_l, arr_l]
    exact g
  · rw [g2]
    exact if_neg (by omega)
  · rw [show (pArr r k i y e).1 (76000 + r) u = (pPut r k i y (e.1 4 14) (e.1 4 16) e).1 (76000 + r) u from eS_a (by omega), put_G r0, if_neg (by omega)]
  · unfold nTm
    rw [e7]
    exact Nat.le_of_eq (congrArg List.length (pT_eq fun r _ _ => ⟨arr_l, arr_l⟩)).symm
theorem rk_new {f : Int → Int} (hc : CN e) (h8 : e.1 8 2 < 60) (r0 : 0 ≤ r) (r1 : r < e.1 7 2) : RsK r i e (pNew 8 f e) := by
  have n7 := hc.1
  have n8 := hc.2.1
  have ha : ∀ a u : Int, a ≠ 8 → (a < 8000 ∨ 9000 ≤ a) → (pNew 8 f e).1 a u = e.1 a u := fun a u g1 g2 => pNew_a g1 (by omega)
  have hn : ∀ j : Int, 0 ≤ j → hN (pNew 8 f e) j = hN e j := fun j j0 => ha _ _ (by omega) (by omega)
  refine ⟨⟨MR.of (ha _ _ (by decide) (by decide)) (fun j => ha _ _ (by decide) (by decide)) (fun j => ha _ _ (by decide) (by decide)) (ha _ _ (by decide) (by decide)) (fun j j0 _ => hn j j0), hc.new (by decide) (by decide) (fun _ => h8) (fun h => absurd h (by decide)) (fun h => absurd h (by decide)), ha _ _ (by decide) (by decide), ?_⟩, fun g => g, ⟨by rw [hn r r0]; omega, fun u _ _ => ⟨rfl, ha _ _ (by omega) (by omega)⟩⟩, fun j j0 hj => ended_s (hn r r0) rfl, ?_⟩
  · unfold Dead
    rw [ha _ _ (by omega) (by omega)]
  · unfold nTm
    rw [ha _ _ (by decide) (by decide)]
    exact Nat.le_of_eq (congrArg List.length (pT_eq (e' := pNew 8 f e) (e := e) fun r _ _ => ⟨rfl, rfl⟩)).symm
theorem addT_r : eL (pAddT r ev due e) (73000 + r) = eL e (73000 + r) ++ [ev] ∧ eL (pAddT r ev due e) (74000 + r) = eL e (74000 + r) ++ [due] ∧ ∀ c, c ≠ 73000 + r → c ≠ 74000 + r → eL (pAddT r ev due e) c = eL e c := by
  unfold pAddT
  refine ⟨?_, eLs_e, fun c h1 h2 => ?_⟩
  · rw [eLs_a (by omega)]
    show eL (eLs e (73000 + r) _) (73000 + r) = _
    exact eLs_e
  · rw [eLs_a h2]
    show eL (eLs e (73000 + r) _) c = _
    exact eLs_a h1
theorem addT_lt (hc : CN e) (r0 : 0 ≤ r) (r1 : r < e.1 7 2) (hT : TmO e r) : nTm e + 1 ≤ nTm (pAddT r ev due e) := by
  have n7 := hc.1
  obtain ⟨a1, a2, a3⟩ := addT_r (e := e) (r := r) (ev := ev) (due := due)
  unfold nTm
  rw [addT_1 (by decide)]
  refine pT_lt r0 (by omega) (fun j j0 j1 => ?_) ?_
  · rw [pT1_len, pT1_len]
    by_cases c : j = r
    · rw [c, a1, a2, List.length_append, List.length_append, List.length_singleton, List.length_singleton]
      omega
    · rw [a3 _ (by omega) (by omega), a3 _ (by omega) (by omega)]
      exact Nat.le_refl _
  · rw [pT1_len, pT1_len, a1, a2, List.length_append, List.length_append, List.length_singleton, List.length_singleton]
    omega
theorem rk_addT (hc : CN e) (r0 : 0 ≤ r) (r1 : r < e.1 7 2) (i0 : 0 ≤ ev) (i1 : ev < 524288) (hT : TmO e r) : RsK r i e (pAddT r ev due e) := by
  have n7 := hc.1
  obtain ⟨a1, a2, a3⟩ := addT_r (e := e) (r := r) (ev := ev) (due := due)
  have ha : ∀ a u : Int, a ≠ 3 → (pAddT r ev due e).1 a u = e.1 a u := fun a u g => addT_1 g
  have h3 : (pAddT r ev due e).1 3 0 = e.1 3 0 := show (eS (eLs e (73000 + r) (eL e (73000 + r) ++ [ev])) 3 1 (e.1 3 1 + 1)).1 3 0 = e.1 3 0 from eS_j (i := 0) (by decide)
  have hn : ∀ j : Int, 0 ≤ j → hN (pAddT r ev due e) j = hN e j := fun j j0 => ha _ _ (by omega)
  refine ⟨⟨MR.of h3 (fun j => ha _ _ (by decide)) (fun j => ha _ _ (by decide)) (ha _ _ (by decide)) (fun j j0 _ => hn j j0), hc.of fun a _ => ha _ _ (by omega), ha _ _ (by decide), ?_⟩, fun g => ?_, ⟨by rw [hn r r0]; omega, fun u _ _ => ⟨rfl, ha _ _ (by omega)⟩⟩, fun j j0 hj => ended_s (hn r r0) rfl, ?_⟩
  · unfold Dead
    rw [ha _ _ (by omega)]
  · unfold TmO at g ⊢
    rw [a1, a2, List.length_append, List.length_append, g.1]
    refine ⟨rfl, fun v hv => ?_⟩
    rw [List.mem_append] at hv
    rcases hv with hv | hv
    · exact g.2 v hv
    · rw [List.mem_singleton] at hv
      omega
  · have := addT_lt (ev := ev) (due := due) hc r0 r1 hT
    omega
theorem rk_rs1 (hc : CN e) (r0 : 0 ≤ r) (r1 : r < e.1 7 2) (i0 : 0 ≤ i) (i1 : i < 524288) (hT : TmO e r) : RsK r i e (pRs1 r i e) := by
  unfold pRs1
  split
  · split
    · unfold pMakA
      split
      · rename_i c
        exact rk_new hc c r0 r1
      · exact rk_arr hc r0 r1 i0
    · exact rk_addT hc r0 r1 i0 i1 hT
  · exact RsK.rf hc
/-- all of it -/
theorem rk_rsL (r0 : 0 ≤ r) (hN5 : N ≤ 524288) : ∀ (n : Nat) (i : Int) (e : ES), CN e → r < e.1 7 2 → 0 ≤ i → TmO e r → (MR e (pRsL r N n i e) ∧ CN (pRsL r N n i e) ∧ (pRsL r N n i e).1 7 2 = e.1 7 2) ∧ nTm e ≤ nTm (pRsL r N n i e) := by
  intro n
  induction n with
  | zero => intro i e hc _ _ _; exact ⟨⟨MR.rf, hc, rfl⟩, Nat.le_refl _⟩
  | succ n ih =>
    intro i e hc r1 i0 hT
    unfold pRsL
    by_cases c : i < N
    · rw [if_pos c]
      obtain ⟨⟨g1, g2, g3, -⟩, g4, -, -, g5⟩ := rk_rs1 hc r0 r1 i0 (by omega) hT
      obtain ⟨⟨k1, k2, k3⟩, k4⟩ := ih (i + 1) (pRs1 r i e) g2 (by omega) (by omega) (g4 hT)
      exact ⟨⟨g1.tr k1, k2, k3.trans g3⟩, Nat.le_trans g5 k4⟩
    · rw [if_neg c]
      exact ⟨⟨MR.rf, hc, rfl⟩, Nat.le_refl _⟩
theorem rMost : fm_X12_most x y m = some (if x < y then y else x) := by
  unfold fm_X12_most
  by_cases z : y < x
  · rw [if_pos z, if_neg (by omega)]
  · rw [if_neg z]
    by_cases z2 : x < y
    · rw [if_pos z2]
    · rw [if_neg z2]
      congr 1
      omega
theorem rsLr (r0 : 0 ≤ r) (hN5 : N ≤ 524288) : ∀ (n f : Nat) (i : Int) (m : MM) (e : ES), RXE m e → CN e → RLw e → TmO e r → ¬ Dead e r → r < e.1 7 2 → N ≤ hN e r → (∀ j : Int, i ≤ j → j < N → (bt (m 97 (j / 32)) (j % 32) ↔ ended (pX e r) j = true)) → (∀ k : Int, i ≤ k → k < N → ek (eH e r k) = 9 → e.1 (76000 + r) k = ew (eH e r k)) → RFw (pRsL r N n i e) → nTm (pRsL r N n i e) ≤ 512 → 0 ≤ i → N < i + n → 0 < n → n ≤ f → ∃ m', fl_X12_beginsAnew_14 r N f i m = some (0, m') ∧ RXE m' (pRsL r N n i e) ∧ SCR m m' := by
  intro n
  induction n with
  | zero => intro f i m e h hc hl hT hd r1 hN1 hb hw hf hL i0 h1 h2; omega
  | succ n ih =>
    intro f i m e h hc hl hT hd r1 hN1 hb hw hf hL i0 h1 h2 h3
    obtain ⟨f, rfl⟩ : ∃ g, f = g + 1 := ⟨f - 1, by omega⟩
    have n7 := hc.1
    have hl1 := hl.1
    have hu : pRsL r N (n + 1) i e = if i < N then pRsL r N n (i + 1) (pRs1 r i e) else e := rfl
    rw [hu] at hf hL ⊢
    by_cases c : i < N
    · rw [if_pos c] at hf hL ⊢
      have rk := rk_rs1 hc r0 r1 i0 (by omega) hT
      obtain ⟨⟨g1, g2, g3, g4⟩, g5, ⟨g6, g7⟩, g8, g9⟩ := rk
      obtain ⟨⟨k1, k2, k3⟩, k4⟩ := rk_rsL r0 hN5 n (i + 1) (pRs1 r i e) g2 (by omega) (by omega) (g5 hT)
      have hf1 : RFw (pRs1 r i e) := hf.bk k1
      have hk := h.kd r0 r1 i0 (by omega)
      have hx := h.xx r0 r1 i0 (by omega)
      have hy := h.yy r0 r1 i0 (by omega)
      have hwn := h.wn r0 r1 i0 (by omega)
      have bx := (h.kb r0 r1 i0 (by omega)).2.1
      have bw : 0 ≤ e.1 (76000 + r) i ∧ e.1 (76000 + r) i < 536870912 := by
        obtain ⟨A, -, -, -, q4, -, -, -, -, q9, -⟩ := h.ph r r0 r1 i i0 (by omega)
        omega
      have e0 : m 68 0 = e.1 4 14 := h.ps.1
      have hbk := rBack (m := m) (j := i) i0 (by omega)
      have hbi := hb i (Int.le_refl _) c
      have nxt : ∀ m1, RXE m1 (pRs1 r i e) → SCR m m1 → ∃ m', fl_X12_beginsAnew_14 r N f (i + 1) m1 = some (0, m') ∧ RXE m' (pRsL r N n (i + 1) (pRs1 r i e)) ∧ SCR m m' := fun m1 u1 u2 => by
        obtain ⟨m', w1, w2, w3⟩ := ih f (i + 1) m1 (pRs1 r i e) u1 g2 (g1.2.2 hl) (g5 hT) (fun hh => hd (g4.mp hh)) (by omega) (by omega) (fun j j0 j1 => by
          rw [u2.1 97 _ (by decide) (Or.inl rfl), hb j (by omega) j1]
          exact (g8 j (by omega) (by omega)).symm) (fun k k0 k1 hk9 => by
          obtain ⟨q1, q2⟩ := g7 k (by omega) (by omega)
          rw [q1] at hk9
          rw [q1, q2]
          exact hw k (by omega) k1 hk9) hf hL (by omega) (by omega) (by omega) (by omega)
        exact ⟨m', w1, w2, u2.tr w3⟩
      unfold fl_X12_beginsAnew_14
      rw [if_pos c, bp_t hk]
      by_cases c8 : ek (eH e r i) = 8
      · rw [if_pos c8, bp_t hbk]
        by_cases cb : iAnd (iShr (m 97 (i / 32)) (i % 32)) 1 = 1
        · have he : ended (pX e r) i = true := hbi.mp cb
          have ep : pRs1 r i e = e := by unfold pRs1; exact if_neg fun hh => hh.2 he
          rw [if_pos cb, if_neg (show ¬ (1 : Int) = 0 by decide)]
          unfold fj_X12_beginsAnew_63
          rw [if_neg (by omega), lx_p, w32_id (z := i + 1) (by omega) (by omega)]
          exact nxt m (by rw [ep]; exact h) SCR.rf
        · have he : ¬ ended (pX e r) i = true := fun hh => cb (hbi.mpr hh)
          have ep : pRs1 r i e = pMakA r i (ex (eH e r i)) (ey (eH e r i)) e := by unfold pRs1; rw [if_pos ⟨Or.inl c8, he⟩, if_pos c8]
          rw [ep] at hf1
          obtain ⟨m1, u1, u2, u3⟩ := h.makA hc hl hf1 r0 r1 hd i0 (by omega)
          rw [if_neg cb, if_pos (show (0 : Int) = 0 from rfl), bp_t hx, bp_t hy, bd_t u1, lx_p, w32_id (z := i + 1) (by omega) (by omega)]
          exact nxt m1 (by rw [ep]; exact u2) u3
      · rw [if_neg c8]
        unfold fj_X12_beginsAnew_63
        by_cases c9 : ek (eH e r i) = 9
        · rw [if_pos c9, bp_t hbk]
          by_cases cb : iAnd (iShr (m 97 (i / 32)) (i % 32)) 1 = 1
          · have he : ended (pX e r) i = true := hbi.mp cb
            have ep : pRs1 r i e = e := by unfold pRs1; exact if_neg fun hh => hh.2 he
            rw [if_pos cb, if_neg (show ¬ (1 : Int) = 0 by decide), lx_p, w32_id (z := i + 1) (by omega) (by omega)]
            exact nxt m (by rw [ep]; exact h) SCR.rf
          · have he : ¬ ended (pX e r) i = true := fun hh => cb (hbi.mpr hh)
            have ep : pRs1 r i e = pAddT r i (if ew (eH e r i) + ex (eH e r i) < e.1 4 14 + 1 then e.1 4 14 + 1 else ew (eH e r i) + ex (eH e r i)) e := by unfold pRs1; rw [if_pos ⟨Or.inr c9, he⟩, if_neg c8]
            have hwi := hw i (Int.le_refl _) c c9
            have lt1 := addT_lt (ev := i) (due := if ew (eH e r i) + ex (eH e r i) < e.1 4 14 + 1 then e.1 4 14 + 1 else ew (eH e r i) + ex (eH e r i)) hc r0 r1 hT
            rw [ep] at k4
            rw [ep] at hL
            have hlt : nTm e < 512 := by omega
            obtain ⟨m1, u1, u2, u3⟩ := h.addT (ev := i) (due := if ew (eH e r i) + ex (eH e r i) < e.1 4 14 + 1 then e.1 4 14 + 1 else ew (eH e r i) + ex (eH e r i)) hc r0 r1 hT.1 hlt
            rw [if_neg cb, if_pos (show (0 : Int) = 0 from rfl), bp_t hwn, bp_t hx, lx_p, e0, w32_id (z := e.1 (76000 + r) i + ex (eH e r i)) (by omega) (by omega), w32_id (z := e.1 4 14 + 1) (by omega) (by omega), hwi, bp_t rMost, bd_t u1, lx_p, w32_id (z := i + 1) (by omega) (by omega)]
            exact nxt m1 (by rw [ep]; exact u2) u3
        · have ep : pRs1 r i e = e := by unfold pRs1; exact if_neg fun hh => hh.1.elim c8 c9
          rw [if_neg c9, lx_p, w32_id (z := i + 1) (by omega) (by omega)]
          exact nxt m (by rw [ep]; exact h) SCR.rf
    · rw [if_neg c]
      unfold fl_X12_beginsAnew_14
      rw [if_neg c]
      exact ⟨m, rfl, h, SCR.rf⟩
/-- when timers' events came, as the reference has it -/
def WnI (e : ES) (r : Int) : Prop := ∀ k : Int, 0 ≤ k → k < hN e r → ek (eH e r k) = 9 → e.1 (76000 + r) k = ew (eH e r k)
/-- what of the thrown stays -/
def S84 (m m' : MM) : Prop := ∀ j : Int, 84 < j → m' 68 j = m 68 j
theorem RXE.rest (h : RXE m e) (hc : CN e) (hl : RLw e) (r0 : 0 ≤ r) (r1 : r < e.1 7 2) (hd : ¬ Dead e r) (hT : TmO e r) (hB : Bef e r) (hW : WnI e r) (hn : hN e r < 524288) (hf : RFw (pRest r e)) (hL : nTm (pRest r e) ≤ 512) : ∃ m', fm_X12_beginsAnew r m = some (0, m') ∧ RXE m' (pRest r e) ∧ S84 m m' := by
  have n7 := hc.1
  have hn0 : 0 ≤ hN e r := hl.2.2.2 r r0 r1
  have k86 : m 86 r = hN e r := (h.pr.1 r r0 r1).2.1.1
  obtain ⟨m1, g1, g2, g3⟩ := rMarks h hc ⟨hn0, hn⟩ r0 r1
  obtain ⟨m2, u1, u2, u3⟩ := rsLr (N := hN e r) r0 (by omega) ((hN e r).toNat + 1) BIG 0 m1 e (g2.rx h hc) hc hl hT hd r1 (Int.le_refl _) (fun j j0 j1 => (g3 j j0 j1).trans (ended_k hB j0).symm) (fun k k0 k1 => hW k k0 k1) hf hL (Int.le_refl _) (by omega) (by omega) (Nat.le_of_lt (BIG_g (by omega)))
  refine ⟨m2, ?_, u2, fun j hj => (u3.2 j hj).trans (g2 68 j (by decide))⟩
  unfold fm_X12_beginsAnew
  rw [gd_t (by omega), lx_p, k86, bd_t g1]
  exact u1
end RXU7
