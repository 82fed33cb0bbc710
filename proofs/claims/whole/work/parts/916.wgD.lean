/-! WHAT THE CALLS LEAVE: joined, taken over, set back. -/
section WGD
variable {e e' e1 e2 e3 : ES} {S D T a b c d i j k q r v w N M p x y t o p1 p2 : Int} {W : Int → Int → Prop} {X : Int → Int → Int → Prop}
theorem wg_jnL (i0 : 0 ≤ i) : ∀ (L : List Int) (e : ES), CN e → HNN e → i < e.1 7 2 → WG e (pJnL i L e) := by
  intro L
  induction L with
  | nil => intro e _ _ _; exact WG.rf
  | cons v L ih =>
    intro e hc hK i1
    unfold pJnL
    have g := gc_arr (Z := nZ) (r := i) (k := 4) (x := v / 1000) (y := v % 1000) hc hK i0 i1 (by decide) (by decide)
    exact (wg_arr hc hK i0 i1 (by decide) (by decide)).1.tr (ih _ g.2 (g.hk hK) (by have := g.n7; omega))
theorem wg_row {l : List Int} : WG e (eLs e c l) := WG.fr rfl rfl rfl rfl (fun _ => rfl) fun _ _ _ => ⟨rfl, rfl⟩
theorem wg_jn1 (hH : HH S D T e) (i0 : 0 ≤ i) (i1 : i < e.1 7 2) : WG e (pJn1 i e) := by
  unfold pJn1
  split
  · exact (wg_jnL i0 _ e hH.cn hH.hn i1).tr wg_row
  · exact wg_row
theorem wg_jnR : ∀ (n : Nat) (a i : Int) (e : ES), HH S D T e → 0 ≤ i → WG e (pJnR n a i e).2 := by
  intro n
  induction n with
  | zero => intro a i e _ _; exact WG.rf
  | succ n ih =>
    intro a i e hH i0
    unfold pJnR
    split
    · rename_i c
      exact (wg_jn1 hH i0 c).tr (ih (a + pJnC i e) (i + 1) _ (hh_jn1 hH i0 c).1 (by omega))
    · exact WG.rf
theorem wc_join (hH : HH S D T e) : WG e (pcJoin e).2 := by
  have hc := hH.cn
  unfold pcJoin
  split
  · exact (wg_es hc (by omega)).1.tr (wg_jnR 31 0 0 _ (hH.es (v := 1) (hH.1.es0 (a := 4) (j := 17) (by omega) (by omega)) (by omega)) (Int.le_refl _))
  · exact (wg_thr hc).1
/-- work made again -/
theorem wl_rest (h : HK S D T nWt noX e) (z : NZ e) (hF : FBi nZ e) (hO : OI e) (ht : 0 ≤ e.1 4 14 ∧ e.1 4 14 < 1000000) (r0 : 0 ≤ r) (r1 : r < e.1 7 2) (hd : ¬ Dead e r) (hR : RLo r 0 e) : WL e (pRest r e) := by
  have n7 := h.cn.1
  have n8 := h.cn.2.1
  have hl := h.len r0 r1
  obtain ⟨u1, -, -⟩ := gc_rest h nWt_n z hF hO ht r0 r1 hd hR
  exact WL.ex h.cn h.hnn u1.1.1 (rsL_kp r0 (by omega) (show hN e r ≤ 524288 by omega) ((hN e r).toNat + 1) 0 e (by omega) n8.1 (hF.tmo r0 r1) (Int.le_refl _)).2.1
/-- what is cut, and what stays with it -/
def CT (e e' : ES) : Prop := e'.1 7 2 = e.1 7 2 ∧ (∀ j : Int, 0 ≤ j → j < 30 → e'.1 (7000 + j) 6 = e.1 (7000 + j) 6) ∧ (∀ j : Int, 0 ≤ j → j < 30 → e.1 (7000 + j) 6 = 0 ∨ hN e' j = hN e j) ∧ (∀ j : Int, eH e' j = eH e j) ∧ (∀ u : Int, e'.1 68 u = e.1 68 u) ∧ e'.1 3 0 = e.1 3 0 ∧ (∀ j : Int, 0 ≤ j → j < e.1 7 2 → hN e' j ≤ hN e j) ∧ ∀ u : Int, u ≠ 17 → e'.1 4 u = e.1 4 u
theorem CT.rf : CT e e := ⟨rfl, fun _ _ _ => rfl, fun _ _ _ => Or.inr rfl, fun _ => rfl, fun _ => rfl, rfl, fun _ _ _ => Int.le_refl _, fun _ _ => rfl⟩
theorem CT.tr (h : CT e e1) (g : CT e1 e2) : CT e e2 := by
  obtain ⟨h1, h2, h3, h4, h5, h6, h7, h8⟩ := h
  obtain ⟨g1, g2, g3, g4, g5, g6, g7, g8⟩ := g
  refine ⟨g1.trans h1, fun j j0 j1 => (g2 j j0 j1).trans (h2 j j0 j1), fun j j0 j1 => ?_, fun j => (g4 j).trans (h4 j), fun u => (g5 u).trans (h5 u), g6.trans h6, fun j j0 j1 => Int.le_trans (g7 j j0 (by omega)) (h7 j j0 j1), fun u hu => (g8 u hu).trans (h8 u hu)⟩
  rcases h3 j j0 j1 with a | a
  · exact Or.inl a
  · rcases g3 j j0 j1 with b | b
    · rw [h2 j j0 j1] at b
      exact Or.inl b
    · exact Or.inr (b.trans a)
theorem ct_lose (hc : CN e) (i0 : 0 ≤ i) (i1 : i < e.1 7 2) (hs : e.1 (7000 + i) 6 = 0) (h8 : 0 ≤ e.1 (7000 + i) 8 ∧ e.1 (7000 + i) 8 ≤ hN e i) : CT e (pLose i e) := by
  have n7 := hc.1
  have n8 := hc.2.1
  obtain ⟨l1, l2, l3, l4, l5⟩ := lose_pt hc i0 i1 h8
  have pa : ∀ a u : Int, a ≠ 3 → a ≠ 71000 + i → (a ≠ 7000 + i ∨ u ≠ 9) → (a < 8000 ∨ 9000 ≤ a ∨ u ≠ 5) → (a < 7000 ∨ 8000 ≤ a ∨ u ≠ 4) → (pLose i e).1 a u = e.1 a u := fun a u h1 h2 h3 h4 h5 => by
    rw [l1 a u h1 h2 h3, if_neg (by omega), if_neg (by omega)]
  have g30 : (pLose i e).1 3 0 = e.1 3 0 := by
    have b8 : (pLoB i (pLoA i e)).1 3 0 = (pLoA i e).1 3 0 := loB_a (by omega) (by omega)
    have b9 : (pLoA i e).1 3 0 = e.1 3 0 := loL_3 _ _ _
    unfold pLose
    rw [end_a (by omega), par_a (by omega)]
    exact b8.trans b9
  refine ⟨pa _ _ (by omega) (by omega) (by omega) (by omega) (by omega), fun j j0 j1 => pa _ _ (by omega) (by omega) (by omega) (by omega) (by omega), fun j j0 j1 => ?_, fun j => congrFun l2 j, fun u => pa _ _ (by omega) (by omega) (by omega) (by omega) (by omega), g30, fun j j0 j1 => ?_, fun u _ => pa _ _ (by omega) (by omega) (by omega) (by omega) (by omega)⟩
  · by_cases cj : j = i
    · rw [cj]; exact Or.inl hs
    · exact Or.inr (pa _ _ (by omega) (by omega) (by omega) (by omega) (by omega))
  · by_cases cj : j = i
    · rw [cj, l3]; exact h8.2
    · have : hN (pLose i e) j = hN e j := pa _ _ (by omega) (by omega) (by omega) (by omega) (by omega)
      omega
theorem ct_tk1 : ∀ (n : Nat) (a i : Int) (e : ES), TkI S D T i e → 0 ≤ i → CT e (pTk1 n a i e).2 := by
  intro n
  induction n with
  | zero => intro a i e _ _; exact CT.rf
  | succ n ih =>
    intro a i e hI i0
    unfold pTk1
    by_cases c : i < e.1 7 2
    · rw [if_pos c]
      by_cases cs : e.1 (7000 + i) 6 = 0
      · rw [if_pos cs]
        obtain ⟨k1, k2⟩ := hI.lose i0 c cs
        exact (ct_lose hI.1.1.cn i0 c cs ((hI.2.1 i (Int.le_refl _) c).2 cs)).tr (ih _ (i + 1) _ k1 (by omega))
      · rw [if_neg cs]
        exact ih a (i + 1) e (hI.next cs) (by omega)
    · rw [if_neg c]
      exact CT.rf
/-- what is uncounted or lost behind a cut -/
theorem ct_u (h : CT e e3) (hk : HK S D T W X e3) : sm (qU e3) 30 + LO e3 ≤ sm (qU e) 30 + S := by
  obtain ⟨h1, h2, h3, h4, -⟩ := h
  have n7 := hk.cn.1
  have key : ∀ n : Nat, n ≤ 30 → sm (qU e3) n + sm (qLo e3) n ≤ sm (qU e) n + sm (totF e3) n := by
    intro n
    induction n with
    | zero => intro _; exact Int.le_refl _
    | succ n ih =>
      intro hn
      have g1 := ih (by omega)
      have g2 : qU e3 (n : Int) + qLo e3 (n : Int) ≤ qU e (n : Int) + totF e3 (n : Int) := by
        have u0 := (qu_cs (e := e) (n : Int)).1
        by_cases ci : (n : Int) < e3.1 7 2
        · have w1 : qLo e3 (n : Int) = ((eL e3 (75000 + (n : Int))).length : Int) := if_pos ci
          have w2 : totF e3 (n : Int) = (if e3.1 (7000 + (n : Int)) 6 = 0 ∨ e3.1 (7000 + (n : Int)) 6 = 6 then csr e3 (n : Int) else 0) + ((eL e3 (75000 + (n : Int))).length : Int) := if_pos ci
          have w3 : qCs e3 (n : Int) = csr e3 (n : Int) := if_pos ci
          have u1 := qu_cs (e := e3) (n : Int)
          by_cases ca : e3.1 (7000 + (n : Int)) 6 = 0 ∨ e3.1 (7000 + (n : Int)) 6 = 6
          · rw [if_pos ca] at w2
            omega
          · rw [if_neg ca] at w2
            have hs := h2 (n : Int) (by omega) (by omega)
            have hn' : hN e3 (n : Int) = hN e (n : Int) := by
              rcases h3 (n : Int) (by omega) (by omega) with g | g
              · exact absurd (Or.inl (hs.trans g)) ca
              · exact g
            have u2 : qU e3 (n : Int) = qU e (n : Int) := by
              unfold qU hC
              rw [h1, hn', h4]
            omega
        · have w1 : qLo e3 (n : Int) = 0 := if_neg ci
          have w2 : totF e3 (n : Int) = 0 := if_neg ci
          have w3 : qU e3 (n : Int) = 0 := if_neg ci
          omega
      show _ + qU e3 (n : Int) + (_ + qLo e3 (n : Int)) ≤ _ + qU e (n : Int) + (_ + totF e3 (n : Int))
      omega
  have h5 := key 30 (by omega)
  have h6 : sm (totF e3) 30 ≤ S := hk.1.2.2
  have h7 : LO e3 = sm (qLo e3) 30 := rfl
  omega
theorem wl_tk2 : ∀ (n : Nat) (i : Int) (e : ES), TkJ S D T i e → 0 ≤ i → WL e (pTk2 n i e) := by
  intro n
  induction n with
  | zero => intro i e _ _; exact WL.rf
  | succ n ih =>
    intro i e hJ i0
    unfold pTk2
    by_cases c : i < e.1 7 2
    · rw [if_pos c]
      by_cases cs : e.1 (7000 + i) 6 = 0 ∧ e.1 (7000 + i) 8 = 0
      · rw [if_pos cs]
        obtain ⟨k1, k2⟩ := hJ.close i0 c cs.1 cs.2
        exact (WL.ex hJ.1.cn hJ.1.hnn (gc_close 41 nZ i 5 0 0 e i0 c hJ.1.cn hJ.1.hnn cs.1 (by decide) (by decide)).1.1 (close_11 _ _ _ _ _ _ i0)).tr (ih (i + 1) _ k1 (by omega))
      · rw [if_neg cs]
        exact ih (i + 1) e (hJ.next cs) (by omega)
    · rw [if_neg c]
      exact WL.rf
theorem wl_tk3 : ∀ (n : Nat) (i : Int) (e : ES), HH S D T e → (0 ≤ e.1 4 14 ∧ e.1 4 14 < 1000000) → (∀ j : Int, i ≤ j → j < e.1 7 2 → e.1 (7000 + j) 6 = 0 → ∀ k v w : Int, Lk noX e k j v w → k = 10) → 0 ≤ i → WL e (pTk3 n i e) := by
  intro n
  induction n with
  | zero => intro i e _ _ _ _; exact WL.rf
  | succ n ih =>
    intro i e hH ht hl i0
    have n7 := hH.cn.1
    unfold pTk3
    by_cases c : i < e.1 7 2
    · rw [if_pos c]
      by_cases cs : e.1 (7000 + i) 6 = 0
      · rw [if_pos cs]
        have hR : RLo i 0 e := fun k v w g => Or.inl (hl i (Int.le_refl _) c cs k v w g)
        obtain ⟨k1, k2, k3, k4⟩ := hH.1.1.rest nWt_n hH.1.2 i0 c hR
        obtain ⟨g1, g2, g3⟩ := gc_rest hH.1.1 nWt_n hH.1.2 hH.2.1 hH.2.2.1 ht i0 c (fun d => d.1 cs) hR
        have hh : HH S D T (pRest i e) := ⟨⟨k1, k2⟩, g2, hH.2.2.ex g1.1.1 hH.hn hH.cn hH.2.1.1 g3⟩
        exact (wl_rest hH.1.1 hH.1.2 hH.2.1 hH.2.2.1 ht i0 c (fun d => d.1 cs) hR).tr (ih (i + 1) _ hh (by rw [g1.1.1.2.2.2.2.1 14 (by decide) (by decide)]; exact ht) (fun j j0 j1 js k v w g => by
          rw [k3.1] at j1
          rw [k3.2.2.2.2.1 _ _ (by omega) (by omega)] at js
          exact hl j (by omega) j1 js k v w (k4 k j v w (by omega) g)) (by omega))
      · rw [if_neg cs]
        exact ih (i + 1) e hH ht (fun j j0 j1 => hl j (by omega) j1) (by omega)
    · rw [if_neg c]
      exact WL.rf
end WGD
