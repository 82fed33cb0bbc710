/-! THE TELLING, plain: what a worker has kept goes on as what is told again. -/
section SI10
variable {x x' : CX} {s t s1 s2 S : TS} {B B' : Int} {a b c e i j v k h l w p q r o u kd lim lim' c0 n0 p2 q2 : Int} {L F L2 : List (Int × Int × Int)} {Q QB : TS → Prop} {Ok : TS → Prop}
theorem okB : OKH x (fun s => sg s 0 30 = 0 ∧ sg s 0 31 ≠ -1) := by
  refine ⟨fun s s' h1 _ h3 _ => by show sg s' 0 30 = 0 ∧ sg s' 0 31 ≠ -1 ↔ sg s 0 30 = 0 ∧ sg s 0 31 ≠ -1; rw [h1, h3], fun s k a b h => ?_, fun s v h => absurd h.1 u_stuck⟩
  obtain ⟨h1, h2⟩ := h
  unfold sCmd at h1 h2
  split at h1
  · rename_i c
    rw [if_pos c] at h2
    split at h1
    · rename_i c2
      rw [if_pos c2] at h2
      simp only at h1 h2
      rw [st_g, if_neg (by omega), st_g, if_neg (by omega)] at h1 h2
      exact ⟨h1, h2⟩
    · exact absurd h1 u_stuck
  · rename_i c
    rw [if_neg c] at h2
    split at h1
    · exact absurd h1 u_stuck
    · rename_i c2
      rw [if_neg c2] at h2
      have e : ∀ j : Int, j ≠ 12 → sg (stn (st s 0 12 (nc x (sg s 0 12))) (sn s ++ [(k, a, b)])) 0 j = sg s 0 j := fun j hj => by
        show sg (st s 0 12 (nc x (sg s 0 12))) 0 j = _
        rw [st_g, if_neg (by omega)]
      simp only at h1 h2
      rw [e _ (by decide)] at h1 h2
      exact ⟨h1, h2⟩
theorem told_31 (hC : CXX x) (h30 : sg (told x l) 0 30 = 0) : sg (told x l) 0 31 = -1 := by
  refine Decidable.byContradiction fun hc => ?_
  have := o_follow (lim := l) okB hC (l.toNat + 1) 0 s00 1 (bp00 hC.2.2.2.2.1) ⟨h30, hc⟩
  exact this.2 rfl
theorem ax_ax : ax p q L (ax p2 q2 L2 s) = ax p q L s := by
  refine Prod.ext ?_ rfl
  funext b i
  show (if b = 0 ∧ i = 12 then p else if b = 0 ∧ i = 13 then q else if b = 0 ∧ i = 12 then p2 else if b = 0 ∧ i = 13 then q2 else s.1 b i) = if b = 0 ∧ i = 12 then p else if b = 0 ∧ i = 13 then q else s.1 b i
  by_cases c1 : b = 0 ∧ i = 12
  · simp only [if_pos c1]
  · by_cases c2 : b = 0 ∧ i = 13
    · simp only [if_neg c1, if_pos c2]
    · simp only [if_neg c1, if_neg c2]
theorem take_28 : sTake x i (st (st s 0 28 v) 0 29 w) = sTake x i s := by
  have e : st (st (st (st (st s 0 28 v) 0 29 w) 0 28 i) 0 11 (i + 1)) 0 29 0 = st (st (st s 0 28 i) 0 11 (i + 1)) 0 29 0 := by
    refine Prod.ext ?_ rfl
    funext b j
    show (if b = 0 ∧ j = 29 then 0 else if b = 0 ∧ j = 11 then i + 1 else if b = 0 ∧ j = 28 then i else if b = 0 ∧ j = 29 then w else if b = 0 ∧ j = 28 then v else s.1 b j) = if b = 0 ∧ j = 29 then 0 else if b = 0 ∧ j = 11 then i + 1 else if b = 0 ∧ j = 28 then i else s.1 b j
    by_cases c1 : b = 0 ∧ j = 29
    · simp only [if_pos c1]
    · by_cases c2 : b = 0 ∧ j = 11
      · simp only [if_neg c1, if_pos c2]
      · by_cases c3 : b = 0 ∧ j = 28
        · simp only [if_neg c1, if_neg c2, if_pos c3]
        · simp only [if_neg c1, if_neg c2, if_neg c3]
  have e2 : sTaken x i (st (st s 0 28 v) 0 29 w) = sTaken x i s := by
    unfold sTaken
    rw [e]
  rw [take_d, take_d, e2]
theorem follow_fuel : ∀ (n m : Nat) (i : Int) (s : TS), lim - i < n → lim - i < m → sFollow x lim n i s = sFollow x lim m i s := by
  intro n
  induction n with
  | zero =>
    intro m i s h1 h2
    cases m with
    | zero => rfl
    | succ m =>
      show s = sFollow x lim (m + 1) i s
      unfold sFollow
      rw [if_neg (by omega)]
  | succ n ih =>
    intro m i s h1 h2
    cases m with
    | zero =>
      show sFollow x lim (n + 1) i s = s
      unfold sFollow
      rw [if_neg (by omega)]
    | succ m =>
      unfold sFollow
      by_cases c1 : i < lim
      · rw [if_pos c1, if_pos c1, ih m (i + 1) _ (by omega) (by omega)]
      · rw [if_neg c1, if_neg c1]
/-- the telling of the grown history comes by the state that was kept -/
theorem grow_follow (h : GRW x x' F lim c0 n0) (hC : CXX x) (hC' : CXX x') (hG : GBX x c0 n0 Q QB) (hF : FNS x S F lim) (hT : ∀ j : Int, 0 ≤ j → j < x.1 0 → ek (x.2.1 j) = 17 → ex (x.2.1 j) ≤ lim) (hlim : lim ≤ lim') : ∀ (d : Nat) (t : TS) (B' : Int), QBA x x' F QB lim S t → BP x' t B' → lim - sg t 0 10 = d → ∀ n' : Nat, lim' - sg t 0 10 < n' → ∃ (p : Int) (m : Nat) (B : Int), sFollow x' lim' n' (sg t 0 10) t = sFollow x' lim' m lim (ax p (x'.1 0) [] S) ∧ lim' - lim < m ∧ nc x' p = x'.1 0 ∧ BP x' (ax p (x'.1 0) [] S) B := by
  intro d
  have h8 := h.2.2.2.2.2.2.2.1
  induction d with
  | zero =>
    intro t B' hA _ hd
    obtain ⟨s, q, B, n, hP, hQ, hS, h13, hl, hfo⟩ := hA
    rw [sm_g hS (by omega)] at hd
    omega
  | succ d ih =>
    intro t B' hA hP' hd n' hn'
    have hg : goes t = true := by
      obtain ⟨s, q, B, n, hP, hQ, hS, h13, hl, hfo⟩ := hA
      rw [sm_goes hS]
      refine Decidable.byContradiction fun hc => ?_
      rw [follow_stop hc] at hfo
      have := hF.2.1
      rw [← hfo] at this
      omega
    obtain ⟨s, q, B, i, m, hP, hQ, hS, h13, hl, hgs, ei, ei', z1, z2, z3, hfo, hOk⟩ := QBA.step h hC hF hA hg
    have e10 := sm_g (a := 0) (j := 10) hS (by omega)
    have hTk := BP.take hC hP z1 z2 z3
    have iE : ek (x'.2.1 i) ≤ 7 := by
      rw [h.2.1 i (by have := hP.2.2.2.2.1.1; omega) z2]
      exact z3
    have hTk' := BP.take hC' hP' (i := i) (by rw [sm_g hS (by omega)]; exact z1) (by omega) iE
    obtain ⟨w1, w2⟩ := hG.1.2.1 s hQ hgs (by rw [ei]; exact z2)
    rw [ei] at w1 w2
    have hlast : sg s 0 10 + 1 = lim → x.1 0 ≤ nc x (sg (sTaken x i s) 0 12) ∧ (sn (sTaken x i s)).length = F.length := fun hl1 => by
      have e := QBA.last hF hl1 hfo
      rw [← take_12.1, ← take_12.2, e]
      exact ⟨hF.2.2.2, by rw [hF.2.2.1]⟩
    obtain ⟨q', g1, g2, g3⟩ := h.take hC hG.1.1 hT hP z1 z2 z3 w1 hOk hS h13 hl hlast
    obtain ⟨k', rfl⟩ : ∃ k' : Nat, n' = k' + 1 := ⟨n' - 1, by omega⟩
    have e1 : sFollow x' lim' (k' + 1) (sg t 0 10) t = sFollow x' lim' k' (sg t 0 10 + 1) (sTake x' i t) := by
      conv => lhs; unfold sFollow
      rw [if_pos (by omega), if_pos hg, ei', if_pos (by omega)]
    rw [e1]
    by_cases c : sg s 0 10 + 1 < lim
    · have := ih (sTake x' i t) _ ⟨_, q', _, m, hTk.1, w2, g1, g2 c, by rw [hTk.2.1]; exact c, by rw [hTk.2.1]; exact hfo⟩ hTk'.1 (by rw [hTk'.2.1]; omega) k' (by rw [hTk'.2.1]; omega)
      rw [hTk'.2.1] at this
      exact this
    · have hl1 : sg s 0 10 + 1 = lim := by omega
      have e := QBA.last hF hl1 hfo
      rw [e] at g1 g3
      obtain ⟨-, rfl⟩ := g3 hl1
      obtain ⟨p, L, ep, hJ⟩ := g1
      have eL : L = [] := hJ.1
      subst eL
      have l1 := hJ.2.2.2.2.1 hF.2.2.2
      rw [hF.2.2.1, if_neg (by omega)] at l1
      have hBB := hTk'.1
      rw [ep] at hBB ⊢
      exact ⟨p, k', _, by rw [e10, hl1], by omega, l1, hBB⟩
/-- the state that a worker keeps, when it is loaded -/
def kst (S : TS) (c : Int) : TS := sKeep (st (st S 0 12 c) 0 13 c)
theorem kst_ax (h30 : sg S 0 30 = 0) (h31 : sg S 0 31 = -1) : kst S c = st (st (ax c c [] S) 0 28 0) 0 29 0 := by
  refine Prod.ext ?_ rfl
  funext b j
  show (if b = 0 ∧ j = 31 then (-1 : Int) else if b = 0 ∧ j = 30 then 0 else if b = 0 ∧ j = 29 then 0 else if b = 0 ∧ j = 28 then 0 else if b = 0 ∧ j = 13 then c else if b = 0 ∧ j = 12 then c else S.1 b j) = if b = 0 ∧ j = 29 then 0 else if b = 0 ∧ j = 28 then 0 else if b = 0 ∧ j = 12 then c else if b = 0 ∧ j = 13 then c else S.1 b j
  have h30' : S.1 0 30 = 0 := h30
  have h31' : S.1 0 31 = -1 := h31
  by_cases c1 : b = 0 ∧ j = 31
  · rw [if_pos c1, if_neg (by omega), if_neg (by omega), if_neg (by omega), if_neg (by omega), c1.1, c1.2, h31']
  · rw [if_neg c1]
    by_cases c2 : b = 0 ∧ j = 30
    · rw [if_pos c2, if_neg (by omega), if_neg (by omega), if_neg (by omega), if_neg (by omega), c2.1, c2.2, h30']
    · rw [if_neg c2]
      by_cases c3 : b = 0 ∧ j = 29
      · rw [if_pos c3, if_pos c3]
      · rw [if_neg c3, if_neg c3]
        by_cases c4 : b = 0 ∧ j = 28
        · rw [if_pos c4, if_pos c4]
        · rw [if_neg c4, if_neg c4]
          by_cases c5 : b = 0 ∧ j = 13
          · rw [if_pos c5, if_neg (by omega), if_pos c5]
          · rw [if_neg c5, if_neg c5]
theorem kept_told (h : GRW x x' F lim c0 n0) (hC : CXX x) (hC' : CXX x') (hG : GBX x c0 n0 Q QB) (hF : FNS x S F lim) (hT : ∀ j : Int, 0 ≤ j → j < x.1 0 → ek (x.2.1 j) = 17 → ex (x.2.1 j) ≤ lim) (l0 : 0 < lim) (hS : told x lim = S) (hlim : lim < lim') (hna : na x' (sg S 0 11) < x'.1 0) (n : Nat) (hn : lim' - lim < n) : ∃ q, Sm (JE x') q (sFollow x' lim' n lim (kst S (x.1 0 + F.length + 1))) (told x' lim') := by
  have h8 := h.2.2.2.2.2.2.2.1
  have hN0 := hC.2.2.2.2.1
  have hA := (grow_gb h hC hC' hG hF hT l0 hS).2.2.2
  have hA0 : QBA x x' F QB lim S s00 := by
    rcases hA with g | g
    · exact g
    · have : lim ≤ 0 := g.1
      omega
  obtain ⟨p, m, B, e1, e2, e3, e4⟩ := grow_follow h hC hC' hG hF hT (Int.le_of_lt hlim) lim.toNat s00 1 hA0 (bp00 hC'.2.2.2.2.1) (by show lim - 0 = _; omega) (lim'.toNat + 1) (by show lim' - 0 < _; omega)
  have et : told x' lim' = sFollow x' lim' m lim (ax p (x'.1 0) [] S) := e1
  have h30 := (goes_p hF.1).1
  have h31 : sg S 0 31 = -1 := by
    rw [← hS] at h30 ⊢
    exact told_31 hC h30
  rw [kst_ax h30 h31, et]
  generalize hc : x.1 0 + F.length + 1 = c
  have hcn : nc x' c = x'.1 0 := nc_free (fun j z0 z1 => h.2.2.2.2.1 j (by omega) z1) (by omega)
  have hg : goes (ax c c [] S) = true := by rw [ax_goes]; exact hF.1
  have e11 : sg (ax c c [] S) 0 11 = sg S 0 11 := ax_o (by omega)
  obtain ⟨k', rfl⟩ : ∃ k' : Nat, n = k' + 1 := ⟨n - 1, by omega⟩
  have ek1 : sFollow x' lim' (k' + 1) lim (st (st (ax c c [] S) 0 28 0) 0 29 0) = sFollow x' lim' (k' + 1) lim (ax c c [] S) := by
    have g1 : goes (st (st (ax c c [] S) 0 28 0) 0 29 0) = goes (ax c c [] S) := by
      unfold goes
      rw [st_g, if_neg (by omega), st_g, if_neg (by omega), st_g, if_neg (by omega), st_g, if_neg (by omega)]
    have g2 : sg (st (st (ax c c [] S) 0 28 0) 0 29 0) 0 11 = sg (ax c c [] S) 0 11 := by rw [st_g, if_neg (by omega), st_g, if_neg (by omega)]
    unfold sFollow
    rw [g1, g2, e11, if_pos hlim, if_pos hlim, if_pos hg, if_pos hg, if_pos hna, if_pos hna, take_28]
  rw [ek1, follow_fuel (k' + 1) m lim _ (by omega) e2]
  refine eq_follow (x := x') (x' := x') ⟨fun _ _ => rfl, rfl, Or.inl rfl⟩ hC' h.hk17 m lim c (ax c c [] S) (ax p (x'.1 0) [] S) B e4 (Or.inl rfl) ⟨c, [], ax_ax.symm, ?_, rfl⟩ (Or.inr (Or.inl ⟨by omega, ?_, ?_⟩))
  · rw [show sg (ax p (x'.1 0) [] S) 0 12 = p by rw [ax_g, if_pos ⟨rfl, rfl⟩], hcn, e3]
  · intro j z0 z1 z2
    have : sg (ax p (x'.1 0) [] S) 0 13 = x'.1 0 := by rw [ax_g, if_neg (by omega), if_pos ⟨rfl, rfl⟩]
    rw [this] at z0
    have := h.2.2.2.2.1 j (by omega) z1
    omega
  · rw [show sg (ax p (x'.1 0) [] S) 0 12 = p by rw [ax_g, if_pos ⟨rfl, rfl⟩], e3]
    exact Int.le_refl _
end SI10
