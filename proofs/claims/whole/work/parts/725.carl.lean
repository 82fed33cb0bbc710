/-! THE ENGINE: all new commands are carried out, one after another. -/
section CRL
variable {m m' M2 m0 : MM} {ow ow' : Int → Int} {ad ad' ad1 : Int → Int → Int} {e e' e1 e2 : ES} {D : Int → Prop} {a b c i j k o r v w h N B t y z p q lim c2 c3 : Int} {n : Nat} {x : CX} {l : List Int} {E : Int → Ev} {s S : TS} {f : Int → Int}
theorem carry_n (r0 : 0 ≤ r) (r1 : r < e.1 7 2) (h7 : e.1 7 2 ≤ 30) (h8 : 0 ≤ e.1 8 2 ∧ e.1 8 2 ≤ 60) (hk : ek (eH e r o) ≠ 14 ∧ ek (eH e r o) ≠ 15 ∧ ek (eH e r o) ≠ 16) : (pCarry r o e).1 7 2 ≤ 30 ∧ (pCarry r o e).1 8 2 ≤ 60 := by
  have same : ∀ e1, CL e e1 → e1.1 7 2 ≤ 30 ∧ e1.1 8 2 ≤ 60 := fun e1 h => by
    rw [h.2.1 7 (by decide) (by decide), h.2.1 8 (by decide) (by decide)]
    exact ⟨h7, h8.2⟩
  have arr : ∀ k p q, (pArr r k p q e).1 7 2 ≤ 30 ∧ (pArr r k p q e).1 8 2 ≤ 60 := fun k p q => same _ (arr_cl r0 (by omega) (by omega))
  unfold pCarry
  generalize eH e r o = v at *
  split
  · unfold pMakA
    split
    · rw [pNew_n, pNew_a (by decide) (by omega)]
      omega
    · exact arr _ _ _
  split
  · rw [addT_1 (by decide), addT_1 (by decide)]
    omega
  split
  · unfold pChi
    split
    · rename_i c c2
      rw [start_n (by omega), start_a (by omega) (by decide) (by decide) (by omega) (by omega) (by decide) (by decide) (by omega)]
      omega
    · exact arr _ _ _
  split
  · exact same _ (drop_cl (by omega) (by omega))
  split
  · have ha : ∀ u, (pQT r (ex v) e).1 7 u = e.1 7 u ∧ (pQT r (ex v) e).1 8 u = e.1 8 u := fun u => by
      have e0 : (if (eL e 14).length < 51200 then eLs e 14 (eL e 14 ++ [r * 1000 + ex v]) else e).1 = e.1 := by split <;> rfl
      unfold pQT
      rw [eS_a (by decide), eS_a (by decide), e0]
      exact ⟨rfl, rfl⟩
    rw [(ha 2).1, (ha 2).2]
    omega
  rw [if_neg hk.1, if_neg hk.2.1, if_neg hk.2.2]
  omega
/-- what the carrying out of n commands from i on has to find -/
def CarC (r i : Int) (n : Nat) (S : TS) (e : ES) : Prop := (0 ≤ r ∧ r < e.1 7 2) ∧ e.1 7 2 ≤ 30 ∧ (0 ≤ e.1 8 2 ∧ e.1 8 2 ≤ 60) ∧ ¬ Dead e r ∧ TmO e r ∧ TyO e ∧ (0 ≤ i ∧ i + n ≤ hN e r ∧ i + n ≤ 524288) ∧ (∀ j : Int, i ≤ j → j < i + n → CmdOk (eH e r j) ∧ (ek (eH e r j) = 14 ∨ ek (eH e r j) = 15 ∨ ek (eH e r j) = 16 → j + 1 = i + n)) ∧ eT e = S
/-- all the while there is room for timers -/
def CarT (r : Int) : Nat → Int → ES → Prop
  | 0, _, _ => True
  | n + 1, i, e => ((eL e (73000 + r)).length < 512 ∧ (eL e (74000 + r)).length < 512) ∧ CarT r n (i + 1) (pCarry r i e)
theorem CarC.next (h : CarC r i (n + 1) S e) (hn : 1 ≤ n) : CarC r (i + 1) n S (pCarry r i e) ∧ KpL r e (pCarry r i e) := by
  obtain ⟨⟨h0, h1⟩, h2, h3, h4, h5, h6, h7, h8, h9⟩ := h
  obtain ⟨g1, g2⟩ := h8 i (Int.le_refl _) (by omega)
  have hk : ek (eH e r i) ≠ 14 ∧ ek (eH e r i) ≠ 15 ∧ ek (eH e r i) ≠ 16 := ⟨fun c => by have := g2 (Or.inl c); omega, fun c => by have := g2 (Or.inr (Or.inl c)); omega, fun c => by have := g2 (Or.inr (Or.inr c)); omega⟩
  have K := carry_kp h0 h1 h2 ⟨h3.1, by omega⟩ h5 hk g1 h7.1 (by omega)
  obtain ⟨c1, c2⟩ := carry_n (o := i) h0 h1 h2 h3 hk
  have K2 := K
  obtain ⟨k1, ⟨k2, -⟩, k3, k4, k5, k6, ⟨k7, k8⟩, k9, k10⟩ := K2
  refine ⟨⟨⟨h0, by omega⟩, c1, ⟨by omega, c2⟩, k5 h4, k4 h5, k6 h6, ⟨by omega, by omega, by omega⟩, fun j j0 j1 => ?_, k3.trans h9⟩, K⟩
  rw [k8 j (by omega)]
  obtain ⟨u1, u2⟩ := h8 j (by omega) (by omega)
  exact ⟨u1, fun c => by have := u2 c; omega⟩
theorem carry_mo (h : CarC r i (n + 1) S e) : MO e (pCarry r i e) := by
  by_cases hn : 1 ≤ n
  · exact (h.next hn).2.1
  · obtain ⟨⟨h0, h1⟩, h2, h3, h4, h5, h6, h7, h8, h9⟩ := h
    obtain ⟨g1, g2⟩ := h8 i (Int.le_refl _) (by omega)
    by_cases hk : ek (eH e r i) ≠ 14 ∧ ek (eH e r i) ≠ 15 ∧ ek (eH e r i) ≠ 16
    · exact (carry_kp h0 h1 h2 ⟨h3.1, by omega⟩ h5 hk g1 h7.1 (by omega)).1
    · have cl : ∀ st res, (st ≠ 0 ∧ st ≠ 6) → MO e (pClose 41 r st res 0 e) := fun st res hst => (close_cl 41 r st res 0 e h0 (by omega) hst (by omega) (by omega)).1
      unfold pCarry
      generalize eH e r i = v at *
      by_cases c14 : ek v = 14
      · rw [if_neg (by omega), if_neg (by omega), if_neg (by omega), if_neg (by omega), if_neg (by omega), if_pos c14]
        exact cl _ _ (by decide)
      · by_cases c15 : ek v = 15
        · rw [if_neg (by omega), if_neg (by omega), if_neg (by omega), if_neg (by omega), if_neg (by omega), if_neg c14, if_pos c15]
          split
          · exact cl _ _ (by decide)
          · exact cl _ _ (by decide)
        · have c16 : ek v = 16 := by omega
          rw [if_neg (by omega), if_neg (by omega), if_neg (by omega), if_neg (by omega), if_neg (by omega), if_neg c14, if_neg c15, if_pos c16]
          split
          · rename_i c7
            exact (again_mo h0 h1 c7 (by omega)).1
          · exact cl _ _ (by decide)
theorem carL_mo : ∀ (n : Nat) (i : Int) (e : ES), CarC r i n S e → MO e (pCarL r n i e) := by
  intro n
  induction n with
  | zero => intro i e _; exact MO.rf
  | succ n ih =>
    intro i e h
    unfold pCarL
    by_cases hn : 1 ≤ n
    · exact (carry_mo h).tr (ih _ _ (h.next hn).1)
    · have : n = 0 := by omega
      subst this
      exact carry_mo h
theorem carL_l {many first : Int} (hm : w32 (first + many) = first + many) (hS : ∀ n : Int, 0 ≤ n → n < 4 → ∀ v ∈ sq S n, 0 ≤ v ∧ v ≤ 999) (hA : 0 ≤ sg S 0 11) : ∀ (n f : Nat) (i : Int) (m : MM) (ow : Int → Int) (ad : Int → Int → Int) (e : ES), CE m ow ad e → ad 7 r = y → CarC r i n S e → CarT r n i e → i + n = first + many → (n = 0 → 0 ≤ r ∧ r < e.1 7 2) → BDl e → BDf (pCarL r n i e) → 0 ≤ e.1 4 11 → e.1 4 11 + n < 2147483647 → n < f → ∃ m' ad', fl_X11_complete_176 y first many f i m = some (.inl many, m') ∧ CX1 m' ad' (pCarL r n i e) ∧ AG e ad ad' := by
  intro n
  induction n with
  | zero =>
    intro f i m ow ad e C hy hc hT hi hr hl hf t0 t1 h2
    obtain ⟨f, rfl⟩ : ∃ g, f = g + 1 := ⟨f - 1, by omega⟩
    unfold fl_X11_complete_176
    rw [hm, if_neg (by omega)]
    exact ⟨m, ad, rfl, ⟨ow, C⟩, AG.rf⟩
  | succ n ih =>
    intro f i m ow ad e C hy hc hT hi hr hl hf t0 t1 h2
    have hTT : ((eL e (73000 + r)).length < 512 ∧ (eL e (74000 + r)).length < 512) ∧ CarT r n (i + 1) (pCarry r i e) := hT
    obtain ⟨f, rfl⟩ : ∃ g, f = g + 1 := ⟨f - 1, by omega⟩
    unfold fl_X11_complete_176
    unfold pCarL at hf ⊢
    have hcc := hc
    obtain ⟨⟨h0, h1⟩, h2', h3, h4, h5, h6, h7, h8, h9⟩ := hcc
    obtain ⟨g1, g2⟩ := h8 i (Int.le_refl _) (by omega)
    have hmo : MO (pCarry r i e) (pCarL r n (i + 1) (pCarry r i e)) := by
      by_cases hn : 1 ≤ n
      · exact carL_mo n _ _ (hc.next hn).1
      · have : n = 0 := by omega
        subst this
        exact MO.rf
    obtain ⟨m1, ad1, k1, ⟨ow1, C1⟩, k3⟩ := C.carry (o := i) h0 h1 h4 h7.1 (by omega) (by omega) g1 h5 h6 hl (hf.of hmo) ⟨t0, by omega⟩ (by rw [h9]; exact hS) (by rw [h9]; exact hA) (fun _ => hTT.1)
    obtain ⟨s1, s2, -⟩ := (C.his h0 h1).sl
    have n7 := C.cn.1
    rw [← hy, hm, if_pos (by omega), gd_t (C.rk h0 h1), lx_p, (C.run h0 h1).2.2.2.2.2.1, gd_t s1, lx_p, s2, if_pos (by omega), bd_t k1, lx_p, w32_id (by omega) (by omega)]
    by_cases hn : 1 ≤ n
    · obtain ⟨c1, K⟩ := hc.next hn
      have d1 : ad1 7 r = ad 7 r := k3 7 r (Or.inl ⟨Or.inl rfl, h0, h1⟩)
      obtain ⟨m2, ad2, q1, q2, q3⟩ := ih f (i + 1) m1 ow1 ad1 _ C1 (d1.trans hy) c1 hTT.2 (by omega) (fun _ => ⟨h0, by have := K.2.1.1.1; omega⟩) (K.1.2 hl) hf (by have := K.2.2.2.2.2.2.2.1; omega) (by have := K.2.2.2.2.2.2.2.1; omega) (by omega)
      rw [hy]
      exact ⟨m2, ad2, q1, q2, k3.tr q3 K.2.1.2⟩
    · have : n = 0 := by omega
      subst this
      obtain ⟨f, rfl⟩ : ∃ g, f = g + 1 := ⟨f - 1, by omega⟩
      unfold fl_X11_complete_176
      rw [hm, if_neg (by omega)]
      exact ⟨m1, ad1, rfl, ⟨ow1, C1⟩, k3⟩
end CRL
