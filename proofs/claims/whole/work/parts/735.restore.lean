/-! THE ENGINE: what is not ended of a history is begun again; the call join. -/
section RST
variable {m m' M2 m0 : MM} {ow ow' : Int → Int} {ad ad' ad1 : Int → Int → Int} {e e' e0 e1 e2 : ES} {D : Int → Prop} {a b c i j k o r v w h B t y z q lim c2 c3 p p1 p2 p3 N : Int} {n : Nat} {x : CX} {l : List Int} {E : Int → Ev} {s S : TS} {f : Int → Int}
def pRs1 (r i : Int) (e : ES) : ES := if (ek (eH e r i) = 8 ∨ ek (eH e r i) = 9) ∧ ¬ ended (pX e r) i = true then (if ek (eH e r i) = 8 then pMakA r i (ex (eH e r i)) (ey (eH e r i)) e else pAddT r i (if ew (eH e r i) + ex (eH e r i) < e.1 4 14 + 1 then e.1 4 14 + 1 else ew (eH e r i) + ex (eH e r i)) e) else e
def pRsL (r N : Int) : Nat → Int → ES → ES
  | 0, _, e => e
  | n + 1, i, e => if i < N then pRsL r N n (i + 1) (pRs1 r i e) else e
def pRest (r : Int) (e : ES) : ES := pRsL r (hN e r) ((hN e r).toNat + 1) 0 e
theorem rs1_kp (r0 : 0 ≤ r) (r1 : r < 1000) (h7 : e.1 7 2 ≤ 1000) (h8 : 0 ≤ e.1 8 2) (hm : TmO e r) (i0 : 0 ≤ i) (i1 : i < 524288) : KpL r e (pRs1 r i e) ∧ (pRs1 r i e).1 4 11 = e.1 4 11 ∧ (pRs1 r i e).1 7 2 = e.1 7 2 := by
  unfold pRs1
  split
  · split
    · refine ⟨makA_kp r0 r1 h7 h8, ?_⟩
      unfold pMakA
      split
      · exact ⟨pNew_a (by decide) (by omega), pNew_a (by decide) (by omega)⟩
      · exact ⟨arr_a (by decide) (by decide) (by omega) (by omega) (by decide), arr_a (by decide) (by decide) (by omega) (by omega) (by decide)⟩
    · exact ⟨addT_kp r0 r1 hm i0 i1, addT_1 (by decide), addT_1 (by decide)⟩
  · exact ⟨KpL.rf, rfl, rfl⟩
theorem rsL_kp (r0 : 0 ≤ r) (r1 : r < 1000) (hN' : N ≤ 524288) : ∀ (n : Nat) (i : Int) (e : ES), e.1 7 2 ≤ 1000 → 0 ≤ e.1 8 2 → TmO e r → 0 ≤ i → KpL r e (pRsL r N n i e) ∧ (pRsL r N n i e).1 4 11 = e.1 4 11 ∧ (pRsL r N n i e).1 7 2 = e.1 7 2 := by
  intro n
  induction n with
  | zero => intro i e _ _ _ _; exact ⟨KpL.rf, rfl, rfl⟩
  | succ n ih =>
    intro i e h7 h8 hm i0
    unfold pRsL
    split
    · obtain ⟨g1, g2, g3⟩ := rs1_kp (e := e) (i := i) r0 r1 h7 h8 hm i0 (by omega)
      obtain ⟨k1, k2, k3⟩ := ih (i + 1) (pRs1 r i e) (by omega) (by have := g1.2.1.1.2; omega) (g1.2.2.2.1 hm) (by omega)
      exact ⟨g1.tr k1 (by omega), k2.trans g2, k3.trans g3⟩
    · exact ⟨KpL.rf, rfl, rfl⟩
theorem addT_len : (eL (pAddT i o v e) (73000 + i)).length = (eL e (73000 + i)).length + 1 ∧ (eL (pAddT i o v e) (74000 + i)).length = (eL e (74000 + i)).length + 1 ∧ ∀ c, c ≠ 73000 + i → c ≠ 74000 + i → eL (pAddT i o v e) c = eL e c := by
  unfold pAddT
  refine ⟨?_, ?_, fun c h1 h2 => ?_⟩
  · have h : eL (eLs (eS (eLs e (73000 + i) (eL e (73000 + i) ++ [o])) 3 1 (e.1 3 1 + 1)) (74000 + i) (eL e (74000 + i) ++ [v])) (73000 + i) = eL e (73000 + i) ++ [o] := (eLs_a (by omega)).trans (eLs_e (e := e))
    rw [h, List.length_append]
    rfl
  · have h : eL (eLs (eS (eLs e (73000 + i) (eL e (73000 + i) ++ [o])) 3 1 (e.1 3 1 + 1)) (74000 + i) (eL e (74000 + i) ++ [v])) (74000 + i) = eL e (74000 + i) ++ [v] := eLs_e
    rw [h, List.length_append]
    rfl
  · exact (eLs_a h2).trans (eLs_a (e := e) h1)
theorem rs1_t : ∀ c, (eL e c).length ≤ (eL (pRs1 r i e) c).length := fun c => by
  unfold pRs1
  split
  · split
    · unfold pMakA
      split
      · exact Nat.le_refl _
      · rw [arr_l]
        exact Nat.le_refl _
    · obtain ⟨h1, h2, h3⟩ := addT_len (i := r) (o := i) (v := if ew (eH e r i) + ex (eH e r i) < e.1 4 14 + 1 then e.1 4 14 + 1 else ew (eH e r i) + ex (eH e r i)) (e := e)
      by_cases c1 : c = 73000 + r
      · rw [c1, h1]
        omega
      · by_cases c2 : c = 74000 + r
        · rw [c2, h2]
          omega
        · rw [h3 c c1 c2]
          exact Nat.le_refl _
  · exact Nat.le_refl _
theorem rsL_t : ∀ (n : Nat) (i : Int) (e : ES) (c : Int), (eL e c).length ≤ (eL (pRsL r N n i e) c).length := by
  intro n
  induction n with
  | zero => intro i e c; exact Nat.le_refl _
  | succ n ih =>
    intro i e c
    unfold pRsL
    split
    · exact Nat.le_trans (rs1_t c) (ih _ _ c)
    · exact Nat.le_refl _
theorem rest_t : ∀ c, (eL e c).length ≤ (eL (pRest r e) c).length := fun c => rsL_t _ _ _ c
theorem rs1_l (C : CE m ow ad e) (r0 : 0 ≤ r) (r1 : r < e.1 7 2) (nd : ¬ Dead e r) (hl : BDl e) (hf : BDf (pRs1 r i e)) (i0 : 0 ≤ i) (i1 : i < hN e r) (i2 : i < 524288) (c0 : i < N) (hE : (eL (pRs1 r i e) (73000 + r)).length ≤ 512 ∧ (eL (pRs1 r i e) (74000 + r)).length ≤ 512) : ∃ m' ad', fl_X11_restoreWork_13 (ad 7 r) (ad 71 r) N (n + 1) i m = fl_X11_restoreWork_13 (ad 7 r) (ad 71 r) N n (i + 1) m' ∧ CX1 m' ad' (pRs1 r i e) ∧ AG e ad ad' := by
  have H := C.hx r0 r1
  have hk : fm_X2_kind (ad 71 r) i m = some (ek (eH e r i)) := kind_e H i0 i1
  have hx : fm_X2_x (ad 71 r) i m = some (ex (eH e r i)) := x_e H i0 i1
  have hy : fm_X2_y (ad 71 r) i m = some (ey (eH e r i)) := y_e H i0 i1
  have ht : fm_X2_timeOfCommand (ad 71 r) i m = some (ew (eH e r i)) := time_e (x := pX e r) H i0 i1
  have he := hasEnd_e (x := pX e r) (v := i) H i0 (by omega)
  obtain ⟨-, ⟨b1, b2, b3, b4⟩, -⟩ := H.get i0 i1
  have hbt := hl.1
  have x0 : 0 ≤ ex (eH e r i) := Int.natCast_nonneg _
  have x1 : ex (eH e r i) < 524288 := by
    have : (eH e r i).2.1 < 524288 := b2
    show (((eH e r i).2.1 : Nat) : Int) < 524288
    omega
  have w0 : 0 ≤ ew (eH e r i) := Int.natCast_nonneg _
  have w1 : ew (eH e r i) < 1073741824 := by
    have : (eH e r i).2.2.2 < 1073741824 := b4
    show (((eH e r i).2.2.2 : Nat) : Int) < 1073741824
    omega
  have e14 : m 4 14 = e.1 4 14 := C.g4 (by decide) (by decide)
  have okh := (C.his r0 r1).sl.1
  have hw : w32 (i + 1) = i + 1 := w32_id (by omega) (by omega)
  have p41 : ∀ kk : Int, kk = ek (eH e r i) → (kk = 8 ∨ kk = 9) → ∃ m' ad', fj_X11_restoreWork_41 (fl_X11_restoreWork_13 (ad 7 r) (ad 71 r) N n) (ad 7 r) (ad 71 r) N i kk m = fl_X11_restoreWork_13 (ad 7 r) (ad 71 r) N n (i + 1) m' ∧ CX1 m' ad' (pRs1 r i e) ∧ AG e ad ad' := fun kk hkk h89 => by
    unfold fj_X11_restoreWork_41
    rw [gd_t okh, bp_t he]
    by_cases c1 : ended (pX e r) i = true
    · have hq : pRs1 r i e = e := if_neg fun g => g.2 c1
      rw [hq, if_pos c1, if_neg (show ¬ (1 : Int) = 0 by decide), lx_p, hw]
      exact ⟨m, ad, rfl, ⟨ow, C⟩, AG.rf⟩
    · rw [if_neg c1, if_pos (show (0 : Int) = 0 from rfl)]
      by_cases c2 : kk = 8
      · have hq : pRs1 r i e = pMakA r i (ex (eH e r i)) (ey (eH e r i)) e := by
          unfold pRs1
          rw [if_pos ⟨by rw [← hkk]; exact h89, c1⟩, if_pos (by rw [← hkk]; exact c2)]
        rw [hq] at hf ⊢
        obtain ⟨m1, ad1, g1, g2, g3⟩ := C.makA r0 r1 nd hl hf i0 i2
        rw [if_pos c2, bp_t hx, bp_t hy, bd_t g1, lx_p, hw]
        exact ⟨m1, ad1, rfl, g2, g3⟩
      · have hq : pRs1 r i e = pAddT r i (if ew (eH e r i) + ex (eH e r i) < e.1 4 14 + 1 then e.1 4 14 + 1 else ew (eH e r i) + ex (eH e r i)) e := by
          unfold pRs1
          rw [if_pos ⟨by rw [← hkk]; exact h89, c1⟩, if_neg (by rw [← hkk]; exact c2)]
        rw [hq] at hf hE ⊢
        obtain ⟨z1, z2, -⟩ := addT_len (i := r) (o := i) (v := if ew (eH e r i) + ex (eH e r i) < e.1 4 14 + 1 then e.1 4 14 + 1 else ew (eH e r i) + ex (eH e r i)) (e := e)
        rw [z1, z2] at hE
        obtain ⟨m1, g1, g2⟩ := C.addT r0 r1 hl hf (by omega)
        rw [if_neg c2, bp_t ht, bp_t hx, lx_p, e14, w32_id (z := ew (eH e r i) + ex (eH e r i)) (by omega) (by omega), w32_id (z := e.1 4 14 + 1) (by omega) (by omega), bp_t max_e, gd_t (C.rk r0 r1), bd_t g1, lx_p, hw]
        exact ⟨m1, ad, rfl, g2, AG.rf⟩
  rw [fl_X11_restoreWork_13]
  rw [if_pos c0, gd_t okh, bp_t hk]
  by_cases c8 : ek (eH e r i) = 8
  · rw [if_pos c8]
    exact p41 _ rfl (Or.inl c8)
  · rw [if_neg c8]
    by_cases c9 : ek (eH e r i) = 9
    · rw [if_pos c9]
      exact p41 _ rfl (Or.inr c9)
    · have hq : pRs1 r i e = e := if_neg fun g => g.1.elim c8 c9
      rw [hq, if_neg c9, lx_p, hw]
      exact ⟨m, ad, rfl, ⟨ow, C⟩, AG.rf⟩
theorem rs_l (r0 : 0 ≤ r) (hN' : N ≤ 524288) : ∀ (n f : Nat) (i : Int) (m : MM) (ow : Int → Int) (ad : Int → Int → Int) (e : ES), CE m ow ad e → r < e.1 7 2 → ¬ Dead e r → TmO e r → N ≤ hN e r → ad 7 r = y → ad 71 r = z → BDl e → BDf (pRsL r N n i e) → 0 ≤ i → i ≤ N → N - i < n → n ≤ f → ((eL (pRsL r N n i e) (73000 + r)).length ≤ 512 ∧ (eL (pRsL r N n i e) (74000 + r)).length ≤ 512) → ∃ m' ad', fl_X11_restoreWork_13 y z N f i m = some (0, m') ∧ CX1 m' ad' (pRsL r N n i e) ∧ AG e ad ad' := by
  intro n
  induction n with
  | zero =>
    intro f i m ow ad e C r1 nd hm hN2 hy hz hl hf i0 i1 h1 h2 hE
    omega
  | succ n ih =>
    intro f i m ow ad e C r1 nd hm hN2 hy hz hl hf i0 i1 h1 h2 hE
    obtain ⟨f, rfl⟩ : ∃ g, f = g + 1 := ⟨f - 1, by omega⟩
    have n7 := C.cn.1
    have n8 := C.cn.2.1
    unfold pRsL at hf hE ⊢
    by_cases c : i < N
    · rw [if_pos c] at hf hE ⊢
      have hE3 := rsL_t (r := r) (N := N) n (i + 1) (pRs1 r i e) (73000 + r)
      have hE4 := rsL_t (r := r) (N := N) n (i + 1) (pRs1 r i e) (74000 + r)
      obtain ⟨g1, g2, g3⟩ := rs1_kp (e := e) (i := i) r0 (show r < 1000 by omega) (by omega) n8.1 hm i0 (by omega)
      obtain ⟨k1, k2, k3⟩ := rsL_kp (N := N) r0 (show r < 1000 by omega) hN' n (i + 1) (pRs1 r i e) (by omega) (by have := g1.2.1.1.2; omega) (g1.2.2.2.1 hm) (by omega)
      obtain ⟨m1, ad1, u1, ⟨ow1, C1⟩, u3⟩ := rs1_l (N := N) (n := f) C r0 r1 nd hl (hf.of k1.1) i0 (by omega) (by omega) c (by omega)
      rw [hy, hz] at u1
      have d7 : ad1 7 r = ad 7 r := u3 7 r (Or.inl ⟨Or.inl rfl, r0, r1⟩)
      have d71 : ad1 71 r = ad 71 r := u3 71 r (Or.inl ⟨by omega, r0, r1⟩)
      obtain ⟨m2, ad2, q1, q2, q3⟩ := ih f (i + 1) m1 ow1 ad1 _ C1 (by omega) (g1.2.2.2.2.1 nd) (g1.2.2.2.1 hm) (by have := g1.2.2.2.2.2.2.1.1; omega) (d7.trans hy) (d71.trans hz) (g1.1.2 hl) hf (by omega) (by omega) (by omega) (by omega) hE
      exact ⟨m2, ad2, u1.trans q1, q2, u3.tr q3 g1.2.1.2⟩
    · rw [if_neg c]
      refine ⟨m, ad, ?_, ⟨ow, C⟩, AG.rf⟩
      unfold fl_X11_restoreWork_13
      rw [if_neg c]
theorem CE.restore (C : CE m ow ad e) (r0 : 0 ≤ r) (r1 : r < e.1 7 2) (nd : ¬ Dead e r) (hm : TmO e r) (hN' : hN e r ≤ 524288) (hl : BDl e) (hf : BDf (pRest r e)) (hE : (eL (pRest r e) (73000 + r)).length ≤ 512 ∧ (eL (pRest r e) (74000 + r)).length ≤ 512) : ∃ m' ad', fm_X11_restoreWork (ad 7 r) m = some (0, m') ∧ CX1 m' ad' (pRest r e) ∧ AG e ad ad' := by
  obtain ⟨s1, s2, -⟩ := (C.his r0 r1).sl
  have hn := (C.hx r0 r1).n.1
  have hn' : 0 ≤ hN e r := hn
  obtain ⟨m1, ad1, g1, g2, g3⟩ := rs_l (y := ad 7 r) (z := ad 71 r) (N := hN e r) r0 hN' ((hN e r).toNat + 1) BIG 0 m ow ad e C r1 nd hm (Int.le_refl _) rfl rfl hl hf (by decide) hn' (by omega) (Nat.le_of_lt (BIG_g (by omega))) hE
  refine ⟨m1, ad1, ?_, g2, g3⟩
  unfold fm_X11_restoreWork
  rw [gd_t (C.rk r0 r1), lx_p, (C.run r0 r1).2.2.2.2.2.1, gd_t s1, lx_p, s2, g1]
end RST
