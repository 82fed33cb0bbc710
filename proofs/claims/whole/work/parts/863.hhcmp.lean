/-! A COMPLETE: all that stands between the calls. -/
section HHC
variable {e e' e1 e2 : ES} {Z : Int → Prop} {S D T S' D' T' a b c d i j k q r v w N M p y t o lim c0 n0 p1 : Int} {n : Nat} {s : TS}
theorem HH.fr (h : HH S D T e) (hp : PHs S' D' T' e') (ha : ∀ a u : Int, a = 7 ∨ a = 8 ∨ (a = 9 ∧ u = 2) ∨ (49 ≤ a ∧ a ≤ 61 ∧ u = 2) ∨ (a = 4 ∧ (u = 11 ∨ u = 12 ∨ u = 16)) ∨ (a = 68 ∧ (u = 29 ∨ u = 30)) ∨ (7000 ≤ a ∧ a < 7030 ∧ u ≤ 15 ∧ u ≠ 7) ∨ (8000 ≤ a ∧ a < 8060) ∨ (9000 ≤ a ∧ a < 9512 ∧ (u = 1 ∨ u = 3 ∨ u = 4)) ∨ (71000 ≤ a ∧ a < 71030 ∧ u = 1) ∨ (76000 ≤ a ∧ a < 76030) → e'.1 a u = e.1 a u) (hl : ∀ c : Int, c = 14 ∨ (73000 ≤ c ∧ c < 76000) → eL e' c = eL e c) (hv : ∀ t v : Int, 0 ≤ t → t < 4 → 0 ≤ v → v < e.1 (48 + 4 * t + 1) 2 → eL e' (1000 * (48 + 4 * t) + v) = eL e (1000 * (48 + 4 * t) + v)) (hh : ∀ r : Int, 0 ≤ r → r < e.1 7 2 → eH e' r = eH e r) (hm : ∀ r : Int, 0 ≤ r → e'.1 16 7 = r → e.1 16 7 = r ∧ eT e' = eT e ∧ eB e' = eB e) : HH S' D' T' e' := by
  obtain ⟨h1, h2, h3⟩ := h
  have hc := h1.cn
  have n7 := hc.1
  refine ⟨hp, h2.fr hc (fun a u hau => ha a u ?_) (fun r r0 r1 => by unfold hN; rw [ha _ _ (by omega)]; omega) hl, h3.fr h2.1 h1.1.hnn hc (fun a u hau => ha a u ?_) (fun t t0 t1 => by rw [ha _ _ (by omega)]; omega) hv (fun r r0 r1 => (Dead.eq (ha _ _ (by omega))).mpr) hh hm⟩
  · rcases hau with g | g | g | g | g | g | g
    · exact Or.inl g
    · exact Or.inr (Or.inl g)
    · exact Or.inr (Or.inr (Or.inl g))
    · exact Or.inr (Or.inr (Or.inr (Or.inl g)))
    · exact Or.inr (Or.inr (Or.inr (Or.inr (Or.inl ⟨g.1, g.2.imp id Or.inl⟩))))
    · exact Or.inr (Or.inr (Or.inr (Or.inr (Or.inr (Or.inr (Or.inl ⟨g.1, g.2.1, by omega, by omega⟩))))))
    · exact Or.inr (Or.inr (Or.inr (Or.inr (Or.inr (Or.inr (Or.inr (Or.inl g)))))))
  · rcases hau with g | g | g | g | g | g | g | g
    · exact Or.inl g.1
    · exact Or.inr (Or.inr (Or.inl g))
    · exact Or.inr (Or.inr (Or.inr (Or.inr (Or.inl ⟨g.1, Or.inr (Or.inr g.2)⟩))))
    · exact Or.inr (Or.inr (Or.inr (Or.inr (Or.inr (Or.inl g)))))
    · exact Or.inr (Or.inr (Or.inr (Or.inr (Or.inr (Or.inr (Or.inl ⟨g.1, g.2.1, by omega, by omega⟩))))))
    · exact Or.inr (Or.inr (Or.inr (Or.inr (Or.inr (Or.inr (Or.inr (Or.inr (Or.inl g))))))))
    · exact Or.inr (Or.inr (Or.inr (Or.inr (Or.inr (Or.inr (Or.inr (Or.inr (Or.inr (Or.inl g)))))))))
    · exact Or.inr (Or.inr (Or.inr (Or.inr (Or.inr (Or.inr (Or.inr (Or.inr (Or.inr (Or.inr (g))))))))))
theorem HH.up (h : HH S D T e) (hs : S ≤ S') (hd : D ≤ D') (ht : T ≤ T') (hb : S' + 2 * D' + 2 * T' ≤ 540) : HH S' D' T' e := ⟨h.1.up hs hd ht hb, h.2⟩
theorem HH.thr (h : HH S D T e) : HH S D T (pThr e) := h.fr h.1.thr (fun a u ha => eS_a (by omega)) (fun _ _ => rfl) (fun _ _ _ _ _ _ => rfl) (fun _ _ _ => rfl) fun r r0 g => ⟨by rw [← g]; exact (eS_a (by decide)).symm, rfl, rfl⟩
/-- the state in which the news are put, or the run is found stuck -/
theorem e0_g : (∀ a u : Int, a ≠ 16 → a ≠ 11 → (a ≠ 9000 + k ∨ u ≠ 5) → (cE0 k e).1 a u = e.1 a u) ∧ (∀ j, eH (cE0 k e) j = eH e j) ∧ (∀ c, eL (cE0 k e) c = eL e c) ∧ (cE0 k e).1 16 7 = -1 := by
  have hE : EQM (pCmp2 k e) (cE0 k e) := eM_eq.tr eM_eq
  exact ⟨fun a u h1 h2 h3 => (hE.1 _ _ h1).trans (cmp2_a h2 h3), fun j => (congrFun hE.2.1 j).trans (by unfold eH; rw [cmp2_2]), fun c => (congrFun hE.2.2 c).trans (by unfold eL; rw [cmp2_2]), (show mset (eM (pCmp2 k e) (-1) (pCmpS k e) (pCmpB k e)).1 16 7 (-1) 16 7 = -1 from ms_e)⟩
theorem hh_complete (h : HH S D T e) (hw : WX e) (ht : 0 ≤ e.1 4 14 ∧ e.1 4 14 < 1000000) (hb2 : S + 2 * (D + 1) + 2 * T ≤ 540) (hSW : 0 ≤ p1 → p1 < e.1 9 2 → FolP (pCmp2 p1 e) (e.1 (9000 + p1) 1) (pCmpV p1 e) (pCmpW p1 e) (e.1 (9000 + p1) 3) → SW (pCmpX p1 e) (pCmpS p1 e) (pCmpB p1 e)) : HH S (D + 1) T (pcComplete p1 e).2 := by
  have h' := h.up (S' := S) (D' := D + 1) (T' := T) (Int.le_refl _) (by omega) (Int.le_refl _) hb2
  have hc := h.cn
  have n7 := hc.1
  have n9 := hc.2.2.1
  unfold pcComplete
  by_cases c0 : 0 ≤ p1 ∧ p1 < e.1 9 2
  · rw [if_pos c0]
    by_cases c1 : e.1 (9000 + p1) 5 = 0 ∧ e.1 (7000 + e.1 (9000 + p1) 1) 6 = 0 ∧ pMark e (e.1 (9000 + p1) 1) = e.1 (9000 + p1) 4
    · rw [if_pos c1]
      obtain ⟨h1, h2, h3⟩ := h
      obtain ⟨kO, kK, kV, ⟨kT, kR⟩, kN⟩ := h3
      obtain ⟨r0, r1⟩ := kR p1 c0.1 c0.2
      have hrun := hw.run r0 r1
      have hcode := (hw.glo.2.2.2.2.2.2.1 _ (isT_4 hrun.1.1 hrun.1.2)).2 _ hrun.2.2.1.1 (by have := hrun.2.2.1.2; omega)
      have hty := hrun.1
      have hv3 := hrun.2.2.1
      have n48 := hc.2.2.2.2 _ (isT_4 hty.1 hty.2)
      obtain ⟨Q, QB, hB⟩ := cmp_b h1 c0.1 c0.2 (hw.tsk c0.1 c0.2).1.1 r0 r1 hcode ⟨hv3.1, by omega⟩ kK kT c1.2.1 c1.2.2
      have hSW' := hSW c0.1 c0.2 hB.2.1
      have hs := c1.2.1
      generalize hr : e.1 (9000 + p1) 1 = r at r0 r1 hrun hcode hty hv3 n48 hs c1
      have hnd : ¬ Dead e r := fun d => d.1 hs
      have eg : pKept r (e.1 (9000 + p1) 0) (eS e (9000 + p1) 5 1) = cG p1 e := by rw [← hr]; rfl
      obtain ⟨z1, z2, z3, z4⟩ := e0_g (k := p1) (e := e)
      have hN0 : hN (cE0 p1 e) r = hN e r := z1 _ _ (by omega) (by omega) (by omega)
      have hNM : hN (eM (pCmp2 p1 e) (-1) (pCmpS p1 e) (pCmpB p1 e)) r = hN e r := (eM_eq.1 _ _ (by omega)).trans (cmp2_a (by omega) (by omega))
      rw [eg]
      unfold pcComp2
      by_cases hbe : sg (sBeh (pCmpX p1 e) (pCmpS p1 e)) 0 30 = 0
      · -- not stuck
        rw [if_pos hbe, hNM]
        show HH S (D + 1) T (pCarL r (sn (pCmpS p1 e)).length (hN e r) (pPN r p1 (cG p1 e) (cE0 p1 e)))
        have s4 : sn (pCmpS p1 e) = sn (cTd p1 e) := (cmp_S hB hbe).2.2.2.1
        obtain ⟨⟨a1, a2⟩, ⟨a3, a4⟩, a5, -, a7, a8, a9, a10⟩ := cmp_pn h1 h2 kO hB c0.1 c0.2 hr.symm r0 r1 hs ht hb2 hbe
        generalize hG : pPN r p1 (cG p1 e) (cE0 p1 e) = e3 at a1 a2 a3 a4 a5 a7 a8 a9 a10 ⊢
        obtain ⟨g1, g2, g3, ⟨g4, g5, g6, g7, g8⟩, ⟨g9, g10, g11, g12⟩, ⟨g13, g14, g15⟩, g16, g17⟩ := cmp_fr h1 hB c0.1 c0.2 hr.symm r0 r1 hbe hG
        obtain ⟨b1, b2, b3, b4, b5⟩ := cmp_k2 h1 hB c0.1 c0.2 hr.symm r0 r1 hbe hG kK kT kR kN
        have b6 := cmp_kv h1 hB hSW' c0.1 c0.2 hr.symm r0 r1 hs ⟨hv3.1, by omega⟩ kN hbe hG
        rw [s4] at a1 a5 ⊢
        have e7 : e3.1 7 2 = e.1 7 2 := g1 _ _ (by omega) (by omega) (by omega) (by omega) (by omega) (by omega) (by omega) (by omega)
        have hc3 := a1.cn
        have hK3 := a1.hnn
        have hs3 : e3.1 (7000 + r) 6 = 0 := (g1 _ _ (by omega) (by omega) (by omega) (by omega) (by omega) (by omega) (by omega) (by omega)).trans hs
        have ht3 : 0 ≤ e3.1 4 14 ∧ e3.1 4 14 < 1000000 := by
          rw [g1 _ _ (by omega) (by omega) (by omega) (by omega) (by omega) (by omega) (by omega) (by omega)]
          exact ht
        have hl3 := a1.len r0 (by rw [e7]; exact r1)
        have hI3 := (a1.2.1 r r0 (by rw [e7]; exact r1)).1.2
        have hl := h1.1.len r0 r1
        have hag : (∃ j : Int, (hN e r ≤ j ∧ j < hN e r + (sn (cTd p1 e)).length) ∧ ek (eH e3 r j) = 16) → (∀ n : Int, 0 ≤ n → n < 4 → ∀ v ∈ sq (eT e3) n, 0 ≤ v ∧ v ≤ 999) ∧ (0 ≤ sg (eT e3) 0 11 ∧ sg (eT e3) 0 11 ≤ hN e r) ∧ Qn (eT e3) ≤ csg (eH e3 r) (sg (eT e3) 0 11).toNat := fun _ => ⟨a7, a8, a9⟩
        obtain ⟨u1, u2⟩ := HK.carL r0 (sn (cTd p1 e)).length (hN e r) e3 a1 a2 (fun _ => ⟨by rw [e7]; exact r1, hs3, a3.tmo r0 (by rw [e7]; exact r1), hl.1, by omega, by omega⟩) (fun j j0 j1 => ⟨CmA.ok (hI3.cma (by omega) (by omega) (a5 j j0 j1).1.1 (a5 j j0 j1).1.2), (a5 j j0 j1).2⟩) hag
        obtain ⟨v1, v2, v3⟩ := gc_carL r0 (sn (cTd p1 e)).length (hN e r) e3 a1 a2 a3 ht3 (fun _ => ⟨by rw [e7]; exact r1, hs3, hl.1, by omega⟩) a5 (fun j j0 j1 => by
          rw [show j = hN e r + (sn (cTd p1 e)).length by omega]
          exact Or.inr g7) hag
        have hP := u1.wno (W' := nWt) nWt_n fun q j g => by
          unfold Wz at g
          omega
        have hEX := v1.1.1
        have hO' := v1.1.2.2 a4
        generalize hgE : pCarL r (sn (cTd p1 e)).length (hN e r) e3 = e5 at u1 u2 v1 v2 v3 hP hEX hO' ⊢
        have hE5 : ¬ Dead e5 r → ∀ z ∈ sn (cTd p1 e), ¬ (14 ≤ z.1 ∧ z.1 ≤ 16) := fun hd z hz hk => by
          obtain ⟨i, hi⟩ := List.getElem?_of_mem hz
          have hil : i < (sn (cTd p1 e)).length := (List.getElem?_eq_some_iff.mp hi).1
          have := (g6 i z hi).2.1
          exact hd (v3 ⟨hN e r + i, by omega, by omega⟩)
        have hdd : ∀ q : Int, 0 ≤ q → q < e.1 7 2 → ¬ Dead e5 q → ¬ Dead e q := fun q q0 q1 hd g => hd ((hEX.2.1 q q0 (by rw [e7]; exact q1)).2.2 ((Dead.eq (g1 _ _ (by omega) (by omega) (by omega) (by omega) (by omega) (by omega) (by omega) (by omega))).mpr g))
        obtain ⟨w1, w2⟩ := b2.ex hEX hK3 b3 hc3
        have hkv3 : KvI e3 := fun q q0 q1 h12 => by
          rw [e7] at q1
          have hty' := (h2.1 q q0 q1).1
          by_cases cq : q = r
          · subst cq
            rw [g10]
            have t3 : e3.1 (7000 + q) 3 = e.1 (7000 + q) 3 := g1 _ _ (by omega) (by omega) (by omega) (by omega) (by omega) (by omega) (by omega) (by omega)
            have t1 : e3.1 (7000 + q) 1 = e.1 (7000 + q) 1 := g1 _ _ (by omega) (by omega) (by omega) (by omega) (by omega) (by omega) (by omega) (by omega)
            have t49 : e3.1 (48 + 4 * e.1 (7000 + q) 1 + 1) 2 = e.1 (48 + 4 * e.1 (7000 + q) 1 + 1) 2 := g1 _ _ (by omega) (by omega) (by omega) (by omega) (by omega) (by omega) (by omega) (by omega)
            unfold pMark
            rw [t3, t1, t49]
            omega
          · have tu : ∀ u : Int, e3.1 (7000 + q) u = e.1 (7000 + q) u := fun u => g1 _ _ (by omega) (by omega) (by omega) (by omega) (by omega) (by omega) (by omega) (by omega)
            rw [tu] at h12
            rw [tu, tu, g1 _ _ (by omega) (by omega) (by omega) (by omega) (by omega) (by omega) (by omega) (by omega)]
            exact kV q q0 q1 h12
        refine ⟨⟨hP, u2⟩, v2, hO', fun q q0 q1 hd => ?_, hkv3.ex hEX a3.1, ⟨w1, w2⟩, fun q q0 q1 hd j j0 j1 => ?_⟩
        · by_cases cq : q < e3.1 7 2
          · have hty' := (a3.1 q q0 cq).1
            by_cases cr : q = r
            · subst cr
              exact (b6 (hE5 hd)).ex hEX hK3 q0 cq hty'
            · exact (b1 q q0 (by omega) cr (hdd q q0 (by omega) hd)).ex hEX hK3 q0 cq hty'
          · intro h12
            have := (hEX.2.2.1 q (by omega) q1).1
            omega
        · by_cases cq : q < e3.1 7 2
          · obtain ⟨ar, -, -⟩ := hEX.2.1 q q0 cq
            by_cases cj : j < hN e3 q
            · rw [ar.2.1 j j0 cj]
              by_cases cr : q = r
              · subst cr
                exact b5 (hE5 hd) hnd j j0 cj
              · exact b4 q q0 (by omega) cr (hdd q q0 (by omega) hd) j j0 cj
            · have := ar.2.2 j (by omega) j1
              omega
          · have := (hEX.2.2.1 q (by omega) q1).2.2 j j0 j1
            omega
      · -- stuck
        rw [if_neg hbe]
        show HH S (D + 1) T (eS (eS (cE0 p1 e) (7000 + r) 6 6) (7000 + r) 7 (sg (sBeh (pCmpX p1 e) (pCmpS p1 e)) 0 31))
        have hp0 : PHs S (D + 1) T (cE0 p1 e) := h'.1.fr (hc.of fun a ha => z1 _ _ (by omega) (by omega) (by omega)) (by rw [z1 _ _ (by omega) (by omega) (by omega)]; exact h1.1.1.1.2.1) (fun a u ha => z1 _ _ (by omega) (by omega) (by omega)) (fun q q0 q1 => ⟨z3 _, z3 _⟩) fun q q0 q1 => z2 q
        have hh0 : HH S (D + 1) T (cE0 p1 e) := h'.fr hp0 (fun a u ha => z1 _ _ (by omega) (by omega) (by omega)) (fun c _ => z3 c) (fun _ _ _ _ _ _ => z3 _) (fun r _ _ => z2 r) fun r r0 g => by
          rw [z4] at g
          omega
        have e7 : (cE0 p1 e).1 7 2 = e.1 7 2 := z1 _ _ (by omega) (by omega) (by omega)
        have hs0 : (cE0 p1 e).1 (7000 + r) 6 = 0 := (z1 _ _ (by omega) (by omega) (by omega)).trans hs
        have hnd0 : ¬ Dead (cE0 p1 e) r := fun d => d.1 hs0
        have gst := gx_st (Z := nZ) (st := 6) hh0.cn r0 (by rw [e7]; exact r1) (by decide) (by decide) fun d => absurd d hnd0
        have pst := hh0.1.st0 r0 (by rw [e7]; exact r1) hnd0 (Or.inr rfl)
        have hF6 := (gst.2.1 hh0.2.1).nz fun q hq d => by
          rcases hq with hq | hq
          · exact hq
          · rw [hq] at d
            exact d.2 eS_e
        have hh6 : HH S (D + 1) T (eS (cE0 p1 e) (7000 + r) 6 6) := ⟨pst, hF6, hh0.2.2.ex gst.1 hh0.1.1.hnn hh0.cn hh0.2.1.1 (gst.2.2 hh0.2.2.1)⟩
        exact hh6.fr (hh6.1.es0 (by omega) (by omega)) (fun a u ha => by rw [es_pt, if_neg (by omega)]) (fun _ _ => rfl) (fun _ _ _ _ _ _ => rfl) (fun _ _ _ => rfl) fun q q0 g => ⟨by rw [es_pt, if_neg (by omega)] at g; exact g, rfl, rfl⟩
    · rw [if_neg c1]
      exact h'.fr (h'.1.es0 (by omega) (by omega)) (fun a u ha => by rw [es_pt, if_neg (by omega)]) (fun _ _ => rfl) (fun _ _ _ _ _ _ => rfl) (fun _ _ _ => rfl) fun q q0 g => ⟨by rw [← g, es_pt, if_neg (by omega)], rfl, rfl⟩
  · rw [if_neg c0]
    exact h'.thr
end HHC
