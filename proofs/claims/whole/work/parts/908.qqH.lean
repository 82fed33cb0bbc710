/-! HOW MUCH IS PUT: joined, set back, taken over. -/
section QQH
variable {e e' e1 e2 : ES} {S D T a b c d i j k q r v w N M p x y t o m s z p1 p2 : Int} {nn : Nat} {E : Int → Ev} {W : Int → Int → Prop} {X : Int → Int → Int → Prop}
/-- what is lost -/
def qLo (e : ES) (i : Int) : Int := if i < e.1 7 2 then ((eL e (75000 + i)).length : Int) else 0
def LO (e : ES) : Int := sm (qLo e) 30
theorem sm_nn {f : Int → Int} (h : ∀ i : Int, 0 ≤ i → 0 ≤ f i) : ∀ n : Nat, 0 ≤ sm f n := by
  intro n
  induction n with
  | zero => exact Int.le_refl _
  | succ n ih =>
    have := h (n : Int) (by omega)
    show 0 ≤ sm f n + f (n : Int)
    omega
theorem qLo_n (i : Int) : 0 ≤ qLo e i := by unfold qLo; split <;> omega
theorem LO_n : 0 ≤ LO e := sm_nn (fun i _ => qLo_n i) 30
theorem LO_tot (h : HK S D T W X e) : LO e ≤ S := by
  have h1 : LO e ≤ tot e := sm_le fun i _ _ => by
    have h2 := csg_0 (E := eH e i) (hN e i).toNat
    unfold qLo totF csr
    by_cases c : i < e.1 7 2
    · rw [if_pos c, if_pos c]
      split <;> omega
    · rw [if_neg c, if_neg c]
      exact Int.le_refl _
  have h2 := h.1.2.2
  omega
theorem qc_jnL (i0 : 0 ≤ i) : ∀ (L : List Int) (e : ES), CN e → HNN e → i < e.1 7 2 → Q1 L.length L.length 0 e (pJnL i L e) := by
  intro L
  induction L with
  | nil => intro e hc _ _; exact Q1.rf
  | cons v L ih =>
    intro e hc hK i1
    unfold pJnL
    have g := gc_arr (Z := nZ) (r := i) (k := 4) (x := v / 1000) (y := v % 1000) hc hK i0 i1 (by decide) (by decide)
    have u := ih _ g.2 (g.hk hK) (by have := g.n7; omega)
    rw [List.length_cons]
    exact ((q7_sig hc hK i0 i1).tr u).mono (by omega) (by omega) (by omega)
theorem qc_jn1 (hH : HH S D T e) (i0 : 0 ≤ i) (i1 : i < e.1 7 2) : Q1 (LO e - LO (pJn1 i e)) (LO e - LO (pJn1 i e)) 0 e (pJn1 i e) := by
  have hc := hH.cn
  have n7 := hc.1
  have e7 := (hh_jn1 hH i0 i1).2
  have hg := gc_jnL (Z := nZ) i0 (eL e (75000 + i)) e hc hH.hn i1
  have rows : ∀ c : Int, 75000 ≤ c → c < 75000 + e.1 7 2 → eL (if e.1 (7000 + i) 6 = 0 then pJnL i (eL e (75000 + i)) e else e) c = eL e c := fun c c0 c1 => by
    split
    · exact hg.1.1.2.2.2.2.2.1 c (by omega) (Or.inr ⟨c0, c1⟩)
    · rfl
  have hlo : LO (pJn1 i e) = LO e - ((eL e (75000 + i)).length : Int) := by
    unfold LO
    rw [sm_one (r := i) (f := qLo e) (g := qLo (pJn1 i e)) (n := 30) i0 (by omega) fun j j0 j1 hj => by
      unfold qLo
      rw [e7]
      by_cases c : j < e.1 7 2
      · rw [if_pos c, if_pos c]
        unfold pJn1
        rw [eLs_a (by omega), rows _ (by omega) (by omega)]
      · rw [if_neg c, if_neg c]]
    have h1 : qLo (pJn1 i e) i = 0 := by
      unfold qLo
      rw [e7, if_pos i1]
      unfold pJn1
      rw [eLs_e]
      rfl
    have h2 : qLo e i = ((eL e (75000 + i)).length : Int) := if_pos i1
    omega
  rw [hlo, show LO e - (LO e - ((eL e (75000 + i)).length : Int)) = ((eL e (75000 + i)).length : Int) by omega]
  unfold pJn1
  split
  · have h1 := qc_jnL i0 (eL e (75000 + i)) e hc hH.hn i1
    exact (h1.tr (q7_ls hg.2 (c := 75000 + i) (l := []) (by omega)).2).mono (by show _ + 3 * ((pJnL i (eL e (75000 + i)) e).1 7 2 - (pJnL i (eL e (75000 + i)) e).1 7 2) ≤ _; omega) (by omega) (by omega)
  · exact (q7_ls hc (c := 75000 + i) (l := []) (by omega)).2.mono (by show 3 * (e.1 7 2 - e.1 7 2) ≤ _; omega) (by omega) (by omega)
theorem qc_jnR : ∀ (n : Nat) (a i : Int) (e : ES), HH S D T e → 0 ≤ i → Q1 (LO e - LO (pJnR n a i e).2) (LO e - LO (pJnR n a i e).2) 0 e (pJnR n a i e).2 := by
  intro n
  induction n with
  | zero => intro a i e _ _; exact Q1.rf.mono (by show 0 ≤ LO e - LO e; omega) (by show 0 ≤ LO e - LO e; omega) (by decide)
  | succ n ih =>
    intro a i e hH i0
    unfold pJnR
    split
    · rename_i c
      exact ((qc_jn1 hH i0 c).tr (ih (a + pJnC i e) (i + 1) _ (hh_jn1 hH i0 c).1 (by omega))).mono (by omega) (by omega) (by decide)
    · exact Q1.rf.mono (by show 0 ≤ LO e - LO e; omega) (by show 0 ≤ LO e - LO e; omega) (by decide)
theorem qc_join (hH : HH S D T e) : Q1 (LO e - LO (pcJoin e).2) (LO e - LO (pcJoin e).2) 0 e (pcJoin e).2 := by
  have hc := hH.cn
  have n7 := hc.1
  unfold pcJoin
  split
  · have h1 : Q7 e (eS e 4 17 1) := q7_es hc (by omega)
    have h2 := qc_jnR 31 0 0 _ (hH.es (v := 1) (hH.1.es0 (a := 4) (j := 17) (by omega) (by omega)) (by omega)) (Int.le_refl _)
    have e7 : (eS e 4 17 1).1 7 2 = e.1 7 2 := eS_a (by decide)
    have eLo : LO (eS e 4 17 1) = LO e := sm_to fun i _ _ => by unfold qLo; rw [e7]; rfl
    rw [eLo] at h2
    show Q1 (LO e - LO (pJnR 31 0 0 (eS e 4 17 1)).2) (LO e - LO (pJnR 31 0 0 (eS e 4 17 1)).2) 0 e (pJnR 31 0 0 (eS e 4 17 1)).2
    exact (h1.2.tr h2).mono (by omega) (by omega) (by omega)
  · have e7 : (pThr e).1 7 2 = e.1 7 2 := eS_a (by decide)
    have eLo : LO (pThr e) = LO e := sm_to fun i _ _ => by unfold qLo; rw [e7]; rfl
    show Q1 (LO e - LO (pThr e)) (LO e - LO (pThr e)) 0 e (pThr e)
    exact (q7_thr hc).2.mono (by show 3 * ((pThr e).1 7 2 - e.1 7 2) ≤ LO e - LO (pThr e); omega) (by show 0 ≤ LO e - LO (pThr e); omega) (by decide)
/-- the copy's beginning -/
theorem qq_sb5 (hc : CN e) (hK : HNN e) (r0 : 0 ≤ r) (r1 : r < e.1 7 2) (hn : e.1 7 2 < 30) (N0 : 0 ≤ N) (N1 : N ≤ hN e r) (hs : e.1 (7000 + r) 6 = 0 ∨ e.1 (7000 + r) 6 = 6) : Q1 1 (csg (eH e r) N.toNat) 0 e (pSb5 r N e) := by
  have n7 := hc.1
  have n8 := hc.2.1
  obtain ⟨pa, pk, -, ⟨p5, p6, -, e7⟩, ⟨hNk, hHk, hHo⟩, pl, -⟩ := sb5_pt (N := N) hc r0 r1 hn
  have pb : ∀ a u : Int, a ≠ 7 → (a < 7000 ∨ (9000 ≤ a ∧ a < 71000)) → (pSb5 r N e).1 a u = e.1 a u := fun a u h1 h2 => pa _ _ (by omega) (by omega) (by omega) (by omega) (by omega) (by omega) (by omega)
  have e8 : (pSb5 r N e).1 8 2 = e.1 8 2 := pb _ _ (by omega) (by omega)
  have hNo : ∀ i : Int, 0 ≤ i → i < e.1 7 2 → hN (pSb5 r N e) i = hN e i := fun i i0 i1 => pa _ _ (by omega) (by omega) (by omega) (by omega) (by omega) (by omega) (by omega)
  -- two runs change: the old one, the new one
  have two : ∀ (F : ES → Int → Int) (b : Int), (∀ i : Int, 0 ≤ i → i < 30 → i ≠ e.1 7 2 → i ≠ r → F (pSb5 r N e) i = F e i) → F (pSb5 r N e) r + F (pSb5 r N e) (e.1 7 2) ≤ F e r + F e (e.1 7 2) + b → sm (F (pSb5 r N e)) 30 ≤ sm (F e) 30 + b := fun F b h1 h2 => by
    obtain ⟨G, hG⟩ : ∃ G : Int → Int, ∀ i : Int, G i = if i = e.1 7 2 then F e i else F (pSb5 r N e) i := ⟨_, fun _ => rfl⟩
    have g1 := sm_one (r := r) (f := F e) (g := G) (n := 30) r0 (by omega) fun i i0 i1 hi => by
      rw [hG]
      by_cases ci : i = e.1 7 2
      · rw [if_pos ci]
      · rw [if_neg ci]
        exact h1 i i0 (by omega) ci hi
    have g2 := sm_one (r := e.1 7 2) (f := G) (g := F (pSb5 r N e)) (n := 30) n7.1 (by omega) fun i i0 i1 hi => by
      rw [hG, if_neg hi]
    have g3 : G r = F (pSb5 r N e) r := by rw [hG, if_neg (by omega)]
    have g4 : G (e.1 7 2) = F e (e.1 7 2) := by rw [hG, if_pos rfl]
    omega
  have lt : ∀ i : Int, i ≠ e.1 7 2 → (i < (pSb5 r N e).1 7 2 ↔ i < e.1 7 2) := fun i hi => by rw [e7]; omega
  have b1 := two qAl 0 (fun i i0 i1 h1 h2 => by
    unfold qAl
    rw [pa (7000 + i) 6 (by omega) (by omega) (by omega) (by omega) (by omega) (by omega) (by omega)]
    by_cases c : i < e.1 7 2 ∧ (e.1 (7000 + i) 6 = 0 ∨ e.1 (7000 + i) 6 = 6)
    · rw [if_pos c, if_pos ⟨(lt i h1).mpr c.1, c.2⟩]
    · rw [if_neg c, if_neg fun g => c ⟨(lt i h1).mp g.1, g.2⟩]) (by
    have w1 : qAl (pSb5 r N e) r = 0 := if_neg fun g => by rw [p6] at g; omega
    have w2 : qAl e r = 1 := if_pos ⟨r1, hs⟩
    have w3 : qAl e (e.1 7 2) = 0 := if_neg (fun g => by omega)
    have w4 : qAl (pSb5 r N e) (e.1 7 2) ≤ 1 := by unfold qAl; split <;> omega
    omega)
  have cc0 : ∀ (E : Int → Ev) (n : Nat), 0 ≤ ccn E n := fun E n => by
    have := ccn_m (E := E) n 0
    rw [Nat.zero_add] at this
    exact this
  have b2 := two qNc 1 (fun i i0 i1 h1 h2 => by
    unfold qNc ccr
    by_cases c : i < e.1 7 2
    · rw [if_pos c, if_pos ((lt i h1).mpr c), hNo i i0 c, hHo i h1]
    · rw [if_neg c, if_neg fun g => c ((lt i h1).mp g)]) (by
    have w1 : qNc (pSb5 r N e) r = qNc e r := by
      unfold qNc ccr
      rw [if_pos r1, if_pos (by omega), hNo r r0 r1, hHo r (by omega)]
    have w3 : qNc e (e.1 7 2) = 0 := if_neg (by omega)
    have w4 : qNc (pSb5 r N e) (e.1 7 2) ≤ 1 := by
      have := cc0 (eH (pSb5 r N e) (e.1 7 2)) (hN (pSb5 r N e) (e.1 7 2)).toNat
      unfold qNc ccr
      split <;> omega
    omega)
  have b3 := two qTm 0 (fun i i0 i1 h1 h2 => by
    have hl : eL (pSb5 r N e) (73000 + i) = eL e (73000 + i) := by rw [pl, if_neg (by omega)]
    unfold qTm
    rw [hl]
    by_cases c : i < e.1 7 2
    · rw [if_pos c, if_pos ((lt i h1).mpr c)]
    · rw [if_neg c, if_neg fun g => c ((lt i h1).mp g)]) (by
    have w1 : qTm (pSb5 r N e) r = 0 := by
      have hl : eL (pSb5 r N e) (73000 + r) = [] := by rw [pl, if_pos (by omega)]
      unfold qTm
      rw [hl]
      split <;> rfl
    have w2 : 0 ≤ qTm e r := by unfold qTm; split <;> omega
    have w3 : qTm e (e.1 7 2) = 0 := if_neg (by omega)
    have w4 : qTm (pSb5 r N e) (e.1 7 2) = 0 := by
      have hl : eL (pSb5 r N e) (73000 + e.1 7 2) = [] := by rw [pl, if_pos (by omega)]
      unfold qTm
      rw [hl]
      split <;> rfl
    omega)
  have b4 : sm (qAc (pSb5 r N e)) 60 ≤ sm (qAc e) 60 := sm_le fun p p0 _ => by
    unfold qAc
    rw [e8]
    by_cases c : p < e.1 8 2
    · rw [p5 p p0 c]
      by_cases c2 : e.1 (8000 + p) 0 = r
      · rw [if_pos c2, if_neg (fun g => g.2 rfl)]
        split <;> omega
      · rw [if_neg c2]; omega
    · rw [if_neg (fun g => c g.1), if_neg (fun g => c g.1)]; omega
  have b5 := two qCs (csg (eH e r) N.toNat) (fun i i0 i1 h1 h2 => by
    unfold qCs csr
    by_cases c : i < e.1 7 2
    · rw [if_pos c, if_pos ((lt i h1).mpr c), hNo i i0 c, hHo i h1]
    · rw [if_neg c, if_neg fun g => c ((lt i h1).mp g)]) (by
    have w1 : qCs (pSb5 r N e) r = qCs e r := by
      unfold qCs csr
      rw [if_pos r1, if_pos (by omega), hNo r r0 r1, hHo r (by omega)]
    have w3 : qCs e (e.1 7 2) = 0 := if_neg (by omega)
    have w4 : qCs (pSb5 r N e) (e.1 7 2) = csg (eH e r) N.toNat := by
      unfold qCs csr
      rw [if_pos (by omega), hNk, hHk]
    omega)
  have a7 : (pSb5 r N e).1 4 16 = e.1 4 16 := pb _ _ (by omega) (by omega)
  have a8 : (pSb5 r N e).1 3 1 = e.1 3 1 := pb _ _ (by omega) (by omega)
  refine ⟨(pSb5 r N e).1 4 16 - hN0 (pSb5 r N e) 0 + QV (pSb5 r N e) - (e.1 4 16 - hN0 e 0 + QV e), ?_⟩
  unfold QQ QLk QV
  exact ⟨by omega, by omega, by omega, by omega, by omega⟩
theorem qc_setBack (hH : HH S D T e) (ht : 0 ≤ e.1 4 14 ∧ e.1 4 14 < 1000000) : Q1 (13 + S) S 12 e (pcSetBack p1 p2 e).2 := by
  have hc := hH.cn
  have n7 := hc.1
  have hS := hH.1.1.1.2.1
  have th : Q1 (13 + S) S 12 e (pThr e) := (q7_thr hc).q1 (eS_a (by decide)) (by omega) (by omega) (by decide)
  unfold pcSetBack
  by_cases c1 : 0 ≤ p1 ∧ p1 < e.1 7 2
  · rw [if_pos c1]
    by_cases c2 : taskN (pX e p1) p2 < 0
    · rw [if_pos c2]; exact th
    · rw [if_neg c2]
      by_cases c3 : e.1 (7000 + p1) 6 = 0 ∨ e.1 (7000 + p1) 6 = 6
      · rw [if_pos c3]
        by_cases c4 : e.1 7 2 < 30
        · rw [if_pos c4]
          obtain ⟨⟨g1, g2⟩, g3⟩ := xTsk_k (x := pX e p1) (v := p2) _ 0 0 (Int.le_refl _) (show 0 ≤ taskN (pX e p1) p2 by omega)
          have hk : ek (eH e p1 (taskN (pX e p1) p2)) = 17 := g3
          have hl : lcm (eH e p1) (taskN (pX e p1) p2 + 1) = 0 := by
            unfold lcm
            rw [show taskN (pX e p1) p2 + 1 - 1 = taskN (pX e p1) p2 by omega, hk, if_neg (by omega)]
          have hltn : taskN (pX e p1) p2 < hN e p1 := g2
          have hd := al_nd.mp c3
          have hN0 : 0 < taskN (pX e p1) p2 + 1 ∧ taskN (pX e p1) p2 + 1 ≤ hN e p1 := by omega
          dsimp only
          generalize taskN (pX e p1) p2 + 1 = N at *
          obtain ⟨a1, a2, a3⟩ := hH.1.1.sb5 (N := N) nWt_n hH.1.2 c1.1 c1.2 hd c4 (by omega) (by omega) hl
          have hF := fk_sb5 (N := N) hH.fk hH.hn hc c1.1 c1.2 hd c4 (by omega) (by omega)
          obtain ⟨pa, pk, -, ⟨-, -, -, e7⟩, ⟨hNk, hHk, hHo⟩, -⟩ := sb5_pt (N := N) hc c1.1 c1.2 c4
          have g14 : (pSb5 p1 N e).1 4 14 = e.1 4 14 := pa _ _ (by omega) (by omega) (by omega) (by omega) (by omega) (by omega) (by omega)
          have hdk : ¬ Dead (pSb5 p1 N e) (e.1 7 2) := fun d => d.1 (pk 6 (by decide))
          obtain ⟨u1, -, -⟩ := gc_rest a1 nWt_n a2 hF.1 hF.2.1 (by rw [g14]; exact ht) n7.1 (by omega) hdk a3
          have k3 := (a1.rest nWt_n a2 n7.1 (by omega) a3).2.2.1
          have s1 := qq_sb5 (N := N) hc hH.hn c1.1 c1.2 c4 (by omega) (by omega) c3
          have s2 := (qq_rest (q := 0) a1.cn a1.hnn (Int.le_refl _) n7.1 (show e.1 7 2 < (pSb5 p1 N e).1 7 2 by omega) (a1.2.1 _ n7.1 (by omega)).1.2).q1
          have hNo : hN (pSb5 p1 N e) p1 = hN e p1 := pa _ _ (by omega) (by omega) (by omega) (by omega) (by omega) (by omega) (by omega)
          have hR := k3.2.1 p1 (by omega) c1.1 (by omega)
          have wN : hN (pRest (e.1 7 2) (pSb5 p1 N e)) p1 = hN e p1 := hR.1.trans hNo
          have wH : eH (pRest (e.1 7 2) (pSb5 p1 N e)) p1 = eH e p1 := hR.2.trans (hHo p1 (by omega))
          have s3 := (qq_snd (r := 0) (to := e.1 7 2) (q := p1) (sz := hN (pRest (e.1 7 2) (pSb5 p1 N e)) p1) (Int.le_refl _) n7.1 (by omega) c1.1 (by omega) ((hN (pRest (e.1 7 2) (pSb5 p1 N e)) p1 - N).toNat + 1) N (pRest (e.1 7 2) (pSb5 p1 N e)) u1.2 (u1.hk a1.hnn) (by have := u1.n7; omega) (by omega) (by rw [wN]; omega)).1.q1
          rw [wH, wN] at s3
          have hct : csr e p1 ≤ S := by
            have g1 := csr_tot c1.1 c1.2 n7.2 hd
            have g2 := hH.1.1.1.2.2
            omega
          have hcs : csr e p1 = csg (eH e p1) (hN e p1).toNat := rfl
          have hm := csg_0 (E := eH e p1) N.toNat
          have e4 : pSetB p1 N e = pSndL (e.1 7 2) p1 (hN e p1) ((hN e p1 - N).toNat + 1) N (pRest (e.1 7 2) (pSb5 p1 N e)) := by
            unfold pSetB pSnd
            rw [wN]
          rw [e4]
          exact ((s1.tr s2).tr s3).mono (by omega) (by omega) (by omega)
        · rw [if_neg c4]; exact th
      · rw [if_neg c3]; exact th
  · rw [if_neg c1]; exact th
end QQH
