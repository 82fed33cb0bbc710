/-! THE TELLING in the reference: a whole telling, II. -/
section RF28
variable {m0 m m' M : MM} {x : CX} {s s' s1 s2 : TS} {B H : Int} {a b c e i j v k h n l w p r t o q rh E ty ver rc kd lim : Int} {G : Int → Nat} {Q QB : TS → Prop}
/-- what holds at an arrival that the reference comes to -/
def TLP (M m : MM) (x : CX) (G : Int → Nat) (r ty ver rh rc : Int) (s : TS) (QB : TS → Prop) : Prop := TFW M m ∧ P113 m ∧ (∃ v E, 12 ≤ E ∧ RR m m x (st s 0 29 v) rh E (sg s 0 40)) ∧ RC m x G r ty ver rh rc ∧ (m 68 117 = sg s 0 10 ∧ m 68 123 = sg s 0 10 ∧ m 68 126 = if sg s 0 13 < rh then sg s 0 13 else rh) ∧ BP x s (1001 * sg s 0 10 + 1) ∧ A2 x s rh ∧ goes s = true ∧ QB s
theorem TLP.fin (h : TLP M m x G r ty ver rh rc s QB) : FIN M m x s rh := by
  obtain ⟨h1, h2, ⟨v, E, h3, h4⟩, h5, ⟨h6, h7, h8⟩, h9, h10, h11, h12⟩ := h
  exact ⟨h1, h2.1, Or.inl ⟨(goes_s h11).1, ⟨v, E, h4⟩, h7⟩⟩
theorem FIN.s28 (h : FIN M m x s rh) : FIN M m x (st s 0 28 w) rh := by
  obtain ⟨h1, h2, h3⟩ := h
  have e : ∀ q : Int, q ≠ 28 → sg (st s 0 28 w) 0 q = sg s 0 q := fun q hq => by rw [st_g, if_neg (by omega)]
  refine ⟨h1, h2, ?_⟩
  rw [e 30 (by decide), e 40 (by decide), e 10 (by decide), e 31 (by decide)]
  refine h3.imp (fun g => ⟨g.1, ?_, g.2.2⟩) id
  obtain ⟨v, E, g2⟩ := g.2.1
  refine ⟨v, E, ?_⟩
  rw [st_comm (a := 0) (i := 28) (b := 0) (j := 29) (Or.inr (by decide))]
  exact g2.s0 (by omega)
theorem st29_0 {w2 : Int} : st (st (st (st s 0 29 v) 0 28 i) 0 11 w2) 0 29 0 = st (st (st s 0 28 i) 0 11 w2) 0 29 0 := by
  refine Prod.ext ?_ rfl
  funext b j
  show mset (mset (mset (mset s.1 0 29 v) 0 28 i) 0 11 w2) 0 29 0 b j = mset (mset (mset s.1 0 28 i) 0 11 w2) 0 29 0 b j
  unfold mset
  by_cases q : b = 0 ∧ j = 29
  · simp only [if_pos q]
  · simp only [if_neg q]
theorem sTake_29 : sTaken x i (st s 0 29 v) = sTaken x i s := by
  unfold sTaken
  rw [st29_0]
theorem BP.s29 (h : BP x s B) : BP x (st s 0 29 v) B ∨ ¬ (0 ≤ v ∧ v ≤ 60) := by
  by_cases q : 0 ≤ v ∧ v ≤ 60
  · left
    obtain ⟨h1, h2, h3, h4, h5⟩ := h
    have e : ∀ q : Int, q ≠ 29 → sg (st s 0 29 v) 0 q = sg s 0 q := fun q hq => by rw [st_g, if_neg (by omega)]
    refine ⟨h1.s29 q.1 q.2, h2.sx h1.2.2.2.2.2.1.1 (by omega), h3.sx (by omega), h4.sx (by omega), ?_⟩
    unfold BtW at h5 ⊢
    rw [e 11 (by decide), e 13 (by decide), e 5 (by decide), e 10 (by decide)]
    exact h5
  · exact Or.inr q
theorem tell_l (hC : CXX x) (A : MA x rh rc) (hG : GB x rc rh Q QB) (hlim : lim ≤ 260000) : ∀ (n f : Nat) (k : Int) (s : TS) (m : MM), x.1 0 - k < n → n < f → 0 ≤ k → k ≤ x.1 0 → TLP M m x G r ty ver rh rc s QB → sg s 0 11 ≤ k → na x (sg s 0 11) = na x k → ∀ n' : Nat, lim - sg s 0 10 < n' → nl (sFollow x lim n' (sg s 0 10) s) < 65536 → sg (sFollow x lim n' (sg s 0 10) s) 0 41 + 1 ≤ 2048 → sg (sFollow x lim n' (sg s 0 10) s) 0 40 + 61 < 196608 → ∃ m', fl_X12_tellsRun_151 r lim f k m = some (0, m') ∧ FIN M m' x (sFollow x lim n' (sg s 0 10) s) rh := by
  intro n
  induction n with
  | zero => intro f k s m h0 h1 k0 k1; omega
  | succ n ih =>
    intro f k s m h0 h1 k0 k1 hL h11 hna n' hn' b1 b2 b3
    have hL0 := hL
    obtain ⟨f, rfl⟩ : ∃ g, f = g + 1 := ⟨f - 1, by omega⟩
    obtain ⟨hTF, hP13, ⟨v, E, hE, hRR⟩, hR, ⟨h117, h123, h126⟩, hP, hA, hg, hQB⟩ := hL
    have hF := hP13.1
    have e113 : m 68 113 = v := by rw [hRR.2.1.2.2.2.2.2.1, st_g, if_pos ⟨rfl, rfl⟩]
    obtain ⟨h30, hov⟩ := goes_s hg
    have hC0 := hC
    obtain ⟨hcx, hx5, h4, hXI, hN0⟩ := hC
    have hNN := hR.2.2.2.2.2.2.2.2.1
    have hBt := hP.2.2.2.2
    have h5 := hP.1.2.2.2.2.2.2.2.1
    have h10 := hP.1.2.2.2.2.2.2.2.2.2
    have e114 : m 68 114 = 0 := by rw [hRR.2.1.2.2.2.2.2.2.1, st_g, if_neg (by omega)]; exact h30
    have e112 : m 68 112 = 0 := by rw [hRR.2.1.2.2.2.2.1, st_g, if_neg (by omega)]; exact hov
    unfold fl_X12_tellsRun_151
    simp only [lx_p]
    rw [gd_t hR.1.2, hR.2.2.2.2.2.2.2.1, h117]
    by_cases c1 : k < x.1 0
    · rw [if_pos c1]
      by_cases c2 : sg s 0 10 < lim
      · rw [if_pos c2, e114, if_pos rfl, bp_t (rkind hR k0 c1), w32_id (z := k + 1) (by omega) (by omega)]
        by_cases c3 : 7 < ek (x.2.1 k)
        · rw [if_pos c3]
          exact ih f (k + 1) s m (by omega) (by omega) (by omega) (by omega) hL0 (by omega) (by rw [hna, na_u c1 c3]) n' hn' b1 b2 b3
        · rw [if_neg c3]
          have hnk : na x (sg s 0 11) = k := by rw [hna, na_at c1 c3]
          obtain ⟨n', rfl⟩ : ∃ g, n' = g + 1 := ⟨n' - 1, by omega⟩
          have hfo : sFollow x lim (n' + 1) (sg s 0 10) s = sFollow x lim n' (sg s 0 10 + 1) (sTake x k s) := by
            show (if sg s 0 10 < lim then (if goes s = true then (if na x (sg s 0 11) < x.1 0 then sFollow x lim n' (sg s 0 10 + 1) (sTake x (na x (sg s 0 11)) s) else st s 0 28 (na x (sg s 0 11))) else s) else s) = _
            rw [if_pos c2, if_pos hg, hnk, if_pos c1]
          rw [hfo] at b1 b2 b3 ⊢
          obtain ⟨g1, g2, g3, g4, g5, g6, g7, g8, g9, g10, g11⟩ := taken_all hC0 hP h11 c1 (by omega)
          obtain ⟨t1, t2, t3, t4, t5, t6, t7, t8⟩ := BP.take hC0 hP h11 c1 (by omega)
          obtain ⟨f1, f2, f3⟩ := follow_mono (lim := lim) hC0 n' (sg s 0 10 + 1) (sTake x k s) _ t1
          -- the reference's own counts
          simp only [up_t]
          rw [w32_id (z := sg s 0 10 + 1) (by omega) (by omega), show mset m 68 117 (sg s 0 10 + 1) 68 112 = m 68 112 from ms_j (by decide), e112, if_pos rfl, show mset m 68 117 (sg s 0 10 + 1) 68 123 = m 68 123 from ms_j (by decide), h123, w32_id (z := sg s 0 10 + 1) (by omega) (by omega)]
          have own : ∀ a j : Int, ¬ own3 a j → mset (mset m 68 117 (sg s 0 10 + 1)) 68 123 (sg s 0 10 + 1) a j = m a j := fun a j hh => by
            rw [show mset (mset m 68 117 (sg s 0 10 + 1)) 68 123 (sg s 0 10 + 1) a j = mset m 68 117 (sg s 0 10 + 1) a j from if_neg fun g => hh ⟨g.1, by omega⟩]
            exact if_neg fun g => hh ⟨g.1, by omega⟩
          have hR1 : RC (mset (mset m 68 117 (sg s 0 10 + 1)) 68 123 (sg s 0 10 + 1)) x G r ty ver rh rc := hR.fr2 own
          have hRR1 := hRR.re own
          have hF1 : Fix (mset (mset m 68 117 (sg s 0 10 + 1)) 68 123 (sg s 0 10 + 1)) := fx_f (j := 123) (fx_f (j := 117) hF (fx_kF (c := 13) hF (by decide +kernel)) (by decide +kernel)) (fx_kF (c := 13) (fx_f (j := 117) hF (fx_kF (c := 13) hF (by decide +kernel)) (by decide +kernel)) (by decide +kernel)) (by decide +kernel)
          have hTF1 : TFW M (mset (mset m 68 117 (sg s 0 10 + 1)) 68 123 (sg s 0 10 + 1)) := (hTF.ms (tow_own (by omega))).ms (tow_own (by omega))
          have m117 : mset (mset m 68 117 (sg s 0 10 + 1)) 68 123 (sg s 0 10 + 1) 68 117 = sg s 0 10 + 1 := by rw [ms_j (by decide), ms_e]
          have m123 : mset (mset m 68 117 (sg s 0 10 + 1)) 68 123 (sg s 0 10 + 1) 68 123 = sg s 0 10 + 1 := ms_e
          have m126 : mset (mset m 68 117 (sg s 0 10 + 1)) 68 123 (sg s 0 10 + 1) 68 126 = if sg s 0 13 < rh then sg s 0 13 else rh := by rw [ms_j (by decide), ms_j (by decide)]; exact h126
          generalize mset (mset m 68 117 (sg s 0 10 + 1)) 68 123 (sg s 0 10 + 1) = mb at *
          -- the arrival is taken
          have hm113 : mb 68 113 = v := by rw [own 68 113 (fun g => by have := g.2; omega)]; exact e113
          have hv60 : 0 ≤ v ∧ v ≤ 60 := by rw [← e113]; exact hP13.2
          have es : ∀ a q : Int, (a ≠ 0 ∨ q ≠ 29) → sg (st s 0 29 v) a q = sg s a q := fun a q hq => by rw [st_g, if_neg (by omega)]
          have hq := hG.2.1 s hQB hg (by rw [hnk]; exact c1)
          rw [hnk] at hq
          have hTd : sOn x 1000 (sNote x (ek (x.2.1 k)) (ex (x.2.1 k)) (ey (x.2.1 k)) (st (st (st (st s 0 29 v) 0 28 k) 0 11 (k + 1)) 0 29 0)) = sTaken x k s := by
            rw [st29_0]
            rfl
          obtain ⟨m2, E2, v2, w1, w2, w3⟩ := takes_r (s := st s 0 29 v) (i := k) (by rw [es _ _ (by omega)]; exact hRR1) hE hR1 A (by rw [es _ _ (by omega)]; exact m117) hN0.2 hcx hx5 h4 hXI hF1 (hP.s29.resolve_right (fun g => g hv60)) (by rw [goes_st29]; exact hg) (hA.st (by omega)) (by rw [es _ _ (by omega)]; exact h11) c1 (by omega) hG.1 (by rw [st29_0]; exact hq.1) (by rw [hTd]; omega) (by rw [es _ _ (by omega)]; omega) (by rw [es _ _ (by omega)]; omega) (by omega)
          rw [hTd] at w2 w3
          rw [bd_t w1]
          have p113b : P113 mb := ⟨hF1, by rw [hm113]; exact hv60⟩
          have p1132 := p_takes w1 p113b
          -- behind it
          have ownc : ∀ a j : Int, ¬ own3 a j → mset mb 68 118 (ew (x.2.1 k) % 1024) a j = mb a j := fun a j hh => if_neg fun g => hh ⟨g.1, by omega⟩
          have hRc : RC (mset mb 68 118 (ew (x.2.1 k) % 1024)) x G r ty ver rh rc := hR1.fr2 ownc
          have hTFc : TFW M (mset mb 68 118 (ew (x.2.1 k) % 1024)) := hTF1.ms (tow_own (by omega))
          have c117 : mset mb 68 118 (ew (x.2.1 k) % 1024) 68 117 = sg s 0 10 + 1 := by rw [ms_j (by decide)]; exact m117
          have c123 : mset mb 68 118 (ew (x.2.1 k) % 1024) 68 123 = sg s 0 10 + 1 := by rw [ms_j (by decide)]; exact m123
          have c126 : mset mb 68 118 (ew (x.2.1 k) % 1024) 68 126 = if sg s 0 13 < rh then sg s 0 13 else rh := by rw [ms_j (by decide)]; exact m126
          have f126 : m2 68 126 = mset mb 68 118 (ew (x.2.1 k) % 1024) 68 126 := by
            have := (fw_X12_takes hF1 w1).2.2.2.1 68 126 (by decide) (by have := hF1.1; omega) (by decide) (fun hh => by
              rcases hh with hh | ⟨w, q1, q2, q3⟩
              · exact absurd hh (by decide)
              · have key : (fW_X12_takes.all fun w => decide (w.1 = 0) && (decide (w.2.1 ≠ 68) || (decide (w.2.2 ≠ -9) && decide (w.2.2 ≠ 126)))) = true := by decide +kernel
                have := List.all_eq_true.mp key w q1
                simp only [Bool.and_eq_true, Bool.or_eq_true, decide_eq_true_eq] at this
                omega)
            rw [this, ms_j (by decide)]
          generalize mset mb 68 118 (ew (x.2.1 k) % 1024) = mc at *
          have hTr := w2.1.tf
          have n117 : ∀ q : Int, q = 117 ∨ q = 123 → ¬ mtb 68 q := fun q hq hh => by
            rcases hh with ⟨-, g⟩ | ⟨g, -⟩ <;> omega
          have d117 : m2 68 117 = sg s 0 10 + 1 := by rw [hTr 68 117 (n117 _ (by omega))]; exact c117
          have d123 : m2 68 123 = sg s 0 10 + 1 := by rw [hTr 68 123 (n117 _ (by omega))]; exact c123
          have hR2 : RC m2 x G r ty ver rh rc := hRc.to hTr
          have hTF2 : TFW M m2 := hTFc.tr (TFW.of hTr)
          have eS : ∀ q : Int, q ≠ 29 → sg (st (sTaken x k s) 0 29 v2) 0 q = sg (sTaken x k s) 0 q := fun q hq => by rw [st_g, if_neg (by omega)]
          have hr := A.1
          unfold fj_X12_tellsRun_222
          simp only [lx_p]
          rcases w2.1 with ⟨u30, uR⟩ | hst
          · rw [eS 30 (by decide)] at u30
            have e114' : m2 68 114 = 0 := by rw [uR.2.1.2.2.2.2.2.2.1, eS 30 (by decide)]; exact u30
            rw [e114', if_pos rfl, d117]
            -- TASKs
            have uR1 : RR mc m2 x (st (st (sTaken x k s) 0 29 v2) 0 10 (sg s 0 10 + 1)) rh E2 (sg (sTaken x k s) 0 40) := uR.s0 (by omega)
            have u12 := g1.1
            have hpass : sTake x k s = sPass x (x.1 0 - sg s 0 13 + 1).toNat (sg s 0 13) (st (sTaken x k s) 0 10 (sg s 0 10 + 1)) := by rw [take_d, g6, g4]
            have hcomm : sPass x (x.1 0 - sg s 0 13 + 1).toNat (sg s 0 13) (st (st (sTaken x k s) 0 29 v2) 0 10 (sg s 0 10 + 1)) = st (sTake x k s) 0 29 v2 := by
              rw [hpass, ← pass_st29, st_comm (a := 0) (i := 29) (b := 0) (j := 10) (Or.inr (by decide))]
            have hns : rh < x.1 0 → sg (sTake x k s) 0 30 = 0 := fun g => by
              have := hG.2.2.1 s hQB hg (by rw [hnk]; exact c1) g
              rw [hnk] at this
              exact this u30
            have hb13 := hBt.2.1
            have e30v : sg (st (sTake x k s) 0 29 v2) 0 30 = sg (sTake x k s) 0 30 := by rw [st_g, if_neg (by decide)]
            have e13v : sg (st (sTake x k s) 0 29 v2) 0 13 = sg (sTake x k s) 0 13 := by rw [st_g, if_neg (by decide)]
            have hgby : ∃ m3, fm_X12_goesBy (sg s 0 10 + 1) m2 = some (0, m3) ∧ RE mc m3 x (st (sTake x k s) 0 29 v2) rh E2 (sg (sTaken x k s) 0 40) ∧ (sg (sTake x k s) 0 30 = 0 → m3 68 126 = if sg (sTake x k s) 0 13 < rh then sg (sTake x k s) 0 13 else rh) := by
              by_cases c13 : sg s 0 13 < rh
              · rw [if_pos c13] at c126
                obtain ⟨m3, y1, y2, y3⟩ := gby_r hRc hr (x.1 0 - sg s 0 13 + 1).toNat BIG (sg s 0 13) (st (st (sTaken x k s) 0 29 v2) 0 10 (sg s 0 10 + 1)) m2 hBt.2.1.1 (by omega) (by omega) (Nat.le_of_lt (BIG_g (by omega))) uR1 (by rw [st_g, if_neg (by omega), eS 30 (by decide)]; exact u30) (by rw [st_g, if_neg (by omega), eS 12 (by decide)]; exact u12) (by rw [f126]; exact c126) (fun g => by rw [hcomm, st_g, if_neg (by omega)]; exact hns g)
                have e10 : sg (st (st (sTaken x k s) 0 29 v2) 0 10 (sg s 0 10 + 1)) 0 10 = sg s 0 10 + 1 := by rw [st_g, if_pos ⟨rfl, rfl⟩]
                rw [e10] at y1
                rw [hcomm] at y2 y3
                rw [e30v, e13v] at y3
                exact ⟨m3, y1, y2, y3⟩
              · rw [if_neg c13] at c126
                have e124 := hR2.2.2.2.2.2.2.1.1
                have hB0 : 0 < BIG := BIG_g (by omega)
                obtain ⟨fb, hfb⟩ : ∃ g, BIG = g + 1 := ⟨BIG - 1, by omega⟩
                have hok : sg (sTake x k s) 0 30 = 0 := by
                  by_cases g : rh < x.1 0
                  · exact hns g
                  · have hp : sTake x k s = st (st (sTaken x k s) 0 10 (sg s 0 10 + 1)) 0 13 (sg s 0 13) := by
                      rw [hpass]
                      obtain ⟨n0, hn0⟩ : ∃ g, (x.1 0 - sg s 0 13 + 1).toNat = g + 1 := ⟨(x.1 0 - sg s 0 13 + 1).toNat - 1, by omega⟩
                      rw [hn0]
                      unfold sPass
                      rw [if_neg (by omega)]
                    rw [hp, st_g, if_neg (by omega), st_g, if_neg (by omega)]
                    exact u30
                obtain ⟨j, j1, j2⟩ := pass_ok (x := x) (x.1 0 - sg s 0 13 + 1).toNat (sg s 0 13) (st (sTaken x k s) 0 10 (sg s 0 10 + 1)) hBt.2.1.2 (by omega) (by rw [← hpass]; exact hok)
                rw [← hpass] at j2
                refine ⟨m2, ?_, ?_, fun _ => ?_⟩
                · unfold fm_X12_goesBy
                  rw [hfb]
                  unfold fl_X12_goesBy_0
                  simp only [lx_p]
                  rw [f126, c126, e124, if_neg (by omega)]
                · rw [j2, st_comm (a := 0) (i := 13) (b := 0) (j := 29) (Or.inr (by decide)), st_comm (a := 0) (i := 10) (b := 0) (j := 29) (Or.inr (by decide))]
                  exact RE.s0 (Or.inl ⟨by rw [st_g, if_neg (by omega), eS 30 (by decide)]; exact u30, uR1⟩) (by omega)
                · have e13j : sg (sTake x k s) 0 13 = j := by rw [j2, st_g, if_pos ⟨rfl, rfl⟩]
                  rw [e13j, if_neg (by omega), f126, c126]
            obtain ⟨m3, y1, y2, y3⟩ := hgby
            rw [bd_t y1, w32_id (z := k + 1) (by omega) (by omega)]
            have hTr3 := y2.tf
            have p1133 : P113 m3 := p1132.fr (fw_X12_goesBy p1132.1 y1) (by decide +kernel)
            have d117' : m3 68 117 = sg s 0 10 + 1 := by rw [hTr3 68 117 (n117 _ (by omega))]; exact c117
            have d123' : m3 68 123 = sg s 0 10 + 1 := by rw [hTr3 68 123 (n117 _ (by omega))]; exact c123
            have hR3 : RC m3 x G r ty ver rh rc := hRc.to hTr3
            have hTF3 : TFW M m3 := hTFc.tr (TFW.of hTr3)
            have eT : ∀ q : Int, q ≠ 29 → sg (st (sTake x k s) 0 29 v2) 0 q = sg (sTake x k s) 0 q := fun q hq => by rw [st_g, if_neg (by omega)]
            rcases y2 with ⟨o30, oR⟩ | ⟨o1, o2, o3, o4, o5, o6⟩
            · rw [eT 30 (by decide)] at o30
              have oR' := oR.re (m' := m3) (fun _ _ _ => rfl)
              rw [← t7] at oR'
              by_cases hg2 : goes (sTake x k s) = true
              · -- on to the next one
                have hLn : TLP M m3 x G r ty ver rh rc (sTake x k s) QB := by
                  refine ⟨hTF3, p1133, ⟨v2, 12, Int.le_refl _, ?_⟩, hR3, ⟨by rw [t2]; exact d117', by rw [t2]; exact d123', y3 o30⟩, ?_, fun q1 q2 => ?_, hg2, hq.2⟩
                  · have hE2 := w3 (by
                      unfold goes at hg2 ⊢
                      have z9 : sg (sTake x k s) 0 9 = sg (sTaken x k s) 0 9 := by
                        rw [take_d, (pass_g ⟨by decide, by decide, by decide⟩ _ _ _).1, st_g, if_neg (by omega)]
                      rw [u30, ← z9]
                      rw [o30] at hg2
                      exact hg2)
                    have t5' := t1.1.2.2.2.2.2.2.2.1
                    exact oR'.eup (by rw [eT 5 (by decide)]; omega) (by rw [eT 5 (by decide)]; omega)
                  · rw [t2]
                    have : 1001 * (sg s 0 10 + 1) + 1 = 1001 * sg s 0 10 + 1 + 1001 := by omega
                    rw [this]
                    exact t1
                  · exact hG.2.2.2 _ hq.2 o30 q1 q2
                have := ih f (k + 1) (sTake x k s) m3 (by omega) (by omega) (by omega) (by omega) hLn (by omega) (by rw [t3]) n' (by rw [t2]; omega)
                rw [t2] at this
                exact this b1 b2 b3
              · -- the run is over
                rw [follow_stop hg2] at b1 b2 b3 ⊢
                have hov2 : sg (sTake x k s) 0 9 ≠ 0 := fun z => hg2 (by unfold goes; rw [o30, z]; rfl)
                have ho12 : sg (sTake x k s) 0 12 = sg (sTaken x k s) 0 12 := by
                  rw [take_d, (pass_g ⟨by decide, by decide, by decide⟩ _ _ _).1, st_g, if_neg (by omega)]
                have ho9 : sg (sTake x k s) 0 9 = sg (sTaken x k s) 0 9 := by
                  rw [take_d, (pass_g ⟨by decide, by decide, by decide⟩ _ _ _).1, st_g, if_neg (by omega)]
                have hVH : ∀ (S : TS) (B : Int), SW x S B → sg S 0 10 = sg s 0 10 → VH x rh S B := fun S B q1 q2 => ⟨q1, hcx.2.2, h4, hXI.2.2, by
                  rcases A.seen (s := S) (by rw [q2]; exact h10) with ⟨-, g⟩ | g <;> omega, hr.2⟩
                have hOV : OVI x (sTaken x k s) rh := by
                  have hb1 : SW x (st (st (st s 0 28 k) 0 11 (k + 1)) 0 29 0) (1001 * sg s 0 10 + 1) := ((hP.1.s0 (by decide) (by decide) (by decide) (by decide) (by decide) (Or.inl (by decide))).s0 (by decide) (by decide) (by decide) (by decide) (by decide) (Or.inl (by decide))).s29 (by decide) (by decide)
                  have eb : ∀ a j : Int, (a ≠ 0 ∨ (j ≠ 28 ∧ j ≠ 11 ∧ j ≠ 29)) → sg (st (st (st s 0 28 k) 0 11 (k + 1)) 0 29 0) a j = sg s a j := fun a j hh => by rw [st_g, if_neg (by omega), st_g, if_neg (by omega), st_g, if_neg (by omega)]
                  obtain ⟨ay, asig, ast, aw⟩ := hcx.2.1 k k0 c1 (by omega)
                  have hnok : NoteOk (st (st (st s 0 28 k) 0 11 (k + 1)) 0 29 0) (ek (x.2.1 k)) (ex (x.2.1 k)) (ey (x.2.1 k)) := by
                    refine ⟨⟨Int.natCast_nonneg _, ay⟩, fun z => ?_, fun z => ⟨Int.natCast_nonneg _, asig z⟩⟩
                    obtain ⟨z1, z2⟩ := ast z
                    exact ⟨Int.natCast_nonneg _, z1, by rw [eb _ _ (by omega), hBt.2.2.1 (by have := hBt.1.1; omega)]; decide⟩
                  have hPb : PI (st (st (st s 0 28 k) 0 11 (k + 1)) 0 29 0) := hP.2.1.of hP.1.2.2.2.2.2.1.1 fun a j hh => eb a j (by omega)
                  have hKb : WK x (st (st (st s 0 28 k) 0 11 (k + 1)) 0 29 0) := hP.2.2.1.same (fun a j hh => eb a j (by omega)) rfl
                  have hOb : OW (st (st (st s 0 28 k) 0 11 (k + 1)) 0 29 0) := hP.2.2.2.1.of fun a j hh => eb a j (by omega)
                  obtain ⟨n1, n2, n3, n4⟩ := note_all hcx.2.2 hb1 hPb hKb hOb hnok hx5
                  have b5 : 0 ≤ sg (st (st (st s 0 28 k) 0 11 (k + 1)) 0 29 0) 0 5 := by rw [eb _ _ (by omega)]; exact h5.1
                  have n10 : sg (sNote x (ek (x.2.1 k)) (ex (x.2.1 k)) (ey (x.2.1 k)) (st (st (st s 0 28 k) 0 11 (k + 1)) 0 29 0)) 0 10 = sg s 0 10 := (kp_note b5 (by unfold KQ; omega)).trans (eb _ _ (by omega))
                  have n28 : sg (sNote x (ek (x.2.1 k)) (ex (x.2.1 k)) (ey (x.2.1 k)) (st (st (st s 0 28 k) 0 11 (k + 1)) 0 29 0)) 0 28 = k := (kp_note b5 (by unfold KQ; omega)).trans (by rw [st_g, if_neg (by omega), st_g, if_neg (by omega), st_g, if_pos ⟨rfl, rfl⟩])
                  refine ov_on hcx.1 hN0.1 hx5 1000 _ _ (hVH _ _ n1 n10) (by unfold TkW; rw [n28]; exact ⟨k0, c1, aw⟩) ?_
                  exact ov_note hcx.2.2 (hVH _ _ hb1 (eb _ _ (by omega))) (by rw [eb _ _ (by omega)]; exact hov)
                have h126r : 0 ≤ m3 68 126 ∧ m3 68 126 ≤ rh := by
                  have := y3 o30
                  have z13 := t1.2.2.2.2.2.1
                  rw [this]
                  split <;> omega
                obtain ⟨m4, x1, x2, x3, x4, x5⟩ := over_loop (lim := lim) (s := sTake x k s) (H := sg (sTake x k s) 0 40) hC0 hr (n := (x.1 0 - k).toNat) f (k + 1) m3 (sg s 0 10 + 1) (by omega) (by omega) (by omega) ⟨v2, E2, oR'⟩ hR3 o30 hov2 (by rw [ho12]; exact u12) (by rw [ho12]; exact hOV (by rw [← ho9]; exact hov2) u30) h126r d123' p1133.1 (by omega) (by have := hBt.2.2.2.2; omega)
                exact ⟨m4, x1, hTF3.tr x2, x3, Or.inl ⟨o30, x4, by rw [t2]; exact x5⟩⟩
            · rw [eT 30 (by decide)] at o2
              rw [eT 31 (by decide)] at o4
              have hg2 : ¬ goes (sTake x k s) = true := not_goes (Or.inl (by omega))
              rw [follow_stop hg2]
              obtain ⟨f, rfl⟩ : ∃ g, f = g + 1 := ⟨f - 1, by omega⟩
              exact ⟨m3, loop_stuck (by omega) hR.1.2, hTF3, p1133.1, Or.inr ⟨o2, o3, o4⟩⟩
          · obtain ⟨o1, o2, o3, o4, o5, o6⟩ := hst
            rw [eS 30 (by decide)] at o2
            rw [eS 31 (by decide)] at o4
            rw [o3, if_neg (by decide), w32_id (z := k + 1) (by omega) (by omega)]
            have hpass : sTake x k s = st (st (sTaken x k s) 0 10 (sg s 0 10 + 1)) 0 13 (sg s 0 13) := by
              rw [take_d, g6, g4]
              exact pass_stuck (by rw [st_g, if_neg (by omega), o2]; decide) (by have := hBt.2.1; omega)
            have q30 : sg (sTake x k s) 0 30 = 1 := by rw [hpass, st_g, if_neg (by omega), st_g, if_neg (by omega)]; exact o2
            have q31 : sg (sTake x k s) 0 31 = sg (sTaken x k s) 0 31 := by rw [hpass, st_g, if_neg (by omega), st_g, if_neg (by omega)]
            have hg2 : ¬ goes (sTake x k s) = true := not_goes (Or.inl (by omega))
            rw [follow_stop hg2]
            obtain ⟨f, rfl⟩ : ∃ g, f = g + 1 := ⟨f - 1, by omega⟩
            exact ⟨m2, loop_stuck (by omega) hR.1.2, hTF2, p1132.1, Or.inr ⟨q30, o3, by rw [q31]; exact o4⟩⟩
      · rw [if_neg c2]
        have hfo : sFollow x lim n' (sg s 0 10) s = s := by
          cases n' with
          | zero => rfl
          | succ n' =>
            show (if sg s 0 10 < lim then (if goes s = true then (if na x (sg s 0 11) < x.1 0 then sFollow x lim n' (sg s 0 10 + 1) (sTake x (na x (sg s 0 11)) s) else st s 0 28 (na x (sg s 0 11))) else s) else s) = _
            rw [if_neg c2]
        rw [hfo]
        exact ⟨m, rfl, hL0.fin⟩
    · rw [if_neg c1]
      refine ⟨m, rfl, ?_⟩
      cases n' with
      | zero => exact hL0.fin
      | succ n' =>
        show FIN M m x (if sg s 0 10 < lim then (if goes s = true then (if na x (sg s 0 11) < x.1 0 then sFollow x lim n' (sg s 0 10 + 1) (sTake x (na x (sg s 0 11)) s) else st s 0 28 (na x (sg s 0 11))) else s) else s) rh
        split
        · rw [hna, na_end (by omega), if_neg c1]
          exact hL0.fin.s28
        · exact hL0.fin
end RF28
