/-! THE REFERENCE'S ENGINE: closing a run: the loop over its frames. -/
section RXK2
variable {m m' M : MM} {e e' e2 : ES} {a b c i j k o r v w p t s x y n ev due q A B st res tel dep d : Int} {l : List Int}
def ClS (tel res : Int) (P : Nat) : Prop := ∀ (n K g : Nat) (r d i : Int) (m : MM) (e : ES), RXE m e → CN e → RLw e → TyO e → PaR e → 0 ≤ r → r < e.1 7 2 → e.1 (7000 + r) 6 ≠ 0 → 0 ≤ d → opn e + d ≤ 30 → opn e ≤ P → 40 - d ≤ K → m 160 d = r → 0 ≤ i → e.1 7 2 < i + n → 0 < n → n ≤ g → n ≤ 31 → i ≤ 1000 → RFw (pDealL (fun i d e => pClose K i 5 0 d e) r d n i e) → ∃ (c : Nat) (m' : MM), (c : Int) + 64 * opn (pDealL (fun i d e => pClose K i 5 0 d e) r d n i e) ≤ 64 * opn e + n ∧ (∀ f, c ≤ f → fl_X12_closes_45 tel res d r m (xKont f tel res d r m) g i = xPop (f - c) tel res d r m') ∧ RXE m' (pDealL (fun i d e => pClose K i 5 0 d e) r d n i e) ∧ SC2 m m' ∧ (∀ j, j < d → m' 160 j = m 160 j ∧ m' 161 j = m 161 j) ∧ m' 160 d = r
theorem opn_st (hc : CN e) (k0 : 0 ≤ k) (k1 : k < e.1 7 2) (h0 : e.1 (7000 + k) 6 = 0) (hv : v ≠ 0) : opn (eS e (7000 + k) 6 v) + 1 ≤ opn e := by
  have n7 := hc.1
  refine sm_lt k0 (by omega) (fun i i0 i1 => ?_) ?_
  · show (if i < (eS e (7000 + k) 6 v).1 7 2 ∧ (eS e (7000 + k) 6 v).1 (7000 + i) 6 = 0 then 1 else 0) ≤ if i < e.1 7 2 ∧ e.1 (7000 + i) 6 = 0 then (1 : Int) else 0
    rw [eS_a (b := 7) (by omega)]
    by_cases c : i = k
    · rw [c, eS_e, if_neg (fun hh => hv hh.2)]
      split <;> decide
    · rw [eS_a (by omega)]
      exact Int.le_refl _
  · show (if k < (eS e (7000 + k) 6 v).1 7 2 ∧ (eS e (7000 + k) 6 v).1 (7000 + k) 6 = 0 then 1 else 0) < if k < e.1 7 2 ∧ e.1 (7000 + k) 6 = 0 then (1 : Int) else 0
    rw [eS_e, if_neg (fun hh => hv hh.2), if_pos ⟨k1, h0⟩]
    decide
theorem cs_dl {K : Nat} (hc : CN e) (n : Nat) (i0 : 0 ≤ i) : CS e (pDealL (fun i d e => pClose K i 5 0 d e) r d n i e) := cs_deal (fun i d e i0 i1 hc h0 => cs_close K i 5 0 d e i0 i1 hc h0) n i e i0 hc
theorem closeS {P : Nat} (IH : ∀ Q : Nat, Q < P → ClS tel res Q) : ClS tel res P := by
  intro n
  induction n with
  | zero =>
    intro K g r d i m e h hc hl hT hP r0 r1 hs d0 hd hp hK hm i0 i1 hn
    omega
  | succ n ih =>
    intro K g r d i m e h hc hl hT hP r0 r1 hs d0 hd hp hK hm i0 i1 hn hg h31 hi hf
    obtain ⟨g, rfl⟩ : ∃ u, g = u + 1 := ⟨g - 1, by omega⟩
    have n7 := hc.1
    have hop := opn_b hc
    have e12 : m 68 12 = e.1 7 2 := h.ps.2.1
    -- the end: all have been looked at
    have stop : ∀ i : Int, 0 ≤ i → i ≤ 1000 → e.1 7 2 ≤ i → ∀ f, xKont f tel res d r m i = xPop (f - 0) tel res d r (mset m 161 d (i + 1)) := fun i q0 q1 q2 f => by
      unfold xKont
      rw [w32_id (by omega) (by omega), up_t, lx_p, ms_a (by decide), e12, if_neg (by omega)]
      rfl
    by_cases c1 : i < e.1 7 2
    · -- one more run
      obtain ⟨⟨a1, a2, a3, a4, a5, a6⟩, -⟩ := h.pr.1 i i0 c1
      have pt1 := hP i i0 c1
      have ty1 := hT i i0 c1
      have hu : pDealL (fun i d e => pClose K i 5 0 d e) r d (n + 1) i e = pDealL (fun i d e => pClose K i 5 0 d e) r d n (i + 1) (if e.1 (7000 + i) 4 = r ∧ e.1 (7000 + i) 6 = 0 then (if e.1 (48 + 4 * e.1 (7000 + i) 1) 2 = 1 then (pCan i e).2 else if e.1 (48 + 4 * e.1 (7000 + i) 1) 2 = 2 ∧ d < 40 then pClose K i 5 0 (d + 1) e else e) else e) := by
        conv => lhs; unfold pDealL
        rw [if_pos c1]
      rw [hu] at hf ⊢
      have hn1 : 0 < n := by
        by_cases z : n = 0
        · omega
        · omega
      have u45 : ∀ kk, fl_X12_closes_45 tel res d r m kk (g + 1) i = if e.1 (7000 + i) 4 = r then (if e.1 (7000 + i) 6 = 0 then kk i else fl_X12_closes_45 tel res d r m kk g (i + 1)) else fl_X12_closes_45 tel res d r m kk g (i + 1) := fun kk => by
        conv => lhs; unfold fl_X12_closes_45
        rw [lx_p, e12, if_pos c1, gd_t (by omega), lx_p, a5, lx_p, a4, lx_p, w32_id (by omega) (by omega)]
      -- not one that is dealt with
      have skip : ¬ (e.1 (7000 + i) 4 = r ∧ e.1 (7000 + i) 6 = 0) → ∃ (c : Nat) (m' : MM), (c : Int) + 64 * opn (pDealL (fun i d e => pClose K i 5 0 d e) r d n (i + 1) e) ≤ 64 * opn e + (n + 1 : Nat) ∧ (∀ f, c ≤ f → fl_X12_closes_45 tel res d r m (xKont f tel res d r m) g (i + 1) = xPop (f - c) tel res d r m') ∧ RXE m' (pDealL (fun i d e => pClose K i 5 0 d e) r d n (i + 1) e) ∧ SC2 m m' ∧ (∀ j, j < d → m' 160 j = m 160 j ∧ m' 161 j = m 161 j) ∧ m' 160 d = r := fun hh => by
        rw [if_neg hh] at hf
        obtain ⟨c, m', g1, g2⟩ := ih K g r d (i + 1) m e h hc hl hT hP r0 r1 hs d0 hd hp hK hm (by omega) (by omega) hn1 (by omega) (by omega) (by omega) hf
        exact ⟨c, m', by omega, g2⟩
      by_cases c2 : e.1 (7000 + i) 4 = r
      · by_cases c3 : e.1 (7000 + i) 6 = 0
        · rw [if_pos (show e.1 (7000 + i) 4 = r ∧ e.1 (7000 + i) 6 = 0 from ⟨c2, c3⟩)] at hf ⊢
          have o1 : 1 ≤ opn e := by
            have := opn_st (v := 5) hc i0 c1 c3 (by decide)
            have := opn_b (cn_eS (a := 7000 + i) (j := 6) (v := 5) hc (by omega))
            omega
          have h1 : RXE (mset m 161 d (i + 1)) e := h.stk hc (Or.inr rfl)
          obtain ⟨m1, hm1⟩ : ∃ m1, m1 = mset m 161 d (i + 1) := ⟨_, rfl⟩
          rw [← hm1] at h1
          have k80 : m1 80 i = e.1 (7000 + i) 1 := (h1.pr.1 i i0 c1).1.1
          have k79 : m1 79 (e.1 (7000 + i) 1) = e.1 (48 + 4 * e.1 (7000 + i) 1) 2 := (h1.pt _ ty1.1.1 ty1.1.2).2.1
          have b160 : m1 160 d = r := by rw [hm1, ms_a (by decide)]; exact hm
          have b161 : m1 161 d = i + 1 := by rw [hm1]; exact ms_e
          have bj : ∀ j, j < d → m1 160 j = m 160 j ∧ m1 161 j = m 161 j := fun j hj => by rw [hm1, ms_a (by decide), ms_j (by omega)]; exact ⟨rfl, rfl⟩
          have s1 : SC2 m m1 := by rw [hm1]; exact SC2.ms (Or.inr rfl)
          have kk : ∀ f, xKont f tel res d r m i = if e.1 (48 + 4 * e.1 (7000 + i) 1) 2 = 1 then bd (fm_X12_cancels i m1) fun x_270 m_271 => fl_X12_closes_22 tel res f d m_271 else if e.1 (48 + 4 * e.1 (7000 + i) 1) 2 = 2 then up m1 83 i 5 fun m_215 => bd (fm_X12_stops i m_215) fun x_223 m_224 => lx (w32 (d + 1)) fun x_239 => gd (0 ≤ x_239 ∧ x_239 < 31) <| up m_224 160 x_239 i fun m_250 => up m_250 161 x_239 0 fun m_262 => fl_X12_closes_22 tel res f x_239 m_262 else fl_X12_closes_22 tel res f d m1 := fun f => by
            have e12' : m1 68 12 = e.1 7 2 := h1.ps.2.1
            unfold xKont
            rw [w32_id (by omega) (by omega), up_t, ← hm1, lx_p, e12', if_pos c1, gd_t (by omega), lx_p, k80, gd_t ty1.1, lx_p, k79]
          -- on from a state that stands at i + 1
          have on : ∀ (m2 : MM) (e1 : ES), RXE m2 e1 → CS e e1 → SC2 m1 m2 → m2 160 d = r → m2 161 d = i + 1 → (∀ j, j < d → m2 160 j = m1 160 j ∧ m2 161 j = m1 161 j) → RFw (pDealL (fun i d e => pClose K i 5 0 d e) r d n (i + 1) e1) → ∃ (c : Nat) (m' : MM), (c : Int) + 64 * opn (pDealL (fun i d e => pClose K i 5 0 d e) r d n (i + 1) e1) ≤ 64 * opn e1 + n ∧ (∀ f, c ≤ f → fl_X12_closes_22 tel res (f + 1) d m2 = xPop (f - c) tel res d r m') ∧ RXE m' (pDealL (fun i d e => pClose K i 5 0 d e) r d n (i + 1) e1) ∧ SC2 m m' ∧ (∀ j, j < d → m' 160 j = m 160 j ∧ m' 161 j = m 161 j) ∧ m' 160 d = r := fun m2 e1 q1 q2 q3 q4 q5 q6 q7 => by
            have e7 := q2.2.1.1
            have hop1 := q2.op
            obtain ⟨c, m', g1, g2, g3, g4, g5, g6⟩ := ih K BIG r d (i + 1) m2 e1 q1 q2.1.2 (q2.1.1.2.2 hl) (q2.ty hT) (q2.pr hP) r0 (by omega) (by rw [(q2.2.2 r r0 r1).1 hs]; exact hs) d0 (by omega) (by omega) hK q4 (by omega) (by omega) hn1 (Nat.le_of_lt (BIG_g (by omega))) (by omega) (by omega) q7
            refine ⟨c, m', g1, fun f hf => ?_, g3, (s1.tr q3).tr g4, fun j hj => ?_, g6⟩
            · rw [L22 d0 (by omega), q4, q5]
              exact g2 f hf
            · obtain ⟨u1, u2⟩ := g5 j hj
              obtain ⟨u3, u4⟩ := q6 j hj
              obtain ⟨u5, u6⟩ := bj j hj
              exact ⟨by rw [u1, u3, u5], by rw [u2, u4, u6]⟩
          by_cases c4 : e.1 (48 + 4 * e.1 (7000 + i) 1) 2 = 1
          · -- it is cancelled
            rw [if_pos c4] at hf ⊢
            have cs1 := cs_can hc i0 c1
            have cs2 := cs_dl (r := r) (d := d) (K := K) cs1.1.2 n (show 0 ≤ i + 1 by omega)
            obtain ⟨m2, g1, g2, g3⟩ := h1.can hc hl (hf.bk cs2.1.1) i0 c1 (fun hh => hh.1 c3)
            obtain ⟨c, m', q1, q2, q3, q4, q5, q6⟩ := on m2 _ g2 cs1 g3.s2 (by rw [g3.1 _ _ (by decide) (by omega)]; exact b160) (by rw [g3.1 _ _ (by decide) (by omega)]; exact b161) (fun j hj => ⟨g3.1 _ _ (by decide) (by omega), g3.1 _ _ (by decide) (by omega)⟩) hf
            refine ⟨c + 1, m', by have := cs1.op; omega, fun f hf => ?_, q3, q4, q5, q6⟩
            obtain ⟨f, rfl⟩ : ∃ u, f = u + 1 := ⟨f - 1, by omega⟩
            rw [u45, if_pos c2, if_pos c3, kk, if_pos c4, bd_t g1, q2 f (by omega), show f + 1 - (c + 1) = f - c by omega]
          · rw [if_neg c4] at hf ⊢
            by_cases c5 : e.1 (48 + 4 * e.1 (7000 + i) 1) 2 = 2
            · -- it is stopped: another frame
              have d30 : d < 30 := by omega
              rw [if_pos ⟨c5, by omega⟩] at hf ⊢
              obtain ⟨K, rfl⟩ : ∃ u, K = u + 1 := ⟨K - 1, by omega⟩
              have cs0 : CS e (pClose (K + 1) i 5 0 (d + 1) e) := cs_close (K + 1) i 5 0 (d + 1) e i0 c1 hc c3
              have csN := cs_dl (r := r) (d := d) (K := K + 1) cs0.1.2 n (show 0 ≤ i + 1 by omega)
              have hf0 := hf.bk csN.1.1
              have eC : pClose (K + 1) i 5 0 (d + 1) e = pUp i 5 0 (pDealL (fun i d e => pClose K i 5 0 d e) i (d + 1) 31 0 (pEnd i (eS e (7000 + i) 6 5))) := rfl
              have cA := cs_st (v := 5) hc i0 c1 c3
              have cB := cA.tr (cs_end (r := i) cA.1.2)
              have cC := cs_dl (r := i) (d := d + 1) (K := K) cB.1.2 31 (show (0 : Int) ≤ 0 by decide)
              have cD := cs_up (r := i) (st := 5) (res := 0) cC.1.2
              rw [eC] at hf0
              -- its state, its work
              have h2 := h1.rs (A := 83) (j := 6) (v := 5) hc i0 c1 (by omega)
              have e7a : (eS e (7000 + i) 6 5).1 7 2 = e.1 7 2 := cA.2.1.1
              obtain ⟨m3, g1, g2, g3⟩ := h2.endw (r := i) cA.1.2 i0 (by omega)
              have w160 : ∀ j, m3 160 j = m1 160 j := fun j => by rw [g3.1 _ _ (by decide) (by omega)]; exact ms_a (by decide)
              have w161 : ∀ j, m3 161 j = m1 161 j := fun j => by rw [g3.1 _ _ (by decide) (by omega)]; exact ms_a (by decide)
              have h4 : RXE (mset (mset m3 160 (d + 1) i) 161 (d + 1) 0) (pEnd i (eS e (7000 + i) 6 5)) := (g2.stk cB.1.2 (Or.inl rfl)).stk cB.1.2 (Or.inr rfl)
              have opB : opn (pEnd i (eS e (7000 + i) 6 5)) + 1 ≤ opn e := by
                have := opn_st (v := 5) hc i0 c1 c3 (by decide)
                have := (cs_end (r := i) cA.1.2).op
                omega
              have e7b : (pEnd i (eS e (7000 + i) 6 5)).1 7 2 = e.1 7 2 := cB.2.1.1
              have sB : (pEnd i (eS e (7000 + i) 6 5)).1 (7000 + i) 6 = 5 := by rw [end_a (by omega)]; exact eS_e
              obtain ⟨ca, m5, u1, u2, u3, u4, u5, u6⟩ := IH (P - 1) (by omega) 31 K BIG i (d + 1) 0 _ _ h4 cB.1.2 (cB.1.1.2.2 hl) (cB.ty hT) (cB.pr hP) i0 (by omega) (by rw [sB]; decide) (by omega) (by omega) (by omega) (by omega) (by rw [ms_a (by decide)]; exact ms_e) (by decide) (by omega) (by decide) (Nat.le_of_lt (BIG_g (by decide))) (by decide) (by decide) (hf0.bk cD.1.1)
              -- its parent is told
              have e7c : (pDealL (fun i d e => pClose K i 5 0 d e) i (d + 1) 31 0 (pEnd i (eS e (7000 + i) 6 5))).1 7 2 = e.1 7 2 := by rw [cC.2.1.1, e7b]
              have sC : (pDealL (fun i d e => pClose K i 5 0 d e) i (d + 1) 31 0 (pEnd i (eS e (7000 + i) 6 5))).1 (7000 + i) 6 = 5 := by rw [(cC.2.2 i i0 (by omega)).1 (by rw [sB]; decide), sB]
              have cBC := cB.tr cC
              obtain ⟨m6, v1, v2, v3⟩ := u3.up (r := i) (st := 5) (res := res) cC.1.2 (cBC.1.1.2.2 hl) (by
                have : pUp i 5 res (pDealL (fun i d e => pClose K i 5 0 d e) i (d + 1) 31 0 (pEnd i (eS e (7000 + i) 6 5))) = pUp i 5 0 (pDealL (fun i d e => pClose K i 5 0 d e) i (d + 1) 31 0 (pEnd i (eS e (7000 + i) 6 5))) := rfl
                rw [this]
                exact hf0) (cBC.ty hT) (cBC.pr hP) i0 (by omega) (by rw [sC]) (fun hh => absurd hh (by decide))
              have v2' : RXE m6 (pClose (K + 1) i 5 0 (d + 1) e) := v2
              obtain ⟨cb, m', q1, q2, q3, q4, q5, q6⟩ := on m6 _ v2' cs0 ((((SCR.ms (by decide) (by decide) (by decide) (by omega)).tr g3).s2.tr ((SC2.ms (Or.inl rfl)).tr (SC2.ms (Or.inr rfl)))).tr (u4.tr v3.s2)) (by rw [v3.1 _ _ (by decide) (by omega), (u5 d (by omega)).1, ms_a (by decide), ms_j (by omega), w160]; exact b160) (by rw [v3.1 _ _ (by decide) (by omega), (u5 d (by omega)).2, ms_j (by omega), ms_a (by decide), w161]; exact b161) (fun j hj => ⟨by rw [v3.1 _ _ (by decide) (by omega), (u5 j (by omega)).1, ms_a (by decide), ms_j (by omega), w160], by rw [v3.1 _ _ (by decide) (by omega), (u5 j (by omega)).2, ms_j (by omega), ms_a (by decide), w161]⟩) hf
              refine ⟨ca + cb + 2, m', ?_, fun f hf => ?_, q3, q4, q5, q6⟩
              · have o5 : opn (pClose (K + 1) i 5 0 (d + 1) e) ≤ opn (pDealL (fun i d e => pClose K i 5 0 d e) i (d + 1) 31 0 (pEnd i (eS e (7000 + i) 6 5))) := cD.op
                omega
              · obtain ⟨f, rfl⟩ : ∃ u, f = u + 1 := ⟨f - 1, by omega⟩
                rw [u45, if_pos c2, if_pos c3, kk, if_neg c4, if_pos c5, up_t, bd_t g1, lx_p, w32_id (by omega) (by omega), gd_t (by omega), up_t, up_t, L22 (by omega) (by omega), ms_a (b := 160) (by decide), ms_e, ms_e, u2 f (by omega)]
                unfold xPop
                rw [if_pos (show 0 < d + 1 by omega)]
                unfold fj_X12_closes_111
                rw [bd_t v1, lx_p, w32_id (by omega) (by omega), show d + 1 + -1 = d by omega]
                obtain ⟨f2, hf2⟩ : ∃ u, f - ca = u + 1 := ⟨f - ca - 1, by omega⟩
                rw [hf2, q2 f2 (by omega), show f + 1 - (ca + cb + 2) = f2 - cb by omega]
                rfl
            · rw [if_neg (fun hh => c5 hh.1)] at hf ⊢
              obtain ⟨c, m', q1, q2, q3, q4, q5, q6⟩ := on m1 e h1 (CS.rf hc) SC2.rf b160 b161 (fun j hj => ⟨rfl, rfl⟩) hf
              refine ⟨c + 1, m', by omega, fun f hf => ?_, q3, q4, q5, q6⟩
              obtain ⟨f, rfl⟩ : ∃ u, f = u + 1 := ⟨f - 1, by omega⟩
              rw [u45, if_pos c2, if_pos c3, kk, if_neg c4, if_neg c5, q2 f (by omega), show f + 1 - (c + 1) = f - c by omega]
        · rw [if_neg (show ¬ (e.1 (7000 + i) 4 = r ∧ e.1 (7000 + i) 6 = 0) from fun hh => c3 hh.2)]
          obtain ⟨c, m', g1, g2, g3⟩ := skip fun hh => c3 hh.2
          exact ⟨c, m', g1, fun f hf => by rw [u45, if_pos c2, if_neg c3]; exact g2 f hf, g3⟩
      · rw [if_neg (show ¬ (e.1 (7000 + i) 4 = r ∧ e.1 (7000 + i) 6 = 0) from fun hh => c2 hh.1)]
        obtain ⟨c, m', g1, g2, g3⟩ := skip fun hh => c2 hh.1
        exact ⟨c, m', g1, fun f hf => by rw [u45, if_neg c2]; exact g2 f hf, g3⟩
    · have hu : pDealL (fun i d e => pClose K i 5 0 d e) r d (n + 1) i e = e := by
        conv => lhs; unfold pDealL
        rw [if_neg c1]
      rw [hu]
      refine ⟨0, mset m 161 d (i + 1), by omega, fun f _ => ?_, h.stk hc (Or.inr rfl), SC2.ms (Or.inr rfl), fun j hj => ⟨ms_a (by decide), ms_j (by omega)⟩, by rw [ms_a (by decide)]; exact hm⟩
      unfold fl_X12_closes_45
      rw [lx_p, e12, if_neg c1]
      exact stop i i0 hi (by omega) f
theorem closeL : ∀ P : Nat, ClS tel res P := fun P => Nat.strongRecOn P fun _ IH => closeS IH
/-- closing, all of it: the state has been set -/
theorem RXE.dealt {K : Nat} (h : RXE m e) (hc : CN e) (hl : RLw e) (hT : TyO e) (hP : PaR e) (r0 : 0 ≤ r) (r1 : r < e.1 7 2) (hs : e.1 (7000 + r) 6 ≠ 0) (hK : 40 ≤ K) (hf : RFw (pDealL (fun i d e => pClose K i 5 0 d e) r 0 31 0 (pEnd r e))) : ∃ (f : Nat) (m' : MM), fm_X12_closes r tel res m = xPop f tel res 0 r m' ∧ 1 ≤ f ∧ RXE m' (pDealL (fun i d e => pClose K i 5 0 d e) r 0 31 0 (pEnd r e)) ∧ SC2 m m' := by
  have h1 : RXE (mset (mset m 160 0 r) 161 0 0) e := (h.stk hc (Or.inl rfl)).stk hc (Or.inr rfl)
  obtain ⟨m2, g1, g2, g3⟩ := h1.endw hc r0 r1
  have c1 := cs_end (r := r) hc
  have n7 := hc.1
  have hop := opn_b c1.1.2
  obtain ⟨c, m', q1, q2, q3, q4, q5, q6⟩ := closeL (tel := tel) (res := res) 30 31 K BIG r 0 0 m2 _ g2 c1.1.2 (c1.1.1.2.2 hl) (c1.ty hT) (c1.pr hP) r0 (by rw [c1.2.1.1]; exact r1) (by rw [(c1.2.2 r r0 r1).1 hs]; exact hs) (by decide) (by omega) (by omega) (by omega) (by rw [g3.1 _ _ (by decide) (by omega), ms_a (by decide)]; exact ms_e) (by decide) (by rw [c1.2.1.1]; omega) (by decide) (Nat.le_of_lt (BIG_g (by decide))) (by decide) (by decide) hf
  have hop2 := opn_b (cs_dl (r := r) (d := 0) (K := K) c1.1.2 31 (show (0 : Int) ≤ 0 by decide)).1.2
  obtain ⟨N, hN⟩ := BIG_s
  have hN1 : N = 999999999 := by
    have : BIG = 1000000000 := rfl
    omega
  refine ⟨N - c, m', ?_, by omega, q3, ((SC2.ms (Or.inl rfl)).tr (SC2.ms (Or.inr rfl))).tr (g3.s2.tr q4)⟩
  unfold fm_X12_closes
  rw [up_t, up_t, bd_t g1, hN, L22 (by decide) (by decide), g3.1 160 _ (by decide) (by omega), g3.1 161 _ (by decide) (by omega), ms_a (b := 160) (by decide), ms_e, ms_e]
  exact q2 N (by omega)
/-- a run is closed, its parent is told -/
theorem RXE.close (h : RXE m e) (hc : CN e) (hl : RLw e) (hT : TyO e) (hP : PaR e) (r0 : 0 ≤ r) (r1 : r < e.1 7 2) (h0 : e.1 (7000 + r) 6 = 0) (hst : st ≠ 0 ∧ st ≠ 6) (hres : 0 ≤ res ∧ res < 1000) (hf : RFw (pClose 41 r st res 0 e)) : ∃ m', fm_X12_closes r 1 res (mset m 83 r st) = some (0, m') ∧ RXE m' (pClose 41 r st res 0 e) ∧ SC2 m m' := by
  have n7 := hc.1
  have eC : pClose 41 r st res 0 e = pUp r st res (pDealL (fun i d e => pClose 40 i 5 0 d e) r 0 31 0 (pEnd r (eS e (7000 + r) 6 st))) := rfl
  rw [eC] at hf ⊢
  have cA := cs_st (v := st) hc r0 r1 h0
  have cB := cA.tr (cs_end (r := r) cA.1.2)
  have cC := cs_dl (r := r) (d := 0) (K := 40) cB.1.2 31 (show (0 : Int) ≤ 0 by decide)
  have cD := cs_up (r := r) (st := st) (res := res) cC.1.2
  have h1 := h.rs (A := 83) (j := 6) (v := st) hc r0 r1 (by omega)
  have sA : (eS e (7000 + r) 6 st).1 (7000 + r) 6 = st := eS_e
  obtain ⟨f, m1, g1, g2, g3, g4⟩ := h1.dealt (tel := 1) (res := res) (K := 40) cA.1.2 (cA.1.1.2.2 hl) (cA.ty hT) (cA.pr hP) r0 (by rw [cA.2.1.1]; exact r1) (by rw [sA]; exact hst.1) (Nat.le_refl _) (hf.bk cD.1.1)
  have sB : (pEnd r (eS e (7000 + r) 6 st)).1 (7000 + r) 6 = st := by rw [end_a (by omega)]; exact sA
  have e7b : (pEnd r (eS e (7000 + r) 6 st)).1 7 2 = e.1 7 2 := cB.2.1.1
  have cBC := cB.tr cC
  have sC : (pDealL (fun i d e => pClose 40 i 5 0 d e) r 0 31 0 (pEnd r (eS e (7000 + r) 6 st))).1 (7000 + r) 6 = st := by rw [(cC.2.2 r r0 (by omega)).1 (by rw [sB]; exact hst.1), sB]
  obtain ⟨m2, v1, v2, v3⟩ := g3.up (r := r) (st := st) (res := res) cC.1.2 (cBC.1.1.2.2 hl) hf (cBC.ty hT) (cBC.pr hP) r0 (by rw [cBC.2.1.1]; exact r1) (by rw [sC]) (fun _ => hres)
  obtain ⟨f, rfl⟩ : ∃ u, f = u + 1 := ⟨f - 1, by omega⟩
  refine ⟨m2, ?_, v2, (SCR.ms (by decide) (by decide) (by decide) (by omega)).s2.tr (g4.tr v3.s2)⟩
  rw [g1]
  unfold xPop
  rw [if_neg (show ¬ (0 : Int) < 0 by decide), if_neg (show ¬ (1 : Int) = 0 by decide)]
  unfold fj_X12_closes_111
  rw [bd_t v1, lx_p, show w32 (0 + (-1)) = -1 from w32_id (by decide) (by decide)]
  unfold fl_X12_closes_22
  rw [if_pos (by decide)]
end RXK2
