/-! THE REFERENCE'S ENGINE: a run goes on as new; a command is carried out. -/
section RXK4
variable {m m' M : MM} {e e' e2 : ES} {a b c i j k o r v w p t s x y n ev due q A B st res tel dep d to nm fr N : Int} {l : List Int} {S : TS}
/-- signals that were not taken are sent on -/
theorem sndL (r0 : 0 ≤ r) (t0 : 0 ≤ to) (hrt : r ≠ to) {K : MM → Option (Int × MM)} {E : Int → Ev} : ∀ (n f : Nat) (i : Int) (m : MM) (e : ES), RXE m e → CN e → RLw e → eH e r = E → hN e r = N → m 68 123 = cA E fr.toNat → RFw (pSndL to r N n i e) → r < e.1 7 2 → to < e.1 7 2 → ¬ Dead e to → 0 ≤ fr → fr ≤ i → i ≤ N → N - i < n → n ≤ f → N < 524288 → ∃ m', fl_X12_goesOnAsNew_145 r to K f (cA E i.toNat) i m = K m' ∧ RXE m' (pSndL to r N n i e) ∧ SCR m m' := by
  intro n
  induction n with
  | zero => intro f i m e h hc hl hE hN1 hm hf r1 t1 hd f0 fi i1 h1; omega
  | succ n ih =>
    intro f i m e h hc hl hE hN1 hm hf r1 t1 hd f0 fi i1 h1 h2 hb
    obtain ⟨f, rfl⟩ : ∃ g, f = g + 1 := ⟨f - 1, by omega⟩
    have n7 := hc.1
    have k86 := (h.pr.1 r r0 r1).2.1.1
    unfold fl_X12_goesOnAsNew_145
    unfold pSndL at hf ⊢
    rw [gd_t (by omega), lx_p, k86, hN1]
    by_cases c1 : i < N
    · rw [if_pos c1] at hf
      have kk := h.kd r0 r1 (show 0 ≤ i by omega) (by omega)
      have e1 : (i + 1).toNat = i.toNat + 1 := by omega
      have ei : ((i.toNat : Nat) : Int) = i := by omega
      have bA := cA_b (E := E) (i + 1).toNat
      have bA0 := cA_b (E := E) i.toNat
      have bm := cA_m (E := E) fr.toNat i.toNat (by omega)
      have hs : cA E (i + 1).toNat = if ek (E i) ≤ 7 then cA E i.toNat + 1 else cA E i.toNat := by rw [e1, cA_s, ei]
      rw [hE] at kk hf ⊢
      rw [if_pos c1, if_pos c1, bp_t kk]
      have h179 : ∀ z : Int, cA E i.toNat + z = cA E (i + 1).toNat → ∃ m', fj_X12_goesOnAsNew_179 (fl_X12_goesOnAsNew_145 r to K f) K r to i (ek (E i)) z (cA E i.toNat) m = K m' ∧ RXE m' (pSndL to r N n (i + 1) (if ek (E i) = 4 then pArr to 4 (ex (E i)) (ey (E i)) e else e)) ∧ SCR m m' := fun z hz => by
        unfold fj_X12_goesOnAsNew_179
        rw [lx_p, hz, w32_id (z := cA E (i + 1).toNat) (by omega) (by omega)]
        by_cases c2 : ek (E i) = 4
        · rw [if_pos c2] at hf
          have c3 : cA E fr.toNat < cA E (i + 1).toNat := by rw [hs, if_pos (by omega)]; omega
          have kx := h.xx r0 r1 (show 0 ≤ i by omega) (by omega)
          have ky := h.yy r0 r1 (show 0 ≤ i by omega) (by omega)
          have kb := h.kb r0 r1 (show 0 ≤ i by omega) (by omega)
          rw [hE] at kx ky kb
          have e7 : (pArr to 4 (ex (E i)) (ey (E i)) e).1 7 2 = e.1 7 2 := arr_a (by decide) (by decide) (by omega) (by omega) (by decide)
          obtain ⟨q1, q2, q3⟩ := mr_snd (q := r) (s := N) n (i + 1) (pArr to 4 (ex (E i)) (ey (E i)) e) (hc.arr t0) t0 (by omega)
          obtain ⟨m1, g1, g2, g3⟩ := h.arr2 (r := to) (k := 4) (x := ex (E i)) (y := ey (E i)) hc hl (hf.bk q1) t0 t1 hd (by decide) (by decide) kb.2.1.1 kb.2.1.2 kb.2.2.1 kb.2.2.2
          have hNa : hN (pArr to 4 (ex (E i)) (ey (E i)) e) r = hN e r := by
            unfold hN
            exact arr_a (by omega) (by omega) (by omega) (by omega) (by omega)
          obtain ⟨m', u1, u2, u3⟩ := ih f (i + 1) m1 _ g2 (hc.arr t0) ((mr_arr hc t0 t1).2.2 hl) (by rw [arr_h hrt]; exact hE) (by rw [hNa]; exact hN1) (by rw [g3.2 _ (by decide)]; exact hm) hf (by omega) (by omega) (arr_nd hd t0 t0 (by omega)) f0 (by omega) (by omega) (by omega) (by omega) hb
          rw [if_pos c2, if_pos c2, lx_p, hm, if_pos c3, bp_t kx, bp_t ky, bd_t g1, lx_p, w32_id (by omega) (by omega)]
          exact ⟨m', u1, u2, g3.tr u3⟩
        · rw [if_neg c2] at hf
          rw [if_neg c2, if_neg c2, lx_p, w32_id (by omega) (by omega)]
          exact ih f (i + 1) m e h hc hl hE hN1 hm hf r1 t1 hd f0 (by omega) (by omega) (by omega) (by omega) hb
      by_cases c7 : 7 < ek (E i)
      · rw [if_pos c7]
        exact h179 0 (by rw [hs, if_neg (by omega)]; omega)
      · rw [if_neg c7]
        exact h179 1 (by rw [hs, if_pos (by omega)])
    · rw [if_neg c1, if_neg c1]
      exact ⟨m, rfl, h, SCR.rf⟩
/-- before that: nothing is sent -/
theorem snd0 (h : RXE m e) (hc : CN e) (r0 : 0 ≤ r) (r1 : r < e.1 7 2) {K : MM → Option (Int × MM)} (hn : hN e r < 524288) (hm : m 68 123 = cA (eH e r) fr.toNat) (f1 : fr ≤ hN e r) : ∀ (n f : Nat) (i : Int), 0 ≤ i → i ≤ fr → (fr - i).toNat = n → n ≤ f → fl_X12_goesOnAsNew_145 r to K f (cA (eH e r) i.toNat) i m = fl_X12_goesOnAsNew_145 r to K (f - n) (cA (eH e r) fr.toNat) fr m := by
  have n7 := hc.1
  have k86 := (h.pr.1 r r0 r1).2.1.1
  intro n
  induction n with
  | zero =>
    intro f i i0 i1 h1 h2
    rw [show i = fr by omega]
    rfl
  | succ n ih =>
    intro f i i0 i1 h1 h2
    obtain ⟨f, rfl⟩ : ∃ g, f = g + 1 := ⟨f - 1, by omega⟩
    have hi : i < hN e r := by omega
    have e1 : (i + 1).toNat = i.toNat + 1 := by omega
    have ei : ((i.toNat : Nat) : Int) = i := by omega
    have bA := cA_b (E := eH e r) (i + 1).toNat
    have bm := cA_m (E := eH e r) (i + 1).toNat fr.toNat (by omega)
    have hs : cA (eH e r) (i + 1).toNat = if ek (eH e r i) ≤ 7 then cA (eH e r) i.toNat + 1 else cA (eH e r) i.toNat := by rw [e1, cA_s, ei]
    have go := ih f (i + 1) (by omega) (by omega) (by omega) (by omega)
    have h179 : ∀ z : Int, cA (eH e r) i.toNat + z = cA (eH e r) (i + 1).toNat → fj_X12_goesOnAsNew_179 (fl_X12_goesOnAsNew_145 r to K f) K r to i (ek (eH e r i)) z (cA (eH e r) i.toNat) m = fl_X12_goesOnAsNew_145 r to K (f - n) (cA (eH e r) fr.toNat) fr m := fun z hz => by
      unfold fj_X12_goesOnAsNew_179
      rw [lx_p, hz, w32_id (z := cA (eH e r) (i + 1).toNat) (by omega) (by omega)]
      by_cases c2 : ek (eH e r i) = 4
      · rw [if_pos c2, lx_p, hm, if_neg (by omega), lx_p, w32_id (by omega) (by omega)]
        exact go
      · rw [if_neg c2, lx_p, w32_id (by omega) (by omega)]
        exact go
    conv => lhs; unfold fl_X12_goesOnAsNew_145
    rw [gd_t (by omega), lx_p, k86, if_pos hi, bp_t (h.kd r0 r1 i0 hi), show f + 1 - (n + 1) = f - n by omega]
    by_cases c7 : 7 < ek (eH e r i)
    · rw [if_pos c7]
      exact h179 0 (by rw [hs, if_neg (by omega)]; omega)
    · rw [if_neg c7]
      exact h179 1 (by rw [hs, if_pos (by omega)])
theorem cs_eq (hc : CN e) (hr : RFw e) : True := trivial
/-- a run goes on as new -/
theorem RXE.again (h : RXE m e) (hc : CN e) (hl : RLw e) (hT : TyO e) (hP : PaR e) (hf : RFw (pAgain r x e)) (r0 : 0 ≤ r) (r1 : r < e.1 7 2) (h7 : e.1 7 2 < 30) (hs : e.1 (7000 + r) 6 = 0) (x0 : 0 ≤ x) (x1 : x < 1000) (hS : ∀ n : Int, 0 ≤ n → n < 4 → ∀ v ∈ sq (eT e) n, 0 ≤ v ∧ v ≤ 999) (hQ : QR m (eT e)) (hA : cA (eH e r) (sg (eT e) 0 11).toNat = sg (eT e) 0 10 ∧ 0 ≤ sg (eT e) 0 11 ∧ sg (eT e) 0 11 ≤ hN e r) (hv : ∀ t : Int, 0 ≤ t → t < 4 → e.1 (7000 + r) 1 = t → 0 < e.1 (48 + 4 * t + 1) 2) : ∃ m', fm_X12_goesOnAsNew r x m = some (0, m') ∧ RXE m' (pAgain r x e) ∧ SC2 m m' := by
  have n7 := hc.1
  have e12 : m 68 12 = e.1 7 2 := h.ps.2.1
  have ty := (hT r r0 r1).1
  have hv2 := hc.2.2.2.2 (48 + 4 * e.1 (7000 + r) 1) (isT_4 ty.1 ty.2)
  have k69 := (h.pt _ ty.1 ty.2).1
  obtain ⟨⟨a1, a2, a3, a4, a5, a6⟩, -⟩ := h.pr.1 r r0 r1
  have h1 := h.rs (A := 83) (j := 6) (v := 4) hc r0 r1 (by omega)
  obtain ⟨e1, he1⟩ : ∃ e1, e1 = eS e (7000 + r) 6 4 := ⟨_, rfl⟩
  rw [← he1] at h1
  have c1 : CN e1 := by rw [he1]; exact cn_eS hc (by omega)
  have s1 : CS e e1 := by rw [he1]; exact cs_st hc r0 r1 hs
  have e17 := s1.2.1.1
  obtain ⟨z1, z2, z3⟩ := (s1.2.2 r r0 r1).2
  have eT1 : eT e1 = eT e := by rw [he1]; rfl
  obtain ⟨e2, he2⟩ : ∃ e2, e2 = pStart (e.1 (7000 + r) 1) (e.1 (7000 + r) 2) x (e.1 (7000 + r) 4) (e.1 (7000 + r) 5) e1 := ⟨_, rfl⟩
  have c2 : CN e2 := by rw [he2]; exact c1.start (by omega)
  have m2r : MR e1 e2 := by rw [he2]; exact mr_start c1 (by omega)
  have e27 : e2.1 7 2 = e.1 7 2 + 1 := by rw [he2, start_n (by omega), e17]
  have eT2 : eT e2 = eT e := by rw [he2, start_T, eT1]
  obtain ⟨e3, he3⟩ : ∃ e3, e3 = pSQs (e.1 7 2) 5 0 e2 := ⟨_, rfl⟩
  obtain ⟨m3r, c3, e37⟩ := mr_sqs (to := e.1 7 2) 5 0 e2 c2 n7.1 (by omega)
  rw [← he3] at m3r c3 e37
  obtain ⟨e4, he4⟩ : ∃ e4, e4 = pSnd (e.1 7 2) r (sg (eT e) 0 11) e3 := ⟨_, rfl⟩
  obtain ⟨m4r, c4, e47⟩ := mr_snd (to := e.1 7 2) (q := r) (s := hN e3 r) ((hN e3 r - sg (eT e) 0 11).toNat + 1) (sg (eT e) 0 11) e3 c3 n7.1 (by omega)
  have he4' : e4 = pSndL (e.1 7 2) r (hN e3 r) ((hN e3 r - sg (eT e) 0 11).toNat + 1) (sg (eT e) 0 11) e3 := he4
  rw [← he4'] at m4r c4 e47
  have eA : pAgain r x e = pDealL (fun i d e => pClose 41 i 5 0 d e) r 0 31 0 (pEnd r e4) := by
    unfold pAgain
    rw [← he1, ← he2, ← he3, ← he4]
  rw [eA] at hf ⊢
  have cE := cs_end (r := r) c4
  have cD := cs_dl (r := r) (d := 0) (K := 41) cE.1.2 31 (show (0 : Int) ≤ 0 by decide)
  have hf4 : RFw e4 := hf.bk (cE.tr cD).1.1
  have hf3 := hf4.bk m4r
  have hf2 := hf3.bk m3r
  -- the new run
  have hst : RFw (pStart (e.1 (7000 + r) 1) (e.1 (7000 + r) 2) x (e.1 (7000 + r) 4) (e.1 (7000 + r) 5) e1) := by rw [← he2]; exact hf2
  have ver1 : e1.1 (48 + 4 * e.1 (7000 + r) 1 + 1) 2 = e.1 (48 + 4 * e.1 (7000 + r) 1 + 1) 2 := s1.2.1.2 _ (by omega) (by omega)
  obtain ⟨m2, g1, g2, g3⟩ := h1.start (t := e.1 (7000 + r) 1) (tn := e.1 (7000 + r) 2) (par := e.1 (7000 + r) 4) (pe := e.1 (7000 + r) 5) (pf := m 85 r) (ver := e.1 (48 + 4 * e.1 (7000 + r) 1 + 1) 2 - 1) c1 (s1.1.1.2.2 hl) (by omega) hst x0 x1 a6 (by rw [ver1])
  rw [← he2] at g2
  rw [e17] at g1
  have sc1 : SCR m m2 := (SCR.ms (by decide) (by decide) (by decide) (by omega)).tr g3
  have nd2 : ¬ Dead e2 (e.1 7 2) := by
    have := start_nd (e := e1) (t := e.1 (7000 + r) 1) (tn := e.1 (7000 + r) 2) (inp := x) (par := e.1 (7000 + r) 4) (pe := e.1 (7000 + r) 5) (by omega) (by omega)
    rw [e17, ← he2] at this
    exact this
  have l2 : RLw e2 := m2r.2.2 (s1.1.1.2.2 hl)
  -- its queues
  obtain ⟨m3, u1, u2, u3⟩ := sqsL (r := r) (to := e.1 7 2) (K := fun m_211 => fl_X12_goesOnAsNew_145 r (e.1 7 2) (fun m_366 => bd (fm_X12_closes r 0 0 m_366) fun x_376 m_377 => some (0, m_377)) BIG 0 0 m_211) n7.1 (S := eT e) hS 5 BIG 0 m2 e2 g2 c2 l2 (hQ.mv sc1.s2) eT2 (by rw [← he3]; exact hf3) (by omega) nd2 (by decide) (by decide) (by decide) (Nat.le_of_lt (BIG_g (by decide)))
  rw [← he3] at u2
  have sc2 := sc1.tr u3
  -- its history
  have hr3 : eH e3 r = eH e r := by
    have key : ∀ (l : List Int) (nm : Int) (e : ES), eH (pSQ (e2.1 7 2 - 1) nm l e) r = eH e r := by
      intro l
      induction l with
      | nil => intro nm e; rfl
      | cons v t ih => intro nm e; show eH (pSQ _ nm t (pArr _ 4 nm v e)) r = _; rw [ih, arr_h (by omega)]
    have key2 : ∀ (n : Nat) (i : Int) (e : ES), eH (pSQs (e2.1 7 2 - 1) n i e) r = eH e r := by
      intro n
      induction n with
      | zero => intro i e; rfl
      | succ n ih =>
        intro i e
        unfold pSQs
        by_cases c : i < 4
        · rw [if_pos c, ih, key]
        · rw [if_neg c]
    have := key2 5 0 e2
    rw [show e2.1 7 2 - 1 = e.1 7 2 by omega] at this
    rw [he3, this, he2, start_h (by omega), he1]
    rfl
  have hn3 : hN e3 r = hN e r := by
    unfold hN
    rw [he3, sqs_a (by omega) (by omega) (by omega) (by omega) (by omega), he2, start_a (by omega) (by omega) (by omega) (by omega) (by omega) (by omega) (by omega) (by omega), he1, eS_a (by omega)]
  have nd3 : ¬ Dead e3 (e.1 7 2) := fun hh => nd2 (by
    unfold Dead at hh ⊢
    rw [he3, sqs_a (by omega) (by omega) (by omega) (by omega) (by omega)] at hh
    exact hh)
  have hnr := hf.2.2.2 r r0 (by rw [cD.2.1.1, cE.2.1.1]; omega)
  have hn4 : hN e r < 524288 := by
    have b1 := s1.1.1.2.1 r r0 r1
    have b2 := m2r.2.1 r r0 (by omega)
    have b3 := m3r.2.1 r r0 (by omega)
    have b4 := hf3.2.2.2 r r0 (by omega)
    omega
  have m123 : m3 68 123 = cA (eH e3 r) (sg (eT e) 0 11).toNat := by rw [sc2.2 _ (by decide), hr3, hA.1]; exact hQ.2.2.1
  have s0 := snd0 (to := e.1 7 2) (K := fun m_366 => bd (fm_X12_closes r 0 0 m_366) fun x_376 m_377 => some (0, m_377)) u2 c3 r0 (by omega) (by rw [hn3]; exact hn4) m123 (by rw [hn3]; exact hA.2.2) (sg (eT e) 0 11 - 0).toNat BIG 0 (by decide) hA.2.1 rfl (Nat.le_of_lt (BIG_g (by omega)))
  rw [show cA (eH e3 r) (0 : Int).toNat = 0 from rfl] at s0
  obtain ⟨m4, v1, v2, v3⟩ := sndL (to := e.1 7 2) (fr := sg (eT e) 0 11) (N := hN e3 r) (E := eH e3 r) (K := fun m_366 => bd (fm_X12_closes r 0 0 m_366) fun x_376 m_377 => some (0, m_377)) r0 n7.1 (by omega) ((hN e3 r - sg (eT e) 0 11).toNat + 1) (BIG - (sg (eT e) 0 11 - 0).toNat) (sg (eT e) 0 11) m3 e3 u2 c3 (m3r.2.2 l2) rfl rfl m123 (by rw [← he4']; exact hf4) (by omega) (by omega) nd3 hA.2.1 (Int.le_refl _) (by rw [hn3]; exact hA.2.2) (by rw [hn3]; omega) (by
    have : BIG = 1000000000 := rfl
    rw [hn3]
    omega) (by rw [hn3]; exact hn4)
  rw [← he4'] at v2
  -- closing
  have T4 : TyO e4 := by
    have t1 := s1.ty hT
    have t2 : TyO e2 := by rw [he2]; exact t1.start ty.1 ty.2 (hT r r0 r1).2.1 (hT r r0 r1).2.2 (by omega) (by omega)
    have t3 : TyO e3 := by rw [he3]; exact t2.sf (sqs_cl n7.1 (by omega) 5 0 e2 (by omega)).1.2
    rw [he4']
    exact t3.sf (snd_cl n7.1 (by omega) _ _ e3 (by omega)).2
  have P4 : PaR e4 := fun i i0 i1 => by
    have q4 : ∀ j : Int, 0 ≤ j → j < 1000 → e4.1 (7000 + j) 4 = e2.1 (7000 + j) 4 := fun j j0 j1 => by
      have key : ∀ (n : Nat) (i : Int) (e : ES), (pSndL (e2.1 7 2 - 1) r (hN e3 r) n i e).1 (7000 + j) 4 = e.1 (7000 + j) 4 := by
        intro n
        induction n with
        | zero => intro i e; rfl
        | succ n ih =>
          intro i e
          unfold pSndL
          split
          · rw [ih]
            split
            · exact arr_a (by omega) (by omega) (by omega) (by omega) (by omega)
            · rfl
          · rfl
      have := key ((hN e3 r - sg (eT e) 0 11).toNat + 1) (sg (eT e) 0 11) e3
      rw [show e2.1 7 2 - 1 = e.1 7 2 by omega] at this
      rw [he4', this, he3, sqs_a (by omega) (by omega) (by omega) (by omega) (by omega)]
    rw [e47, e37, e27] at i1
    rw [q4 i i0 (by omega), e47, e37, e27]
    by_cases ci : i = e.1 7 2
    · have : e2.1 (7000 + i) 4 = e.1 (7000 + r) 4 := by
        rw [he2, ci, ← e17]
        unfold pStart
        rw [arr_a (by omega) (by omega) (by omega) (by omega) (by omega), pNewRun_f (by omega)]
        rfl
      rw [this]
      have := hP r r0 r1
      omega
    · have : e2.1 (7000 + i) 4 = e.1 (7000 + i) 4 := by
        rw [he2, start_a (by omega) (by omega) (by omega) (by omega) (by omega) (by omega) (by omega) (by omega)]
        exact (s1.2.2 i i0 (by omega)).2.2.1
      rw [this]
      have := hP i i0 (by omega)
      omega
  have st4 : e4.1 (7000 + r) 6 = 4 := by
    have key : ∀ (n : Nat) (i : Int) (e : ES), (pSndL (e2.1 7 2 - 1) r (hN e3 r) n i e).1 (7000 + r) 6 = e.1 (7000 + r) 6 := by
      intro n
      induction n with
      | zero => intro i e; rfl
      | succ n ih =>
        intro i e
        unfold pSndL
        split
        · rw [ih]
          split
          · exact arr_a (by omega) (by omega) (by omega) (by omega) (by omega)
          · rfl
        · rfl
    have := key ((hN e3 r - sg (eT e) 0 11).toNat + 1) (sg (eT e) 0 11) e3
    rw [show e2.1 7 2 - 1 = e.1 7 2 by omega] at this
    rw [he4', this, he3, sqs_a (by omega) (by omega) (by omega) (by omega) (by omega), he2, start_a (by omega) (by omega) (by omega) (by omega) (by omega) (by omega) (by omega) (by omega), he1]
    exact eS_e
  obtain ⟨f, m5, w1, w2, w3, w4⟩ := v2.dealt (tel := 0) (res := 0) (K := 41) c4 (m4r.2.2 (m3r.2.2 l2)) T4 P4 r0 (by omega) (by rw [st4]; decide) (by decide) hf
  obtain ⟨f, rfl⟩ : ∃ g, f = g + 1 := ⟨f - 1, by omega⟩
  have cl : fm_X12_closes r 0 0 m4 = some (0, m5) := by
    rw [w1]
    unfold xPop
    rw [if_neg (show ¬ (0 : Int) < 0 by decide), if_pos rfl, lx_p, show w32 (0 + (-1)) = -1 from w32_id (by decide) (by decide)]
    unfold fl_X12_closes_22
    rw [if_pos (by decide)]
  refine ⟨m5, ?_, w3, (sc2.tr v3).s2.tr w4⟩
  unfold fm_X12_goesOnAsNew
  rw [lx_p, e12, if_neg (by omega), gd_t (by omega), up_t, lx_p, ms_a (b := 80) (by decide), a1, lx_p, ms_a (b := 81) (by decide), a2, gd_t ty, lx_p, ms_a (b := 69) (by decide), k69, show 49 + 4 * e.1 (7000 + r) 1 = 48 + 4 * e.1 (7000 + r) 1 + 1 by omega, lx_p, ms_a (b := 84) (by decide), a5, lx_p, ms_a (b := 85) (by decide), w32_id (by omega) (by omega), bd_t g1, u1, s0, v1, bd_t cl]
end RXK4
