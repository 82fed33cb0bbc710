/-! THE REFERENCE'S ENGINE: children, tags; a run goes on as new; a command is carried out. -/
section RXK3
variable {m m' M : MM} {e e' e2 : ES} {a b c i j k o r v w p t s x y n ev due q A B st res tel dep d to nm fr : Int} {l : List Int} {S : TS}
theorem RXE.chi (h : RXE m e) (hc : CN e) (hl : RLw e) (hf : RFw (pChi r ev t x e)) (r0 : 0 ≤ r) (r1 : r < e.1 7 2) (hd : ¬ Dead e r) (e0 : 0 ≤ ev) (e1 : ev < 524288) (t0 : 0 ≤ t) (t1 : t < 4) (x0 : 0 ≤ x) (x1 : x < 1000) : ∃ m', fm_X12_carriesOut r ev 10 t x m = some (0, m') ∧ RXE m' (pChi r ev t x e) ∧ SCR m m' := by
  have n7 := hc.1
  have e12 : m 68 12 = e.1 7 2 := h.ps.2.1
  have hv := hc.2.2.2.2 (48 + 4 * t) (isT_4 t0 t1)
  have k69 := (h.pt t t0 t1).1
  have k81 := (h.pr.1 r r0 r1).1.2.1
  have no : RFw (pArr r 6 ev 0 e) → ∃ m', fj_X12_carriesOut_66 r ev m = some (0, m') ∧ RXE m' (pArr r 6 ev 0 e) ∧ SCR m m' := fun hf => by
    obtain ⟨m', g1, g2, g3⟩ := h.arr2 hc hl hf r0 r1 hd (by decide) (by decide) e0 e1 (by decide) (by decide)
    unfold fj_X12_carriesOut_66
    rw [bd_t g1]
    exact ⟨m', rfl, g2, g3⟩
  unfold fm_X12_carriesOut
  unfold pChi at hf ⊢
  rw [if_neg (by decide), if_neg (by decide), if_pos rfl, lx_p, e12]
  by_cases c1 : e.1 7 2 = 30
  · rw [if_neg (fun hh => by omega)] at hf
    rw [if_pos c1, if_neg (fun hh => by omega)]
    exact no hf
  · rw [if_neg c1, gd_t ⟨t0, t1⟩, lx_p, k69, show 49 + 4 * t = 48 + 4 * t + 1 by omega]
    by_cases c2 : e.1 (48 + 4 * t + 1) 2 = 0
    · rw [if_neg (fun hh => by omega)] at hf
      rw [if_pos c2, if_neg (fun hh => by omega)]
      exact no hf
    · rw [if_pos (show e.1 7 2 < 30 ∧ 0 < e.1 (48 + 4 * t + 1) 2 by omega)] at hf
      rw [if_neg c2, if_pos (show e.1 7 2 < 30 ∧ 0 < e.1 (48 + 4 * t + 1) 2 by omega), gd_t (by omega), lx_p, k81, w32_id (by omega) (by omega)]
      obtain ⟨m', g1, g2, g3⟩ := h.start (pf := ev) hc hl (by omega) hf x0 x1 (fun _ => rfl) rfl
      rw [bd_t g1]
      exact ⟨m', rfl, g2, g3⟩
/-- a tag waits -/
theorem RXE.qt (h : RXE m e) (hc : CN e) (r0 : 0 ≤ r) (r1 : r < e.1 7 2) (x0 : 0 ≤ x) (x1 : x < 1000) (h11 : 0 ≤ e.1 4 11 ∧ e.1 4 11 < 1048576) (hlen : ((eL e 14).length : Int) = if e.1 4 11 < 51200 then e.1 4 11 else 51200) : ∃ m', fm_X12_carriesOut r i 13 x y m = some (0, m') ∧ RXE m' (pQT r x e) ∧ SCR m m' := by
  have n7 := hc.1
  have e80 : m 68 80 = e.1 4 11 := h.ps.2.2.2.2.2.2.2.2.2.2
  have run : fm_X12_carriesOut r i 13 x y m = some (0, mset (mset m 137 (e.1 4 11) (1000 * r + x)) 68 80 (e.1 4 11 + 1)) := by
    unfold fm_X12_carriesOut
    rw [if_neg (by decide), if_neg (by decide), if_neg (by decide), if_neg (by decide), if_pos rfl, lx_p, e80, gd_t h11, w32_id (z := 1000 * r) (by omega) (by omega), w32_id (z := 1000 * r + x) (by omega) (by omega), up_t, lx_p, ms_a (b := 68) (by decide), e80, w32_id (by omega) (by omega), up_t]
  have go : ∀ e1 : ES, (∀ a u, e1.1 a u = e.1 a u) → (∀ c : Int, c ≠ 14 → eL e1 c = eL e c) → (∀ i, eH e1 i = eH e i) → (∀ (i : Nat) (v : Int), (eL e1 14)[i]? = some v → mset m 137 (e.1 4 11) (1000 * r + x) 137 i = v) → RXE (mset m 137 (e.1 4 11) (1000 * r + x)) e1 := fun e1 f1 f2 f3 f4 =>
    h.chg hc (W := fun a => a = 137) (U := fun a => a = 1000000) (V := fun a => a = 14) (fun a j g1 g2 g3 => ms_a g3) (fun u g1 _ => ms_a (by decide)) ⟨fun a u _ => f1 a u, fun c g => f2 c g, fun i _ => f3 i⟩ (by rw [f1]; omega) (DdM.of fun q q0 q1 => f1 _ _) (by rw [f1]; omega) (Or.inl ⟨fun a g => by omega, fun a g => by omega, fun a g => by omega⟩) (Or.inl ⟨fun a g => by omega, fun a g => by omega, fun a g => by omega⟩) (Or.inl ⟨fun a g => by omega, fun a g => by omega, fun a g => by omega⟩) (Or.inl ⟨fun a g => by omega, fun a g => by omega, fun a g => by omega⟩) (Or.inl ⟨fun a g => by omega, fun a g => by omega, fun a g => by omega⟩) (Or.inl ⟨fun a g => by omega, fun a g => by omega, fun a g => by omega⟩) (Or.inl ⟨fun a g => by omega, fun a g => by omega, fun a g => by omega⟩) (Or.inl ⟨fun a g => by omega, fun a g => by omega, fun a g => by omega⟩) (Or.inl ⟨fun a g => by omega, fun a g => by omega, fun a g => by omega⟩) (Or.inr f4) (Or.inl ⟨fun a g => by omega, fun a g => by omega, fun a g => by omega⟩) (Or.inl ⟨fun a g => by omega, fun a g => by omega, fun a g => by omega⟩) (Or.inl ⟨fun a g => by omega, fun a g => by omega, fun a g => by omega⟩)
  have fin : ∀ e1 : ES, (∀ a u, e1.1 a u = e.1 a u) → RXE (mset m 137 (e.1 4 11) (1000 * r + x)) e1 → RXE (mset (mset m 137 (e.1 4 11) (1000 * r + x)) 68 80 (e.1 4 11 + 1)) (eS e1 4 11 (e.1 4 11 + 1)) := fun e1 f1 g => by
    refine g.sc (j := 80) (hc.of fun a _ => f1 a 2) (fun a j _ _ => ms_a (by omega)) (fun u _ hu => ms_j hu) (by decide) (by decide) ?_
    obtain ⟨s1, s2, s3, s4, s5, s6, s7, s8, s9, s10, s11⟩ := g.ps
    unfold RXs
    rw [ms_j (i := 0) (by decide), ms_j (i := 12) (by decide), ms_j (i := 29) (by decide), ms_j (i := 30) (by decide), ms_j (i := 34) (by decide), ms_j (i := 50) (by decide), ms_j (i := 51) (by decide), ms_j (i := 68) (by decide), ms_j (i := 69) (by decide), ms_j (i := 79) (by decide), ms_e, eS_j (i := 14) (by decide), eS_j (i := 13) (by decide), eS_j (i := 15) (by decide), eS_j (i := 12) (by decide), eS_e, eS_a (by decide), eS_a (by decide), eS_a (by decide), eS_a (by decide), eS_a (by decide), eS_a (by decide)]
    exact ⟨s1, s2, s3, s4, s5, s6, s7, s8, s9, s10, rfl⟩
  refine ⟨_, run, ?_, (SCR.ms (by decide) (by decide) (by decide) (by omega)).tr (SCR.ms (by decide) (by decide) (by decide) (by omega))⟩
  unfold pQT
  have go' : RXE (mset m 137 (e.1 4 11) (1000 * r + x)) (if (eL e 14).length < 51200 then eLs e 14 (eL e 14 ++ [r * 1000 + x]) else e) := by
    by_cases c : (eL e 14).length < 51200
    · rw [if_pos c]
      have c2 : e.1 4 11 < 51200 := by
        by_cases cc : e.1 4 11 < 51200
        · exact cc
        · rw [if_neg cc] at hlen; omega
      rw [if_pos c2] at hlen
      refine go _ (fun _ _ => rfl) (fun c hc => eLs_a hc) (fun _ => rfl) (fun i v hv => ?_)
      rw [eLs_e] at hv
      by_cases ci : i < (eL e 14).length
      · rw [List.getElem?_append_left ci] at hv
        rw [ms_j (by omega)]
        exact h.pg i v hv
      · rw [List.getElem?_append_right (by omega)] at hv
        have ei : i = (eL e 14).length := by
          by_cases c5 : i - (eL e 14).length = 0
          · omega
          · rw [List.getElem?_eq_none (by simp; omega)] at hv
            exact absurd hv (by simp)
        rw [ei, Nat.sub_self] at hv
        have hv' : r * 1000 + x = v := Option.some.inj hv
        rw [ei, hlen, ms_e]
        omega
    · rw [if_neg c]
      refine go e (fun _ _ => rfl) (fun _ _ => rfl) (fun _ => rfl) (fun i v hv => ?_)
      have hi : i < (eL e 14).length := by
        by_cases ci : i < (eL e 14).length
        · exact ci
        · rw [List.getElem?_eq_none (by omega)] at hv
          exact absurd hv (by simp)
      have c2 : ¬ e.1 4 11 < 51200 := fun cc => by
        rw [if_pos cc] at hlen; omega
      rw [if_neg c2] at hlen
      rw [ms_j (by omega)]
      exact h.pg i v hv
  refine fin _ (fun a u => ?_) go'
  split <;> rfl
/-- what of a telling going on as new looks at -/
def QR (m : MM) (S : TS) : Prop := RQ m S ∧ sg S 0 41 ≤ 2047 ∧ m 68 123 = sg S 0 10 ∧ (m 68 111 = 0 ↔ sg S 0 8 = 0)
theorem QR.mv (h : QR m S) (g : SC2 m m') : QR m' S := by
  obtain ⟨h1, h2, h3, h4⟩ := h
  refine ⟨fun n n0 n1 => ?_, h2, by rw [g.2 _ (by decide)]; exact h3, by rw [g.2 _ (by decide)]; exact h4⟩
  obtain ⟨q1, q2, q3, q4⟩ := h1 n n0 n1
  rw [g.1 155 _ (by decide) (by omega), g.1 156 _ (by decide) (by omega)]
  refine ⟨q1, q2, q3, fun i v hv => ?_⟩
  rw [g.1 157 _ (by decide) (by omega)]
  exact q4 i v hv
theorem mr_sq : ∀ (l : List Int) (e : ES), CN e → 0 ≤ to → to < e.1 7 2 → MR e (pSQ to nm l e) ∧ CN (pSQ to nm l e) ∧ (pSQ to nm l e).1 7 2 = e.1 7 2 := by
  intro l
  induction l with
  | nil => intro e hc _ _; exact ⟨MR.rf, hc, rfl⟩
  | cons v t ih =>
    intro e hc t0 t1
    have e7 : (pArr to 4 nm v e).1 7 2 = e.1 7 2 := arr_a (by decide) (by decide) (by omega) (by omega) (by decide)
    obtain ⟨g1, g2, g3⟩ := ih (pArr to 4 nm v e) (hc.arr t0) t0 (by omega)
    exact ⟨(mr_arr hc t0 t1).tr g1, g2, by show (pSQ to nm t _).1 7 2 = _; rw [g3, e7]⟩
theorem sqL (t0 : 0 ≤ to) (n0 : 0 ≤ nm) (n1 : nm < 4) {K : MM → Option (Int × MM)} (hS : ∀ v ∈ sq S nm, 0 ≤ v ∧ v ≤ 999) : ∀ (l : List Int) (f : Nat) (i : Int) (m : MM) (e : ES), RXE m e → CN e → RLw e → QR m S → RFw (pSQ to nm l e) → to < e.1 7 2 → ¬ Dead e to → 0 ≤ i → (sq S nm).drop i.toNat = l → l.length < f → (sq S nm).length < 4096 → ∃ m', fl_X12_goesOnAsNew_92 r to nm K f (m 156 nm + i) m = K m' ∧ RXE m' (pSQ to nm l e) ∧ SCR m m' := by
  intro l
  induction l with
  | nil =>
    intro f i m e h hc hl hQ hf t1 hd i0 hdr h2 hb
    obtain ⟨f, rfl⟩ : ∃ g, f = g + 1 := ⟨f - 1, by simp at h2; omega⟩
    obtain ⟨q1, q2, q3, q4⟩ := hQ.1 nm n0 n1
    have hle : (sq S nm).length ≤ i.toNat := List.drop_eq_nil_iff.mp hdr
    unfold fl_X12_goesOnAsNew_92
    rw [gd_t ⟨n0, n1⟩, lx_p, if_neg (by omega)]
    exact ⟨m, rfl, h, SCR.rf⟩
  | cons v t ih =>
    intro f i m e h hc hl hQ hf t1 hd i0 hdr h2 hb
    obtain ⟨f, rfl⟩ : ∃ g, f = g + 1 := ⟨f - 1, by simp at h2; omega⟩
    have n7 := hc.1
    obtain ⟨q1, q2, q3, q4⟩ := hQ.1 nm n0 n1
    have h41 := hQ.2.1
    have hlt : i.toNat < (sq S nm).length := by
      by_cases c : i.toNat < (sq S nm).length
      · exact c
      · rw [List.drop_eq_nil_iff.mpr (by omega)] at hdr
        exact absurd hdr (by simp)
    have hg : (sq S nm)[i.toNat]? = some v := by
      have := congrArg (fun l => l[0]?) hdr
      simpa using this
    have hv := hS v (List.mem_of_getElem? hg)
    have k157 := q4 i.toNat v hg
    rw [show 2048 * nm + m 156 nm + ((i.toNat : Nat) : Int) = 2048 * nm + (m 156 nm + i) by omega] at k157
    have e7 : (pArr to 4 nm v e).1 7 2 = e.1 7 2 := arr_a (by decide) (by decide) (by omega) (by omega) (by decide)
    obtain ⟨m1, g1, g2, g3⟩ := h.arr2 (k := 4) (x := nm) (y := v) hc hl (hf.bk (mr_sq t (pArr to 4 nm v e) (hc.arr t0) t0 (by omega)).1) t0 t1 hd (by decide) (by decide) n0 (by omega) hv.1 hv.2
    have q156 : m1 156 nm = m 156 nm := g3.1 _ _ (by decide) (by omega)
    obtain ⟨m', u1, u2, u3⟩ := ih f (i + 1) m1 _ g2 (hc.arr t0) ((mr_arr hc t0 t1).2.2 hl) (hQ.mv g3.s2) hf (by omega) (arr_nd hd t0 t0 (by omega)) (by omega) (by
      rw [show (i + 1).toNat = i.toNat + 1 by omega, ← List.drop_drop, hdr]
      rfl) (by simp at h2; omega) hb
    rw [q156] at u1
    unfold fl_X12_goesOnAsNew_92
    rw [gd_t ⟨n0, n1⟩, lx_p, if_pos (by omega), w32_id (z := 2048 * nm) (by omega) (by omega), w32_id (z := 2048 * nm + (m 156 nm + i)) (by omega) (by omega), gd_t (by omega), lx_p, k157, bd_t g1, lx_p, w32_id (by omega) (by omega), show m 156 nm + i + 1 = m 156 nm + (i + 1) by omega]
    exact ⟨m', u1, u2, g3.tr u3⟩
theorem mr_sqs : ∀ (n : Nat) (i : Int) (e : ES), CN e → 0 ≤ to → to < e.1 7 2 → MR e (pSQs to n i e) ∧ CN (pSQs to n i e) ∧ (pSQs to n i e).1 7 2 = e.1 7 2 := by
  intro n
  induction n with
  | zero => intro i e hc _ _; exact ⟨MR.rf, hc, rfl⟩
  | succ n ih =>
    intro i e hc t0 t1
    unfold pSQs
    by_cases c : i < 4
    · rw [if_pos c]
      obtain ⟨g1, g2, g3⟩ := mr_sq (nm := i) (sq (eT e) i) e hc t0 t1
      obtain ⟨u1, u2, u3⟩ := ih (i + 1) _ g2 t0 (by omega)
      exact ⟨g1.tr u1, u2, u3.trans g3⟩
    · rw [if_neg c]
      exact ⟨MR.rf, hc, rfl⟩
theorem sqsL (t0 : 0 ≤ to) {K : MM → Option (Int × MM)} (hS : ∀ n : Int, 0 ≤ n → n < 4 → ∀ v ∈ sq S n, 0 ≤ v ∧ v ≤ 999) : ∀ (n f : Nat) (i : Int) (m : MM) (e : ES), RXE m e → CN e → RLw e → QR m S → eT e = S → RFw (pSQs to n i e) → to < e.1 7 2 → ¬ Dead e to → 0 ≤ i → 4 < i + n → 0 < n → n ≤ f → ∃ m', fl_X12_goesOnAsNew_77 r to K f i m = K m' ∧ RXE m' (pSQs to n i e) ∧ SCR m m' := by
  intro n
  induction n with
  | zero => intro f i m e h hc hl hQ hE hf t1 hd i0 i1 hn; omega
  | succ n ih =>
    intro f i m e h hc hl hQ hE hf t1 hd i0 i1 hn h2
    obtain ⟨f, rfl⟩ : ∃ g, f = g + 1 := ⟨f - 1, by omega⟩
    have n7 := hc.1
    unfold fl_X12_goesOnAsNew_77
    unfold pSQs at hf ⊢
    by_cases c : i < 4
    · rw [if_pos c] at hf
      rw [if_pos c, if_pos c, gd_t ⟨i0, c⟩, lx_p]
      obtain ⟨q1, q2, q3, q4⟩ := hQ.1 i i0 c
      have h41 := hQ.2.1
      obtain ⟨g1, g2, g3⟩ := mr_sq (nm := i) (sq (eT e) i) e hc t0 t1
      obtain ⟨u1, u2, u3⟩ := mr_sqs n (i + 1) _ g2 t0 (by omega)
      obtain ⟨m1, v1, v2, v3⟩ := sqL (r := r) (K := fun m_183 => lx (w32 (i + 1)) fun x_193 => fl_X12_goesOnAsNew_77 r to K f x_193 m_183) t0 i0 c (hS i i0 c) (sq S i) BIG 0 m e h hc hl hQ (by rw [hE] at hf u1; exact hf.bk u1) t1 hd (by decide) rfl (BIG_g (by omega)) (by omega)
      rw [show m 156 i + 0 = m 156 i by omega] at v1
      have hd' : ¬ Dead (pSQ to i (sq (eT e) i) e) to := fun hh => hd (by
        unfold Dead at hh ⊢
        rw [sq_a (by omega) (by omega) (by omega) (by omega) (by omega)] at hh
        exact hh)
      rw [← hE] at v2
      obtain ⟨m', w1, w2, w3⟩ := ih f (i + 1) m1 _ v2 g2 (g1.2.2 hl) (hQ.mv v3.s2) (by rw [sq_T]; exact hE) hf (by omega) hd' (by omega) (by omega) (by omega) (by omega)
      rw [v1, lx_p, w32_id (by omega) (by omega)]
      exact ⟨m', w1, w2, v3.tr w3⟩
    · rw [if_neg c, if_neg c]
      exact ⟨m, rfl, h, SCR.rf⟩
theorem mr_snd : ∀ (n : Nat) (i : Int) (e : ES), CN e → 0 ≤ to → to < e.1 7 2 → MR e (pSndL to q s n i e) ∧ CN (pSndL to q s n i e) ∧ (pSndL to q s n i e).1 7 2 = e.1 7 2 := by
  intro n
  induction n with
  | zero => intro i e hc _ _; exact ⟨MR.rf, hc, rfl⟩
  | succ n ih =>
    intro i e hc t0 t1
    unfold pSndL
    by_cases c : i < s
    · rw [if_pos c]
      by_cases c2 : ek (eH e q i) = 4
      · rw [if_pos c2]
        have e7 : (pArr to 4 (ex (eH e q i)) (ey (eH e q i)) e).1 7 2 = e.1 7 2 := arr_a (by decide) (by decide) (by omega) (by omega) (by decide)
        obtain ⟨u1, u2, u3⟩ := ih (i + 1) _ (hc.arr t0) t0 (by rw [e7]; exact t1)
        exact ⟨(mr_arr hc t0 t1).tr u1, u2, u3.trans e7⟩
      · rw [if_neg c2]
        exact ih (i + 1) e hc t0 t1
    · rw [if_neg c]
      exact ⟨MR.rf, hc, rfl⟩
end RXK3
