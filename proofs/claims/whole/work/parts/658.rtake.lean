/-! THE TELLING in the reference: an arrival is taken. -/
section RF24
variable {m0 m m' M : MM} {x : CX} {s s' s1 s2 : TS} {B H : Int} {a b c e i j v k h n l w p r t o q rh E ty ver rc : Int} {G : Int → Nat} {Q : TS → Prop}
/-- what an arrival sets by itself -/
def own3 (a j : Int) : Prop := a = 68 ∧ (j = 117 ∨ j = 118 ∨ j = 123)
theorem RC.fr2 (R : RC m0 x G r t v h c) (e : ∀ a i : Int, ¬ own3 a i → m a i = m0 a i) : RC m x G r t v h c := by
  obtain ⟨r1, r2, r3, r4, r5, r6, r7, r8, r9, r10, r11⟩ := R
  have nm : ∀ a i : Int, a ≠ 68 → ¬ own3 a i := fun a i h1 hh => h1 hh.1
  have n68 : ∀ i : Int, (i = 88 ∨ i = 89 ∨ i = 119 ∨ i = 124) → ¬ own3 68 i := fun i h1 hh => by have := hh.2; omega
  refine ⟨by rw [e _ _ (n68 _ (by omega))]; exact r1, by rw [e _ _ (n68 _ (by omega))]; exact r2, by rw [e _ _ (nm _ _ (by decide))]; exact r3, by rw [e _ _ (nm _ _ (by decide))]; exact r4, r5, by rw [e _ _ (n68 _ (by omega))]; exact r6, by rw [e _ _ (n68 _ (by omega))]; exact r7, by rw [e _ _ (nm _ _ (by decide))]; exact r8, r9, fun i h1 h2 => ?_, fun i h1 h2 => ?_⟩
  · rw [e _ _ (nm _ _ (by decide)), e _ _ (nm _ _ (by decide)), e _ _ (nm _ _ (by decide))]
    exact r10 i h1 h2
  · obtain ⟨A, g1, g2, g3, g4, g5⟩ := r11 i h1 h2
    refine ⟨A, ?_, g2, g3, by rw [e _ _ (nm _ _ (by decide))]; exact g4, g5⟩
    rw [at_fr (m0 := m0) (fun _ => e _ _ (nm _ _ (by decide))) (fun _ => e _ _ (nm _ _ (by decide))) (fun _ => e _ _ (nm _ _ (by decide)))]
    exact g1
/-- the same arrays, from another memory on -/
theorem RR.re (h : RR m0 m x s rh E H) (e : ∀ a i : Int, ¬ own3 a i → m' a i = m a i) : RR m' m' x s rh E H := by
  obtain ⟨hT, hS, hV, hP, hB, hQ, hU, hN, hC, hH⟩ := h
  have em : ∀ a i : Int, a ≠ 68 → m' a i = m a i := fun a i ha => e a i fun hh => ha hh.1
  have e68 : ∀ i : Int, i ≠ 117 → i ≠ 118 → i ≠ 123 → m' 68 i = m 68 i := fun i h1 h2 h3 => e 68 i fun hh => by have := hh.2; omega
  refine ⟨TFr.rf, ?_, fun a g1 g2 => by rw [em _ _ (by decide)]; exact hV a g1 g2, fun n g1 g2 => by rw [em _ _ (by decide)]; exact hP n g1 g2, hB.cg rfl rfl (fun _ _ _ => rfl) (fun _ => rfl) (fun _ => rfl) (fun a j g1 g2 => em _ _ (by omega)) (fun i _ _ => em _ _ (by decide)) (by rw [e68 103 (by decide) (by decide) (by decide)]; exact Int.le_refl _), fun n g1 g2 => ?_, ?_, fun q k a b hq => ?_, ?_, ?_⟩
  · unfold RS at hS ⊢
    rw [e68 91 (by decide) (by decide) (by decide), e68 92 (by decide) (by decide) (by decide), e68 110 (by decide) (by decide) (by decide), e68 111 (by decide) (by decide) (by decide), e68 112 (by decide) (by decide) (by decide), e68 113 (by decide) (by decide) (by decide), e68 114 (by decide) (by decide) (by decide), e68 120 (by decide) (by decide) (by decide), e68 115 (by decide) (by decide) (by decide)]
    exact hS
  · rw [em _ _ (by decide), em _ _ (by decide)]
    obtain ⟨q1, q2, q3, q4⟩ := hQ n g1 g2
    exact ⟨q1, q2, q3, fun i v hv => by rw [em _ _ (by decide)]; exact q4 i v hv⟩
  · refine ⟨by rw [e68 105 (by decide) (by decide) (by decide)]; exact hU.1, fun i v hv => ?_⟩
    rw [e68 105 (by decide) (by decide) (by decide), em _ _ (by decide)]
    exact hU.2 i v hv
  · rw [em _ _ (by decide), em _ _ (by decide)]
    exact hN q k a b hq
  · unfold PT at hC ⊢
    rw [e68 116 (by decide) (by decide) (by decide), e68 125 (by decide) (by decide) (by decide)]
    exact hC
  · unfold RH at hH ⊢
    rw [e68 103 (by decide) (by decide) (by decide)]
    exact hH
/-- what the reference doesn't look at -/
theorem RR.s0 (h : RR m0 m x s rh E H) (hj : j = 10 ∨ j = 11 ∨ j = 13 ∨ j = 28 ∨ j = 40) : RR m0 m x (st s 0 j v) rh E H := by
  obtain ⟨hT, hS, hV, hP, hB, hQ, hU, hN, hC, hH⟩ := h
  have es : ∀ a q : Int, (a ≠ 0 ∨ (q ≠ 10 ∧ q ≠ 11 ∧ q ≠ 13 ∧ q ≠ 28 ∧ q ≠ 40)) → sg (st s 0 j v) a q = sg s a q := fun a q hh => by rw [st_g, if_neg (by omega)]
  have enl : nl (st s 0 j v) = nl s := rfl
  refine ⟨hT, ?_, fun a g1 g2 => by rw [es _ _ (by omega)]; exact hV a g1 g2, fun n g1 g2 => by rw [es _ _ (by omega)]; exact hP n g1 (by rw [es _ _ (by omega)] at g2; exact g2), hB.cg (es _ _ (by omega)) (es _ _ (by omega)) (fun k j hk => es _ _ (by omega)) (fun _ => es _ _ (by omega)) (fun _ => rfl) (fun _ _ _ _ => rfl) (fun _ _ _ => rfl) (Int.le_refl _), fun n g1 g2 => by rw [es 0 41 (by omega)]; exact hQ n g1 g2, hU, hN, ?_, ?_⟩
  · unfold RS at hS ⊢
    rw [es 0 5 (by omega), es 0 6 (by omega), es 0 7 (by omega), es 0 8 (by omega), es 0 9 (by omega), es 0 29 (by omega), es 0 30 (by omega), es 0 31 (by omega), enl]
    exact hS
  · unfold PT at hC ⊢
    rw [es 0 30 (by omega), es 0 12 (by omega)]
    exact hC
  · unfold RH at hH ⊢
    rw [es 0 6 (by omega)]
    exact hH
/-- what holds of a history: PATCH has no y; what comes back was commanded; behind the last command of a run that is over there is none -/
def XI (x : CX) : Prop := HY x ∧ (∀ i : Int, 0 ≤ i → i < x.1 0 → ek (x.2.1 i) ≤ 7 → ek (x.2.1 i) ≠ 0 → ek (x.2.1 i) ≠ 4 → ek (x.2.1 i) ≠ 7 → ex (x.2.1 i) < x.1 0 ∧ ek (x.2.1 (ex (x.2.1 i))) = if ek (x.2.1 i) = 3 then 9 else if ek (x.2.1 i) = 1 ∨ ek (x.2.1 i) = 2 then 8 else 10) ∧ ∀ d : Int, 0 ≤ d → d < x.1 0 → (ek (x.2.1 d) = 14 ∨ ek (x.2.1 d) = 15 ∨ ek (x.2.1 d) = 16) → x.1 0 ≤ nc x (d + 1)
theorem on_40 (n : Nat) : ∀ (s : TS), 0 ≤ sg s 0 5 → (∀ i : Nat, 0 ≤ sg (sOn x i s) 0 5) → sg (sOn x n s) 0 40 - sg (sOn x n s) 0 29 = sg s 0 40 - sg s 0 29 := by
  induction n with
  | zero => intro s _ _; rfl
  | succ n ih =>
    intro s h5 hi
    show sg (if first s < 0 then s else if goes s then sOn x n (sTurn x (first s) s) else s) 0 40 - sg (if first s < 0 then s else if goes s then sOn x n (sTurn x (first s) s) else s) 0 29 = _
    by_cases c1 : first s < 0
    · rw [if_pos c1]
    · rw [if_neg c1]
      by_cases c2 : goes s = true
      · rw [if_pos c2]
        have hch : ∀ i : Nat, sOn x (i + 1) s = sOn x i (sTurn x (first s) s) := fun i => by
          show (if first s < 0 then s else if goes s then sOn x i (sTurn x (first s) s) else s) = _
          rw [if_neg c1, if_pos c2]
        have h51 : 0 ≤ sg (sTurn x (first s) s) 0 5 := by
          have := hi 1
          rw [hch 0] at this
          exact this
        rw [ih _ h51 fun i => by rw [← hch i]; exact hi _]
        have k0 : 0 ≤ first s := by omega
        unfold sTurn
        split
        · rw [kr_awake (by unfold KR; omega), kr_awake (by unfold KR; omega)]
        · split
          · rw [kr_end (by unfold KR; omega), kr_end (by unfold KR; omega)]
          · split
            · rw [kr_stuck (by unfold KR; omega), kr_stuck (by unfold KR; omega)]
            · have e5 : 0 ≤ sg (st (st s 0 29 (sg s 0 29 + 1)) 0 40 (sg s 0 40 + 1)) 0 5 := by rw [st_g, if_neg (by omega), st_g, if_neg (by omega)]; exact h5
              rw [kr_lineA e5 k0 (by unfold KR; omega), kr_lineA e5 k0 (by unfold KR; omega), st_g, if_pos ⟨rfl, rfl⟩, st_g, if_neg (by omega), st_g, if_pos ⟨rfl, rfl⟩]
              omega
      · rw [if_neg c2]
theorem goOn_idem : fm_X12_goOn (mset m 68 113 0) = fm_X12_goOn m := by
  unfold fm_X12_goOn
  rw [up_t, up_t]
  congr 1
  funext b j
  unfold mset
  split <;> rfl
/-- what holds between arrivals, of the plain state -/
def BP (x : CX) (s : TS) (B : Int) : Prop := SW x s B ∧ PI s ∧ WK x s ∧ OW s ∧ BtW x s
theorem takes_r (h : RR m0 m x s rh E (sg s 0 40)) (hE : 12 ≤ E) (R : RC m x G r ty ver rh rc) (A : MA x rh rc) (h117 : m 68 117 = sg s 0 10 + 1) (hX : x.1 0 ≤ 458752) (hx : CxW x) (hx5 : x.1 5 ≤ 24) (h4 : x.1 4 ≠ 1) (hI : XI x) (hF : Fix m) (hP : BP x s B) (hg : goes s = true) (hA : A2 x s rh) (i0 : sg s 0 11 ≤ i) (i1 : i < x.1 0) (hi7 : ek (x.2.1 i) ≤ 7) (hQ : GQ x rc rh Q) (hQs : Q (sNote x (ek (x.2.1 i)) (ex (x.2.1 i)) (ey (x.2.1 i)) (st (st (st s 0 28 i) 0 11 (i + 1)) 0 29 0))) (hn : nl (sOn x 1000 (sNote x (ek (x.2.1 i)) (ex (x.2.1 i)) (ey (x.2.1 i)) (st (st (st s 0 28 i) 0 11 (i + 1)) 0 29 0))) < 65536) (h41 : sg s 0 41 + 1 ≤ 2048) (h40 : sg s 0 40 + 61 < 196608) (hB : B + 2000 < 268435456) : ∃ m' E' v, fm_X12_takes i m = some (0, m') ∧ RG (mset m 68 118 (ew (x.2.1 i) % 1024)) m' x (st (sOn x 1000 (sNote x (ek (x.2.1 i)) (ex (x.2.1 i)) (ey (x.2.1 i)) (st (st (st s 0 28 i) 0 11 (i + 1)) 0 29 0))) 0 29 v) rh E' (sg (sOn x 1000 (sNote x (ek (x.2.1 i)) (ex (x.2.1 i)) (ey (x.2.1 i)) (st (st (st s 0 28 i) 0 11 (i + 1)) 0 29 0))) 0 40) ∧ (goes (sOn x 1000 (sNote x (ek (x.2.1 i)) (ex (x.2.1 i)) (ey (x.2.1 i)) (st (st (st s 0 28 i) 0 11 (i + 1)) 0 29 0))) = true → 12 ≤ E') := by
  obtain ⟨hW, hPI, hK, hO, hBt⟩ := hP
  obtain ⟨hcw, har, hs⟩ := hx
  obtain ⟨hy, hxi, htr⟩ := hI
  obtain ⟨h30, hov⟩ := goes_s hg
  have h5 := hW.2.2.2.2.2.2.2.1
  have hNN := R.2.2.2.2.2.2.2.2.1
  have ii0 : 0 ≤ i := by have := hBt.1.1; omega
  obtain ⟨ay, asig, ast, aw⟩ := har i ii0 i1 hi7
  have hkk := R.k17 ii0 i1
  -- the time at which it came
  obtain ⟨A0, g1, g2, g3, g4, g5, g6, g7, g8, g9⟩ := R.2.2.2.2.2.2.2.2.2.2 i ii0 i1
  have hw := g9 hi7
  have hm118 : Int.tmod (G i : Int) 1000 = ew (x.2.1 i) % 1024 := by
    rw [tmod_e (Int.natCast_nonneg _), ← hw]
    omega
  have own : ∀ a j : Int, ¬ own3 a j → mset m 68 118 (ew (x.2.1 i) % 1024) a j = m a j := fun a j hh => if_neg fun g => hh ⟨g.1, by omega⟩
  have R1 : RC (mset m 68 118 (ew (x.2.1 i) % 1024)) x G r ty ver rh rc := R.fr2 own
  have q117 : mset m 68 118 (ew (x.2.1 i) % 1024) 68 117 = sg s 0 10 + 1 := by rw [ms_j (by decide)]; exact h117
  have q118 : mset m 68 118 (ew (x.2.1 i) % 1024) 68 118 = ew (x.2.1 i) % 1024 := ms_e
  have hF1 : Fix (mset m 68 118 (ew (x.2.1 i) % 1024)) := fx_f (j := 118) hF (fx_kF (c := 13) hF (by decide +kernel)) (by decide +kernel)
  have h1 := ((h.re own).s0 (j := 28) (v := i) (by omega)).s0 (j := 11) (v := i + 1) (by omega)
  unfold fm_X12_takes
  rw [lx_p, R.1.1, bp_t (rkind R ii0 i1), bp_t (rx R ii0 i1), bp_t (ry R ii0 i1), bp_t (rwhen R ii0 i1), hm118, up_t]
  generalize mset m 68 118 (ew (x.2.1 i) % 1024) = M at *
  have eb : ∀ a j : Int, (a ≠ 0 ∨ (j ≠ 28 ∧ j ≠ 11)) → sg (st (st s 0 28 i) 0 11 (i + 1)) a j = sg s a j := fun a j hh => by rw [st_g, if_neg (by omega), st_g, if_neg (by omega)]
  have e28 : sg (st (st s 0 28 i) 0 11 (i + 1)) 0 28 = i := by rw [st_g, if_neg (by omega), st_g, if_pos ⟨rfl, rfl⟩]
  have hWb : SW x (st (st s 0 28 i) 0 11 (i + 1)) B := (hW.s0 (by decide) (by decide) (by decide) (by decide) (by decide) (Or.inl (by decide))).s0 (by decide) (by decide) (by decide) (by decide) (by decide) (Or.inl (by decide))
  have hPb : PI (st (st s 0 28 i) 0 11 (i + 1)) := hPI.of hW.2.2.2.2.2.1.1 fun a j hh => eb a j (by omega)
  have hKb : WK x (st (st s 0 28 i) 0 11 (i + 1)) := hK.same (fun a j hh => eb a j (by omega)) rfl
  have hOb : OW (st (st s 0 28 i) 0 11 (i + 1)) := hO.of fun a j hh => eb a j (by omega)
  have hAb : A2 x (st (st s 0 28 i) 0 11 (i + 1)) rh := (hA.st (by omega)).st (by omega)
  have hgb : goes (st (st s 0 28 i) 0 11 (i + 1)) = true := by
    unfold goes
    rw [eb _ _ (by omega), eb _ _ (by omega), h30, hov]
    rfl
  have hst0 : i = 0 → sg s 0 5 = 0 := fun hi => hBt.2.2.1 (by have := hBt.1.1; omega)
  have e40b := eb 0 40 (by omega)
  have hnok : NoteOk (st (st s 0 28 i) 0 11 (i + 1)) (ek (x.2.1 i)) (ex (x.2.1 i)) (ey (x.2.1 i)) := by
    refine ⟨⟨Int.natCast_nonneg _, ay⟩, fun z => ?_, fun z => ⟨Int.natCast_nonneg _, asig z⟩⟩
    obtain ⟨z1, z2⟩ := ast z
    exact ⟨Int.natCast_nonneg _, z1, by rw [eb _ _ (by omega), hst0 z2]; decide⟩
  rw [note_st29 (by rw [eb _ _ (by omega)]; exact h5.1)] at hQs hn ⊢
  obtain ⟨n1, n2, n3, n4⟩ := note_all hs hWb hPb hKb hOb hnok hx5
  -- the note
  have hnote : ∃ m1 E1, (if ek (x.2.1 i) = 0 then up M 142 0 (ex (x.2.1 i)) fun m_183 => bd (fm_X12_begins 0 (-1) m_183) fun x_195 m_196 => fj_X12_takes_126 m_196 else if ek (x.2.1 i) = 4 then gd (0 ≤ ex (x.2.1 i) ∧ ex (x.2.1 i) < 4) <| lx (M 155 (ex (x.2.1 i))) fun x_147 => gd (0 ≤ w32 ((w32 (2048 * ex (x.2.1 i))) + x_147) ∧ w32 ((w32 (2048 * ex (x.2.1 i))) + x_147) < 8192) <| up M 157 (w32 ((w32 (2048 * ex (x.2.1 i))) + x_147)) (ey (x.2.1 i)) fun m_152 => lx (m_152 155 (ex (x.2.1 i))) fun x_165 => up m_152 155 (ex (x.2.1 i)) (w32 (x_165 + 1)) fun m_171 => fj_X12_takes_126 m_171 else if ek (x.2.1 i) = 7 then bd (fm_X12_isCancelled M) fun x_122 m_123 => fj_X12_takes_126 m_123 else bd (fm_X12_comesBack (ek (x.2.1 i)) (ex (x.2.1 i)) (ey (x.2.1 i)) M) fun x_88 m_89 => fj_X12_takes_126 m_89) = fj_X12_takes_126 m1 ∧ RG M m1 x (sNote x (ek (x.2.1 i)) (ex (x.2.1 i)) (ey (x.2.1 i)) (st (st s 0 28 i) 0 11 (i + 1))) rh E1 (sg (sNote x (ek (x.2.1 i)) (ex (x.2.1 i)) (ey (x.2.1 i)) (st (st s 0 28 i) 0 11 (i + 1))) 0 40) ∧ (goes (sNote x (ek (x.2.1 i)) (ex (x.2.1 i)) (ey (x.2.1 i)) (st (st s 0 28 i) 0 11 (i + 1))) = true → 12 ≤ E1) ∧ sg (sNote x (ek (x.2.1 i)) (ex (x.2.1 i)) (ey (x.2.1 i)) (st (st s 0 28 i) 0 11 (i + 1))) 0 40 ≤ sg s 0 40 + 1 ∧ sg (sNote x (ek (x.2.1 i)) (ex (x.2.1 i)) (ey (x.2.1 i)) (st (st s 0 28 i) 0 11 (i + 1))) 0 41 ≤ sg s 0 41 + 1 := by
    have hnlN : nl (sNote x (ek (x.2.1 i)) (ex (x.2.1 i)) (ey (x.2.1 i)) (st (st s 0 28 i) 0 11 (i + 1))) < 65536 := Int.lt_of_le_of_lt (nl_on 1000 (st (sNote x (ek (x.2.1 i)) (ex (x.2.1 i)) (ey (x.2.1 i)) (st (st s 0 28 i) 0 11 (i + 1))) 0 29 0)) hn
    have hnlb : nl (st (st s 0 28 i) 0 11 (i + 1)) < 65536 := Int.lt_of_le_of_lt nl_note hnlN
    have hXb : RX M x G r ty ver rh rc (st (st s 0 28 i) 0 11 (i + 1)) := ⟨R1, A, by rw [eb _ _ (by omega)]; exact q117, hs, hX, hcw⟩
    have e10N : sg (sNote x (ek (x.2.1 i)) (ex (x.2.1 i)) (ey (x.2.1 i)) (st (st s 0 28 i) 0 11 (i + 1))) 0 10 = sg (st (st s 0 28 i) 0 11 (i + 1)) 0 10 := kp_note (by rw [eb _ _ (by omega)]; exact h5.1) (by unfold KQ; omega)
    have hKI : KI x (st (st s 0 28 i) 0 11 (i + 1)) (sNote x (ek (x.2.1 i)) (ex (x.2.1 i)) (ey (x.2.1 i)) (st (st s 0 28 i) 0 11 (i + 1))) rc := fun g1 g2 => by
      have := hQ.2.1 _ hQs
      rw [st_g, if_neg (by omega), st_g, if_neg (by omega), e10N] at this
      exact this g1 g2
    have g30b : sg (st (st s 0 28 i) 0 11 (i + 1)) 0 30 = 0 := (goes_s hgb).1
    rw [← e40b] at h1
    generalize hsb : st (st s 0 28 i) 0 11 (i + 1) = sb at *
    have ex0 : 0 ≤ ex (x.2.1 i) := Int.natCast_nonneg _
    by_cases c0 : ek (x.2.1 i) = 0
    · rw [if_pos c0]
      have hd : sNote x (ek (x.2.1 i)) (ex (x.2.1 i)) (ey (x.2.1 i)) sb = sBegin (-1) 0 (st (st sb 1 0 (ex (x.2.1 i))) 0 40 (sg sb 0 40 + 1)) := by unfold sNote; rw [if_pos c0]
      obtain ⟨z1, z2⟩ := hnok.2.1 c0
      have p1 := (h1.p1 (j := 0) (v := ex (x.2.1 i)) (by decide)).s40 (v := sg sb 0 40 + 1)
      have v1 := (hWb.var (j := 0) z1 z2.1).s0 (j := 40) (v := sg sb 0 40 + 1) (by decide) (by decide) (by decide) (by decide) (by decide) (Or.inl (by decide))
      have q5 : sg (st (st sb 1 0 (ex (x.2.1 i))) 0 40 (sg sb 0 40 + 1)) 0 5 = sg sb 0 5 := by rw [st_g, if_neg (by omega), st_g, if_neg (by omega)]
      have q6 : sg (st (st sb 1 0 (ex (x.2.1 i))) 0 40 (sg sb 0 40 + 1)) 0 6 = sg sb 0 6 := by rw [st_g, if_neg (by omega), st_g, if_neg (by omega)]
      have hH6 := h1.2.2.2.2.2.2.2.2.2.2.2
      have hb5 := hWb.2.2.2.2.2.2.2.1
      obtain ⟨m1, f1, f2⟩ := rbegin (l := 0) (p := -1) p1 v1 (by rw [q5]; exact z2.2) (by rw [q6]; omega) (by omega) hE
      have e40 : sg (sBegin (-1) 0 (st (st sb 1 0 (ex (x.2.1 i))) 0 40 (sg sb 0 40 + 1))) 0 40 = sg sb 0 40 + 1 := by rw [kr_begin (by omega) (by unfold KR; omega), st_g, if_pos ⟨rfl, rfl⟩]
      have e41 : sg (sBegin (-1) 0 (st (st sb 1 0 (ex (x.2.1 i))) 0 40 (sg sb 0 40 + 1))) 0 41 = sg sb 0 41 := by rw [kr_begin (by omega) (by unfold KR; omega), st_g, if_neg (by omega), st_g, if_neg (by omega)]
      refine ⟨m1, E, by rw [up_t, bd_t f1], ?_, fun _ => hE, by rw [hd, e40]; omega, by rw [hd, e41, eb _ _ (by omega)]; omega⟩
      rw [hd, e40]
      exact ⟨Or.inl ⟨by rw [u_begin (by omega), u_st (by omega), u_st (by omega)]; exact g30b, f2⟩, ((hAb.st (by omega)).st (by omega)).begin (by omega)⟩
    · rw [if_neg c0]
      by_cases c4 : ek (x.2.1 i) = 4
      · rw [if_pos c4]
        have hd : sNote x (ek (x.2.1 i)) (ex (x.2.1 i)) (ey (x.2.1 i)) sb = st (stq sb (ex (x.2.1 i)) (sq sb (ex (x.2.1 i)) ++ [ey (x.2.1 i)])) 0 41 (sg sb 0 41 + 1) := by unfold sNote; rw [if_neg c0, if_neg (by omega), if_neg (by omega), if_pos c4]
        have hx4 := asig c4
        have q41 := eb 0 41 (by omega)
        obtain ⟨p1, p2, p3⟩ := h1.qpush (v := ey (x.2.1 i)) ex0 hx4 (by omega)
        rw [gd_t ⟨ex0, hx4⟩, lx_p, w32_id (z := 2048 * ex (x.2.1 i)) (by omega) (by omega), w32_id (z := 2048 * ex (x.2.1 i) + M 155 (ex (x.2.1 i))) (by omega) (by omega), gd_t ⟨by omega, by omega⟩, up_t, lx_p, ms_a (by decide), w32_id (z := M 155 (ex (x.2.1 i)) + 1) (by omega) (by omega), up_t]
        have e40 : sg (st (stq sb (ex (x.2.1 i)) (sq sb (ex (x.2.1 i)) ++ [ey (x.2.1 i)])) 0 41 (sg sb 0 41 + 1)) 0 40 = sg sb 0 40 := by rw [st_g, if_neg (by omega)]; rfl
        have e41 : sg (st (stq sb (ex (x.2.1 i)) (sq sb (ex (x.2.1 i)) ++ [ey (x.2.1 i)])) 0 41 (sg sb 0 41 + 1)) 0 41 = sg sb 0 41 + 1 := by rw [st_g, if_pos ⟨rfl, rfl⟩]
        refine ⟨_, E, rfl, ?_, fun _ => hE, by rw [hd, e40]; omega, by rw [hd, e41]; omega⟩
        rw [hd, e40]
        exact ⟨Or.inl ⟨by rw [st_g, if_neg (by omega)]; exact g30b, p1⟩, (hAb.to (s' := stq sb (ex (x.2.1 i)) (sq sb (ex (x.2.1 i)) ++ [ey (x.2.1 i)])) rfl rfl).st (by omega)⟩
      · rw [if_neg c4]
        by_cases c7 : ek (x.2.1 i) = 7
        · rw [if_pos c7]
          have hd : sNote x (ek (x.2.1 i)) (ex (x.2.1 i)) (ey (x.2.1 i)) sb = sTell x 13 0 (st sb 0 8 1) := by unfold sNote; rw [if_neg c0, if_neg (by omega), if_neg (by omega), if_neg c4, if_pos c7]
          rw [hd] at hKI hnlN ⊢
          obtain ⟨m1, E1, f1, f2, f3⟩ := cancel_r h1 hXb hWb g30b hAb hKI (fun j j0 j1 => ⟨hPb.2 j j0 j1, hOb j j0 j1⟩) hnlN (by omega)
          have e40 : sg (sTell x 13 0 (st sb 0 8 1)) 0 40 = sg sb 0 40 := by rw [kr_tell (by unfold KR; omega) _ _ _ (by decide), st_g, if_neg (by omega)]
          have e41 : sg (sTell x 13 0 (st sb 0 8 1)) 0 41 = sg sb 0 41 := by rw [kr_tell (by unfold KR; omega) _ _ _ (by decide), st_g, if_neg (by omega)]
          rw [e40, e41, eb 0 41 (by omega)]
          exact ⟨m1, E1, by rw [bd_t f1], f2, f3, by omega, by omega⟩
        · rw [if_neg c7]
          have hd : sNote x (ek (x.2.1 i)) (ex (x.2.1 i)) (ey (x.2.1 i)) sb = sBack x (ek (x.2.1 i)) (ex (x.2.1 i)) (ey (x.2.1 i)) sb := by
            unfold sNote sBack
            rw [if_neg c0]
            by_cases c2 : ek (x.2.1 i) = 2
            · rw [if_pos c2, if_pos (Or.inl c2)]
            · rw [if_neg c2]
              by_cases c6 : ek (x.2.1 i) = 6
              · rw [if_pos c6, if_pos (Or.inr c6)]
              · rw [if_neg c6, if_neg c4, if_neg c7, if_neg (by omega)]
          rw [hd] at hKI hnlN ⊢
          obtain ⟨y1, y2⟩ := hxi i ii0 i1 hi7 c0 c4 c7
          obtain ⟨m1, f1, f2⟩ := back_r h1 hXb hWb g30b hAb hPb.2 (hKb.2 g30b) hKI hnlb (by omega) (fun w0 w7 => by
            obtain ⟨t0, t1, t2, t3⟩ := (wtr_b (s := sb) (e := ex (x.2.1 i))).resolve_left (by omega)
            have hk := (hKb.1 _ t0 t1).2.1 w7
            refine ⟨hk.1, ?_⟩
            have hk2 := hk.2 g30b (by omega)
            rw [t3, y2] at hk2
            constructor
            · intro z
              rw [if_pos z] at hk2
              rcases hk.1 with g | g | g
              · rw [g] at hk2; exact absurd hk2 (by decide)
              · exact g
              · rw [g] at hk2; exact absurd hk2 (by decide)
            · intro z
              rw [z] at hk2
              by_cases q : ek (x.2.1 i) = 3
              · exact q
              · rw [if_neg q] at hk2
                split at hk2 <;> exact absurd hk2 (by decide))
          have eK : ∀ q, KR q → sg (sBack x (ek (x.2.1 i)) (ex (x.2.1 i)) (ey (x.2.1 i)) sb) 0 q = sg sb 0 q := fun q hq => by
            unfold sBack
            split
            · unfold sFailed
              split
              · rfl
              · split
                · exact kr_go hq
                · exact kr_fail (by omega) hq
            · unfold sEnded
              split
              · rfl
              · split
                · exact kr_go hq
                · split
                  · exact kr_go hq
                  · rw [kr_go hq]; exact kr_st hq (Or.inl (by decide))
          rw [eK 40 (by unfold KR; omega), eK 41 (by unfold KR; omega), eb 0 41 (by omega)]
          exact ⟨m1, E, by rw [bd_t f1], f2, fun _ => hE, by omega, by omega⟩
  obtain ⟨m1, E1, hq1, hq2, hq3, hq4, hq5⟩ := hnote
  rw [hq1]
  have e10N : sg (sNote x (ek (x.2.1 i)) (ex (x.2.1 i)) (ey (x.2.1 i)) (st (st s 0 28 i) 0 11 (i + 1))) 0 10 = sg s 0 10 := (kp_note (by rw [eb _ _ (by omega)]; exact h5.1) (by unfold KQ; omega)).trans (eb _ _ (by omega))
  have e28N : sg (sNote x (ek (x.2.1 i)) (ex (x.2.1 i)) (ey (x.2.1 i)) (st (st s 0 28 i) 0 11 (i + 1))) 0 28 = i := (kp_note (by rw [eb _ _ (by omega)]; exact h5.1) (by unfold KQ; omega)).trans e28
  clear hq1
  generalize sNote x (ek (x.2.1 i)) (ex (x.2.1 i)) (ey (x.2.1 i)) (st (st s 0 28 i) 0 11 (i + 1)) = sn1 at *
  unfold fj_X12_takes_126
  rw [bp_t (goes_r' hq2)]
  have hTk : TkW x (st sn1 0 29 0) := by
    unfold TkW
    rw [st_g, if_neg (by omega), e28N]
    exact ⟨ii0, i1, aw⟩
  have hW0 : SW x (st sn1 0 29 0) (B + 1) := n1.s29 (by decide) (by decide)
  have hO0 : OW (st sn1 0 29 0) := n4.sx (by omega)
  have e40s : sg (st sn1 0 29 0) 0 40 = sg sn1 0 40 := by rw [st_g, if_neg (by omega)]
  have e29s : sg (st sn1 0 29 0) 0 29 = 0 := by rw [st_g, if_pos ⟨rfl, rfl⟩]
  by_cases hgn : goes sn1 = true
  · rw [if_pos hgn, if_neg (by decide)]
    have hR1 := hq2.rr (goes_s hgn).1
    have hR2 : RR M (mset m1 68 113 0) x (st sn1 0 29 0) rh E1 (sg sn1 0 40) := hR1.p0 (by omega)
    have h6n := n1.2.2.2.2.2.1.1
    have hGS : GS M (mset m1 68 113 0) x G r ty ver rh rc (st sn1 0 29 0) E1 (sg sn1 0 40) (B + 1) Q := by
      refine ⟨⟨Or.inl ⟨by rw [st_g, if_neg (by omega)]; exact (goes_s hgn).1, by rw [e29s, Int.add_zero]; exact hR2⟩, hq2.2.st (by omega)⟩, ⟨R1, A, by rw [st_g, if_neg (by omega), e10N]; exact q117, hs, hX, hcw⟩, hW0, n2.sx h6n (by omega), n3.sx (by omega), hTk, by rw [st_g, if_neg (by omega), e28N]; exact q118, by rw [st_g, if_neg (by omega)]; omega, fun n => Int.lt_of_le_of_lt (on_nl hcw hs hNN.1 hx5 hW0 hTk hO0 n) hn, hQs⟩
    have hFX : FX M x rc rh E1 (sg sn1 0 40) Q := ⟨hF1, hq3 hgn, hx5, h4, hy, by omega, hQ⟩
    obtain ⟨m2, B2, z1, z2, z3⟩ := goOn_r hFX hGS e29s (by omega)
    rw [goOn_idem] at z1
    refine ⟨m2, E1, sg (sOn x 1000 (st sn1 0 29 0)) 0 29, by rw [bd_t z1], ?_, fun _ => hq3 hgn⟩
    have e4 := on_40 (x := x) 1000 (st sn1 0 29 0) (by rw [st_g, if_neg (by omega)]; exact n1.2.2.2.2.2.2.2.1.1) (fun j => (on_all hcw hs hNN.1 hx5 j _ _ hW0 hTk hO0).1.2.2.2.2.2.2.2.1.1)
    have e5 : sg (sOn x 1000 (st sn1 0 29 0)) 0 40 = sg sn1 0 40 + sg (sOn x 1000 (st sn1 0 29 0)) 0 29 := by omega
    have es : st (sOn x 1000 (st sn1 0 29 0)) 0 29 (sg (sOn x 1000 (st sn1 0 29 0)) 0 29) = sOn x 1000 (st sn1 0 29 0) := Prod.ext mset_same rfl
    rw [e5, es]
    exact z2.1
  · rw [if_neg hgn, if_pos rfl]
    have hng : ¬ goes (st sn1 0 29 0) = true := by rw [goes_st29]; exact hgn
    rw [on_stop (Or.inr hng), e40s]
    have es : st (st sn1 0 29 0) 0 29 (sg sn1 0 29) = sn1 := by
      refine Prod.ext ?_ rfl
      funext b j
      show mset (mset sn1.1 0 29 0) 0 29 (sn1.1 0 29) b j = sn1.1 b j
      unfold mset
      by_cases q : b = 0 ∧ j = 29
      · rw [if_pos q, q.1, q.2]
      · rw [if_neg q, if_neg q]
    refine ⟨m1, E1, sg sn1 0 29, rfl, ?_, fun g => absurd g hng⟩
    rw [es]
    exact hq2
end RF24
