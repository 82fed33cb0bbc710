/-! THE TELLING in the reference: branches are dropped. -/
section RF19
variable {m0 m m' : MM} {x : CX} {s s' : TS} {B H : Int} {a b c e i j v k h n l w p r t o rh E ty ver rc : Int} {G : Int → Nat}
theorem Fix.tfr (hF : Fix m0) (h : TFr m0 m) : Fix m := by
  refine ⟨by rw [h 0 0 (fun hh => by rcases hh with ⟨g, -⟩ | ⟨g, -⟩ <;> omega)]; exact hF.1, fun q hq => ?_⟩
  obtain ⟨h1, h2, h3⟩ := hF.2 q hq
  have h4 := fixk_lt q hq
  have key : ∀ q ∈ fixk, ∀ p ∈ q.2.2.2, ¬ (q.1 = 68 ∧ (p.1 = 91 ∨ p.1 = 92 ∨ p.1 = 103 ∨ p.1 = 105 ∨ (110 ≤ p.1 ∧ p.1 ≤ 116) ∨ p.1 = 120 ∨ p.1 = 125 ∨ p.1 = 126)) ∧ ¬ (142 ≤ q.1 ∧ q.1 ≤ 159) := by decide +kernel
  refine ⟨by rw [h q.1 (-1) (fun hh => by rcases hh with ⟨-, g⟩ | ⟨-, -, g⟩ <;> omega)]; exact h1, by rw [h q.1 (-2) (fun hh => by rcases hh with ⟨-, g⟩ | ⟨-, -, g⟩ <;> omega)]; exact h2, fun p hp => ?_⟩
  obtain ⟨k1, k2⟩ := key q hq p hp
  rw [h q.1 p.1 (fun hh => by
    rcases hh with g | ⟨g1, g2, -⟩
    · exact k1 g
    · exact k2 ⟨g1, g2⟩)]
  exact h3 p hp
theorem cmd_fr {z : Int} (hF : Fix m) (h : fm_X12_commands k a b m = some (z, m')) (ha : 143 ≤ p) (hb : p ≤ 151) (hj : 0 ≤ j) : m' p j = m p j := by
  have f := fw_X12_commands hF h
  refine f.2.2.2.1 p j (by omega) (by have := hF.1; omega) hj fun hw => ?_
  rcases hw with hw | ⟨w, hw, hw2⟩
  · omega
  · simp only [fW_X12_commands, List.mem_cons, List.not_mem_nil, or_false] at hw
    rcases hw with rfl | rfl | rfl | rfl | rfl | rfl | rfl <;> (rcases hw2.1 with ⟨-, g⟩ | ⟨g, -⟩ | ⟨g, -⟩ <;> simp only at g <;> omega)
theorem below_r (h : RP m s) (hI : SI s) (hb : sg s 0 6 ≤ 196608) (p0 : -1 ≤ p) (p1 : p < sg s 0 6) : fm_X12_isBelow p o m = some (if wkr s (eqq o) p = o then 1 else 0) := by
  have key : ∀ (K : Int → Option Int) (n f : Nat) (p : Int), -1 ≤ p → p < sg s 0 6 → p < n → n < f → fl_X12_isBelow_2 o m K f p = K (wkr s (eqq o) p) := by
    intro K n
    induction n with
    | zero =>
      intro f p h0 h1 h2 h3
      obtain ⟨f, rfl⟩ : ∃ g, f = g + 1 := ⟨f - 1, by omega⟩
      have hp : p = -1 := by omega
      unfold fl_X12_isBelow_2
      rw [if_pos hp, hp, wkr_m]
    | succ n ih =>
      intro f p h0 h1 h2 h3
      obtain ⟨f, rfl⟩ : ∃ g, f = g + 1 := ⟨f - 1, by omega⟩
      unfold fl_X12_isBelow_2
      by_cases hp : p = -1
      · rw [if_pos hp, hp, wkr_m]
      · have hb1 := hI.2 p (by omega) h1
        rw [if_neg hp, wkr_u hI (by omega) h1]
        unfold eqq
        by_cases c : p = o
        · rw [if_pos c, if_pos (by simpa using c)]
        · rw [if_neg c, if_neg (by simpa using c), gd_t ⟨by omega, by omega⟩, lx_p, h p (by omega) h1]
          exact ih f _ hb1.1 (by omega) (by omega) (by omega)
  unfold fm_X12_isBelow
  rw [key _ (p + 1).toNat BIG p p0 p1 (by omega) (BIG_g (by omega))]
  split <;> rfl
theorem RE.stp (h : RE m0 m x s rh E H) (h1 : sg s 0 30 = 1) (ha : mtb a j) (h68 : a ≠ 68) : RE m0 (mset m a j v) x s rh E H := by
  rcases h with ⟨g, -⟩ | ⟨g1, g2, g3, g4, g5, g6⟩
  · omega
  · exact Or.inr ⟨g1.ms ha, g2, by rw [ms_a (fun g => h68 g.symm)]; exact g3, by rw [ms_a (fun g => h68 g.symm)]; exact g4, by rw [ms_a (fun g => h68 g.symm)]; exact g5, by rw [ms_a (fun g => h68 g.symm)]; exact g6⟩
/-- stuck: what else the plain state says is free -/
theorem RE.any (h : RE m0 m x s rh E H) (h1 : sg s 0 30 = 1) (e30 : sg s' 0 30 = 1) (e31 : sg s' 0 31 = sg s 0 31) : RE m0 m x s' rh E H := by
  rcases h with ⟨g, -⟩ | ⟨g1, g2, g3, g4, g5, g6⟩
  · omega
  · exact Or.inr ⟨g1, e30, g3, by rw [e31]; exact g4, g5, g6⟩
/-- what a doomed branch waits for is free -/
theorem RR.dm (h : RR m0 m x s rh E H) (h0 : 0 ≤ k) (h1 : k < sg s 0 5) (h9 : sg s (2 + k) 9 ≠ 0) : RR m0 (mset m 145 k v) x s rh E H := by
  obtain ⟨b1, b2, b3, b4, b5, b6, b7, b8⟩ := h.br h0 h1
  have em : ∀ p q : Int, ¬ (143 ≤ p ∧ p ≤ 151 ∧ q = k) → mset m 145 k v p q = m p q := fun p q hh => if_neg (by omega)
  have ek : ∀ p : Int, p ≠ 145 → mset m 145 k v p k = m p k := fun p q1 => ms_a q1
  refine h.bup h0 h1 em (fun _ _ _ => rfl) (fun _ _ => rfl) rfl rfl ⟨?_, ?_, ?_, ?_, ?_, ?_, b7, fun g => absurd g h9⟩
  · rw [ek _ (by decide)]; exact b1
  · rw [ek _ (by decide)]; exact b2
  · rw [ek _ (by decide)]; exact b3
  · rw [ek _ (by decide)]; exact b4
  · rw [ek _ (by decide)]; exact h.chk em b5
  · unfold RivR at b6 ⊢
    rw [ek _ (by decide)]
    exact b6
/-- marks of doom alone -/
theorem RR.e9 (h : RR m0 m x s rh E H) (hE : E9 s s') (hN : ND s) : RR m0 m x s' rh E H := by
  obtain ⟨hT, hS, hV, hP, hB, hQ, hU, hN', hC, hH⟩ := h
  have e0 : ∀ i, sg s' 0 i = sg s 0 i := fun i => hE.1 0 i (by omega)
  have en : sn s' = sn s := by unfold sn; rw [hE.2]
  have eu : su s' = su s := by unfold su; rw [hE.2]
  have eh : ∀ k, sh s' k = sh s k := fun k => by unfold sh; rw [hE.2]
  have eq : ∀ n, sq s' n = sq s n := fun n => by unfold sq; rw [hE.2]
  have enl : nl s' = nl s := by unfold nl; rw [en]
  refine ⟨hT, ?_, fun a g1 g2 => by rw [hE.1 _ _ (by omega)]; exact hV a g1 g2, fun n g1 g2 => by rw [hE.1 _ _ (by omega)]; exact hP n g1 (by rw [e0] at g2; exact g2), ⟨by rw [e0]; exact hB.1, fun k g1 g2 => ?_⟩, fun n g1 g2 => by rw [eq, e0]; exact hQ n g1 g2, by unfold RU; rw [eu]; exact hU, by unfold RN; rw [en]; exact hN', ?_, ?_⟩
  · unfold RS at hS ⊢
    simp only [e0, enl]
    exact hS
  · rw [e0] at g2
    obtain ⟨b1, b2, b3, b4, b5, b6, b7, b8⟩ := hB.2 k g1 g2
    have es : ∀ q : Int, q ≠ 9 → sg s' (2 + k) q = sg s (2 + k) q := fun q hq => hE.1 _ _ (Or.inr hq)
    have ep : ∀ q : Int, sg s' (-1) q = sg s (-1) q := fun q => hE.1 _ _ (Or.inl (by decide))
    unfold BrR RivR at *
    rw [es 0 (by decide), es 4 (by decide), es 5 (by decide), es 6 (by decide), es 3 (by decide), es 1 (by decide), es 7 (by decide), es 8 (by decide), ep, eh, e0, e0]
    refine ⟨b1, b2, b3, b4, b5, b6.imp id fun g => ⟨g.1, g.2.1, fun i i1 i2 => ?_⟩, b7, fun _ => b8 (hN k g1 g2)⟩
    rw [hE.1 _ _ (Or.inr (by decide))]
    exact g.2.2 i i1 i2
  · unfold PT at hC ⊢
    rw [e0, e0]
    exact hC
  · unfold RH at hH ⊢
    rw [e0, eu]
    exact hH
theorem lets_fr (h : fm_X12_lets k m = some (v, m')) (hF : Fix m) (hj : 0 ≤ j) (hk : j ≠ k ∨ p ≠ 145) (ha : 143 ≤ p) (hb : p ≤ 151) : m' p j = m p j := by
  have one : fj_X12_lets_20 k m = some (v, m') → m' p j = m p j := by
    intro h
    unfold fj_X12_lets_20 at h
    obtain ⟨hg, h⟩ := gd_s h
    rw [lx_p] at h
    obtain ⟨z, m1, h1, h⟩ := bd_s h
    rw [up_t] at h
    cases h
    rw [show mset m1 145 k 0 p j = m1 p j from if_neg (by omega)]
    exact cmd_fr hF h1 ha hb hj
  unfold fm_X12_lets at h
  obtain ⟨hg, h⟩ := gd_s h
  rw [lx_p] at h
  split at h
  · exact one h
  · split at h
    · exact one h
    · rw [up_t] at h
      cases h
      exact if_neg (by omega)
theorem cmd_neg (hW : SW x s B) (hs : x.1 3 ≤ x.1 0) (hN : 0 ≤ x.1 0) (h30 : sg s 0 30 = 0) : (sCmd x k a b s).1 < 0 ↔ sg (sCmd x k a b s).2 0 30 = 1 := by
  have hr := cmd_r (c := k) (a := a) (b := b) hW hs hN
  rcases hr with ⟨g1, g2, -⟩ | ⟨g1, g2, g3, g4⟩
  · exact ⟨fun _ => g2, fun _ => by omega⟩
  · exact ⟨fun _ => by omega, fun _ => by omega⟩
def sLet (x : CX) (k : Int) (s : TS) : TS := if sg s (2 + k) 7 = 1 ∨ sg s (2 + k) 7 = 2 then (sCmd x 11 (sg s (2 + k) 8) 0 s).2 else s
theorem let_g {p q : Int} (h : p ≠ 0 ∨ (q ≠ 12 ∧ q ≠ 30 ∧ q ≠ 31)) : sg (sLet x k s) p q = sg s p q := by
  unfold sLet
  split
  · exact cmd_g h
  · rfl
theorem w_let (hs : x.1 3 ≤ x.1 0) (hW : SW x s B) : SW x (sLet x k s) B := by
  unfold sLet
  split
  · exact hW.cmd hs
  · exact hW
theorem u_let (h : sg (sLet x k s) 0 30 = 0) : sg s 0 30 = 0 := by
  unfold sLet at h
  split at h
  · exact u_cmd h
  · exact h
theorem nl_let : nl s ≤ nl (sLet x k s) := by
  unfold sLet
  split
  · exact nl_cmd
  · exact Int.le_refl _
theorem Cg.lt : Cg s (sLet x k s) := Cg.of fun p i hh => let_g (by omega)
/-- what a branch waits for is dropped; of a branch of which the row tells it -/
theorem lets_0 (h : RR m0 m x s rh E H) (X : RX m0 x G r ty ver rh rc s) (hW : SW x s B) (h30 : sg s 0 30 = 0) (hA : A2 x s rh) (hK : KI x s (sLet x k s) rc) (k0 : 0 ≤ k) (k1 : k < sg s 0 5) (hn : nl s < 65536) (e5 : m 145 k = wmp (sg s (2 + k) 7)) (e6 : (sg s (2 + k) 7 = 1 ∨ sg s (2 + k) 7 = 2) → m 146 k = sg s (2 + k) 8) : ∃ m1, fm_X12_lets k m = some (0, mset m1 145 k 0) ∧ RG m0 m1 x (sLet x k s) rh E H := by
  have h5 := hW.2.2.2.2.2.2.2.1
  have hs := X.2.2.2.1
  have hNx := X.2.2.2.2.1
  have hN := X.1.2.2.2.2.2.2.2.2.1
  have hnn : nl s = ((sn s).length : Int) := rfl
  unfold fm_X12_lets
  rw [gd_t ⟨k0, by omega⟩, lx_p, e5]
  unfold sLet at hK ⊢
  by_cases c : sg s (2 + k) 7 = 1 ∨ sg s (2 + k) 7 = 2
  · rw [if_pos c] at hK ⊢
    have hwf := (hW.br k0 k1).2.2.2.2.1 c h30
    obtain ⟨m1, z, c1, c2, c3, c4⟩ := rcmd (k := 11) (a := sg s (2 + k) 8) (b := 0) h X.1 X.2.1 hW h30 X.2.2.1 hA hK (by decide) (by decide) hwf.1 (by omega) (by decide) (by decide) hn
    have hl : fj_X12_lets_20 k m = some (0, mset m1 145 k 0) := by
      unfold fj_X12_lets_20
      rw [gd_t ⟨k0, by omega⟩, lx_p, e6 c, bd_t c1, up_t]
    refine ⟨m1, ?_, c2, c4⟩
    by_cases q1 : sg s (2 + k) 7 = 1
    · rw [if_pos (wmp1.mpr q1), hl]
    · rw [if_neg (fun g => q1 (wmp1.mp g)), if_pos (wmp4.mpr (by omega)), hl]
  · rw [if_neg c] at hK ⊢
    rw [if_neg (fun g => c (Or.inl (wmp1.mp g))), if_neg (fun g => c (Or.inr (wmp4.mp g))), up_t]
    exact ⟨m, rfl, Or.inl ⟨h30, h⟩, hA⟩
theorem drop1_u {n : Nat} : sDrop1 x (n + 1) k s = if k < sg s 0 5 then (if goes s = true then sDrop1 x n (k + 1) (if sg s (2 + k) 9 ≠ 0 then sLet x k s else s) else s) else s := by
  unfold sLet
  conv => lhs; unfold sDrop1
  by_cases c1 : k < sg s 0 5
  · rw [if_pos c1, if_pos c1]
    by_cases c2 : goes s = true
    · rw [if_pos c2, if_pos c2]
      by_cases c3 : sg s (2 + k) 9 = 0
      · rw [if_neg (fun g => g.1 c3), if_neg (fun g => g c3)]
      · rw [if_pos c3]
        by_cases c4 : sg s (2 + k) 7 = 1 ∨ sg s (2 + k) 7 = 2
        · rw [if_pos ⟨c3, c4⟩, if_pos c4]
        · rw [if_neg (fun g => c4 g.2), if_neg c4]
    · rw [if_neg c2, if_neg c2]
  · rw [if_neg c1, if_neg c1]
theorem RE.tf (h : RE m0 m x s rh E H) : TFr m0 m := by
  rcases h with ⟨-, g⟩ | g
  · exact g.1
  · exact g.1
theorem drop1_r {K : MM → Option (Int × MM)} (hF0 : Fix m0) : ∀ (n f : Nat) (k : Int) (s : TS) (m : MM), 0 ≤ k → k + n = 13 → n < f → RE m0 m x s rh E H → (sg s 0 30 = 0 → ∀ j : Int, k ≤ j → j < sg s 0 5 → m 145 j = wmp (sg s (2 + j) 7) ∧ ((sg s (2 + j) 7 = 1 ∨ sg s (2 + j) 7 = 2) → m 146 j = sg s (2 + j) 8)) → RX m0 x G r ty ver rh rc s → SW x s B → A2 x s rh → KI x s (sDrop1 x n k s) rc → SI s → DM s o → sg s 0 6 ≤ 196608 → nl (sDrop1 x n k s) < 65536 → ∃ m', fl_X12_dropsBranch_2 o K f k m = K m' ∧ RG m0 m' x (sDrop1 x n k s) rh E H := by
  intro n
  induction n with
  | zero =>
    intro f k s m k0 k1 f0 h h4 X hW hA hK hI hD hb hn
    obtain ⟨f, rfl⟩ : ∃ g, f = g + 1 := ⟨f - 1, by omega⟩
    have hF := Fix.tfr hF0 h.tf
    have h91 : m 68 91 ≤ 12 := by
      rcases h with ⟨-, g⟩ | g
      · exact g.n91.2.1
      · exact g.2.2.2.2.2
    refine ⟨m, ?_, h, hA⟩
    unfold fl_X12_dropsBranch_2
    rw [lx_p, if_neg (by omega)]
  | succ n ih =>
    intro f k s m k0 k1 f0 h h4 X hW hA hK hI hD hb hn
    obtain ⟨f, rfl⟩ : ∃ g, f = g + 1 := ⟨f - 1, by omega⟩
    have hF := Fix.tfr hF0 h.tf
    have h5 := hW.2.2.2.2.2.2.2.1
    have hs := X.2.2.2.1
    rw [drop1_u] at hK hn ⊢
    unfold fl_X12_dropsBranch_2
    rw [lx_p]
    by_cases hg : goes s = true
    · obtain ⟨h30, hov⟩ := goes_s hg
      have hR : RR m0 m x s rh E H := by
        rcases h with ⟨-, g⟩ | g
        · exact g
        · exfalso; have := g.2.1; omega
      rw [hR.n91.2.2]
      by_cases c1 : k < sg s 0 5
      · rw [if_pos c1, if_pos hg] at hK hn
        rw [if_pos c1, if_pos c1, if_pos hg, bp_t (goes_r h), if_pos hg, if_neg (by decide), gd_t ⟨k0, by omega⟩, lx_p, (hR.br k0 c1).1]
        have hw := (hW.br k0 c1).1
        rw [bp_t (below_r hR.2.2.2.1 hI hb (by omega) hw.2)]
        have hd : sg s (2 + k) 9 ≠ 0 ↔ wkr s (eqq o) (sg s (2 + k) 0) = o := hD k k0 c1
        obtain ⟨q5, q6⟩ := h4 h30 k (Int.le_refl _) c1
        by_cases c9 : sg s (2 + k) 9 ≠ 0
        · rw [if_pos c9] at hK hn ⊢
          rw [if_pos (hd.mp c9), if_neg (by decide)]
          obtain ⟨m1, f1, f2, f3⟩ := lets_0 hR X hW h30 hA (fun g1 g2 => u_drop1 _ _ _ (hK g1 g2)) k0 c1 (Int.lt_of_le_of_lt (Int.le_trans nl_let (nl_drop1 _ _ _)) hn) q5 q6
          rw [bd_t f1, lx_p, w32_id (by omega) (by omega)]
          have e5 : sg (sLet x k s) 0 5 = sg s 0 5 := let_g (by omega)
          have e6 : sg (sLet x k s) 0 6 = sg s 0 6 := let_g (by omega)
          have e10 : sg (sLet x k s) 0 10 = sg s 0 10 := let_g (by omega)
          refine ih f (k + 1) (sLet x k s) _ (by omega) (by omega) (by omega) ?_ (fun g30 j j0 j1 => ?_) (X.to e10) (w_let hs hW) f3 (fun g1 g2 => by rw [e10] at g1 g2; exact hK g1 g2) (Cg.lt.si hI) (DM.cg Cg.lt (fun j j0 => let_g (Or.inl (by omega))) hD) (by rw [e6]; exact hb) hn
          · rcases f2 with ⟨g30, g⟩ | g
            · exact Or.inl ⟨g30, g.dm k0 (by rw [e5]; exact c1) (by rw [let_g (Or.inl (by omega))]; exact c9)⟩
            · exact (RE.stp (Or.inr g) g.2.1 (mtb1 (by decide) (by decide) k0) (by decide))
          · rw [e5] at j1
            obtain ⟨z5, z6⟩ := h4 h30 j (by omega) j1
            rw [let_g (Or.inl (by omega)), let_g (Or.inl (by omega)), lets_fr f1 hF (by omega) (by omega) (by decide) (by decide), lets_fr f1 hF (by omega) (by omega) (by decide) (by decide)]
            exact ⟨z5, z6⟩
        · rw [if_neg c9] at hK hn ⊢
          rw [if_neg (fun g => c9 (hd.mpr g)), if_pos rfl, lx_p, w32_id (by omega) (by omega)]
          exact ih f (k + 1) s m (by omega) (by omega) (by omega) h (fun g30 j j0 j1 => h4 g30 j (by omega) j1) X hW hA hK hI hD hb hn
      · rw [if_neg c1, if_neg c1]
        exact ⟨m, rfl, h, hA⟩
    · have e : (if k < sg s 0 5 then (if goes s = true then sDrop1 x n (k + 1) (if sg s (2 + k) 9 ≠ 0 then sLet x k s else s) else s) else s) = s := by
        by_cases c1 : k < sg s 0 5
        · rw [if_pos c1, if_neg hg]
        · rw [if_neg c1]
      rw [e]
      refine ⟨m, ?_, h, hA⟩
      rw [bp_t (goes_r h), if_neg hg, if_pos rfl]
      split <;> rfl
theorem drop2_s : ∀ (n : Nat) (k : Int) (s : TS), sg (sDrop2 n k s) 0 31 = sg s 0 31 ∧ sg (sDrop2 n k s) 0 10 = sg s 0 10 ∧ sg (sDrop2 n k s) 0 12 = sg s 0 12 ∧ sg (sDrop2 n k s) 0 9 = sg s 0 9 := by
  intro n
  induction n with
  | zero => intro k s; exact ⟨rfl, rfl, rfl, rfl⟩
  | succ n ih =>
    intro k s
    unfold sDrop2
    split
    · exact ⟨rfl, rfl, rfl, rfl⟩
    · split
      · exact ih _ _
      · obtain ⟨g1, g2, g3, g4⟩ := ih (k - 1) (sRem k s)
        exact ⟨g1.trans (rem_o (Or.inl ⟨rfl, by decide, by decide⟩)), g2.trans (rem_o (Or.inl ⟨rfl, by decide, by decide⟩)), g3.trans (rem_o (Or.inl ⟨rfl, by decide, by decide⟩)), g4.trans (rem_o (Or.inl ⟨rfl, by decide, by decide⟩))⟩
theorem drop2_r (hE : 12 ≤ E) : ∀ (n f : Nat) (k : Int) (s : TS) (m : MM), -1 ≤ k → k < sg s 0 5 → k + 1 < n → n ≤ f → RR m0 m x s rh E H → goes s = true → SW x s B → SI s → DM s o → sg s 0 6 ≤ 196608 → ∃ m', fl_X12_dropsBranch_49 o f k m = some (0, m') ∧ RR m0 m' x (sDrop2 n k s) rh E H := by
  intro n
  induction n with
  | zero => intro f k s m h0 h1 h2; omega
  | succ n ih =>
    intro f k s m h0 h1 h2 h3 h hg hW hI hD hb
    obtain ⟨f, rfl⟩ : ∃ g, f = g + 1 := ⟨f - 1, by omega⟩
    have h5 := hW.2.2.2.2.2.2.2.1
    obtain ⟨h30, hov⟩ := goes_s hg
    unfold fl_X12_dropsBranch_49 sDrop2
    by_cases c0 : k < 0
    · rw [if_pos c0, if_pos c0]
      exact ⟨m, rfl, h⟩
    · have hw := (hW.br (k := k) (by omega) h1).1
      rw [if_neg c0, if_neg c0, bp_t (goes_r (Or.inl ⟨h30, h⟩)), if_pos hg, if_neg (by decide), gd_t ⟨by omega, by omega⟩, lx_p, (h.br (by omega) h1).1, bp_t (below_r h.2.2.2.1 hI hb (by omega) hw.2)]
      have hd : sg s (2 + k) 9 ≠ 0 ↔ wkr s (eqq o) (sg s (2 + k) 0) = o := hD k (by omega) h1
      by_cases c9 : sg s (2 + k) 9 = 0
      · rw [if_pos c9, if_neg (fun g => (hd.mpr g) c9), if_pos rfl, lx_p, w32_id (by omega) (by omega)]
        exact ih f (k - 1) s m (by omega) (by omega) (by omega) (by omega) h hg hW hI hD hb
      · rw [if_neg c9, if_pos (hd.mp c9), if_neg (by decide)]
        obtain ⟨m1, f1, f2⟩ := rrem h hE hW (by omega) h1
        have hg1 : goes (sRem k s) = true := by
          unfold goes
          rw [u_rem, rem_o (Or.inl ⟨rfl, by decide, by decide⟩), h30, hov]
          rfl
        rw [bd_t f1, lx_p, w32_id (by omega) (by omega)]
        exact ih f (k - 1) _ m1 (by omega) (by rw [rem_5]; omega) (by omega) (by omega) f2 hg1 (hW.rem (by omega) h1) (rem_si hI) hD.rem (by rw [rem_o (Or.inl ⟨rfl, by decide, by decide⟩)]; exact hb)
/-- a branch is dropped, with all below it -/
theorem drops_r (h : RR m0 m x s rh E H) (hF0 : Fix m0) (hE : 12 ≤ E) (h4 : ∀ j : Int, 0 ≤ j → j < sg s 0 5 → m 145 j = wmp (sg s (2 + j) 7) ∧ ((sg s (2 + j) 7 = 1 ∨ sg s (2 + j) 7 = 2) → m 146 j = sg s (2 + j) 8)) (X : RX m0 x G r ty ver rh rc s) (hW : SW x s B) (h30 : sg s 0 30 = 0) (hA : A2 x s rh) (hK : KI x s (sDrop x s) rc) (hI : SI s) (hD : DM s o) (hb : sg s 0 6 ≤ 196608) (hn : nl (sDrop x s) < 65536) (hov : sg s 0 9 = 0) : ∃ m', fm_X12_dropsBranch o m = some (0, m') ∧ RG m0 m' x (sDrop x s) rh E H := by
  have hs := X.2.2.2.1
  have eN : nl (sDrop x s) = nl (sDrop1 x 13 0 s) := nl_drop2 _ _ _
  have e30 : sg (sDrop x s) 0 30 = sg (sDrop1 x 13 0 s) 0 30 := u_drop2 _ _ _
  obtain ⟨m1, f1, f2, f3⟩ := drop1_r (K := fun m_84 => lx (m_84 68 91) fun x_92 => lx (w32 (x_92 - 1)) fun x_98 => fl_X12_dropsBranch_49 o BIG x_98 m_84) hF0 13 BIG 0 s m (by decide) rfl (by decide) (Or.inl ⟨h30, h⟩) (fun _ j j0 j1 => h4 j j0 j1) X hW hA (fun g1 g2 => by rw [← e30]; exact hK g1 g2) hI hD hb (by rw [← eN]; exact hn)
  have hW1 : SW x (sDrop1 x 13 0 s) B := w_drop1 hs _ _ _ hW
  have h5 := hW1.2.2.2.2.2.2.2.1
  have hs2 : sDrop x s = sDrop2 13 (sg (sDrop1 x 13 0 s) 0 5 - 1) (sDrop1 x 13 0 s) := rfl
  have hcg : ∀ (n : Nat) (k : Int) (s : TS), 0 ≤ k → Cg s (sDrop1 x n k s) ∧ (∀ j : Int, 0 ≤ j → sg (sDrop1 x n k s) (2 + j) 9 = sg s (2 + j) 9) ∧ sg (sDrop1 x n k s) 0 9 = sg s 0 9 := by
    intro n
    induction n with
    | zero => intro k s _; exact ⟨Cg.rf, fun _ _ => rfl, rfl⟩
    | succ n ih =>
      intro k s k0
      rw [drop1_u]
      split
      · split
        · by_cases c9 : sg s (2 + k) 9 ≠ 0
          · rw [if_pos c9]
            obtain ⟨g1, g2, g3⟩ := ih (k + 1) (sLet x k s) (by omega)
            exact ⟨Cg.lt.tr g1, fun j j0 => (g2 j j0).trans (let_g (Or.inl (by omega))), g3.trans (let_g (by omega))⟩
          · rw [if_neg c9]
            exact ih (k + 1) s (by omega)
        · exact ⟨Cg.rf, fun _ _ => rfl, rfl⟩
      · exact ⟨Cg.rf, fun _ _ => rfl, rfl⟩
  obtain ⟨d1, d2, d3⟩ := hcg 13 0 s (by decide)
  have hdef : fm_X12_dropsBranch o m = (lx (m1 68 91) fun x_92 => lx (w32 (x_92 - 1)) fun x_98 => fl_X12_dropsBranch_49 o BIG x_98 m1) := f1
  rw [hdef]
  simp only [lx_p]
  have hA2 : A2 x (sDrop x s) rh := by
    rw [hs2]
    obtain ⟨g1, g2, g3, g4⟩ := drop2_s 13 (sg (sDrop1 x 13 0 s) 0 5 - 1) (sDrop1 x 13 0 s)
    exact f3.to g2 g3
  rcases f2 with ⟨g30, g⟩ | ⟨g1, g2, g3, g4, g5, g6⟩
  · have hg : goes (sDrop1 x 13 0 s) = true := by
      unfold goes
      rw [g30, d3, hov]
      rfl
    rw [g.n91.2.2, w32_id (by omega) (by omega)]
    obtain ⟨m2, z1, z2⟩ := drop2_r (o := o) hE 13 BIG (sg (sDrop1 x 13 0 s) 0 5 - 1) _ m1 (by omega) (by omega) (by omega) (by decide) g hg hW1 (d1.si hI) (DM.cg d1 d2 hD) (by rw [d1.2.1]; exact hb)
    exact ⟨m2, z1, Or.inl ⟨by rw [e30]; exact g30, z2⟩, hA2⟩
  · have hng : ¬ goes (sDrop1 x 13 0 s) = true := fun z => by have := (goes_s z).1; omega
    refine ⟨m1, ?_, Or.inr ⟨g1, by rw [e30]; exact g2, g3, by rw [hs2, (drop2_s _ _ _).1]; exact g4, g5, g6⟩, hA2⟩
    rw [w32_id (by omega) (by omega)]
    have hB0 : 0 < BIG := BIG_g (by omega)
    obtain ⟨f, hf⟩ : ∃ g, BIG = g + 1 := ⟨BIG - 1, by omega⟩
    rw [hf]
    unfold fl_X12_dropsBranch_49
    rw [bp_t (goes_r (Or.inr ⟨g1, g2, g3, g4, g5, g6⟩ : RE m0 m1 x (sDrop1 x 13 0 s) rh E H)), if_neg hng, if_pos rfl]
    split <;> rfl
end RF19
