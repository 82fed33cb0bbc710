/-! THE REFERENCE'S ENGINE: timers fire. -/
section RXU1
variable {m m' M : MM} {e e' e2 : ES} {a b c i j k o r v w p t s x y n ev due q A B N : Int} {l : List Int}
/-- what a tick finds of timers: sorted by events, no run of theirs is over -/
def TmS (e : ES) : Prop := ∀ r : Int, 0 ≤ r → r < e.1 7 2 → ((eL e (73000 + r)).length = (eL e (74000 + r)).length ∧ ∀ v ∈ eL e (73000 + r), 0 ≤ v ∧ v < 524288) ∧ (eL e (73000 + r)).Pairwise (· < ·) ∧ (eL e (73000 + r) ≠ [] → ¬ Dead e r)
theorem erP {α : Type} : ∀ (l : List α) (k : Nat) (hk : k < l.length), (l[k] :: l.eraseIdx k).Perm l := by
  intro l
  induction l with
  | nil => intro k hk; exact absurd hk (by simp)
  | cons x t ih =>
    intro k hk
    cases k with
    | zero => exact List.Perm.refl _
    | succ k =>
      have hk' : k < t.length := Nat.lt_of_succ_lt_succ hk
      have h1 := ih k hk'
      show (t[k] :: x :: t.eraseIdx k).Perm (x :: t)
      exact (List.Perm.swap x (t[k]) _).trans (h1.cons x)
theorem map_er {α β : Type} {f : α → β} : ∀ (l : List α) (k : Nat), (l.map f).eraseIdx k = (l.eraseIdx k).map f := by
  intro l
  induction l with
  | nil => intro k; rfl
  | cons x t ih =>
    intro k
    cases k with
    | zero => rfl
    | succ k =>
      show f x :: (t.map f).eraseIdx k = f x :: (t.eraseIdx k).map f
      rw [ih]
theorem remT_l (h1 : c ≠ 73000 + r) (h2 : c ≠ 74000 + r) : eL (pRemT r k e) c = eL e c := by
  show eL (eLs (eLs e _ _) _ _) c = _
  rw [eLs_a h2, eLs_a h1]
theorem remT_3 : eL (pRemT r k e) (73000 + r) = (eL e (73000 + r)).eraseIdx k.toNat ∧ eL (pRemT r k e) (74000 + r) = (eL e (74000 + r)).eraseIdx k.toNat := by
  refine ⟨?_, ?_⟩
  · show eL (eLs (eLs e _ _) _ _) _ = _
    rw [eLs_a (by omega), eLs_e]
  · show eL (eLs (eLs e _ _) _ _) _ = _
    rw [eLs_e]
/-- one of a run's goes -/
theorem pT_rem (r0 : 0 ≤ r) (r1 : r < 1000) {z : Int × Int × Int} (hz : (pT1 e r)[k.toNat]? = some z) : ∀ n : Nat, n ≤ 1000 → (r < (n : Int) → (z :: pT (pRemT r k e) n).Perm (pT e n)) ∧ ((n : Int) ≤ r → pT (pRemT r k e) n = pT e n) := by
  have h1 : pT1 (pRemT r k e) r = (pT1 e r).eraseIdx k.toNat := by
    unfold pT1
    rw [remT_3.1, remT_3.2, zip_er, map_er]
  have hk : k.toNat < (pT1 e r).length := by
    by_cases c : k.toNat < (pT1 e r).length
    · exact c
    · rw [List.getElem?_eq_none (by omega)] at hz
      exact absurd hz (by simp)
  have hz2 : (pT1 e r)[k.toNat] = z := by
    rw [List.getElem?_eq_getElem hk] at hz
    exact Option.some.inj hz
  intro n
  induction n with
  | zero => intro _; exact ⟨fun hh => by omega, fun _ => rfl⟩
  | succ n ih =>
    intro hn
    obtain ⟨g1, g2⟩ := ih (by omega)
    have u1 : pT (pRemT r k e) (n + 1) = pT (pRemT r k e) n ++ pT1 (pRemT r k e) (n : Int) := rfl
    have u2 : pT e (n + 1) = pT e n ++ pT1 e (n : Int) := rfl
    rw [u1, u2]
    by_cases c1 : (n : Int) = r
    · refine ⟨fun _ => ?_, fun hh => by omega⟩
      rw [c1, g2 (by omega), h1, ← hz2]
      exact (List.perm_middle.symm).trans ((erP _ _ hk).append_left _)
    · have : pT1 (pRemT r k e) (n : Int) = pT1 e (n : Int) := by
        unfold pT1
        rw [remT_l (by omega) (by omega), remT_l (by omega) (by omega)]
      rw [this]
      exact ⟨fun hh => (g1 (by omega)).append_right _, fun hh => by rw [g2 (by omega)]⟩
theorem pT_mem {z : Int × Int × Int} : ∀ {n : Nat}, z ∈ pT e n ↔ (0 ≤ z.1 ∧ z.1 < (n : Int)) ∧ z ∈ pT1 e z.1 := by
  intro n
  induction n with
  | zero => constructor
            · intro h; exact absurd h (by unfold pT; simp)
            · rintro ⟨h, -⟩; omega
  | succ n ih =>
    rw [show pT e (n + 1) = pT e n ++ pT1 e (n : Int) from rfl, List.mem_append, ih]
    constructor
    · rintro (⟨h1, h2⟩ | h)
      · exact ⟨by omega, h2⟩
      · have := pT1_1 h
        rw [this]
        exact ⟨by omega, h⟩
    · rintro ⟨h1, h2⟩
      by_cases c : z.1 = (n : Int)
      · rw [c] at h2; exact Or.inr h2
      · exact Or.inl ⟨by omega, h2⟩
theorem pT1_mem {z : Int × Int × Int} : z ∈ pT1 e r ↔ z.1 = r ∧ ∃ n : Nat, (eL e (73000 + r))[n]? = some z.2.1 ∧ (eL e (74000 + r))[n]? = some z.2.2 := by
  unfold pT1
  rw [List.mem_map]
  constructor
  · rintro ⟨q, hq, rfl⟩
    obtain ⟨n, hn⟩ := List.getElem?_of_mem hq
    rw [List.getElem?_zip_eq_some] at hn
    exact ⟨rfl, n, hn.1, hn.2⟩
  · rintro ⟨h1, n, h2, h3⟩
    refine ⟨(z.2.1, z.2.2), List.mem_of_getElem? (List.getElem?_zip_eq_some.mpr ⟨h2, h3⟩), ?_⟩
    rw [← h1]
/-- the scan: the least of those that are due -/
def Scn (m : MM) (t k b : Int) : Prop := (b = -1 ∧ ∀ j : Int, 0 ≤ j → j < k → t < m 111 j) ∨ ((0 ≤ b ∧ b < k) ∧ m 111 b ≤ t ∧ ∀ j : Int, 0 ≤ j → j < k → m 111 j ≤ t → m 109 b < m 109 j ∨ (m 109 b = m 109 j ∧ m 110 b ≤ m 110 j))
theorem scnL {K : Int → Option (Int × MM)} (hT : TI m) (ht : m 68 0 = t) : ∀ (n f : Nat) (b k : Int), 0 ≤ k → k ≤ m 68 46 → (m 68 46 - k).toNat = n → n < f → Scn m t k b → ∃ b', fl_X12_fires_10 m K f b k = K b' ∧ Scn m t (m 68 46) b' := by
  intro n
  induction n with
  | zero =>
    intro f b k k0 k1 h1 h2 hB
    obtain ⟨f, rfl⟩ : ∃ g, f = g + 1 := ⟨f - 1, by omega⟩
    unfold fl_X12_fires_10
    rw [lx_p, if_neg (by omega)]
    rw [show k = m 68 46 by omega] at hB
    exact ⟨b, rfl, hB⟩
  | succ n ih =>
    intro f b k k0 k1 h1 h2 hB
    obtain ⟨f, rfl⟩ : ∃ g, f = g + 1 := ⟨f - 1, by omega⟩
    have t5 := hT.2
    have hk : k < m 68 46 := by omega
    have go : ∀ b1 : Int, Scn m t (k + 1) b1 → ∃ b', fl_X12_fires_10 m K f b1 (k + 1) = K b' ∧ Scn m t (m 68 46) b' := fun b1 hb1 => ih f b1 (k + 1) (by omega) (by omega) (by omega) (by omega) hb1
    -- it is not due
    have nd : t < m 111 k → Scn m t (k + 1) b := fun hh => by
      rcases hB with ⟨g1, g2⟩ | ⟨g1, g2, g3⟩
      · refine Or.inl ⟨g1, fun j j0 j1 => ?_⟩
        by_cases cj : j = k
        · rw [cj]; exact hh
        · exact g2 j j0 (by omega)
      · refine Or.inr ⟨by omega, g2, fun j j0 j1 j2 => ?_⟩
        by_cases cj : j = k
        · rw [cj] at j2; omega
        · exact g3 j j0 (by omega) j2
    have h73 : ∀ z : Int, (z = 0 ∨ z = 1) → (z = 1 → m 111 k ≤ t → Scn m t (k + 1) k) → (z = 0 → m 111 k ≤ t → Scn m t (k + 1) b) → ∃ b', fj_X12_fires_73 (fl_X12_fires_10 m K f) K b k z m = K b' ∧ Scn m t (m 68 46) b' := fun z hz z1 z0 => by
      unfold fj_X12_fires_73
      rw [gd_t (by omega), lx_p, lx_p, ht]
      by_cases c : t < m 111 k
      · rw [if_pos c, lx_p, w32_id (by omega) (by omega)]
        exact go b (nd c)
      · rw [if_neg c]
        by_cases c0 : z = 0
        · rw [if_pos c0, lx_p, w32_id (by omega) (by omega)]
          exact go b (z0 c0 (by omega))
        · rw [if_neg c0, lx_p, w32_id (by omega) (by omega)]
          exact go k (z1 (by omega) (by omega))
    unfold fl_X12_fires_10
    rw [lx_p, if_pos hk]
    by_cases c1 : b = -1
    · rw [if_pos c1]
      refine h73 1 (Or.inr rfl) (fun _ hh => Or.inr ⟨by omega, hh, fun j j0 j1 j2 => ?_⟩) (fun hh => absurd hh (by decide))
      by_cases cj : j = k
      · rw [cj]; exact Or.inr ⟨rfl, Int.le_refl _⟩
      · rcases hB with ⟨g1, g2⟩ | ⟨g1, -⟩
        · have := g2 j j0 (by omega); omega
        · omega
    · have hB2 : (0 ≤ b ∧ b < k) ∧ m 111 b ≤ t ∧ ∀ j : Int, 0 ≤ j → j < k → m 111 j ≤ t → m 109 b < m 109 j ∨ (m 109 b = m 109 j ∧ m 110 b ≤ m 110 j) := hB.elim (fun g => absurd g.1 c1) id
      obtain ⟨g1, g2, g3⟩ := hB2
      have keep : (m 109 b < m 109 k ∨ (m 109 b = m 109 k ∧ m 110 b ≤ m 110 k)) → Scn m t (k + 1) b := fun hh => Or.inr ⟨by omega, g2, fun j j0 j1 j2 => by
        by_cases cj : j = k
        · rw [cj]; exact hh
        · exact g3 j j0 (by omega) j2⟩
      have take : (m 109 k < m 109 b ∨ (m 109 k = m 109 b ∧ m 110 k ≤ m 110 b)) → m 111 k ≤ t → Scn m t (k + 1) k := fun hh hd => Or.inr ⟨by omega, hd, fun j j0 j1 j2 => by
        by_cases cj : j = k
        · rw [cj]; exact Or.inr ⟨rfl, Int.le_refl _⟩
        · have := g3 j j0 (by omega) j2; omega⟩
      rw [if_neg c1, gd_t (by omega), lx_p, gd_t (by omega), lx_p]
      by_cases c2 : m 109 k < m 109 b
      · rw [if_pos c2]
        exact h73 1 (Or.inr rfl) (fun _ hh => take (Or.inl c2) hh) (fun hh => absurd hh (by decide))
      · rw [if_neg c2]
        by_cases c3 : m 109 k = m 109 b
        · rw [if_pos c3, lx_p, lx_p]
          by_cases c4 : m 110 k < m 110 b
          · rw [if_pos c4]
            exact h73 1 (Or.inr rfl) (fun _ hh => take (Or.inr ⟨c3, by omega⟩) hh) (fun hh => absurd hh (by decide))
          · rw [if_neg c4]
            exact h73 0 (Or.inl rfl) (fun hh => absurd hh (by decide)) (fun _ _ => keep (Or.inr ⟨c3.symm, by omega⟩))
        · rw [if_neg c3]
          exact h73 0 (Or.inl rfl) (fun hh => absurd hh (by decide)) (fun _ _ => keep (Or.inl (by omega)))
theorem mr_rem (r0 : 0 ≤ r) : MR e (pRemT r k e) := MR.of rfl (fun _ => rfl) (fun _ => rfl) rfl (fun _ _ _ => rfl)
theorem mr_fireL (r0 : 0 ≤ r) : ∀ (n : Nat) (k : Int) (e : ES), CN e → r < e.1 7 2 → MR e (pFireL r n k e) ∧ CN (pFireL r n k e) ∧ (pFireL r n k e).1 7 2 = e.1 7 2 := by
  intro n
  induction n with
  | zero => intro k e hc _; exact ⟨MR.rf, hc, rfl⟩
  | succ n ih =>
    intro k e hc r1
    unfold pFireL
    split
    · exact ih (k + 1) e hc r1
    · have n7 := hc.1
      have e7 : (pRemT r k (pArr r 3 ((eL e (73000 + r)).getD k.toNat 0) 0 e)).1 7 2 = e.1 7 2 := show (pArr r 3 ((eL e (73000 + r)).getD k.toNat 0) 0 e).1 7 2 = e.1 7 2 from arr_a (by decide) (by decide) (by omega) (by omega) (by decide)
      obtain ⟨g1, g2, g3⟩ := ih k (pRemT r k (pArr r 3 ((eL e (73000 + r)).getD k.toNat 0) 0 e)) (hc.arr r0) (by rw [e7]; exact r1)
      exact ⟨((mr_arr hc r0 r1).tr (mr_rem r0)).tr g1, g2, g3.trans e7⟩
theorem mr_frL : ∀ (n : Nat) (i : Int) (e : ES), CN e → 0 ≤ i → MR e (pFrL n i e) ∧ CN (pFrL n i e) ∧ (pFrL n i e).1 7 2 = e.1 7 2 := by
  intro n
  induction n with
  | zero => intro i e hc _; exact ⟨MR.rf, hc, rfl⟩
  | succ n ih =>
    intro i e hc i0
    unfold pFrL
    by_cases c : i < e.1 7 2
    · rw [if_pos c]
      obtain ⟨g1, g2, g3⟩ := mr_fireL i0 (eL e (73000 + i)).length 0 e hc c
      obtain ⟨u1, u2, u3⟩ := ih (i + 1) (pFire i e) g2 (by omega)
      exact ⟨g1.tr u1, u2, u3.trans g3⟩
    · rw [if_neg c]
      exact ⟨MR.rf, hc, rfl⟩
/-- what an arrival leaves of timers -/
theorem TmS.arr (h : TmS e) (hc : CN e) (r0 : 0 ≤ r) : TmS (pArr r k x y e) := fun i i0 i1 => by
  have n7 := hc.1
  rw [arr_a (by decide) (by decide) (by omega) (by omega) (by decide)] at i1
  obtain ⟨h1, h2, h3⟩ := h i i0 i1
  rw [arr_l, arr_l]
  refine ⟨h1, h2, fun g => ?_⟩
  unfold Dead
  rw [arr_a (by omega) (by omega) (by omega) (by omega) (by omega)]
  exact h3 g
theorem TmS.rem (h : TmS e) (hc : CN e) (r0 : 0 ≤ r) (r1 : r < e.1 7 2) : TmS (pRemT r k e) := fun i i0 i1 => by
  have n7 := hc.1
  have i1 : i < e.1 7 2 := i1
  obtain ⟨⟨h1, h1b⟩, h2, h3⟩ := h i i0 i1
  by_cases c : i = r
  · subst c
    rw [remT_3.1, remT_3.2]
    have sb := List.eraseIdx_sublist (eL e (73000 + i)) k.toNat
    refine ⟨⟨?_, fun v hv => h1b v (sb.subset hv)⟩, h2.sublist sb, fun g => h3 fun hh => ?_⟩
    · rw [List.length_eraseIdx, List.length_eraseIdx, h1]
    · rw [hh] at g
      exact g (by simp)
  · rw [remT_l (by omega) (by omega), remT_l (by omega) (by omega)]
    exact ⟨⟨h1, h1b⟩, h2, h3⟩
/-- the whole of it -/
theorem firesL : ∀ (N : Nat) (n : Nat) (i k : Int) (f : Nat) (m : MM) (e : ES), RXE m e → CN e → RLw e → TmS e → RFw (pFrL N (i + 1) (pFireL i n k e)) → 0 ≤ i → i < e.1 7 2 → 0 ≤ k → k + n = ((eL e (73000 + i)).length : Int) → e.1 7 2 < i + 1 + N → (∀ r : Int, 0 ≤ r → r < i → ∀ d ∈ eL e (74000 + r), e.1 4 14 < d) → (∀ (u : Nat) (d : Int), (u : Int) < k → (eL e (74000 + i))[u]? = some d → e.1 4 14 < d) → (m 68 46).toNat + 1 < f → ∃ m', fl_X12_fires_2 f 1 m = some (0, m') ∧ RXE m' (pFrL N (i + 1) (pFireL i n k e)) ∧ SCR m m' := by
  intro N
  induction N with
  | zero => intro n i k f m e h hc hl hT hf i0 i1 k0 hk hN; omega
  | succ N ihN =>
    intro n
    induction n with
    | zero =>
      intro i k f m e h hc hl hT hf i0 i1 k0 hk hN hb hb2 hff
      have e1 : pFireL i 0 k e = e := rfl
      rw [e1] at hf ⊢
      obtain ⟨⟨t1, t1b⟩, t2, t3⟩ := hT i i0 i1
      -- this run is through
      have hb' : ∀ r : Int, 0 ≤ r → r < i + 1 → ∀ d ∈ eL e (74000 + r), e.1 4 14 < d := fun r r0 r1 d hd => by
        by_cases c : r = i
        · rw [c] at hd
          obtain ⟨u, hu⟩ := List.getElem?_of_mem hd
          have hlt : u < (eL e (74000 + i)).length := by
            by_cases cc : u < (eL e (74000 + i)).length
            · exact cc
            · rw [List.getElem?_eq_none (by omega)] at hu
              exact absurd hu (by simp)
          exact hb2 u d (by omega) hu
        · exact hb r r0 (by omega) d hd
      have hu : pFrL (N + 1) (i + 1) e = if i + 1 < e.1 7 2 then pFrL N (i + 1 + 1) (pFire (i + 1) e) else e := rfl
      rw [hu] at hf ⊢
      by_cases c : i + 1 < e.1 7 2
      · rw [if_pos c] at hf ⊢
        exact ihN (eL e (73000 + (i + 1))).length (i + 1) 0 f m e h hc hl hT hf (by omega) c (Int.le_refl _) (by omega) (by omega) hb' (fun u d hu => by omega) hff
      · rw [if_neg c]
        -- none is due
        have n7 := hc.1
        obtain ⟨hTI, hPm⟩ := h.pm
        have ht := h.ps.1
        obtain ⟨f, rfl⟩ : ∃ g, f = g + 1 := ⟨f - 1, by omega⟩
        obtain ⟨b', g1, g2⟩ := scnL (t := e.1 4 14) (K := fun x_156 => if x_156 = (-1) then fj_X12_fires_115 (fl_X12_fires_2 f) x_156 0 m else fj_X12_fires_115 (fl_X12_fires_2 f) x_156 1 m) hTI ht (m 68 46 - 0).toNat BIG (-1) 0 (Int.le_refl _) hTI.1 rfl (BIG_g (by have := hTI.2; omega)) (Or.inl ⟨rfl, fun j j0 j1 => by omega⟩)
        have nb : b' = -1 := by
          rcases g2 with ⟨q1, -⟩ | ⟨q1, q2, -⟩
          · exact q1
          · exfalso
            have hz : (m 109 b', m 110 b', m 111 b') ∈ xT m := (xT_mem hTI).mpr ⟨b', q1, rfl⟩
            have hz2 := hPm.mem_iff.mp hz
            obtain ⟨z1, z2⟩ := pT_mem.mp hz2
            obtain ⟨-, u, z3, z4⟩ := pT1_mem.mp z2
            have := hb' (m 109 b') z1.1 (by have : m 109 b' < (((e.1 7 2).toNat : Nat) : Int) := z1.2; omega) (m 111 b') (List.mem_of_getElem? z4)
            omega
        unfold fl_X12_fires_2
        rw [if_neg (by decide), g1, nb, if_pos rfl]
        unfold fj_X12_fires_115
        rw [if_pos rfl]
        obtain ⟨f, rfl⟩ : ∃ g, f = g + 1 := ⟨f - 1, by omega⟩
        unfold fl_X12_fires_2
        rw [if_pos rfl]
        exact ⟨m, rfl, h, SCR.rf⟩
    | succ n ih =>
      intro i k f m e h hc hl hT hf i0 i1 k0 hk hN hb hb2 hff
      have n7 := hc.1
      obtain ⟨⟨t1, t1b⟩, t2, t3⟩ := hT i i0 i1
      have hk2 : k.toNat < (eL e (73000 + i)).length := by omega
      have hk3 : k.toNat < (eL e (74000 + i)).length := by omega
      have d73 : (eL e (73000 + i))[k.toNat]? = some ((eL e (73000 + i)).getD k.toNat 0) := by
        rw [List.getD_eq_getElem?_getD, List.getElem?_eq_getElem hk2]
        rfl
      have d74 : (eL e (74000 + i))[k.toNat]? = some ((eL e (74000 + i)).getD k.toNat 0) := by
        rw [List.getD_eq_getElem?_getD, List.getElem?_eq_getElem hk3]
        rfl
      obtain ⟨ev, hev⟩ : ∃ ev, ev = (eL e (73000 + i)).getD k.toNat 0 := ⟨_, rfl⟩
      obtain ⟨du, hdu⟩ : ∃ du, du = (eL e (74000 + i)).getD k.toNat 0 := ⟨_, rfl⟩
      rw [← hev] at d73
      rw [← hdu] at d74
      have hu : pFireL i (n + 1) k e = if e.1 4 14 < du then pFireL i n (k + 1) e else pFireL i n k (pRemT i k (pArr i 3 ev 0 e)) := by
        rw [hdu, hev]
        rfl
      rw [hu] at hf ⊢
      by_cases cd : e.1 4 14 < du
      · rw [if_pos cd] at hf ⊢
        refine ih i (k + 1) f m e h hc hl hT hf i0 i1 (by omega) (by omega) hN hb (fun u d hu1 hu2 => ?_) hff
        by_cases cu : (u : Int) = k
        · rw [show u = k.toNat by omega, d74] at hu2
          rw [← Option.some.inj hu2]
          exact cd
        · exact hb2 u d (by omega) hu2
      · rw [if_neg cd] at hf ⊢
        obtain ⟨hTI, hPm⟩ := h.pm
        have ht := h.ps.1
        obtain ⟨f, rfl⟩ : ∃ g, f = g + 1 := ⟨f - 1, by omega⟩
        obtain ⟨b', g1, g2⟩ := scnL (t := e.1 4 14) (K := fun x_156 => if x_156 = (-1) then fj_X12_fires_115 (fl_X12_fires_2 f) x_156 0 m else fj_X12_fires_115 (fl_X12_fires_2 f) x_156 1 m) hTI ht (m 68 46 - 0).toNat BIG (-1) 0 (Int.le_refl _) hTI.1 rfl (BIG_g (by have := hTI.2; omega)) (Or.inl ⟨rfl, fun j j0 j1 => by omega⟩)
        -- the one of the class is the least that is due
        have mine : (i, ev, du) ∈ pT1 e i := pT1_mem.mpr ⟨rfl, k.toNat, d73, d74⟩
        have mineT : (i, ev, du) ∈ xT m := hPm.mem_iff.mpr (pT_mem.mpr ⟨⟨i0, by show i < (((e.1 7 2).toNat : Nat) : Int); omega⟩, mine⟩)
        obtain ⟨j, hj, hje⟩ := (xT_mem hTI).mp mineT
        have j9 : m 109 j = i := (congrArg (fun z => z.1) hje).symm
        have j10 : m 110 j = ev := (congrArg (fun z => z.2.1) hje).symm
        have j11 : m 111 j = du := (congrArg (fun z => z.2.2) hje).symm
        rcases g2 with ⟨q1, q2⟩ | ⟨q1, q2, q3⟩
        · have := q2 j hj.1 hj.2; omega
        · have le := q3 j hj.1 hj.2 (by omega)
          rw [j9, j10] at le
          have hz : (m 109 b', m 110 b', m 111 b') ∈ xT m := (xT_mem hTI).mpr ⟨b', q1, rfl⟩
          have hz2 := hPm.mem_iff.mp hz
          obtain ⟨z1, z2⟩ := pT_mem.mp hz2
          obtain ⟨-, u, z3, z4⟩ := pT1_mem.mp z2
          have z1' : 0 ≤ m 109 b' ∧ m 109 b' < (((e.1 7 2).toNat : Nat) : Int) := z1
          have b9 : m 109 b' = i := by
            by_cases cc : m 109 b' < i
            · have := hb (m 109 b') z1'.1 cc (m 111 b') (List.mem_of_getElem? z4)
              omega
            · omega
          have z3' : (eL e (73000 + i))[u]? = some (m 110 b') := by rw [← b9]; exact z3
          have z4' : (eL e (74000 + i))[u]? = some (m 111 b') := by rw [← b9]; exact z4
          have uk : u = k.toNat := by
            have hul : u < (eL e (73000 + i)).length := by
              by_cases cc : u < (eL e (73000 + i)).length
              · exact cc
              · rw [List.getElem?_eq_none (by omega)] at z3'
                exact absurd z3' (by simp)
            rcases Nat.lt_trichotomy u k.toNat with c1 | c1 | c1
            · have := hb2 u (m 111 b') (by omega) z4'
              omega
            · exact c1
            · have s := List.pairwise_iff_getElem.mp t2 k.toNat u hk2 hul c1
              have a1 : (eL e (73000 + i))[k.toNat] = ev := by
                rw [List.getElem?_eq_getElem hk2] at d73
                exact Option.some.inj d73
              have a2 : (eL e (73000 + i))[u] = m 110 b' := by
                rw [List.getElem?_eq_getElem hul] at z3'
                exact Option.some.inj z3'
              rw [a1, a2] at s
              omega
          have b10 : m 110 b' = ev := by
            rw [uk, d73] at z3'
            exact (Option.some.inj z3').symm
          have b11 : m 111 b' = du := by
            rw [uk, d74] at z4'
            exact (Option.some.inj z4').symm
          -- it fires
          have evb : 0 ≤ ev ∧ ev < 524288 := t1b ev (List.mem_of_getElem? d73)
          have nd : ¬ Dead e i := t3 fun hh => by rw [hh] at hk2; exact absurd hk2 (by simp)
          have e7 : (pArr i 3 ev 0 e).1 7 2 = e.1 7 2 := arr_a (by decide) (by decide) (by omega) (by omega) (by decide)
          have cA := hc.arr (k := 3) (x := ev) (y := 0) i0
          have mA := mr_arr (k := 3) (x := ev) (y := 0) hc i0 i1
          obtain ⟨w1, w2, w3⟩ := mr_fireL i0 n k (pRemT i k (pArr i 3 ev 0 e)) cA (by show i < (pArr i 3 ev 0 e).1 7 2; rw [e7]; exact i1)
          obtain ⟨y1, y2, y3⟩ := mr_frL (N + 1) (i + 1) _ w2 (by omega)
          have hfA : RFw (pArr i 3 ev 0 e) := ((hf.bk y1).bk w1).bk (mr_rem i0)
          obtain ⟨m1, u1, u2, u3⟩ := h.arr2 (r := i) (k := 3) (x := ev) (y := 0) hc hl hfA i0 i1 nd (by decide) (by decide) evb.1 evb.2 (by decide) (by decide)
          have hTI1 := u2.pm.1
          have fT : ∀ a j : Int, 109 ≤ a → a ≤ 111 → m1 a j = m a j := fun a j a0 a1 => by
            obtain ⟨m9, v1, -, v3, v4⟩ := h.put (k := 3) (x := ev) (y := 0) (o := e.1 4 16) hc i0 i1 nd ⟨hl.2.2.2 i i0 i1, by
              have := hfA.2.2.2 i i0 (by rw [e7]; exact i1)
              rw [arr_N i0] at this
              omega⟩ (by
              have := hfA.1
              have hm := (mr_arr (k := 3) (x := ev) (y := 0) hc i0 i1).1.1
              omega) (by decide) (by decide) evb.1 evb.2 (by decide) (by decide) hl.1 (by
              have := hfA.2.1
              have hm := (mr_arr (k := 3) (x := ev) (y := 0) hc i0 i1).1.2.1
              have := hl.2.2.1
              omega) (by have := hl.2.2.1; omega) (fun hh => absurd hh (by decide))
            rw [u1] at v1
            have := congrArg (fun z => z.2) (Option.some.inj v1)
            have hm : m1 = m9 := this
            rw [hm]
            exact v4 a j (by omega)
          have f46 : m1 68 46 = m 68 46 := by
            obtain ⟨m9, v1, -, v3, v4⟩ := h.put (k := 3) (x := ev) (y := 0) (o := e.1 4 16) hc i0 i1 nd ⟨hl.2.2.2 i i0 i1, by
              have := hfA.2.2.2 i i0 (by rw [e7]; exact i1)
              rw [arr_N i0] at this
              omega⟩ (by
              have := hfA.1
              have hm := (mr_arr (k := 3) (x := ev) (y := 0) hc i0 i1).1.1
              omega) (by decide) (by decide) evb.1 evb.2 (by decide) (by decide) hl.1 (by
              have := hfA.2.1
              have hm := (mr_arr (k := 3) (x := ev) (y := 0) hc i0 i1).1.2.1
              have := hl.2.2.1
              omega) (by have := hl.2.2.1; omega) (fun hh => absurd hh (by decide))
            have l1 := hPm.length_eq
            have l2 := u2.pm.2.length_eq
            have pe : pT (pArr i 3 ev 0 e) ((pArr i 3 ev 0 e).1 7 2).toNat = pT e (e.1 7 2).toNat := by
              rw [e7]
              exact pT_eq fun r _ _ => ⟨arr_l, arr_l⟩
            rw [pe] at l2
            unfold xT at l1 l2
            rw [List.length_map, List.length_range] at l1 l2
            have := hTI.1
            have := hTI1.1
            omega
          obtain ⟨m2, o1, o2, o3, o4, o5, -⟩ := rRem hTI1 q1.1 (by rw [f46]; exact q1.2)
          rw [fT 109 _ (by decide) (by decide), fT 110 _ (by decide) (by decide), fT 111 _ (by decide) (by decide), b9, b10, b11] at o5
          have hz9 : (pT1 (pArr i 3 ev 0 e) i)[k.toNat]? = some (i, ev, du) := by
            unfold pT1
            have zz : ((eL e (73000 + i)).zip (eL e (74000 + i)))[k.toNat]? = some (ev, du) := List.getElem?_zip_eq_some.mpr ⟨d73, d74⟩
            rw [arr_l, arr_l, List.getElem?_map, zz]
            rfl
          have pr := (pT_rem (k := k) i0 (by omega) hz9 (e.1 7 2).toNat (by omega)).1 (by omega)
          have pm2 : (xT m2).Perm (pT (pRemT i k (pArr i 3 ev 0 e)) ((pArr i 3 ev 0 e).1 7 2).toNat) := by
            have a1 := o5.trans u2.pm.2
            rw [e7] at a1 ⊢
            exact List.Perm.cons_inv (a1.trans pr.symm)
          have h2 : RXE m2 (pRemT i k (pArr i 3 ev 0 e)) := u2.tm cA i0 (by rw [e7]; exact i1) o2 (fun a u _ => rfl) (Int.le_refl _) (fun c c1 c2 => remT_l c1 c2) (fun _ => rfl) o3 pm2
          have l73 : eL (pRemT i k (pArr i 3 ev 0 e)) (73000 + i) = (eL e (73000 + i)).eraseIdx k.toNat := by rw [remT_3.1, arr_l]
          have l74 : eL (pRemT i k (pArr i 3 ev 0 e)) (74000 + i) = (eL e (74000 + i)).eraseIdx k.toNat := by rw [remT_3.2, arr_l]
          have e14 : (pRemT i k (pArr i 3 ev 0 e)).1 4 14 = e.1 4 14 := show (pArr i 3 ev 0 e).1 4 14 = e.1 4 14 from arr_a (by decide) (by decide) (by omega) (by omega) (by decide)
          have e7R : (pRemT i k (pArr i 3 ev 0 e)).1 7 2 = e.1 7 2 := e7
          obtain ⟨m', x1, x2, x3⟩ := ih i k f m2 (pRemT i k (pArr i 3 ev 0 e)) h2 cA (((mr_rem i0 : MR (pArr i 3 ev 0 e) (pRemT i k (pArr i 3 ev 0 e))).2.2) (mA.2.2 hl)) ((hT.arr hc i0).rem cA i0 (by rw [e7]; exact i1)) hf i0 (by rw [e7R]; exact i1) k0 (by
            rw [l73, List.length_eraseIdx, if_pos hk2]
            omega) (by rw [e7R]; exact hN) (fun r r0 r1 d hd => by
            rw [remT_l (by omega) (by omega), arr_l] at hd
            rw [e14]
            exact hb r r0 r1 d hd) (fun u d hu1 hu2 => by
            rw [l74, List.getElem?_eraseIdx_of_lt (by omega)] at hu2
            rw [e14]
            exact hb2 u d hu1 hu2) (by rw [o4, f46]; have := hTI.1; omega)
          unfold fl_X12_fires_2
          rw [if_neg (by decide), g1, if_neg (show ¬ b' = -1 by omega)]
          unfold fj_X12_fires_115
          rw [if_neg (by decide), gd_t (by have := hTI.2; omega), lx_p, b9, lx_p, b10, bd_t u1, bd_t o1]
          exact ⟨m', x1, x2, (u3.tr o2.scr).tr x3⟩
theorem RXE.fires (h : RXE m e) (hc : CN e) (hl : RLw e) (hT : TmS e) (hf : RFw (pFrL 31 0 e)) : ∃ m', fm_X12_fires m = some (0, m') ∧ RXE m' (pFrL 31 0 e) ∧ SCR m m' := by
  have n7 := hc.1
  obtain ⟨hTI, hPm⟩ := h.pm
  have hu : pFrL 31 0 e = if 0 < e.1 7 2 then pFrL 30 (0 + 1) (pFireL 0 (eL e (73000 + 0)).length 0 e) else e := rfl
  rw [hu] at hf ⊢
  unfold fm_X12_fires
  by_cases c : 0 < e.1 7 2
  · rw [if_pos c] at hf ⊢
    exact firesL 30 (eL e (73000 + 0)).length 0 0 BIG m e h hc hl hT hf (Int.le_refl _) c (Int.le_refl _) (by omega) (by omega) (fun r r0 r1 => by omega) (fun u d hu => by omega) (BIG_g (by have := hTI.2; omega))
  · rw [if_neg c]
    have z : pT e (e.1 7 2).toNat = [] := by rw [show (e.1 7 2).toNat = 0 by omega]; rfl
    rw [z] at hPm
    have m46 : m 68 46 = 0 := by
      have := hPm.length_eq
      unfold xT at this
      rw [List.length_map, List.length_range] at this
      have h1 := hTI.1
      simp at this
      omega
    obtain ⟨N, hN⟩ := BIG_s
    obtain ⟨N2, hN2⟩ : ∃ g, N = g + 1 := ⟨N - 1, by have : BIG = 1000000000 := rfl; omega⟩
    rw [hN, hN2]
    unfold fl_X12_fires_2
    rw [if_neg (by decide), hN]
    unfold fl_X12_fires_10
    rw [lx_p, m46, if_neg (by decide), if_pos rfl]
    unfold fj_X12_fires_115
    rw [if_pos rfl]
    unfold fl_X12_fires_2
    rw [if_pos rfl]
    exact ⟨m, rfl, h, SCR.rf⟩
end RXU1
