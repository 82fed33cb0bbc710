/-! A HISTORY THAT IS AS IT SHOULD BE: a task is completed: news and a TASK are put. -/
section HCM
variable {x : CX} {s s' S : TS} {B : Int} {E E' : Int → Ev} {N M i j k e lim m a b c C D T : Int} {ev : Ev} {g : Int → Int → Int → Int → Int}
theorem iE_app : ∀ (F : List (Int × Int × Int)) (r : Nat), (∀ (i : Nat) (z : Int × Int × Int), F[i]? = some z → (8 ≤ z.1 ∧ z.1 ≤ 16) ∧ ek (E (((r + i : Nat) : Int))) = z.1 ∧ ex (E (((r + i : Nat) : Int))) = z.2.1 ∧ ey (E (((r + i : Nat) : Int))) = z.2.2) → iE g E (r + F.length) = iE g E r + iL g (r : Int) F := by
  intro F
  induction F with
  | nil => intro r _; show iE g E r = iE g E r + 0; omega
  | cons z F ih =>
    intro r h
    have h0 := h 0 z rfl
    rw [Nat.add_zero] at h0
    have h1 := ih (r + 1) fun i w hw => by
      have := h (i + 1) w hw
      rw [show r + (i + 1) = r + 1 + i by omega] at this
      exact this
    have e1 : iE g E (r + 1) = iE g E r + (if 8 ≤ ek (E (r : Int)) ∧ ek (E (r : Int)) ≤ 16 then g (r : Int) (ek (E (r : Int))) (ex (E (r : Int))) (ey (E (r : Int))) else 0) := rfl
    rw [if_pos (by rw [h0.2.1]; exact h0.1), h0.2.1, h0.2.2.1, h0.2.2.2] at e1
    rw [List.length_cons, show r + (F.length + 1) = r + 1 + F.length by omega, h1, e1]
    show _ = iE g E r + (g (r : Int) z.1 z.2.1 z.2.2 + iL g ((r : Int) + 1) F)
    rw [show ((r + 1 : Nat) : Int) = (r : Int) + 1 by omega]
    omega
/-- commands change no other count -/
theorem cnt_cmds : ∀ (d r : Nat), (∀ i : Int, (r : Int) ≤ i → i < r + d → 8 ≤ ek (E i) ∧ ek (E i) ≤ 16) → csg E (r + d) = csg E r ∧ cT E (r + d) = cT E r ∧ nbc E (r + d) = nbc E r ∧ cA E (r + d) = cA E r := by
  intro d
  induction d with
  | zero => intro r _; exact ⟨rfl, rfl, rfl, rfl⟩
  | succ d ih =>
    intro r h
    obtain ⟨h1, h2, h3, h4⟩ := ih r fun i i0 i1 => h i i0 (by omega)
    have hk := h ((r + d : Nat) : Int) (by omega) (by omega)
    refine ⟨?_, ?_, ?_, ?_⟩
    · show csg E (r + d) + (if ek (E ((r + d : Nat) : Int)) = 4 then (1 : Int) else 0) = _
      rw [if_neg (by omega)]; omega
    · show (if ek (E ((r + d : Nat) : Int)) = 17 then cT E (r + d) + 1 else cT E (r + d)) = _
      rw [if_neg (by omega)]; exact h2
    · show nbc E (r + d) + (if ek (E ((r + d : Nat) : Int)) ≤ 7 ∧ 0 < r + d ∧ 8 ≤ ek (E (((r + d : Nat) : Int) - 1)) ∧ ek (E (((r + d : Nat) : Int) - 1)) ≤ 16 then (1 : Int) else 0) = _
      rw [if_neg (fun hh => by omega)]; omega
    · show (if ek (E ((r + d : Nat) : Int)) ≤ 7 then cA E (r + d) + 1 else cA E (r + d)) = _
      rw [if_neg (by omega)]; exact h4
/-- how many lines at most -/
theorem told_40 (hC : CXX x) (h : HInv x.2.1 (x.1 0)) (h2 : x.1 2 ≤ x.1 1) (hc : HCt x.2.1 (x.1 0) C D T) (hk : C + 2 * D + 2 * T ≤ 540) : sg (told x lim) 0 40 ≤ 194582 := by
  have hn := hC.2.2.2.2
  have hb := nbl_le (E := x.2.1) (x.1 0).toNat fun i i0 i1 => (h.1 i i0 (by omega)).1.1
  have hcn : ccn x.2.1 (x.1 0).toNat ≤ 1 := by
    rcases h.ccn1 (x.1 0).toNat (by omega) with g | ⟨g, -⟩ <;> omega
  obtain ⟨b, q1, q2, q3⟩ := told_ln (lim := lim) hC (h.hl rfl rfl) h2
  obtain ⟨c1, c2, c3, c4, c5⟩ := hc
  have l1 := lcm_b (E := x.2.1) (N := x.1 0)
  have bT := cT_b (E := x.2.1) (x.1 0).toNat
  have z2 := nbc_m (E := x.2.1) (x.1 0).toNat 0
  rw [Nat.zero_add] at z2
  have z2 : 0 ≤ nbc x.2.1 (x.1 0).toNat := z2
  have hb' : nbl x.2.1 (x.1 0).toNat ≤ 1 + D + T := by split at hb <;> omega
  have z1 := csg_m (E := x.2.1) (x.1 0).toNat 0
  rw [Nat.zero_add] at z1
  have z1 : 0 ≤ csg x.2.1 (x.1 0).toNat := z1
  omega
theorem told_41 (hC : CXX x) (h : HInv x.2.1 (x.1 0)) (h2 : x.1 2 ≤ x.1 1) (hc : HCt x.2.1 (x.1 0) C D T) (hk : C + 2 * D + 2 * T ≤ 540) : sg (told x lim) 0 41 ≤ 541 := by
  have hn := hC.2.2.2.2
  have hb := nbl_le (E := x.2.1) (x.1 0).toNat fun i i0 i1 => (h.1 i i0 (by omega)).1.1
  have hcn : ccn x.2.1 (x.1 0).toNat ≤ 1 := by
    rcases h.ccn1 (x.1 0).toNat (by omega) with g | ⟨g, -⟩ <;> omega
  obtain ⟨b, q1, q2, q3⟩ := told_ln (lim := lim) hC (h.hl rfl rfl) h2
  obtain ⟨c1, c2, c3, c4, c5⟩ := hc
  have l1 := lcm_b (E := x.2.1) (N := x.1 0)
  have bT := cT_b (E := x.2.1) (x.1 0).toNat
  have z2 := nbc_m (E := x.2.1) (x.1 0).toNat 0
  rw [Nat.zero_add] at z2
  have z2 : 0 ≤ nbc x.2.1 (x.1 0).toNat := z2
  have hb' : nbl x.2.1 (x.1 0).toNat ≤ 1 + D + T := by split at hb <;> omega
  have z1 := csg_m (E := x.2.1) (x.1 0).toNat 0
  rw [Nat.zero_add] at z1
  have z1 : 0 ≤ csg x.2.1 (x.1 0).toNat := z1
  omega
/-- news, a TASK -/
theorem h_comp (hC : CXX x) (h : HInv x.2.1 (x.1 0)) (n0 : 0 < x.1 0) (h2 : x.1 2 ≤ x.1 1) (hc : HCt x.2.1 (x.1 0) C D T) (hk : C + 2 * D + 2 * T ≤ 540) (h30 : sg (told x lim) 0 30 = 0) (hf : x.1 0 ≤ nc x (sg (told x lim) 0 12)) (hE : ∀ j : Int, 0 ≤ j → j < x.1 0 → E' j = x.2.1 j) (hF : ∀ (i : Nat) (z : Int × Int × Int), (sn (told x lim))[i]? = some z → ek (E' (x.1 0 + i)) = z.1 ∧ ex (E' (x.1 0 + i)) = z.2.1 ∧ ey (E' (x.1 0 + i)) = z.2.2) (hT : ek (E' (x.1 0 + nl (told x lim))) = 17 ∧ ex (E' (x.1 0 + nl (told x lim))) = lim ∧ ey (E' (x.1 0 + nl (told x lim))) ≤ 999) (l0 : 1 ≤ lim) (l1 : lim ≤ cA x.2.1 (x.1 0).toNat) (l2 : ∀ t : Int, 0 ≤ t → t < x.1 0 → ek (x.2.1 t) = 17 → ex (x.2.1 t) < lim) : HInv E' (x.1 0 + nl (told x lim) + 1) ∧ HCt E' (x.1 0 + nl (told x lim) + 1) C (D + 1) T ∧ x.1 0 + nl (told x lim) ≤ 524288 := by
  have hn := hC.2.2.2.2
  obtain ⟨N, hN⟩ : ∃ N : Nat, (N : Int) = x.1 0 := ⟨(x.1 0).toNat, by omega⟩
  obtain ⟨l, hl⟩ : ∃ l : Nat, (l : Int) = nl (told x lim) ∧ l = (sn (told x lim)).length := ⟨_, rfl, rfl⟩
  have hx := h.hl rfl rfl
  have b40 := told_40 (lim := lim) hC h h2 hc hk
  have hcn : ccn x.2.1 (x.1 0).toNat ≤ 1 := by
    rcases h.ccn1 (x.1 0).toNat (by omega) with g | ⟨g, -⟩ <;> omega
  obtain ⟨q1, q2⟩ := told_cmd hC h2 h30 hf
  have q3 := h.nbk_le (x.1 0).toNat (by omega)
  have hnl := told_nl (lim := lim) hC hx h2
  obtain ⟨c1, c2, c3, c4, c5⟩ := id hc
  have bT := cT_b (E := x.2.1) (x.1 0).toNat
  have z2 := nbc_m (E := x.2.1) (x.1 0).toNat 0
  rw [Nat.zero_add] at z2
  have z2 : 0 ≤ nbc x.2.1 (x.1 0).toNat := z2
  have lb := lcm_b (E := x.2.1) (N := x.1 0)
  have hb : x.1 0 + nl (told x lim) ≤ 524288 := by omega
  have hi := hinv_news hC h n0 h2 h30 hE hF hb
  have hq := fun (i : Nat) (z : Int × Int × Int) hz => told_nw (Q := QD) hC h2 nwD h30 i z hz
  have eN : (x.1 0).toNat = N := by omega
  rw [eN] at q1 q2 q3 c1 c2 c3 c4 c5 hcn z2 l1
  have eM : (x.1 0 + nl (told x lim) + 1).toNat = N + l + 1 := by omega
  have eL : ((N + l : Nat) : Int) = x.1 0 + nl (told x lim) := by omega
  obtain ⟨g1, g2, g3, g4, g5, g6⟩ := cts_to (E := x.2.1) (E' := E') N fun i i0 i1 => hE i i0 (by omega)
  obtain ⟨gA, gT, -⟩ := cc_to (E := x.2.1) (E' := E') N fun i i0 i1 => hE i i0 (by omega)
  have hz : ∀ (i : Nat) (z : Int × Int × Int), (sn (told x lim))[i]? = some z → (8 ≤ z.1 ∧ z.1 ≤ 16) ∧ ek (E' (((N + i : Nat) : Int))) = z.1 ∧ ex (E' (((N + i : Nat) : Int))) = z.2.1 ∧ ey (E' (((N + i : Nat) : Int))) = z.2.2 := fun i z hz => by
    have := hF i z hz
    have hd := hq i z hz
    rw [show ((N + i : Nat) : Int) = x.1 0 + i by omega]
    exact ⟨⟨hd.1, hd.2.1⟩, this⟩
  have i11 := iE_app (g := g11) (E := E') (sn (told x lim)) N hz
  have i33 := iE_app (g := g33) (E := E') (sn (told x lim)) N hz
  rw [← hl.2, hN] at i11 i33
  have hcm : ∀ i : Int, (N : Int) ≤ i → i < N + l → 8 ≤ ek (E' i) ∧ ek (E' i) ≤ 16 := fun i i0 i1 => by
    have hlt : (i - N).toNat < (sn (told x lim)).length := by omega
    have := hz _ _ (List.getElem?_eq_getElem hlt)
    rw [show ((N + (i - N).toNat : Nat) : Int) = i by omega] at this
    rw [this.2.1]
    exact this.1
  obtain ⟨k1, k2, k3, k4⟩ := cnt_cmds (E := E') l N hcm
  have n33 := nop_33 (E := E') (N + l)
  have n33' := nop_33 (E := x.2.1) N
  rw [g3 g11] at i11
  rw [g3 g33] at i33
  have eTk : E' ((N + l : Nat) : Int) = E' (x.1 0 + nl (told x lim)) := by rw [eL]
  refine ⟨⟨fun p p0 p1 => ?_, ?_⟩, ?_, hb⟩
  · by_cases c : p < x.1 0 + nl (told x lim)
    · exact hi.1 p p0 c
    · have hp : p = x.1 0 + nl (told x lim) := by omega
      subst hp
      unfold HLc
      rw [hT.1, hT.2.1]
      have hA : cA E' (x.1 0 + nl (told x lim)).toNat = cA x.2.1 N := by
        rw [show (x.1 0 + nl (told x lim)).toNat = N + l by omega, k4, gA]
      have bA := cA_b (E := x.2.1) N
      refine ⟨⟨by decide, by omega, hT.2.2, fun g => by omega⟩, ⟨by omega, fun g => by omega, fun g => by omega⟩, fun g => by omega, fun g => by unfold bkk at g; omega, fun g => by omega, fun _ => ⟨l0, by rw [hA]; exact l1, fun t t0 t1 ht => ?_⟩⟩
      by_cases ct : t < x.1 0
      · rw [hE t t0 ct] at ht ⊢
        exact l2 t t0 ct ht
      · have := hcm t (by omega) (by omega)
        omega
  · exact hof_put hi.2 (by rw [hT.1]; unfold opk; omega)
  · have el : lcm E' (x.1 0 + nl (told x lim) + 1) = 0 := by
      unfold lcm
      rw [show x.1 0 + nl (told x lim) + 1 - 1 = x.1 0 + nl (told x lim) by omega, hT.1, if_neg (fun hh => by omega)]
    unfold HCt
    rw [eM, el]
    refine ⟨?_, ?_, ?_, ?_, ?_⟩
    · show csg E' (N + l) + (if ek (E' ((N + l : Nat) : Int)) = 4 then (1 : Int) else 0) ≤ _
      rw [eTk, hT.1, if_neg (by decide)]; omega
    · show (if ek (E' ((N + l : Nat) : Int)) = 17 then cT E' (N + l) + 1 else cT E' (N + l)) ≤ _
      rw [eTk, hT.1, if_pos rfl]; omega
    · show nbc E' (N + l) + (if ek (E' ((N + l : Nat) : Int)) ≤ 7 ∧ 0 < N + l ∧ 8 ≤ ek (E' (((N + l : Nat) : Int) - 1)) ∧ ek (E' (((N + l : Nat) : Int) - 1)) ≤ 16 then (1 : Int) else 0) + 0 ≤ T
      rw [eTk, hT.1, if_neg (fun hh => by omega)]; omega
    · show iE g11 E' (N + l) + (if 8 ≤ ek (E' ((N + l : Nat) : Int)) ∧ ek (E' ((N + l : Nat) : Int)) ≤ 16 then _ else (0 : Int)) ≤ _
      rw [eTk, hT.1, if_neg (fun hh => by omega)]; omega
    · have : ¬ opk (ek (E' ((N + l : Nat) : Int))) := by rw [eTk, hT.1]; unfold opk; omega
      rw [nop_n this]
      omega
end HCM
