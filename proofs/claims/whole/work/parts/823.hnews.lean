/-! A HISTORY THAT IS AS IT SHOULD BE: what is new makes it none the worse. -/
section HNW
variable {x : CX} {s s' S : TS} {B : Int} {E E' : Int → Ev} {N M i j k a b d p v lim m : Int} {ev : Ev} {F T : Prop}
/-- where a history ends its run, nothing is new -/
theorem fi_ne (h4 : x.1 4 ≠ 1) (h2 : x.1 2 ≤ x.1 1) (d0 : 0 ≤ d) (d1 : d < x.1 0) (dk : 14 ≤ ek (x.2.1 d) ∧ ek (x.2.1 d) ≤ 16) : FI x (fun s => sn s = [] ∧ sg s 0 9 = 0 ∧ sg s 0 12 ≤ d) (fun s => sn s = [] ∧ (sg s 0 9 = 0 → sg s 0 12 ≤ d)) := by
  have hc : ∀ (s : TS) (k a b : Int), sn s = [] ∧ sg s 0 9 = 0 ∧ sg s 0 12 ≤ d → (sn (sCmd x k a b s).2 = [] ∧ sg (sCmd x k a b s).2 0 9 = 0) ∧ ((sCmd x k a b s).1 < 0 ∨ k ≤ 13 → sg (sCmd x k a b s).2 0 12 ≤ d) := by
    intro s k a b ⟨h1, h9, h12⟩
    have hn : nc x (sg s 0 12) ≤ d := by
      by_cases c : nc x (sg s 0 12) ≤ d
      · exact c
      · exact absurd ⟨by omega, by omega⟩ (nc_gap (x := x) (i := sg s 0 12) (j := d) h12 (by omega))
    have hb := nc_b (x := x) (a := sg s 0 12) (by omega)
    have estk : ∀ v : Int, sg (sStuck (st s 0 12 (nc x (sg s 0 12))) v) 0 12 = nc x (sg s 0 12) := fun v => by
      unfold sStuck
      rw [st_g, if_neg (by omega), st_g, if_neg (by omega), st_g, if_pos ⟨rfl, rfl⟩]
    refine ⟨⟨?_, by rw [cmd_g (by omega)]; exact h9⟩, fun hk => ?_⟩
    · unfold sCmd
      by_cases c1 : nc x (sg s 0 12) < sSeen x s
      · rw [if_pos c1]
        split <;> exact h1
      · rw [if_neg c1]
        have hse : sg s 0 10 < x.1 2 := by
          unfold sSeen at c1
          by_cases c2 : sg s 0 10 < x.1 2
          · exact c2
          · rw [if_neg c2] at c1; omega
        rw [if_pos (by omega)]
        exact h1
    · unfold sCmd at hk ⊢
      by_cases c1 : nc x (sg s 0 12) < sSeen x s
      · rw [if_pos c1] at hk ⊢
        by_cases c2 : x.1 4 = 1 ∨ eis (x.2.1 (nc x (sg s 0 12))) k a b = true
        · rw [if_pos c2] at hk ⊢
          have hk : nc x (sg s 0 12) < 0 ∨ k ≤ 13 := hk
          have he := c2.resolve_left h4
          show sg (st (st s 0 12 (nc x (sg s 0 12))) 0 12 (nc x (sg s 0 12) + 1)) 0 12 ≤ d
          rw [st_g, if_pos ⟨rfl, rfl⟩]
          have hne : nc x (sg s 0 12) ≠ d := fun hh => by
            rw [hh] at he hk
            have hek : ek (x.2.1 d) = k := by
              unfold eis at he
              simp at he
              omega
            rcases hk with hk | hk
            · omega
            · omega
          omega
        · rw [if_neg c2]
          show sg (sStuck (st s 0 12 (nc x (sg s 0 12))) (nc x (sg s 0 12))) 0 12 ≤ d
          rw [estk]; exact hn
      · rw [if_neg c1] at hk ⊢
        have hse : sg s 0 10 < x.1 2 := by
          unfold sSeen at c1
          by_cases c2 : sg s 0 10 < x.1 2
          · exact c2
          · rw [if_neg c2] at c1; omega
        rw [if_pos (by omega)]
        show sg (sStuck (st s 0 12 (nc x (sg s 0 12))) (tb x (sg s 0 10))) 0 12 ≤ d
        rw [estk]; exact hn
  refine ⟨fun s s' _ h2 h3 h4 => ⟨fun h => by simp only [h2, h3, h4]; exact h, fun h => by simp only [h2, h3, h4]; exact h⟩, fun s k a b k0 k1 h => ?_, fun s h => ⟨h.1, fun _ => h.2.2⟩, fun s k a k0 k1 h => ?_, fun s hg h => ?_⟩
  · obtain ⟨g1, g2⟩ := hc s k a b h
    exact ⟨g1.1, g1.2, g2 (Or.inr k1)⟩
  · obtain ⟨g1, g2⟩ := hc s k a 0 h
    unfold sEndR
    show sn (if (sCmd x k a 0 s).1 < 0 then (sCmd x k a 0 s).2 else st (sCmd x k a 0 s).2 0 9 k) = [] ∧ (sg (if (sCmd x k a 0 s).1 < 0 then (sCmd x k a 0 s).2 else st (sCmd x k a 0 s).2 0 9 k) 0 9 = 0 → sg (if (sCmd x k a 0 s).1 < 0 then (sCmd x k a 0 s).2 else st (sCmd x k a 0 s).2 0 9 k) 0 12 ≤ d)
    by_cases cr : (sCmd x k a 0 s).1 < 0
    · rw [if_pos cr]
      exact ⟨g1.1, fun _ => g2 (Or.inl cr)⟩
    · rw [if_neg cr]
      refine ⟨g1.1, fun h0 => ?_⟩
      rw [st_g, if_pos ⟨rfl, rfl⟩] at h0
      omega
  · have := (goes_s hg).2
    exact ⟨h.1, this, h.2 this⟩
theorem told_end (hC : CXX x) (h2 : x.1 2 ≤ x.1 1) (d0 : 0 ≤ d) (d1 : d < x.1 0) (dk : 14 ≤ ek (x.2.1 d) ∧ ek (x.2.1 d) ≤ 16) (h30 : sg (told x lim) 0 30 = 0) : sn (told x lim) = [] := by
  have H := fi_ne (x := x) hC.2.2.1 h2 d0 d1 dk
  have hk := told_ind (P := fun s => sn s = [] ∧ (sg s 0 9 = 0 → sg s 0 12 ≤ d)) hC (fun s B i hP hp hg _ i0 i1 i7 _ h3 => by
    have h := fi_taken H hC hP i0 i1 i7 (H.2.2.2.2 s hg hp)
    have e12 : sg (sTake x i s) 0 12 = sg (sTaken x i s) 0 12 := by
      rw [take_d]
      have key : ∀ (n : Nat) (i : Int) (s : TS), sg (sPass x n i s) 0 12 = sg s 0 12 := by
        intro n
        induction n with
        | zero => intro i s; rfl
        | succ n ih =>
          intro i s
          unfold sPass
          split
          · split
            · split
              · split
                · rw [st_g, if_neg (by omega)]
                · rw [ih]
                  split
                  · unfold sStuck
                    rw [st_g, if_neg (by omega), st_g, if_neg (by omega)]
                  · rfl
              · exact ih _ _
            · rw [st_g, if_neg (by omega)]
          · rw [st_g, if_neg (by omega)]
      rw [key, st_g, if_neg (by omega)]
    refine ⟨?_, ?_⟩
    · rw [take_d, (pass_n _ _ _).1]
      exact h.1
    · intro h9
      rw [e12]
      refine h.2 ?_
      rw [take_d, (pass_n _ _ _).2, st_g, if_neg (by omega)] at h9
      exact h9) ⟨rfl, fun _ => d0⟩ h30
  obtain ⟨s', B', v, ⟨h5, -⟩, -, h6⟩ := hk
  rw [h6]
  exact h5
/-- news are put -/
theorem hinv_news (hC : CXX x) (h : HInv x.2.1 (x.1 0)) (n0 : 0 < x.1 0) (h2 : x.1 2 ≤ x.1 1) (h30 : sg (told x lim) 0 30 = 0) (hE : ∀ j : Int, 0 ≤ j → j < x.1 0 → E' j = x.2.1 j) (hF : ∀ (i : Nat) (z : Int × Int × Int), (sn (told x lim))[i]? = some z → ek (E' (x.1 0 + i)) = z.1 ∧ ex (E' (x.1 0 + i)) = z.2.1 ∧ ey (E' (x.1 0 + i)) = z.2.2) (hb : x.1 0 + nl (told x lim) ≤ 524288) : HInv E' (x.1 0 + nl (told x lim)) := by
  have g0 := h.to hE
  obtain ⟨m, m0, m1, -, -, hO⟩ := told_cp hC (h.hf rfl rfl) h2 h.2 h30
  have hen := told_en hC h30
  have hq := fun (i : Nat) (z : Int × Int × Int) hz => told_nw (Q := QD) hC h2 nwD h30 i z hz
  have nz : ∀ p : Int, x.1 0 ≤ p → p < x.1 0 + nl (told x lim) → ∃ z, (sn (told x lim))[(p - x.1 0).toNat]? = some z ∧ ek (E' p) = z.1 ∧ ex (E' p) = z.2.1 ∧ ey (E' p) = z.2.2 ∧ QD p z.1 z.2.1 z.2.2 := fun p p0 p1 => by
    have hl : (p - x.1 0).toNat < (sn (told x lim)).length := by
      have : nl (told x lim) = ((sn (told x lim)).length : Int) := rfl
      omega
    have hz := List.getElem?_eq_getElem hl
    have := hF _ _ hz
    have hq' := hq _ _ hz
    rw [show x.1 0 + (((p - x.1 0).toNat : Nat) : Int) = p by omega] at this hq'
    exact ⟨_, hz, this.1, this.2.1, this.2.2, hq'⟩
  refine ⟨fun p p0 p1 => ?_, hO.to fun p p0 p1 => ?_⟩
  · by_cases c : p < x.1 0
    · exact g0.1 p p0 c
    · obtain ⟨z, z1, z2, z3, z4, z5⟩ := nz p (by omega) p1
      obtain ⟨q1, q2, q3, q4, q5, q6⟩ := id z5
      have hxy : z.2.1 < 524288 ∧ z.2.2 ≤ 999 := by
        by_cases c11 : z.1 = 11
        · have := q5 c11; omega
        · have := q6 c11
          unfold CmA at this
          omega
      unfold HLc
      rw [z2, z3, z4]
      refine ⟨⟨by omega, hxy.1, hxy.2, fun hh => by omega⟩, ⟨by omega, fun hh => by omega, fun hh => by omega⟩, fun hh => by omega, fun hh => by unfold bkk at hh; omega, fun _ => ⟨z5, fun d d0 d1 hd => ?_⟩, fun hh => by omega⟩
      by_cases cd : d < x.1 0
      · rw [hE d d0 cd] at hd
        have := told_end hC h2 d0 cd hd h30
        rw [this] at z1
        exact absurd z1 (by simp)
      · obtain ⟨y, y1, y2, -, -, -⟩ := nz d (by omega) (by omega)
        rw [y2] at hd
        rcases hen with hen | ⟨M, w, w1, w2, w3⟩
        · have := hen y (List.mem_of_getElem? y1)
          omega
        · rw [w1] at y1
          have hlen : (sn (told x lim)).length = M.length + 1 := by rw [w1, List.length_append]; rfl
          have hlt : (p - x.1 0).toNat < (sn (told x lim)).length := by
            have : nl (told x lim) = ((sn (told x lim)).length : Int) := rfl
            omega
          rw [List.getElem?_append_left (by omega)] at y1
          have := w2 y (List.mem_of_getElem? y1)
          omega
  · by_cases c : p < x.1 0
    · rw [(kS_lo c).1, (kS_lo c).2, hE p p0 c]
      exact ⟨rfl, rfl⟩
    · obtain ⟨z, z1, z2, z3, -, -⟩ := nz p (by omega) p1
      unfold kS xS
      rw [if_neg c, if_neg c, z1, z2, z3]
      exact ⟨rfl, rfl⟩
end HNW
