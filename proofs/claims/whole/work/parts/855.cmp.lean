/-! A COMPLETE: what it finds, of what is kept between the calls. -/
section CMB
variable {e e' e1 e2 : ES} {S D T a b c i j k q r v w N M p x0 y t o lim c2 c3 : Int} {n : Nat} {s : TS} {x x' : CX} {l : List Int}
/-- how often a run was cut, how many TASKs it has: never less -/
def bs (e : ES) (r : Int) : Int := e.1 (7000 + r) 9 * 1000 + hT e r
/-- what worker and machine have kept of a run, told by version v -/
def KV (e : ES) (r v : Int) : Prop := ∃ (x0 : CX) (F : List (Int × Int × Int)) (lim : Int) (Q QB : TS → Prop), GRW x0 (pCX e r v 2 (e.1 (7000 + r) 14) (e.1 (7000 + r) 15)) F lim (e.1 (7000 + r) 14) (e.1 (7000 + r) 15) ∧ (CXX x0 ∧ x0.1 2 ≤ x0.1 1 ∧ 0 ≤ e.1 (7000 + r) 15) ∧ GBX x0 (e.1 (7000 + r) 14) (e.1 (7000 + r) 15) Q QB ∧ FNS x0 (told x0 lim) F lim ∧ (∀ j : Int, 0 ≤ j → j < x0.1 0 → ek (x0.2.1 j) = 17 → ex (x0.2.1 j) ≤ lim) ∧ 0 < lim ∧ (e.1 16 7 = r → eT e = sKnow (x0.1 0 + F.length + 1) (told x0 lim) ∧ eB e ≤ 30 * (3 * sg (told x0 lim) 0 40 + 26 * (lim + hT e r)) ∧ SW x0 (told x0 lim) (eB e))
/-- what is kept of each run -/
def KpI (e : ES) : Prop := ∀ r : Int, 0 ≤ r → r < e.1 7 2 → ¬ Dead e r → 0 ≤ e.1 (7000 + r) 12 → e.1 (7000 + r) 13 / 4 ≤ bs e r ∧ (e.1 (7000 + r) 13 / 4 = bs e r → KV e r (e.1 (7000 + r) 13 % 4))
/-- what each task counts -/
def TkI2 (e : ES) : Prop := ∀ k : Int, 0 ≤ k → k < e.1 9 2 → ¬ Dead e (e.1 (9000 + k) 1) → e.1 (9000 + k) 4 / 4 ≤ bs e (e.1 (9000 + k) 1) ∧ (e.1 (9000 + k) 4 / 4 = bs e (e.1 (9000 + k) 1) → hC e (e.1 (9000 + k) 1) < e.1 (9000 + k) 3 ∧ e.1 (9000 + k) 3 ≤ hA e (e.1 (9000 + k) 1))
/-- who isn't dead has no end in its history -/
def NEn2 (e : ES) : Prop := ∀ r : Int, 0 ≤ r → r < e.1 7 2 → ¬ Dead e r → ∀ j : Int, 0 ≤ j → j < hN e r → ¬ (14 ≤ ek (eH e r j) ∧ ek (eH e r j) ≤ 16)
theorem code_w (h : WCod l) : ∀ i : Int, 0 ≤ i → i < (l.length : Int) → LineOk (l.getD i.toNat 0 / 1000000) (l.getD i.toNat 0 / 1000 % 1000) (l.getD i.toNat 0 % 1000) := fun i i0 i1 => by
  have hl : i.toNat < l.length := by omega
  have hg : l.getD i.toNat 0 = l[i.toNat] := by
    rw [List.getD_eq_getElem?_getD, List.getElem?_eq_getElem hl]
    rfl
  obtain ⟨c, a, b, h1, h2⟩ := h.2 _ (List.getElem_mem hl)
  have h3 := h2
  obtain ⟨l1, l2, l3, l4, l5, l6, -⟩ := h2
  rw [hg, h1, show (1000000 * c + 1000 * a + b) / 1000000 = c by omega, show (1000000 * c + 1000 * a + b) / 1000 % 1000 = a by omega, show (1000000 * c + 1000 * a + b) % 1000 = b by omega]
  exact h3
/-- a run's history can be told -/
theorem cxx_run {W : Int → Int → Prop} {X : Int → Int → Int → Prop} (h : HK S D T W X e) (r0 : 0 ≤ r) (r1 : r < e.1 7 2) (hw : WCod (eL e (1000 * (48 + 4 * e.1 (7000 + r) 1) + v))) (w1 : w ≠ 1) (h3 : c3 ≤ hN e r) : CXX (pCX e r v w c2 c3) := by
  have hl := h.len r0 r1
  refine (h.2.1 r r0 r1).1.2.cxx (x := pCX e r v w c2 c3) rfl rfl hl.1 (by omega) (fun i i0 i1 => code_w hw i i0 i1) ?_ w1 h3
  have := hw.1
  show ((eL e (1000 * (48 + 4 * e.1 (7000 + r) 1) + v)).length : Int) ≤ 24
  omega
theorem pcx_to (h1 : hN e' r = hN e r) (h2 : eH e' r = eH e r) (h3 : e'.1 (7000 + r) 1 = e.1 (7000 + r) 1) (h4 : ∀ c, eL e' c = eL e c) : pCX e' r v w c2 c3 = pCX e r v w c2 c3 := by
  have h5 : hC e' r = hC e r := by unfold hC; rw [h1, h2]
  unfold pCX
  rw [h1, h2, h5, h3]
  simp only [h4]
theorem cmpx_eq (r0 : 0 ≤ e.1 (9000 + k) 1) (r1 : e.1 (9000 + k) 1 < 30) (k0 : 0 ≤ k) : pCmpX k e = pCX e (e.1 (9000 + k) 1) (e.1 (7000 + e.1 (9000 + k) 1) 3) (pCmpW k e) (if pCmpW k e = 2 then e.1 (7000 + e.1 (9000 + k) 1) 14 else 0) (if pCmpW k e = 2 then e.1 (7000 + e.1 (9000 + k) 1) 15 else 0) := by
  unfold pCmpX pX3 pCmpV
  rw [cmp2_a (by omega) (by omega), cmp2_a (by omega) (by omega)]
  exact pcx_to (cmp2_a (by omega) (by omega)) (by unfold eH; rw [cmp2_2]) (cmp2_a (by omega) (by omega)) fun c => by unfold eL; rw [cmp2_2]
theorem hct_cA {E : Int → Ev} (h : HInv E N) (hc : HCt E N S D T) (hn : 0 ≤ N) : cA E N.toNat ≤ 195002 + S := by
  have key : ∀ n : Nat, (n : Int) ≤ N → cA E n ≤ (if n = 0 then 0 else 1) + nbk E n + csg E n + ccn E n := by
    intro n
    induction n with
    | zero => intro _; exact Int.le_refl _
    | succ n ih =>
      intro hn
      have hp := ih (by omega)
      have hz : (if n = 0 then (0 : Int) else 1) ≤ 1 ∧ (n = 0 → (if n = 0 then (0 : Int) else 1) = 0) := by
        by_cases c : n = 0
        · rw [if_pos c]
          exact ⟨by decide, fun _ => rfl⟩
        · rw [if_neg c]
          exact ⟨by decide, fun g => absurd g c⟩
      generalize (if n = 0 then (0 : Int) else 1) = z at hp hz
      have hk := h.1 n (by omega) (by omega)
      have e1 := cA_s (E := E) n
      have e2 := csg_s (E := E) n
      have e3 : ccn E (n + 1) = ccn E n + if ek (E (n : Int)) = 7 then 1 else 0 := rfl
      have kn : 0 ≤ ek (E (n : Int)) := Int.natCast_nonneg _
      rw [if_neg (by omega)]
      by_cases c : ek (E (n : Int)) ≤ 7
      · rw [if_pos c] at e1
        by_cases cb : bkk (ek (E (n : Int)))
        · have hb := nbk_y cb
          unfold bkk at cb
          rw [if_neg (by omega)] at e2 e3
          omega
        · have hb := nbk_n cb
          unfold bkk at cb
          by_cases c4 : ek (E (n : Int)) = 4
          · rw [if_pos c4] at e2
            rw [if_neg (by omega)] at e3
            omega
          · rw [if_neg c4] at e2
            by_cases c7 : ek (E (n : Int)) = 7
            · rw [if_pos c7] at e3
              omega
            · rw [if_neg c7] at e3
              have h0 : (n : Int) = 0 := hk.2.1.1.mp (by omega)
              have := hz.2 (by omega)
              omega
      · rw [if_neg c] at e1
        have hb := nbk_n (E := E) (n := n) (fun g => by unfold bkk at g; omega)
        rw [if_neg (by omega)] at e2 e3
        omega
  have h1 := key N.toNat (by omega)
  have h2 := h.nbk_le N.toNat (by omega)
  have h3 := h.ccn1 N.toNat (by omega)
  have h4 := hc.2.2.2.2
  have h5 := hc.1
  split at h1 <;> omega
end CMB
