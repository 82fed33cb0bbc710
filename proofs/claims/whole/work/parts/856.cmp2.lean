/-! A COMPLETE: all that its telling is asked for. -/
section CM2
variable {e e' e1 e2 : ES} {S D T a b c i j k q r v w N M p x0 y t o lim c2 c3 : Int} {n : Nat} {s : TS} {x x' : CX} {l : List Int}
theorem sw_ax {B p q : Int} {s t : TS} (hW : SW x t B) (ht : t = ax p q (sn s) s) (h12 : 0 ≤ sg s 0 12 ∧ sg s 0 12 ≤ x.1 0) : SW x s B := by
  obtain ⟨h1, h2, h3, h4, h5, h6, h7, h8, h9, h10⟩ := hW
  have eg : ∀ a j : Int, (a ≠ 0 ∨ (j ≠ 12 ∧ j ≠ 13)) → sg t a j = sg s a j := fun a j h => by rw [ht]; exact ax_o h
  have en : sn t = sn s := by rw [ht]; rfl
  have eh : ∀ k, sh t k = sh s k := fun k => by rw [ht]; rfl
  have eu : su t = su s := by rw [ht]; rfl
  have eq : ∀ k, sq t k = sq s k := fun k => by rw [ht]; rfl
  refine ⟨h12, fun a a0 a1 => ?_, fun k k0 k1 => ?_, by rw [← eu]; exact h4, fun n n0 n1 => by rw [← eq]; exact h5 n n0 n1, ?_, ?_, ?_, ?_, ?_⟩
  · have := h2 a a0 a1
    rw [eg _ _ (by omega)] at this
    exact this
  · rw [eg _ _ (by omega)] at h3
    have h3k := h3 k k0 k1
    unfold BrW at h3k
    rw [eg (2 + k) 0 (by omega), eg 0 6 (by omega), eg (2 + k) 4 (by omega), eg (2 + k) 7 (by omega), eg (2 + k) 8 (by omega), eg (2 + k) 5 (by omega), eg 0 30 (by omega), en, eh] at h3k
    exact h3k
  · rw [eg _ _ (by omega)] at h6; exact h6
  · rw [eg _ _ (by omega)] at h7; exact h7
  · rw [eg _ _ (by omega)] at h8; exact h8
  · rw [eg _ _ (by omega)] at h9; exact h9
  · rw [eg _ _ (by omega)] at h10; exact h10
/-- what a telling is, whichever way it was told -/
def CmB (k : Int) (e : ES) (Q QB : TS → Prop) : Prop :=
  (CXX (pCmpX k e) ∧ (pCmpX k e).1 2 ≤ (pCmpX k e).1 1 ∧ (pCmpX k e).1 0 = hN e (e.1 (9000 + k) 1) ∧ (pCmpX k e).1 1 = hC e (e.1 (9000 + k) 1) ∧ (pCmpX k e).2.1 = eH e (e.1 (9000 + k) 1)) ∧
  FolP (pCmp2 k e) (e.1 (9000 + k) 1) (pCmpV k e) (pCmpW k e) (e.1 (9000 + k) 3) ∧
  (∃ q, Sm (JE (pCmpX k e)) q (pCmpS k e) (cTd k e)) ∧
  GBX (pCmpX k e) (cRc k e) (cRh k e) Q QB ∧
  (cRh k e < hN e (e.1 (9000 + k) 1) → hN e (e.1 (9000 + k) 1) ≤ nc (pCmpX k e) (sg (cTd k e) 0 12) ∧ 0 < hC e (e.1 (9000 + k) 1)) ∧
  (((pCmpX k e).1 2 ≤ 0 ∧ cRh k e = (pCmpX k e).1 0 ∧ cRc k e = (pCmpX k e).1 1) ∨ ((pCmpX k e).1 2 = cRc k e ∧ (pCmpX k e).1 3 = cRh k e)) ∧
  (cRc k e ≤ (pCmpX k e).1 1 ∧ 0 ≤ cRh k e ∧ cRh k e ≤ (pCmpX k e).1 0) ∧
  hC e (e.1 (9000 + k) 1) < e.1 (9000 + k) 3 ∧ e.1 (9000 + k) 3 ≤ hA e (e.1 (9000 + k) 1) ∧ e.1 (9000 + k) 3 ≤ 195600
theorem cmp_b (h : PHs S D T e) (k0 : 0 ≤ k) (k1 : k < e.1 9 2) (hw : 0 ≤ e.1 (9000 + k) 0) (r0 : 0 ≤ e.1 (9000 + k) 1) (r1 : e.1 (9000 + k) 1 < e.1 7 2) (hcode : WCod (eL e (1000 * (48 + 4 * e.1 (7000 + e.1 (9000 + k) 1) 1) + e.1 (7000 + e.1 (9000 + k) 1) 3))) (hv : 0 ≤ e.1 (7000 + e.1 (9000 + k) 1) 3 ∧ e.1 (7000 + e.1 (9000 + k) 1) 3 < 4) (hK : KpI e) (hTk : TkI2 e) (hs : e.1 (7000 + e.1 (9000 + k) 1) 6 = 0) (hm : pMark e (e.1 (9000 + k) 1) = e.1 (9000 + k) 4) : ∃ Q QB, CmB k e Q QB := by
  have n7 := h.cn.1
  have hd : ¬ Dead e (e.1 (9000 + k) 1) := fun d => d.1 hs
  have hx := cmpx_eq (e := e) (k := k) r0 (by omega) k0
  have hl := h.1.len r0 r1
  have hI := (h.1.2.1 _ r0 r1).1.2
  have hct := (h.1.2.1 _ r0 r1).2
  have hbb := h.1.1.2.1
  have hb := hbb.1
  have n9 := h.cn.2.2.1
  have hcA := hct_cA hI hct hl.1
  obtain ⟨t1, t2⟩ := hTk k k0 k1 hd
  have hbs : e.1 (9000 + k) 4 / 4 = bs e (e.1 (9000 + k) 1) := by
    rw [← hm]
    unfold pMark bs
    omega
  obtain ⟨t3, t4⟩ := t2 hbs
  have hcc := hI.cc (hN e (e.1 (9000 + k) 1)).toNat (by omega)
  have hC0 : 0 ≤ hC e (e.1 (9000 + k) 1) := hcc.2.2.1
  have hTn : 0 ≤ hT e (e.1 (9000 + k) 1) := (cT_b _).1
  have a7 : ∀ a u : Int, a ≠ 11 → (a ≠ 9000 + k ∨ u ≠ 5) → (pCmp2 k e).1 a u = e.1 a u := fun a u g1 g2 => cmp2_a g1 g2
  have eN2 : hN (pCmp2 k e) (e.1 (9000 + k) 1) = hN e (e.1 (9000 + k) 1) := a7 _ _ (by omega) (by omega)
  have eT2 : hT (pCmp2 k e) (e.1 (9000 + k) 1) = hT e (e.1 (9000 + k) 1) := by
    unfold hT
    rw [eN2]
    unfold eH
    rw [cmp2_2]
  have eTT : eT (pCmp2 k e) = eT e := by unfold eT; rw [cmp2_2]
  have eBB : eB (pCmp2 k e) = eB e := by unfold eB; rw [cmp2_2]
  have limb : e.1 (9000 + k) 3 ≤ 195600 := by
    have : hA e (e.1 (9000 + k) 1) ≤ 195002 + S := hcA
    omega
  have eW : pKept (e.1 (9000 + k) 1) (e.1 (9000 + k) 0) (eS e (9000 + k) 5 1) = 0 ∨ (e.1 (7000 + e.1 (9000 + k) 1) 12 = e.1 (9000 + k) 0 ∧ e.1 (7000 + e.1 (9000 + k) 1) 13 = pMark e (e.1 (9000 + k) 1) ∧ pKept (e.1 (9000 + k) 1) (e.1 (9000 + k) 0) (eS e (9000 + k) 5 1) = 1) := by
    unfold pKept
    have em : pMark (eS e (9000 + k) 5 1) (e.1 (9000 + k) 1) = pMark e (e.1 (9000 + k) 1) := by
      unfold pMark hT hN
      rw [eS_a (by omega), eS_a (by omega), eS_a (by omega)]
      rfl
    rw [em, eS_a (by omega), eS_a (by omega)]
    by_cases c : e.1 (7000 + e.1 (9000 + k) 1) 12 = e.1 (9000 + k) 0 ∧ e.1 (7000 + e.1 (9000 + k) 1) 13 = pMark e (e.1 (9000 + k) 1)
    · rw [if_pos c]
      exact Or.inr ⟨c.1, c.2, rfl⟩
    · rw [if_neg c]
      exact Or.inl rfl
  -- what holds of a telling, whichever way
  have fin : ∀ (x : CX), pCmpX k e = x → CXX x → x.1 2 ≤ x.1 1 → x.1 0 = hN e (e.1 (9000 + k) 1) → x.2.1 = eH e (e.1 (9000 + k) 1) → (∀ n : Nat, sg (sFollow x (e.1 (9000 + k) 3) n 0 s00) 0 40 ≤ 194582 ∧ sg (sFollow x (e.1 (9000 + k) 3) n 0 s00) 0 41 ≤ 541) ∧ hN e (e.1 (9000 + k) 1) + nl (told x (e.1 (9000 + k) 3)) ≤ 524288 := fun x _ hC h2 h0 hH => by
    have hI' : HInv x.2.1 (x.1 0) := by rw [hH, h0]; exact hI
    have hc' : HCt x.2.1 (x.1 0) S D T := by rw [hH, h0]; exact hct
    refine ⟨fun n => ⟨fol_40 hC hI' h2 hc' hb n, fol_41 hC hI' h2 hc' hb n⟩, ?_⟩
    have h1 := told_nl (lim := e.1 (9000 + k) 3) hC (hI'.hl rfl rfl) h2
    have h3 := hc'.1
    have h4 : ccn x.2.1 (x.1 0).toNat ≤ 1 := by
      rcases hI'.ccn1 (x.1 0).toNat (by have := hC.2.2.2.2; omega) with g | ⟨g, -⟩ <;> omega
    have h5 := h.1.1.2.1
    omega
  rcases eW with hP | ⟨p12, p13, hP⟩
  · -- told anew
    have ew : pCmpW k e = 0 := if_pos hP
    have eh : cRh k e = hN e (e.1 (9000 + k) 1) := if_pos hP
    have ec : cRc k e = hC e (e.1 (9000 + k) 1) := if_pos hP
    rw [ew, if_neg (by decide), if_neg (by decide)] at hx
    have hCX : CXX (pCmpX k e) := by
      rw [hx]
      exact cxx_run h.1 r0 r1 hcode (by decide) hl.1
    have x2 : (pCmpX k e).1 2 = 0 := by rw [hx]; rfl
    have x1 : (pCmpX k e).1 1 = hC e (e.1 (9000 + k) 1) := by rw [hx]; rfl
    have xn : (pCmpX k e).1 0 = hN e (e.1 (9000 + k) 1) := by rw [hx]; rfl
    have xh : (pCmpX k e).2.1 = eH e (e.1 (9000 + k) 1) := by rw [hx]; rfl
    have hS : pCmpS k e = cTd k e := by
      unfold pCmpS pFS
      rw [if_neg (by rw [ew]; omega)]
      rfl
    obtain ⟨q1, q2⟩ := fin _ rfl hCX (by omega) xn xh
    refine ⟨fun _ => True, fun _ => True, ⟨hCX, by omega, xn, x1, xh⟩, ⟨hCX.1, ⟨⟨by omega, by omega⟩, by rw [eT2]; exact hTn⟩, ?_, fun hh => ?_, fun _ j => ?_⟩, ⟨sg (cTd k e) 0 13, by rw [hS]; exact ⟨sg (cTd k e) 0 12, sn (cTd k e), ax_id, rfl, rfl⟩⟩, ?_, fun hh => by omega, Or.inl ⟨by omega, by omega, by omega⟩, by omega, t3, t4, limb⟩
    · rw [eN2]
      have : pFS (pCmp2 k e) (e.1 (9000 + k) 1) (pCmpV k e) (pCmpW k e) (e.1 (9000 + k) 3) = told (pCmpX k e) (e.1 (9000 + k) 3) := hS
      rw [this]
      exact q2
    · rw [ew] at hh
      omega
    · have := q1 j
      show sg (sFollow (pCmpX k e) (e.1 (9000 + k) 3) j 0 s00) 0 40 ≤ 200000 ∧ sg (sFollow (pCmpX k e) (e.1 (9000 + k) 3) j 0 s00) 0 41 ≤ 2047
      omega
    · rw [ec, eh, ← x1, ← xn]
      exact replay_gb
  · -- from what was kept
    have ew : pCmpW k e = 2 := if_neg (by rw [hP]; decide)
    have eh : cRh k e = e.1 (7000 + e.1 (9000 + k) 1) 15 := if_neg (by unfold cG; rw [hP]; decide)
    have ec : cRc k e = e.1 (7000 + e.1 (9000 + k) 1) 14 := if_neg (by unfold cG; rw [hP]; decide)
    rw [ew, if_pos rfl, if_pos rfl] at hx
    obtain ⟨z1, z2⟩ := hK _ r0 r1 hd (by omega)
    have hV := z2 (by rw [p13]; unfold pMark bs; omega)
    have e4 : e.1 (7000 + e.1 (9000 + k) 1) 13 % 4 = e.1 (7000 + e.1 (9000 + k) 1) 3 := by rw [p13]; unfold pMark; omega
    rw [e4] at hV
    obtain ⟨x0, F, lim0, Q, QB, G1, ⟨G2, G2b, n0p⟩, G3, G4, G5, G6, G7⟩ := hV
    rw [← hx] at G1
    have x2 : (pCmpX k e).1 2 = e.1 (7000 + e.1 (9000 + k) 1) 14 := by rw [hx]; rfl
    have x3 : (pCmpX k e).1 3 = e.1 (7000 + e.1 (9000 + k) 1) 15 := by rw [hx]; rfl
    have x1 : (pCmpX k e).1 1 = hC e (e.1 (9000 + k) 1) := by rw [hx]; rfl
    have xn : (pCmpX k e).1 0 = hN e (e.1 (9000 + k) 1) := by rw [hx]; rfl
    have xh : (pCmpX k e).2.1 = eH e (e.1 (9000 + k) 1) := by rw [hx]; rfl
    have g6 := G1.2.2.2.2.2.1
    have g8 := G1.2.2.2.2.2.2.2.1
    obtain ⟨-, -, g9a, g9b, g9c⟩ := G1.2.2.2.2.2.2.2.2.1
    have hCX : CXX (pCmpX k e) := by
      rw [hx]
      exact cxx_run h.1 r0 r1 hcode (by decide) (by omega)
    have h2 : (pCmpX k e).1 2 ≤ (pCmpX k e).1 1 := by omega
    have hI' : HInv (pCmpX k e).2.1 ((pCmpX k e).1 0) := by rw [xh, xn]; exact hI
    have hc' : HCt (pCmpX k e).2.1 ((pCmpX k e).1 0) S D T := by rw [xh, xn]; exact hct
    obtain ⟨⟨-, K1b⟩, K2, K3, K4⟩ := kept_all G1 G2 hCX G3 G4 G5 G6 G2b hI' h2 hc' hb (lim' := e.1 (9000 + k) 3) (by omega) (by rw [xh, xn]; exact t4)
    have hgb := grow_gb G1 G2 hCX G3 G4 G5 G6 rfl
    obtain ⟨q1, q2⟩ := fin _ rfl hCX h2 xn xh
    -- the state that comes of it
    have hSm : ∃ q, Sm (JE (pCmpX k e)) q (pCmpS k e) (cTd k e) := by
      by_cases cm : e.1 16 7 = e.1 (9000 + k) 1
      · obtain ⟨m1, m2, m3⟩ := G7 cm
        have e10 : sg (eT (pCmp2 k e)) 0 10 = lim0 := by
          rw [eTT, m1]
          unfold sKnow
          rw [st_g, if_neg (by omega), st_g, if_neg (by omega)]
          exact G4.2.1
        have ek : sKeep (eT (pCmp2 k e)) = kst (told x0 lim0) (x0.1 0 + F.length + 1) := by
          rw [eTT, m1]
          rfl
        have eS' : pCmpS k e = sFollow (pCmpX k e) (e.1 (9000 + k) 3) ((e.1 (9000 + k) 3 - lim0).toNat + 1) lim0 (kst (told x0 lim0) (x0.1 0 + F.length + 1)) := by
          unfold pCmpS pFS
          rw [if_pos ⟨ew, by rw [a7 _ _ (by decide) (by omega)]; exact cm⟩, e10, ek]
          rfl
        rw [eS']
        exact K3 _ (by omega)
      · have hS : pCmpS k e = cTd k e := by
          unfold pCmpS pFS
          rw [if_neg (fun hh => cm (by rw [← hh.2]; exact (a7 _ _ (by decide) (by omega)).symm))]
          rfl
        exact ⟨sg (cTd k e) 0 13, by rw [hS]; exact ⟨sg (cTd k e) 0 12, sn (cTd k e), ax_id, rfl, rfl⟩⟩
    have hnl : nl (pCmpS k e) = nl (cTd k e) := by
      obtain ⟨q, p, L, u1, -, u3⟩ := hSm
      unfold nl
      rw [u1]
      show ((L.length : Nat) : Int) = _
      rw [u3]
    refine ⟨_, _, ⟨hCX, h2, xn, x1, xh⟩, ⟨hCX.1, ⟨⟨by omega, by omega⟩, by rw [eT2]; exact hTn⟩, ?_, fun hh => ?_, fun _ j => ?_⟩, hSm, by rw [ec, eh]; exact hgb, fun _ => ⟨by rw [← xn]; exact K4, by omega⟩, Or.inr ⟨by omega, by omega⟩, by omega, t3, t4, limb⟩
    · rw [eN2]
      have : nl (pFS (pCmp2 k e) (e.1 (9000 + k) 1) (pCmpV k e) (pCmpW k e) (e.1 (9000 + k) 3)) = nl (cTd k e) := hnl
      rw [this]
      exact q2
    · obtain ⟨m1, m2, m3⟩ := G7 (by rw [← hh.2]; exact (a7 _ _ (by decide) (by omega)).symm)
      have e10 : sg (eT (pCmp2 k e)) 0 10 = lim0 := by
        rw [eTT, m1]
        unfold sKnow
        rw [st_g, if_neg (by omega), st_g, if_neg (by omega)]
        exact G4.2.1
      have ek : sKeep (eT (pCmp2 k e)) = kst (told x0 lim0) (x0.1 0 + F.length + 1) := by
        rw [eTT, m1]
        rfl
      have hb0 := fol_bp (lim := lim0) G2 (lim0.toNat + 1) 0 s00 1 (bp00 G2.2.2.2.2.1) rfl (by omega)
      obtain ⟨w1, w2⟩ := kst_w G1 m3 hb0.2 G4
      rw [e10, ek, eBB, eT2]
      have h40 : sg (kst (told x0 lim0) (x0.1 0 + F.length + 1)) 0 40 = sg (told x0 lim0) 0 40 := kst_o (by omega)
      refine ⟨w1, w2, ⟨by omega, by rw [h40]; exact m2⟩, K2, ?_⟩
      rw [h40]
      have hTb : hT e (e.1 (9000 + k) 1) ≤ 540 := by
        have : hT e (e.1 (9000 + k) 1) ≤ D := hct.2.1
        have h5 := h.1.1.2.1
        omega
      omega
    · have := q1 j
      show sg (sFollow (pCmpX k e) (e.1 (9000 + k) 3) j 0 s00) 0 40 ≤ 200000 ∧ sg (sFollow (pCmpX k e) (e.1 (9000 + k) 3) j 0 s00) 0 41 ≤ 2047
      omega
end CM2
