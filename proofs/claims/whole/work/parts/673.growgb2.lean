/-! THE TELLING, plain: a history that has grown: from arrival to arrival. -/
section SI9
variable {x x' : CX} {s t s1 s2 S : TS} {B B' : Int} {a b c e i j v k h l w p q r o u kd lim c0 n0 : Int} {L F : List (Int × Int × Int)} {Q QB : TS → Prop} {Ok : TS → Prop}
theorem FNS.ok (hF : FNS x S F lim) : OkG F S := ⟨(goes_p hF.1).1, [], by rw [hF.2.2.1, List.append_nil]⟩
theorem QBA.step (h : GRW x x' F lim c0 n0) (hC : CXX x) (hF : FNS x S F lim) (hA : QBA x x' F QB lim S t) (hg : goes t = true) : ∃ (s : TS) (q B i : Int) (m : Nat), BP x s B ∧ QB s ∧ Sm (JG x x' F) q t s ∧ R13 x F q s ∧ sg s 0 10 < lim ∧ goes s = true ∧ na x (sg s 0 11) = i ∧ na x' (sg t 0 11) = i ∧ sg s 0 11 ≤ i ∧ i < x.1 0 ∧ ek (x.2.1 i) ≤ 7 ∧ sFollow x lim m (sg s 0 10 + 1) (sTake x i s) = S ∧ OkG F (sTake x i s) := by
  obtain ⟨s, q, B, n, hP, hQ, hS, h13, hl, hfo⟩ := hA
  have hgs : goes s = true := by rw [← sm_goes hS]; exact hg
  have e11 := sm_g (a := 0) (j := 11) hS (by omega)
  cases n with
  | zero =>
    have : S = s := hfo.symm
    rw [← this, hF.2.1] at hl
    omega
  | succ n =>
    unfold sFollow at hfo
    rw [if_pos hl, if_pos hgs] at hfo
    by_cases c : na x (sg s 0 11) < x.1 0
    · rw [if_pos c] at hfo
      obtain ⟨z1, z2⟩ := na_ok c
      refine ⟨s, q, B, _, n, hP, hQ, hS, h13, hl, hgs, rfl, ?_, z1, c, z2, hfo, ?_⟩
      · rw [e11]
        exact h.nax hP.2.2.2.2.1.1 c
      · have := hF.ok
        rw [← hfo] at this
        exact o_follow okG hC _ _ _ _ (BP.take hC hP z1 c z2).1 this
    · rw [if_neg c] at hfo
      rw [← hfo] at hF
      have := hF.2.1
      rw [st_g, if_neg (by omega)] at this
      omega
theorem QBA.last (hF : FNS x S F lim) {m : Nat} (hl : sg s 0 10 + 1 = lim) (hfo : sFollow x lim m (sg s 0 10 + 1) (sTake x i s) = S) : sTake x i s = S := by
  cases m with
  | zero => exact hfo
  | succ m =>
    unfold sFollow at hfo
    rw [if_neg (by omega)] at hfo
    exact hfo
theorem QBG.step (h : GRW x x' F lim c0 n0) (hC : CXX x) (hC' : CXX x') (hG : GBX x c0 n0 Q QB) (hF : FNS x S F lim) (hT : ∀ j : Int, 0 ≤ j → j < x.1 0 → ek (x.2.1 j) = 17 → ex (x.2.1 j) ≤ lim) (hA : QBG x x' F QB lim S t) (hg : goes t = true) (hn : na x' (sg t 0 11) < x'.1 0) : QG x x' F Q lim (sNoted x' (na x' (sg t 0 11)) t) ∧ QBG x x' F QB lim S (sTake x' (na x' (sg t 0 11)) t) ∧ (sg (sTaken x' (na x' (sg t 0 11)) t) 0 30 = 0 → sg (sTake x' (na x' (sg t 0 11)) t) 0 30 = 0) := by
  obtain ⟨⟨B', hP'⟩, hA⟩ := hA
  obtain ⟨y1, y2⟩ := na_ok hn
  have hN' := noted_all hC' hP' y1 hn y2
  have hT' := BP.take hC' hP' y1 hn y2
  have h8 := h.2.2.2.2.2.2.2.1
  rcases hA with hA | hA
  · obtain ⟨s, q, B, i, m, hP, hQ, hS, h13, hl, hgs, ei, ei', z1, z2, z3, hfo, hOk⟩ := QBA.step h hC hF hA hg
    rw [ei'] at hN' hT' ⊢
    have hN := noted_all hC hP z1 z2 z3
    have hTk := BP.take hC hP z1 z2 z3
    obtain ⟨w1, w2⟩ := hG.1.2.1 s hQ hgs (by rw [ei]; exact z2)
    rw [ei] at w1 w2
    have okT := o_take okG hOk
    have ii0 : 0 ≤ i := by have := hP.2.2.2.2.1.1; omega
    have hlast : sg s 0 10 + 1 = lim → x.1 0 ≤ nc x (sg (sTaken x i s) 0 12) ∧ (sn (sTaken x i s)).length = F.length := fun hl1 => by
      have e := QBA.last hF hl1 hfo
      rw [← take_12.1, ← take_12.2, e]
      exact ⟨hF.2.2.2, by rw [hF.2.2.1]⟩
    obtain ⟨q', g1, g2, g3⟩ := h.take hC hG.1.1 hT hP z1 z2 z3 w1 hOk hS h13 hl hlast
    refine ⟨⟨⟨⟨_, hN'.1⟩, hN'.2.2.1⟩, Or.inl ⟨_, q, _, hN.1, hN.2.2.1, w1, ?_, ?_, ?_⟩⟩, ⟨⟨_, hT'.1⟩, ?_⟩, fun _ => ?_⟩
    · exact sm_noted (simG h) hC hP z1 z2 z3 (h.2.1 i ii0 z2) hS (o_taken okG hC hP z1 z2 z3 okT)
    · rw [hN.2.2.2.2.2.2.1]; exact hl
    · exact ok_all okG hC.1.1 hC.1.2.2 hC.2.2.2.2.1 hC.2.1 hN.1 hN.2.2.1 hN.2.1 okT
    · by_cases c : sg s 0 10 + 1 < lim
      · left
        exact ⟨_, q', _, m, hTk.1, w2, g1, g2 c, by rw [hTk.2.1]; exact c, by rw [hTk.2.1]; exact hfo⟩
      · right
        have hl1 : sg s 0 10 + 1 = lim := by omega
        have e := QBA.last hF hl1 hfo
        refine ⟨?_, ?_⟩
        · rw [sm_g g1 (by omega), hTk.2.1]; omega
        · obtain ⟨p, L, ep, hJ⟩ := g1
          have e12 : sg (sTake x' i t) 0 12 = p := by rw [ep, ax_g, if_pos ⟨rfl, rfl⟩]
          have l1 := hJ.2.2.2.2.1 (by rw [e]; exact hF.2.2.2)
          rw [e, hF.2.2.1, if_neg (by omega)] at l1
          rw [e12, l1]
          exact Int.le_refl _
    · rw [sm_g g1 (by omega)]
      exact hOk.1
  · obtain ⟨g1, g2⟩ := hA
    have f1 := far_taken h.hk17 hC' hP' y1 hn y2 g2
    refine ⟨⟨⟨⟨_, hN'.1⟩, hN'.2.2.1⟩, Or.inr ⟨?_, ?_⟩⟩, ⟨⟨_, hT'.1⟩, Or.inr ⟨?_, ?_⟩⟩, fun h30 => ?_⟩
    · rw [hN'.2.2.2.2.2.2.1]; exact g1
    · exact far_noted h.hk17 hC' hP' y1 hn y2 g2
    · rw [hT'.2.1]; omega
    · rw [take_12.1]; exact f1
    · obtain ⟨a1, a2, a3, a4, a5, a6, -⟩ := taken_all hC' hP' y1 hn y2
      have hb := hP'.2.2.2.2.2.1
      have hts := h.tasks hT
      rw [take_d]
      generalize sTaken x' (na x' (sg t 0 11)) t = T at a1 a4 a6 f1 h30
      have s12 : sg (st T 0 10 (sg T 0 10 + 1)) 0 12 = sg T 0 12 := by rw [st_g, if_neg (by omega)]
      have s10 : sg (st T 0 10 (sg T 0 10 + 1)) 0 10 = sg T 0 10 + 1 := by rw [st_g, if_pos ⟨rfl, rfl⟩]
      have s30 : sg (st T 0 10 (sg T 0 10 + 1)) 0 30 = 0 := by rw [st_g, if_neg (by omega)]; exact h30
      rw [pass_end _ _ _ (by rw [a6]; exact hb.2) (by rw [a6]; omega) s30 (by rw [s12]; exact f1) (fun j z0 z1 z2 => by
        have := hts j (by rw [a6] at z0; omega) z1 z2
        rw [s10, a4]; omega), st_g, if_neg (by omega)]
      exact s30
/-- what is known of the states carries over to the grown history -/
theorem grow_gb (h : GRW x x' F lim c0 n0) (hC : CXX x) (hC' : CXX x') (hG : GBX x c0 n0 Q QB) (hF : FNS x S F lim) (hT : ∀ j : Int, 0 ≤ j → j < x.1 0 → ek (x.2.1 j) = 17 → ex (x.2.1 j) ≤ lim) (l0 : 0 < lim) (hS : told x lim = S) : GBX x' c0 n0 (QG x x' F Q lim) (QBG x x' F QB lim S) := by
  have h6 := h.2.2.2.2.2.1
  have hN0 := hC.2.2.2.2.1
  refine ⟨⟨⟨fun t hq hg h0 => hq.turn h hC hC' hG hg h0, fun t hq r1 r2 => ?_, fun t hq hg h0 h7 h4 h29 h19 => hq.kp h hG hC hg h0 h7 h4 h29 h19⟩, fun t hA hg hn => ?_, fun t hA hg hn _ h30 => (QBG.step h hC hC' hG hF hT hA hg hn).2.2 h30, fun t hA h30 hl _ => ?_⟩, fun t hq h30 hl _ => ?_, ⟨_, bp00 hC'.2.2.2.2.1⟩, Or.inl ⟨s00, sg s00 0 13, _, lim.toNat + 1, bp00 hN0, hG.2.2, ⟨sg s00 0 12, sn s00, ax_id, ?_⟩, ?_, l0, hS⟩⟩
  · rw [h6] at r2
    rcases hq.2 with ⟨s, q, B, hW, hT, hQ, hS, hl, hO⟩ | ⟨g1, g2⟩
    · rw [sm_g hS (by omega)]
      exact (hO 0).1
    · omega
  · have := QBG.step h hC hC' hG hF hT hA hg hn
    exact ⟨this.1, this.2.1⟩
  · rw [h6] at hl
    rcases hA.2 with ⟨s, q, B, n, hP, hQ, hS, h13, hl', hfo⟩ | ⟨g1, g2⟩
    · rw [sm_g hS (by omega)] at hl
      omega
    · exact g2
  · rw [h6] at hl
    rcases hq.2 with ⟨s, q, B, hW, hT, hQ, hS, hl', hO⟩ | ⟨g1, g2⟩
    · rw [sm_g hS (by omega)] at hl
      omega
    · exact g2
  · have e : sg s00 0 12 = 0 := rfl
    have y := h.nc1 _ 0 rfl (Int.le_refl _) hN0
    refine ⟨rfl, ⟨Int.le_refl _, hN0⟩, Int.le_refl _, fun z => ?_, fun z => ?_, fun z => absurd rfl z⟩
    · rw [e] at z ⊢
      exact y.1 z
    · rw [e] at z ⊢
      rw [y.2 z, show (((sn s00).length : Nat) : Int) = 0 from rfl, Int.add_zero]
  · have e : sg s00 0 13 = 0 := rfl
    unfold R13
    rw [e]
    by_cases c : 0 < x.1 0
    · exact Or.inl ⟨c, rfl⟩
    · exact Or.inr ⟨by omega, by omega, by omega⟩
/-- where all is seen there is nothing to know -/
theorem replay_gb : GBX x (x.1 1) (x.1 0) (fun _ => True) (fun _ => True) :=
  ⟨⟨⟨fun _ _ _ _ => trivial, fun _ _ r1 r2 => absurd r2 (Int.not_lt.mpr r1), fun _ _ _ _ _ _ _ _ r1 r2 => absurd r2 (Int.not_lt.mpr r1)⟩, fun _ _ _ _ => ⟨trivial, trivial⟩, fun _ _ _ _ h => absurd h (Int.lt_irrefl _), fun _ _ _ _ h => absurd h (Int.lt_irrefl _)⟩, fun _ _ _ _ h => h, trivial⟩
end SI9
