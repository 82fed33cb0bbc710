/-! THE CLASS'S TELLING: rows grow with lines and arrivals: a telling from the beginning. -/
section RWF
variable {m0 m m' M mp m1 m2 : MM} {x : CX} {s s' : TS} {B : Int} {a b c e i j v k h n l w p g t q r : Int} {L : Int → List Int}
theorem follow_e2 (hC : CR m m s B) (okr : okc m r 7) (hkn : m 16 7 = 0 ∨ 4 ≤ m 16 7) (P : XP m (m r 16) c x) (hx : CxW x) (h4 : x.1 4 = w) (h2 : x.1 2 = if w = 2 then m r 14 else 0) (h3 : w = 2 → x.1 3 = m r 15) (hw : ¬ (w = 2 ∧ m 16 7 = r)) (l0 : 0 ≤ l) (hN0 : 0 ≤ x.1 0) (hl2 : x.1 5 ≤ 24) (hl : l ≤ 300000) (hQ : ∀ j : Nat, sg (sFollow x l j 0 s00) 0 40 ≤ 200000) (hN : x.1 0 + nl (told x l) ≤ 524288) : ∃ m', fm_X4_follow r c l w m = some (if sg (told x l) 0 30 = 0 then 1 else 0, m') ∧ CR m' m' (told x l) (30 * (3 * sg (told x l) 0 40 + 26 * (l + 1))) ∧ SW x (told x l) (30 * (3 * sg (told x l) 0 40 + 26 * (l + 1))) ∧ PF m m' ∧ XC m' x ∧ m' 16 7 = 0 ∧ CpM m m' (told x l) := by
  obtain ⟨m1, f1, f2, f3, f4, f5, f6, f7, f8, f9, f10⟩ := load_e (c := c) (w := w) hC okr hkn
  rw [if_neg hw, if_neg hw] at f2
  have P1 := P.pf f3
  have X1 : XC m1 x := P1.xc f4 f5 (by rw [f6, h4]) (by rw [f7, h2]) (fun hh => by
    rw [f8]
    by_cases q : w = 2
    · exact (h3 q).symm
    · rw [h2, if_neg q] at hh
      omega)
  have hn := P.1.n
  have e00' : sg s00 0 40 = 0 := rfl
  obtain ⟨m2, g1, g2, g3⟩ := follow_l2 (l := l) (Q := 200000) X1 hx hN0 hl2 (l.toNat + 1) BIG 0 s00 m1 0 (by omega) (Nat.le_of_lt (BIG_g (by omega))) ⟨by decide, l0⟩ (by omega) f2 (sw00 hn.1) (btw00 hn.1) (fun j _ => hQ j) (by rw [e00']; omega) hN
  have eT : sg (told x l) 0 40 = sg (sFollow x l (l.toNat + 1) 0 s00) 0 40 := rfl
  rw [e00'] at g2 g3
  rw [eT]
  have pf2 := f3.tr (PF.of g2)
  have P2 := P.pf pf2
  have e := g2.2.1.2.2
  refine ⟨m2, ?_, g2.re.mono (by omega), g3.mono (by omega), pf2, P2.xc ((e 2 (by decide)).trans f4) ((e 3 (by decide)).trans f5) (by rw [e 4 (by decide), f6, h4]) (by rw [e 5 (by decide), f7, h2]) (fun hh => ?_), (e 7 (by decide)).trans f9, f10.cpm g2.cpm⟩
  · unfold fm_X4_follow
    rw [bd_t f1, lx_p, f2.c17 (j := 10) (by decide) (by decide)]
    exact g1
  · rw [e 6 (by decide), f8]
    by_cases q : w = 2
    · exact (h3 q).symm
    · rw [h2, if_neg q] at hh
      omega
end RWF
