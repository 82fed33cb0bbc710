/-! THE CLASS'S TELLING: rows grow with lines and arrivals: a kept telling goes on. -/
section RWK
variable {m0 m m' M mp m1 m2 : MM} {x : CX} {s s' : TS} {B : Int} {a b c e i j v k h n l w p g t q r : Int} {L : Int → List Int}
theorem follow_k2 {Q : Int} (hC : CR m m s B) (okr : okc m r 7) (P : XP m (m r 16) c x) (hx : CxW x) (h4 : x.1 4 = 2) (h2 : x.1 2 = m r 14) (h3 : x.1 3 = m r 15) (hr : 4 ≤ r) (hw : m 16 7 = r) (hW : SW x (sKeep s) B) (hb : BtW x (sKeep s)) (l0 : sg s 0 10 ≤ l) (hN0 : 0 ≤ x.1 0) (hl2 : x.1 5 ≤ 24) (hl : l ≤ 300000) (hQ : ∀ j : Nat, sg (sFollow x l j (sg s 0 10) (sKeep s)) 0 40 ≤ Q) (hB : B + 30 * (3 * (Q - sg (sKeep s) 0 40) + 26 * (l - sg s 0 10 + 1)) < 268435456) (hN : x.1 0 + nl (sFollow x l ((l - sg s 0 10).toNat + 1) (sg s 0 10) (sKeep s)) ≤ 524288) : ∃ m', fm_X4_follow r c l 2 m = some (if sg (sFollow x l ((l - sg s 0 10).toNat + 1) (sg s 0 10) (sKeep s)) 0 30 = 0 then 1 else 0, m') ∧ CR m' m' (sFollow x l ((l - sg s 0 10).toNat + 1) (sg s 0 10) (sKeep s)) (B + 30 * (3 * (sg (sFollow x l ((l - sg s 0 10).toNat + 1) (sg s 0 10) (sKeep s)) 0 40 - sg (sKeep s) 0 40) + 26 * (l - sg s 0 10 + 1))) ∧ SW x (sFollow x l ((l - sg s 0 10).toNat + 1) (sg s 0 10) (sKeep s)) (B + 30 * (3 * (sg (sFollow x l ((l - sg s 0 10).toNat + 1) (sg s 0 10) (sKeep s)) 0 40 - sg (sKeep s) 0 40) + 26 * (l - sg s 0 10 + 1))) ∧ PF m m' ∧ XC m' x ∧ m' 16 7 = 0 ∧ CpM m m' (sFollow x l ((l - sg s 0 10).toNat + 1) (sg s 0 10) (sKeep s)) := by
  obtain ⟨m1, f1, f2, f3, f4, f5, f6, f7, f8, f9, f10⟩ := load_e (c := c) (w := 2) hC okr (Or.inr (by omega))
  rw [if_pos ⟨rfl, hw⟩, if_pos ⟨rfl, hw⟩] at f2
  rw [if_pos rfl] at f7
  have P1 := P.pf f3
  have X1 : XC m1 x := P1.xc f4 f5 (by rw [f6, h4]) (by rw [f7, h2]) (fun _ => by rw [f8, h3])
  have e10 : sg (sKeep s) 0 10 = sg s 0 10 := by
    unfold sKeep
    rw [st_g, if_neg (by omega), st_g, if_neg (by omega), st_g, if_neg (by omega), st_g, if_neg (by omega)]
    rfl
  have i0 : 0 ≤ sg s 0 10 := by
    have := hb.2.2.2.1
    rw [e10] at this
    exact this
  have hn := P.1.n
  obtain ⟨m2, g1, g2, g3⟩ := follow_l2 (l := l) (Q := Q) X1 hx hN0 hl2 ((l - sg s 0 10).toNat + 1) BIG (sg s 0 10) (sKeep s) m1 B (by omega) (Nat.le_of_lt (BIG_g (by omega))) ⟨i0, l0⟩ (by omega) f2 hW hb (fun j _ => hQ j) (by omega) hN
  have pf2 := f3.tr (PF.of g2)
  have P2 := P.pf pf2
  have e := g2.2.1.2.2
  refine ⟨m2, ?_, g2.re.mono (by omega), g3.mono (by omega), pf2, P2.xc ((e 2 (by decide)).trans f4) ((e 3 (by decide)).trans f5) (by rw [e 4 (by decide), f6, h4]) (by rw [e 5 (by decide), f7, h2]) (fun _ => by rw [e 6 (by decide), f8, h3]), (e 7 (by decide)).trans f9, f10.cpm g2.cpm⟩
  unfold fm_X4_follow
  rw [bd_t f1, lx_p, f2.c17 (j := 10) (by decide) (by decide), e10]
  exact g1
end RWK
