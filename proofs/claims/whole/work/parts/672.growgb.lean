/-! THE TELLING, plain: a history that has grown: what is known of the states its telling comes by. -/
section SI8
variable {x x' : CX} {s t s1 s2 S : TS} {B : Int} {a b c e i j v k h l w p q r o u kd lim c0 n0 : Int} {L F : List (Int × Int × Int)} {Q QB : TS → Prop} {Ok : TS → Prop}
theorem goes_p (h : goes s = true) : sg s 0 30 = 0 ∧ sg s 0 9 = 0 := by
  unfold goes at h
  simp only [Bool.and_eq_true, decide_eq_true_eq] at h
  exact h
theorem on_one (hg : goes s = true) (h0 : 0 ≤ first s) (n : Nat) : sOn x (n + 1) s = sOn x n (sTurn x (first s) s) := by
  conv => lhs; unfold sOn
  rw [if_neg (show ¬ first s < 0 by omega), if_pos hg]
/-- what holds behind all turns holds behind each -/
theorem ok_all (O : OKH x Ok) (hx : CodeW x) (hs : x.1 3 ≤ x.1 0) (hN : 0 ≤ x.1 0) (hl2 : x.1 5 ≤ 24) (hW : SW x s B) (hT : TkW x s) (hO : OW s) (hf : Ok (sOn x 1000 s)) (n : Nat) : Ok (sOn x n s) := by
  by_cases c : n ≤ 1000
  · have := on_add (x := x) n (1000 - n) s
    rw [show n + (1000 - n) = 1000 by omega] at this
    rw [this] at hf
    have ha := on_all hx hs hN hl2 n s B hW hT hO
    exact o_on O hx hs hN hl2 _ _ _ ha.1 ha.2.2 hf
  · have hpb : pot s ≤ 204 := by
      have := (pw_b (s := s) 12 0).2
      have := hW.2.2.2.2.2.2.1
      unfold pot
      omega
    have he := on_end hx hs hN hl2 204 1000 s B hW hT hO (by omega) (by omega)
    have := on_add (x := x) 1000 (n - 1000) s
    rw [show 1000 + (n - 1000) = n by omega] at this
    rw [this, on_stop he]
    exact hf
/-- what is needed of a telling for the next -/
def GBX (x : CX) (c0 n0 : Int) (Q QB : TS → Prop) : Prop := GB x c0 n0 Q QB ∧ (∀ s, Q s → sg s 0 30 = 0 → x.1 1 ≤ sg s 0 10 → n0 ≤ nc x (sg s 0 12) → x.1 0 ≤ nc x (sg s 0 12)) ∧ QB s00
/-- how a telling ended on which another is to go on -/
def FNS (x : CX) (S : TS) (F : List (Int × Int × Int)) (lim : Int) : Prop := goes S = true ∧ sg S 0 10 = lim ∧ sn S = F ∧ x.1 0 ≤ nc x (sg S 0 12)
def QA (x x' : CX) (F : List (Int × Int × Int)) (Q : TS → Prop) (lim : Int) (t : TS) : Prop := ∃ s q B, SW x s B ∧ TkW x s ∧ Q s ∧ Sm (JG x x' F) q t s ∧ sg s 0 10 < lim ∧ ∀ n, OkG F (sOn x n s)
def QFar (x' : CX) (lim : Int) (t : TS) : Prop := lim ≤ sg t 0 10 ∧ x'.1 0 ≤ nc x' (sg t 0 12)
def QG (x x' : CX) (F : List (Int × Int × Int)) (Q : TS → Prop) (lim : Int) (t : TS) : Prop := ((∃ B, SW x' t B) ∧ TkW x' t) ∧ (QA x x' F Q lim t ∨ QFar x' lim t)
def QBA (x x' : CX) (F : List (Int × Int × Int)) (QB : TS → Prop) (lim : Int) (S t : TS) : Prop := ∃ s q B n, BP x s B ∧ QB s ∧ Sm (JG x x' F) q t s ∧ R13 x F q s ∧ sg s 0 10 < lim ∧ sFollow x lim n (sg s 0 10) s = S
def QBG (x x' : CX) (F : List (Int × Int × Int)) (QB : TS → Prop) (lim : Int) (S t : TS) : Prop := (∃ B, BP x' t B) ∧ (QBA x x' F QB lim S t ∨ QFar x' lim t)
theorem GRW.hk17 (h : GRW x x' F lim c0 n0) : ∀ j : Int, 0 ≤ j → j < x'.1 0 → ek (x'.2.1 j) ≤ 17 := by
  intro j j0 j1
  by_cases c1 : j < x.1 0
  · rw [h.2.1 j j0 c1]
    exact h.2.2.2.2.2.2.2.2.2.2.1 j j0 c1
  · by_cases c2 : j < x.1 0 + F.length
    · have := h.cmdat (by omega) c2
      omega
    · by_cases c3 : j = x.1 0 + F.length
      · rw [c3, h.2.2.2.1.1]; decide
      · have := h.2.2.2.2.1 j (by omega) j1
        omega
theorem GRW.tasks (h : GRW x x' F lim c0 n0) (hT : ∀ j : Int, 0 ≤ j → j < x.1 0 → ek (x.2.1 j) = 17 → ex (x.2.1 j) ≤ lim) : ∀ j : Int, 0 ≤ j → j < x'.1 0 → ek (x'.2.1 j) = 17 → ex (x'.2.1 j) ≤ lim := by
  intro j j0 j1 j2
  by_cases c1 : j < x.1 0
  · rw [h.2.1 j j0 c1] at j2 ⊢
    exact hT j j0 c1 j2
  · by_cases c2 : j < x.1 0 + F.length
    · have := h.cmdat (by omega) c2
      omega
    · by_cases c3 : j = x.1 0 + F.length
      · rw [c3, h.2.2.2.1.2]; exact Int.le_refl _
      · have := h.2.2.2.2.1 j (by omega) j1
        omega
theorem far_turn (hk : ∀ j : Int, 0 ≤ j → j < x.1 0 → ek (x.2.1 j) ≤ 17) (hx : CodeW x) (hW : SW x s B) (k0 : 0 ≤ k) (k1 : k < sg s 0 5) (h : x.1 0 ≤ nc x (sg s 0 12)) : x.1 0 ≤ nc x (sg (sTurn x k s) 0 12) := by
  have hb := hW.br k0 k1
  have hh : ¬ sg (sTurn x k s) 0 12 < sg s 0 12 := fun hc => absurd (o_turn okM hx hb.2.1.1 hW.2.2.2.2.2.2.2.1.1 hc) (Int.lt_irrefl _)
  exact nc_far hk _ _ _ rfl hW.1.1 (by omega) h
theorem far_noted (hk : ∀ j : Int, 0 ≤ j → j < x.1 0 → ek (x.2.1 j) ≤ 17) (hC : CXX x) (hP : BP x s B) (i0 : sg s 0 11 ≤ i) (i1 : i < x.1 0) (hi7 : ek (x.2.1 i) ≤ 7) (h : x.1 0 ≤ nc x (sg s 0 12)) : x.1 0 ≤ nc x (sg (sNoted x i s) 0 12) := by
  have hh : ¬ sg (sNoted x i s) 0 12 < sg s 0 12 := fun hc => absurd (o_noted okM hC hP i0 i1 hi7 hc) (Int.lt_irrefl _)
  exact nc_far hk _ _ _ rfl hP.1.1.1 (by omega) h
theorem far_taken (hk : ∀ j : Int, 0 ≤ j → j < x.1 0 → ek (x.2.1 j) ≤ 17) (hC : CXX x) (hP : BP x s B) (i0 : sg s 0 11 ≤ i) (i1 : i < x.1 0) (hi7 : ek (x.2.1 i) ≤ 7) (h : x.1 0 ≤ nc x (sg s 0 12)) : x.1 0 ≤ nc x (sg (sTaken x i s) 0 12) := by
  have hh : ¬ sg (sTaken x i s) 0 12 < sg s 0 12 := fun hc => absurd (o_noted okM hC hP i0 i1 hi7 (o_taken okM hC hP i0 i1 hi7 hc)) (Int.lt_irrefl _)
  exact nc_far hk _ _ _ rfl hP.1.1.1 (by omega) h
theorem take_12 : sg (sTake x i s) 0 12 = sg (sTaken x i s) 0 12 ∧ sn (sTake x i s) = sn (sTaken x i s) := by
  have := pass_g (x := x) (q := 12) ⟨by decide, by decide, by decide⟩ (x.1 0 - sg (sTaken x i s) 0 13 + 1).toNat (sg (sTaken x i s) 0 13) (st (sTaken x i s) 0 10 (sg (sTaken x i s) 0 10 + 1))
  rw [← take_d, st_g, if_neg (by omega)] at this
  exact ⟨this.1, this.2⟩
/-- the turns -/
theorem QG.turn (h : GRW x x' F lim c0 n0) (hC : CXX x) (hC' : CXX x') (hG : GBX x c0 n0 Q QB) (hq : QG x x' F Q lim t) (hg : goes t = true) (h0 : 0 ≤ first t) : QG x x' F Q lim (sTurn x' (first t) t) := by
  obtain ⟨⟨⟨B', hW'⟩, hT'⟩, hq⟩ := hq
  obtain ⟨f1, f2, f3⟩ := (first_b (s := t)).resolve_left (by omega)
  have h5' := hW'.2.2.2.2.2.2.2.1.1
  have kp : ∀ q, KQ q → sg (sTurn x' (first t) t) 0 q = sg t 0 q := fun q hq => kp_turn h5' f1 hq
  refine ⟨⟨⟨_, w_turn hC'.1.1 hC'.1.2.2 hC'.2.2.2.2.1 hC'.2.1 f1 f2 hT' f3 hW'⟩, ?_⟩, ?_⟩
  · unfold TkW at hT' ⊢
    rw [kp 28 (by unfold KQ; omega)]
    exact hT'
  · rcases hq with ⟨s, q, B, hW, hT, hQ, hS, hl, hO⟩ | ⟨g1, g2⟩
    · left
      have ef := sm_first hS
      have hgs : goes s = true := by rw [← sm_goes hS]; exact hg
      rw [ef] at f1 f2 f3 h0 ⊢
      obtain ⟨-, s2, s3⟩ := (first_b (s := s)).resolve_left (by omega)
      have hb := hW.br f1 s2
      have h5 := hW.2.2.2.2.2.2.2.1.1
      have o1 : OkG F (sTurn x (first s) s) := by
        have := hO 1
        rw [on_one hgs f1] at this
        exact this
      refine ⟨sTurn x (first s) s, q, _, w_turn hC.1.1 hC.1.2.2 hC.2.2.2.2.1 hC.2.1 f1 s2 hT s3 hW, ?_, hG.1.1.1 s hQ hgs f1, ?_, ?_, fun n => ?_⟩
      · unfold TkW at hT ⊢
        rw [kp_turn h5 f1 (Or.inr (Or.inr (Or.inr rfl)))]
        exact hT
      · refine sm_turn (simG h) hC.1.1 hS f1 h5 hb.2.1.1 (h.2.1 _ hT.1 hT.2.1) (fun z4 z5 z6 z7 => ?_) o1
        have := hG.1.1.2.2 s hQ hgs f1 z4 z5 z6 z7
        unfold KP at this ⊢
        rw [st_g, if_neg (by omega), st_g, if_neg (by omega), st_g, if_neg (by omega), st_g, if_neg (by omega), st_g, if_neg (by omega), st_g, if_neg (by omega)]
        exact this
      · rw [kp_turn h5 f1 (Or.inl rfl)]
        exact hl
      · have := hO (n + 1)
        rw [on_one hgs f1] at this
        exact this
    · right
      exact ⟨by rw [kp 10 (Or.inl rfl)]; exact g1, far_turn h.hk17 hC'.1.1 hW' f1 f2 g2⟩
/-- the patches -/
theorem QG.kp (h : GRW x x' F lim c0 n0) (hG : GBX x c0 n0 Q QB) (hC : CXX x) (hq : QG x x' F Q lim t) (hg : goes t = true) (h0 : 0 ≤ first t) (h7 : sg t (2 + first t) 7 = 0) (h4 : sg t (2 + first t) 4 < x'.1 5) (h29 : sg t 0 29 < 60) (h19 : (x'.2.2 (sg t (2 + first t) 4)).1 = 19) : KP x' t c0 n0 (x'.2.2 (sg t (2 + first t) 4)).2.1 := by
  intro r1 r2 r3 r4
  obtain ⟨-, hq⟩ := hq
  rw [h.2.2.2.2.2.1] at r2
  rcases hq with ⟨s, q, B, hW, hT, hQ, hS, hl, hO⟩ | ⟨g1, g2⟩
  · have ef := sm_first hS
    have hgs : goes s = true := by rw [← sm_goes hS]; exact hg
    have e4 : ∀ j, sg t (2 + first s) j = sg s (2 + first s) j := fun j => by
      rw [ef] at h0
      exact sm_g hS (by omega)
    rw [ef] at h0 h7 h4 h19 r4 ⊢
    rw [e4] at h7 h4 h19 r4 ⊢
    rw [h.1.1] at h4
    rw [h.1.2] at h19 r4 ⊢
    rw [sm_g (a := 0) (j := 29) hS (by omega)] at h29
    rw [sm_g (a := 0) (j := 10) hS (by omega)] at r1 r2
    rw [sm_g (a := 0) (j := 7) hS (by omega)] at r4
    have hK := hG.1.1.2.2 s hQ hgs h0 h7 h4 h29 h19
    generalize ha : (x.2.2 (sg s (2 + first s) 4)).2.1 = a at hK r4 ⊢
    obtain ⟨p, L, rfl, hJ⟩ := hS
    have eL : L = [] := hJ.1
    subst eL
    have e12 : sg (ax p q [] s) 0 12 = p := by rw [ax_g, if_pos ⟨rfl, rfl⟩]
    rw [e12] at r3 ⊢
    have o1 : OkG F (sTurn x (first s) s) := by
      have := hO 1
      rw [on_one hgs h0] at this
      exact this
    have es : sTurn x (first s) s = sLine x (first s) 19 a (x.2.2 (sg s (2 + first s) 4)).2.2 (st (st s 0 29 (sg s 0 29 + 1)) 0 40 (sg s 0 40 + 1)) := by
      unfold sTurn
      rw [if_neg (fun g => g h7), if_neg (by omega), if_neg (by omega), h19, ha]
    have e19 : ∀ (u : TS) (b : Int), sLine x (first s) 19 a b u = sGo (first s) (if (sPatch x a u).1 then sg u (2 + first s) 4 + 1 else b) (sPatch x a u).2 := fun u b => rfl
    rw [es, e19, o_go (okG (x := x))] at o1
    have f12 : sg (st (st s 0 29 (sg s 0 29 + 1)) 0 40 (sg s 0 40 + 1)) 0 12 = sg s 0 12 := by rw [st_g, if_neg (by omega), st_g, if_neg (by omega)]
    have f10 : sg (st (st s 0 29 (sg s 0 29 + 1)) 0 40 (sg s 0 40 + 1)) 0 10 = sg s 0 10 := by rw [st_g, if_neg (by omega), st_g, if_neg (by omega)]
    have f7 : sg (st (st s 0 29 (sg s 0 29 + 1)) 0 40 (sg s 0 40 + 1)) 0 7 = sg s 0 7 := by rw [st_g, if_neg (by omega), st_g, if_neg (by omega)]
    have hJ2 := (simG h).2.2.2.1 _ (st (st s 0 29 (sg s 0 29 + 1)) 0 40 (sg s 0 40 + 1)) _ _ hJ f12 f10 rfl
    have hi := (simG h).2.2.2.2.1 _ p [] a q hJ2 (by show KP _ _ _ _ _; unfold KP at hK ⊢; rw [f10, f12, f7]; exact hK) o1 (by rw [f7]; exact r4)
    have j10 : 0 ≤ sg s 0 10 := hJ.2.2.1
    have g1 := h.seen1 (s := st (st s 0 29 (sg s 0 29 + 1)) 0 40 (sg s 0 40 + 1)) (p := p) (q := q) (L := []) (by rw [f10]; exact j10) (by rw [f10]; exact r1)
    rw [g1.1, g1.2, f10, f12, h.2.2.2.2.2.1] at hi
    have hL : (nc x (sg s 0 12) < x.1 0 ∧ eis (x.2.1 (nc x (sg s 0 12))) 12 a 0 = true) ∨ (¬ nc x (sg s 0 12) < x.1 0 ∧ ¬ sg s 0 10 < x.1 1) := by
      by_cases c2 : sg s 0 10 < x.1 1
      · left
        refine hK r1 c2 ?_ r4
        by_cases c3 : nc x (sg s 0 12) < x.1 0
        · rw [← hJ.2.2.2.1 c3]; exact r3
        · have := h.2.2.2.2.2.2.2.2.1.2.2.2.2
          omega
      · right
        have hn0 := h.2.2.2.2.2.2.2.2.1.2.2.2.2
        have := hG.2.1 s hQ (goes_p hgs).1 (by omega) (by
          by_cases c3 : nc x (sg s 0 12) < x.1 0
          · rw [← hJ.2.2.2.1 c3]; exact r3
          · omega)
        omega
    rcases hi.mp hL with g | g
    · exact g
    · omega
  · omega
end SI8
