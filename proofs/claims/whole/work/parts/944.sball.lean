/-! THE LAW: a step, whatever is called, and the room (setBack: with what is asked of addRun). -/
section SBA
/-- what setBack asks of addRun (to be shown yet) -/
def SBh (p1 : Int) (m : MM) : Prop := ∀ (x z a1 a2 a3 a4 a5 : Int) (m1 m2 : MM), fm_X11_runAt p1 m = some (.inl x, m1) → fm_X11_addRun a1 a2 a3 a4 a5 m1 = some (z, m2) → BFok (mset m2 x 6 5) (mset m2 x 6 5 (mset m2 x 6 5 z 16) 0) (mset m2 x 6 5 (mset m2 x 6 5 x 16) 0)
theorem gi_LsetBack {m rm : MM} {al be D p1 p2 rz : Int} (al0 : 0 ≤ al) (be0 : 0 ≤ be) (hF : Fix m) (G : GI al be D m) (hb : SBh p1 m) (h : fm_L_setBack p1 p2 m = some (rz, rm)) : GI al be (D + (al + be)) rm := by
  unfold fm_L_setBack at h
  obtain ⟨rr5, m_5, hc_3, h⟩ := bx_s h
  have G1 := gi_setBack al0 be0 hF G hb hc_3
  have w1 := fw_X11_setBack hF hc_3
  rcases h with ⟨q_12, rfl, h⟩ | ⟨x_4, rfl, h⟩
  · rcases it_s h with ⟨hp_14, h⟩ | ⟨hp_14, h⟩
    · cases h
      exact G1
    rcases it_s h with ⟨hp_21, h⟩ | ⟨hp_21, h⟩
    · cases h
      exact G1
    cases h
  obtain ⟨m_33, e_34, h⟩ := up_s h
  cases h
  rw [e_34]
  exact G1.ms (fx_kF (c := 101) w1.fix (by decide +kernel)) (by decide) (saf_k (by decide))
theorem gup {x : Option (Int × MM)} {m : MM} {F : MM → Option (Int × MM)} {Q : MM → ES → Prop} (h : ∃ m' e', (x = F m' ∧ (∀ al be D : Int, 0 ≤ al → 0 ≤ be → GI al be D m → GI al be D m')) ∧ Q m' e') : ∃ m' e', (x = F m' ∧ (∀ al be D : Int, 0 ≤ al → 0 ≤ be → GI al be D m → GI al be (D + (al + be)) m')) ∧ Q m' e' := by
  obtain ⟨m', e', ⟨h1, h2⟩, h3⟩ := h
  exact ⟨m', e', ⟨h1, fun al be D a0 b0 g => (h2 al be D a0 b0 g).mono (by omega)⟩, h3⟩
end SBA
section SBB
variable {m m' M m1 m2 : MM} {ow : Int → Int} {ad : Int → Int → Int} {e e' : ES} {a b k i j y v w p s x n : Int} {xs : List Int32} {c : Int → MM → Option (Int × MM)}
theorem og_setBack (hb : SBh (scr xs (y + 1)) m) (C : CE m ow ad e) (hR : RXE m e) (hP : P113 m) (hy : 0 ≤ y ∧ y + 7 ≤ (xs.length : Int) ∧ (xs.length : Int) < 1000000) (hc : OKc e ad (fm_X11_setBack (scr xs (y + 1)) (scr xs (y + 2)) m) (pcSetBack (scr xs (y + 1)) (scr xs (y + 2)) e)) (hx : ∀ m1, RXE m1 e → P113 m1 → OKr (fm_X12_setBack (scr xs (y + 1)) (scr xs (y + 2)) m1) cdS (pcSetBack (scr xs (y + 1)) (scr xs (y + 2)) e)) (hq : ∀ q, (pcSetBack (scr xs (y + 1)) (scr xs (y + 2)) e).1 = .inr q → q = 0 ∨ q = 2) : ∃ m', fj_L_law_1982 xs c y m = c (y + 7) m' ∧ (∀ al be D : Int, 0 ≤ al → 0 ≤ be → GI al be D m → GI al be (D + (al + be)) m') ∧ RLm m' (pcSetBack (scr xs (y + 1)) (scr xs (y + 2)) e).2 := by
  have hX : ∀ q, (pcSetBack (scr xs (y + 1)) (scr xs (y + 2)) e).1 = .inr q → cdS q ≠ 0 ∧ ∀ M, (fun q_12 m_5 => if q_12 = 0 then some (1, m_5) else if q_12 = 2 then some (2, m_5) else none : Nat → MM → Option (Int × MM)) q M = some (cdS q, M) := fun q hh => by
    have hh2 := hq q hh
    refine ⟨?_, fun M => ?_⟩
    · rcases hh2 with rfl | rfl <;> decide
    · rcases hh2 with rfl | rfl <;> rfl
  obtain ⟨x48, m49, x92, m93, g1, g2, g3, g4, g5⟩ := law_step (W1 := fW_X11_setBack) (W2 := fW_X12_setBack) (F12 := fun M => fm_X12_setBack (scr xs (y + 1)) (scr xs (y + 2)) M) C hR hP hc hX (fun rr rm h => fw_X11_setBack hP.1 h) (by decide +kernel) hx (fun m1 rz rm hF h => fw_X12_setBack hF h) (by decide +kernel) (fun m1 rz rm h1 _ h => h1.fr (fw_X12_setBack h1.1 h) (by decide +kernel))
  have hA : fm_L_setBack (scr xs (y + 1)) (scr xs (y + 2)) m = some (x48, m49) := g1
  refine ⟨m93, ?_, fun al be D' h1 h2 h => (gw_X12_setBack (fw_L_setBack hP.1 hA).fix g2).2 al be _ h1 h2 (gi_LsetBack h1 h2 hP.1 h hb hA), g5⟩
  unfold fj_L_law_1982
  simp only [show w32 (y + 1) = y + 1 from w32_id (by omega) (by omega), show w32 (y + 2) = y + 2 from w32_id (by omega) (by omega)]
  rw [gd_t (show 0 ≤ y + 1 ∧ y + 1 < (xs.length : Int) by omega), gd_t (show 0 ≤ y + 2 ∧ y + 2 < (xs.length : Int) by omega)]
  exact law_shape (y := y) (B := fun M => fm_X12_setBack (scr xs (y + 1)) (scr xs (y + 2)) M) g1 g2 g3 g4 (by omega)
end SBB
section SBC
variable {m m' : MM} {ow : Int → Int} {ad : Int → Int → Int} {e e' : ES} {S D T A B P W V Z ℓ k y i p1 p2 r : Int} {xs : List Int32} {f : Nat} {F : Option ((Int ⊕ Nat) × MM)} {R : (Int ⊕ Nat) × ES}
theorem sg_setBack (hb : SBh (scr xs (y + 1)) m) (R : RLm m e) (hI : PIv k e) (hk : k ≤ 511) (hlen : xs.length ≤ 3584) (hy : 0 ≤ y ∧ y + 7 ≤ (xs.length : Int)) (hi : iAnd (scr xs y) 63 = 27) : ∃ m' e', (fl_L_law_23 xs (f + 1) y m = fl_L_law_23 xs f (y + 7) m' ∧ (∀ al be D : Int, 0 ≤ al → 0 ≤ be → GI al be D m → GI al be (D + (al + be)) m')) ∧ RLm m' e' ∧ PIv (k + 1) e' := by
  obtain ⟨ow, ad, C, hR, hP⟩ := R
  obtain ⟨S, D, T, A, B, P, W, V, Z, ℓ, h⟩ := hI
  have hk2 : k ≤ 512 := by omega
  have hcn := h.1.cn
  have hy3 : 0 ≤ y ∧ y + 7 ≤ (xs.length : Int) ∧ (xs.length : Int) < 1000000 := ⟨hy.1, hy.2, by omega⟩
  have ht2 : 0 ≤ e.1 4 14 ∧ e.1 4 14 < 1000000 := by have := h.ht hk2; omega
  have hX := pj_setBack (p1 := scr xs (y + 1)) (p2 := scr xs (y + 2)) h hk
  obtain ⟨S', D', T', A', B', P', W', V', Z', l', h'⟩ := hX
  have hc := c_setBack (p1 := scr xs (y + 1)) (p2 := scr xs (y + 2)) C (h.bdl hk2) (h'.bdf (by omega)) (fun i i0 i1 => by have := h.1.len i0 i1; omega) (fun c1 c2 c4 c5 c3 hm h7 => stb_E (h.1.sba ht2 ⟨c1, c2⟩ c5 c3 c4) hm h7 hcn.1.1)
  obtain ⟨m', g1, g9, g2⟩ := og_setBack hb C hR hP hy3 hc (fun m1 R1 P1 => x_setBack2 R1 hcn (h.rlw hk2) (h'.rfw (by omega)) scr_b.2 h.1.sbr h.1.pev (fun c1 c2 c3 c4 => h.1.sba ht2 c1 c2 c3 c4)) hq_setBack
  exact ⟨m', _, ⟨(law_at_27 hlen hy hi).trans g1, g9⟩, g2, S', D', T', A', B', P', W', V', Z', l', h'⟩
theorem sg_all (hb : iAnd (scr xs y) 63 = 27 → SBh (scr xs (y + 1)) m) (R : RLm m e) (hI : PIv k e) (hk : k ≤ 511) (hlen : xs.length ≤ 3584) (hy : 0 ≤ y ∧ y + 7 ≤ (xs.length : Int)) : ∃ m' e', (fl_L_law_23 xs (f + 1) y m = fl_L_law_23 xs f (y + 7) m' ∧ (∀ al be D : Int, 0 ≤ al → 0 ≤ be → GI al be D m → GI al be (D + (al + be)) m')) ∧ RLm m' e' ∧ PIv (k + 1) e' := by
  by_cases c0 : iAnd (scr xs y) 63 = 0
  · exact gup (Q := fun m' e' => RLm m' e' ∧ PIv (k + 1) e') (F := fun m' => fl_L_law_23 xs f (y + 7) m') (sg_line R hI hk hlen hy c0)
  by_cases c1 : iAnd (scr xs y) 63 = 1
  · exact gup (Q := fun m' e' => RLm m' e' ∧ PIv (k + 1) e') (F := fun m' => fl_L_law_23 xs f (y + 7) m') (sg_deploy R hI hk hlen hy c1)
  by_cases c2 : iAnd (scr xs y) 63 = 2
  · exact gup (Q := fun m' e' => RLm m' e' ∧ PIv (k + 1) e') (F := fun m' => fl_L_law_23 xs f (y + 7) m') (sg_setKind R hI hk hlen hy c2)
  by_cases c3 : iAnd (scr xs y) 63 = 3
  · exact gup (Q := fun m' e' => RLm m' e' ∧ PIv (k + 1) e') (F := fun m' => fl_L_law_23 xs f (y + 7) m') (sg_setPolicy R hI hk hlen hy c3)
  by_cases c4 : iAnd (scr xs y) 63 = 4
  · exact gup (Q := fun m' e' => RLm m' e' ∧ PIv (k + 1) e') (F := fun m' => fl_L_law_23 xs f (y + 7) m') (sg_begin R hI hk hlen hy c4)
  by_cases c5 : iAnd (scr xs y) 63 = 5
  · exact gup (Q := fun m' e' => RLm m' e' ∧ PIv (k + 1) e') (F := fun m' => fl_L_law_23 xs f (y + 7) m') (sg_signal R hI hk hlen hy c5)
  by_cases c6 : iAnd (scr xs y) 63 = 6
  · exact gup (Q := fun m' e' => RLm m' e' ∧ PIv (k + 1) e') (F := fun m' => fl_L_law_23 xs f (y + 7) m') (sg_update R hI hk hlen hy c6)
  by_cases c7 : iAnd (scr xs y) 63 = 7
  · exact gup (Q := fun m' e' => RLm m' e' ∧ PIv (k + 1) e') (F := fun m' => fl_L_law_23 xs f (y + 7) m') (sg_cancel R hI hk hlen hy c7)
  by_cases c8 : iAnd (scr xs y) 63 = 8
  · exact gup (Q := fun m' e' => RLm m' e' ∧ PIv (k + 1) e') (F := fun m' => fl_L_law_23 xs f (y + 7) m') (sg_query R hI hk hlen hy c8)
  by_cases c9 : iAnd (scr xs y) 63 = 9
  · exact gup (Q := fun m' e' => RLm m' e' ∧ PIv (k + 1) e') (F := fun m' => fl_L_law_23 xs f (y + 7) m') (sg_plain R hI hk hlen hy c9)
  by_cases c10 : iAnd (scr xs y) 63 = 10
  · exact gup (Q := fun m' e' => RLm m' e' ∧ PIv (k + 1) e') (F := fun m' => fl_L_law_23 xs f (y + 7) m') (sg_standing R hI hk hlen hy c10)
  by_cases c11 : iAnd (scr xs y) 63 = 11
  · exact gup (Q := fun m' e' => RLm m' e' ∧ PIv (k + 1) e') (F := fun m' => fl_L_law_23 xs f (y + 7) m') (sg_event R hI hk hlen hy c11)
  by_cases c12 : iAnd (scr xs y) 63 = 12
  · exact gup (Q := fun m' e' => RLm m' e' ∧ PIv (k + 1) e') (F := fun m' => fl_L_law_23 xs f (y + 7) m') (sg_difference R hI hk hlen hy c12)
  by_cases c13 : iAnd (scr xs y) 63 = 13
  · exact gup (Q := fun m' e' => RLm m' e' ∧ PIv (k + 1) e') (F := fun m' => fl_L_law_23 xs f (y + 7) m') (sg_runs R hI hk hlen hy c13)
  by_cases c14 : iAnd (scr xs y) 63 = 14
  · exact gup (Q := fun m' e' => RLm m' e' ∧ PIv (k + 1) e') (F := fun m' => fl_L_law_23 xs f (y + 7) m') (sg_setRate R hI hk hlen hy c14)
  by_cases c15 : iAnd (scr xs y) 63 = 15
  · exact gup (Q := fun m' e' => RLm m' e' ∧ PIv (k + 1) e') (F := fun m' => fl_L_law_23 xs f (y + 7) m') (sg_poll R hI hk hlen hy c15)
  by_cases c16 : iAnd (scr xs y) 63 = 16
  · exact gup (Q := fun m' e' => RLm m' e' ∧ PIv (k + 1) e') (F := fun m' => fl_L_law_23 xs f (y + 7) m') (sg_complete R hI hk hlen hy c16)
  by_cases c17 : iAnd (scr xs y) 63 = 17
  · exact gup (Q := fun m' e' => RLm m' e' ∧ PIv (k + 1) e') (F := fun m' => fl_L_law_23 xs f (y + 7) m') (sg_die R hI hk hlen hy c17)
  by_cases c18 : iAnd (scr xs y) 63 = 18
  · exact gup (Q := fun m' e' => RLm m' e' ∧ PIv (k + 1) e') (F := fun m' => fl_L_law_23 xs f (y + 7) m') (sg_replays R hI hk hlen hy c18)
  by_cases c19 : iAnd (scr xs y) 63 = 19
  · exact gup (Q := fun m' e' => RLm m' e' ∧ PIv (k + 1) e') (F := fun m' => fl_L_law_23 xs f (y + 7) m') (sg_take R hI hk hlen hy c19)
  by_cases c20 : iAnd (scr xs y) 63 = 20
  · exact gup (Q := fun m' e' => RLm m' e' ∧ PIv (k + 1) e') (F := fun m' => fl_L_law_23 xs f (y + 7) m') (sg_answer R hI hk hlen hy c20)
  by_cases c21 : iAnd (scr xs y) 63 = 21
  · exact gup (Q := fun m' e' => RLm m' e' ∧ PIv (k + 1) e') (F := fun m' => fl_L_law_23 xs f (y + 7) m') (sg_fail R hI hk hlen hy c21)
  by_cases c22 : iAnd (scr xs y) 63 = 22
  · exact gup (Q := fun m' e' => RLm m' e' ∧ PIv (k + 1) e') (F := fun m' => fl_L_law_23 xs f (y + 7) m') (sg_beat R hI hk hlen hy c22)
  by_cases c23 : iAnd (scr xs y) 63 = 23
  · exact gup (Q := fun m' e' => RLm m' e' ∧ PIv (k + 1) e') (F := fun m' => fl_L_law_23 xs f (y + 7) m') (sg_activity R hI hk hlen hy c23)
  by_cases c24 : iAnd (scr xs y) 63 = 24
  · exact gup (Q := fun m' e' => RLm m' e' ∧ PIv (k + 1) e') (F := fun m' => fl_L_law_23 xs f (y + 7) m') (sg_pass R hI hk hlen hy c24)
  by_cases c25 : iAnd (scr xs y) 63 = 25
  · exact gup (Q := fun m' e' => RLm m' e' ∧ PIv (k + 1) e') (F := fun m' => fl_L_law_23 xs f (y + 7) m') (sg_unsafe R hI hk hlen hy c25)
  by_cases c26 : iAnd (scr xs y) 63 = 26
  · exact gup (Q := fun m' e' => RLm m' e' ∧ PIv (k + 1) e') (F := fun m' => fl_L_law_23 xs f (y + 7) m') (sg_move R hI hk hlen hy c26)
  by_cases c27 : iAnd (scr xs y) 63 = 27
  · exact sg_setBack (hb c27) R hI hk hlen hy c27
  by_cases c28 : iAnd (scr xs y) 63 = 28
  · exact gup (Q := fun m' e' => RLm m' e' ∧ PIv (k + 1) e') (F := fun m' => fl_L_law_23 xs f (y + 7) m') (sg_copy R hI hk hlen hy c28)
  by_cases c29 : iAnd (scr xs y) 63 = 29
  · exact gup (Q := fun m' e' => RLm m' e' ∧ PIv (k + 1) e') (F := fun m' => fl_L_law_23 xs f (y + 7) m') (sg_takeOver R hI hk hlen hy c29)
  by_cases c30 : iAnd (scr xs y) 63 = 30
  · exact gup (Q := fun m' e' => RLm m' e' ∧ PIv (k + 1) e') (F := fun m' => fl_L_law_23 xs f (y + 7) m') (sg_join R hI hk hlen hy c30)
  by_cases c31 : iAnd (scr xs y) 63 = 31
  · exact gup (Q := fun m' e' => RLm m' e' ∧ PIv (k + 1) e') (F := fun m' => fl_L_law_23 xs f (y + 7) m') (sg_schedule R hI hk hlen hy c31)
  by_cases c32 : iAnd (scr xs y) 63 = 32
  · exact gup (Q := fun m' e' => RLm m' e' ∧ PIv (k + 1) e') (F := fun m' => fl_L_law_23 xs f (y + 7) m') (sg_togglePause R hI hk hlen hy c32)
  by_cases c33 : iAnd (scr xs y) 63 = 33
  · exact gup (Q := fun m' e' => RLm m' e' ∧ PIv (k + 1) e') (F := fun m' => fl_L_law_23 xs f (y + 7) m') (sg_backfill R hI hk hlen hy c33)
  by_cases c34 : iAnd (scr xs y) 63 = 34
  · exact gup (Q := fun m' e' => RLm m' e' ∧ PIv (k + 1) e') (F := fun m' => fl_L_law_23 xs f (y + 7) m') (sg_shift R hI hk hlen hy c34)
  by_cases c35 : iAnd (scr xs y) 63 = 35
  · exact gup (Q := fun m' e' => RLm m' e' ∧ PIv (k + 1) e') (F := fun m' => fl_L_law_23 xs f (y + 7) m') (sg_bringIn R hI hk hlen hy c35)
  by_cases c36 : iAnd (scr xs y) 63 = 36
  · exact gup (Q := fun m' e' => RLm m' e' ∧ PIv (k + 1) e') (F := fun m' => fl_L_law_23 xs f (y + 7) m') (sg_search R hI hk hlen hy c36)
  obtain ⟨S, D, T, A, B, P, W, V, Z, ℓ, h⟩ := hI
  exact ⟨m, e, ⟨law_at_no hlen hy fun j j0 j1 => by omega, fun al be D' h1 h2 h => h.mono (by omega)⟩, R, S, D, T, A, B, P, W, V, Z, ℓ, h.up⟩
end SBC
