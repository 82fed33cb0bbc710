/-! ALL THAT STANDS BETWEEN THE CALLS, through the calls that put at most one event. -/
section HHB
variable {e e' e1 e2 : ES} {Z : Int → Prop} {S D T S' D' T' a b c d i j k q r v w N M p y t o p1 p2 p3 p4 p5 p6 : Int} {n : Nat} {s : TS} {l : List Int}
def FK (e : ES) : Prop := FBi nZ e ∧ KK e
theorem FK.gc (h : FK e) (hn : HNN e) (hc : CN e) (g : GC nZ nZ e e') : FK e' := ⟨g.1.2.1 h.1, h.2.ex g.1.1 hn hc h.1.1 (g.1.2.2 h.2.1)⟩
/-- one activity changes -/
theorem FBi.act (h : FBi Z e) (hc : CN e) (p0 : 0 ≤ p) (p1' : p < e.1 8 2) (ha : ∀ a u : Int, a ≠ 8000 + p → e'.1 a u = e.1 a u) (h0 : e'.1 (8000 + p) 0 = e.1 (8000 + p) 0) (hw : WAs e' p) (h5 : e'.1 (8000 + p) 5 ≠ 2 → e.1 (8000 + p) 5 ≠ 2) (hl : e'.2 = e.2) : FBi Z e' := by
  have n7 := hc.1
  have n8 := hc.2.1
  obtain ⟨f1, f2, f3, f4, f5⟩ := h
  have e7 : e'.1 7 2 = e.1 7 2 := ha _ _ (by omega)
  have e8 : e'.1 8 2 = e.1 8 2 := ha _ _ (by omega)
  have eL' : ∀ c, eL e' c = eL e c := fun c => by unfold eL; rw [hl]
  have hD : ∀ j : Int, 0 ≤ j → j < e.1 7 2 → (Dead e' j ↔ Dead e j) := fun j j0 j1 => Dead.eq (ha _ _ (by omega))
  refine ⟨fun j j0 j1 => ?_, fun j j0 j1 => ?_, fun q q0 q1 => ?_, fun j j0 j1 => ?_, ?_⟩
  · rw [e7] at j1
    exact (f1 j j0 j1).of (by omega) (ha _ _ (by omega)) j0 (fun u _ _ => ha _ _ (by omega)) (Or.inl (ha _ _ (by omega))) (Or.inl (ha _ _ (by omega))) (by unfold hN; rw [ha _ _ (by omega)]; omega) fun t t0 t1 => ha _ _ (by omega)
  · rw [e7] at j1
    unfold TmF
    rw [eL', eL', hD j j0 j1]
    exact f2 j j0 j1
  · rw [e8] at q1
    obtain ⟨g1, g2, g3⟩ := f3 q q0 q1
    by_cases c : q = p
    · subst c
      refine ⟨hw, by rw [h0, e7]; exact g2, fun g => ?_⟩
      rw [h0, hD _ g2.1 g2.2]
      exact g3 (h5 g)
    · unfold AcF WAs WAct
      simp only [fun u => ha (8000 + q) u (by omega)]
      rw [e7, hD _ g2.1 g2.2]
      exact ⟨g1, g2, g3⟩
  · rw [e7] at j1
    rw [eL']
    exact f4 j j0 j1
  · unfold TgF
    rw [eL', e7, ha _ _ (by omega), ha _ _ (by omega)]
    exact f5
theorem FK.act (h : FK e) (hn : HNN e) (hc : CN e) (p0 : 0 ≤ p) (p1' : p < e.1 8 2) (ha : ∀ a u : Int, a ≠ 8000 + p → e'.1 a u = e.1 a u) (h0 : e'.1 (8000 + p) 0 = e.1 (8000 + p) 0) (hw : WAs e' p) (h5 : e'.1 (8000 + p) 5 ≠ 2 → e.1 (8000 + p) 5 ≠ 2) (hl : e'.2 = e.2) : FK e' := by
  have n7 := hc.1
  have n8 := hc.2.1
  refine ⟨h.1.act hc p0 p1' ha h0 hw h5 hl, h.2.fr h.1.1 hn hc (fun a u hau => ha a u (by omega)) (fun t t0 t1 => by rw [ha _ _ (by omega)]; omega) (fun _ _ _ _ _ _ => by unfold eL; rw [hl]) (fun r r0 r1 => (Dead.eq (ha _ _ (by omega))).mpr) (fun _ _ _ => by unfold eH; rw [hl]) fun r r0 g => ⟨by rw [← ha 16 7 (by omega)]; exact g, by unfold eT; rw [hl], by unfold eB; rw [hl]⟩⟩
/-- done -/
theorem FK.act2 (h : FK e) (hn : HNN e) (hc : CN e) (p0 : 0 ≤ p) (p1' : p < e.1 8 2) : FK (eS e (8000 + p) 5 2) := by
  have hw := (h.1.2.2.1 p p0 p1').1
  refine h.act hn hc p0 p1' (fun a u ha => eS_a ha) (eS_j (by decide)) ⟨wact5 hw.1 (by decide) (by decide), by rw [eS_j (by decide)]; exact hw.2.1, fun g => by rw [eS_e] at g; exact absurd g (by decide)⟩ (fun g => ?_) rfl
  rw [eS_e] at g
  exact absurd rfl g
theorem FK.arr (h : FK e) (hn : HNN e) (hc : CN e) (r0 : 0 ≤ r) (r1 : r < e.1 7 2) (k0 : 0 ≤ k) (k7 : k ≤ 7) : FK (pArr r k a b e) := h.gc hn hc (gc_arr hc hn r0 r1 k0 k7)
theorem hh_schedule (h : HH S D T e) (hc' : CN (pcSchedule p1 p2 p3 p4 e).2) : HH S D T (pcSchedule p1 p2 p3 p4 e).2 := by
  have hp := ph_schedule (p1 := p1) (p2 := p2) (p3 := p3) (p4 := p4) h.1 hc'
  have hc := h.cn
  have n7 := hc.1
  have n10 := hc.2.2.2.1
  unfold pcSchedule at hp ⊢
  by_cases c1 : 0 ≤ p1 ∧ p1 < 4
  · rw [if_pos c1] at hp ⊢
    by_cases c2 : 0 ≤ p2 ∧ p2 < 3
    · rw [if_pos c2] at hp ⊢
      by_cases c3 : p3 < 1 ∨ 50 < p3 ∨ p4 < 0 ∨ 3 < p4
      · rw [if_pos c3]; exact h.thr
      rw [if_neg c3] at hp ⊢
      by_cases c4 : 0 < e.1 (48 + 4 * p1 + 1) 2 ∧ e.1 10 2 < 4
      · rw [if_pos c4] at hp ⊢
        have pa : ∀ a u : Int, a ≠ 10 → a ≠ 10000 + e.1 10 2 → (pNew 10 (fSch p1 p2 p3 p4 (e.1 4 14 + e.1 4 15)) e).1 a u = e.1 a u := fun a u h1 h2 => pNew_a h1 h2
        refine h.fr2 hp (fun b u hb => pa b u (by omega) (by omega)) (fun b u hb => pa b u (by omega) (by omega)) (h.2.1.wa (fun b u hb => pa b u (by omega) (by omega)) hc) (fun r r0 r1 => ?_) (fun _ _ => rfl) (fun t t0 t1 => by rw [pa _ _ (by omega) (by omega)]; omega) (fun _ _ _ _ _ _ => rfl) (fun _ _ _ => rfl) fun r r0 g => ⟨(pa 16 7 (by omega) (by omega)).symm.trans g, rfl, rfl⟩
        have := (h.2.1.1 r r0 r1).2.2.2.2.2.2.1
        unfold hN
        rw [pa _ _ (by omega) (by omega), pa _ _ (by omega) (by omega)]
        exact this
      · rw [if_neg c4]; exact h.thr
    · rw [if_neg c2]; exact h.thr
  · rw [if_neg c1]; exact h.thr
theorem HH.qm (h : HH S D T e) : HH S D T (qM e i v w) := h.eqm eM_eq (show mset e.1 16 7 (-1) 16 7 = -1 from ms_e)
theorem hh_query (h : HH S D T e) : HH S D T (pcQuery p1 p2 e).2 := by
  unfold pcQuery
  split
  · split
    · split
      · exact h.qm
      · exact h.qm.thr
    · exact h.thr
  · exact h.thr
theorem hh_plain (h : HH S D T e) : HH S D T (pcPlain p1 p2 e).2 := by
  unfold pcPlain
  split
  · split
    · split
      · exact h.qm.qm
      · exact h.qm.thr
    · exact h.thr
  · exact h.thr
theorem HH.fk (h : HH S D T e) : FK e := h.2
theorem HH.hn (h : HH S D T e) : HNN e := h.1.1.hnn
theorem hh_signal (h : HH S D T e) (hb : S + 1 + 2 * D + 2 * T ≤ 540) : HH (S + 1) D T (pcSignal p1 p2 p3 e).2 := by
  have hp := ph_signal (p1 := p1) (p2 := p2) (p3 := p3) h.1 hb
  have h1 := h.up (S' := S + 1) (by omega) (Int.le_refl _) (Int.le_refl _) hb
  refine ⟨hp, ?_⟩
  have ht := h1.thr.fk
  unfold pcSignal
  split
  · rename_i c
    split
    · split
      · split
        · exact h.fk.arr h.hn h.cn c.1 c.2 (by decide) (by decide)
        · exact ht
      · exact ht
    · exact ht
  · exact ht
theorem hh_update (h : HH S D T e) (hb : S + 1 + 2 * D + 2 * T ≤ 540) : HH (S + 1) D T (pcUpdate p1 p2 p3 e).2 := by
  have hp := ph_update (p1 := p1) (p2 := p2) (p3 := p3) h.1 hb
  have h1 := h.up (S' := S + 1) (by omega) (Int.le_refl _) (Int.le_refl _) hb
  refine ⟨hp, ?_⟩
  have ht := h1.thr.fk
  have hq := h.qm (i := p1) (v := e.1 (7000 + p1) 3) (w := 0)
  have e7 : (qM e p1 (e.1 (7000 + p1) 3) 0).1 7 2 = e.1 7 2 := eM_eq.1 _ _ (by decide)
  unfold pcUpdate
  split
  · rename_i c
    split
    · split
      · split
        · split
          · exact hq.fk.arr hq.hn hq.cn c.1 (by rw [e7]; exact c.2) (by decide) (by decide)
          · exact hq.fk
        · exact ht
      · exact ht
    · exact ht
  · exact ht
theorem hh_cancel (h : HH S D T e) : HH S D T (pcCancel p1 e).2 := by
  refine ⟨ph_cancel h.1, ?_⟩
  unfold pcCancel
  split
  · rename_i c
    split
    · exact h.fk.gc h.hn h.cn (gc_can h.cn h.hn c.1 c.2)
    · exact h.thr.fk
  · exact h.thr.fk
theorem FK.back (h : FK e) (hn : HNN e) (hc : CN e) (p0 : 0 ≤ p) (p1' : p < e.1 8 2) (k0 : 0 ≤ k) (k7 : k ≤ 7) : FK (pArr (e.1 (8000 + p) 0) k a b (eS e (8000 + p) 5 2)) := by
  have n8 := hc.2.1
  have n7 := hc.1
  have g := (h.1.2.2.1 p p0 p1').2.1
  have pa : ∀ a u : Int, a ≠ 8000 + p ∨ u ≠ 5 → (eS e (8000 + p) 5 2).1 a u = e.1 a u := fun a u hh => by rw [es_pt, if_neg (by omega)]
  have e7 : (eS e (8000 + p) 5 2).1 7 2 = e.1 7 2 := pa _ _ (by omega)
  exact (h.act2 hn hc p0 p1').arr (fun r r0 r1 => by
    rw [e7] at r1
    unfold hN
    rw [pa _ _ (by omega)]
    exact hn r r0 r1) (hc.of fun a ha => pa _ _ (by omega)) g.1 (by rw [e7]; exact g.2) k0 k7
theorem hh_answer (h : HH S D T e) : HH S D T (pcAnswer p1 p2 e).2 := by
  refine ⟨ph_answer h.1, ?_⟩
  unfold pcAnswer
  split
  · rename_i c
    split
    · split
      · exact h.fk.back h.hn h.cn c.1 c.2 (by decide) (by decide)
      · exact h.fk
    · exact h.thr.fk
  · exact h.thr.fk
theorem FK.miss (h : FK e) (hn : HNN e) (hc : CN e) (hg : WGlo e) (ht : 0 ≤ e.1 4 14 ∧ e.1 4 14 < 1000000) (p0 : 0 ≤ p) (p1' : p < e.1 8 2) (h5 : e.1 (8000 + p) 5 ≠ 2) : FK (pMiss p c e) := by
  unfold pMiss
  split
  · rename_i cc
    obtain ⟨⟨w1, w2, w3, w4, w5, w6, w7, w8, w9, w10⟩, w11, w12⟩ := (h.1.2.2.1 p p0 p1').1
    have hk := hg.2.2.2.2.2.1 _ w2.1 w2.2
    have pa : ∀ a u : Int, a ≠ 8000 + p ∨ (u ≠ 5 ∧ u ≠ 7) → (eS (eS e (8000 + p) 5 0) (8000 + p) 7 (e.1 4 14 + e.1 (64 + e.1 (8000 + p) 2) 1)).1 a u = e.1 a u := fun a u hh => by rw [es_pt, if_neg (by omega), es_pt, if_neg (by omega)]
    have p5 : (eS (eS e (8000 + p) 5 0) (8000 + p) 7 (e.1 4 14 + e.1 (64 + e.1 (8000 + p) 2) 1)).1 (8000 + p) 5 = 0 := by rw [es_pt, if_neg (by omega), eS_e]
    have p7 : (eS (eS e (8000 + p) 5 0) (8000 + p) 7 (e.1 4 14 + e.1 (64 + e.1 (8000 + p) 2) 1)).1 (8000 + p) 7 = e.1 4 14 + e.1 (64 + e.1 (8000 + p) 2) 1 := eS_e
    refine h.act hn hc p0 p1' (fun a u ha => pa a u (Or.inl ha)) (pa _ _ (by omega)) ?_ (fun _ => h5) rfl
    unfold WAs WAct
    rw [p5, p7, pa _ 1 (by omega), pa _ 2 (by omega), pa _ 3 (by omega), pa _ 4 (by omega), pa _ 6 (by omega), pa _ 8 (by omega), pa _ 9 (by omega), pa _ 10 (by omega)]
    exact ⟨⟨w1, w2, w3, w4, by omega, w6, by omega, w8, w9, w10⟩, w11, fun _ => by omega⟩
  · exact h.back hn hc p0 p1' (by decide) (by decide)
theorem hh_fail (h : HH S D T e) (hg : WGlo e) (ht : 0 ≤ e.1 4 14 ∧ e.1 4 14 < 1000000) : HH S D T (pcFail p1 p2 e).2 := by
  refine ⟨ph_fail h.1, ?_⟩
  unfold pcFail
  split
  · rename_i c
    split
    · rename_i c5
      exact h.fk.miss h.hn h.cn hg ht c.1 c.2 (by omega)
    · exact h.fk
  · exact h.thr.fk
theorem hh_beat (h : HH S D T e) (ht : 0 ≤ e.1 4 14 ∧ e.1 4 14 < 1000000) : HH S D T (pcBeat p1 p2 e).2 := by
  refine ⟨ph_beat h.1, ?_⟩
  unfold pcBeat
  split
  · rename_i c
    split
    · rename_i c2
      split
      · obtain ⟨⟨w1, w2, w3, w4, w5, w6, w7, w8, w9, w10⟩, w11, w12⟩ := (h.2.1.2.2.1 p1 c.1 c.2).1
        have pa : ∀ a u : Int, a ≠ 8000 + p1 ∨ (u ≠ 10 ∧ u ≠ 9) → (eS (eS e (8000 + p1) 10 p2) (8000 + p1) 9 (e.1 4 14)).1 a u = e.1 a u := fun a u hh => by rw [es_pt, if_neg (by omega), es_pt, if_neg (by omega)]
        have q10 : (eS (eS e (8000 + p1) 10 p2) (8000 + p1) 9 (e.1 4 14)).1 (8000 + p1) 10 = p2 := by rw [es_pt, if_neg (by omega), eS_e]
        have q9 : (eS (eS e (8000 + p1) 10 p2) (8000 + p1) 9 (e.1 4 14)).1 (8000 + p1) 9 = e.1 4 14 := eS_e
        refine h.fk.act h.hn h.cn c.1 c.2 (fun a u ha => pa a u (Or.inl ha)) (pa _ _ (by omega)) ?_ (fun g => by rw [pa _ _ (by omega)] at g; exact g) rfl
        unfold WAs WAct
        rw [q10, q9, pa _ 1 (by omega), pa _ 2 (by omega), pa _ 3 (by omega), pa _ 4 (by omega), pa _ 5 (by omega), pa _ 6 (by omega), pa _ 7 (by omega), pa _ 8 (by omega)]
        exact ⟨⟨w1, w2, w3, w4, w5, w6, w7, w8, by omega, by omega, by omega⟩, w11, w12⟩
      · exact h.fk
    · exact h.thr.fk
  · exact h.thr.fk
theorem hh_take (h : HH S D T e) (ht : 0 ≤ e.1 4 14 ∧ e.1 4 14 < 1000000) : HH S D T (pcTake p1 e).2 := by
  refine ⟨ph_take h.1, ?_⟩
  unfold pcTake
  split
  · split
    · exact h.fk
    · rename_i c
      obtain ⟨b1, b2⟩ := fTk_c (e := e) (k := p1) 61 0 (Int.le_refl _) (by omega)
      generalize hp : fTk e p1 61 0 = p at b1 b2 c ⊢
      have p0 : 0 ≤ p := by omega
      obtain ⟨⟨w1, w2, w3, w4, w5, w6, w7, w8, w9, w10⟩, w11, w12⟩ := (h.2.1.2.2.1 p p0 b1).1
      have pa : ∀ a u : Int, a ≠ 8000 + p ∨ (u ≠ 5 ∧ u ≠ 6 ∧ u ≠ 8 ∧ u ≠ 9) → (eS (eS (eS (eS e (8000 + p) 5 1) (8000 + p) 6 (e.1 (8000 + p) 6 + 1)) (8000 + p) 8 (e.1 4 14)) (8000 + p) 9 (e.1 4 14)).1 a u = e.1 a u := fun a u hh => by rw [es_pt, if_neg (by omega), es_pt, if_neg (by omega), es_pt, if_neg (by omega), es_pt, if_neg (by omega)]
      have q5 : (eS (eS (eS (eS e (8000 + p) 5 1) (8000 + p) 6 (e.1 (8000 + p) 6 + 1)) (8000 + p) 8 (e.1 4 14)) (8000 + p) 9 (e.1 4 14)).1 (8000 + p) 5 = 1 := by rw [es_pt, if_neg (by omega), es_pt, if_neg (by omega), es_pt, if_neg (by omega), eS_e]
      have q6 : (eS (eS (eS (eS e (8000 + p) 5 1) (8000 + p) 6 (e.1 (8000 + p) 6 + 1)) (8000 + p) 8 (e.1 4 14)) (8000 + p) 9 (e.1 4 14)).1 (8000 + p) 6 = e.1 (8000 + p) 6 + 1 := by rw [es_pt, if_neg (by omega), es_pt, if_neg (by omega), eS_e]
      have q8 : (eS (eS (eS (eS e (8000 + p) 5 1) (8000 + p) 6 (e.1 (8000 + p) 6 + 1)) (8000 + p) 8 (e.1 4 14)) (8000 + p) 9 (e.1 4 14)).1 (8000 + p) 8 = e.1 4 14 := by rw [es_pt, if_neg (by omega), eS_e]
      have q9 : (eS (eS (eS (eS e (8000 + p) 5 1) (8000 + p) 6 (e.1 (8000 + p) 6 + 1)) (8000 + p) 8 (e.1 4 14)) (8000 + p) 9 (e.1 4 14)).1 (8000 + p) 9 = e.1 4 14 := eS_e
      refine h.fk.act h.hn h.cn p0 b1 (fun a u ha => pa a u (Or.inl ha)) (pa _ _ (by omega)) ?_ (fun _ => by omega) rfl
      unfold WAs WAct
      rw [q5, q6, q8, q9, pa _ 1 (by omega), pa _ 2 (by omega), pa _ 3 (by omega), pa _ 4 (by omega), pa _ 7 (by omega), pa _ 10 (by omega)]
      have := w12 b2
      exact ⟨⟨w1, w2, w3, w4, by omega, by omega, w7, by omega, by omega, w10⟩, by omega, fun g => by omega⟩
  · exact h.thr.fk
theorem hh_begin (h : HH S D T e) : HH S D T (pcBegin p1 p2 p3 e).2 := by
  refine ⟨ph_begin h.1, ?_⟩
  have n7 := h.cn.1
  unfold pcBegin
  split
  · rename_i c1
    split
    · rename_i c2
      split
      · split
        · rename_i c4
          exact h.fk.gc h.hn h.cn (gc_start h.cn h.hn c4.2 c1 c2 c4.1 (by omega) (by omega))
        · exact h.thr.fk
      · exact h.thr.fk
    · exact h.thr.fk
  · exact h.thr.fk
end HHB
