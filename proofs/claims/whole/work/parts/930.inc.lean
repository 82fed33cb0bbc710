/-! THE INVARIANT through all calls. -/
section INC
variable {m : MM} {ow : Int → Int} {ad : Int → Int → Int} {e e' : ES} {S D T A B P W V Z ℓ k p1 p2 p3 p4 p5 p6 : Int}
theorem PJ.keep (h : PJ k S D T A B P W V Z ℓ e) (hx : e' = e ∨ e' = pThr e) : PJ (k + 1) S D T A B P W V Z ℓ e' := by
  rcases hx with hx | hx
  · rw [hx]; exact h.up
  · rw [hx]; exact h.thr h.1.thr (h.2.2.1.thr h.1.cn)
theorem pj_replays (h : PJ k S D T A B P W V Z ℓ e) : PJ (k + 1) S D T A B P W V Z ℓ (pcReplays p1 e).2 := by
  refine h.keep ?_
  unfold pcReplays
  split
  · first
    | exact Or.inl rfl
    | (split
       · exact Or.inl rfl
       · exact Or.inr rfl)
  · exact Or.inr rfl
theorem pj_standing (h : PJ k S D T A B P W V Z ℓ e) : PJ (k + 1) S D T A B P W V Z ℓ (pcStanding p1 e).2 := by
  refine h.keep ?_
  unfold pcStanding
  split
  · first
    | exact Or.inl rfl
    | (split
       · exact Or.inl rfl
       · exact Or.inr rfl)
  · exact Or.inr rfl
theorem pj_event (h : PJ k S D T A B P W V Z ℓ e) : PJ (k + 1) S D T A B P W V Z ℓ (pcEvent p1 p2 e).2 := by
  refine h.keep ?_
  unfold pcEvent
  split
  · first
    | exact Or.inl rfl
    | (split
       · exact Or.inl rfl
       · exact Or.inr rfl)
  · exact Or.inr rfl
theorem pj_difference (h : PJ k S D T A B P W V Z ℓ e) : PJ (k + 1) S D T A B P W V Z ℓ (pcDifference p1 e).2 := by
  refine h.keep ?_
  unfold pcDifference
  split
  · first
    | exact Or.inl rfl
    | (split
       · exact Or.inl rfl
       · exact Or.inr rfl)
  · exact Or.inr rfl
theorem pj_activity (h : PJ k S D T A B P W V Z ℓ e) : PJ (k + 1) S D T A B P W V Z ℓ (pcActivity p1 e).2 := by
  refine h.keep ?_
  unfold pcActivity
  split
  · first
    | exact Or.inl rfl
    | (split
       · exact Or.inl rfl
       · exact Or.inr rfl)
  · exact Or.inr rfl
theorem pj_search (h : PJ k S D T A B P W V Z ℓ e) : PJ (k + 1) S D T A B P W V Z ℓ (pcSearch p1 e).2 := by
  refine h.keep ?_
  unfold pcSearch
  split
  · first
    | exact Or.inl rfl
    | (split
       · exact Or.inl rfl
       · exact Or.inr rfl)
  · exact Or.inr rfl
theorem pj_deploy (h : PJ k S D T A B P W V Z ℓ e) (hc' : CN (pcDeploy p1 e).2) (hk : k ≤ 512) : PJ (k + 1) S D T A B P W V Z ℓ (pcDeploy p1 e).2 := h.plain (hh_deploy h.1 hc') ((gl_deploy h.2.1 h.1.cn).mono (by omega)) (ml_deploy h.2.2.1 h.1.cn) (qc_deploy h.1.cn) (wc_deploy h.1.cn) (tc_deploy h.1.cn)
theorem pj_setKind (h : PJ k S D T A B P W V Z ℓ e) (hk : k ≤ 512) : PJ (k + 1) S D T A B P W V Z ℓ (pcSetKind p1 p2 p3 p4 p5 p6 e).2 := h.plain (hh_setKind h.1) ((gl_setKind h.2.1 h.1.cn).mono (by omega)) (ml_setKind h.2.2.1 h.1.cn) (qc_setKind h.1.cn) (wc_setKind h.1.cn) (tc_setKind h.1.cn)
theorem pj_setPolicy (h : PJ k S D T A B P W V Z ℓ e) (hc' : CN (pcSetPolicy p1 p2 e).2) (hk : k ≤ 512) : PJ (k + 1) S D T A B P W V Z ℓ (pcSetPolicy p1 p2 e).2 := h.plain (hh_setPolicy h.1 hc') ((gl_setPolicy h.2.1 h.1.cn).mono (by omega)) (ml_setPolicy h.2.2.1 h.1.cn) (qc_setPolicy h.1.cn) (wc_setPolicy h.1.cn) (tc_setPolicy h.1.cn)
theorem pj_setRate (h : PJ k S D T A B P W V Z ℓ e) (hk : k ≤ 512) : PJ (k + 1) S D T A B P W V Z ℓ (pcSetRate p1 e).2 := h.plain (hh_setRate h.1) ((gl_setRate h.2.1 h.1.cn).mono (by omega)) (ml_setRate h.2.2.1 h.1.cn) (qc_setRate h.1.cn) (wc_setRate h.1.cn) (tc_setRate h.1.cn)
theorem pj_shift (h : PJ k S D T A B P W V Z ℓ e) (hk : k ≤ 512) : PJ (k + 1) S D T A B P W V Z ℓ (pcShift p1 e).2 := h.plain (hh_shift h.1) ((gl_shift h.2.1 h.1.cn).mono (by omega)) (ml_shift h.2.2.1 h.1.cn) (qc_shift h.1.cn) (wc_shift h.1.cn) (tc_shift h.1.cn)
theorem pj_togglePause (h : PJ k S D T A B P W V Z ℓ e) (hk : k ≤ 512) : PJ (k + 1) S D T A B P W V Z ℓ (pcTogglePause p1 e).2 := h.plain (hh_togglePause h.1) ((gl_togglePause h.2.1 h.1.cn).mono (by omega)) (ml_togglePause h.2.2.1 h.1.cn) (qc_togglePause h.1.cn) (wc_togglePause h.1.cn) (tc_togglePause h.1.cn)
theorem pj_schedule (h : PJ k S D T A B P W V Z ℓ e) (hc' : CN (pcSchedule p1 p2 p3 p4 e).2) (hk : k ≤ 512) : PJ (k + 1) S D T A B P W V Z ℓ (pcSchedule p1 p2 p3 p4 e).2 := h.plain (hh_schedule h.1 hc') ((gl_schedule h.2.1 h.1.cn (by omega) ⟨(h.ht hk).1, by have := h.ht hk; omega⟩).mono (by omega)) (ml_schedule h.2.2.1 h.1.cn) (qc_schedule h.1.cn) (wc_schedule h.1.cn) (tc_schedule h.1.cn)
theorem pj_query (h : PJ k S D T A B P W V Z ℓ e) (hk : k ≤ 512) : PJ (k + 1) S D T A B P W V Z ℓ (pcQuery p1 p2 e).2 := h.plain (hh_query h.1) ((gl_query h.2.1 h.1.cn).mono (by omega)) (ml_query h.2.2.1 h.1.cn) (qc_query h.1.cn) (wc_query h.1.cn) (tc_query h.1.cn)
theorem pj_plain (h : PJ k S D T A B P W V Z ℓ e) (hk : k ≤ 512) : PJ (k + 1) S D T A B P W V Z ℓ (pcPlain p1 p2 e).2 := h.plain (hh_plain h.1) ((gl_plain h.2.1 h.1.cn).mono (by omega)) (ml_plain h.2.2.1 h.1.cn) (qc_plain h.1.cn) (wc_plain h.1.cn) (tc_plain h.1.cn)
theorem pj_move (h : PJ k S D T A B P W V Z ℓ e) (hk : k ≤ 512) : PJ (k + 1) S D T A B P W V Z ℓ (pcMove p1 p2 e).2 := h.plain (hh_move h.1) ((gl_move h.2.1 h.1.cn).mono (by omega)) (ml_move h.2.2.1 h.1.cn) (qc_move h.1.cn) (wc_move h.1.cn) (tc_move h.1.cn)
theorem pj_27 (h : PJ k S D T A B P W V Z ℓ e) (hk : k ≤ 512) : PJ (k + 1) S D T A B P W V Z ℓ (pcUnsafe p1 p2 e).2 := h.plain (hh_27 h.1) ((gl_27 h.2.1 h.1.cn).mono (by omega)) (ml_27 h.2.2.1 h.1.cn) (qc_27 h.1.cn) (wc_27 h.1.cn) (tc_27 h.1.cn)
theorem pj_die (h : PJ k S D T A B P W V Z ℓ e) (hk : k ≤ 512) : PJ (k + 1) S D T A B P W V Z ℓ (pcDie p1 e).2 := h.plain (hh_die h.1) ((gl_die h.2.1 h.1.cn).mono (by omega)) (ml_die h.2.2.1 h.1.cn) (qc_die h.1.cn) (wc_die h.1.cn) (tc_die h.1.cn)
theorem pj_beat (h : PJ k S D T A B P W V Z ℓ e) (hk : k ≤ 512) : PJ (k + 1) S D T A B P W V Z ℓ (pcBeat p1 p2 e).2 := h.plain (hh_beat h.1 ⟨(h.ht hk).1, by have := h.ht hk; omega⟩) ((gl_beat h.2.1 h.1.cn).mono (by omega)) (ml_beat h.2.2.1 h.1.cn) (qc_beat h.1.cn) (wc_beat h.1.cn) (tc_beat h.1.cn)
theorem pj_take (h : PJ k S D T A B P W V Z ℓ e) (hk : k ≤ 512) : PJ (k + 1) S D T A B P W V Z ℓ (pcTake p1 e).2 := h.plain (hh_take h.1 ⟨(h.ht hk).1, by have := h.ht hk; omega⟩) ((gl_take h.2.1 h.1.cn).mono (by omega)) (ml_take h.2.2.1 h.1.cn) (qc_take h.1.cn) (wc_take h.1.cn) (tc_take h.1.cn)
theorem pj_cancel (h : PJ k S D T A B P W V Z ℓ e) (hk : k ≤ 512) : PJ (k + 1) S D T A B P W V Z ℓ (pcCancel p1 e).2 := h.plain (hh_cancel h.1) ((gl_cancel h.2.1 h.1.cn h.1.hn).mono (by omega)) (ml_cancel h.2.2.1 h.1) (qc_cancel h.1) (wc_cancel h.1) (tc_cancel h.1)
theorem pj_begin (h : PJ k S D T A B P W V Z ℓ e) (hk : k ≤ 512) : PJ (k + 1) S D T A B P W V Z ℓ (pcBegin p1 p2 p3 e).2 := h.plain (hh_begin h.1) ((gl_begin h.2.1 h.1.cn h.1.hn).mono (by omega)) (ml_begin h.2.2.1 h.1) (qc_begin h.1) (wc_begin h.1) (tc_begin h.1)
theorem pj_answer (h : PJ k S D T A B P W V Z ℓ e) (hk : k ≤ 512) : PJ (k + 1) S D T A B P W V Z ℓ (pcAnswer p1 p2 e).2 := h.plain (hh_answer h.1) ((gl_answer h.2.1 h.1).mono (by omega)) (ml_answer h.2.2.1 h.1) (qc_answer h.1) (wc_answer h.1) (tc_answer h.1)
theorem pj_fail (h : PJ k S D T A B P W V Z ℓ e) (hk : k ≤ 512) : PJ (k + 1) S D T A B P W V Z ℓ (pcFail p1 p2 e).2 := h.plain (hh_fail h.1 (h.glo hk) ⟨(h.ht hk).1, by have := h.ht hk; omega⟩) ((gl_fail h.2.1 h.1).mono (by omega)) (ml_fail h.2.2.1 h.1) (qc_fail h.1) (wc_fail h.1) (tc_fail h.1)
theorem pj_backfill (h : PJ k S D T A B P W V Z ℓ e) (hk : k ≤ 512) : PJ (k + 1) S D T A B P W V Z ℓ (pcBackfill p1 p2 e).2 := h.plain (hh_backfill h.1 h.wsc) ((gl_backfill h.2.1 h.1).mono (by omega)) (ml_backfill h.2.2.1 h.2.1 h.1) (qc_backfill h.2.1 h.1) (wc_backfill h.2.1 h.1) (tc_backfill h.2.1 h.1)
theorem pj_signal (h : PJ k S D T A B P W V Z ℓ e) (hk : k ≤ 511) : PJ (k + 1) (S + 1) D T A B P W V Z ℓ (pcSignal p1 p2 p3 e).2 := by
  have hn := (h.n (by omega)).1
  obtain ⟨h1, h2, h3, h4, h5, h6, ⟨h7, h8⟩, h9, ⟨h10, h11⟩, h12, h13⟩ := h
  obtain ⟨t1, t2, t3, t4, t5, t6⟩ := tc_signal (p1 := p1) (p2 := p2) (p3 := p3) h1
  have hv := (nov_mn (by rw [t4.1]; exact Int.le_refl _) t4.2).1
  have hH' := hh_signal (p1 := p1) (p2 := p2) (p3 := p3) h1 (by omega)
  refine ⟨hH', (gl_signal h2 h1.cn h1.hn).mono (by omega), ml_signal h3 h1, lg_signal h4 h1, lb_signal h5 h1, h6.plain (wc_signal h1).1 t2 (by omega) h1 hH', ⟨by rw [t1]; omega, by rw [t6]; omega⟩, fun c c0 c1 => ?_, ⟨by rw [t4.1, t5]; omega, by omega⟩, h12, by rw [t5]; exact h13⟩
  have := t3 c c0 c1
  have := h9 c c0 c1
  omega
theorem pj_update (h : PJ k S D T A B P W V Z ℓ e) (hk : k ≤ 511) : PJ (k + 1) (S + 1) D T A B P W V Z ℓ (pcUpdate p1 p2 p3 e).2 := by
  have hn := (h.n (by omega)).1
  obtain ⟨h1, h2, h3, h4, h5, h6, ⟨h7, h8⟩, h9, ⟨h10, h11⟩, h12, h13⟩ := h
  obtain ⟨t1, t2, t3, t4, t5, t6⟩ := tc_update (p1 := p1) (p2 := p2) (p3 := p3) h1
  have hv := (nov_mn (by rw [t4.1]; exact Int.le_refl _) t4.2).1
  have hH' := hh_update (p1 := p1) (p2 := p2) (p3 := p3) h1 (by omega)
  refine ⟨hH', (gl_update h2 h1.cn).mono (by omega), ml_update h3 h1.cn, lg_update h4 h1, lb_update h5 h1, h6.plain (wc_update h1).1 t2 (by omega) h1 hH', ⟨by rw [t1]; omega, by rw [t6]; omega⟩, fun c c0 c1 => ?_, ⟨by rw [t4.1, t5]; omega, by omega⟩, h12, by rw [t5]; exact h13⟩
  have := t3 c c0 c1
  have := h9 c c0 c1
  omega
theorem pj_line (h : PJ k S D T A B P W V Z ℓ e) : PJ (k + 1) S D T A B P W V Z (if ℓ < 24 then ℓ + 1 else ℓ) (pcLine p1 p2 p3 p4 e).2 := by
  obtain ⟨h1, h2, h3, h4, h5, h6, ⟨h7, h8⟩, h9, ⟨h10, h11⟩, h12, h13⟩ := h
  obtain ⟨⟨t1, t2, t4, t5, t6⟩, t3⟩ := tc_line (p1 := p1) (p2 := p2) (p3 := p3) (p4 := p4) h1.cn
  have hv := (nov_mn (by rw [t4.1]; exact Int.le_refl _) t4.2).1
  have hH' := hh_line (p1 := p1) (p2 := p2) (p3 := p3) (p4 := p4) h1
  have q := qc_line (p1 := p1) (p2 := p2) (p3 := p3) (p4 := p4) h1.cn
  have w := wc_line (p1 := p1) (p2 := p2) (p3 := p3) (p4 := p4) h1.cn
  have hl : ℓ ≤ (if ℓ < 24 then ℓ + 1 else ℓ) ∧ (if ℓ < 24 then ℓ + 1 else ℓ) ≤ ℓ + 1 ∧ (if ℓ < 24 then ℓ + 1 else ℓ) ≤ 24 ∧ ((if ℓ < 24 then ℓ + 1 else ℓ) = ℓ + 1 ∨ (if ℓ < 24 then ℓ + 1 else ℓ) = 24) := by split <;> omega
  generalize (if ℓ < 24 then ℓ + 1 else ℓ) = ℓ' at hl ⊢
  refine ⟨hH', (gl_line h2 h1.cn).mono (by omega), ml_line h3 h1.cn, (h4.plain q w).upL hl.1, h5.plain q w, h6.plain w.1 t2 (Int.le_refl _) h1 hH', ⟨by rw [t1]; omega, by rw [t6]; omega⟩, fun c c0 c1 => ?_, ⟨by rw [t4.1, t5]; omega, by omega⟩, ⟨h12.1, by omega, hl.2.2.1⟩, by rw [t5]; exact h13⟩
  obtain ⟨u1, u2⟩ := t3 c c0 c1
  have := h9 c c0 c1
  omega
theorem pj_copy (h : PJ k S D T A B P W V Z ℓ e) : PJ (k + 1) S D T A B P W V (Z + 1) ℓ (pcCopy p1 p2 e).2 := by
  obtain ⟨h1, h2, h3, h4, h5, h6, ⟨h7, h8⟩, h9, ⟨h10, h11⟩, h12, h13⟩ := h
  obtain ⟨⟨t1, -, t3, t4, t5, t6⟩, -⟩ := tc_copy (p1 := p1) (p2 := p2) h1.cn fun r r0 r1 => (h1.2.1.1 r r0 r1).2.2.2.2.2.2.1.2
  have hv := (nov_mn (by rw [t4.1]; exact Int.le_refl _) t4.2).1
  have hH' := hh_copy (p1 := p1) (p2 := p2) h1
  have q := qc_copy (p1 := p1) (p2 := p2) h1.cn
  have w := wc_copy (p1 := p1) (p2 := p2) h1.cn
  refine ⟨hH', (gl_copy h2 h1.cn).mono (by omega), ml_copy h3 h1.cn, h4.plain q w, h5.plain q w, po_copy h6 h1 hH', ⟨by rw [t1]; omega, by rw [t6]; omega⟩, fun c c0 c1 => ?_, ⟨by rw [t4.1, t5]; omega, by omega⟩, ⟨by omega, h12.2⟩, by rw [t5]; exact h13⟩
  have := t3 c c0 c1
  have := h9 c c0 c1
  omega
theorem pj_bringIn (h : PJ k S D T A B P W V Z ℓ e) : PJ (k + 1) S D T A B P W V Z ℓ (pcBringIn p1 e).2 := by
  obtain ⟨h1, h2, h3, h4, h5, h6, ⟨h7, h8⟩, h9, ⟨h10, h11⟩, h12, h13⟩ := h
  obtain ⟨t1, ⟨t2, t3, t4, t5⟩, t6⟩ := tc_bringIn (p1 := p1) h1
  have hv := (nov_mn (by rw [t4.1]; exact Int.le_refl _) t4.2).1
  have hH' := hh_bringIn (p1 := p1) h1
  have q := qc_bringIn (p1 := p1) h1
  have w := wc_bringIn (p1 := p1) h1
  refine ⟨hH', (gl_bringIn h2 h1).mono (by omega), ml_bringIn h3 h1, h4.plain q w, h5.plain q w, h6.plain w.1 t2 (Int.le_refl _) h1 hH', ⟨by rw [t1]; omega, by omega⟩, fun c c0 c1 => ?_, ⟨by rw [t4.1, t5]; omega, by omega⟩, h12, by rw [t5]; exact h13⟩
  have := t3 c c0 c1
  have := h9 c c0 c1
  omega
theorem pj_poll (h : PJ k S D T A B P W V Z ℓ e) (hc' : CN (pcPoll p1 e).2) (hk : k ≤ 511) : PJ (k + 1) S D T A B P W V Z ℓ (pcPoll p1 e).2 := by
  have hn := (h.n (by omega)).2
  have ht := h.ht (by omega)
  obtain ⟨h1, h2, h3, h4, h5, h6, ⟨h7, h8⟩, h9, ⟨h10, h11⟩, h12, h13⟩ := h
  have hp : fPo e 4 (-1) 0 < 30 := by
    have n7 := h1.cn.1
    rcases fPo_w (e := e) 4 (-1) 0 n7 (Or.inl (by decide)) with g | g
    · omega
    · have := g.1
      omega
  obtain ⟨⟨t1, t2, t3, t5, t6⟩, t4, t7⟩ := tc_poll (p1 := p1) h1.cn hp
  have hv := (nov_mn t4.1 t7).1
  have hH' := hh_poll (p1 := p1) h1 hc'
  have q := qc_poll (p1 := p1) h1.cn hp
  have w := wc_poll (p1 := p1) h1.cn hp
  refine ⟨hH', gl_poll h2 h1 (by omega) ⟨by omega, by omega⟩, ml_poll h3 h1 (by omega), h4.plain q w, h5.plain q w, h6.plain w.1 t2 (Int.le_refl _) h1 hH', ⟨by rw [t1]; omega, by rw [t6]; omega⟩, fun c c0 c1 => ?_, ⟨by rw [t5]; omega, by omega⟩, h12, by rw [t5]; exact h13⟩
  have := t3 c c0 c1
  have := h9 c c0 c1
  omega
theorem pj_pass (h : PJ k S D T A B P W V Z ℓ e) (hk : k ≤ 511) : PJ (k + 1) S D T A B P W V Z ℓ (pcPass p1 e).2 := by
  have hP := h.pw (by omega)
  have hb := h.bdl (by omega)
  have ht := (h.ht (by omega)).2
  have hs := h.wsc
  obtain ⟨h1, h2, h3, h4, h5, h6, ⟨h7, h8⟩, h9, ⟨h10, h11⟩, h12, h13⟩ := h
  obtain ⟨t1, t2, t3, t4, t5, t6⟩ := tc_pass (p1 := p1) h2 h1 hP hb ht
  have hv := (nov_mn (by rw [t4.1]; exact Int.le_refl _) t4.2).1
  have hH' := hh_pass (p1 := p1) h1 hP hb hs ht
  have q := qc_pass (p1 := p1) h2 h1 hP hb ht
  have w := wc_pass (p1 := p1) h2 h1 hP hb ht
  refine ⟨hH', (gl_pass h2 h1 hP hb ht).mono (by omega), ml_pass h3 h2 h1 hP hb ht, h4.plain q w, h5.plain q w, h6.plain w.1 t2 (Int.le_refl _) h1 hH', ⟨by omega, by rw [t6]; omega⟩, fun c c0 c1 => ?_, ⟨by rw [t4.1, t5]; omega, by omega⟩, h12, by rw [t5]; exact h13⟩
  have := t3 c c0 c1
  have := h9 c c0 c1
  omega
theorem pj_join (h : PJ k S D T A B P W V Z ℓ e) : PJ (k + 1) S D T A B P W V Z ℓ (pcJoin e).2 := by
  obtain ⟨h1, h2, h3, h4, h5, h6, ⟨h7, h8⟩, h9, ⟨h10, h11⟩, h12, h13⟩ := h
  obtain ⟨t1, t2, t3, t4, t6, t5⟩ := tc_join h1
  have hv := (nov_mn (by rw [t4.1]; exact Int.le_refl _) t4.2).1
  have hH' := hh_join h1
  refine ⟨hH', (gl_join h2 h1).mono (by omega), ml_join h3 h1, lg_join h4 h1, lb_join h5 h1, h6.plain (wc_join h1) t2 (Int.le_refl _) h1 hH', ⟨by rw [t1]; omega, by rw [t6]; omega⟩, fun c c0 c1 => ?_, ⟨?_, by omega⟩, h12, fun hh => ?_⟩
  · have := t3 c c0 c1
    have := h9 c c0 c1
    omega
  · rw [t4.1]
    rcases t5 with t5 | ⟨t5, t7⟩
    · rw [t5]; omega
    · rw [t7, if_neg (by decide)]
      rw [if_pos t5] at h10
      omega
  · rcases t5 with t5 | ⟨t5, t7⟩
    · exact h13 (by omega)
    · omega
theorem pj_takeOver (h : PJ k S D T A B P W V Z ℓ e) (hk : k ≤ 511) : PIv (k + 1) (pcTakeOver e).2 := by
  have hn := (h.n (by omega)).1
  have ht := h.ht (by omega)
  have ht2 : 0 ≤ e.1 4 14 ∧ e.1 4 14 < 1000000 := by omega
  have hb : S + 2 * D + 2 * (T + 1) ≤ 540 := by have := h.2.2.2.2.2.2.2.2.2.1; omega
  rcases tc_takeOver h.1 hb ht2 with g | ⟨c17, t1, t2, t3, t4, t5, t6, -⟩
  · exact ⟨S, D, T, A, B, P, W, V, Z, ℓ, h.keep (Or.inr g)⟩
  · obtain ⟨h1, h2, h3, h4, h5, h6, ⟨h7, h8⟩, h9, ⟨h10, h11⟩, h12, h13⟩ := h
    have hv := (nov_mn (by rw [t4.1]; exact Int.le_refl _) t4.2).1
    have hH' := hh_takeOver h1 hb ht2
    refine ⟨S, D, T + 1, A, B, P, W + S, V, Z, ℓ, hH', (gl_takeOver h2 h1 hb ht2).mono (by omega), ml_takeOver h3 h1 hb ht2, lg_takeOver h4 h1 hb ht2, lb_takeOver h5 h1 hb ht2, po_takeOver h6 h1 hb ht2 hH', ⟨by rw [t1]; omega, by rw [t6]; omega⟩, fun c c0 c1 => ?_, ⟨?_, by omega⟩, h12, fun _ => by omega⟩
    · have := t3 c c0 c1
      have := h9 c c0 c1
      omega
    · rw [t4.1, t5, if_pos rfl]
      rw [if_neg c17] at h10
      omega
theorem pj_setBack (h : PJ k S D T A B P W V Z ℓ e) (hk : k ≤ 511) : PIv (k + 1) (pcSetBack p1 p2 e).2 := by
  have ht := h.ht (by omega)
  have ht2 : 0 ≤ e.1 4 14 ∧ e.1 4 14 < 1000000 := by omega
  obtain ⟨h1, h2, h3, h4, h5, h6, ⟨h7, h8⟩, h9, ⟨h10, h11⟩, h12, h13⟩ := h
  obtain ⟨⟨t1, t2, t3, t4, t5, t6⟩, -⟩ := tc_setBack (p1 := p1) (p2 := p2) h1 ht2
  have hv := (nov_mn (by rw [t4.1]; exact Int.le_refl _) t4.2).1
  have hH' := hh_setBack (p1 := p1) (p2 := p2) h1 ht2
  obtain ⟨B', W', hB, hL⟩ := lg_setBack (p1 := p1) (p2 := p2) h4 h1 ht2
  refine ⟨S, D, T, A, B', P, W', V, Z, ℓ, hH', (gl_setBack h2 h1 ht2).mono (by omega), ml_setBack h3 h1 ht2, hL, lb_setBack h5 h1 ht2, po_setBack h6 h1 ht2 hH', ⟨by rw [t1]; omega, by rw [t6]; omega⟩, fun c c0 c1 => ?_, ⟨by rw [t4.1, t5]; omega, by omega⟩, h12, by rw [t5]; exact h13⟩
  have := t3 c c0 c1
  have := h9 c c0 c1
  omega
theorem pj_complete (h : PJ k S D T A B P W V Z ℓ e) (C : CE m ow ad e) (hk : k ≤ 511) : PIv (k + 1) (pcComplete p1 e).2 := by
  have hn := (h.n (by omega)).1
  have ht := h.ht (by omega)
  have hw := h.wx (by omega)
  have ht2 : 0 ≤ e.1 4 14 ∧ e.1 4 14 < 1000000 := by omega
  have hb : S + 2 * (D + 1) + 2 * T ≤ 540 := by have := h.2.2.2.2.2.2.2.2.2.1; omega
  obtain ⟨h1, h2, h3, h4, h5, h6, ⟨h7, h8⟩, h9, ⟨h10, h11⟩, h12, h13⟩ := h
  have hc := h1.cn
  have n9 := hc.2.2.1
  obtain ⟨tt, t7⟩ := tc_complete (p1 := p1) h1 hw ht2 hb
  have tt' := tt
  obtain ⟨t1, t2, t3, t4, t5, t6⟩ := tt'
  obtain ⟨hv, hv2⟩ := nov_mn (e := e) (e' := (pcComplete p1 e).2) (by rw [t4.1]; exact Int.le_refl _) t4.2
  have gl := gl_complete (p1 := p1) h2 h1 hw ht2 hb (by omega)
  have ml := ml_complete (p1 := p1) h3 h1 hw ht2 hb
  by_cases c0 : 0 ≤ p1 ∧ p1 < e.1 9 2
  · by_cases c1 : e.1 (9000 + p1) 5 = 0
    · have hH' := hh_complete (p1 := p1) h1 hw ht2 hb fun k0 k1 f => sw_cmp C hw k0 k1 f
      obtain ⟨A', P', W', V', hL⟩ := lg_complete (p1 := p1) h4 h1 hw ht2 hb hH' h9
      have hv3 := hv2 p1 c0.1 (by omega) c0.2 c1 (t7 c0.1 c0.2)
      refine ⟨S, D + 1, T, A', B, P', W', V', Z, ℓ, hH', gl, ml, hL, lb_complete h5 h1 hw ht2 hb, po_complete h6 h1 hw ht2 hb hH', ⟨by rw [t1]; omega, by rw [t6]; omega⟩, fun c c0 c1 => ?_, ⟨by rw [t4.1, t5]; omega, by omega⟩, h12, by rw [t5]; exact h13⟩
      have := t3 c c0 c1
      have := h9 c c0 c1
      omega
    · have w : (pcComplete p1 e).2 = eS e (9000 + p1) 5 1 := by
        unfold pcComplete
        rw [if_pos c0, if_neg (fun hh => c1 hh.1)]
      have hH' : HH S D T (pcComplete p1 e).2 := by
        rw [w]
        exact h1.es (h1.1.es0 (by omega) (by omega)) (by omega)
      exact ⟨S, D, T, A, B, P, W, V, Z, ℓ, PJ.plain ⟨h1, h2, h3, h4, h5, h6, ⟨h7, h8⟩, h9, ⟨h10, h11⟩, h12, h13⟩ hH' gl ml (by rw [w]; exact q7_es hc (by omega)) (by rw [w]; exact wg_es hc (by omega)) tt⟩
  · have w : (pcComplete p1 e).2 = pThr e := by
      unfold pcComplete
      rw [if_neg c0]
      rfl
    exact ⟨S, D, T, A, B, P, W, V, Z, ℓ, PJ.keep ⟨h1, h2, h3, h4, h5, h6, ⟨h7, h8⟩, h9, ⟨h10, h11⟩, h12, h13⟩ (Or.inr w)⟩
end INC
