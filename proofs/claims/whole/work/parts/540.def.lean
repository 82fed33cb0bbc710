/-! Methods as functions (written by wip/whole/dec.py), 40: X12_complete, X12_die. -/
section DF40
noncomputable def fl_X12_complete_232 (y1 y3 y5 y7 y8 y9 : Int) (k282 : MM → Option (Int × MM)) : Nat → Int → MM → Option (Int × MM)
  | 0, _, _ => none
  | n + 1, y10, m => lx (m 68 120) fun x_258 =>
if y10 < x_258 then
gd (0 ≤ y10 ∧ y10 < 65536) <| lx (m 158 y10) fun x_268 =>
lx (m 159 y10) fun x_280 =>
bd (fm_X12_puts y3 (w32 (Int.tdiv x_268 1000)) x_280 (Int.tmod x_268 1000) m) fun x_293 m_294 =>
lx (w32 (y10 + 1)) fun x_309 =>
fl_X12_complete_232 y1 y3 y5 y7 y8 y9 k282 n x_309 m_294
else
k282 m
set_option maxHeartbeats 4000000 in
theorem ol_X12_complete_232 {xs : List Int32} {d : Nat} {Q : QO → QS → Prop} {mb : MM} {y1 y3 y5 y7 y8 y9 : Int} {k282 : MM → Option (Int × MM)} {rz : Int} {rm : MM}
  (hd : 14 ≤ d)
  (hk282 : ∀ mq : MM, Ext mb mq → ∀ {Sq : QS} {Lq : QL} {u0 : Value} {u1 : Value} {u3 : Value} {u5 : Value} {u7 : Value} {u8 : Value} {u9 : Value}, k282 mq = some (rz, rm) → Rp Sq mq → q_lo Lq 0 = some u0 → q_is 2 u0 68 → q_lo Lq 1 = some u1 → q_is 0 u1 y1 → q_lo Lq 3 = some u3 → q_is 0 u3 y3 → q_lo Lq 5 = some u5 → q_is 0 u5 y5 → q_lo Lq 7 = some u7 → q_is 0 u7 y7 → q_lo Lq 8 = some u8 → q_is 0 u8 y8 → q_lo Lq 9 = some u9 → q_is 0 u9 y9 → Go xs d qM_X12_complete 282 Lq [] Sq Q)
  (hQ : Ext mb rm → ∀ o S1, Rp S1 rm → q_out 0 o rz → Q o S1) :
  ∀ (n : Nat) {m : MM} {S : QS} {L : QL} {y10 : Int} {v0 : Value} {v1 : Value} {v3 : Value} {v5 : Value} {v7 : Value} {v8 : Value} {v9 : Value} {v10 : Value} , Ext mb m → fl_X12_complete_232 y1 y3 y5 y7 y8 y9 k282 n y10 m = some (rz, rm) → Rp S m → q_lo L 0 = some v0 → q_is 2 v0 68 → q_lo L 1 = some v1 → q_is 0 v1 y1 → q_lo L 3 = some v3 → q_is 0 v3 y3 → q_lo L 5 = some v5 → q_is 0 v5 y5 → q_lo L 7 = some v7 → q_is 0 v7 y7 → q_lo L 8 = some v8 → q_is 0 v8 y8 → q_lo L 9 = some v9 → q_is 0 v9 y9 → q_lo L 10 = some v10 → q_is 0 v10 y10 → Go xs d qM_X12_complete 232 L [] S Q := by
  intro n
  induction n with
  | zero => intro m S L y10 v0 v1 v3 v5 v7 v8 v9 v10; intro E h R l0 f0 l1 f1 l3 f3 l5 f5 l7 f7 l8 f8 l9 f9 l10 f10; cases h
  | succ n ih0 =>
    intro m S L y10 v0 v1 v3 v5 v7 v8 v9 v10; intro E h R l0 f0 l1 f1 l3 f3 l5 f5 l7 f7 l8 f8 l9 f9 l10 f10
    have ih : ∀ mq : MM, Ext mb mq → ∀ {z10 : Int} {Sq : QS} {Lq : QL} {u0 : Value} {u1 : Value} {u3 : Value} {u5 : Value} {u7 : Value} {u8 : Value} {u9 : Value} {u10 : Value}, fl_X12_complete_232 y1 y3 y5 y7 y8 y9 k282 n z10 mq = some (rz, rm) → Rp Sq mq → q_lo Lq 0 = some u0 → q_is 2 u0 68 → q_lo Lq 1 = some u1 → q_is 0 u1 y1 → q_lo Lq 3 = some u3 → q_is 0 u3 y3 → q_lo Lq 5 = some u5 → q_is 0 u5 y5 → q_lo Lq 7 = some u7 → q_is 0 u7 y7 → q_lo Lq 8 = some u8 → q_is 0 u8 y8 → q_lo Lq 9 = some u9 → q_is 0 u9 y9 → q_lo Lq 10 = some u10 → q_is 0 u10 z10 → Go xs d qM_X12_complete 232 Lq [] Sq Q := fun mq b => by intros; exact ih0 b ‹_› ‹_› ‹_› ‹_› ‹_› ‹_› ‹_› ‹_› ‹_› ‹_› ‹_› ‹_› ‹_› ‹_› ‹_› ‹_› ‹_› ‹_›
    unfold fl_X12_complete_232 at h
    refine go_iload (n := 10) (by decide +kernel) l10 f10 ?_
    refine go_aload_n (n := 0) (by decide +kernel) l0 f0 ?_
    obtain ⟨x_258, e_259, h⟩ := lx_s h
    refine go_getf (x := 416) (ci := 13) (kf := 120) (fin := 0) (t := 0) (by decide +kernel) (by decide +kernel) (by decide +kernel) R f0 (fx_k (c := 13) R (by decide +kernel)) fun v_255 f_256 => ?_
    have f_257 := q_is_eq f_256 e_259
    refine go_icmp (c := .ge) (o := 44) (t := 282) (P := ¬ (y10 < x_258)) (by decide +kernel) (by decide +kernel) f10 f_257 (Int.not_lt.symm) (fun hp_260 => ?_) (fun hp_260 => ?_)
    · have h := it_f hp_260 h
      exact hk282 m E h R l0 f0 l1 f1 l3 f3 l5 f5 l7 f7 l8 f8 l9 f9
    · have h := it_n hp_260 h
      refine go_aload_n (n := 0) (by decide +kernel) l0 f0 ?_
      refine go_iload_n (n := 3) (by decide +kernel) l3 f3 ?_
      refine go_aload_n (n := 0) (by decide +kernel) l0 f0 ?_
      refine go_getf (x := 291) (ci := 13) (kf := 121) (fin := 1) (t := 2) (by decide +kernel) (by decide +kernel) (by decide +kernel) R f0 (fx_k (c := 13) R (by decide +kernel)) fun v_261 f_262 => ?_
      have f_263 := q_is_eq (b := 158) f_262 (fx_v R (by decide +kernel)).symm
      refine go_iload (n := 10) (by decide +kernel) l10 f10 ?_
      obtain ⟨g_266, h⟩ := gd_s h
      obtain ⟨x_268, e_269, h⟩ := lx_s h
      refine go_iald (kd := 100) (by decide +kernel) rfl R f_263 f10 (fx_k (c := 100) R (by decide +kernel)) (fx_x (a := 158) (ln := 65536) R (by decide +kernel) g_266) fun v_264 f_265 => ?_
      have f_267 := q_is_eq f_265 e_269
      refine go_sipush (n := 1000) (z := 1000) (by decide +kernel) (by decide) fun v_270 f_271 => ?_
      refine go_idiv (by decide +kernel) f_267 f_271 (by decide) fun v_272 f_273 => ?_
      refine go_aload_n (n := 0) (by decide +kernel) l0 f0 ?_
      refine go_getf (x := 294) (ci := 13) (kf := 122) (fin := 1) (t := 2) (by decide +kernel) (by decide +kernel) (by decide +kernel) R f0 (fx_k (c := 13) R (by decide +kernel)) fun v_274 f_275 => ?_
      have f_276 := q_is_eq (b := 159) f_275 (fx_v R (by decide +kernel)).symm
      refine go_iload (n := 10) (by decide +kernel) l10 f10 ?_
      obtain ⟨x_280, e_281, h⟩ := lx_s h
      refine go_iald (kd := 100) (by decide +kernel) rfl R f_276 f10 (fx_k (c := 100) R (by decide +kernel)) (fx_x (a := 159) (ln := 65536) R (by decide +kernel) g_266) fun v_277 f_278 => ?_
      have f_279 := q_is_eq f_278 e_281
      refine go_aload_n (n := 0) (by decide +kernel) l0 f0 ?_
      refine go_getf (x := 291) (ci := 13) (kf := 121) (fin := 1) (t := 2) (by decide +kernel) (by decide +kernel) (by decide +kernel) R f0 (fx_k (c := 13) R (by decide +kernel)) fun v_282 f_283 => ?_
      have f_284 := q_is_eq (b := 158) f_283 (fx_v R (by decide +kernel)).symm
      refine go_iload (n := 10) (by decide +kernel) l10 f10 ?_
      refine go_iald (kd := 100) (by decide +kernel) rfl R f_284 f10 (fx_k (c := 100) R (by decide +kernel)) (fx_x (a := 158) (ln := 65536) R (by decide +kernel) g_266) fun v_285 f_286 => ?_
      have f_287 := q_is_eq f_286 e_269
      refine go_sipush (n := 1000) (z := 1000) (by decide +kernel) (by decide) fun v_288 f_289 => ?_
      refine go_irem (by decide +kernel) f_287 f_289 (by decide) fun v_290 f_291 => ?_
      obtain ⟨x_293, m_294, hc_292, h⟩ := bd_s h
      refine go_callV (x := 360) (mi := 210) (n := 4) (ci := 13) (as := [v3, v_272, v_277, v_290]) (rest := []) (by decide +kernel) (by decide +kernel) rfl rfl (q_sum8 _ (Nat.le_of_ble_eq_true rfl)) R f0 (fx_k (c := 13) R (by decide +kernel)) (om_X12_puts (Nat.le_trans (by decide) hd) R f0 f3 f_273 f_279 f_291 hc_292) (fun _ S_297 q_300 => ?_) (fun _ _ qq => kr_x qq)
      refine kr_z (by decide) q_300 fun v_295 f_296 R_298 E_299 => ?_
      have E_303 := Ext.tr E E_299
      refine go_pop (by decide +kernel) f_296 (Or.inl rfl) ?_
      refine go_iinc (n := 10) (c := 1) (c' := 1) (by decide +kernel) (by decide +kernel) l10 f10 (by decide) fun L_304 v_305 f_306 l_307 kp_308 => ?_
      obtain ⟨x_309, e_310, h⟩ := lx_s h
      have f_311 := q_is_eq f_306 e_310
      have l_312 := kp_308 0 _ l0 (by decide) (Or.inl (by decide))
      have l_313 := kp_308 1 _ l1 (by decide) (Or.inl (by decide))
      have l_314 := kp_308 3 _ l3 (by decide) (Or.inl (by decide))
      have l_315 := kp_308 5 _ l5 (by decide) (Or.inl (by decide))
      have l_316 := kp_308 7 _ l7 (by decide) (Or.inl (by decide))
      have l_317 := kp_308 8 _ l8 (by decide) (Or.inl (by decide))
      have l_318 := kp_308 9 _ l9 (by decide) (Or.inr (q_is_cat f9 (Or.inl rfl)))
      refine go_goto (o := (-47)) (t := 232) (by decide +kernel) (by decide +kernel) ?_
      exact ih m_294 E_303 h R_298 l_312 f0 l_313 f1 l_314 f3 l_315 f5 l_316 f7 l_317 f8 l_318 f9 l_307 f_311
noncomputable def fl_X12_complete_357 (y3 y9 : Int) : Nat → Int → MM → Option (Int × MM)
  | 0, _, _ => none
  | n + 1, y10, m => lx (m 68 120) fun x_459 =>
if y10 < x_459 then
gd (0 ≤ y10 ∧ y10 < 65536) <| lx (m 158 y10) fun x_474 =>
lx (m 159 y10) fun x_486 =>
bd (fm_X12_carriesOut y3 (w32 (y9 + y10)) (w32 (Int.tdiv x_474 1000)) x_486 (Int.tmod x_474 1000) m) fun x_499 m_500 =>
lx (w32 (y10 + 1)) fun x_515 =>
fl_X12_complete_357 y3 y9 n x_515 m_500
else
some (x_459, m)
set_option maxHeartbeats 4000000 in
theorem ol_X12_complete_357 {xs : List Int32} {d : Nat} {Q : QO → QS → Prop} {mb : MM} {y3 y9 : Int} {rz : Int} {rm : MM}
  (hd : 14 ≤ d)
  (hQ : Ext mb rm → ∀ o S1, Rp S1 rm → q_out 0 o rz → Q o S1) :
  ∀ (n : Nat) {m : MM} {S : QS} {L : QL} {y10 : Int} {v0 : Value} {v3 : Value} {v9 : Value} {v10 : Value} , Ext mb m → fl_X12_complete_357 y3 y9 n y10 m = some (rz, rm) → Rp S m → q_lo L 0 = some v0 → q_is 2 v0 68 → q_lo L 3 = some v3 → q_is 0 v3 y3 → q_lo L 9 = some v9 → q_is 0 v9 y9 → q_lo L 10 = some v10 → q_is 0 v10 y10 → Go xs d qM_X12_complete 357 L [] S Q := by
  intro n
  induction n with
  | zero => intro m S L y10 v0 v3 v9 v10; intro E h R l0 f0 l3 f3 l9 f9 l10 f10; cases h
  | succ n ih0 =>
    intro m S L y10 v0 v3 v9 v10; intro E h R l0 f0 l3 f3 l9 f9 l10 f10
    have ih : ∀ mq : MM, Ext mb mq → ∀ {z10 : Int} {Sq : QS} {Lq : QL} {u0 : Value} {u3 : Value} {u9 : Value} {u10 : Value}, fl_X12_complete_357 y3 y9 n z10 mq = some (rz, rm) → Rp Sq mq → q_lo Lq 0 = some u0 → q_is 2 u0 68 → q_lo Lq 3 = some u3 → q_is 0 u3 y3 → q_lo Lq 9 = some u9 → q_is 0 u9 y9 → q_lo Lq 10 = some u10 → q_is 0 u10 z10 → Go xs d qM_X12_complete 357 Lq [] Sq Q := fun mq b => by intros; exact ih0 b ‹_› ‹_› ‹_› ‹_› ‹_› ‹_› ‹_› ‹_› ‹_› ‹_›
    unfold fl_X12_complete_357 at h
    refine go_iload (n := 10) (by decide +kernel) l10 f10 ?_
    refine go_aload_n (n := 0) (by decide +kernel) l0 f0 ?_
    obtain ⟨x_459, e_460, h⟩ := lx_s h
    refine go_getf (x := 416) (ci := 13) (kf := 120) (fin := 0) (t := 0) (by decide +kernel) (by decide +kernel) (by decide +kernel) R f0 (fx_k (c := 13) R (by decide +kernel)) fun v_456 f_457 => ?_
    have f_458 := q_is_eq f_457 e_460
    refine go_icmp (c := .ge) (o := 48) (t := 411) (P := ¬ (y10 < x_459)) (by decide +kernel) (by decide +kernel) f10 f_458 (Int.not_lt.symm) (fun hp_461 => ?_) (fun hp_461 => ?_)
    · have h := it_f hp_461 h
      refine go_aload_n (n := 0) (by decide +kernel) l0 f0 ?_
      refine go_getf (x := 416) (ci := 13) (kf := 120) (fin := 0) (t := 0) (by decide +kernel) (by decide +kernel) (by decide +kernel) R f0 (fx_k (c := 13) R (by decide +kernel)) fun v_462 f_463 => ?_
      have f_464 := q_is_eq f_463 e_460
      cases h
      exact go_iret (by decide +kernel) rfl (Or.inl rfl) f_464 (hQ E _ _ R (q_out_v (by decide) f_464))
    · have h := it_n hp_461 h
      refine go_aload_n (n := 0) (by decide +kernel) l0 f0 ?_
      refine go_iload_n (n := 3) (by decide +kernel) l3 f3 ?_
      refine go_iload (n := 9) (by decide +kernel) l9 f9 ?_
      refine go_iload (n := 10) (by decide +kernel) l10 f10 ?_
      refine go_iadd (by decide +kernel) f9 f10 fun v_465 f_466 => ?_
      refine go_aload_n (n := 0) (by decide +kernel) l0 f0 ?_
      refine go_getf (x := 291) (ci := 13) (kf := 121) (fin := 1) (t := 2) (by decide +kernel) (by decide +kernel) (by decide +kernel) R f0 (fx_k (c := 13) R (by decide +kernel)) fun v_467 f_468 => ?_
      have f_469 := q_is_eq (b := 158) f_468 (fx_v R (by decide +kernel)).symm
      refine go_iload (n := 10) (by decide +kernel) l10 f10 ?_
      obtain ⟨g_472, h⟩ := gd_s h
      obtain ⟨x_474, e_475, h⟩ := lx_s h
      refine go_iald (kd := 100) (by decide +kernel) rfl R f_469 f10 (fx_k (c := 100) R (by decide +kernel)) (fx_x (a := 158) (ln := 65536) R (by decide +kernel) g_472) fun v_470 f_471 => ?_
      have f_473 := q_is_eq f_471 e_475
      refine go_sipush (n := 1000) (z := 1000) (by decide +kernel) (by decide) fun v_476 f_477 => ?_
      refine go_idiv (by decide +kernel) f_473 f_477 (by decide) fun v_478 f_479 => ?_
      refine go_aload_n (n := 0) (by decide +kernel) l0 f0 ?_
      refine go_getf (x := 294) (ci := 13) (kf := 122) (fin := 1) (t := 2) (by decide +kernel) (by decide +kernel) (by decide +kernel) R f0 (fx_k (c := 13) R (by decide +kernel)) fun v_480 f_481 => ?_
      have f_482 := q_is_eq (b := 159) f_481 (fx_v R (by decide +kernel)).symm
      refine go_iload (n := 10) (by decide +kernel) l10 f10 ?_
      obtain ⟨x_486, e_487, h⟩ := lx_s h
      refine go_iald (kd := 100) (by decide +kernel) rfl R f_482 f10 (fx_k (c := 100) R (by decide +kernel)) (fx_x (a := 159) (ln := 65536) R (by decide +kernel) g_472) fun v_483 f_484 => ?_
      have f_485 := q_is_eq f_484 e_487
      refine go_aload_n (n := 0) (by decide +kernel) l0 f0 ?_
      refine go_getf (x := 291) (ci := 13) (kf := 121) (fin := 1) (t := 2) (by decide +kernel) (by decide +kernel) (by decide +kernel) R f0 (fx_k (c := 13) R (by decide +kernel)) fun v_488 f_489 => ?_
      have f_490 := q_is_eq (b := 158) f_489 (fx_v R (by decide +kernel)).symm
      refine go_iload (n := 10) (by decide +kernel) l10 f10 ?_
      refine go_iald (kd := 100) (by decide +kernel) rfl R f_490 f10 (fx_k (c := 100) R (by decide +kernel)) (fx_x (a := 158) (ln := 65536) R (by decide +kernel) g_472) fun v_491 f_492 => ?_
      have f_493 := q_is_eq f_492 e_475
      refine go_sipush (n := 1000) (z := 1000) (by decide +kernel) (by decide) fun v_494 f_495 => ?_
      refine go_irem (by decide +kernel) f_493 f_495 (by decide) fun v_496 f_497 => ?_
      obtain ⟨x_499, m_500, hc_498, h⟩ := bd_s h
      refine go_callV (x := 620) (mi := 280) (n := 5) (ci := 13) (as := [v3, v_465, v_478, v_483, v_496]) (rest := []) (by decide +kernel) (by decide +kernel) rfl rfl (q_sum8 _ (Nat.le_of_ble_eq_true rfl)) R f0 (fx_k (c := 13) R (by decide +kernel)) (om_X12_carriesOut (Nat.le_trans (by decide) hd) R f0 f3 f_466 f_479 f_485 f_497 hc_498) (fun _ S_503 q_506 => ?_) (fun _ _ qq => kr_x qq)
      refine kr_v q_506 fun R_504 E_505 => ?_
      have E_509 := Ext.tr E E_505
      refine go_iinc (n := 10) (c := 1) (c' := 1) (by decide +kernel) (by decide +kernel) l10 f10 (by decide) fun L_510 v_511 f_512 l_513 kp_514 => ?_
      obtain ⟨x_515, e_516, h⟩ := lx_s h
      have f_517 := q_is_eq f_512 e_516
      have l_518 := kp_514 0 _ l0 (by decide) (Or.inl (by decide))
      have l_519 := kp_514 3 _ l3 (by decide) (Or.inl (by decide))
      have l_520 := kp_514 9 _ l9 (by decide) (Or.inr (q_is_cat f9 (Or.inl rfl)))
      refine go_goto (o := (-51)) (t := 357) (by decide +kernel) (by decide +kernel) ?_
      exact ih m_500 E_509 h R_504 l_518 f0 l_519 f3 l_520 f9 l_513 f_517
noncomputable def fj_X12_complete_193 (y1 y3 y5 y7 y8 : Int) (m : MM) : Option (Int × MM) := lx (m 68 114) fun x_222 =>
if x_222 = 0 then
gd (0 ≤ y3 ∧ y3 < 30) <| lx (m 86 y3) fun x_232 =>
fl_X12_complete_232 y1 y3 y5 y7 y8 x_232 (fun m_343 =>
gd (0 ≤ y1 ∧ y1 < 4096) <| lx (m_343 114 y1) fun x_357 =>
bd (fm_X12_puts y3 17 x_357 0 m_343) fun x_362 m_363 =>
lx (m_363 90 y3) fun x_382 =>
gd (0 ≤ y5 ∧ y5 < 90) <| up m_363 123 y5 x_382 fun m_385 =>
lx (m_385 82 y3) fun x_401 =>
up m_385 124 y5 x_401 fun m_403 =>
lx (m_403 93 y3) fun x_419 =>
up m_403 125 y5 x_419 fun m_421 =>
up m_421 126 y5 y7 fun m_431 =>
up m_431 127 y5 y8 fun m_441 =>
fl_X12_complete_357 y3 x_232  BIG 0 m_441) BIG 0 m
else
gd (0 ≤ y3 ∧ y3 < 30) <| up m 83 y3 6 fun m_527 =>
lx (m_527 68 115) fun x_540 =>
up m_527 94 y3 x_540 fun m_542 =>
some ((-2), m_542)
set_option maxHeartbeats 4000000 in
theorem oj_X12_complete_193 {xs : List Int32} {d : Nat} {S : QS} {L : QL} {Q : QO → QS → Prop} {m : MM} {y1 y3 y5 y7 y8 : Int} {v0 : Value} {v1 : Value} {v3 : Value} {v5 : Value} {v7 : Value} {v8 : Value}  {rz : Int} {rm : MM}
  (hd : 14 ≤ d) (R : Rp S m) (l0 : q_lo L 0 = some v0) (f0 : q_is 2 v0 68) (l1 : q_lo L 1 = some v1) (f1 : q_is 0 v1 y1) (l3 : q_lo L 3 = some v3) (f3 : q_is 0 v3 y3) (l5 : q_lo L 5 = some v5) (f5 : q_is 0 v5 y5) (l7 : q_lo L 7 = some v7) (f7 : q_is 0 v7 y7) (l8 : q_lo L 8 = some v8) (f8 : q_is 0 v8 y8)
  (hQ : Ext m rm → ∀ o S1, Rp S1 rm → q_out 0 o rz → Q o S1)
  (h : fj_X12_complete_193 y1 y3 y5 y7 y8 m = some (rz, rm)) : Go xs d qM_X12_complete 193 L [] S Q := by
  unfold fj_X12_complete_193 at h
  refine go_aload_n (n := 0) (by decide +kernel) l0 f0 ?_
  obtain ⟨x_222, e_223, h⟩ := lx_s h
  refine go_getf (x := 374) (ci := 13) (kf := 114) (fin := 0) (t := 0) (by decide +kernel) (by decide +kernel) (by decide +kernel) R f0 (fx_k (c := 13) R (by decide +kernel)) fun v_219 f_220 => ?_
  have f_221 := q_is_eq f_220 e_223
  refine go_if (c := .eq) (o := 24) (t := 221) (P := x_222 = 0) (by decide +kernel) (by decide +kernel) f_221 (Iff.rfl) (fun hp_224 => ?_) (fun hp_224 => ?_)
  · have h := it_t hp_224 h
    refine go_aload_n (n := 0) (by decide +kernel) l0 f0 ?_
    refine go_getf (x := 61) (ci := 13) (kf := 19) (fin := 1) (t := 2) (by decide +kernel) (by decide +kernel) (by decide +kernel) R f0 (fx_k (c := 13) R (by decide +kernel)) fun v_225 f_226 => ?_
    have f_227 := q_is_eq (b := 86) f_226 (fx_v R (by decide +kernel)).symm
    refine go_iload_n (n := 3) (by decide +kernel) l3 f3 ?_
    obtain ⟨g_230, h⟩ := gd_s h
    obtain ⟨x_232, e_233, h⟩ := lx_s h
    refine go_iald (kd := 100) (by decide +kernel) rfl R f_227 f3 (fx_k (c := 100) R (by decide +kernel)) (fx_x (a := 86) (ln := 30) R (by decide +kernel) g_230) fun v_228 f_229 => ?_
    have f_231 := q_is_eq f_229 e_233
    refine go_istore (n := 9) (by decide +kernel) (by decide +kernel) f_231 fun L_234 l_235 kp_236 => ?_
    have l_237 := kp_236 0 _ l0 (by decide) (Or.inl (by decide))
    have l_238 := kp_236 1 _ l1 (by decide) (Or.inl (by decide))
    have l_239 := kp_236 3 _ l3 (by decide) (Or.inl (by decide))
    have l_240 := kp_236 5 _ l5 (by decide) (Or.inl (by decide))
    have l_241 := kp_236 7 _ l7 (by decide) (Or.inl (by decide))
    have l_242 := kp_236 8 _ l8 (by decide) (Or.inr (q_is_cat f8 (Or.inl rfl)))
    refine go_iconst (n := 0) (z := 0) (by decide +kernel) (by decide) fun v_243 f_244 => ?_
    refine go_istore (n := 10) (by decide +kernel) (by decide +kernel) f_244 fun L_245 l_246 kp_247 => ?_
    have l_248 := kp_247 0 _ l_237 (by decide) (Or.inl (by decide))
    have l_249 := kp_247 1 _ l_238 (by decide) (Or.inl (by decide))
    have l_250 := kp_247 3 _ l_239 (by decide) (Or.inl (by decide))
    have l_251 := kp_247 5 _ l_240 (by decide) (Or.inl (by decide))
    have l_252 := kp_247 7 _ l_241 (by decide) (Or.inl (by decide))
    have l_253 := kp_247 8 _ l_242 (by decide) (Or.inl (by decide))
    have l_254 := kp_247 9 _ l_235 (by decide) (Or.inr (q_is_cat f_231 (Or.inl rfl)))
    refine ol_X12_complete_232 hd  ?_ hQ BIG (Ext.rf _) h R l_248 f0 l_249 f1 l_250 f3 l_251 f5 l_252 f7 l_253 f8 l_254 f_231 l_246 f_244
    intro m_343 E_344
    intro S_340 L_341 v_319 v_320 v_321 v_322 v_323 v_324 v_325
    intro h R_342 l_326 f_333 l_327 f_334 l_328 f_335 l_329 f_336 l_330 f_337 l_331 f_338 l_332 f_339
    have E_345 := E_344
    refine go_aload_n (n := 0) (by decide +kernel) l_326 f_333 ?_
    refine go_iload_n (n := 3) (by decide +kernel) l_328 f_335 ?_
    refine go_bipush (n := 17) (z := 17) (by decide +kernel) (by decide) fun v_348 f_349 => ?_
    refine go_aload_n (n := 0) (by decide +kernel) l_326 f_333 ?_
    refine go_getf (x := 155) (ci := 13) (kf := 54) (fin := 1) (t := 2) (by decide +kernel) (by decide +kernel) (by decide +kernel) R_342 f_333 (fx_k (c := 13) R_342 (by decide +kernel)) fun v_350 f_351 => ?_
    have f_352 := q_is_eq (b := 114) f_351 (fx_v R_342 (by decide +kernel)).symm
    refine go_iload_n (n := 1) (by decide +kernel) l_327 f_334 ?_
    obtain ⟨g_355, h⟩ := gd_s h
    obtain ⟨x_357, e_358, h⟩ := lx_s h
    refine go_iald (kd := 100) (by decide +kernel) rfl R_342 f_352 f_334 (fx_k (c := 100) R_342 (by decide +kernel)) (fx_x (a := 114) (ln := 4096) R_342 (by decide +kernel) g_355) fun v_353 f_354 => ?_
    have f_356 := q_is_eq f_354 e_358
    refine go_iconst (n := 0) (z := 0) (by decide +kernel) (by decide) fun v_359 f_360 => ?_
    obtain ⟨x_362, m_363, hc_361, h⟩ := bd_s h
    refine go_callV (x := 360) (mi := 210) (n := 4) (ci := 13) (as := [v_321, v_348, v_353, v_359]) (rest := []) (by decide +kernel) (by decide +kernel) rfl rfl (q_sum8 _ (Nat.le_of_ble_eq_true rfl)) R_342 f_333 (fx_k (c := 13) R_342 (by decide +kernel)) (om_X12_puts (Nat.le_trans (by decide) hd) R_342 f_333 f_335 f_349 f_356 f_360 hc_361) (fun _ S_366 q_369 => ?_) (fun _ _ qq => kr_x qq)
    refine kr_z (by decide) q_369 fun v_364 f_365 R_367 E_368 => ?_
    have E_372 := Ext.tr E_345 E_368
    refine go_pop (by decide +kernel) f_365 (Or.inl rfl) ?_
    refine go_aload_n (n := 0) (by decide +kernel) l_326 f_333 ?_
    refine go_getf (x := 183) (ci := 13) (kf := 63) (fin := 1) (t := 2) (by decide +kernel) (by decide +kernel) (by decide +kernel) R_367 f_333 (fx_k (c := 13) R_367 (by decide +kernel)) fun v_373 f_374 => ?_
    have f_375 := q_is_eq (b := 123) f_374 (fx_v R_367 (by decide +kernel)).symm
    refine go_iload (n := 5) (by decide +kernel) l_329 f_336 ?_
    refine go_aload_n (n := 0) (by decide +kernel) l_326 f_333 ?_
    refine go_getf (x := 73) (ci := 13) (kf := 23) (fin := 1) (t := 2) (by decide +kernel) (by decide +kernel) (by decide +kernel) R_367 f_333 (fx_k (c := 13) R_367 (by decide +kernel)) fun v_376 f_377 => ?_
    have f_378 := q_is_eq (b := 90) f_377 (fx_v R_367 (by decide +kernel)).symm
    refine go_iload_n (n := 3) (by decide +kernel) l_328 f_335 ?_
    obtain ⟨x_382, e_383, h⟩ := lx_s h
    refine go_iald (kd := 100) (by decide +kernel) rfl R_367 f_378 f_335 (fx_k (c := 100) R_367 (by decide +kernel)) (fx_x (a := 90) (ln := 30) R_367 (by decide +kernel) g_230) fun v_379 f_380 => ?_
    have f_381 := q_is_eq f_380 e_383
    obtain ⟨g_384, h⟩ := gd_s h
    obtain ⟨m_385, e_386, h⟩ := up_s h
    refine go_iast (kd := 100) (by decide +kernel) rfl R_367 f_375 f_336 f_381 (fx_k (c := 100) R_367 (by decide +kernel)) (fx_x (a := 123) (ln := 90) R_367 (by decide +kernel) g_384) e_386 (fx_a R_367.2 (fx_k (c := 100) R_367 (by decide +kernel)) (And.left (fx_x (a := 123) (ln := 90) R_367 (by decide +kernel) g_384)) (by decide +kernel)) fun S_387 R_388 E_389 => ?_
    have E_391 := Ext.tr E_372 E_389
    refine go_aload_n (n := 0) (by decide +kernel) l_326 f_333 ?_
    refine go_getf (x := 186) (ci := 13) (kf := 64) (fin := 1) (t := 2) (by decide +kernel) (by decide +kernel) (by decide +kernel) R_388 f_333 (fx_k (c := 13) R_388 (by decide +kernel)) fun v_392 f_393 => ?_
    have f_394 := q_is_eq (b := 124) f_393 (fx_v R_388 (by decide +kernel)).symm
    refine go_iload (n := 5) (by decide +kernel) l_329 f_336 ?_
    refine go_aload_n (n := 0) (by decide +kernel) l_326 f_333 ?_
    refine go_getf (x := 49) (ci := 13) (kf := 15) (fin := 1) (t := 2) (by decide +kernel) (by decide +kernel) (by decide +kernel) R_388 f_333 (fx_k (c := 13) R_388 (by decide +kernel)) fun v_395 f_396 => ?_
    have f_397 := q_is_eq (b := 82) f_396 (fx_v R_388 (by decide +kernel)).symm
    refine go_iload_n (n := 3) (by decide +kernel) l_328 f_335 ?_
    obtain ⟨x_401, e_402, h⟩ := lx_s h
    refine go_iald (kd := 100) (by decide +kernel) rfl R_388 f_397 f_335 (fx_k (c := 100) R_388 (by decide +kernel)) (fx_x (a := 82) (ln := 30) R_388 (by decide +kernel) g_230) fun v_398 f_399 => ?_
    have f_400 := q_is_eq f_399 e_402
    obtain ⟨m_403, e_404, h⟩ := up_s h
    refine go_iast (kd := 100) (by decide +kernel) rfl R_388 f_394 f_336 f_400 (fx_k (c := 100) R_388 (by decide +kernel)) (fx_x (a := 124) (ln := 90) R_388 (by decide +kernel) g_384) e_404 (fx_a R_388.2 (fx_k (c := 100) R_388 (by decide +kernel)) (And.left (fx_x (a := 124) (ln := 90) R_388 (by decide +kernel) g_384)) (by decide +kernel)) fun S_405 R_406 E_407 => ?_
    have E_409 := Ext.tr E_391 E_407
    refine go_aload_n (n := 0) (by decide +kernel) l_326 f_333 ?_
    refine go_getf (x := 189) (ci := 13) (kf := 65) (fin := 1) (t := 2) (by decide +kernel) (by decide +kernel) (by decide +kernel) R_406 f_333 (fx_k (c := 13) R_406 (by decide +kernel)) fun v_410 f_411 => ?_
    have f_412 := q_is_eq (b := 125) f_411 (fx_v R_406 (by decide +kernel)).symm
    refine go_iload (n := 5) (by decide +kernel) l_329 f_336 ?_
    refine go_aload_n (n := 0) (by decide +kernel) l_326 f_333 ?_
    refine go_getf (x := 82) (ci := 13) (kf := 26) (fin := 1) (t := 2) (by decide +kernel) (by decide +kernel) (by decide +kernel) R_406 f_333 (fx_k (c := 13) R_406 (by decide +kernel)) fun v_413 f_414 => ?_
    have f_415 := q_is_eq (b := 93) f_414 (fx_v R_406 (by decide +kernel)).symm
    refine go_iload_n (n := 3) (by decide +kernel) l_328 f_335 ?_
    obtain ⟨x_419, e_420, h⟩ := lx_s h
    refine go_iald (kd := 100) (by decide +kernel) rfl R_406 f_415 f_335 (fx_k (c := 100) R_406 (by decide +kernel)) (fx_x (a := 93) (ln := 30) R_406 (by decide +kernel) g_230) fun v_416 f_417 => ?_
    have f_418 := q_is_eq f_417 e_420
    obtain ⟨m_421, e_422, h⟩ := up_s h
    refine go_iast (kd := 100) (by decide +kernel) rfl R_406 f_412 f_336 f_418 (fx_k (c := 100) R_406 (by decide +kernel)) (fx_x (a := 125) (ln := 90) R_406 (by decide +kernel) g_384) e_422 (fx_a R_406.2 (fx_k (c := 100) R_406 (by decide +kernel)) (And.left (fx_x (a := 125) (ln := 90) R_406 (by decide +kernel) g_384)) (by decide +kernel)) fun S_423 R_424 E_425 => ?_
    have E_427 := Ext.tr E_409 E_425
    refine go_aload_n (n := 0) (by decide +kernel) l_326 f_333 ?_
    refine go_getf (x := 192) (ci := 13) (kf := 66) (fin := 1) (t := 2) (by decide +kernel) (by decide +kernel) (by decide +kernel) R_424 f_333 (fx_k (c := 13) R_424 (by decide +kernel)) fun v_428 f_429 => ?_
    have f_430 := q_is_eq (b := 126) f_429 (fx_v R_424 (by decide +kernel)).symm
    refine go_iload (n := 5) (by decide +kernel) l_329 f_336 ?_
    refine go_iload (n := 7) (by decide +kernel) l_330 f_337 ?_
    obtain ⟨m_431, e_432, h⟩ := up_s h
    refine go_iast (kd := 100) (by decide +kernel) rfl R_424 f_430 f_336 f_337 (fx_k (c := 100) R_424 (by decide +kernel)) (fx_x (a := 126) (ln := 90) R_424 (by decide +kernel) g_384) e_432 (fx_a R_424.2 (fx_k (c := 100) R_424 (by decide +kernel)) (And.left (fx_x (a := 126) (ln := 90) R_424 (by decide +kernel) g_384)) (by decide +kernel)) fun S_433 R_434 E_435 => ?_
    have E_437 := Ext.tr E_427 E_435
    refine go_aload_n (n := 0) (by decide +kernel) l_326 f_333 ?_
    refine go_getf (x := 195) (ci := 13) (kf := 67) (fin := 1) (t := 2) (by decide +kernel) (by decide +kernel) (by decide +kernel) R_434 f_333 (fx_k (c := 13) R_434 (by decide +kernel)) fun v_438 f_439 => ?_
    have f_440 := q_is_eq (b := 127) f_439 (fx_v R_434 (by decide +kernel)).symm
    refine go_iload (n := 5) (by decide +kernel) l_329 f_336 ?_
    refine go_iload (n := 8) (by decide +kernel) l_331 f_338 ?_
    obtain ⟨m_441, e_442, h⟩ := up_s h
    refine go_iast (kd := 100) (by decide +kernel) rfl R_434 f_440 f_336 f_338 (fx_k (c := 100) R_434 (by decide +kernel)) (fx_x (a := 127) (ln := 90) R_434 (by decide +kernel) g_384) e_442 (fx_a R_434.2 (fx_k (c := 100) R_434 (by decide +kernel)) (And.left (fx_x (a := 127) (ln := 90) R_434 (by decide +kernel) g_384)) (by decide +kernel)) fun S_443 R_444 E_445 => ?_
    have E_447 := Ext.tr E_437 E_445
    refine go_iconst (n := 0) (z := 0) (by decide +kernel) (by decide) fun v_448 f_449 => ?_
    refine go_istore (n := 10) (by decide +kernel) (by decide +kernel) f_449 fun L_450 l_451 kp_452 => ?_
    have l_453 := kp_452 0 _ l_326 (by decide) (Or.inl (by decide))
    have l_454 := kp_452 3 _ l_328 (by decide) (Or.inl (by decide))
    have l_455 := kp_452 9 _ l_332 (by decide) (Or.inr (q_is_cat f_339 (Or.inl rfl)))
    refine ol_X12_complete_357 hd   (fun b => hQ (Ext.tr E_447 b)) BIG (Ext.rf _) h R_444 l_453 f_333 l_454 f_335 l_455 f_339 l_451 f_449
  · have h := it_f hp_224 h
    refine go_aload_n (n := 0) (by decide +kernel) l0 f0 ?_
    refine go_getf (x := 52) (ci := 13) (kf := 16) (fin := 1) (t := 2) (by decide +kernel) (by decide +kernel) (by decide +kernel) R f0 (fx_k (c := 13) R (by decide +kernel)) fun v_521 f_522 => ?_
    have f_523 := q_is_eq (b := 83) f_522 (fx_v R (by decide +kernel)).symm
    refine go_iload_n (n := 3) (by decide +kernel) l3 f3 ?_
    refine go_bipush (n := 6) (z := 6) (by decide +kernel) (by decide) fun v_524 f_525 => ?_
    obtain ⟨g_526, h⟩ := gd_s h
    obtain ⟨m_527, e_528, h⟩ := up_s h
    refine go_iast (kd := 100) (by decide +kernel) rfl R f_523 f3 f_525 (fx_k (c := 100) R (by decide +kernel)) (fx_x (a := 83) (ln := 30) R (by decide +kernel) g_526) e_528 (fx_a R.2 (fx_k (c := 100) R (by decide +kernel)) (And.left (fx_x (a := 83) (ln := 30) R (by decide +kernel) g_526)) (by decide +kernel)) fun S_529 R_530 E_531 => ?_
    have E_533 := E_531
    refine go_aload_n (n := 0) (by decide +kernel) l0 f0 ?_
    refine go_getf (x := 85) (ci := 13) (kf := 27) (fin := 1) (t := 2) (by decide +kernel) (by decide +kernel) (by decide +kernel) R_530 f0 (fx_k (c := 13) R_530 (by decide +kernel)) fun v_534 f_535 => ?_
    have f_536 := q_is_eq (b := 94) f_535 (fx_v R_530 (by decide +kernel)).symm
    refine go_iload_n (n := 3) (by decide +kernel) l3 f3 ?_
    refine go_aload_n (n := 0) (by decide +kernel) l0 f0 ?_
    obtain ⟨x_540, e_541, h⟩ := lx_s h
    refine go_getf (x := 378) (ci := 13) (kf := 115) (fin := 0) (t := 0) (by decide +kernel) (by decide +kernel) (by decide +kernel) R_530 f0 (fx_k (c := 13) R_530 (by decide +kernel)) fun v_537 f_538 => ?_
    have f_539 := q_is_eq f_538 e_541
    obtain ⟨m_542, e_543, h⟩ := up_s h
    refine go_iast (kd := 100) (by decide +kernel) rfl R_530 f_536 f3 f_539 (fx_k (c := 100) R_530 (by decide +kernel)) (fx_x (a := 94) (ln := 30) R_530 (by decide +kernel) g_526) e_543 (fx_a R_530.2 (fx_k (c := 100) R_530 (by decide +kernel)) (And.left (fx_x (a := 94) (ln := 30) R_530 (by decide +kernel) g_526)) (by decide +kernel)) fun S_544 R_545 E_546 => ?_
    have E_548 := Ext.tr E_533 E_546
    refine go_bipush (n := (-2)) (z := (-2)) (by decide +kernel) (by decide) fun v_549 f_550 => ?_
    cases h
    exact go_iret (by decide +kernel) rfl (Or.inl rfl) f_550 (hQ E_548 _ _ R_545 (q_out_v (by decide) f_550))
noncomputable def fj_X12_complete_144 (y1 y3 y5 y7 s0 : Int) (m : MM) : Option (Int × MM) := gd (0 ≤ y3 ∧ y3 < 30) <| lx (m 82 y3) fun x_190 =>
gd (0 ≤ y1 ∧ y1 < 4096) <| lx (m 114 y1) fun x_199 =>
bd (fm_X12_tellsRun y3 x_190 x_199 y7 s0 m) fun x_202 m_203 =>
lx (m_203 68 114) fun x_216 =>
if x_216 = 0 then
bd (fm_X12_nextCommand m_203) fun x_552 m_553 =>
lx (m_553 68 124) fun x_566 =>
if x_552 < x_566 then
bd (fm_X12_nextCommand m_553) fun x_570 m_571 =>
bd (fm_X12_differs x_570 m_571) fun x_582 m_583 =>
fj_X12_complete_193 y1 y3 y5 y7 s0 m_583
else
fj_X12_complete_193 y1 y3 y5 y7 s0 m_553
else
fj_X12_complete_193 y1 y3 y5 y7 s0 m_203
set_option maxHeartbeats 4000000 in
theorem oj_X12_complete_144 {xs : List Int32} {d : Nat} {S : QS} {L : QL} {Q : QO → QS → Prop} {m : MM} {y1 y3 y5 y7 s0 : Int} {v0 : Value} {v1 : Value} {v3 : Value} {v5 : Value} {v7 : Value} {w0 : Value}  {rz : Int} {rm : MM}
  (hd : 14 ≤ d) (R : Rp S m) (l0 : q_lo L 0 = some v0) (f0 : q_is 2 v0 68) (l1 : q_lo L 1 = some v1) (f1 : q_is 0 v1 y1) (l3 : q_lo L 3 = some v3) (f3 : q_is 0 v3 y3) (l5 : q_lo L 5 = some v5) (f5 : q_is 0 v5 y5) (l7 : q_lo L 7 = some v7) (f7 : q_is 0 v7 y7) (fs0 : q_is 0 w0 s0)
  (hQ : Ext m rm → ∀ o S1, Rp S1 rm → q_out 0 o rz → Q o S1)
  (h : fj_X12_complete_144 y1 y3 y5 y7 s0 m = some (rz, rm)) : Go xs d qM_X12_complete 144 L [w0] S Q := by
  unfold fj_X12_complete_144 at h
  refine go_istore (n := 8) (by decide +kernel) (by decide +kernel) fs0 fun L_175 l_176 kp_177 => ?_
  have l_178 := kp_177 0 _ l0 (by decide) (Or.inl (by decide))
  have l_179 := kp_177 1 _ l1 (by decide) (Or.inl (by decide))
  have l_180 := kp_177 3 _ l3 (by decide) (Or.inl (by decide))
  have l_181 := kp_177 5 _ l5 (by decide) (Or.inl (by decide))
  have l_182 := kp_177 7 _ l7 (by decide) (Or.inr (q_is_cat f7 (Or.inl rfl)))
  refine go_aload_n (n := 0) (by decide +kernel) l_178 f0 ?_
  refine go_iload_n (n := 3) (by decide +kernel) l_180 f3 ?_
  refine go_aload_n (n := 0) (by decide +kernel) l_178 f0 ?_
  refine go_getf (x := 49) (ci := 13) (kf := 15) (fin := 1) (t := 2) (by decide +kernel) (by decide +kernel) (by decide +kernel) R f0 (fx_k (c := 13) R (by decide +kernel)) fun v_183 f_184 => ?_
  have f_185 := q_is_eq (b := 82) f_184 (fx_v R (by decide +kernel)).symm
  refine go_iload_n (n := 3) (by decide +kernel) l_180 f3 ?_
  obtain ⟨g_188, h⟩ := gd_s h
  obtain ⟨x_190, e_191, h⟩ := lx_s h
  refine go_iald (kd := 100) (by decide +kernel) rfl R f_185 f3 (fx_k (c := 100) R (by decide +kernel)) (fx_x (a := 82) (ln := 30) R (by decide +kernel) g_188) fun v_186 f_187 => ?_
  have f_189 := q_is_eq f_187 e_191
  refine go_aload_n (n := 0) (by decide +kernel) l_178 f0 ?_
  refine go_getf (x := 155) (ci := 13) (kf := 54) (fin := 1) (t := 2) (by decide +kernel) (by decide +kernel) (by decide +kernel) R f0 (fx_k (c := 13) R (by decide +kernel)) fun v_192 f_193 => ?_
  have f_194 := q_is_eq (b := 114) f_193 (fx_v R (by decide +kernel)).symm
  refine go_iload_n (n := 1) (by decide +kernel) l_179 f1 ?_
  obtain ⟨g_197, h⟩ := gd_s h
  obtain ⟨x_199, e_200, h⟩ := lx_s h
  refine go_iald (kd := 100) (by decide +kernel) rfl R f_194 f1 (fx_k (c := 100) R (by decide +kernel)) (fx_x (a := 114) (ln := 4096) R (by decide +kernel) g_197) fun v_195 f_196 => ?_
  have f_198 := q_is_eq f_196 e_200
  refine go_iload (n := 7) (by decide +kernel) l_182 f7 ?_
  refine go_iload (n := 8) (by decide +kernel) l_176 fs0 ?_
  obtain ⟨x_202, m_203, hc_201, h⟩ := bd_s h
  refine go_callV (x := 545) (mi := 249) (n := 5) (ci := 13) (as := [v3, v_186, v_195, v7, w0]) (rest := []) (by decide +kernel) (by decide +kernel) rfl rfl (q_sum8 _ (Nat.le_of_ble_eq_true rfl)) R f0 (fx_k (c := 13) R (by decide +kernel)) (om_X12_tellsRun (Nat.le_trans (by decide) hd) R f0 f3 f_189 f_198 f7 fs0 hc_201) (fun _ S_206 q_209 => ?_) (fun _ _ qq => kr_x qq)
  refine kr_v q_209 fun R_207 E_208 => ?_
  have E_212 := E_208
  refine go_aload_n (n := 0) (by decide +kernel) l_178 f0 ?_
  obtain ⟨x_216, e_217, h⟩ := lx_s h
  refine go_getf (x := 374) (ci := 13) (kf := 114) (fin := 0) (t := 0) (by decide +kernel) (by decide +kernel) (by decide +kernel) R_207 f0 (fx_k (c := 13) R_207 (by decide +kernel)) fun v_213 f_214 => ?_
  have f_215 := q_is_eq f_214 e_217
  refine go_if (c := .ne) (o := 22) (t := 193) (P := ¬ (x_216 = 0)) (by decide +kernel) (by decide +kernel) f_215 (Iff.rfl) (fun hp_218 => ?_) (fun hp_218 => ?_)
  · have h := it_f hp_218 h
    exact oj_X12_complete_193 hd R_207 l_178 f0 l_179 f1 l_180 f3 l_181 f5 l_182 f7 l_176 fs0 (fun b => hQ (Ext.tr E_212 b)) h
  · have h := it_n hp_218 h
    refine go_aload_n (n := 0) (by decide +kernel) l_178 f0 ?_
    obtain ⟨x_552, m_553, hc_551, h⟩ := bd_s h
    refine go_callV (x := 393) (mi := 219) (n := 0) (ci := 13) (as := []) (rest := []) (by decide +kernel) (by decide +kernel) rfl rfl (q_sum8 _ (Nat.le_of_ble_eq_true rfl)) R_207 f0 (fx_k (c := 13) R_207 (by decide +kernel)) (om_X12_nextCommand (Nat.le_trans (by decide) hd) R_207 f0 hc_551) (fun _ S_556 q_559 => ?_) (fun _ _ qq => kr_x qq)
    refine kr_z (by decide) q_559 fun v_554 f_555 R_557 E_558 => ?_
    have E_562 := Ext.tr E_212 E_558
    refine go_aload_n (n := 0) (by decide +kernel) l_178 f0 ?_
    obtain ⟨x_566, e_567, h⟩ := lx_s h
    refine go_getf (x := 384) (ci := 13) (kf := 124) (fin := 0) (t := 0) (by decide +kernel) (by decide +kernel) (by decide +kernel) R_557 f0 (fx_k (c := 13) R_557 (by decide +kernel)) fun v_563 f_564 => ?_
    have f_565 := q_is_eq f_564 e_567
    refine go_icmp (c := .ge) (o := 11) (t := 193) (P := ¬ (x_552 < x_566)) (by decide +kernel) (by decide +kernel) f_555 f_565 (Int.not_lt.symm) (fun hp_568 => ?_) (fun hp_568 => ?_)
    · have h := it_f hp_568 h
      exact oj_X12_complete_193 hd R_557 l_178 f0 l_179 f1 l_180 f3 l_181 f5 l_182 f7 l_176 fs0 (fun b => hQ (Ext.tr E_562 b)) h
    · have h := it_n hp_568 h
      refine go_aload_n (n := 0) (by decide +kernel) l_178 f0 ?_
      refine go_aload_n (n := 0) (by decide +kernel) l_178 f0 ?_
      obtain ⟨x_570, m_571, hc_569, h⟩ := bd_s h
      refine go_callV (x := 393) (mi := 219) (n := 0) (ci := 13) (as := []) (rest := [v0]) (by decide +kernel) (by decide +kernel) rfl rfl (q_sum8 _ (Nat.le_of_ble_eq_true rfl)) R_557 f0 (fx_k (c := 13) R_557 (by decide +kernel)) (om_X12_nextCommand (Nat.le_trans (by decide) hd) R_557 f0 hc_569) (fun _ S_574 q_577 => ?_) (fun _ _ qq => kr_x qq)
      refine kr_z (by decide) q_577 fun v_572 f_573 R_575 E_576 => ?_
      have E_580 := Ext.tr E_562 E_576
      obtain ⟨x_582, m_583, hc_581, h⟩ := bd_s h
      refine go_callV (x := 400) (mi := 218) (n := 1) (ci := 13) (as := [v_572]) (rest := []) (by decide +kernel) (by decide +kernel) rfl rfl (q_sum8 _ (Nat.le_of_ble_eq_true rfl)) R_575 f0 (fx_k (c := 13) R_575 (by decide +kernel)) (om_X12_differs (Nat.le_trans (by decide) hd) R_575 f0 f_573 hc_581) (fun _ S_586 q_589 => ?_) (fun _ _ qq => kr_x qq)
      refine kr_v q_589 fun R_587 E_588 => ?_
      have E_592 := Ext.tr E_580 E_588
      exact oj_X12_complete_193 hd R_587 l_178 f0 l_179 f1 l_180 f3 l_181 f5 l_182 f7 l_176 fs0 (fun b => hQ (Ext.tr E_592 b)) h
noncomputable def fj_X12_complete_121 (y1 y3 y5 y6 s0 : Int) (m : MM) : Option (Int × MM) := if y6 = 0 then
gd (0 ≤ y3 ∧ y3 < 30) <| lx (m 91 y3) fun x_173 =>
fj_X12_complete_144 y1 y3 y5 s0 x_173 m
else
gd (0 ≤ y5 ∧ y5 < 90) <| lx (m 127 y5) fun x_600 =>
fj_X12_complete_144 y1 y3 y5 s0 x_600 m
set_option maxHeartbeats 4000000 in
theorem oj_X12_complete_121 {xs : List Int32} {d : Nat} {S : QS} {L : QL} {Q : QO → QS → Prop} {m : MM} {y1 y3 y5 y6 s0 : Int} {v0 : Value} {v1 : Value} {v3 : Value} {v5 : Value} {v6 : Value} {w0 : Value}  {rz : Int} {rm : MM}
  (hd : 14 ≤ d) (R : Rp S m) (l0 : q_lo L 0 = some v0) (f0 : q_is 2 v0 68) (l1 : q_lo L 1 = some v1) (f1 : q_is 0 v1 y1) (l3 : q_lo L 3 = some v3) (f3 : q_is 0 v3 y3) (l5 : q_lo L 5 = some v5) (f5 : q_is 0 v5 y5) (l6 : q_lo L 6 = some v6) (f6 : q_is 0 v6 y6) (fs0 : q_is 0 w0 s0)
  (hQ : Ext m rm → ∀ o S1, Rp S1 rm → q_out 0 o rz → Q o S1)
  (h : fj_X12_complete_121 y1 y3 y5 y6 s0 m = some (rz, rm)) : Go xs d qM_X12_complete 121 L [w0] S Q := by
  unfold fj_X12_complete_121 at h
  refine go_istore (n := 7) (by decide +kernel) (by decide +kernel) fs0 fun L_157 l_158 kp_159 => ?_
  have l_160 := kp_159 0 _ l0 (by decide) (Or.inl (by decide))
  have l_161 := kp_159 1 _ l1 (by decide) (Or.inl (by decide))
  have l_162 := kp_159 3 _ l3 (by decide) (Or.inl (by decide))
  have l_163 := kp_159 5 _ l5 (by decide) (Or.inl (by decide))
  have l_164 := kp_159 6 _ l6 (by decide) (Or.inr (q_is_cat f6 (Or.inl rfl)))
  refine go_iload (n := 6) (by decide +kernel) l_164 f6 ?_
  refine go_if (c := .eq) (o := 13) (t := 138) (P := y6 = 0) (by decide +kernel) (by decide +kernel) f6 (Iff.rfl) (fun hp_165 => ?_) (fun hp_165 => ?_)
  · have h := it_t hp_165 h
    refine go_aload_n (n := 0) (by decide +kernel) l_160 f0 ?_
    refine go_getf (x := 76) (ci := 13) (kf := 24) (fin := 1) (t := 2) (by decide +kernel) (by decide +kernel) (by decide +kernel) R f0 (fx_k (c := 13) R (by decide +kernel)) fun v_166 f_167 => ?_
    have f_168 := q_is_eq (b := 91) f_167 (fx_v R (by decide +kernel)).symm
    refine go_iload_n (n := 3) (by decide +kernel) l_162 f3 ?_
    obtain ⟨g_171, h⟩ := gd_s h
    obtain ⟨x_173, e_174, h⟩ := lx_s h
    refine go_iald (kd := 100) (by decide +kernel) rfl R f_168 f3 (fx_k (c := 100) R (by decide +kernel)) (fx_x (a := 91) (ln := 30) R (by decide +kernel) g_171) fun v_169 f_170 => ?_
    have f_172 := q_is_eq f_170 e_174
    exact oj_X12_complete_144 hd R l_160 f0 l_161 f1 l_162 f3 l_163 f5 l_158 fs0 f_172 hQ h
  · have h := it_f hp_165 h
    refine go_aload_n (n := 0) (by decide +kernel) l_160 f0 ?_
    refine go_getf (x := 195) (ci := 13) (kf := 67) (fin := 1) (t := 2) (by decide +kernel) (by decide +kernel) (by decide +kernel) R f0 (fx_k (c := 13) R (by decide +kernel)) fun v_593 f_594 => ?_
    have f_595 := q_is_eq (b := 127) f_594 (fx_v R (by decide +kernel)).symm
    refine go_iload (n := 5) (by decide +kernel) l_163 f5 ?_
    obtain ⟨g_598, h⟩ := gd_s h
    obtain ⟨x_600, e_601, h⟩ := lx_s h
    refine go_iald (kd := 100) (by decide +kernel) rfl R f_595 f5 (fx_k (c := 100) R (by decide +kernel)) (fx_x (a := 127) (ln := 90) R (by decide +kernel) g_598) fun v_596 f_597 => ?_
    have f_599 := q_is_eq f_597 e_601
    refine go_goto (o := 9) (t := 144) (by decide +kernel) (by decide +kernel) ?_
    exact oj_X12_complete_144 hd R l_160 f0 l_161 f1 l_162 f3 l_163 f5 l_158 fs0 f_599 hQ h
noncomputable def fj_X12_complete_98 (y1 y3 y5 y6 s0 s1 s2 : Int) (m : MM) : Option (Int × MM) := gd (0 ≤ s2 ∧ s2 < 3) <| up m 122 s2 (w32 (s1 + s0)) fun m_140 =>
if y6 = 0 then
gd (0 ≤ y3 ∧ y3 < 30) <| lx (m_140 86 y3) fun x_155 =>
fj_X12_complete_121 y1 y3 y5 y6 x_155 m_140
else
gd (0 ≤ y5 ∧ y5 < 90) <| lx (m_140 126 y5) fun x_609 =>
fj_X12_complete_121 y1 y3 y5 y6 x_609 m_140
set_option maxHeartbeats 4000000 in
theorem oj_X12_complete_98 {xs : List Int32} {d : Nat} {S : QS} {L : QL} {Q : QO → QS → Prop} {m : MM} {y1 y3 y5 y6 s0 s1 s2 : Int} {v0 : Value} {v1 : Value} {v3 : Value} {v5 : Value} {v6 : Value} {w0 : Value} {w1 : Value} {w2 : Value} {w3 : Value}  {rz : Int} {rm : MM}
  (hd : 14 ≤ d) (R : Rp S m) (l0 : q_lo L 0 = some v0) (f0 : q_is 2 v0 68) (l1 : q_lo L 1 = some v1) (f1 : q_is 0 v1 y1) (l3 : q_lo L 3 = some v3) (f3 : q_is 0 v3 y3) (l5 : q_lo L 5 = some v5) (f5 : q_is 0 v5 y5) (l6 : q_lo L 6 = some v6) (f6 : q_is 0 v6 y6) (fs0 : q_is 0 w0 s0) (fs1 : q_is 0 w1 s1) (fs2 : q_is 0 w2 s2) (fs3 : q_is 2 w3 122)
  (hQ : Ext m rm → ∀ o S1, Rp S1 rm → q_out 0 o rz → Q o S1)
  (h : fj_X12_complete_98 y1 y3 y5 y6 s0 s1 s2 m = some (rz, rm)) : Go xs d qM_X12_complete 98 L [w0, w1, w2, w3] S Q := by
  unfold fj_X12_complete_98 at h
  refine go_iadd (by decide +kernel) fs1 fs0 fun v_137 f_138 => ?_
  obtain ⟨g_139, h⟩ := gd_s h
  obtain ⟨m_140, e_141, h⟩ := up_s h
  refine go_iast (kd := 100) (by decide +kernel) rfl R fs3 fs2 f_138 (fx_k (c := 100) R (by decide +kernel)) (fx_x (a := 122) (ln := 3) R (by decide +kernel) g_139) e_141 (fx_a R.2 (fx_k (c := 100) R (by decide +kernel)) (And.left (fx_x (a := 122) (ln := 3) R (by decide +kernel) g_139)) (by decide +kernel)) fun S_142 R_143 E_144 => ?_
  have E_146 := E_144
  refine go_iload (n := 6) (by decide +kernel) l6 f6 ?_
  refine go_if (c := .eq) (o := 13) (t := 115) (P := y6 = 0) (by decide +kernel) (by decide +kernel) f6 (Iff.rfl) (fun hp_147 => ?_) (fun hp_147 => ?_)
  · have h := it_t hp_147 h
    refine go_aload_n (n := 0) (by decide +kernel) l0 f0 ?_
    refine go_getf (x := 61) (ci := 13) (kf := 19) (fin := 1) (t := 2) (by decide +kernel) (by decide +kernel) (by decide +kernel) R_143 f0 (fx_k (c := 13) R_143 (by decide +kernel)) fun v_148 f_149 => ?_
    have f_150 := q_is_eq (b := 86) f_149 (fx_v R_143 (by decide +kernel)).symm
    refine go_iload_n (n := 3) (by decide +kernel) l3 f3 ?_
    obtain ⟨g_153, h⟩ := gd_s h
    obtain ⟨x_155, e_156, h⟩ := lx_s h
    refine go_iald (kd := 100) (by decide +kernel) rfl R_143 f_150 f3 (fx_k (c := 100) R_143 (by decide +kernel)) (fx_x (a := 86) (ln := 30) R_143 (by decide +kernel) g_153) fun v_151 f_152 => ?_
    have f_154 := q_is_eq f_152 e_156
    exact oj_X12_complete_121 hd R_143 l0 f0 l1 f1 l3 f3 l5 f5 l6 f6 f_154 (fun b => hQ (Ext.tr E_146 b)) h
  · have h := it_f hp_147 h
    refine go_aload_n (n := 0) (by decide +kernel) l0 f0 ?_
    refine go_getf (x := 192) (ci := 13) (kf := 66) (fin := 1) (t := 2) (by decide +kernel) (by decide +kernel) (by decide +kernel) R_143 f0 (fx_k (c := 13) R_143 (by decide +kernel)) fun v_602 f_603 => ?_
    have f_604 := q_is_eq (b := 126) f_603 (fx_v R_143 (by decide +kernel)).symm
    refine go_iload (n := 5) (by decide +kernel) l5 f5 ?_
    obtain ⟨g_607, h⟩ := gd_s h
    obtain ⟨x_609, e_610, h⟩ := lx_s h
    refine go_iald (kd := 100) (by decide +kernel) rfl R_143 f_604 f5 (fx_k (c := 100) R_143 (by decide +kernel)) (fx_x (a := 126) (ln := 90) R_143 (by decide +kernel) g_607) fun v_605 f_606 => ?_
    have f_608 := q_is_eq f_606 e_610
    refine go_goto (o := 9) (t := 121) (by decide +kernel) (by decide +kernel) ?_
    exact oj_X12_complete_121 hd R_143 l0 f0 l1 f1 l3 f3 l5 f5 l6 f6 f_608 (fun b => hQ (Ext.tr E_146 b)) h
noncomputable def fj_X12_complete_20 (y1 s0 : Int) (m : MM) : Option (Int × MM) := bd (fm_X12_fails s0 m) fun x_25 m_26 =>
if x_25 = 0 then
bp (fm_X12_isStale y1 m_26) fun x_38 =>
gd (0 ≤ y1 ∧ y1 < 4096) <| up m_26 119 y1 1 fun m_57 =>
if x_38 = 0 then
lx (m_57 113 y1) fun x_71 =>
lx (m_57 112 y1) fun x_84 =>
lx (w32 ((w32 (30 * x_84)) + x_71)) fun x_98 =>
bp (fm_X12_hasState x_84 x_71 m_57) fun x_109 =>
gd (0 ≤ x_84 ∧ x_84 < 3) <| lx (m_57 122 x_84) fun x_132 =>
if x_109 = 0 then
fj_X12_complete_98 y1 x_71 x_98 x_109 1 x_132 x_84 m_57
else
fj_X12_complete_98 y1 x_71 x_98 x_109 0 x_132 x_84 m_57
else
some ((-1), m_57)
else
some (0, m_26)
set_option maxHeartbeats 4000000 in
theorem oj_X12_complete_20 {xs : List Int32} {d : Nat} {S : QS} {L : QL} {Q : QO → QS → Prop} {m : MM} {y1 s0 : Int} {v0 : Value} {v1 : Value} {w0 : Value} {w1 : Value}  {rz : Int} {rm : MM}
  (hd : 14 ≤ d) (R : Rp S m) (l0 : q_lo L 0 = some v0) (f0 : q_is 2 v0 68) (l1 : q_lo L 1 = some v1) (f1 : q_is 0 v1 y1) (fs0 : q_is 0 w0 s0) (fs1 : q_is 2 w1 68)
  (hQ : Ext m rm → ∀ o S1, Rp S1 rm → q_out 0 o rz → Q o S1)
  (h : fj_X12_complete_20 y1 s0 m = some (rz, rm)) : Go xs d qM_X12_complete 20 L [w0, w1] S Q := by
  unfold fj_X12_complete_20 at h
  obtain ⟨x_25, m_26, hc_24, h⟩ := bd_s h
  refine go_callV (x := 324) (mi := 186) (n := 1) (ci := 13) (as := [w0]) (rest := []) (by decide +kernel) (by decide +kernel) rfl rfl (q_sum8 _ (Nat.le_of_ble_eq_true rfl)) R fs1 (fx_k (c := 13) R (by decide +kernel)) (om_X12_fails (Nat.le_trans (by decide) hd) R fs1 fs0 hc_24) (fun _ S_29 q_32 => ?_) (fun _ _ qq => kr_x qq)
  refine kr_z (by decide) q_32 fun v_27 f_28 R_30 E_31 => ?_
  have E_35 := E_31
  refine go_if (c := .eq) (o := 5) (t := 28) (P := x_25 = 0) (by decide +kernel) (by decide +kernel) f_28 (Iff.rfl) (fun hp_36 => ?_) (fun hp_36 => ?_)
  · have h := it_t hp_36 h
    refine go_aload_n (n := 0) (by decide +kernel) l0 f0 ?_
    refine go_iload_n (n := 1) (by decide +kernel) l1 f1 ?_
    obtain ⟨x_38, hc_37, h⟩ := bp_s h
    refine go_callV (x := 614) (mi := 277) (n := 1) (ci := 13) (as := [v1]) (rest := []) (by decide +kernel) (by decide +kernel) rfl rfl (q_sum8 _ (Nat.le_of_ble_eq_true rfl)) R_30 f0 (fx_k (c := 13) R_30 (by decide +kernel)) (om_X12_isStale (Nat.le_trans (by decide) hd) R_30 f0 f1 hc_37) (fun _ S_42 q_45 => ?_) (fun _ _ qq => kr_x qq)
    refine kr_z (by decide) q_45 fun v_40 f_41 R_43 E_44 => ?_
    refine go_istore_n (n := 2) (by decide +kernel) (by decide +kernel) f_41 fun L_46 l_47 kp_48 => ?_
    have l_49 := kp_48 0 _ l0 (by decide) (Or.inl (by decide))
    have l_50 := kp_48 1 _ l1 (by decide) (Or.inr (q_is_cat f1 (Or.inl rfl)))
    refine go_aload_n (n := 0) (by decide +kernel) l_49 f0 ?_
    refine go_getf (x := 170) (ci := 13) (kf := 59) (fin := 1) (t := 2) (by decide +kernel) (by decide +kernel) (by decide +kernel) R_43 f0 (fx_k (c := 13) R_43 (by decide +kernel)) fun v_51 f_52 => ?_
    have f_53 := q_is_eq (b := 119) f_52 (fx_v R_43 (by decide +kernel)).symm
    refine go_iload_n (n := 1) (by decide +kernel) l_50 f1 ?_
    refine go_iconst (n := 1) (z := 1) (by decide +kernel) (by decide) fun v_54 f_55 => ?_
    obtain ⟨g_56, h⟩ := gd_s h
    obtain ⟨m_57, e_58, h⟩ := up_s h
    refine go_bast (kd := 102) (by decide +kernel) rfl R_43 f_53 f1 f_55 (by decide) (fx_k (c := 102) R_43 (by decide +kernel)) (fx_x (a := 119) (ln := 4096) R_43 (by decide +kernel) g_56) e_58 (fx_a R_43.2 (fx_k (c := 102) R_43 (by decide +kernel)) (And.left (fx_x (a := 119) (ln := 4096) R_43 (by decide +kernel) g_56)) (by decide +kernel)) fun S_59 R_60 E_61 => ?_
    have E_63 := Ext.tr E_35 E_61
    refine go_iload_n (n := 2) (by decide +kernel) l_47 f_41 ?_
    refine go_if (c := .eq) (o := 5) (t := 47) (P := x_38 = 0) (by decide +kernel) (by decide +kernel) f_41 (Iff.rfl) (fun hp_64 => ?_) (fun hp_64 => ?_)
    · have h := it_t hp_64 h
      refine go_aload_n (n := 0) (by decide +kernel) l_49 f0 ?_
      refine go_getf (x := 152) (ci := 13) (kf := 53) (fin := 1) (t := 2) (by decide +kernel) (by decide +kernel) (by decide +kernel) R_60 f0 (fx_k (c := 13) R_60 (by decide +kernel)) fun v_65 f_66 => ?_
      have f_67 := q_is_eq (b := 113) f_66 (fx_v R_60 (by decide +kernel)).symm
      refine go_iload_n (n := 1) (by decide +kernel) l_50 f1 ?_
      obtain ⟨x_71, e_72, h⟩ := lx_s h
      refine go_iald (kd := 100) (by decide +kernel) rfl R_60 f_67 f1 (fx_k (c := 100) R_60 (by decide +kernel)) (fx_x (a := 113) (ln := 4096) R_60 (by decide +kernel) g_56) fun v_68 f_69 => ?_
      have f_70 := q_is_eq f_69 e_72
      refine go_istore_n (n := 3) (by decide +kernel) (by decide +kernel) f_70 fun L_73 l_74 kp_75 => ?_
      have l_76 := kp_75 0 _ l_49 (by decide) (Or.inl (by decide))
      have l_77 := kp_75 1 _ l_50 (by decide) (Or.inl (by decide))
      refine go_aload_n (n := 0) (by decide +kernel) l_76 f0 ?_
      refine go_getf (x := 149) (ci := 13) (kf := 52) (fin := 1) (t := 2) (by decide +kernel) (by decide +kernel) (by decide +kernel) R_60 f0 (fx_k (c := 13) R_60 (by decide +kernel)) fun v_78 f_79 => ?_
      have f_80 := q_is_eq (b := 112) f_79 (fx_v R_60 (by decide +kernel)).symm
      refine go_iload_n (n := 1) (by decide +kernel) l_77 f1 ?_
      obtain ⟨x_84, e_85, h⟩ := lx_s h
      refine go_iald (kd := 100) (by decide +kernel) rfl R_60 f_80 f1 (fx_k (c := 100) R_60 (by decide +kernel)) (fx_x (a := 112) (ln := 4096) R_60 (by decide +kernel) g_56) fun v_81 f_82 => ?_
      have f_83 := q_is_eq f_82 e_85
      refine go_istore (n := 4) (by decide +kernel) (by decide +kernel) f_83 fun L_86 l_87 kp_88 => ?_
      have l_89 := kp_88 0 _ l_76 (by decide) (Or.inl (by decide))
      have l_90 := kp_88 1 _ l_77 (by decide) (Or.inl (by decide))
      have l_91 := kp_88 3 _ l_74 (by decide) (Or.inr (q_is_cat f_70 (Or.inl rfl)))
      refine go_bipush (n := 30) (z := 30) (by decide +kernel) (by decide) fun v_92 f_93 => ?_
      refine go_iload (n := 4) (by decide +kernel) l_87 f_83 ?_
      refine go_imul (by decide +kernel) f_93 f_83 fun v_94 f_95 => ?_
      refine go_iload_n (n := 3) (by decide +kernel) l_91 f_70 ?_
      refine go_iadd (by decide +kernel) f_95 f_70 fun v_96 f_97 => ?_
      obtain ⟨x_98, e_99, h⟩ := lx_s h
      have f_100 := q_is_eq f_97 e_99
      refine go_istore (n := 5) (by decide +kernel) (by decide +kernel) f_100 fun L_101 l_102 kp_103 => ?_
      have l_104 := kp_103 0 _ l_89 (by decide) (Or.inl (by decide))
      have l_105 := kp_103 1 _ l_90 (by decide) (Or.inl (by decide))
      have l_106 := kp_103 3 _ l_91 (by decide) (Or.inl (by decide))
      have l_107 := kp_103 4 _ l_87 (by decide) (Or.inr (q_is_cat f_83 (Or.inl rfl)))
      refine go_aload_n (n := 0) (by decide +kernel) l_104 f0 ?_
      refine go_iload (n := 4) (by decide +kernel) l_107 f_83 ?_
      refine go_iload_n (n := 3) (by decide +kernel) l_106 f_70 ?_
      obtain ⟨x_109, hc_108, h⟩ := bp_s h
      refine go_callV (x := 617) (mi := 278) (n := 2) (ci := 13) (as := [v_81, v_68]) (rest := []) (by decide +kernel) (by decide +kernel) rfl rfl (q_sum8 _ (Nat.le_of_ble_eq_true rfl)) R_60 f0 (fx_k (c := 13) R_60 (by decide +kernel)) (om_X12_hasState (Nat.le_trans (by decide) hd) R_60 f0 f_83 f_70 hc_108) (fun _ S_113 q_116 => ?_) (fun _ _ qq => kr_x qq)
      refine kr_z (by decide) q_116 fun v_111 f_112 R_114 E_115 => ?_
      refine go_istore (n := 6) (by decide +kernel) (by decide +kernel) f_112 fun L_117 l_118 kp_119 => ?_
      have l_120 := kp_119 0 _ l_104 (by decide) (Or.inl (by decide))
      have l_121 := kp_119 1 _ l_105 (by decide) (Or.inl (by decide))
      have l_122 := kp_119 3 _ l_106 (by decide) (Or.inl (by decide))
      have l_123 := kp_119 4 _ l_107 (by decide) (Or.inl (by decide))
      have l_124 := kp_119 5 _ l_102 (by decide) (Or.inr (q_is_cat f_100 (Or.inl rfl)))
      refine go_aload_n (n := 0) (by decide +kernel) l_120 f0 ?_
      refine go_getf (x := 180) (ci := 13) (kf := 62) (fin := 1) (t := 2) (by decide +kernel) (by decide +kernel) (by decide +kernel) R_114 f0 (fx_k (c := 13) R_114 (by decide +kernel)) fun v_125 f_126 => ?_
      have f_127 := q_is_eq (b := 122) f_126 (fx_v R_114 (by decide +kernel)).symm
      refine go_iload (n := 4) (by decide +kernel) l_123 f_83 ?_
      refine go_dup2 (by decide +kernel) f_83 (Or.inl rfl) f_127 (Or.inr rfl) ?_
      obtain ⟨g_130, h⟩ := gd_s h
      obtain ⟨x_132, e_133, h⟩ := lx_s h
      refine go_iald (kd := 100) (by decide +kernel) rfl R_114 f_127 f_83 (fx_k (c := 100) R_114 (by decide +kernel)) (fx_x (a := 122) (ln := 3) R_114 (by decide +kernel) g_130) fun v_128 f_129 => ?_
      have f_131 := q_is_eq f_129 e_133
      refine go_iload (n := 6) (by decide +kernel) l_118 f_112 ?_
      refine go_if (c := .eq) (o := 7) (t := 97) (P := x_109 = 0) (by decide +kernel) (by decide +kernel) f_112 (Iff.rfl) (fun hp_134 => ?_) (fun hp_134 => ?_)
      · have h := it_t hp_134 h
        refine go_iconst (n := 1) (z := 1) (by decide +kernel) (by decide) fun v_135 f_136 => ?_
        exact oj_X12_complete_98 hd R_114 l_120 f0 l_121 f1 l_122 f_70 l_124 f_100 l_118 f_112 f_136 f_131 f_83 f_127 (fun b => hQ (Ext.tr E_63 b)) h
      · have h := it_f hp_134 h
        refine go_iconst (n := 0) (z := 0) (by decide +kernel) (by decide) fun v_611 f_612 => ?_
        refine go_goto (o := 4) (t := 98) (by decide +kernel) (by decide +kernel) ?_
        exact oj_X12_complete_98 hd R_114 l_120 f0 l_121 f1 l_122 f_70 l_124 f_100 l_118 f_112 f_612 f_131 f_83 f_127 (fun b => hQ (Ext.tr E_63 b)) h
    · have h := it_f hp_64 h
      refine go_iconst (n := (-1)) (z := (-1)) (by decide +kernel) (by decide) fun v_613 f_614 => ?_
      cases h
      exact go_iret (by decide +kernel) rfl (Or.inl rfl) f_614 (hQ E_63 _ _ R_60 (q_out_v (by decide) f_614))
  · have h := it_f hp_36 h
    refine go_iconst (n := 0) (z := 0) (by decide +kernel) (by decide) fun v_615 f_616 => ?_
    cases h
    exact go_iret (by decide +kernel) rfl (Or.inl rfl) f_616 (hQ E_35 _ _ R_30 (q_out_v (by decide) f_616))
noncomputable def fm_X12_complete (p1 : Int) (m0 : MM) : Option (Int × MM) := lx (m0 68 51) fun x_6 =>
bp (fm_X12_isIn p1 0 (w32 (x_6 - 1)) m0) fun x_13 =>
if x_13 = 0 then
fj_X12_complete_20 p1 1 m0
else
fj_X12_complete_20 p1 0 m0
set_option maxHeartbeats 4000000 in
theorem om_X12_complete {xs : List Int32} {d : Nat} {S : QS} {m0 : MM} {p1 : Int} {v0 : Value} {v1 : Value} {rz : Int} {rm : MM}
  (hd : 15 ≤ d) (R : Rp S m0) (f0 : q_is 2 v0 68) (f1 : q_is 0 v1 p1)
  (h : fm_X12_complete p1 m0 = some (rz, rm)) : Mt xs d 279 [v0, v1] S (Cr 0 m0 rm rz) := by
  obtain ⟨d, rfl⟩ : ∃ e, d = e + 1 := ⟨d - 1, by omega⟩
  have hd : 14 ≤ d := Nat.le_of_succ_le_succ hd
  refine Mt.of (M := qM_X12_complete) rfl (by rw [sl_1 (q_is_cat f0 (Or.inr rfl)), sl_1 (q_is_cat f1 (Or.inl rfl)), sl_0]; decide) ?_
  rw [la_1 (q_is_cat f0 (Or.inr rfl)), la_1 (q_is_cat f1 (Or.inl rfl)), la_0]
  obtain ⟨L, hL⟩ : ∃ L : QL, L = [(0, v0), (0 + 1, v1)] := ⟨_, rfl⟩
  rw [← hL]
  have l0 : q_lo L 0 = some v0 := by rw [hL]; rfl
  have l1 : q_lo L 1 = some v1 := by rw [hL]; rfl
  have hQ : Ext m0 rm → ∀ o S1, Rp S1 rm → q_out 0 o rz → (Cr 0 m0 rm rz) o S1 := fun a o S1 b e => ⟨b, a, e⟩
  unfold fm_X12_complete at h
  refine go_aload_n (n := 0) (by decide +kernel) l0 f0 ?_
  refine go_iload_n (n := 1) (by decide +kernel) l1 f1 ?_
  refine go_iconst (n := 0) (z := 0) (by decide +kernel) (by decide) fun v_1 f_2 => ?_
  refine go_aload_n (n := 0) (by decide +kernel) l0 f0 ?_
  obtain ⟨x_6, e_7, h⟩ := lx_s h
  refine go_getf (x := 599) (ci := 13) (kf := 51) (fin := 0) (t := 0) (by decide +kernel) (by decide +kernel) (by decide +kernel) R f0 (fx_k (c := 13) R (by decide +kernel)) fun v_3 f_4 => ?_
  have f_5 := q_is_eq f_4 e_7
  refine go_iconst (n := 1) (z := 1) (by decide +kernel) (by decide) fun v_8 f_9 => ?_
  refine go_isub (by decide +kernel) f_5 f_9 fun v_10 f_11 => ?_
  obtain ⟨x_13, hc_12, h⟩ := bp_s h
  refine go_callS (x := 306) (mi := 188) (n := 3) (b := 0) (as := [v1, v_1, v_10]) (rest := [v0]) (by decide +kernel) (by decide +kernel) rfl rfl (q_sum8 _ (Nat.le_of_ble_eq_true rfl)) (om_X12_isIn (Nat.le_trans (by decide) hd) R f1 f_2 f_11 hc_12) (fun _ S_17 q_20 => ?_) (fun _ _ qq => kr_x qq)
  refine kr_z (by decide) q_20 fun v_15 f_16 R_18 E_19 => ?_
  refine go_if (c := .eq) (o := 7) (t := 19) (P := x_13 = 0) (by decide +kernel) (by decide +kernel) f_16 (Iff.rfl) (fun hp_21 => ?_) (fun hp_21 => ?_)
  · have h := it_t hp_21 h
    refine go_iconst (n := 1) (z := 1) (by decide +kernel) (by decide) fun v_22 f_23 => ?_
    exact oj_X12_complete_20 hd R_18 l0 f0 l1 f1 f_23 f0 hQ h
  · have h := it_f hp_21 h
    refine go_iconst (n := 0) (z := 0) (by decide +kernel) (by decide) fun v_617 f_618 => ?_
    refine go_goto (o := 4) (t := 20) (by decide +kernel) (by decide +kernel) ?_
    exact oj_X12_complete_20 hd R_18 l0 f0 l1 f1 f_618 f0 hQ h
noncomputable def fj_X12_die_70 (c : Int → Int → MM → Option (Int × MM)) (k103 : Int → MM → Option (Int × MM)) (y1 y3 y4 s0 s1 : Int) (m : MM) : Option (Int × MM) := lx (w32 (s1 + s0)) fun x_71 =>
gd (0 ≤ y3 ∧ y3 < 4096) <| lx (m 119 y3) fun x_91 =>
if x_91 = 0 then
if y4 = 0 then
up m 119 y3 0 fun m_117 =>
lx (w32 (y3 + 1)) fun x_129 =>
c x_71 x_129 m_117
else
up m 119 y3 1 fun m_137 =>
lx (w32 (y3 + 1)) fun x_149 =>
c x_71 x_149 m_137
else
up m 119 y3 1 fun m_96 =>
lx (w32 (y3 + 1)) fun x_108 =>
c x_71 x_108 m_96
set_option maxHeartbeats 4000000 in
theorem oj_X12_die_70 {xs : List Int32} {d : Nat} {S : QS} {L : QL} {Q : QO → QS → Prop} {m : MM} {y1 y3 y4 s0 s1 : Int} {v0 : Value} {v1 : Value} {v3 : Value} {v4 : Value} {w0 : Value} {w1 : Value}  {rz : Int} {rm : MM} {c : Int → Int → MM → Option (Int × MM)} {k103 : Int → MM → Option (Int × MM)} 
  (hd : 2 ≤ d) (R : Rp S m) (l0 : q_lo L 0 = some v0) (f0 : q_is 2 v0 68) (l1 : q_lo L 1 = some v1) (f1 : q_is 0 v1 y1) (l3 : q_lo L 3 = some v3) (f3 : q_is 0 v3 y3) (l4 : q_lo L 4 = some v4) (f4 : q_is 0 v4 y4) (fs0 : q_is 0 w0 s0) (fs1 : q_is 0 w1 s1)
  (hc : ∀ mq : MM, Ext m mq → ∀ {z2 : Int} {z3 : Int} {Sq : QS} {Lq : QL} {u0 : Value} {u1 : Value} {u2 : Value} {u3 : Value}, c z2 z3 mq = some (rz, rm) → Rp Sq mq → q_lo Lq 0 = some u0 → q_is 2 u0 68 → q_lo Lq 1 = some u1 → q_is 0 u1 y1 → q_lo Lq 2 = some u2 → q_is 0 u2 z2 → q_lo Lq 3 = some u3 → q_is 0 u3 z3 → Go xs d qM_X12_die 25 Lq [] Sq Q)
  (hk103 : ∀ mq : MM, Ext m mq → ∀ {z2 : Int} {Sq : QS} {Lq : QL} {u0 : Value} {u1 : Value} {u2 : Value}, k103 z2 mq = some (rz, rm) → Rp Sq mq → q_lo Lq 0 = some u0 → q_is 2 u0 68 → q_lo Lq 1 = some u1 → q_is 0 u1 y1 → q_lo Lq 2 = some u2 → q_is 0 u2 z2 → Go xs d qM_X12_die 103 Lq [] Sq Q)
  (hQ : Ext m rm → ∀ o S1, Rp S1 rm → q_out 0 o rz → Q o S1)
  (h : fj_X12_die_70 c k103 y1 y3 y4 s0 s1 m = some (rz, rm)) : Go xs d qM_X12_die 70 L [w0, w1] S Q := by
  unfold fj_X12_die_70 at h
  refine go_iadd (by decide +kernel) fs1 fs0 fun v_69 f_70 => ?_
  obtain ⟨x_71, e_72, h⟩ := lx_s h
  have f_73 := q_is_eq f_70 e_72
  refine go_istore_n (n := 2) (by decide +kernel) (by decide +kernel) f_73 fun L_74 l_75 kp_76 => ?_
  have l_77 := kp_76 0 _ l0 (by decide) (Or.inl (by decide))
  have l_78 := kp_76 1 _ l1 (by decide) (Or.inr (q_is_cat f1 (Or.inl rfl)))
  have l_79 := kp_76 3 _ l3 (by decide) (Or.inl (by decide))
  have l_80 := kp_76 4 _ l4 (by decide) (Or.inl (by decide))
  refine go_aload_n (n := 0) (by decide +kernel) l_77 f0 ?_
  refine go_getf (x := 170) (ci := 13) (kf := 59) (fin := 1) (t := 2) (by decide +kernel) (by decide +kernel) (by decide +kernel) R f0 (fx_k (c := 13) R (by decide +kernel)) fun v_81 f_82 => ?_
  have f_83 := q_is_eq (b := 119) f_82 (fx_v R (by decide +kernel)).symm
  refine go_iload_n (n := 3) (by decide +kernel) l_79 f3 ?_
  refine go_aload_n (n := 0) (by decide +kernel) l_77 f0 ?_
  refine go_getf (x := 170) (ci := 13) (kf := 59) (fin := 1) (t := 2) (by decide +kernel) (by decide +kernel) (by decide +kernel) R f0 (fx_k (c := 13) R (by decide +kernel)) fun v_84 f_85 => ?_
  have f_86 := q_is_eq (b := 119) f_85 (fx_v R (by decide +kernel)).symm
  refine go_iload_n (n := 3) (by decide +kernel) l_79 f3 ?_
  obtain ⟨g_89, h⟩ := gd_s h
  obtain ⟨x_91, e_92, h⟩ := lx_s h
  refine go_bald (kd := 102) (by decide +kernel) rfl R f_86 f3 (fx_k (c := 102) R (by decide +kernel)) (fx_x (a := 119) (ln := 4096) R (by decide +kernel) g_89) fun v_87 f_88 => ?_
  have f_90 := q_is_eq f_88 e_92
  refine go_if (c := .ne) (o := 8) (t := 91) (P := ¬ (x_91 = 0)) (by decide +kernel) (by decide +kernel) f_90 (Iff.rfl) (fun hp_93 => ?_) (fun hp_93 => ?_)
  · have h := it_f hp_93 h
    refine go_iconst (n := 1) (z := 1) (by decide +kernel) (by decide) fun v_94 f_95 => ?_
    refine go_goto (o := 4) (t := 96) (by decide +kernel) (by decide +kernel) ?_
    obtain ⟨m_96, e_97, h⟩ := up_s h
    refine go_bast (kd := 102) (by decide +kernel) rfl R f_83 f3 f_95 (by decide) (fx_k (c := 102) R (by decide +kernel)) (fx_x (a := 119) (ln := 4096) R (by decide +kernel) g_89) e_97 (fx_a R.2 (fx_k (c := 102) R (by decide +kernel)) (And.left (fx_x (a := 119) (ln := 4096) R (by decide +kernel) g_89)) (by decide +kernel)) fun S_98 R_99 E_100 => ?_
    have E_102 := E_100
    refine go_iinc (n := 3) (c := 1) (c' := 1) (by decide +kernel) (by decide +kernel) l_79 f3 (by decide) fun L_103 v_104 f_105 l_106 kp_107 => ?_
    obtain ⟨x_108, e_109, h⟩ := lx_s h
    have f_110 := q_is_eq f_105 e_109
    have l_111 := kp_107 0 _ l_77 (by decide) (Or.inl (by decide))
    have l_112 := kp_107 1 _ l_78 (by decide) (Or.inl (by decide))
    have l_113 := kp_107 2 _ l_75 (by decide) (Or.inr (q_is_cat f_73 (Or.inl rfl)))
    refine go_goto (o := (-75)) (t := 25) (by decide +kernel) (by decide +kernel) ?_
    exact hc m_96 E_102 h R_99 l_111 f0 l_112 f1 l_113 f_73 l_106 f_110
  · have h := it_n hp_93 h
    refine go_iload (n := 4) (by decide +kernel) l_80 f4 ?_
    refine go_if (c := .eq) (o := 7) (t := 95) (P := y4 = 0) (by decide +kernel) (by decide +kernel) f4 (Iff.rfl) (fun hp_114 => ?_) (fun hp_114 => ?_)
    · have h := it_t hp_114 h
      refine go_iconst (n := 0) (z := 0) (by decide +kernel) (by decide) fun v_115 f_116 => ?_
      obtain ⟨m_117, e_118, h⟩ := up_s h
      refine go_bast (kd := 102) (by decide +kernel) rfl R f_83 f3 f_116 (by decide) (fx_k (c := 102) R (by decide +kernel)) (fx_x (a := 119) (ln := 4096) R (by decide +kernel) g_89) e_118 (fx_a R.2 (fx_k (c := 102) R (by decide +kernel)) (And.left (fx_x (a := 119) (ln := 4096) R (by decide +kernel) g_89)) (by decide +kernel)) fun S_119 R_120 E_121 => ?_
      have E_123 := E_121
      refine go_iinc (n := 3) (c := 1) (c' := 1) (by decide +kernel) (by decide +kernel) l_79 f3 (by decide) fun L_124 v_125 f_126 l_127 kp_128 => ?_
      obtain ⟨x_129, e_130, h⟩ := lx_s h
      have f_131 := q_is_eq f_126 e_130
      have l_132 := kp_128 0 _ l_77 (by decide) (Or.inl (by decide))
      have l_133 := kp_128 1 _ l_78 (by decide) (Or.inl (by decide))
      have l_134 := kp_128 2 _ l_75 (by decide) (Or.inr (q_is_cat f_73 (Or.inl rfl)))
      refine go_goto (o := (-75)) (t := 25) (by decide +kernel) (by decide +kernel) ?_
      exact hc m_117 E_123 h R_120 l_132 f0 l_133 f1 l_134 f_73 l_127 f_131
    · have h := it_f hp_114 h
      refine go_iconst (n := 1) (z := 1) (by decide +kernel) (by decide) fun v_135 f_136 => ?_
      refine go_goto (o := 4) (t := 96) (by decide +kernel) (by decide +kernel) ?_
      obtain ⟨m_137, e_138, h⟩ := up_s h
      refine go_bast (kd := 102) (by decide +kernel) rfl R f_83 f3 f_136 (by decide) (fx_k (c := 102) R (by decide +kernel)) (fx_x (a := 119) (ln := 4096) R (by decide +kernel) g_89) e_138 (fx_a R.2 (fx_k (c := 102) R (by decide +kernel)) (And.left (fx_x (a := 119) (ln := 4096) R (by decide +kernel) g_89)) (by decide +kernel)) fun S_139 R_140 E_141 => ?_
      have E_143 := E_141
      refine go_iinc (n := 3) (c := 1) (c' := 1) (by decide +kernel) (by decide +kernel) l_79 f3 (by decide) fun L_144 v_145 f_146 l_147 kp_148 => ?_
      obtain ⟨x_149, e_150, h⟩ := lx_s h
      have f_151 := q_is_eq f_146 e_150
      have l_152 := kp_148 0 _ l_77 (by decide) (Or.inl (by decide))
      have l_153 := kp_148 1 _ l_78 (by decide) (Or.inl (by decide))
      have l_154 := kp_148 2 _ l_75 (by decide) (Or.inr (q_is_cat f_73 (Or.inl rfl)))
      refine go_goto (o := (-75)) (t := 25) (by decide +kernel) (by decide +kernel) ?_
      exact hc m_137 E_143 h R_140 l_152 f0 l_153 f1 l_154 f_73 l_147 f_151
noncomputable def fj_X12_die_57 (c : Int → Int → MM → Option (Int × MM)) (k103 : Int → MM → Option (Int × MM)) (y1 y2 y3 s0 : Int) (m : MM) : Option (Int × MM) := if s0 = 0 then
fj_X12_die_70 c k103 y1 y3 s0 0 y2 m
else
fj_X12_die_70 c k103 y1 y3 s0 1 y2 m
set_option maxHeartbeats 4000000 in
theorem oj_X12_die_57 {xs : List Int32} {d : Nat} {S : QS} {L : QL} {Q : QO → QS → Prop} {m : MM} {y1 y2 y3 s0 : Int} {v0 : Value} {v1 : Value} {v2 : Value} {v3 : Value} {w0 : Value}  {rz : Int} {rm : MM} {c : Int → Int → MM → Option (Int × MM)} {k103 : Int → MM → Option (Int × MM)} 
  (hd : 2 ≤ d) (R : Rp S m) (l0 : q_lo L 0 = some v0) (f0 : q_is 2 v0 68) (l1 : q_lo L 1 = some v1) (f1 : q_is 0 v1 y1) (l2 : q_lo L 2 = some v2) (f2 : q_is 0 v2 y2) (l3 : q_lo L 3 = some v3) (f3 : q_is 0 v3 y3) (fs0 : q_is 0 w0 s0)
  (hc : ∀ mq : MM, Ext m mq → ∀ {z2 : Int} {z3 : Int} {Sq : QS} {Lq : QL} {u0 : Value} {u1 : Value} {u2 : Value} {u3 : Value}, c z2 z3 mq = some (rz, rm) → Rp Sq mq → q_lo Lq 0 = some u0 → q_is 2 u0 68 → q_lo Lq 1 = some u1 → q_is 0 u1 y1 → q_lo Lq 2 = some u2 → q_is 0 u2 z2 → q_lo Lq 3 = some u3 → q_is 0 u3 z3 → Go xs d qM_X12_die 25 Lq [] Sq Q)
  (hk103 : ∀ mq : MM, Ext m mq → ∀ {z2 : Int} {Sq : QS} {Lq : QL} {u0 : Value} {u1 : Value} {u2 : Value}, k103 z2 mq = some (rz, rm) → Rp Sq mq → q_lo Lq 0 = some u0 → q_is 2 u0 68 → q_lo Lq 1 = some u1 → q_is 0 u1 y1 → q_lo Lq 2 = some u2 → q_is 0 u2 z2 → Go xs d qM_X12_die 103 Lq [] Sq Q)
  (hQ : Ext m rm → ∀ o S1, Rp S1 rm → q_out 0 o rz → Q o S1)
  (h : fj_X12_die_57 c k103 y1 y2 y3 s0 m = some (rz, rm)) : Go xs d qM_X12_die 57 L [w0] S Q := by
  unfold fj_X12_die_57 at h
  refine go_istore (n := 4) (by decide +kernel) (by decide +kernel) fs0 fun L_59 l_60 kp_61 => ?_
  have l_62 := kp_61 0 _ l0 (by decide) (Or.inl (by decide))
  have l_63 := kp_61 1 _ l1 (by decide) (Or.inl (by decide))
  have l_64 := kp_61 2 _ l2 (by decide) (Or.inl (by decide))
  have l_65 := kp_61 3 _ l3 (by decide) (Or.inr (q_is_cat f3 (Or.inl rfl)))
  refine go_iload_n (n := 2) (by decide +kernel) l_64 f2 ?_
  refine go_iload (n := 4) (by decide +kernel) l_60 fs0 ?_
  refine go_if (c := .eq) (o := 7) (t := 69) (P := s0 = 0) (by decide +kernel) (by decide +kernel) fs0 (Iff.rfl) (fun hp_66 => ?_) (fun hp_66 => ?_)
  · have h := it_t hp_66 h
    refine go_iconst (n := 0) (z := 0) (by decide +kernel) (by decide) fun v_67 f_68 => ?_
    exact oj_X12_die_70 hd R l_62 f0 l_63 f1 l_65 f3 l_60 fs0 f_68 f2 hc hk103 hQ h
  · have h := it_f hp_66 h
    refine go_iconst (n := 1) (z := 1) (by decide +kernel) (by decide) fun v_155 f_156 => ?_
    refine go_goto (o := 4) (t := 70) (by decide +kernel) (by decide +kernel) ?_
    exact oj_X12_die_70 hd R l_62 f0 l_63 f1 l_65 f3 l_60 fs0 f_156 f2 hc hk103 hQ h
noncomputable def fl_X12_die_25 (y1 : Int) (k103 : Int → MM → Option (Int × MM)) : Nat → Int → Int → MM → Option (Int × MM)
  | 0, _, _, _ => none
  | n + 1, y2, y3, m => lx (m 68 51) fun x_44 =>
if y3 < x_44 then
gd (0 ≤ y3 ∧ y3 < 4096) <| lx (m 112 y3) fun x_54 =>
if x_54 = y1 then
lx (m 119 y3) fun x_163 =>
if x_163 = 0 then
fj_X12_die_57 (fl_X12_die_25 y1 k103 n) k103 y1 y2 y3 1 m
else
fj_X12_die_57 (fl_X12_die_25 y1 k103 n) k103 y1 y2 y3 0 m
else
fj_X12_die_57 (fl_X12_die_25 y1 k103 n) k103 y1 y2 y3 0 m
else
k103 y2 m
set_option maxHeartbeats 4000000 in
theorem ol_X12_die_25 {xs : List Int32} {d : Nat} {Q : QO → QS → Prop} {mb : MM} {y1 : Int} {k103 : Int → MM → Option (Int × MM)} {rz : Int} {rm : MM}
  (hd : 2 ≤ d)
  (hk103 : ∀ mq : MM, Ext mb mq → ∀ {z2 : Int} {Sq : QS} {Lq : QL} {u0 : Value} {u1 : Value} {u2 : Value}, k103 z2 mq = some (rz, rm) → Rp Sq mq → q_lo Lq 0 = some u0 → q_is 2 u0 68 → q_lo Lq 1 = some u1 → q_is 0 u1 y1 → q_lo Lq 2 = some u2 → q_is 0 u2 z2 → Go xs d qM_X12_die 103 Lq [] Sq Q)
  (hQ : Ext mb rm → ∀ o S1, Rp S1 rm → q_out 0 o rz → Q o S1) :
  ∀ (n : Nat) {m : MM} {S : QS} {L : QL} {y2 y3 : Int} {v0 : Value} {v1 : Value} {v2 : Value} {v3 : Value} , Ext mb m → fl_X12_die_25 y1 k103 n y2 y3 m = some (rz, rm) → Rp S m → q_lo L 0 = some v0 → q_is 2 v0 68 → q_lo L 1 = some v1 → q_is 0 v1 y1 → q_lo L 2 = some v2 → q_is 0 v2 y2 → q_lo L 3 = some v3 → q_is 0 v3 y3 → Go xs d qM_X12_die 25 L [] S Q := by
  intro n
  induction n with
  | zero => intro m S L y2 y3 v0 v1 v2 v3; intro E h R l0 f0 l1 f1 l2 f2 l3 f3; cases h
  | succ n ih0 =>
    intro m S L y2 y3 v0 v1 v2 v3; intro E h R l0 f0 l1 f1 l2 f2 l3 f3
    have ih : ∀ mq : MM, Ext mb mq → ∀ {z2 : Int} {z3 : Int} {Sq : QS} {Lq : QL} {u0 : Value} {u1 : Value} {u2 : Value} {u3 : Value}, fl_X12_die_25 y1 k103 n z2 z3 mq = some (rz, rm) → Rp Sq mq → q_lo Lq 0 = some u0 → q_is 2 u0 68 → q_lo Lq 1 = some u1 → q_is 0 u1 y1 → q_lo Lq 2 = some u2 → q_is 0 u2 z2 → q_lo Lq 3 = some u3 → q_is 0 u3 z3 → Go xs d qM_X12_die 25 Lq [] Sq Q := fun mq b => by intros; exact ih0 b ‹_› ‹_› ‹_› ‹_› ‹_› ‹_› ‹_› ‹_› ‹_› ‹_›
    unfold fl_X12_die_25 at h
    refine go_iload_n (n := 3) (by decide +kernel) l3 f3 ?_
    refine go_aload_n (n := 0) (by decide +kernel) l0 f0 ?_
    obtain ⟨x_44, e_45, h⟩ := lx_s h
    refine go_getf (x := 599) (ci := 13) (kf := 51) (fin := 0) (t := 0) (by decide +kernel) (by decide +kernel) (by decide +kernel) R f0 (fx_k (c := 13) R (by decide +kernel)) fun v_41 f_42 => ?_
    have f_43 := q_is_eq f_42 e_45
    refine go_icmp (c := .ge) (o := 73) (t := 103) (P := ¬ (y3 < x_44)) (by decide +kernel) (by decide +kernel) f3 f_43 (Int.not_lt.symm) (fun hp_46 => ?_) (fun hp_46 => ?_)
    · have h := it_f hp_46 h
      exact hk103 m E h R l0 f0 l1 f1 l2 f2
    · have h := it_n hp_46 h
      refine go_aload_n (n := 0) (by decide +kernel) l0 f0 ?_
      refine go_getf (x := 149) (ci := 13) (kf := 52) (fin := 1) (t := 2) (by decide +kernel) (by decide +kernel) (by decide +kernel) R f0 (fx_k (c := 13) R (by decide +kernel)) fun v_47 f_48 => ?_
      have f_49 := q_is_eq (b := 112) f_48 (fx_v R (by decide +kernel)).symm
      refine go_iload_n (n := 3) (by decide +kernel) l3 f3 ?_
      obtain ⟨g_52, h⟩ := gd_s h
      obtain ⟨x_54, e_55, h⟩ := lx_s h
      refine go_iald (kd := 100) (by decide +kernel) rfl R f_49 f3 (fx_k (c := 100) R (by decide +kernel)) (fx_x (a := 112) (ln := 4096) R (by decide +kernel) g_52) fun v_50 f_51 => ?_
      have f_53 := q_is_eq f_51 e_55
      refine go_iload_n (n := 1) (by decide +kernel) l1 f1 ?_
      refine go_icmp (c := .ne) (o := 16) (t := 56) (P := ¬ (x_54 = y1)) (by decide +kernel) (by decide +kernel) f_53 f1 (Iff.rfl) (fun hp_56 => ?_) (fun hp_56 => ?_)
      · have h := it_f hp_56 h
        refine go_iconst (n := 0) (z := 0) (by decide +kernel) (by decide) fun v_57 f_58 => ?_
        exact oj_X12_die_57 hd R l0 f0 l1 f1 l2 f2 l3 f3 f_58 (fun mq b => ih mq (Ext.tr E b)) (fun mq b => hk103 mq (Ext.tr E b)) (fun b => hQ (Ext.tr E b)) h
      · have h := it_n hp_56 h
        refine go_aload_n (n := 0) (by decide +kernel) l0 f0 ?_
        refine go_getf (x := 170) (ci := 13) (kf := 59) (fin := 1) (t := 2) (by decide +kernel) (by decide +kernel) (by decide +kernel) R f0 (fx_k (c := 13) R (by decide +kernel)) fun v_157 f_158 => ?_
        have f_159 := q_is_eq (b := 119) f_158 (fx_v R (by decide +kernel)).symm
        refine go_iload_n (n := 3) (by decide +kernel) l3 f3 ?_
        obtain ⟨x_163, e_164, h⟩ := lx_s h
        refine go_bald (kd := 102) (by decide +kernel) rfl R f_159 f3 (fx_k (c := 102) R (by decide +kernel)) (fx_x (a := 119) (ln := 4096) R (by decide +kernel) g_52) fun v_160 f_161 => ?_
        have f_162 := q_is_eq f_161 e_164
        refine go_if (c := .ne) (o := 7) (t := 56) (P := ¬ (x_163 = 0)) (by decide +kernel) (by decide +kernel) f_162 (Iff.rfl) (fun hp_165 => ?_) (fun hp_165 => ?_)
        · have h := it_f hp_165 h
          refine go_iconst (n := 0) (z := 0) (by decide +kernel) (by decide) fun v_166 f_167 => ?_
          exact oj_X12_die_57 hd R l0 f0 l1 f1 l2 f2 l3 f3 f_167 (fun mq b => ih mq (Ext.tr E b)) (fun mq b => hk103 mq (Ext.tr E b)) (fun b => hQ (Ext.tr E b)) h
        · have h := it_n hp_165 h
          refine go_iconst (n := 1) (z := 1) (by decide +kernel) (by decide) fun v_168 f_169 => ?_
          refine go_goto (o := 4) (t := 57) (by decide +kernel) (by decide +kernel) ?_
          exact oj_X12_die_57 hd R l0 f0 l1 f1 l2 f2 l3 f3 f_169 (fun mq b => ih mq (Ext.tr E b)) (fun mq b => hk103 mq (Ext.tr E b)) (fun b => hQ (Ext.tr E b)) h
noncomputable def fl_X12_die_108 (y1 y2 : Int) : Nat → Int → MM → Option (Int × MM)
  | 0, _, _ => none
  | n + 1, y3, m => if y3 < w32 ((w32 (30 * y1)) + 30) then
gd (0 ≤ y3 ∧ y3 < 90) <| up m 123 y3 0 fun m_216 =>
lx (w32 (y3 + 1)) fun x_228 =>
fl_X12_die_108 y1 y2 n x_228 m_216
else
some (y2, m)
set_option maxHeartbeats 4000000 in
theorem ol_X12_die_108 {xs : List Int32} {d : Nat} {Q : QO → QS → Prop} {mb : MM} {y1 y2 : Int} {rz : Int} {rm : MM}
  (hd : 2 ≤ d)
  (hQ : Ext mb rm → ∀ o S1, Rp S1 rm → q_out 0 o rz → Q o S1) :
  ∀ (n : Nat) {m : MM} {S : QS} {L : QL} {y3 : Int} {v0 : Value} {v1 : Value} {v2 : Value} {v3 : Value} , Ext mb m → fl_X12_die_108 y1 y2 n y3 m = some (rz, rm) → Rp S m → q_lo L 0 = some v0 → q_is 2 v0 68 → q_lo L 1 = some v1 → q_is 0 v1 y1 → q_lo L 2 = some v2 → q_is 0 v2 y2 → q_lo L 3 = some v3 → q_is 0 v3 y3 → Go xs d qM_X12_die 108 L [] S Q := by
  intro n
  induction n with
  | zero => intro m S L y3 v0 v1 v2 v3; intro E h R l0 f0 l1 f1 l2 f2 l3 f3; cases h
  | succ n ih0 =>
    intro m S L y3 v0 v1 v2 v3; intro E h R l0 f0 l1 f1 l2 f2 l3 f3
    have ih : ∀ mq : MM, Ext mb mq → ∀ {z3 : Int} {Sq : QS} {Lq : QL} {u0 : Value} {u1 : Value} {u2 : Value} {u3 : Value}, fl_X12_die_108 y1 y2 n z3 mq = some (rz, rm) → Rp Sq mq → q_lo Lq 0 = some u0 → q_is 2 u0 68 → q_lo Lq 1 = some u1 → q_is 0 u1 y1 → q_lo Lq 2 = some u2 → q_is 0 u2 y2 → q_lo Lq 3 = some u3 → q_is 0 u3 z3 → Go xs d qM_X12_die 108 Lq [] Sq Q := fun mq b => by intros; exact ih0 b ‹_› ‹_› ‹_› ‹_› ‹_› ‹_› ‹_› ‹_› ‹_› ‹_›
    unfold fl_X12_die_108 at h
    refine go_iload_n (n := 3) (by decide +kernel) l3 f3 ?_
    refine go_bipush (n := 30) (z := 30) (by decide +kernel) (by decide) fun v_201 f_202 => ?_
    refine go_iload_n (n := 1) (by decide +kernel) l1 f1 ?_
    refine go_imul (by decide +kernel) f_202 f1 fun v_203 f_204 => ?_
    refine go_bipush (n := 30) (z := 30) (by decide +kernel) (by decide) fun v_205 f_206 => ?_
    refine go_iadd (by decide +kernel) f_204 f_206 fun v_207 f_208 => ?_
    refine go_icmp (c := .ge) (o := 16) (t := 132) (P := ¬ (y3 < w32 ((w32 (30 * y1)) + 30))) (by decide +kernel) (by decide +kernel) f3 f_208 (Int.not_lt.symm) (fun hp_209 => ?_) (fun hp_209 => ?_)
    · have h := it_f hp_209 h
      refine go_iload_n (n := 2) (by decide +kernel) l2 f2 ?_
      cases h
      exact go_iret (by decide +kernel) rfl (Or.inl rfl) f2 (hQ E _ _ R (q_out_v (by decide) f2))
    · have h := it_n hp_209 h
      refine go_aload_n (n := 0) (by decide +kernel) l0 f0 ?_
      refine go_getf (x := 183) (ci := 13) (kf := 63) (fin := 1) (t := 2) (by decide +kernel) (by decide +kernel) (by decide +kernel) R f0 (fx_k (c := 13) R (by decide +kernel)) fun v_210 f_211 => ?_
      have f_212 := q_is_eq (b := 123) f_211 (fx_v R (by decide +kernel)).symm
      refine go_iload_n (n := 3) (by decide +kernel) l3 f3 ?_
      refine go_iconst (n := 0) (z := 0) (by decide +kernel) (by decide) fun v_213 f_214 => ?_
      obtain ⟨g_215, h⟩ := gd_s h
      obtain ⟨m_216, e_217, h⟩ := up_s h
      refine go_iast (kd := 100) (by decide +kernel) rfl R f_212 f3 f_214 (fx_k (c := 100) R (by decide +kernel)) (fx_x (a := 123) (ln := 90) R (by decide +kernel) g_215) e_217 (fx_a R.2 (fx_k (c := 100) R (by decide +kernel)) (And.left (fx_x (a := 123) (ln := 90) R (by decide +kernel) g_215)) (by decide +kernel)) fun S_218 R_219 E_220 => ?_
      have E_222 := Ext.tr E E_220
      refine go_iinc (n := 3) (c := 1) (c' := 1) (by decide +kernel) (by decide +kernel) l3 f3 (by decide) fun L_223 v_224 f_225 l_226 kp_227 => ?_
      obtain ⟨x_228, e_229, h⟩ := lx_s h
      have f_230 := q_is_eq f_225 e_229
      have l_231 := kp_227 0 _ l0 (by decide) (Or.inl (by decide))
      have l_232 := kp_227 1 _ l1 (by decide) (Or.inl (by decide))
      have l_233 := kp_227 2 _ l2 (by decide) (Or.inr (q_is_cat f2 (Or.inl rfl)))
      refine go_goto (o := (-21)) (t := 108) (by decide +kernel) (by decide +kernel) ?_
      exact ih m_216 E_222 h R_219 l_231 f0 l_232 f1 l_233 f2 l_226 f_230
noncomputable def fj_X12_die_13 (y1 s0 : Int) (m : MM) : Option (Int × MM) := bd (fm_X12_fails s0 m) fun x_14 m_15 =>
if x_14 = 0 then
fl_X12_die_25 y1 (fun x_170 m_183 =>
lx (w32 (30 * y1)) fun x_192 =>
fl_X12_die_108 y1 x_170  BIG x_192 m_183) BIG 0 0 m_15
else
some (0, m_15)
set_option maxHeartbeats 4000000 in
theorem oj_X12_die_13 {xs : List Int32} {d : Nat} {S : QS} {L : QL} {Q : QO → QS → Prop} {m : MM} {y1 s0 : Int} {v0 : Value} {v1 : Value} {w0 : Value} {w1 : Value}  {rz : Int} {rm : MM}
  (hd : 2 ≤ d) (R : Rp S m) (l0 : q_lo L 0 = some v0) (f0 : q_is 2 v0 68) (l1 : q_lo L 1 = some v1) (f1 : q_is 0 v1 y1) (fs0 : q_is 0 w0 s0) (fs1 : q_is 2 w1 68)
  (hQ : Ext m rm → ∀ o S1, Rp S1 rm → q_out 0 o rz → Q o S1)
  (h : fj_X12_die_13 y1 s0 m = some (rz, rm)) : Go xs d qM_X12_die 13 L [w0, w1] S Q := by
  unfold fj_X12_die_13 at h
  obtain ⟨x_14, m_15, hc_13, h⟩ := bd_s h
  refine go_callV (x := 324) (mi := 186) (n := 1) (ci := 13) (as := [w0]) (rest := []) (by decide +kernel) (by decide +kernel) rfl rfl (q_sum8 _ (Nat.le_of_ble_eq_true rfl)) R fs1 (fx_k (c := 13) R (by decide +kernel)) (om_X12_fails (Nat.le_trans (by decide) hd) R fs1 fs0 hc_13) (fun _ S_18 q_21 => ?_) (fun _ _ qq => kr_x qq)
  refine kr_z (by decide) q_21 fun v_16 f_17 R_19 E_20 => ?_
  have E_24 := E_20
  refine go_if (c := .eq) (o := 5) (t := 21) (P := x_14 = 0) (by decide +kernel) (by decide +kernel) f_17 (Iff.rfl) (fun hp_25 => ?_) (fun hp_25 => ?_)
  · have h := it_t hp_25 h
    refine go_iconst (n := 0) (z := 0) (by decide +kernel) (by decide) fun v_26 f_27 => ?_
    refine go_istore_n (n := 2) (by decide +kernel) (by decide +kernel) f_27 fun L_28 l_29 kp_30 => ?_
    have l_31 := kp_30 0 _ l0 (by decide) (Or.inl (by decide))
    have l_32 := kp_30 1 _ l1 (by decide) (Or.inr (q_is_cat f1 (Or.inl rfl)))
    refine go_iconst (n := 0) (z := 0) (by decide +kernel) (by decide) fun v_33 f_34 => ?_
    refine go_istore_n (n := 3) (by decide +kernel) (by decide +kernel) f_34 fun L_35 l_36 kp_37 => ?_
    have l_38 := kp_37 0 _ l_31 (by decide) (Or.inl (by decide))
    have l_39 := kp_37 1 _ l_32 (by decide) (Or.inl (by decide))
    have l_40 := kp_37 2 _ l_29 (by decide) (Or.inr (q_is_cat f_27 (Or.inl rfl)))
    refine ol_X12_die_25 hd  ?_ (fun b => hQ (Ext.tr E_24 b)) BIG (Ext.rf _) h R_19 l_38 f0 l_39 f1 l_40 f_27 l_36 f_34
    intro m_183 E_184
    intro x_170 S_180 L_181 v_171 v_172 v_173
    intro h R_182 l_174 f_177 l_175 f_178 l_176 f_179
    have E_185 := Ext.tr E_24 E_184
    refine go_bipush (n := 30) (z := 30) (by decide +kernel) (by decide) fun v_188 f_189 => ?_
    refine go_iload_n (n := 1) (by decide +kernel) l_175 f_178 ?_
    refine go_imul (by decide +kernel) f_189 f_178 fun v_190 f_191 => ?_
    obtain ⟨x_192, e_193, h⟩ := lx_s h
    have f_194 := q_is_eq f_191 e_193
    refine go_istore_n (n := 3) (by decide +kernel) (by decide +kernel) f_194 fun L_195 l_196 kp_197 => ?_
    have l_198 := kp_197 0 _ l_174 (by decide) (Or.inl (by decide))
    have l_199 := kp_197 1 _ l_175 (by decide) (Or.inl (by decide))
    have l_200 := kp_197 2 _ l_176 (by decide) (Or.inr (q_is_cat f_179 (Or.inl rfl)))
    refine ol_X12_die_108 hd   (fun b => hQ (Ext.tr E_185 b)) BIG (Ext.rf _) h R_182 l_198 f_177 l_199 f_178 l_200 f_179 l_196 f_194
  · have h := it_f hp_25 h
    refine go_iconst (n := 0) (z := 0) (by decide +kernel) (by decide) fun v_234 f_235 => ?_
    cases h
    exact go_iret (by decide +kernel) rfl (Or.inl rfl) f_235 (hQ E_24 _ _ R_19 (q_out_v (by decide) f_235))
noncomputable def fm_X12_die (p1 : Int) (m0 : MM) : Option (Int × MM) := bp (fm_X12_isWorker p1 m0) fun x_2 =>
if x_2 = 0 then
fj_X12_die_13 p1 1 m0
else
fj_X12_die_13 p1 0 m0
set_option maxHeartbeats 4000000 in
theorem om_X12_die {xs : List Int32} {d : Nat} {S : QS} {m0 : MM} {p1 : Int} {v0 : Value} {v1 : Value} {rz : Int} {rm : MM}
  (hd : 3 ≤ d) (R : Rp S m0) (f0 : q_is 2 v0 68) (f1 : q_is 0 v1 p1)
  (h : fm_X12_die p1 m0 = some (rz, rm)) : Mt xs d 282 [v0, v1] S (Cr 0 m0 rm rz) := by
  obtain ⟨d, rfl⟩ : ∃ e, d = e + 1 := ⟨d - 1, by omega⟩
  have hd : 2 ≤ d := Nat.le_of_succ_le_succ hd
  refine Mt.of (M := qM_X12_die) rfl (by rw [sl_1 (q_is_cat f0 (Or.inr rfl)), sl_1 (q_is_cat f1 (Or.inl rfl)), sl_0]; decide) ?_
  rw [la_1 (q_is_cat f0 (Or.inr rfl)), la_1 (q_is_cat f1 (Or.inl rfl)), la_0]
  obtain ⟨L, hL⟩ : ∃ L : QL, L = [(0, v0), (0 + 1, v1)] := ⟨_, rfl⟩
  rw [← hL]
  have l0 : q_lo L 0 = some v0 := by rw [hL]; rfl
  have l1 : q_lo L 1 = some v1 := by rw [hL]; rfl
  have hQ : Ext m0 rm → ∀ o S1, Rp S1 rm → q_out 0 o rz → (Cr 0 m0 rm rz) o S1 := fun a o S1 b e => ⟨b, a, e⟩
  unfold fm_X12_die at h
  refine go_aload_n (n := 0) (by decide +kernel) l0 f0 ?_
  refine go_iload_n (n := 1) (by decide +kernel) l1 f1 ?_
  obtain ⟨x_2, hc_1, h⟩ := bp_s h
  refine go_callS (x := 605) (mi := 275) (n := 1) (b := 0) (as := [v1]) (rest := [v0]) (by decide +kernel) (by decide +kernel) rfl rfl (q_sum8 _ (Nat.le_of_ble_eq_true rfl)) (om_X12_isWorker (Nat.le_trans (by decide) hd) R f1 hc_1) (fun _ S_6 q_9 => ?_) (fun _ _ qq => kr_x qq)
  refine kr_z (by decide) q_9 fun v_4 f_5 R_7 E_8 => ?_
  refine go_if (c := .eq) (o := 7) (t := 12) (P := x_2 = 0) (by decide +kernel) (by decide +kernel) f_5 (Iff.rfl) (fun hp_10 => ?_) (fun hp_10 => ?_)
  · have h := it_t hp_10 h
    refine go_iconst (n := 1) (z := 1) (by decide +kernel) (by decide) fun v_11 f_12 => ?_
    exact oj_X12_die_13 hd R_7 l0 f0 l1 f1 f_12 f0 hQ h
  · have h := it_f hp_10 h
    refine go_iconst (n := 0) (z := 0) (by decide +kernel) (by decide) fun v_236 f_237 => ?_
    refine go_goto (o := 4) (t := 13) (by decide +kernel) (by decide +kernel) ?_
    exact oj_X12_die_13 hd R_7 l0 f0 l1 f1 f_237 f0 hQ h
end DF40
