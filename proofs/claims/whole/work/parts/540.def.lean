/-! Methods as functions (written by wip/whole/dec.py), 40: X12_complete, X12_die. -/
section DF40
noncomputable def fl_X12_complete_232 (y1 y3 y5 y7 y8 y9 : Int) (k282 : MM → Option (Int × MM)) : Nat → Int → MM → Option (Int × MM)
  | 0, _, _ => none
  | n + 1, y10, m => lx (m 68 120) fun x_259 =>
if y10 < x_259 then
gd (0 ≤ y10 ∧ y10 < 65536) <| lx (m 158 y10) fun x_269 =>
lx (m 159 y10) fun x_281 =>
bd (fm_X12_puts y3 (w32 (Int.tdiv x_269 1000)) x_281 (Int.tmod x_269 1000) m) fun x_294 m_295 =>
lx (w32 (y10 + 1)) fun x_310 =>
fl_X12_complete_232 y1 y3 y5 y7 y8 y9 k282 n x_310 m_295
else
k282 m
set_option maxHeartbeats 4000000 in
theorem ol_X12_complete_232 {xs : List Int32} {d : Nat} {Q : QO → QS → Prop} {mb : MM} {y1 y3 y5 y7 y8 y9 : Int} {k282 : MM → Option (Int × MM)} {rz : Int} {rm : MM}
  (hd : 14 ≤ d)
  (hk282 : ∀ mq : MM, Ext mb mq → ∀ {Sq : QS} {Lq : QL} {u0 : Value} {u1 : Value} {u3 : Value} {u5 : Value} {u7 : Value} {u8 : Value} {u9 : Value}, k282 mq = some (rz, rm) → Rp Sq mq → q_lo Lq 0 = some u0 → q_is 2 u0 68 → q_lo Lq 1 = some u1 → q_is 0 u1 y1 → q_lo Lq 3 = some u3 → q_is 0 u3 y3 → q_lo Lq 5 = some u5 → q_is 0 u5 y5 → q_lo Lq 7 = some u7 → q_is 0 u7 y7 → q_lo Lq 8 = some u8 → q_is 0 u8 y8 → q_lo Lq 9 = some u9 → q_is 0 u9 y9 → Go xs d qM_X12_complete 282 Lq [] Sq Q)
  (hQ : Ext mb rm → ∀ o S1, Rp S1 rm → q_out 0 o rz → Q o S1) :
  ∀ (n : Nat) {m : MM} {S : QS} {L : QL} {y10 : Int} {v0 : Value} {v1 : Value} {v3 : Value} {v5 : Value} {v7 : Value} {v8 : Value} {v9 : Value} {v10 : Value} , Ext mb m → fl_X12_complete_232 y1 y3 y5 y7 y8 y9 k282 n y10 m = some (rz, rm) → Rp S m → q_lo L 0 = some v0 → q_is 2 v0 68 → q_lo L 1 = some v1 → q_is 0 v1 y1 → q_lo L 3 = some v3 → q_is 0 v3 y3 → q_lo L 5 = some v5 → q_is 0 v5 y5 → q_lo L 7 = some v7 → q_is 0 v7 y7 → q_lo L 8 = some v8 → q_is 0 v8 y8 → q_lo L 9 = some v9 → q_is 0 v9 y9 → q_lo L 10 = some v10 → q_is 0 v10 y10 → Go xs d qM_X12_complete 232 L [] S Q := by
  intro n
  induction n with
  | zero => intro m S L y10 v0 v1 v3 v5 v7 v8 v9 v10; intro E h R l0 f0 l1 f1 l3 f3 l5 f5 l7 f7 l8 f8 l9 f9 l10 f10; cases h
  | succ n ih0 =>
    intro m S L y10 v0 v1 v3 v5 v7 v8 v9 v10; intro E h R l0 f0 l1 f1 l3 f3 l5 f5 l7 f7 l8 f8 l9 f9 l10 f10
    have ih : ∀ mq : MM, Ext mb mq → ∀ {z10 : Int} {Sq : QS} {Lq : QL} {u0 : Value} {u1 : Value} {u3 : Value} {u5 : Value} {u7 : Value} {u8 : Value} {u9 : Value} {u10 : Value}, fl_X12_complete_232 y1 y3 y5 y7 y8 y9 k282 n z10 mq = some (rz, rm) → Rp Sq mq → q_lo Lq 0 = some u0 → q_is 2 u0 68 → q_lo Lq 1 = some u1 → q_is 0 u1 y1 → q_lo Lq 3 = some u3 → q_is 0 u3 y3 → q_lo Lq 5 = some u5 → q_is 0 u5 y5 → q_lo Lq 7 = some u7 → q_is 0 u7 y7 → q_lo Lq 8 = some u8 → q_is 0 u8 y8 → q_lo Lq 9 = some u9 → q_is 0 u9 y9 → q_lo Lq 10 = some u10 → q_is 0 u10 z10 → Go xs d qM_X12_complete 232 Lq [] Sq Q := fun mq b => by intros; exact ih0 b ‹_› ‹_› ‹_› ‹_› ‹_› ‹_› ‹_› ‹_› ‹_› ‹_› ‹_› ‹_› ‹_› ‹_› ‹_› ‹_› ‹_› ‹_›
    unfold fl_X12_complete_232 at h
    refine go_iload (n := 10) (by decide +kernel) l10 f10 ?_
    refine go_aload_n (n := 0) (by decide +kernel) l0 f0 ?_
    obtain ⟨x_259, e_260, h⟩ := lx_s h
    refine go_getf (x := 416) (ci := 13) (kf := 120) (fin := 0) (t := 0) (by decide +kernel) (by decide +kernel) (by decide +kernel) R f0 (fx_k (c := 13) R (by decide +kernel)) fun v_256 f_257 => ?_
    have f_258 := q_is_eq f_257 e_260
    refine go_icmp (c := .ge) (o := 44) (t := 282) (P := ¬ (y10 < x_259)) (by decide +kernel) (by decide +kernel) f10 f_258 (Int.not_lt.symm) (fun hp_261 => ?_) (fun hp_261 => ?_)
    · have h := it_f hp_261 h
      exact hk282 m E h R l0 f0 l1 f1 l3 f3 l5 f5 l7 f7 l8 f8 l9 f9
    · have h := it_n hp_261 h
      refine go_aload_n (n := 0) (by decide +kernel) l0 f0 ?_
      refine go_iload_n (n := 3) (by decide +kernel) l3 f3 ?_
      refine go_aload_n (n := 0) (by decide +kernel) l0 f0 ?_
      refine go_getf (x := 291) (ci := 13) (kf := 121) (fin := 1) (t := 2) (by decide +kernel) (by decide +kernel) (by decide +kernel) R f0 (fx_k (c := 13) R (by decide +kernel)) fun v_262 f_263 => ?_
      have f_264 := q_is_eq (b := 158) f_263 (fx_v R (by decide +kernel)).symm
      refine go_iload (n := 10) (by decide +kernel) l10 f10 ?_
      obtain ⟨g_267, h⟩ := gd_s h
      obtain ⟨x_269, e_270, h⟩ := lx_s h
      refine go_iald (kd := 100) (by decide +kernel) rfl R f_264 f10 (fx_k (c := 100) R (by decide +kernel)) (fx_x (a := 158) (ln := 65536) R (by decide +kernel) g_267) fun v_265 f_266 => ?_
      have f_268 := q_is_eq f_266 e_270
      refine go_sipush (n := 1000) (z := 1000) (by decide +kernel) (by decide) fun v_271 f_272 => ?_
      refine go_idiv (by decide +kernel) f_268 f_272 (by decide) fun v_273 f_274 => ?_
      refine go_aload_n (n := 0) (by decide +kernel) l0 f0 ?_
      refine go_getf (x := 294) (ci := 13) (kf := 122) (fin := 1) (t := 2) (by decide +kernel) (by decide +kernel) (by decide +kernel) R f0 (fx_k (c := 13) R (by decide +kernel)) fun v_275 f_276 => ?_
      have f_277 := q_is_eq (b := 159) f_276 (fx_v R (by decide +kernel)).symm
      refine go_iload (n := 10) (by decide +kernel) l10 f10 ?_
      obtain ⟨x_281, e_282, h⟩ := lx_s h
      refine go_iald (kd := 100) (by decide +kernel) rfl R f_277 f10 (fx_k (c := 100) R (by decide +kernel)) (fx_x (a := 159) (ln := 65536) R (by decide +kernel) g_267) fun v_278 f_279 => ?_
      have f_280 := q_is_eq f_279 e_282
      refine go_aload_n (n := 0) (by decide +kernel) l0 f0 ?_
      refine go_getf (x := 291) (ci := 13) (kf := 121) (fin := 1) (t := 2) (by decide +kernel) (by decide +kernel) (by decide +kernel) R f0 (fx_k (c := 13) R (by decide +kernel)) fun v_283 f_284 => ?_
      have f_285 := q_is_eq (b := 158) f_284 (fx_v R (by decide +kernel)).symm
      refine go_iload (n := 10) (by decide +kernel) l10 f10 ?_
      refine go_iald (kd := 100) (by decide +kernel) rfl R f_285 f10 (fx_k (c := 100) R (by decide +kernel)) (fx_x (a := 158) (ln := 65536) R (by decide +kernel) g_267) fun v_286 f_287 => ?_
      have f_288 := q_is_eq f_287 e_270
      refine go_sipush (n := 1000) (z := 1000) (by decide +kernel) (by decide) fun v_289 f_290 => ?_
      refine go_irem (by decide +kernel) f_288 f_290 (by decide) fun v_291 f_292 => ?_
      obtain ⟨x_294, m_295, hc_293, h⟩ := bd_s h
      refine go_callV (x := 360) (mi := 210) (n := 4) (ci := 13) (as := [v3, v_273, v_278, v_291]) (rest := []) (by decide +kernel) (by decide +kernel) rfl rfl (q_sum8 _ (Nat.le_of_ble_eq_true rfl)) R f0 (fx_k (c := 13) R (by decide +kernel)) (om_X12_puts (Nat.le_trans (by decide) hd) R f0 f3 f_274 f_280 f_292 hc_293) (fun _ S_298 q_301 => ?_) (fun _ _ qq => kr_x qq)
      refine kr_z (by decide) q_301 fun v_296 f_297 R_299 E_300 => ?_
      have E_304 := Ext.tr E E_300
      refine go_pop (by decide +kernel) f_297 (Or.inl rfl) ?_
      refine go_iinc (n := 10) (c := 1) (c' := 1) (by decide +kernel) (by decide +kernel) l10 f10 (by decide) fun L_305 v_306 f_307 l_308 kp_309 => ?_
      obtain ⟨x_310, e_311, h⟩ := lx_s h
      have f_312 := q_is_eq f_307 e_311
      have l_313 := kp_309 0 _ l0 (by decide) (Or.inl (by decide))
      have l_314 := kp_309 1 _ l1 (by decide) (Or.inl (by decide))
      have l_315 := kp_309 3 _ l3 (by decide) (Or.inl (by decide))
      have l_316 := kp_309 5 _ l5 (by decide) (Or.inl (by decide))
      have l_317 := kp_309 7 _ l7 (by decide) (Or.inl (by decide))
      have l_318 := kp_309 8 _ l8 (by decide) (Or.inl (by decide))
      have l_319 := kp_309 9 _ l9 (by decide) (Or.inr (q_is_cat f9 (Or.inl rfl)))
      refine go_goto (o := (-47)) (t := 232) (by decide +kernel) (by decide +kernel) ?_
      exact ih m_295 E_304 h R_299 l_313 f0 l_314 f1 l_315 f3 l_316 f5 l_317 f7 l_318 f8 l_319 f9 l_308 f_312
noncomputable def fl_X12_complete_357 (y3 y9 : Int) : Nat → Int → MM → Option (Int × MM)
  | 0, _, _ => none
  | n + 1, y10, m => lx (m 68 120) fun x_460 =>
if y10 < x_460 then
gd (0 ≤ y10 ∧ y10 < 65536) <| lx (m 158 y10) fun x_475 =>
lx (m 159 y10) fun x_487 =>
bd (fm_X12_carriesOut y3 (w32 (y9 + y10)) (w32 (Int.tdiv x_475 1000)) x_487 (Int.tmod x_475 1000) m) fun x_500 m_501 =>
lx (w32 (y10 + 1)) fun x_516 =>
fl_X12_complete_357 y3 y9 n x_516 m_501
else
some (x_460, m)
set_option maxHeartbeats 4000000 in
theorem ol_X12_complete_357 {xs : List Int32} {d : Nat} {Q : QO → QS → Prop} {mb : MM} {y3 y9 : Int} {rz : Int} {rm : MM}
  (hd : 14 ≤ d)
  (hQ : Ext mb rm → ∀ o S1, Rp S1 rm → q_out 0 o rz → Q o S1) :
  ∀ (n : Nat) {m : MM} {S : QS} {L : QL} {y10 : Int} {v0 : Value} {v3 : Value} {v9 : Value} {v10 : Value} , Ext mb m → fl_X12_complete_357 y3 y9 n y10 m = some (rz, rm) → Rp S m → q_lo L 0 = some v0 → q_is 2 v0 68 → q_lo L 3 = some v3 → q_is 0 v3 y3 → q_lo L 9 = some v9 → q_is 0 v9 y9 → q_lo L 10 = some v10 → q_is 0 v10 y10 → Go xs d qM_X12_complete 357 L [] S Q := by
  intro n
  induction n with
  | zero => intro m S L y10 v0 v3 v9 v10; intro E h R l0 f0 l3 f3 l9 f9 l10 f10; cases h
  | succ n ih0 =>
    intro m S L y10 v0 v3 v9 v10; intro E h R l0 f0 l3 f3 l9 f9 l10 f10
    have ih : ∀ mq : MM, Ext mb mq → ∀ {z10 : Int} {Sq : QS} {Lq : QL} {u0 : Value} {u3 : Value} {u9 : Value} {u10 : Value}, fl_X12_complete_357 y3 y9 n z10 mq = some (rz, rm) → Rp Sq mq → q_lo Lq 0 = some u0 → q_is 2 u0 68 → q_lo Lq 3 = some u3 → q_is 0 u3 y3 → q_lo Lq 9 = some u9 → q_is 0 u9 y9 → q_lo Lq 10 = some u10 → q_is 0 u10 z10 → Go xs d qM_X12_complete 357 Lq [] Sq Q := fun mq b => by intros; exact ih0 b ‹_› ‹_› ‹_› ‹_› ‹_› ‹_› ‹_› ‹_› ‹_› ‹_›
    unfold fl_X12_complete_357 at h
    refine go_iload (n := 10) (by decide +kernel) l10 f10 ?_
    refine go_aload_n (n := 0) (by decide +kernel) l0 f0 ?_
    obtain ⟨x_460, e_461, h⟩ := lx_s h
    refine go_getf (x := 416) (ci := 13) (kf := 120) (fin := 0) (t := 0) (by decide +kernel) (by decide +kernel) (by decide +kernel) R f0 (fx_k (c := 13) R (by decide +kernel)) fun v_457 f_458 => ?_
    have f_459 := q_is_eq f_458 e_461
    refine go_icmp (c := .ge) (o := 48) (t := 411) (P := ¬ (y10 < x_460)) (by decide +kernel) (by decide +kernel) f10 f_459 (Int.not_lt.symm) (fun hp_462 => ?_) (fun hp_462 => ?_)
    · have h := it_f hp_462 h
      refine go_aload_n (n := 0) (by decide +kernel) l0 f0 ?_
      refine go_getf (x := 416) (ci := 13) (kf := 120) (fin := 0) (t := 0) (by decide +kernel) (by decide +kernel) (by decide +kernel) R f0 (fx_k (c := 13) R (by decide +kernel)) fun v_463 f_464 => ?_
      have f_465 := q_is_eq f_464 e_461
      cases h
      exact go_iret (by decide +kernel) rfl (Or.inl rfl) f_465 (hQ E _ _ R (q_out_v (by decide) f_465))
    · have h := it_n hp_462 h
      refine go_aload_n (n := 0) (by decide +kernel) l0 f0 ?_
      refine go_iload_n (n := 3) (by decide +kernel) l3 f3 ?_
      refine go_iload (n := 9) (by decide +kernel) l9 f9 ?_
      refine go_iload (n := 10) (by decide +kernel) l10 f10 ?_
      refine go_iadd (by decide +kernel) f9 f10 fun v_466 f_467 => ?_
      refine go_aload_n (n := 0) (by decide +kernel) l0 f0 ?_
      refine go_getf (x := 291) (ci := 13) (kf := 121) (fin := 1) (t := 2) (by decide +kernel) (by decide +kernel) (by decide +kernel) R f0 (fx_k (c := 13) R (by decide +kernel)) fun v_468 f_469 => ?_
      have f_470 := q_is_eq (b := 158) f_469 (fx_v R (by decide +kernel)).symm
      refine go_iload (n := 10) (by decide +kernel) l10 f10 ?_
      obtain ⟨g_473, h⟩ := gd_s h
      obtain ⟨x_475, e_476, h⟩ := lx_s h
      refine go_iald (kd := 100) (by decide +kernel) rfl R f_470 f10 (fx_k (c := 100) R (by decide +kernel)) (fx_x (a := 158) (ln := 65536) R (by decide +kernel) g_473) fun v_471 f_472 => ?_
      have f_474 := q_is_eq f_472 e_476
      refine go_sipush (n := 1000) (z := 1000) (by decide +kernel) (by decide) fun v_477 f_478 => ?_
      refine go_idiv (by decide +kernel) f_474 f_478 (by decide) fun v_479 f_480 => ?_
      refine go_aload_n (n := 0) (by decide +kernel) l0 f0 ?_
      refine go_getf (x := 294) (ci := 13) (kf := 122) (fin := 1) (t := 2) (by decide +kernel) (by decide +kernel) (by decide +kernel) R f0 (fx_k (c := 13) R (by decide +kernel)) fun v_481 f_482 => ?_
      have f_483 := q_is_eq (b := 159) f_482 (fx_v R (by decide +kernel)).symm
      refine go_iload (n := 10) (by decide +kernel) l10 f10 ?_
      obtain ⟨x_487, e_488, h⟩ := lx_s h
      refine go_iald (kd := 100) (by decide +kernel) rfl R f_483 f10 (fx_k (c := 100) R (by decide +kernel)) (fx_x (a := 159) (ln := 65536) R (by decide +kernel) g_473) fun v_484 f_485 => ?_
      have f_486 := q_is_eq f_485 e_488
      refine go_aload_n (n := 0) (by decide +kernel) l0 f0 ?_
      refine go_getf (x := 291) (ci := 13) (kf := 121) (fin := 1) (t := 2) (by decide +kernel) (by decide +kernel) (by decide +kernel) R f0 (fx_k (c := 13) R (by decide +kernel)) fun v_489 f_490 => ?_
      have f_491 := q_is_eq (b := 158) f_490 (fx_v R (by decide +kernel)).symm
      refine go_iload (n := 10) (by decide +kernel) l10 f10 ?_
      refine go_iald (kd := 100) (by decide +kernel) rfl R f_491 f10 (fx_k (c := 100) R (by decide +kernel)) (fx_x (a := 158) (ln := 65536) R (by decide +kernel) g_473) fun v_492 f_493 => ?_
      have f_494 := q_is_eq f_493 e_476
      refine go_sipush (n := 1000) (z := 1000) (by decide +kernel) (by decide) fun v_495 f_496 => ?_
      refine go_irem (by decide +kernel) f_494 f_496 (by decide) fun v_497 f_498 => ?_
      obtain ⟨x_500, m_501, hc_499, h⟩ := bd_s h
      refine go_callV (x := 620) (mi := 280) (n := 5) (ci := 13) (as := [v3, v_466, v_479, v_484, v_497]) (rest := []) (by decide +kernel) (by decide +kernel) rfl rfl (q_sum8 _ (Nat.le_of_ble_eq_true rfl)) R f0 (fx_k (c := 13) R (by decide +kernel)) (om_X12_carriesOut (Nat.le_trans (by decide) hd) R f0 f3 f_467 f_480 f_486 f_498 hc_499) (fun _ S_504 q_507 => ?_) (fun _ _ qq => kr_x qq)
      refine kr_v q_507 fun R_505 E_506 => ?_
      have E_510 := Ext.tr E E_506
      refine go_iinc (n := 10) (c := 1) (c' := 1) (by decide +kernel) (by decide +kernel) l10 f10 (by decide) fun L_511 v_512 f_513 l_514 kp_515 => ?_
      obtain ⟨x_516, e_517, h⟩ := lx_s h
      have f_518 := q_is_eq f_513 e_517
      have l_519 := kp_515 0 _ l0 (by decide) (Or.inl (by decide))
      have l_520 := kp_515 3 _ l3 (by decide) (Or.inl (by decide))
      have l_521 := kp_515 9 _ l9 (by decide) (Or.inr (q_is_cat f9 (Or.inl rfl)))
      refine go_goto (o := (-51)) (t := 357) (by decide +kernel) (by decide +kernel) ?_
      exact ih m_501 E_510 h R_505 l_519 f0 l_520 f3 l_521 f9 l_514 f_518
noncomputable def fj_X12_complete_193 (y1 y3 y5 y7 y8 : Int) (m : MM) : Option (Int × MM) := lx (m 68 114) fun x_223 =>
if x_223 = 0 then
gd (0 ≤ y3 ∧ y3 < 30) <| lx (m 86 y3) fun x_233 =>
fl_X12_complete_232 y1 y3 y5 y7 y8 x_233 (fun m_344 =>
gd (0 ≤ y1 ∧ y1 < 4096) <| lx (m_344 114 y1) fun x_358 =>
bd (fm_X12_puts y3 17 x_358 0 m_344) fun x_363 m_364 =>
lx (m_364 90 y3) fun x_383 =>
gd (0 ≤ y5 ∧ y5 < 90) <| up m_364 123 y5 x_383 fun m_386 =>
lx (m_386 82 y3) fun x_402 =>
up m_386 124 y5 x_402 fun m_404 =>
lx (m_404 93 y3) fun x_420 =>
up m_404 125 y5 x_420 fun m_422 =>
up m_422 126 y5 y7 fun m_432 =>
up m_432 127 y5 y8 fun m_442 =>
fl_X12_complete_357 y3 x_233  BIG 0 m_442) BIG 0 m
else
gd (0 ≤ y3 ∧ y3 < 30) <| up m 83 y3 6 fun m_528 =>
lx (m_528 68 115) fun x_541 =>
up m_528 94 y3 x_541 fun m_543 =>
some ((-2), m_543)
set_option maxHeartbeats 4000000 in
theorem oj_X12_complete_193 {xs : List Int32} {d : Nat} {S : QS} {L : QL} {Q : QO → QS → Prop} {m : MM} {y1 y3 y5 y7 y8 : Int} {v0 : Value} {v1 : Value} {v3 : Value} {v5 : Value} {v7 : Value} {v8 : Value}  {rz : Int} {rm : MM}
  (hd : 14 ≤ d) (R : Rp S m) (l0 : q_lo L 0 = some v0) (f0 : q_is 2 v0 68) (l1 : q_lo L 1 = some v1) (f1 : q_is 0 v1 y1) (l3 : q_lo L 3 = some v3) (f3 : q_is 0 v3 y3) (l5 : q_lo L 5 = some v5) (f5 : q_is 0 v5 y5) (l7 : q_lo L 7 = some v7) (f7 : q_is 0 v7 y7) (l8 : q_lo L 8 = some v8) (f8 : q_is 0 v8 y8)
  (hQ : Ext m rm → ∀ o S1, Rp S1 rm → q_out 0 o rz → Q o S1)
  (h : fj_X12_complete_193 y1 y3 y5 y7 y8 m = some (rz, rm)) : Go xs d qM_X12_complete 193 L [] S Q := by
  unfold fj_X12_complete_193 at h
  refine go_aload_n (n := 0) (by decide +kernel) l0 f0 ?_
  obtain ⟨x_223, e_224, h⟩ := lx_s h
  refine go_getf (x := 374) (ci := 13) (kf := 114) (fin := 0) (t := 0) (by decide +kernel) (by decide +kernel) (by decide +kernel) R f0 (fx_k (c := 13) R (by decide +kernel)) fun v_220 f_221 => ?_
  have f_222 := q_is_eq f_221 e_224
  refine go_if (c := .eq) (o := 24) (t := 221) (P := x_223 = 0) (by decide +kernel) (by decide +kernel) f_222 (Iff.rfl) (fun hp_225 => ?_) (fun hp_225 => ?_)
  · have h := it_t hp_225 h
    refine go_aload_n (n := 0) (by decide +kernel) l0 f0 ?_
    refine go_getf (x := 61) (ci := 13) (kf := 19) (fin := 1) (t := 2) (by decide +kernel) (by decide +kernel) (by decide +kernel) R f0 (fx_k (c := 13) R (by decide +kernel)) fun v_226 f_227 => ?_
    have f_228 := q_is_eq (b := 86) f_227 (fx_v R (by decide +kernel)).symm
    refine go_iload_n (n := 3) (by decide +kernel) l3 f3 ?_
    obtain ⟨g_231, h⟩ := gd_s h
    obtain ⟨x_233, e_234, h⟩ := lx_s h
    refine go_iald (kd := 100) (by decide +kernel) rfl R f_228 f3 (fx_k (c := 100) R (by decide +kernel)) (fx_x (a := 86) (ln := 30) R (by decide +kernel) g_231) fun v_229 f_230 => ?_
    have f_232 := q_is_eq f_230 e_234
    refine go_istore (n := 9) (by decide +kernel) (by decide +kernel) f_232 fun L_235 l_236 kp_237 => ?_
    have l_238 := kp_237 0 _ l0 (by decide) (Or.inl (by decide))
    have l_239 := kp_237 1 _ l1 (by decide) (Or.inl (by decide))
    have l_240 := kp_237 3 _ l3 (by decide) (Or.inl (by decide))
    have l_241 := kp_237 5 _ l5 (by decide) (Or.inl (by decide))
    have l_242 := kp_237 7 _ l7 (by decide) (Or.inl (by decide))
    have l_243 := kp_237 8 _ l8 (by decide) (Or.inr (q_is_cat f8 (Or.inl rfl)))
    refine go_iconst (n := 0) (z := 0) (by decide +kernel) (by decide) fun v_244 f_245 => ?_
    refine go_istore (n := 10) (by decide +kernel) (by decide +kernel) f_245 fun L_246 l_247 kp_248 => ?_
    have l_249 := kp_248 0 _ l_238 (by decide) (Or.inl (by decide))
    have l_250 := kp_248 1 _ l_239 (by decide) (Or.inl (by decide))
    have l_251 := kp_248 3 _ l_240 (by decide) (Or.inl (by decide))
    have l_252 := kp_248 5 _ l_241 (by decide) (Or.inl (by decide))
    have l_253 := kp_248 7 _ l_242 (by decide) (Or.inl (by decide))
    have l_254 := kp_248 8 _ l_243 (by decide) (Or.inl (by decide))
    have l_255 := kp_248 9 _ l_236 (by decide) (Or.inr (q_is_cat f_232 (Or.inl rfl)))
    refine ol_X12_complete_232 hd  ?_ hQ BIG (Ext.rf _) h R l_249 f0 l_250 f1 l_251 f3 l_252 f5 l_253 f7 l_254 f8 l_255 f_232 l_247 f_245
    intro m_344 E_345
    intro S_341 L_342 v_320 v_321 v_322 v_323 v_324 v_325 v_326
    intro h R_343 l_327 f_334 l_328 f_335 l_329 f_336 l_330 f_337 l_331 f_338 l_332 f_339 l_333 f_340
    have E_346 := E_345
    refine go_aload_n (n := 0) (by decide +kernel) l_327 f_334 ?_
    refine go_iload_n (n := 3) (by decide +kernel) l_329 f_336 ?_
    refine go_bipush (n := 17) (z := 17) (by decide +kernel) (by decide) fun v_349 f_350 => ?_
    refine go_aload_n (n := 0) (by decide +kernel) l_327 f_334 ?_
    refine go_getf (x := 155) (ci := 13) (kf := 54) (fin := 1) (t := 2) (by decide +kernel) (by decide +kernel) (by decide +kernel) R_343 f_334 (fx_k (c := 13) R_343 (by decide +kernel)) fun v_351 f_352 => ?_
    have f_353 := q_is_eq (b := 114) f_352 (fx_v R_343 (by decide +kernel)).symm
    refine go_iload_n (n := 1) (by decide +kernel) l_328 f_335 ?_
    obtain ⟨g_356, h⟩ := gd_s h
    obtain ⟨x_358, e_359, h⟩ := lx_s h
    refine go_iald (kd := 100) (by decide +kernel) rfl R_343 f_353 f_335 (fx_k (c := 100) R_343 (by decide +kernel)) (fx_x (a := 114) (ln := 4096) R_343 (by decide +kernel) g_356) fun v_354 f_355 => ?_
    have f_357 := q_is_eq f_355 e_359
    refine go_iconst (n := 0) (z := 0) (by decide +kernel) (by decide) fun v_360 f_361 => ?_
    obtain ⟨x_363, m_364, hc_362, h⟩ := bd_s h
    refine go_callV (x := 360) (mi := 210) (n := 4) (ci := 13) (as := [v_322, v_349, v_354, v_360]) (rest := []) (by decide +kernel) (by decide +kernel) rfl rfl (q_sum8 _ (Nat.le_of_ble_eq_true rfl)) R_343 f_334 (fx_k (c := 13) R_343 (by decide +kernel)) (om_X12_puts (Nat.le_trans (by decide) hd) R_343 f_334 f_336 f_350 f_357 f_361 hc_362) (fun _ S_367 q_370 => ?_) (fun _ _ qq => kr_x qq)
    refine kr_z (by decide) q_370 fun v_365 f_366 R_368 E_369 => ?_
    have E_373 := Ext.tr E_346 E_369
    refine go_pop (by decide +kernel) f_366 (Or.inl rfl) ?_
    refine go_aload_n (n := 0) (by decide +kernel) l_327 f_334 ?_
    refine go_getf (x := 183) (ci := 13) (kf := 63) (fin := 1) (t := 2) (by decide +kernel) (by decide +kernel) (by decide +kernel) R_368 f_334 (fx_k (c := 13) R_368 (by decide +kernel)) fun v_374 f_375 => ?_
    have f_376 := q_is_eq (b := 123) f_375 (fx_v R_368 (by decide +kernel)).symm
    refine go_iload (n := 5) (by decide +kernel) l_330 f_337 ?_
    refine go_aload_n (n := 0) (by decide +kernel) l_327 f_334 ?_
    refine go_getf (x := 73) (ci := 13) (kf := 23) (fin := 1) (t := 2) (by decide +kernel) (by decide +kernel) (by decide +kernel) R_368 f_334 (fx_k (c := 13) R_368 (by decide +kernel)) fun v_377 f_378 => ?_
    have f_379 := q_is_eq (b := 90) f_378 (fx_v R_368 (by decide +kernel)).symm
    refine go_iload_n (n := 3) (by decide +kernel) l_329 f_336 ?_
    obtain ⟨x_383, e_384, h⟩ := lx_s h
    refine go_iald (kd := 100) (by decide +kernel) rfl R_368 f_379 f_336 (fx_k (c := 100) R_368 (by decide +kernel)) (fx_x (a := 90) (ln := 30) R_368 (by decide +kernel) g_231) fun v_380 f_381 => ?_
    have f_382 := q_is_eq f_381 e_384
    obtain ⟨g_385, h⟩ := gd_s h
    obtain ⟨m_386, e_387, h⟩ := up_s h
    refine go_iast (kd := 100) (by decide +kernel) rfl R_368 f_376 f_337 f_382 (fx_k (c := 100) R_368 (by decide +kernel)) (fx_x (a := 123) (ln := 90) R_368 (by decide +kernel) g_385) e_387 (fx_a R_368.2 (fx_k (c := 100) R_368 (by decide +kernel)) (And.left (fx_x (a := 123) (ln := 90) R_368 (by decide +kernel) g_385)) (by decide +kernel)) fun S_388 R_389 E_390 => ?_
    have E_392 := Ext.tr E_373 E_390
    refine go_aload_n (n := 0) (by decide +kernel) l_327 f_334 ?_
    refine go_getf (x := 186) (ci := 13) (kf := 64) (fin := 1) (t := 2) (by decide +kernel) (by decide +kernel) (by decide +kernel) R_389 f_334 (fx_k (c := 13) R_389 (by decide +kernel)) fun v_393 f_394 => ?_
    have f_395 := q_is_eq (b := 124) f_394 (fx_v R_389 (by decide +kernel)).symm
    refine go_iload (n := 5) (by decide +kernel) l_330 f_337 ?_
    refine go_aload_n (n := 0) (by decide +kernel) l_327 f_334 ?_
    refine go_getf (x := 49) (ci := 13) (kf := 15) (fin := 1) (t := 2) (by decide +kernel) (by decide +kernel) (by decide +kernel) R_389 f_334 (fx_k (c := 13) R_389 (by decide +kernel)) fun v_396 f_397 => ?_
    have f_398 := q_is_eq (b := 82) f_397 (fx_v R_389 (by decide +kernel)).symm
    refine go_iload_n (n := 3) (by decide +kernel) l_329 f_336 ?_
    obtain ⟨x_402, e_403, h⟩ := lx_s h
    refine go_iald (kd := 100) (by decide +kernel) rfl R_389 f_398 f_336 (fx_k (c := 100) R_389 (by decide +kernel)) (fx_x (a := 82) (ln := 30) R_389 (by decide +kernel) g_231) fun v_399 f_400 => ?_
    have f_401 := q_is_eq f_400 e_403
    obtain ⟨m_404, e_405, h⟩ := up_s h
    refine go_iast (kd := 100) (by decide +kernel) rfl R_389 f_395 f_337 f_401 (fx_k (c := 100) R_389 (by decide +kernel)) (fx_x (a := 124) (ln := 90) R_389 (by decide +kernel) g_385) e_405 (fx_a R_389.2 (fx_k (c := 100) R_389 (by decide +kernel)) (And.left (fx_x (a := 124) (ln := 90) R_389 (by decide +kernel) g_385)) (by decide +kernel)) fun S_406 R_407 E_408 => ?_
    have E_410 := Ext.tr E_392 E_408
    refine go_aload_n (n := 0) (by decide +kernel) l_327 f_334 ?_
    refine go_getf (x := 189) (ci := 13) (kf := 65) (fin := 1) (t := 2) (by decide +kernel) (by decide +kernel) (by decide +kernel) R_407 f_334 (fx_k (c := 13) R_407 (by decide +kernel)) fun v_411 f_412 => ?_
    have f_413 := q_is_eq (b := 125) f_412 (fx_v R_407 (by decide +kernel)).symm
    refine go_iload (n := 5) (by decide +kernel) l_330 f_337 ?_
    refine go_aload_n (n := 0) (by decide +kernel) l_327 f_334 ?_
    refine go_getf (x := 82) (ci := 13) (kf := 26) (fin := 1) (t := 2) (by decide +kernel) (by decide +kernel) (by decide +kernel) R_407 f_334 (fx_k (c := 13) R_407 (by decide +kernel)) fun v_414 f_415 => ?_
    have f_416 := q_is_eq (b := 93) f_415 (fx_v R_407 (by decide +kernel)).symm
    refine go_iload_n (n := 3) (by decide +kernel) l_329 f_336 ?_
    obtain ⟨x_420, e_421, h⟩ := lx_s h
    refine go_iald (kd := 100) (by decide +kernel) rfl R_407 f_416 f_336 (fx_k (c := 100) R_407 (by decide +kernel)) (fx_x (a := 93) (ln := 30) R_407 (by decide +kernel) g_231) fun v_417 f_418 => ?_
    have f_419 := q_is_eq f_418 e_421
    obtain ⟨m_422, e_423, h⟩ := up_s h
    refine go_iast (kd := 100) (by decide +kernel) rfl R_407 f_413 f_337 f_419 (fx_k (c := 100) R_407 (by decide +kernel)) (fx_x (a := 125) (ln := 90) R_407 (by decide +kernel) g_385) e_423 (fx_a R_407.2 (fx_k (c := 100) R_407 (by decide +kernel)) (And.left (fx_x (a := 125) (ln := 90) R_407 (by decide +kernel) g_385)) (by decide +kernel)) fun S_424 R_425 E_426 => ?_
    have E_428 := Ext.tr E_410 E_426
    refine go_aload_n (n := 0) (by decide +kernel) l_327 f_334 ?_
    refine go_getf (x := 192) (ci := 13) (kf := 66) (fin := 1) (t := 2) (by decide +kernel) (by decide +kernel) (by decide +kernel) R_425 f_334 (fx_k (c := 13) R_425 (by decide +kernel)) fun v_429 f_430 => ?_
    have f_431 := q_is_eq (b := 126) f_430 (fx_v R_425 (by decide +kernel)).symm
    refine go_iload (n := 5) (by decide +kernel) l_330 f_337 ?_
    refine go_iload (n := 7) (by decide +kernel) l_331 f_338 ?_
    obtain ⟨m_432, e_433, h⟩ := up_s h
    refine go_iast (kd := 100) (by decide +kernel) rfl R_425 f_431 f_337 f_338 (fx_k (c := 100) R_425 (by decide +kernel)) (fx_x (a := 126) (ln := 90) R_425 (by decide +kernel) g_385) e_433 (fx_a R_425.2 (fx_k (c := 100) R_425 (by decide +kernel)) (And.left (fx_x (a := 126) (ln := 90) R_425 (by decide +kernel) g_385)) (by decide +kernel)) fun S_434 R_435 E_436 => ?_
    have E_438 := Ext.tr E_428 E_436
    refine go_aload_n (n := 0) (by decide +kernel) l_327 f_334 ?_
    refine go_getf (x := 195) (ci := 13) (kf := 67) (fin := 1) (t := 2) (by decide +kernel) (by decide +kernel) (by decide +kernel) R_435 f_334 (fx_k (c := 13) R_435 (by decide +kernel)) fun v_439 f_440 => ?_
    have f_441 := q_is_eq (b := 127) f_440 (fx_v R_435 (by decide +kernel)).symm
    refine go_iload (n := 5) (by decide +kernel) l_330 f_337 ?_
    refine go_iload (n := 8) (by decide +kernel) l_332 f_339 ?_
    obtain ⟨m_442, e_443, h⟩ := up_s h
    refine go_iast (kd := 100) (by decide +kernel) rfl R_435 f_441 f_337 f_339 (fx_k (c := 100) R_435 (by decide +kernel)) (fx_x (a := 127) (ln := 90) R_435 (by decide +kernel) g_385) e_443 (fx_a R_435.2 (fx_k (c := 100) R_435 (by decide +kernel)) (And.left (fx_x (a := 127) (ln := 90) R_435 (by decide +kernel) g_385)) (by decide +kernel)) fun S_444 R_445 E_446 => ?_
    have E_448 := Ext.tr E_438 E_446
    refine go_iconst (n := 0) (z := 0) (by decide +kernel) (by decide) fun v_449 f_450 => ?_
    refine go_istore (n := 10) (by decide +kernel) (by decide +kernel) f_450 fun L_451 l_452 kp_453 => ?_
    have l_454 := kp_453 0 _ l_327 (by decide) (Or.inl (by decide))
    have l_455 := kp_453 3 _ l_329 (by decide) (Or.inl (by decide))
    have l_456 := kp_453 9 _ l_333 (by decide) (Or.inr (q_is_cat f_340 (Or.inl rfl)))
    refine ol_X12_complete_357 hd   (fun b => hQ (Ext.tr E_448 b)) BIG (Ext.rf _) h R_445 l_454 f_334 l_455 f_336 l_456 f_340 l_452 f_450
  · have h := it_f hp_225 h
    refine go_aload_n (n := 0) (by decide +kernel) l0 f0 ?_
    refine go_getf (x := 52) (ci := 13) (kf := 16) (fin := 1) (t := 2) (by decide +kernel) (by decide +kernel) (by decide +kernel) R f0 (fx_k (c := 13) R (by decide +kernel)) fun v_522 f_523 => ?_
    have f_524 := q_is_eq (b := 83) f_523 (fx_v R (by decide +kernel)).symm
    refine go_iload_n (n := 3) (by decide +kernel) l3 f3 ?_
    refine go_bipush (n := 6) (z := 6) (by decide +kernel) (by decide) fun v_525 f_526 => ?_
    obtain ⟨g_527, h⟩ := gd_s h
    obtain ⟨m_528, e_529, h⟩ := up_s h
    refine go_iast (kd := 100) (by decide +kernel) rfl R f_524 f3 f_526 (fx_k (c := 100) R (by decide +kernel)) (fx_x (a := 83) (ln := 30) R (by decide +kernel) g_527) e_529 (fx_a R.2 (fx_k (c := 100) R (by decide +kernel)) (And.left (fx_x (a := 83) (ln := 30) R (by decide +kernel) g_527)) (by decide +kernel)) fun S_530 R_531 E_532 => ?_
    have E_534 := E_532
    refine go_aload_n (n := 0) (by decide +kernel) l0 f0 ?_
    refine go_getf (x := 85) (ci := 13) (kf := 27) (fin := 1) (t := 2) (by decide +kernel) (by decide +kernel) (by decide +kernel) R_531 f0 (fx_k (c := 13) R_531 (by decide +kernel)) fun v_535 f_536 => ?_
    have f_537 := q_is_eq (b := 94) f_536 (fx_v R_531 (by decide +kernel)).symm
    refine go_iload_n (n := 3) (by decide +kernel) l3 f3 ?_
    refine go_aload_n (n := 0) (by decide +kernel) l0 f0 ?_
    obtain ⟨x_541, e_542, h⟩ := lx_s h
    refine go_getf (x := 378) (ci := 13) (kf := 115) (fin := 0) (t := 0) (by decide +kernel) (by decide +kernel) (by decide +kernel) R_531 f0 (fx_k (c := 13) R_531 (by decide +kernel)) fun v_538 f_539 => ?_
    have f_540 := q_is_eq f_539 e_542
    obtain ⟨m_543, e_544, h⟩ := up_s h
    refine go_iast (kd := 100) (by decide +kernel) rfl R_531 f_537 f3 f_540 (fx_k (c := 100) R_531 (by decide +kernel)) (fx_x (a := 94) (ln := 30) R_531 (by decide +kernel) g_527) e_544 (fx_a R_531.2 (fx_k (c := 100) R_531 (by decide +kernel)) (And.left (fx_x (a := 94) (ln := 30) R_531 (by decide +kernel) g_527)) (by decide +kernel)) fun S_545 R_546 E_547 => ?_
    have E_549 := Ext.tr E_534 E_547
    refine go_bipush (n := (-2)) (z := (-2)) (by decide +kernel) (by decide) fun v_550 f_551 => ?_
    cases h
    exact go_iret (by decide +kernel) rfl (Or.inl rfl) f_551 (hQ E_549 _ _ R_546 (q_out_v (by decide) f_551))
noncomputable def fj_X12_complete_144 (y1 y3 y5 y7 s0 : Int) (m : MM) : Option (Int × MM) := gd (0 ≤ y3 ∧ y3 < 30) <| lx (m 82 y3) fun x_191 =>
gd (0 ≤ y1 ∧ y1 < 4096) <| lx (m 114 y1) fun x_200 =>
bd (fm_X12_tellsRun y3 x_191 x_200 y7 s0 m) fun x_203 m_204 =>
lx (m_204 68 114) fun x_217 =>
if x_217 = 0 then
bd (fm_X12_nextCommand m_204) fun x_553 m_554 =>
lx (m_554 68 124) fun x_567 =>
if x_553 < x_567 then
bd (fm_X12_nextCommand m_554) fun x_571 m_572 =>
bd (fm_X12_differs x_571 m_572) fun x_583 m_584 =>
fj_X12_complete_193 y1 y3 y5 y7 s0 m_584
else
fj_X12_complete_193 y1 y3 y5 y7 s0 m_554
else
fj_X12_complete_193 y1 y3 y5 y7 s0 m_204
set_option maxHeartbeats 4000000 in
theorem oj_X12_complete_144 {xs : List Int32} {d : Nat} {S : QS} {L : QL} {Q : QO → QS → Prop} {m : MM} {y1 y3 y5 y7 s0 : Int} {v0 : Value} {v1 : Value} {v3 : Value} {v5 : Value} {v7 : Value} {w0 : Value}  {rz : Int} {rm : MM}
  (hd : 14 ≤ d) (R : Rp S m) (l0 : q_lo L 0 = some v0) (f0 : q_is 2 v0 68) (l1 : q_lo L 1 = some v1) (f1 : q_is 0 v1 y1) (l3 : q_lo L 3 = some v3) (f3 : q_is 0 v3 y3) (l5 : q_lo L 5 = some v5) (f5 : q_is 0 v5 y5) (l7 : q_lo L 7 = some v7) (f7 : q_is 0 v7 y7) (fs0 : q_is 0 w0 s0)
  (hQ : Ext m rm → ∀ o S1, Rp S1 rm → q_out 0 o rz → Q o S1)
  (h : fj_X12_complete_144 y1 y3 y5 y7 s0 m = some (rz, rm)) : Go xs d qM_X12_complete 144 L [w0] S Q := by
  unfold fj_X12_complete_144 at h
  refine go_istore (n := 8) (by decide +kernel) (by decide +kernel) fs0 fun L_176 l_177 kp_178 => ?_
  have l_179 := kp_178 0 _ l0 (by decide) (Or.inl (by decide))
  have l_180 := kp_178 1 _ l1 (by decide) (Or.inl (by decide))
  have l_181 := kp_178 3 _ l3 (by decide) (Or.inl (by decide))
  have l_182 := kp_178 5 _ l5 (by decide) (Or.inl (by decide))
  have l_183 := kp_178 7 _ l7 (by decide) (Or.inr (q_is_cat f7 (Or.inl rfl)))
  refine go_aload_n (n := 0) (by decide +kernel) l_179 f0 ?_
  refine go_iload_n (n := 3) (by decide +kernel) l_181 f3 ?_
  refine go_aload_n (n := 0) (by decide +kernel) l_179 f0 ?_
  refine go_getf (x := 49) (ci := 13) (kf := 15) (fin := 1) (t := 2) (by decide +kernel) (by decide +kernel) (by decide +kernel) R f0 (fx_k (c := 13) R (by decide +kernel)) fun v_184 f_185 => ?_
  have f_186 := q_is_eq (b := 82) f_185 (fx_v R (by decide +kernel)).symm
  refine go_iload_n (n := 3) (by decide +kernel) l_181 f3 ?_
  obtain ⟨g_189, h⟩ := gd_s h
  obtain ⟨x_191, e_192, h⟩ := lx_s h
  refine go_iald (kd := 100) (by decide +kernel) rfl R f_186 f3 (fx_k (c := 100) R (by decide +kernel)) (fx_x (a := 82) (ln := 30) R (by decide +kernel) g_189) fun v_187 f_188 => ?_
  have f_190 := q_is_eq f_188 e_192
  refine go_aload_n (n := 0) (by decide +kernel) l_179 f0 ?_
  refine go_getf (x := 155) (ci := 13) (kf := 54) (fin := 1) (t := 2) (by decide +kernel) (by decide +kernel) (by decide +kernel) R f0 (fx_k (c := 13) R (by decide +kernel)) fun v_193 f_194 => ?_
  have f_195 := q_is_eq (b := 114) f_194 (fx_v R (by decide +kernel)).symm
  refine go_iload_n (n := 1) (by decide +kernel) l_180 f1 ?_
  obtain ⟨g_198, h⟩ := gd_s h
  obtain ⟨x_200, e_201, h⟩ := lx_s h
  refine go_iald (kd := 100) (by decide +kernel) rfl R f_195 f1 (fx_k (c := 100) R (by decide +kernel)) (fx_x (a := 114) (ln := 4096) R (by decide +kernel) g_198) fun v_196 f_197 => ?_
  have f_199 := q_is_eq f_197 e_201
  refine go_iload (n := 7) (by decide +kernel) l_183 f7 ?_
  refine go_iload (n := 8) (by decide +kernel) l_177 fs0 ?_
  obtain ⟨x_203, m_204, hc_202, h⟩ := bd_s h
  refine go_callV (x := 545) (mi := 249) (n := 5) (ci := 13) (as := [v3, v_187, v_196, v7, w0]) (rest := []) (by decide +kernel) (by decide +kernel) rfl rfl (q_sum8 _ (Nat.le_of_ble_eq_true rfl)) R f0 (fx_k (c := 13) R (by decide +kernel)) (om_X12_tellsRun (Nat.le_trans (by decide) hd) R f0 f3 f_190 f_199 f7 fs0 hc_202) (fun _ S_207 q_210 => ?_) (fun _ _ qq => kr_x qq)
  refine kr_v q_210 fun R_208 E_209 => ?_
  have E_213 := E_209
  refine go_aload_n (n := 0) (by decide +kernel) l_179 f0 ?_
  obtain ⟨x_217, e_218, h⟩ := lx_s h
  refine go_getf (x := 374) (ci := 13) (kf := 114) (fin := 0) (t := 0) (by decide +kernel) (by decide +kernel) (by decide +kernel) R_208 f0 (fx_k (c := 13) R_208 (by decide +kernel)) fun v_214 f_215 => ?_
  have f_216 := q_is_eq f_215 e_218
  refine go_if (c := .ne) (o := 22) (t := 193) (P := ¬ (x_217 = 0)) (by decide +kernel) (by decide +kernel) f_216 (Iff.rfl) (fun hp_219 => ?_) (fun hp_219 => ?_)
  · have h := it_f hp_219 h
    exact oj_X12_complete_193 hd R_208 l_179 f0 l_180 f1 l_181 f3 l_182 f5 l_183 f7 l_177 fs0 (fun b => hQ (Ext.tr E_213 b)) h
  · have h := it_n hp_219 h
    refine go_aload_n (n := 0) (by decide +kernel) l_179 f0 ?_
    obtain ⟨x_553, m_554, hc_552, h⟩ := bd_s h
    refine go_callV (x := 393) (mi := 219) (n := 0) (ci := 13) (as := []) (rest := []) (by decide +kernel) (by decide +kernel) rfl rfl (q_sum8 _ (Nat.le_of_ble_eq_true rfl)) R_208 f0 (fx_k (c := 13) R_208 (by decide +kernel)) (om_X12_nextCommand (Nat.le_trans (by decide) hd) R_208 f0 hc_552) (fun _ S_557 q_560 => ?_) (fun _ _ qq => kr_x qq)
    refine kr_z (by decide) q_560 fun v_555 f_556 R_558 E_559 => ?_
    have E_563 := Ext.tr E_213 E_559
    refine go_aload_n (n := 0) (by decide +kernel) l_179 f0 ?_
    obtain ⟨x_567, e_568, h⟩ := lx_s h
    refine go_getf (x := 384) (ci := 13) (kf := 124) (fin := 0) (t := 0) (by decide +kernel) (by decide +kernel) (by decide +kernel) R_558 f0 (fx_k (c := 13) R_558 (by decide +kernel)) fun v_564 f_565 => ?_
    have f_566 := q_is_eq f_565 e_568
    refine go_icmp (c := .ge) (o := 11) (t := 193) (P := ¬ (x_553 < x_567)) (by decide +kernel) (by decide +kernel) f_556 f_566 (Int.not_lt.symm) (fun hp_569 => ?_) (fun hp_569 => ?_)
    · have h := it_f hp_569 h
      exact oj_X12_complete_193 hd R_558 l_179 f0 l_180 f1 l_181 f3 l_182 f5 l_183 f7 l_177 fs0 (fun b => hQ (Ext.tr E_563 b)) h
    · have h := it_n hp_569 h
      refine go_aload_n (n := 0) (by decide +kernel) l_179 f0 ?_
      refine go_aload_n (n := 0) (by decide +kernel) l_179 f0 ?_
      obtain ⟨x_571, m_572, hc_570, h⟩ := bd_s h
      refine go_callV (x := 393) (mi := 219) (n := 0) (ci := 13) (as := []) (rest := [v0]) (by decide +kernel) (by decide +kernel) rfl rfl (q_sum8 _ (Nat.le_of_ble_eq_true rfl)) R_558 f0 (fx_k (c := 13) R_558 (by decide +kernel)) (om_X12_nextCommand (Nat.le_trans (by decide) hd) R_558 f0 hc_570) (fun _ S_575 q_578 => ?_) (fun _ _ qq => kr_x qq)
      refine kr_z (by decide) q_578 fun v_573 f_574 R_576 E_577 => ?_
      have E_581 := Ext.tr E_563 E_577
      obtain ⟨x_583, m_584, hc_582, h⟩ := bd_s h
      refine go_callV (x := 400) (mi := 218) (n := 1) (ci := 13) (as := [v_573]) (rest := []) (by decide +kernel) (by decide +kernel) rfl rfl (q_sum8 _ (Nat.le_of_ble_eq_true rfl)) R_576 f0 (fx_k (c := 13) R_576 (by decide +kernel)) (om_X12_differs (Nat.le_trans (by decide) hd) R_576 f0 f_574 hc_582) (fun _ S_587 q_590 => ?_) (fun _ _ qq => kr_x qq)
      refine kr_v q_590 fun R_588 E_589 => ?_
      have E_593 := Ext.tr E_581 E_589
      exact oj_X12_complete_193 hd R_588 l_179 f0 l_180 f1 l_181 f3 l_182 f5 l_183 f7 l_177 fs0 (fun b => hQ (Ext.tr E_593 b)) h
noncomputable def fj_X12_complete_121 (y1 y3 y5 y6 s0 : Int) (m : MM) : Option (Int × MM) := if y6 = 0 then
gd (0 ≤ y3 ∧ y3 < 30) <| lx (m 91 y3) fun x_174 =>
fj_X12_complete_144 y1 y3 y5 s0 x_174 m
else
gd (0 ≤ y5 ∧ y5 < 90) <| lx (m 127 y5) fun x_601 =>
fj_X12_complete_144 y1 y3 y5 s0 x_601 m
set_option maxHeartbeats 4000000 in
theorem oj_X12_complete_121 {xs : List Int32} {d : Nat} {S : QS} {L : QL} {Q : QO → QS → Prop} {m : MM} {y1 y3 y5 y6 s0 : Int} {v0 : Value} {v1 : Value} {v3 : Value} {v5 : Value} {v6 : Value} {w0 : Value}  {rz : Int} {rm : MM}
  (hd : 14 ≤ d) (R : Rp S m) (l0 : q_lo L 0 = some v0) (f0 : q_is 2 v0 68) (l1 : q_lo L 1 = some v1) (f1 : q_is 0 v1 y1) (l3 : q_lo L 3 = some v3) (f3 : q_is 0 v3 y3) (l5 : q_lo L 5 = some v5) (f5 : q_is 0 v5 y5) (l6 : q_lo L 6 = some v6) (f6 : q_is 0 v6 y6) (fs0 : q_is 0 w0 s0)
  (hQ : Ext m rm → ∀ o S1, Rp S1 rm → q_out 0 o rz → Q o S1)
  (h : fj_X12_complete_121 y1 y3 y5 y6 s0 m = some (rz, rm)) : Go xs d qM_X12_complete 121 L [w0] S Q := by
  unfold fj_X12_complete_121 at h
  refine go_istore (n := 7) (by decide +kernel) (by decide +kernel) fs0 fun L_158 l_159 kp_160 => ?_
  have l_161 := kp_160 0 _ l0 (by decide) (Or.inl (by decide))
  have l_162 := kp_160 1 _ l1 (by decide) (Or.inl (by decide))
  have l_163 := kp_160 3 _ l3 (by decide) (Or.inl (by decide))
  have l_164 := kp_160 5 _ l5 (by decide) (Or.inl (by decide))
  have l_165 := kp_160 6 _ l6 (by decide) (Or.inr (q_is_cat f6 (Or.inl rfl)))
  refine go_iload (n := 6) (by decide +kernel) l_165 f6 ?_
  refine go_if (c := .eq) (o := 13) (t := 138) (P := y6 = 0) (by decide +kernel) (by decide +kernel) f6 (Iff.rfl) (fun hp_166 => ?_) (fun hp_166 => ?_)
  · have h := it_t hp_166 h
    refine go_aload_n (n := 0) (by decide +kernel) l_161 f0 ?_
    refine go_getf (x := 76) (ci := 13) (kf := 24) (fin := 1) (t := 2) (by decide +kernel) (by decide +kernel) (by decide +kernel) R f0 (fx_k (c := 13) R (by decide +kernel)) fun v_167 f_168 => ?_
    have f_169 := q_is_eq (b := 91) f_168 (fx_v R (by decide +kernel)).symm
    refine go_iload_n (n := 3) (by decide +kernel) l_163 f3 ?_
    obtain ⟨g_172, h⟩ := gd_s h
    obtain ⟨x_174, e_175, h⟩ := lx_s h
    refine go_iald (kd := 100) (by decide +kernel) rfl R f_169 f3 (fx_k (c := 100) R (by decide +kernel)) (fx_x (a := 91) (ln := 30) R (by decide +kernel) g_172) fun v_170 f_171 => ?_
    have f_173 := q_is_eq f_171 e_175
    exact oj_X12_complete_144 hd R l_161 f0 l_162 f1 l_163 f3 l_164 f5 l_159 fs0 f_173 hQ h
  · have h := it_f hp_166 h
    refine go_aload_n (n := 0) (by decide +kernel) l_161 f0 ?_
    refine go_getf (x := 195) (ci := 13) (kf := 67) (fin := 1) (t := 2) (by decide +kernel) (by decide +kernel) (by decide +kernel) R f0 (fx_k (c := 13) R (by decide +kernel)) fun v_594 f_595 => ?_
    have f_596 := q_is_eq (b := 127) f_595 (fx_v R (by decide +kernel)).symm
    refine go_iload (n := 5) (by decide +kernel) l_164 f5 ?_
    obtain ⟨g_599, h⟩ := gd_s h
    obtain ⟨x_601, e_602, h⟩ := lx_s h
    refine go_iald (kd := 100) (by decide +kernel) rfl R f_596 f5 (fx_k (c := 100) R (by decide +kernel)) (fx_x (a := 127) (ln := 90) R (by decide +kernel) g_599) fun v_597 f_598 => ?_
    have f_600 := q_is_eq f_598 e_602
    refine go_goto (o := 9) (t := 144) (by decide +kernel) (by decide +kernel) ?_
    exact oj_X12_complete_144 hd R l_161 f0 l_162 f1 l_163 f3 l_164 f5 l_159 fs0 f_600 hQ h
noncomputable def fj_X12_complete_98 (y1 y3 y5 y6 s0 s1 s2 s3 : Int) (m : MM) : Option (Int × MM) := gd (okc m s3 100) <| gd (okx m s3 s2) <| up m s3 s2 (w32 (s1 + s0)) fun m_141 =>
if y6 = 0 then
gd (0 ≤ y3 ∧ y3 < 30) <| lx (m_141 86 y3) fun x_156 =>
fj_X12_complete_121 y1 y3 y5 y6 x_156 m_141
else
gd (0 ≤ y5 ∧ y5 < 90) <| lx (m_141 126 y5) fun x_610 =>
fj_X12_complete_121 y1 y3 y5 y6 x_610 m_141
set_option maxHeartbeats 4000000 in
theorem oj_X12_complete_98 {xs : List Int32} {d : Nat} {S : QS} {L : QL} {Q : QO → QS → Prop} {m : MM} {y1 y3 y5 y6 s0 s1 s2 s3 : Int} {v0 : Value} {v1 : Value} {v3 : Value} {v5 : Value} {v6 : Value} {w0 : Value} {w1 : Value} {w2 : Value} {w3 : Value}  {rz : Int} {rm : MM}
  (hd : 14 ≤ d) (R : Rp S m) (l0 : q_lo L 0 = some v0) (f0 : q_is 2 v0 68) (l1 : q_lo L 1 = some v1) (f1 : q_is 0 v1 y1) (l3 : q_lo L 3 = some v3) (f3 : q_is 0 v3 y3) (l5 : q_lo L 5 = some v5) (f5 : q_is 0 v5 y5) (l6 : q_lo L 6 = some v6) (f6 : q_is 0 v6 y6) (fs0 : q_is 0 w0 s0) (fs1 : q_is 0 w1 s1) (fs2 : q_is 0 w2 s2) (fs3 : q_is 2 w3 s3)
  (hQ : Ext m rm → ∀ o S1, Rp S1 rm → q_out 0 o rz → Q o S1)
  (h : fj_X12_complete_98 y1 y3 y5 y6 s0 s1 s2 s3 m = some (rz, rm)) : Go xs d qM_X12_complete 98 L [w0, w1, w2, w3] S Q := by
  unfold fj_X12_complete_98 at h
  refine go_iadd (by decide +kernel) fs1 fs0 fun v_137 f_138 => ?_
  obtain ⟨g_139, h⟩ := gd_s h
  obtain ⟨g_140, h⟩ := gd_s h
  obtain ⟨m_141, e_142, h⟩ := up_s h
  refine go_iast (kd := 100) (by decide +kernel) rfl R fs3 fs2 f_138 g_139 g_140 e_142 (fx_a R.2 g_139 (And.left g_140) (by decide +kernel)) fun S_143 R_144 E_145 => ?_
  have E_147 := E_145
  refine go_iload (n := 6) (by decide +kernel) l6 f6 ?_
  refine go_if (c := .eq) (o := 13) (t := 115) (P := y6 = 0) (by decide +kernel) (by decide +kernel) f6 (Iff.rfl) (fun hp_148 => ?_) (fun hp_148 => ?_)
  · have h := it_t hp_148 h
    refine go_aload_n (n := 0) (by decide +kernel) l0 f0 ?_
    refine go_getf (x := 61) (ci := 13) (kf := 19) (fin := 1) (t := 2) (by decide +kernel) (by decide +kernel) (by decide +kernel) R_144 f0 (fx_k (c := 13) R_144 (by decide +kernel)) fun v_149 f_150 => ?_
    have f_151 := q_is_eq (b := 86) f_150 (fx_v R_144 (by decide +kernel)).symm
    refine go_iload_n (n := 3) (by decide +kernel) l3 f3 ?_
    obtain ⟨g_154, h⟩ := gd_s h
    obtain ⟨x_156, e_157, h⟩ := lx_s h
    refine go_iald (kd := 100) (by decide +kernel) rfl R_144 f_151 f3 (fx_k (c := 100) R_144 (by decide +kernel)) (fx_x (a := 86) (ln := 30) R_144 (by decide +kernel) g_154) fun v_152 f_153 => ?_
    have f_155 := q_is_eq f_153 e_157
    exact oj_X12_complete_121 hd R_144 l0 f0 l1 f1 l3 f3 l5 f5 l6 f6 f_155 (fun b => hQ (Ext.tr E_147 b)) h
  · have h := it_f hp_148 h
    refine go_aload_n (n := 0) (by decide +kernel) l0 f0 ?_
    refine go_getf (x := 192) (ci := 13) (kf := 66) (fin := 1) (t := 2) (by decide +kernel) (by decide +kernel) (by decide +kernel) R_144 f0 (fx_k (c := 13) R_144 (by decide +kernel)) fun v_603 f_604 => ?_
    have f_605 := q_is_eq (b := 126) f_604 (fx_v R_144 (by decide +kernel)).symm
    refine go_iload (n := 5) (by decide +kernel) l5 f5 ?_
    obtain ⟨g_608, h⟩ := gd_s h
    obtain ⟨x_610, e_611, h⟩ := lx_s h
    refine go_iald (kd := 100) (by decide +kernel) rfl R_144 f_605 f5 (fx_k (c := 100) R_144 (by decide +kernel)) (fx_x (a := 126) (ln := 90) R_144 (by decide +kernel) g_608) fun v_606 f_607 => ?_
    have f_609 := q_is_eq f_607 e_611
    refine go_goto (o := 9) (t := 121) (by decide +kernel) (by decide +kernel) ?_
    exact oj_X12_complete_121 hd R_144 l0 f0 l1 f1 l3 f3 l5 f5 l6 f6 f_609 (fun b => hQ (Ext.tr E_147 b)) h
noncomputable def fj_X12_complete_20 (y1 s0 : Int) (m : MM) : Option (Int × MM) := bd (fm_X12_fails s0 m) fun x_25 m_26 =>
if x_25 = 0 then
bp (fm_X12_isStale y1 m_26) fun x_38 =>
gd (0 ≤ y1 ∧ y1 < 4096) <| up m_26 119 y1 1 fun m_57 =>
if x_38 = 0 then
lx (m_57 113 y1) fun x_71 =>
lx (m_57 112 y1) fun x_84 =>
lx (w32 ((w32 (30 * x_84)) + x_71)) fun x_98 =>
bp (fm_X12_hasState x_84 x_71 m_57) fun x_109 =>
gd (0 ≤ x_84 ∧ x_84 < 3) <| lx (m_57 122 x_84) fun x_132 =>
if x_109 = 0 then
fj_X12_complete_98 y1 x_71 x_98 x_109 1 x_132 x_84 122 m_57
else
fj_X12_complete_98 y1 x_71 x_98 x_109 0 x_132 x_84 122 m_57
else
some ((-1), m_57)
else
some (0, m_26)
set_option maxHeartbeats 4000000 in
theorem oj_X12_complete_20 {xs : List Int32} {d : Nat} {S : QS} {L : QL} {Q : QO → QS → Prop} {m : MM} {y1 s0 : Int} {v0 : Value} {v1 : Value} {w0 : Value} {w1 : Value}  {rz : Int} {rm : MM}
  (hd : 14 ≤ d) (R : Rp S m) (l0 : q_lo L 0 = some v0) (f0 : q_is 2 v0 68) (l1 : q_lo L 1 = some v1) (f1 : q_is 0 v1 y1) (fs0 : q_is 0 w0 s0) (fs1 : q_is 2 w1 68)
  (hQ : Ext m rm → ∀ o S1, Rp S1 rm → q_out 0 o rz → Q o S1)
  (h : fj_X12_complete_20 y1 s0 m = some (rz, rm)) : Go xs d qM_X12_complete 20 L [w0, w1] S Q := by
  unfold fj_X12_complete_20 at h
  obtain ⟨x_25, m_26, hc_24, h⟩ := bd_s h
  refine go_callV (x := 324) (mi := 186) (n := 1) (ci := 13) (as := [w0]) (rest := []) (by decide +kernel) (by decide +kernel) rfl rfl (q_sum8 _ (Nat.le_of_ble_eq_true rfl)) R fs1 (fx_k (c := 13) R (by decide +kernel)) (om_X12_fails (Nat.le_trans (by decide) hd) R fs1 fs0 hc_24) (fun _ S_29 q_32 => ?_) (fun _ _ qq => kr_x qq)
  refine kr_z (by decide) q_32 fun v_27 f_28 R_30 E_31 => ?_
  have E_35 := E_31
  refine go_if (c := .eq) (o := 5) (t := 28) (P := x_25 = 0) (by decide +kernel) (by decide +kernel) f_28 (Iff.rfl) (fun hp_36 => ?_) (fun hp_36 => ?_)
  · have h := it_t hp_36 h
    refine go_aload_n (n := 0) (by decide +kernel) l0 f0 ?_
    refine go_iload_n (n := 1) (by decide +kernel) l1 f1 ?_
    obtain ⟨x_38, hc_37, h⟩ := bp_s h
    refine go_callV (x := 614) (mi := 277) (n := 1) (ci := 13) (as := [v1]) (rest := []) (by decide +kernel) (by decide +kernel) rfl rfl (q_sum8 _ (Nat.le_of_ble_eq_true rfl)) R_30 f0 (fx_k (c := 13) R_30 (by decide +kernel)) (om_X12_isStale (Nat.le_trans (by decide) hd) R_30 f0 f1 hc_37) (fun _ S_42 q_45 => ?_) (fun _ _ qq => kr_x qq)
    refine kr_z (by decide) q_45 fun v_40 f_41 R_43 E_44 => ?_
    refine go_istore_n (n := 2) (by decide +kernel) (by decide +kernel) f_41 fun L_46 l_47 kp_48 => ?_
    have l_49 := kp_48 0 _ l0 (by decide) (Or.inl (by decide))
    have l_50 := kp_48 1 _ l1 (by decide) (Or.inr (q_is_cat f1 (Or.inl rfl)))
    refine go_aload_n (n := 0) (by decide +kernel) l_49 f0 ?_
    refine go_getf (x := 170) (ci := 13) (kf := 59) (fin := 1) (t := 2) (by decide +kernel) (by decide +kernel) (by decide +kernel) R_43 f0 (fx_k (c := 13) R_43 (by decide +kernel)) fun v_51 f_52 => ?_
    have f_53 := q_is_eq (b := 119) f_52 (fx_v R_43 (by decide +kernel)).symm
    refine go_iload_n (n := 1) (by decide +kernel) l_50 f1 ?_
    refine go_iconst (n := 1) (z := 1) (by decide +kernel) (by decide) fun v_54 f_55 => ?_
    obtain ⟨g_56, h⟩ := gd_s h
    obtain ⟨m_57, e_58, h⟩ := up_s h
    refine go_bast (kd := 102) (by decide +kernel) rfl R_43 f_53 f1 f_55 (by decide) (fx_k (c := 102) R_43 (by decide +kernel)) (fx_x (a := 119) (ln := 4096) R_43 (by decide +kernel) g_56) e_58 (fx_a R_43.2 (fx_k (c := 102) R_43 (by decide +kernel)) (And.left (fx_x (a := 119) (ln := 4096) R_43 (by decide +kernel) g_56)) (by decide +kernel)) fun S_59 R_60 E_61 => ?_
    have E_63 := Ext.tr E_35 E_61
    refine go_iload_n (n := 2) (by decide +kernel) l_47 f_41 ?_
    refine go_if (c := .eq) (o := 5) (t := 47) (P := x_38 = 0) (by decide +kernel) (by decide +kernel) f_41 (Iff.rfl) (fun hp_64 => ?_) (fun hp_64 => ?_)
    · have h := it_t hp_64 h
      refine go_aload_n (n := 0) (by decide +kernel) l_49 f0 ?_
      refine go_getf (x := 152) (ci := 13) (kf := 53) (fin := 1) (t := 2) (by decide +kernel) (by decide +kernel) (by decide +kernel) R_60 f0 (fx_k (c := 13) R_60 (by decide +kernel)) fun v_65 f_66 => ?_
      have f_67 := q_is_eq (b := 113) f_66 (fx_v R_60 (by decide +kernel)).symm
      refine go_iload_n (n := 1) (by decide +kernel) l_50 f1 ?_
      obtain ⟨x_71, e_72, h⟩ := lx_s h
      refine go_iald (kd := 100) (by decide +kernel) rfl R_60 f_67 f1 (fx_k (c := 100) R_60 (by decide +kernel)) (fx_x (a := 113) (ln := 4096) R_60 (by decide +kernel) g_56) fun v_68 f_69 => ?_
      have f_70 := q_is_eq f_69 e_72
      refine go_istore_n (n := 3) (by decide +kernel) (by decide +kernel) f_70 fun L_73 l_74 kp_75 => ?_
      have l_76 := kp_75 0 _ l_49 (by decide) (Or.inl (by decide))
      have l_77 := kp_75 1 _ l_50 (by decide) (Or.inl (by decide))
      refine go_aload_n (n := 0) (by decide +kernel) l_76 f0 ?_
      refine go_getf (x := 149) (ci := 13) (kf := 52) (fin := 1) (t := 2) (by decide +kernel) (by decide +kernel) (by decide +kernel) R_60 f0 (fx_k (c := 13) R_60 (by decide +kernel)) fun v_78 f_79 => ?_
      have f_80 := q_is_eq (b := 112) f_79 (fx_v R_60 (by decide +kernel)).symm
      refine go_iload_n (n := 1) (by decide +kernel) l_77 f1 ?_
      obtain ⟨x_84, e_85, h⟩ := lx_s h
      refine go_iald (kd := 100) (by decide +kernel) rfl R_60 f_80 f1 (fx_k (c := 100) R_60 (by decide +kernel)) (fx_x (a := 112) (ln := 4096) R_60 (by decide +kernel) g_56) fun v_81 f_82 => ?_
      have f_83 := q_is_eq f_82 e_85
      refine go_istore (n := 4) (by decide +kernel) (by decide +kernel) f_83 fun L_86 l_87 kp_88 => ?_
      have l_89 := kp_88 0 _ l_76 (by decide) (Or.inl (by decide))
      have l_90 := kp_88 1 _ l_77 (by decide) (Or.inl (by decide))
      have l_91 := kp_88 3 _ l_74 (by decide) (Or.inr (q_is_cat f_70 (Or.inl rfl)))
      refine go_bipush (n := 30) (z := 30) (by decide +kernel) (by decide) fun v_92 f_93 => ?_
      refine go_iload (n := 4) (by decide +kernel) l_87 f_83 ?_
      refine go_imul (by decide +kernel) f_93 f_83 fun v_94 f_95 => ?_
      refine go_iload_n (n := 3) (by decide +kernel) l_91 f_70 ?_
      refine go_iadd (by decide +kernel) f_95 f_70 fun v_96 f_97 => ?_
      obtain ⟨x_98, e_99, h⟩ := lx_s h
      have f_100 := q_is_eq f_97 e_99
      refine go_istore (n := 5) (by decide +kernel) (by decide +kernel) f_100 fun L_101 l_102 kp_103 => ?_
      have l_104 := kp_103 0 _ l_89 (by decide) (Or.inl (by decide))
      have l_105 := kp_103 1 _ l_90 (by decide) (Or.inl (by decide))
      have l_106 := kp_103 3 _ l_91 (by decide) (Or.inl (by decide))
      have l_107 := kp_103 4 _ l_87 (by decide) (Or.inr (q_is_cat f_83 (Or.inl rfl)))
      refine go_aload_n (n := 0) (by decide +kernel) l_104 f0 ?_
      refine go_iload (n := 4) (by decide +kernel) l_107 f_83 ?_
      refine go_iload_n (n := 3) (by decide +kernel) l_106 f_70 ?_
      obtain ⟨x_109, hc_108, h⟩ := bp_s h
      refine go_callV (x := 617) (mi := 278) (n := 2) (ci := 13) (as := [v_81, v_68]) (rest := []) (by decide +kernel) (by decide +kernel) rfl rfl (q_sum8 _ (Nat.le_of_ble_eq_true rfl)) R_60 f0 (fx_k (c := 13) R_60 (by decide +kernel)) (om_X12_hasState (Nat.le_trans (by decide) hd) R_60 f0 f_83 f_70 hc_108) (fun _ S_113 q_116 => ?_) (fun _ _ qq => kr_x qq)
      refine kr_z (by decide) q_116 fun v_111 f_112 R_114 E_115 => ?_
      refine go_istore (n := 6) (by decide +kernel) (by decide +kernel) f_112 fun L_117 l_118 kp_119 => ?_
      have l_120 := kp_119 0 _ l_104 (by decide) (Or.inl (by decide))
      have l_121 := kp_119 1 _ l_105 (by decide) (Or.inl (by decide))
      have l_122 := kp_119 3 _ l_106 (by decide) (Or.inl (by decide))
      have l_123 := kp_119 4 _ l_107 (by decide) (Or.inl (by decide))
      have l_124 := kp_119 5 _ l_102 (by decide) (Or.inr (q_is_cat f_100 (Or.inl rfl)))
      refine go_aload_n (n := 0) (by decide +kernel) l_120 f0 ?_
      refine go_getf (x := 180) (ci := 13) (kf := 62) (fin := 1) (t := 2) (by decide +kernel) (by decide +kernel) (by decide +kernel) R_114 f0 (fx_k (c := 13) R_114 (by decide +kernel)) fun v_125 f_126 => ?_
      have f_127 := q_is_eq (b := 122) f_126 (fx_v R_114 (by decide +kernel)).symm
      refine go_iload (n := 4) (by decide +kernel) l_123 f_83 ?_
      refine go_dup2 (by decide +kernel) f_83 (Or.inl rfl) f_127 (Or.inr rfl) ?_
      obtain ⟨g_130, h⟩ := gd_s h
      obtain ⟨x_132, e_133, h⟩ := lx_s h
      refine go_iald (kd := 100) (by decide +kernel) rfl R_114 f_127 f_83 (fx_k (c := 100) R_114 (by decide +kernel)) (fx_x (a := 122) (ln := 3) R_114 (by decide +kernel) g_130) fun v_128 f_129 => ?_
      have f_131 := q_is_eq f_129 e_133
      refine go_iload (n := 6) (by decide +kernel) l_118 f_112 ?_
      refine go_if (c := .eq) (o := 7) (t := 97) (P := x_109 = 0) (by decide +kernel) (by decide +kernel) f_112 (Iff.rfl) (fun hp_134 => ?_) (fun hp_134 => ?_)
      · have h := it_t hp_134 h
        refine go_iconst (n := 1) (z := 1) (by decide +kernel) (by decide) fun v_135 f_136 => ?_
        exact oj_X12_complete_98 hd R_114 l_120 f0 l_121 f1 l_122 f_70 l_124 f_100 l_118 f_112 f_136 f_131 f_83 f_127 (fun b => hQ (Ext.tr E_63 b)) h
      · have h := it_f hp_134 h
        refine go_iconst (n := 0) (z := 0) (by decide +kernel) (by decide) fun v_612 f_613 => ?_
        refine go_goto (o := 4) (t := 98) (by decide +kernel) (by decide +kernel) ?_
        exact oj_X12_complete_98 hd R_114 l_120 f0 l_121 f1 l_122 f_70 l_124 f_100 l_118 f_112 f_613 f_131 f_83 f_127 (fun b => hQ (Ext.tr E_63 b)) h
    · have h := it_f hp_64 h
      refine go_iconst (n := (-1)) (z := (-1)) (by decide +kernel) (by decide) fun v_614 f_615 => ?_
      cases h
      exact go_iret (by decide +kernel) rfl (Or.inl rfl) f_615 (hQ E_63 _ _ R_60 (q_out_v (by decide) f_615))
  · have h := it_f hp_36 h
    refine go_iconst (n := 0) (z := 0) (by decide +kernel) (by decide) fun v_616 f_617 => ?_
    cases h
    exact go_iret (by decide +kernel) rfl (Or.inl rfl) f_617 (hQ E_35 _ _ R_30 (q_out_v (by decide) f_617))
noncomputable def fm_X12_complete (p1 : Int) (m0 : MM) : Option (Int × MM) := lx (m0 68 51) fun x_6 =>
bp (fm_X12_isIn p1 0 (w32 (x_6 - 1)) m0) fun x_13 =>
if x_13 = 0 then
fj_X12_complete_20 p1 1 m0
else
fj_X12_complete_20 p1 0 m0
set_option maxHeartbeats 4000000 in
theorem om_X12_complete {xs : List Int32} {d : Nat} {S : QS} {m0 : MM} {p1 : Int} {v0 : Value} {v1 : Value} {rz : Int} {rm : MM}
  (hd : 15 ≤ d) (R : Rp S m0) (f0 : q_is 2 v0 68) (f1 : q_is 0 v1 p1)
  (h : fm_X12_complete p1 m0 = some (rz, rm)) : Mt xs d 279 [v0, v1] S (Cr 0 m0 rm rz) := by
  obtain ⟨d, rfl⟩ : ∃ e, d = e + 1 := ⟨d - 1, by omega⟩
  have hd : 14 ≤ d := Nat.le_of_succ_le_succ hd
  refine Mt.of (M := qM_X12_complete) rfl (by rw [sl_1 (q_is_cat f0 (Or.inr rfl)), sl_1 (q_is_cat f1 (Or.inl rfl)), sl_0]; decide) ?_
  rw [la_1 (q_is_cat f0 (Or.inr rfl)), la_1 (q_is_cat f1 (Or.inl rfl)), la_0]
  obtain ⟨L, hL⟩ : ∃ L : QL, L = [(0, v0), (0 + 1, v1)] := ⟨_, rfl⟩
  rw [← hL]
  have l0 : q_lo L 0 = some v0 := by rw [hL]; rfl
  have l1 : q_lo L 1 = some v1 := by rw [hL]; rfl
  have hQ : Ext m0 rm → ∀ o S1, Rp S1 rm → q_out 0 o rz → (Cr 0 m0 rm rz) o S1 := fun a o S1 b e => ⟨b, a, e⟩
  unfold fm_X12_complete at h
  refine go_aload_n (n := 0) (by decide +kernel) l0 f0 ?_
  refine go_iload_n (n := 1) (by decide +kernel) l1 f1 ?_
  refine go_iconst (n := 0) (z := 0) (by decide +kernel) (by decide) fun v_1 f_2 => ?_
  refine go_aload_n (n := 0) (by decide +kernel) l0 f0 ?_
  obtain ⟨x_6, e_7, h⟩ := lx_s h
  refine go_getf (x := 599) (ci := 13) (kf := 51) (fin := 0) (t := 0) (by decide +kernel) (by decide +kernel) (by decide +kernel) R f0 (fx_k (c := 13) R (by decide +kernel)) fun v_3 f_4 => ?_
  have f_5 := q_is_eq f_4 e_7
  refine go_iconst (n := 1) (z := 1) (by decide +kernel) (by decide) fun v_8 f_9 => ?_
  refine go_isub (by decide +kernel) f_5 f_9 fun v_10 f_11 => ?_
  obtain ⟨x_13, hc_12, h⟩ := bp_s h
  refine go_callS (x := 306) (mi := 188) (n := 3) (b := 0) (as := [v1, v_1, v_10]) (rest := [v0]) (by decide +kernel) (by decide +kernel) rfl rfl (q_sum8 _ (Nat.le_of_ble_eq_true rfl)) (om_X12_isIn (Nat.le_trans (by decide) hd) R f1 f_2 f_11 hc_12) (fun _ S_17 q_20 => ?_) (fun _ _ qq => kr_x qq)
  refine kr_z (by decide) q_20 fun v_15 f_16 R_18 E_19 => ?_
  refine go_if (c := .eq) (o := 7) (t := 19) (P := x_13 = 0) (by decide +kernel) (by decide +kernel) f_16 (Iff.rfl) (fun hp_21 => ?_) (fun hp_21 => ?_)
  · have h := it_t hp_21 h
    refine go_iconst (n := 1) (z := 1) (by decide +kernel) (by decide) fun v_22 f_23 => ?_
    exact oj_X12_complete_20 hd R_18 l0 f0 l1 f1 f_23 f0 hQ h
  · have h := it_f hp_21 h
    refine go_iconst (n := 0) (z := 0) (by decide +kernel) (by decide) fun v_618 f_619 => ?_
    refine go_goto (o := 4) (t := 20) (by decide +kernel) (by decide +kernel) ?_
    exact oj_X12_complete_20 hd R_18 l0 f0 l1 f1 f_619 f0 hQ h
noncomputable def fj_X12_die_70 (c : Int → Int → MM → Option (Int × MM)) (k103 : Int → MM → Option (Int × MM)) (y1 y3 y4 s0 s1 : Int) (m : MM) : Option (Int × MM) := lx (w32 (s1 + s0)) fun x_71 =>
gd (0 ≤ y3 ∧ y3 < 4096) <| lx (m 119 y3) fun x_91 =>
if x_91 = 0 then
if y4 = 0 then
up m 119 y3 0 fun m_117 =>
lx (w32 (y3 + 1)) fun x_129 =>
c x_71 x_129 m_117
else
up m 119 y3 1 fun m_137 =>
lx (w32 (y3 + 1)) fun x_149 =>
c x_71 x_149 m_137
else
up m 119 y3 1 fun m_96 =>
lx (w32 (y3 + 1)) fun x_108 =>
c x_71 x_108 m_96
set_option maxHeartbeats 4000000 in
theorem oj_X12_die_70 {xs : List Int32} {d : Nat} {S : QS} {L : QL} {Q : QO → QS → Prop} {m : MM} {y1 y3 y4 s0 s1 : Int} {v0 : Value} {v1 : Value} {v3 : Value} {v4 : Value} {w0 : Value} {w1 : Value}  {rz : Int} {rm : MM} {c : Int → Int → MM → Option (Int × MM)} {k103 : Int → MM → Option (Int × MM)} 
  (hd : 2 ≤ d) (R : Rp S m) (l0 : q_lo L 0 = some v0) (f0 : q_is 2 v0 68) (l1 : q_lo L 1 = some v1) (f1 : q_is 0 v1 y1) (l3 : q_lo L 3 = some v3) (f3 : q_is 0 v3 y3) (l4 : q_lo L 4 = some v4) (f4 : q_is 0 v4 y4) (fs0 : q_is 0 w0 s0) (fs1 : q_is 0 w1 s1)
  (hc : ∀ mq : MM, Ext m mq → ∀ {z2 : Int} {z3 : Int} {Sq : QS} {Lq : QL} {u0 : Value} {u1 : Value} {u2 : Value} {u3 : Value}, c z2 z3 mq = some (rz, rm) → Rp Sq mq → q_lo Lq 0 = some u0 → q_is 2 u0 68 → q_lo Lq 1 = some u1 → q_is 0 u1 y1 → q_lo Lq 2 = some u2 → q_is 0 u2 z2 → q_lo Lq 3 = some u3 → q_is 0 u3 z3 → Go xs d qM_X12_die 25 Lq [] Sq Q)
  (hk103 : ∀ mq : MM, Ext m mq → ∀ {z2 : Int} {Sq : QS} {Lq : QL} {u0 : Value} {u1 : Value} {u2 : Value}, k103 z2 mq = some (rz, rm) → Rp Sq mq → q_lo Lq 0 = some u0 → q_is 2 u0 68 → q_lo Lq 1 = some u1 → q_is 0 u1 y1 → q_lo Lq 2 = some u2 → q_is 0 u2 z2 → Go xs d qM_X12_die 103 Lq [] Sq Q)
  (hQ : Ext m rm → ∀ o S1, Rp S1 rm → q_out 0 o rz → Q o S1)
  (h : fj_X12_die_70 c k103 y1 y3 y4 s0 s1 m = some (rz, rm)) : Go xs d qM_X12_die 70 L [w0, w1] S Q := by
  unfold fj_X12_die_70 at h
  refine go_iadd (by decide +kernel) fs1 fs0 fun v_69 f_70 => ?_
  obtain ⟨x_71, e_72, h⟩ := lx_s h
  have f_73 := q_is_eq f_70 e_72
  refine go_istore_n (n := 2) (by decide +kernel) (by decide +kernel) f_73 fun L_74 l_75 kp_76 => ?_
  have l_77 := kp_76 0 _ l0 (by decide) (Or.inl (by decide))
  have l_78 := kp_76 1 _ l1 (by decide) (Or.inr (q_is_cat f1 (Or.inl rfl)))
  have l_79 := kp_76 3 _ l3 (by decide) (Or.inl (by decide))
  have l_80 := kp_76 4 _ l4 (by decide) (Or.inl (by decide))
  refine go_aload_n (n := 0) (by decide +kernel) l_77 f0 ?_
  refine go_getf (x := 170) (ci := 13) (kf := 59) (fin := 1) (t := 2) (by decide +kernel) (by decide +kernel) (by decide +kernel) R f0 (fx_k (c := 13) R (by decide +kernel)) fun v_81 f_82 => ?_
  have f_83 := q_is_eq (b := 119) f_82 (fx_v R (by decide +kernel)).symm
  refine go_iload_n (n := 3) (by decide +kernel) l_79 f3 ?_
  refine go_aload_n (n := 0) (by decide +kernel) l_77 f0 ?_
  refine go_getf (x := 170) (ci := 13) (kf := 59) (fin := 1) (t := 2) (by decide +kernel) (by decide +kernel) (by decide +kernel) R f0 (fx_k (c := 13) R (by decide +kernel)) fun v_84 f_85 => ?_
  have f_86 := q_is_eq (b := 119) f_85 (fx_v R (by decide +kernel)).symm
  refine go_iload_n (n := 3) (by decide +kernel) l_79 f3 ?_
  obtain ⟨g_89, h⟩ := gd_s h
  obtain ⟨x_91, e_92, h⟩ := lx_s h
  refine go_bald (kd := 102) (by decide +kernel) rfl R f_86 f3 (fx_k (c := 102) R (by decide +kernel)) (fx_x (a := 119) (ln := 4096) R (by decide +kernel) g_89) fun v_87 f_88 => ?_
  have f_90 := q_is_eq f_88 e_92
  refine go_if (c := .ne) (o := 8) (t := 91) (P := ¬ (x_91 = 0)) (by decide +kernel) (by decide +kernel) f_90 (Iff.rfl) (fun hp_93 => ?_) (fun hp_93 => ?_)
  · have h := it_f hp_93 h
    refine go_iconst (n := 1) (z := 1) (by decide +kernel) (by decide) fun v_94 f_95 => ?_
    refine go_goto (o := 4) (t := 96) (by decide +kernel) (by decide +kernel) ?_
    obtain ⟨m_96, e_97, h⟩ := up_s h
    refine go_bast (kd := 102) (by decide +kernel) rfl R f_83 f3 f_95 (by decide) (fx_k (c := 102) R (by decide +kernel)) (fx_x (a := 119) (ln := 4096) R (by decide +kernel) g_89) e_97 (fx_a R.2 (fx_k (c := 102) R (by decide +kernel)) (And.left (fx_x (a := 119) (ln := 4096) R (by decide +kernel) g_89)) (by decide +kernel)) fun S_98 R_99 E_100 => ?_
    have E_102 := E_100
    refine go_iinc (n := 3) (c := 1) (c' := 1) (by decide +kernel) (by decide +kernel) l_79 f3 (by decide) fun L_103 v_104 f_105 l_106 kp_107 => ?_
    obtain ⟨x_108, e_109, h⟩ := lx_s h
    have f_110 := q_is_eq f_105 e_109
    have l_111 := kp_107 0 _ l_77 (by decide) (Or.inl (by decide))
    have l_112 := kp_107 1 _ l_78 (by decide) (Or.inl (by decide))
    have l_113 := kp_107 2 _ l_75 (by decide) (Or.inr (q_is_cat f_73 (Or.inl rfl)))
    refine go_goto (o := (-75)) (t := 25) (by decide +kernel) (by decide +kernel) ?_
    exact hc m_96 E_102 h R_99 l_111 f0 l_112 f1 l_113 f_73 l_106 f_110
  · have h := it_n hp_93 h
    refine go_iload (n := 4) (by decide +kernel) l_80 f4 ?_
    refine go_if (c := .eq) (o := 7) (t := 95) (P := y4 = 0) (by decide +kernel) (by decide +kernel) f4 (Iff.rfl) (fun hp_114 => ?_) (fun hp_114 => ?_)
    · have h := it_t hp_114 h
      refine go_iconst (n := 0) (z := 0) (by decide +kernel) (by decide) fun v_115 f_116 => ?_
      obtain ⟨m_117, e_118, h⟩ := up_s h
      refine go_bast (kd := 102) (by decide +kernel) rfl R f_83 f3 f_116 (by decide) (fx_k (c := 102) R (by decide +kernel)) (fx_x (a := 119) (ln := 4096) R (by decide +kernel) g_89) e_118 (fx_a R.2 (fx_k (c := 102) R (by decide +kernel)) (And.left (fx_x (a := 119) (ln := 4096) R (by decide +kernel) g_89)) (by decide +kernel)) fun S_119 R_120 E_121 => ?_
      have E_123 := E_121
      refine go_iinc (n := 3) (c := 1) (c' := 1) (by decide +kernel) (by decide +kernel) l_79 f3 (by decide) fun L_124 v_125 f_126 l_127 kp_128 => ?_
      obtain ⟨x_129, e_130, h⟩ := lx_s h
      have f_131 := q_is_eq f_126 e_130
      have l_132 := kp_128 0 _ l_77 (by decide) (Or.inl (by decide))
      have l_133 := kp_128 1 _ l_78 (by decide) (Or.inl (by decide))
      have l_134 := kp_128 2 _ l_75 (by decide) (Or.inr (q_is_cat f_73 (Or.inl rfl)))
      refine go_goto (o := (-75)) (t := 25) (by decide +kernel) (by decide +kernel) ?_
      exact hc m_117 E_123 h R_120 l_132 f0 l_133 f1 l_134 f_73 l_127 f_131
    · have h := it_f hp_114 h
      refine go_iconst (n := 1) (z := 1) (by decide +kernel) (by decide) fun v_135 f_136 => ?_
      refine go_goto (o := 4) (t := 96) (by decide +kernel) (by decide +kernel) ?_
      obtain ⟨m_137, e_138, h⟩ := up_s h
      refine go_bast (kd := 102) (by decide +kernel) rfl R f_83 f3 f_136 (by decide) (fx_k (c := 102) R (by decide +kernel)) (fx_x (a := 119) (ln := 4096) R (by decide +kernel) g_89) e_138 (fx_a R.2 (fx_k (c := 102) R (by decide +kernel)) (And.left (fx_x (a := 119) (ln := 4096) R (by decide +kernel) g_89)) (by decide +kernel)) fun S_139 R_140 E_141 => ?_
      have E_143 := E_141
      refine go_iinc (n := 3) (c := 1) (c' := 1) (by decide +kernel) (by decide +kernel) l_79 f3 (by decide) fun L_144 v_145 f_146 l_147 kp_148 => ?_
      obtain ⟨x_149, e_150, h⟩ := lx_s h
      have f_151 := q_is_eq f_146 e_150
      have l_152 := kp_148 0 _ l_77 (by decide) (Or.inl (by decide))
      have l_153 := kp_148 1 _ l_78 (by decide) (Or.inl (by decide))
      have l_154 := kp_148 2 _ l_75 (by decide) (Or.inr (q_is_cat f_73 (Or.inl rfl)))
      refine go_goto (o := (-75)) (t := 25) (by decide +kernel) (by decide +kernel) ?_
      exact hc m_137 E_143 h R_140 l_152 f0 l_153 f1 l_154 f_73 l_147 f_151
noncomputable def fj_X12_die_57 (c : Int → Int → MM → Option (Int × MM)) (k103 : Int → MM → Option (Int × MM)) (y1 y2 y3 s0 : Int) (m : MM) : Option (Int × MM) := if s0 = 0 then
fj_X12_die_70 c k103 y1 y3 s0 0 y2 m
else
fj_X12_die_70 c k103 y1 y3 s0 1 y2 m
set_option maxHeartbeats 4000000 in
theorem oj_X12_die_57 {xs : List Int32} {d : Nat} {S : QS} {L : QL} {Q : QO → QS → Prop} {m : MM} {y1 y2 y3 s0 : Int} {v0 : Value} {v1 : Value} {v2 : Value} {v3 : Value} {w0 : Value}  {rz : Int} {rm : MM} {c : Int → Int → MM → Option (Int × MM)} {k103 : Int → MM → Option (Int × MM)} 
  (hd : 2 ≤ d) (R : Rp S m) (l0 : q_lo L 0 = some v0) (f0 : q_is 2 v0 68) (l1 : q_lo L 1 = some v1) (f1 : q_is 0 v1 y1) (l2 : q_lo L 2 = some v2) (f2 : q_is 0 v2 y2) (l3 : q_lo L 3 = some v3) (f3 : q_is 0 v3 y3) (fs0 : q_is 0 w0 s0)
  (hc : ∀ mq : MM, Ext m mq → ∀ {z2 : Int} {z3 : Int} {Sq : QS} {Lq : QL} {u0 : Value} {u1 : Value} {u2 : Value} {u3 : Value}, c z2 z3 mq = some (rz, rm) → Rp Sq mq → q_lo Lq 0 = some u0 → q_is 2 u0 68 → q_lo Lq 1 = some u1 → q_is 0 u1 y1 → q_lo Lq 2 = some u2 → q_is 0 u2 z2 → q_lo Lq 3 = some u3 → q_is 0 u3 z3 → Go xs d qM_X12_die 25 Lq [] Sq Q)
  (hk103 : ∀ mq : MM, Ext m mq → ∀ {z2 : Int} {Sq : QS} {Lq : QL} {u0 : Value} {u1 : Value} {u2 : Value}, k103 z2 mq = some (rz, rm) → Rp Sq mq → q_lo Lq 0 = some u0 → q_is 2 u0 68 → q_lo Lq 1 = some u1 → q_is 0 u1 y1 → q_lo Lq 2 = some u2 → q_is 0 u2 z2 → Go xs d qM_X12_die 103 Lq [] Sq Q)
  (hQ : Ext m rm → ∀ o S1, Rp S1 rm → q_out 0 o rz → Q o S1)
  (h : fj_X12_die_57 c k103 y1 y2 y3 s0 m = some (rz, rm)) : Go xs d qM_X12_die 57 L [w0] S Q := by
  unfold fj_X12_die_57 at h
  refine go_istore (n := 4) (by decide +kernel) (by decide +kernel) fs0 fun L_59 l_60 kp_61 => ?_
  have l_62 := kp_61 0 _ l0 (by decide) (Or.inl (by decide))
  have l_63 := kp_61 1 _ l1 (by decide) (Or.inl (by decide))
  have l_64 := kp_61 2 _ l2 (by decide) (Or.inl (by decide))
  have l_65 := kp_61 3 _ l3 (by decide) (Or.inr (q_is_cat f3 (Or.inl rfl)))
  refine go_iload_n (n := 2) (by decide +kernel) l_64 f2 ?_
  refine go_iload (n := 4) (by decide +kernel) l_60 fs0 ?_
  refine go_if (c := .eq) (o := 7) (t := 69) (P := s0 = 0) (by decide +kernel) (by decide +kernel) fs0 (Iff.rfl) (fun hp_66 => ?_) (fun hp_66 => ?_)
  · have h := it_t hp_66 h
    refine go_iconst (n := 0) (z := 0) (by decide +kernel) (by decide) fun v_67 f_68 => ?_
    exact oj_X12_die_70 hd R l_62 f0 l_63 f1 l_65 f3 l_60 fs0 f_68 f2 hc hk103 hQ h
  · have h := it_f hp_66 h
    refine go_iconst (n := 1) (z := 1) (by decide +kernel) (by decide) fun v_155 f_156 => ?_
    refine go_goto (o := 4) (t := 70) (by decide +kernel) (by decide +kernel) ?_
    exact oj_X12_die_70 hd R l_62 f0 l_63 f1 l_65 f3 l_60 fs0 f_156 f2 hc hk103 hQ h
noncomputable def fl_X12_die_25 (y1 : Int) (k103 : Int → MM → Option (Int × MM)) : Nat → Int → Int → MM → Option (Int × MM)
  | 0, _, _, _ => none
  | n + 1, y2, y3, m => lx (m 68 51) fun x_44 =>
if y3 < x_44 then
gd (0 ≤ y3 ∧ y3 < 4096) <| lx (m 112 y3) fun x_54 =>
if x_54 = y1 then
lx (m 119 y3) fun x_163 =>
if x_163 = 0 then
fj_X12_die_57 (fl_X12_die_25 y1 k103 n) k103 y1 y2 y3 1 m
else
fj_X12_die_57 (fl_X12_die_25 y1 k103 n) k103 y1 y2 y3 0 m
else
fj_X12_die_57 (fl_X12_die_25 y1 k103 n) k103 y1 y2 y3 0 m
else
k103 y2 m
set_option maxHeartbeats 4000000 in
theorem ol_X12_die_25 {xs : List Int32} {d : Nat} {Q : QO → QS → Prop} {mb : MM} {y1 : Int} {k103 : Int → MM → Option (Int × MM)} {rz : Int} {rm : MM}
  (hd : 2 ≤ d)
  (hk103 : ∀ mq : MM, Ext mb mq → ∀ {z2 : Int} {Sq : QS} {Lq : QL} {u0 : Value} {u1 : Value} {u2 : Value}, k103 z2 mq = some (rz, rm) → Rp Sq mq → q_lo Lq 0 = some u0 → q_is 2 u0 68 → q_lo Lq 1 = some u1 → q_is 0 u1 y1 → q_lo Lq 2 = some u2 → q_is 0 u2 z2 → Go xs d qM_X12_die 103 Lq [] Sq Q)
  (hQ : Ext mb rm → ∀ o S1, Rp S1 rm → q_out 0 o rz → Q o S1) :
  ∀ (n : Nat) {m : MM} {S : QS} {L : QL} {y2 y3 : Int} {v0 : Value} {v1 : Value} {v2 : Value} {v3 : Value} , Ext mb m → fl_X12_die_25 y1 k103 n y2 y3 m = some (rz, rm) → Rp S m → q_lo L 0 = some v0 → q_is 2 v0 68 → q_lo L 1 = some v1 → q_is 0 v1 y1 → q_lo L 2 = some v2 → q_is 0 v2 y2 → q_lo L 3 = some v3 → q_is 0 v3 y3 → Go xs d qM_X12_die 25 L [] S Q := by
  intro n
  induction n with
  | zero => intro m S L y2 y3 v0 v1 v2 v3; intro E h R l0 f0 l1 f1 l2 f2 l3 f3; cases h
  | succ n ih0 =>
    intro m S L y2 y3 v0 v1 v2 v3; intro E h R l0 f0 l1 f1 l2 f2 l3 f3
    have ih : ∀ mq : MM, Ext mb mq → ∀ {z2 : Int} {z3 : Int} {Sq : QS} {Lq : QL} {u0 : Value} {u1 : Value} {u2 : Value} {u3 : Value}, fl_X12_die_25 y1 k103 n z2 z3 mq = some (rz, rm) → Rp Sq mq → q_lo Lq 0 = some u0 → q_is 2 u0 68 → q_lo Lq 1 = some u1 → q_is 0 u1 y1 → q_lo Lq 2 = some u2 → q_is 0 u2 z2 → q_lo Lq 3 = some u3 → q_is 0 u3 z3 → Go xs d qM_X12_die 25 Lq [] Sq Q := fun mq b => by intros; exact ih0 b ‹_› ‹_› ‹_› ‹_› ‹_› ‹_› ‹_› ‹_› ‹_› ‹_›
    unfold fl_X12_die_25 at h
    refine go_iload_n (n := 3) (by decide +kernel) l3 f3 ?_
    refine go_aload_n (n := 0) (by decide +kernel) l0 f0 ?_
    obtain ⟨x_44, e_45, h⟩ := lx_s h
    refine go_getf (x := 599) (ci := 13) (kf := 51) (fin := 0) (t := 0) (by decide +kernel) (by decide +kernel) (by decide +kernel) R f0 (fx_k (c := 13) R (by decide +kernel)) fun v_41 f_42 => ?_
    have f_43 := q_is_eq f_42 e_45
    refine go_icmp (c := .ge) (o := 73) (t := 103) (P := ¬ (y3 < x_44)) (by decide +kernel) (by decide +kernel) f3 f_43 (Int.not_lt.symm) (fun hp_46 => ?_) (fun hp_46 => ?_)
    · have h := it_f hp_46 h
      exact hk103 m E h R l0 f0 l1 f1 l2 f2
    · have h := it_n hp_46 h
      refine go_aload_n (n := 0) (by decide +kernel) l0 f0 ?_
      refine go_getf (x := 149) (ci := 13) (kf := 52) (fin := 1) (t := 2) (by decide +kernel) (by decide +kernel) (by decide +kernel) R f0 (fx_k (c := 13) R (by decide +kernel)) fun v_47 f_48 => ?_
      have f_49 := q_is_eq (b := 112) f_48 (fx_v R (by decide +kernel)).symm
      refine go_iload_n (n := 3) (by decide +kernel) l3 f3 ?_
      obtain ⟨g_52, h⟩ := gd_s h
      obtain ⟨x_54, e_55, h⟩ := lx_s h
      refine go_iald (kd := 100) (by decide +kernel) rfl R f_49 f3 (fx_k (c := 100) R (by decide +kernel)) (fx_x (a := 112) (ln := 4096) R (by decide +kernel) g_52) fun v_50 f_51 => ?_
      have f_53 := q_is_eq f_51 e_55
      refine go_iload_n (n := 1) (by decide +kernel) l1 f1 ?_
      refine go_icmp (c := .ne) (o := 16) (t := 56) (P := ¬ (x_54 = y1)) (by decide +kernel) (by decide +kernel) f_53 f1 (Iff.rfl) (fun hp_56 => ?_) (fun hp_56 => ?_)
      · have h := it_f hp_56 h
        refine go_iconst (n := 0) (z := 0) (by decide +kernel) (by decide) fun v_57 f_58 => ?_
        exact oj_X12_die_57 hd R l0 f0 l1 f1 l2 f2 l3 f3 f_58 (fun mq b => ih mq (Ext.tr E b)) (fun mq b => hk103 mq (Ext.tr E b)) (fun b => hQ (Ext.tr E b)) h
      · have h := it_n hp_56 h
        refine go_aload_n (n := 0) (by decide +kernel) l0 f0 ?_
        refine go_getf (x := 170) (ci := 13) (kf := 59) (fin := 1) (t := 2) (by decide +kernel) (by decide +kernel) (by decide +kernel) R f0 (fx_k (c := 13) R (by decide +kernel)) fun v_157 f_158 => ?_
        have f_159 := q_is_eq (b := 119) f_158 (fx_v R (by decide +kernel)).symm
        refine go_iload_n (n := 3) (by decide +kernel) l3 f3 ?_
        obtain ⟨x_163, e_164, h⟩ := lx_s h
        refine go_bald (kd := 102) (by decide +kernel) rfl R f_159 f3 (fx_k (c := 102) R (by decide +kernel)) (fx_x (a := 119) (ln := 4096) R (by decide +kernel) g_52) fun v_160 f_161 => ?_
        have f_162 := q_is_eq f_161 e_164
        refine go_if (c := .ne) (o := 7) (t := 56) (P := ¬ (x_163 = 0)) (by decide +kernel) (by decide +kernel) f_162 (Iff.rfl) (fun hp_165 => ?_) (fun hp_165 => ?_)
        · have h := it_f hp_165 h
          refine go_iconst (n := 0) (z := 0) (by decide +kernel) (by decide) fun v_166 f_167 => ?_
          exact oj_X12_die_57 hd R l0 f0 l1 f1 l2 f2 l3 f3 f_167 (fun mq b => ih mq (Ext.tr E b)) (fun mq b => hk103 mq (Ext.tr E b)) (fun b => hQ (Ext.tr E b)) h
        · have h := it_n hp_165 h
          refine go_iconst (n := 1) (z := 1) (by decide +kernel) (by decide) fun v_168 f_169 => ?_
          refine go_goto (o := 4) (t := 57) (by decide +kernel) (by decide +kernel) ?_
          exact oj_X12_die_57 hd R l0 f0 l1 f1 l2 f2 l3 f3 f_169 (fun mq b => ih mq (Ext.tr E b)) (fun mq b => hk103 mq (Ext.tr E b)) (fun b => hQ (Ext.tr E b)) h
noncomputable def fl_X12_die_108 (y1 y2 : Int) : Nat → Int → MM → Option (Int × MM)
  | 0, _, _ => none
  | n + 1, y3, m => if y3 < w32 ((w32 (30 * y1)) + 30) then
gd (0 ≤ y3 ∧ y3 < 90) <| up m 123 y3 0 fun m_216 =>
lx (w32 (y3 + 1)) fun x_228 =>
fl_X12_die_108 y1 y2 n x_228 m_216
else
some (y2, m)
set_option maxHeartbeats 4000000 in
theorem ol_X12_die_108 {xs : List Int32} {d : Nat} {Q : QO → QS → Prop} {mb : MM} {y1 y2 : Int} {rz : Int} {rm : MM}
  (hd : 2 ≤ d)
  (hQ : Ext mb rm → ∀ o S1, Rp S1 rm → q_out 0 o rz → Q o S1) :
  ∀ (n : Nat) {m : MM} {S : QS} {L : QL} {y3 : Int} {v0 : Value} {v1 : Value} {v2 : Value} {v3 : Value} , Ext mb m → fl_X12_die_108 y1 y2 n y3 m = some (rz, rm) → Rp S m → q_lo L 0 = some v0 → q_is 2 v0 68 → q_lo L 1 = some v1 → q_is 0 v1 y1 → q_lo L 2 = some v2 → q_is 0 v2 y2 → q_lo L 3 = some v3 → q_is 0 v3 y3 → Go xs d qM_X12_die 108 L [] S Q := by
  intro n
  induction n with
  | zero => intro m S L y3 v0 v1 v2 v3; intro E h R l0 f0 l1 f1 l2 f2 l3 f3; cases h
  | succ n ih0 =>
    intro m S L y3 v0 v1 v2 v3; intro E h R l0 f0 l1 f1 l2 f2 l3 f3
    have ih : ∀ mq : MM, Ext mb mq → ∀ {z3 : Int} {Sq : QS} {Lq : QL} {u0 : Value} {u1 : Value} {u2 : Value} {u3 : Value}, fl_X12_die_108 y1 y2 n z3 mq = some (rz, rm) → Rp Sq mq → q_lo Lq 0 = some u0 → q_is 2 u0 68 → q_lo Lq 1 = some u1 → q_is 0 u1 y1 → q_lo Lq 2 = some u2 → q_is 0 u2 y2 → q_lo Lq 3 = some u3 → q_is 0 u3 z3 → Go xs d qM_X12_die 108 Lq [] Sq Q := fun mq b => by intros; exact ih0 b ‹_› ‹_› ‹_› ‹_› ‹_› ‹_› ‹_› ‹_› ‹_› ‹_›
    unfold fl_X12_die_108 at h
    refine go_iload_n (n := 3) (by decide +kernel) l3 f3 ?_
    refine go_bipush (n := 30) (z := 30) (by decide +kernel) (by decide) fun v_201 f_202 => ?_
    refine go_iload_n (n := 1) (by decide +kernel) l1 f1 ?_
    refine go_imul (by decide +kernel) f_202 f1 fun v_203 f_204 => ?_
    refine go_bipush (n := 30) (z := 30) (by decide +kernel) (by decide) fun v_205 f_206 => ?_
    refine go_iadd (by decide +kernel) f_204 f_206 fun v_207 f_208 => ?_
    refine go_icmp (c := .ge) (o := 16) (t := 132) (P := ¬ (y3 < w32 ((w32 (30 * y1)) + 30))) (by decide +kernel) (by decide +kernel) f3 f_208 (Int.not_lt.symm) (fun hp_209 => ?_) (fun hp_209 => ?_)
    · have h := it_f hp_209 h
      refine go_iload_n (n := 2) (by decide +kernel) l2 f2 ?_
      cases h
      exact go_iret (by decide +kernel) rfl (Or.inl rfl) f2 (hQ E _ _ R (q_out_v (by decide) f2))
    · have h := it_n hp_209 h
      refine go_aload_n (n := 0) (by decide +kernel) l0 f0 ?_
      refine go_getf (x := 183) (ci := 13) (kf := 63) (fin := 1) (t := 2) (by decide +kernel) (by decide +kernel) (by decide +kernel) R f0 (fx_k (c := 13) R (by decide +kernel)) fun v_210 f_211 => ?_
      have f_212 := q_is_eq (b := 123) f_211 (fx_v R (by decide +kernel)).symm
      refine go_iload_n (n := 3) (by decide +kernel) l3 f3 ?_
      refine go_iconst (n := 0) (z := 0) (by decide +kernel) (by decide) fun v_213 f_214 => ?_
      obtain ⟨g_215, h⟩ := gd_s h
      obtain ⟨m_216, e_217, h⟩ := up_s h
      refine go_iast (kd := 100) (by decide +kernel) rfl R f_212 f3 f_214 (fx_k (c := 100) R (by decide +kernel)) (fx_x (a := 123) (ln := 90) R (by decide +kernel) g_215) e_217 (fx_a R.2 (fx_k (c := 100) R (by decide +kernel)) (And.left (fx_x (a := 123) (ln := 90) R (by decide +kernel) g_215)) (by decide +kernel)) fun S_218 R_219 E_220 => ?_
      have E_222 := Ext.tr E E_220
      refine go_iinc (n := 3) (c := 1) (c' := 1) (by decide +kernel) (by decide +kernel) l3 f3 (by decide) fun L_223 v_224 f_225 l_226 kp_227 => ?_
      obtain ⟨x_228, e_229, h⟩ := lx_s h
      have f_230 := q_is_eq f_225 e_229
      have l_231 := kp_227 0 _ l0 (by decide) (Or.inl (by decide))
      have l_232 := kp_227 1 _ l1 (by decide) (Or.inl (by decide))
      have l_233 := kp_227 2 _ l2 (by decide) (Or.inr (q_is_cat f2 (Or.inl rfl)))
      refine go_goto (o := (-21)) (t := 108) (by decide +kernel) (by decide +kernel) ?_
      exact ih m_216 E_222 h R_219 l_231 f0 l_232 f1 l_233 f2 l_226 f_230
noncomputable def fj_X12_die_13 (y1 s0 : Int) (m : MM) : Option (Int × MM) := bd (fm_X12_fails s0 m) fun x_14 m_15 =>
if x_14 = 0 then
fl_X12_die_25 y1 (fun x_170 m_183 =>
lx (w32 (30 * y1)) fun x_192 =>
fl_X12_die_108 y1 x_170  BIG x_192 m_183) BIG 0 0 m_15
else
some (0, m_15)
set_option maxHeartbeats 4000000 in
theorem oj_X12_die_13 {xs : List Int32} {d : Nat} {S : QS} {L : QL} {Q : QO → QS → Prop} {m : MM} {y1 s0 : Int} {v0 : Value} {v1 : Value} {w0 : Value} {w1 : Value}  {rz : Int} {rm : MM}
  (hd : 2 ≤ d) (R : Rp S m) (l0 : q_lo L 0 = some v0) (f0 : q_is 2 v0 68) (l1 : q_lo L 1 = some v1) (f1 : q_is 0 v1 y1) (fs0 : q_is 0 w0 s0) (fs1 : q_is 2 w1 68)
  (hQ : Ext m rm → ∀ o S1, Rp S1 rm → q_out 0 o rz → Q o S1)
  (h : fj_X12_die_13 y1 s0 m = some (rz, rm)) : Go xs d qM_X12_die 13 L [w0, w1] S Q := by
  unfold fj_X12_die_13 at h
  obtain ⟨x_14, m_15, hc_13, h⟩ := bd_s h
  refine go_callV (x := 324) (mi := 186) (n := 1) (ci := 13) (as := [w0]) (rest := []) (by decide +kernel) (by decide +kernel) rfl rfl (q_sum8 _ (Nat.le_of_ble_eq_true rfl)) R fs1 (fx_k (c := 13) R (by decide +kernel)) (om_X12_fails (Nat.le_trans (by decide) hd) R fs1 fs0 hc_13) (fun _ S_18 q_21 => ?_) (fun _ _ qq => kr_x qq)
  refine kr_z (by decide) q_21 fun v_16 f_17 R_19 E_20 => ?_
  have E_24 := E_20
  refine go_if (c := .eq) (o := 5) (t := 21) (P := x_14 = 0) (by decide +kernel) (by decide +kernel) f_17 (Iff.rfl) (fun hp_25 => ?_) (fun hp_25 => ?_)
  · have h := it_t hp_25 h
    refine go_iconst (n := 0) (z := 0) (by decide +kernel) (by decide) fun v_26 f_27 => ?_
    refine go_istore_n (n := 2) (by decide +kernel) (by decide +kernel) f_27 fun L_28 l_29 kp_30 => ?_
    have l_31 := kp_30 0 _ l0 (by decide) (Or.inl (by decide))
    have l_32 := kp_30 1 _ l1 (by decide) (Or.inr (q_is_cat f1 (Or.inl rfl)))
    refine go_iconst (n := 0) (z := 0) (by decide +kernel) (by decide) fun v_33 f_34 => ?_
    refine go_istore_n (n := 3) (by decide +kernel) (by decide +kernel) f_34 fun L_35 l_36 kp_37 => ?_
    have l_38 := kp_37 0 _ l_31 (by decide) (Or.inl (by decide))
    have l_39 := kp_37 1 _ l_32 (by decide) (Or.inl (by decide))
    have l_40 := kp_37 2 _ l_29 (by decide) (Or.inr (q_is_cat f_27 (Or.inl rfl)))
    refine ol_X12_die_25 hd  ?_ (fun b => hQ (Ext.tr E_24 b)) BIG (Ext.rf _) h R_19 l_38 f0 l_39 f1 l_40 f_27 l_36 f_34
    intro m_183 E_184
    intro x_170 S_180 L_181 v_171 v_172 v_173
    intro h R_182 l_174 f_177 l_175 f_178 l_176 f_179
    have E_185 := Ext.tr E_24 E_184
    refine go_bipush (n := 30) (z := 30) (by decide +kernel) (by decide) fun v_188 f_189 => ?_
    refine go_iload_n (n := 1) (by decide +kernel) l_175 f_178 ?_
    refine go_imul (by decide +kernel) f_189 f_178 fun v_190 f_191 => ?_
    obtain ⟨x_192, e_193, h⟩ := lx_s h
    have f_194 := q_is_eq f_191 e_193
    refine go_istore_n (n := 3) (by decide +kernel) (by decide +kernel) f_194 fun L_195 l_196 kp_197 => ?_
    have l_198 := kp_197 0 _ l_174 (by decide) (Or.inl (by decide))
    have l_199 := kp_197 1 _ l_175 (by decide) (Or.inl (by decide))
    have l_200 := kp_197 2 _ l_176 (by decide) (Or.inr (q_is_cat f_179 (Or.inl rfl)))
    refine ol_X12_die_108 hd   (fun b => hQ (Ext.tr E_185 b)) BIG (Ext.rf _) h R_182 l_198 f_177 l_199 f_178 l_200 f_179 l_196 f_194
  · have h := it_f hp_25 h
    refine go_iconst (n := 0) (z := 0) (by decide +kernel) (by decide) fun v_234 f_235 => ?_
    cases h
    exact go_iret (by decide +kernel) rfl (Or.inl rfl) f_235 (hQ E_24 _ _ R_19 (q_out_v (by decide) f_235))
noncomputable def fm_X12_die (p1 : Int) (m0 : MM) : Option (Int × MM) := bp (fm_X12_isWorker p1 m0) fun x_2 =>
if x_2 = 0 then
fj_X12_die_13 p1 1 m0
else
fj_X12_die_13 p1 0 m0
set_option maxHeartbeats 4000000 in
theorem om_X12_die {xs : List Int32} {d : Nat} {S : QS} {m0 : MM} {p1 : Int} {v0 : Value} {v1 : Value} {rz : Int} {rm : MM}
  (hd : 3 ≤ d) (R : Rp S m0) (f0 : q_is 2 v0 68) (f1 : q_is 0 v1 p1)
  (h : fm_X12_die p1 m0 = some (rz, rm)) : Mt xs d 282 [v0, v1] S (Cr 0 m0 rm rz) := by
  obtain ⟨d, rfl⟩ : ∃ e, d = e + 1 := ⟨d - 1, by omega⟩
  have hd : 2 ≤ d := Nat.le_of_succ_le_succ hd
  refine Mt.of (M := qM_X12_die) rfl (by rw [sl_1 (q_is_cat f0 (Or.inr rfl)), sl_1 (q_is_cat f1 (Or.inl rfl)), sl_0]; decide) ?_
  rw [la_1 (q_is_cat f0 (Or.inr rfl)), la_1 (q_is_cat f1 (Or.inl rfl)), la_0]
  obtain ⟨L, hL⟩ : ∃ L : QL, L = [(0, v0), (0 + 1, v1)] := ⟨_, rfl⟩
  rw [← hL]
  have l0 : q_lo L 0 = some v0 := by rw [hL]; rfl
  have l1 : q_lo L 1 = some v1 := by rw [hL]; rfl
  have hQ : Ext m0 rm → ∀ o S1, Rp S1 rm → q_out 0 o rz → (Cr 0 m0 rm rz) o S1 := fun a o S1 b e => ⟨b, a, e⟩
  unfold fm_X12_die at h
  refine go_aload_n (n := 0) (by decide +kernel) l0 f0 ?_
  refine go_iload_n (n := 1) (by decide +kernel) l1 f1 ?_
  obtain ⟨x_2, hc_1, h⟩ := bp_s h
  refine go_callS (x := 605) (mi := 275) (n := 1) (b := 0) (as := [v1]) (rest := [v0]) (by decide +kernel) (by decide +kernel) rfl rfl (q_sum8 _ (Nat.le_of_ble_eq_true rfl)) (om_X12_isWorker (Nat.le_trans (by decide) hd) R f1 hc_1) (fun _ S_6 q_9 => ?_) (fun _ _ qq => kr_x qq)
  refine kr_z (by decide) q_9 fun v_4 f_5 R_7 E_8 => ?_
  refine go_if (c := .eq) (o := 7) (t := 12) (P := x_2 = 0) (by decide +kernel) (by decide +kernel) f_5 (Iff.rfl) (fun hp_10 => ?_) (fun hp_10 => ?_)
  · have h := it_t hp_10 h
    refine go_iconst (n := 1) (z := 1) (by decide +kernel) (by decide) fun v_11 f_12 => ?_
    exact oj_X12_die_13 hd R_7 l0 f0 l1 f1 f_12 f0 hQ h
  · have h := it_f hp_10 h
    refine go_iconst (n := 0) (z := 0) (by decide +kernel) (by decide) fun v_236 f_237 => ?_
    refine go_goto (o := 4) (t := 13) (by decide +kernel) (by decide +kernel) ?_
    exact oj_X12_die_13 hd R_7 l0 f0 l1 f1 f_237 f0 hQ h
end DF40
