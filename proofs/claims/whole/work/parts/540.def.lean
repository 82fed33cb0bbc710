/-! Methods as functions (written by wip/whole/dec.py), 40: X12_complete, X12_die. -/
section DF40
noncomputable def fl_X12_complete_232 (y1 y3 y5 y7 y8 y9 : Int) (k282 : MM → Option (Int × MM)) : Nat → Int → MM → Option (Int × MM)
  | 0, _, _ => none
  | n + 1, y10, m => lx (m 68 120) fun x_253 =>
if y10 < x_253 then
gd (0 ≤ y10 ∧ y10 < 65536) <| lx (m 158 y10) fun x_263 =>
lx (m 159 y10) fun x_275 =>
bd (fm_X12_puts y3 (w32 (Int.tdiv x_263 1000)) x_275 (Int.tmod x_263 1000) m) fun x_288 m_289 =>
lx (w32 (y10 + 1)) fun x_302 =>
fl_X12_complete_232 y1 y3 y5 y7 y8 y9 k282 n x_302 m_289
else
k282 m
set_option maxHeartbeats 4000000 in
theorem ol_X12_complete_232 {xs : List Int32} {d : Nat} {Q : QO → QS → Prop} {mb : MM} {y1 y3 y5 y7 y8 y9 : Int} {k282 : MM → Option (Int × MM)} {rz : Int} {rm : MM}
  (hd : 14 ≤ d)
  (hk282 : ∀ mq : MM, Ext mb mq → ∀ {Sq : QS} {Lq : QL} {u0 : Value} {u1 : Value} {u3 : Value} {u5 : Value} {u7 : Value} {u8 : Value} {u9 : Value}, k282 mq = some (rz, rm) → Rp Sq mq → q_lo Lq 0 = some u0 → q_is 2 u0 68 → q_lo Lq 1 = some u1 → q_is 0 u1 y1 → q_lo Lq 3 = some u3 → q_is 0 u3 y3 → q_lo Lq 5 = some u5 → q_is 0 u5 y5 → q_lo Lq 7 = some u7 → q_is 0 u7 y7 → q_lo Lq 8 = some u8 → q_is 0 u8 y8 → q_lo Lq 9 = some u9 → q_is 0 u9 y9 → Go xs d qM_X12_complete 282 Lq [] Sq Q)
  (hQ : Ext mb rm → ∀ o S1, Rp S1 rm → q_out 0 o rz → Q o S1) :
  ∀ (n : Nat) {m : MM} {S : QS} {L : QL} {y10 : Int} {v0 : Value} {v1 : Value} {v3 : Value} {v5 : Value} {v7 : Value} {v8 : Value} {v9 : Value} {v10 : Value} , Ext mb m → fl_X12_complete_232 y1 y3 y5 y7 y8 y9 k282 n y10 m = some (rz, rm) → Rp S m → q_lo L 0 = some v0 → q_is 2 v0 68 → q_lo L 1 = some v1 → q_is 0 v1 y1 → q_lo L 3 = some v3 → q_is 0 v3 y3 → q_lo L 5 = some v5 → q_is 0 v5 y5 → q_lo L 7 = some v7 → q_is 0 v7 y7 → q_lo L 8 = some v8 → q_is 0 v8 y8 → q_lo L 9 = some v9 → q_is 0 v9 y9 → q_lo L 10 = some v10 → q_is 0 v10 y10 → Go xs d qM_X12_complete 232 L [] S Q := by
  intro n
  induction n with
  | zero => intro m S L y10 v0 v1 v3 v5 v7 v8 v9 v10; intro E h R l0 f0 l1 f1 l3 f3 l5 f5 l7 f7 l8 f8 l9 f9 l10 f10; cases h
  | succ n ih0 =>
    intro m S L y10 v0 v1 v3 v5 v7 v8 v9 v10; intro E h R l0 f0 l1 f1 l3 f3 l5 f5 l7 f7 l8 f8 l9 f9 l10 f10
    have ih : ∀ mq : MM, Ext mb mq → ∀ {z10 : Int} {Sq : QS} {Lq : QL} {u0 : Value} {u1 : Value} {u3 : Value} {u5 : Value} {u7 : Value} {u8 : Value} {u9 : Value} {u10 : Value}, fl_X12_complete_232 y1 y3 y5 y7 y8 y9 k282 n z10 mq = some (rz, rm) → Rp Sq mq → q_lo Lq 0 = some u0 → q_is 2 u0 68 → q_lo Lq 1 = some u1 → q_is 0 u1 y1 → q_lo Lq 3 = some u3 → q_is 0 u3 y3 → q_lo Lq 5 = some u5 → q_is 0 u5 y5 → q_lo Lq 7 = some u7 → q_is 0 u7 y7 → q_lo Lq 8 = some u8 → q_is 0 u8 y8 → q_lo Lq 9 = some u9 → q_is 0 u9 y9 → q_lo Lq 10 = some u10 → q_is 0 u10 z10 → Go xs d qM_X12_complete 232 Lq [] Sq Q := fun mq b => by intros; exact ih0 b ‹_› ‹_› ‹_› ‹_› ‹_› ‹_› ‹_› ‹_› ‹_› ‹_› ‹_› ‹_› ‹_› ‹_› ‹_› ‹_› ‹_› ‹_›
    unfold fl_X12_complete_232 at h
    refine go_iload (n := 10) (by decide +kernel) l10 f10 ?_
    refine go_aload_n (n := 0) (by decide +kernel) l0 f0 ?_
    obtain ⟨x_253, e_254, h⟩ := lx_s h
    refine go_getf (x := 416) (ci := 13) (kf := 120) (fin := 0) (t := 0) (by decide +kernel) (by decide +kernel) (by decide +kernel) R f0 (fx_k (c := 13) R (by decide +kernel)) fun v_250 f_251 => ?_
    have f_252 := q_is_eq f_251 e_254
    refine go_icmp (c := .ge) (o := 44) (t := 282) (P := ¬ (y10 < x_253)) (by decide +kernel) (by decide +kernel) f10 f_252 (Int.not_lt.symm) (fun hp_255 => ?_) (fun hp_255 => ?_)
    · have h := it_f hp_255 h
      exact hk282 m E h R l0 f0 l1 f1 l3 f3 l5 f5 l7 f7 l8 f8 l9 f9
    · have h := it_n hp_255 h
      refine go_aload_n (n := 0) (by decide +kernel) l0 f0 ?_
      refine go_iload_n (n := 3) (by decide +kernel) l3 f3 ?_
      refine go_aload_n (n := 0) (by decide +kernel) l0 f0 ?_
      refine go_getf (x := 291) (ci := 13) (kf := 121) (fin := 1) (t := 2) (by decide +kernel) (by decide +kernel) (by decide +kernel) R f0 (fx_k (c := 13) R (by decide +kernel)) fun v_256 f_257 => ?_
      have f_258 := q_is_eq (b := 158) f_257 (fx_v R (by decide +kernel)).symm
      refine go_iload (n := 10) (by decide +kernel) l10 f10 ?_
      obtain ⟨g_261, h⟩ := gd_s h
      obtain ⟨x_263, e_264, h⟩ := lx_s h
      refine go_iald (kd := 100) (by decide +kernel) rfl R f_258 f10 (fx_k (c := 100) R (by decide +kernel)) (fx_x (a := 158) (ln := 65536) R (by decide +kernel) g_261) fun v_259 f_260 => ?_
      have f_262 := q_is_eq f_260 e_264
      refine go_sipush (n := 1000) (z := 1000) (by decide +kernel) (by decide) fun v_265 f_266 => ?_
      refine go_idiv (by decide +kernel) f_262 f_266 (by decide) fun v_267 f_268 => ?_
      refine go_aload_n (n := 0) (by decide +kernel) l0 f0 ?_
      refine go_getf (x := 294) (ci := 13) (kf := 122) (fin := 1) (t := 2) (by decide +kernel) (by decide +kernel) (by decide +kernel) R f0 (fx_k (c := 13) R (by decide +kernel)) fun v_269 f_270 => ?_
      have f_271 := q_is_eq (b := 159) f_270 (fx_v R (by decide +kernel)).symm
      refine go_iload (n := 10) (by decide +kernel) l10 f10 ?_
      obtain ⟨x_275, e_276, h⟩ := lx_s h
      refine go_iald (kd := 100) (by decide +kernel) rfl R f_271 f10 (fx_k (c := 100) R (by decide +kernel)) (fx_x (a := 159) (ln := 65536) R (by decide +kernel) g_261) fun v_272 f_273 => ?_
      have f_274 := q_is_eq f_273 e_276
      refine go_aload_n (n := 0) (by decide +kernel) l0 f0 ?_
      refine go_getf (x := 291) (ci := 13) (kf := 121) (fin := 1) (t := 2) (by decide +kernel) (by decide +kernel) (by decide +kernel) R f0 (fx_k (c := 13) R (by decide +kernel)) fun v_277 f_278 => ?_
      have f_279 := q_is_eq (b := 158) f_278 (fx_v R (by decide +kernel)).symm
      refine go_iload (n := 10) (by decide +kernel) l10 f10 ?_
      refine go_iald (kd := 100) (by decide +kernel) rfl R f_279 f10 (fx_k (c := 100) R (by decide +kernel)) (fx_x (a := 158) (ln := 65536) R (by decide +kernel) g_261) fun v_280 f_281 => ?_
      have f_282 := q_is_eq f_281 e_264
      refine go_sipush (n := 1000) (z := 1000) (by decide +kernel) (by decide) fun v_283 f_284 => ?_
      refine go_irem (by decide +kernel) f_282 f_284 (by decide) fun v_285 f_286 => ?_
      obtain ⟨x_288, m_289, hc_287, h⟩ := bd_s h
      refine go_callV (x := 360) (mi := 210) (n := 4) (ci := 13) (as := [v3, v_267, v_272, v_285]) (rest := []) (by decide +kernel) (by decide +kernel) rfl rfl (q_sum8 _ (Nat.le_of_ble_eq_true rfl)) R f0 (fx_k (c := 13) R (by decide +kernel)) (om_X12_puts (Nat.le_trans (by decide) hd) R f0 f3 f_268 f_274 f_286 hc_287) (fun _ S_292 q_295 => ?_) (fun _ _ qq => kr_x qq)
      refine kr_z (by decide) q_295 fun v_290 f_291 R_293 E_294 => ?_
      have E_296 := Ext.tr E E_294
      refine go_pop (by decide +kernel) f_291 (Or.inl rfl) ?_
      refine go_iinc (n := 10) (c := 1) (c' := 1) (by decide +kernel) (by decide +kernel) l10 f10 (by decide) fun L_297 v_298 f_299 l_300 kp_301 => ?_
      obtain ⟨x_302, e_303, h⟩ := lx_s h
      have f_304 := q_is_eq f_299 e_303
      have l_305 := kp_301 0 _ l0 (by decide) (Or.inl (by decide))
      have l_306 := kp_301 1 _ l1 (by decide) (Or.inl (by decide))
      have l_307 := kp_301 3 _ l3 (by decide) (Or.inl (by decide))
      have l_308 := kp_301 5 _ l5 (by decide) (Or.inl (by decide))
      have l_309 := kp_301 7 _ l7 (by decide) (Or.inl (by decide))
      have l_310 := kp_301 8 _ l8 (by decide) (Or.inl (by decide))
      have l_311 := kp_301 9 _ l9 (by decide) (Or.inr (q_is_cat f9 (Or.inl rfl)))
      refine go_goto (o := (-47)) (t := 232) (by decide +kernel) (by decide +kernel) ?_
      exact ih m_289 E_296 h R_293 l_305 f0 l_306 f1 l_307 f3 l_308 f5 l_309 f7 l_310 f8 l_311 f9 l_300 f_304
noncomputable def fl_X12_complete_357 (y3 y9 : Int) : Nat → Int → MM → Option (Int × MM)
  | 0, _, _ => none
  | n + 1, y10, m => lx (m 68 120) fun x_443 =>
if y10 < x_443 then
gd (0 ≤ y10 ∧ y10 < 65536) <| lx (m 158 y10) fun x_458 =>
lx (m 159 y10) fun x_470 =>
bd (fm_X12_carriesOut y3 (w32 (y9 + y10)) (w32 (Int.tdiv x_458 1000)) x_470 (Int.tmod x_458 1000) m) fun x_483 m_484 =>
lx (w32 (y10 + 1)) fun x_497 =>
fl_X12_complete_357 y3 y9 n x_497 m_484
else
some (x_443, m)
set_option maxHeartbeats 4000000 in
theorem ol_X12_complete_357 {xs : List Int32} {d : Nat} {Q : QO → QS → Prop} {mb : MM} {y3 y9 : Int} {rz : Int} {rm : MM}
  (hd : 14 ≤ d)
  (hQ : Ext mb rm → ∀ o S1, Rp S1 rm → q_out 0 o rz → Q o S1) :
  ∀ (n : Nat) {m : MM} {S : QS} {L : QL} {y10 : Int} {v0 : Value} {v3 : Value} {v9 : Value} {v10 : Value} , Ext mb m → fl_X12_complete_357 y3 y9 n y10 m = some (rz, rm) → Rp S m → q_lo L 0 = some v0 → q_is 2 v0 68 → q_lo L 3 = some v3 → q_is 0 v3 y3 → q_lo L 9 = some v9 → q_is 0 v9 y9 → q_lo L 10 = some v10 → q_is 0 v10 y10 → Go xs d qM_X12_complete 357 L [] S Q := by
  intro n
  induction n with
  | zero => intro m S L y10 v0 v3 v9 v10; intro E h R l0 f0 l3 f3 l9 f9 l10 f10; cases h
  | succ n ih0 =>
    intro m S L y10 v0 v3 v9 v10; intro E h R l0 f0 l3 f3 l9 f9 l10 f10
    have ih : ∀ mq : MM, Ext mb mq → ∀ {z10 : Int} {Sq : QS} {Lq : QL} {u0 : Value} {u3 : Value} {u9 : Value} {u10 : Value}, fl_X12_complete_357 y3 y9 n z10 mq = some (rz, rm) → Rp Sq mq → q_lo Lq 0 = some u0 → q_is 2 u0 68 → q_lo Lq 3 = some u3 → q_is 0 u3 y3 → q_lo Lq 9 = some u9 → q_is 0 u9 y9 → q_lo Lq 10 = some u10 → q_is 0 u10 z10 → Go xs d qM_X12_complete 357 Lq [] Sq Q := fun mq b => by intros; exact ih0 b ‹_› ‹_› ‹_› ‹_› ‹_› ‹_› ‹_› ‹_› ‹_› ‹_›
    unfold fl_X12_complete_357 at h
    refine go_iload (n := 10) (by decide +kernel) l10 f10 ?_
    refine go_aload_n (n := 0) (by decide +kernel) l0 f0 ?_
    obtain ⟨x_443, e_444, h⟩ := lx_s h
    refine go_getf (x := 416) (ci := 13) (kf := 120) (fin := 0) (t := 0) (by decide +kernel) (by decide +kernel) (by decide +kernel) R f0 (fx_k (c := 13) R (by decide +kernel)) fun v_440 f_441 => ?_
    have f_442 := q_is_eq f_441 e_444
    refine go_icmp (c := .ge) (o := 48) (t := 411) (P := ¬ (y10 < x_443)) (by decide +kernel) (by decide +kernel) f10 f_442 (Int.not_lt.symm) (fun hp_445 => ?_) (fun hp_445 => ?_)
    · have h := it_f hp_445 h
      refine go_aload_n (n := 0) (by decide +kernel) l0 f0 ?_
      refine go_getf (x := 416) (ci := 13) (kf := 120) (fin := 0) (t := 0) (by decide +kernel) (by decide +kernel) (by decide +kernel) R f0 (fx_k (c := 13) R (by decide +kernel)) fun v_446 f_447 => ?_
      have f_448 := q_is_eq f_447 e_444
      cases h
      exact go_iret (by decide +kernel) rfl (Or.inl rfl) f_448 (hQ E _ _ R (q_out_v (by decide) f_448))
    · have h := it_n hp_445 h
      refine go_aload_n (n := 0) (by decide +kernel) l0 f0 ?_
      refine go_iload_n (n := 3) (by decide +kernel) l3 f3 ?_
      refine go_iload (n := 9) (by decide +kernel) l9 f9 ?_
      refine go_iload (n := 10) (by decide +kernel) l10 f10 ?_
      refine go_iadd (by decide +kernel) f9 f10 fun v_449 f_450 => ?_
      refine go_aload_n (n := 0) (by decide +kernel) l0 f0 ?_
      refine go_getf (x := 291) (ci := 13) (kf := 121) (fin := 1) (t := 2) (by decide +kernel) (by decide +kernel) (by decide +kernel) R f0 (fx_k (c := 13) R (by decide +kernel)) fun v_451 f_452 => ?_
      have f_453 := q_is_eq (b := 158) f_452 (fx_v R (by decide +kernel)).symm
      refine go_iload (n := 10) (by decide +kernel) l10 f10 ?_
      obtain ⟨g_456, h⟩ := gd_s h
      obtain ⟨x_458, e_459, h⟩ := lx_s h
      refine go_iald (kd := 100) (by decide +kernel) rfl R f_453 f10 (fx_k (c := 100) R (by decide +kernel)) (fx_x (a := 158) (ln := 65536) R (by decide +kernel) g_456) fun v_454 f_455 => ?_
      have f_457 := q_is_eq f_455 e_459
      refine go_sipush (n := 1000) (z := 1000) (by decide +kernel) (by decide) fun v_460 f_461 => ?_
      refine go_idiv (by decide +kernel) f_457 f_461 (by decide) fun v_462 f_463 => ?_
      refine go_aload_n (n := 0) (by decide +kernel) l0 f0 ?_
      refine go_getf (x := 294) (ci := 13) (kf := 122) (fin := 1) (t := 2) (by decide +kernel) (by decide +kernel) (by decide +kernel) R f0 (fx_k (c := 13) R (by decide +kernel)) fun v_464 f_465 => ?_
      have f_466 := q_is_eq (b := 159) f_465 (fx_v R (by decide +kernel)).symm
      refine go_iload (n := 10) (by decide +kernel) l10 f10 ?_
      obtain ⟨x_470, e_471, h⟩ := lx_s h
      refine go_iald (kd := 100) (by decide +kernel) rfl R f_466 f10 (fx_k (c := 100) R (by decide +kernel)) (fx_x (a := 159) (ln := 65536) R (by decide +kernel) g_456) fun v_467 f_468 => ?_
      have f_469 := q_is_eq f_468 e_471
      refine go_aload_n (n := 0) (by decide +kernel) l0 f0 ?_
      refine go_getf (x := 291) (ci := 13) (kf := 121) (fin := 1) (t := 2) (by decide +kernel) (by decide +kernel) (by decide +kernel) R f0 (fx_k (c := 13) R (by decide +kernel)) fun v_472 f_473 => ?_
      have f_474 := q_is_eq (b := 158) f_473 (fx_v R (by decide +kernel)).symm
      refine go_iload (n := 10) (by decide +kernel) l10 f10 ?_
      refine go_iald (kd := 100) (by decide +kernel) rfl R f_474 f10 (fx_k (c := 100) R (by decide +kernel)) (fx_x (a := 158) (ln := 65536) R (by decide +kernel) g_456) fun v_475 f_476 => ?_
      have f_477 := q_is_eq f_476 e_459
      refine go_sipush (n := 1000) (z := 1000) (by decide +kernel) (by decide) fun v_478 f_479 => ?_
      refine go_irem (by decide +kernel) f_477 f_479 (by decide) fun v_480 f_481 => ?_
      obtain ⟨x_483, m_484, hc_482, h⟩ := bd_s h
      refine go_callV (x := 620) (mi := 280) (n := 5) (ci := 13) (as := [v3, v_449, v_462, v_467, v_480]) (rest := []) (by decide +kernel) (by decide +kernel) rfl rfl (q_sum8 _ (Nat.le_of_ble_eq_true rfl)) R f0 (fx_k (c := 13) R (by decide +kernel)) (om_X12_carriesOut (Nat.le_trans (by decide) hd) R f0 f3 f_450 f_463 f_469 f_481 hc_482) (fun _ S_487 q_490 => ?_) (fun _ _ qq => kr_x qq)
      refine kr_v q_490 fun R_488 E_489 => ?_
      have E_491 := Ext.tr E E_489
      refine go_iinc (n := 10) (c := 1) (c' := 1) (by decide +kernel) (by decide +kernel) l10 f10 (by decide) fun L_492 v_493 f_494 l_495 kp_496 => ?_
      obtain ⟨x_497, e_498, h⟩ := lx_s h
      have f_499 := q_is_eq f_494 e_498
      have l_500 := kp_496 0 _ l0 (by decide) (Or.inl (by decide))
      have l_501 := kp_496 3 _ l3 (by decide) (Or.inl (by decide))
      have l_502 := kp_496 9 _ l9 (by decide) (Or.inr (q_is_cat f9 (Or.inl rfl)))
      refine go_goto (o := (-51)) (t := 357) (by decide +kernel) (by decide +kernel) ?_
      exact ih m_484 E_491 h R_488 l_500 f0 l_501 f3 l_502 f9 l_495 f_499
noncomputable def fj_X12_complete_193 (y1 y3 y5 y7 y8 : Int) (m : MM) : Option (Int × MM) := lx (m 68 114) fun x_217 =>
if x_217 = 0 then
gd (0 ≤ y3 ∧ y3 < 30) <| lx (m 86 y3) fun x_227 =>
fl_X12_complete_232 y1 y3 y5 y7 y8 x_227 (fun m_336 =>
gd (0 ≤ y1 ∧ y1 < 4096) <| lx (m_336 114 y1) fun x_348 =>
bd (fm_X12_puts y3 17 x_348 0 m_336) fun x_353 m_354 =>
lx (m_354 90 y3) fun x_371 =>
gd (0 ≤ y5 ∧ y5 < 90) <| up m_354 123 y5 x_371 fun m_374 =>
lx (m_374 82 y3) fun x_389 =>
up m_374 124 y5 x_389 fun m_391 =>
lx (m_391 93 y3) fun x_406 =>
up m_391 125 y5 x_406 fun m_408 =>
up m_408 126 y5 y7 fun m_417 =>
up m_417 127 y5 y8 fun m_426 =>
fl_X12_complete_357 y3 x_227  BIG 0 m_426) BIG 0 m
else
gd (0 ≤ y3 ∧ y3 < 30) <| up m 83 y3 6 fun m_509 =>
lx (m_509 68 115) fun x_521 =>
up m_509 94 y3 x_521 fun m_523 =>
some ((-2), m_523)
set_option maxHeartbeats 4000000 in
theorem oj_X12_complete_193 {xs : List Int32} {d : Nat} {S : QS} {L : QL} {Q : QO → QS → Prop} {m : MM} {y1 y3 y5 y7 y8 : Int} {v0 : Value} {v1 : Value} {v3 : Value} {v5 : Value} {v7 : Value} {v8 : Value}  {rz : Int} {rm : MM}
  (hd : 14 ≤ d) (R : Rp S m) (l0 : q_lo L 0 = some v0) (f0 : q_is 2 v0 68) (l1 : q_lo L 1 = some v1) (f1 : q_is 0 v1 y1) (l3 : q_lo L 3 = some v3) (f3 : q_is 0 v3 y3) (l5 : q_lo L 5 = some v5) (f5 : q_is 0 v5 y5) (l7 : q_lo L 7 = some v7) (f7 : q_is 0 v7 y7) (l8 : q_lo L 8 = some v8) (f8 : q_is 0 v8 y8)
  (hQ : Ext m rm → ∀ o S1, Rp S1 rm → q_out 0 o rz → Q o S1)
  (h : fj_X12_complete_193 y1 y3 y5 y7 y8 m = some (rz, rm)) : Go xs d qM_X12_complete 193 L [] S Q := by
  unfold fj_X12_complete_193 at h
  refine go_aload_n (n := 0) (by decide +kernel) l0 f0 ?_
  obtain ⟨x_217, e_218, h⟩ := lx_s h
  refine go_getf (x := 374) (ci := 13) (kf := 114) (fin := 0) (t := 0) (by decide +kernel) (by decide +kernel) (by decide +kernel) R f0 (fx_k (c := 13) R (by decide +kernel)) fun v_214 f_215 => ?_
  have f_216 := q_is_eq f_215 e_218
  refine go_if (c := .eq) (o := 24) (t := 221) (P := x_217 = 0) (by decide +kernel) (by decide +kernel) f_216 (Iff.rfl) (fun hp_219 => ?_) (fun hp_219 => ?_)
  · have h := it_t hp_219 h
    refine go_aload_n (n := 0) (by decide +kernel) l0 f0 ?_
    refine go_getf (x := 61) (ci := 13) (kf := 19) (fin := 1) (t := 2) (by decide +kernel) (by decide +kernel) (by decide +kernel) R f0 (fx_k (c := 13) R (by decide +kernel)) fun v_220 f_221 => ?_
    have f_222 := q_is_eq (b := 86) f_221 (fx_v R (by decide +kernel)).symm
    refine go_iload_n (n := 3) (by decide +kernel) l3 f3 ?_
    obtain ⟨g_225, h⟩ := gd_s h
    obtain ⟨x_227, e_228, h⟩ := lx_s h
    refine go_iald (kd := 100) (by decide +kernel) rfl R f_222 f3 (fx_k (c := 100) R (by decide +kernel)) (fx_x (a := 86) (ln := 30) R (by decide +kernel) g_225) fun v_223 f_224 => ?_
    have f_226 := q_is_eq f_224 e_228
    refine go_istore (n := 9) (by decide +kernel) (by decide +kernel) f_226 fun L_229 l_230 kp_231 => ?_
    have l_232 := kp_231 0 _ l0 (by decide) (Or.inl (by decide))
    have l_233 := kp_231 1 _ l1 (by decide) (Or.inl (by decide))
    have l_234 := kp_231 3 _ l3 (by decide) (Or.inl (by decide))
    have l_235 := kp_231 5 _ l5 (by decide) (Or.inl (by decide))
    have l_236 := kp_231 7 _ l7 (by decide) (Or.inl (by decide))
    have l_237 := kp_231 8 _ l8 (by decide) (Or.inr (q_is_cat f8 (Or.inl rfl)))
    refine go_iconst (n := 0) (z := 0) (by decide +kernel) (by decide) fun v_238 f_239 => ?_
    refine go_istore (n := 10) (by decide +kernel) (by decide +kernel) f_239 fun L_240 l_241 kp_242 => ?_
    have l_243 := kp_242 0 _ l_232 (by decide) (Or.inl (by decide))
    have l_244 := kp_242 1 _ l_233 (by decide) (Or.inl (by decide))
    have l_245 := kp_242 3 _ l_234 (by decide) (Or.inl (by decide))
    have l_246 := kp_242 5 _ l_235 (by decide) (Or.inl (by decide))
    have l_247 := kp_242 7 _ l_236 (by decide) (Or.inl (by decide))
    have l_248 := kp_242 8 _ l_237 (by decide) (Or.inl (by decide))
    have l_249 := kp_242 9 _ l_230 (by decide) (Or.inr (q_is_cat f_226 (Or.inl rfl)))
    refine ol_X12_complete_232 hd  ?_ hQ BIG (Ext.rf _) h R l_243 f0 l_244 f1 l_245 f3 l_246 f5 l_247 f7 l_248 f8 l_249 f_226 l_241 f_239
    intro m_336 E_337
    intro S_333 L_334 v_312 v_313 v_314 v_315 v_316 v_317 v_318
    intro h R_335 l_319 f_326 l_320 f_327 l_321 f_328 l_322 f_329 l_323 f_330 l_324 f_331 l_325 f_332
    have E_338 := E_337
    refine go_aload_n (n := 0) (by decide +kernel) l_319 f_326 ?_
    refine go_iload_n (n := 3) (by decide +kernel) l_321 f_328 ?_
    refine go_bipush (n := 17) (z := 17) (by decide +kernel) (by decide) fun v_339 f_340 => ?_
    refine go_aload_n (n := 0) (by decide +kernel) l_319 f_326 ?_
    refine go_getf (x := 155) (ci := 13) (kf := 54) (fin := 1) (t := 2) (by decide +kernel) (by decide +kernel) (by decide +kernel) R_335 f_326 (fx_k (c := 13) R_335 (by decide +kernel)) fun v_341 f_342 => ?_
    have f_343 := q_is_eq (b := 114) f_342 (fx_v R_335 (by decide +kernel)).symm
    refine go_iload_n (n := 1) (by decide +kernel) l_320 f_327 ?_
    obtain ⟨g_346, h⟩ := gd_s h
    obtain ⟨x_348, e_349, h⟩ := lx_s h
    refine go_iald (kd := 100) (by decide +kernel) rfl R_335 f_343 f_327 (fx_k (c := 100) R_335 (by decide +kernel)) (fx_x (a := 114) (ln := 4096) R_335 (by decide +kernel) g_346) fun v_344 f_345 => ?_
    have f_347 := q_is_eq f_345 e_349
    refine go_iconst (n := 0) (z := 0) (by decide +kernel) (by decide) fun v_350 f_351 => ?_
    obtain ⟨x_353, m_354, hc_352, h⟩ := bd_s h
    refine go_callV (x := 360) (mi := 210) (n := 4) (ci := 13) (as := [v_314, v_339, v_344, v_350]) (rest := []) (by decide +kernel) (by decide +kernel) rfl rfl (q_sum8 _ (Nat.le_of_ble_eq_true rfl)) R_335 f_326 (fx_k (c := 13) R_335 (by decide +kernel)) (om_X12_puts (Nat.le_trans (by decide) hd) R_335 f_326 f_328 f_340 f_347 f_351 hc_352) (fun _ S_357 q_360 => ?_) (fun _ _ qq => kr_x qq)
    refine kr_z (by decide) q_360 fun v_355 f_356 R_358 E_359 => ?_
    have E_361 := Ext.tr E_338 E_359
    refine go_pop (by decide +kernel) f_356 (Or.inl rfl) ?_
    refine go_aload_n (n := 0) (by decide +kernel) l_319 f_326 ?_
    refine go_getf (x := 183) (ci := 13) (kf := 63) (fin := 1) (t := 2) (by decide +kernel) (by decide +kernel) (by decide +kernel) R_358 f_326 (fx_k (c := 13) R_358 (by decide +kernel)) fun v_362 f_363 => ?_
    have f_364 := q_is_eq (b := 123) f_363 (fx_v R_358 (by decide +kernel)).symm
    refine go_iload (n := 5) (by decide +kernel) l_322 f_329 ?_
    refine go_aload_n (n := 0) (by decide +kernel) l_319 f_326 ?_
    refine go_getf (x := 73) (ci := 13) (kf := 23) (fin := 1) (t := 2) (by decide +kernel) (by decide +kernel) (by decide +kernel) R_358 f_326 (fx_k (c := 13) R_358 (by decide +kernel)) fun v_365 f_366 => ?_
    have f_367 := q_is_eq (b := 90) f_366 (fx_v R_358 (by decide +kernel)).symm
    refine go_iload_n (n := 3) (by decide +kernel) l_321 f_328 ?_
    obtain ⟨x_371, e_372, h⟩ := lx_s h
    refine go_iald (kd := 100) (by decide +kernel) rfl R_358 f_367 f_328 (fx_k (c := 100) R_358 (by decide +kernel)) (fx_x (a := 90) (ln := 30) R_358 (by decide +kernel) g_225) fun v_368 f_369 => ?_
    have f_370 := q_is_eq f_369 e_372
    obtain ⟨g_373, h⟩ := gd_s h
    obtain ⟨m_374, e_375, h⟩ := up_s h
    refine go_iast (kd := 100) (by decide +kernel) rfl R_358 f_364 f_329 f_370 (fx_k (c := 100) R_358 (by decide +kernel)) (fx_x (a := 123) (ln := 90) R_358 (by decide +kernel) g_373) e_375 (fx_a R_358.2 (fx_k (c := 100) R_358 (by decide +kernel)) (And.left (fx_x (a := 123) (ln := 90) R_358 (by decide +kernel) g_373)) (by decide +kernel)) fun S_376 R_377 E_378 => ?_
    have E_379 := Ext.tr E_361 E_378
    refine go_aload_n (n := 0) (by decide +kernel) l_319 f_326 ?_
    refine go_getf (x := 186) (ci := 13) (kf := 64) (fin := 1) (t := 2) (by decide +kernel) (by decide +kernel) (by decide +kernel) R_377 f_326 (fx_k (c := 13) R_377 (by decide +kernel)) fun v_380 f_381 => ?_
    have f_382 := q_is_eq (b := 124) f_381 (fx_v R_377 (by decide +kernel)).symm
    refine go_iload (n := 5) (by decide +kernel) l_322 f_329 ?_
    refine go_aload_n (n := 0) (by decide +kernel) l_319 f_326 ?_
    refine go_getf (x := 49) (ci := 13) (kf := 15) (fin := 1) (t := 2) (by decide +kernel) (by decide +kernel) (by decide +kernel) R_377 f_326 (fx_k (c := 13) R_377 (by decide +kernel)) fun v_383 f_384 => ?_
    have f_385 := q_is_eq (b := 82) f_384 (fx_v R_377 (by decide +kernel)).symm
    refine go_iload_n (n := 3) (by decide +kernel) l_321 f_328 ?_
    obtain ⟨x_389, e_390, h⟩ := lx_s h
    refine go_iald (kd := 100) (by decide +kernel) rfl R_377 f_385 f_328 (fx_k (c := 100) R_377 (by decide +kernel)) (fx_x (a := 82) (ln := 30) R_377 (by decide +kernel) g_225) fun v_386 f_387 => ?_
    have f_388 := q_is_eq f_387 e_390
    obtain ⟨m_391, e_392, h⟩ := up_s h
    refine go_iast (kd := 100) (by decide +kernel) rfl R_377 f_382 f_329 f_388 (fx_k (c := 100) R_377 (by decide +kernel)) (fx_x (a := 124) (ln := 90) R_377 (by decide +kernel) g_373) e_392 (fx_a R_377.2 (fx_k (c := 100) R_377 (by decide +kernel)) (And.left (fx_x (a := 124) (ln := 90) R_377 (by decide +kernel) g_373)) (by decide +kernel)) fun S_393 R_394 E_395 => ?_
    have E_396 := Ext.tr E_379 E_395
    refine go_aload_n (n := 0) (by decide +kernel) l_319 f_326 ?_
    refine go_getf (x := 189) (ci := 13) (kf := 65) (fin := 1) (t := 2) (by decide +kernel) (by decide +kernel) (by decide +kernel) R_394 f_326 (fx_k (c := 13) R_394 (by decide +kernel)) fun v_397 f_398 => ?_
    have f_399 := q_is_eq (b := 125) f_398 (fx_v R_394 (by decide +kernel)).symm
    refine go_iload (n := 5) (by decide +kernel) l_322 f_329 ?_
    refine go_aload_n (n := 0) (by decide +kernel) l_319 f_326 ?_
    refine go_getf (x := 82) (ci := 13) (kf := 26) (fin := 1) (t := 2) (by decide +kernel) (by decide +kernel) (by decide +kernel) R_394 f_326 (fx_k (c := 13) R_394 (by decide +kernel)) fun v_400 f_401 => ?_
    have f_402 := q_is_eq (b := 93) f_401 (fx_v R_394 (by decide +kernel)).symm
    refine go_iload_n (n := 3) (by decide +kernel) l_321 f_328 ?_
    obtain ⟨x_406, e_407, h⟩ := lx_s h
    refine go_iald (kd := 100) (by decide +kernel) rfl R_394 f_402 f_328 (fx_k (c := 100) R_394 (by decide +kernel)) (fx_x (a := 93) (ln := 30) R_394 (by decide +kernel) g_225) fun v_403 f_404 => ?_
    have f_405 := q_is_eq f_404 e_407
    obtain ⟨m_408, e_409, h⟩ := up_s h
    refine go_iast (kd := 100) (by decide +kernel) rfl R_394 f_399 f_329 f_405 (fx_k (c := 100) R_394 (by decide +kernel)) (fx_x (a := 125) (ln := 90) R_394 (by decide +kernel) g_373) e_409 (fx_a R_394.2 (fx_k (c := 100) R_394 (by decide +kernel)) (And.left (fx_x (a := 125) (ln := 90) R_394 (by decide +kernel) g_373)) (by decide +kernel)) fun S_410 R_411 E_412 => ?_
    have E_413 := Ext.tr E_396 E_412
    refine go_aload_n (n := 0) (by decide +kernel) l_319 f_326 ?_
    refine go_getf (x := 192) (ci := 13) (kf := 66) (fin := 1) (t := 2) (by decide +kernel) (by decide +kernel) (by decide +kernel) R_411 f_326 (fx_k (c := 13) R_411 (by decide +kernel)) fun v_414 f_415 => ?_
    have f_416 := q_is_eq (b := 126) f_415 (fx_v R_411 (by decide +kernel)).symm
    refine go_iload (n := 5) (by decide +kernel) l_322 f_329 ?_
    refine go_iload (n := 7) (by decide +kernel) l_323 f_330 ?_
    obtain ⟨m_417, e_418, h⟩ := up_s h
    refine go_iast (kd := 100) (by decide +kernel) rfl R_411 f_416 f_329 f_330 (fx_k (c := 100) R_411 (by decide +kernel)) (fx_x (a := 126) (ln := 90) R_411 (by decide +kernel) g_373) e_418 (fx_a R_411.2 (fx_k (c := 100) R_411 (by decide +kernel)) (And.left (fx_x (a := 126) (ln := 90) R_411 (by decide +kernel) g_373)) (by decide +kernel)) fun S_419 R_420 E_421 => ?_
    have E_422 := Ext.tr E_413 E_421
    refine go_aload_n (n := 0) (by decide +kernel) l_319 f_326 ?_
    refine go_getf (x := 195) (ci := 13) (kf := 67) (fin := 1) (t := 2) (by decide +kernel) (by decide +kernel) (by decide +kernel) R_420 f_326 (fx_k (c := 13) R_420 (by decide +kernel)) fun v_423 f_424 => ?_
    have f_425 := q_is_eq (b := 127) f_424 (fx_v R_420 (by decide +kernel)).symm
    refine go_iload (n := 5) (by decide +kernel) l_322 f_329 ?_
    refine go_iload (n := 8) (by decide +kernel) l_324 f_331 ?_
    obtain ⟨m_426, e_427, h⟩ := up_s h
    refine go_iast (kd := 100) (by decide +kernel) rfl R_420 f_425 f_329 f_331 (fx_k (c := 100) R_420 (by decide +kernel)) (fx_x (a := 127) (ln := 90) R_420 (by decide +kernel) g_373) e_427 (fx_a R_420.2 (fx_k (c := 100) R_420 (by decide +kernel)) (And.left (fx_x (a := 127) (ln := 90) R_420 (by decide +kernel) g_373)) (by decide +kernel)) fun S_428 R_429 E_430 => ?_
    have E_431 := Ext.tr E_422 E_430
    refine go_iconst (n := 0) (z := 0) (by decide +kernel) (by decide) fun v_432 f_433 => ?_
    refine go_istore (n := 10) (by decide +kernel) (by decide +kernel) f_433 fun L_434 l_435 kp_436 => ?_
    have l_437 := kp_436 0 _ l_319 (by decide) (Or.inl (by decide))
    have l_438 := kp_436 3 _ l_321 (by decide) (Or.inl (by decide))
    have l_439 := kp_436 9 _ l_325 (by decide) (Or.inr (q_is_cat f_332 (Or.inl rfl)))
    refine ol_X12_complete_357 hd   (fun b => hQ (Ext.tr E_431 b)) BIG (Ext.rf _) h R_429 l_437 f_326 l_438 f_328 l_439 f_332 l_435 f_433
  · have h := it_f hp_219 h
    refine go_aload_n (n := 0) (by decide +kernel) l0 f0 ?_
    refine go_getf (x := 52) (ci := 13) (kf := 16) (fin := 1) (t := 2) (by decide +kernel) (by decide +kernel) (by decide +kernel) R f0 (fx_k (c := 13) R (by decide +kernel)) fun v_503 f_504 => ?_
    have f_505 := q_is_eq (b := 83) f_504 (fx_v R (by decide +kernel)).symm
    refine go_iload_n (n := 3) (by decide +kernel) l3 f3 ?_
    refine go_bipush (n := 6) (z := 6) (by decide +kernel) (by decide) fun v_506 f_507 => ?_
    obtain ⟨g_508, h⟩ := gd_s h
    obtain ⟨m_509, e_510, h⟩ := up_s h
    refine go_iast (kd := 100) (by decide +kernel) rfl R f_505 f3 f_507 (fx_k (c := 100) R (by decide +kernel)) (fx_x (a := 83) (ln := 30) R (by decide +kernel) g_508) e_510 (fx_a R.2 (fx_k (c := 100) R (by decide +kernel)) (And.left (fx_x (a := 83) (ln := 30) R (by decide +kernel) g_508)) (by decide +kernel)) fun S_511 R_512 E_513 => ?_
    have E_514 := E_513
    refine go_aload_n (n := 0) (by decide +kernel) l0 f0 ?_
    refine go_getf (x := 85) (ci := 13) (kf := 27) (fin := 1) (t := 2) (by decide +kernel) (by decide +kernel) (by decide +kernel) R_512 f0 (fx_k (c := 13) R_512 (by decide +kernel)) fun v_515 f_516 => ?_
    have f_517 := q_is_eq (b := 94) f_516 (fx_v R_512 (by decide +kernel)).symm
    refine go_iload_n (n := 3) (by decide +kernel) l3 f3 ?_
    refine go_aload_n (n := 0) (by decide +kernel) l0 f0 ?_
    obtain ⟨x_521, e_522, h⟩ := lx_s h
    refine go_getf (x := 378) (ci := 13) (kf := 115) (fin := 0) (t := 0) (by decide +kernel) (by decide +kernel) (by decide +kernel) R_512 f0 (fx_k (c := 13) R_512 (by decide +kernel)) fun v_518 f_519 => ?_
    have f_520 := q_is_eq f_519 e_522
    obtain ⟨m_523, e_524, h⟩ := up_s h
    refine go_iast (kd := 100) (by decide +kernel) rfl R_512 f_517 f3 f_520 (fx_k (c := 100) R_512 (by decide +kernel)) (fx_x (a := 94) (ln := 30) R_512 (by decide +kernel) g_508) e_524 (fx_a R_512.2 (fx_k (c := 100) R_512 (by decide +kernel)) (And.left (fx_x (a := 94) (ln := 30) R_512 (by decide +kernel) g_508)) (by decide +kernel)) fun S_525 R_526 E_527 => ?_
    have E_528 := Ext.tr E_514 E_527
    refine go_bipush (n := (-2)) (z := (-2)) (by decide +kernel) (by decide) fun v_529 f_530 => ?_
    cases h
    exact go_iret (by decide +kernel) rfl (Or.inl rfl) f_530 (hQ E_528 _ _ R_526 (q_out_v (by decide) f_530))
noncomputable def fj_X12_complete_144 (y1 y3 y5 y7 s0 : Int) (m : MM) : Option (Int × MM) := gd (0 ≤ y3 ∧ y3 < 30) <| lx (m 82 y3) fun x_187 =>
gd (0 ≤ y1 ∧ y1 < 4096) <| lx (m 114 y1) fun x_196 =>
bd (fm_X12_tellsRun y3 x_187 x_196 y7 s0 m) fun x_199 m_200 =>
lx (m_200 68 114) fun x_211 =>
if x_211 = 0 then
bd (fm_X12_nextCommand m_200) fun x_532 m_533 =>
lx (m_533 68 124) fun x_544 =>
if x_532 < x_544 then
bd (fm_X12_nextCommand m_533) fun x_548 m_549 =>
bd (fm_X12_differs x_548 m_549) fun x_558 m_559 =>
fj_X12_complete_193 y1 y3 y5 y7 s0 m_559
else
fj_X12_complete_193 y1 y3 y5 y7 s0 m_533
else
fj_X12_complete_193 y1 y3 y5 y7 s0 m_200
set_option maxHeartbeats 4000000 in
theorem oj_X12_complete_144 {xs : List Int32} {d : Nat} {S : QS} {L : QL} {Q : QO → QS → Prop} {m : MM} {y1 y3 y5 y7 s0 : Int} {v0 : Value} {v1 : Value} {v3 : Value} {v5 : Value} {v7 : Value} {w0 : Value}  {rz : Int} {rm : MM}
  (hd : 14 ≤ d) (R : Rp S m) (l0 : q_lo L 0 = some v0) (f0 : q_is 2 v0 68) (l1 : q_lo L 1 = some v1) (f1 : q_is 0 v1 y1) (l3 : q_lo L 3 = some v3) (f3 : q_is 0 v3 y3) (l5 : q_lo L 5 = some v5) (f5 : q_is 0 v5 y5) (l7 : q_lo L 7 = some v7) (f7 : q_is 0 v7 y7) (fs0 : q_is 0 w0 s0)
  (hQ : Ext m rm → ∀ o S1, Rp S1 rm → q_out 0 o rz → Q o S1)
  (h : fj_X12_complete_144 y1 y3 y5 y7 s0 m = some (rz, rm)) : Go xs d qM_X12_complete 144 L [w0] S Q := by
  unfold fj_X12_complete_144 at h
  refine go_istore (n := 8) (by decide +kernel) (by decide +kernel) fs0 fun L_172 l_173 kp_174 => ?_
  have l_175 := kp_174 0 _ l0 (by decide) (Or.inl (by decide))
  have l_176 := kp_174 1 _ l1 (by decide) (Or.inl (by decide))
  have l_177 := kp_174 3 _ l3 (by decide) (Or.inl (by decide))
  have l_178 := kp_174 5 _ l5 (by decide) (Or.inl (by decide))
  have l_179 := kp_174 7 _ l7 (by decide) (Or.inr (q_is_cat f7 (Or.inl rfl)))
  refine go_aload_n (n := 0) (by decide +kernel) l_175 f0 ?_
  refine go_iload_n (n := 3) (by decide +kernel) l_177 f3 ?_
  refine go_aload_n (n := 0) (by decide +kernel) l_175 f0 ?_
  refine go_getf (x := 49) (ci := 13) (kf := 15) (fin := 1) (t := 2) (by decide +kernel) (by decide +kernel) (by decide +kernel) R f0 (fx_k (c := 13) R (by decide +kernel)) fun v_180 f_181 => ?_
  have f_182 := q_is_eq (b := 82) f_181 (fx_v R (by decide +kernel)).symm
  refine go_iload_n (n := 3) (by decide +kernel) l_177 f3 ?_
  obtain ⟨g_185, h⟩ := gd_s h
  obtain ⟨x_187, e_188, h⟩ := lx_s h
  refine go_iald (kd := 100) (by decide +kernel) rfl R f_182 f3 (fx_k (c := 100) R (by decide +kernel)) (fx_x (a := 82) (ln := 30) R (by decide +kernel) g_185) fun v_183 f_184 => ?_
  have f_186 := q_is_eq f_184 e_188
  refine go_aload_n (n := 0) (by decide +kernel) l_175 f0 ?_
  refine go_getf (x := 155) (ci := 13) (kf := 54) (fin := 1) (t := 2) (by decide +kernel) (by decide +kernel) (by decide +kernel) R f0 (fx_k (c := 13) R (by decide +kernel)) fun v_189 f_190 => ?_
  have f_191 := q_is_eq (b := 114) f_190 (fx_v R (by decide +kernel)).symm
  refine go_iload_n (n := 1) (by decide +kernel) l_176 f1 ?_
  obtain ⟨g_194, h⟩ := gd_s h
  obtain ⟨x_196, e_197, h⟩ := lx_s h
  refine go_iald (kd := 100) (by decide +kernel) rfl R f_191 f1 (fx_k (c := 100) R (by decide +kernel)) (fx_x (a := 114) (ln := 4096) R (by decide +kernel) g_194) fun v_192 f_193 => ?_
  have f_195 := q_is_eq f_193 e_197
  refine go_iload (n := 7) (by decide +kernel) l_179 f7 ?_
  refine go_iload (n := 8) (by decide +kernel) l_173 fs0 ?_
  obtain ⟨x_199, m_200, hc_198, h⟩ := bd_s h
  refine go_callV (x := 545) (mi := 249) (n := 5) (ci := 13) (as := [v3, v_183, v_192, v7, w0]) (rest := []) (by decide +kernel) (by decide +kernel) rfl rfl (q_sum8 _ (Nat.le_of_ble_eq_true rfl)) R f0 (fx_k (c := 13) R (by decide +kernel)) (om_X12_tellsRun (Nat.le_trans (by decide) hd) R f0 f3 f_186 f_195 f7 fs0 hc_198) (fun _ S_203 q_206 => ?_) (fun _ _ qq => kr_x qq)
  refine kr_v q_206 fun R_204 E_205 => ?_
  have E_207 := E_205
  refine go_aload_n (n := 0) (by decide +kernel) l_175 f0 ?_
  obtain ⟨x_211, e_212, h⟩ := lx_s h
  refine go_getf (x := 374) (ci := 13) (kf := 114) (fin := 0) (t := 0) (by decide +kernel) (by decide +kernel) (by decide +kernel) R_204 f0 (fx_k (c := 13) R_204 (by decide +kernel)) fun v_208 f_209 => ?_
  have f_210 := q_is_eq f_209 e_212
  refine go_if (c := .ne) (o := 22) (t := 193) (P := ¬ (x_211 = 0)) (by decide +kernel) (by decide +kernel) f_210 (Iff.rfl) (fun hp_213 => ?_) (fun hp_213 => ?_)
  · have h := it_f hp_213 h
    exact oj_X12_complete_193 hd R_204 l_175 f0 l_176 f1 l_177 f3 l_178 f5 l_179 f7 l_173 fs0 (fun b => hQ (Ext.tr E_207 b)) h
  · have h := it_n hp_213 h
    refine go_aload_n (n := 0) (by decide +kernel) l_175 f0 ?_
    obtain ⟨x_532, m_533, hc_531, h⟩ := bd_s h
    refine go_callV (x := 393) (mi := 219) (n := 0) (ci := 13) (as := []) (rest := []) (by decide +kernel) (by decide +kernel) rfl rfl (q_sum8 _ (Nat.le_of_ble_eq_true rfl)) R_204 f0 (fx_k (c := 13) R_204 (by decide +kernel)) (om_X12_nextCommand (Nat.le_trans (by decide) hd) R_204 f0 hc_531) (fun _ S_536 q_539 => ?_) (fun _ _ qq => kr_x qq)
    refine kr_z (by decide) q_539 fun v_534 f_535 R_537 E_538 => ?_
    have E_540 := Ext.tr E_207 E_538
    refine go_aload_n (n := 0) (by decide +kernel) l_175 f0 ?_
    obtain ⟨x_544, e_545, h⟩ := lx_s h
    refine go_getf (x := 384) (ci := 13) (kf := 124) (fin := 0) (t := 0) (by decide +kernel) (by decide +kernel) (by decide +kernel) R_537 f0 (fx_k (c := 13) R_537 (by decide +kernel)) fun v_541 f_542 => ?_
    have f_543 := q_is_eq f_542 e_545
    refine go_icmp (c := .ge) (o := 11) (t := 193) (P := ¬ (x_532 < x_544)) (by decide +kernel) (by decide +kernel) f_535 f_543 (Int.not_lt.symm) (fun hp_546 => ?_) (fun hp_546 => ?_)
    · have h := it_f hp_546 h
      exact oj_X12_complete_193 hd R_537 l_175 f0 l_176 f1 l_177 f3 l_178 f5 l_179 f7 l_173 fs0 (fun b => hQ (Ext.tr E_540 b)) h
    · have h := it_n hp_546 h
      refine go_aload_n (n := 0) (by decide +kernel) l_175 f0 ?_
      refine go_aload_n (n := 0) (by decide +kernel) l_175 f0 ?_
      obtain ⟨x_548, m_549, hc_547, h⟩ := bd_s h
      refine go_callV (x := 393) (mi := 219) (n := 0) (ci := 13) (as := []) (rest := [v0]) (by decide +kernel) (by decide +kernel) rfl rfl (q_sum8 _ (Nat.le_of_ble_eq_true rfl)) R_537 f0 (fx_k (c := 13) R_537 (by decide +kernel)) (om_X12_nextCommand (Nat.le_trans (by decide) hd) R_537 f0 hc_547) (fun _ S_552 q_555 => ?_) (fun _ _ qq => kr_x qq)
      refine kr_z (by decide) q_555 fun v_550 f_551 R_553 E_554 => ?_
      have E_556 := Ext.tr E_540 E_554
      obtain ⟨x_558, m_559, hc_557, h⟩ := bd_s h
      refine go_callV (x := 400) (mi := 218) (n := 1) (ci := 13) (as := [v_550]) (rest := []) (by decide +kernel) (by decide +kernel) rfl rfl (q_sum8 _ (Nat.le_of_ble_eq_true rfl)) R_553 f0 (fx_k (c := 13) R_553 (by decide +kernel)) (om_X12_differs (Nat.le_trans (by decide) hd) R_553 f0 f_551 hc_557) (fun _ S_562 q_565 => ?_) (fun _ _ qq => kr_x qq)
      refine kr_v q_565 fun R_563 E_564 => ?_
      have E_566 := Ext.tr E_556 E_564
      exact oj_X12_complete_193 hd R_563 l_175 f0 l_176 f1 l_177 f3 l_178 f5 l_179 f7 l_173 fs0 (fun b => hQ (Ext.tr E_566 b)) h
noncomputable def fj_X12_complete_121 (y1 y3 y5 y6 s0 : Int) (m : MM) : Option (Int × MM) := if y6 = 0 then
gd (0 ≤ y3 ∧ y3 < 30) <| lx (m 91 y3) fun x_170 =>
fj_X12_complete_144 y1 y3 y5 s0 x_170 m
else
gd (0 ≤ y5 ∧ y5 < 90) <| lx (m 127 y5) fun x_574 =>
fj_X12_complete_144 y1 y3 y5 s0 x_574 m
set_option maxHeartbeats 4000000 in
theorem oj_X12_complete_121 {xs : List Int32} {d : Nat} {S : QS} {L : QL} {Q : QO → QS → Prop} {m : MM} {y1 y3 y5 y6 s0 : Int} {v0 : Value} {v1 : Value} {v3 : Value} {v5 : Value} {v6 : Value} {w0 : Value}  {rz : Int} {rm : MM}
  (hd : 14 ≤ d) (R : Rp S m) (l0 : q_lo L 0 = some v0) (f0 : q_is 2 v0 68) (l1 : q_lo L 1 = some v1) (f1 : q_is 0 v1 y1) (l3 : q_lo L 3 = some v3) (f3 : q_is 0 v3 y3) (l5 : q_lo L 5 = some v5) (f5 : q_is 0 v5 y5) (l6 : q_lo L 6 = some v6) (f6 : q_is 0 v6 y6) (fs0 : q_is 0 w0 s0)
  (hQ : Ext m rm → ∀ o S1, Rp S1 rm → q_out 0 o rz → Q o S1)
  (h : fj_X12_complete_121 y1 y3 y5 y6 s0 m = some (rz, rm)) : Go xs d qM_X12_complete 121 L [w0] S Q := by
  unfold fj_X12_complete_121 at h
  refine go_istore (n := 7) (by decide +kernel) (by decide +kernel) fs0 fun L_154 l_155 kp_156 => ?_
  have l_157 := kp_156 0 _ l0 (by decide) (Or.inl (by decide))
  have l_158 := kp_156 1 _ l1 (by decide) (Or.inl (by decide))
  have l_159 := kp_156 3 _ l3 (by decide) (Or.inl (by decide))
  have l_160 := kp_156 5 _ l5 (by decide) (Or.inl (by decide))
  have l_161 := kp_156 6 _ l6 (by decide) (Or.inr (q_is_cat f6 (Or.inl rfl)))
  refine go_iload (n := 6) (by decide +kernel) l_161 f6 ?_
  refine go_if (c := .eq) (o := 13) (t := 138) (P := y6 = 0) (by decide +kernel) (by decide +kernel) f6 (Iff.rfl) (fun hp_162 => ?_) (fun hp_162 => ?_)
  · have h := it_t hp_162 h
    refine go_aload_n (n := 0) (by decide +kernel) l_157 f0 ?_
    refine go_getf (x := 76) (ci := 13) (kf := 24) (fin := 1) (t := 2) (by decide +kernel) (by decide +kernel) (by decide +kernel) R f0 (fx_k (c := 13) R (by decide +kernel)) fun v_163 f_164 => ?_
    have f_165 := q_is_eq (b := 91) f_164 (fx_v R (by decide +kernel)).symm
    refine go_iload_n (n := 3) (by decide +kernel) l_159 f3 ?_
    obtain ⟨g_168, h⟩ := gd_s h
    obtain ⟨x_170, e_171, h⟩ := lx_s h
    refine go_iald (kd := 100) (by decide +kernel) rfl R f_165 f3 (fx_k (c := 100) R (by decide +kernel)) (fx_x (a := 91) (ln := 30) R (by decide +kernel) g_168) fun v_166 f_167 => ?_
    have f_169 := q_is_eq f_167 e_171
    exact oj_X12_complete_144 hd R l_157 f0 l_158 f1 l_159 f3 l_160 f5 l_155 fs0 f_169 hQ h
  · have h := it_f hp_162 h
    refine go_aload_n (n := 0) (by decide +kernel) l_157 f0 ?_
    refine go_getf (x := 195) (ci := 13) (kf := 67) (fin := 1) (t := 2) (by decide +kernel) (by decide +kernel) (by decide +kernel) R f0 (fx_k (c := 13) R (by decide +kernel)) fun v_567 f_568 => ?_
    have f_569 := q_is_eq (b := 127) f_568 (fx_v R (by decide +kernel)).symm
    refine go_iload (n := 5) (by decide +kernel) l_160 f5 ?_
    obtain ⟨g_572, h⟩ := gd_s h
    obtain ⟨x_574, e_575, h⟩ := lx_s h
    refine go_iald (kd := 100) (by decide +kernel) rfl R f_569 f5 (fx_k (c := 100) R (by decide +kernel)) (fx_x (a := 127) (ln := 90) R (by decide +kernel) g_572) fun v_570 f_571 => ?_
    have f_573 := q_is_eq f_571 e_575
    refine go_goto (o := 9) (t := 144) (by decide +kernel) (by decide +kernel) ?_
    exact oj_X12_complete_144 hd R l_157 f0 l_158 f1 l_159 f3 l_160 f5 l_155 fs0 f_573 hQ h
noncomputable def fj_X12_complete_98 (y1 y3 y5 y6 s0 s1 s2 s3 : Int) (m : MM) : Option (Int × MM) := gd (okc m s3 100) <| gd (okx m s3 s2) <| up m s3 s2 (w32 (s1 + s0)) fun m_138 =>
if y6 = 0 then
gd (0 ≤ y3 ∧ y3 < 30) <| lx (m_138 86 y3) fun x_152 =>
fj_X12_complete_121 y1 y3 y5 y6 x_152 m_138
else
gd (0 ≤ y5 ∧ y5 < 90) <| lx (m_138 126 y5) fun x_583 =>
fj_X12_complete_121 y1 y3 y5 y6 x_583 m_138
set_option maxHeartbeats 4000000 in
theorem oj_X12_complete_98 {xs : List Int32} {d : Nat} {S : QS} {L : QL} {Q : QO → QS → Prop} {m : MM} {y1 y3 y5 y6 s0 s1 s2 s3 : Int} {v0 : Value} {v1 : Value} {v3 : Value} {v5 : Value} {v6 : Value} {w0 : Value} {w1 : Value} {w2 : Value} {w3 : Value}  {rz : Int} {rm : MM}
  (hd : 14 ≤ d) (R : Rp S m) (l0 : q_lo L 0 = some v0) (f0 : q_is 2 v0 68) (l1 : q_lo L 1 = some v1) (f1 : q_is 0 v1 y1) (l3 : q_lo L 3 = some v3) (f3 : q_is 0 v3 y3) (l5 : q_lo L 5 = some v5) (f5 : q_is 0 v5 y5) (l6 : q_lo L 6 = some v6) (f6 : q_is 0 v6 y6) (fs0 : q_is 0 w0 s0) (fs1 : q_is 0 w1 s1) (fs2 : q_is 0 w2 s2) (fs3 : q_is 2 w3 s3)
  (hQ : Ext m rm → ∀ o S1, Rp S1 rm → q_out 0 o rz → Q o S1)
  (h : fj_X12_complete_98 y1 y3 y5 y6 s0 s1 s2 s3 m = some (rz, rm)) : Go xs d qM_X12_complete 98 L [w0, w1, w2, w3] S Q := by
  unfold fj_X12_complete_98 at h
  refine go_iadd (by decide +kernel) fs1 fs0 fun v_134 f_135 => ?_
  obtain ⟨g_136, h⟩ := gd_s h
  obtain ⟨g_137, h⟩ := gd_s h
  obtain ⟨m_138, e_139, h⟩ := up_s h
  refine go_iast (kd := 100) (by decide +kernel) rfl R fs3 fs2 f_135 g_136 g_137 e_139 (fx_a R.2 g_136 (And.left g_137) (by decide +kernel)) fun S_140 R_141 E_142 => ?_
  have E_143 := E_142
  refine go_iload (n := 6) (by decide +kernel) l6 f6 ?_
  refine go_if (c := .eq) (o := 13) (t := 115) (P := y6 = 0) (by decide +kernel) (by decide +kernel) f6 (Iff.rfl) (fun hp_144 => ?_) (fun hp_144 => ?_)
  · have h := it_t hp_144 h
    refine go_aload_n (n := 0) (by decide +kernel) l0 f0 ?_
    refine go_getf (x := 61) (ci := 13) (kf := 19) (fin := 1) (t := 2) (by decide +kernel) (by decide +kernel) (by decide +kernel) R_141 f0 (fx_k (c := 13) R_141 (by decide +kernel)) fun v_145 f_146 => ?_
    have f_147 := q_is_eq (b := 86) f_146 (fx_v R_141 (by decide +kernel)).symm
    refine go_iload_n (n := 3) (by decide +kernel) l3 f3 ?_
    obtain ⟨g_150, h⟩ := gd_s h
    obtain ⟨x_152, e_153, h⟩ := lx_s h
    refine go_iald (kd := 100) (by decide +kernel) rfl R_141 f_147 f3 (fx_k (c := 100) R_141 (by decide +kernel)) (fx_x (a := 86) (ln := 30) R_141 (by decide +kernel) g_150) fun v_148 f_149 => ?_
    have f_151 := q_is_eq f_149 e_153
    exact oj_X12_complete_121 hd R_141 l0 f0 l1 f1 l3 f3 l5 f5 l6 f6 f_151 (fun b => hQ (Ext.tr E_143 b)) h
  · have h := it_f hp_144 h
    refine go_aload_n (n := 0) (by decide +kernel) l0 f0 ?_
    refine go_getf (x := 192) (ci := 13) (kf := 66) (fin := 1) (t := 2) (by decide +kernel) (by decide +kernel) (by decide +kernel) R_141 f0 (fx_k (c := 13) R_141 (by decide +kernel)) fun v_576 f_577 => ?_
    have f_578 := q_is_eq (b := 126) f_577 (fx_v R_141 (by decide +kernel)).symm
    refine go_iload (n := 5) (by decide +kernel) l5 f5 ?_
    obtain ⟨g_581, h⟩ := gd_s h
    obtain ⟨x_583, e_584, h⟩ := lx_s h
    refine go_iald (kd := 100) (by decide +kernel) rfl R_141 f_578 f5 (fx_k (c := 100) R_141 (by decide +kernel)) (fx_x (a := 126) (ln := 90) R_141 (by decide +kernel) g_581) fun v_579 f_580 => ?_
    have f_582 := q_is_eq f_580 e_584
    refine go_goto (o := 9) (t := 121) (by decide +kernel) (by decide +kernel) ?_
    exact oj_X12_complete_121 hd R_141 l0 f0 l1 f1 l3 f3 l5 f5 l6 f6 f_582 (fun b => hQ (Ext.tr E_143 b)) h
noncomputable def fj_X12_complete_20 (y1 s0 : Int) (m : MM) : Option (Int × MM) := bd (fm_X12_fails s0 m) fun x_25 m_26 =>
if x_25 = 0 then
bp (fm_X12_isStale y1 m_26) fun x_36 =>
gd (0 ≤ y1 ∧ y1 < 4096) <| up m_26 119 y1 1 fun m_55 =>
if x_36 = 0 then
lx (m_55 113 y1) fun x_68 =>
lx (m_55 112 y1) fun x_81 =>
lx (w32 ((w32 (30 * x_81)) + x_68)) fun x_95 =>
bp (fm_X12_hasState x_81 x_68 m_55) fun x_106 =>
gd (0 ≤ x_81 ∧ x_81 < 3) <| lx (m_55 122 x_81) fun x_129 =>
if x_106 = 0 then
fj_X12_complete_98 y1 x_68 x_95 x_106 1 x_129 x_81 122 m_55
else
fj_X12_complete_98 y1 x_68 x_95 x_106 0 x_129 x_81 122 m_55
else
some ((-1), m_55)
else
some (0, m_26)
set_option maxHeartbeats 4000000 in
theorem oj_X12_complete_20 {xs : List Int32} {d : Nat} {S : QS} {L : QL} {Q : QO → QS → Prop} {m : MM} {y1 s0 : Int} {v0 : Value} {v1 : Value} {w0 : Value} {w1 : Value}  {rz : Int} {rm : MM}
  (hd : 14 ≤ d) (R : Rp S m) (l0 : q_lo L 0 = some v0) (f0 : q_is 2 v0 68) (l1 : q_lo L 1 = some v1) (f1 : q_is 0 v1 y1) (fs0 : q_is 0 w0 s0) (fs1 : q_is 2 w1 68)
  (hQ : Ext m rm → ∀ o S1, Rp S1 rm → q_out 0 o rz → Q o S1)
  (h : fj_X12_complete_20 y1 s0 m = some (rz, rm)) : Go xs d qM_X12_complete 20 L [w0, w1] S Q := by
  unfold fj_X12_complete_20 at h
  obtain ⟨x_25, m_26, hc_24, h⟩ := bd_s h
  refine go_callV (x := 324) (mi := 186) (n := 1) (ci := 13) (as := [w0]) (rest := []) (by decide +kernel) (by decide +kernel) rfl rfl (q_sum8 _ (Nat.le_of_ble_eq_true rfl)) R fs1 (fx_k (c := 13) R (by decide +kernel)) (om_X12_fails (Nat.le_trans (by decide) hd) R fs1 fs0 hc_24) (fun _ S_29 q_32 => ?_) (fun _ _ qq => kr_x qq)
  refine kr_z (by decide) q_32 fun v_27 f_28 R_30 E_31 => ?_
  have E_33 := E_31
  refine go_if (c := .eq) (o := 5) (t := 28) (P := x_25 = 0) (by decide +kernel) (by decide +kernel) f_28 (Iff.rfl) (fun hp_34 => ?_) (fun hp_34 => ?_)
  · have h := it_t hp_34 h
    refine go_aload_n (n := 0) (by decide +kernel) l0 f0 ?_
    refine go_iload_n (n := 1) (by decide +kernel) l1 f1 ?_
    obtain ⟨x_36, hc_35, h⟩ := bp_s h
    refine go_callV (x := 614) (mi := 277) (n := 1) (ci := 13) (as := [v1]) (rest := []) (by decide +kernel) (by decide +kernel) rfl rfl (q_sum8 _ (Nat.le_of_ble_eq_true rfl)) R_30 f0 (fx_k (c := 13) R_30 (by decide +kernel)) (om_X12_isStale (Nat.le_trans (by decide) hd) R_30 f0 f1 hc_35) (fun _ S_40 q_43 => ?_) (fun _ _ qq => kr_x qq)
    refine kr_z (by decide) q_43 fun v_38 f_39 R_41 E_42 => ?_
    refine go_istore_n (n := 2) (by decide +kernel) (by decide +kernel) f_39 fun L_44 l_45 kp_46 => ?_
    have l_47 := kp_46 0 _ l0 (by decide) (Or.inl (by decide))
    have l_48 := kp_46 1 _ l1 (by decide) (Or.inr (q_is_cat f1 (Or.inl rfl)))
    refine go_aload_n (n := 0) (by decide +kernel) l_47 f0 ?_
    refine go_getf (x := 170) (ci := 13) (kf := 59) (fin := 1) (t := 2) (by decide +kernel) (by decide +kernel) (by decide +kernel) R_41 f0 (fx_k (c := 13) R_41 (by decide +kernel)) fun v_49 f_50 => ?_
    have f_51 := q_is_eq (b := 119) f_50 (fx_v R_41 (by decide +kernel)).symm
    refine go_iload_n (n := 1) (by decide +kernel) l_48 f1 ?_
    refine go_iconst (n := 1) (z := 1) (by decide +kernel) (by decide) fun v_52 f_53 => ?_
    obtain ⟨g_54, h⟩ := gd_s h
    obtain ⟨m_55, e_56, h⟩ := up_s h
    refine go_bast (kd := 102) (by decide +kernel) rfl R_41 f_51 f1 f_53 (by decide) (fx_k (c := 102) R_41 (by decide +kernel)) (fx_x (a := 119) (ln := 4096) R_41 (by decide +kernel) g_54) e_56 (fx_a R_41.2 (fx_k (c := 102) R_41 (by decide +kernel)) (And.left (fx_x (a := 119) (ln := 4096) R_41 (by decide +kernel) g_54)) (by decide +kernel)) fun S_57 R_58 E_59 => ?_
    have E_60 := Ext.tr E_33 E_59
    refine go_iload_n (n := 2) (by decide +kernel) l_45 f_39 ?_
    refine go_if (c := .eq) (o := 5) (t := 47) (P := x_36 = 0) (by decide +kernel) (by decide +kernel) f_39 (Iff.rfl) (fun hp_61 => ?_) (fun hp_61 => ?_)
    · have h := it_t hp_61 h
      refine go_aload_n (n := 0) (by decide +kernel) l_47 f0 ?_
      refine go_getf (x := 152) (ci := 13) (kf := 53) (fin := 1) (t := 2) (by decide +kernel) (by decide +kernel) (by decide +kernel) R_58 f0 (fx_k (c := 13) R_58 (by decide +kernel)) fun v_62 f_63 => ?_
      have f_64 := q_is_eq (b := 113) f_63 (fx_v R_58 (by decide +kernel)).symm
      refine go_iload_n (n := 1) (by decide +kernel) l_48 f1 ?_
      obtain ⟨x_68, e_69, h⟩ := lx_s h
      refine go_iald (kd := 100) (by decide +kernel) rfl R_58 f_64 f1 (fx_k (c := 100) R_58 (by decide +kernel)) (fx_x (a := 113) (ln := 4096) R_58 (by decide +kernel) g_54) fun v_65 f_66 => ?_
      have f_67 := q_is_eq f_66 e_69
      refine go_istore_n (n := 3) (by decide +kernel) (by decide +kernel) f_67 fun L_70 l_71 kp_72 => ?_
      have l_73 := kp_72 0 _ l_47 (by decide) (Or.inl (by decide))
      have l_74 := kp_72 1 _ l_48 (by decide) (Or.inl (by decide))
      refine go_aload_n (n := 0) (by decide +kernel) l_73 f0 ?_
      refine go_getf (x := 149) (ci := 13) (kf := 52) (fin := 1) (t := 2) (by decide +kernel) (by decide +kernel) (by decide +kernel) R_58 f0 (fx_k (c := 13) R_58 (by decide +kernel)) fun v_75 f_76 => ?_
      have f_77 := q_is_eq (b := 112) f_76 (fx_v R_58 (by decide +kernel)).symm
      refine go_iload_n (n := 1) (by decide +kernel) l_74 f1 ?_
      obtain ⟨x_81, e_82, h⟩ := lx_s h
      refine go_iald (kd := 100) (by decide +kernel) rfl R_58 f_77 f1 (fx_k (c := 100) R_58 (by decide +kernel)) (fx_x (a := 112) (ln := 4096) R_58 (by decide +kernel) g_54) fun v_78 f_79 => ?_
      have f_80 := q_is_eq f_79 e_82
      refine go_istore (n := 4) (by decide +kernel) (by decide +kernel) f_80 fun L_83 l_84 kp_85 => ?_
      have l_86 := kp_85 0 _ l_73 (by decide) (Or.inl (by decide))
      have l_87 := kp_85 1 _ l_74 (by decide) (Or.inl (by decide))
      have l_88 := kp_85 3 _ l_71 (by decide) (Or.inr (q_is_cat f_67 (Or.inl rfl)))
      refine go_bipush (n := 30) (z := 30) (by decide +kernel) (by decide) fun v_89 f_90 => ?_
      refine go_iload (n := 4) (by decide +kernel) l_84 f_80 ?_
      refine go_imul (by decide +kernel) f_90 f_80 fun v_91 f_92 => ?_
      refine go_iload_n (n := 3) (by decide +kernel) l_88 f_67 ?_
      refine go_iadd (by decide +kernel) f_92 f_67 fun v_93 f_94 => ?_
      obtain ⟨x_95, e_96, h⟩ := lx_s h
      have f_97 := q_is_eq f_94 e_96
      refine go_istore (n := 5) (by decide +kernel) (by decide +kernel) f_97 fun L_98 l_99 kp_100 => ?_
      have l_101 := kp_100 0 _ l_86 (by decide) (Or.inl (by decide))
      have l_102 := kp_100 1 _ l_87 (by decide) (Or.inl (by decide))
      have l_103 := kp_100 3 _ l_88 (by decide) (Or.inl (by decide))
      have l_104 := kp_100 4 _ l_84 (by decide) (Or.inr (q_is_cat f_80 (Or.inl rfl)))
      refine go_aload_n (n := 0) (by decide +kernel) l_101 f0 ?_
      refine go_iload (n := 4) (by decide +kernel) l_104 f_80 ?_
      refine go_iload_n (n := 3) (by decide +kernel) l_103 f_67 ?_
      obtain ⟨x_106, hc_105, h⟩ := bp_s h
      refine go_callV (x := 617) (mi := 278) (n := 2) (ci := 13) (as := [v_78, v_65]) (rest := []) (by decide +kernel) (by decide +kernel) rfl rfl (q_sum8 _ (Nat.le_of_ble_eq_true rfl)) R_58 f0 (fx_k (c := 13) R_58 (by decide +kernel)) (om_X12_hasState (Nat.le_trans (by decide) hd) R_58 f0 f_80 f_67 hc_105) (fun _ S_110 q_113 => ?_) (fun _ _ qq => kr_x qq)
      refine kr_z (by decide) q_113 fun v_108 f_109 R_111 E_112 => ?_
      refine go_istore (n := 6) (by decide +kernel) (by decide +kernel) f_109 fun L_114 l_115 kp_116 => ?_
      have l_117 := kp_116 0 _ l_101 (by decide) (Or.inl (by decide))
      have l_118 := kp_116 1 _ l_102 (by decide) (Or.inl (by decide))
      have l_119 := kp_116 3 _ l_103 (by decide) (Or.inl (by decide))
      have l_120 := kp_116 4 _ l_104 (by decide) (Or.inl (by decide))
      have l_121 := kp_116 5 _ l_99 (by decide) (Or.inr (q_is_cat f_97 (Or.inl rfl)))
      refine go_aload_n (n := 0) (by decide +kernel) l_117 f0 ?_
      refine go_getf (x := 180) (ci := 13) (kf := 62) (fin := 1) (t := 2) (by decide +kernel) (by decide +kernel) (by decide +kernel) R_111 f0 (fx_k (c := 13) R_111 (by decide +kernel)) fun v_122 f_123 => ?_
      have f_124 := q_is_eq (b := 122) f_123 (fx_v R_111 (by decide +kernel)).symm
      refine go_iload (n := 4) (by decide +kernel) l_120 f_80 ?_
      refine go_dup2 (by decide +kernel) f_80 (Or.inl rfl) f_124 (Or.inr rfl) ?_
      obtain ⟨g_127, h⟩ := gd_s h
      obtain ⟨x_129, e_130, h⟩ := lx_s h
      refine go_iald (kd := 100) (by decide +kernel) rfl R_111 f_124 f_80 (fx_k (c := 100) R_111 (by decide +kernel)) (fx_x (a := 122) (ln := 3) R_111 (by decide +kernel) g_127) fun v_125 f_126 => ?_
      have f_128 := q_is_eq f_126 e_130
      refine go_iload (n := 6) (by decide +kernel) l_115 f_109 ?_
      refine go_if (c := .eq) (o := 7) (t := 97) (P := x_106 = 0) (by decide +kernel) (by decide +kernel) f_109 (Iff.rfl) (fun hp_131 => ?_) (fun hp_131 => ?_)
      · have h := it_t hp_131 h
        refine go_iconst (n := 1) (z := 1) (by decide +kernel) (by decide) fun v_132 f_133 => ?_
        exact oj_X12_complete_98 hd R_111 l_117 f0 l_118 f1 l_119 f_67 l_121 f_97 l_115 f_109 f_133 f_128 f_80 f_124 (fun b => hQ (Ext.tr E_60 b)) h
      · have h := it_f hp_131 h
        refine go_iconst (n := 0) (z := 0) (by decide +kernel) (by decide) fun v_585 f_586 => ?_
        refine go_goto (o := 4) (t := 98) (by decide +kernel) (by decide +kernel) ?_
        exact oj_X12_complete_98 hd R_111 l_117 f0 l_118 f1 l_119 f_67 l_121 f_97 l_115 f_109 f_586 f_128 f_80 f_124 (fun b => hQ (Ext.tr E_60 b)) h
    · have h := it_f hp_61 h
      refine go_iconst (n := (-1)) (z := (-1)) (by decide +kernel) (by decide) fun v_587 f_588 => ?_
      cases h
      exact go_iret (by decide +kernel) rfl (Or.inl rfl) f_588 (hQ E_60 _ _ R_58 (q_out_v (by decide) f_588))
  · have h := it_f hp_34 h
    refine go_iconst (n := 0) (z := 0) (by decide +kernel) (by decide) fun v_589 f_590 => ?_
    cases h
    exact go_iret (by decide +kernel) rfl (Or.inl rfl) f_590 (hQ E_33 _ _ R_30 (q_out_v (by decide) f_590))
noncomputable def fm_X12_complete (p1 : Int) (m0 : MM) : Option (Int × MM) := lx (m0 68 51) fun x_6 =>
bp (fm_X12_isIn p1 0 (w32 (x_6 - 1)) m0) fun x_13 =>
if x_13 = 0 then
fj_X12_complete_20 p1 1 m0
else
fj_X12_complete_20 p1 0 m0
set_option maxHeartbeats 4000000 in
theorem om_X12_complete {xs : List Int32} {d : Nat} {S : QS} {m0 : MM} {p1 : Int} {v0 : Value} {v1 : Value} {rz : Int} {rm : MM}
  (hd : 15 ≤ d) (R : Rp S m0) (f0 : q_is 2 v0 68) (f1 : q_is 0 v1 p1)
  (h : fm_X12_complete p1 m0 = some (rz, rm)) : Mt xs d 279 [v0, v1] S (Cr 0 m0 rm rz) := by
  obtain ⟨d, rfl⟩ : ∃ e, d = e + 1 := ⟨d - 1, by omega⟩
  have hd : 14 ≤ d := Nat.le_of_succ_le_succ hd
  refine Mt.of (M := qM_X12_complete) rfl (by rw [sl_1 (q_is_cat f0 (Or.inr rfl)), sl_1 (q_is_cat f1 (Or.inl rfl)), sl_0]; decide) ?_
  rw [la_1 (q_is_cat f0 (Or.inr rfl)), la_1 (q_is_cat f1 (Or.inl rfl)), la_0]
  obtain ⟨L, hL⟩ : ∃ L : QL, L = [(0, v0), (0 + 1, v1)] := ⟨_, rfl⟩
  rw [← hL]
  have l0 : q_lo L 0 = some v0 := by rw [hL]; rfl
  have l1 : q_lo L 1 = some v1 := by rw [hL]; rfl
  have hQ : Ext m0 rm → ∀ o S1, Rp S1 rm → q_out 0 o rz → (Cr 0 m0 rm rz) o S1 := fun a o S1 b e => ⟨b, a, e⟩
  unfold fm_X12_complete at h
  refine go_aload_n (n := 0) (by decide +kernel) l0 f0 ?_
  refine go_iload_n (n := 1) (by decide +kernel) l1 f1 ?_
  refine go_iconst (n := 0) (z := 0) (by decide +kernel) (by decide) fun v_1 f_2 => ?_
  refine go_aload_n (n := 0) (by decide +kernel) l0 f0 ?_
  obtain ⟨x_6, e_7, h⟩ := lx_s h
  refine go_getf (x := 599) (ci := 13) (kf := 51) (fin := 0) (t := 0) (by decide +kernel) (by decide +kernel) (by decide +kernel) R f0 (fx_k (c := 13) R (by decide +kernel)) fun v_3 f_4 => ?_
  have f_5 := q_is_eq f_4 e_7
  refine go_iconst (n := 1) (z := 1) (by decide +kernel) (by decide) fun v_8 f_9 => ?_
  refine go_isub (by decide +kernel) f_5 f_9 fun v_10 f_11 => ?_
  obtain ⟨x_13, hc_12, h⟩ := bp_s h
  refine go_callS (x := 306) (mi := 188) (n := 3) (b := 0) (as := [v1, v_1, v_10]) (rest := [v0]) (by decide +kernel) (by decide +kernel) rfl rfl (q_sum8 _ (Nat.le_of_ble_eq_true rfl)) (om_X12_isIn (Nat.le_trans (by decide) hd) R f1 f_2 f_11 hc_12) (fun _ S_17 q_20 => ?_) (fun _ _ qq => kr_x qq)
  refine kr_z (by decide) q_20 fun v_15 f_16 R_18 E_19 => ?_
  refine go_if (c := .eq) (o := 7) (t := 19) (P := x_13 = 0) (by decide +kernel) (by decide +kernel) f_16 (Iff.rfl) (fun hp_21 => ?_) (fun hp_21 => ?_)
  · have h := it_t hp_21 h
    refine go_iconst (n := 1) (z := 1) (by decide +kernel) (by decide) fun v_22 f_23 => ?_
    exact oj_X12_complete_20 hd R_18 l0 f0 l1 f1 f_23 f0 hQ h
  · have h := it_f hp_21 h
    refine go_iconst (n := 0) (z := 0) (by decide +kernel) (by decide) fun v_591 f_592 => ?_
    refine go_goto (o := 4) (t := 20) (by decide +kernel) (by decide +kernel) ?_
    exact oj_X12_complete_20 hd R_18 l0 f0 l1 f1 f_592 f0 hQ h
noncomputable def fj_X12_die_70 (c : Int → Int → MM → Option (Int × MM)) (k103 : Int → MM → Option (Int × MM)) (y1 y3 y4 s0 s1 : Int) (m : MM) : Option (Int × MM) := lx (w32 (s1 + s0)) fun x_69 =>
gd (0 ≤ y3 ∧ y3 < 4096) <| lx (m 119 y3) fun x_89 =>
if x_89 = 0 then
if y4 = 0 then
up m 119 y3 0 fun m_114 =>
lx (w32 (y3 + 1)) fun x_125 =>
c x_69 x_125 m_114
else
up m 119 y3 1 fun m_133 =>
lx (w32 (y3 + 1)) fun x_144 =>
c x_69 x_144 m_133
else
up m 119 y3 1 fun m_94 =>
lx (w32 (y3 + 1)) fun x_105 =>
c x_69 x_105 m_94
set_option maxHeartbeats 4000000 in
theorem oj_X12_die_70 {xs : List Int32} {d : Nat} {S : QS} {L : QL} {Q : QO → QS → Prop} {m : MM} {y1 y3 y4 s0 s1 : Int} {v0 : Value} {v1 : Value} {v3 : Value} {v4 : Value} {w0 : Value} {w1 : Value}  {rz : Int} {rm : MM} {c : Int → Int → MM → Option (Int × MM)} {k103 : Int → MM → Option (Int × MM)} 
  (hd : 2 ≤ d) (R : Rp S m) (l0 : q_lo L 0 = some v0) (f0 : q_is 2 v0 68) (l1 : q_lo L 1 = some v1) (f1 : q_is 0 v1 y1) (l3 : q_lo L 3 = some v3) (f3 : q_is 0 v3 y3) (l4 : q_lo L 4 = some v4) (f4 : q_is 0 v4 y4) (fs0 : q_is 0 w0 s0) (fs1 : q_is 0 w1 s1)
  (hc : ∀ mq : MM, Ext m mq → ∀ {z2 : Int} {z3 : Int} {Sq : QS} {Lq : QL} {u0 : Value} {u1 : Value} {u2 : Value} {u3 : Value}, c z2 z3 mq = some (rz, rm) → Rp Sq mq → q_lo Lq 0 = some u0 → q_is 2 u0 68 → q_lo Lq 1 = some u1 → q_is 0 u1 y1 → q_lo Lq 2 = some u2 → q_is 0 u2 z2 → q_lo Lq 3 = some u3 → q_is 0 u3 z3 → Go xs d qM_X12_die 25 Lq [] Sq Q)
  (hk103 : ∀ mq : MM, Ext m mq → ∀ {z2 : Int} {Sq : QS} {Lq : QL} {u0 : Value} {u1 : Value} {u2 : Value}, k103 z2 mq = some (rz, rm) → Rp Sq mq → q_lo Lq 0 = some u0 → q_is 2 u0 68 → q_lo Lq 1 = some u1 → q_is 0 u1 y1 → q_lo Lq 2 = some u2 → q_is 0 u2 z2 → Go xs d qM_X12_die 103 Lq [] Sq Q)
  (hQ : Ext m rm → ∀ o S1, Rp S1 rm → q_out 0 o rz → Q o S1)
  (h : fj_X12_die_70 c k103 y1 y3 y4 s0 s1 m = some (rz, rm)) : Go xs d qM_X12_die 70 L [w0, w1] S Q := by
  unfold fj_X12_die_70 at h
  refine go_iadd (by decide +kernel) fs1 fs0 fun v_67 f_68 => ?_
  obtain ⟨x_69, e_70, h⟩ := lx_s h
  have f_71 := q_is_eq f_68 e_70
  refine go_istore_n (n := 2) (by decide +kernel) (by decide +kernel) f_71 fun L_72 l_73 kp_74 => ?_
  have l_75 := kp_74 0 _ l0 (by decide) (Or.inl (by decide))
  have l_76 := kp_74 1 _ l1 (by decide) (Or.inr (q_is_cat f1 (Or.inl rfl)))
  have l_77 := kp_74 3 _ l3 (by decide) (Or.inl (by decide))
  have l_78 := kp_74 4 _ l4 (by decide) (Or.inl (by decide))
  refine go_aload_n (n := 0) (by decide +kernel) l_75 f0 ?_
  refine go_getf (x := 170) (ci := 13) (kf := 59) (fin := 1) (t := 2) (by decide +kernel) (by decide +kernel) (by decide +kernel) R f0 (fx_k (c := 13) R (by decide +kernel)) fun v_79 f_80 => ?_
  have f_81 := q_is_eq (b := 119) f_80 (fx_v R (by decide +kernel)).symm
  refine go_iload_n (n := 3) (by decide +kernel) l_77 f3 ?_
  refine go_aload_n (n := 0) (by decide +kernel) l_75 f0 ?_
  refine go_getf (x := 170) (ci := 13) (kf := 59) (fin := 1) (t := 2) (by decide +kernel) (by decide +kernel) (by decide +kernel) R f0 (fx_k (c := 13) R (by decide +kernel)) fun v_82 f_83 => ?_
  have f_84 := q_is_eq (b := 119) f_83 (fx_v R (by decide +kernel)).symm
  refine go_iload_n (n := 3) (by decide +kernel) l_77 f3 ?_
  obtain ⟨g_87, h⟩ := gd_s h
  obtain ⟨x_89, e_90, h⟩ := lx_s h
  refine go_bald (kd := 102) (by decide +kernel) rfl R f_84 f3 (fx_k (c := 102) R (by decide +kernel)) (fx_x (a := 119) (ln := 4096) R (by decide +kernel) g_87) fun v_85 f_86 => ?_
  have f_88 := q_is_eq f_86 e_90
  refine go_if (c := .ne) (o := 8) (t := 91) (P := ¬ (x_89 = 0)) (by decide +kernel) (by decide +kernel) f_88 (Iff.rfl) (fun hp_91 => ?_) (fun hp_91 => ?_)
  · have h := it_f hp_91 h
    refine go_iconst (n := 1) (z := 1) (by decide +kernel) (by decide) fun v_92 f_93 => ?_
    refine go_goto (o := 4) (t := 96) (by decide +kernel) (by decide +kernel) ?_
    obtain ⟨m_94, e_95, h⟩ := up_s h
    refine go_bast (kd := 102) (by decide +kernel) rfl R f_81 f3 f_93 (by decide) (fx_k (c := 102) R (by decide +kernel)) (fx_x (a := 119) (ln := 4096) R (by decide +kernel) g_87) e_95 (fx_a R.2 (fx_k (c := 102) R (by decide +kernel)) (And.left (fx_x (a := 119) (ln := 4096) R (by decide +kernel) g_87)) (by decide +kernel)) fun S_96 R_97 E_98 => ?_
    have E_99 := E_98
    refine go_iinc (n := 3) (c := 1) (c' := 1) (by decide +kernel) (by decide +kernel) l_77 f3 (by decide) fun L_100 v_101 f_102 l_103 kp_104 => ?_
    obtain ⟨x_105, e_106, h⟩ := lx_s h
    have f_107 := q_is_eq f_102 e_106
    have l_108 := kp_104 0 _ l_75 (by decide) (Or.inl (by decide))
    have l_109 := kp_104 1 _ l_76 (by decide) (Or.inl (by decide))
    have l_110 := kp_104 2 _ l_73 (by decide) (Or.inr (q_is_cat f_71 (Or.inl rfl)))
    refine go_goto (o := (-75)) (t := 25) (by decide +kernel) (by decide +kernel) ?_
    exact hc m_94 E_99 h R_97 l_108 f0 l_109 f1 l_110 f_71 l_103 f_107
  · have h := it_n hp_91 h
    refine go_iload (n := 4) (by decide +kernel) l_78 f4 ?_
    refine go_if (c := .eq) (o := 7) (t := 95) (P := y4 = 0) (by decide +kernel) (by decide +kernel) f4 (Iff.rfl) (fun hp_111 => ?_) (fun hp_111 => ?_)
    · have h := it_t hp_111 h
      refine go_iconst (n := 0) (z := 0) (by decide +kernel) (by decide) fun v_112 f_113 => ?_
      obtain ⟨m_114, e_115, h⟩ := up_s h
      refine go_bast (kd := 102) (by decide +kernel) rfl R f_81 f3 f_113 (by decide) (fx_k (c := 102) R (by decide +kernel)) (fx_x (a := 119) (ln := 4096) R (by decide +kernel) g_87) e_115 (fx_a R.2 (fx_k (c := 102) R (by decide +kernel)) (And.left (fx_x (a := 119) (ln := 4096) R (by decide +kernel) g_87)) (by decide +kernel)) fun S_116 R_117 E_118 => ?_
      have E_119 := E_118
      refine go_iinc (n := 3) (c := 1) (c' := 1) (by decide +kernel) (by decide +kernel) l_77 f3 (by decide) fun L_120 v_121 f_122 l_123 kp_124 => ?_
      obtain ⟨x_125, e_126, h⟩ := lx_s h
      have f_127 := q_is_eq f_122 e_126
      have l_128 := kp_124 0 _ l_75 (by decide) (Or.inl (by decide))
      have l_129 := kp_124 1 _ l_76 (by decide) (Or.inl (by decide))
      have l_130 := kp_124 2 _ l_73 (by decide) (Or.inr (q_is_cat f_71 (Or.inl rfl)))
      refine go_goto (o := (-75)) (t := 25) (by decide +kernel) (by decide +kernel) ?_
      exact hc m_114 E_119 h R_117 l_128 f0 l_129 f1 l_130 f_71 l_123 f_127
    · have h := it_f hp_111 h
      refine go_iconst (n := 1) (z := 1) (by decide +kernel) (by decide) fun v_131 f_132 => ?_
      refine go_goto (o := 4) (t := 96) (by decide +kernel) (by decide +kernel) ?_
      obtain ⟨m_133, e_134, h⟩ := up_s h
      refine go_bast (kd := 102) (by decide +kernel) rfl R f_81 f3 f_132 (by decide) (fx_k (c := 102) R (by decide +kernel)) (fx_x (a := 119) (ln := 4096) R (by decide +kernel) g_87) e_134 (fx_a R.2 (fx_k (c := 102) R (by decide +kernel)) (And.left (fx_x (a := 119) (ln := 4096) R (by decide +kernel) g_87)) (by decide +kernel)) fun S_135 R_136 E_137 => ?_
      have E_138 := E_137
      refine go_iinc (n := 3) (c := 1) (c' := 1) (by decide +kernel) (by decide +kernel) l_77 f3 (by decide) fun L_139 v_140 f_141 l_142 kp_143 => ?_
      obtain ⟨x_144, e_145, h⟩ := lx_s h
      have f_146 := q_is_eq f_141 e_145
      have l_147 := kp_143 0 _ l_75 (by decide) (Or.inl (by decide))
      have l_148 := kp_143 1 _ l_76 (by decide) (Or.inl (by decide))
      have l_149 := kp_143 2 _ l_73 (by decide) (Or.inr (q_is_cat f_71 (Or.inl rfl)))
      refine go_goto (o := (-75)) (t := 25) (by decide +kernel) (by decide +kernel) ?_
      exact hc m_133 E_138 h R_136 l_147 f0 l_148 f1 l_149 f_71 l_142 f_146
noncomputable def fj_X12_die_57 (c : Int → Int → MM → Option (Int × MM)) (k103 : Int → MM → Option (Int × MM)) (y1 y2 y3 s0 : Int) (m : MM) : Option (Int × MM) := if s0 = 0 then
fj_X12_die_70 c k103 y1 y3 s0 0 y2 m
else
fj_X12_die_70 c k103 y1 y3 s0 1 y2 m
set_option maxHeartbeats 4000000 in
theorem oj_X12_die_57 {xs : List Int32} {d : Nat} {S : QS} {L : QL} {Q : QO → QS → Prop} {m : MM} {y1 y2 y3 s0 : Int} {v0 : Value} {v1 : Value} {v2 : Value} {v3 : Value} {w0 : Value}  {rz : Int} {rm : MM} {c : Int → Int → MM → Option (Int × MM)} {k103 : Int → MM → Option (Int × MM)} 
  (hd : 2 ≤ d) (R : Rp S m) (l0 : q_lo L 0 = some v0) (f0 : q_is 2 v0 68) (l1 : q_lo L 1 = some v1) (f1 : q_is 0 v1 y1) (l2 : q_lo L 2 = some v2) (f2 : q_is 0 v2 y2) (l3 : q_lo L 3 = some v3) (f3 : q_is 0 v3 y3) (fs0 : q_is 0 w0 s0)
  (hc : ∀ mq : MM, Ext m mq → ∀ {z2 : Int} {z3 : Int} {Sq : QS} {Lq : QL} {u0 : Value} {u1 : Value} {u2 : Value} {u3 : Value}, c z2 z3 mq = some (rz, rm) → Rp Sq mq → q_lo Lq 0 = some u0 → q_is 2 u0 68 → q_lo Lq 1 = some u1 → q_is 0 u1 y1 → q_lo Lq 2 = some u2 → q_is 0 u2 z2 → q_lo Lq 3 = some u3 → q_is 0 u3 z3 → Go xs d qM_X12_die 25 Lq [] Sq Q)
  (hk103 : ∀ mq : MM, Ext m mq → ∀ {z2 : Int} {Sq : QS} {Lq : QL} {u0 : Value} {u1 : Value} {u2 : Value}, k103 z2 mq = some (rz, rm) → Rp Sq mq → q_lo Lq 0 = some u0 → q_is 2 u0 68 → q_lo Lq 1 = some u1 → q_is 0 u1 y1 → q_lo Lq 2 = some u2 → q_is 0 u2 z2 → Go xs d qM_X12_die 103 Lq [] Sq Q)
  (hQ : Ext m rm → ∀ o S1, Rp S1 rm → q_out 0 o rz → Q o S1)
  (h : fj_X12_die_57 c k103 y1 y2 y3 s0 m = some (rz, rm)) : Go xs d qM_X12_die 57 L [w0] S Q := by
  unfold fj_X12_die_57 at h
  refine go_istore (n := 4) (by decide +kernel) (by decide +kernel) fs0 fun L_57 l_58 kp_59 => ?_
  have l_60 := kp_59 0 _ l0 (by decide) (Or.inl (by decide))
  have l_61 := kp_59 1 _ l1 (by decide) (Or.inl (by decide))
  have l_62 := kp_59 2 _ l2 (by decide) (Or.inl (by decide))
  have l_63 := kp_59 3 _ l3 (by decide) (Or.inr (q_is_cat f3 (Or.inl rfl)))
  refine go_iload_n (n := 2) (by decide +kernel) l_62 f2 ?_
  refine go_iload (n := 4) (by decide +kernel) l_58 fs0 ?_
  refine go_if (c := .eq) (o := 7) (t := 69) (P := s0 = 0) (by decide +kernel) (by decide +kernel) fs0 (Iff.rfl) (fun hp_64 => ?_) (fun hp_64 => ?_)
  · have h := it_t hp_64 h
    refine go_iconst (n := 0) (z := 0) (by decide +kernel) (by decide) fun v_65 f_66 => ?_
    exact oj_X12_die_70 hd R l_60 f0 l_61 f1 l_63 f3 l_58 fs0 f_66 f2 hc hk103 hQ h
  · have h := it_f hp_64 h
    refine go_iconst (n := 1) (z := 1) (by decide +kernel) (by decide) fun v_150 f_151 => ?_
    refine go_goto (o := 4) (t := 70) (by decide +kernel) (by decide +kernel) ?_
    exact oj_X12_die_70 hd R l_60 f0 l_61 f1 l_63 f3 l_58 fs0 f_151 f2 hc hk103 hQ h
noncomputable def fl_X12_die_25 (y1 : Int) (k103 : Int → MM → Option (Int × MM)) : Nat → Int → Int → MM → Option (Int × MM)
  | 0, _, _, _ => none
  | n + 1, y2, y3, m => lx (m 68 51) fun x_42 =>
if y3 < x_42 then
gd (0 ≤ y3 ∧ y3 < 4096) <| lx (m 112 y3) fun x_52 =>
if x_52 = y1 then
lx (m 119 y3) fun x_158 =>
if x_158 = 0 then
fj_X12_die_57 (fl_X12_die_25 y1 k103 n) k103 y1 y2 y3 1 m
else
fj_X12_die_57 (fl_X12_die_25 y1 k103 n) k103 y1 y2 y3 0 m
else
fj_X12_die_57 (fl_X12_die_25 y1 k103 n) k103 y1 y2 y3 0 m
else
k103 y2 m
set_option maxHeartbeats 4000000 in
theorem ol_X12_die_25 {xs : List Int32} {d : Nat} {Q : QO → QS → Prop} {mb : MM} {y1 : Int} {k103 : Int → MM → Option (Int × MM)} {rz : Int} {rm : MM}
  (hd : 2 ≤ d)
  (hk103 : ∀ mq : MM, Ext mb mq → ∀ {z2 : Int} {Sq : QS} {Lq : QL} {u0 : Value} {u1 : Value} {u2 : Value}, k103 z2 mq = some (rz, rm) → Rp Sq mq → q_lo Lq 0 = some u0 → q_is 2 u0 68 → q_lo Lq 1 = some u1 → q_is 0 u1 y1 → q_lo Lq 2 = some u2 → q_is 0 u2 z2 → Go xs d qM_X12_die 103 Lq [] Sq Q)
  (hQ : Ext mb rm → ∀ o S1, Rp S1 rm → q_out 0 o rz → Q o S1) :
  ∀ (n : Nat) {m : MM} {S : QS} {L : QL} {y2 y3 : Int} {v0 : Value} {v1 : Value} {v2 : Value} {v3 : Value} , Ext mb m → fl_X12_die_25 y1 k103 n y2 y3 m = some (rz, rm) → Rp S m → q_lo L 0 = some v0 → q_is 2 v0 68 → q_lo L 1 = some v1 → q_is 0 v1 y1 → q_lo L 2 = some v2 → q_is 0 v2 y2 → q_lo L 3 = some v3 → q_is 0 v3 y3 → Go xs d qM_X12_die 25 L [] S Q := by
  intro n
  induction n with
  | zero => intro m S L y2 y3 v0 v1 v2 v3; intro E h R l0 f0 l1 f1 l2 f2 l3 f3; cases h
  | succ n ih0 =>
    intro m S L y2 y3 v0 v1 v2 v3; intro E h R l0 f0 l1 f1 l2 f2 l3 f3
    have ih : ∀ mq : MM, Ext mb mq → ∀ {z2 : Int} {z3 : Int} {Sq : QS} {Lq : QL} {u0 : Value} {u1 : Value} {u2 : Value} {u3 : Value}, fl_X12_die_25 y1 k103 n z2 z3 mq = some (rz, rm) → Rp Sq mq → q_lo Lq 0 = some u0 → q_is 2 u0 68 → q_lo Lq 1 = some u1 → q_is 0 u1 y1 → q_lo Lq 2 = some u2 → q_is 0 u2 z2 → q_lo Lq 3 = some u3 → q_is 0 u3 z3 → Go xs d qM_X12_die 25 Lq [] Sq Q := fun mq b => by intros; exact ih0 b ‹_› ‹_› ‹_› ‹_› ‹_› ‹_› ‹_› ‹_› ‹_› ‹_›
    unfold fl_X12_die_25 at h
    refine go_iload_n (n := 3) (by decide +kernel) l3 f3 ?_
    refine go_aload_n (n := 0) (by decide +kernel) l0 f0 ?_
    obtain ⟨x_42, e_43, h⟩ := lx_s h
    refine go_getf (x := 599) (ci := 13) (kf := 51) (fin := 0) (t := 0) (by decide +kernel) (by decide +kernel) (by decide +kernel) R f0 (fx_k (c := 13) R (by decide +kernel)) fun v_39 f_40 => ?_
    have f_41 := q_is_eq f_40 e_43
    refine go_icmp (c := .ge) (o := 73) (t := 103) (P := ¬ (y3 < x_42)) (by decide +kernel) (by decide +kernel) f3 f_41 (Int.not_lt.symm) (fun hp_44 => ?_) (fun hp_44 => ?_)
    · have h := it_f hp_44 h
      exact hk103 m E h R l0 f0 l1 f1 l2 f2
    · have h := it_n hp_44 h
      refine go_aload_n (n := 0) (by decide +kernel) l0 f0 ?_
      refine go_getf (x := 149) (ci := 13) (kf := 52) (fin := 1) (t := 2) (by decide +kernel) (by decide +kernel) (by decide +kernel) R f0 (fx_k (c := 13) R (by decide +kernel)) fun v_45 f_46 => ?_
      have f_47 := q_is_eq (b := 112) f_46 (fx_v R (by decide +kernel)).symm
      refine go_iload_n (n := 3) (by decide +kernel) l3 f3 ?_
      obtain ⟨g_50, h⟩ := gd_s h
      obtain ⟨x_52, e_53, h⟩ := lx_s h
      refine go_iald (kd := 100) (by decide +kernel) rfl R f_47 f3 (fx_k (c := 100) R (by decide +kernel)) (fx_x (a := 112) (ln := 4096) R (by decide +kernel) g_50) fun v_48 f_49 => ?_
      have f_51 := q_is_eq f_49 e_53
      refine go_iload_n (n := 1) (by decide +kernel) l1 f1 ?_
      refine go_icmp (c := .ne) (o := 16) (t := 56) (P := ¬ (x_52 = y1)) (by decide +kernel) (by decide +kernel) f_51 f1 (Iff.rfl) (fun hp_54 => ?_) (fun hp_54 => ?_)
      · have h := it_f hp_54 h
        refine go_iconst (n := 0) (z := 0) (by decide +kernel) (by decide) fun v_55 f_56 => ?_
        exact oj_X12_die_57 hd R l0 f0 l1 f1 l2 f2 l3 f3 f_56 (fun mq b => ih mq (Ext.tr E b)) (fun mq b => hk103 mq (Ext.tr E b)) (fun b => hQ (Ext.tr E b)) h
      · have h := it_n hp_54 h
        refine go_aload_n (n := 0) (by decide +kernel) l0 f0 ?_
        refine go_getf (x := 170) (ci := 13) (kf := 59) (fin := 1) (t := 2) (by decide +kernel) (by decide +kernel) (by decide +kernel) R f0 (fx_k (c := 13) R (by decide +kernel)) fun v_152 f_153 => ?_
        have f_154 := q_is_eq (b := 119) f_153 (fx_v R (by decide +kernel)).symm
        refine go_iload_n (n := 3) (by decide +kernel) l3 f3 ?_
        obtain ⟨x_158, e_159, h⟩ := lx_s h
        refine go_bald (kd := 102) (by decide +kernel) rfl R f_154 f3 (fx_k (c := 102) R (by decide +kernel)) (fx_x (a := 119) (ln := 4096) R (by decide +kernel) g_50) fun v_155 f_156 => ?_
        have f_157 := q_is_eq f_156 e_159
        refine go_if (c := .ne) (o := 7) (t := 56) (P := ¬ (x_158 = 0)) (by decide +kernel) (by decide +kernel) f_157 (Iff.rfl) (fun hp_160 => ?_) (fun hp_160 => ?_)
        · have h := it_f hp_160 h
          refine go_iconst (n := 0) (z := 0) (by decide +kernel) (by decide) fun v_161 f_162 => ?_
          exact oj_X12_die_57 hd R l0 f0 l1 f1 l2 f2 l3 f3 f_162 (fun mq b => ih mq (Ext.tr E b)) (fun mq b => hk103 mq (Ext.tr E b)) (fun b => hQ (Ext.tr E b)) h
        · have h := it_n hp_160 h
          refine go_iconst (n := 1) (z := 1) (by decide +kernel) (by decide) fun v_163 f_164 => ?_
          refine go_goto (o := 4) (t := 57) (by decide +kernel) (by decide +kernel) ?_
          exact oj_X12_die_57 hd R l0 f0 l1 f1 l2 f2 l3 f3 f_164 (fun mq b => ih mq (Ext.tr E b)) (fun mq b => hk103 mq (Ext.tr E b)) (fun b => hQ (Ext.tr E b)) h
noncomputable def fl_X12_die_108 (y1 y2 : Int) : Nat → Int → MM → Option (Int × MM)
  | 0, _, _ => none
  | n + 1, y3, m => if y3 < w32 ((w32 (30 * y1)) + 30) then
gd (0 ≤ y3 ∧ y3 < 90) <| up m 123 y3 0 fun m_209 =>
lx (w32 (y3 + 1)) fun x_220 =>
fl_X12_die_108 y1 y2 n x_220 m_209
else
some (y2, m)
set_option maxHeartbeats 4000000 in
theorem ol_X12_die_108 {xs : List Int32} {d : Nat} {Q : QO → QS → Prop} {mb : MM} {y1 y2 : Int} {rz : Int} {rm : MM}
  (hd : 2 ≤ d)
  (hQ : Ext mb rm → ∀ o S1, Rp S1 rm → q_out 0 o rz → Q o S1) :
  ∀ (n : Nat) {m : MM} {S : QS} {L : QL} {y3 : Int} {v0 : Value} {v1 : Value} {v2 : Value} {v3 : Value} , Ext mb m → fl_X12_die_108 y1 y2 n y3 m = some (rz, rm) → Rp S m → q_lo L 0 = some v0 → q_is 2 v0 68 → q_lo L 1 = some v1 → q_is 0 v1 y1 → q_lo L 2 = some v2 → q_is 0 v2 y2 → q_lo L 3 = some v3 → q_is 0 v3 y3 → Go xs d qM_X12_die 108 L [] S Q := by
  intro n
  induction n with
  | zero => intro m S L y3 v0 v1 v2 v3; intro E h R l0 f0 l1 f1 l2 f2 l3 f3; cases h
  | succ n ih0 =>
    intro m S L y3 v0 v1 v2 v3; intro E h R l0 f0 l1 f1 l2 f2 l3 f3
    have ih : ∀ mq : MM, Ext mb mq → ∀ {z3 : Int} {Sq : QS} {Lq : QL} {u0 : Value} {u1 : Value} {u2 : Value} {u3 : Value}, fl_X12_die_108 y1 y2 n z3 mq = some (rz, rm) → Rp Sq mq → q_lo Lq 0 = some u0 → q_is 2 u0 68 → q_lo Lq 1 = some u1 → q_is 0 u1 y1 → q_lo Lq 2 = some u2 → q_is 0 u2 y2 → q_lo Lq 3 = some u3 → q_is 0 u3 z3 → Go xs d qM_X12_die 108 Lq [] Sq Q := fun mq b => by intros; exact ih0 b ‹_› ‹_› ‹_› ‹_› ‹_› ‹_› ‹_› ‹_› ‹_› ‹_›
    unfold fl_X12_die_108 at h
    refine go_iload_n (n := 3) (by decide +kernel) l3 f3 ?_
    refine go_bipush (n := 30) (z := 30) (by decide +kernel) (by decide) fun v_194 f_195 => ?_
    refine go_iload_n (n := 1) (by decide +kernel) l1 f1 ?_
    refine go_imul (by decide +kernel) f_195 f1 fun v_196 f_197 => ?_
    refine go_bipush (n := 30) (z := 30) (by decide +kernel) (by decide) fun v_198 f_199 => ?_
    refine go_iadd (by decide +kernel) f_197 f_199 fun v_200 f_201 => ?_
    refine go_icmp (c := .ge) (o := 16) (t := 132) (P := ¬ (y3 < w32 ((w32 (30 * y1)) + 30))) (by decide +kernel) (by decide +kernel) f3 f_201 (Int.not_lt.symm) (fun hp_202 => ?_) (fun hp_202 => ?_)
    · have h := it_f hp_202 h
      refine go_iload_n (n := 2) (by decide +kernel) l2 f2 ?_
      cases h
      exact go_iret (by decide +kernel) rfl (Or.inl rfl) f2 (hQ E _ _ R (q_out_v (by decide) f2))
    · have h := it_n hp_202 h
      refine go_aload_n (n := 0) (by decide +kernel) l0 f0 ?_
      refine go_getf (x := 183) (ci := 13) (kf := 63) (fin := 1) (t := 2) (by decide +kernel) (by decide +kernel) (by decide +kernel) R f0 (fx_k (c := 13) R (by decide +kernel)) fun v_203 f_204 => ?_
      have f_205 := q_is_eq (b := 123) f_204 (fx_v R (by decide +kernel)).symm
      refine go_iload_n (n := 3) (by decide +kernel) l3 f3 ?_
      refine go_iconst (n := 0) (z := 0) (by decide +kernel) (by decide) fun v_206 f_207 => ?_
      obtain ⟨g_208, h⟩ := gd_s h
      obtain ⟨m_209, e_210, h⟩ := up_s h
      refine go_iast (kd := 100) (by decide +kernel) rfl R f_205 f3 f_207 (fx_k (c := 100) R (by decide +kernel)) (fx_x (a := 123) (ln := 90) R (by decide +kernel) g_208) e_210 (fx_a R.2 (fx_k (c := 100) R (by decide +kernel)) (And.left (fx_x (a := 123) (ln := 90) R (by decide +kernel) g_208)) (by decide +kernel)) fun S_211 R_212 E_213 => ?_
      have E_214 := Ext.tr E E_213
      refine go_iinc (n := 3) (c := 1) (c' := 1) (by decide +kernel) (by decide +kernel) l3 f3 (by decide) fun L_215 v_216 f_217 l_218 kp_219 => ?_
      obtain ⟨x_220, e_221, h⟩ := lx_s h
      have f_222 := q_is_eq f_217 e_221
      have l_223 := kp_219 0 _ l0 (by decide) (Or.inl (by decide))
      have l_224 := kp_219 1 _ l1 (by decide) (Or.inl (by decide))
      have l_225 := kp_219 2 _ l2 (by decide) (Or.inr (q_is_cat f2 (Or.inl rfl)))
      refine go_goto (o := (-21)) (t := 108) (by decide +kernel) (by decide +kernel) ?_
      exact ih m_209 E_214 h R_212 l_223 f0 l_224 f1 l_225 f2 l_218 f_222
noncomputable def fj_X12_die_13 (y1 s0 : Int) (m : MM) : Option (Int × MM) := bd (fm_X12_fails s0 m) fun x_14 m_15 =>
if x_14 = 0 then
fl_X12_die_25 y1 (fun x_165 m_178 =>
lx (w32 (30 * y1)) fun x_185 =>
fl_X12_die_108 y1 x_165  BIG x_185 m_178) BIG 0 0 m_15
else
some (0, m_15)
set_option maxHeartbeats 4000000 in
theorem oj_X12_die_13 {xs : List Int32} {d : Nat} {S : QS} {L : QL} {Q : QO → QS → Prop} {m : MM} {y1 s0 : Int} {v0 : Value} {v1 : Value} {w0 : Value} {w1 : Value}  {rz : Int} {rm : MM}
  (hd : 2 ≤ d) (R : Rp S m) (l0 : q_lo L 0 = some v0) (f0 : q_is 2 v0 68) (l1 : q_lo L 1 = some v1) (f1 : q_is 0 v1 y1) (fs0 : q_is 0 w0 s0) (fs1 : q_is 2 w1 68)
  (hQ : Ext m rm → ∀ o S1, Rp S1 rm → q_out 0 o rz → Q o S1)
  (h : fj_X12_die_13 y1 s0 m = some (rz, rm)) : Go xs d qM_X12_die 13 L [w0, w1] S Q := by
  unfold fj_X12_die_13 at h
  obtain ⟨x_14, m_15, hc_13, h⟩ := bd_s h
  refine go_callV (x := 324) (mi := 186) (n := 1) (ci := 13) (as := [w0]) (rest := []) (by decide +kernel) (by decide +kernel) rfl rfl (q_sum8 _ (Nat.le_of_ble_eq_true rfl)) R fs1 (fx_k (c := 13) R (by decide +kernel)) (om_X12_fails (Nat.le_trans (by decide) hd) R fs1 fs0 hc_13) (fun _ S_18 q_21 => ?_) (fun _ _ qq => kr_x qq)
  refine kr_z (by decide) q_21 fun v_16 f_17 R_19 E_20 => ?_
  have E_22 := E_20
  refine go_if (c := .eq) (o := 5) (t := 21) (P := x_14 = 0) (by decide +kernel) (by decide +kernel) f_17 (Iff.rfl) (fun hp_23 => ?_) (fun hp_23 => ?_)
  · have h := it_t hp_23 h
    refine go_iconst (n := 0) (z := 0) (by decide +kernel) (by decide) fun v_24 f_25 => ?_
    refine go_istore_n (n := 2) (by decide +kernel) (by decide +kernel) f_25 fun L_26 l_27 kp_28 => ?_
    have l_29 := kp_28 0 _ l0 (by decide) (Or.inl (by decide))
    have l_30 := kp_28 1 _ l1 (by decide) (Or.inr (q_is_cat f1 (Or.inl rfl)))
    refine go_iconst (n := 0) (z := 0) (by decide +kernel) (by decide) fun v_31 f_32 => ?_
    refine go_istore_n (n := 3) (by decide +kernel) (by decide +kernel) f_32 fun L_33 l_34 kp_35 => ?_
    have l_36 := kp_35 0 _ l_29 (by decide) (Or.inl (by decide))
    have l_37 := kp_35 1 _ l_30 (by decide) (Or.inl (by decide))
    have l_38 := kp_35 2 _ l_27 (by decide) (Or.inr (q_is_cat f_25 (Or.inl rfl)))
    refine ol_X12_die_25 hd  ?_ (fun b => hQ (Ext.tr E_22 b)) BIG (Ext.rf _) h R_19 l_36 f0 l_37 f1 l_38 f_25 l_34 f_32
    intro m_178 E_179
    intro x_165 S_175 L_176 v_166 v_167 v_168
    intro h R_177 l_169 f_172 l_170 f_173 l_171 f_174
    have E_180 := Ext.tr E_22 E_179
    refine go_bipush (n := 30) (z := 30) (by decide +kernel) (by decide) fun v_181 f_182 => ?_
    refine go_iload_n (n := 1) (by decide +kernel) l_170 f_173 ?_
    refine go_imul (by decide +kernel) f_182 f_173 fun v_183 f_184 => ?_
    obtain ⟨x_185, e_186, h⟩ := lx_s h
    have f_187 := q_is_eq f_184 e_186
    refine go_istore_n (n := 3) (by decide +kernel) (by decide +kernel) f_187 fun L_188 l_189 kp_190 => ?_
    have l_191 := kp_190 0 _ l_169 (by decide) (Or.inl (by decide))
    have l_192 := kp_190 1 _ l_170 (by decide) (Or.inl (by decide))
    have l_193 := kp_190 2 _ l_171 (by decide) (Or.inr (q_is_cat f_174 (Or.inl rfl)))
    refine ol_X12_die_108 hd   (fun b => hQ (Ext.tr E_180 b)) BIG (Ext.rf _) h R_177 l_191 f_172 l_192 f_173 l_193 f_174 l_189 f_187
  · have h := it_f hp_23 h
    refine go_iconst (n := 0) (z := 0) (by decide +kernel) (by decide) fun v_226 f_227 => ?_
    cases h
    exact go_iret (by decide +kernel) rfl (Or.inl rfl) f_227 (hQ E_22 _ _ R_19 (q_out_v (by decide) f_227))
noncomputable def fm_X12_die (p1 : Int) (m0 : MM) : Option (Int × MM) := bp (fm_X12_isWorker p1 m0) fun x_2 =>
if x_2 = 0 then
fj_X12_die_13 p1 1 m0
else
fj_X12_die_13 p1 0 m0
set_option maxHeartbeats 4000000 in
theorem om_X12_die {xs : List Int32} {d : Nat} {S : QS} {m0 : MM} {p1 : Int} {v0 : Value} {v1 : Value} {rz : Int} {rm : MM}
  (hd : 3 ≤ d) (R : Rp S m0) (f0 : q_is 2 v0 68) (f1 : q_is 0 v1 p1)
  (h : fm_X12_die p1 m0 = some (rz, rm)) : Mt xs d 282 [v0, v1] S (Cr 0 m0 rm rz) := by
  obtain ⟨d, rfl⟩ : ∃ e, d = e + 1 := ⟨d - 1, by omega⟩
  have hd : 2 ≤ d := Nat.le_of_succ_le_succ hd
  refine Mt.of (M := qM_X12_die) rfl (by rw [sl_1 (q_is_cat f0 (Or.inr rfl)), sl_1 (q_is_cat f1 (Or.inl rfl)), sl_0]; decide) ?_
  rw [la_1 (q_is_cat f0 (Or.inr rfl)), la_1 (q_is_cat f1 (Or.inl rfl)), la_0]
  obtain ⟨L, hL⟩ : ∃ L : QL, L = [(0, v0), (0 + 1, v1)] := ⟨_, rfl⟩
  rw [← hL]
  have l0 : q_lo L 0 = some v0 := by rw [hL]; rfl
  have l1 : q_lo L 1 = some v1 := by rw [hL]; rfl
  have hQ : Ext m0 rm → ∀ o S1, Rp S1 rm → q_out 0 o rz → (Cr 0 m0 rm rz) o S1 := fun a o S1 b e => ⟨b, a, e⟩
  unfold fm_X12_die at h
  refine go_aload_n (n := 0) (by decide +kernel) l0 f0 ?_
  refine go_iload_n (n := 1) (by decide +kernel) l1 f1 ?_
  obtain ⟨x_2, hc_1, h⟩ := bp_s h
  refine go_callS (x := 605) (mi := 275) (n := 1) (b := 0) (as := [v1]) (rest := [v0]) (by decide +kernel) (by decide +kernel) rfl rfl (q_sum8 _ (Nat.le_of_ble_eq_true rfl)) (om_X12_isWorker (Nat.le_trans (by decide) hd) R f1 hc_1) (fun _ S_6 q_9 => ?_) (fun _ _ qq => kr_x qq)
  refine kr_z (by decide) q_9 fun v_4 f_5 R_7 E_8 => ?_
  refine go_if (c := .eq) (o := 7) (t := 12) (P := x_2 = 0) (by decide +kernel) (by decide +kernel) f_5 (Iff.rfl) (fun hp_10 => ?_) (fun hp_10 => ?_)
  · have h := it_t hp_10 h
    refine go_iconst (n := 1) (z := 1) (by decide +kernel) (by decide) fun v_11 f_12 => ?_
    exact oj_X12_die_13 hd R_7 l0 f0 l1 f1 f_12 f0 hQ h
  · have h := it_f hp_10 h
    refine go_iconst (n := 0) (z := 0) (by decide +kernel) (by decide) fun v_228 f_229 => ?_
    refine go_goto (o := 4) (t := 13) (by decide +kernel) (by decide +kernel) ?_
    exact oj_X12_die_13 hd R_7 l0 f0 l1 f1 f_229 f0 hQ h
end DF40
