/-! FROM THE BYTECODE TO FUNCTIONS, IV: makings, stores of references, casts, calls, returns, throws; what is fixed. -/
section GN
variable {xs : List Int32} {d : Nat} {M : QM} {pc : Nat} {L : QL} {st rest : List Value} {S : QS} {Q : QO → QS → Prop} {m : MM} {i : Instr}
theorem it_t {β : Type} {c : Prop} [Decidable c] {x y : Option β} {r : β} (p : c) (h : (if c then x else y) = some r) : x = some r := by rw [if_pos p] at h; exact h
theorem it_f {β : Type} {c : Prop} [Decidable c] {x y : Option β} {r : β} (p : ¬ c) (h : (if c then x else y) = some r) : y = some r := by rw [if_neg p] at h; exact h
theorem it_n {β : Type} {c : Prop} [Decidable c] {x y : Option β} {r : β} (p : ¬ ¬ c) (h : (if c then x else y) = some r) : x = some r := it_t (Decidable.of_not_not p) h
theorem Rp.p4 (hR : Rp S m) : (4 : Int) ≤ m 0 0 := by have := hR.2.1; omega
theorem okc_new {c : Nat} {ln : Int} (h0 : 4 ≤ m 0 0) : okc (mnew m (c : Int) ln) (m 0 0) c := by
  refine ⟨h0, ?_, ?_⟩
  · unfold mnew; rw [if_neg (by omega), if_pos rfl, if_pos rfl]; omega
  · unfold mnew; rw [if_pos rfl, if_pos rfl]
theorem okc_nw {c : Nat} {ln z : Int} {m1 : MM} (hR : Rp S m) (hz : z = m 0 0) (hm : m1 = mnew m (c : Int) ln) : okc m1 z c := by
  subst hz hm
  exact okc_new hR.p4
theorem len_nw {kd ln z : Int} {m1 : MM} (hz : z = m 0 0) (hm : m1 = mnew m kd ln) : m1 z (-2) = ln := by
  subst hz hm
  unfold mnew
  rw [if_pos rfl, if_neg (by decide), if_pos rfl]
theorem Ext.okx {m m' : MM} {a z : Int} {c : Nat} (x : Ext m m') (h : okc m a c) (k : okx m a z) : okx m' a z := ⟨k.1, by rw [(x.2 a h.1 h.2.1).2]; exact k.2⟩
theorem Ext.okl {m m' : MM} {a : Int} (x : Ext m m') (h : okl m a) : okl m' a := h.imp id fun h => ⟨h.1, Int.lt_of_lt_of_le h.2.1 x.1, by rw [(x.2 a h.1 h.2.1).1]; exact h.2.2⟩
theorem okl_of {a : Int} {c : Nat} (h : okc m a c) (hc : 100 ≤ c) : okl m a := Or.inr ⟨h.1, h.2.1, by rw [h.2.2]; omega⟩
/-- fixed addresses -/
def fxk (a : Int) (c : Nat) : Bool := fixk.any (fun q => q.1 == a && q.2.1 == (c : Int))
def fxl (a ln : Int) : Bool := fixk.any (fun q => q.1 == a && q.2.2.1 == ln)
def fxv (a j z : Int) : Bool := fixk.any (fun q => q.1 == a && q.2.2.2.any (fun p => p.1 == j && p.2 == z))
theorem fx_k {a : Int} {c : Nat} (hR : Rp S m) (h : fxk a c = true) : okc m a c := by
  simp only [fxk, List.any_eq_true, Bool.and_eq_true, beq_iff_eq] at h
  obtain ⟨q, hq, rfl, h2⟩ := h
  have h3 := fixk_lt q hq
  have h4 := (hR.2.2 q hq).1
  have h5 := hR.2.1
  exact ⟨h3.1, by omega, by rw [h4, h2]⟩
theorem fx_l {a ln : Int} (hR : Rp S m) (h : fxl a ln = true) : m a (-2) = ln := by
  simp only [fxl, List.any_eq_true, Bool.and_eq_true, beq_iff_eq] at h
  obtain ⟨q, hq, rfl, h2⟩ := h
  rw [(hR.2.2 q hq).2.1, h2]
theorem fx_v {a j z : Int} (hR : Rp S m) (h : fxv a j z = true) : m a j = z := by
  simp only [fxv, List.any_eq_true, Bool.and_eq_true, beq_iff_eq] at h
  obtain ⟨q, hq, rfl, p, hp, rfl, h2⟩ := h
  rw [(hR.2.2 q hq).2.2 p hp, h2]
theorem fx_x {a ln z : Int} (hR : Rp S m) (h : fxl a ln = true) (hz : 0 ≤ z ∧ z < ln) : okx m a z := ⟨hz.1, by rw [fx_l hR h]; exact hz.2⟩
theorem q_is_eq {t : Nat} {v : Value} {a b : Int} (h : q_is t v a) (e : b = a) : q_is t v b := by rw [e]; exact h
/-- makings -/
theorem go_new {x ci n b : Nat} {m1 : MM} {z : Int} (hc : q_code M pc = some (.new x)) (hlk : q_lk (qm_k M) x = some (5, ci, n, b)) (hR : Rp S m) (hz : z = m 0 0) (hm : m1 = mnew m (ci : Int) (n : Int)) (k : ∀ v S', q_is 2 v z → Rp S' m1 → Ext m m1 → Go xs d M (pc + 3) L (v :: st) S' Q) : Go xs d M pc L st S Q := by
  subst hz hm
  refine go_write hc ⟨fun _ => rfl, rfl, rfl, fun _ => rfl, fun _ => rfl⟩ rfl (q_read_no rfl) (st' := .ref (S.1.length + 4) :: st) (S' := q_new S (ci, n, [])) ?_ rfl (k _ _ (Or.inr ⟨_, rfl, ?_, Nat.succ_pos _⟩) ⟨Rp_new hR.1, fx_mnew hR.2⟩ (mnew_ext hR.p4))
  · unfold q_write
    simp only [hlk]
  · rw [hR.1.1]
    simp
theorem q_narr {x : Int32} (h : 0 ≤ x.toInt ∧ x.toInt < 60000000) : ¬ (x < 0 ∨ 60000000 ≤ x.toNatClampNeg) ∧ (x.toNatClampNeg : Int) = x.toInt := by
  have e : x.toNatClampNeg = x.toInt.toNat := rfl
  refine ⟨?_, by omega⟩
  rintro (h1 | h1)
  · rw [Int32.lt_iff_toInt_lt] at h1
    have : (0 : Int32).toInt = 0 := rfl
    omega
  · omega
theorem go_newa {t : ArrayType} {kd : Nat} {vn : Value} {n z : Int} {m1 : MM} (hc : q_code M pc = some (.newarray t)) (ht : (t = .int ∧ kd = 100) ∨ (t = .long ∧ kd = 101) ∨ (t = .boolean ∧ kd = 102)) (hn : q_is 0 vn n) (hg : 0 ≤ n ∧ n < 60000000) (hR : Rp S m) (hz : z = m 0 0) (hm : m1 = mnew m (kd : Int) n) (k : ∀ v S', q_is 2 v z → Rp S' m1 → Ext m m1 → Go xs d M (pc + 2) L (v :: st) S' Q) : Go xs d M pc L (vn :: st) S Q := by
  subst hz hm
  obtain ⟨x, rfl, rfl⟩ := hn
  obtain ⟨h1, h2⟩ := q_narr hg
  have hR2 := Rp_new (kd := kd) (n := x.toNatClampNeg) hR.1
  rw [h2] at hR2
  refine go_write hc ⟨fun _ => rfl, rfl, rfl, fun _ => rfl, fun _ => rfl⟩ rfl (q_read_no rfl) (st' := .ref (S.1.length + 4) :: st) (S' := q_new S (kd, x.toNatClampNeg, [])) ?_ rfl (k _ _ (Or.inr ⟨_, rfl, ?_, Nat.succ_pos _⟩) ⟨hR2, fx_mnew hR.2⟩ (mnew_ext hR.p4))
  · rcases ht with ⟨rfl, rfl⟩ | ⟨rfl, rfl⟩ | ⟨rfl, rfl⟩ <;> exact if_neg h1
  · rw [hR.1.1]
    simp
theorem go_anewa {x kd a b : Nat} {vn : Value} {n z : Int} {m1 : MM} (hc : q_code M pc = some (.anewarray x)) (hlk : q_lk (qm_k M) (x + 100000) = some (6, kd, a, b)) (hn : q_is 0 vn n) (hg : 0 ≤ n ∧ n < 60000000) (hR : Rp S m) (hz : z = m 0 0) (hm : m1 = mnew m (kd : Int) n) (k : ∀ v S', q_is 2 v z → Rp S' m1 → Ext m m1 → Go xs d M (pc + 3) L (v :: st) S' Q) : Go xs d M pc L (vn :: st) S Q := by
  subst hz hm
  obtain ⟨x, rfl, rfl⟩ := hn
  obtain ⟨h1, h2⟩ := q_narr hg
  have hR2 := Rp_new (kd := kd) (n := x.toNatClampNeg) hR.1
  rw [h2] at hR2
  refine go_write hc ⟨fun _ => rfl, rfl, rfl, fun _ => rfl, fun _ => rfl⟩ rfl (q_read_no rfl) (st' := .ref (S.1.length + 4) :: st) (S' := q_new S (kd, x.toNatClampNeg, [])) ?_ rfl (k _ _ (Or.inr ⟨_, rfl, ?_, Nat.succ_pos _⟩) ⟨hR2, fx_mnew hR.2⟩ (mnew_ext hR.p4))
  · unfold q_write
    simp only [hlk]
    exact if_neg h1
  · rw [hR.1.1]
    simp
/-- casts, class objects, copies: the last rules of a step -/
theorem go_more {ln : Nat} {st' : List Value} {S' : QS} (hc : q_code M pc = some i) (hp : q_pl M i) (h5 : q_oi M i st = none) (h6 : q_read M i st S = none) (h7 : q_write M i st S = none) (h8 : q_script (some xs) i st = none) (h9 : q_more M i st S = some (st', S')) (hn : q_len i = ln) (k : Go xs d M (pc + ln) L st' S' Q) : Go xs d M pc L st S Q := by
  subst hn
  refine Go.step (pc' := pc + q_len i) (L' := L) (st' := st') (S' := S') hc ?_ k
  unfold q_step
  rw [hp.1, hp.2.1, hp.2.2.1, hp.2.2.2.1, hp.2.2.2.2, h5, h6, h7, h8, h9]
  rfl
theorem go_cast {x kd a b : Nat} {vr : Value} {r : Int} (hc : q_code M pc = some (.checkcast x)) (hlk : q_lk (qm_k M) (x + 200000) = some (16, kd, a, b)) (hR : Rp S m) (hr : q_is 2 vr r) (hok : okc m r kd) (k : Go xs d M (pc + 3) L (vr :: st) S Q) : Go xs d M pc L (vr :: st) S Q := by
  obtain ⟨r, rfl, hra⟩ := q_is_ref hr (by omega)
  obtain ⟨k9, c, e1, e2, e6, e3, e5, e4⟩ := Rp_at hR hok.1 hok.2.1
  have hkk : r = k9 + 4 := by omega
  subst hkk
  have hck : c.1 = kd := by have := hok.2.2; omega
  refine go_more hc ⟨fun _ => rfl, rfl, rfl, fun _ => rfl, fun _ => rfl⟩ rfl (q_read_no rfl) rfl rfl (st' := .ref (k9 + 4) :: st) (S' := S) ?_ rfl k
  unfold q_more
  simp only [hlk, e2]
  rw [if_pos hck]
/-- stores of references -/
def aok (kd vk : Nat) : Bool := (kd == 103 && vk == 2) || ((kd == 104 && vk == 4) || ((kd == 105 && vk == 6) || ((kd == 106 && vk == 11) || ((kd == 108 && vk == 101) || (kd == 107 && q_obk vk)))))
theorem q_sty_arr {kd : Nat} (h1 : 103 ≤ kd) : q_sty kd 0 = 2 := by
  unfold q_sty
  rw [if_neg (by omega)]
  unfold q_ty
  rw [if_neg (by omega), if_neg (by omega), if_neg (by omega)]
  repeat' split
  all_goals rfl
theorem go_aast {kd vk : Nat} {vr vi v : Value} {a z y : Int} {m' : MM} (hc : q_code M pc = some .aastore) (hk : aok kd vk = true) (hR : Rp S m) (hr : q_is 2 vr a) (hi : q_is 0 vi z) (hv : q_is 2 v y) (hok : okc m a kd) (hx : okx m a z) (hy : y = 0 ∨ okc m y vk) (hm : m' = mset m a z y) (hF : Fix (mset m a z y)) (k : ∀ S', Rp S' m' → Ext m m' → Go xs d M (pc + 1) L st S' Q) : Go xs d M pc L (v :: vi :: vr :: st) S Q := by
  subst hm
  have hk1 : (kd = 103 ∧ vk = 2) ∨ (kd = 104 ∧ vk = 4) ∨ (kd = 105 ∧ vk = 6) ∨ (kd = 106 ∧ vk = 11) ∨ (kd = 108 ∧ vk = 101) ∨ (kd = 107 ∧ q_obk vk = true) := by
    simpa [aok] using hk
  have h103 : 103 ≤ kd ∧ kd ≤ 108 := by omega
  obtain ⟨r, rfl, hra⟩ := q_is_ref hr (by omega)
  obtain ⟨k9, c, rfl, e2, e3, e4, e5, e6⟩ := q_ast hR hra hok hx (by omega) (y := y) (v := v) (by rw [q_sty_arr h103.1]; exact hv) hF
  obtain ⟨x, rfl, rfl⟩ := hi
  have hidx := q_idx_of hx.1 e4
  rcases hv with ⟨rfl, rfl⟩ | ⟨w, rfl, hw, hw0⟩
  · refine go_more hc ⟨fun _ => rfl, rfl, rfl, fun _ => rfl, fun _ => rfl⟩ rfl (q_read_no rfl) rfl rfl (st' := st) (S' := q_put S (k9 + 4) (q_wr c x.toInt.toNat .null)) ?_ rfl (k _ e5 e6)
    unfold q_more
    simp only [e2]
    rw [if_pos (by rw [e3]; exact h103), hidx]
    rfl
  · have hyok : okc m y vk := hy.resolve_left (by omega)
    obtain ⟨j9, cv, f1, f2, f6, f3, f5, f4⟩ := Rp_at hR hyok.1 hyok.2.1
    have hwj : w = j9 + 4 := by omega
    subst hwj
    have hcv : cv.1 = vk := by have := hyok.2.2; omega
    by_cases h107 : kd = 107
    · have hob : q_obk vk = true := by
        rcases hk1 with h | h | h | h | h | h <;> first | exact h.2 | omega
      refine go_more hc ⟨fun _ => rfl, rfl, rfl, fun _ => rfl, fun _ => rfl⟩ rfl (q_read_no rfl) ?_ rfl (st' := st) (S' := q_put S (k9 + 4) (q_wr c x.toInt.toNat (.ref (j9 + 4)))) ?_ rfl (k _ e5 e6)
      · unfold q_write
        simp only [e2, f2]
        rw [if_neg (by rw [e3]; omega)]
      · unfold q_more
        simp only [e2]
        rw [if_pos ⟨by rw [e3]; exact h107, by unfold q_oel; simp only [f2]; rw [hcv]; exact hob⟩, hidx]
        rfl
    · refine go_write hc ⟨fun _ => rfl, rfl, rfl, fun _ => rfl, fun _ => rfl⟩ rfl (q_read_no rfl) (st' := st) (S' := q_put S (k9 + 4) (q_wr c x.toInt.toNat (.ref (j9 + 4)))) ?_ rfl (k _ e5 e6)
      unfold q_write
      simp only [e2, f2]
      rw [if_pos (by rw [e3, hcv]; rcases hk1 with h | h | h | h | h | h <;> first | exact Or.inl h | exact Or.inr (Or.inl h) | exact Or.inr (Or.inr (Or.inl h)) | exact Or.inr (Or.inr (Or.inr (Or.inl h))) | exact Or.inr (Or.inr (Or.inr (Or.inr h))) | exact absurd h.1 h107), hidx]
      rfl
/-- Object's own constructor -/
theorem go_oinit {x a b e : Nat} {vr : Value} {r : Int} (hc : q_code M pc = some (.invokespecial x)) (hlk : q_lk (qm_k M) x = some (4, a, b, e)) (hr : q_is 2 vr r) (hr0 : r ≠ 0) (hl : (st.map fun v => v.category).sum ≤ 8) (k : Go xs d M (pc + 3) L st S Q) : Go xs d M pc L (vr :: st) S Q := by
  obtain ⟨r, rfl, hra⟩ := q_is_ref hr hr0
  refine Go.step (pc' := pc + 3) (L' := L) (st' := st) (S' := S) hc ?_ k
  have h1 : q_oi M (.invokespecial x) (.ref r :: st) = some st := by
    unfold q_oi
    simp only [hlk]
    rw [if_pos (hl)]
  unfold q_step
  rw [show q_simple (.invokespecial x) (.ref r :: st) = none from rfl, show q_ldi (.invokespecial x) = none from rfl, show q_sti (.invokespecial x) = none from rfl, show q_br (.invokespecial x) (.ref r :: st) = none from rfl, show q_inc M (.invokespecial x) L = none from rfl, h1]
/-- calls -/
theorem q_step_nc (hp : q_pl M i) (h5 : q_oi M i st = none) (h6 : q_read M i st S = none) (h7 : q_write M i st S = none) (h8 : q_script (some xs) i st = none) (h9 : q_more M i st S = none) : q_step M (some xs) pc i L st S = none := by
  unfold q_step
  rw [hp.1, hp.2.1, hp.2.2.1, hp.2.2.2.1, hp.2.2.2.2, h5, h6, h7, h8, h9]
  rfl
/-- what a call gives: memory, value -/
abbrev Cr (t : Nat) (m m1 : MM) (z : Int) : QO → QS → Prop := fun o S' => Rp S' m1 ∧ Ext m m1 ∧ q_out t o z
abbrev Cx (t : Nat) (m m1 : MM) (r : Int ⊕ Nat) : QO → QS → Prop := fun o S' => Rp S' m1 ∧ Ext m m1 ∧ q_oux t o r
theorem go_callS {x mi n b : Nat} {as : List Value} {Q1 : QO → QS → Prop} (hc : q_code M pc = some (.invokestatic x)) (hlk : q_lk (qm_k M) x = some (2, mi, n, b)) (hst : st = as.reverse ++ rest) (hn : as.length = n) (hl : (rest.map fun v => v.category).sum ≤ 8) (hm : Mt xs d mi as S Q1)
    (k : ∀ v S', Q1 (.inl v) S' → Go xs d M (pc + 3) L (v.toList ++ rest) S' Q) (kx : ∀ e S', Q1 (.inr e) S' → (qm_h M = [] ∧ Q (.inr e) S') ∨ (qm_h M ≠ [] ∧ ∃ pc' L', q_hand M pc e L = some (pc', L') ∧ Go xs d M pc' L' [] S' Q)) : Go xs d M pc L st S Q := by
  subst hst
  have hln : as.reverse.length = n := by rw [List.length_reverse]; exact hn
  refine Go.call (mi := mi) (as := as) (rest := rest) hc (q_step_nc ⟨fun _ => rfl, rfl, rfl, fun _ => rfl, fun _ => rfl⟩ rfl (q_read_no rfl) rfl rfl ?_) ?_ hm k kx
  · unfold q_more
    simp only [hlk]
  · unfold q_call
    simp only [hlk]
    rw [List.drop_left' hln, List.take_left' hln, List.reverse_reverse, if_pos ⟨by rw [List.length_append]; omega, hl⟩]
theorem go_callV {x mi n ci : Nat} {vr : Value} {a : Int} {as : List Value} {Q1 : QO → QS → Prop} (hc : q_code M pc = some (.invokevirtual x)) (hlk : q_lk (qm_k M) x = some (1, mi, n, ci)) (hst : st = as.reverse ++ vr :: rest) (hn : as.length = n) (hl : (rest.map fun v => v.category).sum ≤ 8) (hR : Rp S m) (hr : q_is 2 vr a) (hok : okc m a ci) (hm : Mt xs d mi (vr :: as) S Q1)
    (k : ∀ v S', Q1 (.inl v) S' → Go xs d M (pc + 3) L (v.toList ++ rest) S' Q) (kx : ∀ e S', Q1 (.inr e) S' → (qm_h M = [] ∧ Q (.inr e) S') ∨ (qm_h M ≠ [] ∧ ∃ pc' L', q_hand M pc e L = some (pc', L') ∧ Go xs d M pc' L' [] S' Q)) : Go xs d M pc L st S Q := by
  subst hst
  obtain ⟨r, rfl, hra⟩ := q_is_ref hr (by omega)
  obtain ⟨k9, c, e1, e2, e6, e3, e5, e4⟩ := Rp_at hR hok.1 hok.2.1
  have hkk : r = k9 + 4 := by omega
  subst hkk
  have hck : c.1 = ci := by have := hok.2.2; omega
  have hln : as.reverse.length = n := by rw [List.length_reverse]; exact hn
  refine Go.call (mi := mi) (as := .ref (k9 + 4) :: as) (rest := rest) hc (q_step_nc ⟨fun _ => rfl, rfl, rfl, fun _ => rfl, fun _ => rfl⟩ rfl (q_read_no rfl) rfl rfl ?_) ?_ hm k kx
  · unfold q_more
    simp only [hlk]
  · unfold q_call
    simp only [hlk]
    rw [List.drop_left' hln, List.take_left' hln, List.reverse_reverse]
    simp only [e2]
    rw [if_pos ⟨hck, by rw [List.length_append]; omega, hl⟩]
theorem go_callI {x mi n b tg : Nat} {vr : Value} {a : Int} {as : List Value} {Q1 : QO → QS → Prop} (hc : q_code M pc = some (.invokespecial x)) (hlk : q_lk (qm_k M) x = some (tg, mi, n, b)) (htg : tg = 3 ∨ tg = 15) (hst : st = as.reverse ++ vr :: rest) (hn : as.length = n) (hl : (rest.map fun v => v.category).sum ≤ 8) (hr : q_is 2 vr a) (ha : a ≠ 0) (hm : Mt xs d mi (vr :: as) S Q1)
    (k : ∀ v S', Q1 (.inl v) S' → Go xs d M (pc + 3) L (v.toList ++ rest) S' Q) (kx : ∀ e S', Q1 (.inr e) S' → (qm_h M = [] ∧ Q (.inr e) S') ∨ (qm_h M ≠ [] ∧ ∃ pc' L', q_hand M pc e L = some (pc', L') ∧ Go xs d M pc' L' [] S' Q)) : Go xs d M pc L st S Q := by
  subst hst
  obtain ⟨r, rfl, hra⟩ := q_is_ref hr ha
  have hln : as.reverse.length = n := by rw [List.length_reverse]; exact hn
  refine Go.call (mi := mi) (as := .ref r :: as) (rest := rest) hc (q_step_nc ⟨fun _ => rfl, rfl, rfl, fun _ => rfl, fun _ => rfl⟩ ?_ (q_read_no rfl) rfl rfl rfl) ?_ hm k kx
  · unfold q_oi
    rcases htg with rfl | rfl <;> simp only [hlk]
  · unfold q_call
    rcases htg with rfl | rfl <;> simp only [hlk] <;> rw [List.drop_left' hln, List.take_left' hln, List.reverse_reverse] <;> simp only <;> rw [if_pos ⟨by rw [List.length_append]; omega, hl⟩]
/-- behind a call of what never throws: nothing comes back, or a value -/
theorem kr_v {m m1 : MM} {z : Int} {v : Option Value} {S' : QS} {pn : Nat} {L' : QL} (hQ : Cr 9 m m1 z (.inl v) S') (k : Rp S' m1 → Ext m m1 → Go xs d M pn L' rest S' Q) : Go xs d M pn L' (v.toList ++ rest) S' Q := by
  obtain ⟨h1, h2, h3⟩ := hQ
  have h4 : (Sum.inl v : QO) = .inl none := h3
  cases h4
  exact k h1 h2
theorem kr_z {t : Nat} {m m1 : MM} {z : Int} {v : Option Value} {S' : QS} {pn : Nat} {L' : QL} (ht : t ≠ 9) (hQ : Cr t m m1 z (.inl v) S') (k : ∀ w, q_is t w z → Rp S' m1 → Ext m m1 → Go xs d M pn L' (w :: rest) S' Q) : Go xs d M pn L' (v.toList ++ rest) S' Q := by
  obtain ⟨h1, h2, h3⟩ := hQ
  unfold q_out at h3
  rw [if_neg ht] at h3
  obtain ⟨w, h4, h5⟩ := h3
  cases h4
  exact k w h5 h1 h2
theorem kr_x {t : Nat} {m m1 : MM} {z : Int} {e : Nat} {S' : QS} {P : Prop} (hQ : Cr t m m1 z (.inr e) S') : P := by
  obtain ⟨-, -, h3⟩ := hQ
  unfold q_out at h3
  split at h3
  · cases h3
  · obtain ⟨w, h4, -⟩ := h3
    cases h4
theorem kx_l {t : Nat} {m m1 : MM} {z : Int} {o : QO} {S' : QS} (hQ : Cx t m m1 (.inl z) o S') : Cr t m m1 z o S' := hQ
theorem kx_lx {t : Nat} {m m1 : MM} {e : Nat} {v : Option Value} {S' : QS} {P : Prop} (hQ : Cx t m m1 (.inr e) (.inl v) S') : P := by
  obtain ⟨-, -, h3⟩ := hQ
  have h4 : (Sum.inl v : QO) = .inr e := h3
  cases h4
theorem kx_e {t : Nat} {m m1 : MM} {e f : Nat} {S' : QS} (hQ : Cx t m m1 (.inr e) (.inr f) S') : e = f ∧ Rp S' m1 ∧ Ext m m1 := by
  obtain ⟨h1, h2, h3⟩ := hQ
  have h4 : (Sum.inr f : QO) = .inr e := h3
  cases h4
  exact ⟨rfl, h1, h2⟩
/-- returns -/
theorem q_nostep_ret (hp : q_pl M i) (h5 : q_oi M i st = none) (h6 : q_read M i st S = none) (h7 : q_write M i st S = none) (h8 : q_script (some xs) i st = none) (h9 : q_more M i st S = none) : q_step M (some xs) pc i L st S = none := q_step_nc hp h5 h6 h7 h8 h9
theorem go_iret {ty : FieldType} {v : Value} {z : Int} (hc : q_code M pc = some .ireturn) (hr : qm_r M = some ty) (hty : ty = .int ∨ (ty = .boolean ∧ (z = 0 ∨ z = 1))) (hv : q_is 0 v z) (k : Q (.inl (some v)) S) : Go xs d M pc L [v] S Q := by
  obtain ⟨x, rfl, rfl⟩ := hv
  refine Go.ret (v := some (.int x)) hc (q_step_nc ⟨fun _ => rfl, rfl, rfl, fun _ => rfl, fun _ => rfl⟩ rfl (q_read_no rfl) rfl rfl rfl) rfl ?_ k
  show (match qm_r M with
    | some ty => if narrow ty (Value.int x) = Value.int x then some (some (Value.int x)) else none
    | none => none) = _
  rw [hr]
  simp only
  rw [if_pos]
  rcases hty with rfl | ⟨rfl, h⟩
  · rfl
  · have hx : x = 0 ∨ x = 1 := h.imp (fun h => Int32.toInt_inj.mp h) (fun h => Int32.toInt_inj.mp h)
    rcases hx with rfl | rfl <;> rfl
theorem go_lret {v : Value} {z : Int} (hc : q_code M pc = some .lreturn) (hr : qm_r M = some .long) (hv : q_is 1 v z) (k : Q (.inl (some v)) S) : Go xs d M pc L [v] S Q := by
  obtain ⟨x, rfl, rfl⟩ := hv
  refine Go.ret (v := some (.long x)) hc (q_step_nc ⟨fun _ => rfl, rfl, rfl, fun _ => rfl, fun _ => rfl⟩ rfl (q_read_no rfl) rfl rfl rfl) rfl ?_ k
  exact if_pos hr
theorem go_aret {ty : FieldType} {v : Value} {z : Int} (hc : q_code M pc = some .areturn) (hr : qm_r M = some ty) (hty : ty.isReference = true) (hv : q_is 2 v z) (k : Q (.inl (some v)) S) : Go xs d M pc L [v] S Q := by
  have ht : q_tag v = 2 := q_is_tag hv (by decide)
  refine Go.ret (v := some v) hc (q_step_nc ⟨fun _ => rfl, rfl, rfl, fun _ => rfl, fun _ => rfl⟩ rfl (q_read_no rfl) rfl rfl rfl) rfl ?_ k
  unfold q_ret
  simp only [hr]
  cases ty <;> first | (cases hty; done) | exact if_pos ht
theorem go_vret (hc : q_code M pc = some .return_) (hr : qm_r M = none) (k : Q (.inl none) S) : Go xs d M pc L [] S Q := by
  refine Go.ret (v := none) hc (q_step_nc ⟨fun _ => rfl, rfl, rfl, fun _ => rfl, fun _ => rfl⟩ rfl (q_read_no rfl) rfl rfl rfl) rfl ?_ k
  exact if_pos hr
/-- throws -/
theorem go_thr {x e ic b : Nat} {m1 : MM} (hc : q_code M pc = some (.new x)) (hlk : q_lk (qm_k M) x = some (11, e, ic, b)) (hq : q_thr M pc (.new x) st = some e) (hR : Rp S m) (hm : m1 = mthr m) (k : ∀ S', Rp S' m1 → Ext m m1 → Q (.inr e) S') : Go xs d M pc L st S Q := by
  subst hm
  refine ⟨0, 1, .inr e, _, ?_, k _ ⟨Rp_thr hR.1, fx_mthr hR.2⟩ (mthr_ext hR.p4)⟩
  rw [q_run, hc]
  simp only
  rw [q_step_nc (xs := xs) ⟨fun _ => rfl, rfl, rfl, fun _ => rfl, fun _ => rfl⟩ rfl (q_read_no rfl) (by unfold q_write; simp only [hlk]) rfl rfl]
  simp only
  rw [show q_call M (.new x) st S = none from rfl]
  simp only
  rw [show q_ret M (.new x) st = none by unfold q_ret; cases st <;> rfl]
  simp only
  rw [hq]
  rfl
/-- handlers -/
theorem q_hand_n {e n : Nat} {h : Nat × Nat × Nat × Nat} (hf : (qm_h M).find? (q_hx M pc e) = some h) (hc : q_code M h.2.2.1 = some (.astore n)) (hn : n < qm_l M) : q_hand M pc e L = some (h.2.2.1 + 2, q_rm L n) := by
  unfold q_hand
  rw [hf]
  simp only
  rw [hc]
  simp only
  rw [if_pos hn]
theorem q_hand_k {e : Nat} {n : Fin 4} {h : Nat × Nat × Nat × Nat} (hf : (qm_h M).find? (q_hx M pc e) = some h) (hc : q_code M h.2.2.1 = some (.astore_n n)) (hn : (n : Nat) < qm_l M) : q_hand M pc e L = some (h.2.2.1 + 1, q_rm L (n : Nat)) := by
  unfold q_hand
  rw [hf]
  simp only
  rw [hc]
  simp only
  rw [if_pos hn]
/-- comparisons of longs -/
theorem lc_lt {a b : Int} : lCmp a b < 0 ↔ a < b := by unfold lCmp; split <;> (try split) <;> omega
theorem lc_gt {a b : Int} : 0 < lCmp a b ↔ b < a := by unfold lCmp; split <;> (try split) <;> omega
theorem lc_eq {a b : Int} : lCmp a b = 0 ↔ a = b := by unfold lCmp; split <;> (try split) <;> omega
end GN
