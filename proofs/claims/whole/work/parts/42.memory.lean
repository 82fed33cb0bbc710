/-! FROM THE BYTECODE TO FUNCTIONS, III: rules of the memory, of calls, returns and throws. -/
section GM
variable {xs : List Int32} {d : Nat} {M : QM} {pc : Nat} {L : QL} {st rest : List Value} {S : QS} {Q : QO → QS → Prop} {m : MM} {i : Instr}
/-- an instruction that only the memory's rules take -/
def q_pl (M : QM) (i : Instr) : Prop := (∀ st, q_simple i st = none) ∧ q_ldi i = none ∧ q_sti i = none ∧ (∀ st, q_br i st = none) ∧ (∀ L, q_inc M i L = none)
theorem go_read {ln : Nat} {st' : List Value} (hc : q_code M pc = some i) (hp : q_pl M i) (h5 : q_oi M i st = none) (h6 : q_read M i st S = some st') (hn : q_len i = ln) (k : Go xs d M (pc + ln) L st' S Q) : Go xs d M pc L st S Q := by
  subst hn
  refine Go.step (pc' := pc + q_len i) (L' := L) (st' := st') (S' := S) hc ?_ k
  unfold q_step
  rw [hp.1, hp.2.1, hp.2.2.1, hp.2.2.2.1, hp.2.2.2.2, h5, h6]
theorem go_write {ln : Nat} {st' : List Value} {S' : QS} (hc : q_code M pc = some i) (hp : q_pl M i) (h5 : q_oi M i st = none) (h6 : q_read M i st S = none) (h7 : q_write M i st S = some (st', S')) (hn : q_len i = ln) (k : Go xs d M (pc + ln) L st' S' Q) : Go xs d M pc L st S Q := by
  subst hn
  refine Go.step (pc' := pc + q_len i) (L' := L) (st' := st') (S' := S') hc ?_ k
  unfold q_step
  rw [hp.1, hp.2.1, hp.2.2.1, hp.2.2.2.1, hp.2.2.2.2, h5, h6, h7]
/-- the instructions that read nothing -/
def q_nr (i : Instr) : Bool := match i with
  | .getfield _ => false
  | .arraylength => false
  | .ldc _ => false
  | .ldc_w _ => false
  | .ldc2_w _ => false
  | .getstatic _ => false
  | .iaload => false
  | .laload => false
  | .baload => false
  | .aaload => false
  | _ => true
theorem q_read_no (h : q_nr i = true) : q_read M i st S = none := by
  unfold q_read
  cases i <;> first
    | (simp [q_nr] at h; done)
    | (simp only
       split
       · split
         · simp
         · rfl
       · rfl)
theorem go_getf {x ci kf fin : Nat} {vr : Value} {a : Int} {t : Nat} (hc : q_code M pc = some (.getfield x)) (hlk : q_lk (qm_k M) x = some (0, ci, kf, fin)) (ht : q_sty ci kf = t) (hR : Rp S m) (hr : q_is 2 vr a) (hok : okc m a ci) (k : ∀ v, q_is t v (m a (kf : Int)) → Go xs d M (pc + 3) L (v :: st) S Q) : Go xs d M pc L (vr :: st) S Q := by
  subst ht
  obtain ⟨r, rfl, hra⟩ := q_is_ref hr (by omega)
  obtain ⟨k9, c, e1, e2, -, e3, -, e4⟩ := Rp_at hR hok.1 hok.2.1
  have hk : r = k9 + 4 := by omega
  subst hk
  have hci : c.1 = ci := by have := hok.2.2; omega
  refine go_read hc ⟨fun _ => rfl, rfl, rfl, fun _ => rfl, fun _ => rfl⟩ rfl (st' := q_rd c kf :: st) ?_ rfl (k _ (by rw [← hci]; exact e4 kf))
  unfold q_read
  simp only [hlk, e2]
  rw [if_pos hci]
theorem q_read_alen {n : Nat} {c : QC} (e : q_at S (n + 4) = some c) (h : 100 ≤ c.1) : q_read M .arraylength (.ref (n + 4) :: rest) S = some (.int (Int32.ofNat c.2.1) :: rest) := by
  have h9 : q_read M .arraylength (.ref (n + 4) :: rest) S = (match q_at S (n + 4) with
    | some c => if 100 ≤ c.1 then some (.int (Int32.ofNat c.2.1) :: rest) else none
    | none => none) := rfl
  rw [h9, e]
  simp only
  rw [if_pos h]
theorem go_alen {vr : Value} {a : Int} (hc : q_code M pc = some .arraylength) (hR : Rp S m) (hr : q_is 2 vr a) (hok : okl m a) (k : ∀ v, q_is 0 v (w32 (m a (-2))) → Go xs d M (pc + 1) L (v :: st) S Q) : Go xs d M pc L (vr :: st) S Q := by
  obtain ⟨r, rfl, hra⟩ := q_is_ref hr (by omega)
  rcases hok with h1 | ⟨h1, h2, h3⟩
  · have hr1 : r = 1 := by omega
    subst hr1
    refine go_read hc ⟨fun _ => rfl, rfl, rfl, fun _ => rfl, fun _ => rfl⟩ rfl (st' := .int 0 :: st) rfl rfl (k _ ⟨0, rfl, ?_⟩)
    rw [h1, hR.1.2.2.2.1]
    rfl
  · obtain ⟨k9, c, e1, e2, -, e3, e5, -⟩ := Rp_at hR h1 h2
    have hk : r = k9 + 4 := by omega
    subst hk
    refine go_read hc ⟨fun _ => rfl, rfl, rfl, fun _ => rfl, fun _ => rfl⟩ rfl (q_read_alen e2 (by omega)) rfl (k _ ⟨_, rfl, ?_⟩)
    rw [e5]
    unfold w32
    rw [← Int32.toInt_ofInt]
    rfl
theorem go_alen23 {vr : Value} {a : Int} (hc : q_code M pc = some .arraylength) (hr : q_is 2 vr a) (ha : a = 2 ∨ a = 3) (k : ∀ v, q_is 0 v 24 → Go xs d M (pc + 1) L (v :: st) S Q) : Go xs d M pc L (vr :: st) S Q := by
  obtain ⟨r, rfl, hra⟩ := q_is_ref hr (by omega)
  have h : r = 2 ∨ r = 3 := by omega
  rcases h with rfl | rfl
  · exact go_read hc ⟨fun _ => rfl, rfl, rfl, fun _ => rfl, fun _ => rfl⟩ rfl (st' := .int (Int32.ofNat 24) :: st) rfl rfl (k _ ⟨_, rfl, rfl⟩)
  · exact go_read hc ⟨fun _ => rfl, rfl, rfl, fun _ => rfl, fun _ => rfl⟩ rfl (st' := .int (Int32.ofNat 24) :: st) rfl rfl (k _ ⟨_, rfl, rfl⟩)
theorem q_idx_of {x : Int32} {n : Nat} (h0 : 0 ≤ x.toInt) (h1 : x.toInt < (n : Int)) : q_idx x n = some x.toInt.toNat := by
  have e : x.toNatClampNeg = x.toInt.toNat := rfl
  unfold q_idx
  rw [if_neg ?_, e]
  rintro (h | h)
  · rw [Int32.lt_iff_toInt_lt] at h
    have : (0 : Int32).toInt = 0 := rfl
    omega
  · rw [e] at h
    omega
/-- the class's two arrays of constants -/
def tA (i : Int) : Int := (q_ta.getD i.toNat 0).toInt
def tB (i : Int) : Int := (q_tb.getD i.toNat 0).toInt
theorem go_ialA {vr vi : Value} {z : Int} (hc : q_code M pc = some .iaload) (hr : q_is 2 vr 2) (hi : q_is 0 vi z) (hg : 0 ≤ z ∧ z < 24) (k : ∀ v, q_is 0 v (tA z) → Go xs d M (pc + 1) L (v :: st) S Q) : Go xs d M pc L (vi :: vr :: st) S Q := by
  obtain ⟨r, rfl, hra⟩ := q_is_ref hr (by decide)
  obtain rfl : r = 2 := by omega
  obtain ⟨x, rfl, rfl⟩ := hi
  refine go_read hc ⟨fun _ => rfl, rfl, rfl, fun _ => rfl, fun _ => rfl⟩ rfl (st' := .int (q_ta.getD x.toInt.toNat 0) :: st) ?_ rfl (k _ ⟨_, rfl, rfl⟩)
  have h9 : q_read M .iaload (.int x :: .ref 2 :: st) S = (q_idx x 24).map (fun j => .int (q_ta.getD j 0) :: st) := rfl
  rw [h9, q_idx_of hg.1 (by omega)]
  rfl
theorem go_ialB {vr vi : Value} {z : Int} (hc : q_code M pc = some .iaload) (hr : q_is 2 vr 3) (hi : q_is 0 vi z) (hg : 0 ≤ z ∧ z < 24) (k : ∀ v, q_is 0 v (tB z) → Go xs d M (pc + 1) L (v :: st) S Q) : Go xs d M pc L (vi :: vr :: st) S Q := by
  obtain ⟨r, rfl, hra⟩ := q_is_ref hr (by decide)
  obtain rfl : r = 3 := by omega
  obtain ⟨x, rfl, rfl⟩ := hi
  refine go_read hc ⟨fun _ => rfl, rfl, rfl, fun _ => rfl, fun _ => rfl⟩ rfl (st' := .int (q_tb.getD x.toInt.toNat 0) :: st) ?_ rfl (k _ ⟨_, rfl, rfl⟩)
  have h9 : q_read M .iaload (.int x :: .ref 3 :: st) S = (q_idx x 24).map (fun j => .int (q_tb.getD j 0) :: st) := rfl
  rw [h9, q_idx_of hg.1 (by omega)]
  rfl
/-- array reads: i is one of the four instructions -/
theorem q_read_ald {n kd : Nat} {c : QC} {x : Int32} (hi : i = .iaload ∨ i = .laload ∨ i = .baload ∨ i = .aaload) (hk : q_akd i kd = true) (e : q_at S (n + 4) = some c) (hck : c.1 = kd) (h0 : 0 ≤ x.toInt) (h1 : x.toInt < (c.2.1 : Int)) : q_read M i (.int x :: .ref (n + 4) :: rest) S = some (q_rd c x.toInt.toNat :: rest) := by
  subst hck
  rcases hi with rfl | rfl | rfl | rfl
  · have h9 : q_read M .iaload (.int x :: .ref (n + 4) :: rest) S = (match q_at S (n + 4) with
      | some c => if q_akd .iaload c.1 then (q_idx x c.2.1).map (fun j => q_rd c j :: rest) else none
      | none => none) := rfl
    rw [h9, e]
    simp only
    rw [if_pos hk, q_idx_of h0 h1]
    rfl
  · unfold q_read
    simp only [e, hk]
    rw [q_idx_of h0 h1]
    simp
  · unfold q_read
    simp only [e, hk]
    rw [q_idx_of h0 h1]
    simp
  · unfold q_read
    simp only [e, hk]
    rw [q_idx_of h0 h1]
    simp
theorem go_ald {t kd : Nat} {vr vi : Value} {a z : Int} (hc : q_code M pc = some i) (hi : i = .iaload ∨ i = .laload ∨ i = .baload ∨ i = .aaload) (hk : q_akd i kd = true) (ht : q_sty kd 0 = t) (h100 : 100 ≤ kd) (hR : Rp S m) (hr : q_is 2 vr a) (hiz : q_is 0 vi z) (hok : okc m a kd) (hx : okx m a z) (k : ∀ v, q_is t v (m a z) → Go xs d M (pc + 1) L (v :: st) S Q) : Go xs d M pc L (vi :: vr :: st) S Q := by
  subst ht
  obtain ⟨r, rfl, hra⟩ := q_is_ref hr (by omega)
  obtain ⟨x, rfl, rfl⟩ := hiz
  obtain ⟨k9, c, e1, e2, -, e3, e5, e4⟩ := Rp_at hR hok.1 hok.2.1
  have hkk : r = k9 + 4 := by omega
  subst hkk
  have hck : c.1 = kd := by have := hok.2.2; omega
  have hx2 := hx.2
  rw [e5] at hx2
  have hpl : q_pl M i := by rcases hi with rfl | rfl | rfl | rfl <;> exact ⟨fun _ => rfl, rfl, rfl, fun _ => rfl, fun _ => rfl⟩
  have hln : q_len i = 1 := by rcases hi with rfl | rfl | rfl | rfl <;> rfl
  have hoi : q_oi M i (.int x :: .ref (k9 + 4) :: st) = none := by rcases hi with rfl | rfl | rfl | rfl <;> rfl
  refine go_read hc hpl hoi (q_read_ald hi hk e2 hck hx.1 hx2) hln (k _ ?_)
  have h4 := e4 x.toInt.toNat
  rw [hck, Int.toNat_of_nonneg hx.1] at h4
  have : q_sty kd x.toInt.toNat = q_sty kd 0 := by unfold q_sty; rw [if_neg (by omega), if_neg (by omega)]
  rw [this] at h4
  exact h4
theorem go_iald {kd : Nat} {vr vi : Value} {a z : Int} (hc : q_code M pc = some .iaload) (hkd : kd = 100) (hR : Rp S m) (hr : q_is 2 vr a) (hiz : q_is 0 vi z) (hok : okc m a kd) (hx : okx m a z) (k : ∀ v, q_is 0 v (m a z) → Go xs d M (pc + 1) L (v :: st) S Q) : Go xs d M pc L (vi :: vr :: st) S Q := by
  subst hkd; exact go_ald hc (Or.inl rfl) rfl rfl (by decide) hR hr hiz hok hx k
theorem go_lald {kd : Nat} {vr vi : Value} {a z : Int} (hc : q_code M pc = some .laload) (hkd : kd = 101) (hR : Rp S m) (hr : q_is 2 vr a) (hiz : q_is 0 vi z) (hok : okc m a kd) (hx : okx m a z) (k : ∀ v, q_is 1 v (m a z) → Go xs d M (pc + 1) L (v :: st) S Q) : Go xs d M pc L (vi :: vr :: st) S Q := by
  subst hkd; exact go_ald hc (Or.inr (Or.inl rfl)) rfl rfl (by decide) hR hr hiz hok hx k
theorem go_bald {kd : Nat} {vr vi : Value} {a z : Int} (hc : q_code M pc = some .baload) (hkd : kd = 102) (hR : Rp S m) (hr : q_is 2 vr a) (hiz : q_is 0 vi z) (hok : okc m a kd) (hx : okx m a z) (k : ∀ v, q_is 0 v (m a z) → Go xs d M (pc + 1) L (v :: st) S Q) : Go xs d M pc L (vi :: vr :: st) S Q := by
  subst hkd; exact go_ald hc (Or.inr (Or.inr (Or.inl rfl))) rfl rfl (by decide) hR hr hiz hok hx k
theorem go_aald {kd : Nat} {vr vi : Value} {a z : Int} (hc : q_code M pc = some .aaload) (hkd : kd = 103 ∨ kd = 104 ∨ kd = 105 ∨ kd = 106 ∨ kd = 107 ∨ kd = 108) (hR : Rp S m) (hr : q_is 2 vr a) (hiz : q_is 0 vi z) (hok : okc m a kd) (hx : okx m a z) (k : ∀ v, q_is 2 v (m a z) → Go xs d M (pc + 1) L (v :: st) S Q) : Go xs d M pc L (vi :: vr :: st) S Q := by
  rcases hkd with rfl | rfl | rfl | rfl | rfl | rfl <;> exact go_ald hc (Or.inr (Or.inr (Or.inr rfl))) rfl rfl (by decide) hR hr hiz hok hx k
theorem go_ldc {x n : Nat} {a b : Nat} {z : Int} (hc : q_code M pc = some (.ldc x)) (hlk : q_lk (qm_k M) x = some (7, n, a, b)) (hz : (Int32.ofNat n).toInt = z) (k : ∀ v, q_is 0 v z → Go xs d M (pc + 2) L (v :: st) S Q) : Go xs d M pc L st S Q := by
  refine go_read hc ⟨fun _ => rfl, rfl, rfl, fun _ => rfl, fun _ => rfl⟩ rfl (st' := .int (Int32.ofNat n) :: st) ?_ rfl (k _ ⟨_, rfl, hz⟩)
  unfold q_read
  simp only [hlk]
theorem go_ldc_w {x n : Nat} {a b : Nat} {z : Int} (hc : q_code M pc = some (.ldc_w x)) (hlk : q_lk (qm_k M) x = some (7, n, a, b)) (hz : (Int32.ofNat n).toInt = z) (k : ∀ v, q_is 0 v z → Go xs d M (pc + 3) L (v :: st) S Q) : Go xs d M pc L st S Q := by
  refine go_read hc ⟨fun _ => rfl, rfl, rfl, fun _ => rfl, fun _ => rfl⟩ rfl (st' := .int (Int32.ofNat n) :: st) ?_ rfl (k _ ⟨_, rfl, hz⟩)
  unfold q_read
  simp only [hlk]
theorem go_ldc2_w {x n : Nat} {a b : Nat} {z : Int} (hc : q_code M pc = some (.ldc2_w x)) (hlk : q_lk (qm_k M) x = some (8, n, a, b)) (hz : (Int64.ofNat n).toInt = z) (k : ∀ v, q_is 1 v z → Go xs d M (pc + 3) L (v :: st) S Q) : Go xs d M pc L st S Q := by
  refine go_read hc ⟨fun _ => rfl, rfl, rfl, fun _ => rfl, fun _ => rfl⟩ rfl (st' := .long (Int64.ofNat n) :: st) ?_ rfl (k _ ⟨_, rfl, hz⟩)
  unfold q_read
  simp only [hlk]
theorem go_getst {x n : Nat} {a b : Nat} {z : Int} (hc : q_code M pc = some (.getstatic x)) (hlk : q_lk (qm_k M) x = some (9, n, a, b)) (hz : (n : Int) = z) (h0 : 0 < n) (k : ∀ v, q_is 2 v z → Go xs d M (pc + 3) L (v :: st) S Q) : Go xs d M pc L st S Q := by
  refine go_read hc ⟨fun _ => rfl, rfl, rfl, fun _ => rfl, fun _ => rfl⟩ rfl (st' := .ref n :: st) ?_ rfl (k _ (Or.inr ⟨n, rfl, hz, h0⟩))
  unfold q_read
  simp only [hlk]
/-- writes of fields; zt: 0 an int, 1 a boolean (0 or 1), 2 a reference -/
def q_fk (ty : FieldType) : Nat := match ty with
  | .int => 0
  | .boolean => 1
  | .object _ => 2
  | .array _ => 2
  | _ => 9
theorem q_fk_ty {ty : FieldType} {zt : Nat} {v : Value} {z : Int} (hz : q_fk ty = zt) (h9 : zt < 3) (hv : q_is (if zt = 2 then 2 else 0) v z) (hb : zt = 1 → z = 0 ∨ z = 1) : narrow ty v = v ∧ fits ty v = true ∧ q_is (q_tyn ty) v z := by
  have hv0 : zt ≠ 2 → q_is 0 v z := fun h => by rw [if_neg h] at hv; exact hv
  have hv2 : zt = 2 → q_is 2 v z := fun h => by rw [if_pos h] at hv; exact hv
  clear hv
  cases ty with
  | int =>
    obtain ⟨x, rfl, rfl⟩ := hv0 (by rw [← hz]; decide)
    exact ⟨rfl, rfl, x, rfl, rfl⟩
  | boolean =>
    obtain ⟨x, rfl, rfl⟩ := hv0 (by rw [← hz]; decide)
    have hx : x = 0 ∨ x = 1 := by
      rcases hb hz.symm with h | h
      · exact Or.inl (Int32.toInt_inj.mp h)
      · exact Or.inr (Int32.toInt_inj.mp h)
    rcases hx with rfl | rfl
    · exact ⟨rfl, rfl, _, rfl, rfl⟩
    · exact ⟨rfl, rfl, _, rfl, rfl⟩
  | object c =>
    rcases hv2 hz.symm with ⟨rfl, rfl⟩ | ⟨r, rfl, h⟩
    · exact ⟨rfl, rfl, Or.inl ⟨rfl, rfl⟩⟩
    · exact ⟨rfl, rfl, Or.inr ⟨r, rfl, h⟩⟩
  | array c =>
    rcases hv2 hz.symm with ⟨rfl, rfl⟩ | ⟨r, rfl, h⟩
    · exact ⟨rfl, rfl, Or.inl ⟨rfl, rfl⟩⟩
    · exact ⟨rfl, rfl, Or.inr ⟨r, rfl, h⟩⟩
  | _ =>
    exfalso
    have h8 : zt = 9 := hz.symm
    omega
theorem q_fk_ok {ci kf zt : Nat} {v : Value} {z : Int} (h50 : ci < 50) (hz : q_fk (q_fty ci kf) = zt) (h9 : zt < 3) (hv : q_is (if zt = 2 then 2 else 0) v z) (hb : zt = 1 → z = 0 ∨ z = 1) : narrow (q_fty ci kf) v = v ∧ fits (q_fty ci kf) v = true ∧ q_is (q_sty ci kf) v z := by
  unfold q_sty
  rw [if_pos h50]
  exact q_fk_ty hz h9 hv hb
theorem go_putf {x ci kf fin zt : Nat} {vr v : Value} {a z : Int} {m' : MM} (hc : q_code M pc = some (.putfield x)) (hlk : q_lk (qm_k M) x = some (0, ci, kf, fin)) (h50 : ci < 50) (hz : q_fk (q_fty ci kf) = zt) (h9 : zt < 3) (hfin : fin = 0 ∨ (fin = 1 ∧ qm_i M = true)) (hR : Rp S m) (hr : q_is 2 vr a) (hv : q_is (if zt = 2 then 2 else 0) v z) (hb : zt = 1 → z = 0 ∨ z = 1) (hok : okc m a ci) (hm : m' = mset m a (kf : Int) z) (hF : Fix (mset m a (kf : Int) z)) (k : ∀ S', Rp S' m' → Ext m m' → Go xs d M (pc + 3) L st S' Q) : Go xs d M pc L (v :: vr :: st) S Q := by
  subst hm
  obtain ⟨r, rfl, hra⟩ := q_is_ref hr (by omega)
  obtain ⟨k9, c, e1, e2, e6, e3, -, e4⟩ := Rp_at hR hok.1 hok.2.1
  have hk : r = k9 + 4 := by omega
  subst hk
  have hci : c.1 = ci := by have := hok.2.2; omega
  obtain ⟨g1, g2, g3⟩ := q_fk_ok h50 hz h9 hv hb
  have hR2 := Rp_set hR.1 e6 (j := kf) (v := v) (z := z) (by rw [hci]; exact g3)
  rw [← e1] at hR2
  refine go_write hc ⟨fun _ => rfl, rfl, rfl, fun _ => rfl, fun _ => rfl⟩ rfl (q_read_no rfl) (st' := st) (S' := q_put S (k9 + 4) (q_wr c kf v)) ?_ rfl (k _ ⟨hR2, hF⟩ (mset_ext hok.1 (Int.natCast_nonneg kf)))
  unfold q_write
  simp only [hlk, e2]
  rw [if_pos ⟨hci, g1, g2, hfin⟩]
/-- writes of elements -/
theorem q_ast {kd : Nat} {a z y : Int} {r : Nat} {v : Value} (hR : Rp S m) (hra : (r : Int) = a) (hok : okc m a kd) (hx : okx m a z) (h100 : 100 ≤ kd) (hv : q_is (q_sty kd 0) v y) (hF : Fix (mset m a z y)) : ∃ (k9 : Nat) (c : QC), r = k9 + 4 ∧ q_at S (k9 + 4) = some c ∧ c.1 = kd ∧ z < (c.2.1 : Int) ∧ Rp (q_put S (k9 + 4) (q_wr c z.toNat v)) (mset m a z y) ∧ Ext m (mset m a z y) := by
  obtain ⟨k9, c, e1, e2, e6, e3, e5, e4⟩ := Rp_at hR hok.1 hok.2.1
  have hck : c.1 = kd := by have := hok.2.2; omega
  have hsty : q_sty c.1 z.toNat = q_sty kd 0 := by rw [hck]; unfold q_sty; rw [if_neg (by omega), if_neg (by omega)]
  have hR2 := Rp_set hR.1 e6 (j := z.toNat) (v := v) (z := y) (by rw [hsty]; exact hv)
  rw [← e1, Int.toNat_of_nonneg hx.1] at hR2
  exact ⟨k9, c, by omega, e2, hck, by rw [← e5]; exact hx.2, ⟨hR2, hF⟩, mset_ext hok.1 hx.1⟩
theorem go_iast {kd : Nat} {vr vi v : Value} {a z y : Int} {m' : MM} (hc : q_code M pc = some .iastore) (hkd : kd = 100) (hR : Rp S m) (hr : q_is 2 vr a) (hi : q_is 0 vi z) (hv : q_is 0 v y) (hok : okc m a kd) (hx : okx m a z) (hm : m' = mset m a z y) (hF : Fix (mset m a z y)) (k : ∀ S', Rp S' m' → Ext m m' → Go xs d M (pc + 1) L st S' Q) : Go xs d M pc L (v :: vi :: vr :: st) S Q := by
  subst hm hkd
  obtain ⟨r, rfl, hra⟩ := q_is_ref hr (by omega)
  obtain ⟨k9, c, rfl, e2, e3, e4, e5, e6⟩ := q_ast hR hra hok hx (by decide) hv hF
  obtain ⟨x, rfl, rfl⟩ := hi
  obtain ⟨y1, rfl, rfl⟩ := hv
  refine go_write hc ⟨fun _ => rfl, rfl, rfl, fun _ => rfl, fun _ => rfl⟩ rfl (q_read_no rfl) (st' := st) (S' := q_put S (k9 + 4) (q_wr c x.toInt.toNat (.int y1))) ?_ rfl (k _ e5 e6)
  unfold q_write
  simp only [e2]
  rw [if_pos e3, q_idx_of hx.1 e4]
  rfl
theorem go_last {kd : Nat} {vr vi v : Value} {a z y : Int} {m' : MM} (hc : q_code M pc = some .lastore) (hkd : kd = 101) (hR : Rp S m) (hr : q_is 2 vr a) (hi : q_is 0 vi z) (hv : q_is 1 v y) (hok : okc m a kd) (hx : okx m a z) (hm : m' = mset m a z y) (hF : Fix (mset m a z y)) (k : ∀ S', Rp S' m' → Ext m m' → Go xs d M (pc + 1) L st S' Q) : Go xs d M pc L (v :: vi :: vr :: st) S Q := by
  subst hm hkd
  obtain ⟨r, rfl, hra⟩ := q_is_ref hr (by omega)
  obtain ⟨k9, c, rfl, e2, e3, e4, e5, e6⟩ := q_ast hR hra hok hx (by decide) hv hF
  obtain ⟨x, rfl, rfl⟩ := hi
  obtain ⟨y1, rfl, rfl⟩ := hv
  refine go_write hc ⟨fun _ => rfl, rfl, rfl, fun _ => rfl, fun _ => rfl⟩ rfl (q_read_no rfl) (st' := st) (S' := q_put S (k9 + 4) (q_wr c x.toInt.toNat (.long y1))) ?_ rfl (k _ e5 e6)
  unfold q_write
  simp only [e2]
  rw [if_pos e3, q_idx_of hx.1 e4]
  rfl
theorem go_bast {kd : Nat} {vr vi v : Value} {a z y : Int} {m' : MM} (hc : q_code M pc = some .bastore) (hkd : kd = 102) (hR : Rp S m) (hr : q_is 2 vr a) (hi : q_is 0 vi z) (hv : q_is 0 v y) (hb : y = 0 ∨ y = 1) (hok : okc m a kd) (hx : okx m a z) (hm : m' = mset m a z y) (hF : Fix (mset m a z y)) (k : ∀ S', Rp S' m' → Ext m m' → Go xs d M (pc + 1) L st S' Q) : Go xs d M pc L (v :: vi :: vr :: st) S Q := by
  subst hm hkd
  obtain ⟨r, rfl, hra⟩ := q_is_ref hr (by omega)
  obtain ⟨k9, c, rfl, e2, e3, e4, e5, e6⟩ := q_ast hR hra hok hx (by decide) hv hF
  obtain ⟨x, rfl, rfl⟩ := hi
  obtain ⟨y1, rfl, rfl⟩ := hv
  have hy : narrow .boolean (.int y1) = .int y1 := by
    have h : y1 = 0 ∨ y1 = 1 := hb.imp Int32.toInt_inj.mp Int32.toInt_inj.mp
    rcases h with rfl | rfl <;> rfl
  refine go_write hc ⟨fun _ => rfl, rfl, rfl, fun _ => rfl, fun _ => rfl⟩ rfl (q_read_no rfl) (st' := st) (S' := q_put S (k9 + 4) (q_wr c x.toInt.toNat (.int y1))) ?_ rfl (k _ e5 e6)
  unfold q_write
  simp only [e2]
  rw [if_pos e3, q_idx_of hx.1 e4, hy]
  rfl
end GM
