/-! A SYMBOLIC RUN of the pure interpreter: a float stands for an int that the script gives, a double for a long of one. Steps that look at no such value. -/
section SY
/-- what a number of a float stands for: up to 7 the script's ints (7: the first of them, its last six bits), then sums that line() makes -/
def sy_ev (r : Nat → Int32) (k : Nat) : Int32 := if k < 8 then r k else if k = 8 then r 3 * 1000 else if k < 33 then Int32.ofNat ((k - 9) * 1000000) + r 3 * 1000 else Int32.ofNat ((k - 33) * 1000000) + r 3 * 1000 + r 4
def sy_g (r : Nat → Int32) (v : Value) : Value := match v with
  | .float b => .int (sy_ev r b.toNat)
  | .double b => .long (sy_ev r b.toNat).toInt64
  | v => v
def sy_c (r : Nat → Int32) (c : QC) : QC := (c.1, c.2.1, c.2.2.map (fun q => (q.1, sy_g r q.2)))
def sy_S (r : Nat → Int32) (S : QS) : QS := (S.1.map (sy_c r), S.2)
def sy_L (r : Nat → Int32) (L : QL) : QL := L.map (fun q => (q.1, sy_g r q.2))
def sy_O (r : Nat → Int32) (o : QO) : QO := match o with
  | .inl v => .inl (v.map (sy_g r))
  | .inr e => .inr e
/-- the kinds of instructions -/
def sy_k (i : Instr) : Nat := match i with
  | .iload _ => 2
  | .iload_n _ => 2
  | .lload _ => 2
  | .lload_n _ => 2
  | .aload _ => 2
  | .aload_n _ => 2
  | .istore _ => 3
  | .istore_n _ => 3
  | .lstore _ => 3
  | .lstore_n _ => 3
  | .astore _ => 3
  | .astore_n _ => 3
  | .goto _ => 4
  | .ifCond _ _ => 4
  | .if_icmp _ _ => 4
  | .ifnull _ => 4
  | .ifnonnull _ => 4
  | .if_acmp _ _ => 4
  | .tableswitch _ _ _ _ => 4
  | .iinc _ _ => 5
  | .invokespecial _ => 6
  | .getfield _ => 7
  | .arraylength => 7
  | .ldc _ => 7
  | .ldc_w _ => 7
  | .ldc2_w _ => 7
  | .getstatic _ => 7
  | .iaload => 7
  | .laload => 7
  | .baload => 7
  | .aaload => 7
  | .putfield _ => 8
  | .iastore => 8
  | .lastore => 8
  | .bastore => 8
  | .aastore => 8
  | .new _ => 8
  | .newarray _ => 8
  | .anewarray _ => 8
  | .invokevirtual _ => 9
  | .invokestatic _ => 9
  | .return_ => 10
  | .ireturn => 10
  | .lreturn => 10
  | .areturn => 10
  | _ => 1
theorem sy_cat (r : Nat → Int32) (v : Value) : (sy_g r v).category = v.category := by cases v <;> rfl
theorem sy_sum (r : Nat → Int32) (st : List Value) : ((st.map (sy_g r)).map fun v => v.category).sum = (st.map fun v => v.category).sum := by
  rw [List.map_map]
  congr 1
  exact List.map_congr_left fun v _ => sy_cat r v
theorem sy_s1 (r : Nat → Int32) (L : QL) (i : Nat) (v : Value) : sy_L r (q_s1 L i v) = q_s1 (sy_L r L) i (sy_g r v) := by
  simp only [q_s1, sy_L, List.map_cons, List.filter_map, Function.comp_def, sy_cat]
theorem sy_s2 (r : Nat → Int32) (L : QL) (i : Nat) (v : Value) : sy_L r (q_s2 L i v) = q_s2 (sy_L r L) i (sy_g r v) := by
  simp only [q_s2, sy_L, List.map_cons, List.filter_map, Function.comp_def, sy_cat]
theorem sy_rm (r : Nat → Int32) (L : QL) (i : Nat) : sy_L r (q_rm L i) = q_rm (sy_L r L) i := by
  simp only [q_rm, sy_L, List.filter_map, Function.comp_def, sy_cat]
theorem sy_lo (r : Nat → Int32) (L : QL) (i : Nat) : q_lo (sy_L r L) i = (q_lo L i).map (sy_g r) := by
  simp only [q_lo, sy_L, List.find?_map, Option.map_map, Function.comp_def]
theorem sy_dv_tyJx4a65c (r : Nat → Int32) (k : Nat) : sy_g r (defaultValue (tyJx4a65c k)) = defaultValue (tyJx4a65c k) := by
  unfold tyJx4a65c
  split <;> rfl
theorem sy_dv_tyX0 (r : Nat → Int32) (k : Nat) : sy_g r (defaultValue (tyX0 k)) = defaultValue (tyX0 k) := by
  unfold tyX0
  split <;> rfl
theorem sy_dv_tyX1 (r : Nat → Int32) (k : Nat) : sy_g r (defaultValue (tyX1 k)) = defaultValue (tyX1 k) := by
  unfold tyX1
  split <;> rfl
theorem sy_dv_tyX2 (r : Nat → Int32) (k : Nat) : sy_g r (defaultValue (tyX2 k)) = defaultValue (tyX2 k) := by
  unfold tyX2
  split <;> rfl
theorem sy_dv_tyX3 (r : Nat → Int32) (k : Nat) : sy_g r (defaultValue (tyX3 k)) = defaultValue (tyX3 k) := by
  unfold tyX3
  split <;> rfl
theorem sy_dv_tyX4 (r : Nat → Int32) (k : Nat) : sy_g r (defaultValue (tyX4 k)) = defaultValue (tyX4 k) := by
  unfold tyX4
  split <;> rfl
theorem sy_dv_tyX5 (r : Nat → Int32) (k : Nat) : sy_g r (defaultValue (tyX5 k)) = defaultValue (tyX5 k) := by
  unfold tyX5
  split <;> rfl
theorem sy_dv_tyX6 (r : Nat → Int32) (k : Nat) : sy_g r (defaultValue (tyX6 k)) = defaultValue (tyX6 k) := by
  unfold tyX6
  split <;> rfl
theorem sy_dv_tyX7 (r : Nat → Int32) (k : Nat) : sy_g r (defaultValue (tyX7 k)) = defaultValue (tyX7 k) := by
  unfold tyX7
  split <;> rfl
theorem sy_dv_tyX8 (r : Nat → Int32) (k : Nat) : sy_g r (defaultValue (tyX8 k)) = defaultValue (tyX8 k) := by
  unfold tyX8
  split <;> rfl
theorem sy_dv_tyX9 (r : Nat → Int32) (k : Nat) : sy_g r (defaultValue (tyX9 k)) = defaultValue (tyX9 k) := by
  unfold tyX9
  split <;> rfl
theorem sy_dv_tyX10 (r : Nat → Int32) (k : Nat) : sy_g r (defaultValue (tyX10 k)) = defaultValue (tyX10 k) := by
  unfold tyX10
  split <;> rfl
theorem sy_dv_tyX11 (r : Nat → Int32) (k : Nat) : sy_g r (defaultValue (tyX11 k)) = defaultValue (tyX11 k) := by
  unfold tyX11
  split <;> rfl
theorem sy_dv_tyX12 (r : Nat → Int32) (k : Nat) : sy_g r (defaultValue (tyX12 k)) = defaultValue (tyX12 k) := by
  unfold tyX12
  split <;> rfl
theorem sy_dv (r : Nat → Int32) (kd i : Nat) : sy_g r (q_dv kd i) = q_dv kd i := by
  unfold q_dv
  split
  · unfold q_fty
    split
    · exact sy_dv_tyJx4a65c r i
    · exact sy_dv_tyX0 r i
    · exact sy_dv_tyX1 r i
    · exact sy_dv_tyX2 r i
    · exact sy_dv_tyX3 r i
    · exact sy_dv_tyX4 r i
    · exact sy_dv_tyX5 r i
    · exact sy_dv_tyX6 r i
    · exact sy_dv_tyX7 r i
    · exact sy_dv_tyX8 r i
    · exact sy_dv_tyX9 r i
    · exact sy_dv_tyX10 r i
    · exact sy_dv_tyX11 r i
    · exact sy_dv_tyX12 r i
  · unfold q_ty
    repeat' split
    all_goals rfl
theorem sy_rd (r : Nat → Int32) (c : QC) (i : Nat) : q_rd (sy_c r c) i = sy_g r (q_rd c i) := by
  have h : (sy_c r c).2.2.find? (fun q => q.1 == i) = (c.2.2.find? (fun q => q.1 == i)).map (fun q => (q.1, sy_g r q.2)) := by
    simp only [sy_c, List.find?_map, Function.comp_def]
  unfold q_rd
  rw [h]
  cases c.2.2.find? (fun q => q.1 == i) with
  | none => exact (sy_dv r _ _).symm
  | some q => rfl
theorem sy_wr (r : Nat → Int32) (c : QC) (i : Nat) (v : Value) : sy_c r (q_wr c i v) = q_wr (sy_c r c) i (sy_g r v) := by
  simp only [sy_c, q_wr, List.map_cons, List.filter_map, Function.comp_def]
theorem sy_at (r : Nat → Int32) (S : QS) (a : Nat) : q_at (sy_S r S) a = (q_at S a).map (sy_c r) := by
  unfold q_at
  split
  · rfl
  · simp only [sy_S, List.getElem?_map]
theorem sy_put (r : Nat → Int32) (S : QS) (a : Nat) (c : QC) : sy_S r (q_put S a c) = q_put (sy_S r S) a (sy_c r c) := by
  simp only [sy_S, q_put, List.map_set]
theorem sy_new (r : Nat → Int32) (S : QS) (c : QC) : sy_S r (q_new S c) = q_new (sy_S r S) (sy_c r c) := by
  simp only [sy_S, q_new, List.map_append, List.map_cons, List.map_nil, sy_c]
theorem sy_len (r : Nat → Int32) (S : QS) : (sy_S r S).1.length = S.1.length := List.length_map ..
theorem sy_k_simple {i : Instr} {st : List Value} {x : List Value} (h : q_simple i st = some x) : sy_k i = 1 := by
  unfold q_simple at h
  split at h
  all_goals first
    | rfl
    | cases h
theorem sy_k_br {i : Instr} {st : List Value} {x : Bool × Int × List Value} (h : q_br i st = some x) : sy_k i = 4 := by
  unfold q_br at h
  split at h
  all_goals first
    | rfl
    | cases h
theorem sy_k_ldi {i : Instr} {x : Nat × Nat} (h : q_ldi i = some x) : sy_k i = 2 := by
  unfold q_ldi at h
  split at h
  all_goals first
    | rfl
    | cases h
theorem sy_k_sti {i : Instr} {x : Nat × Nat} (h : q_sti i = some x) : sy_k i = 3 := by
  unfold q_sti at h
  split at h
  all_goals first
    | rfl
    | cases h
theorem sy_k_inc {M : QM} {i : Instr} {L x : QL} (h : q_inc M i L = some x) : sy_k i = 5 := by
  unfold q_inc at h
  split at h
  · rfl
  · cases h
theorem sy_k_oi {M : QM} {i : Instr} {st x : List Value} (h : q_oi M i st = some x) : sy_k i = 6 := by
  unfold q_oi at h
  split at h
  · rfl
  · cases h
theorem sy_k_read {M : QM} {i : Instr} {st x : List Value} {S : QS} (h : q_read M i st S = some x) : sy_k i = 7 := by
  unfold q_read at h
  split at h
  all_goals first
    | rfl
    | skip
  split at h
  · split at h
    · split at h
      · rename_i hk
        simp only [Bool.and_eq_true, Bool.or_eq_true, decide_eq_true_eq] at hk
        obtain ⟨-, rfl | rfl | rfl⟩ := hk <;> rfl
      · cases h
    · cases h
  · cases h
theorem sy_k_write {M : QM} {i : Instr} {st : List Value} {S : QS} {x : List Value × QS} (h : q_write M i st S = some x) : sy_k i = 8 := by
  unfold q_write at h
  split at h
  all_goals first
    | rfl
    | cases h
section SZ
variable (r : Nat → Int32) {M : QM} {xs : Option (List Int32)} {i : Instr} {st st' : List Value} {S S' : QS} {L L' : QL} {pc : Nat}
set_option maxHeartbeats 2000000 in
theorem sy_simple (h : q_simple i st = some st') : q_simple i (st.map (sy_g r)) = some (st'.map (sy_g r)) := by
  unfold q_simple at h
  split at h
  · cases h; rfl
  · cases h; rfl
  · cases h; rfl
  · cases h; rfl
  · cases h; rfl
  · obtain ⟨x, y, rr, rfl, rfl⟩ := q_ii_s h; rfl
  · obtain ⟨x, y, rr, rfl, rfl⟩ := q_ii_s h; rfl
  · obtain ⟨x, y, rr, rfl, rfl⟩ := q_ii_s h; rfl
  · obtain ⟨x, y, rr, rfl, rfl⟩ := q_ii_s h; rfl
  · obtain ⟨x, y, rr, rfl, rfl⟩ := q_ii_s h; rfl
  · obtain ⟨x, y, rr, rfl, rfl⟩ := q_ii_s h; rfl
  · obtain ⟨x, y, rr, rfl, rfl⟩ := q_ii_s h; rfl
  · obtain ⟨x, y, rr, rfl, rfl⟩ := q_ii_s h; rfl
  · obtain ⟨x, y, rr, rfl, rfl, hy⟩ := q_iz_s h; simp only [List.map_cons, sy_g, q_simple, q_iz, if_neg hy]
  · obtain ⟨x, y, rr, rfl, rfl, hy⟩ := q_iz_s h; simp only [List.map_cons, sy_g, q_simple, q_iz, if_neg hy]
  · obtain ⟨x, rr, rfl, rfl⟩ := q_i1_s h; rfl
  · obtain ⟨x, rr, rfl, rfl⟩ := q_l1_s h; rfl
  · obtain ⟨x, y, rr, rfl, rfl⟩ := q_ll_s h; rfl
  · obtain ⟨x, y, rr, rfl, rfl⟩ := q_ll_s h; rfl
  · obtain ⟨x, y, rr, rfl, rfl⟩ := q_ll_s h; rfl
  · obtain ⟨x, y, rr, rfl, rfl⟩ := q_ll_s h; rfl
  · obtain ⟨x, y, rr, rfl, rfl, hy⟩ := q_lz_s h; simp only [List.map_cons, sy_g, q_simple, q_lz, if_neg hy]
  · obtain ⟨x, y, rr, rfl, rfl, hy⟩ := q_lz_s h; simp only [List.map_cons, sy_g, q_simple, q_lz, if_neg hy]
  · obtain ⟨x, y, rr, rfl, rfl⟩ := q_li_s h; rfl
  · obtain ⟨x, y, rr, rfl, rfl⟩ := q_li_s h; rfl
  · obtain ⟨x, y, rr, rfl, rfl⟩ := q_li_s h; rfl
  · obtain ⟨x, y, rr, rfl, rfl⟩ := q_ll_s h; rfl
  · obtain ⟨v, rr, rfl, rfl, hv⟩ := q_v1_s h; simp only [List.map_cons, q_simple, q_v1, sy_cat, if_pos hv]
  · obtain ⟨v, rr, rfl, rfl, hv⟩ := q_v1_s h; simp only [List.map_cons, q_simple, q_v1, sy_cat, if_pos hv]
  · obtain ⟨v, w, rr, rfl, rfl, hv, hw⟩ := q_v2_s h; simp only [List.map_cons, q_simple, q_v2, sy_cat, if_pos (And.intro hv hw)]
  · obtain ⟨v, w, rr, rfl, rfl, hv, hw⟩ := q_v2_s h; simp only [List.map_cons, q_simple, q_v2, sy_cat, if_pos (And.intro hv hw)]
  · cases h
theorem sy_tag {v : Value} {t : Nat} (h : q_tag v = t) (ht : t < 9) : sy_g r v = v := by
  cases v <;> first | rfl | (simp only [q_tag] at h; omega)
theorem sy_ldt {t n : Nat} (h : q_ldi i = some (t, n)) : t < 9 := by
  unfold q_ldi at h
  split at h
  all_goals first
    | (cases h; decide)
    | cases h
theorem sy_stt {t n : Nat} (h : q_sti i = some (t, n)) : t < 9 := by
  unfold q_sti at h
  split at h
  all_goals first
    | (cases h; decide)
    | cases h
set_option maxHeartbeats 2000000 in
theorem sy_br {b : Bool} {o : Int} (h : q_br i st = some (b, o, st')) : q_br i (st.map (sy_g r)) = some (b, o, st'.map (sy_g r)) := by
  unfold q_br at h
  split at h
  · cases h; rfl
  · split at h
    · cases h; rfl
    · cases h
  · split at h
    · cases h; rfl
    · cases h
  · split at h
    · cases h; rfl
    · cases h; rfl
    · cases h
  · split at h
    · cases h; rfl
    · cases h; rfl
    · cases h
  · split at h
    · rename_i c o9 st9 w v rr
      obtain ⟨b9, h1, h2⟩ := Option.map_eq_some_iff.mp h
      cases h2
      have hv : sy_g r v = v ∧ sy_g r w = w := by
        unfold q_same at h1
        split at h1
        all_goals first
          | exact ⟨rfl, rfl⟩
          | cases h1
      simp only [List.map_cons, q_br, hv.1, hv.2, h1, Option.map_some]
    · cases h
  · split at h
    · rename_i x rr
      split at h
      · rename_i hx
        cases h
        simp only [List.map_cons, sy_g, q_br, if_pos hx]
      · rename_i hx
        obtain ⟨o9, h1, h2⟩ := Option.map_eq_some_iff.mp h
        cases h2
        simp only [List.map_cons, sy_g, q_br, if_neg hx, h1, Option.map_some]
    · cases h
  · cases h
theorem sy_inc (h : q_inc M i L = some L') : q_inc M i (sy_L r L) = some (sy_L r L') := by
  unfold q_inc at h
  split at h
  · rename_i n k
    split at h
    · rename_i x hx
      split at h
      · rename_i hn
        cases h
        simp only [q_inc, sy_lo, hx, Option.map_some, sy_g, if_pos hn, sy_s1]
      · cases h
    · cases h
  · cases h
theorem sy_oi (h : q_oi M i st = some st') : q_oi M i (st.map (sy_g r)) = some (st'.map (sy_g r)) := by
  unfold q_oi at h
  split at h
  · rename_i x
    split at h
    · rename_i hlk
      split at h
      · rename_i hs
        cases h
        simp only [q_oi, hlk, List.map_cons, sy_g, sy_sum, if_pos hs]
      · cases h
    · cases h
  · cases h
set_option maxHeartbeats 4000000 in
theorem sy_read (h : q_read M i st S = some st') : q_read M i (st.map (sy_g r)) (sy_S r S) = some (st'.map (sy_g r)) := by
  unfold q_read at h
  split at h
  · split at h
    · rename_i x ci kf fin a rest hlk
      split at h
      · rename_i cc hc
        split at h
        · rename_i hci
          cases h
          simp only [q_read, hlk, List.map_cons, sy_g, sy_at, hc, Option.map_some, sy_rd, show (sy_c r cc).1 = cc.1 from rfl, if_pos hci]
        · cases h
      · cases h
    · cases h
  · split at h
    · cases h; rfl
    · cases h; rfl
    · cases h; rfl
    · rename_i a rest h1 h2 h3
      split at h
      · rename_i cc hc
        split at h
        · rename_i hci
          cases h
          simp only [q_read, List.map_cons, sy_g, sy_at, hc, Option.map_some, show (sy_c r cc).1 = cc.1 from rfl, show (sy_c r cc).2.1 = cc.2.1 from rfl, if_pos hci]
        · cases h
      · cases h
    · cases h
  · split at h
    · rename_i hlk
      cases h
      simp only [q_read, hlk, List.map_cons, sy_g]
    · cases h
  · split at h
    · rename_i hlk
      cases h
      simp only [q_read, hlk, List.map_cons, sy_g]
    · cases h
  · split at h
    · rename_i hlk
      cases h
      simp only [q_read, hlk, List.map_cons, sy_g]
    · cases h
  · split at h
    · rename_i hlk
      cases h
      simp only [q_read, hlk, List.map_cons, sy_g]
    · cases h
  · split at h
    · obtain ⟨j, h1, h2⟩ := Option.map_eq_some_iff.mp h
      cases h2
      simp only [q_read, List.map_cons, sy_g, h1, Option.map_some]
    · obtain ⟨j, h1, h2⟩ := Option.map_eq_some_iff.mp h
      cases h2
      simp only [q_read, List.map_cons, sy_g, h1, Option.map_some]
    · split at h
      · rename_i cc hc
        split at h
        · rename_i hci
          obtain ⟨j, h1, h2⟩ := Option.map_eq_some_iff.mp h
          cases h2
          simp only [q_read, List.map_cons, sy_g, sy_at, hc, Option.map_some, show (sy_c r cc).1 = cc.1 from rfl, show (sy_c r cc).2.1 = cc.2.1 from rfl, if_pos hci, h1, sy_rd]
        · cases h
      · cases h
    · cases h
  · split at h
    · split at h
      · rename_i cc hc
        split at h
        · rename_i hci
          obtain ⟨j, h1, h2⟩ := Option.map_eq_some_iff.mp h
          cases h2
          simp only [Bool.and_eq_true, Bool.or_eq_true, decide_eq_true_eq] at hci
          obtain ⟨hk, rfl | rfl | rfl⟩ := hci <;> simp [q_read, sy_g, sy_at, hc, show (sy_c r cc).1 = cc.1 from rfl, show (sy_c r cc).2.1 = cc.2.1 from rfl, hk, h1, sy_rd]
        · cases h
      · cases h
    · cases h
/-- what q_step may not be asked: a field's write of such a value -/
def sy_bad (i : Instr) (st : List Value) : Bool := match i, st with
  | .putfield _, .float _ :: _ => true
  | .putfield _, .double _ :: _ => true
  | _, _ => false
set_option maxHeartbeats 4000000 in
theorem sy_write (hb : sy_bad i st = false) (h : q_write M i st S = some (st', S')) : q_write M i (st.map (sy_g r)) (sy_S r S) = some (st'.map (sy_g r), sy_S r S') := by
  unfold q_write at h
  split at h
  · split at h
    · rename_i x ci kf fin v a rest hlk
      split at h
      · rename_i cc hc
        split at h
        · rename_i hci
          cases h
          have hv : sy_g r v = v := by
            cases v <;> first | rfl | (simp only [sy_bad] at hb; cases hb)
          simp only [q_write, hlk, List.map_cons, hv, show sy_g r (.ref a) = .ref a from rfl, sy_at, hc, Option.map_some, show (sy_c r cc).1 = cc.1 from rfl, if_pos hci, sy_put, sy_wr]
        · cases h
      · cases h
    · cases h
  · split at h
    · split at h
      · rename_i cc hc
        split at h
        · rename_i hci
          obtain ⟨j, h1, h2⟩ := Option.map_eq_some_iff.mp h
          cases h2
          simp only [q_write, List.map_cons, sy_g, sy_at, hc, Option.map_some, show (sy_c r cc).1 = cc.1 from rfl, show (sy_c r cc).2.1 = cc.2.1 from rfl, if_pos hci, h1, sy_put, sy_wr]
        · cases h
      · cases h
    · cases h
  · split at h
    · split at h
      · rename_i cc hc
        split at h
        · rename_i hci
          obtain ⟨j, h1, h2⟩ := Option.map_eq_some_iff.mp h
          cases h2
          simp only [q_write, List.map_cons, sy_g, sy_at, hc, Option.map_some, show (sy_c r cc).1 = cc.1 from rfl, show (sy_c r cc).2.1 = cc.2.1 from rfl, if_pos hci, h1, sy_put, sy_wr]
        · cases h
      · cases h
    · cases h
  · split at h
    · split at h
      · rename_i cc hc
        split at h
        · rename_i hci
          obtain ⟨j, h1, h2⟩ := Option.map_eq_some_iff.mp h
          cases h2
          simp only [q_write, List.map_cons, sy_g, sy_at, hc, Option.map_some, show (sy_c r cc).1 = cc.1 from rfl, show (sy_c r cc).2.1 = cc.2.1 from rfl, if_pos hci, h1, sy_put, sy_wr]
          rfl
        · cases h
      · cases h
    · cases h
  · split at h
    · split at h
      · rename_i cc dd hc hd
        split at h
        · rename_i hci
          obtain ⟨j, h1, h2⟩ := Option.map_eq_some_iff.mp h
          cases h2
          simp only [q_write, List.map_cons, sy_g, sy_at, hc, hd, Option.map_some, show ∀ c9, (sy_c r c9).1 = c9.1 from fun _ => rfl, show (sy_c r cc).2.1 = cc.2.1 from rfl, if_pos hci, h1, sy_put, sy_wr]
        · cases h
      · cases h
    · cases h
  · split at h
    · rename_i hlk
      cases h
      simp only [q_write, hlk, List.map_cons, sy_g, sy_len, sy_new]
      rfl
    · cases h
  · split at h
    · split at h
      · cases h
      · rename_i hn
        split at h
        · cases h
          simp only [q_write, List.map_cons, sy_g, if_neg hn, sy_len, sy_new]
          rfl
        · cases h
          simp only [q_write, List.map_cons, sy_g, if_neg hn, sy_len, sy_new]
          rfl
        · cases h
          simp only [q_write, List.map_cons, sy_g, if_neg hn, sy_len, sy_new]
          rfl
        · cases h
    · cases h
  · split at h
    · rename_i hlk
      split at h
      · cases h
      · rename_i hn
        cases h
        simp only [q_write, hlk, List.map_cons, sy_g, if_neg hn, sy_len, sy_new]
        rfl
    · cases h
  · cases h
theorem sy_nx {α : Type} {f : Option α} {k n m : Nat} (hk : k = n) (h : ∀ x, f = some x → k = m) (hne : n ≠ m) : f = none := by
  cases hf : f with
  | none => rfl
  | some x => exact absurd (hk.symm.trans (h x hf)) hne
set_option maxHeartbeats 2000000 in
/-- a step that looks at no value of the script -/
theorem sy_step {pc' : Nat} (hb : sy_bad i st = false) (h : q_step M none pc i L st S = some (pc', L', st', S')) : q_step M xs pc i (sy_L r L) (st.map (sy_g r)) (sy_S r S) = some (pc', sy_L r L', st'.map (sy_g r), sy_S r S') := by
  unfold q_step at h
  split at h
  · rename_i x h1
    cases h
    unfold q_step
    rw [sy_simple r h1]
  · split at h
    · rename_i t n h2
      split at h
      · rename_i v hv
        split at h
        · rename_i ht
          cases h
          have hk := sy_k_ldi h2
          unfold q_step
          rw [sy_nx hk (fun x hx => sy_k_simple hx) (by decide), h2]
          simp only [sy_lo, hv, Option.map_some, sy_tag r ht (sy_ldt h2), if_pos ht, List.map_cons]
        · cases h
      · cases h
    · split at h
      · rename_i t n h3
        split at h
        · rename_i v rest hx9
          by_cases hc : q_tag v = t ∧ n + 1 < qm_l M + (if t = 1 then 0 else 1)
          · rw [if_pos hc] at h
            cases h
            have hk := sy_k_sti h3
            have hg := sy_tag r hc.1 (sy_stt h3)
            unfold q_step
            rw [sy_nx hk (fun x hx => sy_k_simple hx) (by decide), sy_nx hk (fun x hx => sy_k_ldi hx) (by decide), h3]
            simp only [List.map_cons, hg]
            rw [if_pos hc]
            by_cases ht : t = 1
            · rw [if_pos ht, if_pos ht, sy_s2, hg]
            · rw [if_neg ht, if_neg ht, sy_s1, hg]
          · rw [if_neg hc] at h
            cases h
        · cases h
      · split at h
        · rename_i b o rest h4
          obtain ⟨t, h5, h6⟩ := Option.map_eq_some_iff.mp h
          cases h6
          have hk := sy_k_br h4
          unfold q_step
          rw [sy_nx hk (fun x hx => sy_k_simple hx) (by decide), sy_nx hk (fun x hx => sy_k_ldi hx) (by decide), sy_nx hk (fun x hx => sy_k_sti hx) (by decide), sy_br r h4]
          simp only [h5, Option.map_some]
        · split at h
          · rename_i L9 h5
            cases h
            have hk := sy_k_inc h5
            unfold q_step
            rw [sy_nx hk (fun x hx => sy_k_simple hx) (by decide), sy_nx hk (fun x hx => sy_k_ldi hx) (by decide), sy_nx hk (fun x hx => sy_k_sti hx) (by decide), sy_nx hk (fun x hx => sy_k_br hx) (by decide), sy_inc r h5]
          · split at h
            · rename_i st9 h6
              cases h
              have hk := sy_k_oi h6
              unfold q_step
              rw [sy_nx hk (fun x hx => sy_k_simple hx) (by decide), sy_nx hk (fun x hx => sy_k_ldi hx) (by decide), sy_nx hk (fun x hx => sy_k_sti hx) (by decide), sy_nx hk (fun x hx => sy_k_br hx) (by decide), sy_nx hk (fun x hx => sy_k_inc hx) (by decide), sy_oi r h6]
            · split at h
              · rename_i st9 h7
                cases h
                have hk := sy_k_read h7
                unfold q_step
                rw [sy_nx hk (fun x hx => sy_k_simple hx) (by decide), sy_nx hk (fun x hx => sy_k_ldi hx) (by decide), sy_nx hk (fun x hx => sy_k_sti hx) (by decide), sy_nx hk (fun x hx => sy_k_br hx) (by decide), sy_nx hk (fun x hx => sy_k_inc hx) (by decide), sy_nx hk (fun x hx => sy_k_oi hx) (by decide), sy_read r h7]
              · split at h
                · rename_i q h8
                  cases h
                  have hk := sy_k_write h8
                  unfold q_step
                  rw [sy_nx hk (fun x hx => sy_k_simple hx) (by decide), sy_nx hk (fun x hx => sy_k_ldi hx) (by decide), sy_nx hk (fun x hx => sy_k_sti hx) (by decide), sy_nx hk (fun x hx => sy_k_br hx) (by decide), sy_nx hk (fun x hx => sy_k_inc hx) (by decide), sy_nx hk (fun x hx => sy_k_oi hx) (by decide), sy_nx hk (fun x hx => sy_k_read hx) (by decide), sy_write r hb h8]
                · simp only [q_script, Option.map_none] at h
                  cases h
end SZ
end SY
