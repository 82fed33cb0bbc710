/-! A SYMBOLIC RUN, II: steps that look at the script's values, runs, and that they are right. -/
section SR
/-- what is known of the inputs: from, below (both moved by 2^31) -/
abbrev SP : Type := List (Nat × Nat)
def sy_o (x : Int32) : Nat := (x.toInt + 2147483648).toNat
def sy_sat (r : Nat → Int32) (PC : SP) : Prop := ∀ k q, PC[k]? = some q → q.1 ≤ sy_o (r k) ∧ sy_o (r k) < q.2
/-- what is asked of the inputs and the script -/
def sy_in (r : Nat → Int32) (xs : List Int32) : Prop := r 7 = r 0 &&& 63 ∧ ∀ j, j < 7 → xs.getD j 0 = r j
def sy_mil (x : Int32) : Option Nat := (List.range 24).find? (fun j => x == Int32.ofNat (j * 1000000))
/-- a step of one way: the stack and the store behind -/
def sy_st (M : QM) (len : Nat) (i : Instr) (st : List Value) (S : QS) : Option (List Value × QS) := match i with
  | .iand => (match st with
    | .int y :: .float a :: rest => if y = 63 ∧ a = 0 then some (.float 7 :: rest, S) else none
    | _ => none)
  | .imul => (match st with
    | .int y :: .float a :: rest => if y = 1000 ∧ a = 3 then some (.float 8 :: rest, S) else none
    | _ => none)
  | .iadd => (match st with
    | .int y :: .float a :: rest => if y = 0 then some (.float a :: rest, S) else none
    | .float a :: .int x :: rest => if a = 8 then (sy_mil x).map (fun j => (.float (UInt32.ofNat (9 + j)) :: rest, S)) else if x = 0 then some (.float a :: rest, S) else none
    | .float b :: .float a :: rest => if b = 4 ∧ 9 ≤ a.toNat ∧ a.toNat < 33 then some (.float (UInt32.ofNat (a.toNat + 24)) :: rest, S) else none
    | _ => none)
  | .i2l => (match st with
    | .float a :: rest => some (.double (UInt64.ofNat a.toNat) :: rest, S)
    | _ => none)
  | .lcmp => (match st with
    | .double b :: .double a :: rest => if a = b then some (.int 0 :: rest, S) else none
    | _ => none)
  | .lastore => (match st with
    | .double v :: .int j :: .ref a :: rest => (match q_at S a with
      | some c => if c.1 = 101 then (q_idx j c.2.1).map (fun j => (rest, q_put S a (q_wr c j (.double v)))) else none
      | none => none)
    | _ => none)
  | .iastore => (match st with
    | .float v :: .int j :: .ref a :: rest => (match q_at S a with
      | some c => if c.1 = 100 then (q_idx j c.2.1).map (fun j => (rest, q_put S a (q_wr c j (.float v)))) else none
      | none => none)
    | _ => none)
  | .putfield x => (match q_lk (qm_k M) x, st with
    | some (0, ci, k, fin), .float v :: .ref a :: rest => (match q_at S a with
      | some c => if c.1 = ci ∧ q_fty ci k = .int ∧ (fin = 0 ∨ (fin = 1 ∧ (qm_i M) = true)) then some (rest, q_put S a (q_wr c k (.float v))) else none
      | none => none)
    | _, _ => none)
  | .arraylength => (match st with
    | .ref 0 :: rest => some (.int (Int32.ofNat len) :: rest, S)
    | _ => none)
  | .iaload => (match st with
    | .int j :: .ref 0 :: rest => (match q_idx j len with
      | some j => if j < 7 then some (.float (UInt32.ofNat j) :: rest, S) else none
      | none => none)
    | _ => none)
  | _ => none
def sy_one (M : QM) (len pc : Nat) (i : Instr) (L : QL) (st : List Value) (S : QS) : Option (Nat × QL × List Value × QS) :=
  match q_ldi i with
  | some (t, n) => (match q_lo L n with
    | some (.float k) => if t = 0 then some (pc + q_len i, L, .float k :: st, S) else none
    | some (.double k) => if t = 1 then some (pc + q_len i, L, .double k :: st, S) else none
    | _ => none)
  | none => match q_sti i with
    | some (t, n) => (match st with
      | .float k :: rest => if t = 0 ∧ n < qm_l M then some (pc + q_len i, q_s1 L n (.float k), rest, S) else none
      | _ => none)
    | none => (sy_st M len i st S).map (fun q => (pc + q_len i, L, q.1, q.2))
/-- an input's comparison with a number: the ways, and what is then known of the input -/
def sy_reg (c : ClassFile.Cond) (lo hi n : Nat) : List (Bool × Nat × Nat) := match c with
  | .lt => [(true, lo, min hi n), (false, max lo n, hi)]
  | .ge => [(false, lo, min hi n), (true, max lo n, hi)]
  | .gt => [(true, max lo (n + 1), hi), (false, lo, min hi (n + 1))]
  | .le => [(false, max lo (n + 1), hi), (true, lo, min hi (n + 1))]
  | .eq => [(true, max lo n, min hi (n + 1)), (false, lo, min hi n), (false, max lo (n + 1), hi)]
  | .ne => [(false, max lo n, min hi (n + 1)), (true, lo, min hi n), (true, max lo (n + 1), hi)]
def sy_flip (c : ClassFile.Cond) : ClassFile.Cond := match c with
  | .lt => .gt
  | .gt => .lt
  | .ge => .le
  | .le => .ge
  | c => c
/-- which input, compared how, with what, by which offset, the stack behind -/
def sy_cm (i : Instr) (st : List Value) : Option (Nat × ClassFile.Cond × Nat × Int × List Value) := match i with
  | .ifCond c o => (match st with
    | .float a :: rest => if a.toNat < 8 then some (a.toNat, c, 2147483648, o, rest) else none
    | _ => none)
  | .if_icmp c o => (match st with
    | .int y :: .float a :: rest => if a.toNat < 8 then some (a.toNat, c, sy_o y, o, rest) else none
    | .float a :: .int x :: rest => if a.toNat < 8 then some (a.toNat, sy_flip c, sy_o x, o, rest) else none
    | _ => none)
  | _ => none
def sy_num (n : Nat) : Int32 := Int32.ofInt ((n : Int) - 2147483648)
/-- an input on top of the stack, or below it -/
def sy_top (st : List Value) : Option (Nat × (Int32 → List Value)) := match st with
  | .float b :: .float a :: rest => if a.toNat < 8 then some (a.toNat, fun x => .float b :: .int x :: rest) else none
  | .float a :: rest => if a.toNat < 8 then some (a.toNat, fun x => .int x :: rest) else none
  | .double a :: rest => if a.toNat < 8 then some (a.toNat, fun x => .long x.toInt64 :: rest) else none
  | u :: .float a :: rest => if a.toNat < 8 then some (a.toNat, fun x => u :: .int x :: rest) else none
  | u :: .double a :: rest => if a.toNat < 8 then some (a.toNat, fun x => u :: .long x.toInt64 :: rest) else none
  | _ => none
def sy_h (M : QM) (len : Nat) (PC : SP) (pc : Nat) (i : Instr) (L : QL) (st : List Value) (S : QS) : Option (List (SP × Nat × QL × List Value × QS)) :=
  match sy_one M len pc i L st S with
  | some q => some [(PC, q)]
  | none => match sy_cm i st with
    | some (a, c, n, o, rest) => (match q_jump pc o, PC[a]? with
      | some t, some (lo, hi) => some (((sy_reg c lo hi n).filter (fun q => decide (q.2.1 < q.2.2))).map (fun q => (PC.set a (q.2.1, q.2.2), (if q.1 = true then t else pc + q_len i), L, rest, S)))
      | _, _ => none)
    | none => if sy_k i = 1 ∨ sy_k i = 4 ∨ sy_k i = 7 ∨ sy_k i = 8 then (match sy_top st with
      | some (a, f) => (match PC[a]? with
        | some (lo, hi) => if hi ≤ lo + 128 then some ((List.range (hi - lo)).map (fun j => (PC.set a (lo + j, lo + j + 1), pc, L, f (sy_num (lo + j)), S))) else none
        | none => none)
      | none => none) else none
def sy_cc {α β : Type} (f : α → Option (List β)) (l : List α) : Option (List β) := match l with
  | [] => some []
  | a :: l => (match f a with
    | some x => (match sy_cc f l with
      | some y => some (x ++ y)
      | none => none)
    | none => none)
def sy_ret (M : QM) (i : Instr) (st : List Value) : Option (Option Value) := match i, st with
  | .ireturn, [.float k] => if qm_r M = some .int then some (some (.float k)) else none
  | i, st => q_ret M i st
/-- the code from an instruction on; sought from a place on, or from the start -/
def sy_sk (pc : Nat) : List (Nat × Instr) → List (Nat × Instr)
  | [] => []
  | q :: l => cond (Nat.beq q.1 pc) (q :: l) (sy_sk pc l)
def sy_fd (M : QM) (pc : Nat) (cs : List (Nat × Instr)) : List (Nat × Instr) := match cs with
  | [] => sy_sk pc (qm_c M)
  | q :: l => cond (Nat.ble q.1 pc) (sy_sk pc (q :: l)) (sy_sk pc (qm_c M))
/-- the instructions stand in order -/
def sy_srt : List (Nat × Instr) → Bool
  | [] => true
  | q :: l => match l with
    | [] => true
    | q2 :: _ => Nat.blt q.1 q2.1 && sy_srt l
def sy_run (call : SP → Nat → List Value → QS → Option (List (SP × QO × QS))) (M : QM) (len : Nat) : Nat → List (Nat × Instr) → SP → Nat → QL → List Value → QS → Option (List (SP × QO × QS))
  | 0, _, _, _, _, _, _ => none
  | n + 1, cs, PC, pc, L, st, S => match sy_fd M pc cs with
    | [] => none
    | (pc0, i) :: cl => match (if sy_bad i st = true then none else q_step M none pc0 i L st S) with
      | some (pc', L', st', S') => sy_run call M len n ((pc0, i) :: cl) PC pc' L' st' S'
      | none => match sy_h M len PC pc0 i L st S with
        | some l => sy_cc (fun q => sy_run call M len n ((pc0, i) :: cl) q.1 q.2.1 q.2.2.1 q.2.2.2.1 q.2.2.2.2) l
        | none => match q_call M i st S with
          | some (mi, as, rest) => (match call PC mi as S with
            | some l => sy_cc (fun q => match q.2.1 with
              | .inl v => sy_run call M len n ((pc0, i) :: cl) q.1 (pc0 + 3) L (v.toList ++ rest) q.2.2
              | .inr e => if qm_h M = [] then some [(q.1, .inr e, q.2.2)] else (match q_hand M pc0 e L with
                | some (pc', L') => sy_run call M len n ((pc0, i) :: cl) q.1 pc' L' [] q.2.2
                | none => none)) l
            | none => none)
          | none => match sy_ret M i st with
            | some v => some [(PC, .inl v, S)]
            | none => (q_thr M pc0 i st).map (fun e => [(PC, .inr e, (S.1 ++ [(99, 0, [])], S.2.1 + 1, S.2.2 + 6))])
def sy_pc (T : List QM) (len n : Nat) : Nat → SP → Nat → List Value → QS → Option (List (SP × QO × QS))
  | 0, _, _, _, _ => none
  | d + 1, PC, mi, as, S => match T[mi]? with
    | none => none
    | some M => if (lg_sl as).length ≤ qm_l M then sy_run (sy_pc T len n d) M len n [] PC 0 (lv_args 0 as) [] S else none
theorem sy_bd (x : Int32) : (sy_o x : Int) = x.toInt + 2147483648 ∧ sy_o x < 4294967296 := by
  have h1 : -2147483648 ≤ x.toInt := Int32.le_toInt x
  have h2 : x.toInt < 2147483648 := Int32.toInt_lt x
  unfold sy_o
  omega
theorem sy_lt (x y : Int32) : x < y ↔ sy_o x < sy_o y := by
  have h1 := sy_bd x
  have h2 := sy_bd y
  rw [Int32.lt_iff_toInt_lt]
  omega
theorem sy_le (x y : Int32) : x ≤ y ↔ sy_o x ≤ sy_o y := by
  have h1 := sy_bd x
  have h2 := sy_bd y
  rw [Int32.le_iff_toInt_le]
  omega
theorem sy_eq (x y : Int32) : x = y ↔ sy_o x = sy_o y := by
  have h1 := sy_bd x
  have h2 := sy_bd y
  rw [← Int32.toInt_inj]
  omega
theorem sy_num_o (x : Int32) : sy_num (sy_o x) = x := by
  have h1 := sy_bd x
  unfold sy_num
  rw [show ((sy_o x : Int) - 2147483648) = x.toInt by omega]
  exact Int32.ofInt_toInt x
theorem sy_ev8 (r : Nat → Int32) {k : Nat} (h : k < 8) : sy_ev r k = r k := if_pos h
theorem sy_reg_ok (c : ClassFile.Cond) {x y : Int32} {lo hi : Nat} (h1 : lo ≤ sy_o x) (h2 : sy_o x < hi) : ∃ q ∈ (sy_reg c lo hi (sy_o y)).filter (fun q => decide (q.2.1 < q.2.2)), q.1 = q_cmp c x y ∧ q.2.1 ≤ sy_o x ∧ sy_o x < q.2.2 := by
  have hf : ∀ (b : Bool) (l h : Nat), (b, l, h) ∈ sy_reg c lo hi (sy_o y) → b = q_cmp c x y → l ≤ sy_o x → sy_o x < h → ∃ q ∈ (sy_reg c lo hi (sy_o y)).filter (fun q => decide (q.2.1 < q.2.2)), q.1 = q_cmp c x y ∧ q.2.1 ≤ sy_o x ∧ sy_o x < q.2.2 :=
    fun b l h a1 a2 a3 a4 => ⟨(b, l, h), List.mem_filter.mpr ⟨a1, decide_eq_true (Nat.lt_of_le_of_lt a3 a4)⟩, a2, a3, a4⟩
  have e1 := sy_lt x y
  have e2 := sy_lt y x
  have e3 := sy_le x y
  have e4 := sy_le y x
  have e5 := sy_eq x y
  cases c
  case lt =>
    by_cases h : sy_o x < sy_o y
    · exact hf true lo (min hi (sy_o y)) (by simp [sy_reg]) (by simp [q_cmp, e1, h]) h1 (by omega)
    · exact hf false (max lo (sy_o y)) hi (by simp [sy_reg]) (by simp [q_cmp, e1, h]) (by omega) h2
  case ge =>
    by_cases h : sy_o y ≤ sy_o x
    · exact hf true (max lo (sy_o y)) hi (by simp [sy_reg]) (by simp [q_cmp, e4, h]) (by omega) h2
    · exact hf false lo (min hi (sy_o y)) (by simp [sy_reg]) (by simp [q_cmp, e4, h]) h1 (by omega)
  case gt =>
    by_cases h : sy_o y < sy_o x
    · exact hf true (max lo (sy_o y + 1)) hi (by simp [sy_reg]) (by simp [q_cmp, e2, h]) (by omega) h2
    · exact hf false lo (min hi (sy_o y + 1)) (by simp [sy_reg]) (by simp [q_cmp, e2, h]) h1 (by omega)
  case le =>
    by_cases h : sy_o x ≤ sy_o y
    · exact hf true lo (min hi (sy_o y + 1)) (by simp [sy_reg]) (by simp [q_cmp, e3, h]) h1 (by omega)
    · exact hf false (max lo (sy_o y + 1)) hi (by simp [sy_reg]) (by simp [q_cmp, e3, h]) (by omega) h2
  case eq =>
    by_cases h : sy_o x = sy_o y
    · exact hf true (max lo (sy_o y)) (min hi (sy_o y + 1)) (by simp [sy_reg]) (by simp [q_cmp, e5, h]) (by omega) (by omega)
    · by_cases h9 : sy_o x < sy_o y
      · exact hf false lo (min hi (sy_o y)) (by simp [sy_reg]) (by simp [q_cmp, e5, h]) h1 (by omega)
      · exact hf false (max lo (sy_o y + 1)) hi (by simp [sy_reg]) (by simp [q_cmp, e5, h]) (by omega) h2
  case ne =>
    by_cases h : sy_o x = sy_o y
    · exact hf false (max lo (sy_o y)) (min hi (sy_o y + 1)) (by simp [sy_reg]) (by simp [q_cmp, e5, h]) (by omega) (by omega)
    · by_cases h9 : sy_o x < sy_o y
      · exact hf true lo (min hi (sy_o y)) (by simp [sy_reg]) (by simp [q_cmp, e5, h]) h1 (by omega)
      · exact hf true (max lo (sy_o y + 1)) hi (by simp [sy_reg]) (by simp [q_cmp, e5, h]) (by omega) h2
theorem sy_flip_ok (c : ClassFile.Cond) (x y : Int32) : q_cmp (sy_flip c) x y = q_cmp c y x := by
  cases c
  case eq => simp only [sy_flip, q_cmp, eq_comm]
  case ne => simp only [sy_flip, q_cmp, eq_comm]
  all_goals rfl
theorem sy_cc_ok {α β : Type} {f : α → Option (List β)} : ∀ {l : List α} {out : List β}, sy_cc f l = some out → ∀ a ∈ l, ∃ y, f a = some y ∧ ∀ z ∈ y, z ∈ out := by
  intro l
  induction l with
  | nil => intro out _ a ha; cases ha
  | cons b l ih =>
    intro out h a ha
    unfold sy_cc at h
    split at h
    · rename_i x hx
      split at h
      · rename_i y hy
        cases h
        rcases List.mem_cons.mp ha with rfl | ha
        · exact ⟨x, hx, fun z hz => List.mem_append_left _ hz⟩
        · obtain ⟨y9, h1, h2⟩ := ih hy a ha
          exact ⟨y9, h1, fun z hz => List.mem_append_right _ (h2 z hz)⟩
      · cases h
    · cases h
theorem sy_pset {r : Nat → Int32} {PC : SP} {a : Nat} {q : Nat × Nat} (h : sy_sat r PC) (hq : q.1 ≤ sy_o (r a) ∧ sy_o (r a) < q.2) : sy_sat r (PC.set a q) := by
  intro k q9 hk
  rw [List.getElem?_set] at hk
  split at hk
  · rename_i e
    subst e
    split at hk
    · cases hk; exact hq
    · cases hk
  · exact h k q9 hk
section SZ
variable {r : Nat → Int32} {M : QM} {ox : Option (List Int32)} {xs : List Int32} {i : Instr} {st st' : List Value} {S S' : QS} {L L' : QL} {pc len : Nat}
theorem sy_go1 (h : q_simple i st = some st') : q_step M ox pc i L st S = some (pc + q_len i, L, st', S) := by
  unfold q_step
  rw [h]
theorem sy_go8 (hk : sy_k i = 8) (h : q_write M i st S = some (st', S')) : q_step M ox pc i L st S = some (pc + q_len i, L, st', S') := by
  unfold q_step
  rw [sy_nx hk (fun x hx => sy_k_simple hx) (by decide), sy_nx hk (fun x hx => sy_k_ldi hx) (by decide), sy_nx hk (fun x hx => sy_k_sti hx) (by decide), sy_nx hk (fun x hx => sy_k_br hx) (by decide), sy_nx hk (fun x hx => sy_k_inc hx) (by decide), sy_nx hk (fun x hx => sy_k_oi hx) (by decide), sy_nx hk (fun x hx => sy_k_read hx) (by decide), h]
theorem sy_go4 (hk : sy_k i = 4) {b : Bool} {o : Int} {t : Nat} (h : q_br i st = some (b, o, st')) (ht : q_jump pc o = some t) : q_step M ox pc i L st S = some ((if b = true then t else pc + q_len i), L, st', S) := by
  unfold q_step
  rw [sy_nx hk (fun x hx => sy_k_simple hx) (by decide), sy_nx hk (fun x hx => sy_k_ldi hx) (by decide), sy_nx hk (fun x hx => sy_k_sti hx) (by decide), h]
  simp only [ht, Option.map_some]
theorem sy_goS (hk : sy_k i = 7) (hr : q_read M i st S = none) (h : q_script (some xs) i st = some st') : q_step M (some xs) pc i L st S = some (pc + 1, L, st', S) := by
  unfold q_step
  rw [sy_nx hk (fun x hx => sy_k_simple hx) (by decide), sy_nx hk (fun x hx => sy_k_ldi hx) (by decide), sy_nx hk (fun x hx => sy_k_sti hx) (by decide), sy_nx hk (fun x hx => sy_k_br hx) (by decide), sy_nx hk (fun x hx => sy_k_inc hx) (by decide), sy_nx hk (fun x hx => sy_k_oi hx) (by decide), hr, sy_nx hk (fun x hx => sy_k_write hx) (by decide), h]
  rfl
theorem sy_u32 {n : Nat} (h : n < 4294967296) : (UInt32.ofNat n).toNat = n := UInt32.toNat_ofNat_of_lt' h
theorem sy_u64 (a : UInt32) : (UInt64.ofNat a.toNat).toNat = a.toNat := UInt64.toNat_ofNat_of_lt' (Nat.lt_trans (UInt32.toNat_lt a) (by decide))
set_option maxHeartbeats 4000000 in
theorem sy_st_ok (hin : sy_in r xs) (hlen : xs.length = len) (h : sy_st M len i st S = some (st', S')) : q_step M (some xs) pc i (sy_L r L) (st.map (sy_g r)) (sy_S r S) = some (pc + q_len i, sy_L r L, st'.map (sy_g r), sy_S r S') := by
  unfold sy_st at h
  split at h
  · -- iand
    split at h
    · split at h
      · rename_i hc
        obtain ⟨rfl, rfl⟩ := hc
        cases h
        have e : (.int (r 0 &&& 63) : Value) = .int (r 7) := by rw [hin.1]
        exact sy_go1 (congrArg (fun v => some (v :: _)) e)
      · cases h
    · cases h
  · split at h
    · split at h
      · rename_i hc
        obtain ⟨rfl, rfl⟩ := hc
        cases h
        exact sy_go1 rfl
      · cases h
    · cases h
  · -- iadd
    split at h
    · rename_i y a rest
      split at h
      · rename_i hc
        subst hc
        cases h
        have e : (.int (sy_ev r a.toNat + 0) : Value) = .int (sy_ev r a.toNat) := by rw [Int32.add_zero]
        exact sy_go1 (congrArg (fun v => some (v :: _)) e)
      · cases h
    · rename_i a x rest
      split at h
      · rename_i hc
        subst hc
        obtain ⟨j, h1, h2⟩ := Option.map_eq_some_iff.mp h
        cases h2
        unfold sy_mil at h1
        have h3 := List.find?_some h1
        have h4 := List.mem_range.mp (List.mem_of_find?_eq_some h1)
        simp only [beq_iff_eq] at h3
        subst h3
        have e : (.int (Int32.ofNat (j * 1000000) + sy_ev r 8) : Value) = .int (sy_ev r (UInt32.ofNat (9 + j)).toNat) := by
          rw [sy_u32 (by omega)]
          unfold sy_ev
          rw [if_neg (by decide), if_pos rfl, if_neg (by omega), if_neg (by omega), if_pos (by omega), show 9 + j - 9 = j by omega]
        exact sy_go1 (congrArg (fun v => some (v :: _)) e)
      · split at h
        · rename_i hc
          subst hc
          cases h
          have e : (.int (0 + sy_ev r a.toNat) : Value) = .int (sy_ev r a.toNat) := by rw [Int32.zero_add]
          exact sy_go1 (congrArg (fun v => some (v :: _)) e)
        · cases h
    · rename_i b a rest
      split at h
      · rename_i hc
        obtain ⟨rfl, h1, h2⟩ := hc
        cases h
        have e : (.int (sy_ev r a.toNat + sy_ev r 4) : Value) = .int (sy_ev r (UInt32.ofNat (a.toNat + 24)).toNat) := by
          rw [sy_u32 (by omega)]
          unfold sy_ev
          rw [if_neg (by omega), if_neg (by omega), if_pos h2, if_pos (by decide), if_neg (by omega), if_neg (by omega), if_neg (by omega), show a.toNat + 24 - 33 = a.toNat - 9 by omega]
        exact sy_go1 (congrArg (fun v => some (v :: _)) e)
      · cases h
    · cases h
  · -- i2l
    split at h
    · rename_i a rest
      cases h
      have e : (.long (sy_ev r a.toNat).toInt64 : Value) = .long (sy_ev r (UInt64.ofNat a.toNat).toNat).toInt64 := by rw [sy_u64]
      exact sy_go1 (congrArg (fun v => some (v :: _)) e)
    · cases h
  · -- lcmp
    split at h
    · rename_i b a rest
      split at h
      · rename_i hc
        subst hc
        cases h
        have e : ∀ x : Int64, (.int (lg_cmp x x) : Value) = .int 0 := fun x => by
          unfold lg_cmp
          rw [if_neg (show ¬ x > x from Int64.lt_irrefl), if_pos rfl]
        exact sy_go1 (congrArg (fun v => some (v :: _)) (e _))
      · cases h
    · cases h
  · -- lastore
    split at h
    · split at h
      · rename_i cc hc
        split at h
        · rename_i hk
          obtain ⟨j, h1, h2⟩ := Option.map_eq_some_iff.mp h
          cases h2
          refine sy_go8 rfl ?_
          simp only [q_write, List.map_cons, sy_g, sy_at, hc, Option.map_some, show (sy_c r cc).1 = cc.1 from rfl, show (sy_c r cc).2.1 = cc.2.1 from rfl, if_pos hk, h1, sy_put, sy_wr]
        · cases h
      · cases h
    · cases h
  · -- iastore
    split at h
    · split at h
      · rename_i cc hc
        split at h
        · rename_i hk
          obtain ⟨j, h1, h2⟩ := Option.map_eq_some_iff.mp h
          cases h2
          refine sy_go8 rfl ?_
          simp only [q_write, List.map_cons, sy_g, sy_at, hc, Option.map_some, show (sy_c r cc).1 = cc.1 from rfl, show (sy_c r cc).2.1 = cc.2.1 from rfl, if_pos hk, h1, sy_put, sy_wr]
        · cases h
      · cases h
    · cases h
  · -- putfield
    split at h
    · rename_i x ci k fin v a rest hlk
      split at h
      · rename_i cc hc
        split at h
        · rename_i hk
          obtain ⟨g1, g2, g3⟩ := hk
          cases h
          refine sy_go8 rfl ?_
          have hco : (sy_c r cc).1 = ci ∧ narrow (q_fty ci k) (.int (sy_ev r v.toNat)) = .int (sy_ev r v.toNat) ∧ fits (q_fty ci k) (.int (sy_ev r v.toNat)) = true ∧ (fin = 0 ∨ (fin = 1 ∧ (qm_i M) = true)) := by
            rw [g2]
            exact ⟨g1, rfl, rfl, g3⟩
          simp only [q_write, hlk, List.map_cons, sy_g, sy_at, hc, Option.map_some, sy_put, sy_wr]
          rw [if_pos hco]
        · cases h
      · cases h
    · cases h
  · -- arraylength
    split at h
    · cases h
      refine sy_goS rfl rfl ?_
      rw [← hlen]
      rfl
    · cases h
  · -- iaload
    split at h
    · split at h
      · rename_i rest j9 j hj
        split at h
        · rename_i h7
          cases h
          refine sy_goS rfl rfl ?_
          rw [← hlen] at hj
          have e : (.int (xs.getD j 0) : Value) = .int (sy_ev r (UInt32.ofNat j).toNat) := by
            rw [sy_u32 (by omega), sy_ev8 r (by omega), hin.2 j h7]
          simp only [q_script, List.map_cons, sy_g, hj, Option.map_some]
          rw [e]
        · cases h
      · cases h
    · cases h
  · cases h
set_option maxHeartbeats 1000000 in
theorem sy_one_ok (hin : sy_in r xs) (hlen : xs.length = len) {pc' : Nat} (h : sy_one M len pc i L st S = some (pc', L', st', S')) : q_step M (some xs) pc i (sy_L r L) (st.map (sy_g r)) (sy_S r S) = some (pc', sy_L r L', st'.map (sy_g r), sy_S r S') := by
  unfold sy_one at h
  split at h
  · rename_i t n h2
    split at h
    · rename_i k hv
      split at h
      · rename_i ht
        subst ht
        cases h
        have hk := sy_k_ldi h2
        unfold q_step
        rw [sy_nx hk (fun x hx => sy_k_simple hx) (by decide), h2]
        simp only [sy_lo, hv, Option.map_some, sy_g, q_tag, if_pos, List.map_cons]
      · cases h
    · rename_i k hv
      split at h
      · rename_i ht
        subst ht
        cases h
        have hk := sy_k_ldi h2
        unfold q_step
        rw [sy_nx hk (fun x hx => sy_k_simple hx) (by decide), h2]
        simp only [sy_lo, hv, Option.map_some, sy_g, q_tag, if_pos, List.map_cons]
      · cases h
    · cases h
  · split at h
    · rename_i t n h3
      split at h
      · rename_i k rest
        split at h
        · rename_i hc
          obtain ⟨rfl, hn⟩ := hc
          cases h
          have hk := sy_k_sti h3
          unfold q_step
          rw [sy_nx hk (fun x hx => sy_k_simple hx) (by decide), sy_nx hk (fun x hx => sy_k_ldi hx) (by decide), h3]
          have hc : q_tag (.int (sy_ev r k.toNat)) = 0 ∧ n + 1 < qm_l M + (if (0 : Nat) = 1 then 0 else 1) := ⟨rfl, by rw [if_neg (by decide)]; omega⟩
          simp only [List.map_cons, sy_s1, sy_g]
          rw [if_pos hc]
          rfl
        · cases h
      · cases h
    · obtain ⟨q, h1, h2⟩ := Option.map_eq_some_iff.mp h
      cases h2
      exact sy_st_ok hin hlen h1
theorem sy_cm_ok {a n : Nat} {c : ClassFile.Cond} {o : Int} (h : sy_cm i st = some (a, c, n, o, st')) : sy_k i = 4 ∧ ∃ y : Int32, n = sy_o y ∧ ∀ r : Nat → Int32, q_br i (st.map (sy_g r)) = some (q_cmp c (r a) y, o, st'.map (sy_g r)) := by
  unfold sy_cm at h
  split at h
  · split at h
    · split at h
      · rename_i ha
        cases h
        refine ⟨rfl, 0, rfl, fun r => ?_⟩
        simp only [List.map_cons, sy_g, q_br, sy_ev8 r ha]
      · cases h
    · cases h
  · split at h
    · split at h
      · rename_i y a9 rest ha
        cases h
        refine ⟨rfl, y, rfl, fun r => ?_⟩
        simp only [List.map_cons, sy_g, q_br, sy_ev8 r ha]
      · cases h
    · split at h
      · rename_i a9 x rest ha
        cases h
        refine ⟨rfl, x, rfl, fun r => ?_⟩
        simp only [List.map_cons, sy_g, q_br, sy_ev8 r ha, sy_flip_ok]
      · cases h
    · cases h
  · cases h
theorem sy_top_ok {a : Nat} {f : Int32 → List Value} (h : sy_top st = some (a, f)) (r : Nat → Int32) : (f (r a)).map (sy_g r) = st.map (sy_g r) := by
  unfold sy_top at h
  split at h
  all_goals first
    | (split at h
       · rename_i ha
         cases h
         simp only [List.map_cons, sy_g, sy_ev8 r ha]
       · cases h)
    | cases h
set_option maxHeartbeats 1000000 in
theorem sy_h_ok {PC : SP} (hin : sy_in r xs) (hlen : xs.length = len) (hs : sy_sat r PC) {l : List (SP × Nat × QL × List Value × QS)} (h : sy_h M len PC pc i L st S = some l) : ∃ q ∈ l, sy_sat r q.1 ∧ ((q.2.1 = pc ∧ sy_L r q.2.2.1 = sy_L r L ∧ q.2.2.2.1.map (sy_g r) = st.map (sy_g r) ∧ sy_S r q.2.2.2.2 = sy_S r S) ∨ q_step M (some xs) pc i (sy_L r L) (st.map (sy_g r)) (sy_S r S) = some (q.2.1, sy_L r q.2.2.1, q.2.2.2.1.map (sy_g r), sy_S r q.2.2.2.2)) := by
  unfold sy_h at h
  split at h
  · rename_i q hq
    cases h
    exact ⟨(PC, q), List.Mem.head _, hs, Or.inr (sy_one_ok hin hlen hq)⟩
  · split at h
    · rename_i a c n o rest hcm
      obtain ⟨hk, y, rfl, hbr⟩ := sy_cm_ok hcm
      split at h
      · rename_i t lo hi ht hpc
        cases h
        obtain ⟨b1, b2⟩ := hs a _ hpc
        obtain ⟨q, hq, e1, e2, e3⟩ := sy_reg_ok c (y := y) b1 b2
        refine ⟨_, List.mem_map.mpr ⟨q, hq, rfl⟩, sy_pset hs ⟨e2, e3⟩, Or.inr ?_⟩
        have h9 := sy_go4 (M := M) (ox := some xs) (L := sy_L r L) (S := sy_S r S) hk (hbr r) ht
        rw [← e1] at h9
        exact h9
      · cases h
    · split at h
      · split at h
        · rename_i a f htop
          split at h
          · rename_i lo hi hpc
            split at h
            · cases h
              obtain ⟨b1, b2⟩ := hs a _ hpc
              have b1' : lo ≤ sy_o (r a) := b1
              have b2' : sy_o (r a) < hi := b2
              refine ⟨_, List.mem_map.mpr ⟨sy_o (r a) - lo, List.mem_range.mpr (by omega), rfl⟩, sy_pset hs ⟨by show lo + (sy_o (r a) - lo) ≤ _; omega, by show _ < lo + (sy_o (r a) - lo) + 1; omega⟩, Or.inl ⟨rfl, rfl, ?_, rfl⟩⟩
              show (f (sy_num (lo + (sy_o (r a) - lo)))).map (sy_g r) = _
              rw [show lo + (sy_o (r a) - lo) = sy_o (r a) by omega, sy_num_o]
              exact sy_top_ok htop r
            · cases h
          · cases h
        · cases h
      · cases h
theorem sy_mono {call : Nat → List Value → QS → Option (QO × QS)} : ∀ (n pc : Nat) (L : QL) (st : List Value) (S : QS) (x : QO × QS), q_run call M ox n pc L st S = some x → q_run call M ox (n + 1) pc L st S = some x := by
  intro n
  induction n with
  | zero => intro pc L st S x h; simp [q_run] at h
  | succ n ih =>
    intro pc L st S x h
    rw [q_run] at h ⊢
    split at h
    · cases h
    · rename_i i hi
      split at h
      · rename_i hst
        exact ih _ _ _ _ _ h
      · rename_i hst
        split at h
        · rename_i mi as rest hcl
          split at h
          · rename_i v S9 hv
            first
              | exact ih _ _ _ _ _ h
              | (simp only [hi, hst, hcl, hv]; exact ih _ _ _ _ _ h)
          · rename_i e S9 hv
            split at h
            · rename_i hh
              rw [if_pos hh]; exact h
            · rename_i hh
              rw [if_neg hh]
              split at h
              · exact ih _ _ _ _ _ h
              · cases h
          · cases h
        · exact h
theorem sy_call_k {mi : Nat} {as rest : List Value} (h : q_call M i st S = some (mi, as, rest)) : (sy_k i = 9 ∨ sy_k i = 6) ∧ ∀ st9, q_oi M i st9 = none := by
  unfold q_call at h
  split at h
  · exact ⟨Or.inl rfl, fun _ => rfl⟩
  · exact ⟨Or.inl rfl, fun _ => rfl⟩
  · rename_i x
    refine ⟨Or.inr rfl, fun st9 => ?_⟩
    split at h
    · rename_i hlk
      unfold q_oi
      simp only [hlk]
    · rename_i hlk
      unfold q_oi
      simp only [hlk]
    · cases h
  · cases h
theorem sy_none (hk : sy_k i = 9 ∨ sy_k i = 6 ∨ sy_k i = 10) (ho : ∀ st9, q_oi M i st9 = none) : q_step M ox pc i L st S = none := by
  have h1 : ∀ n, n ≠ 9 → n ≠ 6 → n ≠ 10 → sy_k i ≠ n := fun n a b c d => by omega
  have hn : ∀ {α : Type} {f : Option α} (n : Nat), (∀ x, f = some x → sy_k i = n) → n ≠ 9 → n ≠ 6 → n ≠ 10 → f = none := fun {α} {f} n h a b c => by
    cases hf : f with
    | none => rfl
    | some x => exact absurd (h x hf) (h1 n a b c)
  unfold q_step
  rw [hn 1 (fun x hx => sy_k_simple hx) (by decide) (by decide) (by decide), hn 2 (fun x hx => sy_k_ldi hx) (by decide) (by decide) (by decide), hn 3 (fun x hx => sy_k_sti hx) (by decide) (by decide) (by decide), hn 4 (fun x hx => sy_k_br hx) (by decide) (by decide) (by decide), hn 5 (fun x hx => sy_k_inc hx) (by decide) (by decide) (by decide), ho, hn 7 (fun x hx => sy_k_read hx) (by decide) (by decide) (by decide), hn 8 (fun x hx => sy_k_write hx) (by decide) (by decide) (by decide), hn (f := q_script ox i st) 7 (fun x hx => by rcases q_script_i hx with rfl | rfl <;> rfl) (by decide) (by decide) (by decide)]
  rfl
set_option maxHeartbeats 1000000 in
theorem sy_call (r : Nat → Int32) {mi : Nat} {as rest : List Value} (h : q_call M i st S = some (mi, as, rest)) : q_call M i (st.map (sy_g r)) (sy_S r S) = some (mi, as.map (sy_g r), rest.map (sy_g r)) := by
  unfold q_call at h
  split at h
  · split at h
    · rename_i x mi9 n ci hlk
      split at h
      · rename_i b rest9 hd
        split at h
        · rename_i cc hc
          split at h
          · rename_i hg
            cases h
            have hd2 : (st.map (sy_g r)).drop n = .ref b :: rest.map (sy_g r) := by rw [← List.map_drop, hd]; rfl
            have hg2 : (sy_c r cc).1 = ci ∧ n ≤ (st.map (sy_g r)).length ∧ ((rest.map (sy_g r)).map fun v => v.category).sum ≤ 8 := by
              rw [sy_sum, List.length_map]; exact hg
            simp only [q_call, hlk, hd2, sy_at, hc, Option.map_some]
            rw [if_pos hg2]
            simp only [List.map_cons, List.map_reverse, List.map_take, sy_g]
          · cases h
        · cases h
      · cases h
    · cases h
  · split at h
    · rename_i x mi9 n a hlk
      split at h
      · rename_i hg
        cases h
        have hg2 : n ≤ (st.map (sy_g r)).length ∧ (((st.map (sy_g r)).drop n).map fun v => v.category).sum ≤ 8 := by
          rw [← List.map_drop, sy_sum, List.length_map]; exact hg
        simp only [q_call, hlk]
        rw [if_pos hg2]
        simp only [List.map_reverse, List.map_take, List.map_drop]
      · cases h
    · cases h
  · split at h
    · rename_i x mi9 n a hlk
      split at h
      · rename_i b rest9 hd
        split at h
        · rename_i hg
          cases h
          have hd2 : (st.map (sy_g r)).drop n = .ref b :: rest.map (sy_g r) := by rw [← List.map_drop, hd]; rfl
          have hg2 : n ≤ (st.map (sy_g r)).length ∧ ((rest.map (sy_g r)).map fun v => v.category).sum ≤ 8 := by
            rw [sy_sum, List.length_map]; exact hg
          simp only [q_call, hlk, hd2]
          rw [if_pos hg2]
          simp only [List.map_cons, List.map_reverse, List.map_take, sy_g]
        · cases h
      · cases h
    · rename_i x mi9 n a hlk
      split at h
      · rename_i b rest9 hd
        split at h
        · rename_i hg
          cases h
          have hd2 : (st.map (sy_g r)).drop n = .ref b :: rest.map (sy_g r) := by rw [← List.map_drop, hd]; rfl
          have hg2 : n ≤ (st.map (sy_g r)).length ∧ ((rest.map (sy_g r)).map fun v => v.category).sum ≤ 8 := by
            rw [sy_sum, List.length_map]; exact hg
          simp only [q_call, hlk, hd2]
          rw [if_pos hg2]
          simp only [List.map_cons, List.map_reverse, List.map_take, sy_g]
        · cases h
      · cases h
    · cases h
  · cases h
theorem sy_ret0 (r : Nat → Int32) {v : Option Value} (h : q_ret M i st = some v) : sy_k i = 10 ∧ q_ret M i (st.map (sy_g r)) = some (v.map (sy_g r)) := by
  unfold q_ret at h
  split at h
  · split at h
    · rename_i hr
      cases h
      refine ⟨rfl, ?_⟩
      simp only [List.map_nil, q_ret, if_pos hr, Option.map_none]
    · cases h
  · split at h
    · rename_i ty hr
      split at h
      · rename_i hn
        cases h
        refine ⟨rfl, ?_⟩
        simp only [List.map_cons, List.map_nil, sy_g, q_ret, hr, if_pos hn, Option.map_some]
      · cases h
    · cases h
  · split at h
    · rename_i hr
      cases h
      refine ⟨rfl, ?_⟩
      simp only [List.map_cons, List.map_nil, sy_g, q_ret, if_pos hr, Option.map_some]
    · cases h
  · rename_i v9
    refine ⟨rfl, ?_⟩
    split at h
    · rename_i hr
      split at h
      · rename_i ht
        cases h
        have hg := sy_tag r ht (by decide)
        simp only [List.map_cons, List.map_nil, q_ret, hr, hg, if_pos ht, Option.map_some]
      · cases h
    · rename_i hr
      split at h
      · rename_i ht
        cases h
        have hg := sy_tag r ht (by decide)
        simp only [List.map_cons, List.map_nil, q_ret, hr, hg, if_pos ht, Option.map_some]
      · cases h
    · cases h
  · cases h
theorem sy_ret_ok (r : Nat → Int32) {v : Option Value} (h : sy_ret M i st = some v) : sy_k i = 10 ∧ q_ret M i (st.map (sy_g r)) = some (v.map (sy_g r)) := by
  unfold sy_ret at h
  split at h
  · split at h
    · rename_i k hr
      cases h
      refine ⟨rfl, ?_⟩
      simp only [List.map_cons, List.map_nil, sy_g, q_ret, hr, Option.map_some]
      exact if_pos rfl
    · cases h
  · exact sy_ret0 r h
theorem sy_thr_ok (r : Nat → Int32) {e : Nat} (h : q_thr M pc i st = some e) : (∃ x, i = .new x ∧ ∀ st9 S9, q_write M i st9 S9 = none) ∧ q_thr M pc i (st.map (sy_g r)) = some e := by
  unfold q_thr at h
  split at h
  · rename_i x
    split at h
    · rename_i e9 ic a hlk
      refine ⟨⟨x, rfl, fun st9 S9 => by simp only [q_write, hlk]⟩, ?_⟩
      unfold q_thr
      simp only [hlk, sy_sum]
      exact h
    · cases h
  · cases h
end SZ
theorem sy_sk_ok {pc : Nat} : ∀ {l r9 : List (Nat × Instr)} {q : Nat × Instr}, sy_sk pc l = q :: r9 → q.1 = pc ∧ ∀ z ∈ q :: r9, z ∈ l := by
  intro l
  induction l with
  | nil => intro r9 q h; cases h
  | cons a l ih =>
    intro r9 q h
    unfold sy_sk at h
    cases hb : Nat.beq a.1 pc with
    | true =>
      rw [hb] at h
      cases h
      exact ⟨Nat.eq_of_beq_eq_true hb, fun z hz => hz⟩
    | false =>
      rw [hb] at h
      obtain ⟨h1, h2⟩ := ih h
      exact ⟨h1, fun z hz => List.mem_cons_of_mem _ (h2 z hz)⟩
theorem sy_fd_ok {M : QM} {pc : Nat} {cs r9 : List (Nat × Instr)} {q : Nat × Instr} (hcs : ∀ z ∈ cs, z ∈ qm_c M) (h : sy_fd M pc cs = q :: r9) : q.1 = pc ∧ ∀ z ∈ q :: r9, z ∈ qm_c M := by
  unfold sy_fd at h
  split at h
  · exact sy_sk_ok h
  · rename_i a l
    cases hb : Nat.ble a.1 pc with
    | true =>
      rw [hb] at h
      obtain ⟨h1, h2⟩ := sy_sk_ok (show sy_sk pc (a :: l) = q :: r9 from h)
      exact ⟨h1, fun z hz => hcs z (h2 z hz)⟩
    | false =>
      rw [hb] at h
      exact sy_sk_ok (show sy_sk pc (qm_c M) = q :: r9 from h)
theorem sy_srt_lt : ∀ {l : List (Nat × Instr)} {a : Nat × Instr}, sy_srt (a :: l) = true → ∀ q ∈ l, a.1 < q.1 := by
  intro l
  induction l with
  | nil => intro a _ q hq; cases hq
  | cons b l ih =>
    intro a h q hq
    have h9 : (Nat.blt a.1 b.1 && sy_srt (b :: l)) = true := h
    rw [Bool.and_eq_true] at h9
    have h1 : a.1 < b.1 := Nat.le_of_ble_eq_true h9.1
    rcases List.mem_cons.mp hq with rfl | hq
    · exact h1
    · exact Nat.lt_trans h1 (ih h9.2 q hq)
theorem sy_srt_find : ∀ {l : List (Nat × Instr)}, sy_srt l = true → ∀ q ∈ l, l.find? (fun z => z.1 == q.1) = some q := by
  intro l
  induction l with
  | nil => intro _ q hq; cases hq
  | cons b l ih =>
    intro h q hq
    rcases List.mem_cons.mp hq with rfl | hq
    · simp
    · have h1 := sy_srt_lt h q hq
      have h2 : sy_srt l = true := by
        cases l with
        | nil => rfl
        | cons c l =>
          have h9 : (Nat.blt b.1 c.1 && sy_srt (c :: l)) = true := h
          rw [Bool.and_eq_true] at h9
          exact h9.2
      rw [List.find?_cons_of_neg (by simp; omega)]
      exact ih h2 q hq
theorem sy_code_ok {M : QM} (hs : sy_srt (qm_c M) = true) {pc : Nat} {i : Instr} (h : (pc, i) ∈ qm_c M) : q_code M pc = some i := by
  unfold q_code
  rw [sy_srt_find hs (pc, i) h]
  rfl
set_option maxHeartbeats 1000000 in
/-- a run of a method: what the symbolic one says, the plain one does -/
theorem sy_run_ok {r : Nat → Int32} {xs : List Int32} {len : Nat} (hin : sy_in r xs) (hlen : xs.length = len) {call : SP → Nat → List Value → QS → Option (List (SP × QO × QS))} {qc : Nat → List Value → QS → Option (QO × QS)}
    (hc : ∀ (PC : SP) (mi : Nat) (as : List Value) (S : QS) (l : List (SP × QO × QS)), call PC mi as S = some l → sy_sat r PC → ∃ q ∈ l, sy_sat r q.1 ∧ qc mi (as.map (sy_g r)) (sy_S r S) = some (sy_O r q.2.1, sy_S r q.2.2)) {M : QM} (hsr : sy_srt (qm_c M) = true) :
    ∀ (n : Nat) (cs : List (Nat × Instr)) (PC : SP) (pc : Nat) (L : QL) (st : List Value) (S : QS) (l : List (SP × QO × QS)), (∀ z ∈ cs, z ∈ qm_c M) → sy_run call M len n cs PC pc L st S = some l → sy_sat r PC → ∃ q ∈ l, sy_sat r q.1 ∧ q_run qc M (some xs) n pc (sy_L r L) (st.map (sy_g r)) (sy_S r S) = some (sy_O r q.2.1, sy_S r q.2.2) := by
  intro n
  induction n with
  | zero => intro cs PC pc L st S l _ h; simp [sy_run] at h
  | succ n ih =>
    intro cs PC pc L st S l hcs h hs
    rw [sy_run] at h
    split at h
    · cases h
    · rename_i pc0 i cl hfd
      obtain ⟨e0, hcl9⟩ := sy_fd_ok hcs hfd
      have e0 : pc0 = pc := e0
      subst e0
      have hi : q_code M pc0 = some i := sy_code_ok hsr (hcl9 _ List.mem_cons_self)
      split at h
      · rename_i pc' L' st' S' hst
        split at hst
        · cases hst
        · rename_i hb
          obtain ⟨q, h1, h2, h3⟩ := ih _ _ _ _ _ _ _ hcl9 h hs
          refine ⟨q, h1, h2, ?_⟩
          rw [q_run, hi]
          simp only [sy_step r (Bool.not_eq_true _ ▸ hb) hst]
          exact h3
      · split at h
        · rename_i l9 hl9
          obtain ⟨q, hq, hs9, hcase⟩ := sy_h_ok hin hlen hs hl9
          obtain ⟨y, h1, h2⟩ := sy_cc_ok h q hq
          obtain ⟨q2, h3, h4, h5⟩ := ih _ _ _ _ _ _ _ hcl9 h1 hs9
          refine ⟨q2, h2 q2 h3, h4, ?_⟩
          rcases hcase with ⟨e1, e2, e3, e4⟩ | hst
          · rw [e1, e2, e3, e4] at h5
            exact sy_mono _ _ _ _ _ _ h5
          · rw [q_run, hi]
            simp only [hst]
            exact h5
        · split at h
          · rename_i mi as rest hcl
            have hno : q_step M (some xs) pc0 i (sy_L r L) (st.map (sy_g r)) (sy_S r S) = none := sy_none (by rcases (sy_call_k hcl).1 with a | a <;> simp [a]) (sy_call_k hcl).2
            have hcl2 := sy_call r hcl
            split at h
            · rename_i l9 hl9
              obtain ⟨q, hq, hs9, hqc⟩ := hc _ _ _ _ _ hl9 hs
              obtain ⟨y, h1, h2⟩ := sy_cc_ok h q hq
              split at h1
              · rename_i v hv
                obtain ⟨q2, h3, h4, h5⟩ := ih _ _ _ _ _ _ _ hcl9 h1 hs9
                refine ⟨q2, h2 q2 h3, h4, ?_⟩
                rw [q_run, hi]
                rw [hv] at hqc
                simp only [hno, hcl2, hqc, sy_O]
                rw [List.map_append, show v.toList.map (sy_g r) = (v.map (sy_g r)).toList by cases v <;> rfl] at h5
                exact h5
              · rename_i e hv
                rw [hv] at hqc
                split at h1
                · rename_i hh
                  cases h1
                  refine ⟨_, h2 _ (List.Mem.head _), hs9, ?_⟩
                  rw [q_run, hi]
                  simp only [hno, hcl2, hqc, sy_O, if_pos hh]
                · rename_i hh
                  split at h1
                  · rename_i pc' L' hha
                    obtain ⟨q2, h3, h4, h5⟩ := ih _ _ _ _ _ _ _ hcl9 h1 hs9
                    refine ⟨q2, h2 q2 h3, h4, ?_⟩
                    rw [q_run, hi]
                    have hha2 : q_hand M pc0 e (sy_L r L) = some (pc', sy_L r L') := by
                      unfold q_hand at hha ⊢
                      split at hha
                      · split at hha
                        · split at hha
                          · rename_i hn
                            cases hha
                            simp only [if_pos hn, sy_rm]
                          · cases hha
                        · split at hha
                          · rename_i hn
                            cases hha
                            simp only [if_pos hn, sy_rm]
                          · cases hha
                        · cases hha
                      · cases hha
                    simp only [hno, hcl2, hqc, sy_O, if_neg hh, hha2]
                    exact h5
                  · cases h1
            · cases h
          · split at h
            · rename_i v hv
              cases h
              obtain ⟨hk, hr⟩ := sy_ret_ok r hv
              have hno : q_step M (some xs) pc0 i (sy_L r L) (st.map (sy_g r)) (sy_S r S) = none := sy_none (Or.inr (Or.inr hk)) (fun st9 => sy_nx hk (fun x hx => sy_k_oi hx) (by decide))
              have hnc : q_call M i (st.map (sy_g r)) (sy_S r S) = none := by
                cases hf : q_call M i (st.map (sy_g r)) (sy_S r S) with
                | none => rfl
                | some x =>
                  obtain ⟨mi, as, rest⟩ := x
                  rcases (sy_call_k hf).1 with a | a <;> omega
              refine ⟨_, List.Mem.head _, hs, ?_⟩
              rw [q_run, hi]
              simp only [hno, hnc, hr, sy_O]
            · obtain ⟨e, he, rfl⟩ := Option.map_eq_some_iff.mp h
              obtain ⟨⟨x, rfl, hw⟩, hr⟩ := sy_thr_ok r he
              refine ⟨_, List.Mem.head _, hs, ?_⟩
              have hno : q_step M (some xs) pc0 (.new x) (sy_L r L) (st.map (sy_g r)) (sy_S r S) = none := by
                unfold q_step
                have hk : sy_k (.new x) = 8 := rfl
                rw [sy_nx hk (fun x hx => sy_k_simple hx) (by decide), sy_nx hk (fun x hx => sy_k_ldi hx) (by decide), sy_nx hk (fun x hx => sy_k_sti hx) (by decide), sy_nx hk (fun x hx => sy_k_br hx) (by decide), sy_nx hk (fun x hx => sy_k_inc hx) (by decide), sy_nx hk (fun x hx => sy_k_oi hx) (by decide), sy_nx hk (fun x hx => sy_k_read hx) (by decide), hw]
                rfl
              have hnc : q_call M (.new x) (st.map (sy_g r)) (sy_S r S) = none := rfl
              have hnr : q_ret M (.new x) (st.map (sy_g r)) = none := rfl
              rw [q_run, hi]
              simp only [hno, hnc, hnr, hr, Option.map_some, sy_O]
              simp only [sy_S, List.map_append, List.map_cons, List.map_nil, sy_c]
theorem sy_sl (r : Nat → Int32) (as : List Value) : (lg_sl (as.map (sy_g r))).length = (lg_sl as).length := by
  induction as with
  | nil => rfl
  | cons v t ih =>
    simp only [lg_sl, List.map_cons, List.flatMap_cons, List.length_append] at ih ⊢
    rw [ih, sy_cat]
    split <;> rfl
theorem sy_args (r : Nat → Int32) (as : List Value) : ∀ i : Nat, lv_args i (as.map (sy_g r)) = sy_L r (lv_args i as) := by
  induction as with
  | nil => intro i; rfl
  | cons v t ih =>
    intro i
    simp only [List.map_cons, lv_args, sy_L, sy_cat]
    congr 1
    exact ih _
theorem sy_pc_ok {r : Nat → Int32} {xs : List Int32} {len : Nat} (hin : sy_in r xs) (hlen : xs.length = len) (T : List QM) (hT : ∀ M ∈ T, sy_srt (qm_c M) = true) (n : Nat) : ∀ (d : Nat) (PC : SP) (mi : Nat) (as : List Value) (S : QS) (l : List (SP × QO × QS)), sy_pc T len n d PC mi as S = some l → sy_sat r PC → ∃ q ∈ l, sy_sat r q.1 ∧ q_pc T (some xs) n d mi (as.map (sy_g r)) (sy_S r S) = some (sy_O r q.2.1, sy_S r q.2.2) := by
  intro d
  induction d with
  | zero => intro PC mi as S l h; simp [sy_pc] at h
  | succ d ih =>
    intro PC mi as S l h hs
    rw [sy_pc] at h
    split at h
    · cases h
    · rename_i M hM
      split at h
      · rename_i hle
        obtain ⟨q, h1, h2, h3⟩ := sy_run_ok hin hlen ih (hT M (List.mem_of_getElem? hM)) _ _ _ _ _ _ _ _ (fun z hz => by cases hz) h hs
        refine ⟨q, h1, h2, ?_⟩
        rw [q_pc, hM]
        simp only [sy_sl, if_pos hle, sy_args]
        exact h3
      · cases h
end SR
