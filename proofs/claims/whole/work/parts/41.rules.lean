/-! FROM THE BYTECODE TO FUNCTIONS, II: what the interpreter comes to, and a rule an instruction. -/
section GR
theorem q_run_le {M : QM} {ox : Option (List Int32)} {c1 c2 : Nat → List Value → QS → Option (QO × QS)} (hc : ∀ mi as S r, c1 mi as S = some r → c2 mi as S = some r) : ∀ (k k' pc : Nat) (L : QL) (st : List Value) (S : QS) (r : QO × QS), k ≤ k' → q_run c1 M ox k pc L st S = some r → q_run c2 M ox k' pc L st S = some r := by
  intro k
  induction k with
  | zero => intro k' pc L st S r hk h; simp [q_run] at h
  | succ k ih =>
    intro k' pc L st S r hk h
    obtain ⟨k', rfl⟩ : ∃ j, k' = j + 1 := ⟨k' - 1, by omega⟩
    rw [q_run] at h ⊢
    cases hc0 : q_code M pc with
    | none => simp only [hc0] at h; cases h
    | some i =>
      simp only [hc0] at h
      simp only
      cases hs : q_step M ox pc i L st S with
      | some t =>
        obtain ⟨pc', L', st', S'⟩ := t
        simp only [hs] at h
        simp only
        exact ih k' _ _ _ _ _ (by omega) h
      | none =>
        simp only [hs] at h
        simp only
        cases hq : q_call M i st S with
        | some t =>
          obtain ⟨mi, as, rest⟩ := t
          simp only [hq] at h
          simp only
          cases hm : c1 mi as S with
          | none => simp only [hm] at h; cases h
          | some t =>
            obtain ⟨o, S'⟩ := t
            rw [hc _ _ _ _ hm]
            simp only [hm] at h
            cases o with
            | inl v => exact ih k' _ _ _ _ _ (by omega) h
            | inr e =>
              simp only at h ⊢
              split at h
              · rename_i hh
                rw [if_pos hh]
                exact h
              · rename_i hh
                rw [if_neg hh]
                cases hd : q_hand M pc e L with
                | none => simp only [hd] at h; cases h
                | some t =>
                  obtain ⟨pc', L'⟩ := t
                  simp only [hd] at h
                  exact ih k' _ _ _ _ _ (by omega) h
        | none =>
          simp only [hq] at h
          exact h
theorem q_pc_le {T : List QM} {ox : Option (List Int32)} {n n' : Nat} (hn : n ≤ n') : ∀ (d mi : Nat) (as : List Value) (S : QS) (r : QO × QS), q_pc T ox n d mi as S = some r → q_pc T ox n' d mi as S = some r := by
  intro d
  induction d with
  | zero => intro mi as S r h; simp [q_pc] at h
  | succ d ih =>
    intro mi as S r h
    rw [q_pc] at h ⊢
    cases hT : T[mi]? with
    | none => simp only [hT] at h; cases h
    | some M =>
      simp only [hT] at h
      simp only
      split at h
      · rename_i hl
        rw [if_pos hl]
        exact q_run_le ih _ _ _ _ _ _ _ hn h
      · cases h
/-- from here the interpreter comes to an end with Q -/
def Go (xs : List Int32) (d : Nat) (M : QM) (pc : Nat) (L : QL) (st : List Value) (S : QS) (Q : QO → QS → Prop) : Prop := ∃ (n k : Nat) (o : QO) (S' : QS), q_run (q_pc qT (some xs) n d) M (some xs) k pc L st S = some (o, S') ∧ Q o S'
def Mt (xs : List Int32) (d mi : Nat) (as : List Value) (S : QS) (Q : QO → QS → Prop) : Prop := ∃ (n : Nat) (o : QO) (S' : QS), q_pc qT (some xs) n d mi as S = some (o, S') ∧ Q o S'
theorem Mt.imp {xs : List Int32} {d mi : Nat} {as : List Value} {S : QS} {Q Q' : QO → QS → Prop} (h : Mt xs d mi as S Q) (k : ∀ o S', Q o S' → Q' o S') : Mt xs d mi as S Q' := by
  obtain ⟨n, o, S', h1, h2⟩ := h
  exact ⟨n, o, S', h1, k _ _ h2⟩
theorem Mt.of {xs : List Int32} {d mi : Nat} {as : List Value} {S : QS} {Q : QO → QS → Prop} {M : QM} (hT : qT[mi]? = some M) (hl : (lg_sl as).length ≤ qm_l M) (h : Go xs d M 0 (lv_args 0 as) [] S Q) : Mt xs (d + 1) mi as S Q := by
  obtain ⟨n, k, o, S', h1, h2⟩ := h
  refine ⟨max n k, o, S', ?_, h2⟩
  rw [q_pc, hT]
  simp only
  rw [if_pos hl]
  exact q_run_le (fun _ _ _ _ hh => q_pc_le (Nat.le_max_left n k) _ _ _ _ _ hh) _ _ _ _ _ _ _ (Nat.le_max_right n k) h1
section GS
variable {xs : List Int32} {d : Nat} {M : QM} {pc : Nat} {L : QL} {st rest : List Value} {S : QS} {Q : QO → QS → Prop} {m : MM}
theorem Go.step {i : Instr} {pc' : Nat} {L' : QL} {st' : List Value} {S' : QS} (hc : q_code M pc = some i) (hs : q_step M (some xs) pc i L st S = some (pc', L', st', S')) (k : Go xs d M pc' L' st' S' Q) : Go xs d M pc L st S Q := by
  obtain ⟨n, k9, o, S9, h1, h2⟩ := k
  refine ⟨n, k9 + 1, o, S9, ?_, h2⟩
  rw [q_run, hc]
  simp only [hs]
  exact h1
theorem Go.ret {i : Instr} {v : Option Value} (hc : q_code M pc = some i) (hs : q_step M (some xs) pc i L st S = none) (hq : q_call M i st S = none) (hr : q_ret M i st = some v) (k : Q (.inl v) S) : Go xs d M pc L st S Q := by
  refine ⟨0, 1, .inl v, S, ?_, k⟩
  rw [q_run, hc]
  simp only [hs, hq, hr]
theorem Go.call {i : Instr} {mi : Nat} {as : List Value} {Q1 : QO → QS → Prop} (hc : q_code M pc = some i) (hs : q_step M (some xs) pc i L st S = none) (hq : q_call M i st S = some (mi, as, rest)) (hm : Mt xs d mi as S Q1)
    (k : ∀ v S', Q1 (.inl v) S' → Go xs d M (pc + 3) L (v.toList ++ rest) S' Q) (kx : ∀ e S', Q1 (.inr e) S' → (qm_h M = [] ∧ Q (.inr e) S') ∨ (qm_h M ≠ [] ∧ ∃ pc' L', q_hand M pc e L = some (pc', L') ∧ Go xs d M pc' L' [] S' Q)) : Go xs d M pc L st S Q := by
  obtain ⟨n, o, S1, h1, h2⟩ := hm
  have up : ∀ {n1 k1 pc1 L1 st1 S1 r}, q_run (q_pc qT (some xs) n1 d) M (some xs) k1 pc1 L1 st1 S1 = some r → q_run (q_pc qT (some xs) (max n n1) d) M (some xs) k1 pc1 L1 st1 S1 = some r := fun {n1 k1 pc1 L1 st1 S1 r} hh => q_run_le (fun _ _ _ _ h9 => q_pc_le (Nat.le_max_right n n1) _ _ _ _ _ h9) _ _ _ _ _ _ _ (Nat.le_refl _) hh
  cases o with
  | inl v =>
    obtain ⟨n2, k2, o2, S2, g1, g2⟩ := k v S1 h2
    refine ⟨max n n2, k2 + 1, o2, S2, ?_, g2⟩
    rw [q_run, hc]
    simp only [hs, hq]
    rw [q_pc_le (Nat.le_max_left n n2) _ _ _ _ _ h1]
    exact up g1
  | inr e =>
    rcases kx e S1 h2 with ⟨hh, hQ⟩ | ⟨hh, pc', L', hd, n2, k2, o2, S2, g1, g2⟩
    · refine ⟨n, 1, .inr e, S1, ?_, hQ⟩
      rw [q_run, hc]
      simp only [hs, hq]
      rw [h1]
      simp only
      rw [if_pos hh]
    · refine ⟨max n n2, k2 + 1, o2, S2, ?_, g2⟩
      rw [q_run, hc]
      simp only [hs, hq]
      rw [q_pc_le (Nat.le_max_left n n2) _ _ _ _ _ h1]
      simp only
      rw [if_neg hh, hd]
      exact up g1
/-- what a method's end looks like: its value (or the exception), the memory behind -/
def q_out (t : Nat) (o : QO) (z : Int) : Prop := if t = 9 then o = .inl none else ∃ v, o = .inl (some v) ∧ q_is t v z
def q_oux (t : Nat) (o : QO) (r : Int ⊕ Nat) : Prop := match r with
  | .inl z => q_out t o z
  | .inr e => o = .inr e
theorem go_k {i : Instr} {x : Int32} {z : Int} {ln : Nat} (hc : q_code M pc = some i) (hs : ∀ st, q_simple i st = some (.int x :: st)) (hn : q_len i = ln) (hz : x.toInt = z) (k : ∀ v, q_is 0 v z → Go xs d M (pc + ln) L (v :: st) S Q) : Go xs d M pc L st S Q := by
  subst hn
  refine Go.step (pc' := pc + q_len i) (L' := L) (st' := .int x :: st) (S' := S) hc ?_ (k _ ⟨x, rfl, hz⟩)
  unfold q_step
  rw [hs]
theorem go_iconst {n z : Int} (hc : q_code M pc = some (.iconst n)) (hz : (Int32.ofInt n).toInt = z) (k : ∀ v, q_is 0 v z → Go xs d M (pc + 1) L (v :: st) S Q) : Go xs d M pc L st S Q := go_k hc (fun _ => rfl) rfl hz k
theorem go_bipush {n z : Int} (hc : q_code M pc = some (.bipush n)) (hz : (Int8.ofInt n).toInt32.toInt = z) (k : ∀ v, q_is 0 v z → Go xs d M (pc + 2) L (v :: st) S Q) : Go xs d M pc L st S Q := go_k hc (fun _ => rfl) rfl hz k
theorem go_sipush {n z : Int} (hc : q_code M pc = some (.sipush n)) (hz : (Int16.ofInt n).toInt32.toInt = z) (k : ∀ v, q_is 0 v z → Go xs d M (pc + 3) L (v :: st) S Q) : Go xs d M pc L st S Q := go_k hc (fun _ => rfl) rfl hz k
theorem go_lconst {n : Fin 2} {z : Int} (hc : q_code M pc = some (.lconst n)) (hz : (Int64.ofNat (n : Nat)).toInt = z) (k : ∀ v, q_is 1 v z → Go xs d M (pc + 1) L (v :: st) S Q) : Go xs d M pc L st S Q :=
  Go.step (pc' := pc + 1) (L' := L) (st' := .long _ :: st) (S' := S) hc rfl (k _ ⟨_, rfl, hz⟩)
theorem go_null (hc : q_code M pc = some .aconst_null) (k : ∀ v, q_is 2 v 0 → Go xs d M (pc + 1) L (v :: st) S Q) : Go xs d M pc L st S Q :=
  Go.step (pc' := pc + 1) (L' := L) (st' := .null :: st) (S' := S) hc rfl (k _ (Or.inl ⟨rfl, rfl⟩))
theorem go_ii {i : Instr} {f : Int32 → Int32 → Int32} {g : Int → Int → Int} {vx vy : Value} {a b : Int} (hc : q_code M pc = some i) (hs : ∀ x y st, q_simple i (.int y :: .int x :: st) = some (.int (f x y) :: st)) (hn : q_len i = 1) (hg : ∀ x y : Int32, (f x y).toInt = g x.toInt y.toInt) (hx : q_is 0 vx a) (hy : q_is 0 vy b) (k : ∀ v, q_is 0 v (g a b) → Go xs d M (pc + 1) L (v :: st) S Q) : Go xs d M pc L (vy :: vx :: st) S Q := by
  obtain ⟨x, rfl, rfl⟩ := hx
  obtain ⟨y, rfl, rfl⟩ := hy
  refine Go.step (pc' := pc + q_len i) (L' := L) (st' := .int (f x y) :: st) (S' := S) hc ?_ (by rw [hn]; exact k _ ⟨_, rfl, hg x y⟩)
  unfold q_step
  rw [hs]
theorem go_ll {i : Instr} {f : Int64 → Int64 → Int64} {g : Int → Int → Int} {vx vy : Value} {a b : Int} (hc : q_code M pc = some i) (hs : ∀ x y st, q_simple i (.long y :: .long x :: st) = some (.long (f x y) :: st)) (hn : q_len i = 1) (hg : ∀ x y : Int64, (f x y).toInt = g x.toInt y.toInt) (hx : q_is 1 vx a) (hy : q_is 1 vy b) (k : ∀ v, q_is 1 v (g a b) → Go xs d M (pc + 1) L (v :: st) S Q) : Go xs d M pc L (vy :: vx :: st) S Q := by
  obtain ⟨x, rfl, rfl⟩ := hx
  obtain ⟨y, rfl, rfl⟩ := hy
  refine Go.step (pc' := pc + q_len i) (L' := L) (st' := .long (f x y) :: st) (S' := S) hc ?_ (by rw [hn]; exact k _ ⟨_, rfl, hg x y⟩)
  unfold q_step
  rw [hs]
theorem go_li {i : Instr} {f : Int64 → Int32 → Int64} {g : Int → Int → Int} {vx vy : Value} {a b : Int} (hc : q_code M pc = some i) (hs : ∀ x y st, q_simple i (.int y :: .long x :: st) = some (.long (f x y) :: st)) (hn : q_len i = 1) (hg : ∀ (x : Int64) (y : Int32), (f x y).toInt = g x.toInt y.toInt) (hx : q_is 1 vx a) (hy : q_is 0 vy b) (k : ∀ v, q_is 1 v (g a b) → Go xs d M (pc + 1) L (v :: st) S Q) : Go xs d M pc L (vy :: vx :: st) S Q := by
  obtain ⟨x, rfl, rfl⟩ := hx
  obtain ⟨y, rfl, rfl⟩ := hy
  refine Go.step (pc' := pc + q_len i) (L' := L) (st' := .long (f x y) :: st) (S' := S) hc ?_ (by rw [hn]; exact k _ ⟨_, rfl, hg x y⟩)
  unfold q_step
  rw [hs]
theorem go_iadd {vx vy : Value} {a b : Int} (hc : q_code M pc = some .iadd) (hx : q_is 0 vx a) (hy : q_is 0 vy b) (k : ∀ v, q_is 0 v (w32 (a + b)) → Go xs d M (pc + 1) L (v :: st) S Q) : Go xs d M pc L (vy :: vx :: st) S Q :=
  go_ii (f := fun x y => x + y) (g := fun a b => w32 (a + b)) hc (fun _ _ _ => rfl) rfl (fun x y => Int32.toInt_add x y) hx hy k
theorem go_isub {vx vy : Value} {a b : Int} (hc : q_code M pc = some .isub) (hx : q_is 0 vx a) (hy : q_is 0 vy b) (k : ∀ v, q_is 0 v (w32 (a - b)) → Go xs d M (pc + 1) L (v :: st) S Q) : Go xs d M pc L (vy :: vx :: st) S Q :=
  go_ii (f := fun x y => x - y) (g := fun a b => w32 (a - b)) hc (fun _ _ _ => rfl) rfl (fun x y => Int32.toInt_sub x y) hx hy k
theorem go_imul {vx vy : Value} {a b : Int} (hc : q_code M pc = some .imul) (hx : q_is 0 vx a) (hy : q_is 0 vy b) (k : ∀ v, q_is 0 v (w32 (a * b)) → Go xs d M (pc + 1) L (v :: st) S Q) : Go xs d M pc L (vy :: vx :: st) S Q :=
  go_ii (f := fun x y => x * y) (g := fun a b => w32 (a * b)) hc (fun _ _ _ => rfl) rfl (fun x y => Int32.toInt_mul x y) hx hy k
theorem go_iand {vx vy : Value} {a b : Int} (hc : q_code M pc = some .iand) (hx : q_is 0 vx a) (hy : q_is 0 vy b) (k : ∀ v, q_is 0 v (iAnd a b) → Go xs d M (pc + 1) L (v :: st) S Q) : Go xs d M pc L (vy :: vx :: st) S Q :=
  go_ii (f := fun x y => x &&& y) (g := iAnd) hc (fun _ _ _ => rfl) rfl (fun x y => by unfold iAnd; rw [Int32.ofInt_toInt, Int32.ofInt_toInt]) hx hy k
theorem go_ior {vx vy : Value} {a b : Int} (hc : q_code M pc = some .ior) (hx : q_is 0 vx a) (hy : q_is 0 vy b) (k : ∀ v, q_is 0 v (iOr a b) → Go xs d M (pc + 1) L (v :: st) S Q) : Go xs d M pc L (vy :: vx :: st) S Q :=
  go_ii (f := fun x y => x ||| y) (g := iOr) hc (fun _ _ _ => rfl) rfl (fun x y => by unfold iOr; rw [Int32.ofInt_toInt, Int32.ofInt_toInt]) hx hy k
theorem go_ixor {vx vy : Value} {a b : Int} (hc : q_code M pc = some .ixor) (hx : q_is 0 vx a) (hy : q_is 0 vy b) (k : ∀ v, q_is 0 v (iXor a b) → Go xs d M (pc + 1) L (v :: st) S Q) : Go xs d M pc L (vy :: vx :: st) S Q :=
  go_ii (f := fun x y => x ^^^ y) (g := iXor) hc (fun _ _ _ => rfl) rfl (fun x y => by unfold iXor; rw [Int32.ofInt_toInt, Int32.ofInt_toInt]) hx hy k
theorem go_ishl {vx vy : Value} {a b : Int} (hc : q_code M pc = some .ishl) (hx : q_is 0 vx a) (hy : q_is 0 vy b) (k : ∀ v, q_is 0 v (iShl a b) → Go xs d M (pc + 1) L (v :: st) S Q) : Go xs d M pc L (vy :: vx :: st) S Q :=
  go_ii (f := fun x y => x <<< (y &&& 31)) (g := iShl) hc (fun _ _ _ => rfl) rfl (fun x y => by unfold iShl; rw [Int32.ofInt_toInt, Int32.ofInt_toInt]) hx hy k
theorem go_ishr {vx vy : Value} {a b : Int} (hc : q_code M pc = some .ishr) (hx : q_is 0 vx a) (hy : q_is 0 vy b) (k : ∀ v, q_is 0 v (iShr a b) → Go xs d M (pc + 1) L (v :: st) S Q) : Go xs d M pc L (vy :: vx :: st) S Q :=
  go_ii (f := fun x y => x >>> (y &&& 31)) (g := iShr) hc (fun _ _ _ => rfl) rfl (fun x y => by unfold iShr; rw [Int32.ofInt_toInt, Int32.ofInt_toInt]) hx hy k
theorem w32_bm (z : Int) : w32 (w32 z) = w32 z := by unfold w32; exact Int.bmod_bmod
theorem rem32 (x y : Int32) : (x - x / y * y).toInt = x.toInt.tmod y.toInt := by
  rw [Int32.toInt_sub, Int32.toInt_mul, Int32.toInt_div]
  simp only [Int.sub_bmod_bmod, Int.bmod_mul_bmod]
  have h : x.toInt - x.toInt.tdiv y.toInt * y.toInt = x.toInt.tmod y.toInt := by
    have := Int.mul_tdiv_add_tmod x.toInt y.toInt
    rw [Int.mul_comm] at this
    omega
  rw [h, ← Int32.toInt_mod]
  have h9 := Int32.toInt_ofInt (n := (x % y).toInt)
  rw [Int32.ofInt_toInt] at h9
  exact h9.symm
theorem rem64 (x y : Int64) : (x - x / y * y).toInt = x.toInt.tmod y.toInt := by
  rw [Int64.toInt_sub, Int64.toInt_mul, Int64.toInt_div]
  simp only [Int.sub_bmod_bmod, Int.bmod_mul_bmod]
  have h : x.toInt - x.toInt.tdiv y.toInt * y.toInt = x.toInt.tmod y.toInt := by
    have := Int.mul_tdiv_add_tmod x.toInt y.toInt
    rw [Int.mul_comm] at this
    omega
  rw [h, ← Int64.toInt_mod]
  have h9 := Int64.toInt_ofInt (n := (x % y).toInt)
  rw [Int64.ofInt_toInt] at h9
  exact h9.symm
theorem go_idiv {vx vy : Value} {a b : Int} (hc : q_code M pc = some .idiv) (hx : q_is 0 vx a) (hy : q_is 0 vy b) (hb : b ≠ 0) (k : ∀ v, q_is 0 v (w32 (a.tdiv b)) → Go xs d M (pc + 1) L (v :: st) S Q) : Go xs d M pc L (vy :: vx :: st) S Q := by
  obtain ⟨x, rfl, rfl⟩ := hx
  obtain ⟨y, rfl, rfl⟩ := hy
  have hy0 : ¬ y = 0 := fun h => hb (by rw [h]; rfl)
  refine Go.step (pc' := pc + 1) (L' := L) (st' := .int (x / y) :: st) (S' := S) hc ?_ (k _ ⟨_, rfl, Int32.toInt_div x y⟩)
  unfold q_step
  rw [show q_simple .idiv (.int y :: .int x :: st) = some (.int (x / y) :: st) from if_neg hy0]
  rfl
theorem go_irem {vx vy : Value} {a b : Int} (hc : q_code M pc = some .irem) (hx : q_is 0 vx a) (hy : q_is 0 vy b) (hb : b ≠ 0) (k : ∀ v, q_is 0 v (a.tmod b) → Go xs d M (pc + 1) L (v :: st) S Q) : Go xs d M pc L (vy :: vx :: st) S Q := by
  obtain ⟨x, rfl, rfl⟩ := hx
  obtain ⟨y, rfl, rfl⟩ := hy
  have hy0 : ¬ y = 0 := fun h => hb (by rw [h]; rfl)
  refine Go.step (pc' := pc + 1) (L' := L) (st' := .int (x - x / y * y) :: st) (S' := S) hc ?_ (k _ ⟨_, rfl, rem32 x y⟩)
  unfold q_step
  rw [show q_simple .irem (.int y :: .int x :: st) = some (.int (x - x / y * y) :: st) from if_neg hy0]
  rfl
theorem go_ldiv {vx vy : Value} {a b : Int} (hc : q_code M pc = some .ldiv) (hx : q_is 1 vx a) (hy : q_is 1 vy b) (hb : b ≠ 0) (k : ∀ v, q_is 1 v (w64 (a.tdiv b)) → Go xs d M (pc + 1) L (v :: st) S Q) : Go xs d M pc L (vy :: vx :: st) S Q := by
  obtain ⟨x, rfl, rfl⟩ := hx
  obtain ⟨y, rfl, rfl⟩ := hy
  have hy0 : ¬ y = 0 := fun h => hb (by rw [h]; rfl)
  refine Go.step (pc' := pc + 1) (L' := L) (st' := .long (x / y) :: st) (S' := S) hc ?_ (k _ ⟨_, rfl, Int64.toInt_div x y⟩)
  unfold q_step
  rw [show q_simple .ldiv (.long y :: .long x :: st) = some (.long (x / y) :: st) from if_neg hy0]
  rfl
theorem go_lrem {vx vy : Value} {a b : Int} (hc : q_code M pc = some .lrem) (hx : q_is 1 vx a) (hy : q_is 1 vy b) (hb : b ≠ 0) (k : ∀ v, q_is 1 v (a.tmod b) → Go xs d M (pc + 1) L (v :: st) S Q) : Go xs d M pc L (vy :: vx :: st) S Q := by
  obtain ⟨x, rfl, rfl⟩ := hx
  obtain ⟨y, rfl, rfl⟩ := hy
  have hy0 : ¬ y = 0 := fun h => hb (by rw [h]; rfl)
  refine Go.step (pc' := pc + 1) (L' := L) (st' := .long (x - x / y * y) :: st) (S' := S) hc ?_ (k _ ⟨_, rfl, rem64 x y⟩)
  unfold q_step
  rw [show q_simple .lrem (.long y :: .long x :: st) = some (.long (x - x / y * y) :: st) from if_neg hy0]
  rfl
theorem go_i2l {vx : Value} {a : Int} (hc : q_code M pc = some .i2l) (hx : q_is 0 vx a) (k : ∀ v, q_is 1 v a → Go xs d M (pc + 1) L (v :: st) S Q) : Go xs d M pc L (vx :: st) S Q := by
  obtain ⟨x, rfl, rfl⟩ := hx
  exact Go.step (pc' := pc + 1) (L' := L) (st' := .long x.toInt64 :: st) (S' := S) hc rfl (k _ ⟨_, rfl, Int32.toInt_toInt64 x⟩)
theorem go_l2i {vx : Value} {a : Int} (hc : q_code M pc = some .l2i) (hx : q_is 1 vx a) (k : ∀ v, q_is 0 v (w32 a) → Go xs d M (pc + 1) L (v :: st) S Q) : Go xs d M pc L (vx :: st) S Q := by
  obtain ⟨x, rfl, rfl⟩ := hx
  exact Go.step (pc' := pc + 1) (L' := L) (st' := .int x.toInt32 :: st) (S' := S) hc rfl (k _ ⟨_, rfl, Int64.toInt_toInt32 x⟩)
theorem go_ladd {vx vy : Value} {a b : Int} (hc : q_code M pc = some .ladd) (hx : q_is 1 vx a) (hy : q_is 1 vy b) (k : ∀ v, q_is 1 v (w64 (a + b)) → Go xs d M (pc + 1) L (v :: st) S Q) : Go xs d M pc L (vy :: vx :: st) S Q :=
  go_ll (f := fun x y => x + y) (g := fun a b => w64 (a + b)) hc (fun _ _ _ => rfl) rfl (fun x y => Int64.toInt_add x y) hx hy k
theorem go_lmul {vx vy : Value} {a b : Int} (hc : q_code M pc = some .lmul) (hx : q_is 1 vx a) (hy : q_is 1 vy b) (k : ∀ v, q_is 1 v (w64 (a * b)) → Go xs d M (pc + 1) L (v :: st) S Q) : Go xs d M pc L (vy :: vx :: st) S Q :=
  go_ll (f := fun x y => x * y) (g := fun a b => w64 (a * b)) hc (fun _ _ _ => rfl) rfl (fun x y => Int64.toInt_mul x y) hx hy k
theorem go_land {vx vy : Value} {a b : Int} (hc : q_code M pc = some .land) (hx : q_is 1 vx a) (hy : q_is 1 vy b) (k : ∀ v, q_is 1 v (lAnd a b) → Go xs d M (pc + 1) L (v :: st) S Q) : Go xs d M pc L (vy :: vx :: st) S Q :=
  go_ll (f := fun x y => x &&& y) (g := lAnd) hc (fun _ _ _ => rfl) rfl (fun x y => by unfold lAnd; rw [Int64.ofInt_toInt, Int64.ofInt_toInt]) hx hy k
theorem go_lor {vx vy : Value} {a b : Int} (hc : q_code M pc = some .lor) (hx : q_is 1 vx a) (hy : q_is 1 vy b) (k : ∀ v, q_is 1 v (lOr a b) → Go xs d M (pc + 1) L (v :: st) S Q) : Go xs d M pc L (vy :: vx :: st) S Q :=
  go_ll (f := fun x y => x ||| y) (g := lOr) hc (fun _ _ _ => rfl) rfl (fun x y => by unfold lOr; rw [Int64.ofInt_toInt, Int64.ofInt_toInt]) hx hy k
theorem go_lshl {vx vy : Value} {a b : Int} (hc : q_code M pc = some .lshl) (hx : q_is 1 vx a) (hy : q_is 0 vy b) (k : ∀ v, q_is 1 v (lShl a b) → Go xs d M (pc + 1) L (v :: st) S Q) : Go xs d M pc L (vy :: vx :: st) S Q :=
  go_li (f := fun x y => x <<< (y.toInt64 &&& 63)) (g := lShl) hc (fun _ _ _ => rfl) rfl (fun x y => by unfold lShl; rw [Int64.ofInt_toInt, Int32.ofInt_toInt]) hx hy k
theorem go_lshr {vx vy : Value} {a b : Int} (hc : q_code M pc = some .lshr) (hx : q_is 1 vx a) (hy : q_is 0 vy b) (k : ∀ v, q_is 1 v (lShr a b) → Go xs d M (pc + 1) L (v :: st) S Q) : Go xs d M pc L (vy :: vx :: st) S Q :=
  go_li (f := fun x y => x >>> (y.toInt64 &&& 63)) (g := lShr) hc (fun _ _ _ => rfl) rfl (fun x y => by unfold lShr; rw [Int64.ofInt_toInt, Int32.ofInt_toInt]) hx hy k
theorem go_lushr {vx vy : Value} {a b : Int} (hc : q_code M pc = some .lushr) (hx : q_is 1 vx a) (hy : q_is 0 vy b) (k : ∀ v, q_is 1 v (lUshr a b) → Go xs d M (pc + 1) L (v :: st) S Q) : Go xs d M pc L (vy :: vx :: st) S Q :=
  go_li (f := fun x y => (x.toUInt64 >>> (y.toInt64.toUInt64 &&& Int64.toUInt64 63)).toInt64) (g := lUshr) hc (fun _ _ _ => rfl) rfl (fun x y => by unfold lUshr; rw [Int64.ofInt_toInt, Int32.ofInt_toInt]) hx hy k
theorem go_lcmp {vx vy : Value} {a b : Int} (hc : q_code M pc = some .lcmp) (hx : q_is 1 vx a) (hy : q_is 1 vy b) (k : ∀ v, q_is 0 v (lCmp a b) → Go xs d M (pc + 1) L (v :: st) S Q) : Go xs d M pc L (vy :: vx :: st) S Q := by
  obtain ⟨x, rfl, rfl⟩ := hx
  obtain ⟨y, rfl, rfl⟩ := hy
  refine Go.step (pc' := pc + 1) (L' := L) (st' := .int (lg_cmp x y) :: st) (S' := S) hc rfl (k _ ⟨_, rfl, ?_⟩)
  unfold lg_cmp lCmp
  simp only [gt_iff_lt, Int64.lt_iff_toInt_lt, ← Int64.toInt_inj]
  repeat' split
  all_goals first | rfl | omega
theorem go_dup {v : Value} {t : Nat} {z : Int} (hc : q_code M pc = some .dup) (hv : q_is t v z) (ht : t = 0 ∨ t = 2) (k : Go xs d M (pc + 1) L (v :: v :: st) S Q) : Go xs d M pc L (v :: st) S Q := by
  refine Go.step (pc' := pc + 1) (L' := L) (st' := v :: v :: st) (S' := S) hc ?_ k
  unfold q_step
  rw [show q_simple .dup (v :: st) = some (v :: v :: st) from if_pos (q_is_cat hv ht)]
  rfl
theorem go_pop {v : Value} {t : Nat} {z : Int} (hc : q_code M pc = some .pop) (hv : q_is t v z) (ht : t = 0 ∨ t = 2) (k : Go xs d M (pc + 1) L st S Q) : Go xs d M pc L (v :: st) S Q := by
  refine Go.step (pc' := pc + 1) (L' := L) (st' := st) (S' := S) hc ?_ k
  unfold q_step
  rw [show q_simple .pop (v :: st) = some st from if_pos (q_is_cat hv ht)]
  rfl
theorem go_dup_x1 {v w : Value} {t u : Nat} {z y : Int} (hc : q_code M pc = some .dup_x1) (hv : q_is t v z) (ht : t = 0 ∨ t = 2) (hw : q_is u w y) (hu : u = 0 ∨ u = 2) (k : Go xs d M (pc + 1) L (v :: w :: v :: st) S Q) : Go xs d M pc L (v :: w :: st) S Q := by
  refine Go.step (pc' := pc + 1) (L' := L) (st' := v :: w :: v :: st) (S' := S) hc ?_ k
  unfold q_step
  rw [show q_simple .dup_x1 (v :: w :: st) = some (v :: w :: v :: st) from if_pos ⟨q_is_cat hv ht, q_is_cat hw hu⟩]
  rfl
theorem go_dup2 {v w : Value} {t u : Nat} {z y : Int} (hc : q_code M pc = some .dup2) (hv : q_is t v z) (ht : t = 0 ∨ t = 2) (hw : q_is u w y) (hu : u = 0 ∨ u = 2) (k : Go xs d M (pc + 1) L (v :: w :: v :: w :: st) S Q) : Go xs d M pc L (v :: w :: st) S Q := by
  refine Go.step (pc' := pc + 1) (L' := L) (st' := v :: w :: v :: w :: st) (S' := S) hc ?_ k
  unfold q_step
  rw [show q_simple .dup2 (v :: w :: st) = some (v :: w :: v :: w :: st) from if_pos ⟨q_is_cat hv ht, q_is_cat hw hu⟩]
  rfl
/-- loads -/
theorem q_is_tag {t : Nat} {v : Value} {z : Int} (h : q_is t v z) (ht : t ≤ 2) : q_tag v = t := by
  match t, ht with
  | 0, _ => obtain ⟨x, rfl, -⟩ := h; rfl
  | 1, _ => obtain ⟨x, rfl, -⟩ := h; rfl
  | 2, _ => rcases h with ⟨rfl, -⟩ | ⟨r, rfl, -⟩ <;> rfl
theorem go_ld {i : Instr} {t n ln : Nat} {v : Value} {z : Int} (hc : q_code M pc = some i) (hs : ∀ st, q_simple i st = none) (hi : q_ldi i = some (t, n)) (ht : t ≤ 2) (hn : q_len i = ln) (hl : q_lo L n = some v) (hv : q_is t v z) (k : Go xs d M (pc + ln) L (v :: st) S Q) : Go xs d M pc L st S Q := by
  subst hn
  refine Go.step (pc' := pc + q_len i) (L' := L) (st' := v :: st) (S' := S) hc ?_ k
  unfold q_step
  rw [hs, hi]
  simp only
  rw [hl]
  simp only
  rw [if_pos (q_is_tag hv ht)]
theorem go_iload {n : Nat} {v : Value} {z : Int} (hc : q_code M pc = some (.iload n)) (hl : q_lo L n = some v) (hv : q_is 0 v z) (k : Go xs d M (pc + 2) L (v :: st) S Q) : Go xs d M pc L st S Q := go_ld hc (fun _ => rfl) rfl (by decide) rfl hl hv k
theorem go_iload_n {n : Fin 4} {v : Value} {z : Int} (hc : q_code M pc = some (.iload_n n)) (hl : q_lo L (n : Nat) = some v) (hv : q_is 0 v z) (k : Go xs d M (pc + 1) L (v :: st) S Q) : Go xs d M pc L st S Q := go_ld hc (fun _ => rfl) rfl (by decide) rfl hl hv k
theorem go_lload {n : Nat} {v : Value} {z : Int} (hc : q_code M pc = some (.lload n)) (hl : q_lo L n = some v) (hv : q_is 1 v z) (k : Go xs d M (pc + 2) L (v :: st) S Q) : Go xs d M pc L st S Q := go_ld hc (fun _ => rfl) rfl (by decide) rfl hl hv k
theorem go_lload_n {n : Fin 4} {v : Value} {z : Int} (hc : q_code M pc = some (.lload_n n)) (hl : q_lo L (n : Nat) = some v) (hv : q_is 1 v z) (k : Go xs d M (pc + 1) L (v :: st) S Q) : Go xs d M pc L st S Q := go_ld hc (fun _ => rfl) rfl (by decide) rfl hl hv k
theorem go_aload {n : Nat} {v : Value} {z : Int} (hc : q_code M pc = some (.aload n)) (hl : q_lo L n = some v) (hv : q_is 2 v z) (k : Go xs d M (pc + 2) L (v :: st) S Q) : Go xs d M pc L st S Q := go_ld hc (fun _ => rfl) rfl (by decide) rfl hl hv k
theorem go_aload_n {n : Fin 4} {v : Value} {z : Int} (hc : q_code M pc = some (.aload_n n)) (hl : q_lo L (n : Nat) = some v) (hv : q_is 2 v z) (k : Go xs d M (pc + 1) L (v :: st) S Q) : Go xs d M pc L st S Q := go_ld hc (fun _ => rfl) rfl (by decide) rfl hl hv k
/-- stores: the new locals have v at n, and the others as they were -/
def q_kp (L L' : QL) (n : Nat) : Prop := ∀ (j : Nat) (w : Value), q_lo L j = some w → j ≠ n → (j + 1 ≠ n ∨ w.category = 1) → q_lo L' j = some w
theorem q_lo_fil {L : QL} {f : Nat × Value → Bool} {j : Nat} {w : Value} (h : q_lo L j = some w) (hf : ∀ q : Nat × Value, q.1 = j → q.2 = w → f q = true) : q_lo (L.filter f) j = some w := by
  unfold q_lo at h ⊢
  induction L with
  | nil => cases h
  | cons q t ih =>
    rw [List.find?_cons] at h
    rw [List.filter_cons]
    by_cases hq : (q.1 == j) = true
    · rw [hq] at h
      simp only [Option.map_some, Option.some.injEq] at h
      rw [if_pos (hf q (by simpa using hq) h), List.find?_cons, hq]
      simp [h]
    · have hq2 : (q.1 == j) = false := by simpa using hq
      rw [hq2] at h
      simp only at h
      split
      · rw [List.find?_cons, hq2]
        exact ih h
      · exact ih h
theorem q_s1_kp (L : QL) (n : Nat) (v : Value) : q_lo (q_s1 L n v) n = some v ∧ q_kp L (q_s1 L n v) n := by
  refine ⟨by simp [q_s1, q_lo], fun j w h hj hc => ?_⟩
  have hb : (n == j) = false := by simpa using fun h : n = j => hj h.symm
  have : q_lo (q_s1 L n v) j = q_lo (L.filter (fun q => !(q.1 == n) && !(q.1 + 1 == n && q.2.category == 2))) j := by
    unfold q_s1 q_lo
    rw [List.find?_cons, hb]
  rw [this]
  refine q_lo_fil h fun q h1 h2 => ?_
  subst h1
  subst h2
  rcases hc with hc | hc
  · simp [hj, hc]
  · simp [hj, hc]
theorem q_s2_kp (L : QL) (n : Nat) (v : Value) : q_lo (q_s2 L n v) n = some v ∧ ∀ (j : Nat) (w : Value), q_lo L j = some w → j ≠ n → j ≠ n + 1 → (j + 1 ≠ n ∨ w.category = 1) → q_lo (q_s2 L n v) j = some w := by
  refine ⟨by simp [q_s2, q_lo], fun j w h hj hj2 hc => ?_⟩
  have hb : (n == j) = false := by simpa using fun h : n = j => hj h.symm
  have : q_lo (q_s2 L n v) j = q_lo (L.filter (fun q => !(q.1 == n) && (!(q.1 == n + 1) && !(q.1 + 1 == n && q.2.category == 2)))) j := by
    unfold q_s2 q_lo
    rw [List.find?_cons, hb]
  rw [this]
  refine q_lo_fil h fun q h1 h2 => ?_
  subst h1
  subst h2
  rcases hc with hc | hc
  · simp [hj, hj2, hc]
  · simp [hj, hj2, hc]
theorem go_st {i : Instr} {t n ln : Nat} {v : Value} {z : Int} (hc : q_code M pc = some i) (hs : ∀ st, q_simple i st = none) (hi0 : q_ldi i = none) (hi : q_sti i = some (t, n)) (ht : t = 0 ∨ t = 2) (hn : q_len i = ln) (hml : n < qm_l M) (hv : q_is t v z) (k : ∀ L', q_lo L' n = some v → q_kp L L' n → Go xs d M (pc + ln) L' st S Q) : Go xs d M pc L (v :: st) S Q := by
  subst hn
  have ht1 : ¬ t = 1 := by rcases ht with rfl | rfl <;> decide
  refine Go.step (pc' := pc + q_len i) (L' := q_s1 L n v) (st' := st) (S' := S) hc ?_ (k _ (q_s1_kp L n v).1 (q_s1_kp L n v).2)
  unfold q_step
  rw [hs, hi0, hi]
  simp only
  rw [if_neg ht1, if_pos ⟨q_is_tag hv (by rcases ht with rfl | rfl <;> decide), by omega⟩, if_neg ht1]
theorem go_istore {n : Nat} {v : Value} {z : Int} (hc : q_code M pc = some (.istore n)) (hml : n < qm_l M) (hv : q_is 0 v z) (k : ∀ L', q_lo L' n = some v → q_kp L L' n → Go xs d M (pc + 2) L' st S Q) : Go xs d M pc L (v :: st) S Q := go_st hc (fun _ => rfl) rfl rfl (Or.inl rfl) rfl hml hv k
theorem go_istore_n {n : Fin 4} {v : Value} {z : Int} (hc : q_code M pc = some (.istore_n n)) (hml : (n : Nat) < qm_l M) (hv : q_is 0 v z) (k : ∀ L', q_lo L' (n : Nat) = some v → q_kp L L' (n : Nat) → Go xs d M (pc + 1) L' st S Q) : Go xs d M pc L (v :: st) S Q := go_st hc (fun _ => rfl) rfl rfl (Or.inl rfl) rfl hml hv k
theorem go_astore {n : Nat} {v : Value} {z : Int} (hc : q_code M pc = some (.astore n)) (hml : n < qm_l M) (hv : q_is 2 v z) (k : ∀ L', q_lo L' n = some v → q_kp L L' n → Go xs d M (pc + 2) L' st S Q) : Go xs d M pc L (v :: st) S Q := go_st hc (fun _ => rfl) rfl rfl (Or.inr rfl) rfl hml hv k
theorem go_astore_n {n : Fin 4} {v : Value} {z : Int} (hc : q_code M pc = some (.astore_n n)) (hml : (n : Nat) < qm_l M) (hv : q_is 2 v z) (k : ∀ L', q_lo L' (n : Nat) = some v → q_kp L L' (n : Nat) → Go xs d M (pc + 1) L' st S Q) : Go xs d M pc L (v :: st) S Q := go_st hc (fun _ => rfl) rfl rfl (Or.inr rfl) rfl hml hv k
theorem go_lstore {n : Nat} {v : Value} {z : Int} (hc : q_code M pc = some (.lstore n)) (hml : n + 1 < qm_l M) (hv : q_is 1 v z) (k : ∀ L', q_lo L' n = some v → (∀ (j : Nat) (w : Value), q_lo L j = some w → j ≠ n → j ≠ n + 1 → (j + 1 ≠ n ∨ w.category = 1) → q_lo L' j = some w) → Go xs d M (pc + 2) L' st S Q) : Go xs d M pc L (v :: st) S Q := by
  refine Go.step (pc' := pc + 2) (L' := q_s2 L n v) (st' := st) (S' := S) hc ?_ (k _ (q_s2_kp L n v).1 (q_s2_kp L n v).2)
  unfold q_step
  rw [show q_simple (.lstore n) (v :: st) = none from rfl, show q_ldi (.lstore n) = none from rfl, show q_sti (.lstore n) = some (1, n) from rfl]
  simp only [if_true]
  rw [if_pos ⟨q_is_tag hv (by decide), by omega⟩]
  rfl
theorem go_iinc {n : Nat} {c : Int} {v : Value} {z c' : Int} (hc : q_code M pc = some (.iinc n c)) (hml : n < qm_l M) (hl : q_lo L n = some v) (hv : q_is 0 v z) (hc' : (Int32.ofInt c).toInt = c') (k : ∀ L' w, q_is 0 w (w32 (z + c')) → q_lo L' n = some w → q_kp L L' n → Go xs d M (pc + 3) L' st S Q) : Go xs d M pc L st S Q := by
  obtain ⟨x, rfl, rfl⟩ := hv
  refine Go.step (pc' := pc + 3) (L' := q_s1 L n (.int (x + Int32.ofInt c))) (st' := st) (S' := S) hc ?_ (k _ _ ⟨_, rfl, by rw [Int32.toInt_add, hc']; rfl⟩ (q_s1_kp L n _).1 (q_s1_kp L n _).2)
  unfold q_step
  rw [show q_simple (.iinc n c) st = none from rfl, show q_ldi (.iinc n c) = none from rfl, show q_sti (.iinc n c) = none from rfl, show q_br (.iinc n c) st = none from rfl]
  simp only [q_inc, hl]
  rw [if_pos hml]
/-- branches -/
theorem go_goto {o : Int} {t : Nat} (hc : q_code M pc = some (.goto o)) (hj : q_jump pc o = some t) (k : Go xs d M t L st S Q) : Go xs d M pc L st S Q := by
  refine Go.step (pc' := t) (L' := L) (st' := st) (S' := S) hc ?_ k
  unfold q_step
  rw [show q_simple (.goto o) st = none from rfl, show q_ldi (.goto o) = none from rfl, show q_sti (.goto o) = none from rfl, show q_br (.goto o) st = some (true, o, st) from rfl]
  simp only [hj]
  rfl
theorem go_br {i : Instr} {o : Int} {t : Nat} {b : Bool} {c : Prop} [Decidable c] {st' : List Value} (hc : q_code M pc = some i) (h0 : ∀ st, q_simple i st = none) (h1 : q_ldi i = none) (h2 : q_sti i = none) (hb : q_br i st = some (b, o, st')) (hn : q_len i = 3) (hbc : b = true ↔ c) (hj : q_jump pc o = some t) (k1 : c → Go xs d M t L st' S Q) (k2 : ¬ c → Go xs d M (pc + 3) L st' S Q) : Go xs d M pc L st S Q := by
  refine Go.step (pc' := if b = true then t else pc + 3) (L' := L) (st' := st') (S' := S) hc ?_ ?_
  · unfold q_step
    rw [h0, h1, h2, hb]
    simp only [hj, hn]
    rfl
  · by_cases hb1 : b = true
    · rw [if_pos hb1]; exact k1 (hbc.mp hb1)
    · rw [if_neg hb1]; exact k2 (fun h => hb1 (hbc.mpr h))
def cCmp (c : ClassFile.Cond) (a b : Int) : Prop := match c with
  | .eq => a = b
  | .ne => a ≠ b
  | .lt => a < b
  | .ge => b ≤ a
  | .gt => b < a
  | .le => a ≤ b
theorem q_cmp_c (c : ClassFile.Cond) (x y : Int32) : q_cmp c x y = true ↔ cCmp c x.toInt y.toInt := by
  cases c <;> simp [q_cmp, cCmp, ← Int32.toInt_inj, Int32.lt_iff_toInt_lt, Int32.le_iff_toInt_le]
theorem go_icmp {c : ClassFile.Cond} {o : Int} {t : Nat} {vx vy : Value} {a b : Int} {P : Prop} [Decidable P] (hc : q_code M pc = some (.if_icmp c o)) (hj : q_jump pc o = some t) (hx : q_is 0 vx a) (hy : q_is 0 vy b) (hP : cCmp c a b ↔ P) (k1 : P → Go xs d M t L st S Q) (k2 : ¬ P → Go xs d M (pc + 3) L st S Q) : Go xs d M pc L (vy :: vx :: st) S Q := by
  obtain ⟨x, rfl, rfl⟩ := hx
  obtain ⟨y, rfl, rfl⟩ := hy
  exact go_br hc (fun _ => rfl) rfl rfl rfl rfl ((q_cmp_c c x y).trans hP) hj k1 k2
theorem go_if {c : ClassFile.Cond} {o : Int} {t : Nat} {vx : Value} {a : Int} {P : Prop} [Decidable P] (hc : q_code M pc = some (.ifCond c o)) (hj : q_jump pc o = some t) (hx : q_is 0 vx a) (hP : cCmp c a 0 ↔ P) (k1 : P → Go xs d M t L st S Q) (k2 : ¬ P → Go xs d M (pc + 3) L st S Q) : Go xs d M pc L (vx :: st) S Q := by
  obtain ⟨x, rfl, rfl⟩ := hx
  exact go_br hc (fun _ => rfl) rfl rfl rfl rfl ((q_cmp_c c x 0).trans hP) hj k1 k2
theorem go_ifnull {o : Int} {t : Nat} {vx : Value} {a : Int} (hc : q_code M pc = some (.ifnull o)) (hj : q_jump pc o = some t) (hx : q_is 2 vx a) (k1 : a = 0 → Go xs d M t L st S Q) (k2 : ¬ a = 0 → Go xs d M (pc + 3) L st S Q) : Go xs d M pc L (vx :: st) S Q := by
  rcases hx with ⟨rfl, rfl⟩ | ⟨r, rfl, rfl, hr⟩
  · exact go_br (c := (0 : Int) = 0) hc (fun _ => rfl) rfl rfl rfl rfl (by simp) hj k1 k2
  · exact go_br (c := (r : Int) = 0) hc (fun _ => rfl) rfl rfl rfl rfl (by simp; omega) hj k1 k2
theorem go_ifnonnull {o : Int} {t : Nat} {vx : Value} {a : Int} (hc : q_code M pc = some (.ifnonnull o)) (hj : q_jump pc o = some t) (hx : q_is 2 vx a) (k1 : a ≠ 0 → Go xs d M t L st S Q) (k2 : ¬ a ≠ 0 → Go xs d M (pc + 3) L st S Q) : Go xs d M pc L (vx :: st) S Q := by
  rcases hx with ⟨rfl, rfl⟩ | ⟨r, rfl, rfl, hr⟩
  · exact go_br (c := (0 : Int) ≠ 0) hc (fun _ => rfl) rfl rfl rfl rfl (by simp) hj k1 k2
  · exact go_br (c := (r : Int) ≠ 0) hc (fun _ => rfl) rfl rfl rfl rfl (by simp; omega) hj k1 k2
def cAc (c : ClassFile.ACond) (a b : Int) : Prop := match c with
  | .eq => a = b
  | .ne => a ≠ b
theorem go_acmp {c : ClassFile.ACond} {o : Int} {t : Nat} {vx vy : Value} {a b : Int} {P : Prop} [Decidable P] (hc : q_code M pc = some (.if_acmp c o)) (hj : q_jump pc o = some t) (hx : q_is 2 vx a) (hy : q_is 2 vy b) (ha : a = 0 ∨ a = 1 ∨ 4 ≤ a) (hb : b = 0 ∨ b = 1 ∨ 4 ≤ b) (hP : cAc c a b ↔ P) (k1 : P → Go xs d M t L st S Q) (k2 : ¬ P → Go xs d M (pc + 3) L st S Q) : Go xs d M pc L (vy :: vx :: st) S Q := by
  have key : ∃ bb, q_same vx vy = some bb ∧ (bb = true ↔ a = b) := by
    rcases hx with ⟨rfl, rfl⟩ | ⟨r, rfl, rfl, hr⟩ <;> rcases hy with ⟨rfl, rfl⟩ | ⟨r2, rfl, rfl, hr2⟩
    · exact ⟨true, rfl, by simp⟩
    · exact ⟨false, rfl, by simp; omega⟩
    · exact ⟨false, rfl, by simp; omega⟩
    · refine ⟨decide (r = r2), ?_, by simp; omega⟩
      have g1 : r = 1 ∨ 4 ≤ r := by omega
      have g2 : r2 = 1 ∨ 4 ≤ r2 := by omega
      exact if_pos ⟨g1, g2⟩
  obtain ⟨bb, h1, h2⟩ := key
  cases c with
  | eq => exact go_br (b := bb) (c := P) hc (fun _ => rfl) rfl rfl (by simp only [q_br, h1]; rfl) rfl (h2.trans hP) hj k1 k2
  | ne =>
    refine go_br (b := !bb) (c := P) hc (fun _ => rfl) rfl rfl (by simp only [q_br, h1]; rfl) rfl (Iff.trans ?_ hP) hj k1 k2
    show (!bb) = true ↔ a ≠ b
    cases bb <;> simp at h2 ⊢ <;> exact h2
theorem go_tsin {dflt lo hi o : Int} {offs : Array Int} {t : Nat} {vx : Value} {a : Int} (hc : q_code M pc = some (.tableswitch dflt lo hi offs)) (hx : q_is 0 vx a) (h1 : lo ≤ a) (h2 : a ≤ hi) (ho : offs[(a - lo).toNat]? = some o) (hj : q_jump pc o = some t) (k : Go xs d M t L st S Q) : Go xs d M pc L (vx :: st) S Q := by
  obtain ⟨x, rfl, rfl⟩ := hx
  refine Go.step (pc' := t) (L' := L) (st' := st) (S' := S) hc ?_ k
  unfold q_step
  rw [show q_simple (.tableswitch dflt lo hi offs) (.int x :: st) = none from rfl, show q_ldi (.tableswitch dflt lo hi offs) = none from rfl, show q_sti (.tableswitch dflt lo hi offs) = none from rfl]
  have : q_br (.tableswitch dflt lo hi offs) (.int x :: st) = some (true, o, st) := by
    unfold q_br
    simp only
    rw [if_neg (by omega), ho]
    rfl
  rw [this]
  simp only [hj]
  rfl
theorem go_tsout {dflt lo hi : Int} {offs : Array Int} {t : Nat} {vx : Value} {a : Int} (hc : q_code M pc = some (.tableswitch dflt lo hi offs)) (hx : q_is 0 vx a) (h1 : a < lo ∨ hi < a) (hj : q_jump pc dflt = some t) (k : Go xs d M t L st S Q) : Go xs d M pc L (vx :: st) S Q := by
  obtain ⟨x, rfl, rfl⟩ := hx
  refine Go.step (pc' := t) (L' := L) (st' := st) (S' := S) hc ?_ k
  unfold q_step
  rw [show q_simple (.tableswitch dflt lo hi offs) (.int x :: st) = none from rfl, show q_ldi (.tableswitch dflt lo hi offs) = none from rfl, show q_sti (.tableswitch dflt lo hi offs) = none from rfl]
  have : q_br (.tableswitch dflt lo hi offs) (.int x :: st) = some (true, dflt, st) := by
    unfold q_br
    simp only
    rw [if_pos h1]
  rw [this]
  simp only [hj]
  rfl
end GS
end GR
