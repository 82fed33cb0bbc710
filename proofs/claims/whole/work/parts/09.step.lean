/-! SOUNDNESS of the pure interpreter, IV: one step that neither calls, nor returns, nor throws. -/
section QT
/-- a method that can be called with n arguments -/
def q_cal (M : QM) (n : Nat) : Prop := (parseMethodDescriptor (qm_y M).desc).map (fun d => d.parameters.length) = some n ∧ ((qm_y M).cls ≠ "java/lang/invoke/MethodHandle" ∧ (qm_y M).cls ≠ "java/lang/invoke/VarHandle") ∧ Cond.initialized (qm_y M).cls ∈ wsL_law
def q_cw (M : QM) : Cond := if qm_h M = [] then Cond.code (qm_y M) (qm_b M) (qm_l M) (qm_r M) else Cond.codeWith (qm_y M) (qm_b M) (qm_l M) (qm_r M) (qm_h M)
/-- an exception e that class own throws by the constructor's entry ic -/
def q_tok (own : String) (idx e ic : Nat) : Prop := e < 3 ∧ Cond.classLink own idx (q_en e) ∈ wsL_law ∧ Cond.initialized (q_en e) ∈ wsL_law ∧ (∀ w ∈ (vx_atS own ic (q_en e) q_nms).filter goodWord, w ∈ wsL_law) ∧ (∀ w ∈ (vx_atS own ic (q_en e) q_nms).filter (fun w => !goodWord w), w = .castable (q_en e) (q_en e) ∨ w ∈ q_dcs.map (fun Y => Cond.declares (Bundle.initS Y))) ∧
  Bundle.fit (q_en e) = true ∧ (∀ n ∈ q_nms, Bundle.fit n = true) ∧ ∀ w ∈ Cond.classLink own idx (q_en e) :: Cond.initialized (q_en e) :: vx_atS own ic (q_en e) q_nms, vx_ot w = true
def q_gcN : MethodName := ⟨"java/lang/Object", "getClass", "()Ljava/lang/Class;"⟩
def q_clN : MethodName := ⟨"java/lang/Object", "clone", "()Ljava/lang/Object;"⟩
/-- what an entry of the constant pool is -/
def q_kok (T : List QM) (TX : List (String × Nat × String)) (own : String) (q : Nat × Nat × Nat × Nat × Nat) : Prop := match q with
  | (idx, 0, a, b, c) => q_fok own idx a b c
  | (idx, 1, a, b, c) => ∃ (M : QM) (row : vw_C), T[a]? = some M ∧ vwCl[c]? = some row ∧ row.1 = (qm_y M).cls ∧ qm_h M = [] ∧ Cond.methodLink own idx (qm_y M) ∈ wsL_law ∧ Cond.instanceMethod (qm_y M) ∈ wsL_law ∧ Cond.selects (qm_y M).cls (qm_y M) (qm_y M) ∈ wsL_law ∧ q_cal M b
  | (idx, 2, a, b, _) => ∃ M : QM, T[a]? = some M ∧ Cond.methodLink own idx (qm_y M) ∈ wsL_law ∧ Cond.static (qm_y M) ∈ wsL_law ∧ q_cal M b
  | (idx, 3, a, b, _) => ∃ M : QM, T[a]? = some M ∧ qm_h M = [] ∧ (qm_y M).name = "<init>" ∧ qm_r M = none ∧ Cond.methodLink own idx (qm_y M) ∈ wsL_law ∧ Cond.instanceMethod (qm_y M) ∈ wsL_law ∧ q_cal M b
  | (idx, 15, a, b, _) => ∃ M : QM, T[a]? = some M ∧ qm_h M = [] ∧ (qm_y M).name = "<init>" ∧ qm_r M = none ∧ (own, idx, qm_y M) ∈ q_NL ∧ Cond.instanceMethod (qm_y M) ∈ wsL_law ∧ q_cal M b
  | (idx, 4, _, _, _) => Cond.methodLink own idx Lib.objectInit ∈ wsL_law ∧ Cond.instanceMethod Lib.objectInit ∈ wsL_law ∧ Cond.code Lib.objectInit ⟨#[0xb1]⟩ 1 none ∈ wsL_law
  | (idx, 5, a, b, _) => ∃ row : vw_C, vwCl[a]? = some row ∧ row.2.2 = b ∧ Cond.classLink own idx row.1 ∈ wsL_law ∧ Cond.instantiable row.1 b ∈ wsL_law ∧ Cond.initialized row.1 ∈ wsL_law
  | (idx, 6, a, _, _) => 103 ≤ a ∧ a ≤ 108 ∧ Cond.classLink own (idx - 100000) (q_cn (q_ty a)) ∈ wsL_law
  | (idx, 7, a, _, _) => Cond.constant own idx (Int32.ofNat a) ∈ wsL_law
  | (idx, 8, a, _, _) => Cond.constantLong own idx (Int64.ofNat a) ∈ wsL_law
  | (idx, 9, a, _, _) => 1 ≤ a ∧ a < 4 ∧ Cond.fieldLink own idx (q_zc a) (q_zn a) (q_zd a) ∈ wsL_law
  | (idx, 11, a, b, _) => q_tok own idx a b
  | (idx, 12, a, _, _) => a < 3 ∧ Cond.classLink own idx (q_en a) ∈ wsL_law
  | (idx, 13, _, _, _) => ∃ tx : String, (own, idx, tx) ∈ TX
  | (idx, 16, a, _, _) => (a = 101 ∧ Cond.classLink own (idx - 200000) "[J" ∈ wsL_law) ∨ ∃ row : vw_C, vwCl[a]? = some row ∧ Cond.classLink own (idx - 200000) row.1 ∈ wsL_law
  | (idx, 18, _, _, _) => Cond.classLink own idx "[Ljava/lang/Object;" ∈ wsL_law
  | (idx, 19, _, _, _) => Cond.methodLink own idx q_gcN ∈ wsL_law ∧ Cond.selects "[Ljava/lang/Object;" q_gcN q_gcN ∈ wsL_law ∧ Cond.instanceMethod q_gcN ∈ wsL_law ∧ Cond.native q_gcN ∈ wsL_law
  | (idx, 20, _, _, _) => Cond.methodLink own idx ⟨"[J", "clone", "()Ljava/lang/Object;"⟩ ∈ wsL_law ∧ Cond.sameMethod "[J" "java/lang/Object" "clone" "()Ljava/lang/Object;" ∈ wsL_law ∧ Cond.native q_clN ∈ wsL_law ∧ Cond.instanceMethod q_clN ∈ wsL_law ∧ Cond.selects "[J" ⟨"[J", "clone", "()Ljava/lang/Object;"⟩ q_clN ∈ wsL_law
  | (idx, 21, _, _, _) => Cond.methodLink own idx arraycopyName ∈ wsL_law ∧ Cond.native arraycopyName ∈ wsL_law ∧ Cond.static arraycopyName ∈ wsL_law ∧ Cond.initialized "java/lang/System" ∈ wsL_law
  | _ => True
def q_dok (M : QM) : Prop := ∀ q ∈ qm_c M, ∃ n : Nat, decode (qm_b M) q.1 = .ok (q.2, n) ∧ (n = q_len q.2 ∨ q_isSw q.2 = true)
/-- a good method; b: a word of its own (of a method that is called: its code's word) -/
def q_mokG (b : Prop) (T : List QM) (TX : List (String × Nat × String)) (M : QM) : Prop := plainFor (qm_y M) = true ∧ qm_o M = (qm_y M).cls ∧ (qm_i M = true → (qm_y M).name = "<init>") ∧ qm_l M ≤ 41 ∧ b ∧ q_dok M ∧ (∀ q ∈ qm_k M, q_kok T TX (qm_o M) q) ∧ ∀ h ∈ qm_h M, ∃ f, f < 3 ∧ q_lk (qm_k M) h.2.2.2 = some (12, f, 0, 0) ∧ h.2.2.2 ≠ 0
abbrev q_mok (T : List QM) (TX : List (String × Nat × String)) (M : QM) : Prop := q_mokG (q_cw M ∈ wsL_law) T TX M
theorem q_lk_mem {K : QK} {idx : Nat} {t : Nat × Nat × Nat × Nat} (h : q_lk K idx = some t) : (idx, t) ∈ K := by
  unfold q_lk at h
  obtain ⟨q, h1, h2⟩ := Option.map_eq_some_iff.mp h
  have h3 := List.mem_of_find?_eq_some h1
  have h4 := List.find?_some h1
  simp only [beq_iff_eq] at h4
  subst h2
  rw [← h4]
  exact h3
theorem q_code_mem {M : QM} {pc : Nat} {i : Instr} (h : q_code M pc = some i) : (pc, i) ∈ qm_c M := by
  unfold q_code at h
  obtain ⟨q, h1, h2⟩ := Option.map_eq_some_iff.mp h
  have h3 := List.mem_of_find?_eq_some h1
  have h4 := List.find?_some h1
  simp only [beq_iff_eq] at h4
  subst h2
  rw [← h4]
  exact h3
theorem q_dec {T : List QM} {TX : List (String × Nat × String)} {M : QM} {bw : Prop} (hM : q_mokG bw T TX M) {pc : Nat} {i : Instr} (h : q_code M pc = some i) : ∃ n : Nat, decode (qm_b M) pc = .ok (i, n) ∧ (n = q_len i ∨ q_isSw i = true) :=
  hM.2.2.2.2.2.1 (pc, i) (q_code_mem h)
theorem q_decL {T : List QM} {TX : List (String × Nat × String)} {M : QM} {bw : Prop} (hM : q_mokG bw T TX M) {pc : Nat} {i : Instr} (h : q_code M pc = some i) (hs : q_isSw i = false) : decode (qm_b M) pc = .ok (i, q_len i) := by
  obtain ⟨n, h1, h2⟩ := q_dec hM h
  rcases h2 with rfl | h2
  · exact h1
  · rw [hs] at h2; cases h2
theorem q_rv2 (P : (Nat → Nat) × Nat) (k : Nat) : q_rv P (.ref (k + 4)) = .ref (P.2 + k) := rfl
section QB
variable {p : Program} {l : Launch} {e : Env} {R : Room} {s : State} {m : MethodId} {args : Array Value} {below : List Frame} {meth : Method} {c : Code} {H : Heap} {locs : List Loc} {cells slots : Nat} {Q : State → Prop} {pc : Nat} {ls : Array Slot} {P : (Nat → Nat) × Nat} {D : va_G} {S S' : QS} {xs : List Int32} {T : List QM} {TX : List (String × Nat × String)} {M : QM} {i : Instr} {st st' : List Value}
/-- what stays while a method runs -/
def q_Fr (P : (Nat → Nat) × Nat) (xs : List Int32) (TX : List (String × Nat × String)) (M : QM) (p : Program) (m : MethodId) (c : Code) (s : State) (args : Array Value) (meth : Method) : Prop :=
  CallFix p m c (qm_b M) (qm_l M) s args wsL_law (qm_o M) ∧ meth.locks = false ∧ meth.sig.returnType = qm_r M ∧ (qm_i M = true → meth.name = "<init>") ∧ q_V P xs TX s s.heap
set_option maxHeartbeats 4000000 in
theorem q_read_ok {bw : Prop} (hM : q_mokG bw T TX M) (F : q_Fr P xs TX M p m c s args meth) (hW : q_W P D S s H) (hS : va_S (q_A P) s.heap H locs) (h : q_read M i st S = some st') (hd : decode (qm_b M) pc = .ok (i, q_len i))
    (k : W p l e R s m args below meth c H locs cells slots Q (F0 m (pc + q_len i) ls (st'.map (q_rv P)))) : W p l e R s m args below meth c H locs cells slots Q (F0 m pc ls (st.map (q_rv P))) := by
  obtain ⟨F1, -, -, -, hV⟩ := F
  have hK := hM.2.2.2.2.2.2.1
  unfold q_read at h
  split at h
  · -- getfield
    split at h
    · rename_i x ci kf fin r rest hlk
      split at h
      · rename_i cc hc
        split at h
        · rename_i hci
          cases h
          obtain ⟨k9, rfl, hk9⟩ := q_at_s hc
          have hf := hK _ (q_lk_mem hlk)
          exact q_getf_ok F1 hW hk9 hci hf hd k
        · cases h
      · cases h
    · cases h
  · -- arraylength
    split at h
    · cases h; exact q_elen_ok F1 hV hS (a := 1) (by decide) (by decide) hd k
    · cases h; exact q_elen_ok F1 hV hS (a := 2) (by decide) (by decide) hd k
    · cases h; exact q_elen_ok F1 hV hS (a := 3) (by decide) (by decide) hd k
    · split at h
      · rename_i cc hc
        split at h
        · rename_i h100
          cases h
          obtain ⟨k9, rfl, hk9⟩ := q_at_s hc
          exact q_alen_ok F1 hW hk9 h100 hd k
        · cases h
      · cases h
    · cases h
  · -- ldc
    split at h
    · rename_i x n a b hlk
      cases h
      exact lv_ldc F1.1 F1.2.1 F1.2.2.2.1 (F1.2.2.2.2 _ (hK _ (q_lk_mem hlk))) hd k
    · cases h
  · split at h
    · rename_i x n a b hlk
      cases h
      exact lv_ldcw F1.1 F1.2.1 F1.2.2.2.1 (F1.2.2.2.2 _ (hK _ (q_lk_mem hlk))) hd k
    · cases h
  · split at h
    · rename_i x n a b hlk
      cases h
      exact lv_ldc2 F1.1 F1.2.1 F1.2.2.2.1 (F1.2.2.2.2 _ (hK _ (q_lk_mem hlk))) hd k
    · cases h
  · split at h
    · rename_i x a b d hlk
      cases h
      obtain ⟨a1, a2, a3⟩ := hK _ (q_lk_mem hlk)
      rw [List.map_cons, q_rv_old a2] at k
      exact q_gets_ok F1 hV hS a1 a2 a3 hd k
    · cases h
  · -- iaload
    split at h
    · obtain ⟨j, h1, h2⟩ := Option.map_eq_some_iff.mp h
      cases h2
      exact q_eld_ok F1 hV hS (a := 2) (by decide) (by decide) h1 rfl hd k
    · obtain ⟨j, h1, h2⟩ := Option.map_eq_some_iff.mp h
      cases h2
      exact q_eld_ok F1 hV hS (a := 3) (by decide) (by decide) h1 rfl hd k
    · split at h
      · rename_i cc hc
        split at h
        · rename_i hkd
          obtain ⟨j, h1, h2⟩ := Option.map_eq_some_iff.mp h
          cases h2
          obtain ⟨k9, rfl, hk9⟩ := q_at_s hc
          exact q_ald_ok F1 hW hk9 hkd (Or.inl rfl) h1 hd k
        · cases h
      · cases h
    · cases h
  · split at h
    · split at h
      · rename_i cc hc
        split at h
        · rename_i hkd
          obtain ⟨j, h1, h2⟩ := Option.map_eq_some_iff.mp h
          cases h2
          obtain ⟨k9, rfl, hk9⟩ := q_at_s hc
          simp only [Bool.and_eq_true, Bool.or_eq_true, decide_eq_true_eq] at hkd
          obtain ⟨hkd, hi⟩ := hkd
          rcases hi with rfl | rfl | rfl
          · exact q_ald_ok F1 hW hk9 hkd (Or.inr (Or.inl rfl)) h1 hd k
          · exact q_ald_ok F1 hW hk9 hkd (Or.inr (Or.inr (Or.inl rfl))) h1 hd k
          · exact q_ald_ok F1 hW hk9 hkd (Or.inr (Or.inr (Or.inr rfl))) h1 hd k
        · cases h
      · cases h
    · cases h
set_option maxHeartbeats 4000000 in
theorem q_write_ok {bw : Prop} (hM : q_mokG bw T TX M) (hac : Cond.arrayClass .int ∈ wsL_law ∧ Cond.arrayClass .long ∈ wsL_law ∧ Cond.arrayClass .boolean ∈ wsL_law) (F : q_Fr P xs TX M p m c s args meth) (hW : q_W P D S s H) (hS : va_S (q_A P) s.heap H locs) (h : q_write M i st S = some (st', S')) (hd : decode (qm_b M) pc = .ok (i, q_len i))
    (hc : cells + (S'.2.1 - S.2.1) ≤ R.cells) (hs : slots + (S'.2.2 - S.2.2) ≤ R.slots)
    (k : ∀ (H1 : Heap) (locs1 : List Loc), q_W P D S' s H1 → va_S (q_A P) s.heap H1 locs1 → W p l e R s m args below meth c H1 locs1 (cells + (S'.2.1 - S.2.1)) (slots + (S'.2.2 - S.2.2)) Q (F0 m (pc + q_len i) ls (st'.map (q_rv P)))) : W p l e R s m args below meth c H locs cells slots Q (F0 m pc ls (st.map (q_rv P))) := by
  obtain ⟨F1, -, -, hinit, hV⟩ := F
  have hK := hM.2.2.2.2.2.2.1
  have z1 : ∀ {a b : Nat}, a + (b - b) = a := fun {a b} => by rw [Nat.sub_self]; rfl
  unfold q_write at h
  split at h
  · -- putfield
    split at h
    · rename_i x ci kf fin v r rest hlk
      split at h
      · rename_i cc hc9
        split at h
        · rename_i hci
          obtain ⟨h1, h2, h3, h4⟩ := hci
          cases h
          obtain ⟨k9, rfl, hk9⟩ := q_at_s hc9
          have hf := hK _ (q_lk_mem hlk)
          refine q_putf_ok F1 hW hS hk9 h1 hf h2 h3 (h4.imp id (fun z => ⟨z.1, hinit z.2⟩)) hd fun H1 locs1 g1 g2 => ?_
          have k2 := k H1 locs1 g1 g2
          rw [show (q_put S (k9 + 4) (q_wr cc kf v)).2 = S.2 from rfl, z1, z1] at k2
          exact k2
        · cases h
      · cases h
    · cases h
  · split at h
    · split at h
      · rename_i cc hc9
        split at h
        · rename_i hkd
          obtain ⟨j, h1, h2⟩ := Option.map_eq_some_iff.mp h
          cases h2
          obtain ⟨k9, rfl, hk9⟩ := q_at_s hc9
          refine q_iast_ok F1 hW hS hk9 hkd h1 hd fun H1 locs1 g1 g2 => ?_
          have k2 := k H1 locs1 g1 g2
          rw [show ∀ y, (q_put S (k9 + 4) y).2 = S.2 from fun _ => rfl, z1, z1] at k2
          exact k2
        · cases h
      · cases h
    · cases h
  · split at h
    · split at h
      · rename_i cc hc9
        split at h
        · rename_i hkd
          obtain ⟨j, h1, h2⟩ := Option.map_eq_some_iff.mp h
          cases h2
          obtain ⟨k9, rfl, hk9⟩ := q_at_s hc9
          refine q_last_ok F1 hW hS hk9 hkd h1 hd fun H1 locs1 g1 g2 => ?_
          have k2 := k H1 locs1 g1 g2
          rw [show ∀ y, (q_put S (k9 + 4) y).2 = S.2 from fun _ => rfl, z1, z1] at k2
          exact k2
        · cases h
      · cases h
    · cases h
  · split at h
    · split at h
      · rename_i cc hc9
        split at h
        · rename_i hkd
          obtain ⟨j, h1, h2⟩ := Option.map_eq_some_iff.mp h
          cases h2
          obtain ⟨k9, rfl, hk9⟩ := q_at_s hc9
          refine q_zast_ok F1 hW hS hk9 hkd h1 hd fun H1 locs1 g1 g2 => ?_
          have k2 := k H1 locs1 g1 g2
          rw [show ∀ y, (q_put S (k9 + 4) y).2 = S.2 from fun _ => rfl, z1, z1] at k2
          exact k2
        · cases h
      · cases h
    · cases h
  · -- aastore
    split at h
    · split at h
      · rename_i cc dd hc9 hc8
        split at h
        · rename_i hkd
          obtain ⟨j, h1, h2⟩ := Option.map_eq_some_iff.mp h
          cases h2
          obtain ⟨k9, rfl, hk9⟩ := q_at_s hc9
          obtain ⟨k8, rfl, hk8⟩ := q_at_s hc8
          refine q_aast_ok F1 hW hS hk9 hk8 hkd h1 hd fun H1 locs1 g1 g2 => ?_
          have k2 := k H1 locs1 g1 g2
          rw [show ∀ y, (q_put S (k9 + 4) y).2 = S.2 from fun _ => rfl, z1, z1] at k2
          exact k2
        · cases h
      · cases h
    · cases h
  · -- new
    split at h
    · rename_i x ci n a hlk
      cases h
      obtain ⟨row, g1, g2, g3, g4, g5⟩ := hK _ (q_lk_mem hlk)
      have e1 : (q_new S (ci, n, [])).2.1 - S.2.1 = 1 := by show S.2.1 + 1 - S.2.1 = 1; omega
      have e2 : (q_new S (ci, n, [])).2.2 - S.2.2 = n := by show S.2.2 + n - S.2.2 = n; omega
      rw [e1] at hc k
      rw [e2] at hs k
      exact q_new_ok F1 hW hS g1 g2 g3 g4 g5 hc hs hd fun H1 w1 w2 => k H1 locs w1 w2
    · cases h
  · -- newarray
    split at h
    · rename_i n rest
      split at h
      · cases h
      · rename_i hn
        split at h
        · cases h
          have e1 : (q_new S (100, n.toNatClampNeg, [])).2.1 - S.2.1 = 1 := by show S.2.1 + 1 - S.2.1 = 1; omega
          have e2 : (q_new S (100, n.toNatClampNeg, [])).2.2 - S.2.2 = n.toNatClampNeg := by show S.2.2 + n.toNatClampNeg - S.2.2 = _; omega
          rw [e1] at hc k
          rw [e2] at hs k
          exact q_newa_ok F1 hW hS (at9 := .int) (kd := 100) (by decide) rfl rfl hac.1 (by decide) hn hc hs hd fun H1 w1 w2 => k H1 locs w1 w2
        · cases h
          have e1 : (q_new S (101, n.toNatClampNeg, [])).2.1 - S.2.1 = 1 := by show S.2.1 + 1 - S.2.1 = 1; omega
          have e2 : (q_new S (101, n.toNatClampNeg, [])).2.2 - S.2.2 = n.toNatClampNeg := by show S.2.2 + n.toNatClampNeg - S.2.2 = _; omega
          rw [e1] at hc k
          rw [e2] at hs k
          exact q_newa_ok F1 hW hS (at9 := .long) (kd := 101) (by decide) rfl rfl hac.2.1 (by decide) hn hc hs hd fun H1 w1 w2 => k H1 locs w1 w2
        · cases h
          have e1 : (q_new S (102, n.toNatClampNeg, [])).2.1 - S.2.1 = 1 := by show S.2.1 + 1 - S.2.1 = 1; omega
          have e2 : (q_new S (102, n.toNatClampNeg, [])).2.2 - S.2.2 = n.toNatClampNeg := by show S.2.2 + n.toNatClampNeg - S.2.2 = _; omega
          rw [e1] at hc k
          rw [e2] at hs k
          exact q_newa_ok F1 hW hS (at9 := .boolean) (kd := 102) (by decide) rfl rfl hac.2.2 (by decide) hn hc hs hd fun H1 w1 w2 => k H1 locs w1 w2
        · cases h
    · cases h
  · -- anewarray
    split at h
    · rename_i x kd a b n rest hlk
      split at h
      · cases h
      · rename_i hn
        cases h
        obtain ⟨g1, g2, g3⟩ := hK _ (q_lk_mem hlk)
        rw [Nat.add_sub_cancel] at g3
        have e1 : (q_new S (kd, n.toNatClampNeg, [])).2.1 - S.2.1 = 1 := by show S.2.1 + 1 - S.2.1 = 1; omega
        have e2 : (q_new S (kd, n.toNatClampNeg, [])).2.2 - S.2.2 = n.toNatClampNeg := by show S.2.2 + n.toNatClampNeg - S.2.2 = _; omega
        rw [e1] at hc k
        rw [e2] at hs k
        exact q_newq_ok F1 hV hW hS g1 g2 g3 hn hc hs hd fun H1 w1 w2 => k H1 locs w1 w2
    · cases h
  · cases h
theorem q_script_ok (F : q_Fr P xs TX M p m c s args meth) (hS : va_S (q_A P) s.heap H locs) (h : q_script (some xs) i st = some st') (hd : decode (qm_b M) pc = .ok (i, 1))
    (k : W p l e R s m args below meth c H locs cells slots Q (F0 m (pc + 1) ls (st'.map (q_rv P)))) : W p l e R s m args below meth c H locs cells slots Q (F0 m pc ls (st.map (q_rv P))) := by
  obtain ⟨F1, -, -, -, hV⟩ := F
  unfold q_script at h
  simp only at h
  split at h
  · split at h
    · cases h; exact q_slen_ok F1 hV hS hd k
    · cases h
  · split at h
    · obtain ⟨j, h1, h2⟩ := Option.map_eq_some_iff.mp h
      cases h2
      exact q_sld_ok F1 hV hS h1 hd k
    · cases h
  · cases h
theorem q_script_i {o : Option (List Int32)} (h : q_script o i st = some st') : i = .arraylength ∨ i = .iaload := by
  unfold q_script at h
  split at h
  · cases h
  · split at h
    · exact Or.inl rfl
    · exact Or.inr rfl
    · cases h
/-- a step never takes room back -/
theorem q_write_mono (h : q_write M i st S = some (st', S')) : S.2.1 ≤ S'.2.1 ∧ S.2.2 ≤ S'.2.2 := by
  have hp : ∀ r x, S.2.1 ≤ (q_put S r x).2.1 ∧ S.2.2 ≤ (q_put S r x).2.2 := fun r x => ⟨Nat.le_refl _, Nat.le_refl _⟩
  have hn : ∀ x, S.2.1 ≤ (q_new S x).2.1 ∧ S.2.2 ≤ (q_new S x).2.2 := fun x => ⟨Nat.le_succ _, Nat.le_add_right _ _⟩
  unfold q_write at h
  repeat' (split at h)
  all_goals first
    | (cases h; done)
    | (cases h; exact hp _ _)
    | (cases h; exact hn _)
    | (obtain ⟨j, h1, h2⟩ := Option.map_eq_some_iff.mp h; cases h2; exact hp _ _)
end QB
end QT
