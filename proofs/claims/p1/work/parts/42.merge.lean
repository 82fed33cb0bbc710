/-! A CALL WHOSE WAYS ARE ONE: pass(t) ends a hundred ways, that are one with t for the time. -/
section SM
def sy_rep (ad k : Nat) (v : Value) (S : QS) : QS := match S.1[ad]? with
  | some c => (S.1.set ad (c.1, c.2.1, c.2.2.map (fun w => if w.1 = k then (k, v) else w)), S.2)
  | none => S
def sy_il (q : SP × QO × QS) : Bool := match q.2.1 with
  | .inl _ => true
  | .inr _ => false
/-- q is the way PCg, Sg where the input 1 is one number, which stands in the field k of the cell ad, and is what comes back -/
def sy_mq (ad k a b : Nat) (PCg : SP) (Sg : QS) (q : SP × QO × QS) : Bool := match q.1[1]?, q.2.2.1[ad]? with
  | some (lo, hi), some c => decide (hi = lo + 1) && (Nat.ble a lo && (Nat.blt lo b && (decide (q.1.set 1 (a, b) = PCg) && (decide (q.2.1 = .inl (some (.int (sy_num lo)))) && (decide (sy_rep ad k (.float 1) q.2.2 = Sg) && c.2.2.all (fun w => decide (w.1 = k → w.2 = .int (sy_num lo))))))))
  | _, _ => false
def sy_mrg (ad k a b : Nat) (l : List (SP × QO × QS)) : Option (List (SP × QO × QS)) := match l.filter sy_il with
  | [] => some l
  | q0 :: t => if (q0 :: t).all (sy_mq ad k a b (q0.1.set 1 (a, b)) (sy_rep ad k (.float 1) q0.2.2)) = true then some ((q0.1.set 1 (a, b), .inl (some (.float 1)), sy_rep ad k (.float 1) q0.2.2) :: l.filter (fun q => !sy_il q)) else none
theorem sy_rep_ok {r : Nat → Int32} {ad k : Nat} {S : QS} {c : QC} {v w : Value} (hc : S.1[ad]? = some c) (hw : ∀ z ∈ c.2.2, z.1 = k → z.2 = w) (hv : sy_g r v = sy_g r w) : sy_S r (sy_rep ad k v S) = sy_S r S := by
  unfold sy_rep
  rw [hc]
  have e : sy_c r (c.1, c.2.1, c.2.2.map (fun z => if z.1 = k then (k, v) else z)) = sy_c r c := by
    unfold sy_c
    simp only [List.map_map]
    congr 2
    refine List.map_congr_left fun z hz => ?_
    simp only [Function.comp_def]
    split
    · rename_i hk
      rw [hv, hw z hz hk, hk]
    · rfl
  unfold sy_S
  simp only [List.map_set]
  rw [e]
  congr 1
  have h2 : (S.1.map (sy_c r))[ad]? = some (sy_c r c) := by rw [List.getElem?_map, hc]; rfl
  obtain ⟨hlt, hget⟩ := List.getElem?_eq_some_iff.mp h2
  rw [← hget]
  exact List.set_getElem_self hlt
theorem sy_mrg_ok {r : Nat → Int32} {ad k a b : Nat} {l l' : List (SP × QO × QS)} (h : sy_mrg ad k a b l = some l') {q : SP × QO × QS} (hq : q ∈ l) (hs : sy_sat r q.1) : ∃ q' ∈ l', sy_sat r q'.1 ∧ sy_O r q'.2.1 = sy_O r q.2.1 ∧ sy_S r q'.2.2 = sy_S r q.2.2 := by
  unfold sy_mrg at h
  split at h
  · cases h
    exact ⟨q, hq, hs, rfl, rfl⟩
  · rename_i q0 t hf
    split at h
    · rename_i hall
      cases h
      cases hil : sy_il q with
      | false => exact ⟨q, List.mem_cons_of_mem _ (List.mem_filter.mpr ⟨hq, by rw [hil]; rfl⟩), hs, rfl, rfl⟩
      | true =>
        have hm : q ∈ q0 :: t := by rw [← hf]; exact List.mem_filter.mpr ⟨hq, hil⟩
        have hmq := List.all_eq_true.mp hall q hm
        unfold sy_mq at hmq
        split at hmq
        · rename_i lo hi c hpc hcell
          simp only [Bool.and_eq_true, decide_eq_true_eq] at hmq
          obtain ⟨e1, e2, e3, e4, e5, e6, e7⟩ := hmq
          subst e1
          have e2' : a ≤ lo := Nat.le_of_ble_eq_true e2
          have e3' : lo < b := Nat.le_of_ble_eq_true e3
          obtain ⟨b1, b2⟩ := hs 1 _ hpc
          have b1' : lo ≤ sy_o (r 1) := b1
          have b2' : sy_o (r 1) < lo + 1 := b2
          have e9 : lo = sy_o (r 1) := by omega
          have hn : sy_num lo = r 1 := by rw [e9]; exact sy_num_o (r 1)
          have hg : sy_g r (.float 1) = sy_g r (.int (sy_num lo)) := by
            show Value.int (sy_ev r 1) = Value.int (sy_num lo)
            rw [hn, sy_ev8 r (by decide)]
          refine ⟨_, List.Mem.head _, ?_, ?_, ?_⟩
          · show sy_sat r (q0.1.set 1 (a, b))
            rw [← e4]
            exact sy_pset hs ⟨by show a ≤ sy_o (r 1); omega, by show sy_o (r 1) < b; omega⟩
          · rw [e5]
            show (Sum.inl (some (sy_g r (.float 1))) : QO) = Sum.inl (some (sy_g r (.int (sy_num lo))))
            rw [hg]
          · show sy_S r (sy_rep ad k (.float 1) q0.2.2) = _
            rw [← e6]
            refine sy_rep_ok hcell (w := .int (sy_num lo)) (fun z hz hk => ?_) hg
            have h9 := List.all_eq_true.mp e7 z hz
            simp only [decide_eq_true_eq] at h9
            exact h9 hk
        · cases hmq
    · cases h
/-- a run of some steps at the top of a method, one way -/
def sy_go (call : SP → Nat → List Value → QS → Option (List (SP × QO × QS))) (M : QM) : Nat → List (Nat × Instr) → Nat → QL → List Value → QS → Option (Nat × QL × List Value × QS)
  | 0, _, pc, L, st, S => some (pc, L, st, S)
  | k + 1, cs, pc, L, st, S => match sy_fd M pc cs with
    | [] => none
    | (pc0, i) :: cl => match (if sy_bad i st = true then none else q_step M none pc0 i L st S) with
      | some (pc', L', st', S') => sy_go call M k ((pc0, i) :: cl) pc' L' st' S'
      | none => match q_call M i st S with
        | some (mi, as, rest) => (match call [] mi as S with
          | some [(_, .inl v, S')] => sy_go call M k ((pc0, i) :: cl) (pc0 + 3) L (v.toList ++ rest) S'
          | _ => none)
        | none => none
theorem sy_go_ok {r : Nat → Int32} {xs : List Int32} {call : SP → Nat → List Value → QS → Option (List (SP × QO × QS))} {qc : Nat → List Value → QS → Option (QO × QS)}
    (hc : ∀ (PC : SP) (mi : Nat) (as : List Value) (S : QS) (l : List (SP × QO × QS)), call PC mi as S = some l → sy_sat r PC → ∃ q ∈ l, sy_sat r q.1 ∧ qc mi (as.map (sy_g r)) (sy_S r S) = some (sy_O r q.2.1, sy_S r q.2.2)) {M : QM} (hsr : sy_srt (qm_c M) = true) :
    ∀ (k : Nat) (cs : List (Nat × Instr)) (pc : Nat) (L : QL) (st : List Value) (S : QS) (pc' : Nat) (L' : QL) (st' : List Value) (S' : QS), (∀ z ∈ cs, z ∈ qm_c M) → sy_go call M k cs pc L st S = some (pc', L', st', S') → ∀ n, q_run qc M (some xs) (n + k) pc (sy_L r L) (st.map (sy_g r)) (sy_S r S) = q_run qc M (some xs) n pc' (sy_L r L') (st'.map (sy_g r)) (sy_S r S') := by
  intro k
  induction k with
  | zero =>
    intro cs pc L st S pc' L' st' S' _ h n
    rw [sy_go] at h
    cases h
    rfl
  | succ k ih =>
    intro cs pc L st S pc' L' st' S' hcs h n
    rw [sy_go] at h
    split at h
    · cases h
    · rename_i pc0 i cl hfd
      obtain ⟨e0, hcl9⟩ := sy_fd_ok hcs hfd
      have e0 : pc0 = pc := e0
      subst e0
      have hi : q_code M pc0 = some i := sy_code_ok hsr (hcl9 _ List.mem_cons_self)
      split at h
      · rename_i pc1 L1 st1 S1 hst
        split at hst
        · cases hst
        · rename_i hb
          have h9 := ih _ _ _ _ _ _ _ _ _ hcl9 h n
          rw [← Nat.add_assoc, q_run, hi]
          simp only [sy_step r (Bool.not_eq_true _ ▸ hb) hst]
          exact h9
      · split at h
        · rename_i mi as rest hcl
          have hno : q_step M (some xs) pc0 i (sy_L r L) (st.map (sy_g r)) (sy_S r S) = none := sy_none (by rcases (sy_call_k hcl).1 with a | a <;> simp [a]) (sy_call_k hcl).2
          have hcl2 := sy_call r hcl
          split at h
          · rename_i PC1 v S1 hl9
            obtain ⟨q, hq, hs9, hqc⟩ := hc _ _ _ _ _ hl9 (fun k q hk => by cases hk)
            obtain rfl := List.mem_singleton.mp hq
            have h9 := ih _ _ _ _ _ _ _ _ _ hcl9 h n
            rw [← Nat.add_assoc, q_run, hi]
            simp only [hno, hcl2, hqc, sy_O]
            rw [List.map_append, show v.toList.map (sy_g r) = (v.map (sy_g r)).toList by cases v <;> rfl] at h9
            exact h9
          · cases h
        · cases h
/-- input 1 is between 1 and 100 -/
def sy_rg (PC : SP) : Bool := match PC[1]? with
  | some (lo, hi) => Nat.ble 2147483649 lo && Nat.ble hi 2147483749
  | none => false
/-- a call that is known -/
def sy_or (m0 : Nat) (a0 : List Value) (S0 : QS) (v0 : Value) (S1 : QS) (call : SP → Nat → List Value → QS → Option (List (SP × QO × QS))) : SP → Nat → List Value → QS → Option (List (SP × QO × QS)) := fun PC mi as S =>
  if (mi = m0 ∧ as = a0 ∧ S = S0) ∧ sy_rg PC = true then some [(PC, .inl (some v0), S1)] else call PC mi as S
theorem sy_or_ok {r : Nat → Int32} {m0 : Nat} {a0 : List Value} {S0 S1 : QS} {v0 : Value} {call : SP → Nat → List Value → QS → Option (List (SP × QO × QS))} {qc : Nat → List Value → QS → Option (QO × QS)}
    (hc : ∀ (PC : SP) (mi : Nat) (as : List Value) (S : QS) (l : List (SP × QO × QS)), call PC mi as S = some l → sy_sat r PC → ∃ q ∈ l, sy_sat r q.1 ∧ qc mi (as.map (sy_g r)) (sy_S r S) = some (sy_O r q.2.1, sy_S r q.2.2))
    (h0 : 2147483649 ≤ sy_o (r 1) → sy_o (r 1) < 2147483749 → qc m0 (a0.map (sy_g r)) (sy_S r S0) = some (.inl (some (sy_g r v0)), sy_S r S1)) :
    ∀ (PC : SP) (mi : Nat) (as : List Value) (S : QS) (l : List (SP × QO × QS)), sy_or m0 a0 S0 v0 S1 call PC mi as S = some l → sy_sat r PC → ∃ q ∈ l, sy_sat r q.1 ∧ qc mi (as.map (sy_g r)) (sy_S r S) = some (sy_O r q.2.1, sy_S r q.2.2) := by
  intro PC mi as S l h hs
  unfold sy_or at h
  split at h
  · rename_i hk
    obtain ⟨⟨rfl, rfl, rfl⟩, hr⟩ := hk
    cases h
    unfold sy_rg at hr
    split at hr
    · rename_i lo hi hpc
      rw [Bool.and_eq_true] at hr
      obtain ⟨b1, b2⟩ := hs 1 _ hpc
      have b1' : lo ≤ sy_o (r 1) := b1
      have b2' : sy_o (r 1) < hi := b2
      have c1 : 2147483649 ≤ lo := Nat.le_of_ble_eq_true hr.1
      have c2 : hi ≤ 2147483749 := Nat.le_of_ble_eq_true hr.2
      exact ⟨_, List.Mem.head _, hs, h0 (by omega) (by omega)⟩
    · cases hr
  · exact hc _ _ _ _ _ h hs
end SM
