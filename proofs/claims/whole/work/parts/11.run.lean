/-! SOUNDNESS of the pure interpreter, V: whole methods. -/
section QZ
def q_Pc (P : (Nat → Nat) × Nat) (D : va_G) (xs : List Int32) (TX : List (String × Nat × String)) (as : List Value) (S : QS) : Array Value → State → Prop := fun v U => v = (as.map (q_rv P)).toArray ∧ q_W P D S U U.heap ∧ q_V P xs TX U U.heap
def q_Qc (P : (Nat → Nat) × Nat) (D : va_G) (o : QO) (S' : QS) : Array Value → State → Outcome → State → Prop := fun _ st oc t => ∃ v : Option Value, o = .inl v ∧ oc = .returned (v.map (q_rv P)) ∧ q_W P D S' t t.heap ∧ va_F (q_A P) st t
def q_XC (P : (Nat → Nat) × Nat) (D : va_G) (o : QO) (S' : QS) : String → State → State → Prop := fun E st t => ∃ e : Nat, o = .inr e ∧ e < 3 ∧ E = q_en e ∧ q_W P D S' t t.heap ∧ va_F (q_A P) st t
/-- the contract of a method at these arguments and this store: it comes to o and S' -/
def q_Met (l : Launch) (P : (Nat → Nat) × Nat) (D : va_G) (xs : List Int32) (TX : List (String × Nat × String)) (M : QM) (d : Nat) (as : List Value) (S : QS) (o : QO) (S' : QS) : Prop :=
  vx_Met l (qm_y M) (q_cw M :: wsL_law) ({ frames := d + 8, cells := S'.2.1 - S.2.1, slots := S'.2.2 - S.2.2, locals := 60 * d + 200 }) (q_Pc P D xs TX as S) (q_Qc P D o S') (q_XC P D o S') (S'.2.1 - S.2.1) (S'.2.2 - S.2.2) (q_A P)
theorem q_Pc_blind {P : (Nat → Nat) × Nat} {D : va_G} {xs : List Int32} {TX : List (String × Nat × String)} {as : List Value} {S : QS} : FrameBlind (q_Pc P D xs TX as S) := fun _ U _ _ h => ⟨h.1, q_W.moved (u := U) (Vm.Alike.refl U.vm) h.2.1, q_V.blind (u := U) rfl h.2.2⟩
section QB
variable {p : Program} {l : Launch} {e : Env} {R : Room} {s : State} {m : MethodId} {args : Array Value} {below : List Frame} {meth : Method} {c : Code} {H : Heap} {locs : List Loc} {cells slots mc ms : Nat} {Q : State → Prop} {pc : Nat} {ls : Array Slot} {P : (Nat → Nat) × Nat} {D : va_G} {S S' : QS} {xs : List Int32} {T : List QM} {TX : List (String × Nat × String)} {M : QM} {i : Instr} {st st' : List Value} {o : QO} {L L' : QL}
theorem q_goOn {a9 : Array Value} {st0 rest : List Value} (hr : vx_Run p l e R s m args below meth c H locs cells slots mc ms (F0 m pc ls st0) rest (q_Qc P D o S' a9) (q_XC P D o S') (q_A P)) (hS : va_S (q_A P) s.heap H locs)
    (kk : ∀ (v : Option Value) (H1 : Heap) (locs1 : List Loc), o = .inl v → q_W P D S' s H1 → va_S (q_A P) s.heap H1 locs1 → W p l e R s m args below meth c H1 locs1 (cells + mc) (slots + ms) Q (F0 m (pc + 3) ls ((v.map (q_rv P)).toList ++ rest)))
    (kx : ∀ (f q : Nat) (ce : Cell) (H1 : Heap) (locs1 : List Loc), o = .inr f → f < 3 → q_W P D S' s H1 → va_S (q_A P) s.heap H1 locs1 → H1[q]? = some ce → ce.vm = .none → s.vm.findClass (q_en f) = some ce.cls → vx_W p l e R s m args below meth c H1 locs1 (cells + mc) (slots + ms) Q (F0 m pc ls rest) q) : W p l e R s m args below meth c H locs cells slots Q (F0 m pc ls st0) := by
  intro T hT X
  rcases hr T hT X with ⟨v, st₀, t, T', L, h0, X', hL, e1, e2, ⟨v9, ho, hoc, hW9, hF⟩, st⟩ | ⟨q, st₀, t, T', L, E, ce, h0, X', hL, e1, e2, ⟨f, ho, hf, hE, hW9, hF⟩, hce, hcv, hcl, st⟩
  · cases hoc
    obtain ⟨k1, k2, k3⟩ := vx_keep (A1 := q_A P) h0 e1 hS (fun _ _ h => h) (fun _ h => h) hL hF
    have hal : s.vm.Alike t.vm := by rw [← e2]; exact X'.warmed.alike
    obtain ⟨t2, a1, b1⟩ := kk v9 T'.heap (locs ++ L) ho (by rw [e1]; exact hW9.moved hal.symm) k3 T' rfl X'
    exact ⟨t2, st t2 a1, b1⟩
  · obtain ⟨k1, k2, k3⟩ := vx_keep (A1 := q_A P) h0 e1 hS (fun _ _ h => h) (fun _ h => h) hL hF
    have hal : s.vm.Alike t.vm := by rw [← e2]; exact X'.warmed.alike
    obtain ⟨t2, a1, b1⟩ := kx f q ce T'.heap (locs ++ L) ho hf (by rw [e1]; exact hW9.moved hal.symm) k3 (by rw [e1]; exact hce) hcv (by rw [← hE]; exact hcl) T' rfl X'
    exact ⟨t2, st.trans a1, b1⟩
theorem q_good : ∀ w ∈ wsL_law, goodWord w = true := by
  intro w h
  unfold wsL_law at h
  rcases List.mem_append.mp h with h | h
  · rcases List.mem_append.mp h with h | h
    · rcases List.mem_append.mp h with h | h
      · exact wsL_law_gd0 w h
      · exact (List.mem_filter.mp h).2
    · exact (List.mem_filter.mp h).2
  · exact (List.mem_filter.mp h).2
theorem q_goodIn (hM : q_mok T TX M) : GoodIn wsL_law (q_cw M :: wsL_law) := by
  intro w h
  rcases List.mem_cons.mp h with rfl | h
  · exact ⟨hM.2.2.2.2.1, good_of_word (q_good _ hM.2.2.2.2.1)⟩
  · exact ⟨h, good_of_word (q_good _ h)⟩
theorem q_read_sw (h : q_read M i st S = some st') : q_isSw i = false := by
  cases i with
  | tableswitch d lo hi offs =>
    exfalso
    unfold q_read at h
    simp only at h
    split at h
    · split at h
      · simp [q_akd] at h
      · cases h
    · cases h
  | _ => rfl
theorem q_write_sw (h : q_write M i st S = some (st', S')) : q_isSw i = false := by
  cases i <;> first
    | rfl
    | (exfalso
       simp only [q_write] at h
       cases h)
theorem q_inc_ok {bw : Prop} (hM : q_mokG bw T TX M) (F : q_Fr P xs TX M p m c s args meth) (hcode : q_code M pc = some i) (h : q_inc M i L = some L') (hl : lv_has ls (qm_l M) (q_rL P L))
    (k : ∀ ls1 : Array Slot, lv_has ls1 (qm_l M) (q_rL P L') → W p l e R s m args below meth c H locs cells slots Q (F0 m (pc + 3) ls1 (st.map (q_rv P)))) : W p l e R s m args below meth c H locs cells slots Q (F0 m pc ls (st.map (q_rv P))) := by
  unfold q_inc at h
  split at h
  · split at h
    · rename_i x hx
      split at h
      · rename_i hn
        cases h
        have hm2 := List.mem_map_of_mem (f := fun q : Nat × Value => (q.1, q_rv P q.2)) (q_lo_mem hx)
        obtain ⟨j, hj⟩ := List.getElem?_of_mem hm2
        exact lv_iinc (lv' := q_rL P (q_s1 L _ (.int (x + Int32.ofInt _)))) F.1.1 F.1.2.1 (q_decL hM hcode rfl) hl hj rfl hn (q_s1_rv P L _ (.int (x + Int32.ofInt _))).symm k
      · cases h
    · cases h
  · cases h
theorem q_oi_ok {bw : Prop} (hM : q_mokG bw T TX M) (F : q_Fr P xs TX M p m c s args meth) (hR : 1 ≤ R.frames ∧ 20 ≤ R.locals) (hcode : q_code M pc = some i) (h : q_oi M i st = some st') (hl : lv_has ls (qm_l M) (q_rL P L))
    (k : W p l e R s m args below meth c H locs cells slots Q (F0 m (pc + 3) ls (st'.map (q_rv P)))) : W p l e R s m args below meth c H locs cells slots Q (F0 m pc ls (st.map (q_rv P))) := by
  have F1 := F.1
  unfold q_oi at h
  split at h
  · split at h
    · rename_i hlk
      split at h
      · rename_i hsum
        cases h
        obtain ⟨g1, g2, g3⟩ := hM.2.2.2.2.2.2.1 _ (q_lk_mem hlk)
        have hsz : ∀ g : List Value, (F0 m pc ls g).locals.size = c.maxLocals := fun _ => hl.1.trans F1.2.2.1.symm
        refine W.objInit F1.1 F1.2.1 F1.2.2.2.1 (F1.2.2.2.2 _ g1) (F1.2.2.2.2 _ g2) (F1.2.2.2.2 _ g3) rfl (hsz _) rfl (q_decL hM hcode rfl) hR.1 ?_ k
        rw [q_sum_cat]
        show 2 * 0 + _ + 12 ≤ R.locals
        omega
      · cases h
    · cases h
  · cases h
set_option maxHeartbeats 4000000 in
theorem q_step_ok {bw : Prop} (hM : q_mokG bw T TX M) (hac : Cond.arrayClass .int ∈ wsL_law ∧ Cond.arrayClass .long ∈ wsL_law ∧ Cond.arrayClass .boolean ∈ wsL_law) (F : q_Fr P xs TX M p m c s args meth) (hR : 1 ≤ R.frames ∧ 100 ≤ R.locals) (hcode : q_code M pc = some i) {pc' : Nat} (h : q_step M (some xs) pc i L st S = some (pc', L', st', S'))
    (hl : lv_has ls (qm_l M) (q_rL P L)) (hW : q_W P D S s H) (hS : va_S (q_A P) s.heap H locs) {c0 s0 : Nat} (hc : cells + c0 = S.2.1) (hs : slots + s0 = S.2.2) (hC : S'.2.1 ≤ R.cells + c0) (hSl : S'.2.2 ≤ R.slots + s0)
    (k : ∀ (ls1 : Array Slot) (H1 : Heap) (locs1 : List Loc) (c1 s1 : Nat), lv_has ls1 (qm_l M) (q_rL P L') → q_W P D S' s H1 → va_S (q_A P) s.heap H1 locs1 → c1 + c0 = S'.2.1 → s1 + s0 = S'.2.2 → W p l e R s m args below meth c H1 locs1 c1 s1 Q (F0 m pc' ls1 (st'.map (q_rv P)))) : W p l e R s m args below meth c H locs cells slots Q (F0 m pc ls (st.map (q_rv P))) := by
  have F1 := F.1
  unfold q_step at h
  split at h
  · rename_i st9 hs9
    cases h
    have hsw : q_isSw i = false := by
      cases i <;> first | rfl | (simp only [q_simple] at hs9; cases hs9)
    exact q_simple_ok F1.1 F1.2.1 hs9 (q_decL hM hcode hsw) (k ls H locs cells slots hl hW hS hc hs)
  · split at h
    · rename_i t n hld
      have hsw : q_isSw i = false := by
        cases i <;> first | rfl | (simp only [q_ldi] at hld; cases hld)
      split at h
      · rename_i v hv
        split at h
        · rename_i ht
          cases h
          exact q_ld_ok F1.1 F1.2.1 hld hv ht (q_decL hM hcode hsw) hl (k ls H locs cells slots hl hW hS hc hs)
        · cases h
      · cases h
    · split at h
      · rename_i t n hsti
        have hsw : q_isSw i = false := by
          cases i <;> first | rfl | (simp only [q_sti] at hsti; cases hsti)
        cases st with
        | nil => cases h
        | cons v9 rest9 =>
          by_cases ht : q_tag v9 = t ∧ n + 1 < qm_l M + (if t = 1 then 0 else 1)
          · simp only [if_pos ht] at h
            cases h
            exact q_st_ok F1.1 F1.2.1 hsti ht.1 ht.2 (q_decL hM hcode hsw) hl fun ls1 hl1 => k ls1 H locs cells slots hl1 hW hS hc hs
          · simp only [if_neg ht] at h
            cases h
      · split at h
        · rename_i b o9 rest hbr
          obtain ⟨t, h1, h2⟩ := Option.map_eq_some_iff.mp h
          cases h2
          obtain ⟨n9, hd, hn⟩ := q_dec hM hcode
          exact q_br_ok F1.1 F1.2.1 hbr h1 hd hn F.2.2.2.2.1.2.1 (k ls H locs cells slots hl hW hS hc hs)
        · split at h
          · rename_i L9 hinc
            cases h
            exact q_inc_ok hM F hcode hinc hl fun ls1 hl1 => k ls1 H locs cells slots hl1 hW hS hc hs
          · split at h
            · rename_i st9 hoi
              cases h
              exact q_oi_ok hM F ⟨hR.1, by omega⟩ hcode hoi hl (k ls H locs cells slots hl hW hS hc hs)
            · split at h
              · rename_i st9 hrd
                cases h
                exact q_read_ok hM F hW hS hrd (q_decL hM hcode (q_read_sw hrd)) (k ls H locs cells slots hl hW hS hc hs)
              · split at h
                · rename_i r9 h1
                  obtain ⟨st9, S9⟩ := r9
                  cases h
                  have hmn := q_write_mono h1
                  have hC9 : S9.2.1 ≤ R.cells + c0 := hC
                  have hS9 : S9.2.2 ≤ R.slots + s0 := hSl
                  exact q_write_ok hM hac F hW hS h1 (q_decL hM hcode (q_write_sw h1)) (by omega) (by omega) fun H1 locs1 w1 w2 => k ls H1 locs1 _ _ hl w1 w2 (by show _ + c0 = S9.2.1; omega) (by show _ + s0 = S9.2.2; omega)
                · split at h
                  · rename_i st9 h1
                    cases h
                    have hd1 : decode (qm_b M) pc = .ok (i, 1) := by
                      rcases q_script_i h1 with rfl | rfl
                      · exact q_decL hM hcode rfl
                      · exact q_decL hM hcode rfl
                    exact q_script_ok F hS h1 hd1 (k ls H locs cells slots hl hW hS hc hs)
                  · obtain ⟨r9, h1, h2⟩ := Option.map_eq_some_iff.mp h
                    obtain ⟨st9, S9⟩ := r9
                    cases h2
                    have hmn := q_more_mono h1
                    have hC9 : S9.2.1 ≤ R.cells + c0 := hC
                    have hS9 : S9.2.2 ≤ R.slots + s0 := hSl
                    exact q_more_ok hM F hR hl.1 hW hS h1 (q_decL hM hcode (q_more_sw h1)) (by omega) (by omega) fun H1 locs1 w1 w2 => k ls H1 locs1 _ _ hl w1 w2 (by show _ + c0 = S9.2.1; omega) (by show _ + s0 = S9.2.2; omega)
theorem q_step_mono {ox : Option (List Int32)} {pc' : Nat} (h : q_step M ox pc i L st S = some (pc', L', st', S')) : S.2.1 ≤ S'.2.1 ∧ S.2.2 ≤ S'.2.2 := by
  have hr : S.2.1 ≤ S.2.1 ∧ S.2.2 ≤ S.2.2 := ⟨Nat.le_refl _, Nat.le_refl _⟩
  unfold q_step at h
  split at h
  · cases h; exact hr
  · split at h
    · repeat' (split at h)
      all_goals first | (cases h; done) | (cases h; exact hr)
    · split at h
      · repeat' (split at h)
        all_goals first | (cases h; done) | (cases h; exact hr)
      · split at h
        · obtain ⟨t, h1, h2⟩ := Option.map_eq_some_iff.mp h
          cases h2; exact hr
        · split at h
          · cases h; exact hr
          · split at h
            · cases h; exact hr
            · split at h
              · cases h; exact hr
              · split at h
                · rename_i r9 h1
                  obtain ⟨st9, S9⟩ := r9
                  cases h
                  exact q_write_mono h1
                · split at h
                  · cases h; exact hr
                  · obtain ⟨r9, h1, h2⟩ := Option.map_eq_some_iff.mp h
                    obtain ⟨st9, S9⟩ := r9
                    cases h2
                    exact q_more_mono h1
/-- what is known of the calls that a method makes -/
def q_CallOK (l : Launch) (P : (Nat → Nat) × Nat) (D : va_G) (xs : List Int32) (TX : List (String × Nat × String)) (T : List QM) (d : Nat) (call : Nat → List Value → QS → Option (QO × QS)) : Prop := ∀ (mi : Nat) (as : List Value) (S : QS) (o : QO) (S' : QS), call mi as S = some (o, S') → (S.2.1 ≤ S'.2.1 ∧ S.2.2 ≤ S'.2.2) ∧ ∃ M : QM, T[mi]? = some M ∧ q_mok T TX M ∧ q_Met l P D xs TX M d as S o S'
theorem q_run_mono {ox : Option (List Int32)} {call : Nat → List Value → QS → Option (QO × QS)} {d : Nat} (hcall : q_CallOK l P D xs TX T d call) : ∀ (n pc : Nat) (L : QL) (st : List Value) (S : QS) (o : QO) (S' : QS), q_run call M ox n pc L st S = some (o, S') → S.2.1 ≤ S'.2.1 ∧ S.2.2 ≤ S'.2.2 := by
  intro n
  induction n with
  | zero => intro pc L st S o S' h; simp [q_run] at h
  | succ n ih =>
    intro pc L st S o S' h
    rw [q_run] at h
    split at h
    · cases h
    · split at h
      · rename_i hst
        have h1 := q_step_mono hst
        have h2 := ih _ _ _ _ _ _ h
        omega
      · split at h
        · split at h
          · rename_i hcl
            have h1 := (hcall _ _ _ _ _ hcl).1
            have h2 := ih _ _ _ _ _ _ h
            omega
          · rename_i hcl
            have h1 := (hcall _ _ _ _ _ hcl).1
            split at h
            · cases h; exact h1
            · split at h
              · have h2 := ih _ _ _ _ _ _ h
                omega
              · cases h
          · cases h
        · split at h
          · cases h; exact ⟨Nat.le_refl _, Nat.le_refl _⟩
          · obtain ⟨f, h1, h2⟩ := Option.map_eq_some_iff.mp h
            cases h2
            exact ⟨Nat.le_succ _, Nat.le_add_right _ _⟩
end QB
end QZ
