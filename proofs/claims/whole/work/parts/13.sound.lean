/-! SOUNDNESS of the pure interpreter, VII: every method of a good table keeps its contract. -/
section QV
theorem q_sl_len (P : (Nat → Nat) × Nat) (as : List Value) : (lg_sl (as.map (q_rv P))).length = (lg_sl as).length := by
  induction as with
  | nil => rfl
  | cons v t ih =>
    simp only [lg_sl, List.map_cons, List.flatMap_cons, List.length_append] at ih ⊢
    rw [ih, q_rv_cat]
    split <;> rfl
theorem q_args_rv (P : (Nat → Nat) × Nat) (as : List Value) : ∀ i : Nat, lv_args i (as.map (q_rv P)) = q_rL P (lv_args i as) := by
  induction as with
  | nil => intro i; rfl
  | cons v t ih =>
    intro i
    simp only [List.map_cons, lv_args, q_rL, q_rv_cat]
    congr 1
    exact ih _
section QB
variable {p : Program} {l : Launch} {e : Env} {R : Room} {s : State} {m : MethodId} {args : Array Value} {below : List Frame} {meth : Method} {c : Code} {H : Heap} {locs : List Loc} {cells slots mc ms : Nat} {Q : State → Prop} {pc : Nat} {ls : Array Slot} {P : (Nat → Nat) × Nat} {D : va_G} {S S' : QS} {xs : List Int32} {T : List QM} {TX : List (String × Nat × String)} {M : QM} {i : Instr} {st st' : List Value} {o : QO} {L L' : QL}
/-- the end of a method that returns -/
theorem q_ret_ok {bw : Prop} (hM : q_mokG bw T TX M) (F : q_Fr P xs TX M p m c s args meth) {v : Option Value} (hcode : q_code M pc = some i) (h : q_ret M i st = some v) (hW : q_W P D S' s H) (hS : va_S (q_A P) s.heap H locs) :
    W p l e R s m args below meth c H locs cells slots (vx_MQ below (q_Qc P D (.inl v) S') (q_XC P D (.inl v) S') args s cells slots (q_A P)) (F0 m pc ls (st.map (q_rv P))) := by
  obtain ⟨F1, hlocks, hr, -, hV⟩ := F
  have hq : ∀ w : Option Value, w = v → ∀ t : State, t.heap = H → s.WarmedH t.vm → q_Qc P D (.inl v) S' args s (.returned (w.map (q_rv P))) t := fun w hw t ht hW9 => ⟨v, rfl, by rw [hw], hW.at ht hW9, hS.F ht⟩
  refine vx_ret ?_
  unfold q_ret at h
  split at h
  · split at h
    · rename_i hn
      cases h
      exact W.vret F1.1 F1.2.1 (hr.trans hn) (hq none rfl) hS.2.2 (q_decL hM hcode rfl) hlocks
    · cases h
  · split at h
    · rename_i x ty hn
      split at h
      · rename_i hnar
        cases h
        exact W.zret F1.1 F1.2.1 (hr.trans hn) hnar (hq (some (.int _)) rfl) hS.2.2 (q_decL hM hcode rfl) hlocks
      · cases h
    · cases h
  · split at h
    · rename_i x hn
      cases h
      exact W.lret F1.1 F1.2.1 (hr.trans hn) (hq (some (.long _)) rfl) hS.2.2 (q_decL hM hcode rfl) hlocks
    · cases h
  · have href : ∀ w : Value, q_tag w = 2 → (q_rv P w = .null ∨ ∃ a, q_rv P w = .ref a) := by
      intro w hw
      rcases q_tag2 hw with rfl | ⟨x, rfl⟩ | ⟨x, rfl⟩
      · exact Or.inl rfl
      · exact Or.inr ⟨_, rfl⟩
      · exact Or.inr ⟨_, rfl⟩
    split at h
    · rename_i w nm hn
      split at h
      · rename_i ht
        cases h
        exact W.aret F1.1 F1.2.1 (hr.trans hn) (Or.inl ⟨_, rfl⟩) (href _ ht) (hq (some _) rfl) hS.2.2 (q_decL hM hcode rfl) hlocks
      · cases h
    · rename_i w nm hn
      split at h
      · rename_i ht
        cases h
        exact W.aret F1.1 F1.2.1 (hr.trans hn) (Or.inr ⟨_, rfl⟩) (href _ ht) (hq (some _) rfl) hS.2.2 (q_decL hM hcode rfl) hlocks
      · cases h
    · cases h
  · cases h
/-- 'throw new E(text)' -/
theorem q_thr_ok (hl0 : l.stackTraces = false) {bw : Prop} (hM : q_mokG bw T TX M) (F : q_Fr P xs TX M p m c s args meth) (hR : 9 ≤ R.frames ∧ 100 ≤ R.locals) {f : Nat} (hcode : q_code M pc = some i) (h : q_thr M pc i st = some f) (hnoh : qm_h M = [] → ∀ x ∈ c.exceptionTable.toList, False) (hsz : ls.size = qm_l M) (hW : q_W P D S s H) (hS : va_S (q_A P) s.heap H locs) (hc : cells + 1 ≤ R.cells) (hs : slots + 6 ≤ R.slots) {n9 : Nat × Nat} :
    W p l e R s m args below meth c H locs cells slots (vx_MQ below (q_Qc P D (.inr f) (S.1 ++ [(99, 0, [])], n9)) (q_XC P D (.inr f) (S.1 ++ [(99, 0, [])], n9)) args s (cells + 1) (slots + 6) (q_A P)) (F0 m pc ls (st.map (q_rv P))) := by
  obtain ⟨F1, hlocks, hr, -, hV⟩ := F
  have hts := F1.2.2.2.2
  have hK := hM.2.2.2.2.2.2.1
  unfold q_thr at h
  split at h
  · rename_i x
    split at h
    · rename_i e9 ic z9 hlk
      split at h
      · rename_i hcond
        obtain ⟨hsum, hh, hf, hc3⟩ := hcond
        obtain ⟨-, t1, t2, t3, t4, t5, t6, t7⟩ := hK _ (q_lk_mem hlk)
        have hat : ∀ w ∈ vx_atS (qm_o M) ic (q_en e9) q_nms, w.before args s = true := vx_hat (B := .castable (q_en e9) (q_en e9) :: q_dcs.map (fun Y => Cond.declares (Bundle.initS Y))) (fun w hw => hts w (t3 w hw)) (fun w hw => List.mem_cons.mpr (t4 w hw)) (fun w hw => by
          rcases List.mem_cons.mp hw with rfl | hw
          · exact va_Nw.use rfl (hV.2.2.2.2.2.2.1.1 e9 hf)
          · obtain ⟨Y, hY, rfl⟩ := List.mem_map.mp hw
            exact va_Nw.use rfl (hV.2.2.2.2.2.2.1.2 Y hY))
        have hx : ∀ t : State, s.vm.Alike t.vm → t.heap.size = H.size + 1 → (∀ q : Nat, q < H.size → t.heap[q]? = H[q]?) → q_XC P D (.inr e9) (S.1 ++ [(99, 0, [])], n9) (q_en e9) s t := by
          intro t hal hz ho
          refine ⟨e9, rfl, hf, rfl, (hW.push hz ho ?_).moved hal, ?_, fun q h1 h2 => ?_⟩
          · unfold q_C
            rw [if_neg (by decide)]
            exact Or.inl rfl
          · rw [hz]; exact Nat.le_trans hS.1 (Nat.le_succ _)
          · rw [ho q (Nat.lt_of_lt_of_le h1 hS.1)]
            exact hS.2.1 q h1 h2
        have hsum2 : ((st.map (q_rv P)).map fun v => v.category).sum ≤ 8 := by rw [q_sum_cat]; exact hsum
        have hlen : q_nms.length = 2 := rfl
        split at h
        · rename_i z hc4
          split at h
          · rename_i hcc
            obtain ⟨hz, hc6, hc9⟩ := hcc
            cases h
            obtain ⟨tx, htx⟩ := hK _ (q_lk_mem hz)
            obtain ⟨sa, hsa⟩ := hV.2.2.2.2.2.1 _ htx
            exact q_throwS (names := q_nms) F1.1 F1.2.1 hl0 F1.2.2.2.1 t5 t6 (hts _ t1) (hts _ t2) hsa hat t7 hV.2.2.1.1 hV.2.2.1.2 hS (hsz.trans F1.2.2.1.symm) (q_decL hM hcode rfl) (q_decL hM hc3 rfl) (q_decL hM hc4 rfl) (q_decL hM hc6 rfl) (q_decL hM hc9 rfl) (fun x hx => (hnoh hh x hx).elim) (by rw [hlen]; omega) (by rw [hlen]; omega) hc hs hlocks hx hS.2.2 (Nat.le_refl _) (Nat.le_refl _)
          · cases h
        · rename_i z hc4
          split at h
          · rename_i hcc
            obtain ⟨hz, hc6, hc9⟩ := hcc
            cases h
            obtain ⟨tx, htx⟩ := hK _ (q_lk_mem hz)
            obtain ⟨sa, hsa⟩ := hV.2.2.2.2.2.1 _ htx
            exact q_throwSW (names := q_nms) F1.1 F1.2.1 hl0 F1.2.2.2.1 t5 t6 (hts _ t1) (hts _ t2) hsa hat t7 hV.2.2.1.1 hV.2.2.1.2 hS (hsz.trans F1.2.2.1.symm) (q_decL hM hcode rfl) (q_decL hM hc3 rfl) (q_decL hM hc4 rfl) (q_decL hM hc6 rfl) (q_decL hM hc9 rfl) (fun x hx => (hnoh hh x hx).elim) (by rw [hlen]; omega) (by rw [hlen]; omega) hc hs hlocks hx hS.2.2 (Nat.le_refl _) (Nat.le_refl _)
          · cases h
        · cases h
      · cases h
    · cases h
  · cases h
end QB
set_option maxHeartbeats 4000000 in
/-- THE SOUNDNESS: what the pure interpreter comes to, the machine comes to -/
theorem q_pc_ok (l : Launch) (hl0 : l.stackTraces = false) (P : (Nat → Nat) × Nat) (D : va_G) (xs : List Int32) (TX : List (String × Nat × String)) (T : List QM) (hT : ∀ (mi : Nat) (M : QM), T[mi]? = some M → q_mok T TX M) (hac : Cond.arrayClass .int ∈ wsL_law ∧ Cond.arrayClass .long ∈ wsL_law ∧ Cond.arrayClass .boolean ∈ wsL_law) (n : Nat) : ∀ d : Nat, q_CallOK l P D xs TX T d (q_pc T (some xs) n d) := by
  intro d
  induction d with
  | zero => intro mi as S o S' h; simp [q_pc] at h
  | succ d ih =>
    intro mi as S o Sf h
    rw [q_pc] at h
    split at h
    · cases h
    · rename_i M hTM
      split at h
      · rename_i hlen
        have hmn := q_run_mono ih _ _ _ _ _ _ _ h
        refine ⟨hmn, M, hTM, hT _ _ hTM, ?_⟩
        have hM := hT _ _ hTM
        have main : ∀ (p : Program) (e : Env) (s : State) (m : MethodId) (args : Array Value) (below : List Frame) (meth : Method) (c : Code) (s₁ : State), BodyLoose p l (qm_y M) (headSpec (q_cw M :: wsL_law) ({ frames := (d + 1) + 8, cells := Sf.2.1 - S.2.1, slots := Sf.2.2 - S.2.2, locals := 60 * (d + 1) + 200 })) (qm_b M) (qm_l M) (qm_r M) e s m args below meth c s₁ → c.maxLocals = qm_l M → (qm_h M = [] → ∀ x ∈ c.exceptionTable.toList, False) → (qm_h M ≠ [] → c.exceptionTable.toList = tableOf (qm_h M)) → q_Pc P D xs TX as S args s →
            W p l e ({ frames := (d + 1) + 8, cells := Sf.2.1 - S.2.1, slots := Sf.2.2 - S.2.2, locals := 60 * (d + 1) + 200 }) s m args below meth c s.heap [] 0 0 (vx_MQ below (q_Qc P D o Sf) (q_XC P D o Sf) args s (Sf.2.1 - S.2.1) (Sf.2.2 - S.2.2) (q_A P)) (entryFrame m args (qm_l M)) := by
          intro p e s m args below meth c s₁ B hml hnoh htab hv
          obtain ⟨rfl, hWd, hV⟩ := hv
          have hts : ∀ w ∈ q_cw M :: wsL_law, w.before ((as.map (q_rv P)).toArray) s = true := atoms_spec (ws := q_cw M :: wsL_law) B.pre
          have hown : s.vm.findClass (qm_o M) = some m.cls := by rw [hM.2.1]; exact findClass_of_methodNamed B.named
          have F : q_Fr P xs TX M p m c s ((as.map (q_rv P)).toArray) meth := ⟨⟨B.exec, B.bytes, hml, hown, fun w hw => hts w (List.mem_cons_of_mem _ hw)⟩, B.notSynchronized, B.returns, fun hi => by rw [(name_of_methodNamed B.named B.method).1]; exact hM.2.2.1 hi, hV⟩
          rw [lg_entry_eq]
          have hl := lv_entry (as.map (q_rv P)) (n := qm_l M) (by rw [q_sl_len]; exact hlen)
          rw [q_args_rv] at hl
          refine q_run_ok (c0 := S.2.1) (s0 := S.2.2) hM hac F (d := d) ⟨by show d + 9 ≤ d + 1 + 8; omega, by show 60 * d + 260 ≤ 60 * (d + 1) + 200; omega⟩ ih (by show Sf.2.1 ≤ Sf.2.1 - S.2.1 + S.2.1; omega) (by show Sf.2.2 ≤ Sf.2.2 - S.2.2 + S.2.2; omega) htab ?_ ?_ ?_ n 0 _ [] S _ s.heap [] 0 0 h hl hWd va_S.rf (by omega) (by omega)
          · intro v pc i ls st H locs c1 s1 ho hcode hr hW1 hS1 hc1 hs1
            subst ho
            obtain rfl : c1 = Sf.2.1 - S.2.1 := by omega
            obtain rfl : s1 = Sf.2.2 - S.2.2 := by omega
            exact q_ret_ok hM F hcode hr hW1 hS1
          · intro f pc i ls st S1 H locs c1 s1 ho hcode hr hSf hsz hW1 hS1 hc1 hs1
            subst ho
            have e1 : Sf.2.1 - S.2.1 = c1 + 1 := by rw [hSf]; show S1.2.1 + 1 - S.2.1 = c1 + 1; omega
            have e2 : Sf.2.2 - S.2.2 = s1 + 6 := by rw [hSf]; show S1.2.2 + 6 - S.2.2 = s1 + 6; omega
            have k9 := q_thr_ok (l := l) (e := e) (below := below) (R := { frames := (d + 1) + 8, cells := Sf.2.1 - S.2.1, slots := Sf.2.2 - S.2.2, locals := 60 * (d + 1) + 200 }) (n9 := (S1.2.1 + 1, S1.2.2 + 6)) hl0 hM F ⟨by show 9 ≤ d + 1 + 8; omega, by show 100 ≤ 60 * (d + 1) + 200; omega⟩ hcode hr hnoh hsz hW1 hS1 (by show c1 + 1 ≤ Sf.2.1 - S.2.1; omega) (by show s1 + 6 ≤ Sf.2.2 - S.2.2; omega)
            rw [← e1, ← e2] at k9
            rw [hSf] at k9 ⊢
            exact k9
          · intro f q ce pc ls rest H locs c1 s1 ho hf hh hW1 hS1 hc1 hs1 hce hcv hcl
            subst ho
            exact vx_out (fun x hx => (hnoh hh x hx).elim) B.notSynchronized hce hcv hcl (fun t ht hal => ⟨f, rfl, hf, rfl, by rw [ht]; exact hW1.moved hal, hS1.F ht⟩) hS1.2.2 (by omega) (by omega)
        unfold q_Met
        by_cases hh : qm_h M = []
        · have hcw : q_cw M = Cond.code (qm_y M) (qm_b M) (qm_l M) (qm_r M) := if_pos hh
          rw [hcw] at main ⊢
          exact vx_ofW hM.1 rfl fun p e s m args below meth c s₁ B hml ht hv => main p e s m args below meth c s₁ B hml (fun _ => ht) (fun z => (z hh).elim) hv
        · have hcw : q_cw M = Cond.codeWith (qm_y M) (qm_b M) (qm_l M) (qm_r M) (qm_h M) := if_neg hh
          rw [hcw] at main ⊢
          exact vx_ofWH hM.1 rfl fun p e s m args below meth c s₁ B hml hv => main p e s m args below meth c s₁ B hml (fun z => (hh z).elim) (fun _ => vx_table (x := qm_y M) B (atoms_spec (ws := Cond.codeWith (qm_y M) (qm_b M) (qm_l M) (qm_r M) (qm_h M) :: wsL_law) B.pre _ List.mem_cons_self)) hv
      · cases h
end QV
