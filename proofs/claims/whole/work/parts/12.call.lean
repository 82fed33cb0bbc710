/-! SOUNDNESS of the pure interpreter, VI: calls, returns, throws, handlers; then the table of all methods. -/
section QY
variable {p : Program} {l : Launch} {e : Env} {R : Room} {s : State} {m : MethodId} {args : Array Value} {below : List Frame} {meth : Method} {c : Code} {H : Heap} {locs : List Loc} {cells slots mc ms : Nat} {Q : State → Prop} {pc : Nat} {ls : Array Slot} {P : (Nat → Nat) × Nat} {D : va_G} {S S' : QS} {xs : List Int32} {T : List QM} {TX : List (String × Nat × String)} {M : QM} {i : Instr} {st st' : List Value} {o : QO} {L L' : QL}
theorem q_V.at (hV : q_V P xs TX s s.heap) (hS : va_S (q_A P) s.heap H locs) {U : State} (hU : U.heap = H) (hW : s.WarmedH U.vm) : q_V P xs TX U U.heap := by
  rw [hU]
  exact (hV.kept hS.1 hS.2.1).moved hW
theorem q_W.at (hW : q_W P D S s H) {U : State} (hU : U.heap = H) (hv : s.WarmedH U.vm) : q_W P D S U U.heap := by
  rw [hU]
  exact hW.moved hv.alike
theorem q_split (st : List Value) (n : Nat) : st.map (q_rv P) = (((st.take n).reverse).map (q_rv P)).reverse ++ (st.drop n).map (q_rv P) := by
  rw [← List.map_reverse, List.reverse_reverse, ← List.map_append, List.take_append_drop]
theorem q_takelen {st : List Value} {n : Nat} (h : n ≤ st.length) : (((st.take n).reverse).map (q_rv P)).length = n := by
  rw [List.length_map, List.length_reverse, List.length_take]
  omega
set_option maxHeartbeats 4000000 in
theorem q_call_ok {bw : Prop} (hM : q_mokG bw T TX M) (F : q_Fr P xs TX M p m c s args meth) {d : Nat} (hR : d + 9 ≤ R.frames ∧ 60 * d + 260 ≤ R.locals) (hcode : q_code M pc = some i) {mi : Nat} {as rest : List Value} (h : q_call M i st S = some (mi, as, rest)) {M' : QM} (hT : T[mi]? = some M') (hM' : q_mok T TX M') (hMet : q_Met l P D xs TX M' d as S o S')
    (hl : lv_has ls (qm_l M) (q_rL P L)) (hW : q_W P D S s H) (hS : va_S (q_A P) s.heap H locs) (hf : cells + (S'.2.1 - S.2.1) ≤ R.cells ∧ slots + (S'.2.2 - S.2.2) ≤ R.slots)
    (kk : ∀ (v : Option Value) (H1 : Heap) (locs1 : List Loc), o = .inl v → q_W P D S' s H1 → va_S (q_A P) s.heap H1 locs1 → W p l e R s m args below meth c H1 locs1 (cells + (S'.2.1 - S.2.1)) (slots + (S'.2.2 - S.2.2)) Q (F0 m (pc + 3) ls ((v.toList ++ rest).map (q_rv P))))
    (kx : ∀ (f q : Nat) (ce : Cell) (H1 : Heap) (locs1 : List Loc), o = .inr f → f < 3 → q_W P D S' s H1 → va_S (q_A P) s.heap H1 locs1 → H1[q]? = some ce → ce.vm = .none → s.vm.findClass (q_en f) = some ce.cls → vx_W p l e R s m args below meth c H1 locs1 (cells + (S'.2.1 - S.2.1)) (slots + (S'.2.2 - S.2.2)) Q (F0 m pc ls (rest.map (q_rv P))) q) : W p l e R s m args below meth c H locs cells slots Q (F0 m pc ls (st.map (q_rv P))) := by
  obtain ⟨F1, -, -, -, hV⟩ := F
  have hts := F1.2.2.2.2
  have hK := hM.2.2.2.2.2.2.1
  have hml := hM'.2.2.2.1
  have hR2 : (d + 8) + 1 ≤ R.frames ∧ 8 + (qm_l M' + 11) + (60 * d + 200) ≤ R.locals := by omega
  have hsz : ∀ g : List Value, (F0 m pc ls g).locals.size = qm_l M := fun _ => hl.1
  have hG := q_goodIn hM'
  have kk2 : ∀ (v : Option Value) (H1 : Heap) (locs1 : List Loc), o = .inl v → q_W P D S' s H1 → va_S (q_A P) s.heap H1 locs1 → W p l e R s m args below meth c H1 locs1 (cells + (S'.2.1 - S.2.1)) (slots + (S'.2.2 - S.2.2)) Q (F0 m (pc + 3) ls ((v.map (q_rv P)).toList ++ rest.map (q_rv P))) := by
    intro v H1 locs1 h1 h2 h3
    have h4 := kk v H1 locs1 h1 h2 h3
    rw [List.map_append] at h4
    cases v <;> exact h4
  unfold q_call at h
  split at h
  · rename_i x
    split at h
    · rename_i mi9 n ci hlk
      obtain ⟨M2, row, g1, g2, g3, g4, g5, g6, g7, g8, g9, g10⟩ := hK _ (q_lk_mem hlk)
      split at h
      · rename_i b rest9 hdr
        split at h
        · rename_i cl hcl
          split at h
          · rename_i hcond
            obtain ⟨hci, hn, hsum⟩ := hcond
            cases h
            cases Option.some.inj (hT.symm.trans g1)
            obtain ⟨k9, rfl, hk9⟩ := q_at_s hcl
            have hcw : q_cw M' = Cond.code (qm_y M') (qm_b M') (qm_l M') (qm_r M') := if_pos g4
            unfold q_Met at hMet
            rw [hcw] at hMet hG
            have hsp : st.map (q_rv P) = (((st.take n).reverse).map (q_rv P)).reverse ++ .ref (P.2 + k9) :: rest.map (q_rv P) := by
              rw [q_split (P := P) st n, hdr]; rfl
            have hrecv : ∃ cellB : Cell, H[P.2 + k9]? = some cellB ∧ cellB.vm.isStatics = false ∧ s.vm.findClass (qm_y M').cls = some cellB.cls := by
              have hC := hW.2.2 k9 cl hk9
              obtain ⟨h50, -⟩ := q_clok _ _ g2
              unfold q_C at hC
              rw [hci, if_pos h50] at hC
              obtain ⟨row', hrow', cell, c1, c2, c3, -⟩ := hC
              exact ⟨cell, c1, by rw [c3]; rfl, by rw [c2, ← g3]; exact (hW.2.1 _ _ g2).2.1⟩
            rw [hsp]
            refine q_goOn (vx_runV (C := (qm_y M').cls) (b := P.2 + k9) (As := ((st.take n).reverse).map (q_rv P)) (rest := rest.map (q_rv P)) F1 hMet ⟨callB_of n hts hG rfl rfl rfl (hts _ g10) (hts _ g5) ⟨g9.1, g9.2, g8⟩ hR2, hts _ g6, hts _ g7⟩ ⟨q_Pc_blind, hrecv, fun U hU hv => ⟨rfl, hW.at hU hv, hV.at hS hU hv⟩⟩ rfl (q_takelen hn) (hsz _) rfl ?_ (q_decL hM hcode rfl) hf) hS kk2 kx
            rw [q_sum_cat]
            show 2 * 0 + _ ≤ 8
            omega
          · cases h
        · cases h
      · cases h
    · cases h
  · rename_i x
    split at h
    · rename_i mi9 n ci hlk
      obtain ⟨M2, g1, g5, g6, g8, g9, g10⟩ := hK _ (q_lk_mem hlk)
      split at h
      · rename_i hcond
        obtain ⟨hn, hsum⟩ := hcond
        cases h
        cases Option.some.inj (hT.symm.trans g1)
        have hsp := q_split (P := P) st n
        have hsum2 : 2 * (F0 m pc ls (st.map (q_rv P))).monitorRoom + (((st.drop n).map (q_rv P)).map fun v => v.category).sum ≤ 8 := by
          rw [q_sum_cat]
          show 2 * 0 + _ ≤ 8
          omega
        by_cases hh : qm_h M' = []
        · have hcw : q_cw M' = Cond.code (qm_y M') (qm_b M') (qm_l M') (qm_r M') := if_pos hh
          unfold q_Met at hMet
          rw [hcw] at hMet hG
          exact q_goOn (vx_runS (As := ((st.take n).reverse).map (q_rv P)) (rest := (st.drop n).map (q_rv P)) F1 hMet ⟨callB_of n hts hG rfl rfl rfl (hts _ g10) (hts _ g5) ⟨g9.1, g9.2, g8⟩ hR2, hts _ g6⟩ ⟨q_Pc_blind, fun U hU hv => ⟨rfl, hW.at hU hv, hV.at hS hU hv⟩⟩ rfl (q_takelen hn) (hsz _) hsp hsum2 (q_decL hM hcode rfl) hf) hS kk2 kx
        · have hcw : q_cw M' = Cond.codeWith (qm_y M') (qm_b M') (qm_l M') (qm_r M') (qm_h M') := if_neg hh
          unfold q_Met at hMet
          rw [hcw] at hMet hG
          have hG2 : GoodIn wsL_law (va_wsS (qm_o M) x (qm_y M') (Cond.codeWith (qm_y M') (qm_b M') (qm_l M') (qm_r M') (qm_h M') :: wsL_law)) := by
            intro w hw
            unfold va_wsS at hw
            rcases List.mem_append.mp hw with hw | hw
            · have : w ∈ wsL_law := by
                simp only [List.mem_cons, List.not_mem_nil, or_false] at hw
                rcases hw with rfl | rfl | rfl
                · exact g5
                · exact g6
                · exact g10
              exact ⟨this, good_of_word (q_good _ this)⟩
            · exact hG w hw
          exact q_goOn (vx_runSX (As := ((st.take n).reverse).map (q_rv P)) (rest := (st.drop n).map (q_rv P)) F1 hMet (vx_cwSW n hts hG2 rfl rfl rfl ⟨g9.1, g9.2, g8⟩ hR2) ⟨q_Pc_blind, fun U hU hv => ⟨rfl, hW.at hU hv, hV.at hS hU hv⟩⟩ rfl (q_takelen hn) (hsz _) hsp hsum2 (q_decL hM hcode rfl) hf) hS kk2 kx
      · cases h
    · cases h
  · rename_i x
    split at h
    · rename_i mi9 n ci hlk
      obtain ⟨M2, g1, g2, g3, g4, g5, g6, g8, g9, g10⟩ := hK _ (q_lk_mem hlk)
      split at h
      · rename_i b rest9 hdr
        split at h
        · rename_i hcond
          obtain ⟨hn, hsum⟩ := hcond
          cases h
          cases Option.some.inj (hT.symm.trans g1)
          have hcw : q_cw M' = Cond.code (qm_y M') (qm_b M') (qm_l M') none := by unfold q_cw; rw [if_pos g2, g4]
          unfold q_Met at hMet
          rw [hcw] at hMet hG
          have hsp : st.map (q_rv P) = (((st.take n).reverse).map (q_rv P)).reverse ++ .ref (q_ad P b) :: rest.map (q_rv P) := by
            rw [q_split (P := P) st n, hdr]; rfl
          rw [hsp]
          refine q_goOn (q_runI (b := q_ad P b) (As := ((st.take n).reverse).map (q_rv P)) (rest := rest.map (q_rv P)) F1 hMet ⟨callB_of n hts hG rfl rfl rfl (hts _ g10) (hts _ g5) ⟨g9.1, g9.2, g8⟩ hR2, g3, hts _ g6⟩ ⟨q_Pc_blind, fun U hU hv => ⟨rfl, hW.at hU hv, hV.at hS hU hv⟩⟩ rfl (q_takelen hn) (hsz _) rfl ?_ (q_decL hM hcode rfl) hf) hS kk2 kx
          rw [q_sum_cat]
          show 2 * 0 + _ ≤ 8
          omega
        · cases h
      · cases h
    · rename_i mi9 n ci hlk
      obtain ⟨M2, g1, g2, g3, g4, g5, g6, g8, g9, g10⟩ := hK _ (q_lk_mem hlk)
      split at h
      · rename_i b rest9 hdr
        split at h
        · rename_i hcond
          obtain ⟨hn, hsum⟩ := hcond
          cases h
          cases Option.some.inj (hT.symm.trans g1)
          have hcw : q_cw M' = Cond.code (qm_y M') (qm_b M') (qm_l M') none := by unfold q_cw; rw [if_pos g2, g4]
          unfold q_Met at hMet
          rw [hcw] at hMet hG
          have hsp : st.map (q_rv P) = (((st.take n).reverse).map (q_rv P)).reverse ++ .ref (q_ad P b) :: rest.map (q_rv P) := by
            rw [q_split (P := P) st n, hdr]; rfl
          rw [hsp]
          refine q_goOn (q_runIN (host := "DurableLoom") (b := q_ad P b) (As := ((st.take n).reverse).map (q_rv P)) (rest := rest.map (q_rv P)) F1 hMet ⟨va_cnB n hts hG rfl rfl rfl (hV.2.2.2.2.2.2.2.2.2.1 _ g5) (hts _ g10) ⟨g9.1, g9.2, g8⟩ hR2, g3, hts _ g6⟩ ⟨q_Pc_blind, fun U hU hv => ⟨rfl, hW.at hU hv, hV.at hS hU hv⟩⟩ rfl (q_takelen hn) (hsz _) rfl ?_ (q_decL hM hcode rfl) hf) hS kk2 kx
          rw [q_sum_cat]
          show 2 * 0 + _ ≤ 8
          omega
        · cases h
      · cases h
    · cases h
  · cases h
/-- a handler takes it -/
theorem q_hand_ok {bw : Prop} (hM : q_mokG bw T TX M) (F : q_Fr P xs TX M p m c s args meth) (htab : c.exceptionTable.toList = tableOf (qm_h M)) {f q pc' : Nat} {ce : Cell} {rest : List Value} (h : q_hand M pc f L = some (pc', L')) (hf : f < 3) (hl : lv_has ls (qm_l M) (q_rL P L)) (hcell : H[q]? = some ce) (hv : ce.vm = .none) (hcl : s.vm.findClass (q_en f) = some ce.cls)
    (k : ∀ ls1 : Array Slot, lv_has ls1 (qm_l M) (q_rL P L') → W p l e R s m args below meth c H locs cells slots Q (F0 m pc' ls1 [])) : vx_W p l e R s m args below meth c H locs cells slots Q (F0 m pc ls rest) q := by
  obtain ⟨F1, -, -, -, hV⟩ := F
  have hts := F1.2.2.2.2
  have hK := hM.2.2.2.2.2.2.1
  have hHd := hM.2.2.2.2.2.2.2
  unfold q_hand at h
  split at h
  · rename_i hh hfind
    obtain ⟨hp, pre, suf, hsp, hpre⟩ := List.find?_eq_some_iff_append.mp hfind
    have hspl : c.exceptionTable.toList = tableOf pre ++ ⟨hh.1, hh.2.1, hh.2.2.1, hh.2.2.2⟩ :: tableOf suf := by
      rw [htab, hsp]; simp [tableOf]
    have hmem : hh ∈ qm_h M := by rw [hsp]; simp
    obtain ⟨f1, hf1, hlk, hne⟩ := hHd hh hmem
    unfold q_hx at hp
    simp only [hlk, Bool.and_eq_true, decide_eq_true_eq, beq_iff_eq] at hp
    obtain ⟨hp1, hp2, hp3⟩ := hp
    subst hp3
    have hcov : covers (⟨hh.1, hh.2.1, hh.2.2.1, hh.2.2.2⟩ : ExceptionTableEntry) pc = true := by
      simp [covers, hp1, hp2]
    have hpass : ∀ z ∈ tableOf pre, covers z pc = false ∨ (z.catchType ≠ 0 ∧ ∃ nm : String, (Cond.classLink (qm_o M) z.catchType nm).before args s = true ∧ va_Nc (q_en f1) nm s) := by
      intro z hz
      obtain ⟨h9, hz1, rfl⟩ := List.mem_map.mp hz
      have hmem9 : h9 ∈ qm_h M := by rw [hsp]; simp [hz1]
      obtain ⟨f2, hf2, hlk2, hne2⟩ := hHd h9 hmem9
      by_cases hcv : covers (⟨h9.1, h9.2.1, h9.2.2.1, h9.2.2.2⟩ : ExceptionTableEntry) pc = true
      · refine Or.inr ⟨hne2, q_en f2, hts _ (hK _ (q_lk_mem hlk2)).2, hV.2.2.2.2.2.2.2.1 f1 f2 hf1 hf2 ?_⟩
        intro he
        have h8 := hpre h9 hz1
        unfold q_hx at h8
        simp [covers] at hcv
        simp [hlk2, hcv.1, hcv.2, he] at h8
      · exact Or.inl (by simpa using hcv)
    have hgo : ∀ kk : W p l e R s m args below meth c H locs cells slots Q (F0 m hh.2.2.1 ls [.ref q]), vx_W p l e R s m args below meth c H locs cells slots Q (F0 m pc ls rest) q := fun kk =>
      vx_catch (name := q_en f1) F1.2.2.2.1 (tableOf pre) ⟨hh.1, hh.2.1, hh.2.2.1, hh.2.2.2⟩ (tableOf suf) hspl hpass hcov hne (hts _ (hK _ (q_lk_mem hlk)).2) (va_Nw.use rfl (hV.2.2.2.2.2.2.1.1 f1 hf1)) hcell hv hcl kk
    have hdrop : ∀ (n : Nat) (ls1 : Array Slot), lv_has ls1 (qm_l M) ((n, Value.ref q) :: (q_rL P L).filter (fun q => !(q.1 == n) && !(q.1 + 1 == n && q.2.category == 2))) → lv_has ls1 (qm_l M) (q_rL P (q_rm L n)) := by
      intro n ls1 h1
      rw [q_rm_rv]
      exact ⟨h1.1, h1.2.1, fun z hz => h1.2.2 z (List.mem_cons_of_mem _ hz)⟩
    split at h
    · rename_i n hc9
      split at h
      · rename_i hn
        cases h
        exact hgo (lv_astore F1.1 F1.2.1 (q_decL hM hc9 rfl) hl hn rfl fun ls1 hl1 => k ls1 (hdrop n ls1 hl1))
      · cases h
    · rename_i n hc9
      split at h
      · rename_i hn
        cases h
        exact hgo (lv_astore_n F1.1 F1.2.1 (q_decL hM hc9 rfl) rfl hl hn rfl fun ls1 hl1 => k ls1 (hdrop _ ls1 hl1))
      · cases h
    · cases h
  · cases h
set_option maxHeartbeats 4000000 in
theorem q_run_ok {bw : Prop} (hM : q_mokG bw T TX M) (hac : Cond.arrayClass .int ∈ wsL_law ∧ Cond.arrayClass .long ∈ wsL_law ∧ Cond.arrayClass .boolean ∈ wsL_law) (F : q_Fr P xs TX M p m c s args meth) {d : Nat} (hR : d + 9 ≤ R.frames ∧ 60 * d + 260 ≤ R.locals) {call : Nat → List Value → QS → Option (QO × QS)} (hcall : q_CallOK l P D xs TX T d call) {Sf : QS} {c0 s0 : Nat} (hC : Sf.2.1 ≤ R.cells + c0) (hSl : Sf.2.2 ≤ R.slots + s0)
    (htab : qm_h M ≠ [] → c.exceptionTable.toList = tableOf (qm_h M))
    (hret : ∀ (v : Option Value) (pc : Nat) (i : Instr) (ls : Array Slot) (st : List Value) (H : Heap) (locs : List Loc) (c1 s1 : Nat), o = .inl v → q_code M pc = some i → q_ret M i st = some v → q_W P D Sf s H → va_S (q_A P) s.heap H locs → c1 + c0 = Sf.2.1 → s1 + s0 = Sf.2.2 → W p l e R s m args below meth c H locs c1 s1 Q (F0 m pc ls (st.map (q_rv P))))
    (hthr : ∀ (f pc : Nat) (i : Instr) (ls : Array Slot) (st : List Value) (S1 : QS) (H : Heap) (locs : List Loc) (c1 s1 : Nat), o = .inr f → q_code M pc = some i → q_thr M pc i st = some f → Sf = (S1.1 ++ [(99, 0, [])], S1.2.1 + 1, S1.2.2 + 6) → ls.size = qm_l M → q_W P D S1 s H → va_S (q_A P) s.heap H locs → c1 + c0 = S1.2.1 → s1 + s0 = S1.2.2 → W p l e R s m args below meth c H locs c1 s1 Q (F0 m pc ls (st.map (q_rv P))))
    (hprop : ∀ (f q : Nat) (ce : Cell) (pc : Nat) (ls : Array Slot) (rest : List Value) (H : Heap) (locs : List Loc) (c1 s1 : Nat), o = .inr f → f < 3 → qm_h M = [] → q_W P D Sf s H → va_S (q_A P) s.heap H locs → c1 + c0 = Sf.2.1 → s1 + s0 = Sf.2.2 → H[q]? = some ce → ce.vm = .none → s.vm.findClass (q_en f) = some ce.cls → vx_W p l e R s m args below meth c H locs c1 s1 Q (F0 m pc ls rest) q) :
    ∀ (n pc : Nat) (L : QL) (st : List Value) (S : QS) (ls : Array Slot) (H : Heap) (locs : List Loc) (cells slots : Nat), q_run call M (some xs) n pc L st S = some (o, Sf) → lv_has ls (qm_l M) (q_rL P L) → q_W P D S s H → va_S (q_A P) s.heap H locs → cells + c0 = S.2.1 → slots + s0 = S.2.2 → W p l e R s m args below meth c H locs cells slots Q (F0 m pc ls (st.map (q_rv P))) := by
  intro n
  induction n with
  | zero => intro pc L st S ls H locs cells slots h; simp [q_run] at h
  | succ n ih =>
    intro pc L st S ls H locs cells slots h hl hW hS hc hs
    rw [q_run] at h
    split at h
    · cases h
    · rename_i i hcode
      split at h
      · rename_i pc' L' st' S' hst
        have hm1 := q_run_mono hcall _ _ _ _ _ _ _ h
        exact q_step_ok hM hac F ⟨by omega, by omega⟩ hcode hst hl hW hS hc hs (by omega) (by omega) fun ls1 H1 locs1 c1 s1 g1 g2 g3 g4 g5 => ih pc' L' st' S' ls1 H1 locs1 c1 s1 h g1 g2 g3 g4 g5
      · split at h
        · rename_i mi as rest hcl
          split at h
          · rename_i v S' hca
            obtain ⟨hmn, M', hT, hM', hMet⟩ := hcall _ _ _ _ _ hca
            have hm1 := q_run_mono hcall _ _ _ _ _ _ _ h
            refine q_call_ok hM F hR hcode hcl hT hM' hMet hl hW hS ⟨by omega, by omega⟩ (fun v9 H1 locs1 h1 h2 h3 => ?_) (fun f q ce H1 locs1 h1 => by cases h1)
            cases h1
            exact ih _ _ _ _ ls H1 locs1 _ _ h hl h2 h3 (by omega) (by omega)
          · rename_i f S' hca
            obtain ⟨hmn, M', hT, hM', hMet⟩ := hcall _ _ _ _ _ hca
            split at h
            · rename_i hh
              cases h
              exact q_call_ok hM F hR hcode hcl hT hM' hMet hl hW hS ⟨by omega, by omega⟩ (fun v9 H1 locs1 h1 => by cases h1) (fun f9 q ce H1 locs1 h1 h2 h3 h4 h5 h6 h7 => hprop f9 q ce pc ls _ H1 locs1 _ _ h1 h2 hh h3 h4 (by omega) (by omega) h5 h6 h7)
            · rename_i hh
              split at h
              · rename_i pc' L' hhd
                have hm1 := q_run_mono hcall _ _ _ _ _ _ _ h
                refine q_call_ok hM F hR hcode hcl hT hM' hMet hl hW hS ⟨by omega, by omega⟩ (fun v9 H1 locs1 h1 => by cases h1) (fun f9 q ce H1 locs1 h1 h2 h3 h4 h5 h6 h7 => ?_)
                cases h1
                exact q_hand_ok hM F (htab hh) hhd h2 hl h5 h6 h7 fun ls1 hl1 => ih pc' L' [] S' ls1 H1 locs1 _ _ h hl1 h3 h4 (by omega) (by omega)
              · cases h
          · cases h
        · split at h
          · rename_i v hr9
            cases h
            exact hret v pc i ls st H locs cells slots rfl hcode hr9 hW hS hc hs
          · obtain ⟨f, h1, h2⟩ := Option.map_eq_some_iff.mp h
            cases h2
            exact hthr f pc i ls st S H locs cells slots rfl hcode h1 rfl hl.1 hW hS hc hs
end QY
