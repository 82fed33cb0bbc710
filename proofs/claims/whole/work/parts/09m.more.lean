/-! SOUNDNESS of the pure interpreter, IV b: casts, class objects, copies, and what Object[] takes. -/
section QMO
theorem q_rd_cpy (cs cd : QC) (n i : Nat) : q_rd (q_cpy cs cd n) i = if i < n then q_rd cs i else q_rd cd i := by
  unfold q_cpy
  induction n with
  | zero => rfl
  | succ n ih =>
    rw [List.range_succ, List.foldl_append, List.foldl_cons, List.foldl_nil, q_rd_wr, ih]
    by_cases h : i = n
    · subst h; rw [if_pos rfl, if_pos (Nat.lt_succ_self _)]
    · rw [if_neg h]
      by_cases h2 : i < n
      · rw [if_pos h2, if_pos (by omega)]
      · rw [if_neg h2, if_neg (by omega)]
theorem q_cpy_k (cs cd : QC) (n : Nat) : (q_cpy cs cd n).1 = cd.1 ∧ (q_cpy cs cd n).2.1 = cd.2.1 := by
  unfold q_cpy
  induction n with
  | zero => exact ⟨rfl, rfl⟩
  | succ n ih => rw [List.range_succ, List.foldl_append, List.foldl_cons, List.foldl_nil]; exact ih
theorem q_nn {z : Int32} (hz : ¬ z < 0) : z.toInt = (z.toNatClampNeg : Int) := by
  have hz0 : (0 : Int) ≤ z.toInt := by
    have := Int32.not_lt.mp hz
    simpa using Int32.le_iff_toInt_le.mp this
  show z.toInt = ((z.toInt.toNat : Nat) : Int)
  omega
section QB
variable {p : Program} {l : Launch} {e : Env} {R : Room} {s : State} {m : MethodId} {args : Array Value} {below : List Frame} {meth : Method} {c : Code} {H : Heap} {locs : List Loc} {cells slots : Nat} {Q : State → Prop} {pc : Nat} {ls : Array Slot} {P : (Nat → Nat) × Nat} {D : va_G} {S S' : QS} {xs : List Int32} {T : List QM} {TX : List (String × Nat × String)} {M : QM} {i : Instr} {st st' : List Value}
/-- null into an array of references -/
theorem q_WaastN (hexec : p.tables.exec = Jvm.exec) {cc : ByteArray} (hb : c.code = cc) {a : Addr} {cell : Cell} {ty : FieldType} (href : ty.isReference = true) {j : Int32} (hcell : H[a]? = some cell) (harr : s.isArrayOf cell ty) (hknown : cell.vm ≠ .unknown) (hin : ¬ (j < 0 ∨ cell.slots.size ≤ j.toNatClampNeg))
    {g : JFrame} (hg : g.method = m) {rest : List Value} (hstack : g.stack = .null :: .int j :: .ref a :: rest) (hdg : decode cc g.pc = .ok (.aastore, 1))
    (kk : ∀ H' : Heap, H'[a]? = some (cell.setSlot j.toNatClampNeg .null) → H'.size = H.size → (∀ q, q ≠ a → H'[q]? = H[q]?) → W p l e R s m args below meth c H' (locs ++ [⟨a, j.toNatClampNeg⟩]) cells slots Q { g with pc := g.pc + 1, stack := rest }) :
    W p l e R s m args below meth c H locs cells slots Q g := by
  intro T hT X
  have hT' : T.heap[a]? = some cell := by rw [hT]; exact hcell
  have hTa := State.isArrayOf_alike X.warmed.alike harr
  have hfit : T.fitsSlot cell.cls cell.vm j.toNatClampNeg .null = true := by
    obtain ⟨hobj, k, hk, comp, hkind⟩ := hTa
    have hf : fits ty .null = true := by cases ty <;> first | rfl | cases href
    cases hvm : cell.vm <;> first | exact absurd hvm (hobj _) | simp [State.fitsSlot, State.slotType?, hk, hkind, hf]
  have X' := X.stored hT' j.toNatClampNeg .null
  have hlt : a < T.heap.size := (Array.getElem?_eq_some_iff.mp hT').1
  obtain ⟨t', a1, b1⟩ := kk _ (heapAt_setCell_self _ hlt) (by rw [size_setCell, hT]) (fun q hq => by rw [heapAt_setCell_ne _ (Ne.symm hq), hT]) (T.setCell a (cell.setSlot j.toNatClampNeg .null)) rfl X'
  refine ⟨t', ?_, b1⟩
  subst hg
  have hdg2 : decode c.code g.pc = .ok (.aastore, 1) := by rw [hb]; exact hdg
  jvm_step X.here [hexec, hdg2]
  refine aastore.wp_of_null (c := cell) (t := ty) X.here.top hstack hT' hTa hin hknown (Nat.not_le.mp fun q => hin (Or.inr q)) hfit ?_
  intro acts
  rw [afterInstr_ok]
  exact a1
/-- an element that Object[] takes, in the heap -/
theorem q_oel_ok (hV : q_V P xs TX s s.heap) (hW : q_W P D S s H) {v : Value} (h : q_oel S v = true) : q_rv P v = .null ∨ ∃ (a : Nat) (cv : Cell) (kv : Class), q_rv P v = .ref a ∧ H[a]? = some cv ∧ cv.vm = .none ∧ s.vm.classes[cv.cls]? = some kv ∧ ∀ comp : ClassId, s.vm.findClass "java/lang/Object" = some comp → s.vm.assignable cv.cls comp = true := by
  unfold q_oel at h
  split at h
  · exact Or.inl rfl
  · split at h
    · rename_i c9 hc
      obtain ⟨k9, rfl, hk9⟩ := q_at_s hc
      have h50 : c9.1 < 50 := by
        simp only [q_obk, Bool.or_eq_true, beq_iff_eq] at h
        omega
      have hC := hW.2.2 k9 c9 hk9
      unfold q_C at hC
      rw [if_pos h50] at hC
      obtain ⟨row, hrow, cell, c1, c2, c3, -⟩ := hC
      obtain ⟨-, hfc, kC, hkC, -⟩ := hW.2.1 _ _ hrow
      refine Or.inr ⟨_, cell, kC, rfl, c1, c3, by rw [c2]; exact hkC, fun comp hcomp => ?_⟩
      obtain ⟨cC, cT, f1, f2, f3⟩ := Cond.castable_spec (va_Nw.use (A := #[]) rfl (hV.2.2.2.2.2.2.2.2.2.2.2.2.2 c9.1 row h hrow))
      have e1 := Option.some.inj (hfc.symm.trans f1)
      have e2 := Option.some.inj (hcomp.symm.trans f2)
      rw [c2, e1, e2]
      exact f3
    · cases h
  · cases h
set_option maxHeartbeats 4000000 in
theorem q_more_ok {bw : Prop} (hM : q_mokG bw T TX M) (F : q_Fr P xs TX M p m c s args meth) (hR : 1 ≤ R.frames ∧ 100 ≤ R.locals) (hls : ls.size = qm_l M) (hW : q_W P D S s H) (hS : va_S (q_A P) s.heap H locs) (h : q_more M i st S = some (st', S')) (hd : decode (qm_b M) pc = .ok (i, q_len i))
    (hc : cells + (S'.2.1 - S.2.1) ≤ R.cells) (hs : slots + (S'.2.2 - S.2.2) ≤ R.slots)
    (k : ∀ (H1 : Heap) (locs1 : List Loc), q_W P D S' s H1 → va_S (q_A P) s.heap H1 locs1 → W p l e R s m args below meth c H1 locs1 (cells + (S'.2.1 - S.2.1)) (slots + (S'.2.2 - S.2.2)) Q (F0 m (pc + q_len i) ls (st'.map (q_rv P)))) : W p l e R s m args below meth c H locs cells slots Q (F0 m pc ls (st.map (q_rv P))) := by
  obtain ⟨F1, -, -, -, hV⟩ := F
  have hK := hM.2.2.2.2.2.2.1
  have hts := F1.2.2.2.2
  have z1 : ∀ {a b : Nat}, a + (b - b) = a := fun {a b} => by rw [Nat.sub_self]; rfl
  have hml : c.maxLocals = ls.size := F1.2.2.1.trans hls.symm
  have cast : ∀ (x k9 : Nat) (rest : List Value) (cell : Cell) (nm : String), H[P.2 + k9]? = some cell → cell.vm.isStatics = false → s.vm.findClass nm = some cell.cls → Cond.classLink (qm_o M) x nm ∈ wsL_law → decode (qm_b M) pc = .ok (.checkcast x, 3) → W p l e R s m args below meth c H locs cells slots Q (F0 m (pc + 3) ls (.ref (P.2 + k9) :: rest)) → W p l e R s m args below meth c H locs cells slots Q (F0 m pc ls (.ref (P.2 + k9) :: rest)) := by
    intro x k9 rest cell nm h1 h2 h3 hlink hd9 k2 T' hT X
    obtain ⟨vm', X', stp⟩ := X.checkcastYes F1.1 F1.2.2.2.1 (hts _ hlink) (by rw [hT]; exact h1) h2 h3 (va_asg _ _) (g := F0 m pc ls (.ref (P.2 + k9) :: rest)) rfl rfl (by rw [F1.2.1]; exact hd9)
    obtain ⟨t, a1, b1⟩ := k2 (T'.setVm vm') hT X'
    exact ⟨t, stp t a1, b1⟩
  unfold q_more at h
  split at h
  · -- checkcast
    rename_i x
    split at h
    · cases h
      have k2 := k H locs hW hS
      rw [z1, z1] at k2
      exact lv_castN F1.1 F1.2.1 hd k2
    · rename_i kd a b r rest hlk
      split at h
      · rename_i cc hc9
        split at h
        · rename_i hkd
          cases h
          obtain ⟨k9, rfl, hk9⟩ := q_at_s hc9
          have k2 := k H locs hW hS
          rw [z1, z1] at k2
          rcases hK _ (q_lk_mem hlk) with ⟨ha, hlink⟩ | ⟨row, hrow, hlink⟩
          · rw [Nat.add_sub_cancel] at hlink
            obtain ⟨cA, h1, h2⟩ := q_arr_of hW hk9 (by omega)
            have hnm := h2.2.1
            rw [hkd, ha] at hnm
            exact cast x k9 _ _ "[J" h1 rfl hnm hlink hd k2
          · rw [Nat.add_sub_cancel] at hlink
            obtain ⟨h50, -⟩ := q_clok _ _ hrow
            have hC := hW.2.2 k9 cc hk9
            unfold q_C at hC
            rw [hkd, if_pos h50] at hC
            obtain ⟨row', hrow', cell, c1, c2, c3, -⟩ := hC
            exact cast x k9 _ cell row.1 c1 (by rw [c3]; rfl) (by rw [c2]; exact (hW.2.1 _ _ hrow).2.1) hlink hd k2
        · cases h
      · cases h
    · cases h
  · -- a class object
    rename_i x
    split at h
    · rename_i a b d hlk
      cases h
      have k2 := k H locs hW hS
      rw [z1, z1] at k2
      exact va_ldcM F1.1 F1.2.1 F1.2.2.2.1 (hts _ (hK _ (q_lk_mem hlk))) hV.2.2.2.2.2.2.2.2.2.2.1 hd k2
    · cases h
  · rename_i x
    split at h
    · -- getClass
      rename_i r rest hlk
      split at h
      · rename_i cc hc9
        split at h
        · rename_i hcond
          obtain ⟨h107, hsum⟩ := hcond
          cases h
          obtain ⟨k9, rfl, hk9⟩ := q_at_s hc9
          obtain ⟨g1, g2, g3, g4⟩ := hK _ (q_lk_mem hlk)
          obtain ⟨cA, h1, h2⟩ := q_arr_of hW hk9 (by omega)
          have hn : "[" ++ (q_ty 107).toString = "[Ljava/lang/Object;" := by decide
          have hnm := h2.2.1
          rw [h107, hn] at hnm
          have k2 := k H locs hW hS
          rw [z1, z1] at k2
          refine va_getC F1.1 F1.2.1 hml F1.2.2.2.1 (hts _ g1) (va_Dc.use hV.2.2.2.2.2.2.2.2.2.2.2.1) (hts _ g2) (hts _ g3) (hts _ g4) hV.2.2.2.2.2.2.2.2.2.2.1 ⟨_, h1, rfl, hnm⟩ hR.1 ?_ hd k2
          rw [q_sum_cat]
          omega
        · cases h
      · cases h
    · -- clone
      rename_i r rest hlk
      split at h
      · rename_i cc hc9
        split at h
        · rename_i hcond
          obtain ⟨h101, hsum, hall⟩ := hcond
          cases h
          obtain ⟨k9, rfl, hk9⟩ := q_at_s hc9
          obtain ⟨g1, g2, g3, g4, g5⟩ := hK _ (q_lk_mem hlk)
          obtain ⟨cA, h1, h2⟩ := q_arr_of hW hk9 (by omega)
          have hn : "[" ++ (q_ty 101).toString = "[J" := by decide
          have hnm := h2.2.1
          rw [h101, hn] at hnm
          obtain ⟨c0, t0, f1, f2, f3⟩ := Cond.castable_spec (va_Nw.use (A := args) rfl hV.2.2.2.2.2.2.2.2.2.2.2.2.1)
          cases hnm.symm.trans f1
          have e1 : (q_new S cc).2.1 - S.2.1 = 1 := by show S.2.1 + 1 - S.2.1 = 1; omega
          have e2 : (q_new S cc).2.2 - S.2.2 = cc.2.1 := by show S.2.2 + cc.2.1 - S.2.2 = _; omega
          rw [e1] at hc k
          rw [e2] at hs k
          have h3 := h2.1
          rw [h101] at h3
          have h3 : ArrOfT s cA .long := h3
          obtain ⟨-, kS, hkS, compS, hkindS⟩ := h3 0 (fun _ => .null)
          intro T' hT X
          obtain ⟨-, kA, hkA, comp, hkind⟩ := State.isArrayOf_alike X.warmed.alike (h3 0 (fun _ => .null))
          obtain ⟨vm', X', stp⟩ := X.cloneArray F1.1 F1.2.2.2.1 (hts _ g1) (hts _ g2) (hts _ g3) (hts _ g4) (hts _ g5) (a := P.2 + k9) (cell := arrV cA cc.2.1 (fun i => q_rv P (q_rd cc i))) (by rw [hT]; exact h1) (fun k h => by cases h) (fun h => by cases h) hnm f2 f3
            (fun i v hv => by
              have hi : i < cc.2.1 := by
                have := (Array.getElem?_eq_some_iff.mp hv).1
                rw [arrV_size] at this
                exact this
              rw [arrV_read _ _ hi] at hv
              have ht := List.all_eq_true.mp hall i (List.mem_range.mpr hi)
              obtain ⟨x9, hx9⟩ := q_tag1 (by simpa using ht)
              rw [hx9] at hv
              have hv2 : v = .long x9 := (Option.some.inj hv).symm
              subst hv2
              have hk' : T'.vm.classes[cA]? = some kA := hkA
              show T'.fitsSlot cA .none i (.long x9) = true
              simp [State.fitsSlot, State.slotType?, hk', hkind, fits])
            (g := F0 m pc ls (.ref (P.2 + k9) :: rest.map (q_rv P))) rfl hml.symm rfl (by rw [F1.2.1]; exact hd) hR.1 (by show 2 * 0 + _ + 14 ≤ _; rw [q_sum_cat]; omega) hc (by rw [arrV_size]; exact hs) (hloader := Vm.clonesLoader_of_array hkS hkindS)
          rw [arrV_size] at X'
          generalize hH1 : H.push (arrV cA cc.2.1 (fun i => q_rv P (q_rd cc i))) = H1
          have y1 : H1.size = H.size + 1 := by rw [← hH1, Array.size_push]
          have y2 : H1[H.size]? = some (arrV cA cc.2.1 (fun i => q_rv P (q_rd cc i))) := by rw [← hH1, Array.getElem?_push_size]
          have y3 : ∀ q : Nat, q < H.size → H1[q]? = H[q]? := fun q hq => by rw [← hH1, Array.getElem?_push, if_neg (Nat.ne_of_lt hq)]
          have hC9 : q_C P D s H1 S.1.length cc := by
            unfold q_C
            rw [if_neg (by omega)]
            exact Or.inr ⟨cA, by rw [← hW.1]; exact y2, h2⟩
          obtain ⟨t, b1, b2⟩ := k H1 locs (hW.push y1 y3 hC9) (q_S_push hS y1 y3) ((T'.setVm vm').pushCell (arrV cA cc.2.1 (fun i => q_rv P (q_rd cc i)))) (by rw [← hH1, ← hT]; rfl) X'
          have hz : T'.heap.size = P.2 + S.1.length := by rw [hT]; exact hW.1
          rw [hz] at stp
          exact ⟨t, stp t b1, b2⟩
        · cases h
      · cases h
    · cases h
  · -- arraycopy
    rename_i x
    split at h
    · rename_i n dp d sp b rest hlk
      split at h
      · rename_i cd cs hcd hcs
        split at h
        · rename_i hcond
          obtain ⟨hk1, hk2, hsp, hdp, ⟨hn0, hn1, hn2⟩, hsum, hall⟩ := hcond
          subst hsp hdp
          cases h
          obtain ⟨kd9, rfl, hkd9⟩ := q_at_s hcd
          obtain ⟨ks9, rfl, hks9⟩ := q_at_s hcs
          obtain ⟨g1, g2, g3, g4⟩ := hK _ (q_lk_mem hlk)
          obtain ⟨cA, h1, h2⟩ := q_arr_of hW hkd9 (by omega)
          obtain ⟨cB, b1, b2⟩ := q_arr_of hW hks9 (by omega)
          have h3 := h2
          rw [hk1] at h3
          have b3 := b2
          rw [hk2] at b3
          obtain ⟨kA, comp, e1, e2, e3⟩ := h3.2.2 rfl
          obtain ⟨kB, compB, r1, r2, r3⟩ := b3.2.2 rfl
          have e3 : s.vm.findClass "java/lang/Object" = some comp := e3
          have hnn := q_nn hn0
          have e0 : ∀ i : Nat, (0 : Int32).toNatClampNeg + i = i := fun i => by show 0 + i = i; omega
          intro T' hT X
          obtain ⟨vm', X', stp⟩ := X.arraycopy F1.1 F1.2.2.2.1 (hts _ g1) (hts _ g2) (hts _ g3) (hts _ g4) (src := P.2 + ks9) (dst := P.2 + kd9) (cs := arrV cB cs.2.1 (fun i => q_rv P (q_rd cs i))) (cd := arrV cA cd.2.1 (fun i => q_rv P (q_rd cd i))) (srcPos := 0) (destPos := 0) (n := n) (by rw [hT]; exact b1) (by rw [hT]; exact h1) (fun _ h => by cases h) (fun _ h => by cases h) (fun h => by cases h) (fun h => by cases h) r1 e1 r2 e2 rfl (by decide) (by decide) hn0
            (by rw [arrV_size, hnn]; show ¬ (0 : Int) + _ > _; omega) (by rw [arrV_size, hnn]; show ¬ (0 : Int) + _ > _; omega)
            (fun vm₁ hal i hi => by
              have e : (arrV cB cs.2.1 (fun i => q_rv P (q_rd cs i))).slots.getD ((0 : Int32).toNatClampNeg + i) .null = q_rv P (q_rd cs i) := by
                rw [e0, Array.getD_eq_getD_getElem?, arrV_read _ _ (by omega)]
                rfl
              rw [e]
              rcases q_oel_ok hV hW (List.all_eq_true.mp hall i (List.mem_range.mpr hi)) with q1 | ⟨a9, cv, kv, q1, v1, v2, v3, v4⟩
              · rw [q1]; exact ⟨rfl, trivial⟩
              · rw [q1]
                obtain ⟨kE, hkE, -⟩ := Vm.findClass_spec e3
                obtain ⟨kC', hkC', -⟩ := hal.2.2 _ _ v3
                obtain ⟨kE', hkE', -⟩ := hal.2.2 _ _ hkE
                refine ⟨rfl, cv, (show T'.heap[a9]? = some cv by rw [hT]; exact v1), (fun q h => by rw [v2] at h; cases h), ⟨kC', hkC'⟩, ?_, ?_⟩
                · exact ⟨kE', hkE'⟩
                · show vm₁.assignable _ _ = true
                  rw [hal.assignable]
                  exact v4 _ e3)
            (g := F0 m pc ls (.int n :: .int 0 :: .ref (P.2 + kd9) :: .int 0 :: .ref (P.2 + ks9) :: st'.map (q_rv P))) rfl hml.symm (rest := st'.map (q_rv P)) rfl (by rw [F1.2.1]; exact hd) hR.1 (by show 2 * 0 + _ + _ ≤ _; have hw : nativeFrameWords "java/lang/System" "arraycopy" 5 ≤ 20 := (by decide); rw [q_sum_cat]; omega)
          have e5 : copied (arrV cB cs.2.1 (fun i => q_rv P (q_rd cs i))) (arrV cA cd.2.1 (fun i => q_rv P (q_rd cd i))) 0 0 n = arrV cA cd.2.1 (fun i => q_rv P (q_rd (q_cpy cs cd n.toNatClampNeg) i)) := by
            have := va_copied (fun z : Value => z) cB cA (n0 := cs.2.1) (n1 := cd.2.1) (sp := (0 : Int32).toNatClampNeg) (dp := (0 : Int32).toNatClampNeg) (n := n.toNatClampNeg) (fun i => q_rv P (q_rd cs i)) (fun i => q_rv P (q_rd cd i)) (by rw [e0]; exact hn2)
            refine Eq.trans this ?_
            congr 1
            funext j
            have e9 : (0 : Int32).toNatClampNeg = 0 := rfl
            rw [q_rd_cpy]
            unfold va_cpy
            rw [e9]
            by_cases hj : j < n.toNatClampNeg
            · rw [if_pos ⟨Nat.zero_le _, by omega⟩, if_pos hj]
              simp
            · rw [if_neg (by omega), if_neg hj]
          rw [e5] at X' stp
          have hl : P.2 + kd9 < H.size := (Array.getElem?_eq_some_iff.mp h1).1
          generalize hnew : arrV cA cd.2.1 (fun i => q_rv P (q_rd (q_cpy cs cd n.toNatClampNeg) i)) = cN at X' stp
          have oq : ∀ q : Nat, q ≠ P.2 + kd9 → (H.setIfInBounds (P.2 + kd9) cN)[q]? = H[q]? := fun q hq => by simp [Array.getElem?_setIfInBounds, Ne.symm hq]
          have os : (H.setIfInBounds (P.2 + kd9) cN)[P.2 + kd9]? = some cN := by simp [Array.getElem?_setIfInBounds, hl]
          have oz : (H.setIfInBounds (P.2 + kd9) cN).size = H.size := by simp
          have hC9 : q_C P D s (H.setIfInBounds (P.2 + kd9) cN) kd9 (q_cpy cs cd n.toNatClampNeg) := by
            unfold q_C
            rw [(q_cpy_k _ _ _).1, (q_cpy_k _ _ _).2, if_neg (by omega)]
            exact Or.inr ⟨cA, by rw [os, hnew], h2⟩
          have k2 := k (H.setIfInBounds (P.2 + kd9) cN) (locs ++ ((arrV cB cs.2.1 (fun i => q_rv P (q_rd cs i))).stretch (0 : Int32).toNatClampNeg n.toNatClampNeg).zipIdx.map fun q => ⟨P.2 + kd9, (0 : Int32).toNatClampNeg + q.2⟩) (hW.set oz oq hC9) ⟨by rw [oz]; exact hS.1, fun q g1 g2 => by
              rw [oq q (fun e => g2 (by rw [e]; exact Nat.le_add_right _ _))]
              exact hS.2.1 q g1 g2, fun q hq => by
              rcases List.mem_append.mp hq with h | h
              · exact hS.2.2 q h
              · obtain ⟨z, -, hz⟩ := List.mem_map.mp h
                rw [← hz]
                exact Nat.le_add_right _ _⟩
          rw [show ∀ y, (q_put S (kd9 + 4) y).2 = S.2 from fun _ => rfl, z1, z1] at k2
          obtain ⟨t, a1, b9⟩ := k2 ((T'.setVm vm').setCell (P.2 + kd9) cN) (by rw [← hT]; rfl) X'
          exact ⟨t, stp t a1, b9⟩
        · cases h
      · cases h
    · cases h
  · -- aastore
    split at h
    · rename_i j r rest
      split at h
      · rename_i cc hc9
        split at h
        · rename_i hkd
          obtain ⟨j9, h1, h2⟩ := Option.map_eq_some_iff.mp h
          cases h2
          obtain ⟨k9, rfl, hk9⟩ := q_at_s hc9
          obtain ⟨hin, rfl, hlt⟩ := q_idx_s h1
          obtain ⟨cA, g1, g2⟩ := q_arr_of hW hk9 (by omega)
          have href : (q_ty cc.1).isReference = true := by
            unfold q_ty
            rw [if_neg (by omega), if_neg (by omega), if_neg (by omega)]
            split; rfl
            split; rfl
            split; rfl
            split; rfl
            split; rfl
            rfl
          refine q_WaastN F1.1 F1.2.1 href g1 (g2.1 _ _) (fun h => by cases h) (by rw [arrV_size]; exact hin) rfl rfl hd fun H1 y1 y2 y3 => ?_
          have k2 := k H1 (locs ++ [⟨P.2 + k9, j.toNatClampNeg⟩]) (q_arr_set (v := .null) hW hk9 (by omega) g2 y1 y2 y3) (hS.put y2 y3 (Nat.le_add_right _ _))
          rw [show ∀ y, (q_put S (k9 + 4) y).2 = S.2 from fun _ => rfl, z1, z1] at k2
          exact k2
        · cases h
      · cases h
    · rename_i v j r rest
      split at h
      · rename_i cc hc9
        split at h
        · rename_i hcond
          obtain ⟨h107, hoe⟩ := hcond
          obtain ⟨j9, h1, h2⟩ := Option.map_eq_some_iff.mp h
          cases h2
          obtain ⟨k9, rfl, hk9⟩ := q_at_s hc9
          obtain ⟨hin, rfl, hlt⟩ := q_idx_s h1
          obtain ⟨cA, g1, g2⟩ := q_arr_of hW hk9 (by omega)
          have href : (q_ty cc.1).isReference = true := by rw [h107]; rfl
          obtain ⟨kA, comp, r1, r2, r3⟩ := g2.2.2 href
          rw [h107] at r3
          have r3 : s.vm.findClass "java/lang/Object" = some comp := r3
          rcases q_oel_ok hV hW hoe with q1 | ⟨a9, cv, kv, q1, v1, v2, v3, v4⟩
          · cases q1
          · have q1 : Value.ref (q_ad P v) = .ref a9 := q1
            cases q1
            obtain ⟨kE, hkE, -⟩ := Vm.findClass_spec r3
            refine W.aast F1.1 F1.2.1 g1 (fun q h => by cases h) (fun h => by cases h) r1 r2 href hkE ⟨fun z => hin (Or.inl z), by rw [arrV_size]; exact hlt⟩ v1 (fun q h => by rw [v2] at h; cases h) v3 (v4 _ r3) rfl rfl hd fun H1 y1 y2 y3 => ?_
            have k2 := k H1 (locs ++ [⟨P.2 + k9, j.toNatClampNeg⟩]) (q_arr_set (v := .ref v) hW hk9 (by omega) g2 y1 y2 y3) (hS.put y2 y3 (Nat.le_add_right _ _))
            rw [show ∀ y, (q_put S (k9 + 4) y).2 = S.2 from fun _ => rfl, z1, z1] at k2
            exact k2
        · cases h
      · cases h
    · cases h
  · cases h
theorem q_more_mono (h : q_more M i st S = some (st', S')) : S.2.1 ≤ S'.2.1 ∧ S.2.2 ≤ S'.2.2 := by
  have hp : ∀ r x, S.2.1 ≤ (q_put S r x).2.1 ∧ S.2.2 ≤ (q_put S r x).2.2 := fun r x => ⟨Nat.le_refl _, Nat.le_refl _⟩
  have hn : ∀ x, S.2.1 ≤ (q_new S x).2.1 ∧ S.2.2 ≤ (q_new S x).2.2 := fun x => ⟨Nat.le_succ _, Nat.le_add_right _ _⟩
  unfold q_more at h
  repeat' (split at h)
  all_goals first
    | (cases h; done)
    | (cases h; exact ⟨Nat.le_refl _, Nat.le_refl _⟩)
    | (cases h; exact hp _ _)
    | (cases h; exact hn _)
    | (obtain ⟨j, h1, h2⟩ := Option.map_eq_some_iff.mp h; cases h2; exact hp _ _)
theorem q_more_sw (h : q_more M i st S = some (st', S')) : q_isSw i = false := by
  cases i <;> first
    | rfl
    | (exfalso
       simp only [q_more] at h
       cases h)
end QB
end QMO
