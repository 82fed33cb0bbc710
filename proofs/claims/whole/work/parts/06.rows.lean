/-! SOUNDNESS of the pure interpreter, I: the stack, the locals, branches. P: the cells of the old things 0 to 3, and the first new cell. -/
section QR
def q_ad (P : (Nat → Nat) × Nat) (r : Nat) : Nat := match r with
  | 0 => P.1 0
  | 1 => P.1 1
  | 2 => P.1 2
  | 3 => P.1 3
  | k + 4 => P.2 + k
def q_rv (P : (Nat → Nat) × Nat) (v : Value) : Value := match v with
  | .ref r => .ref (q_ad P r)
  | .retAddr _ => .ref (P.1 4)
  | v => v
def q_rL (P : (Nat → Nat) × Nat) (L : QL) : QL := L.map (fun q => (q.1, q_rv P q.2))
theorem q_rv_cat (P : (Nat → Nat) × Nat) (v : Value) : (q_rv P v).category = v.category := by cases v <;> rfl
theorem q_sum_cat (P : (Nat → Nat) × Nat) (st : List Value) : ((st.map (q_rv P)).map fun v => v.category).sum = (st.map fun v => v.category).sum := by
  rw [List.map_map]
  congr 1
  exact List.map_congr_left fun v _ => q_rv_cat P v
theorem q_s1_rv (P : (Nat → Nat) × Nat) (L : QL) (i : Nat) (v : Value) : q_rL P (q_s1 L i v) = q_s1 (q_rL P L) i (q_rv P v) := by
  simp only [q_s1, q_rL, List.map_cons, List.filter_map, Function.comp_def, q_rv_cat]
theorem q_s2_rv (P : (Nat → Nat) × Nat) (L : QL) (i : Nat) (v : Value) : q_rL P (q_s2 L i v) = q_s2 (q_rL P L) i (q_rv P v) := by
  simp only [q_s2, q_rL, List.map_cons, List.filter_map, Function.comp_def, q_rv_cat]
theorem q_rm_rv (P : (Nat → Nat) × Nat) (L : QL) (i : Nat) : q_rL P (q_rm L i) = q_rm (q_rL P L) i := by
  simp only [q_rm, q_rL, List.filter_map, Function.comp_def, q_rv_cat]
theorem q_lo_mem {L : QL} {i : Nat} {v : Value} (h : q_lo L i = some v) : (i, v) ∈ L := by
  unfold q_lo at h
  obtain ⟨q, h1, h2⟩ := Option.map_eq_some_iff.mp h
  have h3 := List.mem_of_find?_eq_some h1
  have h4 := List.find?_some h1
  simp only [beq_iff_eq] at h4
  subst h2
  rw [← h4]
  exact h3
theorem q_lo_at {P : (Nat → Nat) × Nat} {ls : Array Slot} {nL : Nat} {L : QL} {i : Nat} {v : Value} (hl : lv_has ls nL (q_rL P L)) (h : q_lo L i = some v) : ls[i]? = some (.val (q_rv P v)) :=
  hl.2.2 (i, q_rv P v) (List.mem_map.mpr ⟨(i, v), q_lo_mem h, rfl⟩)
theorem q_ii_s {f : Int32 → Int32 → Value} {st st' : List Value} (h : q_ii f st = some st') : ∃ x y r, st = .int y :: .int x :: r ∧ st' = f x y :: r := by
  unfold q_ii at h
  split at h
  · cases h; exact ⟨_, _, _, rfl, rfl⟩
  · cases h
theorem q_ll_s {f : Int64 → Int64 → Value} {st st' : List Value} (h : q_ll f st = some st') : ∃ x y r, st = .long y :: .long x :: r ∧ st' = f x y :: r := by
  unfold q_ll at h
  split at h
  · cases h; exact ⟨_, _, _, rfl, rfl⟩
  · cases h
theorem q_li_s {f : Int64 → Int32 → Value} {st st' : List Value} (h : q_li f st = some st') : ∃ x y r, st = .int y :: .long x :: r ∧ st' = f x y :: r := by
  unfold q_li at h
  split at h
  · cases h; exact ⟨_, _, _, rfl, rfl⟩
  · cases h
theorem q_i1_s {f : Int32 → Value} {st st' : List Value} (h : q_i1 f st = some st') : ∃ x r, st = .int x :: r ∧ st' = f x :: r := by
  unfold q_i1 at h
  split at h
  · cases h; exact ⟨_, _, rfl, rfl⟩
  · cases h
theorem q_l1_s {f : Int64 → Value} {st st' : List Value} (h : q_l1 f st = some st') : ∃ x r, st = .long x :: r ∧ st' = f x :: r := by
  unfold q_l1 at h
  split at h
  · cases h; exact ⟨_, _, rfl, rfl⟩
  · cases h
theorem q_iz_s {f : Int32 → Int32 → Value} {st st' : List Value} (h : q_iz f st = some st') : ∃ x y r, st = .int y :: .int x :: r ∧ st' = f x y :: r ∧ ¬ y = 0 := by
  unfold q_iz at h
  split at h
  · split at h
    · cases h
    · rename_i hy
      cases h; exact ⟨_, _, _, rfl, rfl, hy⟩
  · cases h
theorem q_lz_s {f : Int64 → Int64 → Value} {st st' : List Value} (h : q_lz f st = some st') : ∃ x y r, st = .long y :: .long x :: r ∧ st' = f x y :: r ∧ ¬ y = 0 := by
  unfold q_lz at h
  split at h
  · split at h
    · cases h
    · rename_i hy
      cases h; exact ⟨_, _, _, rfl, rfl, hy⟩
  · cases h
theorem q_v1_s {f : Value → List Value → List Value} {st st' : List Value} (h : q_v1 f st = some st') : ∃ v r, st = v :: r ∧ st' = f v r ∧ v.category = 1 := by
  unfold q_v1 at h
  split at h
  · split at h
    · rename_i hv
      cases h; exact ⟨_, _, rfl, rfl, hv⟩
    · cases h
  · cases h
theorem q_v2_s {f : Value → Value → List Value → List Value} {st st' : List Value} (h : q_v2 f st = some st') : ∃ v w r, st = v :: w :: r ∧ st' = f v w r ∧ v.category = 1 ∧ w.category = 1 := by
  unfold q_v2 at h
  split at h
  · split at h
    · rename_i hv
      cases h; exact ⟨_, _, _, rfl, rfl, hv.1, hv.2⟩
    · cases h
  · cases h
section QA
variable {p : Program} {l : Launch} {e : Env} {R : Room} {s : State} {m : MethodId} {args : Array Value} {below : List Frame} {meth : Method} {c : Code} {H : Heap} {locs : List Loc} {cells slots : Nat} {Q : State → Prop} {cc : ByteArray} {pc nL : Nat} {ls : Array Slot} {P : (Nat → Nat) × Nat}
set_option maxHeartbeats 2000000 in
theorem q_simple_ok (hx : p.tables.exec = Jvm.exec) (hb : c.code = cc) {i : Instr} {st st' : List Value} (h : q_simple i st = some st') (hd : decode cc pc = .ok (i, q_len i))
    (k : W p l e R s m args below meth c H locs cells slots Q (F0 m (pc + q_len i) ls (st'.map (q_rv P)))) : W p l e R s m args below meth c H locs cells slots Q (F0 m pc ls (st.map (q_rv P))) := by
  unfold q_simple at h
  split at h
  · cases h; exact lv_iconst hx hb hd rfl k
  · cases h; exact lv_bipush hx hb hd rfl k
  · cases h; exact lv_sipush hx hb hd rfl k
  · cases h; exact lv_lconst hx hb hd rfl k
  · cases h; exact lv_null hx hb hd k
  · obtain ⟨x, y, r, rfl, rfl⟩ := q_ii_s h; exact lv_iadd hx hb hd k
  · obtain ⟨x, y, r, rfl, rfl⟩ := q_ii_s h; exact lv_isub hx hb hd k
  · obtain ⟨x, y, r, rfl, rfl⟩ := q_ii_s h; exact lv_imul hx hb hd k
  · obtain ⟨x, y, r, rfl, rfl⟩ := q_ii_s h; exact lv_iand hx hb hd k
  · obtain ⟨x, y, r, rfl, rfl⟩ := q_ii_s h; exact lv_ior hx hb hd k
  · obtain ⟨x, y, r, rfl, rfl⟩ := q_ii_s h; exact lv_ixor hx hb hd k
  · obtain ⟨x, y, r, rfl, rfl⟩ := q_ii_s h; exact lv_ishl hx hb hd k
  · obtain ⟨x, y, r, rfl, rfl⟩ := q_ii_s h; exact lv_ishr hx hb hd k
  · obtain ⟨x, y, r, rfl, rfl, hy⟩ := q_iz_s h; exact lv_idiv hx hb hd hy k
  · obtain ⟨x, y, r, rfl, rfl, hy⟩ := q_iz_s h; exact lv_irem hx hb hd hy k
  · obtain ⟨x, r, rfl, rfl⟩ := q_i1_s h; exact lv_i2l hx hb hd rfl k
  · obtain ⟨x, r, rfl, rfl⟩ := q_l1_s h; exact lv_l2i hx hb hd rfl k
  · obtain ⟨x, y, r, rfl, rfl⟩ := q_ll_s h; exact lv_ladd hx hb hd k
  · obtain ⟨x, y, r, rfl, rfl⟩ := q_ll_s h; exact lv_lmul hx hb hd k
  · obtain ⟨x, y, r, rfl, rfl⟩ := q_ll_s h; exact lv_land hx hb hd k
  · obtain ⟨x, y, r, rfl, rfl⟩ := q_ll_s h; exact lv_lor hx hb hd k
  · obtain ⟨x, y, r, rfl, rfl, hy⟩ := q_lz_s h; exact lv_ldiv hx hb hd hy k
  · obtain ⟨x, y, r, rfl, rfl, hy⟩ := q_lz_s h; exact lv_lrem hx hb hd hy k
  · obtain ⟨x, y, r, rfl, rfl⟩ := q_li_s h; exact lv_lushr hx hb hd rfl k
  · obtain ⟨x, y, r, rfl, rfl⟩ := q_li_s h; exact lv_lshl hx hb hd rfl k
  · obtain ⟨x, y, r, rfl, rfl⟩ := q_li_s h; exact lv_lshr hx hb hd rfl k
  · obtain ⟨x, y, r, rfl, rfl⟩ := q_ll_s h; exact W.lcmp hx hb hd k
  · obtain ⟨v, r, rfl, rfl, hv⟩ := q_v1_s h; exact lv_dup hx hb hd ((q_rv_cat P v).trans hv) k
  · obtain ⟨v, r, rfl, rfl, hv⟩ := q_v1_s h; exact lv_pop hx hb hd ((q_rv_cat P v).trans hv) k
  · obtain ⟨v, w, r, rfl, rfl, hv, hw⟩ := q_v2_s h; exact lv_dup_x1 hx hb hd ((q_rv_cat P v).trans hv) ((q_rv_cat P w).trans hw) k
  · obtain ⟨v, w, r, rfl, rfl, hv, hw⟩ := q_v2_s h; exact lv_dup2_11 hx hb hd ((q_rv_cat P v).trans hv) ((q_rv_cat P w).trans hw) k
  · cases h
theorem q_tag0 {v : Value} (h : q_tag v = 0) : ∃ x, v = .int x := by cases v <;> first | exact ⟨_, rfl⟩ | (simp [q_tag] at h)
theorem q_tag1 {v : Value} (h : q_tag v = 1) : ∃ x, v = .long x := by cases v <;> first | exact ⟨_, rfl⟩ | (simp [q_tag] at h)
theorem q_tag2 {v : Value} (h : q_tag v = 2) : v = .null ∨ (∃ x, v = .ref x) ∨ ∃ x, v = .retAddr x := by cases v <;> first | exact Or.inl rfl | exact Or.inr (Or.inl ⟨_, rfl⟩) | exact Or.inr (Or.inr ⟨_, rfl⟩) | (simp [q_tag] at h)
theorem q_ld_ok (hx : p.tables.exec = Jvm.exec) (hb : c.code = cc) {i : Instr} {t n : Nat} {v : Value} {L : QL} {st : List Value} (h : q_ldi i = some (t, n)) (hv : q_lo L n = some v) (ht : q_tag v = t) (hd : decode cc pc = .ok (i, q_len i)) (hl : lv_has ls nL (q_rL P L))
    (k : W p l e R s m args below meth c H locs cells slots Q (F0 m (pc + q_len i) ls ((v :: st).map (q_rv P)))) : W p l e R s m args below meth c H locs cells slots Q (F0 m pc ls (st.map (q_rv P))) := by
  have hm := q_lo_at hl hv
  unfold q_ldi at h
  split at h
  · cases h; obtain ⟨x, rfl⟩ := q_tag0 ht; exact lv_iload hx hb hd hm k
  · cases h; obtain ⟨x, rfl⟩ := q_tag0 ht; exact lv_iload_n hx hb hd rfl hm k
  · cases h; obtain ⟨x, rfl⟩ := q_tag1 ht; exact lv_lload hx hb hd hm k
  · cases h; obtain ⟨x, rfl⟩ := q_tag1 ht; exact lv_lload_n hx hb hd rfl hm k
  · cases h
    rcases q_tag2 ht with rfl | ⟨x, rfl⟩ | ⟨x, rfl⟩
    · exact lv_aloadN hx hb hd hm k
    · exact lv_aload hx hb hd hm k
    · exact lv_aload hx hb hd hm k
  · cases h
    rcases q_tag2 ht with rfl | ⟨x, rfl⟩ | ⟨x, rfl⟩
    · exact lv_aload_nN hx hb hd rfl hm k
    · exact lv_aload_n hx hb hd rfl hm k
    · exact lv_aload_n hx hb hd rfl hm k
  · cases h
theorem q_st_ok (hx : p.tables.exec = Jvm.exec) (hb : c.code = cc) {i : Instr} {t n : Nat} {v : Value} {L : QL} {rest : List Value} (h : q_sti i = some (t, n)) (ht : q_tag v = t) (hn : n + 1 < nL + (if t = 1 then 0 else 1)) (hd : decode cc pc = .ok (i, q_len i)) (hl : lv_has ls nL (q_rL P L))
    (k : ∀ ls' : Array Slot, lv_has ls' nL (q_rL P (if t = 1 then q_s2 L n v else q_s1 L n v)) → W p l e R s m args below meth c H locs cells slots Q (F0 m (pc + q_len i) ls' (rest.map (q_rv P)))) : W p l e R s m args below meth c H locs cells slots Q (F0 m pc ls ((v :: rest).map (q_rv P))) := by
  unfold q_sti at h
  split at h
  · cases h; obtain ⟨x, rfl⟩ := q_tag0 ht
    rw [if_neg (by decide)] at hn k
    exact lv_istore (lv' := q_rL P (q_s1 L _ (.int x))) hx hb hd hl (by omega) (q_s1_rv P L _ (.int x)).symm k
  · cases h; obtain ⟨x, rfl⟩ := q_tag0 ht
    rw [if_neg (by decide)] at hn k
    exact lv_istore_n (lv' := q_rL P (q_s1 L _ (.int x))) hx hb hd rfl hl (by omega) (q_s1_rv P L _ (.int x)).symm k
  · cases h; obtain ⟨x, rfl⟩ := q_tag1 ht
    rw [if_pos rfl] at hn k
    exact lv_lstore (lv' := q_rL P (q_s2 L _ (.long x))) hx hb hd hl (by omega) (q_s2_rv P L _ (.long x)).symm k
  · cases h; obtain ⟨x, rfl⟩ := q_tag1 ht
    rw [if_pos rfl] at hn k
    exact lv_lstore_n (lv' := q_rL P (q_s2 L _ (.long x))) hx hb hd rfl hl (by omega) (q_s2_rv P L _ (.long x)).symm k
  · cases h
    rw [if_neg (by decide)] at hn k
    rcases q_tag2 ht with rfl | ⟨x, rfl⟩ | ⟨x, rfl⟩
    · exact lv_astoreN (lv' := q_rL P (q_s1 L _ (.null))) hx hb hd hl (by omega) (q_s1_rv P L _ (.null)).symm k
    · exact lv_astore (lv' := q_rL P (q_s1 L _ (.ref x))) hx hb hd hl (by omega) (q_s1_rv P L _ (.ref x)).symm k
    · exact lv_astore (lv' := q_rL P (q_s1 L _ (.retAddr x))) hx hb hd hl (by omega) (q_s1_rv P L _ (.retAddr x)).symm k
  · cases h
    rw [if_neg (by decide)] at hn k
    rcases q_tag2 ht with rfl | ⟨x, rfl⟩ | ⟨x, rfl⟩
    · exact lv_astore_nN (lv' := q_rL P (q_s1 L _ (.null))) hx hb hd rfl hl (by omega) (q_s1_rv P L _ (.null)).symm k
    · exact lv_astore_n (lv' := q_rL P (q_s1 L _ (.ref x))) hx hb hd rfl hl (by omega) (q_s1_rv P L _ (.ref x)).symm k
    · exact lv_astore_n (lv' := q_rL P (q_s1 L _ (.retAddr x))) hx hb hd rfl hl (by omega) (q_s1_rv P L _ (.retAddr x)).symm k
  · cases h
theorem q_jump_s {o : Int} {t : Nat} (h : q_jump pc o = some t) : (pc : Int) + o = (t : Int) := by
  unfold q_jump at h
  split at h
  · cases h; omega
  · cases h
theorem q_if {b : Bool} {d : Prop} [Decidable d] {x y : Nat} (hb : b = decide d) {F : Nat → Prop} (k : F (if b = true then x else y)) : (d → F x) ∧ (¬ d → F y) := by
  subst hb
  refine ⟨fun hd => ?_, fun hd => ?_⟩
  · simpa [hd] using k
  · simpa [hd] using k
set_option maxHeartbeats 2000000 in
theorem q_br_ok (hx : p.tables.exec = Jvm.exec) (hb : c.code = cc) {i : Instr} {st rest : List Value} {b : Bool} {o : Int} {t n : Nat} (h : q_br i st = some (b, o, rest)) (hj : q_jump pc o = some t) (hd : decode cc pc = .ok (i, n)) (hn : n = q_len i ∨ q_isSw i = true) (hP : P.1 1 < P.2)
    (k : W p l e R s m args below meth c H locs cells slots Q (F0 m (if b = true then t else pc + q_len i) ls (rest.map (q_rv P)))) : W p l e R s m args below meth c H locs cells slots Q (F0 m pc ls (st.map (q_rv P))) := by
  have ht := q_jump_s hj
  unfold q_br at h
  split at h
  · cases h
    rcases hn with rfl | hn
    · exact lv_goto hx hb hd ht k
    · cases hn
  · rename_i cd o'
    rcases hn with rfl | hn
    · split at h
      · cases h
        cases cd with
        | eq => obtain ⟨k1, k2⟩ := q_if (F := fun z => W p l e R s m args below meth c H locs cells slots Q (F0 m z ls _)) rfl k; exact lv_if_eq hx hb hd ht k1 k2
        | ne =>
          obtain ⟨k1, k2⟩ := q_if (F := fun z => W p l e R s m args below meth c H locs cells slots Q (F0 m z ls _)) rfl k
          exact lv_if_ne hx hb hd ht k1 (fun h9 => k2 (fun h8 => h8 h9))
        | lt => obtain ⟨k1, k2⟩ := q_if (F := fun z => W p l e R s m args below meth c H locs cells slots Q (F0 m z ls _)) rfl k; exact lv_if_lt hx hb hd ht k1 k2
        | ge => obtain ⟨k1, k2⟩ := q_if (F := fun z => W p l e R s m args below meth c H locs cells slots Q (F0 m z ls _)) rfl k; exact lv_if_ge hx hb hd ht k1 k2
        | gt => obtain ⟨k1, k2⟩ := q_if (F := fun z => W p l e R s m args below meth c H locs cells slots Q (F0 m z ls _)) rfl k; exact lv_if_gt hx hb hd ht k1 k2
        | le => obtain ⟨k1, k2⟩ := q_if (F := fun z => W p l e R s m args below meth c H locs cells slots Q (F0 m z ls _)) rfl k; exact lv_if_le hx hb hd ht k1 k2
      · cases h
    · cases hn
  · rename_i cd o'
    rcases hn with rfl | hn
    · split at h
      · cases h
        cases cd with
        | eq => obtain ⟨k1, k2⟩ := q_if (F := fun z => W p l e R s m args below meth c H locs cells slots Q (F0 m z ls _)) rfl k; exact lv_icmp_eq hx hb hd ht k1 k2
        | ne =>
          obtain ⟨k1, k2⟩ := q_if (F := fun z => W p l e R s m args below meth c H locs cells slots Q (F0 m z ls _)) rfl k
          exact lv_icmp_ne hx hb hd ht k1 (fun h9 => k2 (fun h8 => h8 h9))
        | lt => obtain ⟨k1, k2⟩ := q_if (F := fun z => W p l e R s m args below meth c H locs cells slots Q (F0 m z ls _)) rfl k; exact lv_icmp_lt hx hb hd ht k1 k2
        | ge => obtain ⟨k1, k2⟩ := q_if (F := fun z => W p l e R s m args below meth c H locs cells slots Q (F0 m z ls _)) rfl k; exact lv_icmp_ge hx hb hd ht k1 k2
        | gt => obtain ⟨k1, k2⟩ := q_if (F := fun z => W p l e R s m args below meth c H locs cells slots Q (F0 m z ls _)) rfl k; exact lv_icmp_gt hx hb hd ht k1 k2
        | le => obtain ⟨k1, k2⟩ := q_if (F := fun z => W p l e R s m args below meth c H locs cells slots Q (F0 m z ls _)) rfl k; exact lv_icmp_le hx hb hd ht k1 k2
      · cases h
    · cases hn
  · rcases hn with rfl | hn
    · split at h
      · cases h; exact lv_ifnullN hx hb hd ht k
      · cases h; exact lv_ifnull hx hb hd k
      · cases h
    · cases hn
  · rcases hn with rfl | hn
    · split at h
      · cases h; exact lv_ifnonnullN hx hb hd k
      · cases h; exact lv_ifnonnull hx hb hd ht k
      · cases h
    · cases hn
  · rename_i cd o'
    rcases hn with rfl | hn
    · split at h
      · rename_i w v r
        obtain ⟨bb, h1, h2⟩ := Option.map_eq_some_iff.mp h
        cases h2
        have key : ∃ rx ry : Option Nat, q_rv P v = va_rf rx ∧ q_rv P w = va_rf ry ∧ (bb = decide (rx = ry)) := by
          unfold q_same at h1
          split at h1
          · cases h1; exact ⟨none, none, rfl, rfl, rfl⟩
          · cases h1; exact ⟨none, some _, rfl, rfl, by simp⟩
          · cases h1; exact ⟨some _, none, rfl, rfl, by simp⟩
          · rename_i a9 b9
            split at h1
            · rename_i h12
              cases h1
              refine ⟨some (q_ad P a9), some (q_ad P b9), rfl, rfl, ?_⟩
              have hinj : (some (q_ad P a9) = some (q_ad P b9)) ↔ a9 = b9 := by
                constructor
                · intro he
                  have he := Option.some.inj he
                  obtain ⟨g1, g2⟩ := h12
                  have r1 : ∀ a : Nat, (a = 1 ∨ 4 ≤ a) → a = 1 ∨ ∃ k1, a = k1 + 4 := fun a ha => ha.imp id fun z => ⟨a - 4, by omega⟩
                  rcases r1 a9 g1 with rfl | ⟨k1, rfl⟩ <;> rcases r1 b9 g2 with rfl | ⟨k2, rfl⟩
                  · rfl
                  · exact absurd hP (Nat.not_lt.mpr (Nat.le_trans (Nat.le_add_right P.2 k2) (Nat.le_of_eq (show P.2 + k2 = P.1 1 from he.symm))))
                  · exact absurd hP (Nat.not_lt.mpr (Nat.le_trans (Nat.le_add_right P.2 k1) (Nat.le_of_eq (show P.2 + k1 = P.1 1 from he))))
                  · exact congrArg (· + 4) (Nat.add_left_cancel (show P.2 + k1 = P.2 + k2 from he))
                · intro he; rw [he]
              by_cases ha : a9 = b9
              · simp [ha]
              · have : ¬ (some (q_ad P a9) = some (q_ad P b9)) := fun z => ha (hinj.mp z)
                simp only [ha, this]
            · cases h1
          · cases h1; exact ⟨some (P.1 4), some (P.1 4), rfl, rfl, by simp⟩
          · cases h1
        obtain ⟨rx, ry, e1, e2, e3⟩ := key
        rw [List.map_cons, List.map_cons, e1, e2]
        cases cd with
        | eq => obtain ⟨k1, k2⟩ := q_if (F := fun z => W p l e R s m args below meth c H locs cells slots Q (F0 m z ls _)) e3 k; exact lv_acmp_eq hx hb hd ht k1 k2
        | ne =>
          obtain ⟨k1, k2⟩ := q_if (d := ¬ rx = ry) (F := fun z => W p l e R s m args below meth c H locs cells slots Q (F0 m z ls _)) (by rw [e3]; simp) k
          exact lv_acmp_ne hx hb hd ht k1 (fun h9 => k2 (fun h8 => h8 h9))
      · cases h
    · cases hn
  · split at h
    · split at h
      · rename_i hout
        cases h
        exact lv_tableOut hx hb hd hout ht k
      · rename_i hin
        obtain ⟨o9, h1, h2⟩ := Option.map_eq_some_iff.mp h
        cases h2
        exact lv_tableIn hx hb hd (fun z => hin (Or.inl z)) (fun z => hin (Or.inr z)) h1 ht k
    · cases h
  · cases h
end QA
end QR
