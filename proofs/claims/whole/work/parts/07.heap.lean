/-! SOUNDNESS of the pure interpreter, II: the store. -/
section QH
/-- what the tables say of an array class -/
def q_cn (ty : FieldType) : String := match ty with
  | .object C => C
  | t => t.toString
def q_AC (U : State) (cA : ClassId) (ty : FieldType) : Prop := ArrOfT U cA ty ∧ U.vm.findClass ("[" ++ ty.toString) = some cA ∧ (ty.isReference = true → ∃ (kA : Class) (comp : ClassId), U.vm.classes[cA]? = some kA ∧ kA.kind = .array comp ty ∧ U.vm.findClass (q_cn ty) = some comp)
theorem q_AC.moved {u U : State} (hvm : u.vm.Alike U.vm) {cA : ClassId} {ty : FieldType} (h : q_AC u cA ty) : q_AC U cA ty := by
  obtain ⟨h1, h2, h3⟩ := h
  refine ⟨arrOfT_moved hvm h1, by rw [hvm.findClass]; exact h2, fun hr => ?_⟩
  obtain ⟨kA, comp, g1, g2, g3⟩ := h3 hr
  obtain ⟨k', hk', he⟩ := hvm.2.2 _ _ g1
  exact ⟨k', comp, hk', by rw [he]; exact g2, by rw [hvm.findClass]; exact g3⟩
/-- the cell number k of the store lies in the heap -/
def q_C (P : (Nat → Nat) × Nat) (D : va_G) (U : State) (H : Heap) (k : Nat) (c : QC) : Prop :=
  if c.1 < 50 then ∃ row : vw_C, vwCl[c.1]? = some row ∧ t_OB (P.2 + k) (D.1 c.1) row.2.2 (D.2 c.1) H (fun i => q_rv P (q_rd c i))
  else c.1 = 99 ∨ ∃ cA : ClassId, H[P.2 + k]? = some (arrV cA c.2.1 (fun i => q_rv P (q_rd c i))) ∧ q_AC U cA (q_ty c.1)
def q_W (P : (Nat → Nat) × Nat) (D : va_G) (S : QS) (U : State) (H : Heap) : Prop :=
  H.size = P.2 + S.1.length ∧ (∀ (n : Nat) (q : vw_C), vwCl[n]? = some q → u_Kn U q.1 q.2.1 q.2.2 (D.1 n) (D.2 n)) ∧ ∀ (k : Nat) (c : QC), S.1[k]? = some c → q_C P D U H k c
theorem q_C.kept {P : (Nat → Nat) × Nat} {D : va_G} {U : State} {H H1 : Heap} {k : Nat} {c : QC} (h : q_C P D U H k c) (hq : H1[P.2 + k]? = H[P.2 + k]?) : q_C P D U H1 k c := by
  unfold q_C at h ⊢
  split
  · rename_i hc
    rw [if_pos hc] at h
    obtain ⟨row, h1, h2⟩ := h
    exact ⟨row, h1, h2.kept hq⟩
  · rename_i hc
    rw [if_neg hc] at h
    rcases h with h | ⟨cA, h1, h2⟩
    · exact Or.inl h
    · exact Or.inr ⟨cA, by rw [hq]; exact h1, h2⟩
theorem q_C.moved {P : (Nat → Nat) × Nat} {D : va_G} {u U : State} (hvm : u.vm.Alike U.vm) {H : Heap} {k : Nat} {c : QC} (h : q_C P D u H k c) : q_C P D U H k c := by
  unfold q_C at h ⊢
  split
  · rename_i hc
    rw [if_pos hc] at h
    exact h
  · rename_i hc
    rw [if_neg hc] at h
    rcases h with h | ⟨cA, h1, h2⟩
    · exact Or.inl h
    · exact Or.inr ⟨cA, h1, h2.moved hvm⟩
theorem q_W.moved {P : (Nat → Nat) × Nat} {D : va_G} {S : QS} {u U : State} (hvm : u.vm.Alike U.vm) {H : Heap} (h : q_W P D S u H) : q_W P D S U H :=
  ⟨h.1, fun n q hq => u_Kn_moved hvm (h.2.1 n q hq), fun k c hk => (h.2.2 k c hk).moved hvm⟩
theorem q_W.set {P : (Nat → Nat) × Nat} {D : va_G} {S : QS} {U : State} {H H1 : Heap} {k : Nat} {c' : QC} (h : q_W P D S U H) (hz : H1.size = H.size) (ho : ∀ q : Nat, q ≠ P.2 + k → H1[q]? = H[q]?) (hc : q_C P D U H1 k c') : q_W P D (S.1.set k c', S.2) U H1 := by
  refine ⟨by rw [hz, h.1]; simp, h.2.1, fun j x hx => ?_⟩
  by_cases hj : j = k
  · subst hj
    have hx' : (S.1.set j c')[j]? = some x := hx
    have hl : j < S.1.length := by
      have := (List.getElem?_eq_some_iff.mp hx').1
      simpa using this
    rw [List.getElem?_set_self hl] at hx'
    cases hx'
    exact hc
  · have hx' : (S.1.set k c')[j]? = some x := hx
    rw [List.getElem?_set_ne (fun q => hj q.symm)] at hx'
    exact (h.2.2 j x hx').kept (ho _ (by omega))
theorem q_W.push {P : (Nat → Nat) × Nat} {D : va_G} {S : QS} {U : State} {H H1 : Heap} {c' : QC} {n : Nat × Nat} (h : q_W P D S U H) (hz : H1.size = H.size + 1) (ho : ∀ q : Nat, q < H.size → H1[q]? = H[q]?) (hc : q_C P D U H1 S.1.length c') : q_W P D (S.1 ++ [c'], n) U H1 := by
  refine ⟨by rw [hz, h.1]; simp; omega, h.2.1, fun j x hx => ?_⟩
  have hx' : (S.1 ++ [c'])[j]? = some x := hx
  by_cases hj : j < S.1.length
  · rw [List.getElem?_append_left hj] at hx'
    exact (h.2.2 j x hx').kept (ho _ (by rw [h.1]; omega))
  · have hl : j < (S.1 ++ [c']).length := (List.getElem?_eq_some_iff.mp hx').1
    rw [List.length_append, List.length_singleton] at hl
    have he : j = S.1.length := by omega
    subst he
    rw [List.getElem?_append_right (Nat.le_refl _), Nat.sub_self] at hx'
    cases hx'
    exact hc
theorem q_rd_wr (c : QC) (i j : Nat) (v : Value) : q_rd (q_wr c i v) j = if j = i then v else q_rd c j := by
  unfold q_rd q_wr
  by_cases hj : j = i
  · subst hj
    simp
  · rw [if_neg hj]
    have h1 : (i == j) = false := by simpa using fun z : i = j => hj z.symm
    simp only [List.find?_cons, h1]
    have h2 : (c.2.2.filter (fun q => !(q.1 == i))).find? (fun q => q.1 == j) = c.2.2.find? (fun q => q.1 == j) := by
      rw [List.find?_filter]
      congr 1
      funext q
      by_cases hq : q.1 = j
      · have : ¬ q.1 = i := fun z => hj (hq.symm.trans z)
        simp [hq, hj]
      · simp [hq]
    rw [h2]
theorem q_at_s {S : QS} {r : Nat} {c : QC} (h : q_at S r = some c) : ∃ k, r = k + 4 ∧ S.1[k]? = some c := by
  unfold q_at at h
  split at h
  · cases h
  · exact ⟨r - 4, by omega, h⟩
/-- a class of the table: its words, its fields' types, its fields' names -/
def q_cok (n : Nat) (q : vw_C) : Prop := n < 50 ∧ (∀ w ∈ u_ws q.1 q.2.1 q.2.2, w ∈ wsL_law) ∧ (∀ k, k < q.2.2 → parseFieldDescriptor (q.2.1 k).2.2.1 = some (q_fty n k)) ∧ ∀ a, a < q.2.2 → ∀ b, b < q.2.2 → a ≠ b → (q.2.1 a).2.1 ≠ (q.2.1 b).2.1
theorem q_clok : ∀ (n : Nat) (q : vw_C), vwCl[n]? = some q → q_cok n q := by
  intro n q h
  match n, h with
  | 0, h => cases h; exact ⟨by decide, inlJx4a65c, tyJx4a65c_ok, nmJx4a65c⟩
  | 1, h => cases h; exact ⟨by decide, inlX0, tyX0_ok, nmX0⟩
  | 2, h => cases h; exact ⟨by decide, inlX1, tyX1_ok, nmX1⟩
  | 3, h => cases h; exact ⟨by decide, inlX2, tyX2_ok, nmX2⟩
  | 4, h => cases h; exact ⟨by decide, inlX3, tyX3_ok, nmX3⟩
  | 5, h => cases h; exact ⟨by decide, inlX4, tyX4_ok, nmX4⟩
  | 6, h => cases h; exact ⟨by decide, inlX5, tyX5_ok, nmX5⟩
  | 7, h => cases h; exact ⟨by decide, inlX6, tyX6_ok, nmX6⟩
  | 8, h => cases h; exact ⟨by decide, inlX7, tyX7_ok, nmX7⟩
  | 9, h => cases h; exact ⟨by decide, inlX8, tyX8_ok, nmX8⟩
  | 10, h => cases h; exact ⟨by decide, inlX9, tyX9_ok, nmX9⟩
  | 11, h => cases h; exact ⟨by decide, inlX10, tyX10_ok, nmX10⟩
  | 12, h => cases h; exact ⟨by decide, inlX11, tyX11_ok, nmX11⟩
  | 13, h => cases h; exact ⟨by decide, inlX12, tyX12_ok, nmX12⟩
  | n + 14, h => cases h
/-- the entry idx of class own names field k of the class ci -/
def q_fok (own : String) (idx ci k fin : Nat) : Prop := ∃ (row : vw_C) (ref : String), vwCl[ci]? = some row ∧ k < row.2.2 ∧ Cond.fieldLink own idx ref (row.2.1 k).2.1 (row.2.1 k).2.2.1 ∈ wsL_law ∧ (ref = (row.2.1 k).1 ∨ Cond.sameField ref (row.2.1 k).1 (row.2.1 k).2.1 (row.2.1 k).2.2.1 ∈ wsL_law) ∧ ((fin = 0 ∧ (row.2.1 k).2.2.2 = false) ∨ (fin = 1 ∧ (row.2.1 k).2.2.2 = true ∧ (row.2.1 k).1 = own) ∨ fin = 2)
theorem q_via {s : State} {args : Array Value} {ref O n d : String} (h : ref = O ∨ (Cond.sameField ref O n d).before args s = true) : ∀ x, s.fieldFound? O n d = some x → s.fieldFound? ref n d = some x := by
  rcases h with rfl | w
  · exact fun _ h => h
  · intro x hx
    cases hr : s.fieldFound? ref n d with
    | none => simp [Cond.before, Cond.holds, Cond.value, hr] at w
    | some y => obtain ⟨c1, k1, i1, f1⟩ := y; rw [Cond.sameField_spec hr w] at hx; exact hx
def q_A (P : (Nat → Nat) × Nat) : Nat → Prop := fun q => P.2 ≤ q
section QB
variable {p : Program} {l : Launch} {e : Env} {R : Room} {s : State} {m : MethodId} {args : Array Value} {below : List Frame} {meth : Method} {c : Code} {H H0 : Heap} {locs : List Loc} {cells slots : Nat} {Q : State → Prop} {cc : ByteArray} {pc nL : Nat} {ls : Array Slot} {P : (Nat → Nat) × Nat} {D : va_G} {S : QS} {own : String} {rest : List Value}
theorem q_getf_ok (F : CallFix p m c cc nL s args wsL_law own) (hW : q_W P D S s H) {k ci j idx fin : Nat} {x : QC} (hk : S.1[k]? = some x) (hci : x.1 = ci) (hf : q_fok own idx ci j fin) (hd : decode cc pc = .ok (.getfield idx, 3))
    (kk : W p l e R s m args below meth c H locs cells slots Q (F0 m (pc + 3) ls (q_rv P (q_rd x j) :: rest))) : W p l e R s m args below meth c H locs cells slots Q (F0 m pc ls (.ref (P.2 + k) :: rest)) := by
  obtain ⟨hx, hb, hml, hown, hts⟩ := F
  obtain ⟨hz, hcls, hcell⟩ := hW
  obtain ⟨row, ref, hrow, hjN, hmem, hsame, -⟩ := hf
  subst hci
  obtain ⟨h50, hin, hty, hnm⟩ := q_clok _ _ hrow
  have hC := hcell k x hk
  unfold q_C at hC
  rw [if_pos h50] at hC
  obtain ⟨row', hrow', cell, h1, h2, h3, h4⟩ := hC
  cases Option.some.inj (hrow.symm.trans hrow')
  obtain ⟨hS, hfc, kC, hkC, hkind⟩ := hcls x.1 row hrow
  obtain ⟨cf, kf, fi, f, hi, hsl⟩ := hS j hjN
  have hl := u_lays hts hin hjN
  refine W.getf hx hb hown (hts _ hmem) (q_via (hsame.imp id (fun w => hts _ w)) _ hi) (u_facts hfc hkC hl hi).1 h1 (by rw [h3]; exact fun h => by cases h) (v := q_rv P (q_rd x j)) ?_ rfl rfl hd kk
  rw [hsl, h4 j hjN]
theorem q_putf_ok (F : CallFix p m c cc nL s args wsL_law own) (hW : q_W P D S s H) (hS0 : va_S (q_A P) H0 H locs) {k ci j idx fin : Nat} {x : QC} {v : Value} (hk : S.1[k]? = some x) (hci : x.1 = ci) (hf : q_fok own idx ci j fin) (hn : narrow (q_fty ci j) v = v) (hfit : fits (q_fty ci j) v = true) (hfin : fin = 0 ∨ (fin = 1 ∧ meth.name = "<init>")) (hd : decode cc pc = .ok (.putfield idx, 3))
    (kk : ∀ (H1 : Heap) (locs1 : List Loc), q_W P D (S.1.set k (q_wr x j v), S.2) s H1 → va_S (q_A P) H0 H1 locs1 → W p l e R s m args below meth c H1 locs1 cells slots Q (F0 m (pc + 3) ls rest)) : W p l e R s m args below meth c H locs cells slots Q (F0 m pc ls (q_rv P v :: .ref (P.2 + k) :: rest)) := by
  have hW0 := hW
  obtain ⟨hx, hb, hml, hown, hts⟩ := F
  obtain ⟨hz, hcls, hcell⟩ := hW
  obtain ⟨row, ref, hrow, hjN, hmem, hsame, hfl⟩ := hf
  subst hci
  obtain ⟨h50, hin, hty, hnm⟩ := q_clok _ _ hrow
  have hC := hcell k x hk
  unfold q_C at hC
  rw [if_pos h50] at hC
  obtain ⟨row', hrow', cell, h1, h2, h3, h4⟩ := hC
  cases Option.some.inj (hrow.symm.trans hrow')
  obtain ⟨hS, hfc, kC, hkC, hkind⟩ := hcls x.1 row hrow
  obtain ⟨cf, kf, fi, f, hi, hsl⟩ := hS j hjN
  have hlay := hts _ (hin _ (u_in_lay hjN))
  have hls := u_lays hts hin hjN
  have hst := (u_facts hfc hkC hls hi).1
  have hap : ∀ a b, a < row.2.2 → b < row.2.2 → a ≠ b → (D.2 x.1) a ≠ (D.2 x.1) b := by
    intro a b ha hb9 hne
    obtain ⟨_, _, _, fa, hia, ea⟩ := hS a ha
    obtain ⟨_, _, _, fb, hib, eb⟩ := hS b hb9
    rw [← ea, ← eb]
    refine u_apart (u_lays hts hin ha) (u_lays hts hin hb9) hia hib ?_
    rw [(State.fieldFound?_type hia (hty a ha)).1, (State.fieldFound?_type hib (hty b hb9)).1]
    exact hnm a ha b hb9 hne
  have hn2 : narrow (q_fty x.1 j) (q_rv P v) = q_rv P v := by
    cases v <;> first | exact hn | (simp only [q_rv]; cases q_fty x.1 j <;> rfl)
  have hfit2 : fits (q_fty x.1 j) (q_rv P v) = true := by
    cases v <;> first | exact hfit | (simp only [q_rv]; revert hfit; cases q_fty x.1 j <;> first | exact id | exact fun h => nomatch h)
  have hcell9 : ∀ H1 : Heap, H1[P.2 + k]? = some (cell.setSlot (D.2 x.1 j) (q_rv P v)) → q_C P D s H1 k (q_wr x j v) := by
    intro H1 e1
    unfold q_C
    rw [if_pos (show (q_wr x j v).1 < 50 from h50)]
    refine ⟨row, hrow, _, e1, h2, h3, fun i hi9 => ?_⟩
    show (cell.setSlot (D.2 x.1 j) (q_rv P v)).slots[D.2 x.1 i]? = some (q_rv P (q_rd (q_wr x j v) i))
    rw [t_set h4 hap hjN (q_rv P v) i hi9, q_rd_wr]
    simp only [updV]
    split <;> rfl
  have hAk : q_A P (P.2 + k) := Nat.le_add_right _ _
  rcases hfl with ⟨hf0, hfl⟩ | ⟨hf0, hfl, hdecl⟩ | hf2
  · unfold u_lay at hlay
    rw [if_neg (by rw [hfl]; decide)] at hlay
    have h6 := u_store hfc hkC hkind hlay hi (hty j hjN) hn2 hfit2
    refine W.putK hx hb (f := f) ⟨hown, hts _ hmem, ⟨_, _, _, q_via (hsame.imp id (fun w => hts _ w)) _ hi⟩, hst⟩ (by rw [h2]; exact h6) h1 h3 (by rw [hsl]; exact k2_hasslot (h4 j hjN)) rfl rfl hd fun H' e1 e2 e3 => ?_
    rw [hsl] at e1 ⊢
    exact kk H' _ (hW0.set e2 e3 (hcell9 H' e1)) (hS0.put e2 e3 hAk)
  · have hin2 : meth.name = "<init>" := (hfin.resolve_left (by omega)).2
    unfold u_lay at hlay
    rw [if_pos hfl] at hlay
    have hcf : m.cls = cf := by
      obtain ⟨_, _, c', _, _, _, -, -, hf', -, -, -, hown2, -⟩ := Cond.laysFinal_spec hlay
      have e1 : c' = cf := by have := hi.symm.trans hf'; simp at this; exact this.1.symm
      rw [hdecl] at hown2
      rw [← e1]; exact Option.some.inj (hown.symm.trans hown2)
    have h6 := u_fits hfc hkC hkind (Or.inr hlay) hi (hty j hjN) hn2 hfit2
    refine W.putFinK hx hb hown (hts _ hmem) (q_via (hsame.imp id (fun w => hts _ w)) _ hi) hst hcf hin2 (by rw [h2]; exact h6) h1 h3 (by rw [hsl]; exact k2_hasslot (h4 j hjN)) rfl rfl hd fun H' e1 e2 e3 => ?_
    rw [hsl] at e1 ⊢
    exact kk H' _ (hW0.set e2 e3 (hcell9 H' e1)) (hS0.put e2 e3 hAk)
  · rcases hfin with h9 | ⟨h9, -⟩ <;> omega
theorem q_idx_s {i : Int32} {n j : Nat} (h : q_idx i n = some j) : ¬ (i < 0 ∨ n ≤ i.toNatClampNeg) ∧ j = i.toNatClampNeg ∧ j < n := by
  unfold q_idx at h
  split at h
  · cases h
  · rename_i hi
    cases h
    exact ⟨hi, rfl, Nat.not_le.mp fun z => hi (Or.inr z)⟩
/-- an array of the store, as the heap has it -/
theorem q_arr_of (hW : q_W P D S s H) {k : Nat} {x : QC} (hk : S.1[k]? = some x) (h100 : 100 ≤ x.1) : ∃ cA : ClassId, H[P.2 + k]? = some (arrV cA x.2.1 (fun i => q_rv P (q_rd x i))) ∧ q_AC s cA (q_ty x.1) := by
  have hC := hW.2.2 k x hk
  unfold q_C at hC
  rw [if_neg (by omega)] at hC
  rcases hC with h | h
  · omega
  · exact h
theorem q_alen_ok (F : CallFix p m c cc nL s args wsL_law own) (hW : q_W P D S s H) {k : Nat} {x : QC} (hk : S.1[k]? = some x) (h100 : 100 ≤ x.1) (hd : decode cc pc = .ok (.arraylength, 1))
    (kk : W p l e R s m args below meth c H locs cells slots Q (F0 m (pc + 1) ls (.int (Int32.ofNat x.2.1) :: rest))) : W p l e R s m args below meth c H locs cells slots Q (F0 m pc ls (.ref (P.2 + k) :: rest)) := by
  obtain ⟨cA, h1, h2, -⟩ := q_arr_of hW hk h100
  exact W.alen (n := Int32.ofNat x.2.1) F.1 F.2.1 h1 (h2 _ _) (by rw [arrV_size]) rfl rfl hd kk
theorem q_ald_ok (F : CallFix p m c cc nL s args wsL_law own) (hW : q_W P D S s H) {k j : Nat} {x : QC} {i : Instr} {y : Int32} (hk : S.1[k]? = some x) (hkd : q_akd i x.1 = true) (hi : i = .iaload ∨ i = .laload ∨ i = .baload ∨ i = .aaload) (hix : q_idx y x.2.1 = some j) (hd : decode cc pc = .ok (i, 1))
    (kk : W p l e R s m args below meth c H locs cells slots Q (F0 m (pc + 1) ls (q_rv P (q_rd x j) :: rest))) : W p l e R s m args below meth c H locs cells slots Q (F0 m pc ls (.int y :: .ref (P.2 + k) :: rest)) := by
  obtain ⟨hin, rfl, hlt⟩ := q_idx_s hix
  have h100 : 100 ≤ x.1 := by
    rcases hi with rfl | rfl | rfl | rfl <;> simp [q_akd] at hkd <;> omega
  obtain ⟨cA, h1, h2, h3, h4⟩ := q_arr_of hW hk h100
  have hin' : ¬ (y < 0 ∨ (arrV cA x.2.1 (fun i => q_rv P (q_rd x i))).slots.size ≤ y.toNatClampNeg) := by rw [arrV_size]; exact hin
  have hv : (arrV cA x.2.1 (fun i => q_rv P (q_rd x i))).slots[y.toNatClampNeg]? = some (q_rv P (q_rd x y.toNatClampNeg)) := arrV_read _ _ hlt
  have hvm : (arrV cA x.2.1 (fun i => q_rv P (q_rd x i))).vm ≠ .unknown := fun z => by cases z
  rcases hi with rfl | rfl | rfl | rfl
  · have e : q_ty x.1 = .int := by simp [q_akd] at hkd; rw [hkd]; rfl
    rw [e] at h2
    exact W.iald F.1 F.2.1 h1 (h2 _ _) hvm hin' hv rfl rfl hd kk
  · have e : q_ty x.1 = .long := by simp [q_akd] at hkd; rw [hkd]; rfl
    rw [e] at h2
    exact W.lald F.1 F.2.1 h1 (h2 _ _) hvm hin' hv rfl rfl hd kk
  · have e : q_ty x.1 = .boolean := by simp [q_akd] at hkd; rw [hkd]; rfl
    rw [e] at h2
    exact W.zald F.1 F.2.1 h1 (h2 _ _) hvm hin' hv rfl rfl hd kk
  · have e : (q_ty x.1).isReference = true := by
      simp [q_akd] at hkd
      unfold q_ty
      rw [if_neg (by omega), if_neg (by omega), if_neg (by omega)]
      split; rfl
      split; rfl
      split; rfl
      split; rfl
      split; rfl
      rfl
    exact W.aald F.1 F.2.1 h1 (h2 _ _) e hvm hin' hv rfl rfl hd kk
/-- a place of an array is written -/
theorem q_arr_set (hW : q_W P D S s H) {k j : Nat} {x : QC} {cA : ClassId} {v : Value} {H1 : Heap} (hk : S.1[k]? = some x) (h100 : 100 ≤ x.1) (h2 : q_AC s cA (q_ty x.1)) (e1 : H1[P.2 + k]? = some ((arrV cA x.2.1 (fun i => q_rv P (q_rd x i))).setSlot j (q_rv P v))) (e2 : H1.size = H.size) (e3 : ∀ q : Nat, q ≠ P.2 + k → H1[q]? = H[q]?) : q_W P D (S.1.set k (q_wr x j v), S.2) s H1 := by
  refine hW.set e2 e3 ?_
  unfold q_C
  rw [if_neg (show ¬ (q_wr x j v).1 < 50 by show ¬ x.1 < 50; omega)]
  refine Or.inr ⟨cA, ?_, h2⟩
  rw [e1, arrV_store]
  congr 2
  funext i
  simp only [updV, q_rd_wr]
  split <;> rfl
theorem q_iast_ok (F : CallFix p m c cc nL s args wsL_law own) (hW : q_W P D S s H) (hS0 : va_S (q_A P) H0 H locs) {k j : Nat} {x : QC} {y z : Int32} (hk : S.1[k]? = some x) (hkd : x.1 = 100) (hix : q_idx y x.2.1 = some j) (hd : decode cc pc = .ok (.iastore, 1))
    (kk : ∀ (H1 : Heap) (locs1 : List Loc), q_W P D (S.1.set k (q_wr x j (.int z)), S.2) s H1 → va_S (q_A P) H0 H1 locs1 → W p l e R s m args below meth c H1 locs1 cells slots Q (F0 m (pc + 1) ls rest)) : W p l e R s m args below meth c H locs cells slots Q (F0 m pc ls (.int z :: .int y :: .ref (P.2 + k) :: rest)) := by
  obtain ⟨hin, rfl, hlt⟩ := q_idx_s hix
  obtain ⟨cA, h1, h2⟩ := q_arr_of hW hk (by omega)
  have h3 := h2.1
  rw [hkd] at h3
  exact W.iast F.1 F.2.1 h1 (h3 _ _) (fun q => by cases q) (by rw [arrV_size]; exact hin) rfl rfl hd fun H1 e1 e2 e3 => kk H1 _ (q_arr_set (v := .int z) hW hk (by omega) h2 e1 e2 e3) (hS0.put e2 e3 (Nat.le_add_right _ _))
theorem q_last_ok (F : CallFix p m c cc nL s args wsL_law own) (hW : q_W P D S s H) (hS0 : va_S (q_A P) H0 H locs) {k j : Nat} {x : QC} {y : Int32} {z : Int64} (hk : S.1[k]? = some x) (hkd : x.1 = 101) (hix : q_idx y x.2.1 = some j) (hd : decode cc pc = .ok (.lastore, 1))
    (kk : ∀ (H1 : Heap) (locs1 : List Loc), q_W P D (S.1.set k (q_wr x j (.long z)), S.2) s H1 → va_S (q_A P) H0 H1 locs1 → W p l e R s m args below meth c H1 locs1 cells slots Q (F0 m (pc + 1) ls rest)) : W p l e R s m args below meth c H locs cells slots Q (F0 m pc ls (.long z :: .int y :: .ref (P.2 + k) :: rest)) := by
  obtain ⟨hin, rfl, hlt⟩ := q_idx_s hix
  obtain ⟨cA, h1, h2⟩ := q_arr_of hW hk (by omega)
  have h3 := h2.1
  rw [hkd] at h3
  exact W.last F.1 F.2.1 h1 (h3 _ _) (fun q => by cases q) (by rw [arrV_size]; exact hin) rfl rfl hd fun H1 e1 e2 e3 => kk H1 _ (q_arr_set (v := .long z) hW hk (by omega) h2 e1 e2 e3) (hS0.put e2 e3 (Nat.le_add_right _ _))
theorem q_zast_ok (F : CallFix p m c cc nL s args wsL_law own) (hW : q_W P D S s H) (hS0 : va_S (q_A P) H0 H locs) {k j : Nat} {x : QC} {y z : Int32} (hk : S.1[k]? = some x) (hkd : x.1 = 102) (hix : q_idx y x.2.1 = some j) (hd : decode cc pc = .ok (.bastore, 1))
    (kk : ∀ (H1 : Heap) (locs1 : List Loc), q_W P D (S.1.set k (q_wr x j (narrow .boolean (.int z))), S.2) s H1 → va_S (q_A P) H0 H1 locs1 → W p l e R s m args below meth c H1 locs1 cells slots Q (F0 m (pc + 1) ls rest)) : W p l e R s m args below meth c H locs cells slots Q (F0 m pc ls (.int z :: .int y :: .ref (P.2 + k) :: rest)) := by
  obtain ⟨hin, rfl, hlt⟩ := q_idx_s hix
  obtain ⟨cA, h1, h2⟩ := q_arr_of hW hk (by omega)
  have h3 := h2.1
  rw [hkd] at h3
  exact W.zast F.1 F.2.1 h1 (h3 _ _) (fun q => by cases q) (by rw [arrV_size]; exact hin) rfl rfl hd fun H1 e1 e2 e3 => kk H1 _ (q_arr_set (v := narrow .boolean (.int z)) hW hk (by omega) h2 e1 e2 e3) (hS0.put e2 e3 (Nat.le_add_right _ _))
/-- which array takes which thing -/
def q_aok (a b : Nat) : Prop := (a = 103 ∧ b = 2) ∨ (a = 104 ∧ b = 4) ∨ (a = 105 ∧ b = 6) ∨ (a = 106 ∧ b = 11) ∨ (a = 108 ∧ b = 101)
theorem q_aast_ok (F : CallFix p m c cc nL s args wsL_law own) (hW : q_W P D S s H) (hS0 : va_S (q_A P) H0 H locs) {k k2 j : Nat} {x x2 : QC} {y : Int32} (hk : S.1[k]? = some x) (hk2 : S.1[k2]? = some x2) (hkd : q_aok x.1 x2.1) (hix : q_idx y x.2.1 = some j) (hd : decode cc pc = .ok (.aastore, 1))
    (kk : ∀ (H1 : Heap) (locs1 : List Loc), q_W P D (S.1.set k (q_wr x j (.ref (k2 + 4))), S.2) s H1 → va_S (q_A P) H0 H1 locs1 → W p l e R s m args below meth c H1 locs1 cells slots Q (F0 m (pc + 1) ls rest)) : W p l e R s m args below meth c H locs cells slots Q (F0 m pc ls (.ref (P.2 + k2) :: .int y :: .ref (P.2 + k) :: rest)) := by
  obtain ⟨hin, rfl, hlt⟩ := q_idx_s hix
  have h100 : 100 ≤ x.1 := by rcases hkd with h | h | h | h | h <;> omega
  obtain ⟨cA, h1, h2⟩ := q_arr_of hW hk h100
  have href : (q_ty x.1).isReference = true := by rcases hkd with h | h | h | h | h <;> rw [h.1] <;> rfl
  obtain ⟨kA, comp, g1, g2, g3⟩ := h2.2.2 href
  have hval : ∃ (cv : Cell) (kv : Class), H[P.2 + k2]? = some cv ∧ cv.vm = .none ∧ cv.cls = comp ∧ s.vm.classes[comp]? = some kv := by
    have hC := hW.2.2 k2 x2 hk2
    have obj : ∀ (n : Nat) (q : vw_C), x2.1 = n → vwCl[n]? = some q → q_cn (q_ty x.1) = q.1 → ∃ (cv : Cell) (kv : Class), H[P.2 + k2]? = some cv ∧ cv.vm = .none ∧ cv.cls = comp ∧ s.vm.classes[comp]? = some kv := by
      intro n q hn hq hcn
      subst hn
      obtain ⟨h50, -⟩ := q_clok _ _ hq
      unfold q_C at hC
      rw [if_pos h50] at hC
      obtain ⟨row', hrow', cell, c1, c2, c3, -⟩ := hC
      obtain ⟨-, hfc, kC, hkC, -⟩ := hW.2.1 _ _ hq
      rw [hcn] at g3
      have hcomp := Option.some.inj (g3.symm.trans hfc)
      subst hcomp
      exact ⟨cell, kC, c1, c3, c2, hkC⟩
    rcases hkd with ⟨ha, hb9⟩ | ⟨ha, hb9⟩ | ⟨ha, hb9⟩ | ⟨ha, hb9⟩ | ⟨ha, hb9⟩
    · exact obj 2 _ hb9 rfl (by rw [ha]; rfl)
    · exact obj 4 _ hb9 rfl (by rw [ha]; rfl)
    · exact obj 6 _ hb9 rfl (by rw [ha]; rfl)
    · exact obj 11 _ hb9 rfl (by rw [ha]; rfl)
    · obtain ⟨cB, b1, b2⟩ := q_arr_of hW hk2 (by omega)
      have hn : q_cn (q_ty x.1) = "[" ++ (q_ty x2.1).toString := by rw [ha, hb9]; decide
      rw [hn] at g3
      have hcomp := Option.some.inj (g3.symm.trans b2.2.1)
      obtain ⟨kB, q1, -⟩ := Vm.findClass_spec b2.2.1
      subst hcomp
      exact ⟨_, kB, b1, rfl, rfl, q1⟩
  obtain ⟨cv, kv, v1, v2, v3, v4⟩ := hval
  have hself : s.vm.assignable cv.cls comp = true := by
    rw [v3]
    first | (show s.vm.assignableAux _ comp comp = true; unfold Vm.assignableAux; simp)
  refine W.aast F.1 F.2.1 h1 (fun q h => by cases h) (fun h => by cases h) g1 g2 href v4 ⟨fun z => hin (Or.inl z), by rw [arrV_size]; exact hlt⟩ v1 (fun q h => by rw [v2] at h; cases h) (by rw [v3]; exact v4) hself rfl rfl hd fun H1 e1 e2 e3 => ?_
  exact kk H1 _ (q_arr_set (v := .ref (k2 + 4)) hW hk h100 h2 e1 e2 e3) (hS0.put e2 e3 (Nat.le_add_right _ _))
end QB
end QH
