/-! SOUNDNESS of the pure interpreter, III: what the Statement gives of the start (old things), makings, throws. -/
section QE
def q_en (e : Nat) : String := if e = 0 then "java/lang/IndexOutOfBoundsException" else if e = 1 then "java/lang/IllegalArgumentException" else "java/lang/IllegalStateException"
/-- the classes whose constructors the tables say to be declared -/
def q_dcs : List String := ["java/lang/RuntimeException", "java/lang/Exception", "java/lang/Throwable"]
def q_nms : List String := ["java/lang/RuntimeException", "java/lang/Exception"]
/-- the old static arrays 1, 2, 3: class, name, descriptor, what their elements are, length, elements -/
def q_zc (a : Nat) : String := if a = 1 then "java/util/ArrayList" else "DurableLoom"
def q_zn (a : Nat) : String := if a = 1 then "DEFAULTCAPACITY_EMPTY_ELEMENTDATA" else if a = 2 then "TOP_A" else "TOP_B"
def q_zd (a : Nat) : String := if a = 1 then "[Ljava/lang/Object;" else "[I"
def q_zt (a : Nat) : FieldType := if a = 1 then .object "java/lang/Object" else .int
def q_zl (a : Nat) : Nat := if a = 1 then 0 else 24
def q_zf (a j : Nat) : Value := if a = 1 then .null else if a = 2 then .int (q_ta.getD j 0) else .int (q_tb.getD j 0)
/-- old things: the script, ArrayList's empty array, two statics of Throwable, the texts of the throws -/
def q_V (P : (Nat → Nat) × Nat) (xs : List Int32) (TX : List (String × Nat × String)) (U : State) (H : Heap) : Prop :=
  (P.1 0 < P.2 ∧ P.1 1 < P.2 ∧ P.2 ≤ H.size) ∧ va_X (P.1 0) xs.length (fun j => xs.getD j 0) U H ∧
  (vx_Zq Bundle.tN "UNASSIGNED_STACK" Bundle.steD (q_A P) U H ∧ vx_Zq Bundle.tN "SUPPRESSED_SENTINEL" Bundle.listD (q_A P) U H) ∧
  (∀ a, 1 ≤ a → a < 4 → va_Z (q_zc a) (q_zn a) (q_zd a) (.ref (P.1 a)) (q_A P) U H) ∧ (∀ a, 1 ≤ a → a < 4 → va_T (q_zt a) (P.1 a) (q_zl a) (q_zf a) (q_A P) U H) ∧
  (∀ q ∈ TX, ∃ sa : Nat, vk_R q.1 q.2.1 q.2.2 sa U) ∧ ((∀ e, e < 3 → va_Nw (.castable (q_en e) (q_en e)) U) ∧ ∀ Y ∈ q_dcs, va_Nw (.declares (Bundle.initS Y)) U) ∧ (∀ e f, e < 3 → f < 3 → e ≠ f → va_Nc (q_en e) (q_en f) U) ∧
  (∀ kd, 103 ≤ kd → kd ≤ 108 → (Cond.arrayOver (q_ty kd)).before #[] U = true) ∧ (∀ q ∈ q_NL, va_Nw (.methodLinkNest q.1 q.2.1 q.2.2 "DurableLoom") U) ∧
  (va_Mi "[Ljava/lang/Object;" (P.1 4) U ∧ va_Dc U ∧ va_Nw (.castable "[J" "java/lang/Cloneable") U ∧ ∀ (k : Nat) (row : vw_C), q_obk k = true → vwCl[k]? = some row → va_Nw (.castable row.1 "java/lang/Object") U)
theorem q_over_moved {ty : FieldType} (hty : (∃ C, ty = .object C) ∨ ty = .array .long) {u U : State} (hvm : u.vm.Alike U.vm) (h : (Cond.arrayOver ty).before #[] u = true) : (Cond.arrayOver ty).before #[] U = true := by
  have h2 := Cond.arrayOver_setVmC (args := #[]) (s := u) hvm ty
  rw [h] at h2
  rcases hty with ⟨C, rfl⟩ | rfl
  · exact h2
  · exact h2
theorem q_V.moved {P : (Nat → Nat) × Nat} {xs : List Int32} {TX : List (String × Nat × String)} {u U : State} {H : Heap} (hW : u.WarmedH U.vm) (h : q_V P xs TX u H) : q_V P xs TX U H := by
  obtain ⟨h1, h2, ⟨h3, h4⟩, h5, h6, h7, h8, h9, h10, h11, h12, h13, h14, h15⟩ := h
  have hvm : u.vm.Alike U.vm := hW.alike
  refine ⟨h1, h2.moved hvm, ⟨h3.moved hvm, h4.moved hvm⟩, fun a a1 a2 => (h5 a a1 a2).moved hvm, fun a a1 a2 => (h6 a a1 a2).moved hvm, fun q hq => ?_, ⟨fun e he => va_Nw.warmC hW (h8.1 e he), fun Y hY => va_Nw.warmD hW (h8.2 Y hY)⟩, fun e f he hf hne => (h9 e f he hf hne).moved hvm, fun kd k1 k2 => ?_, fun q hq => va_Nw.warmM hW (h11 q hq), h12.moved hvm, h13.moved hvm, va_Nw.warmC hW h14, fun k row hk hr => va_Nw.warmC hW (h15 k row hk hr)⟩
  · obtain ⟨sa, hs⟩ := h7 q hq
    exact ⟨sa, vk_R.warm hW hs⟩
  · refine q_over_moved ?_ hvm (h10 kd k1 k2)
    unfold q_ty
    rw [if_neg (by omega), if_neg (by omega), if_neg (by omega)]
    split; exact Or.inl ⟨_, rfl⟩
    split; exact Or.inl ⟨_, rfl⟩
    split; exact Or.inl ⟨_, rfl⟩
    split; exact Or.inl ⟨_, rfl⟩
    split; exact Or.inl ⟨_, rfl⟩
    exact Or.inr rfl
theorem q_V.blind {P : (Nat → Nat) × Nat} {xs : List Int32} {TX : List (String × Nat × String)} {u U : State} {H : Heap} (hv : u.vm = U.vm) (h : q_V P xs TX u H) : q_V P xs TX U H := q_V.moved (by rw [← hv]; exact State.WarmedH.refl u) h
theorem q_V.kept {P : (Nat → Nat) × Nat} {xs : List Int32} {TX : List (String × Nat × String)} {U : State} {H H1 : Heap} (h : q_V P xs TX U H) (hz : H.size ≤ H1.size) (hq : ∀ q : Nat, q < H.size → ¬ q_A P q → H1[q]? = H[q]?) : q_V P xs TX U H1 := by
  obtain ⟨⟨h1, h1b, h1c⟩, h2, ⟨h3, h4⟩, h5, h6, h7, h8, h9, h10, h11, h12⟩ := h
  exact ⟨⟨h1, h1b, Nat.le_trans h1c hz⟩, h2.kept (hq _ (Nat.lt_of_lt_of_le h1 h1c) (Nat.not_le.mpr h1)), ⟨h3.kept hq, h4.kept hq⟩, fun a a1 a2 => (h5 a a1 a2).kept hq, fun a a1 a2 => (h6 a a1 a2).kept hq, h7, h8, h9, h10, h11, h12⟩
section QB
variable {p : Program} {l : Launch} {e : Env} {R : Room} {s : State} {m : MethodId} {args : Array Value} {below : List Frame} {meth : Method} {c : Code} {H : Heap} {locs : List Loc} {cells slots : Nat} {Q : State → Prop} {cc : ByteArray} {pc nL : Nat} {ls : Array Slot} {P : (Nat → Nat) × Nat} {D : va_G} {S : QS} {own : String} {rest : List Value} {xs : List Int32} {TX : List (String × Nat × String)}
theorem q_slen_ok (F : CallFix p m c cc nL s args wsL_law own) (hV : q_V P xs TX s s.heap) (hS : va_S (q_A P) s.heap H locs) (hd : decode cc pc = .ok (.arraylength, 1))
    (kk : W p l e R s m args below meth c H locs cells slots Q (F0 m (pc + 1) ls (.int (Int32.ofNat xs.length) :: rest))) : W p l e R s m args below meth c H locs cells slots Q (F0 m pc ls (.ref (P.1 0) :: rest)) :=
  va_slen F.1 F.2.1 hV.2.1 (Nat.lt_of_lt_of_le hV.1.1 hV.1.2.2) (Nat.not_le.mpr hV.1.1) hS hd kk
theorem q_sld_ok (F : CallFix p m c cc nL s args wsL_law own) (hV : q_V P xs TX s s.heap) (hS : va_S (q_A P) s.heap H locs) {i : Int32} {j : Nat} (hi : q_idx i xs.length = some j) (hd : decode cc pc = .ok (.iaload, 1))
    (kk : W p l e R s m args below meth c H locs cells slots Q (F0 m (pc + 1) ls (.int (xs.getD j 0) :: rest))) : W p l e R s m args below meth c H locs cells slots Q (F0 m pc ls (.int i :: .ref (P.1 0) :: rest)) := by
  obtain ⟨h1, rfl, h3⟩ := q_idx_s hi
  exact va_sld F.1 F.2.1 hV.2.1 (Nat.lt_of_lt_of_le hV.1.1 hV.1.2.2) (Nat.not_le.mpr hV.1.1) hS h1 hd kk
theorem q_elen_ok (F : CallFix p m c cc nL s args wsL_law own) (hV : q_V P xs TX s s.heap) (hS : va_S (q_A P) s.heap H locs) {a : Nat} (a1 : 1 ≤ a) (a2 : a < 4) (hd : decode cc pc = .ok (.arraylength, 1))
    (kk : W p l e R s m args below meth c H locs cells slots Q (F0 m (pc + 1) ls (.int (Int32.ofNat (q_zl a)) :: rest))) : W p l e R s m args below meth c H locs cells slots Q (F0 m pc ls (.ref (P.1 a) :: rest)) :=
  va_tlen F.1 F.2.1 (hV.2.2.2.2.1 a a1 a2) hS rfl hd kk
theorem q_eld_ok (F : CallFix p m c cc nL s args wsL_law own) (hV : q_V P xs TX s s.heap) (hS : va_S (q_A P) s.heap H locs) {a : Nat} (a1 : 2 ≤ a) (a2 : a < 4) {i v : Int32} {j : Nat} (hi : q_idx i 24 = some j) (hv : q_zf a j = .int v) (hd : decode cc pc = .ok (.iaload, 1))
    (kk : W p l e R s m args below meth c H locs cells slots Q (F0 m (pc + 1) ls (.int v :: rest))) : W p l e R s m args below meth c H locs cells slots Q (F0 m pc ls (.int i :: .ref (P.1 a) :: rest)) := by
  obtain ⟨h1, rfl, h3⟩ := q_idx_s hi
  have hT := hV.2.2.2.2.1 a (by omega) a2
  have e1 : q_zt a = .int := by unfold q_zt; rw [if_neg (by omega)]
  have e2 : q_zl a = 24 := by unfold q_zl; rw [if_neg (by omega)]
  rw [e1, e2] at hT
  exact va_ti F.1 F.2.1 hT hS h1 hv hd kk
theorem q_gets_ok (F : CallFix p m c cc nL s args wsL_law own) (hV : q_V P xs TX s s.heap) (hS : va_S (q_A P) s.heap H locs) {idx a : Nat} (a1 : 1 ≤ a) (a2 : a < 4) (hlk : Cond.fieldLink own idx (q_zc a) (q_zn a) (q_zd a) ∈ wsL_law) (hd : decode cc pc = .ok (.getstatic idx, 3))
    (kk : W p l e R s m args below meth c H locs cells slots Q (F0 m (pc + 3) ls (.ref (P.1 a) :: rest))) : W p l e R s m args below meth c H locs cells slots Q (F0 m pc ls rest) :=
  va_gets F.1 F.2.1 (hV.2.2.2.1 a a1 a2) hS F.2.2.2.1 (F.2.2.2.2 _ hlk) (fun _ h => h) hd kk
theorem q_rv_old {a : Nat} (h : a < 4) : q_rv P (.ref a) = .ref (P.1 a) := by
  match a, h with
  | 0, _ => rfl
  | 1, _ => rfl
  | 2, _ => rfl
  | 3, _ => rfl
theorem q_S_push {H1 : Heap} (hS : va_S (q_A P) s.heap H locs) (hz : H1.size = H.size + 1) (ho : ∀ q : Nat, q < H.size → H1[q]? = H[q]?) : va_S (q_A P) s.heap H1 locs :=
  ⟨Nat.le_trans hS.1 (by omega), fun x h1 h2 => (ho x (Nat.lt_of_lt_of_le h1 hS.1)).trans (hS.2.1 x h1 h2), hS.2.2⟩
theorem q_rd_new (kd n i : Nat) : q_rd (kd, n, []) i = q_dv kd i := rfl
theorem q_dv_rv (kd i : Nat) : q_rv P (q_dv kd i) = q_dv kd i := by
  have h : ∀ ty : FieldType, q_rv P (defaultValue ty) = defaultValue ty := fun ty => by cases ty <;> rfl
  unfold q_dv
  split
  · exact h _
  · exact h _
theorem q_new_ok (F : CallFix p m c cc nL s args wsL_law own) (hW : q_W P D S s H) (hS : va_S (q_A P) s.heap H locs) {idx ci n : Nat} {row : vw_C} (hrow : vwCl[ci]? = some row) (hN : row.2.2 = n) (hcl : Cond.classLink own idx row.1 ∈ wsL_law) (hinst : Cond.instantiable row.1 n ∈ wsL_law) (hini : Cond.initialized row.1 ∈ wsL_law) (hcells : cells + 1 ≤ R.cells) (hslots : slots + n ≤ R.slots) (hd : decode cc pc = .ok (.new idx, 3))
    (kk : ∀ H1 : Heap, q_W P D (q_new S (ci, n, [])) s H1 → va_S (q_A P) s.heap H1 locs → W p l e R s m args below meth c H1 locs (cells + 1) (slots + n) Q (F0 m (pc + 3) ls (.ref (P.2 + S.1.length) :: rest))) : W p l e R s m args below meth c H locs cells slots Q (F0 m pc ls rest) := by
  obtain ⟨hx, hb, hml, hown, hts⟩ := F
  obtain ⟨h50, hin, hty, hnm⟩ := q_clok _ _ hrow
  have hKn := hW.2.1 _ _ hrow
  rw [← hW.1] at kk
  subst hN
  refine W.newcK hx hb hown (hts _ hcl) (hts _ hinst) (hts _ hini) rfl hd hcells hslots hKn.2.1 rfl fun H1 kC hkC e1 z1 o1 => ?_
  refine kk H1 (hW.push z1 o1 ?_) (q_S_push hS z1 o1)
  unfold q_C
  rw [if_pos (show ci < 50 from h50)]
  refine ⟨row, hrow, ?_⟩
  have hb9 := (u_born (q_fty ci) hts hin hKn hkC (by rw [hW.1] at e1; exact e1) hty)
  refine hb9.to fun i hi => ?_
  rw [q_rd_new, q_dv_rv]
  unfold q_dv
  rw [if_pos h50]
theorem q_newa_ok (F : CallFix p m c cc nL s args wsL_law own) (hW : q_W P D S s H) (hS : va_S (q_A P) s.heap H locs) {at9 : ArrayType} {kd : Nat} {n : Int32} (h100 : 100 ≤ kd) (hk : newarray.typeOf at9 = q_ty kd) (href : (q_ty kd).isReference = false) (hac : Cond.arrayClass (newarray.typeOf at9) ∈ wsL_law) (hcb : componentBytes (newarray.typeOf at9) ≤ 8) (hn : ¬ (n < 0 ∨ 60000000 ≤ n.toNatClampNeg)) (hcells : cells + 1 ≤ R.cells) (hslots : slots + n.toNatClampNeg ≤ R.slots) (hd : decode cc pc = .ok (.newarray at9, 2))
    (kk : ∀ H1 : Heap, q_W P D (q_new S (kd, n.toNatClampNeg, [])) s H1 → va_S (q_A P) s.heap H1 locs → W p l e R s m args below meth c H1 locs (cells + 1) (slots + n.toNatClampNeg) Q (F0 m (pc + 2) ls (.ref (P.2 + S.1.length) :: rest))) : W p l e R s m args below meth c H locs cells slots Q (F0 m pc ls (.int n :: rest)) := by
  obtain ⟨hx, hb, hml, hown, hts⟩ := F
  rw [← hW.1] at kk
  have hn2 : n.toNatClampNeg < 60000000 := Nat.not_le.mp fun z => hn (Or.inr z)
  refine va_newaK hx hb (hts _ hac) rfl hd rfl (fun z => hn (Or.inl z)) rfl ?_ hcells hslots rfl fun H1 cA e1 z1 o1 hAr hNm => ?_
  · exact Nat.le_trans (Nat.mul_le_mul (Nat.le_of_lt hn2) hcb) (Nat.le_of_ble_eq_true rfl)
  refine kk H1 (hW.push z1 o1 ?_) (q_S_push hS z1 o1)
  unfold q_C
  rw [if_neg (show ¬ kd < 50 by omega)]
  rw [hk] at e1 hAr hNm
  refine Or.inr ⟨cA, ?_, hAr, hNm, fun h => ?_⟩
  · rw [← hW.1, e1]
    congr 2
    funext i
    rw [q_rd_new, q_dv_rv]
    unfold q_dv
    rw [if_neg (show ¬ kd < 50 by omega)]
  · rw [href] at h; cases h
theorem q_newq_ok (F : CallFix p m c cc nL s args wsL_law own) (hV : q_V P xs TX s s.heap) (hW : q_W P D S s H) (hS : va_S (q_A P) s.heap H locs) {idx kd : Nat} {n : Int32} (h1 : 103 ≤ kd) (h2 : kd ≤ 108) (hlk : Cond.classLink own idx (q_cn (q_ty kd)) ∈ wsL_law) (hn : ¬ (n < 0 ∨ 60000000 ≤ n.toNatClampNeg)) (hcells : cells + 1 ≤ R.cells) (hslots : slots + n.toNatClampNeg ≤ R.slots) (hd : decode cc pc = .ok (.anewarray idx, 3))
    (kk : ∀ H1 : Heap, q_W P D (q_new S (kd, n.toNatClampNeg, [])) s H1 → va_S (q_A P) s.heap H1 locs → W p l e R s m args below meth c H1 locs (cells + 1) (slots + n.toNatClampNeg) Q (F0 m (pc + 3) ls (.ref (P.2 + S.1.length) :: rest))) : W p l e R s m args below meth c H locs cells slots Q (F0 m pc ls (.int n :: rest)) := by
  obtain ⟨hx, hb, hml, hown, hts⟩ := F
  rw [← hW.1] at kk
  have hn2 : n.toNatClampNeg < 60000000 := Nat.not_le.mp fun z => hn (Or.inr z)
  have hbytes : n.toNatClampNeg * 4 ≤ 536870912 := Nat.le_trans (Nat.mul_le_mul_right 4 (Nat.le_of_lt hn2)) (Nat.le_of_ble_eq_true rfl)
  have hov : (Cond.arrayOver (q_ty kd)).before args s = true := hV.2.2.2.2.2.2.2.2.1 kd h1 h2
  have fin : ∀ (cA : ClassId) (kA : Class) (comp : ClassId), s.vm.findClass ("[" ++ (q_ty kd).toString) = some cA → s.vm.classes[cA]? = some kA → kA.kind = .array comp (q_ty kd) → s.vm.findClass (q_cn (q_ty kd)) = some comp →
      W p l e R s m args below meth c (H.push { cls := cA, slots := Array.replicate n.toNatClampNeg .null, vm := .none }) locs (cells + 1) (slots + n.toNatClampNeg) Q (F0 m (pc + 3) ls (.ref H.size :: rest)) := by
    intro cA kA comp g1 g2 g3 g4
    have z1 : (H.push { cls := cA, slots := Array.replicate n.toNatClampNeg .null, vm := .none }).size = H.size + 1 := by simp
    have o1 : ∀ q : Nat, q < H.size → (H.push { cls := cA, slots := Array.replicate n.toNatClampNeg .null, vm := .none })[q]? = H[q]? := fun q hq => by rw [Array.getElem?_push, if_neg (Nat.ne_of_lt hq)]
    refine kk _ (hW.push z1 o1 ?_) (q_S_push hS z1 o1)
    unfold q_C
    rw [if_neg (show ¬ kd < 50 by omega)]
    refine Or.inr ⟨cA, ?_, fun n z => ⟨fun k h => (by cases h), kA, g2, comp, g3⟩, g1, fun _ => ⟨kA, comp, g2, g3, g4⟩⟩
    rw [← hW.1, arrV_new]
    simp only [Array.getElem?_push_size]
    congr 2
    funext i
    rw [q_rd_new, q_dv_rv]
    unfold q_dv
    rw [if_neg (show ¬ kd < 50 by omega)]
    unfold q_ty
    rw [if_neg (by omega), if_neg (by omega), if_neg (by omega)]
    split; rfl
    split; rfl
    split; rfl
    split; rfl
    split; rfl
    rfl
  by_cases h8 : kd = 108
  · subst h8
    exact W.anewA (t := .long) hx hb hown (hts _ hlk) hov rfl hd rfl (fun z => hn (Or.inl z)) hbytes hcells hslots fun cA kA comp g1 g2 g3 g4 => fin cA kA comp g1 g2 g3 g4
  · have hobj : ∃ C, q_ty kd = .object C := by
      unfold q_ty
      rw [if_neg (by omega), if_neg (by omega), if_neg (by omega)]
      split; exact ⟨_, rfl⟩
      split; exact ⟨_, rfl⟩
      split; exact ⟨_, rfl⟩
      split; exact ⟨_, rfl⟩
      split; exact ⟨_, rfl⟩
      omega
    obtain ⟨C, hC⟩ := hobj
    rw [hC] at hlk hov fin
    exact W.anew (C := C) hx hb hown (hts _ hlk) hov rfl hd rfl (fun z => hn (Or.inl z)) hbytes hcells hslots fun cA kA comp g1 g2 g3 g4 => fin cA kA comp g1 g2 g3 g4
end QB
end QE
