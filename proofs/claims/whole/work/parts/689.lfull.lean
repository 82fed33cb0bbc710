/-! THE ENGINE: the class's lists of objects: one more, where there is no room. -/
section LFU
variable {m m' M : MM} {r a b i j v n T c : Int} {l : List Int}
/-- the elements lie in a new array, and one more is put -/
theorem li_new {M M2 : MM} {NT n : Int} (h : LI m r l) (hx : Ext m M) (hxx : Ext M M2) (hv : okob m v) (hl : (l.length : Int) < n) (hn : n < 60000000) (e1 : M2 r 1 = NT) (hNr : NT ≠ r) (hNT : m 0 0 ≤ NT) (hk : okc M2 NT 107) (hL : M2 NT (-2) = n) (he : ∀ (i : Nat) (w : Int), l[i]? = some w → M2 NT (i : Int) = w) (hO : ∀ a j : Int, a < m 0 0 → a ≠ 0 → a ≠ r → M2 a j = m a j) : fj_Jx4a65c_add_72be8_11 r v NT l.length M2 = some (0, mset (mset M2 NT l.length v) r 2 (l.length + 1)) ∧ LI (mset (mset M2 NT l.length v) r 2 (l.length + 1)) r (l ++ [v]) ∧ Ext m (mset (mset M2 NT l.length v) r 2 (l.length + 1)) ∧ (∀ a j : Int, a < m 0 0 → a ≠ 0 → a ≠ r → mset (mset M2 NT l.length v) r 2 (l.length + 1) a j = m a j) ∧ mset (mset M2 NT l.length v) r 2 (l.length + 1) r 1 = NT := by
  obtain ⟨⟨h1, h1'⟩, h2, h3, h4, h5⟩ := h
  have hl0 : (0 : Int) ≤ l.length := Int.natCast_nonneg _
  have x2 := hx.tr hxx
  have hv2 : okob M2 v := ⟨hv.1, Int.lt_of_lt_of_le hv.2.1 x2.1, by rw [(x2.2 v hv.1 hv.2.1).1]; exact hv.2.2⟩
  have ea := add11 (m := M2) (r := r) (v := v) (y := NT) (c := l.length) hk hl0 (by omega) h3 hv2 hNr
  have x3 : Ext M2 (mset M2 NT l.length v) := mset_ext hk.1 hl0
  have x4 : Ext (mset M2 NT l.length v) (mset (mset M2 NT l.length v) r 2 (l.length + 1)) := mset_ext h1 (by decide)
  have x := x2.tr (x3.tr x4)
  have f1 : mset (mset M2 NT l.length v) r 2 (l.length + 1) r 1 = NT := by rw [ms_j (by decide), ms_a (Ne.symm hNr)]; exact e1
  have fY : ∀ j, mset (mset M2 NT l.length v) r 2 (l.length + 1) NT j = if j = l.length then v else M2 NT j := fun j => by
    rw [ms_a hNr]
    by_cases c : j = l.length
    · rw [if_pos c, c, ms_e]
    · rw [if_neg c, ms_j c]
  refine ⟨ea, ⟨⟨h1, Int.lt_of_lt_of_le h1' x.1⟩, ?_, ?_, fun w hw => ?_, Or.inr ⟨by rw [f1]; exact (x3.tr x4).ok hk, by rw [f1]; exact hNr, ?_, ?_, fun i w hi => ?_⟩⟩, x, fun a j b1 b2 b3 => by rw [ms_a b3, ms_a (by omega)]; exact hO a j b1 b2 b3, f1⟩
  · rw [ms_e, List.length_append]
    rfl
  · rw [List.length_append]
    simp only [List.length_cons, List.length_nil]
    omega
  · have : okob m w := by
      rcases List.mem_append.mp hw with g | g
      · exact h4 w g
      · rw [List.mem_singleton.mp g]; exact hv
    exact ⟨this.1, Int.lt_of_lt_of_le this.2.1 x.1, by rw [(x.2 w this.1 this.2.1).1]; exact this.2.2⟩
  · rw [f1, fY, if_neg (by omega), List.length_append, hL]
    simp only [List.length_cons, List.length_nil]
    omega
  · rw [f1, fY, if_neg (by omega), hL]; exact hn
  · rw [f1, fY]
    by_cases c : i < l.length
    · rw [List.getElem?_append_left c] at hi
      rw [if_neg (by omega)]
      exact he i w hi
    · have c2 : i = l.length := by
        have := (List.getElem?_eq_some_iff.mp hi).1
        rw [List.length_append] at this
        simp only [List.length_cons, List.length_nil] at this
        omega
      subst c2
      rw [List.getElem?_append_right (Nat.le_refl _), Nat.sub_self] at hi
      simp only [List.getElem?_cons_zero, Option.some.injEq] at hi
      rw [if_pos rfl, hi]
theorem li_full (hm : 4 ≤ m 0 0) (h : LI m r l) (ho : okc m (m r 1) 107) (hc : (l.length : Int) = m (m r 1) (-2)) (h0 : 1 ≤ l.length) (hl : l.length < 1000000) (hv : okob m v) : ∃ m', fm_Jx4a65c_add_9ea2d r v m = some (1, m') ∧ LI m' r (l ++ [v]) ∧ Ext m m' ∧ (∀ a j : Int, a < m 0 0 → a ≠ 0 → a ≠ r → m' a j = m a j) ∧ m 0 0 ≤ m' r 1 := by
  have hh := h
  obtain ⟨⟨h1, h1'⟩, h2, h3, h4, h5⟩ := h
  obtain ⟨g1, g2, g3, g4, g5⟩ := h5.resolve_left (fun g => by have := ho.1; omega)
  have x0 : Ext m (mset m r 0 (w32 (m r 0 + 1))) := mset_ext h1 (by decide)
  have e1 : mset m r 0 (w32 (m r 0 + 1)) r 1 = m r 1 := ms_j (by decide)
  have e2 : mset m r 0 (w32 (m r 0 + 1)) r 2 = m r 2 := ms_j (by decide)
  have eY : ∀ j, mset m r 0 (w32 (m r 0 + 1)) (m r 1) j = m (m r 1) j := fun j => ms_a g2
  have e00 : mset m r 0 (w32 (m r 0 + 1)) 0 0 = m 0 0 := ms_a (by omega)
  have eO : ∀ a j : Int, a ≠ r → mset m r 0 (w32 (m r 0 + 1)) a j = m a j := fun a j ha => ms_a ha
  have hv0 : ∀ w, okob m w → okob (mset m r 0 (w32 (m r 0 + 1))) w := fun w hw => ⟨hw.1, Int.lt_of_lt_of_le hw.2.1 x0.1, by rw [(x0.2 w hw.1 hw.2.1).1]; exact hw.2.2⟩
  generalize hM : mset m r 0 (w32 (m r 0 + 1)) = M at x0 e1 e2 eY e00 eO hv0
  have hg := grow20 (M := M) (r := r) (T := m r 1) (c := l.length) (by rw [e00]; exact hm) e1 (x0.ok g1) (by omega) (by omega) (by rw [eY]; exact hc.symm) (fun j j0 j1 => by
    have hlt : j.toNat < l.length := by omega
    have := g5 j.toNat _ (List.getElem?_eq_getElem hlt)
    rw [show ((j.toNat : Nat) : Int) = j by omega] at this
    rw [eY, this]
    exact hv0 _ (h4 _ (List.getElem_mem hlt)))
  obtain ⟨n, hn⟩ : ∃ n, n = (l.length : Int) + (if 1 < (l.length : Int) / 2 then (l.length : Int) / 2 else 1) := ⟨_, rfl⟩
  rw [← hn] at hg
  have hnb : (l.length : Int) < n ∧ n < 60000000 := by
    rw [hn]
    split <;> omega
  have mO : ∀ a j : Int, a < m 0 0 → a ≠ 0 → mcp M (m r 1) n a j = M a j := fun a j b1 b2 => mcp_o (by rw [e00]; omega) b2
  have xm : Ext M (mcp M (m r 1) n) := mcp_x (by rw [e00]; exact hm)
  have xr : Ext (mcp M (m r 1) n) (mset (mcp M (m r 1) n) r 1 (M 0 0)) := mset_ext h1 (by decide)
  have hres := li_new (M := M) (M2 := mset (mcp M (m r 1) n) r 1 (M 0 0)) (NT := M 0 0) hh x0 (xm.tr xr) hv hnb.1 hnb.2 ms_e (by omega) (by omega) (xr.ok (mcp_k (by rw [e00]; exact hm))) (by rw [ms_a (by omega), mcp_l]) (fun i w hi => by
    have hlt := (List.getElem?_eq_some_iff.mp hi).1
    rw [ms_a (by omega), mcp_n (by rw [e00]; exact hm) (by omega) (by omega) (by rw [eY]; omega), eY]
    exact g5 i w hi) (fun a j b1 b2 b3 => by rw [ms_a b3, mO a j b1 b2, eO a j b3])
  obtain ⟨r1, r2, r3, r4, r5⟩ := hres
  refine ⟨_, ?_, r2, r3, r4, by rw [r5]; omega⟩
  have hgr : fm_Jx4a65c_grow_d5877 r M = some (M 0 0, mset (mcp M (m r 1) n) r 1 (M 0 0)) := by
    unfold fm_Jx4a65c_grow_d5877 fm_Jx4a65c_grow_92f84
    rw [lx_p, lx_p, e1, gd_t (okl_of (x0.ok g1) (by decide)), lx_p, eY, ← hc, e2, h2, w32_id (z := (l.length : Int)) (by omega) (by omega), if_pos (by omega), w32_id (by omega) (by omega), bd_t hg]
  unfold fm_Jx4a65c_add_9ea2d
  rw [lx_p, up_t, hM, lx_p, lx_p, e1, e2]
  unfold fm_Jx4a65c_add_72be8
  rw [gd_t (okl_of (x0.ok g1) (by decide)), eY, ← hc, h2, w32_id (by omega) (by omega), if_pos rfl, bd_t hgr, bd_t r1]
end LFU
