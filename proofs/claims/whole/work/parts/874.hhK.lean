/-! WHAT FOLLOWS from all that stands between the calls: orders, whens, types, parents, TASKs. -/
section HHO
variable {e e' : ES} {S D T a b c d i j k q r v w N M : Int} {n : Nat} {E : Int → Ev}
theorem newA_lt (hn : 0 ≤ hN e r) (hC0 : 0 ≤ hC e r) (hw : hC e r < hA e r) : newA (pX e r) < hN e r := by
  obtain ⟨⟨g1, g2⟩, g3, -⟩ := newA_s hn hC0
  by_cases c : newA (pX e r) < hN e r
  · exact c
  · exfalso
    have key : ∀ n : Nat, (n : Int) ≤ hN e r → cA (eH e r) n ≤ hC e r := by
      intro n
      induction n with
      | zero => intro _; exact hC0
      | succ n ih =>
        intro h
        show (if ek (eH e r (n : Int)) ≤ 7 then cA (eH e r) n + 1 else cA (eH e r) n) ≤ hC e r
        split
        · rename_i hk
          have := g3 (n : Int) (by omega) (by omega) hk
          rw [show ((n : Int)).toNat = n by omega] at this
          omega
        · exact ih (by omega)
    have := key (hN e r).toNat (by omega)
    have hA' : hA e r = cA (eH e r) (hN e r).toNat := rfl
    omega
theorem HH.hI (h : HH S D T e) (r0 : 0 ≤ r) (r1 : r < e.1 7 2) : HInv (eH e r) (hN e r) := (h.1.1.2.1 r r0 r1).1.2
theorem HH.hC0 (h : HH S D T e) (r0 : 0 ≤ r) (r1 : r < e.1 7 2) : 0 ≤ hC e r := ((h.hI r0 r1).cc (hN e r).toNat (by have := h.hn r r0 r1; omega)).2.2.1
theorem HH.ord (h : HH S D T e) : OrdI e := fun i j i0 i1 j0 j1 wi wj => by
  have ni := newA_lt (h.hn i i0 i1) (h.hC0 i0 i1) wi.2
  have nj := newA_lt (h.hn j j0 j1) (h.hC0 j0 j1) wj.2
  by_cases c : i = j
  · subst c
    exact ⟨fun g => absurd g (Int.lt_irrefl _), fun g => absurd g (Int.lt_irrefl _)⟩
  · obtain ⟨⟨a1, -⟩, -, a3⟩ := newA_s (h.hn i i0 i1) (h.hC0 i0 i1)
    obtain ⟨⟨b1, -⟩, -, b3⟩ := newA_s (h.hn j j0 j1) (h.hC0 j0 j1)
    have g := h.2.2.1.2.2.1 i j (newA (pX e i)) (newA (pX e j)) c (fun d => d.1 wi.1) (fun d => d.1 wj.1) ⟨⟨i0, i1⟩, ⟨a1, ni⟩, (a3 ni).1⟩ ⟨⟨j0, j1⟩, ⟨b1, nj⟩, (b3 nj).1⟩
    unfold pOr pG
    rw [if_pos ni, if_pos nj]
    exact g
theorem HH.wn (h : HH S D T e) (r0 : 0 ≤ r) (r1 : r < e.1 7 2) : WnI e r := fun k k0 k1 hk => (h.2.2.1.2.2.2.2 r r0 r1 k k0 k1 hk).1
theorem HH.tyo (h : HH S D T e) : TyO e := fun i i0 i1 => by
  obtain ⟨q1, q2, q3, q4, q5, -⟩ := h.2.1.1 i i0 i1
  exact ⟨q1, q5⟩
theorem HH.pev (h : HH S D T e) : PEv e := fun i i0 i1 _ => (h.2.1.1 i i0 i1).2.2.2.2.1.1
theorem HH.par (h : HH S D T e) : PaR e := fun i i0 i1 => by
  have := (h.2.1.1 i i0 i1).2.2.2.1
  omega
theorem HH.tmo (h : HH S D T e) (r0 : 0 ≤ r) (r1 : r < e.1 7 2) : TmO e r := h.2.1.tmo r0 r1
theorem HH.tms (h : HH S D T e) : TmS e := h.2.1.tms
theorem HH.tkm (h : HH S D T e) (r0 : 0 ≤ r) (r1 : r < e.1 7 2) : TkM (eH e r) (hN e r) := fun k k0 k1 hk => by
  have hI := h.hI r0 r1
  have h6 := (hI.1 k k0 k1).2.2.2.2.2 hk
  obtain ⟨q1, -, q3, q4⟩ := hI.cc k.toNat (by omega)
  rcases q1 with g | ⟨t, t0, t1, t2, t3⟩
  · omega
  · have := h6.2.2 t t0 (by omega) t2
    omega
/-- what is due is due for runs that are not closed; all runs, all activities -/
theorem HH.wrun (h : HH S D T e) (r0 : 0 ≤ r) (r1 : r < e.1 7 2) : WRun e r := by
  obtain ⟨q1, q2, q3, q4, q5, q6, q7, q8⟩ := h.2.1.1 r r0 r1
  exact ⟨q1, q2, q3, ⟨q4.1, q4.2.1⟩, q5, q6, q7, q8, (h.2.1.2.1 r r0 r1).1, h.2.1.2.2.2.1 r r0 r1⟩
theorem HH.wact (h : HH S D T e) (r0 : 0 ≤ r) (r1 : r < e.1 8 2) : WAct e r := (h.2.1.2.2.1 r r0 r1).1.1
theorem HH.wlv (h : HH S D T e) : WLv e := ⟨fun i i0 i1 g => (((h.2.1.2.2.1 i i0 i1).2.2) g).elim id fun z => z.elim, fun i i0 i1 hd => by
  by_cases c : eL e (73000 + i) = []
  · exact c
  · exact absurd hd (((h.2.1.2.1 i i0 i1).2.2 c).elim id fun z => z.elim)⟩
theorem HH.wx (h : HH S D T e) (hg : WGlo e) (ht : ∀ i : Int, 0 ≤ i → i < e.1 9 2 → WTsk e i) (hs : ∀ i : Int, 0 ≤ i → i < e.1 10 2 → WSch e i) : WX e := ⟨hg, fun i i0 i1 => h.wrun i0 i1, fun i i0 i1 => h.wact i0 i1, ht, hs, h.wlv⟩
theorem HH.pw (h : HH S D T e) (hg : WGlo e) (hs : ∀ i : Int, 0 ≤ i → i < e.1 10 2 → WSch e i) : PW e := ⟨⟨hg, h.cn⟩, fun r r0 r1 => ⟨(h.2.1.2.1 r r0 r1).1, h.wlv.2 r r0 r1⟩, fun p p0 p1 => by
  obtain ⟨q1, q2, q3⟩ := h.2.1.2.2.1 p p0 p1
  exact ⟨q1.1, q2, fun g => (q3 g).elim id fun z => z.elim⟩, fun p p0 p1 => by
  obtain ⟨q1, q2, q3, q4, q5, q6, q7, q8, q9⟩ := hs p p0 p1
  exact ⟨⟨⟨q1.1, q1.2.1⟩, q3, q9⟩, q5⟩⟩
theorem HH.lsb (hs : ∀ i : Int, 0 ≤ i → i < e.1 10 2 → WSch e i) : LsB e := fun p p0 p1 => (hs p p0 p1).2.2.2.2.2.2.1
theorem HH.tskb (ht : ∀ i : Int, 0 ≤ i → i < e.1 9 2 → WTsk e i) : TskB e := fun k k0 k1 => (ht k k0 k1).2.1
/-- TAGs: how many wait -/
theorem HH.tags (h : HH S D T e) : (eL e 14).length ≤ 51200 ∧ ∀ v ∈ eL e 14, 0 ≤ v ∧ v < 30000 := by
  obtain ⟨g1, g2, g3⟩ := h.2.1.2.2.2.2
  have n7 := h.cn.1
  refine ⟨?_, fun v hv => by have := g3 v hv; omega⟩
  split at g2 <;> omega
end HHO
