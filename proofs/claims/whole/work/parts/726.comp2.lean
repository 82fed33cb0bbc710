/-! THE ENGINE: the call complete, where the machine has followed. -/
section CP2
variable {m m' M2 m0 : MM} {ow ow' : Int → Int} {ad ad' ad1 : Int → Int → Int} {e e' e1 e2 : ES} {D : Int → Prop} {a b c i j k o r v w h N B t y z p q lim c2 c3 p1 : Int} {n : Nat} {x : CX} {l : List Int} {E : Int → Ev} {s S : TS} {f : Int → Int} {L : List (Int × Int × Int)}
theorem eM_mo : MO e (eM e k s B) := (set_mo (a := 16) (j := 7) (v := k) (Or.inl (by decide)) (by decide) (by decide) (Or.inl (by decide))).tr (same_mo rfl rfl)
theorem eM_a {u : Int} (h : a ≠ 16) : (eM e k s B).1 a u = e.1 a u := ms_a h
theorem put_hN (i0 : 0 ≤ i) (j0 : 0 ≤ j) (j1 : j < 1000) : hN (pPut i k p q t o e) j = (if j = i then hN e j + 1 else hN e j) ∧ eH (pPut i k p q t o e) j = if j = i then Ev1 (eH e j) (hN e j) (evP k p q t o) else eH e j := by
  by_cases c : j = i
  · subst c
    rw [if_pos rfl, if_pos rfl]
    refine ⟨put_N i0, ?_⟩
    show (if j = j then Ev1 (eH (pOrd j k e) j) ((pOrd j k e).1 (71000 + j) 1) _ else _) = _
    rw [if_pos rfl, ord_7 (by omega) (by omega)]
    show Ev1 ((pOrd j k e).2.1 j) _ _ = Ev1 (e.2.1 j) _ _
    rw [ord_2]
    rfl
  · rw [if_neg c, if_neg c]
    refine ⟨put_Na c j0 j1 i0, ?_⟩
    show (if j = i then _ else (pOrd i k e).2.1 j) = e.2.1 j
    rw [if_neg c, ord_2]
/-- the history behind the new commands -/
theorem pnl_h (r0 : 0 ≤ r) (r1 : r < 1000) : ∀ (L : List (Int × Int × Int)) (e : ES), hN (pPNL r t L e) r = hN e r + L.length ∧ (∀ i : Int, i < hN e r → eH (pPNL r t L e) r i = eH e r i) ∧ ∀ (i : Nat) (q : Int × Int × Int), L[i]? = some q → eH (pPNL r t L e) r (hN e r + i) = evP q.1 q.2.1 q.2.2 t 0 := by
  intro L
  induction L with
  | nil => intro e; exact ⟨by show hN e r = hN e r + ((0 : Nat) : Int); omega, fun _ _ => rfl, fun i q h => by simp at h⟩
  | cons u L ih =>
    intro e
    obtain ⟨g1, g2⟩ := put_hN (e := e) (i := r) (k := u.1) (p := u.2.1) (q := u.2.2) (t := t) (o := 0) r0 r0 r1
    rw [if_pos rfl] at g1 g2
    obtain ⟨h1, h2, h3⟩ := ih (pPut r u.1 u.2.1 u.2.2 t 0 e)
    rw [g1] at h1 h2 h3
    refine ⟨?_, fun i hi => ?_, fun i q hq => ?_⟩
    · show hN (pPNL r t L (pPut r u.1 u.2.1 u.2.2 t 0 e)) r = _
      rw [h1, List.length_cons]
      omega
    · show eH (pPNL r t L (pPut r u.1 u.2.1 u.2.2 t 0 e)) r i = _
      rw [h2 i (by omega), g2]
      exact if_neg (by omega)
    · show eH (pPNL r t L (pPut r u.1 u.2.1 u.2.2 t 0 e)) r _ = _
      cases i with
      | zero =>
        simp only [List.getElem?_cons_zero, Option.some.injEq] at hq
        subst hq
        rw [h2 _ (by omega), g2]
        exact if_pos (by omega)
      | succ i =>
        rw [List.getElem?_cons_succ] at hq
        have := h3 i q hq
        rw [← this]
        congr 1
        omega
/-- what is new, as commands of a run -/
def NwC (L : List (Int × Int × Int)) : Prop := (∀ q ∈ L, (q.1 = 10 → q.2.1 < 4 ∧ q.2.2 < 1000) ∧ (q.1 = 13 ∨ q.1 = 14 ∨ q.1 = 16 → q.2.1 < 1000)) ∧ ∀ (i : Nat) (q : Int × Int × Int), L[i]? = some q → (q.1 = 14 ∨ q.1 = 15 ∨ q.1 = 16) → i + 1 = L.length
theorem stale_e (C : CE m ow ad e) (k0 : 0 ≤ k) (k1 : k < e.1 9 2) (hb : MkB e (e.1 (9000 + k) 1)) : fm_X11_isStale (ad 9 k) m = some (if e.1 (9000 + k) 5 = 0 ∧ e.1 (7000 + e.1 (9000 + k) 1) 6 = 0 ∧ pMark e (e.1 (9000 + k) 1) = e.1 (9000 + k) 4 then 0 else 1) := by
  obtain ⟨t1, t2, t3, ⟨t4, t5⟩, t6, t7⟩ := C.tsk k0 k1
  have e5 : m (ad 9 k) 5 = e.1 (9000 + k) 5 := t7 5 (by omega)
  have e4 : m (ad 9 k) 4 = e.1 (9000 + k) 4 := t7 4 (by omega)
  unfold fm_X11_isStale
  rw [gd_t t1, lx_p, t6, lx_p, e5]
  by_cases c1 : e.1 (9000 + k) 5 = 0
  · rw [if_pos c1, gd_t (C.rk t4 t5), lx_p, C.rf t4 t5 (by decide) (by decide)]
    by_cases c2 : e.1 (7000 + e.1 (9000 + k) 1) 6 = 0
    · rw [if_pos c2, bp_t (C.mark t4 t5 hb), lx_p, e4]
      by_cases c3 : pMark e (e.1 (9000 + k) 1) = e.1 (9000 + k) 4
      · rw [if_pos c3, if_pos ⟨c1, c2, c3⟩]
      · rw [if_neg c3, if_neg fun g => c3 g.2.2]
    · rw [if_neg c2, if_neg fun g => c2 g.2.1]
  · rw [if_neg c1, if_neg fun g => c1 g.1]
theorem kept_e (C : CE m ow ad e) (i0 : 0 ≤ r) (i1 : r < e.1 7 2) (hb : MkB e r) : fm_X6_isKeptBy (ad 7 r) w m = some (if e.1 (7000 + r) 12 = w ∧ e.1 (7000 + r) 13 = pMark e r then 1 else 0) := by
  unfold fm_X6_isKeptBy
  rw [lx_p, C.rf i0 i1 (by decide) (by decide)]
  by_cases c1 : e.1 (7000 + r) 12 = w
  · rw [if_pos c1, lx_p, C.rf i0 i1 (by decide) (by decide), bp_t (C.mark i0 i1 hb)]
    by_cases c2 : e.1 (7000 + r) 13 = pMark e r
    · rw [if_pos c2, if_pos ⟨c1, c2⟩]
    · rw [if_neg c2, if_neg fun g => c2 g.2]
  · rw [if_neg c1, if_neg fun g => c1 g.1]
/-- behind what was followed: S the state then -/
def sBeh (x : CX) (S : TS) : TS := if sg S 0 30 = 0 then sLeft x S else S
def pcComp2 (r k g : Int) (x : CX) (S : TS) (B : Int) (e : ES) : (Int ⊕ Nat) × ES :=
  if sg (sBeh x S) 0 30 = 0 then (.inl ((sn S).length : Int), pCarL r (sn S).length (hN e r) (pPN r k g (eM e (-1) (sBeh x S) B)))
  else (.inl (-2), eS (eS (eM e (-1) (sBeh x S) B) (7000 + r) 6 6) (7000 + r) 7 (sg (sBeh x S) 0 31))
theorem left_30 (h : sg (sLeft x s) 0 30 = 0) : sLeft x s = s := by
  unfold sLeft at h ⊢
  split
  · rename_i c
    rw [if_pos c] at h
    have e30 : sg (sStuck s (nc x (sg s 0 12))) 0 30 = 1 := rfl
    omega
  · rfl
theorem comp2_e (C : CE m ow ad e) (r0 : 0 ≤ r) (r1 : r < e.1 7 2) (hst : e.1 (7000 + r) 6 = 0) (k0 : 0 ≤ k) (k1 : k < e.1 9 2) (hl : BDl e) (hf : BDf (pcComp2 r k p x S B e).2) (hT : TyO e) (hm : TmO e r)
  (hK : CR m m S B) (hX : XC m x) (h7 : m 16 7 = 0) (he : eT e = S ∧ eB e = B ∧ e.1 16 7 = -1) (h12 : 0 ≤ sg S 0 12) (h30 : sg S 0 30 = 0 ∨ sg S 0 30 = 1) (hQ' : sg (sBeh x S) 0 30 = 0 → NwB (sn S) ∧ NwC (sn S) ∧ (sn S).length < 1000000 ∧ hN e r + (sn S).length ≤ 524288 ∧ MkB (pPN2 r k p (eM e (-1) (sBeh x S) B)) r) (hT9 : sg (sBeh x S) 0 30 = 0 → CarT r (sn S).length (hN e r) (pPN r k p (eM e (-1) (sBeh x S) B))) (ha : 0 ≤ e.1 (9000 + k) 3 ∧ e.1 (9000 + k) 3 < 524288) (hq : ∀ n : Int, 0 ≤ n → n < 4 → ∀ v ∈ sq S n, 0 ≤ v ∧ v ≤ 999) (hA : 0 ≤ sg S 0 11) (t0 : 0 ≤ e.1 4 11) (t1 : e.1 4 11 + (sn S).length < 2147483647) : OKc e ad (if sg S 0 30 = 0 then (bd (fm_X4_isLeft m) fun x_169 m_170 =>
if x_169 = 0 then
lx (m_170 (ad 7 r) 16) fun x_185 =>
gd (okc m_170 x_185 3) <| lx (m_170 x_185 1) fun x_191 =>
bd (fm_X11_putNews (ad 7 r) (ad 9 k) p m_170) fun x_201 m_202 =>
fl_X11_complete_176 (ad 7 r) x_191 x_201  BIG x_191 m_202
else
fj_X11_complete_133 (ad 7 r) m_170) else fj_X11_complete_133 (ad 7 r) m) (pcComp2 r k p x S B e) := by
  have n7 := C.cn.1
  have stuck : ∀ (m1 : MM) (ow1 : Int → Int) (S1 : TS), CE m1 ow1 ad (eM e (-1) S1 B) → CR m1 m1 S1 B → OKc e ad (fj_X11_complete_133 (ad 7 r) m1) (.inl (-2), eS (eS (eM e (-1) S1 B) (7000 + r) 6 6) (7000 + r) 7 (sg S1 0 31)) := fun m1 ow1 S1 C1 K1 => by
    have d7 : r < (eM e (-1) S1 B).1 7 2 := by rw [eM_a (by decide)]; exact r1
    have nd1 : ¬ Dead (eM e (-1) S1 B) r := fun hh => hh.1 (by rw [eM_a (by omega)]; exact hst)
    have C2 := C1.s7 (v := 6) r0 d7 (j := 6) (by decide) (by decide) (fun _ hh => absurd hh nd1)
    have d72 : r < (eS (eM e (-1) S1 B) (7000 + r) 6 6).1 7 2 := by rw [eS_a (by omega)]; exact d7
    have C3 := C2.s7 (v := sg S1 0 31) r0 d72 (j := 7) (by decide) (by decide) (fun h => by omega)
    have e11 : mset m1 (ad 7 r) 6 6 16 11 = sg S1 0 31 := by
      have hne : (16 : Int) ≠ ad 7 r := by have := (C1.run r0 d7).2.1; omega
      rw [ms_a hne]
      exact K1.c16 (j := 11) (by decide) (by decide)
    unfold fj_X11_complete_133
    rw [gd_t (C1.rk r0 d7), up_t, lx_p, e11, up_t]
    exact OKc.rt ⟨ow1, C3⟩ rfl
  have eMe : CE m ow ad (eM e (-1) S B) := by
    have : eM e (-1) S B = e := by
      unfold eM
      rw [show mset e.1 16 7 (-1) = e.1 from mset_f fun b i hh => by rw [hh.1, hh.2]; exact he.2.2.symm]
      have h1 : S = e.2.2.2.1 := he.1.symm
      have h2 : B = e.2.2.2.2 := he.2.1.symm
      rw [h1, h2]
    rw [this]
    exact C
  unfold pcComp2 sBeh at hf ⊢
  rcases h30 with h30 | h30
  · rw [if_pos h30] at hf ⊢
    rw [if_pos h30]
    obtain ⟨m1, g1, g2, g3, g4, g5⟩ := left_e hK hX h12 (Or.inl h30)
    obtain ⟨ow1, C1⟩ := C.mach g2 g3 (k := -1) (by rw [if_pos (by decide), g4]; exact h7) (by omega) (fun r hr => (g5 r hr).cap (C.capM hr))
    rw [bd_t g1]
    by_cases c30 : sg (sLeft x S) 0 30 = 0
    · rw [if_pos c30] at hf ⊢
      rw [if_pos c30]
      obtain ⟨hS, hC', hs2, hNn, hb⟩ := hQ' (by unfold sBeh; rw [if_pos h30]; exact c30)
      have hT9' := hT9 (by unfold sBeh; rw [if_pos h30]; exact c30)
      unfold sBeh at hb hT9'
      rw [if_pos h30] at hb hT9'
      rw [left_30 c30] at C1 hf hb hT9' ⊢
      have d7 : r < (eM e (-1) S B).1 7 2 := by rw [eM_a (by decide)]; exact r1
      have d9 : k < (eM e (-1) S B).1 9 2 := by rw [eM_a (by decide)]; exact k1
      have nd1 : ¬ Dead (eM e (-1) S B) r := fun hh => hh.1 (by rw [eM_a (by omega)]; exact hst)
      obtain ⟨s1, s2, -⟩ := (C1.his r0 d7).sl
      have eN : hN (eM e (-1) S B) r = hN e r := by unfold hN; rw [eM_a (by omega)]
      have e93 : (eM e (-1) S B).1 (9000 + k) 3 = e.1 (9000 + k) 3 := eM_a (by omega)
      have hl1 : BDl (eM e (-1) S B) := eM_mo.2 hl
      have eT1 : eT (eM e (-1) S B) = S := rfl
      rw [eN] at s2
      -- the news
      have r30 : r < 1000 := by omega
      obtain ⟨q1, q2, q3, q4⟩ := pn2_cl (e := eM e (-1) S B) (k := k) (p := p) r0 r30 (by rw [eM_a (by decide)]; omega)
      obtain ⟨u1, u2, u3⟩ := pn0_cl (e := eM e (-1) S B) (p := p) r0 r30
      have moP : MO (pPN2 r k p (eM e (-1) S B)) (pPN r k p (eM e (-1) S B)) := ((set_mo (a := 7000 + r) (j := 12) (Or.inl (by omega)) (by omega) (by omega) (Or.inl (by omega))).tr (set_mo (a := 7000 + r) (j := 13) (Or.inl (by omega)) (by omega) (by omega) (Or.inl (by omega)))).tr eM_mo
      have w2 : ∀ a u : Int, (a = 4 ∧ u ≠ 16) ∨ a = 7 ∨ a = 8 ∨ (7000 ≤ a ∧ a < 7030 ∧ (u ≤ 11)) → (pPN r k p (eM e (-1) S B)).1 a u = e.1 a u := fun a u hh => by
        show mset (pPN4 r k p (eM e (-1) S B)).1 16 7 r a u = _
        rw [ms_a (by omega)]
        unfold pPN4
        have e13 : ∀ (e0 : ES) (v1 v2 : Int), (eS (eS e0 (7000 + r) 12 v1) (7000 + r) 13 v2).1 a u = e0.1 a u := fun e0 v1 v2 => by
          by_cases c : a = 7000 + r
          · subst c
            rw [eS_j (by omega), eS_j (by omega)]
          · rw [eS_a c, eS_a c]
        rw [e13, pn2_a r0 r30 (by omega) (by omega) (by omega) (by omega) (by omega), eM_a (by omega)]
      have hl2 : BDl (pPN r k p (eM e (-1) S B)) := moP.2 (q1.1.2 (u1.1.2 hl1))
      -- the history then
      obtain ⟨p1, p2, p3⟩ := pnl_h (t := (eM e (-1) S B).1 4 14) r0 r30 (sn S) (pPN0 r p (eM e (-1) S B))
      have f0 : hN (pPN0 r p (eM e (-1) S B)) r = hN e r := by
        unfold hN
        rw [u3 _ _ (by omega), eM_a (by omega)]
      rw [f0] at p1 p2 p3
      obtain ⟨v1, v2⟩ := put_hN (e := pPNL r ((eM e (-1) S B).1 4 14) (sn S) (pPN0 r p (eM e (-1) S B))) (i := r) (k := 17) (p := (eM e (-1) S B).1 (9000 + k) 3) (q := 0) (t := (eM e (-1) S B).1 4 14) (o := 0) r0 r0 r30
      rw [if_pos rfl] at v1 v2
      have hN3 : hN (pPN r k p (eM e (-1) S B)) r = hN e r + (sn S).length + 1 := by
        have h1 : hN (pPN r k p (eM e (-1) S B)) r = hN (pPN2 r k p (eM e (-1) S B)) r := by
          unfold hN
          show mset (pPN4 r k p (eM e (-1) S B)).1 16 7 r (71000 + r) 1 = _
          rw [ms_a (by omega)]
          unfold pPN4
          rw [eS_a (by omega), eS_a (by omega)]
        rw [h1]
        show hN (pPut r 17 ((eM e (-1) S B).1 (9000 + k) 3) 0 ((eM e (-1) S B).1 4 14) 0 (pPNL r ((eM e (-1) S B).1 4 14) (sn S) (pPN0 r p (eM e (-1) S B)))) r = _
        rw [v1, p1]
      have hH3 : ∀ (j : Nat) (u : Int × Int × Int), (sn S)[j]? = some u → eH (pPN r k p (eM e (-1) S B)) r (hN e r + j) = evP u.1 u.2.1 u.2.2 ((eM e (-1) S B).1 4 14) 0 := fun j u hu => by
        have hj := (List.getElem?_eq_some_iff.mp hu).1
        show eH (pPut r 17 ((eM e (-1) S B).1 (9000 + k) 3) 0 ((eM e (-1) S B).1 4 14) 0 (pPNL r ((eM e (-1) S B).1 4 14) (sn S) (pPN0 r p (eM e (-1) S B)))) r _ = _
        rw [v2]
        unfold Ev1
        rw [p1, if_neg (by omega)]
        exact p3 j u hu
      have rows : ∀ c, eL (pPN r k p (eM e (-1) S B)) c = eL e c := fun c => by
        have key : ∀ (L : List (Int × Int × Int)) (e : ES) (t : Int), eL (pPNL r t L e) c = eL e c := by
          intro L
          induction L with
          | nil => intro e t; rfl
          | cons q L ih => intro e t; exact (ih _ _).trans put_l
        show eL (pPut r 17 ((eM e (-1) S B).1 (9000 + k) 3) 0 ((eM e (-1) S B).1 4 14) 0 (pPNL r ((eM e (-1) S B).1 4 14) (sn S) (pPN0 r p (eM e (-1) S B)))) c = _
        rw [put_l, key]
        unfold pPN0
        split <;> rfl
      have cc : CarC r (hN e r) (sn S).length (sKnow (hN (pPN4 r k p (eM e (-1) S B)) r) S) (pPN r k p (eM e (-1) S B)) := by
        have hn0 : 0 ≤ hN e r := (C.hx r0 r1).n.1
        refine ⟨⟨r0, by rw [w2 _ _ (by omega)]; exact r1⟩, by rw [w2 _ _ (by omega)]; omega, by rw [w2 _ _ (by omega)]; exact C.cn.2.1, fun hh => hh.1 (by rw [w2 _ _ (by omega)]; exact hst), ?_, fun i i0 i1 => ?_, ⟨hn0, by rw [hN3]; omega, by omega⟩, fun j j0 j1 => ?_, rfl⟩
        · unfold TmO
          rw [rows, rows]
          exact hm
        · rw [w2 _ _ (by omega)] at i1
          rw [w2 _ _ (by omega), w2 _ _ (by omega)]
          exact hT i i0 i1
        · have hj : (j - hN e r).toNat < (sn S).length := by omega
          have hu := List.getElem?_eq_getElem hj
          have h3 := hH3 _ _ hu
          rw [show hN e r + (((j - hN e r).toNat : Nat) : Int) = j by omega] at h3
          have hmem := List.mem_of_getElem? hu
          have hb1 := hS _ hmem
          have hc1 := hC'.1 _ hmem
          have hc2 := hC'.2 _ _ hu
          rw [h3]
          generalize (sn S)[(j - hN e r).toNat] = u at *
          have ek1 : ek (evP u.1 u.2.1 u.2.2 ((eM e (-1) S B).1 4 14) 0) = u.1 := by show ((u.1.toNat : Nat) : Int) = u.1; omega
          have ex1 : ex (evP u.1 u.2.1 u.2.2 ((eM e (-1) S B).1 4 14) 0) = u.2.1 := by show ((u.2.1.toNat : Nat) : Int) = u.2.1; omega
          have ey1 : ey (evP u.1 u.2.1 u.2.2 ((eM e (-1) S B).1 4 14) 0) = u.2.2 := by show ((u.2.2.toNat : Nat) : Int) = u.2.2; omega
          unfold CmdOk
          rw [ek1, ex1, ey1]
          exact ⟨hc1, fun g => by have := hc2 g; omega⟩
      have moC := carL_mo (sn S).length (hN e r) (pPN r k p (eM e (-1) S B)) cc
      obtain ⟨m2, k2, ow2, C2⟩ := ce_putN C1 (k := k) (p := p) r0 d7 nd1 k0 d9 hS hs2 (by rw [e93]; exact ha) hl1 (hf.of (moP.tr moC)) hb
      have hn0 : 0 ≤ hN e r := (C.hx r0 r1).n.1
      obtain ⟨m3, ad3, k3, k4, k5⟩ := carL_l (y := ad 7 r) (r := r) (many := ((sn S).length : Int)) (first := hN e r) (w32_id (by omega) (by omega)) (S := sKnow (hN (pPN4 r k p (eM e (-1) S B)) r) S) hq hA (sn S).length BIG (hN e r) m2 ow2 ad _ C2 rfl cc hT9' rfl (fun _ => ⟨r0, by rw [w2 _ _ (by omega)]; exact r1⟩) hl2 hf (by rw [w2 _ _ (by omega)]; exact t0) (by rw [w2 _ _ (by omega)]; exact t1) (BIG_g (by omega))
      have hsn : sn (eT (eM e (-1) S B)) = sn S := rfl
      rw [hsn] at k2
      refine ⟨m3, ad3, ?_, k4, fun c' i' hv => k5 c' i' ?_⟩
      · rw [lx_p, (C1.run r0 d7).2.2.2.2.2.1, gd_t s1, lx_p, s2, bd_t k2, k3]
      · have hx : ∀ a : Int, (7 ≤ a ∧ a ≤ 10) ∨ (48 ≤ a ∧ a ≤ 61) → (pPN r k p (eM e (-1) S B)).1 a 2 = e.1 a 2 := fun a hh => by
          show mset (pPN4 r k p (eM e (-1) S B)).1 16 7 r a 2 = _
          rw [ms_a (by omega)]
          unfold pPN4
          rw [eS_a (by omega), eS_a (by omega), pn2_a r0 r30 (by omega) (by omega) (by omega) (by omega) (by omega), eM_a (by omega)]
        exact hv.mono (by rw [hx _ (by omega)]; omega) (by rw [hx _ (by omega)]; omega) (by rw [hx _ (by omega)]; omega) (by rw [hx _ (by omega)]; omega) (fun t ht => by have := isT_b ht; rw [hx _ (by omega)]; omega)
    · rw [if_neg c30] at hf ⊢
      rw [if_neg c30]
      exact stuck m1 ow1 _ C1 g2
  · have hn30 : ¬ sg S 0 30 = 0 := by omega
    rw [if_neg hn30, if_neg hn30, if_neg hn30]
    exact stuck m ow S eMe hK
end CP2
