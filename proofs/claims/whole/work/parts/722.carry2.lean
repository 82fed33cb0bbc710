/-! THE ENGINE: what one new command does; the new commands are put. -/
section CR9
variable {m m' M2 m0 : MM} {ow ow' : Int → Int} {ad ad' ad1 : Int → Int → Int} {e e' e1 e2 : ES} {D : Int → Prop} {a b c i j k o r v w n h N B t y z p q lim c2 c3 : Int} {x : CX} {l : List Int} {E : Int → Ev} {s : TS} {f : Int → Int}
/-- what a new command does -/
def pCarry (r o : Int) (e : ES) : ES :=
  if ek (eH e r o) = 8 then pMakA r o (ex (eH e r o)) (ey (eH e r o)) e
  else if ek (eH e r o) = 9 then pAddT r o (e.1 4 14 + ex (eH e r o)) e
  else if ek (eH e r o) = 10 then pChi r o (ex (eH e r o)) (ey (eH e r o)) e
  else if ek (eH e r o) = 11 then pDrop r (ex (eH e r o)) e
  else if ek (eH e r o) = 13 then pQT r (ex (eH e r o)) e
  else if ek (eH e r o) = 14 then pClose 41 r 1 (ex (eH e r o)) 0 e
  else if ek (eH e r o) = 15 then pClose 41 r (if sg (eT e) 0 8 = 0 then 2 else 3) 0 0 e
  else if ek (eH e r o) = 16 then (if e.1 7 2 < 30 then pAgain r (ex (eH e r o)) e else pClose 41 r 2 0 0 e)
  else e
/-- what a command's numbers have to be -/
def CmdOk (ev : Ev) : Prop := (ek ev = 10 → ex ev < 4 ∧ ey ev < 1000) ∧ (ek ev = 13 ∨ ek ev = 14 ∨ ek ev = 16 → ex ev < 1000)
theorem CE.carry (C : CE m ow ad e) (r0 : 0 ≤ r) (r1 : r < e.1 7 2) (nd : ¬ Dead e r) (o0 : 0 ≤ o) (o1 : o < hN e r) (o2 : o < 524288) (hc : CmdOk (eH e r o)) (hw : TmO e r) (hT : TyO e) (hl : BDl e) (hf : BDf (pCarry r o e)) (h11 : 0 ≤ e.1 4 11 ∧ e.1 4 11 < 2147483647) (hS : ∀ n : Int, 0 ≤ n → n < 4 → ∀ v ∈ sq (eT e) n, 0 ≤ v ∧ v ≤ 999) (hA : 0 ≤ sg (eT e) 0 11) (hT9 : ek (eH e r o) = 9 → (eL e (73000 + r)).length < 512 ∧ (eL e (74000 + r)).length < 512) : ∃ m' ad', fm_X11_carryOut (ad 7 r) o m = some (0, m') ∧ CX1 m' ad' (pCarry r o e) ∧ AG e ad ad' := by
  have H := C.hx r0 r1
  have hk : fm_X2_kind (ad 71 r) o m = some (ek (eH e r o)) := kind_e H o0 o1
  have hx : fm_X2_x (ad 71 r) o m = some (ex (eH e r o)) := x_e H o0 o1
  have hy : fm_X2_y (ad 71 r) o m = some (ey (eH e r o)) := y_e H o0 o1
  obtain ⟨-, ⟨b1, b2, b3, -⟩, -⟩ := H.get o0 o1
  have x0 : 0 ≤ ex (eH e r o) := Int.natCast_nonneg _
  have y0 : 0 ≤ ey (eH e r o) := Int.natCast_nonneg _
  have x1 : ex (eH e r o) < 524288 := by
    have : (eH e r o).2.1 < 524288 := b2
    show (((eH e r o).2.1 : Nat) : Int) < 524288
    omega
  have hbt := hl.1
  unfold fm_X11_carryOut
  unfold pCarry at hf ⊢
  rw [gd_t (C.rk r0 r1), lx_p, (C.run r0 r1).2.2.2.2.2.1, gd_t (C.his r0 r1).sl.1, bp_t hx, bp_t hy, bp_t hk]
  generalize eH e r o = ev at *
  by_cases k8 : ek ev = 8
  · rw [if_pos k8] at hf ⊢
    rw [if_pos k8]
    obtain ⟨m1, ad1, g1, g2, g3⟩ := C.makA r0 r1 nd hl hf o0 o2
    exact ⟨m1, ad1, by rw [bd_t g1], g2, g3⟩
  rw [if_neg k8] at hf ⊢
  rw [if_neg k8]
  by_cases k9 : ek ev = 9
  · rw [if_pos k9] at hf ⊢
    rw [if_pos k9]
    obtain ⟨m1, g1, g2⟩ := C.addT (o := o) (v := e.1 4 14 + ex ev) r0 r1 hl hf (hT9 k9)
    exact ⟨m1, ad, by rw [lx_p, C.g4 (by decide) (by decide), w32_id (by omega) (by omega), bd_t g1], g2, AG.rf⟩
  rw [if_neg k9] at hf ⊢
  rw [if_neg k9]
  by_cases k10 : ek ev = 10
  · rw [if_pos k10] at hf ⊢
    rw [if_pos k10]
    have := hc.1 k10
    obtain ⟨m1, ad1, g1, g2, g3⟩ := C.chi r0 r1 nd hl hf o0 o2 x0 this.1 y0 this.2
    exact ⟨m1, ad1, by rw [bd_t g1], g2, g3⟩
  rw [if_neg k10] at hf ⊢
  rw [if_neg k10]
  by_cases k11 : ek ev = 11
  · rw [if_pos k11] at hf ⊢
    rw [if_pos k11]
    obtain ⟨m1, g1, g2⟩ := C.drop r0 r1 hw hl hf
    exact ⟨m1, ad, by rw [bd_t g1], g2, AG.rf⟩
  rw [if_neg k11] at hf ⊢
  rw [if_neg k11]
  by_cases k13 : ek ev = 13
  · rw [if_pos k13] at hf ⊢
    rw [if_pos k13]
    obtain ⟨m1, g1, g2⟩ := C.qt r0 r1 x0 (hc.2 (Or.inl k13)) h11
    exact ⟨m1, ad, by rw [bd_t g1], g2, AG.rf⟩
  rw [if_neg k13] at hf ⊢
  rw [if_neg k13]
  by_cases k14 : ek ev = 14
  · rw [if_pos k14] at hf ⊢
    rw [if_pos k14]
    obtain ⟨m1, g1, g2⟩ := close_l 41 BIGR r 1 (ex ev) 0 m ow e C r0 r1 (by decide) (by decide) (by decide) (by decide) (by decide) ⟨x0, hc.2 (Or.inr (Or.inl k14))⟩ hT hl hf
    exact ⟨m1, ad, by rw [bd_t g1], g2, AG.rf⟩
  rw [if_neg k14] at hf ⊢
  rw [if_neg k14]
  by_cases k15 : ek ev = 15
  · rw [if_pos k15] at hf ⊢
    rw [if_pos k15]
    have e8 : m 17 8 = sg (eT e) 0 8 := C.mac.1.c17 (by decide) (by decide)
    rw [lx_p, e8]
    by_cases c8 : sg (eT e) 0 8 = 0
    · rw [if_pos c8] at hf ⊢
      rw [if_pos c8]
      obtain ⟨m1, g1, g2⟩ := close_l 41 BIGR r 2 0 0 m ow e C r0 r1 (by decide) (by decide) (by decide) (by decide) (by decide) (by decide) hT hl hf
      exact ⟨m1, ad, by unfold fj_X11_carryOut_163; rw [bd_t g1], g2, AG.rf⟩
    · rw [if_neg c8] at hf ⊢
      rw [if_neg c8]
      obtain ⟨m1, g1, g2⟩ := close_l 41 BIGR r 3 0 0 m ow e C r0 r1 (by decide) (by decide) (by decide) (by decide) (by decide) (by decide) hT hl hf
      exact ⟨m1, ad, by unfold fj_X11_carryOut_163; rw [bd_t g1], g2, AG.rf⟩
  rw [if_neg k15] at hf ⊢
  rw [if_neg k15]
  by_cases k16 : ek ev = 16
  · rw [if_pos k16] at hf ⊢
    rw [if_pos k16, bp_t (C.size (by decide) (by decide))]
    by_cases c7 : e.1 7 2 < 30
    · rw [if_pos c7] at hf ⊢
      rw [if_pos c7]
      obtain ⟨m1, ad1, g1, g2, g3⟩ := C.again r0 r1 c7 hT hl hf x0 (hc.2 (Or.inr (Or.inr k16))) hS hA
      exact ⟨m1, ad1, by rw [bd_t g1], g2, g3⟩
    · rw [if_neg c7] at hf ⊢
      rw [if_neg c7]
      obtain ⟨m1, g1, g2⟩ := close_l 41 BIGR r 2 0 0 m ow e C r0 r1 (by decide) (by decide) (by decide) (by decide) (by decide) (by decide) hT hl hf
      exact ⟨m1, ad, by rw [bd_t g1], g2, AG.rf⟩
  rw [if_neg k16, if_neg k16]
  exact ⟨m, ad, rfl, ⟨ow, C⟩, AG.rf⟩
/-- the machine's news, as a history -/
def nE (l : List (Int × Int × Int)) : Int → Ev := fun i => match l[i.toNat]? with
  | some q => (q.1.toNat, q.2.1.toNat, q.2.2.toNat, 0)
  | none => (0, 0, 0, 0)
theorem CE.news (C : CE m ow ad e) : HC m 43 ((sn (eT e)).length : Int) (nE (sn (eT e))) ∧ okc m 43 3 ∧ m 43 1 = ((sn (eT e)).length : Int) := by
  obtain ⟨L, hR, ⟨l1, l2, l3, l4, l5, l6⟩, -⟩ := C.mac.1.2.2.2.2
  have ok : okc m 43 3 := fx_kF C.fix (by decide +kernel)
  have h0 : m 43 0 = 44 := (C.fix.2 (43, 3, 5, [(0, 44)]) (by decide +kernel)).2.2 (0, 44) (by decide)
  have h44 := (hR 44 (by unfold Mrow; omega)).1
  refine ⟨⟨ok, l5, L 44, by rw [h0]; exact h44, by rw [l6.1]; rfl, fun n v hv => ?_⟩, ok, l5⟩
  have hn : n < (sn (eT e)).length := by
    have := (List.getElem?_eq_some_iff.mp hv).1
    rw [l6.1] at this
    exact this
  have hg : (sn (eT e))[n]? = some (sn (eT e))[n] := List.getElem?_eq_getElem hn
  obtain ⟨q1, q2, q3, q4, q5, q6, w, q7, q8⟩ := l6.2 n (sn (eT e))[n].1 (sn (eT e))[n].2.1 (sn (eT e))[n].2.2 hg
  have hv2 : v = w := by
    rw [hv] at q7
    exact Option.some.inj q7
  have hE : nE (sn (eT e)) (n : Int) = ((sn (eT e))[n].1.toNat, (sn (eT e))[n].2.1.toNat, (sn (eT e))[n].2.2.toNat, 0) := by
    unfold nE
    rw [Int.toNat_natCast, hg]
  rw [hE]
  refine ⟨⟨?_, ?_, ?_, show (0 : Nat) < 1073741824 by decide⟩, by rw [hv2]; exact q8⟩
  · show (sn (eT e))[n].1.toNat ≤ 17
    omega
  · show (sn (eT e))[n].2.1.toNat < 524288
    omega
  · show (sn (eT e))[n].2.2.toNat < 1024
    omega
/-- what is new has numbers of commands -/
def NwB (l : List (Int × Int × Int)) : Prop := ∀ q ∈ l, (8 ≤ q.1 ∧ q.1 ≤ 16) ∧ (0 ≤ q.2.1 ∧ q.2.1 < 524288) ∧ 0 ≤ q.2.2 ∧ q.2.2 < 1024
/-- the new commands are put -/
def pPNL (r t : Int) : List (Int × Int × Int) → ES → ES
  | [], e => e
  | q :: L, e => pPNL r t L (pPut r q.1 q.2.1 q.2.2 t 0 e)
theorem put_cl (i0 : 0 ≤ i) (i1 : i < 1000) (h7 : e.1 7 2 ≤ 1000) : CL e (pPut i k p q t o e) := ⟨put_mo i0 i1, SF.of fun a u ha hb => put_a (by omega) (by omega) (by omega) (by omega)⟩
theorem put_eT : eT (pPut i k p q t o e) = eT e := by
  show (pOrd i k e).2.2.2.1 = e.2.2.2.1
  rw [ord_2]
theorem put_nd (h : ¬ Dead e j) (i0 : 0 ≤ i) (j0 : 0 ≤ j) (j1 : j < 1000) : ¬ Dead (pPut i k p q t o e) j := fun hh => h (by
  unfold Dead at hh ⊢
  rw [put_a (by omega) (by omega) (by omega) (by omega)] at hh
  exact hh)
theorem pnl_cl (r0 : 0 ≤ r) (r1 : r < 1000) : ∀ (L : List (Int × Int × Int)) (e : ES), e.1 7 2 ≤ 1000 → CL e (pPNL r t L e) ∧ eT (pPNL r t L e) = eT e := by
  intro L
  induction L with
  | nil => intro e _; exact ⟨CL.rf, rfl⟩
  | cons q L ih =>
    intro e h7
    have h := put_cl (e := e) (i := r) (k := q.1) (p := q.2.1) (q := q.2.2) (t := t) (o := 0) r0 r1 h7
    obtain ⟨k1, k2⟩ := ih (pPut r q.1 q.2.1 q.2.2 t 0 e) (by rw [h.2.1 7 (by decide) (by decide)]; exact h7)
    exact ⟨h.tr k1, k2.trans put_eT⟩
theorem pnl_a {u : Int} (h1 : a ≠ 68) (h2 : a ≠ 3) (h3 : a ≠ 76000 + r) (h4 : a ≠ 71000 + r) : ∀ (L : List (Int × Int × Int)) (e : ES), (pPNL r t L e).1 a u = e.1 a u := by
  intro L
  induction L with
  | nil => intro e; rfl
  | cons q L ih => intro e; exact (ih _).trans (put_a h1 h2 h3 h4)
/-- what an event that is put has to find -/
theorem BDl.pd (h : BDl e) (i0 : 0 ≤ i) (i1 : i < e.1 7 2) (hf : BDf (pPut i k p q t o e)) : e.1 (71000 + i) 1 < 268435456 := by
  obtain ⟨g1, g2, g3, g4, g5, -⟩ := h
  obtain ⟨f1, f2, -⟩ := hf
  rw [put_3 i0] at f2
  have := g5 i i0 i1
  unfold hN at this
  omega
theorem pnl_l (r0 : 0 ≤ r) {K : MM → Option (Int × MM)} {S : List (Int × Int × Int)} (hS : NwB S) (hSl : S.length < 1000000) : ∀ (L : List (Int × Int × Int)) (f : Nat) (i : Int) (m : MM) (ow : Int → Int) (e : ES), CE m ow ad e → sn (eT e) = S → S.drop i.toNat = L → 0 ≤ i → r < e.1 7 2 → ¬ Dead e r → BDl e → e.1 4 14 = t → BDf (pPNL r t L e) → L.length < f → ∃ m', fl_X11_putNews_38 (ad 7 r) y 43 K f i m = K m' ∧ CX1 m' ad (pPNL r t L e) := by
  intro L
  induction L with
  | nil =>
    intro f i m ow e C hs hd i0 r1 nd hl ht hf h2
    obtain ⟨f, rfl⟩ : ∃ g, f = g + 1 := ⟨f - 1, by simp only [List.length_nil] at h2; omega⟩
    obtain ⟨q1, q2, q3⟩ := C.news
    rw [hs] at q3
    have : S.length ≤ i.toNat := List.drop_eq_nil_iff.mp hd
    unfold fl_X11_putNews_38
    rw [gd_t q2, lx_p, q3, if_neg (by omega)]
    exact ⟨m, rfl, ow, C⟩
  | cons v L ih =>
    intro f i m ow e C hs hd i0 r1 nd hl ht hf h2
    obtain ⟨f, rfl⟩ : ∃ g, f = g + 1 := ⟨f - 1, by omega⟩
    obtain ⟨q1, q2, q3⟩ := C.news
    rw [hs] at q1 q3
    have hi : i.toNat < S.length := by
      have := congrArg List.length hd
      rw [List.length_drop] at this
      simp only [List.length_cons] at this
      omega
    have hg : S[i.toNat]? = some v := by
      have := congrArg (fun z => z[0]?) hd
      simp only [List.getElem?_drop, List.getElem?_cons_zero, Nat.add_zero] at this
      exact this
    have hv := hS v (List.mem_of_getElem? hg)
    have hE : nE S i = (v.1.toNat, v.2.1.toNat, v.2.2.toNat, 0) := by
      unfold nE
      rw [hg]
    have i1 : i < (S.length : Int) := by omega
    have hk : fm_X2_kind 43 i m = some (ek (nE S i)) := kind_e (x := (fun _ => (S.length : Int), nE S, fun _ => (0, 0, 0))) q1 i0 i1
    have hx : fm_X2_x 43 i m = some (ex (nE S i)) := x_e (x := (fun _ => (S.length : Int), nE S, fun _ => (0, 0, 0))) q1 i0 i1
    have hy : fm_X2_y 43 i m = some (ey (nE S i)) := y_e (x := (fun _ => (S.length : Int), nE S, fun _ => (0, 0, 0))) q1 i0 i1
    have e1 : ek (nE S i) = v.1 := by rw [hE]; show ((v.1.toNat : Nat) : Int) = v.1; omega
    have e2 : ex (nE S i) = v.2.1 := by rw [hE]; show ((v.2.1.toNat : Nat) : Int) = v.2.1; omega
    have e3 : ey (nE S i) = v.2.2 := by rw [hE]; show ((v.2.2.toNat : Nat) : Int) = v.2.2; omega
    rw [e1] at hk
    rw [e2] at hx
    rw [e3] at hy
    have n7 := C.cn.1
    have hcl := put_cl (e := e) (i := r) (k := v.1) (p := v.2.1) (q := v.2.2) (t := t) (o := 0) r0 (by omega) (by omega)
    have hs7 := hcl.2.1 7 (by decide) (by decide)
    have hmo := (pnl_cl (t := t) r0 (show r < 1000 by omega) L (pPut r v.1 v.2.1 v.2.2 t 0 e) (by rw [hs7]; omega)).1.1
    have hbt := hl.1
    obtain ⟨m1, g1, ow1, C1⟩ := C.put (k := v.1) (x := v.2.1) (y := v.2.2) (t := t) (o := 0) r0 r1 nd (hl.pd r0 r1 (hf.of hmo)) (by omega) (by omega) hv.2.1.1 hv.2.1.2 hv.2.2.1 hv.2.2.2 (by omega) (by omega) (by decide) (by decide)
    have e14 : m 4 14 = t := by rw [C.g4 (by decide) (by decide)]; exact ht
    unfold fl_X11_putNews_38
    rw [gd_t q2, lx_p, q3, if_pos i1, gd_t (C.rk r0 r1), lx_p, (C.run r0 r1).2.2.2.2.2.1, bp_t hk, bp_t hx, bp_t hy, lx_p, e14, gd_t (C.his r0 r1).sl.1, bd_t g1, lx_p, w32_id (by omega) (by omega)]
    refine ih f (i + 1) m1 ow1 _ C1 (by rw [put_eT]; exact hs) ?_ (by omega) (by rw [hs7]; exact r1) (put_nd nd r0 r0 (by omega)) (hcl.1.2 hl) (by rw [put_a (by decide) (by decide) (by omega) (by omega)]; exact ht) hf (by simp only [List.length_cons] at h2; omega)
    rw [show (i + 1).toNat = i.toNat + 1 by omega, ← List.tail_drop, hd]
    rfl
end CR9
