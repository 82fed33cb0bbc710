/-! THE ENGINE: a task is completed: the news are put, and carried out. -/
section CMP
variable {m m' M2 m0 : MM} {ow ow' : Int → Int} {ad ad' ad1 : Int → Int → Int} {e e' e1 e2 : ES} {D : Int → Prop} {a b c i j k o r v w n h N B t y z p q lim c2 c3 : Int} {x : CX} {l : List Int} {E : Int → Ev} {s : TS} {f : Int → Int}
/-- the news and a TASK are put; k: the task, g: whether the worker goes on -/
def pPN0 (r g : Int) (e : ES) : ES := if g = 0 then eS (eS e (7000 + r) 15 (hN e r)) (7000 + r) 14 (hC e r) else e
def pPN2 (r k g : Int) (e : ES) : ES := pPut r 17 (e.1 (9000 + k) 3) 0 (e.1 4 14) 0 (pPNL r (e.1 4 14) (sn (eT e)) (pPN0 r g e))
def pPN4 (r k g : Int) (e : ES) : ES := eS (eS (pPN2 r k g e) (7000 + r) 12 (e.1 (9000 + k) 0)) (7000 + r) 13 (pMark (pPN2 r k g e) r)
def pPN (r k g : Int) (e : ES) : ES := eM (pPN4 r k g e) r (sKnow (hN (pPN4 r k g e) r) (eT e)) (eB e)
theorem pn0_cl (r0 : 0 ≤ r) (r1 : r < 1000) : CL e (pPN0 r p e) ∧ eT (pPN0 r p e) = eT e ∧ ∀ a u, (a ≠ 7000 + r ∨ (u ≠ 14 ∧ u ≠ 15)) → (pPN0 r p e).1 a u = e.1 a u := by
  unfold pPN0
  split
  · refine ⟨⟨(set_mo (Or.inl (by omega)) (by omega) (by omega) (Or.inl (by omega))).tr (set_mo (Or.inl (by omega)) (by omega) (by omega) (Or.inl (by omega))), SF.of fun a u ha hb => ?_⟩, rfl, fun a u h => ?_⟩
    · by_cases c : a = 7000 + r
      · subst c
        rw [eS_j (by omega), eS_j (by omega)]
      · rw [eS_a c, eS_a c]
    · by_cases c : a = 7000 + r
      · subst c
        rw [eS_j (by omega), eS_j (by omega)]
      · rw [eS_a c, eS_a c]
  · exact ⟨CL.rf, rfl, fun _ _ _ => rfl⟩
theorem pn2_cl (r0 : 0 ≤ r) (r1 : r < 1000) (h7 : e.1 7 2 ≤ 1000) : CL (pPN0 r p e) (pPN2 r k p e) ∧ MO (pPNL r (e.1 4 14) (sn (eT e)) (pPN0 r p e)) (pPN2 r k p e) ∧ CL (pPN0 r p e) (pPNL r (e.1 4 14) (sn (eT e)) (pPN0 r p e)) ∧ eT (pPN2 r k p e) = eT e := by
  obtain ⟨h1, h2, h3⟩ := pn0_cl (e := e) (p := p) r0 r1
  have n0 := h1.2.1 7 (by decide) (by decide)
  obtain ⟨k1, k2⟩ := pnl_cl (t := e.1 4 14) r0 r1 (sn (eT e)) (pPN0 r p e) (by rw [n0]; exact h7)
  have n1 := k1.2.1 7 (by decide) (by decide)
  have g := put_cl (e := pPNL r (e.1 4 14) (sn (eT e)) (pPN0 r p e)) (i := r) (k := 17) (p := e.1 (9000 + k) 3) (q := 0) (t := e.1 4 14) (o := 0) r0 r1 (by rw [n1, n0]; exact h7)
  exact ⟨k1.tr g, g.1, k1, put_eT.trans (k2.trans h2)⟩
theorem pn2_a {u : Int} (r0 : 0 ≤ r) (r1 : r < 1000) (h1 : a ≠ 68) (h2 : a ≠ 3) (h3 : a ≠ 76000 + r) (h4 : a ≠ 71000 + r) (h5 : a ≠ 7000 + r ∨ (u ≠ 14 ∧ u ≠ 15)) : (pPN2 r k p e).1 a u = e.1 a u := by
  unfold pPN2
  rw [put_a h1 h2 h3 h4, pnl_a h1 h2 h3 h4, (pn0_cl (e := e) (p := p) r0 r1).2.2 a u h5]
theorem ce_putN (C : CE m ow ad e) (r0 : 0 ≤ r) (r1 : r < e.1 7 2) (nd : ¬ Dead e r) (k0 : 0 ≤ k) (k1 : k < e.1 9 2) (hS : NwB (sn (eT e))) (hs2 : (sn (eT e)).length < 1000000) (ha : 0 ≤ e.1 (9000 + k) 3 ∧ e.1 (9000 + k) 3 < 524288) (hl : BDl e) (hf : BDf (pPN2 r k p e)) (hb : MkB (pPN2 r k p e) r) : ∃ m', fm_X11_putNews (ad 7 r) (ad 9 k) p m = some (((sn (eT e)).length : Int), m') ∧ CX1 m' ad (pPN r k p e) := by
  have n7 := C.cn.1
  have n9 := C.cn.2.2.1
  obtain ⟨p1, p2, p3⟩ := pn0_cl (e := e) (p := p) r0 (show r < 1000 by omega)
  obtain ⟨q1, q2, q3, q4⟩ := pn2_cl (e := e) (k := k) (p := p) r0 (show r < 1000 by omega) (by omega)
  obtain ⟨m1, ow1, C1, g1⟩ : ∃ m1 ow1, CE m1 ow1 ad (pPN0 r p e) ∧ fm_X11_putNews (ad 7 r) (ad 9 k) p m = fj_X11_putNews_26 (ad 7 r) (ad 9 k) m1 := by
    unfold fm_X11_putNews pPN0
    by_cases c : p = 0
    · have C1 := C.s7 (v := hN e r) r0 r1 (j := 15) (by decide) (by decide) (fun h => by omega)
      have d7 : r < (eS e (7000 + r) 15 (hN e r)).1 7 2 := by rw [eS_a (by omega)]; exact r1
      have C2 := C1.s7 (v := hC e r) r0 d7 (j := 14) (by decide) (by decide) (fun h => by omega)
      have s1 := (C1.his r0 d7).sl
      have e4 : hC (eS e (7000 + r) 15 (hN e r)) r = hC e r := by
        unfold hC hN
        rw [eS_a (by omega)]
        rfl
      rw [if_pos c, if_pos c]
      refine ⟨_, ow, C2, ?_⟩
      rw [gd_t (C.rk r0 r1), lx_p, (C.run r0 r1).2.2.2.2.2.1, gd_t (C.his r0 r1).sl.1, lx_p, (C.his r0 r1).sl.2.1, up_t, lx_p, (C1.run r0 d7).2.2.2.2.2.1, gd_t s1.1, lx_p, s1.2.2.2.2, e4, up_t]
    · rw [if_neg c, if_neg c]
      exact ⟨m, ow, C, rfl⟩
  have u7 := p1.2.1 7 (by decide) (by decide)
  have u9 := p1.2.1 9 (by decide) (by decide)
  have nd1 : ¬ Dead (pPN0 r p e) r := fun hh => nd (by
    unfold Dead at hh ⊢
    rw [p3 _ _ (by omega)] at hh
    exact hh)
  have e14 : (pPN0 r p e).1 4 14 = e.1 4 14 := p3 _ _ (by omega)
  have hl1 := p1.1.2 hl
  obtain ⟨m2, g2, ow2, C2⟩ := pnl_l (ad := ad) (y := ad 9 k) (t := e.1 4 14) r0 (K := fun m_110 =>
gd (okc m_110 (ad 7 r) 7) <| lx (m_110 (ad 7 r) 16) fun x_119 =>
gd (okc m_110 (ad 9 k) 10) <| lx (m_110 (ad 9 k) 3) fun x_127 =>
lx (m_110 4 14) fun x_134 =>
gd (okc m_110 x_119 3) <| bd (fm_X2_put x_119 17 x_127 0 x_134 0 m_110) fun x_140 m_141 =>
lx (m_141 (ad 9 k) 0) fun x_155 =>
up m_141 (ad 7 r) 12 x_155 fun m_158 =>
bp (fm_X6_mark (ad 7 r) m_158) fun x_167 =>
up m_158 (ad 7 r) 13 x_167 fun m_175 =>
bd (fm_X4_knows (ad 7 r) m_175) fun x_186 m_187 =>
lx (m_187 43 1) fun x_200 =>
some (x_200, m_187)) (S := sn (eT e)) hS hs2 (sn (eT e)) BIG 0 m1 ow1 _ C1 (by rw [p2]) rfl (by decide) (by rw [u7]; exact r1) nd1 hl1 e14 (hf.of q2) (BIG_g (by omega))
  have hA : ∀ a u : Int, a ≠ 68 → a ≠ 3 → a ≠ 76000 + r → a ≠ 71000 + r → (a ≠ 7000 + r ∨ (u ≠ 14 ∧ u ≠ 15)) → (pPNL r (e.1 4 14) (sn (eT e)) (pPN0 r p e)).1 a u = e.1 a u := fun a u h1 h2 h3 h4 h5 => by
    rw [pnl_a h1 h2 h3 h4, p3 a u h5]
  have v7 : (pPNL r (e.1 4 14) (sn (eT e)) (pPN0 r p e)).1 7 2 = e.1 7 2 := hA _ _ (by decide) (by decide) (by omega) (by omega) (by omega)
  have v9 : (pPNL r (e.1 4 14) (sn (eT e)) (pPN0 r p e)).1 9 2 = e.1 9 2 := hA _ _ (by decide) (by decide) (by omega) (by omega) (by omega)
  have r2 : r < (pPNL r (e.1 4 14) (sn (eT e)) (pPN0 r p e)).1 7 2 := by rw [v7]; exact r1
  have k2 : k < (pPNL r (e.1 4 14) (sn (eT e)) (pPN0 r p e)).1 9 2 := by rw [v9]; exact k1
  have nd2 : ¬ Dead (pPNL r (e.1 4 14) (sn (eT e)) (pPN0 r p e)) r := fun hh => nd (by
    unfold Dead at hh ⊢
    rw [hA _ _ (by omega) (by omega) (by omega) (by omega) (by omega)] at hh
    exact hh)
  have hl2 := q3.1.2 hl1
  have hbt := hl.1
  obtain ⟨m3, g3, ow3, C3⟩ := C2.put (k := 17) (x := e.1 (9000 + k) 3) (y := 0) (t := e.1 4 14) (o := 0) r0 r2 nd2 (hl2.pd r0 r2 hf) (by decide) (by decide) ha.1 ha.2 (by decide) (by decide) (by omega) (by omega) (by decide) (by decide)
  have C3' : CE m3 ow3 ad (pPN2 r k p e) := C3
  have w7 : (pPN2 r k p e).1 7 2 = e.1 7 2 := pn2_a r0 (by omega) (by decide) (by decide) (by omega) (by omega) (by omega)
  have w9 : (pPN2 r k p e).1 9 2 = e.1 9 2 := pn2_a r0 (by omega) (by decide) (by decide) (by omega) (by omega) (by omega)
  have r3 : r < (pPN2 r k p e).1 7 2 := by rw [w7]; exact r1
  have k3 : k < (pPN2 r k p e).1 9 2 := by rw [w9]; exact k1
  have t3 : m2 (ad 9 k) 3 = e.1 (9000 + k) 3 := by
    rw [(C2.tsk k0 k2).2.2.2.2.2 3 (by omega)]
    exact hA _ _ (by omega) (by omega) (by omega) (by omega) (by omega)
  have t0 : m3 (ad 9 k) 0 = e.1 (9000 + k) 0 := by
    rw [(C3'.tsk k0 k3).2.2.2.2.2 0 (by omega)]
    exact pn2_a r0 (by omega) (by omega) (by omega) (by omega) (by omega) (by omega)
  have e14' : m2 4 14 = e.1 4 14 := by rw [C2.g4 (by decide) (by decide)]; exact hA _ _ (by decide) (by decide) (by omega) (by omega) (by omega)
  have C4 := C3'.s7 (v := e.1 (9000 + k) 0) r0 r3 (j := 12) (by decide) (by decide) (fun h => by omega)
  have r4 : r < (eS (pPN2 r k p e) (7000 + r) 12 (e.1 (9000 + k) 0)).1 7 2 := by rw [eS_a (by omega)]; exact r3
  have hmk : pMark (eS (pPN2 r k p e) (7000 + r) 12 (e.1 (9000 + k) 0)) r = pMark (pPN2 r k p e) r ∧ MkB (eS (pPN2 r k p e) (7000 + r) 12 (e.1 (9000 + k) 0)) r := by
    have f9 : (eS (pPN2 r k p e) (7000 + r) 12 (e.1 (9000 + k) 0)).1 (7000 + r) 9 = (pPN2 r k p e).1 (7000 + r) 9 := eS_j (by decide)
    have f3 : (eS (pPN2 r k p e) (7000 + r) 12 (e.1 (9000 + k) 0)).1 (7000 + r) 3 = (pPN2 r k p e).1 (7000 + r) 3 := eS_j (by decide)
    have fT : hT (eS (pPN2 r k p e) (7000 + r) 12 (e.1 (9000 + k) 0)) r = hT (pPN2 r k p e) r := by
      unfold hT hN
      rw [eS_a (by omega)]
      rfl
    refine ⟨?_, ?_⟩
    · unfold pMark
      rw [f9, f3, fT]
    · unfold MkB
      rw [f9, f3, fT]
      exact hb
  have hm4 := C4.mark r0 r4 hmk.2
  rw [hmk.1] at hm4
  have C5 := C4.s7 (v := pMark (pPN2 r k p e) r) r0 r4 (j := 13) (by decide) (by decide) (fun h => by omega)
  have r5 : r < (pPN4 r k p e).1 7 2 := by
    show r < (eS (eS (pPN2 r k p e) (7000 + r) 12 (e.1 (9000 + k) 0)) (7000 + r) 13 (pMark (pPN2 r k p e) r)).1 7 2
    rw [eS_a (by omega)]
    exact r4
  have C5' : CE _ ow3 ad (pPN4 r k p e) := C5
  have eT5 : eT (pPN4 r k p e) = eT e := q4
  have eB5 : eB (pPN4 r k p e) = eB e := by
    show (pPut r 17 _ 0 _ 0 _).2.2.2.2 = e.2.2.2.2
    have h1 : (pPNL r (e.1 4 14) (sn (eT e)) (pPN0 r p e)).2.2.2 = (pPN0 r p e).2.2.2 := by
      have key : ∀ (L : List (Int × Int × Int)) (e : ES) (t : Int), (pPNL r t L e).2.2.2 = e.2.2.2 := by
        intro L
        induction L with
        | nil => intro e t; rfl
        | cons q L ih => intro e t; exact (ih _ _).trans put_T
      exact key _ _ _
    rw [put_T, h1]
    unfold pPN0
    split <;> rfl
  obtain ⟨m6, g6, ow6, C6⟩ := C5'.knows r0 r5
  rw [eT5, eB5] at C6
  have hnews := C6.news.2.2
  have hsn : sn (eT (eM (pPN4 r k p e) r (sKnow (hN (pPN4 r k p e) r) (eT e)) (eB e))) = sn (eT e) := rfl
  rw [hsn] at hnews
  refine ⟨m6, ?_, ow6, C6⟩
  rw [g1]
  unfold fj_X11_putNews_26
  rw [g2, gd_t (C2.rk r0 r2), lx_p, (C2.run r0 r2).2.2.2.2.2.1, gd_t (C2.tsk k0 k2).1, lx_p, t3, lx_p, e14', gd_t (C2.his r0 r2).sl.1, bd_t g3, lx_p, t0, up_t, bp_t hm4, up_t, bd_t g6, lx_p, hnews]
/-- the new commands are carried out -/
def pCarL (r : Int) : Nat → Int → ES → ES
  | 0, _, e => e
  | n + 1, i, e => pCarL r n (i + 1) (pCarry r i e)
/-- a command that doesn't close a run -/
theorem carry_kp (r0 : 0 ≤ r) (r1 : r < e.1 7 2) (h7 : e.1 7 2 ≤ 30) (h8 : 0 ≤ e.1 8 2 ∧ e.1 8 2 ≤ 1000) (hm : TmO e r) (hk : ek (eH e r o) ≠ 14 ∧ ek (eH e r o) ≠ 15 ∧ ek (eH e r o) ≠ 16) (hc : CmdOk (eH e r o)) (o0 : 0 ≤ o) (o1 : o < 524288) : KpL r e (pCarry r o e) := by
  have x0 : 0 ≤ ex (eH e r o) := Int.natCast_nonneg _
  unfold pCarry
  generalize eH e r o = v at *
  split
  · exact makA_kp r0 (by omega) (by omega) h8.1
  split
  · exact addT_kp r0 (by omega) hm o0 o1
  split
  · rename_i c
    exact chi_kp r0 r1 h7 x0 (hc.1 c).1 o0 o1
  split
  · exact drop_kp r0 (by omega) (by omega) h8.2 hm
  split
  · exact qt_kp r0
  rw [if_neg hk.1, if_neg hk.2.1, if_neg hk.2.2]
  exact KpL.rf
end CMP
