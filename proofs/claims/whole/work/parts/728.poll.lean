/-! THE ENGINE: the class's calls poll, die. -/
section POL
variable {m m' M2 m0 : MM} {ow ow' : Int → Int} {ad ad' ad1 : Int → Int → Int} {e e' e1 e2 : ES} {D : Int → Prop} {a b c i j k o r v w h N B t y z q lim c2 c3 p1 p2 p3 : Int} {x : CX} {l : List Int} {E : Int → Ev} {s S : TS} {f : Int → Int} {L : List (Int × Int × Int)}
/-- whether a task holds a run -/
abbrev pHeld (e : ES) (i : Int) : Prop := (0 ≤ e.1 (7000 + i) 10 ∧ e.1 (7000 + i) 10 < e.1 9 2) ∧ e.1 (9000 + e.1 (7000 + i) 10) 5 = 0 ∧ e.1 4 14 - e.1 (9000 + e.1 (7000 + i) 10) 2 < 5
abbrev pWork (e : ES) (i : Int) : Prop := e.1 (7000 + i) 6 = 0 ∧ hC e i < hA e i
/-- when the first arrival came that no TASK counts -/
def pOr (e : ES) (i : Int) : Int := if newA (pX e i) < hN e i then ew (eH e i (newA (pX e i))) / 1024 else 0
theorem CE.tf (C : CE m ow ad e) (i0 : 0 ≤ i) (i1 : i < e.1 9 2) (hj : j = 0 ∨ (2 ≤ j ∧ j ≤ 5)) : m (ad 9 i) j = e.1 (9000 + i) j := (C.tsk i0 i1).2.2.2.2.2 j hj
theorem held_e (C : CE m ow ad e) (i0 : 0 ≤ i) (i1 : i < e.1 7 2) (ht : 0 ≤ e.1 4 14 ∧ e.1 4 14 < 1000000) (hg : ∀ k : Int, 0 ≤ k → k < e.1 9 2 → 0 ≤ e.1 (9000 + k) 2 ∧ e.1 (9000 + k) 2 < 1000000) : ∃ z, fm_X11_isHeld (ad 7 i) m = some z ∧ (z = 0 ↔ ¬ pHeld e i) := by
  unfold fm_X11_isHeld pHeld
  rw [gd_t (C.rk i0 i1), lx_p, C.rf i0 i1 (by decide) (by decide)]
  by_cases c1 : e.1 (7000 + i) 10 < 0
  · rw [if_pos c1]
    exact ⟨0, rfl, fun _ h => by omega, fun _ => rfl⟩
  · rw [if_neg c1, bp_t (C.size (by decide) (by decide))]
    by_cases c2 : e.1 (7000 + i) 10 < e.1 9 2
    · have k0 : 0 ≤ e.1 (7000 + i) 10 := by omega
      rw [if_pos c2, bp_t (C.get (by decide) (by decide) k0 c2), gd_t (C.tsk k0 c2).1, lx_p, C.tf k0 c2 (by omega)]
      by_cases c3 : e.1 (9000 + e.1 (7000 + i) 10) 5 = 0
      · have hgg := hg _ k0 c2
        rw [if_pos c3, lx_p, C.g4 (by decide) (by decide), lx_p, C.tf k0 c2 (by omega), w32_id (by omega) (by omega)]
        by_cases c4 : e.1 4 14 - e.1 (9000 + e.1 (7000 + i) 10) 2 < 5
        · rw [if_pos c4]
          exact ⟨1, rfl, fun h => by omega, fun h => absurd ⟨⟨k0, c2⟩, c3, c4⟩ h⟩
        · rw [if_neg c4]
          exact ⟨0, rfl, fun _ h => c4 h.2.2, fun _ => rfl⟩
      · rw [if_neg c3]
        exact ⟨0, rfl, fun _ h => c3 h.2.1, fun _ => rfl⟩
    · rw [if_neg c2]
      exact ⟨0, rfl, fun _ h => c2 h.1.2, fun _ => rfl⟩
theorem work_e (C : CE m ow ad e) (i0 : 0 ≤ i) (i1 : i < e.1 7 2) : ∃ z, fm_X6_hasWork (ad 7 i) m = some z ∧ (z = 0 ↔ ¬ pWork e i) := by
  obtain ⟨s1, s2, s3, s4, s5⟩ := (C.his i0 i1).sl
  unfold fm_X6_hasWork pWork
  rw [lx_p, C.rf i0 i1 (by decide) (by decide)]
  by_cases c1 : e.1 (7000 + i) 6 = 0
  · rw [if_pos c1, lx_p, (C.run i0 i1).2.2.2.2.2.1, gd_t s1, lx_p, s3, lx_p, s5]
    by_cases c2 : hC e i < hA e i
    · rw [if_pos c2]
      exact ⟨1, rfl, fun h => by omega, fun h => absurd ⟨c1, c2⟩ h⟩
    · rw [if_neg c2]
      exact ⟨0, rfl, fun _ h => c2 h.2, fun _ => rfl⟩
  · rw [if_neg c1]
    exact ⟨0, rfl, fun _ h => c1 h.1, fun _ => rfl⟩
theorem ordr_e (C : CE m ow ad e) (i0 : 0 ≤ i) (i1 : i < e.1 7 2) : fm_X6_firstOrder (ad 7 i) m = some (pOr e i) := by
  obtain ⟨s1, s2, s3, s4, s5⟩ := (C.his i0 i1).sl
  have H := C.hx i0 i1
  have hb := newA_b H.n.1
  have hn := newA_e H s5
  unfold fm_X6_firstOrder pOr
  rw [lx_p, (C.run i0 i1).2.2.2.2.2.1, gd_t s1, bp_t hn]
  by_cases c : newA (pX e i) < hN e i
  · have ho : fm_X2_orderOfArrival (ad 71 i) (newA (pX e i)) m = some (ew (eH e i (newA (pX e i))) / 1024) := order_e H hb.1 c
    rw [if_pos c, bp_t ho]
  · rw [if_neg c]
    obtain ⟨-, -, lh, hr, hlen, -⟩ := H
    have hlen2 : (lh.length : Int) = hN e i := hlen
    have ho : fm_X2_orderOfArrival (ad 71 i) (newA (pX e i)) m = some 0 := by
      unfold fm_X2_orderOfArrival
      rw [lx_p, gd_t hr.1.1, bp_t (wide_none hr (Or.inr (by omega)))]
      decide
    rw [bp_t ho]
/-- the first run of a tenant that has work -/
def fFw (e : ES) (t : Int) : Nat → Int → Int → Int
  | 0, b, _ => b
  | n + 1, b, i => if i < e.1 7 2 then fFw e t n (if e.1 (7000 + i) 2 = t ∧ pWork e i ∧ ¬ pHeld e i ∧ (b < 0 ∨ pOr e i < pOr e b) then i else b) (i + 1) else b
theorem fw_l (C : CE m ow ad e) (ht : 0 ≤ e.1 4 14 ∧ e.1 4 14 < 1000000) (hg : ∀ k : Int, 0 ≤ k → k < e.1 9 2 → 0 ≤ e.1 (9000 + k) 2 ∧ e.1 (9000 + k) 2 < 1000000) : ∀ (n f : Nat) (b i : Int), 0 ≤ i → i ≤ e.1 7 2 → b < e.1 7 2 → e.1 7 2 - i < n → n ≤ f → fl_X11_firstRunWithWork_4 t m f (if b < 0 then 0 else ad 7 b) i = some (if fFw e t n b i < 0 then 0 else ad 7 (fFw e t n b i)) ∧ fFw e t n b i < e.1 7 2 := by
  intro n
  induction n with
  | zero => intro f b i i0 i9 b9 h1 h2; omega
  | succ n ih =>
    intro f b i i0 i9 b9 h1 h2
    obtain ⟨f, rfl⟩ : ∃ g, f = g + 1 := ⟨f - 1, by omega⟩
    unfold fl_X11_firstRunWithWork_4 fFw
    rw [bp_t (C.size (by decide) (by decide))]
    have n7 := C.cn.1
    by_cases c1 : i < e.1 7 2
    · have e2 : m (ad 7 i) 2 = e.1 (7000 + i) 2 := C.rf i0 c1 (by decide) (by decide)
      have same : ¬ (e.1 (7000 + i) 2 = t ∧ pWork e i ∧ ¬ pHeld e i ∧ (b < 0 ∨ pOr e i < pOr e b)) → fl_X11_firstRunWithWork_4 t m f (if b < 0 then 0 else ad 7 b) (i + 1) = some (if fFw e t n (if e.1 (7000 + i) 2 = t ∧ pWork e i ∧ ¬ pHeld e i ∧ (b < 0 ∨ pOr e i < pOr e b) then i else b) (i + 1) < 0 then 0 else ad 7 (fFw e t n (if e.1 (7000 + i) 2 = t ∧ pWork e i ∧ ¬ pHeld e i ∧ (b < 0 ∨ pOr e i < pOr e b) then i else b) (i + 1))) ∧ fFw e t n (if e.1 (7000 + i) 2 = t ∧ pWork e i ∧ ¬ pHeld e i ∧ (b < 0 ∨ pOr e i < pOr e b) then i else b) (i + 1) < e.1 7 2 := fun hh => by
        rw [if_neg hh]
        exact ih f b (i + 1) (by omega) (by omega) b9 (by omega) (by omega)
      have other : (e.1 (7000 + i) 2 = t ∧ pWork e i ∧ ¬ pHeld e i ∧ (b < 0 ∨ pOr e i < pOr e b)) → fl_X11_firstRunWithWork_4 t m f (ad 7 i) (i + 1) = some (if fFw e t n (if e.1 (7000 + i) 2 = t ∧ pWork e i ∧ ¬ pHeld e i ∧ (b < 0 ∨ pOr e i < pOr e b) then i else b) (i + 1) < 0 then 0 else ad 7 (fFw e t n (if e.1 (7000 + i) 2 = t ∧ pWork e i ∧ ¬ pHeld e i ∧ (b < 0 ∨ pOr e i < pOr e b) then i else b) (i + 1))) ∧ fFw e t n (if e.1 (7000 + i) 2 = t ∧ pWork e i ∧ ¬ pHeld e i ∧ (b < 0 ∨ pOr e i < pOr e b) then i else b) (i + 1) < e.1 7 2 := fun hh => by
        rw [if_pos hh]
        have h9 := ih f i (i + 1) (by omega) (by omega) c1 (by omega) (by omega)
        rw [if_neg (show ¬ i < 0 by omega)] at h9
        exact h9
      rw [if_pos c1, if_pos c1, bp_t (C.get (by decide) (by decide) i0 c1), gd_t (C.rk i0 c1), lx_p, e2]
      by_cases c2 : e.1 (7000 + i) 2 = t
      · obtain ⟨zw, w1, w2⟩ := work_e C i0 c1
        rw [if_pos c2, bp_t w1]
        by_cases c3 : zw = 0
        · rw [if_pos c3, lx_p, w32_id (by omega) (by omega)]
          exact same fun hh => w2.mp c3 hh.2.1
        · obtain ⟨zh, u1, u2⟩ := held_e C i0 c1 ht hg
          have hwk : pWork e i := Classical.byContradiction fun h => c3 (w2.mpr h)
          rw [if_neg c3, bp_t u1]
          by_cases c4 : zh = 0
          · have hnh := u2.mp c4
            rw [if_pos c4]
            by_cases c5 : b < 0
            · rw [if_pos c5, if_pos rfl, lx_p, w32_id (by omega) (by omega)]
              exact other ⟨c2, hwk, hnh, Or.inl c5⟩
            · have hb4 := (C.rk (i := b) (by omega) b9).1
              rw [if_neg c5, if_neg (by omega), bp_t (ordr_e C i0 c1), gd_t (C.rk (by omega) b9), bp_t (ordr_e C (by omega) b9)]
              by_cases c6 : pOr e i < pOr e b
              · rw [if_pos c6, lx_p, w32_id (by omega) (by omega)]
                exact other ⟨c2, hwk, hnh, Or.inr c6⟩
              · rw [if_neg c6, lx_p, w32_id (by omega) (by omega)]
                have h9 := same fun hh => hh.2.2.2.elim c5 c6
                rw [if_neg c5] at h9
                exact h9
          · rw [if_neg c4, lx_p, w32_id (by omega) (by omega)]
            exact same fun hh => c4 (u2.mpr hh.2.2.1)
      · rw [if_neg c2, lx_p, w32_id (by omega) (by omega)]
        exact same fun hh => c2 hh.1
    · rw [if_neg c1, if_neg c1]
      exact ⟨rfl, b9⟩
/-- the run that is given out: the tenants in their order -/
def fPo (e : ES) : Nat → Int → Int → Int
  | 0, b, _ => b
  | n + 1, b, t => if t < 3 then fPo e n (if 0 ≤ fFw e t 31 (-1) 0 ∧ e.1 13 t < e.1 4 13 ∧ (b < 0 ∨ e.1 12 t < e.1 12 (e.1 (7000 + b) 2)) then fFw e t 31 (-1) 0 else b) (t + 1) else b
theorem po_l {K : Int → Option ((Int ⊕ Nat) × MM)} (C : CE m ow ad e) (ht : 0 ≤ e.1 4 14 ∧ e.1 4 14 < 1000000) (hg : ∀ k : Int, 0 ≤ k → k < e.1 9 2 → 0 ≤ e.1 (9000 + k) 2 ∧ e.1 (9000 + k) 2 < 1000000) (hten : ∀ i : Int, 0 ≤ i → i < e.1 7 2 → 0 ≤ e.1 (7000 + i) 2 ∧ e.1 (7000 + i) 2 < 3) : ∀ (n f : Nat) (b t : Int), 0 ≤ t → t ≤ 3 → b < e.1 7 2 → 3 - t < n → n ≤ f → fl_X11_poll_9 y m K f (if b < 0 then 0 else ad 7 b) t = K (if fPo e n b t < 0 then 0 else ad 7 (fPo e n b t)) ∧ fPo e n b t < e.1 7 2 := by
  intro n
  induction n with
  | zero => intro f b t i0 i9 b9 h1 h2; omega
  | succ n ih =>
    intro f b t i0 i9 b9 h1 h2
    obtain ⟨f, rfl⟩ : ∃ g, f = g + 1 := ⟨f - 1, by omega⟩
    unfold fl_X11_poll_9 fPo
    have n7 := C.cn.1
    by_cases c1 : t < 3
    · obtain ⟨w1, w2⟩ := fw_l (t := t) C ht hg 31 BIG (-1) 0 (by decide) (by omega) (by omega) (by omega) (Nat.le_of_lt (BIG_g (by decide)))
      rw [if_pos (show (-1 : Int) < 0 by decide)] at w1
      have w1' : fm_X11_firstRunWithWork t m = some (if fFw e t 31 (-1) 0 < 0 then 0 else ad 7 (fFw e t 31 (-1) 0)) := w1
      rw [if_pos c1, if_pos c1, bp_t w1']
      generalize fFw e t 31 (-1) 0 = q at *
      have same : ¬ (0 ≤ q ∧ e.1 13 t < e.1 4 13 ∧ (b < 0 ∨ e.1 12 t < e.1 12 (e.1 (7000 + b) 2))) → fl_X11_poll_9 y m K f (if b < 0 then 0 else ad 7 b) (t + 1) = K (if fPo e n (if 0 ≤ q ∧ e.1 13 t < e.1 4 13 ∧ (b < 0 ∨ e.1 12 t < e.1 12 (e.1 (7000 + b) 2)) then q else b) (t + 1) < 0 then 0 else ad 7 (fPo e n (if 0 ≤ q ∧ e.1 13 t < e.1 4 13 ∧ (b < 0 ∨ e.1 12 t < e.1 12 (e.1 (7000 + b) 2)) then q else b) (t + 1))) ∧ fPo e n (if 0 ≤ q ∧ e.1 13 t < e.1 4 13 ∧ (b < 0 ∨ e.1 12 t < e.1 12 (e.1 (7000 + b) 2)) then q else b) (t + 1) < e.1 7 2 := fun hh => by
        rw [if_neg hh]
        exact ih f b (t + 1) (by omega) (by omega) b9 (by omega) (by omega)
      have other : (0 ≤ q ∧ e.1 13 t < e.1 4 13 ∧ (b < 0 ∨ e.1 12 t < e.1 12 (e.1 (7000 + b) 2))) → fl_X11_poll_9 y m K f (ad 7 q) (t + 1) = K (if fPo e n (if 0 ≤ q ∧ e.1 13 t < e.1 4 13 ∧ (b < 0 ∨ e.1 12 t < e.1 12 (e.1 (7000 + b) 2)) then q else b) (t + 1) < 0 then 0 else ad 7 (fPo e n (if 0 ≤ q ∧ e.1 13 t < e.1 4 13 ∧ (b < 0 ∨ e.1 12 t < e.1 12 (e.1 (7000 + b) 2)) then q else b) (t + 1))) ∧ fPo e n (if 0 ≤ q ∧ e.1 13 t < e.1 4 13 ∧ (b < 0 ∨ e.1 12 t < e.1 12 (e.1 (7000 + b) 2)) then q else b) (t + 1) < e.1 7 2 := fun hh => by
        rw [if_pos hh]
        have h9 := ih f q (t + 1) (by omega) (by omega) w2 (by omega) (by omega)
        rw [if_neg (show ¬ q < 0 by omega)] at h9
        exact h9
      by_cases c2 : q < 0
      · rw [if_pos c2, if_pos rfl, lx_p, w32_id (by omega) (by omega)]
        exact same fun hh => by omega
      · have hq4 := (C.rk (i := q) (by omega) w2).1
        rw [if_neg c2, if_neg (by omega), gd_t ⟨i0, c1⟩, lx_p, C.g3 (by decide) (by decide) i0 c1, lx_p, C.g4 (by decide) (by decide)]
        by_cases c3 : e.1 13 t < e.1 4 13
        · rw [if_pos c3]
          by_cases c5 : b < 0
          · rw [if_pos c5, if_pos rfl, lx_p, w32_id (by omega) (by omega)]
            exact other ⟨by omega, c3, Or.inl c5⟩
          · have hb4 := (C.rk (i := b) (by omega) b9).1
            have e2 : m (ad 7 b) 2 = e.1 (7000 + b) 2 := C.rf (by omega) b9 (by decide) (by decide)
            obtain ⟨t0, t1⟩ := hten b (by omega) b9
            have hgt : fm_X11_givenTo (e.1 (7000 + b) 2) m = some (e.1 12 (e.1 (7000 + b) 2)) := by
              unfold fm_X11_givenTo
              rw [if_neg (by omega), if_pos t1, gd_t ⟨t0, t1⟩, lx_p, C.g3 (by decide) (by decide) t0 t1]
            rw [if_neg c5, if_neg (by omega), lx_p, C.g3 (by decide) (by decide) i0 c1, gd_t (C.rk (by omega) b9), lx_p, e2, bp_t hgt]
            by_cases c6 : e.1 12 t < e.1 12 (e.1 (7000 + b) 2)
            · rw [if_pos c6, lx_p, w32_id (by omega) (by omega)]
              exact other ⟨by omega, c3, Or.inr c6⟩
            · rw [if_neg c6, lx_p, w32_id (by omega) (by omega)]
              have h9 := same fun hh => hh.2.2.elim c5 c6
              rw [if_neg c5] at h9
              exact h9
        · rw [if_neg c3, lx_p, w32_id (by omega) (by omega)]
          exact same fun hh => c3 hh.2.1
    · rw [if_neg c1, if_neg c1]
      exact ⟨rfl, b9⟩
def pGiv (t : Int) (e : ES) : ES := eS (eS e 12 t (e.1 12 t + 1)) 13 t (e.1 13 t + 1)
def pcPoll (p1 : Int) (e : ES) : (Int ⊕ Nat) × ES :=
  if 0 ≤ p1 ∧ p1 < 3 then
    if fPo e 4 (-1) 0 < 0 then (.inl (-1), e)
    else (.inl (100 * e.1 9 2 + fPo e 4 (-1) 0), pNew 9 (fTsk p1 (fPo e 4 (-1) 0) (e.1 4 14) (hA e (fPo e 4 (-1) 0)) (pMark e (fPo e 4 (-1) 0))) (eS (pGiv (e.1 (7000 + fPo e 4 (-1) 0) 2) e) (7000 + fPo e 4 (-1) 0) 10 (e.1 9 2)))
  else rT 0 e
theorem c_poll (C : CE m ow ad e) (hW : WB e) (hn : e.1 9 2 < 512) (hmk : ∀ i : Int, 0 ≤ i → i < e.1 7 2 → MkB e i) : OKc e ad (fm_X11_poll p1 m) (pcPoll p1 e) := by
  unfold fm_X11_poll pcPoll
  rw [chkWor]
  have n7 := C.cn.1
  have n9 := C.cn.2.2.1
  by_cases c1 : 0 ≤ p1 ∧ p1 < 3
  · rw [if_pos c1, if_pos c1, bx_l rfl]
    obtain ⟨w1, w2⟩ := po_l (y := p1) (K := fun x_159 =>
if x_159 = 0 then
some (.inl (-1), m)
else
gd (okc m x_159 7) <| lx (m x_159 2) fun x_177 =>
bd (fm_X11_countGiven x_177 m) fun x_180 m_181 =>
nw m_181 10 6 fun x_191 m_192 =>
lx (m_192 4 14) fun x_207 =>
bd (fm_X9_init x_191 p1 x_159 x_207 m_192) fun x_210 m_211 =>
bp (fm_Jx4a65c_size_8abf5 9 m_211) fun x_230 =>
up m_211 x_159 10 x_230 fun m_239 =>
bd (fm_Jx4a65c_add_9ea2d 9 x_191 m_239) fun x_250 m_251 =>
lx (m_251 x_159 10) fun x_267 =>
lx (m_251 x_159 0) fun x_274 =>
some (.inl (w32 ((w32 (100 * x_267)) + x_274)), m_251)) C hW.bd.1 (fun k k0 k1 => (hW.tsk k0 k1).2.1) (fun i i0 i1 => (hW.run i0 i1).2.1) 4 BIG (-1) 0 (by decide) (by decide) (by omega) (by decide) (Nat.le_of_lt (BIG_g (by decide)))
    rw [if_pos (show (-1 : Int) < 0 by decide)] at w1
    rw [w1]
    by_cases c2 : fPo e 4 (-1) 0 < 0
    · rw [if_pos c2, if_pos c2, if_pos rfl]
      exact OKc.rt ⟨ow, C⟩ rfl
    · have q0 : 0 ≤ fPo e 4 (-1) 0 := by omega
      rw [if_neg c2, if_neg c2]
      generalize fPo e 4 (-1) 0 = q at *
      have hk := C.rk q0 w2
      obtain ⟨t0, t1⟩ := (hW.run q0 w2).2.1
      have hgv := (hW.glo.2.2.2.2.1 _ t0 t1)
      have e2 : m (ad 7 q) 2 = e.1 (7000 + q) 2 := C.rf q0 w2 (by decide) (by decide)
      rw [if_neg (by have := hk.1; omega), gd_t hk, lx_p, e2]
      have hMk := hmk q q0 w2
      generalize e.1 (7000 + q) 2 = t at *
      have C1 := C.sG (o := 12) (j := t) (v := e.1 12 t + 1) (by omega)
      have C2 : CE _ ow ad (pGiv t e) := C1.sG (o := 13) (j := t) (v := e.1 13 t + 1) (by omega)
      have hcg : fm_X11_countGiven t m = some (0, mset (mset m 12 t (e.1 12 t + 1)) 13 t (e.1 13 t + 1)) := by
        have e13 : mset m 12 t (e.1 12 t + 1) 13 t = e.1 13 t := by rw [ms_a (by decide)]; exact C.g3 (by decide) (by decide) t0 t1
        unfold fm_X11_countGiven
        rw [if_neg (by omega), if_pos t1, if_pos t1, gd_t ⟨t0, t1⟩, lx_p, C.g3 (by decide) (by decide) t0 t1, w32_id (by omega) (by omega), up_t, lx_p, e13, w32_id (by omega) (by omega), up_t]
      have ga : ∀ a u : Int, a ≠ 12 → a ≠ 13 → (pGiv t e).1 a u = e.1 a u := fun a u h1 h2 => by
        unfold pGiv
        rw [eS_a h2, eS_a h1]
      have g9 : (pGiv t e).1 9 2 = e.1 9 2 := ga _ _ (by decide) (by decide)
      have g7 : q < (pGiv t e).1 7 2 := by rw [ga _ _ (by decide) (by decide)]; exact w2
      have gA : hA (pGiv t e) q = hA e q := by
        unfold hA hN
        rw [ga _ _ (by omega) (by omega)]
        rfl
      have gT : hT (pGiv t e) q = hT e q := by
        unfold hT hN
        rw [ga _ _ (by omega) (by omega)]
        rfl
      have gM : pMark (pGiv t e) q = pMark e q := by
        unfold pMark
        rw [gT, ga _ _ (by omega) (by omega), ga _ _ (by omega) (by omega)]
      have gB : MkB (pGiv t e) q := by
        unfold MkB
        rw [gT, ga _ _ (by omega) (by omega), ga _ _ (by omega) (by omega)]
        exact hMk
      obtain ⟨M2, m3, ad3, k1, k2, k3, ⟨ow3, C3⟩, k5⟩ := C2.addTsk (p1 := p1) (p3 := e.1 4 14) (by rw [g9]; exact hn) q0 g7 gB
      rw [g9] at k2 k3 C3
      rw [gA, gM] at C3
      have h163 := C2.fix.1
      have e14 : mnew (mset (mset m 12 t (e.1 12 t + 1)) 13 t (e.1 13 t + 1)) 10 6 4 14 = e.1 4 14 := by
        rw [mn_o (by omega) (by decide), C2.g4 (by decide) (by decide)]
        exact ga _ _ (by decide) (by decide)
      have d7 : q < (pNew 9 (fTsk p1 q (e.1 4 14) (hA e q) (pMark e q)) (eS (pGiv t e) (7000 + q) 10 (e.1 9 2))).1 7 2 := by
        rw [pNew_a (by decide) (by rw [eS_a (by omega), g9]; omega), eS_a (by omega)]
        exact g7
      have d3 : ad3 7 q = ad 7 q := k5 7 q (Or.inl ⟨Or.inl rfl, q0, g7⟩)
      have r10 : m3 (ad 7 q) 10 = e.1 9 2 := by
        rw [← d3, C3.rf q0 d7 (by decide) (by decide), pNew_a (by omega) (by rw [eS_a (by omega), g9]; omega), eS_e]
      have r0 : m3 (ad 7 q) 0 = q := by
        rw [← d3, C3.rf q0 d7 (by decide) (by decide)]
        exact (C3.run q0 d7).2.2.2.2.1
      rw [bd_t hcg, nw_t, lx_p, e14, bd_t k1, bp_t k2, up_t, bd_t k3, lx_p, r10, lx_p, r0, w32_id (z := 100 * e.1 9 2) (by omega) (by omega), w32_id (by omega) (by omega)]
      refine ⟨m3, ad3, rfl, ⟨ow3, C3⟩, fun c' i' hv => k5 c' i' (hv.mono (by rw [ga _ _ (by decide) (by decide)]; omega) (by rw [ga _ _ (by decide) (by decide)]; omega) (by rw [ga _ _ (by decide) (by decide)]; omega) (by rw [ga _ _ (by decide) (by decide)]; omega) (fun t ht => by have := isT_b ht; rw [ga _ _ (by omega) (by omega)]; omega))⟩
  · rw [if_neg c1, if_neg c1, bx_r rfl]; exact OKc.thr C
/-- a worker's tasks are over -/
def pDieL (w : Int) : Nat → Int → Int → ES → Int × ES
  | 0, c, _, e => (c, e)
  | n + 1, c, i, e => if i < e.1 9 2 then (if e.1 (9000 + i) 0 = w ∧ e.1 (9000 + i) 5 = 0 then pDieL w n (c + 1) (i + 1) (eS e (9000 + i) 5 1) else pDieL w n c (i + 1) e) else (c, e)
def pDie2 (w : Int) : Nat → Int → ES → ES
  | 0, _, e => e
  | n + 1, i, e => if i < e.1 7 2 then pDie2 w n (i + 1) (eS e (7000 + i) 12 (if e.1 (7000 + i) 12 = w then -1 else e.1 (7000 + i) 12)) else e
def pcDie (p1 : Int) (e : ES) : (Int ⊕ Nat) × ES := if 0 ≤ p1 ∧ p1 < 3 then (.inl (pDieL p1 513 0 0 e).1, pDie2 p1 31 0 (pDieL p1 513 0 0 e).2) else rT 0 e
theorem set9_n (h : 0 ≤ i) : (eS e (9000 + i) j v).1 9 2 = e.1 9 2 ∧ (eS e (9000 + i) j v).1 7 2 = e.1 7 2 := ⟨eS_a (by omega), eS_a (by omega)⟩
theorem die_l {K : Int → MM → Option ((Int ⊕ Nat) × MM)} : ∀ (n f : Nat) (c i : Int) (m : MM) (ow : Int → Int) (e : ES), CE m ow ad e → 0 ≤ i → i ≤ e.1 9 2 → (0 ≤ c ∧ c ≤ i) → e.1 9 2 - i < n → n ≤ f → ∃ m', fl_X11_die_9 w K f c i m = K (pDieL w n c i e).1 m' ∧ CX1 m' ad (pDieL w n c i e).2 ∧ (pDieL w n c i e).2.1 7 2 = e.1 7 2 := by
  intro n
  induction n with
  | zero => intro f c i m ow e C i0 i9 hc h1 h2; omega
  | succ n ih =>
    intro f c i m ow e C i0 i9 hc h1 h2
    obtain ⟨f, rfl⟩ : ∃ g, f = g + 1 := ⟨f - 1, by omega⟩
    unfold fl_X11_die_9 pDieL
    rw [bp_t (C.size (by decide) (by decide))]
    have n9 := C.cn.2.2.1
    by_cases c1 : i < e.1 9 2
    · rw [if_pos c1, if_pos c1, bp_t (C.get (by decide) (by decide) i0 c1), gd_t (C.tsk i0 c1).1, lx_p, C.tf i0 c1 (by omega)]
      by_cases c2 : e.1 (9000 + i) 0 = w
      · rw [if_pos c2, lx_p, C.tf i0 c1 (by omega)]
        by_cases c3 : e.1 (9000 + i) 5 = 0
        · rw [if_pos c3, if_pos (show e.1 (9000 + i) 0 = w ∧ e.1 (9000 + i) 5 = 0 from ⟨c2, c3⟩), up_t, lx_p, lx_p, w32_id (z := c + 1) (by omega) (by omega), w32_id (by omega) (by omega)]
          have C1 := C.s9 (v := 1) i0 c1 (j := 5) (by omega)
          have hs := set9_n (e := e) (j := 5) (v := 1) i0
          obtain ⟨m', g1, g2, g3⟩ := ih f (c + 1) (i + 1) _ ow _ C1 (by omega) (by rw [hs.1]; omega) (by omega) (by rw [hs.1]; omega) (by omega)
          exact ⟨m', g1, g2, g3.trans hs.2⟩
        · rw [if_neg c3, if_neg (show ¬ (e.1 (9000 + i) 0 = w ∧ e.1 (9000 + i) 5 = 0) from fun h => c3 h.2), lx_p, w32_id (by omega) (by omega)]
          exact ih f c (i + 1) m ow e C (by omega) (by omega) (by omega) (by omega) (by omega)
      · rw [if_neg c2, if_neg (show ¬ (e.1 (9000 + i) 0 = w ∧ e.1 (9000 + i) 5 = 0) from fun h => c2 h.1), lx_p, w32_id (by omega) (by omega)]
        exact ih f c (i + 1) m ow e C (by omega) (by omega) (by omega) (by omega) (by omega)
    · rw [if_neg c1, if_neg c1]
      exact ⟨m, rfl, ⟨ow, C⟩, rfl⟩
theorem die2_l : ∀ (n f : Nat) (i : Int) (m : MM) (ow : Int → Int) (e : ES), CE m ow ad e → 0 ≤ i → i ≤ e.1 7 2 → e.1 7 2 - i < n → n ≤ f → ∃ m', fl_X11_die_67 w y f i m = some (.inl y, m') ∧ CX1 m' ad (pDie2 w n i e) := by
  intro n
  induction n with
  | zero => intro f i m ow e C i0 i9 h1 h2; omega
  | succ n ih =>
    intro f i m ow e C i0 i9 h1 h2
    obtain ⟨f, rfl⟩ : ∃ g, f = g + 1 := ⟨f - 1, by omega⟩
    unfold fl_X11_die_67 pDie2
    rw [bp_t (C.size (by decide) (by decide))]
    have n7 := C.cn.1
    by_cases c1 : i < e.1 7 2
    · have e12 : m (ad 7 i) 12 = e.1 (7000 + i) 12 := C.rf i0 c1 (by decide) (by decide)
      rw [if_pos c1, if_pos c1, bp_t (C.get (by decide) (by decide) i0 c1), gd_t (C.rk i0 c1), lx_p, e12]
      by_cases c2 : e.1 (7000 + i) 12 = w
      · rw [if_pos c2, if_pos c2, up_t, lx_p, w32_id (by omega) (by omega)]
        have C1 := C.s7 (v := -1) i0 c1 (j := 12) (by decide) (by decide) (fun h => by omega)
        have hs := set7_n (e := e) (j := 12) (v := -1) i0
        exact ih f (i + 1) _ ow _ C1 (by omega) (by rw [hs.2]; omega) (by rw [hs.2]; omega) (by omega)
      · rw [if_neg c2, if_neg c2, up_t, lx_p, w32_id (by omega) (by omega)]
        have C1 := C.s7 (v := e.1 (7000 + i) 12) i0 c1 (j := 12) (by decide) (by decide) (fun h => by omega)
        have hs := set7_n (e := e) (j := 12) (v := e.1 (7000 + i) 12) i0
        exact ih f (i + 1) _ ow _ C1 (by omega) (by rw [hs.2]; omega) (by rw [hs.2]; omega) (by omega)
    · rw [if_neg c1, if_neg c1]
      exact ⟨m, rfl, ow, C⟩
theorem c_die (C : CE m ow ad e) : OKc e ad (fm_X11_die p1 m) (pcDie p1 e) := by
  unfold fm_X11_die pcDie
  rw [chkWor]
  have n7 := C.cn.1
  have n9 := C.cn.2.2.1
  by_cases c1 : 0 ≤ p1 ∧ p1 < 3
  · obtain ⟨m1, g1, ⟨ow1, C1⟩, g3⟩ := die_l (ad := ad) (w := p1) (K := fun x_130 m_143 =>
fl_X11_die_67 p1 x_130  BIG 0 m_143) 513 BIG 0 0 m ow e C (by decide) (by omega) (by decide) (by omega) (Nat.le_of_lt (BIG_g (by decide)))
    obtain ⟨m2, k1, k2⟩ := die2_l (ad := ad) (w := p1) (y := (pDieL p1 513 0 0 e).1) 31 BIG 0 m1 ow1 _ C1 (by decide) (by rw [g3]; omega) (by rw [g3]; omega) (Nat.le_of_lt (BIG_g (by decide)))
    rw [if_pos c1, if_pos c1, bx_l rfl, g1, k1]
    exact OKc.rt k2 rfl
  · rw [if_neg c1, if_neg c1, bx_r rfl]; exact OKc.thr C
end POL
