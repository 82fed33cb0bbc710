/-! THE REFERENCE'S ENGINE: closing a run, its frames; the parent is told. -/
section RXK1
variable {m m' M : MM} {e e' e2 : ES} {a b c i j k o r v w p t s x y n ev due q A B st res tel dep d : Int} {l : List Int} {f g : Int → Int}
/-- how many runs are open -/
def opn (e : ES) : Int := sm (fun i => if i < e.1 7 2 ∧ e.1 (7000 + i) 6 = 0 then 1 else 0) 30
theorem sm_lt (r0 : 0 ≤ r) : ∀ {n : Nat}, r < (n : Int) → (∀ i : Int, 0 ≤ i → i < (n : Int) → f i ≤ g i) → f r < g r → sm f n < sm g n := by
  intro n
  induction n with
  | zero => intro _ _ _; omega
  | succ n ih =>
    intro r1 h h2
    unfold sm
    by_cases c : (n : Int) = r
    · have h1 := sm_le (n := n) (f := f) (g := g) fun i i0 i1 => h i i0 (by omega)
      rw [c]
      omega
    · have h1 := ih (by omega) (fun i i0 i1 => h i i0 (by omega)) h2
      have h3 := h n (by omega) (by omega)
      omega
theorem opn_b (hc : CN e) : 0 ≤ opn e ∧ opn e ≤ 30 := by
  have h1 := sm_le (n := 30) (f := fun _ => 0) (g := fun i => if i < e.1 7 2 ∧ e.1 (7000 + i) 6 = 0 then 1 else 0) fun i _ _ => by
    show (0 : Int) ≤ _
    split <;> decide
  have h2 := sm_le (n := 30) (f := fun i => if i < e.1 7 2 ∧ e.1 (7000 + i) 6 = 0 then 1 else 0) (g := fun _ => 1) fun i _ _ => by
    show _ ≤ (1 : Int)
    split <;> decide
  exact ⟨h1, h2⟩
/-- what closing leaves -/
def CS (e e' : ES) : Prop := (MR e e' ∧ CN e') ∧ (e'.1 7 2 = e.1 7 2 ∧ ∀ t : Int, 48 ≤ t → t ≤ 61 → e'.1 t 2 = e.1 t 2) ∧ ∀ j : Int, 0 ≤ j → j < e.1 7 2 → (e.1 (7000 + j) 6 ≠ 0 → e'.1 (7000 + j) 6 = e.1 (7000 + j) 6) ∧ e'.1 (7000 + j) 1 = e.1 (7000 + j) 1 ∧ e'.1 (7000 + j) 4 = e.1 (7000 + j) 4 ∧ e'.1 (7000 + j) 5 = e.1 (7000 + j) 5
theorem CS.rf (hc : CN e) : CS e e := ⟨⟨MR.rf, hc⟩, ⟨rfl, fun _ _ _ => rfl⟩, fun _ _ _ => ⟨fun _ => rfl, rfl, rfl, rfl⟩⟩
theorem CS.tr (h : CS e e') (g : CS e' e2) : CS e e2 := ⟨⟨h.1.1.tr g.1.1, g.1.2⟩, ⟨g.2.1.1.trans h.2.1.1, fun t t0 t1 => (g.2.1.2 t t0 t1).trans (h.2.1.2 t t0 t1)⟩, fun j j0 j1 => by
  obtain ⟨a1, a2, a3, a4⟩ := h.2.2 j j0 j1
  obtain ⟨b1, b2, b3, b4⟩ := g.2.2 j j0 (by rw [h.2.1.1]; exact j1)
  exact ⟨fun hh => by rw [b1 (by rw [a1 hh]; exact hh), a1 hh], b2.trans a2, b3.trans a3, b4.trans a4⟩⟩
theorem CS.op (h : CS e e') : opn e' ≤ opn e := sm_le fun i i0 i1 => by
  show (if i < e'.1 7 2 ∧ e'.1 (7000 + i) 6 = 0 then 1 else 0) ≤ if i < e.1 7 2 ∧ e.1 (7000 + i) 6 = 0 then (1 : Int) else 0
  rw [h.2.1.1]
  by_cases c : i < e.1 7 2
  · by_cases c2 : e.1 (7000 + i) 6 = 0
    · rw [if_pos (show i < e.1 7 2 ∧ e.1 (7000 + i) 6 = 0 from ⟨c, c2⟩)]
      split <;> decide
    · rw [if_neg (show ¬ (i < e.1 7 2 ∧ e.1 (7000 + i) 6 = 0) from fun hh => c2 hh.2), if_neg (show ¬ (i < e.1 7 2 ∧ e'.1 (7000 + i) 6 = 0) from fun hh => c2 (by rw [← (h.2.2 i i0 c).1 c2]; exact hh.2))]
      exact Int.le_refl _
  · rw [if_neg (show ¬ (i < e.1 7 2 ∧ e.1 (7000 + i) 6 = 0) from fun hh => c hh.1), if_neg (show ¬ (i < e.1 7 2 ∧ e'.1 (7000 + i) 6 = 0) from fun hh => c hh.1)]
    exact Int.le_refl _
theorem CS.ty (h : CS e e') (hT : TyO e) : TyO e' := fun i i0 i1 => by
  rw [h.2.1.1] at i1
  obtain ⟨-, a2, -, a4⟩ := h.2.2 i i0 i1
  rw [a2, a4]
  exact hT i i0 i1
/-- parents are runs -/
def PaR (e : ES) : Prop := ∀ i : Int, 0 ≤ i → i < e.1 7 2 → -1 ≤ e.1 (7000 + i) 4 ∧ e.1 (7000 + i) 4 < e.1 7 2
theorem CS.pr (h : CS e e') (hP : PaR e) : PaR e' := fun i i0 i1 => by
  rw [h.2.1.1] at i1 ⊢
  rw [(h.2.2 i i0 i1).2.2.1]
  exact hP i i0 i1
theorem cs_arr (hc : CN e) (r0 : 0 ≤ r) (r1 : r < e.1 7 2) : CS e (pArr r k x y e) := by
  have n7 := hc.1
  have pa : ∀ a u : Int, a ≠ 68 → a ≠ 3 → a ≠ 76000 + r → a ≠ 71000 + r → a ≠ 4 → (pArr r k x y e).1 a u = e.1 a u := fun a u h1 h2 h3 h4 h5 => arr_a h1 h2 h3 h4 (Or.inl h5)
  exact ⟨⟨mr_arr hc r0 r1, hc.arr r0⟩, ⟨pa _ _ (by omega) (by omega) (by omega) (by omega) (by omega), fun t t0 t1 => pa _ _ (by omega) (by omega) (by omega) (by omega) (by omega)⟩, fun j j0 j1 => ⟨fun _ => pa _ _ (by omega) (by omega) (by omega) (by omega) (by omega), pa _ _ (by omega) (by omega) (by omega) (by omega) (by omega), pa _ _ (by omega) (by omega) (by omega) (by omega) (by omega), pa _ _ (by omega) (by omega) (by omega) (by omega) (by omega)⟩⟩
theorem cs_can (hc : CN e) (r0 : 0 ≤ r) (r1 : r < e.1 7 2) : CS e (pCan r e).2 := by
  unfold pCan
  split
  · exact CS.rf hc
  · exact cs_arr hc r0 r1
theorem cs_end (hc : CN e) : CS e (pEnd r e) := by
  have n7 := hc.1
  have n8 := hc.2.1
  have pa : ∀ a u : Int, a < 8000 → (pEnd r e).1 a u = e.1 a u := fun a u h => end_a (Or.inl h)
  exact ⟨⟨mr_end hc, hc.endw⟩, ⟨pa _ _ (by omega), fun t t0 t1 => pa _ _ (by omega)⟩, fun j j0 j1 => ⟨fun _ => pa _ _ (by omega), pa _ _ (by omega), pa _ _ (by omega), pa _ _ (by omega)⟩⟩
theorem cs_st (hc : CN e) (r0 : 0 ≤ r) (r1 : r < e.1 7 2) (h0 : e.1 (7000 + r) 6 = 0) : CS e (eS e (7000 + r) 6 v) := by
  have n7 := hc.1
  have pa : ∀ a u : Int, a ≠ 7000 + r ∨ u ≠ 6 → (eS e (7000 + r) 6 v).1 a u = e.1 a u := fun a u h => by
    by_cases c : a = 7000 + r
    · rw [c]; exact eS_j (by omega)
    · exact eS_a c
  refine ⟨⟨mr_eS (by omega) (by omega) (by omega) (by omega) (by omega), cn_eS hc (by omega)⟩, ⟨pa _ _ (by omega), fun t t0 t1 => pa _ _ (by omega)⟩, fun j j0 j1 => ⟨fun hh => ?_, pa _ _ (by omega), pa _ _ (by omega), pa _ _ (by omega)⟩⟩
  by_cases c : j = r
  · rw [c] at hh
    exact absurd h0 hh
  · exact pa _ _ (by omega)
theorem cs_up (hc : CN e) : CS e (pUp r st res e) := by
  unfold pUp
  by_cases c : (0 ≤ e.1 (7000 + r) 4 ∧ e.1 (7000 + r) 4 < e.1 7 2) ∧ (e.1 (7000 + e.1 (7000 + r) 4) 6 = 0 ∨ e.1 (7000 + e.1 (7000 + r) 4) 6 = 6)
  · rw [if_pos c]
    split
    · exact cs_arr hc c.1.1 c.1.2
    · exact cs_arr hc c.1.1 c.1.2
  · rw [if_neg c]
    exact CS.rf hc
theorem cs_deal {rec : Int → Int → ES → ES} (hrec : ∀ (i d : Int) (e : ES), 0 ≤ i → i < e.1 7 2 → CN e → e.1 (7000 + i) 6 = 0 → CS e (rec i d e)) : ∀ (n : Nat) (i : Int) (e : ES), 0 ≤ i → CN e → CS e (pDealL rec r dep n i e) := by
  intro n
  induction n with
  | zero => intro i e _ hc; exact CS.rf hc
  | succ n ih =>
    intro i e i0 hc
    unfold pDealL
    by_cases c : i < e.1 7 2
    · rw [if_pos c]
      have s1 : CS e (if e.1 (7000 + i) 4 = r ∧ e.1 (7000 + i) 6 = 0 then (if e.1 (48 + 4 * e.1 (7000 + i) 1) 2 = 1 then (pCan i e).2 else if e.1 (48 + 4 * e.1 (7000 + i) 1) 2 = 2 ∧ dep < 40 then rec i (dep + 1) e else e) else e) := by
        by_cases c2 : e.1 (7000 + i) 4 = r ∧ e.1 (7000 + i) 6 = 0
        · rw [if_pos c2]
          split
          · exact cs_can hc i0 c
          · split
            · exact hrec i (dep + 1) e i0 c hc c2.2
            · exact CS.rf hc
        · rw [if_neg c2]
          exact CS.rf hc
      exact s1.tr (ih (i + 1) _ (by omega) s1.1.2)
    · rw [if_neg c]
      exact CS.rf hc
theorem cs_close : ∀ (n : Nat) (r st res dep : Int) (e : ES), 0 ≤ r → r < e.1 7 2 → CN e → e.1 (7000 + r) 6 = 0 → CS e (pClose n r st res dep e) := by
  intro n
  induction n with
  | zero => intro r st res dep e _ _ hc _; exact CS.rf hc
  | succ n ih =>
    intro r st res dep e r0 r1 hc h0
    unfold pClose
    have s1 : CS e (eS e (7000 + r) 6 st) := cs_st hc r0 r1 h0
    have s2 := s1.tr (cs_end (r := r) s1.1.2)
    have s3 := s2.tr (cs_deal (r := r) (dep := dep) (rec := fun i d e => pClose n i 5 0 d e) (fun i d e i0 i1 hc h0 => ih i 5 0 d e i0 i1 hc h0) 31 0 _ (by decide) s2.1.2)
    exact s3.tr (cs_up s3.1.2)
/-- the parent is told -/
theorem RXE.up (h : RXE m e) (hc : CN e) (hl : RLw e) (hf : RFw (pUp r st res e)) (hT : TyO e) (hP : PaR e) (r0 : 0 ≤ r) (r1 : r < e.1 7 2) (hst : st = 1 ↔ e.1 (7000 + r) 6 = 1) (hres : st = 1 → 0 ≤ res ∧ res < 1000) : ∃ m', fm_X12_tellsParent r res m = some (0, m') ∧ RXE m' (pUp r st res e) ∧ SCR m m' := by
  have n7 := hc.1
  obtain ⟨⟨a1, a2, a3, a4, a5, a6⟩, -⟩ := h.pr.1 r r0 r1
  have p1 := hP r r0 r1
  have t1 := (hT r r0 r1).2
  unfold fm_X12_tellsParent
  unfold pUp at hf ⊢
  rw [gd_t (by omega), lx_p, a5]
  by_cases c : e.1 (7000 + r) 4 = -1
  · rw [if_pos c, if_neg (show ¬ ((0 ≤ e.1 (7000 + r) 4 ∧ e.1 (7000 + r) 4 < e.1 7 2) ∧ (e.1 (7000 + e.1 (7000 + r) 4) 6 = 0 ∨ e.1 (7000 + e.1 (7000 + r) 4) 6 = 6)) by omega)]
    exact ⟨m, rfl, h, SCR.rf⟩
  · rw [if_neg c, bp_t (rAlive h hc (by omega) p1.2)]
    by_cases c2 : e.1 (7000 + e.1 (7000 + r) 4) 6 = 0 ∨ e.1 (7000 + e.1 (7000 + r) 4) 6 = 6
    · rw [if_pos (show (0 ≤ e.1 (7000 + r) 4 ∧ e.1 (7000 + r) 4 < e.1 7 2) ∧ (e.1 (7000 + e.1 (7000 + r) 4) 6 = 0 ∨ e.1 (7000 + e.1 (7000 + r) 4) 6 = 6) from ⟨⟨by omega, p1.2⟩, c2⟩)] at hf
      rw [if_pos c2, if_neg (show ¬ (1 : Int) = 0 by decide), if_pos (show (0 ≤ e.1 (7000 + r) 4 ∧ e.1 (7000 + r) 4 < e.1 7 2) ∧ (e.1 (7000 + e.1 (7000 + r) 4) 6 = 0 ∨ e.1 (7000 + e.1 (7000 + r) 4) 6 = 6) from ⟨⟨by omega, p1.2⟩, c2⟩), lx_p, a4]
      by_cases c3 : st = 1
      · rw [if_pos c3] at hf
        rw [if_pos (hst.mp c3), if_pos c3]
        have hr := hres c3
        obtain ⟨m', g1, g2, g3⟩ := h.arr2 hc hl hf (by omega) p1.2 (nDead c2) (by decide) (by decide) t1.1 t1.2 hr.1 (by omega)
        unfold fj_X12_tellsParent_38 fj_X12_tellsParent_59
        rw [gd_t (by omega), lx_p, a6 c, lx_p, a4, if_pos (hst.mp c3), bd_t g1]
        exact ⟨m', rfl, g2, g3⟩
      · rw [if_neg c3] at hf
        have c4 : ¬ e.1 (7000 + r) 6 = 1 := fun hh => c3 (hst.mpr hh)
        rw [if_neg c4, if_neg c3]
        obtain ⟨m', g1, g2, g3⟩ := h.arr2 hc hl hf (by omega) p1.2 (nDead c2) (by decide) (by decide) t1.1 t1.2 (by decide) (by decide)
        unfold fj_X12_tellsParent_38 fj_X12_tellsParent_59
        rw [gd_t (by omega), lx_p, a6 c, lx_p, a4, if_neg c4, bd_t g1]
        exact ⟨m', rfl, g2, g3⟩
    · rw [if_neg c2, if_pos (show (0 : Int) = 0 from rfl), if_neg (fun hh => c2 hh.2)]
      exact ⟨m, rfl, h, SCR.rf⟩
/-- as SCR, where the stack of closing may change -/
def SC2 (m m' : MM) : Prop := (∀ a j : Int, a ≠ 68 → a = 97 ∨ (141 < a ∧ a < 160) ∨ 161 < a ∨ a < 68 → m' a j = m a j) ∧ ∀ j : Int, 84 < j → m' 68 j = m 68 j
theorem SCR.s2 (h : SCR m m') : SC2 m m' := ⟨fun a j g1 g2 => h.1 a j g1 (by omega), h.2⟩
theorem SC2.rf : SC2 m m := ⟨fun _ _ _ _ => rfl, fun _ _ => rfl⟩
theorem SC2.tr (h : SC2 m m') (g : SC2 m' M) : SC2 m M := ⟨fun a j h1 h2 => (g.1 a j h1 h2).trans (h.1 a j h1 h2), fun j h1 => (g.2 j h1).trans (h.2 j h1)⟩
theorem SC2.ms (h : a = 160 ∨ a = 161) : SC2 m (mset m a j v) := ⟨fun b i g1 g2 => ms_a (by omega), fun i g1 => ms_a (by omega)⟩
theorem RXE.stk (h : RXE m e) (hc : CN e) (ha : a = 160 ∨ a = 161) : RXE (mset m a j v) e := h.fr hc (fun b i g1 g2 g3 g4 => ms_a (by omega)) (fun _ _ _ => rfl) ⟨rfl, rfl⟩
/-- its parent is told, and the frame is left -/
noncomputable def xPop (f : Nat) (tel res d r : Int) (m : MM) : Option (Int × MM) := if 0 < d then fj_X12_closes_111 (fl_X12_closes_22 tel res f) tel res d r m else if tel = 0 then lx (w32 (d + (-1))) fun x_311 => fl_X12_closes_22 tel res f x_311 m else fj_X12_closes_111 (fl_X12_closes_22 tel res f) tel res d r m
noncomputable def xKont (f : Nat) (tel res d r : Int) (m : MM) : Int → Option (Int × MM) := fun x_132 =>
up m 161 d (w32 (x_132 + 1)) fun m_161 =>
lx (m_161 68 12) fun x_171 =>
if x_132 < x_171 then
gd (0 ≤ x_132 ∧ x_132 < 30) <| lx (m_161 80 x_132) fun x_184 =>
gd (0 ≤ x_184 ∧ x_184 < 4) <| lx (m_161 79 x_184) fun x_190 =>
if x_190 = 1 then
bd (fm_X12_cancels x_132 m_161) fun x_270 m_271 =>
fl_X12_closes_22 tel res f d m_271
else
if x_190 = 2 then
up m_161 83 x_132 5 fun m_215 =>
bd (fm_X12_stops x_132 m_215) fun x_223 m_224 =>
lx (w32 (d + 1)) fun x_239 =>
gd (0 ≤ x_239 ∧ x_239 < 31) <| up m_224 160 x_239 x_132 fun m_250 =>
up m_250 161 x_239 0 fun m_262 =>
fl_X12_closes_22 tel res f x_239 m_262
else
fl_X12_closes_22 tel res f d m_161
else
xPop f tel res d r m_161
theorem L22 (d0 : 0 ≤ d) (d1 : d < 31) {f : Nat} : fl_X12_closes_22 tel res (f + 1) d m = fl_X12_closes_45 tel res d (m 160 d) m (xKont f tel res d (m 160 d) m) BIG (m 161 d) := by
  unfold fl_X12_closes_22
  rw [if_neg (by omega), gd_t ⟨d0, d1⟩, lx_p, lx_p]
  rfl
end RXK1
