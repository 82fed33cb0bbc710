/-! THE INVARIANT between the calls: all of it; what follows from it. -/
section INV
variable {e e' : ES} {S D T A B P W V Z ℓ k p q i j : Int}
/-- tasks that are over -/
def nOv (e : ES) : Int := sm (fun p => if p < e.1 9 2 ∧ e.1 (9000 + p) 5 ≠ 0 then 1 else 0) 1000
theorem sm_ltm {m : Int} (m0 : 0 ≤ m) : ∀ n : Nat, sm (fun p => if p < m then (1 : Int) else 0) n ≤ m ∧ sm (fun p => if p < m then (1 : Int) else 0) n ≤ n := by
  intro n
  induction n with
  | zero => exact ⟨m0, Int.le_refl _⟩
  | succ n ih =>
    show sm (fun p => if p < m then (1 : Int) else 0) n + (if (n : Int) < m then 1 else 0) ≤ m ∧ sm (fun p => if p < m then (1 : Int) else 0) n + (if (n : Int) < m then 1 else 0) ≤ ((n + 1 : Nat) : Int)
    split <;> omega
theorem nov_le (h : 0 ≤ e.1 9 2) : nOv e ≤ e.1 9 2 := by
  have h1 := sm_le (n := 1000) (f := fun p => if p < e.1 9 2 ∧ e.1 (9000 + p) 5 ≠ 0 then (1 : Int) else 0) (g := fun p => if p < e.1 9 2 then (1 : Int) else 0) fun i _ _ => by
    show (if i < e.1 9 2 ∧ e.1 (9000 + i) 5 ≠ 0 then (1 : Int) else 0) ≤ if i < e.1 9 2 then 1 else 0
    split
    · rw [if_pos (by rename_i c; exact c.1)]
      exact Int.le_refl _
    · split <;> decide
  exact Int.le_trans h1 (sm_ltm h 1000).1
theorem nov_mn (h9 : e.1 9 2 ≤ e'.1 9 2) (h : ∀ p : Int, 0 ≤ p → p < e.1 9 2 → e.1 (9000 + p) 5 ≠ 0 → e'.1 (9000 + p) 5 ≠ 0) : nOv e ≤ nOv e' ∧ ∀ q : Int, 0 ≤ q → q < 1000 → q < e.1 9 2 → e.1 (9000 + q) 5 = 0 → e'.1 (9000 + q) 5 ≠ 0 → nOv e + 1 ≤ nOv e' := by
  obtain ⟨h1, h2⟩ := sm_tw (f := fun p => if p < e.1 9 2 ∧ e.1 (9000 + p) 5 ≠ 0 then (1 : Int) else 0) (g := fun p => if p < e'.1 9 2 ∧ e'.1 (9000 + p) 5 ≠ 0 then (1 : Int) else 0) (fun i i0 => by
    show (if i < e.1 9 2 ∧ e.1 (9000 + i) 5 ≠ 0 then (1 : Int) else 0) ≤ if i < e'.1 9 2 ∧ e'.1 (9000 + i) 5 ≠ 0 then 1 else 0
    split
    · rename_i c
      rw [if_pos ⟨by omega, h i i0 c.1 c.2⟩]
      exact Int.le_refl _
    · split <;> decide) 1000
  refine ⟨h1, fun q q0 q1 q2 q3 q4 => ?_⟩
  have h3 : (if q < e'.1 9 2 ∧ e'.1 (9000 + q) 5 ≠ 0 then (1 : Int) else 0) - (if q < e.1 9 2 ∧ e.1 (9000 + q) 5 ≠ 0 then 1 else 0) ≤ nOv e' - nOv e := h2 q q0 (by omega)
  rw [if_pos ⟨by omega, q4⟩, if_neg (fun hh => hh.2 q3)] at h3
  omega
/-- after k calls -/
def PJ (k S D T A B P W V Z ℓ : Int) (e : ES) : Prop := HH S D T e ∧ GLo k e ∧ SmA T e ∧ LG 400000 1000 ℓ S D T A B P W V e ∧ LWB 400000 1000 e ∧ PO S D Z e ∧ ((0 ≤ e.1 4 14 ∧ e.1 4 14 ≤ 100 * k) ∧ e.1 4 12 ≤ 100 * k) ∧ (∀ c : Int, 48000 ≤ c → c < 62000 → ((eL e c).length : Int) ≤ ℓ) ∧ (S + D + e.1 9 2 + 2 * T + B + Z + ℓ ≤ k + (if e.1 4 17 = 0 then 1 else 0) ∧ D ≤ nOv e) ∧ (0 ≤ Z ∧ 0 ≤ ℓ ∧ ℓ ≤ 24) ∧ (e.1 4 17 = 0 → 1 ≤ T)
def PIv (k : Int) (e : ES) : Prop := ∃ S D T A B P W V Z ℓ : Int, PJ k S D T A B P W V Z ℓ e
theorem PJ.n (h : PJ k S D T A B P W V Z ℓ e) (hk : k ≤ 512) : (S + 2 * D + 2 * T + B + Z + ℓ ≤ 513 ∧ 0 ≤ S ∧ 0 ≤ D ∧ 0 ≤ T ∧ 0 ≤ B) ∧ (0 ≤ e.1 9 2 ∧ e.1 9 2 ≤ k) := by
  obtain ⟨hH, -, -, hL, -, -, -, -, ⟨h1, h2⟩, ⟨h3, h4, h5⟩, h6⟩ := h
  have n9 := hH.cn.2.2.1
  have h7 := nov_le (e := e) n9.1
  obtain ⟨⟨⟨b0, -⟩, s0, d0, t0⟩, -⟩ := hL
  by_cases c : e.1 4 17 = 0
  · rw [if_pos c] at h1
    have := h6 c
    exact ⟨⟨by omega, s0, d0, t0, b0⟩, n9.1, by omega⟩
  · rw [if_neg c] at h1
    exact ⟨⟨by omega, s0, d0, t0, b0⟩, n9.1, by omega⟩
theorem PJ.ht (h : PJ k S D T A B P W V Z ℓ e) (hk : k ≤ 512) : 0 ≤ e.1 4 14 ∧ e.1 4 14 + 100 < 1000000 := by
  have := h.2.2.2.2.2.2.1
  omega
theorem PJ.bdl (h : PJ k S D T A B P W V Z ℓ e) (hk : k ≤ 512) : BDl e := bdl_of h.2.2.2.2.1 h.1 (by have := (h.n hk).1; have := h.2.2.2.2.2.2.2.2.2.1; omega) (by have := h.ht hk; omega)
theorem PJ.rlw (h : PJ k S D T A B P W V Z ℓ e) (hk : k ≤ 512) : RLw e := rlw_of h.2.2.2.2.1 h.1 (by have := h.ht hk; omega)
theorem PJ.bds (h : PJ k S D T A B P W V Z ℓ e) (hk : k ≤ 512) : BDs e := by
  have h1 := (h.n hk).1
  obtain ⟨-, -, g1, g2, g3, -⟩ := h.2.2.2.1.num h.1.1.1 (by have := h.2.2.2.2.2.2.2.2.2.1; omega)
  exact ⟨by omega, by omega, by omega⟩
theorem PJ.bdf (h : PJ k S D T A B P W V Z ℓ e) (hk : k ≤ 512) : BDf e := (h.bds hk).toF
theorem PJ.bd (h : PJ k S D T A B P W V Z ℓ e) (hk : k ≤ 512) : BD e := (h.bdl hk).bs (h.bds hk)
theorem PJ.rfw (h : PJ k S D T A B P W V Z ℓ e) (hk : k ≤ 512) : RFw e := by
  have h1 := (h.n hk).1
  have h2 := h.2.2.2.2.2.2.2.2.2.1
  obtain ⟨-, -, -, -, -, g1⟩ := h.2.2.2.1.num h.1.1.1 (by omega)
  have g2 := h.2.2.2.1.own h.1.1.1 h2.1 (by omega)
  have g3 := h.2.2.2.2.2.1.gs
  exact ⟨by omega, by omega, h.1.cn.1.2, fun i i0 i1 => by have := h.1.len i0 i1; omega⟩
theorem PJ.tg (h : PJ k S D T A B P W V Z ℓ e) (hk : k ≤ 512) : e.1 4 11 < 1048576 := by
  have h1 := (h.n hk).1
  have h2 := h.2.2.2.2.2.2.2.2.2.1
  exact h.2.2.2.1.tags h.1.cn.1.2 h2.2.1 h2.2.2 (by omega)
theorem PJ.glo (h : PJ k S D T A B P W V Z ℓ e) (hk : k ≤ 512) : WGlo e := h.2.1.wglo h.1 (by omega) (by have := h.tg hk; omega)
theorem PJ.wts (h : PJ k S D T A B P W V Z ℓ e) : ∀ i : Int, 0 ≤ i → i < e.1 9 2 → WTsk e i := h.2.1.2.2.2.2.2.2.1
theorem PJ.wsc (h : PJ k S D T A B P W V Z ℓ e) : ∀ i : Int, 0 ≤ i → i < e.1 10 2 → WSch e i := h.2.1.2.2.2.2.2.2.2
theorem PJ.wx (h : PJ k S D T A B P W V Z ℓ e) (hk : k ≤ 512) : WX e := h.1.wx (h.glo hk) h.wts h.wsc
theorem PJ.wb (h : PJ k S D T A B P W V Z ℓ e) (hk : k ≤ 512) : WB e := ⟨h.bd hk, h.wx hk⟩
theorem PJ.pw (h : PJ k S D T A B P W V Z ℓ e) (hk : k ≤ 512) : PW e := h.1.pw (h.glo hk) h.wsc
/-- a plain call -/
theorem PJ.plain (h : PJ k S D T A B P W V Z ℓ e) (hH' : HH S D T e') (gl : GLo (k + 1) e') (ml : SmA T e') (q : Q7 e e') (w : WL e e') (t : TV e e') : PJ (k + 1) S D T A B P W V Z ℓ e' := by
  obtain ⟨h1, h2, h3, h4, h5, h6, ⟨h7, h8⟩, h9, ⟨h10, h11⟩, h12, h13⟩ := h
  obtain ⟨t1, t2, t3, t4, t5, t6⟩ := t
  have hn := (nov_mn (by rw [t4.1]; exact Int.le_refl _) t4.2).1
  refine ⟨hH', gl, ml, h4.plain q w, h5.plain q w, h6.plain w.1 t2 (Int.le_refl _) h1 hH', ⟨by rw [t1]; omega, by rw [t6]; omega⟩, fun c c0 c1 => ?_, ⟨by rw [t4.1, t5]; omega, by omega⟩, h12, by rw [t5]; exact h13⟩
  have := t3 c c0 c1
  have := h9 c c0 c1
  omega
/-- nothing changes but what nobody looks at: something is thrown, or nothing -/
theorem PJ.up (h : PJ k S D T A B P W V Z ℓ e) : PJ (k + 1) S D T A B P W V Z ℓ e := by
  obtain ⟨h1, h2, h3, h4, h5, h6, ⟨h7, h8⟩, h9, ⟨h10, h11⟩, h12, h13⟩ := h
  exact ⟨h1, h2.mono (by omega), h3, h4, h5, h6, ⟨by omega, by omega⟩, h9, ⟨by omega, h11⟩, h12, h13⟩
theorem PJ.thr (h : PJ k S D T A B P W V Z ℓ e) (hH' : HH S D T (pThr e)) (ml : SmA T (pThr e)) : PJ (k + 1) S D T A B P W V Z ℓ (pThr e) := h.plain hH' ((h.2.1.thr h.1.cn).mono (by omega)) ml (q7_thr h.1.cn) (wg_thr h.1.cn) (tv_thr h.1.cn)
theorem pi00 : PIv 0 e00 := ⟨0, 0, 0, 0, 0, 0, 0, 0, 0, 0, hh00, gl00, ml00, lg00, lwb00, po00, ⟨⟨by decide, by decide⟩, by decide⟩, fun c _ _ => by show (([] : List Int).length : Int) ≤ 0; decide, ⟨by decide, by
  have h9 : e00.1 9 2 = 0 := by decide
  have : nOv e00 = 0 := sm_z (fun i i0 => if_neg (by omega)) 1000
  omega⟩, ⟨by decide, by decide, by decide⟩, fun hh => absurd hh (by decide)⟩
end INV
