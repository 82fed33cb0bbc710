/-! THE REFERENCE'S ENGINE: an event is put: the plain state's put. -/
section RXQ2
variable {m m' M : MM} {e e' : ES} {a b c i j k o r v w p t s x y n A B q G : Int} {l : List Int} {f g : Int → Int}
theorem sm_to : ∀ {n : Nat}, (∀ i : Int, 0 ≤ i → i < (n : Int) → f i = g i) → sm f n = sm g n := by
  intro n
  induction n with
  | zero => intro _; rfl
  | succ n ih =>
    intro h
    unfold sm
    rw [ih fun i i0 i1 => h i i0 (by omega), h n (by omega) (by omega)]
theorem sm_up : ∀ {n : Nat}, 0 ≤ r → r < (n : Int) → sm (fun i => if i = r then v else f i) n = sm f n + v - f r := by
  intro n
  induction n with
  | zero => intro _ _; omega
  | succ n ih =>
    intro r0 r1
    unfold sm
    by_cases c : (n : Int) = r
    · have : sm (fun i => if i = r then v else f i) n = sm f n := sm_to fun i i0 i1 => if_neg (by omega)
      rw [this, if_pos c, c]
      omega
    · rw [ih r0 (by omega), if_neg c]
      omega
theorem sm_256 : ∀ {n : Nat}, (∀ i : Int, 0 ≤ i → i < (n : Int) → 0 ≤ f i) → 256 * sm (fun i => (f i + 255) / 256) n ≤ sm f n + 255 * n ∧ 0 ≤ sm (fun i => (f i + 255) / 256) n := by
  intro n
  induction n with
  | zero => intro _; exact ⟨by simp [sm], by simp [sm]⟩
  | succ n ih =>
    intro h
    obtain ⟨h1, h2⟩ := ih fun i i0 i1 => h i i0 (by omega)
    have h3 := h n (by omega) (by omega)
    unfold sm
    refine ⟨?_, ?_⟩ <;> push_cast <;> omega
theorem sm_le : ∀ {n : Nat}, (∀ i : Int, 0 ≤ i → i < (n : Int) → f i ≤ g i) → sm f n ≤ sm g n := by
  intro n
  induction n with
  | zero => intro _; exact Int.le_refl _
  | succ n ih =>
    intro h
    have h1 := ih fun i i0 i1 => h i i0 (by omega)
    have h2 := h n (by omega) (by omega)
    unfold sm
    omega
theorem put_G (i0 : 0 ≤ r) : (pPut r k x y t o e).1 (76000 + r) i = if i = hN e r then (if k ≤ 7 then 1000 * (pOrd r k e).1 68 29 + t % 1000 else t) else e.1 (76000 + r) i := by
  have eR : (pPut r k x y t o e).1 (76000 + r) i = (eS (eS (pOrd r k e) (76000 + r) ((pOrd r k e).1 (71000 + r) 1) (if k ≤ 7 then 1000 * (pOrd r k e).1 68 29 + t % 1000 else t)) (71000 + r) 1 ((pOrd r k e).1 (71000 + r) 1 + 1)).1 (76000 + r) i := rfl
  rw [eR, eS_a (by omega), ord_7 (by omega) (by omega), eS_i]
  by_cases c : i = hN e r
  · rw [if_pos c, if_pos (show i = e.1 (71000 + r) 1 from c)]
  · rw [if_neg c, if_neg (show ¬ i = e.1 (71000 + r) 1 from c), ord_7 (by omega) (by omega)]
theorem put_Ga (h : j ≠ r) (j0 : 0 ≤ j) (j1 : j < 1000) (i0 : 0 ≤ r) (i1 : r < 1000) : (pPut r k x y t o e).1 (76000 + j) i = e.1 (76000 + j) i := put_a (by omega) (by omega) (by omega) (by omega)
theorem ord_29 (r0 : 0 ≤ r) : (pOrd r k e).1 68 29 = (if k ≤ 7 then (if e.1 68 30 = r then e.1 68 29 else e.1 68 29 + 1) else e.1 68 29) ∧ (pOrd r k e).1 68 30 = if k ≤ 7 then r else e.1 68 30 := by
  have hg : ∀ (j : Int) (e : ES), j < 1000 → (pGh r e).1 68 j = e.1 68 j := fun j e hj => by
    unfold pGh
    rw [eS_j (by omega), eS_j (by omega), eS_j (by omega), eS_j (by omega)]
  unfold pOrd
  rw [hg _ _ (by decide), hg _ _ (by decide)]
  unfold pOrd0
  rw [eS_a (by decide), eS_a (by decide)]
  by_cases c : k ≤ 7
  · rw [if_pos c, if_pos c, if_pos c, eS_j (by decide), eS_e, eS_e]
    exact ⟨rfl, rfl⟩
  · rw [if_neg c, if_neg c, if_neg c]
    exact ⟨rfl, rfl⟩
theorem put_68 (h : 0 ≤ r) : (pPut r k x y t o e).1 68 j = (pOrd r k e).1 68 j := by
  have eR : (pPut r k x y t o e).1 68 j = (eS (eS (pOrd r k e) (76000 + r) ((pOrd r k e).1 (71000 + r) 1) (if k ≤ 7 then 1000 * (pOrd r k e).1 68 29 + t % 1000 else t)) (71000 + r) 1 ((pOrd r k e).1 (71000 + r) 1 + 1)).1 68 j := rfl
  rw [eR, eS_a (by omega), eS_a (by omega)]
theorem put_ct (k0 : 0 ≤ k) (x0 : 0 ≤ x) (r0 : 0 ≤ r) (r1 : r < 1000) (hn : 0 ≤ hN e r) : hA (pPut r k x y t o e) r = (if k ≤ 7 then hA e r + 1 else hA e r) ∧ hT (pPut r k x y t o e) r = (if k = 17 then hT e r + 1 else hT e r) ∧ hC (pPut r k x y t o e) r = if k = 17 then x else hC e r := by
  obtain ⟨p1, p2⟩ := put_hN (i := r) (j := r) (k := k) (p := x) (q := y) (t := t) (o := o) (e := e) r0 r0 r1
  rw [if_pos rfl] at p1 p2
  have hd : ∀ i : Int, 0 ≤ i → i < ((hN e r).toNat : Int) → Ev1 (eH e r) (hN e r) (evP k x y t o) i = eH e r i := fun i i0 i1 => if_neg (by omega)
  obtain ⟨d1, d2, d3⟩ := cc_to (hN e r).toNat hd
  have eN : Ev1 (eH e r) (hN e r) (evP k x y t o) (((hN e r).toNat : Nat) : Int) = evP k x y t o := if_pos (by omega)
  have eN1 : (hN e r + 1).toNat = (hN e r).toNat + 1 := by omega
  have ekk : ek (evP k x y t o) = k := by show ((k.toNat : Nat) : Int) = k; omega
  have exx : ex (evP k x y t o) = x := by show ((x.toNat : Nat) : Int) = x; omega
  unfold hA hT hC
  rw [p1, p2, eN1]
  refine ⟨?_, ?_, ?_⟩
  · rw [show ∀ (E : Int → Ev) (n : Nat), cA E (n + 1) = if ek (E n) ≤ 7 then cA E n + 1 else cA E n from fun _ _ => rfl, eN, ekk, d1]
  · rw [show ∀ (E : Int → Ev) (n : Nat), cT E (n + 1) = if ek (E n) = 17 then cT E n + 1 else cT E n from fun _ _ => rfl, eN, ekk, d2]
  · rw [show ∀ (E : Int → Ev) (n : Nat), cC E (n + 1) = if ek (E n) = 17 then ex (E n) else cC E n from fun _ _ => rfl, eN, ekk, exx, d3]
/-- what a put of the reference changes: told apart from how -/
def xPut (m m' : MM) (r k x y s A G : Int) : Prop := (∀ a j : Int, a ≠ 68 → a ≠ 86 → a ≠ 89 → a ≠ 90 → a ≠ 91 → a ≠ 95 → a ≠ 96 → m' a j = m a j) ∧ (∀ j : Int, j ≠ 29 → j ≠ 30 → j ≠ 32 → m' 68 j = m 68 j) ∧ (m' 68 29 = (if k ≤ 7 then (if m 68 30 = r then m 68 29 else m 68 29 + 1) else m 68 29) ∧ m' 68 30 = if k ≤ 7 then r else m 68 30) ∧ (m' 68 32 = (if m 96 s = 0 then m 68 32 + 1 else m 68 32) ∧ ∀ j : Int, m' 96 j = if m 96 s = 0 ∧ j = s then m 68 32 + 1 else m 96 j) ∧ (∀ j : Int, m' 95 j = if j = A then (rpk k.toNat x.toNat y.toNat G.toNat : Int) else m 95 j) ∧ (∀ j : Int, m' 86 j = if j = r then m 86 r + 1 else m 86 j) ∧ (∀ j : Int, m' 89 j = if j = r then (if k ≤ 7 then m 89 r + 1 else m 89 r) else m 89 j) ∧ (∀ j : Int, m' 90 j = if j = r then (if k = 17 then m 90 r + 1 else m 90 r) else m 90 j) ∧ ∀ j : Int, m' 91 j = if j = r then (if k = 17 then x else m 91 r) else m 91 j
theorem xPut_e : xPut m (xM3 (xM2 (xM1 m s) r k) r k x y G A) r k x y s A G := by
  have f1 : ∀ a j : Int, a ≠ 96 → (a ≠ 68 ∨ j ≠ 32) → xM1 m s a j = m a j := fun a j h1 h2 => by
    unfold xM1
    split
    · rw [ms_a h1]
      rcases h2 with h2 | h2
      · exact ms_a h2
      · by_cases c : a = 68
        · rw [c]; exact ms_j h2
        · exact ms_a c
    · rfl
  have f2 : ∀ a j : Int, (a ≠ 68 ∨ (j ≠ 29 ∧ j ≠ 30)) → xM2 (xM1 m s) r k a j = xM1 m s a j := fun a j h2 => by
    unfold xM2
    split
    · rcases h2 with h2 | h2
      · rw [ms_a h2, ms_a h2]
      · by_cases c : a = 68
        · rw [c, ms_j h2.2, ms_j h2.1]
        · rw [ms_a c, ms_a c]
    · rfl
  have f3 : ∀ a j : Int, a ≠ 86 → a ≠ 89 → a ≠ 90 → a ≠ 91 → a ≠ 95 → xM3 (xM2 (xM1 m s) r k) r k x y G A a j = xM2 (xM1 m s) r k a j := fun a j h1 h2 h3 h4 h5 => by
    unfold xM3
    rw [ms_a h4, ms_a h3, ms_a h2, ms_a h1, ms_a h5]
  have q29 : xM1 m s 68 29 = m 68 29 := f1 _ _ (by decide) (by decide)
  have q30 : xM1 m s 68 30 = m 68 30 := f1 _ _ (by decide) (by decide)
  have q2 : ∀ a j : Int, a ≠ 68 → a ≠ 96 → xM2 (xM1 m s) r k a j = m a j := fun a j h1 h2 => by rw [f2 _ _ (Or.inl h1), f1 _ _ h2 (Or.inl h1)]
  refine ⟨fun a j h1 h2 h3 h4 h5 h6 h7 => ?_, fun j h1 h2 h3 => ?_, ⟨?_, ?_⟩, ⟨?_, fun j => ?_⟩, fun j => ?_, fun j => ?_, fun j => ?_, fun j => ?_, fun j => ?_⟩
  · rw [f3 _ _ h2 h3 h4 h5 h6, q2 _ _ h1 h7]
  · rw [f3 _ _ (by decide) (by decide) (by decide) (by decide) (by decide), f2 _ _ (Or.inr ⟨h1, h2⟩), f1 _ _ (by decide) (Or.inr h3)]
  · rw [f3 _ _ (by decide) (by decide) (by decide) (by decide) (by decide)]
    unfold xM2
    by_cases c : k ≤ 7
    · rw [if_pos c, if_pos c, ms_j (by decide), ms_e, q29, q30]
    · rw [if_neg c, if_neg c, q29]
  · rw [f3 _ _ (by decide) (by decide) (by decide) (by decide) (by decide)]
    unfold xM2
    by_cases c : k ≤ 7
    · rw [if_pos c, if_pos c, ms_e]
    · rw [if_neg c, if_neg c, q30]
  · rw [f3 _ _ (by decide) (by decide) (by decide) (by decide) (by decide), f2 _ _ (by decide)]
    unfold xM1
    by_cases c : m 96 s = 0
    · rw [if_pos c, if_pos c, ms_a (by decide), ms_e]
    · rw [if_neg c, if_neg c]
  · rw [f3 _ _ (by decide) (by decide) (by decide) (by decide) (by decide), f2 _ _ (by omega)]
    unfold xM1
    by_cases c : m 96 s = 0
    · rw [if_pos c, ms_i]
      by_cases c2 : j = s
      · rw [if_pos c2, if_pos ⟨c, c2⟩]
      · rw [if_neg c2, if_neg (fun hh => c2 hh.2), ms_a (by decide)]
    · rw [if_neg c, if_neg (fun hh => c hh.1)]
  · unfold xM3
    rw [ms_a (by decide), ms_a (by decide), ms_a (by decide), ms_a (by decide), ms_i, q2 95 j (by decide) (by decide)]
  · unfold xM3
    rw [ms_a (by decide), ms_a (by decide), ms_a (by decide), ms_i, ms_a (by decide), q2 86 j (by decide) (by decide), q2 86 r (by decide) (by decide)]
  · unfold xM3
    rw [ms_a (by decide), ms_a (by decide), ms_i, ms_a (by decide), ms_a (by decide), q2 89 j (by decide) (by decide), q2 89 r (by decide) (by decide)]
  · unfold xM3
    rw [ms_a (by decide), ms_i, ms_a (by decide), ms_a (by decide), ms_a (by decide), q2 90 j (by decide) (by decide), q2 90 r (by decide) (by decide)]
  · unfold xM3
    rw [ms_i, ms_a (by decide), ms_a (by decide), ms_a (by decide), ms_a (by decide), q2 91 j (by decide) (by decide), q2 91 r (by decide) (by decide)]
theorem gF_d : gF r e = if e.1 68 (4000 + r) < hN e r then hN e r else if e.1 68 (2000 + r) ≤ hN e r then e.1 68 (2000 + r) else hN e r := rfl
theorem gM_d : gM r e = if e.1 68 (3000 + r) ≤ hN e r + 1 - gF r e then hN e r + 1 - gF r e else e.1 68 (3000 + r) := rfl
theorem gM_le : e.1 68 (3000 + r) ≤ gM r e ∧ hN e r + 1 - gF r e ≤ gM r e := by
  rw [gM_d]
  split <;> omega
theorem ord_gh (r0 : 0 ≤ r) (r1 : r < 1000) : (pOrd r k e).1 68 1000 = e.1 68 1000 + (gM r e - e.1 68 (3000 + r)) ∧ ∀ q : Int, 0 ≤ q → q < 1000 → (pOrd r k e).1 68 (2000 + q) = (if q = r then gF r e else e.1 68 (2000 + q)) ∧ (pOrd r k e).1 68 (3000 + q) = (if q = r then gM r e else e.1 68 (3000 + q)) ∧ (pOrd r k e).1 68 (4000 + q) = (if q = r then hN e r + 1 else e.1 68 (4000 + q)) := by
  have h0 : ∀ j : Int, 1000 ≤ j → (pOrd0 r k e).1 68 j = e.1 68 j := fun j hj => by
    unfold pOrd0
    rw [eS_a (by decide)]
    split
    · rw [eS_j (by omega), eS_j (by omega)]
    · rfl
  have h1 : (pOrd0 r k e).1 (71000 + r) 1 = hN e r := by
    unfold pOrd0
    rw [eS_a (by omega)]
    split
    · rw [eS_a (by omega), eS_a (by omega)]; rfl
    · rfl
  have hF : gF r (pOrd0 r k e) = gF r e := by
    rw [gF_d, gF_d, (show hN (pOrd0 r k e) r = hN e r from h1), h0 _ (by omega), h0 _ (by omega)]
  have hM : gM r (pOrd0 r k e) = gM r e := by
    rw [gM_d, gM_d, hF, (show hN (pOrd0 r k e) r = hN e r from h1), h0 _ (by omega)]
  unfold pOrd pGh
  rw [hF, hM, h1, h0 _ (by omega), h0 _ (by omega)]
  refine ⟨by rw [eS_j (by omega), eS_j (by omega), eS_j (by omega), eS_e], fun q q0 q1 => ⟨?_, ?_, ?_⟩⟩
  · rw [eS_j (by omega), eS_j (by omega), eS_i]
    by_cases c : q = r
    · rw [if_pos (by omega), if_pos c]
    · rw [if_neg (by omega), if_neg c, eS_j (by omega), h0 _ (by omega)]
  · rw [eS_j (by omega), eS_i]
    by_cases c : q = r
    · rw [if_pos (by omega), if_pos c]
    · rw [if_neg (by omega), if_neg c, eS_j (by omega), eS_j (by omega), h0 _ (by omega)]
  · rw [eS_i]
    by_cases c : q = r
    · rw [if_pos (by omega), if_pos c]
    · rw [if_neg (by omega), if_neg c, eS_j (by omega), eS_j (by omega), eS_j (by omega), h0 _ (by omega)]
/-- the plain state's side -/
theorem RXp.put (h : RXp m e) (hc : CN e) (r0 : 0 ≤ r) (r1 : r < e.1 7 2) (hd : ¬ Dead e r) (hN1 : 0 ≤ hN e r ∧ hN e r < 524288) (hP : e.1 68 1000 ≤ 1300000) {s A : Int} (hs : s = 2048 * r + (hN e r - m 88 r) / 256) (X : xPut m m' r k x y s A G) (hA : A = 256 * (m' 96 s - 1) + (hN e r - m 88 r) % 256) : RXp m' (pPut r k x y t o e) ∧ (0 ≤ m 96 s ∧ m 96 s ≤ 5120) ∧ (0 ≤ m 68 32 ∧ m 68 32 < 5120) ∧ (0 ≤ m 88 r ∧ m 88 r ≤ hN e r) ∧ (fm_X12_at r (hN e r) m' = some A ∧ 0 ≤ A ∧ A < 1310720) ∧ (∀ j, m 96 j ≠ 0 → m' 96 j = m 96 j) ∧ ∀ r' i B : Int, 0 ≤ r' → r' < e.1 7 2 → 0 ≤ i → i < hN e r' → fm_X12_at r' i m = some B → B ≠ A := by
  obtain ⟨X1, X2, X3, ⟨X4, X5⟩, X6, X7, X8, X9, X10⟩ := X
  obtain ⟨mx, ⟨p1, p2, p3⟩, p4, p5, p6, p7, p8⟩ := h
  have n7 := hc.1
  have hsm : sm mx 30 ≤ e.1 68 1000 := Int.le_trans (sm_le fun i i0 i1 => p2.2.1 i i0 (by omega)) p2.1
  obtain ⟨u1, u2⟩ := sm_256 (f := mx) (n := 30) fun i i0 i1 => (p1 i i0 i1).1
  rw [← p3] at u1 u2
  obtain ⟨b1, b2, b3⟩ := p6 r r0 r1
  have bm := p1 r r0 (by omega)
  have hn2 : (hN e r - m 88 r) / 256 < 2048 := by omega
  obtain ⟨d1, d2⟩ := p4 r ((hN e r - m 88 r) / 256) r0 (by omega) (by omega) hn2
  rw [← hs] at d1 d2
  have e88 : ∀ j, m' 88 j = m 88 j := fun j => X1 _ _ (by decide) (by decide) (by decide) (by decide) (by decide) (by decide) (by decide)
  have e87 : ∀ j, m' 87 j = m 87 j := fun j => X1 _ _ (by decide) (by decide) (by decide) (by decide) (by decide) (by decide) (by decide)
  have hz : m 96 s = 0 ↔ (hN e r - m 88 r = mx r ∧ (hN e r - m 88 r) % 256 = 0) := by
    constructor
    · intro hh
      by_cases c : 256 * ((hN e r - m 88 r) / 256) < mx r
      · have := d1 c; omega
      · omega
    · intro hh
      exact d2 (by omega)
  have hmono : ∀ j, m 96 j ≠ 0 → m' 96 j = m 96 j := fun j hj => by
    rw [X5, if_neg]
    intro hh
    rw [hh.2] at hj
    exact hj hh.1
  have v96 : 1 ≤ m' 96 s ∧ m' 96 s ≤ 5120 := by
    rw [X5]
    by_cases c : m 96 s = 0
    · rw [if_pos ⟨c, rfl⟩]; omega
    · rw [if_neg (fun hh => c hh.1)]
      by_cases c2 : 256 * ((hN e r - m 88 r) / 256) < mx r
      · have := d1 c2; omega
      · have := d2 (by omega); omega
  have hat : fm_X12_at r (hN e r) m' = some A := by
    have := at_own (m := m') (i := hN e r) r0 (by omega) (by rw [e88]; exact b1) (by rw [e88]; exact b2) (by rw [e88]; omega) hN1.2 (by rw [e88, ← hs]; exact v96)
    rw [e88, ← hs, ← hA] at this
    exact this
  have all : ∀ u : Int, 0 ≤ u → u < 61440 → 0 ≤ m 96 u ∧ m 96 u ≤ m 68 32 := fun u u0 u1 => by
    have h1 := p4 (u / 2048) (u % 2048) (by omega) (by omega) (by omega) (by omega)
    rw [show 2048 * (u / 2048) + u % 2048 = u by omega] at h1
    by_cases c : 256 * (u % 2048) < mx (u / 2048)
    · have := h1.1 c; omega
    · have := h1.2 (by omega); omega
  have s01 : 0 ≤ s ∧ s < 61440 := by omega
  have inj : ∀ u v : Int, 0 ≤ u → u < v → v < 61440 → m' 96 u ≠ 0 → m' 96 u ≠ m' 96 v := fun u v u0 u1 u2 u3 => by
    rw [X5] at u3 ⊢
    rw [X5]
    have au := all u u0 (by omega)
    have av := all v (by omega) u2
    by_cases c1 : m 96 s = 0 ∧ u = s
    · rw [if_pos c1, if_neg (show ¬ (m 96 s = 0 ∧ v = s) from fun hh => by omega)]
      omega
    · rw [if_neg c1] at u3 ⊢
      by_cases c2 : m 96 s = 0 ∧ v = s
      · rw [if_pos c2]; omega
      · rw [if_neg c2]; exact p5 u v u0 u1 u2 u3
  have inj2 : ∀ u v : Int, 0 ≤ u → u < 61440 → 0 ≤ v → v < 61440 → m' 96 u ≠ 0 → m' 96 u = m' 96 v → u = v := fun u v u0 u1 v0 v1 h0 he => by
    rcases Int.lt_trichotomy u v with g | g | g
    · exact absurd he (inj u v u0 g v1 h0)
    · exact g
    · exact absurd he.symm (inj v u v0 g u1 (by rw [← he]; exact h0))
  have hne : ∀ r' i B : Int, 0 ≤ r' → r' < e.1 7 2 → 0 ≤ i → i < hN e r' → fm_X12_at r' i m = some B → B ≠ A := fun r' i B g0 g1 g2 g3 g4 gB => by
    obtain ⟨q, ⟨q0, q1⟩, q2, ⟨q3, q4⟩, q5⟩ := p7 r' g0 g1 i g2 g3
    have bq := p1 q q0 (by omega)
    have z1 := (p4 q ((i - m 88 q) / 256) q0 (by omega) (by omega) (by omega)).1 (by omega)
    rw [g4] at q5
    have q6 := Option.some.inj q5
    have z2 := hmono (2048 * q + (i - m 88 q) / 256) (by omega)
    have z3 := inj2 (2048 * q + (i - m 88 q) / 256) s (by omega) (by omega) s01.1 s01.2 (by omega) (by rw [z2]; omega)
    have z4 : q = r := by omega
    subst z4
    rcases q2 with q2 | q2
    · subst q2
      omega
    · exact hd q2
  have e7 : (pPut r k x y t o e).1 7 2 = e.1 7 2 := put_a (by decide) (by decide) (by omega) (by omega)
  have hNr : ∀ j : Int, 0 ≤ j → j < 1000 → hN (pPut r k x y t o e) j = (if j = r then hN e j + 1 else hN e j) := fun j j0 j1 => (put_hN r0 j0 j1).1
  have bnd : 0 ≤ m 96 s ∧ m 96 s ≤ 5120 := by have := all s s01.1 s01.2; omega
  refine ⟨?_, bnd, by omega, ⟨b1, b2⟩, ⟨hat, by omega, by omega⟩, hmono, hne⟩
  refine ⟨fun i => if i = r then (if hN e r - m 88 r = mx r then mx r + 1 else mx r) else mx i, ⟨fun i i0 i1 => ?_, ?_, ?_⟩, fun r' k' r2 r3 k2 k3 => ?_, inj, fun r' r2 r3 => ?_, fun r' r2 r3 i i0 i1 => ?_, fun r' r2 r3 h8 => ?_⟩
  rotate_right
  · rw [e7] at r3
    rw [e88] at h8
    rw [e87]
    obtain ⟨g1, g2⟩ := p8 r' r2 r3 h8
    refine ⟨g1, ?_⟩
    unfold Dead
    rw [put_a (by omega) (by omega) (by omega) (by omega)]
    exact g2
  · have := p1 i i0 i1
    dsimp only
    rw [e7]
    by_cases c : i = r
    · rw [if_pos c]
      by_cases c2 : hN e r - m 88 r = mx r
      · rw [if_pos c2]; omega
      · rw [if_neg c2]; omega
    · rw [if_neg c]; exact this
  · obtain ⟨g1, g2⟩ := ord_gh (k := k) (e := e) r0 (show r < 1000 by omega)
    have hk : ∀ i : Int, 0 ≤ i → i < ((30 : Nat) : Int) → (pPut r k x y t o e).1 68 (3000 + i) = (fun i => if i = r then gM r e else e.1 68 (3000 + i)) i := fun i i0 i1 => by
      rw [put_68 r0, (g2 i i0 (by omega)).2.1]
    have hF : gF r e ≤ m 88 r := by
      have := p2.2.2 r r0 r1
      rw [gF_d]
      by_cases c : e.1 68 (4000 + r) < hN e r
      · rw [if_pos c]; omega
      · rw [if_neg c]
        split <;> omega
    obtain ⟨k1, k2⟩ := gM_le (e := e) (r := r)
    refine ⟨?_, fun i i0 i1 => ?_, fun i i0 i1 => ?_⟩
    · rw [sm_to hk, sm_up r0 (by omega), put_68 r0, g1]
      have := p2.1
      omega
    · rw [hk i i0 (by omega)]
      have := p2.2.1 i i0 i1
      dsimp only
      by_cases c : i = r
      · subst c
        rw [if_pos rfl, if_pos rfl]
        split <;> omega
      · rw [if_neg c, if_neg c]; exact this
    · rw [e7] at i1
      rw [put_68 r0, put_68 r0, (g2 i i0 (by omega)).1, (g2 i i0 (by omega)).2.2, e88, hNr i i0 (by omega)]
      by_cases c : i = r
      · subst c
        rw [if_pos rfl, if_pos rfl, if_pos rfl]
        omega
      · rw [if_neg c, if_neg c, if_neg c]
        exact p2.2.2 i i0 i1
  · have e1 : (fun i => ((if i = r then (if hN e r - m 88 r = mx r then mx r + 1 else mx r) else mx i) + 255) / 256) = fun i => if i = r then ((if hN e r - m 88 r = mx r then mx r + 1 else mx r) + 255) / 256 else (mx i + 255) / 256 := by
      funext i
      split <;> rfl
    rw [e1, sm_up r0 (by omega), ← p3, X4]
    by_cases c : m 96 s = 0
    · have := hz.mp c
      rw [if_pos c, if_pos this.1]
      omega
    · rw [if_neg c]
      have : ¬ (hN e r - m 88 r = mx r ∧ (hN e r - m 88 r) % 256 = 0) := fun hh => c (hz.mpr hh)
      by_cases c2 : hN e r - m 88 r = mx r
      · rw [if_pos c2]; omega
      · rw [if_neg c2]; omega
  · dsimp only
    obtain ⟨g1, g2⟩ := p4 r' k' r2 r3 k2 k3
    have e96 := X5 (2048 * r' + k')
    by_cases c : r' = r ∧ k' = (hN e r - m 88 r) / 256
    · have es : 2048 * r' + k' = s := by rw [c.1, c.2]; exact hs.symm
      rw [es] at g1 g2 e96 ⊢
      rw [if_pos c.1]
      refine ⟨fun _ => ⟨v96.1, ?_⟩, fun hh => ?_⟩
      · rw [X4, e96]
        by_cases c2 : m 96 s = 0
        · rw [if_pos c2, if_pos ⟨c2, rfl⟩]; omega
        · rw [if_neg c2, if_neg (fun hh => c2 hh.1)]
          have := all s s01.1 s01.2
          omega
      · exfalso
        revert hh
        split <;> omega
    · have ns : 2048 * r' + k' ≠ s := fun hh => c ⟨by omega, by omega⟩
      rw [if_neg (fun hh => ns hh.2)] at e96
      rw [e96, X4]
      have hle : m 68 32 ≤ if m 96 s = 0 then m 68 32 + 1 else m 68 32 := by split <;> omega
      by_cases c2 : r' = r
      · rw [if_pos c2]
        rw [c2] at g1 g2 ⊢
        have c3 : k' ≠ (hN e r - m 88 r) / 256 := fun hh => c ⟨c2, hh⟩
        by_cases c4 : hN e r - m 88 r = mx r
        · rw [if_pos c4]
          refine ⟨fun hh => ?_, fun hh => g2 (by omega)⟩
          have := g1 (by omega)
          omega
        · rw [if_neg c4]
          refine ⟨fun hh => ?_, g2⟩
          have := g1 hh
          omega
      · rw [if_neg c2]
        refine ⟨fun hh => ?_, g2⟩
        have := g1 hh
        omega
  · dsimp only
    rw [e7] at r3
    rw [e88, hNr r' r2 (by omega)]
    have := p6 r' r2 r3
    by_cases c : r' = r
    · rw [if_pos c, if_pos c]
      rw [c] at this ⊢
      by_cases c4 : hN e r - m 88 r = mx r
      · rw [if_pos c4]; omega
      · rw [if_neg c4]; omega
    · rw [if_neg c, if_neg c]
      exact this
  · rw [e7] at r3
    rw [hNr r' r2 (by omega)] at i1
    have dk : ∀ q, 0 ≤ q → q < e.1 7 2 → Dead e q → Dead (pPut r k x y t o e) q := fun q q0 q1 hq => by
      unfold Dead
      rw [put_a (by omega) (by omega) (by omega) (by omega)]
      exact hq
    by_cases c : r' = r ∧ i = hN e r
    · rw [c.1, c.2]
      refine ⟨r, ⟨r0, by omega⟩, Or.inl rfl, ⟨by rw [e88]; omega, ?_⟩, ?_⟩
      · dsimp only
        rw [e88, if_pos rfl]
        split <;> omega
      · rw [hat, e88, ← hs, hA]
    · have i2 : i < hN e r' := by
        by_cases c2 : r' = r
        · rw [if_pos c2] at i1
          have : i ≠ hN e r := fun hh => c ⟨c2, hh⟩
          rw [c2] at i1 ⊢
          omega
        · rw [if_neg c2] at i1
          exact i1
      obtain ⟨q, ⟨q0, q1⟩, q2, ⟨q3, q4⟩, q5⟩ := p7 r' r2 r3 i i0 i2
      have bq := p1 q q0 (by omega)
      have z1 := (p4 q ((i - m 88 q) / 256) q0 (by omega) (by omega) (by omega)).1 (by omega)
      have z2 := hmono (2048 * q + (i - m 88 q) / 256) (by omega)
      refine ⟨q, ⟨q0, by omega⟩, q2.imp id (dk q q0 q1), ⟨by rw [e88]; exact q3, ?_⟩, ?_⟩
      · dsimp only
        rw [e88]
        by_cases c2 : q = r
        · rw [if_pos c2]
          rw [c2] at q4 ⊢
          split <;> omega
        · rw [if_neg c2]
          exact q4
      · rw [e88, z2]
        exact at_up e88 e87 hmono q5 (by omega)
end RXQ2
