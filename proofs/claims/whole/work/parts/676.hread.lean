/-! THE ENGINE: what the class reads of a history besides. -/
section HRD
variable {m m0 : MM} {h i j k a b e v : Int} {x : CX} {E : Int → Ev} {l : List Int}
def xHas (x : CX) (k : Int) : Nat → Int → Bool
  | 0, _ => false
  | n + 1, i => if i < x.1 0 then (if ek (x.2.1 i) = k then true else xHas x k n (i + 1)) else false
def xTsk (x : CX) (v : Int) : Nat → Int → Int → Int
  | 0, _, _ => -1
  | n + 1, c, i => if i < x.1 0 then (if ek (x.2.1 i) = 17 then (if c = v then i else xTsk x v n (c + 1) (i + 1)) else xTsk x v n c (i + 1)) else -1
/-- the first arrival that no TASK counts -/
def xNew (x : CX) : Nat → Int → Int → Int
  | 0, _, i => i
  | n + 1, c, i => if i < x.1 0 then (if 7 < ek (x.2.1 i) then xNew x n c (i + 1) else if c < x.1 1 then xNew x n (c + 1) (i + 1) else i) else x.1 0
def xSig (x : CX) (v : Int) : Nat → Int → Bool
  | 0, _ => false
  | n + 1, i => if i < x.1 0 then (if ek (x.2.1 i) = 4 then (if ex (x.2.1 i) = v then true else xSig x v n (i + 1)) else xSig x v n (i + 1)) else false
def xEnd (x : CX) (v : Int) : Nat → Int → Bool
  | 0, _ => false
  | n + 1, i => if i < x.1 0 then (if ex (x.2.1 i) = v ∧ (ek (x.2.1 i) = 1 ∨ ek (x.2.1 i) = 2 ∨ ek (x.2.1 i) = 3 ∨ ek (x.2.1 i) = 11) then true else xEnd x v n (i + 1)) else false
def hasK (x : CX) (k : Int) : Bool := xHas x k (x.1 0).toNat 0
def taskN (x : CX) (v : Int) : Int := xTsk x v (x.1 0).toNat 0 0
def newA (x : CX) : Int := xNew x ((x.1 0).toNat + 1) 0 0
def newSig (x : CX) (v : Int) : Bool := xSig x v (x.1 0 - newA x).toNat (newA x)
def ended (x : CX) (v : Int) : Bool := xEnd x v (x.1 0 - (v + 1)).toNat (v + 1)
theorem has_e (H : HC m h (x.1 0) x.2.1) : fm_X2_has h k m = some (if hasK x k = true then 1 else 0) := by
  have hn := H.n
  have key : ∀ (n f : Nat) (i : Int), 0 ≤ i → (x.1 0 - i).toNat = n → n < f → fl_X2_has_2 h k m f i = some (if xHas x k n i = true then 1 else 0) := by
    intro n
    induction n with
    | zero =>
      intro f i h0 h1 h2
      obtain ⟨f, rfl⟩ : ∃ g, f = g + 1 := ⟨f - 1, by omega⟩
      unfold fl_X2_has_2
      simp only [lx_p]
      rw [H.sz, if_neg (by omega)]
      rfl
    | succ n ih =>
      intro f i h0 h1 h2
      obtain ⟨f, rfl⟩ : ∃ g, f = g + 1 := ⟨f - 1, by omega⟩
      have hi : i < x.1 0 := by omega
      unfold fl_X2_has_2 xHas
      simp only [lx_p]
      rw [H.sz, if_pos hi, if_pos hi, bp_t (kind_e H h0 hi), w32_id (by omega) (by omega)]
      by_cases c1 : ek (x.2.1 i) = k
      · rw [if_pos c1, if_pos c1, if_pos rfl]
      · rw [if_neg c1, if_neg c1]
        exact ih f (i + 1) (by omega) (by omega) (by omega)
  unfold fm_X2_has hasK
  exact key _ BIG 0 (by decide) (by rw [Int.sub_zero]) (BIG_g (by omega))
theorem taskN_e (H : HC m h (x.1 0) x.2.1) : fm_X2_taskAt h v m = some (taskN x v) := by
  have hn := H.n
  have key : ∀ (n f : Nat) (c i : Int), 0 ≤ i → 0 ≤ c → c ≤ i → (x.1 0 - i).toNat = n → n < f → fl_X2_taskAt_4 h v m f c i = some (xTsk x v n c i) := by
    intro n
    induction n with
    | zero =>
      intro f c i h0 c0 c1 h1 h2
      obtain ⟨f, rfl⟩ : ∃ g, f = g + 1 := ⟨f - 1, by omega⟩
      unfold fl_X2_taskAt_4
      simp only [lx_p]
      rw [H.sz, if_neg (by omega)]
      rfl
    | succ n ih =>
      intro f c i h0 c0 c1 h1 h2
      obtain ⟨f, rfl⟩ : ∃ g, f = g + 1 := ⟨f - 1, by omega⟩
      have hi : i < x.1 0 := by omega
      unfold fl_X2_taskAt_4 xTsk
      simp only [lx_p]
      rw [H.sz, if_pos hi, if_pos hi, bp_t (kind_e H h0 hi), w32_id (show -2147483648 ≤ i + 1 by omega) (by omega), w32_id (show -2147483648 ≤ c + 1 by omega) (by omega)]
      by_cases c2 : ek (x.2.1 i) = 17
      · rw [if_pos c2, if_pos c2]
        by_cases c3 : c = v
        · rw [if_pos c3, if_pos c3]
        · rw [if_neg c3, if_neg c3]
          exact ih f (c + 1) (i + 1) (by omega) (by omega) (by omega) (by omega) (by omega)
      · rw [if_neg c2, if_neg c2]
        exact ih f c (i + 1) (by omega) (by omega) (by omega) (by omega) (by omega)
  unfold fm_X2_taskAt taskN
  exact key _ BIG 0 0 (by decide) (by decide) (by decide) (by rw [Int.sub_zero]) (BIG_g (by omega))
theorem xNew_b : ∀ (n : Nat) (c i : Int), 0 ≤ i → i ≤ x.1 0 → 0 ≤ xNew x n c i ∧ xNew x n c i ≤ x.1 0 := by
  intro n
  induction n with
  | zero => intro c i h0 h1; exact ⟨h0, h1⟩
  | succ n ih =>
    intro c i h0 h1
    unfold xNew
    by_cases c1 : i < x.1 0
    · rw [if_pos c1]
      split
      · exact ih _ _ (by omega) (by omega)
      · split
        · exact ih _ _ (by omega) (by omega)
        · exact ⟨h0, h1⟩
    · rw [if_neg c1]
      omega
theorem newA_b (h0 : 0 ≤ x.1 0) : 0 ≤ newA x ∧ newA x ≤ x.1 0 := xNew_b _ _ _ (Int.le_refl _) h0
theorem newA_e (H : HC m h (x.1 0) x.2.1) (h4 : m h 4 = x.1 1) : fm_X2_firstNew h m = some (newA x) := by
  have hn := H.n
  have key : ∀ (n f : Nat) (c i : Int), 0 ≤ i → i ≤ x.1 0 → 0 ≤ c → c ≤ i → x.1 0 - i < n → n ≤ f → fl_X2_firstNew_4 h m f c i = some (xNew x n c i) := by
    intro n
    induction n with
    | zero => intro f c i h0 hi0 c0 c1 h1 h2; omega
    | succ n ih =>
      intro f c i h0 hi0 c0 c1 h1 h2
      obtain ⟨f, rfl⟩ : ∃ g, f = g + 1 := ⟨f - 1, by omega⟩
      unfold fl_X2_firstNew_4 xNew
      simp only [lx_p]
      rw [H.sz, h4]
      by_cases hi : i < x.1 0
      · rw [if_pos hi, if_pos hi, bp_t (kind_e H h0 hi), w32_id (show -2147483648 ≤ i + 1 by omega) (by omega), w32_id (show -2147483648 ≤ c + 1 by omega) (by omega)]
        by_cases c2 : 7 < ek (x.2.1 i)
        · rw [if_pos c2, if_pos c2]
          exact ih f c (i + 1) (by omega) (by omega) (by omega) (by omega) (by omega) (by omega)
        · rw [if_neg c2, if_neg c2]
          by_cases c3 : c < x.1 1
          · rw [if_pos c3, if_pos c3]
            exact ih f (c + 1) (i + 1) (by omega) (by omega) (by omega) (by omega) (by omega) (by omega)
          · rw [if_neg c3, if_neg c3]
      · rw [if_neg hi, if_neg hi]
  unfold fm_X2_firstNew newA
  exact key _ BIG 0 0 (by decide) hn.1 (by decide) (by decide) (by omega) (BIG_g (by omega))
theorem newSig_e (H : HC m h (x.1 0) x.2.1) (h4 : m h 4 = x.1 1) : fm_X2_hasNewSignal h v m = some (if newSig x v = true then 1 else 0) := by
  have hn := H.n
  have hb := newA_b hn.1
  have key : ∀ (n f : Nat) (i : Int), 0 ≤ i → (x.1 0 - i).toNat = n → n < f → fl_X2_hasNewSignal_5 h v m f i = some (if xSig x v n i = true then 1 else 0) := by
    intro n
    induction n with
    | zero =>
      intro f i h0 h1 h2
      obtain ⟨f, rfl⟩ : ∃ g, f = g + 1 := ⟨f - 1, by omega⟩
      unfold fl_X2_hasNewSignal_5
      simp only [lx_p]
      rw [H.sz, if_neg (by omega)]
      rfl
    | succ n ih =>
      intro f i h0 h1 h2
      obtain ⟨f, rfl⟩ : ∃ g, f = g + 1 := ⟨f - 1, by omega⟩
      have hi : i < x.1 0 := by omega
      unfold fl_X2_hasNewSignal_5 xSig
      simp only [lx_p]
      rw [H.sz, if_pos hi, if_pos hi, bp_t (kind_e H h0 hi), w32_id (by omega) (by omega)]
      by_cases c1 : ek (x.2.1 i) = 4
      · rw [if_pos c1, if_pos c1, bp_t (x_e H h0 hi)]
        by_cases c2 : ex (x.2.1 i) = v
        · rw [if_pos c2, if_pos c2, if_pos rfl]
        · rw [if_neg c2, if_neg c2]
          exact ih f (i + 1) (by omega) (by omega) (by omega)
      · rw [if_neg c1, if_neg c1]
        exact ih f (i + 1) (by omega) (by omega) (by omega)
  unfold fm_X2_hasNewSignal newSig
  rw [bp_t (newA_e H h4)]
  exact key _ BIG (newA x) hb.1 rfl (BIG_g (by omega))
theorem hasEnd_e (H : HC m h (x.1 0) x.2.1) (v0 : 0 ≤ v) (v1 : v < 536870912) : fm_X2_hasEnded h v m = some (if ended x v = true then 1 else 0) := by
  have hn := H.n
  have key : ∀ (n f : Nat) (i : Int), 0 ≤ i → (x.1 0 - i).toNat = n → n < f → fl_X2_hasEnded_4 h v m f i = some (if xEnd x v n i = true then 1 else 0) := by
    intro n
    induction n with
    | zero =>
      intro f i h0 h1 h2
      obtain ⟨f, rfl⟩ : ∃ g, f = g + 1 := ⟨f - 1, by omega⟩
      unfold fl_X2_hasEnded_4
      simp only [lx_p]
      rw [H.sz, if_neg (by omega)]
      rfl
    | succ n ih =>
      intro f i h0 h1 h2
      obtain ⟨f, rfl⟩ : ∃ g, f = g + 1 := ⟨f - 1, by omega⟩
      have hi : i < x.1 0 := by omega
      have hr := ih f (i + 1) (by omega) (by omega) (by omega)
      unfold fl_X2_hasEnded_4 xEnd
      simp only [lx_p]
      rw [H.sz, if_pos hi, if_pos hi, bp_t (kind_e H h0 hi), bp_t (x_e H h0 hi), w32_id (by omega) (by omega), hr]
      by_cases c1 : ex (x.2.1 i) = v
      · rw [if_pos c1]
        by_cases k1 : ek (x.2.1 i) = 1
        · rw [if_pos k1, if_pos (show ex (x.2.1 i) = v ∧ (ek (x.2.1 i) = 1 ∨ ek (x.2.1 i) = 2 ∨ ek (x.2.1 i) = 3 ∨ ek (x.2.1 i) = 11) from ⟨c1, Or.inl k1⟩), if_pos rfl]
        · rw [if_neg k1]
          by_cases k2 : ek (x.2.1 i) = 2
          · rw [if_pos k2, if_pos (show ex (x.2.1 i) = v ∧ (ek (x.2.1 i) = 1 ∨ ek (x.2.1 i) = 2 ∨ ek (x.2.1 i) = 3 ∨ ek (x.2.1 i) = 11) from ⟨c1, Or.inr (Or.inl k2)⟩), if_pos rfl]
          · rw [if_neg k2]
            by_cases k3 : ek (x.2.1 i) = 3
            · rw [if_pos k3, if_pos (show ex (x.2.1 i) = v ∧ (ek (x.2.1 i) = 1 ∨ ek (x.2.1 i) = 2 ∨ ek (x.2.1 i) = 3 ∨ ek (x.2.1 i) = 11) from ⟨c1, Or.inr (Or.inr (Or.inl k3))⟩), if_pos rfl]
            · rw [if_neg k3]
              by_cases k4 : ek (x.2.1 i) = 11
              · rw [if_pos k4, if_pos (show ex (x.2.1 i) = v ∧ (ek (x.2.1 i) = 1 ∨ ek (x.2.1 i) = 2 ∨ ek (x.2.1 i) = 3 ∨ ek (x.2.1 i) = 11) from ⟨c1, Or.inr (Or.inr (Or.inr k4))⟩), if_pos rfl]
              · rw [if_neg k4, if_neg (show ¬ (ex (x.2.1 i) = v ∧ (ek (x.2.1 i) = 1 ∨ ek (x.2.1 i) = 2 ∨ ek (x.2.1 i) = 3 ∨ ek (x.2.1 i) = 11)) from fun g => by omega)]
      · rw [if_neg c1, if_neg (show ¬ (ex (x.2.1 i) = v ∧ (ek (x.2.1 i) = 1 ∨ ek (x.2.1 i) = 2 ∨ ek (x.2.1 i) = 3 ∨ ek (x.2.1 i) = 11)) from fun g => c1 g.1)]
  unfold fm_X2_hasEnded ended
  simp only [lx_p]
  rw [w32_id (by omega) (by omega)]
  exact key _ BIG (v + 1) (by omega) rfl (BIG_g (by omega))
theorem order_e (H : HC m h (x.1 0) E) (h0 : 0 ≤ i) (h1 : i < x.1 0) : fm_X2_orderOfArrival h i m = some (ew (E i) / 1024) := by
  obtain ⟨g1, ⟨k1, k2, k3, k4⟩, v, g2, g3⟩ := H.get h0 h1
  unfold fm_X2_orderOfArrival
  simp only [lx_p]
  rw [gd_t g1, bp_t g2, c_order g3 k1 k2 k3 k4]
  unfold ew
  congr 1
theorem time_e (H : HC m h (x.1 0) E) (h0 : 0 ≤ i) (h1 : i < x.1 0) : fm_X2_timeOfCommand h i m = some (ew (E i)) := by
  obtain ⟨g1, ⟨k1, k2, k3, k4⟩, v, g2, g3⟩ := H.get h0 h1
  unfold fm_X2_timeOfCommand
  simp only [lx_p]
  rw [gd_t g1, bp_t g2, c_time g3 k1 k2 k3 k4]
  rfl
end HRD
