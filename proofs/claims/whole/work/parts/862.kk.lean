/-! WHAT IS KEPT, gathered: orders, what worker and machine keep, what tasks count, no ends. -/
section KKA
variable {e e' e1 e2 : ES} {Z : Int → Prop} {S D T a b c d i j k q r v w N M p y t o lim c0 n0 : Int} {n : Nat} {s : TS}
/-- what was kept was told by a version that is deployed -/
def KvI (e : ES) : Prop := ∀ r : Int, 0 ≤ r → r < e.1 7 2 → 0 ≤ e.1 (7000 + r) 12 → e.1 (7000 + r) 13 % 4 < e.1 (48 + 4 * e.1 (7000 + r) 1 + 1) 2
theorem KvI.ex (h : KvI e) (hx : EX e e') (hF : ∀ r : Int, 0 ≤ r → r < e.1 7 2 → RunF e r) : KvI e' := fun r r0 r1 h12 => by
  by_cases c : r < e.1 7 2
  · obtain ⟨-, x2, -, x4, -⟩ := hx
    have a2 := (x2 r r0 c).2.1
    have ht := (hF r r0 c).1
    rw [a2 12 (by decide) (by decide)] at h12
    rw [a2 13 (by decide) (by decide), a2 1 (by decide) (by decide), x4 _ _ (by omega)]
    exact h r r0 c h12
  · have := (hx.2.2.1 r (by omega) r1).1
    omega
/-- orders, what is kept, what tasks count, no ends -/
def KK (e : ES) : Prop := OI e ∧ KpI e ∧ KvI e ∧ (TkI2 e ∧ TsR e) ∧ NEn2 e
/-- whose work was to be ended is not closed -/
theorem FBi.nz (h : FBi Z e) (hz : ∀ q : Int, Z q → ¬ Dead e q) : FBi nZ e := by
  obtain ⟨f1, f2, f3, f4, f5⟩ := h
  refine ⟨f1, fun r r0 r1 => ?_, fun p p0 p1 => ?_, f4, f5⟩
  · obtain ⟨q1, q2, q3⟩ := f2 r r0 r1
    exact ⟨q1, q2, fun g => Or.inl ((q3 g).elim id fun z => hz _ z)⟩
  · obtain ⟨q1, q2, q3⟩ := f3 p p0 p1
    exact ⟨q1, q2, fun g => Or.inl ((q3 g).elim id fun z => hz _ z)⟩
/-- nothing of it is touched -/
theorem KK.fr (h : KK e) (hF : ∀ r : Int, 0 ≤ r → r < e.1 7 2 → RunF e r) (hn : HNN e) (hc : CN e) (ha : ∀ a u : Int, (a = 7 ∧ u = 2) ∨ (a = 9 ∧ u = 2) ∨ (a = 4 ∧ u = 16) ∨ (a = 68 ∧ (u = 29 ∨ u = 30)) ∨ (7000 ≤ a ∧ a < 7030 ∧ (u = 1 ∨ u = 9 ∨ (12 ≤ u ∧ u ≤ 15))) ∨ (9000 ≤ a ∧ a < 9512 ∧ (u = 1 ∨ u = 3 ∨ u = 4)) ∨ (71000 ≤ a ∧ a < 71030 ∧ u = 1) ∨ (76000 ≤ a ∧ a < 76030) → e'.1 a u = e.1 a u) (hv : ∀ t : Int, 0 ≤ t → t < 4 → e.1 (48 + 4 * t + 1) 2 ≤ e'.1 (48 + 4 * t + 1) 2) (hl : ∀ t v : Int, 0 ≤ t → t < 4 → 0 ≤ v → v < e.1 (48 + 4 * t + 1) 2 → eL e' (1000 * (48 + 4 * t) + v) = eL e (1000 * (48 + 4 * t) + v)) (hd : ∀ r : Int, 0 ≤ r → r < e.1 7 2 → Dead e r → Dead e' r) (hh : ∀ r : Int, 0 ≤ r → r < e.1 7 2 → eH e' r = eH e r) (hm : ∀ r : Int, 0 ≤ r → e'.1 16 7 = r → e.1 16 7 = r ∧ eT e' = eT e ∧ eB e' = eB e) : KK e' := by
  obtain ⟨k1, k2, k3, ⟨k4, k5⟩, k6⟩ := h
  have n7 := hc.1
  have n9 := hc.2.2.1
  have e7 : e'.1 7 2 = e.1 7 2 := ha _ _ (by omega)
  have e9 : e'.1 9 2 = e.1 9 2 := ha _ _ (by omega)
  have eN : ∀ r : Int, 0 ≤ r → r < e.1 7 2 → hN e' r = hN e r := fun r r0 r1 => ha _ _ (by omega)
  have hA : ∀ r : Int, 0 ≤ r → r < e.1 7 2 → AR (eH e r) (hN e r) (eH e' r) (hN e' r) := fun r r0 r1 => by
    rw [eN r r0 r1, hh r r0 r1]
    exact AR.rf
  refine ⟨k1.fr e7 (ha _ _ (by omega)) (ha _ _ (by omega)) (ha _ _ (by omega)) hd fun r r0 r1 => ⟨by rw [eN r r0 r1]; omega, fun p p0 p1 => ⟨by rw [hh r r0 r1], ha _ _ (by omega)⟩⟩, fun r r0 r1 hD => ?_, fun r r0 r1 h12 => ?_, ⟨fun k k0 k1' hD => ?_, fun k k0 k1' => ?_⟩, fun r r0 r1 hD j j0 j1 => ?_⟩
  · rw [e7] at r1
    have ht := (hF r r0 r1).1
    intro h12
    have h12' : 0 ≤ e.1 (7000 + r) 12 := by rw [← ha (7000 + r) 12 (by omega)]; exact h12
    exact KpR.ar (e := e) (k2 r r0 r1 fun g => hD (hd r r0 r1 g)) (hA r r0 r1) (hn r r0 r1) (fun u hu => ha _ _ (by omega)) (fun v hv' => hl _ v ht.1 ht.2 (by omega) (by rw [hv']; exact k3 r r0 r1 h12')) (hm r r0) h12
  · rw [e7] at r1
    have ht := (hF r r0 r1).1
    rw [ha _ _ (by omega)] at h12
    have := k3 r r0 r1 h12
    have h4 := hv _ ht.1 ht.2
    rw [ha (7000 + r) 13 (by omega), ha (7000 + r) 1 (by omega)]
    omega
  · rw [e9] at k1'
    obtain ⟨r0, r1⟩ := k5 k k0 k1'
    have hk : ∀ u : Int, u = 1 ∨ u = 3 ∨ u = 4 → e'.1 (9000 + k) u = e.1 (9000 + k) u := fun u hu => ha _ _ (by omega)
    rw [hk 1 (by omega)] at hD
    exact TkO.ar (k4 k k0 k1' fun g => hD (hd _ r0 r1 g)) hk rfl (hA _ r0 r1) (hn _ r0 r1) (ha _ _ (by omega))
  · rw [e9] at k1'
    rw [ha _ _ (by omega), e7]
    exact k5 k k0 k1'
  · rw [e7] at r1
    rw [eN r r0 r1] at j1
    rw [hh r r0 r1]
    exact k6 r r0 r1 (fun g => hD (hd r r0 r1 g)) j j0 j1
/-- the inner steps keep it -/
theorem KK.ex (h : KK e) (hx : EX e e') (hn : HNN e) (hc : CN e) (hF : ∀ r : Int, 0 ≤ r → r < e.1 7 2 → RunF e r) (hO : OI e') : KK e' := by
  obtain ⟨k1, k2, k3, ⟨k4, k5⟩, k6⟩ := h
  exact ⟨hO, k2.ex hx hn hF, k3.ex hx hF, k4.ex hx hn k5 hc, k6.ex hx⟩
/-- all that stands between the calls -/
def HH (S D T : Int) (e : ES) : Prop := PHs S D T e ∧ FBi nZ e ∧ KK e
theorem HH.cn (h : HH S D T e) : CN e := h.1.cn
theorem HH.gx (h : HH S D T e) (g : GC nZ nZ e e') (hp : PHs S D T e') : HH S D T e' := ⟨hp, g.1.2.1 h.2.1, h.2.2.ex g.1.1 h.1.1.hnn h.cn h.2.1.1 (g.1.2.2 h.2.2.1)⟩
end KKA
