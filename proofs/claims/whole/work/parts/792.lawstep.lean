/-! THE LAW: a step: the class's call, the reference's call. -/
section LWS
variable {m m' M m1 m2 : MM} {ow : Int → Int} {ad : Int → Int → Int} {e e' : ES} {a b c i j k o r v w p t s x y n : Int} {W W1 W2 : List (Int × Int × Int)}
/-- both memories stand for the plain state -/
def RLm (m : MM) (e : ES) : Prop := ∃ ow ad, CE m ow ad e ∧ RXE m e ∧ P113 m
theorem fx162 (hF : Fix m) : Fix (mset m 162 0 v) := fx_f hF (fx_kF (c := 101) hF (by decide +kernel)) (by decide +kernel)
theorem CE.box (C : CE m ow ad e) : CE (mset m 162 0 v) ow ad e := by
  have h163 := C.fix.1
  have w162 : ow 162 = 162 := C.1.2.2.2.1.1
  refine CE.one0 (o := 162) C ⟨mset_ext (by decide) (by decide), fun a j a0 a1 hD => ms_a fun hh => hD (by rw [hh]; exact w162)⟩ (fx162 C.fix) ((ms_a (by decide)).trans C.m1) (fun _ _ => rfl) (fun _ _ _ => rfl) (fun _ _ => rfl) (fun _ _ => rfl) (fun _ => rfl) (C.nfz (by omega)) (fun i' i2 i3 i4 hD => by have := C.cn.1; omega) (fun c hc => rfl) ⟨by omega, by omega, by omega, by omega⟩ (fun _ _ _ _ => Int.le_refl _) (fun hh => by omega) (Kx.of0 (by omega))
theorem law_step {F11 : Option ((Int ⊕ Nat) × MM)} {F12 : MM → Option (Int × MM)} {X : Nat → MM → Option (Int × MM)} {code : Nat → Int} {r : (Int ⊕ Nat) × ES} (C : CE m ow ad e) (hR : RXE m e) (hP : P113 m) (hc : OKc e ad F11 r) (hX : ∀ q, r.1 = .inr q → code q ≠ 0 ∧ ∀ M, X q M = some (code q, M)) (f11 : ∀ rr rm, F11 = some (rr, rm) → Fr W1 0 m rm) (hW1 : clW W1 = true) (hx : ∀ m1, RXE m1 e → P113 m1 → OKr (F12 m1) code r) (f12 : ∀ m1 rz rm, Fix m1 → F12 m1 = some (rz, rm) → Fr W2 0 m1 rm) (hW2 : (rfW W2 && !W2.contains (9, 0, 0)) = true) (hP2 : ∀ m1 rz rm, P113 m1 → RXE m1 e → F12 m1 = some (rz, rm) → P113 rm) : ∃ x48 m49 x92 m93, bx F11 X (fun x_4 m_5 => up m_5 162 0 x_4 fun m_40 => some (0, m_40)) = some (x48, m49) ∧ F12 m49 = some (x92, m93) ∧ m93 68 129 = x48 ∧ (x48 = 0 → m93 162 0 = x92 ∧ r.1 = .inl x92) ∧ RLm m93 r.2 := by
  obtain ⟨m1, ad1, g1, ⟨ow1, C1⟩, -⟩ := hc
  have fr1 := f11 _ _ g1
  have sm1 : SmR m m1 := SmR.cl hW1 fr1
  have R1 : RXE m1 e := hR.nn C.cn sm1
  have P1 : P113 m1 := ⟨fr1.fix, by rw [sm1 68 113 (by decide) (by decide) (by decide)]; exact hP.2⟩
  rw [Bool.and_eq_true, Bool.not_eq_true'] at hW2
  have fin : ∀ m49, CE m49 ow1 ad1 r.2 → RXE m49 e → P113 m49 → ∃ x92 m93, F12 m49 = some (x92, m93) ∧ RLm m93 r.2 ∧ m93 162 0 = m49 162 0 ∧ (∀ z, r.1 = .inl z → x92 = z ∧ m93 68 129 = 0) ∧ ∀ q, r.1 = .inr q → m93 68 129 = code q := fun m49 C2 R2 P2 => by
    obtain ⟨x92, m93, u1, u2, u3, u4⟩ := hx m49 R2 P2
    have fr2 := f12 m49 x92 m93 P2.1 u1
    refine ⟨x92, m93, u1, ⟨ow1, ad1, C2.rfx hW2.1 fr2 ((fr2.2.2.2.2 hW2.2).2.2.trans C2.m1), u2, hP2 m49 x92 m93 P2 R2 u1⟩, ?_, u3, u4⟩
    exact fr2.2.2.2.1 162 0 (by decide) (by have := P2.1.1; omega) (by decide) fun hw => by
      have := rf_at hW2.1 (by decide) hw
      omega
  rw [g1]
  rcases hr : r.1 with z | q
  · have C2 := C1.box (v := z)
    have R2 : RXE (mset m1 162 0 z) e := R1.nn C.cn fun a j a0 a1 _ => ms_a (by omega)
    have P2 : P113 (mset m1 162 0 z) := ⟨fx162 P1.1, by rw [ms_a (by decide)]; exact P1.2⟩
    obtain ⟨x92, m93, u1, u2, u3, u4, -⟩ := fin _ C2 R2 P2
    obtain ⟨v1, v2⟩ := u4 z hr
    refine ⟨0, mset m1 162 0 z, x92, m93, rfl, u1, v2, fun _ => ⟨?_, by rw [v1]⟩, u2⟩
    rw [u3, v1]
    exact ms_e
  · obtain ⟨h1, h2⟩ := hX q hr
    obtain ⟨x92, m93, u1, u2, u3, -, u5⟩ := fin m1 C1 R1 P1
    exact ⟨code q, m1, x92, m93, h2 m1, u1, u5 q hr, fun hh => absurd hh h1, u2⟩
theorem law_stepV {F11 : Option ((Int ⊕ Nat) × MM)} {F12 : MM → Option (Int × MM)} {X : Nat → MM → Option (Int × MM)} {code : Nat → Int} {r : (Int ⊕ Nat) × ES} (C : CE m ow ad e) (hR : RXE m e) (hP : P113 m) (hc : OKc e ad F11 r) (hX : ∀ q, r.1 = .inr q → code q ≠ 0 ∧ ∀ M, X q M = some (code q, M)) (f11 : ∀ rr rm, F11 = some (rr, rm) → Fr W1 0 m rm) (hW1 : clW W1 = true) (hx : ∀ m1, RXE m1 e → P113 m1 → OKr (F12 m1) code r) (f12 : ∀ m1 rz rm, Fix m1 → F12 m1 = some (rz, rm) → Fr W2 0 m1 rm) (hW2 : (rfW W2 && !W2.contains (9, 0, 0)) = true) (hP2 : ∀ m1 rz rm, P113 m1 → RXE m1 e → F12 m1 = some (rz, rm) → P113 rm) : ∃ x48 m49 x92 m93, bx F11 X (fun x_4 m_5 => some (0, m_5)) = some (x48, m49) ∧ F12 m49 = some (x92, m93) ∧ m93 68 129 = x48 ∧ RLm m93 r.2 := by
  obtain ⟨m1, ad1, g1, ⟨ow1, C1⟩, -⟩ := hc
  have fr1 := f11 _ _ g1
  have sm1 : SmR m m1 := SmR.cl hW1 fr1
  have R1 : RXE m1 e := hR.nn C.cn sm1
  have P1 : P113 m1 := ⟨fr1.fix, by rw [sm1 68 113 (by decide) (by decide) (by decide)]; exact hP.2⟩
  rw [Bool.and_eq_true, Bool.not_eq_true'] at hW2
  have fin : ∀ m49, CE m49 ow1 ad1 r.2 → RXE m49 e → P113 m49 → ∃ x92 m93, F12 m49 = some (x92, m93) ∧ RLm m93 r.2 ∧ m93 162 0 = m49 162 0 ∧ (∀ z, r.1 = .inl z → x92 = z ∧ m93 68 129 = 0) ∧ ∀ q, r.1 = .inr q → m93 68 129 = code q := fun m49 C2 R2 P2 => by
    obtain ⟨x92, m93, u1, u2, u3, u4⟩ := hx m49 R2 P2
    have fr2 := f12 m49 x92 m93 P2.1 u1
    refine ⟨x92, m93, u1, ⟨ow1, ad1, C2.rfx hW2.1 fr2 ((fr2.2.2.2.2 hW2.2).2.2.trans C2.m1), u2, hP2 m49 x92 m93 P2 R2 u1⟩, ?_, u3, u4⟩
    exact fr2.2.2.2.1 162 0 (by decide) (by have := P2.1.1; omega) (by decide) fun hw => by
      have := rf_at hW2.1 (by decide) hw
      omega
  rw [g1]
  rcases hr : r.1 with z | q
  · obtain ⟨x92, m93, u1, u2, u3, u4, -⟩ := fin m1 C1 R1 P1
    exact ⟨0, m1, x92, m93, rfl, u1, (u4 z hr).2, u2⟩
  · obtain ⟨h1, h2⟩ := hX q hr
    obtain ⟨x92, m93, u1, u2, u3, -, u5⟩ := fin m1 C1 R1 P1
    exact ⟨code q, m1, x92, m93, h2 m1, u1, u5 q hr, u2⟩
end LWS
