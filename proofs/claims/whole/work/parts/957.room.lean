/-! THE ROOM: it suffices; nothing is left of the law. -/
section ROOMS
variable {m : MM} {ow : Int → Int} {ad : Int → Int → Int} {e : ES} {k S D T A B P W V Z ℓ w Q : Int} {xs : List Int32}
theorem room_num (h1 : 2 * V ≤ S * w) (hSD : V ≤ S * D) (h2 : S + 2 * w ≤ 545) (hw : 1 + B + T + D = w) (s0 : 0 ≤ S) (s1 : S ≤ 513) (d0 : 0 ≤ D) (t0 : 0 ≤ T) (b0 : 0 ≤ B) (b1 : B ≤ 30) (hW : W ≤ 37264) (hQ : Q ≤ 90 * V + 1611 * D + 90 + S + W + 13 * B + 390 * T) : 17 * Q + 61440 * T ≤ 38697088 ∧ 3 * Q + 3840 * T ≤ 8380400 := by
  have m1 : S * w ≤ (545 - 2 * w) * w := mul_up (by omega) (by omega)
  have m2 : (545 - 2 * w) * w = 545 * w - 2 * (w * w) := by rw [Int.sub_mul, Int.mul_assoc]
  have m3 := sq_nn (w - 158)
  have m4 := sq_nn (w - 144)
  rw [Int.sub_mul, Int.mul_sub, Int.mul_sub] at m3 m4
  rw [m2] at m1
  have p1 : S * w = S + S * B + S * T + S * D := by rw [← hw, Int.mul_add, Int.mul_add, Int.mul_add, Int.mul_one]
  have p0 : 0 ≤ S * B := Int.mul_nonneg s0 b0
  have pT : 0 ≤ S * T := Int.mul_nonneg s0 t0
  have p2 : S ≤ 228 → S * D ≤ 228 * D := fun c => mul_up c d0
  have p3 : 229 ≤ S → 229 * T ≤ S * T := fun c => mul_up c t0
  generalize w * w = ww at *
  generalize S * w = sw at *
  generalize S * B = sB at *
  generalize S * T = sT at *
  generalize S * D = sD at *
  by_cases c : S ≤ 228
  · have p4 := p2 c
    clear p2 p3
    exact ⟨by omega, by omega⟩
  · have p4 := p3 (by omega)
    clear p2 p3
    exact ⟨by omega, by omega⟩
theorem room_all (C : CE m ow ad e) (hG : RNA m) (hO : ∀ g : Int → Int → Int, GOK g → OWk g (512 * g 99 0) m) (h : PJ k S D T A B P W V Z ℓ e) (hk : k ≤ 512) : sm (wt 1 0 m) (m 0 0).toNat ≤ 4166676 ∧ sm (wt 0 1 m) (m 0 0).toNat ≤ 544349 := by
  have n7 := C.cn.1
  obtain ⟨hn, s0, d0, t0, b0⟩ := (h.n hk).1
  have hz := h.2.2.2.2.2.2.2.2.2.1
  have hS := h.2.2.1
  have hL := h.2.2.2.1
  have hh := h.1.1.1
  obtain ⟨v1, -, -, -⟩ := hL.vw n7.2
  obtain ⟨-, hW, -⟩ := hL.num hh (by omega)
  obtain ⟨⟨⟨-, a0, b1⟩, -⟩, ⟨-, ⟨p0, -⟩, vd⟩, -, -, h5, h6, -⟩ := hL
  have l0 : 0 ≤ LO e := LO_n
  have k0 := QLk_n (e := e)
  have q0 := QV_n hh
  obtain ⟨u1, u2⟩ := room_num (Q := e.1 3 0 - 400000) v1 (by omega) (by omega) rfl s0 (by omega) d0 t0 b0 (by omega) hW (by omega)
  obtain ⟨r1, r2⟩ := row_sum C hO (fun i i0 i1 => (hS.1.2 i i0 i1).2) t0
  obtain ⟨y1, y2⟩ := lst_sum C hG hO
  obtain ⟨o1, o2⟩ := own_sum C hO
  have w1 : sm (wt 1 0 m) (m 0 0).toNat ≤ sm (fun i => (rwp 1 0 m i + lwp 1 0 m i) + own 1 0 m i) (m 0 0).toNat := sm_le fun i _ _ => wt_le
  have w2 : sm (wt 0 1 m) (m 0 0).toNat ≤ sm (fun i => (rwp 0 1 m i + lwp 0 1 m i) + own 0 1 m i) (m 0 0).toNat := sm_le fun i _ _ => wt_le
  rw [sm_add, sm_add] at w1 w2
  exact ⟨by omega, by omega⟩
/-- nothing is left -/
theorem left_all (h : xs.length ≤ 3584) : LeftR xs := left_oc (fun k rm e hk R hI hO hG => by
  obtain ⟨ow, ad, C, -, -⟩ := R
  obtain ⟨S, D, T, A, B, P, W, V, Z, ℓ, h⟩ := hI
  exact room_all C hG.1 hO h (by omega)) h
end ROOMS
