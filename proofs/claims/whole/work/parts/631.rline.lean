/-! THE TELLING in the reference: the lines, one by one (made by gen631.py). -/
section RF12
variable {m0 m m' : MM} {x : CX} {s s' : TS} {B H : Int} {a b c e i j v k h n l w p r t o rh E ty ver rc : Int} {G : Int → Nat}
/-- a branch that goes on comes to a line -/
theorem RR.nx (h : RR m0 m x s rh E H) (h0 : 0 ≤ k) (h1 : k < sg s 0 5) (h7 : sg s (2 + k) 7 = 0) (h9 : sg s (2 + k) 9 = 0) : RR m0 (mset m 144 k l) x (sGo k l s) rh E H := by
  have hg := h.go (l := l) h0 h1
  have e := ((h.br h0 h1).2.2.2.2.2.2.2 h9).1
  rw [h7] at e
  have e2 := mset_same (m := m) (a := 145) (j := k)
  rw [e] at e2
  rw [show wmp 0 = 0 from rfl] at e2
  rw [e2] at hg
  exact hg

noncomputable def dsL (p1 x_36 x_84 x_55 x_69 : Int) (m0 : MM) : Option (Int × MM) := if x_84 = 0 then
gd (0 ≤ x_55 ∧ x_55 < 6) <| up m0 142 x_55 x_69 fun m_92 =>
lx (m_92 144 p1) fun x_105 =>
up m_92 144 p1 (w32 (x_105 + 1)) fun m_111 =>
some (0, m_111)
else if x_84 = 1 then
gd (0 ≤ x_55 ∧ x_55 < 6) <| lx (m0 142 x_55) fun x_130 =>
gd (0 ≤ x_69 ∧ x_69 < 6) <| lx (m0 142 x_69) fun x_139 =>
up m0 142 x_55 (Int.tmod (w32 (x_130 + x_139)) 1000) fun m_147 =>
lx (m_147 144 p1) fun x_160 =>
up m_147 144 p1 (w32 (x_160 + 1)) fun m_166 =>
some (0, m_166)
else if x_84 = 2 then
gd (0 ≤ x_69 ∧ x_69 < 6) <| lx (m0 142 x_69) fun x_186 =>
bd (fm_X12_commands 8 x_55 x_186 m0) fun x_189 m_190 =>
bd (fm_X12_awaits p1 1 x_189 x_69 m_190) fun x_201 m_202 =>
some (0, m_202)
else if x_84 = 3 then
bd (fm_X12_commands 9 x_55 0 m0) fun x_221 m_222 =>
bd (fm_X12_awaits p1 1 x_221 (-1) m_222) fun x_235 m_236 =>
some (0, m_236)
else if x_84 = 4 then
bd (fm_X12_awaits p1 2 x_55 x_69 m0) fun x_251 m_252 =>
some (0, m_252)
else if x_84 = 5 then
gd (0 ≤ x_69 ∧ x_69 < 6) <| lx (m0 142 x_69) fun x_275 =>
bd (fm_X12_commands 10 x_55 x_275 m0) fun x_278 m_279 =>
bd (fm_X12_awaits p1 1 x_278 x_69 m_279) fun x_290 m_291 =>
some (0, m_291)
else if x_84 = 6 then
gd (0 ≤ x_55 ∧ x_55 < 6) <| lx (m0 142 x_55) fun x_313 =>
if x_313 = 0 then
up m0 144 p1 x_69 fun m_333 =>
some (0, m_333)
else
up m0 144 p1 (w32 (x_36 + 1)) fun m_326 =>
some (0, m_326)
else if x_84 = 7 then
up m0 144 p1 x_55 fun m_345 =>
some (0, m_345)
else if x_84 = 8 then
up m0 144 p1 (w32 (x_36 + 1)) fun m_364 =>
lx (m_364 143 p1) fun x_377 =>
bd (fm_X12_begins x_55 x_377 m_364) fun x_380 m_381 =>
some (0, m_381)
else if x_84 = 9 then
up m0 145 p1 3 fun m_398 =>
some (0, m_398)
else if x_84 = 10 then
up m0 144 p1 (w32 (x_36 + 1)) fun m_417 =>
bd (fm_X12_races p1 x_55 m_417) fun x_425 m_426 =>
some (0, m_426)
else if x_84 = 11 then
bd (fm_X12_wins p1 m0) fun x_439 m_440 =>
some (0, m_440)
else 
bd (fm_X12_doesMore p1 x_84 x_55 x_69 m0) fun x_457 m_458 =>
some (0, m_458)
theorem does_0 (h : RR m0 m x s rh E H) (R : RC m0 x G r ty ver rh rc) (k0 : 0 ≤ k) (k1 : k < sg s 0 5) (hl0 : 0 ≤ sg s (2 + k) 4) (hl : sg s (2 + k) 4 < x.1 5) : fm_X12_does k m = dsL k (sg s (2 + k) 4) (x.2.2 (sg s (2 + k) 4)).1 (x.2.2 (sg s (2 + k) 4)).2.1 (x.2.2 (sg s (2 + k) 4)).2.2 m := by
  have R1 := R.to h.1
  obtain ⟨⟨r1, r2, r3⟩, ⟨r4, r5, r6⟩, ⟨r7, r8, r9⟩, r10, r11, -, -, -, -, r12, -⟩ := R1
  obtain ⟨q1, q2, q3⟩ := r12 _ hl0 hl
  have e144 := (h.br k0 k1).2.1
  have h5 := h.2.2.2.2.1.1
  unfold fm_X12_does fm_X12_code
  simp only [lx_p]
  rw [r1, gd_t ⟨r2, r3⟩, r7, r4, w32_id (z := 5 * ty) (by omega) (by omega), w32_id (z := 5 * ty + ver) (by omega) (by omega), w32_id (z := 24 * (5 * ty + ver)) (by omega) (by omega)]
  show (gd (0 ≤ k ∧ k < 12) _) = _
  rw [gd_t ⟨k0, by omega⟩, e144, w32_id (z := 24 * (5 * ty + ver) + sg s (2 + k) 4) (by omega) (by omega), gd_t ⟨by omega, by omega⟩, q1, q2, q3]
  unfold dsL
  simp only [lx_p]
theorem ds0 {p1 x_36 x_55 x_69 : Int} : dsL p1 x_36 0 x_55 x_69 m0 = (gd (0 ≤ x_55 ∧ x_55 < 6) <| up m0 142 x_55 x_69 fun m_92 =>
lx (m_92 144 p1) fun x_105 =>
up m_92 144 p1 (w32 (x_105 + 1)) fun m_111 =>
some (0, m_111)) := rfl
theorem ds1 {p1 x_36 x_55 x_69 : Int} : dsL p1 x_36 1 x_55 x_69 m0 = (gd (0 ≤ x_55 ∧ x_55 < 6) <| lx (m0 142 x_55) fun x_130 =>
gd (0 ≤ x_69 ∧ x_69 < 6) <| lx (m0 142 x_69) fun x_139 =>
up m0 142 x_55 (Int.tmod (w32 (x_130 + x_139)) 1000) fun m_147 =>
lx (m_147 144 p1) fun x_160 =>
up m_147 144 p1 (w32 (x_160 + 1)) fun m_166 =>
some (0, m_166)) := rfl
theorem ds2 {p1 x_36 x_55 x_69 : Int} : dsL p1 x_36 2 x_55 x_69 m0 = (gd (0 ≤ x_69 ∧ x_69 < 6) <| lx (m0 142 x_69) fun x_186 =>
bd (fm_X12_commands 8 x_55 x_186 m0) fun x_189 m_190 =>
bd (fm_X12_awaits p1 1 x_189 x_69 m_190) fun x_201 m_202 =>
some (0, m_202)) := rfl
theorem ds3 {p1 x_36 x_55 x_69 : Int} : dsL p1 x_36 3 x_55 x_69 m0 = (bd (fm_X12_commands 9 x_55 0 m0) fun x_221 m_222 =>
bd (fm_X12_awaits p1 1 x_221 (-1) m_222) fun x_235 m_236 =>
some (0, m_236)) := rfl
theorem ds4 {p1 x_36 x_55 x_69 : Int} : dsL p1 x_36 4 x_55 x_69 m0 = (bd (fm_X12_awaits p1 2 x_55 x_69 m0) fun x_251 m_252 =>
some (0, m_252)) := rfl
theorem ds5 {p1 x_36 x_55 x_69 : Int} : dsL p1 x_36 5 x_55 x_69 m0 = (gd (0 ≤ x_69 ∧ x_69 < 6) <| lx (m0 142 x_69) fun x_275 =>
bd (fm_X12_commands 10 x_55 x_275 m0) fun x_278 m_279 =>
bd (fm_X12_awaits p1 1 x_278 x_69 m_279) fun x_290 m_291 =>
some (0, m_291)) := rfl
theorem ds6 {p1 x_36 x_55 x_69 : Int} : dsL p1 x_36 6 x_55 x_69 m0 = (gd (0 ≤ x_55 ∧ x_55 < 6) <| lx (m0 142 x_55) fun x_313 =>
if x_313 = 0 then
up m0 144 p1 x_69 fun m_333 =>
some (0, m_333)
else
up m0 144 p1 (w32 (x_36 + 1)) fun m_326 =>
some (0, m_326)) := rfl
theorem ds7 {p1 x_36 x_55 x_69 : Int} : dsL p1 x_36 7 x_55 x_69 m0 = (up m0 144 p1 x_55 fun m_345 =>
some (0, m_345)) := rfl
theorem ds8 {p1 x_36 x_55 x_69 : Int} : dsL p1 x_36 8 x_55 x_69 m0 = (up m0 144 p1 (w32 (x_36 + 1)) fun m_364 =>
lx (m_364 143 p1) fun x_377 =>
bd (fm_X12_begins x_55 x_377 m_364) fun x_380 m_381 =>
some (0, m_381)) := rfl
theorem ds9 {p1 x_36 x_55 x_69 : Int} : dsL p1 x_36 9 x_55 x_69 m0 = (up m0 145 p1 3 fun m_398 =>
some (0, m_398)) := rfl
theorem ds10 {p1 x_36 x_55 x_69 : Int} : dsL p1 x_36 10 x_55 x_69 m0 = (up m0 144 p1 (w32 (x_36 + 1)) fun m_417 =>
bd (fm_X12_races p1 x_55 m_417) fun x_425 m_426 =>
some (0, m_426)) := rfl
theorem ds11 {p1 x_36 x_55 x_69 : Int} : dsL p1 x_36 11 x_55 x_69 m0 = (bd (fm_X12_wins p1 m0) fun x_439 m_440 =>
some (0, m_440)) := rfl
theorem dm12 {p1 p3 p4 : Int} : fm_X12_doesMore p1 12 p3 p4 m0 = (lx (m0 68 103) fun x_9 =>
gd (0 ≤ p1 ∧ p1 < 12) <| lx (m0 148 p1) fun x_20 =>
gd (0 ≤ x_9 ∧ x_9 < 196608) <| up m0 153 x_9 (w32 ((w32 (24 * (w32 (x_20 + 1)))) + p3)) fun m_31 =>
lx (m_31 68 103) fun x_44 =>
up m_31 148 p1 x_44 fun m_46 =>
lx (m_46 68 103) fun x_56 =>
up m_46 68 103 (w32 (x_56 + 1)) fun m_62 =>
lx (m_62 144 p1) fun x_75 =>
up m_62 144 p1 (w32 (x_75 + 1)) fun m_81 =>
some (0, m_81)) := rfl
theorem ds12 {p1 x_36 x_55 x_69 : Int} : dsL p1 x_36 12 x_55 x_69 m0 = (bd (fm_X12_doesMore p1 12 x_55 x_69 m0) fun x_457 m_458 => some (0, m_458)) := rfl
theorem dm13 {p1 p3 p4 : Int} : fm_X12_doesMore p1 13 p3 p4 m0 = (gd (0 ≤ p1 ∧ p1 < 12) <| lx (m0 148 p1) fun x_100 =>
if x_100 = (-1) then
fj_X12_doesMore_150 p1 (-1) p1 m0
else
gd (0 ≤ x_100 ∧ x_100 < 196608) <| lx (m0 153 x_100) fun x_118 =>
fj_X12_doesMore_150 p1 (w32 ((w32 (Int.tdiv x_118 24)) - 1)) p1 m0) := rfl
theorem ds13 {p1 x_36 x_55 x_69 : Int} : dsL p1 x_36 13 x_55 x_69 m0 = (bd (fm_X12_doesMore p1 13 x_55 x_69 m0) fun x_457 m_458 => some (0, m_458)) := rfl
theorem dm14 {p1 p3 p4 : Int} : fm_X12_doesMore p1 14 p3 p4 m0 = (lx (m0 68 105) fun x_166 =>
gd (0 ≤ p4 ∧ p4 < 6) <| lx (m0 142 p4) fun x_177 =>
gd (0 ≤ x_166 ∧ x_166 < 196608) <| up m0 154 x_166 (w32 ((w32 (10 * x_177)) + p3)) fun m_184 =>
lx (m_184 68 105) fun x_194 =>
up m_184 68 105 (w32 (x_194 + 1)) fun m_200 =>
gd (0 ≤ p1 ∧ p1 < 12) <| lx (m_200 144 p1) fun x_214 =>
up m_200 144 p1 (w32 (x_214 + 1)) fun m_220 =>
some (0, m_220)) := rfl
theorem ds14 {p1 x_36 x_55 x_69 : Int} : dsL p1 x_36 14 x_55 x_69 m0 = (bd (fm_X12_doesMore p1 14 x_55 x_69 m0) fun x_457 m_458 => some (0, m_458)) := rfl
theorem dm15 {p1 p3 p4 : Int} : fm_X12_doesMore p1 15 p3 p4 m0 = (bd (fm_X12_undoes p1 m0) fun x_230 m_231 =>
some (0, m_231)) := rfl
theorem ds15 {p1 x_36 x_55 x_69 : Int} : dsL p1 x_36 15 x_55 x_69 m0 = (bd (fm_X12_doesMore p1 15 x_55 x_69 m0) fun x_457 m_458 => some (0, m_458)) := rfl
theorem dm16 {p1 p3 p4 : Int} : fm_X12_doesMore p1 16 p3 p4 m0 = (bd (fm_X12_endsBranch p1 m0) fun x_244 m_245 =>
some (0, m_245)) := rfl
theorem ds16 {p1 x_36 x_55 x_69 : Int} : dsL p1 x_36 16 x_55 x_69 m0 = (bd (fm_X12_doesMore p1 16 x_55 x_69 m0) fun x_457 m_458 => some (0, m_458)) := rfl
theorem dm17 {p1 p3 p4 : Int} : fm_X12_doesMore p1 17 p3 p4 m0 = (bd (fm_X12_failsBranch p1 m0) fun x_258 m_259 =>
some (0, m_259)) := rfl
theorem ds17 {p1 x_36 x_55 x_69 : Int} : dsL p1 x_36 17 x_55 x_69 m0 = (bd (fm_X12_doesMore p1 17 x_55 x_69 m0) fun x_457 m_458 => some (0, m_458)) := rfl
theorem dm18 {p1 p3 p4 : Int} : fm_X12_doesMore p1 18 p3 p4 m0 = (gd (0 ≤ p3 ∧ p3 < 6) <| lx (m0 142 p3) fun x_280 =>
bd (fm_X12_endsRun 16 x_280 m0) fun x_283 m_284 =>
some (0, m_284)) := rfl
theorem ds18 {p1 x_36 x_55 x_69 : Int} : dsL p1 x_36 18 x_55 x_69 m0 = (bd (fm_X12_doesMore p1 18 x_55 x_69 m0) fun x_457 m_458 => some (0, m_458)) := rfl
theorem dm19 {p1 p3 p4 : Int} : fm_X12_doesMore p1 19 p3 p4 m0 = (bd (fm_X12_patches p1 p3 p4 m0) fun x_297 m_298 =>
some (0, m_298)) := rfl
theorem ds19 {p1 x_36 x_55 x_69 : Int} : dsL p1 x_36 19 x_55 x_69 m0 = (bd (fm_X12_doesMore p1 19 x_55 x_69 m0) fun x_457 m_458 => some (0, m_458)) := rfl
theorem dm20 {p1 p3 p4 : Int} : fm_X12_doesMore p1 20 p3 p4 m0 = (lx (m0 68 118) fun x_316 =>
gd (0 ≤ p3 ∧ p3 < 6) <| up m0 142 p3 x_316 fun m_319 =>
gd (0 ≤ p1 ∧ p1 < 12) <| lx (m_319 144 p1) fun x_333 =>
up m_319 144 p1 (w32 (x_333 + 1)) fun m_339 =>
some (0, m_339)) := rfl
theorem ds20 {p1 x_36 x_55 x_69 : Int} : dsL p1 x_36 20 x_55 x_69 m0 = (bd (fm_X12_doesMore p1 20 x_55 x_69 m0) fun x_457 m_458 => some (0, m_458)) := rfl
theorem dm21 {p1 p3 p4 : Int} : fm_X12_doesMore p1 21 p3 p4 m0 = (gd (0 ≤ p1 ∧ p1 < 12) <| lx (m0 150 p1) fun x_355 =>
up m0 150 p1 (w32 (x_355 + 1)) fun m_361 =>
lx (m_361 144 p1) fun x_374 =>
up m_361 144 p1 (w32 (x_374 + 1)) fun m_380 =>
some (0, m_380)) := rfl
theorem ds21 {p1 x_36 x_55 x_69 : Int} : dsL p1 x_36 21 x_55 x_69 m0 = (bd (fm_X12_doesMore p1 21 x_55 x_69 m0) fun x_457 m_458 => some (0, m_458)) := rfl
theorem dm22 {p1 p3 p4 : Int} : fm_X12_doesMore p1 22 p3 p4 m0 = (bd (fm_X12_bares p1 m0) fun x_390 m_391 =>
some (0, m_391)) := rfl
theorem ds22 {p1 x_36 x_55 x_69 : Int} : dsL p1 x_36 22 x_55 x_69 m0 = (bd (fm_X12_doesMore p1 22 x_55 x_69 m0) fun x_457 m_458 => some (0, m_458)) := rfl
theorem dm23 {p1 p3 p4 : Int} : fm_X12_doesMore p1 23 p3 p4 m0 = (gd (0 ≤ p3 ∧ p3 < 6) <| lx (m0 142 p3) fun x_410 =>
bd (fm_X12_commands 13 x_410 0 m0) fun x_415 m_416 =>
gd (0 ≤ p1 ∧ p1 < 12) <| lx (m_416 144 p1) fun x_433 =>
up m_416 144 p1 (w32 (x_433 + 1)) fun m_439 =>
some (0, m_439)) := rfl
theorem ds23 {p1 x_36 x_55 x_69 : Int} : dsL p1 x_36 23 x_55 x_69 m0 = (bd (fm_X12_doesMore p1 23 x_55 x_69 m0) fun x_457 m_458 => some (0, m_458)) := rfl
end RF12
