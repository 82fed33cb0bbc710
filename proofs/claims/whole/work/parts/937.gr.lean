/-! THE ROOM, without any plain state: what each method keeps, as part of what it leaves as it was. -/
section GRA
variable {m m1 mb : MM} {al be C a b j k r v z e : Int} {W W' : List (Int × Int × Int)}
def Gr (W : List (Int × Int × Int)) (e : Int) (m m' : MM) : Prop := Fr W e m m' ∧ ∀ al be C : Int, 0 ≤ al → 0 ≤ be → GI al be C m → GI al be C m'
theorem saf_k {kd : Nat} (h : kd ≠ 6 ∧ kd ≠ 108 ∧ kd ≠ 0) : saf kd j := ⟨Or.inl h.1, h.2.1, Or.inl h.2.2⟩
theorem Gr.fix (w : Gr W e mb m) : Fix m := w.1.fix
theorem Gr.ext (w : Gr W e mb m) : Ext mb m := w.1.ext
theorem Gr.rf (hF : Fix m) : Gr W e m m := ⟨Fr.rf hF, fun _ _ _ _ _ h => h⟩
theorem Gr.nge (w : Gr W e mb m) (ez : z = m 0 0) : mb 0 0 ≤ z := w.1.nge ez
theorem Gr.upE {kd : Nat} (w : Gr W a mb m) (em : m1 = mset m a j v) (xe : Ext m m1) (ha : 4 ≤ a) (fx : Fix (mset m a j v)) (ok : okc m a kd) (hj : 0 ≤ j) (s : saf kd j) : Gr W a mb m1 := ⟨w.1.upE em xe ha fx, fun al be C h1 h2 h => by rw [em]; exact (w.2 al be C h1 h2 h).ms ok hj s⟩
theorem Gr.upC {y : Int} {kd : Nat} (w : Gr W e mb m) (em : m1 = mset m a j v) (xe : Ext m m1) (ha : 4 ≤ a) (fx : Fix (mset m a j v)) (hy : y = -9 ∨ y = j) (hm : W.contains (0, a, y) = true) (ok : okc m a kd) (hj : 0 ≤ j) (s : saf kd j) : Gr W e mb m1 := ⟨w.1.upC em xe ha fx hy hm, fun al be C h1 h2 h => by rw [em]; exact (w.2 al be C h1 h2 h).ms ok hj s⟩
theorem Gr.upK {y : Int} {kd kd' : Nat} (w : Gr W e mb m) (em : m1 = mset m a j v) (xe : Ext m m1) (ha : 4 ≤ a) (fx : Fix (mset m a j v)) (ok' : okc m a kd') (hy : y = -9 ∨ y = j) (hm : W.contains (1, (kd' : Int), y) = true) (ok : okc m a kd) (hj : 0 ≤ j) (s : saf kd j) : Gr W e mb m1 := ⟨w.1.upK em xe ha fx ok' hy hm, fun al be C h1 h2 h => by rw [em]; exact (w.2 al be C h1 h2 h).ms ok hj s⟩
theorem Gr.upA {kd : Nat} (w : Gr W e mb m) (em : m1 = mset m a j v) (xe : Ext m m1) (ha : 4 ≤ a) (fx : Fix (mset m a j v)) (ok' : okc m a 101) (h163 : 163 ≤ a) (hm : W.contains (3, 101, -9) = true) (ok : okc m a kd) (hj : 0 ≤ j) (s : saf kd j) : Gr W e mb m1 := ⟨w.1.upA em xe ha fx ok' h163 hm, fun al be C h1 h2 h => by rw [em]; exact (w.2 al be C h1 h2 h).ms ok hj s⟩
theorem Gr.nw {kd : Nat} {ln : Int} (w : Gr W e mb m) (em : m1 = mnew m (kd : Int) ln) (hm : W.contains (9, 0, 0) = true) (hl : 0 ≤ ln ∧ ln < 2147483648) (hk : kd ≠ 99 ∧ kd ≠ 101 ∧ kd ≠ 107 ∧ kd ≠ 108) : Gr W e mb m1 := ⟨w.1.nw em hm, fun al be C h1 h2 h => by rw [em]; exact (w.2 al be C h1 h2 h).nw w.1.fix hl hk⟩
theorem Gr.thr (w : Gr W e mb m) (hm : W.contains (9, 0, 0) = true) : Gr W e mb (mthr m) := ⟨w.1.thr hm, fun al be C h1 h2 h => (w.2 al be C h1 h2 h).thr w.1.fix⟩
theorem Gr.trS (w : Gr W e mb m) (f : Gr W e m m1) : Gr W e mb m1 := ⟨w.1.trS f.1, fun al be C h1 h2 h => f.2 al be C h1 h2 (w.2 al be C h1 h2 h)⟩
theorem Gr.tr0 (w : Gr W e mb m) (f : Gr W' 0 m m1) (hs : (W'.all fun w => W.contains w) = true) : Gr W e mb m1 := ⟨w.1.tr0 f.1 hs, fun al be C h1 h2 h => f.2 al be C h1 h2 (w.2 al be C h1 h2 h)⟩
theorem Gr.trN (w : Gr W e mb m) (f : Gr W' a m m1) (hn : mb 0 0 ≤ a) (hs : (W'.all fun w => W.contains w) = true) : Gr W e mb m1 := ⟨w.1.trN f.1 hn hs, fun al be C h1 h2 h => f.2 al be C h1 h2 (w.2 al be C h1 h2 h)⟩
theorem Gr.trE (w : Gr W e mb m) (f : Gr W' e m m1) (hs : (W'.all fun w => W.contains w) = true) : Gr W e mb m1 := ⟨w.1.trE f.1 hs, fun al be C h1 h2 h => f.2 al be C h1 h2 (w.2 al be C h1 h2 h)⟩
theorem gw_X5_init {m0 : MM} {p0 : Int} {rz : Int} {rm : MM} (hF : Fix m0) (g0 : okc m0 p0 6) (h : fm_X5_init p0 m0 = some (rz, rm)) (h4 : m0 p0 0 < 4) : Gr fW_X5_init p0 m0 rm := ⟨fw_X5_init hF g0 h, fun _ _ _ h1 _ G => gi_init h1 hF g0 h4 G h⟩
theorem gw_X5_add {m0 : MM} {p0 p1 : Int} {rz : Int} {rm : MM} (hF : Fix m0) (g0 : okc m0 p0 6) (h : fm_X5_add p0 p1 m0 = some (rz, rm)) : Gr fW_X5_add 0 m0 rm := ⟨fw_X5_add hF g0 h, fun _ _ _ h1 h2 G => gi_add h1 h2 hF g0 G h⟩
theorem gw_X5_cut {m0 : MM} {p0 p1 : Int} {rz : Int} {rm : MM} (hF : Fix m0) (g0 : okc m0 p0 6) (h : fm_X5_cut p0 p1 m0 = some (rz, rm)) : Gr fW_X5_cut 0 m0 rm := ⟨fw_X5_cut hF g0 h, fun _ _ _ h1 h2 G => gi_cut h1 h2 hF g0 G h⟩
theorem gw_Jx4a65c_add_9ea2d {m0 : MM} {p0 p1 : Int} {rz : Int} {rm : MM} (hF : Fix m0) (g0 : okc m0 p0 0) (h : fm_Jx4a65c_add_9ea2d p0 p1 m0 = some (rz, rm)) : Gr fW_Jx4a65c_add_9ea2d 0 m0 rm := ⟨fw_Jx4a65c_add_9ea2d hF g0 h, fun _ _ _ h1 h2 G => gi_ladd h1 h2 hF g0 G h⟩
end GRA
