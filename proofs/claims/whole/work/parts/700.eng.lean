/-! THE ENGINE: the plain engine's state, and how the class's memory stands for it. Codes of what lies in memory: 4 the engine, 7 to 10 the lists, 11 to 13 arrays, 14 the row of tags, 16 the machine, 48 + 4k the types, 49 + 4k their lists, 64 + k the kinds, 68 all that is the reference's, 162 the law's; 7000 + i a run, 71000 + i its history, 73000, 74000, 75000 + i its timers, dues, lost; 8000 + i an activity; 9000 + i a task; 10000 + i a schedule; (48 + 4k) * 1000 + v a version's row, the last one the draft. -/
section EN1
/-- scalars (by code and slot), the histories, the rows' numbers (by code), the machine's state, a bound of it -/
abbrev ES := MM × (Int → Int → Ev) × (Int → List Int) × TS × Int
def eS (e : ES) (a j v : Int) : ES := (mset e.1 a j v, e.2)
def eH (e : ES) (r : Int) : Int → Ev := e.2.1 r
def eHs (e : ES) (r : Int) (E : Int → Ev) : ES := (e.1, fun i => if i = r then E else e.2.1 i, e.2.2)
def eL (e : ES) (c : Int) : List Int := e.2.2.1 c
def eLs (e : ES) (c : Int) (l : List Int) : ES := (e.1, e.2.1, fun i => if i = c then l else e.2.2.1 i, e.2.2.2)
def eT (e : ES) : TS := e.2.2.2.1
def eB (e : ES) : Int := e.2.2.2.2
/-- a run that is closed; its history is never changed any more -/
def Dead (e : ES) (i : Int) : Prop := e.1 (7000 + i) 6 ≠ 0 ∧ e.1 (7000 + i) 6 ≠ 6
def Fz (e : ES) (o : Int) : Prop := ∃ i : Int, 0 ≤ i ∧ i < e.1 7 2 ∧ o = 71000 + i ∧ Dead e i
/-- the first n values -/
def lsq (n : Int) (f : Int → Int) : List Int := (List.range n.toNat).map fun i : Nat => f (i : Int)
def KGl (m : MM) (ow : Int → Int) (e : ES) (o : Int) : Prop := ow o = o ∧ ∀ j : Int, ((o = 4 ∧ 11 ≤ j ∧ j ≤ 17) ∨ (11 ≤ o ∧ o ≤ 13 ∧ 0 ≤ j ∧ j < 3) ∨ (64 ≤ o ∧ o ≤ 67 ∧ 0 ≤ j ∧ j < 5)) → m o j = e.1 o j
def KMac (m : MM) (ow : Int → Int) (ad : Int → Int → Int) (e : ES) : Prop := CR m m (eT e) (eB e) ∧ (∀ a, Mfp m a → ow a = 16) ∧ m 16 7 = (if e.1 16 7 < 0 then 0 else ad 7 (e.1 16 7)) ∧ e.1 16 7 < e.1 7 2
def KTyp (m : MM) (ow : Int → Int) (ad : Int → Int → Int) (e : ES) (t : Int) : Prop := ow t = t ∧ m t 1 = ad t (e.1 (t + 1) 2) ∧ m t 2 = e.1 t 2
def KLst (m : MM) (ow : Int → Int) (e : ES) (c : Int) (f : Int → Int) : Prop := LI m c (lsq (e.1 c 2) f) ∧ 0 ≤ e.1 c 2 ∧ ow c = c ∧ (m c 1 ≠ 1 → ow (m c 1) = c)
def KRow (m : MM) (ow : Int → Int) (ad : Int → Int → Int) (e : ES) (c i : Int) : Prop := RowIs m (ad c i) (eL e (1000 * c + i)) ∧ (∀ a, Fp m (ad c i) a → ow a = 1000 * c + i) ∧ m (ad c i) 1 = 0
def KRun (m : MM) (ow : Int → Int) (ad : Int → Int → Int) (e : ES) (i : Int) : Prop := okc m (ad 7 i) 7 ∧ 163 ≤ ad 7 i ∧ ow (ad 7 i) = 7000 + i ∧ (∀ j : Int, 0 ≤ j → j ≤ 15 → m (ad 7 i) j = e.1 (7000 + i) j) ∧ e.1 (7000 + i) 0 = i ∧ m (ad 7 i) 16 = ad 71 i ∧ m (ad 7 i) 17 = ad 73 i ∧ m (ad 7 i) 18 = ad 74 i ∧ m (ad 7 i) 19 = ad 75 i
def KHis (m : MM) (ow : Int → Int) (ad : Int → Int → Int) (e : ES) (i : Int) : Prop := (163 ≤ ad 71 i ∧ ow (ad 71 i) = 71000 + i) ∧ HS m (ad 71 i) (e.1 (71000 + i) 1) (eH e i) ∧ m (ad 71 i) 0 = ad 72 i ∧ 163 ≤ ad 72 i ∧ (∀ a, Op m (ad 72 i) a → ow a = 71000 + i) ∧ ∀ a, Sh m (ad 72 i) a → Fz e (ow a)
def KAct (m : MM) (ow : Int → Int) (ad : Int → Int → Int) (e : ES) (i : Int) : Prop := okc m (ad 8 i) 1 ∧ 163 ≤ ad 8 i ∧ ow (ad 8 i) = 8000 + i ∧ (0 ≤ e.1 (8000 + i) 0 ∧ e.1 (8000 + i) 0 < e.1 7 2) ∧ m (ad 8 i) 0 = ad 7 (e.1 (8000 + i) 0) ∧ ∀ j : Int, 1 ≤ j → j ≤ 10 → m (ad 8 i) j = e.1 (8000 + i) j
def KTsk (m : MM) (ow : Int → Int) (ad : Int → Int → Int) (e : ES) (i : Int) : Prop := okc m (ad 9 i) 10 ∧ 163 ≤ ad 9 i ∧ ow (ad 9 i) = 9000 + i ∧ (0 ≤ e.1 (9000 + i) 1 ∧ e.1 (9000 + i) 1 < e.1 7 2) ∧ m (ad 9 i) 1 = ad 7 (e.1 (9000 + i) 1) ∧ ∀ j : Int, (j = 0 ∨ (2 ≤ j ∧ j ≤ 5)) → m (ad 9 i) j = e.1 (9000 + i) j
def KSch (m : MM) (ow : Int → Int) (ad : Int → Int → Int) (e : ES) (i : Int) : Prop := okc m (ad 10 i) 8 ∧ 163 ≤ ad 10 i ∧ ow (ad 10 i) = 10000 + i ∧ ∀ j : Int, 0 ≤ j → j ≤ 8 → m (ad 10 i) j = e.1 (10000 + i) j
/-- rows that share nothing -/
def LvR (e : ES) (c i : Int) : Prop := (c = 0 ∧ i = 14) ∨ ((c = 48 ∨ c = 52 ∨ c = 56 ∨ c = 60) ∧ 0 ≤ i ∧ i ≤ e.1 (c + 1) 2 ∧ i < 1000) ∨ ((c = 73 ∨ c = 74 ∨ c = 75) ∧ 0 ≤ i ∧ i < e.1 7 2 ∧ i < 1000)
def isT (t : Int) : Prop := t = 48 ∨ t = 52 ∨ t = 56 ∨ t = 60
/-- what holds of a code -/
def Kx (m : MM) (ow : Int → Int) (ad : Int → Int → Int) (e : ES) (o : Int) : Prop :=
  (o = 16 → KMac m ow ad e) ∧
  ((o = 4 ∨ (11 ≤ o ∧ o ≤ 13) ∨ (64 ≤ o ∧ o ≤ 67)) → KGl m ow e o) ∧
  (isT o → KTyp m ow ad e o) ∧
  (isT (o - 1) → KLst m ow e o (ad (o - 1))) ∧
  ((7 ≤ o ∧ o ≤ 10) → KLst m ow e o (ad o)) ∧
  (∀ c i : Int, LvR e c i → o = 1000 * c + i → KRow m ow ad e c i) ∧
  (∀ i : Int, 0 ≤ i → i < e.1 7 2 → i < 1000 → o = 7000 + i → KRun m ow ad e i) ∧
  (∀ i : Int, 0 ≤ i → i < e.1 7 2 → i < 1000 → o = 71000 + i → KHis m ow ad e i) ∧
  (∀ i : Int, 0 ≤ i → i < e.1 8 2 → i < 1000 → o = 8000 + i → KAct m ow ad e i) ∧
  (∀ i : Int, 0 ≤ i → i < e.1 9 2 → i < 1000 → o = 9000 + i → KTsk m ow ad e i) ∧
  ∀ i : Int, 0 ≤ i → i < e.1 10 2 → i < 1000 → o = 10000 + i → KSch m ow ad e i
/-- where the parts of a row end, by its code; of the machine's rows -/
def cpK (c : Int) : Int := if c = 0 then 800 else if c ≤ 60 then 1 else if c = 75 then 64 else 8
def RmX (m : MM) (ad : Int → Int → Int) (e : ES) (o : Int) : Prop := (∀ c i : Int, LvR e c i → o = 1000 * c + i → Cap m (ad c i) (cpK c)) ∧ (o = 16 → ∀ r, Mrow r → Cap m r (mcK r))
/-- a history's parts: q events were put into it, it began with b that were another's, it was cut cu times -/
def RHi (m : MM) (r N q b cu : Int) : Prop := ∃ L : List Int, HP m r L ∧ 64 * (L.length : Int) ≤ q + 128 * cu + 64 + md N ∧ N ≤ b + q ∧ 32 * m (m r 0) (-2) ≤ b + q + 64
def RMh (m : MM) (ad : Int → Int → Int) (e : ES) : Prop := ∃ q b : Int → Int, (∀ i, 0 ≤ q i ∧ 0 ≤ b i ∧ b i ≤ 391000) ∧ sm q 30 + 400000 ≤ e.1 3 0 ∧ ∀ i : Int, 0 ≤ i → i < e.1 7 2 → i < 1000 → RHi m (ad 72 i) (e.1 (71000 + i) 1) (q i) (b i) (e.1 (7000 + i) 9)
/-- the row that is nobody's -/
def KZ (m : MM) (ow : Int → Int) : Prop := (ow 46 = 5 ∧ ow 47 = 5) ∧ m 46 0 = 47 ∧ m 46 1 = 0 ∧ FR m 46
/-- the room -/
def RM (m : MM) (ow : Int → Int) (ad : Int → Int → Int) (e : ES) : Prop := (∀ o, RmX m ad e o) ∧ RMh m ad e ∧ KZ m ow
/-- how many there are -/
def CN (e : ES) : Prop := (0 ≤ e.1 7 2 ∧ e.1 7 2 ≤ 30) ∧ (0 ≤ e.1 8 2 ∧ e.1 8 2 ≤ 60) ∧ (0 ≤ e.1 9 2 ∧ e.1 9 2 ≤ 512) ∧ (0 ≤ e.1 10 2 ∧ e.1 10 2 ≤ 4) ∧ ∀ t, isT t → 0 ≤ e.1 (t + 1) 2 ∧ e.1 (t + 1) 2 ≤ 4
def CB (m : MM) (ow : Int → Int) (ad : Int → Int → Int) (e : ES) : Prop := Fix m ∧ m 1 (-2) = 0 ∧ (∀ a : Int, 68 ≤ a → a ≤ 161 → ow a = 68) ∧ (ow 162 = 162 ∧ ad 0 14 = 14) ∧ CN e ∧ RM m ow ad e
def CE (m : MM) (ow : Int → Int) (ad : Int → Int → Int) (e : ES) : Prop := CB m ow ad e ∧ ∀ o, Kx m ow ad e o
variable {m m' : MM} {ow ow' : Int → Int} {ad ad' : Int → Int → Int} {e e' : ES} {D : Int → Prop} {a b c i j o r v n h N B : Int} {l : List Int} {E : Int → Ev} {s : TS}
/-- nothing is written but what belongs to D -/
def FD (m m' : MM) (ow : Int → Int) (D : Int → Prop) : Prop := Ext m m' ∧ ∀ a j : Int, 4 ≤ a → a < m 0 0 → ¬ D (ow a) → m' a j = m a j
theorem Op.fr (h : RowIs m r l) (hx : Ext m m') (hf : ∀ a j : Int, Fp m r a → 0 ≤ j → m' a j = m a j) : (∀ a, Op m' r a ↔ Op m r a) ∧ ∀ a, Sh m' r a ↔ Sh m r a := by
  have h5 := h.1.2.2.2.2.1
  have e0 : m' r 0 = m r 0 := hf r 0 (Or.inl rfl) (by decide)
  have e1 : m' r 1 = m r 1 := hf r 1 (Or.inl rfl) (by decide)
  have e3 : ∀ i : Int, 0 ≤ i → m' (m r 0) i = m (m r 0) i := fun i hi => hf _ i (Or.inr (Or.inl rfl)) hi
  have el : m' (m r 0) (-2) = m (m r 0) (-2) := (hx.2 _ h.1.2.1.1 h.1.2.1.2.1).2
  refine ⟨fun a => ?_, fun a => ?_⟩
  · unfold Op
    rw [e0, e1, el]
    constructor
    · rintro (g | g | ⟨i, g1, g2, g3, g4⟩)
      · exact Or.inl g
      · exact Or.inr (Or.inl g)
      · rw [e3 i (by omega)] at g3 g4
        exact Or.inr (Or.inr ⟨i, g1, g2, g3, g4⟩)
    · rintro (g | g | ⟨i, g1, g2, g3, g4⟩)
      · exact Or.inl g
      · exact Or.inr (Or.inl g)
      · rw [← e3 i (by omega)] at g3 g4
        exact Or.inr (Or.inr ⟨i, g1, g2, g3, g4⟩)
  · unfold Sh
    rw [e0, e1]
    constructor
    · rintro ⟨i, g1, g2, g3⟩
      rw [e3 i g1] at g3
      exact ⟨i, g1, g2, g3⟩
    · rintro ⟨i, g1, g2, g3⟩
      rw [← e3 i g1] at g3
      exact ⟨i, g1, g2, g3⟩
theorem HS.fr (H : HS m h N E) (hx : Ext m m') (hh : ∀ j : Int, 0 ≤ j → m' h j = m h j) (hf : ∀ a j : Int, Fp m (m h 0) a → 0 ≤ j → m' a j = m a j) : HS m' h N E := by
  obtain ⟨⟨h1, h2, l, h3, h4, h5⟩, h6, h7, h8⟩ := H
  refine ⟨⟨hx.ok h1, by rw [hh _ (by decide)]; exact h2, l, by rw [hh _ (by decide)]; exact (h3.fr hx hf).1, h4, h5⟩, by rw [hh _ (by decide)]; exact h6, by rw [hh _ (by decide)]; exact h7, by rw [hh _ (by decide)]; exact h8⟩
theorem okob_x (hx : Ext m m') (h : okob m v) : okob m' v := ⟨h.1, Int.lt_of_lt_of_le h.2.1 hx.1, by rw [(hx.2 v h.1 h.2.1).1]; exact h.2.2⟩
theorem LI.fr (h : LI m r l) (hx : Ext m m') (h1 : ∀ j : Int, 0 ≤ j → m' r j = m r j) (h2 : m r 1 ≠ 1 → ∀ j : Int, 0 ≤ j → m' (m r 1) j = m (m r 1) j) : LI m' r l := by
  obtain ⟨g1, g2, g3, g4, g5⟩ := h
  refine ⟨⟨g1.1, Int.lt_of_lt_of_le g1.2 hx.1⟩, by rw [h1 _ (by decide)]; exact g2, g3, fun v hv => okob_x hx (g4 v hv), ?_⟩
  rw [h1 1 (by decide)]
  rcases g5 with g5 | ⟨k1, k2, k3, k4, k5⟩
  · exact Or.inl g5
  · have hn : m r 1 ≠ 1 := by have := k1.1; omega
    refine Or.inr ⟨hx.ok k1, k2, by rw [(hx.2 _ k1.1 k1.2.1).2]; exact k3, by rw [(hx.2 _ k1.1 k1.2.1).2]; exact k4, fun i v hv => ?_⟩
    rw [h2 hn i (Int.natCast_nonneg i)]
    exact k5 i v hv
theorem CR.fr (h : CR m m s B) (hF : Fix m') (hx : Ext m m') (hf : ∀ a j : Int, Mfp m a → 0 ≤ j → m' a j = m a j) : CR m' m' s B ∧ ∀ a, Mfp m' a ↔ Mfp m a := by
  obtain ⟨h1, h2, ⟨c1, c2, c3⟩, ⟨b1, b2, b3, b4⟩, L, hR, ⟨l1, l2, l3, l4, l5, l6⟩, ⟨-, lC1⟩, -, lC2⟩ := h
  have hc : ∀ a j : Int, Mcel a → 0 ≤ j → m' a j = m a j := fun a j ha hj => hf a j (Or.inl ha) hj
  have c16 : Mcel 16 := Or.inl rfl
  have c17 : Mcel 17 := Or.inr (Or.inl rfl)
  have c18 : Mcel 18 := Or.inr (Or.inr (Or.inl rfl))
  have c19 : Mcel 19 := Or.inr (Or.inr (Or.inr (Or.inl rfl)))
  have c43 : Mcel 43 := Or.inr (Or.inr (Or.inr (Or.inr (Or.inr rfl))))
  have e19 : ∀ k : Int, 0 ≤ k → m' 19 k = m 19 k := fun k hk => hc 19 k c19 hk
  have cB : ∀ k : Int, 0 ≤ k → k < 12 → Mcel (m 19 k) := fun k h0 h1 => Or.inr (Or.inr (Or.inr (Or.inr (Or.inl (b2 k h0 h1)))))
  have hR2 : MRows m m' L := hR.fr hx fun r hr a j ha hj => hf a j (Or.inr ⟨r, hr, ha⟩) hj
  refine ⟨⟨hF, FrM.rf, ⟨fun j g1 g2 => by rw [hc 17 j c17 (by omega)]; exact c1 j g1 g2, fun j g1 g2 => by rw [hc 16 j c16 (by omega)]; exact c2 j g1 g2, fun j g1 g2 => by rw [hc 18 j c18 g1]; exact c3 j g1 g2⟩, ⟨b1, fun k g1 g2 => by rw [e19 k g1]; exact b2 k g1 g2, fun k k' g1 g2 g3 g4 => by rw [e19 k g1, e19 k' g3]; exact b3 k k' g1 g2 g3 g4, fun k j g1 g2 g3 g4 => ?_⟩, L, hR2.re, ⟨l1, l2, by rw [hc 17 4 c17 (by decide)]; exact l3, fun k g1 g2 => ?_, by rw [hc 43 1 c43 (by decide)]; exact l5, l6⟩, ⟨CpS.rf, lC1⟩, CpS.rf, fun q hq => ⟨CpS.rf, (lC2 q hq).2⟩⟩, fun a => ?_⟩
  · rw [e19 k g1, hc _ j (cB k g1 (by omega)) g3]
    exact b4 k j g1 g2 g3 g4
  · rw [e19 k g1, hc _ 10 (cB k g1 (by omega)) (by decide)]
    exact l4 k g1 g2
  · unfold Mfp
    constructor
    · rintro (g | ⟨r, hr, g⟩)
      · exact Or.inl g
      · exact Or.inr ⟨r, hr, (((hR r hr).1.fr hx fun a j ha hj => hf a j (Or.inr ⟨r, hr, ha⟩) hj).2 a).mp g⟩
    · rintro (g | ⟨r, hr, g⟩)
      · exact Or.inl g
      · exact Or.inr ⟨r, hr, (((hR r hr).1.fr hx fun a j ha hj => hf a j (Or.inr ⟨r, hr, ha⟩) hj).2 a).mpr g⟩
end EN1
