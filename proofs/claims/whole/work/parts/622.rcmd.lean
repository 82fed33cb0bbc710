/-! THE TELLING in the reference: commands. -/
section RF3
variable {m0 m m' : MM} {x : CX} {s s' : TS} {B H : Int} {a b c e i j v k h n l w p r t o rh E ty ver rc : Int} {G : Int → Nat}
/-- the way of a telling: all is seen, or what a worker saw -/
def MA (x : CX) (rh rc : Int) : Prop := (0 ≤ rh ∧ rh ≤ x.1 0) ∧ (∀ t : Int, 0 ≤ t → t < rc → tb x t < x.1 0) ∧ rc ≤ x.1 1 ∧ x.1 4 ≠ 1 ∧ ((rh = x.1 0 ∧ rc = x.1 1 ∧ x.1 2 ≤ 0) ∨ (x.1 2 = rc ∧ x.1 3 = rh))
def A2 (x : CX) (s : TS) (rh : Int) : Prop := x.1 1 ≤ sg s 0 10 → rh < x.1 0 → x.1 0 ≤ nc x (sg s 0 12)
/-- what the worker saw was not stuck -/
def KI (x : CX) (s s' : TS) (rc : Int) : Prop := rc ≤ sg s 0 10 → sg s 0 10 < x.1 1 → sg s' 0 30 = 0
/-- not stuck, and all is as told; or stuck -/
def RE (m0 m : MM) (x : CX) (s : TS) (rh E H : Int) : Prop := (sg s 0 30 = 0 ∧ RR m0 m x s rh E H) ∨ (TFr m0 m ∧ sg s 0 30 = 1 ∧ m 68 114 = 1 ∧ m 68 115 = sg s 0 31 ∧ 0 ≤ m 68 91 ∧ m 68 91 ≤ 12)
theorem MA.seen (A : MA x rh rc) (h10 : 0 ≤ sg s 0 10) : (sg s 0 10 < rc ∧ sSeen x s = rh) ∨ sSeen x s = x.1 0 := by
  obtain ⟨a1, a2, a3, a4, a5⟩ := A
  unfold sSeen
  rcases a5 with ⟨b1, b2, b3⟩ | ⟨b1, b2⟩
  · rw [if_neg (by omega)]
    exact Or.inr rfl
  · by_cases q : sg s 0 10 < x.1 2
    · rw [if_pos q]
      exact Or.inl ⟨by omega, b2⟩
    · rw [if_neg q]
      exact Or.inr rfl
theorem mset3 {m : MM} {v1 v2 : Int} : mset (mset m 68 116 v1) 68 116 v2 = mset m 68 116 v2 := by
  funext b j
  by_cases q : b = 68 ∧ j = 116
  · rw [q.1, q.2, ms_e, ms_e]
  · rw [show mset (mset m 68 116 v1) 68 116 v2 b j = mset m 68 116 v1 b j from if_neg q, show mset m 68 116 v1 b j = m b j from if_neg q, show mset m 68 116 v2 b j = m b j from if_neg q]
theorem mset_same {m : MM} {a j : Int} : mset m a j (m a j) = m := by
  funext b i
  by_cases q : b = a ∧ i = j
  · rw [q.1, q.2, ms_e]
  · exact if_neg q
/-- the pointers, with or without a change -/
theorem RR.met (h : RR m0 m x s rh E H) (hp : PT (mset m 68 116 v) x (st s 0 12 w) rh) : RR m0 (mset m 68 116 v) x (st s 0 12 w) rh E H := by
  have e : mset (mset m 68 116 v) 68 125 (m 68 125) = mset m 68 116 v := by
    have := mset_same (m := mset m 68 116 v) (a := 68) (j := 125)
    rw [ms_j (by decide)] at this
    exact this
  have := h.ptr (v1 := v) (v2 := m 68 125) (v3 := w) (by rw [e]; exact hp)
  rw [e] at this
  exact this
theorem RR.tfr (h : RR m0 m x s rh E H) : TFr m0 m := h.1
theorem RR.n91 (h : RR m0 m x s rh E H) : 0 ≤ m 68 91 ∧ m 68 91 ≤ 12 ∧ m 68 91 = sg s 0 5 := by
  have h1 := h.2.1.1
  have h2 := h.2.2.2.2.1.1
  omega
/-- what is new is put behind -/
theorem RR.new (h : RR m0 m x s rh E H) (h30 : sg s 0 30 = 0) (hn : nl s < 65536) : RR m0 (mset (mset (mset m 158 (nl s) (1000 * k + b)) 159 (nl s) a) 68 120 (nl s + 1)) x (stn s (sn s ++ [(k, a, b)])) rh E H := by
  obtain ⟨hT, hS, hV, hP, hB, hQ, hU, hN, hC, hH⟩ := h
  have hnn : 0 ≤ nl s := Int.natCast_nonneg _
  have em : ∀ p q : Int, ¬ (p = 68 ∧ q = 120) → p ≠ 158 → p ≠ 159 → mset (mset (mset m 158 (nl s) (1000 * k + b)) 159 (nl s) a) 68 120 (nl s + 1) p q = m p q := fun p q h1 h2 h3 => by
    rw [show mset (mset (mset m 158 (nl s) (1000 * k + b)) 159 (nl s) a) 68 120 (nl s + 1) p q = mset (mset m 158 (nl s) (1000 * k + b)) 159 (nl s) a p q from if_neg h1, ms_a h3, ms_a h2]
  have en : nl (stn s (sn s ++ [(k, a, b)])) = nl s + 1 := by
    unfold nl
    show ((sn s ++ [(k, a, b)]).length : Int) = _
    rw [List.length_append]
    simp only [List.length_cons, List.length_nil]
    omega
  obtain ⟨s1, s2, s3, s4, s5, s6, s7, s8, s9⟩ := hS
  refine ⟨((hT.ms (mtb1 (by decide) (by decide) hnn)).ms (mtb1 (by decide) (by decide) hnn)).ms (mtb68 (by omega)), ⟨?_, ?_, ?_, ?_, ?_, ?_, ?_, ?_, fun g => ?_⟩, fun a g1 g2 => by rw [em _ _ (by omega) (by decide) (by decide)]; exact hV a g1 g2, fun n g1 g2 => by rw [em _ _ (by omega) (by decide) (by decide)]; exact hP n g1 g2, hB.cg rfl rfl (fun _ _ _ => rfl) (fun _ => rfl) (fun _ => rfl) (fun a j g1 g2 => em _ _ (by omega) (by omega) (by omega)) (fun i _ _ => em _ _ (by omega) (by decide) (by decide)) (by rw [em _ _ (by omega) (by decide) (by decide)]; exact Int.le_refl _), fun n g1 g2 => ?_, ?_, fun i k' a' b' hi => ?_, ?_, ?_⟩
  · rw [em _ _ (by omega) (by decide) (by decide)]; exact s1
  · rw [em _ _ (by omega) (by decide) (by decide)]; exact s2
  · rw [em _ _ (by omega) (by decide) (by decide)]; exact s3
  · rw [em _ _ (by omega) (by decide) (by decide)]; exact s4
  · rw [em _ _ (by omega) (by decide) (by decide)]; exact s5
  · rw [em _ _ (by omega) (by decide) (by decide)]; exact s6
  · rw [em _ _ (by omega) (by decide) (by decide)]; exact s7
  · rw [ms_e, en]
  · exact absurd h30 g
  · rw [em _ _ (by omega) (by decide) (by decide), em _ _ (by omega) (by decide) (by decide)]
    obtain ⟨q1, q2, q3, q4⟩ := hQ n g1 g2
    exact ⟨q1, q2, q3, fun i v hv => by rw [em _ _ (by omega) (by decide) (by decide)]; exact q4 i v hv⟩
  · refine ⟨by rw [em _ _ (by omega) (by decide) (by decide)]; exact hU.1, fun i v hv => ?_⟩
    rw [em _ _ (by omega) (by decide) (by decide), em _ _ (by omega) (by decide) (by decide)]
    exact hU.2 i v hv
  · have hi' : (sn s ++ [(k, a, b)])[i]? = some (k', a', b') := hi
    have n1 : nl s = ((sn s).length : Int) := rfl
    by_cases q : i < (sn s).length
    · rw [List.getElem?_append_left q] at hi'
      have := hN i k' a' b' hi'
      rw [ms_a (show (158 : Int) ≠ 68 by decide), ms_a (show (158 : Int) ≠ 159 by decide), ms_j (show (i : Int) ≠ nl s by omega), ms_a (show (159 : Int) ≠ 68 by decide), ms_j (show (i : Int) ≠ nl s by omega), ms_a (show (159 : Int) ≠ 158 by decide)]
      exact this
    · have hi3 : i = (sn s).length := by
        have := (List.getElem?_eq_some_iff.mp hi').1
        rw [List.length_append] at this
        simp only [List.length_cons, List.length_nil] at this
        omega
      subst hi3
      rw [List.getElem?_append_right (Nat.le_refl _)] at hi'
      simp at hi'
      obtain ⟨rfl, rfl, rfl⟩ := hi'
      rw [← n1]
      rw [ms_a (show (158 : Int) ≠ 68 by decide), ms_a (show (158 : Int) ≠ 159 by decide), ms_e, ms_a (show (159 : Int) ≠ 68 by decide), ms_e]
      exact ⟨rfl, rfl⟩
  · unfold PT at hC ⊢
    rw [em _ _ (by omega) (by decide) (by decide), em _ _ (by omega) (by decide) (by decide)]
    exact hC
  · unfold RH at hH ⊢
    rw [em _ _ (by omega) (by decide) (by decide)]
    exact hH
theorem rcmd (h : RR m0 m x s rh E H) (R : RC m0 x G r ty ver rh rc) (A : MA x rh rc) (hW : SW x s B) (h30 : sg s 0 30 = 0) (ha : m0 68 117 = sg s 0 10 + 1) (hA : A2 x s rh) (hK : KI x s (sCmd x k a b s).2 rc) (k0 : 8 ≤ k) (k1 : k ≤ 16) (a0 : 0 ≤ a) (a1 : a < 524288) (b0 : 0 ≤ b) (b1 : b ≤ 999) (hn : nl s < 65536) : ∃ m' z, fm_X12_commands k a b m = some (z, m') ∧ RE m0 m' x (sCmd x k a b s).2 rh E H ∧ (sg (sCmd x k a b s).2 0 30 = 0 → z = (sCmd x k a b s).1) ∧ A2 x (sCmd x k a b s).2 rh := by
  have h10 := hW.2.2.2.2.2.2.2.2.2
  have h12 := hW.1
  have hnc := nc_b h12.2
  have hA0 := A
  obtain ⟨m1r, m2r, m3r, m4r, m5r⟩ := A
  have hNN := R.2.2.2.2.2.2.2.2.1
  obtain ⟨p1, p2, p3, p4, p5⟩ := h.2.2.2.2.2.2.2.2.1 h30
  have hnn : 0 ≤ nl s := Int.natCast_nonneg _
  generalize hc : nc x (sg s 0 12) = c at p3 p4 p5 hnc
  have ncc : nc x c = c := by rw [← hc]; exact nc_nc h12.1 h12.2
  obtain ⟨m1, z, f1, f2, f3, f4, f5⟩ := rnext R h.1 p1.1 p1.2
  have hT1 : TFr m0 m1 := by rw [f2]; exact h.1.ms (mtb68 (by omega))
  have R1 := R.to hT1
  have e124 := R1.2.2.2.2.2.2.1
  have hseen := hA0.seen (s := s) h10
  have st12 : ∀ v, sg (st s 0 12 v) 0 30 = 0 := fun v => by rw [st_g, if_neg (by decide)]; exact h30
  have h117 : m1 68 117 = sg s 0 10 + 1 := by rw [hT1 68 117 (fun hh => by rcases hh with ⟨-, g⟩ | ⟨g, -⟩ <;> omega)]; exact ha
  -- the memory behind the search for the next command
  by_cases c1 : c < rh
  · have hcs : c < sSeen x s := by
      rcases hseen with ⟨-, g⟩ | g <;> omega
    have hz : z = c ∧ z < rh := by
      rcases f3 with ⟨g1, g2⟩ | ⟨g1, g2, g3⟩
      · exact ⟨by rw [g2]; exact p3 c1, g1⟩
      · have := p3 c1
        omega
    obtain ⟨hz1, hz2⟩ := hz
    subst hz1
    have hi : z < x.1 0 := by omega
    have hz0 : 0 ≤ z := by omega
    have hfin : ∀ m2, m2 = mset m1 68 116 (z + 1) → RR m0 m2 x (st (st s 0 12 z) 0 12 (z + 1)) rh E H := by
      intro m2 hm2
      rw [f2, mset3] at hm2
      have es : st (st s 0 12 z) 0 12 (z + 1) = st s 0 12 (z + 1) := by
        refine Prod.ext ?_ rfl
        funext b j
        show mset (mset s.1 0 12 z) 0 12 (z + 1) b j = mset s.1 0 12 (z + 1) b j
        unfold mset
        split <;> rfl
      rw [es, hm2]
      refine h.met fun _ => ?_
      have hb1 := nc_b (x := x) (a := z + 1) (by omega)
      rw [ms_e, ms_j (by decide), st_g, if_pos ⟨rfl, rfl⟩]
      refine ⟨by omega, p2, fun _ => rfl, fun g => g, ?_⟩
      rw [p5, if_pos c1]
      by_cases q : nc x (z + 1) < rh
      · rw [if_pos q]
      · rw [if_neg q]
        -- no command between z + 1 and rh
        have key : ∀ (n : Nat) (i : Int), (rh - i).toNat = n → i ≤ rh → rh ≤ nc x i → nc x rh = nc x i := by
          intro n
          induction n with
          | zero => intro i g1 g2 g3; rw [show i = rh by omega]
          | succ n ih =>
            intro i g1 g2 g3
            have hir : i < rh := by omega
            have hix : i < x.1 0 := by omega
            have hnk : ¬ (8 ≤ ek (x.2.1 i) ∧ ek (x.2.1 i) ≤ 16) := fun hh => by rw [nc_at hix hh] at g3; omega
            by_cases hneg : 0 ≤ i
            · have hk := R.k17 hneg hix
              rw [nc_u hix hnk hk.2]
              rw [nc_u hix hnk hk.2] at g3
              exact ih (i + 1) (by omega) (by omega) g3
            · have h17 : ek (x.2.1 i) ≤ 17 ∨ ¬ ek (x.2.1 i) ≤ 17 := Classical.em _
              rcases h17 with h17 | h17
              · rw [nc_u hix hnk h17]
                rw [nc_u hix hnk h17] at g3
                exact ih (i + 1) (by omega) (by omega) g3
              · exfalso
                have e : nc x i = i := by
                  unfold nc
                  obtain ⟨n, hn⟩ : ∃ n, (x.1 0 - i).toNat = n + 1 := ⟨(x.1 0 - i).toNat - 1, by omega⟩
                  rw [hn]
                  show (if i < x.1 0 then (if 7 < ek (x.2.1 i) then (if ek (x.2.1 i) = 17 then nxc x n (i + 1) else i) else nxc x n (i + 1)) else i) = _
                  rw [if_pos hix, if_pos (by omega), if_neg (by omega)]
                omega
        exact key _ (z + 1) rfl (by omega) (by omega)
    have hwrong : ∀ m2, m2 = mset (mset (mset m1 68 114 1) 68 115 z) 68 116 (z + 1) → RE m0 m2 x (sStuck (st s 0 12 z) z) rh E H := by
      intro m2 hm2
      right
      have hmt : TFr m0 m2 := by
        rw [hm2]
        exact ((hT1.ms (mtb68 (by omega))).ms (mtb68 (by omega))).ms (mtb68 (by omega))
      have h91 := h.n91
      refine ⟨hmt, rfl, ?_, ?_, ?_, ?_⟩
      · rw [hm2, ms_j (by decide), ms_j (by decide), ms_e]
      · rw [hm2, ms_j (by decide), ms_e]; rfl
      · rw [hm2, ms_j (by decide), ms_j (by decide), ms_j (by decide), f2, ms_j (by decide)]; exact h91.1
      · rw [hm2, ms_j (by decide), ms_j (by decide), ms_j (by decide), f2, ms_j (by decide)]; exact h91.2.1
    have hd : fm_X12_commands k a b m = if eis (x.2.1 z) k a b = true then some (z, mset m1 68 116 (z + 1)) else some (z, mset (mset (mset m1 68 114 1) 68 115 z) 68 116 (z + 1)) := by
      unfold fm_X12_commands fj_X12_commands_63 fj_X12_commands_57 fm_X12_differs fj_X12_commands_63
      simp only [lx_p, up_t]
      rw [bd_t f1, e124.1, if_pos hz2, R1.1.1, bp_t (rkind R1 hz0 hi), bp_t (rx R1 hz0 hi), bp_t (ry R1 hz0 hi), w32_id (by omega) (by omega), bd_t rfl]
      unfold eis
      by_cases q1 : ek (x.2.1 z) = k
      · by_cases q2 : ex (x.2.1 z) = a
        · by_cases q3 : ey (x.2.1 z) = b
          · rw [if_pos q1, if_pos q2, if_pos q3, if_pos (by simp [q1, q2, q3])]
          · rw [if_pos q1, if_pos q2, if_neg q3, if_neg (by simp [q3])]
        · rw [if_pos q1, if_neg q2, if_neg (by simp [q2])]
      · rw [if_neg q1, if_neg (by simp [q1])]
    rw [hd]
    unfold sCmd
    rw [hc, if_pos hcs]
    have hA3 : ∀ v, sg (st (st s 0 12 z) 0 12 v) 0 10 = sg s 0 10 := fun v => by rw [st_g, if_neg (by decide), st_g, if_neg (by decide)]
    by_cases q : eis (x.2.1 z) k a b = true
    · rw [if_pos q, if_pos (Or.inr q)]
      refine ⟨_, z, rfl, Or.inl ⟨by rw [st_g, if_neg (by decide)]; exact st12 _, hfin _ rfl⟩, fun _ => rfl, fun g1 g2 => ?_⟩
      rw [hA3] at g1
      have := hA g1 g2
      rw [hc] at this
      omega
    · rw [if_neg q, if_neg (by rintro (hh | hh); exact m4r hh; exact q hh)]
      refine ⟨_, z, rfl, hwrong _ rfl, fun g => absurd g (by show ¬ ((1 : Int) = 0); decide), fun g1 g2 => ?_⟩
      have e10 : sg (sStuck (st s 0 12 z) z) 0 10 = sg s 0 10 := by
        unfold sStuck
        rw [st_g, if_neg (by decide), st_g, if_neg (by decide), st_g, if_neg (by decide)]
      rw [e10] at g1
      have := hA g1 g2
      rw [hc] at this
      omega
  · have hz : rh ≤ z ∧ z ≤ x.1 0 := by
      rcases f3 with ⟨g1, g2⟩ | ⟨g1, g2, g3⟩
      · have := p4 (by omega)
        omega
      · exact ⟨g1, g3⟩
    rw [if_neg c1] at p5
    have hd : fm_X12_commands k a b m = if rc < sg s 0 10 + 1 then (bd (fm_X12_nextLater m1) fun x_38 m_39 => lx (m_39 68 88) fun x_55 =>
gd (0 ≤ x_55 ∧ x_55 < 30) <| lx (m_39 86 x_55) fun x_61 =>
if x_38 < x_61 then
lx (m_39 68 125) fun x_146 =>
up m_39 68 125 (w32 (x_146 + 1)) fun m_152 =>
lx (m_152 68 125) fun x_162 =>
some (w32 (x_162 - 1), m_152)
else
lx (m_39 68 120) fun x_70 =>
gd (0 ≤ x_70 ∧ x_70 < 65536) <| up m_39 158 x_70 (w32 ((w32 (1000 * k)) + b)) fun m_79 =>
lx (m_79 68 120) fun x_92 =>
gd (0 ≤ x_92 ∧ x_92 < 65536) <| up m_79 159 x_92 a fun m_95 =>
lx (m_95 68 120) fun x_105 =>
up m_95 68 120 (w32 (x_105 + 1)) fun m_111 =>
lx (m_111 68 88) fun x_124 =>
gd (0 ≤ x_124 ∧ x_124 < 30) <| lx (m_111 86 x_124) fun x_130 =>
lx (m_111 68 120) fun x_135 =>
some (w32 ((w32 (x_130 + x_135)) - 1), m_111)) else (bp (fm_X12_firstTask m1) fun x_169 => bd (fm_X12_differs x_169 m1) fun x_178 m_179 => some ((-1), m_179)) := by
      unfold fm_X12_commands
      rw [bd_t f1]
      rw [lx_p, e124.1, if_neg (by omega), lx_p, h117, lx_p, R1.2.2.2.2.2.1]
    have e125 : m1 68 125 = m 68 125 := by rw [f2, ms_j (by decide)]
    have hz0 : 0 ≤ z := by omega
    by_cases c2 : rc < sg s 0 10 + 1
    · rw [if_pos c2] at hd
      obtain ⟨m2, l1, l2⟩ := rlater R hT1 (by rw [e125]; exact p2.1) (by rw [e125]; exact p2.2)
      rw [e125, p5] at l1 l2
      have hT2 : TFr m0 m2 := by rw [l2]; exact hT1.ms (mtb68 (by omega))
      have R2 := R.to hT2
      have hm2 : m2 = mset (mset m 68 116 z) 68 125 c := by rw [l2, f2]
      by_cases c3 : c < x.1 0
      · -- what the worker had seen to come of it
        have hcs : c < sSeen x s := by
          rcases hseen with ⟨g, -⟩ | g <;> omega
        have hct : sg s 0 10 < x.1 1 := by
          by_cases q : sg s 0 10 < x.1 1
          · exact q
          · have := hA (by omega) (by omega)
            omega
        have hok := hK (by omega) hct
        unfold sCmd at hok ⊢
        rw [hc, if_pos hcs] at hok
        rw [hc, if_pos hcs]
        by_cases q : eis (x.2.1 c) k a b = true
        · rw [if_pos (Or.inr q)]
          have hm3 : mset m2 68 125 (c + 1) = mset (mset m 68 116 z) 68 125 (c + 1) := by
            rw [hm2]
            funext b j
            unfold mset
            split <;> rfl
          have hb1 := nc_b (x := x) (a := c + 1) (by omega)
          have es : st (st s 0 12 c) 0 12 (c + 1) = st s 0 12 (c + 1) := by
            refine Prod.ext ?_ rfl
            funext b j
            show mset (mset s.1 0 12 c) 0 12 (c + 1) b j = mset s.1 0 12 (c + 1) b j
            unfold mset
            split <;> rfl
          refine ⟨mset m2 68 125 (c + 1), c, ?_, Or.inl ⟨by rw [st_g, if_neg (by decide)]; exact st12 _, ?_⟩, fun _ => rfl, fun g1 g2 => ?_⟩
          · rw [hd, bd_t l1]
            simp only [lx_p, up_t]
            have e125' : m2 68 125 = c := by rw [l2, ms_e]
            rw [R2.1.1, gd_t ⟨R2.1.2.1, R2.1.2.2⟩, R2.2.2.2.2.2.2.2.1, if_pos c3, e125', w32_id (z := c + 1) (by omega) (by omega), ms_e, w32_id (by omega) (by omega), show c + 1 - 1 = c by omega]
          · rw [hm3, es]
            refine h.ptr fun _ => ?_
            have e1 : mset (mset m 68 116 z) 68 125 (c + 1) 68 116 = z := by rw [ms_j (by decide), ms_e]
            rw [e1, ms_e, st_g, if_pos ⟨rfl, rfl⟩]
            have hzn := nc_b (x := x) (a := z) hz.2
            refine ⟨⟨hz0, hz.2⟩, by omega, fun g => by omega, fun g => by omega, ?_⟩
            rw [if_neg (by omega)]
          · rw [st_g, if_neg (by decide), st_g, if_neg (by decide)] at g1
            omega
        · rw [if_neg (by rintro (hh | hh); exact m4r hh; exact q hh)] at hok
          exact absurd hok (by show ¬ ((1 : Int) = 0); decide)
      · -- new
        have hcN : c = x.1 0 := by omega
        have hns : ¬ c < sSeen x s := by
          rcases hseen with ⟨g1, g2⟩ | g <;> omega
        have hnt : ¬ sg s 0 10 < x.1 1 := by
          intro g
          have hok := hK (by omega) g
          unfold sCmd at hok
          rw [hc, if_neg hns, if_pos g] at hok
          exact absurd hok (by show ¬ ((1 : Int) = 0); decide)
        have hb1 : RR m0 m2 x (st s 0 12 c) rh E H := by
          rw [hm2]
          refine h.ptr fun _ => ?_
          have e1 : mset (mset m 68 116 z) 68 125 c 68 116 = z := by rw [ms_j (by decide), ms_e]
          have hzn := nc_b (x := x) (a := z) hz.2
          rw [e1, ms_e, st_g, if_pos ⟨rfl, rfl⟩, ncc]
          refine ⟨⟨hz0, hz.2⟩, by omega, fun g => by omega, fun g => by omega, ?_⟩
          rw [if_neg (by omega)]
        have e120 : m2 68 120 = nl s := hb1.2.1.2.2.2.2.2.2.2.1
        have hnew := hb1.new (k := k) (a := a) (b := b) (st12 _) hn
        have enl : nl (st s 0 12 c) = nl s := rfl
        rw [enl] at hnew
        have hT3 := hnew.1
        have R3 := R.to hT3
        unfold sCmd
        rw [hc, if_neg hns, if_neg hnt]
        refine ⟨_, x.1 0 + nl s, ?_, Or.inl ⟨st12 c, hnew⟩, fun _ => rfl, fun _ _ => ?_⟩
        · rw [hd, bd_t l1]
          simp only [lx_p, up_t]
          rw [R2.1.1, gd_t ⟨R2.1.2.1, R2.1.2.2⟩, R2.2.2.2.2.2.2.2.1, if_neg c3, e120, gd_t ⟨hnn, hn⟩, w32_id (z := 1000 * k) (by omega) (by omega), w32_id (z := 1000 * k + b) (by omega) (by omega)]
          have f20 : mset m2 158 (nl s) (1000 * k + b) 68 120 = nl s := by rw [ms_a (by decide)]; exact e120
          have f21 : mset (mset m2 158 (nl s) (1000 * k + b)) 159 (nl s) a 68 120 = nl s := by rw [ms_a (by decide)]; exact f20
          rw [f20, gd_t ⟨hnn, hn⟩, f21, w32_id (z := nl s + 1) (by omega) (by omega), R3.1.1, gd_t ⟨R3.1.2.1, R3.1.2.2⟩, R3.2.2.2.2.2.2.2.1, ms_e, w32_id (z := x.1 0 + (nl s + 1)) (by omega) (by omega), w32_id (by omega) (by omega), show x.1 0 + (nl s + 1) - 1 = x.1 0 + nl s by omega]
        · show x.1 0 ≤ nc x (sg (st s 0 12 c) 0 12)
          rw [st_g, if_pos ⟨rfl, rfl⟩, ncc]
          omega
    · -- the arrival was counted
      rw [if_neg c2] at hd
      have htb := m2r (sg s 0 10) h10 (by omega)
      have hns : ¬ c < sSeen x s := by
        rcases hseen with ⟨g1, g2⟩ | g
        · omega
        · rcases m5r with ⟨b1, b2, b3⟩ | ⟨b1, b2⟩
          · omega
          · have : sSeen x s = rh := by
              unfold sSeen
              rw [if_pos (by omega)]
              exact b2
            omega
      have hf := rfirst R1 h117 htb
      have h91 := h.n91
      unfold sCmd
      rw [hc, if_neg hns, if_pos (by omega)]
      refine ⟨mset (mset m1 68 114 1) 68 115 (tb x (sg s 0 10)), -1, ?_, Or.inr ⟨(hT1.ms (mtb68 (by omega))).ms (mtb68 (by omega)), rfl, ?_, ?_, ?_, ?_⟩, fun _ => rfl, fun g1 g2 => ?_⟩
      · rw [hd, bp_t hf]
        unfold fm_X12_differs
        simp only [up_t]
        rfl
      · rw [ms_j (by decide), ms_e]
      · rw [ms_e]; rfl
      · rw [ms_j (by decide), ms_j (by decide), f2, ms_j (by decide)]; exact h91.1
      · rw [ms_j (by decide), ms_j (by decide), f2, ms_j (by decide)]; exact h91.2.1
      · have e10 : sg (sStuck (st s 0 12 c) (tb x (sg s 0 10))) 0 10 = sg s 0 10 := by
          unfold sStuck
          rw [st_g, if_neg (by decide), st_g, if_neg (by decide), st_g, if_neg (by decide)]
        rw [e10] at g1
        omega
end RF3
