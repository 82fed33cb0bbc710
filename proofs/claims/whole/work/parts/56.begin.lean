/-! THE LAW AS A FUNCTION: the store behind the constructors, the memory that stands for it, and what is left to show. -/
section BG
/-- nothing is read of the script: what the interpreter comes to without it, it comes to -/
theorem q_step_ox {M : QM} {pc : Nat} {i : Instr} {L : QL} {st : List Value} {S : QS} {xs : List Int32} {r : Nat × QL × List Value × QS} (h : q_step M none pc i L st S = some r) : q_step M (some xs) pc i L st S = some r := by
  unfold q_step at h ⊢
  split at h
  · exact h
  · split at h
    · exact h
    · split at h
      · exact h
      · split at h
        · exact h
        · split at h
          · exact h
          · split at h
            · exact h
            · split at h
              · exact h
              · split at h
                · exact h
                · have h0 : q_script none i st = none := rfl
                  rw [h0] at h
                  simp only at h
                  obtain ⟨q, h1, h2⟩ := Option.map_eq_some_iff.mp h
                  cases hs : q_script (some xs) i st with
                  | none => simp only [h1, Option.map_some, h2]
                  | some st' =>
                    exfalso
                    rcases q_script_i hs with rfl | rfl
                    · simp [q_more] at h1
                    · simp [q_more] at h1
theorem q_step_nx {M : QM} {pc : Nat} {i : Instr} {L : QL} {st : List Value} {S : QS} {xs : List Int32} (h : q_step M none pc i L st S = none) (hi : i ≠ .arraylength ∧ i ≠ .iaload) : q_step M (some xs) pc i L st S = none := by
  have hs : q_script (some xs) i st = none := by
    cases hh : q_script (some xs) i st with
    | none => rfl
    | some st' =>
      rcases q_script_i hh with h1 | h1
      · exact absurd h1 hi.1
      · exact absurd h1 hi.2
  unfold q_step at h ⊢
  split at h
  · exact h
  · split at h
    · exact h
    · split at h
      · exact h
      · split at h
        · exact h
        · split at h
          · exact h
          · split at h
            · exact h
            · split at h
              · exact h
              · split at h
                · exact h
                · rw [hs]
                  exact h
theorem q_run_ox {M : QM} {xs : List Int32} {c1 c2 : Nat → List Value → QS → Option (QO × QS)} (hc : ∀ mi as S r, c1 mi as S = some r → c2 mi as S = some r) : ∀ (k pc : Nat) (L : QL) (st : List Value) (S : QS) (r : QO × QS), q_run c1 M none k pc L st S = some r → q_run c2 M (some xs) k pc L st S = some r := by
  intro k
  induction k with
  | zero => intro pc L st S r h; simp [q_run] at h
  | succ k ih =>
    intro pc L st S r h
    rw [q_run] at h ⊢
    cases hc0 : q_code M pc with
    | none => simp only [hc0] at h; cases h
    | some i =>
      simp only [hc0] at h
      simp only
      cases hs : q_step M none pc i L st S with
      | some t =>
        obtain ⟨pc', L', st', S'⟩ := t
        simp only [hs] at h
        rw [q_step_ox hs]
        exact ih _ _ _ _ _ h
      | none =>
        simp only [hs] at h
        by_cases hi : i ≠ .arraylength ∧ i ≠ .iaload
        · rw [q_step_nx hs hi]
          simp only
          cases hq : q_call M i st S with
          | some t =>
            obtain ⟨mi, as, rest⟩ := t
            simp only [hq] at h
            simp only
            cases hm : c1 mi as S with
            | none => simp only [hm] at h; cases h
            | some t =>
              obtain ⟨o, S'⟩ := t
              rw [hc _ _ _ _ hm]
              simp only [hm] at h
              cases o with
              | inl v => exact ih _ _ _ _ _ h
              | inr e =>
                simp only at h ⊢
                split at h
                · rename_i hh
                  rw [if_pos hh]
                  exact h
                · rename_i hh
                  rw [if_neg hh]
                  cases hd : q_hand M pc e L with
                  | none => simp only [hd] at h; cases h
                  | some t =>
                    obtain ⟨pc', L'⟩ := t
                    simp only [hd] at h
                    exact ih _ _ _ _ _ h
          | none =>
            simp only [hq] at h
            exact h
        · exfalso
          have h2 : i = .arraylength ∨ i = .iaload := by
            by_cases h1 : i = .arraylength
            · exact Or.inl h1
            · exact Or.inr (Classical.not_not.mp fun h3 => hi ⟨h1, h3⟩)
          rcases h2 with rfl | rfl
          · rw [show q_call M .arraylength st S = none from rfl] at h
            simp only at h
            rw [show q_ret M .arraylength st = none by unfold q_ret; cases st <;> rfl] at h
            simp only at h
            rw [show q_thr M pc .arraylength st = none from rfl] at h
            cases h
          · rw [show q_call M .iaload st S = none from rfl] at h
            simp only at h
            rw [show q_ret M .iaload st = none by unfold q_ret; cases st <;> rfl] at h
            simp only at h
            rw [show q_thr M pc .iaload st = none from rfl] at h
            cases h
theorem q_pc_ox {T : List QM} {xs : List Int32} {n : Nat} : ∀ (d mi : Nat) (as : List Value) (S : QS) (r : QO × QS), q_pc T none n d mi as S = some r → q_pc T (some xs) n d mi as S = some r := by
  intro d
  induction d with
  | zero => intro mi as S r h; simp [q_pc] at h
  | succ d ih =>
    intro mi as S r h
    rw [q_pc] at h ⊢
    cases hT : T[mi]? with
    | none => simp only [hT] at h; cases h
    | some M =>
      simp only [hT] at h
      simp only
      split at h
      · rename_i hl
        rw [if_pos hl]
        exact q_run_ox ih _ _ _ _ _ _ h
      · cases h
/-- where the interpreter stands when it first comes to pc t -/
def q_to (call : Nat → List Value → QS → Option (QO × QS)) (M : QM) (t : Nat) : Nat → Nat → QL → List Value → QS → Option (QL × List Value × QS)
  | 0, _, _, _, _ => none
  | n + 1, pc, L, st, S => if pc = t then some (L, st, S) else match q_code M pc with
    | none => none
    | some i => match q_step M none pc i L st S with
      | some (pc', L', st', S') => q_to call M t n pc' L' st' S'
      | none => if i ≠ .arraylength ∧ i ≠ .iaload then (match q_call M i st S with
        | some (mi, as, rest) => (match call mi as S with
          | some (.inl v, S') => q_to call M t n (pc + 3) L (v.toList ++ rest) S'
          | _ => none)
        | none => none) else none
theorem q_to_go {M : QM} {xs : List Int32} {d N t : Nat} {Q : QO → QS → Prop} {L1 : QL} {st1 : List Value} {S1 : QS} (k : Go xs d M t L1 st1 S1 Q) : ∀ (n pc : Nat) (L : QL) (st : List Value) (S : QS), q_to (q_pc qT none N d) M t n pc L st S = some (L1, st1, S1) → Go xs d M pc L st S Q := by
  intro n
  induction n with
  | zero => intro pc L st S h; simp [q_to] at h
  | succ n ih =>
    intro pc L st S h
    rw [q_to] at h
    split at h
    · rename_i hp
      cases h
      rw [hp]
      exact k
    · cases hc0 : q_code M pc with
      | none => simp only [hc0] at h; cases h
      | some i =>
        simp only [hc0] at h
        cases hs : q_step M none pc i L st S with
        | some t9 =>
          obtain ⟨pc', L', st', S'⟩ := t9
          simp only [hs] at h
          exact Go.step hc0 (q_step_ox hs) (ih _ _ _ _ h)
        | none =>
          simp only [hs] at h
          split at h
          · rename_i hi
            cases hq : q_call M i st S with
            | none => simp only [hq] at h; cases h
            | some t9 =>
              obtain ⟨mi, as, rest⟩ := t9
              simp only [hq] at h
              split at h
              · rename_i v S' hm
                refine Go.call hc0 (q_step_nx hs hi) hq ⟨N, .inl v, S', q_pc_ox _ _ _ _ _ hm, (⟨rfl, rfl⟩ : (Sum.inl v : QO) = .inl v ∧ S' = S')⟩ (Q1 := fun o S2 => o = .inl v ∧ S2 = S') (fun v2 S2 hh => ?_) (fun e S2 hh => ?_)
                · obtain ⟨h1, rfl⟩ := hh
                  cases h1
                  exact ih _ _ _ _ h
                · cases hh.1
              · cases h
          · cases h
/-- the store and the locals behind both constructors -/
def sy_S0 : QS := ([(12, 18, [(17, .int 1), (16, .int 0), (15, .int 0), (14, .int 0), (13, .int 3), (12, .int 0), (11, .int 0), (10, .ref 16), (9, .ref 14), (8, .ref 13), (7, .ref 12), (6, .ref 11), (5, .ref 10), (4, .ref 9), (3, .ref 8), (2, .ref 7), (1, .ref 6), (0, .ref 5)]), (106, 4, [(3, .ref 60), (2, .ref 56), (1, .ref 52), (0, .ref 48)]), (104, 4, [(3, .ref 67), (2, .ref 66), (1, .ref 65), (0, .ref 64)]), (0, 3, [(1, .ref 1), (0, .int 0)]), (0, 3, [(1, .ref 1), (0, .int 0)]), (0, 3, [(1, .ref 1), (0, .int 0)]), (0, 3, [(1, .ref 1), (0, .int 0)]), (100, 3, []), (100, 3, []), (100, 3, []), (6, 3, [(2, .int 0), (1, .int 0), (0, .ref 15)]), (108, 1, []), (5, 12, [(11, .int (-1)), (10, .int 0), (9, .int 0), (8, .int 0), (7, .null), (6, .int 0), (5, .int 0), (4, .int 0), (3, .ref 46), (2, .ref 43), (1, .ref 43), (0, .ref 17)]), (9, 14, [(13, .int 0), (12, .int 0), (11, .int 0), (10, .int 0), (9, .int 0), (8, .int 0), (7, .int 0), (6, .int 0), (5, .int 0), (4, .int 0), (3, .ref 21), (2, .ref 20), (1, .ref 19), (0, .ref 18)]), (100, 6, []), (103, 12, [(11, .ref 34), (10, .ref 33), (9, .ref 32), (8, .ref 31), (7, .ref 30), (6, .ref 29), (5, .ref 28), (4, .ref 27), (3, .ref 26), (2, .ref 25), (1, .ref 24), (0, .ref 23)]), (105, 4, [(3, .ref 41), (2, .ref 39), (1, .ref 37), (0, .ref 35)]), (6, 3, [(2, .int 0), (1, .int 0), (0, .ref 22)]), (108, 1, []), (2, 11, [(10, .int 0), (9, .int 0), (8, .int 0), (7, .int 0), (6, .int 0), (5, .int 0), (4, .int 0), (3, .int (-1)), (2, .int (-1)), (1, .int (-1)), (0, .int 0)]), (2, 11, [(10, .int 0), (9, .int 0), (8, .int 0), (7, .int 0), (6, .int 0), (5, .int 0), (4, .int 0), (3, .int (-1)), (2, .int (-1)), (1, .int (-1)), (0, .int 0)]), (2, 11, [(10, .int 0), (9, .int 0), (8, .int 0), (7, .int 0), (6, .int 0), (5, .int 0), (4, .int 0), (3, .int (-1)), (2, .int (-1)), (1, .int (-1)), (0, .int 0)]), (2, 11, [(10, .int 0), (9, .int 0), (8, .int 0), (7, .int 0), (6, .int 0), (5, .int 0), (4, .int 0), (3, .int (-1)), (2, .int (-1)), (1, .int (-1)), (0, .int 0)]), (2, 11, [(10, .int 0), (9, .int 0), (8, .int 0), (7, .int 0), (6, .int 0), (5, .int 0), (4, .int 0), (3, .int (-1)), (2, .int (-1)), (1, .int (-1)), (0, .int 0)]), (2, 11, [(10, .int 0), (9, .int 0), (8, .int 0), (7, .int 0), (6, .int 0), (5, .int 0), (4, .int 0), (3, .int (-1)), (2, .int (-1)), (1, .int (-1)), (0, .int 0)]), (2, 11, [(10, .int 0), (9, .int 0), (8, .int 0), (7, .int 0), (6, .int 0), (5, .int 0), (4, .int 0), (3, .int (-1)), (2, .int (-1)), (1, .int (-1)), (0, .int 0)]), (2, 11, [(10, .int 0), (9, .int 0), (8, .int 0), (7, .int 0), (6, .int 0), (5, .int 0), (4, .int 0), (3, .int (-1)), (2, .int (-1)), (1, .int (-1)), (0, .int 0)]), (2, 11, [(10, .int 0), (9, .int 0), (8, .int 0), (7, .int 0), (6, .int 0), (5, .int 0), (4, .int 0), (3, .int (-1)), (2, .int (-1)), (1, .int (-1)), (0, .int 0)]), (2, 11, [(10, .int 0), (9, .int 0), (8, .int 0), (7, .int 0), (6, .int 0), (5, .int 0), (4, .int 0), (3, .int (-1)), (2, .int (-1)), (1, .int (-1)), (0, .int 0)]), (2, 11, [(10, .int 0), (9, .int 0), (8, .int 0), (7, .int 0), (6, .int 0), (5, .int 0), (4, .int 0), (3, .int (-1)), (2, .int (-1)), (1, .int (-1)), (0, .int 0)]), (2, 11, [(10, .int 0), (9, .int 0), (8, .int 0), (7, .int 0), (6, .int 0), (5, .int 0), (4, .int 0), (3, .int (-1)), (2, .int (-1)), (1, .int (-1)), (0, .int 0)]), (6, 3, [(2, .int 0), (1, .int 0), (0, .ref 36)]), (108, 1, []), (6, 3, [(2, .int 0), (1, .int 0), (0, .ref 38)]), (108, 1, []), (6, 3, [(2, .int 0), (1, .int 0), (0, .ref 40)]), (108, 1, []), (6, 3, [(2, .int 0), (1, .int 0), (0, .ref 42)]), (108, 1, []), (3, 5, [(0, .ref 44), (4, .int 0), (3, .int 0), (2, .int 0), (1, .int 0)]), (6, 3, [(2, .int 0), (1, .int 0), (0, .ref 45)]), (108, 1, []), (6, 3, [(2, .int 0), (1, .int 0), (0, .ref 47)]), (108, 1, []), (11, 3, [(2, .int 0), (1, .ref 50), (0, .ref 49)]), (0, 3, [(1, .ref 1), (0, .int 0)]), (6, 3, [(2, .int 0), (1, .int 0), (0, .ref 51)]), (108, 1, []), (11, 3, [(2, .int 0), (1, .ref 54), (0, .ref 53)]), (0, 3, [(1, .ref 1), (0, .int 0)]), (6, 3, [(2, .int 0), (1, .int 0), (0, .ref 55)]), (108, 1, []), (11, 3, [(2, .int 0), (1, .ref 58), (0, .ref 57)]), (0, 3, [(1, .ref 1), (0, .int 0)]), (6, 3, [(2, .int 0), (1, .int 0), (0, .ref 59)]), (108, 1, []), (11, 3, [(2, .int 0), (1, .ref 62), (0, .ref 61)]), (0, 3, [(1, .ref 1), (0, .int 0)]), (6, 3, [(2, .int 0), (1, .int 0), (0, .ref 63)]), (108, 1, []), (4, 5, [(4, .int 0), (3, .int 0), (2, .int 0), (1, .int 2), (0, .int 3)]), (4, 5, [(4, .int 0), (3, .int 0), (2, .int 0), (1, .int 2), (0, .int 3)]), (4, 5, [(4, .int 0), (3, .int 0), (2, .int 0), (1, .int 2), (0, .int 3)]), (4, 5, [(4, .int 0), (3, .int 0), (2, .int 0), (1, .int 2), (0, .int 3)]), (13, 130, [(128, .ref 161), (127, .ref 160), (122, .ref 159), (121, .ref 158), (109, .ref 157), (108, .ref 156), (107, .ref 155), (106, .ref 154), (104, .ref 153), (102, .ref 152), (101, .ref 151), (100, .ref 150), (99, .ref 149), (98, .ref 148), (97, .ref 147), (96, .ref 146), (95, .ref 145), (94, .ref 144), (93, .ref 143), (90, .ref 142), (87, .ref 141), (86, .ref 140), (85, .ref 139), (82, .ref 138), (81, .ref 137), (78, .ref 136), (77, .ref 135), (76, .ref 134), (75, .ref 133), (74, .ref 132), (73, .ref 131), (72, .ref 130), (71, .ref 129), (70, .ref 128), (67, .ref 127), (66, .ref 126), (65, .ref 125), (64, .ref 124), (63, .ref 123), (62, .ref 122), (61, .ref 121), (60, .ref 120), (59, .ref 119), (58, .ref 118), (57, .ref 117), (56, .ref 116), (55, .ref 115), (54, .ref 114), (53, .ref 113), (52, .ref 112), (50, .int 3), (49, .ref 111), (48, .ref 110), (47, .ref 109), (45, .ref 108), (44, .ref 107), (43, .ref 106), (42, .ref 105), (41, .ref 104), (40, .ref 103), (39, .ref 102), (38, .ref 101), (37, .ref 100), (36, .ref 99), (35, .ref 98), (33, .ref 97), (31, .ref 96), (30, .int (-1)), (28, .ref 95), (27, .ref 94), (26, .ref 93), (25, .ref 92), (24, .ref 91), (23, .ref 90), (22, .ref 89), (21, .ref 88), (20, .ref 87), (19, .ref 86), (18, .ref 85), (17, .ref 84), (16, .ref 83), (15, .ref 82), (14, .ref 81), (13, .ref 80), (11, .ref 79), (10, .ref 78), (9, .ref 77), (8, .ref 76), (7, .ref 75), (6, .ref 74), (5, .ref 73), (4, .ref 72), (3, .ref 71), (2, .ref 70), (1, .ref 69)]), (100, 4, []), (100, 20, []), (100, 480, []), (100, 480, []), (100, 480, []), (100, 4, [(3, .int 3), (2, .int 3), (1, .int 3), (0, .int 3)]), (100, 4, [(3, .int 2), (2, .int 2), (1, .int 2), (0, .int 2)]), (100, 4, []), (100, 4, []), (100, 4, []), (100, 4, []), (100, 30, []), (100, 30, []), (100, 30, []), (100, 30, []), (100, 30, []), (100, 30, []), (100, 30, []), (100, 30, []), (100, 30, []), (100, 30, []), (100, 30, []), (100, 30, []), (100, 30, []), (100, 30, []), (100, 30, []), (101, 1310720, []), (100, 61440, []), (100, 16384, []), (100, 60, []), (100, 60, []), (100, 60, []), (100, 60, []), (100, 60, []), (100, 60, []), (100, 60, []), (100, 60, []), (100, 60, []), (100, 60, []), (100, 60, []), (100, 512, []), (100, 512, []), (100, 512, []), (100, 4096, []), (100, 4096, []), (100, 4096, []), (100, 4096, []), (100, 4096, []), (100, 4096, []), (100, 4096, []), (102, 4096, []), (100, 3, []), (100, 3, []), (100, 3, []), (100, 90, []), (100, 90, []), (100, 90, []), (100, 90, []), (100, 90, []), (100, 4, []), (100, 4, []), (100, 4, []), (100, 4, []), (100, 4, []), (102, 4, []), (100, 4, [(3, .int (-1)), (2, .int (-1)), (1, .int (-1)), (0, .int (-1))]), (102, 4, []), (100, 4, []), (100, 1048576, []), (100, 30, [(29, .int (-1)), (28, .int (-1)), (27, .int (-1)), (26, .int (-1)), (25, .int (-1)), (24, .int (-1)), (23, .int (-1)), (22, .int (-1)), (21, .int (-1)), (20, .int (-1)), (19, .int (-1)), (18, .int (-1)), (17, .int (-1)), (16, .int (-1)), (15, .int (-1)), (14, .int (-1)), (13, .int (-1)), (12, .int (-1)), (11, .int (-1)), (10, .int (-1)), (9, .int (-1)), (8, .int (-1)), (7, .int (-1)), (6, .int (-1)), (5, .int (-1)), (4, .int (-1)), (3, .int (-1)), (2, .int (-1)), (1, .int (-1)), (0, .int (-1))]), (100, 4096, []), (100, 4096, []), (100, 4096, []), (100, 6, []), (100, 12, []), (100, 12, []), (100, 12, []), (100, 12, []), (100, 12, []), (100, 12, []), (100, 12, []), (100, 12, []), (102, 12, []), (100, 196608, []), (100, 196608, []), (100, 196608, []), (100, 4, []), (100, 4, []), (100, 8192, []), (100, 65536, []), (100, 65536, []), (100, 31, []), (100, 31, []), (101, 1, [])], 159, 3216562)
def sy_L0 : QL := [(4, .int 0), (3, .ref 162), (2, .ref 68), (1, .ref 4), (0, .ref 0)]
/-- the memory that stands for a store -/
def vInt (v : Value) : Int := match v with
  | .int x => x.toInt
  | .long x => x.toInt
  | .ref r => (r : Int)
  | _ => 0
def mof (S : QS) : MM := fun a j => if a = 0 then (if j = 0 then (S.1.length : Int) + 4 else if j = 1 then (S.2.2 : Int) else 0) else if 4 ≤ a then (match S.1[(a - 4).toNat]? with
  | some c => if j = -1 then (c.1 : Int) else if j = -2 then (c.2.1 : Int) else if 0 ≤ j then vInt (q_rd c j.toNat) else 0
  | none => 0) else 0
def vok (t : Nat) (v : Value) : Bool := match t, v with
  | 0, .int _ => true
  | 1, .long _ => true
  | 2, .null => true
  | 2, .ref r => decide (0 < r)
  | 3, _ => true
  | _, _ => false
theorem vok_is {t : Nat} {v : Value} (h : vok t v = true) : q_is t v (vInt v) := by
  unfold vok at h
  split at h
  · exact ⟨_, rfl, rfl⟩
  · exact ⟨_, rfl, rfl⟩
  · exact Or.inl ⟨rfl, rfl⟩
  · exact Or.inr ⟨_, rfl, rfl, by simpa using h⟩
  · trivial
  · cases h
theorem vInt_dv (kd i : Nat) : vInt (q_dv kd i) = 0 := by
  have key : ∀ ty : FieldType, vInt (defaultValue ty) = 0 := fun ty => by cases ty <;> rfl
  unfold q_dv
  split <;> exact key _
theorem mof_at {S : QS} {k : Nat} {c : QC} (hk : S.1[k]? = some c) (j : Int) : mof S ((k : Int) + 4) j = if j = -1 then (c.1 : Int) else if j = -2 then (c.2.1 : Int) else if 0 ≤ j then vInt (q_rd c j.toNat) else 0 := by
  have e : ((k : Int) + 4 - 4).toNat = k := by omega
  unfold mof
  rw [if_neg (by omega), if_pos (by omega), e, hk]
theorem Rp0_of {S : QS} (hn : S.2.1 = S.1.length) (hv : (S.1.all fun c => c.2.2.all fun q => vok (q_sty c.1 q.1) q.2) = true) : Rp0 S (mof S) := by
  refine ⟨?_, ?_, hn, ?_, fun k c hk => ?_⟩
  · unfold mof; rw [if_pos rfl, if_pos rfl]
  · unfold mof; rw [if_pos rfl, if_neg (by decide), if_pos rfl]
  · unfold mof; rw [if_neg (by decide), if_neg (by decide)]
  · refine ⟨by rw [mof_at hk, if_pos rfl], by rw [mof_at hk, if_neg (by decide), if_pos rfl], fun j => ?_⟩
    rw [mof_at hk, if_neg (by omega), if_neg (by omega), if_pos (by omega), show (j : Int).toNat = j by omega]
    unfold q_rd
    split
    · rename_i q hq
      have h1 := List.mem_of_find?_eq_some hq
      have h2 := List.find?_some hq
      simp only [beq_iff_eq] at h2
      have h3 := List.all_eq_true.mp (List.all_eq_true.mp hv c (List.mem_of_getElem? hk)) q h1
      rw [← h2]
      exact vok_is h3
    · rw [vInt_dv]
      exact q_dv_is _ _
noncomputable def mm0 : MM := mof sy_S0
theorem mm0_rp : Rp sy_S0 mm0 := by
  refine ⟨Rp0_of (by decide +kernel) (by decide +kernel), ?_⟩
  show Fix (mof sy_S0)
  unfold Fix
  decide +kernel
/-- the law goes to pc 23 with all made -/
def mid_is (o : Option (QL × List Value × QS)) : Bool := match o with
  | some (L, st, S) => decide (L = sy_L0) && (st.isEmpty && (decide (S.1 = sy_S0.1) && decide (S.2 = sy_S0.2)))
  | none => false
theorem mid_ok {o : Option (QL × List Value × QS)} (h : mid_is o = true) : o = some (sy_L0, [], sy_S0) := by
  unfold mid_is at h
  split at h
  · rename_i L st S
    simp only [Bool.and_eq_true, decide_eq_true_eq, List.isEmpty_iff] at h
    obtain ⟨h1, h2, h3, h4⟩ := h
    rw [h1, h2, show S = sy_S0 from Prod.ext h3 h4]
  · cases h
theorem law_mid : q_to (q_pc qT none 40000 200) qM_L_law 23 60 0 [(0, .ref 0)] [] ([], 0, 0) = some (sy_L0, [], sy_S0) := mid_ok (by decide +kernel)
/-- WHAT IS LEFT: from the fresh objects on, the law's function comes to 1, within the room -/
def Left (xs : List Int32) : Prop := ∃ rm : MM, fl_L_law_23 xs BIG 0 mm0 = some (1, rm) ∧ rm 0 0 ≤ 545024 ∧ rm 0 1 ≤ 7461044
theorem law_run {xs : List Int32} (h : Left xs) : ∃ (N n : Nat) (Sf : QS), q_run (q_pc qT (some xs) N 200) qM_L_law (some xs) n 0 [(0, .ref 0)] [] ([], 0, 0) = some (.inl (some (.int 1)), Sf) ∧ Sf.2.1 ≤ 545020 ∧ Sf.2.2 ≤ 7461044 := by
  obtain ⟨rm, h1, h2, h3⟩ := h
  have hg : Go xs 200 qM_L_law 0 [(0, .ref 0)] [] ([], 0, 0) (fun o S' => o = .inl (some (.int 1)) ∧ S'.2.1 ≤ 545020 ∧ S'.2.2 ≤ 7461044) := by
    refine q_to_go ?_ 60 0 _ _ _ law_mid
    refine ol_L_law_23 (mb := mm0) (by decide) (fun _ o S1 hR ho => ?_) BIG (Ext.rf _) h1 mm0_rp (v0 := .ref 0) (v1 := .ref 4) (v2 := .ref 68) (v3 := .ref 162) (v4 := .int 0) rfl rfl rfl (Or.inr ⟨4, rfl, rfl, by decide⟩) rfl (Or.inr ⟨68, rfl, rfl, by decide⟩) rfl (Or.inr ⟨162, rfl, rfl, by decide⟩) rfl ⟨0, rfl, rfl⟩
    obtain ⟨v, rfl, x, rfl, hx⟩ := (show ∃ v, o = .inl (some v) ∧ q_is 0 v 1 from ho)
    have hx1 : x = 1 := Int32.toInt_inj.mp hx
    subst hx1
    obtain ⟨g1, g2, g3, -⟩ := hR.1
    exact ⟨rfl, by omega, by omega⟩
  obtain ⟨n, k, o, S', g1, rfl, g2, g3⟩ := hg
  exact ⟨n, k, S', g1, g2, g3⟩
end BG
