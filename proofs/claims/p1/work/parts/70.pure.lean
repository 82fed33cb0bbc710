/-! EVERY SCRIPT OF AT MOST SEVEN INTS: the law's run in the pure interpreter ends with true, within the room. -/
section SPU
theorem sy_srtT : qT.all (fun M => sy_srt (qm_c M)) = true := by decide +kernel
theorem sy_srtL : sy_srt (qm_c qM_L_law) = true := by decide +kernel
def sy_good (xs : List Int32) : Prop := ∃ (N n : Nat) (S : QS), q_run (q_pc qT (some xs) N 12) qM_L_law (some xs) n 0 [(0, .ref 0)] [] ([], 0, 0) = some (.inl (some (.int 1)), S) ∧ S.2.1 ≤ 600002 ∧ S.2.2 ≤ 7302232
def sy_env (xs : List Int32) (k : Nat) : Int32 := if k = 7 then xs.getD 0 0 &&& 63 else xs.getD k 0
theorem sy_env_in (xs : List Int32) : sy_in (sy_env xs) xs := by
  refine ⟨?_, fun j hj => ?_⟩
  · unfold sy_env
    rw [if_pos rfl, if_neg (by decide)]
  · unfold sy_env
    rw [if_neg (by omega)]
theorem sy_and63 (x : Int32) : 2147483648 ≤ sy_o (x &&& 63) ∧ sy_o (x &&& 63) < 2147483648 + 64 := by
  have h1 : (x &&& 63).toBitVec.toNat ≤ 63 := by
    rw [Int32.toBitVec_and, BitVec.toNat_and]
    exact Nat.and_le_right
  have h2 : (x &&& 63).toInt = ((x &&& 63).toBitVec.toNat : Int) := by
    show (x &&& 63).toBitVec.toInt = _
    rw [BitVec.toInt_eq_toNat_of_lt (by omega)]
  have h3 := sy_bd (x &&& 63)
  omega
theorem sy_end_ok {r : Nat → Int32} {o : Option (List (SP × QO × QS))} (h : sy_end o = true) : ∃ l, o = some l ∧ ∀ q ∈ l, sy_O r q.2.1 = .inl (some (.int 1)) ∧ (sy_S r q.2.2).2.1 ≤ 600002 ∧ (sy_S r q.2.2).2.2 ≤ 7302232 := by
  unfold sy_end at h
  split at h
  · rename_i l
    refine ⟨l, rfl, fun q hq => ?_⟩
    have h1 := List.all_eq_true.mp h q hq
    simp only [Bool.and_eq_true, decide_eq_true_eq] at h1
    obtain ⟨e1, e2, e3⟩ := h1
    exact ⟨by rw [e1]; rfl, Nat.le_of_ble_eq_true e2, Nat.le_of_ble_eq_true e3⟩
  · cases h
theorem sy_T {M : QM} (h : M ∈ qT) : sy_srt (qm_c M) = true := List.all_eq_true.mp sy_srtT M h
/-- the sound calls of depth d -/
theorem sy_cok (xs : List Int32) (d : Nat) {len : Nat} (hlen : xs.length = len) : ∀ (PC : SP) (mi : Nat) (as : List Value) (S : QS) (l : List (SP × QO × QS)), sy_pc qT len 30000 d PC mi as S = some l → sy_sat (sy_env xs) PC → ∃ q ∈ l, sy_sat (sy_env xs) q.1 ∧ q_pc qT (some xs) 30000 d mi (as.map (sy_g (sy_env xs))) (sy_S (sy_env xs) S) = some (sy_O (sy_env xs) q.2.1, sy_S (sy_env xs) q.2.2) :=
  sy_pc_ok (sy_env_in xs) hlen qT (fun M => sy_T) 30000 d
/-- from the loop's head: what a symbolic run from there comes to, the law comes to -/
theorem sy_from {xs : List Int32} {len : Nat} (hlen : xs.length = len) (h8 : len < 8) {call : SP → Nat → List Value → QS → Option (List (SP × QO × QS))}
    (hc : ∀ (PC : SP) (mi : Nat) (as : List Value) (S : QS) (l : List (SP × QO × QS)), call PC mi as S = some l → sy_sat (sy_env xs) PC → ∃ q ∈ l, sy_sat (sy_env xs) q.1 ∧ q_pc qT (some xs) 30000 12 mi (as.map (sy_g (sy_env xs))) (sy_S (sy_env xs) S) = some (sy_O (sy_env xs) q.2.1, sy_S (sy_env xs) q.2.2))
    {PC : SP} (hs : sy_sat (sy_env xs) PC) (h : sy_end (sy_run call qM_L_law len 300 [] PC 23 sy_L0 [] sy_S0) = true) : sy_good xs := by
  obtain ⟨l, hl, hall⟩ := sy_end_ok (r := sy_env xs) h
  obtain ⟨q, g1, g2, g3⟩ := sy_run_ok (sy_env_in xs) hlen hc sy_srtL _ _ _ _ _ _ _ _ (fun z hz => by cases hz) hl hs
  obtain ⟨k1, k2, k3⟩ := hall q g1
  have h0 := sy_go_ok (r := sy_env xs) (xs := xs) (call := sy_pc qT len 30000 12) (qc := q_pc qT (some xs) 30000 12) (M := qM_L_law) (sy_cok xs 12 hlen) sy_srtL 13 [] 0 [(0, .ref 0)] [] ([], 0, 0) 23 sy_L0 [] sy_S0 (fun z hz => by cases hz) (sy_mids len h8) 300
  rw [g3, k1] at h0
  exact ⟨30000, 313, _, h0, k2, k3⟩
theorem sy_short_ok {xs : List Int32} (h : xs.length < 7) : sy_good xs :=
  sy_from rfl (by omega) (sy_cok xs 12 rfl) (PC := []) (fun k q hk => by cases hk) (List.all_eq_true.mp sy_shorts xs.length (List.mem_range.mpr h))
theorem sy_P0_sat {xs : List Int32} {lo hi l1 h1 l2 h2 : Nat} (a1 : 2147483648 + lo ≤ sy_o (sy_env xs 7)) (a2 : sy_o (sy_env xs 7) < 2147483648 + hi) (a3 : l1 ≤ sy_o (sy_env xs 1)) (a4 : sy_o (sy_env xs 1) < h1) (a5 : l2 ≤ sy_o (sy_env xs 2)) (a6 : sy_o (sy_env xs 2) < h2) : sy_sat (sy_env xs) (sy_P0 lo hi l1 h1 l2 h2) := by
  intro k q hk
  have hb := (sy_bd (sy_env xs k)).2
  match k, hk with
  | 0, hk => cases hk; exact ⟨Nat.zero_le _, hb⟩
  | 1, hk => cases hk; exact ⟨a3, a4⟩
  | 2, hk => cases hk; exact ⟨a5, a6⟩
  | 3, hk => cases hk; exact ⟨Nat.zero_le _, hb⟩
  | 4, hk => cases hk; exact ⟨Nat.zero_le _, hb⟩
  | 5, hk => cases hk; exact ⟨Nat.zero_le _, hb⟩
  | 6, hk => cases hk; exact ⟨Nat.zero_le _, hb⟩
  | 7, hk => cases hk; exact ⟨a1, a2⟩
  | k + 8, hk => cases hk
theorem sy_fine_ok {xs : List Int32} (h7 : xs.length = 7) {lo hi l1 h1 l2 h2 : Nat} (hf : sy_fine lo hi l1 h1 l2 h2 = true) (a1 : 2147483648 + lo ≤ sy_o (sy_env xs 7)) (a2 : sy_o (sy_env xs 7) < 2147483648 + hi) (a3 : l1 ≤ sy_o (sy_env xs 1)) (a4 : sy_o (sy_env xs 1) < h1) (a5 : l2 ≤ sy_o (sy_env xs 2)) (a6 : sy_o (sy_env xs 2) < h2) : sy_good xs :=
  sy_from h7 (by decide) (sy_cok xs 12 h7) (sy_P0_sat a1 a2 a3 a4 a5 a6) hf
/-- the two passes -/
theorem sy_tp_ok {xs : List Int32} (h7 : xs.length = 7) {d mi ad k : Nat} {a : List Value} {S0 S1 : QS} (ht : sy_tp d mi a S0 ad k = some [(sy_PP, .inl (some (.float 1)), S1)]) (b1 : 2147483649 ≤ sy_o (sy_env xs 1)) (b2 : sy_o (sy_env xs 1) < 2147483749) : q_pc qT (some xs) 30000 d mi (a.map (sy_g (sy_env xs))) (sy_S (sy_env xs) S0) = some (.inl (some (sy_g (sy_env xs) (.float 1))), sy_S (sy_env xs) S1) := by
  unfold sy_tp at ht
  split at ht
  · rename_i l hl
    have hs : sy_sat (sy_env xs) sy_PP := by
      intro k q hk
      match k, hk with
      | 0, hk => cases hk; exact ⟨Nat.zero_le _, (sy_bd _).2⟩
      | 1, hk => cases hk; exact ⟨b1, b2⟩
      | k + 2, hk => cases hk
    obtain ⟨q, g1, g2, g3⟩ := sy_cok xs d h7 _ _ _ _ _ hl hs
    obtain ⟨q', g4, g5, g6, g7⟩ := sy_mrg_ok ht g1 g2
    obtain rfl := List.mem_singleton.mp g4
    rw [g3, ← g6, ← g7]
    rfl
  · cases ht
def sy_c11 : SP → Nat → List Value → QS → Option (List (SP × QO × QS)) := sy_or 124 [.ref 4, .float 1] sy_S0 (.float 1) sy_Sp (sy_pc qT 7 30000 11)
def sy_c12 : SP → Nat → List Value → QS → Option (List (SP × QO × QS)) := fun PC mi as S => match qT[mi]? with
  | none => none
  | some M => if (lg_sl as).length ≤ qm_l M then sy_run sy_c11 M 7 30000 [] PC 0 (lv_args 0 as) [] S else none
def sy_cL : SP → Nat → List Value → QS → Option (List (SP × QO × QS)) := sy_or 293 [.ref 68, .float 1] sy_Sq (.float 1) sy_Sr sy_c12
theorem sy_tPass : sy_end (sy_run sy_cL qM_L_law 7 300 [] (sy_P0 24 25 2147483649 2147483749 0 4294967296) 23 sy_L0 [] sy_S0) = true := by decide +kernel
theorem sy_finem_ok {xs : List Int32} (h7 : xs.length = 7) (a1 : 2147483672 ≤ sy_o (sy_env xs 7)) (a2 : sy_o (sy_env xs 7) < 2147483673) (a3 : 2147483649 ≤ sy_o (sy_env xs 1)) (a4 : sy_o (sy_env xs 1) < 2147483749) : sy_good xs := by
  have c11 := sy_or_ok (r := sy_env xs) (m0 := 124) (a0 := [.ref 4, .float 1]) (S0 := sy_S0) (S1 := sy_Sp) (v0 := .float 1) (sy_cok xs 11 h7) (sy_tp_ok h7 (sy_is1_ok sy_passX0))
  have c12 : ∀ (PC : SP) (mi : Nat) (as : List Value) (S : QS) (l : List (SP × QO × QS)), sy_c12 PC mi as S = some l → sy_sat (sy_env xs) PC → ∃ q ∈ l, sy_sat (sy_env xs) q.1 ∧ q_pc qT (some xs) 30000 12 mi (as.map (sy_g (sy_env xs))) (sy_S (sy_env xs) S) = some (sy_O (sy_env xs) q.2.1, sy_S (sy_env xs) q.2.2) := by
    intro PC mi as S l h hs
    unfold sy_c12 at h
    split at h
    · cases h
    · rename_i M hM
      split at h
      · rename_i hle
        obtain ⟨q, h1, h2, h3⟩ := sy_run_ok (sy_env_in xs) h7 c11 (sy_T (List.mem_of_getElem? hM)) _ _ _ _ _ _ _ _ (fun z hz => by cases hz) h hs
        refine ⟨q, h1, h2, ?_⟩
        rw [q_pc, hM]
        simp only [sy_sl, if_pos hle, sy_args]
        exact h3
      · cases h
  exact sy_from h7 (by decide) (sy_or_ok c12 (sy_tp_ok h7 (sy_is1_ok sy_passM0))) (sy_P0_sat (by omega) (by omega) (by omega) (by omega) (Nat.zero_le _) (sy_bd _).2) sy_tPass
theorem sy_every {xs : List Int32} (h : xs.length ≤ 7) : sy_good xs := by
  rcases Nat.lt_or_ge xs.length 7 with h7 | h7
  · exact sy_short_ok h7
  · have h7 : xs.length = 7 := Nat.le_antisymm h h7
    obtain ⟨b1, b2⟩ := sy_and63 (xs.getD 0 0)
    have e7 : sy_env xs 7 = xs.getD 0 0 &&& 63 := if_pos rfl
    rw [← e7] at b1 b2
    have b3 := (sy_bd (sy_env xs 1)).2
    have b4 := (sy_bd (sy_env xs 2)).2
    rcases Nat.lt_or_ge (sy_o (sy_env xs 7)) 2147483666 with hd2 | hd2
    · rcases Nat.lt_or_ge (sy_o (sy_env xs 7)) 2147483651 with hd3 | hd3
      · rcases Nat.lt_or_ge (sy_o (sy_env xs 7)) 2147483650 with hd4 | hd4
        · rcases Nat.lt_or_ge (sy_o (sy_env xs 7)) 2147483649 with hd5 | hd5
          · rcases Nat.lt_or_ge (sy_o (sy_env xs 1)) 2147483650 with hd6 | hd6
            · rcases Nat.lt_or_ge (sy_o (sy_env xs 1)) 2147483649 with hd7 | hd7
              · rcases Nat.lt_or_ge (sy_o (sy_env xs 1)) 2147483648 with hd8 | hd8
                · rcases Nat.lt_or_ge (sy_o (sy_env xs 2)) 2147483660 with hd9 | hd9
                  · rcases Nat.lt_or_ge (sy_o (sy_env xs 2)) 2147483654 with hd10 | hd10
                    · exact sy_fine_ok h7 sy_t15 (by omega) (by omega) (by omega) (by omega) (by omega) (by omega)
                    · exact sy_fine_ok h7 sy_t16 (by omega) (by omega) (by omega) (by omega) (by omega) (by omega)
                  · rcases Nat.lt_or_ge (sy_o (sy_env xs 2)) 2147483666 with hd10 | hd10
                    · exact sy_fine_ok h7 sy_t17 (by omega) (by omega) (by omega) (by omega) (by omega) (by omega)
                    · exact sy_fine_ok h7 sy_t18 (by omega) (by omega) (by omega) (by omega) (by omega) (by omega)
                · rcases Nat.lt_or_ge (sy_o (sy_env xs 2)) 2147483660 with hd9 | hd9
                  · rcases Nat.lt_or_ge (sy_o (sy_env xs 2)) 2147483654 with hd10 | hd10
                    · exact sy_fine_ok h7 sy_t19 (by omega) (by omega) (by omega) (by omega) (by omega) (by omega)
                    · exact sy_fine_ok h7 sy_t20 (by omega) (by omega) (by omega) (by omega) (by omega) (by omega)
                  · rcases Nat.lt_or_ge (sy_o (sy_env xs 2)) 2147483666 with hd10 | hd10
                    · exact sy_fine_ok h7 sy_t21 (by omega) (by omega) (by omega) (by omega) (by omega) (by omega)
                    · exact sy_fine_ok h7 sy_t22 (by omega) (by omega) (by omega) (by omega) (by omega) (by omega)
              · rcases Nat.lt_or_ge (sy_o (sy_env xs 2)) 2147483660 with hd8 | hd8
                · rcases Nat.lt_or_ge (sy_o (sy_env xs 2)) 2147483654 with hd9 | hd9
                  · exact sy_fine_ok h7 sy_t23 (by omega) (by omega) (by omega) (by omega) (by omega) (by omega)
                  · exact sy_fine_ok h7 sy_t24 (by omega) (by omega) (by omega) (by omega) (by omega) (by omega)
                · rcases Nat.lt_or_ge (sy_o (sy_env xs 2)) 2147483666 with hd9 | hd9
                  · exact sy_fine_ok h7 sy_t25 (by omega) (by omega) (by omega) (by omega) (by omega) (by omega)
                  · exact sy_fine_ok h7 sy_t26 (by omega) (by omega) (by omega) (by omega) (by omega) (by omega)
            · rcases Nat.lt_or_ge (sy_o (sy_env xs 1)) 2147483652 with hd7 | hd7
              · rcases Nat.lt_or_ge (sy_o (sy_env xs 1)) 2147483651 with hd8 | hd8
                · rcases Nat.lt_or_ge (sy_o (sy_env xs 2)) 2147483660 with hd9 | hd9
                  · rcases Nat.lt_or_ge (sy_o (sy_env xs 2)) 2147483654 with hd10 | hd10
                    · exact sy_fine_ok h7 sy_t27 (by omega) (by omega) (by omega) (by omega) (by omega) (by omega)
                    · exact sy_fine_ok h7 sy_t28 (by omega) (by omega) (by omega) (by omega) (by omega) (by omega)
                  · rcases Nat.lt_or_ge (sy_o (sy_env xs 2)) 2147483666 with hd10 | hd10
                    · exact sy_fine_ok h7 sy_t29 (by omega) (by omega) (by omega) (by omega) (by omega) (by omega)
                    · exact sy_fine_ok h7 sy_t30 (by omega) (by omega) (by omega) (by omega) (by omega) (by omega)
                · rcases Nat.lt_or_ge (sy_o (sy_env xs 2)) 2147483660 with hd9 | hd9
                  · rcases Nat.lt_or_ge (sy_o (sy_env xs 2)) 2147483654 with hd10 | hd10
                    · exact sy_fine_ok h7 sy_t31 (by omega) (by omega) (by omega) (by omega) (by omega) (by omega)
                    · exact sy_fine_ok h7 sy_t32 (by omega) (by omega) (by omega) (by omega) (by omega) (by omega)
                  · rcases Nat.lt_or_ge (sy_o (sy_env xs 2)) 2147483666 with hd10 | hd10
                    · exact sy_fine_ok h7 sy_t33 (by omega) (by omega) (by omega) (by omega) (by omega) (by omega)
                    · exact sy_fine_ok h7 sy_t34 (by omega) (by omega) (by omega) (by omega) (by omega) (by omega)
              · rcases Nat.lt_or_ge (sy_o (sy_env xs 2)) 2147483660 with hd8 | hd8
                · rcases Nat.lt_or_ge (sy_o (sy_env xs 2)) 2147483654 with hd9 | hd9
                  · exact sy_fine_ok h7 sy_t35 (by omega) (by omega) (by omega) (by omega) (by omega) (by omega)
                  · exact sy_fine_ok h7 sy_t36 (by omega) (by omega) (by omega) (by omega) (by omega) (by omega)
                · rcases Nat.lt_or_ge (sy_o (sy_env xs 2)) 2147483666 with hd9 | hd9
                  · exact sy_fine_ok h7 sy_t37 (by omega) (by omega) (by omega) (by omega) (by omega) (by omega)
                  · exact sy_fine_ok h7 sy_t38 (by omega) (by omega) (by omega) (by omega) (by omega) (by omega)
          · exact sy_fine_ok h7 sy_t0 (by omega) (by omega) (by omega) (by omega) (by omega) (by omega)
        · rcases Nat.lt_or_ge (sy_o (sy_env xs 1)) 2147483650 with hd5 | hd5
          · rcases Nat.lt_or_ge (sy_o (sy_env xs 1)) 2147483648 with hd6 | hd6
            · exact sy_fine_ok h7 sy_t1 (by omega) (by omega) (by omega) (by omega) (by omega) (by omega)
            · exact sy_fine_ok h7 sy_t2 (by omega) (by omega) (by omega) (by omega) (by omega) (by omega)
          · rcases Nat.lt_or_ge (sy_o (sy_env xs 1)) 2147483652 with hd6 | hd6
            · exact sy_fine_ok h7 sy_t3 (by omega) (by omega) (by omega) (by omega) (by omega) (by omega)
            · exact sy_fine_ok h7 sy_t4 (by omega) (by omega) (by omega) (by omega) (by omega) (by omega)
      · rcases Nat.lt_or_ge (sy_o (sy_env xs 7)) 2147483665 with hd4 | hd4
        · rcases Nat.lt_or_ge (sy_o (sy_env xs 7)) 2147483653 with hd5 | hd5
          · exact sy_fine_ok h7 sy_t5 (by omega) (by omega) (by omega) (by omega) (by omega) (by omega)
          · exact sy_fine_ok h7 sy_t6 (by omega) (by omega) (by omega) (by omega) (by omega) (by omega)
        · exact sy_fine_ok h7 sy_t7 (by omega) (by omega) (by omega) (by omega) (by omega) (by omega)
    · rcases Nat.lt_or_ge (sy_o (sy_env xs 7)) 2147483679 with hd3 | hd3
      · rcases Nat.lt_or_ge (sy_o (sy_env xs 7)) 2147483673 with hd4 | hd4
        · rcases Nat.lt_or_ge (sy_o (sy_env xs 7)) 2147483672 with hd5 | hd5
          · exact sy_fine_ok h7 sy_t8 (by omega) (by omega) (by omega) (by omega) (by omega) (by omega)
          · rcases Nat.lt_or_ge (sy_o (sy_env xs 1)) 2147483749 with hd6 | hd6
            · rcases Nat.lt_or_ge (sy_o (sy_env xs 1)) 2147483649 with hd7 | hd7
              · exact sy_fine_ok h7 sy_t9 (by omega) (by omega) (by omega) (by omega) (by omega) (by omega)
              · exact sy_finem_ok h7 (by omega) (by omega) (by omega) (by omega)
            · exact sy_fine_ok h7 sy_t10 (by omega) (by omega) (by omega) (by omega) (by omega) (by omega)
        · exact sy_fine_ok h7 sy_t11 (by omega) (by omega) (by omega) (by omega) (by omega) (by omega)
      · rcases Nat.lt_or_ge (sy_o (sy_env xs 7)) 2147483680 with hd4 | hd4
        · rcases Nat.lt_or_ge (sy_o (sy_env xs 1)) 2147483650 with hd5 | hd5
          · exact sy_fine_ok h7 sy_t12 (by omega) (by omega) (by omega) (by omega) (by omega) (by omega)
          · exact sy_fine_ok h7 sy_t13 (by omega) (by omega) (by omega) (by omega) (by omega) (by omega)
        · exact sy_fine_ok h7 sy_t14 (by omega) (by omega) (by omega) (by omega) (by omega) (by omega)
end SPU
