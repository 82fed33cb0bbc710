/-! THE LAW: which throws there are, which answers are yes or no. -/
section LWH
variable {e : ES} {p1 p2 p3 p4 p5 p6 : Int}
theorem brL_no {N : Int} {q : Nat} : ∀ (n : Nat) (i : Int) (e : ES), (pBrL N n i e).1 ≠ .inr q := by
  intro n
  induction n with
  | zero => intro i e h; cases h
  | succ n ih =>
    intro i e h
    unfold pBrL at h
    split at h
    · split at h
      · exact ih _ _ h
      · cases h
    · cases h
theorem cmp2_no {r k g B : Int} {x : CX} {S : TS} {q : Nat} : (pcComp2 r k g x S B e).1 ≠ .inr q := fun h => by
  unfold pcComp2 at h
  split at h <;> cases h
theorem hq_line : ∀ q, (pcLine p1 p2 p3 p4 e).1 = .inr q → q = 0 ∨ q = 1 ∨ q = 2 := by
  intro q h
  unfold pcLine at h
  try dsimp only at h
  repeat' split at h
  all_goals first | (cases h; done) | exact absurd h (brL_no _ _ _) | exact absurd h cmp2_no | (have h2 := Sum.inr.inj h; omega)
theorem hq_deploy : ∀ q, (pcDeploy p1 e).1 = .inr q → q = 0 ∨ q = 2 := by
  intro q h
  unfold pcDeploy at h
  try dsimp only at h
  repeat' split at h
  all_goals first | (cases h; done) | exact absurd h (brL_no _ _ _) | exact absurd h cmp2_no | (have h2 := Sum.inr.inj h; omega)
theorem hq_setPolicy : ∀ q, (pcSetPolicy p1 p2 e).1 = .inr q → q = 0 ∨ q = 1 := by
  intro q h
  unfold pcSetPolicy at h
  try dsimp only at h
  repeat' split at h
  all_goals first | (cases h; done) | exact absurd h (brL_no _ _ _) | exact absurd h cmp2_no | (have h2 := Sum.inr.inj h; omega)
theorem hq_setKind : ∀ q, (pcSetKind p1 p2 p3 p4 p5 p6 e).1 = .inr q → q = 0 ∨ q = 1 := by
  intro q h
  unfold pcSetKind at h
  try dsimp only at h
  repeat' split at h
  all_goals first | (cases h; done) | exact absurd h (brL_no _ _ _) | exact absurd h cmp2_no | (have h2 := Sum.inr.inj h; omega)
theorem hq_begin : ∀ q, (pcBegin p1 p2 p3 e).1 = .inr q → q = 0 ∨ q = 1 ∨ q = 2 := by
  intro q h
  unfold pcBegin at h
  try dsimp only at h
  repeat' split at h
  all_goals first | (cases h; done) | exact absurd h (brL_no _ _ _) | exact absurd h cmp2_no | (have h2 := Sum.inr.inj h; omega)
theorem hq_signal : ∀ q, (pcSignal p1 p2 p3 e).1 = .inr q → q = 0 ∨ q = 1 ∨ q = 2 := by
  intro q h
  unfold pcSignal at h
  try dsimp only at h
  repeat' split at h
  all_goals first | (cases h; done) | exact absurd h (brL_no _ _ _) | exact absurd h cmp2_no | (have h2 := Sum.inr.inj h; omega)
theorem hq_cancel : ∀ q, (pcCancel p1 e).1 = .inr q → q = 0 ∨ q = 2 := by
  intro q h
  unfold pcCancel at h
  try dsimp only at h
  repeat' split at h
  all_goals first | (cases h; done) | exact absurd h (brL_no _ _ _) | exact absurd h cmp2_no | (have h2 := Sum.inr.inj h; omega)
theorem hb_cancel : ∀ z, (pcCancel p1 e).1 = .inl z → z = 0 ∨ z = 1 := by
  intro z h
  unfold pcCancel at h
  try dsimp only at h
  repeat' split at h
  all_goals first | (cases h; done) | (have h2 := Sum.inl.inj h; omega) | (have h2 := Sum.inl.inj h; rw [← h2]; unfold pCan; split; exact Or.inl rfl; exact Or.inr rfl)
theorem hq_event : ∀ q, (pcEvent p1 p2 e).1 = .inr q → q = 0 := by
  intro q h
  unfold pcEvent at h
  try dsimp only at h
  repeat' split at h
  all_goals first | (cases h; done) | exact absurd h (brL_no _ _ _) | exact absurd h cmp2_no | (have h2 := Sum.inr.inj h; omega)
theorem hq_difference : ∀ q, (pcDifference p1 e).1 = .inr q → q = 0 ∨ q = 2 := by
  intro q h
  unfold pcDifference at h
  try dsimp only at h
  repeat' split at h
  all_goals first | (cases h; done) | exact absurd h (brL_no _ _ _) | exact absurd h cmp2_no | (have h2 := Sum.inr.inj h; omega)
theorem hq_standing : ∀ q, (pcStanding p1 e).1 = .inr q → q = 0 := by
  intro q h
  unfold pcStanding at h
  try dsimp only at h
  repeat' split at h
  all_goals first | (cases h; done) | exact absurd h (brL_no _ _ _) | exact absurd h cmp2_no | (have h2 := Sum.inr.inj h; omega)
theorem hq_setRate : ∀ q, (pcSetRate p1 e).1 = .inr q → q = 1 := by
  intro q h
  unfold pcSetRate at h
  try dsimp only at h
  repeat' split at h
  all_goals first | (cases h; done) | exact absurd h (brL_no _ _ _) | exact absurd h cmp2_no | (have h2 := Sum.inr.inj h; omega)
theorem hq_replays : ∀ q, (pcReplays p1 e).1 = .inr q → q = 0 := by
  intro q h
  unfold pcReplays at h
  try dsimp only at h
  repeat' split at h
  all_goals first | (cases h; done) | exact absurd h (brL_no _ _ _) | exact absurd h cmp2_no | (have h2 := Sum.inr.inj h; omega)
theorem hq_answer : ∀ q, (pcAnswer p1 p2 e).1 = .inr q → q = 0 ∨ q = 1 := by
  intro q h
  unfold pcAnswer at h
  try dsimp only at h
  repeat' split at h
  all_goals first | (cases h; done) | exact absurd h (brL_no _ _ _) | exact absurd h cmp2_no | (have h2 := Sum.inr.inj h; omega)
theorem hb_answer : ∀ z, (pcAnswer p1 p2 e).1 = .inl z → z = 0 ∨ z = 1 := by
  intro z h
  unfold pcAnswer at h
  try dsimp only at h
  repeat' split at h
  all_goals first | (cases h; done) | (have h2 := Sum.inl.inj h; omega) | (have h2 := Sum.inl.inj h; rw [← h2]; unfold pCan; split; exact Or.inl rfl; exact Or.inr rfl)
theorem hq_beat : ∀ q, (pcBeat p1 p2 e).1 = .inr q → q = 0 ∨ q = 1 := by
  intro q h
  unfold pcBeat at h
  try dsimp only at h
  repeat' split at h
  all_goals first | (cases h; done) | exact absurd h (brL_no _ _ _) | exact absurd h cmp2_no | (have h2 := Sum.inr.inj h; omega)
theorem hq_activity : ∀ q, (pcActivity p1 e).1 = .inr q → q = 0 := by
  intro q h
  unfold pcActivity at h
  try dsimp only at h
  repeat' split at h
  all_goals first | (cases h; done) | exact absurd h (brL_no _ _ _) | exact absurd h cmp2_no | (have h2 := Sum.inr.inj h; omega)
theorem hq_take : ∀ q, (pcTake p1 e).1 = .inr q → q = 0 := by
  intro q h
  unfold pcTake at h
  try dsimp only at h
  repeat' split at h
  all_goals first | (cases h; done) | exact absurd h (brL_no _ _ _) | exact absurd h cmp2_no | (have h2 := Sum.inr.inj h; omega)
theorem hq_copy : ∀ q, (pcCopy p1 p2 e).1 = .inr q → q = 0 ∨ q = 1 := by
  intro q h
  unfold pcCopy at h
  try dsimp only at h
  repeat' split at h
  all_goals first | (cases h; done) | exact absurd h (brL_no _ _ _) | exact absurd h cmp2_no | (have h2 := Sum.inr.inj h; omega)
theorem hq_togglePause : ∀ q, (pcTogglePause p1 e).1 = .inr q → q = 0 := by
  intro q h
  unfold pcTogglePause at h
  try dsimp only at h
  repeat' split at h
  all_goals first | (cases h; done) | exact absurd h (brL_no _ _ _) | exact absurd h cmp2_no | (have h2 := Sum.inr.inj h; omega)
theorem hb_togglePause : ∀ z, (pcTogglePause p1 e).1 = .inl z → z = 0 ∨ z = 1 := by
  intro z h
  unfold pcTogglePause at h
  try dsimp only at h
  repeat' split at h
  all_goals first | (cases h; done) | (have h2 := Sum.inl.inj h; omega) | (have h2 := Sum.inl.inj h; rw [← h2]; unfold pCan; split; exact Or.inl rfl; exact Or.inr rfl)
theorem hq_shift : ∀ q, (pcShift p1 e).1 = .inr q → q = 1 := by
  intro q h
  unfold pcShift at h
  try dsimp only at h
  repeat' split at h
  all_goals first | (cases h; done) | exact absurd h (brL_no _ _ _) | exact absurd h cmp2_no | (have h2 := Sum.inr.inj h; omega)
theorem hq_search : ∀ q, (pcSearch p1 e).1 = .inr q → q = 1 := by
  intro q h
  unfold pcSearch at h
  try dsimp only at h
  repeat' split at h
  all_goals first | (cases h; done) | exact absurd h (brL_no _ _ _) | exact absurd h cmp2_no | (have h2 := Sum.inr.inj h; omega)
theorem hq_schedule : ∀ q, (pcSchedule p1 p2 p3 p4 e).1 = .inr q → q = 0 ∨ q = 1 ∨ q = 2 := by
  intro q h
  unfold pcSchedule at h
  try dsimp only at h
  repeat' split at h
  all_goals first | (cases h; done) | exact absurd h (brL_no _ _ _) | exact absurd h cmp2_no | (have h2 := Sum.inr.inj h; omega)
theorem hq_query : ∀ q, (pcQuery p1 p2 e).1 = .inr q → q = 0 ∨ q = 2 := by
  intro q h
  unfold pcQuery at h
  try dsimp only at h
  repeat' split at h
  all_goals first | (cases h; done) | exact absurd h (brL_no _ _ _) | exact absurd h cmp2_no | (have h2 := Sum.inr.inj h; omega)
theorem hq_plain : ∀ q, (pcPlain p1 p2 e).1 = .inr q → q = 0 ∨ q = 2 := by
  intro q h
  unfold pcPlain at h
  try dsimp only at h
  repeat' split at h
  all_goals first | (cases h; done) | exact absurd h (brL_no _ _ _) | exact absurd h cmp2_no | (have h2 := Sum.inr.inj h; omega)
theorem hq_update : ∀ q, (pcUpdate p1 p2 p3 e).1 = .inr q → q = 0 ∨ q = 1 ∨ q = 2 := by
  intro q h
  unfold pcUpdate at h
  try dsimp only at h
  repeat' split at h
  all_goals first | (cases h; done) | exact absurd h (brL_no _ _ _) | exact absurd h cmp2_no | (have h2 := Sum.inr.inj h; omega)
theorem hb_update : ∀ z, (pcUpdate p1 p2 p3 e).1 = .inl z → z = 0 ∨ z = 1 := by
  intro z h
  unfold pcUpdate at h
  try dsimp only at h
  repeat' split at h
  all_goals first | (cases h; done) | (have h2 := Sum.inl.inj h; omega) | (have h2 := Sum.inl.inj h; rw [← h2]; unfold pCan; split; exact Or.inl rfl; exact Or.inr rfl)
theorem hq_poll : ∀ q, (pcPoll p1 e).1 = .inr q → q = 0 := by
  intro q h
  unfold pcPoll at h
  try dsimp only at h
  repeat' split at h
  all_goals first | (cases h; done) | exact absurd h (brL_no _ _ _) | exact absurd h cmp2_no | (have h2 := Sum.inr.inj h; omega)
theorem hq_die : ∀ q, (pcDie p1 e).1 = .inr q → q = 0 := by
  intro q h
  unfold pcDie at h
  try dsimp only at h
  repeat' split at h
  all_goals first | (cases h; done) | exact absurd h (brL_no _ _ _) | exact absurd h cmp2_no | (have h2 := Sum.inr.inj h; omega)
theorem hq_complete : ∀ q, (pcComplete p1 e).1 = .inr q → q = 0 := by
  intro q h
  unfold pcComplete at h
  try dsimp only at h
  repeat' split at h
  all_goals first | (cases h; done) | exact absurd h (brL_no _ _ _) | exact absurd h cmp2_no | (have h2 := Sum.inr.inj h; omega)
theorem hq_move : ∀ q, (pcMove p1 p2 e).1 = .inr q → q = 0 ∨ q = 2 := by
  intro q h
  unfold pcMove at h
  try dsimp only at h
  repeat' split at h
  all_goals first | (cases h; done) | exact absurd h (brL_no _ _ _) | exact absurd h cmp2_no | (have h2 := Sum.inr.inj h; omega)
theorem hb_move : ∀ z, (pcMove p1 p2 e).1 = .inl z → z = 0 ∨ z = 1 := by
  intro z h
  unfold pcMove at h
  try dsimp only at h
  repeat' split at h
  all_goals first | (cases h; done) | (have h2 := Sum.inl.inj h; omega) | (have h2 := Sum.inl.inj h; rw [← h2]; unfold pCan; split; exact Or.inl rfl; exact Or.inr rfl)
theorem hq_unsafe : ∀ q, (pcUnsafe p1 p2 e).1 = .inr q → q = 0 := by
  intro q h
  unfold pcUnsafe at h
  try dsimp only at h
  repeat' split at h
  all_goals first | (cases h; done) | exact absurd h (brL_no _ _ _) | exact absurd h cmp2_no | (have h2 := Sum.inr.inj h; omega)
theorem hq_bringIn : ∀ q, (pcBringIn p1 e).1 = .inr q → q = 1 := by
  intro q h
  unfold pcBringIn at h
  try dsimp only at h
  repeat' split at h
  all_goals first | (cases h; done) | exact absurd h (brL_no _ _ _) | exact absurd h cmp2_no | (have h2 := Sum.inr.inj h; omega)
theorem hq_backfill : ∀ q, (pcBackfill p1 p2 e).1 = .inr q → q = 0 ∨ q = 1 := by
  intro q h
  unfold pcBackfill at h
  try dsimp only at h
  repeat' split at h
  all_goals first | (cases h; done) | exact absurd h (brL_no _ _ _) | exact absurd h cmp2_no | (have h2 := Sum.inr.inj h; omega)
theorem hq_join : ∀ q, (pcJoin  e).1 = .inr q → q = 2 := by
  intro q h
  unfold pcJoin at h
  try dsimp only at h
  repeat' split at h
  all_goals first | (cases h; done) | exact absurd h (brL_no _ _ _) | exact absurd h cmp2_no | (have h2 := Sum.inr.inj h; omega)
theorem hq_setBack : ∀ q, (pcSetBack p1 p2 e).1 = .inr q → q = 0 ∨ q = 2 := by
  intro q h
  unfold pcSetBack at h
  try dsimp only at h
  repeat' split at h
  all_goals first | (cases h; done) | exact absurd h (brL_no _ _ _) | exact absurd h cmp2_no | (have h2 := Sum.inr.inj h; omega)
theorem hq_takeOver : ∀ q, (pcTakeOver  e).1 = .inr q → q = 2 := by
  intro q h
  unfold pcTakeOver at h
  try dsimp only at h
  repeat' split at h
  all_goals first | (cases h; done) | exact absurd h (brL_no _ _ _) | exact absurd h cmp2_no | (have h2 := Sum.inr.inj h; omega)
theorem hq_pass : ∀ q, (pcPass p1 e).1 = .inr q → q = 1 := by
  intro q h
  unfold pcPass at h
  try dsimp only at h
  repeat' split at h
  all_goals first | (cases h; done) | exact absurd h (brL_no _ _ _) | exact absurd h cmp2_no | (have h2 := Sum.inr.inj h; omega)
end LWH
