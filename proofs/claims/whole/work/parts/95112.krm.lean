/-! THE ROOM: how many objects there are: what each method makes (written by wip/whole/gen/gen951.py), 12. -/
section KW12
set_option maxHeartbeats 4000000 in
theorem kw_L_query {m0 : MM} {p1 p2 : Int} {rz : Int} {rm : MM} (hF : Fix m0)
  (h : fm_L_query p1 p2 m0 = some (rz, rm)) : Kr fW_L_query 0 1 m0 rm := by
  have hQ : ∀ {n : Int}, Kr fW_L_query 0 n m0 rm → n ≤ 1 → Kr fW_L_query 0 1 m0 rm := fun w h => Kr.le w h
  unfold fm_L_query at h
  obtain ⟨rr5, m_5, hc_3, h⟩ := bx_s h
  rcases h with ⟨q_12, rfl, h⟩ | ⟨x_4, rfl, h⟩
  · rcases it_s h with ⟨hp_14, h⟩ | ⟨hp_14, h⟩
    · have w_17 := (kw_X11_query hF hc_3)
      have E_10 := Kr.ext w_17
      have w_18 := Kr.tr0 (Kr.rf (W := fW_L_query) (e := 0) hF) w_17 (by decide +kernel)
      cases h
      exact hQ w_18 (by first | exact Int.le_refl _ | exact (by decide : (0 : Int) ≤ 1))
    rcases it_s h with ⟨hp_21, h⟩ | ⟨hp_21, h⟩
    · have w_24 := (kw_X11_query hF hc_3)
      have E_10 := Kr.ext w_24
      have w_25 := Kr.tr0 (Kr.rf (W := fW_L_query) (e := 0) hF) w_24 (by decide +kernel)
      cases h
      exact hQ w_25 (by first | exact Int.le_refl _ | exact (by decide : (0 : Int) ≤ 1))
    cases h
  have w_28 := (kw_X11_query hF hc_3)
  have E_10 := Kr.ext w_28
  have w_29 := Kr.tr0 (Kr.rf (W := fW_L_query) (e := 0) hF) w_28 (by decide +kernel)
  obtain ⟨m_33, e_34, h⟩ := up_s h
  have E_37 := ext_up e_34 (And.left (fx_kF (c := 101) (Kr.fix w_29) (by decide +kernel))) (by decide)
  have w_38 := Kr.upC (y := (-9)) w_29 e_34 (ext_up e_34 (And.left (fx_kF (c := 101) (Kr.fix w_29) (by decide +kernel))) (by decide)) (And.left (fx_kF (c := 101) (Kr.fix w_29) (by decide +kernel))) (fx_a (Kr.fix w_29) (fx_kF (c := 101) (Kr.fix w_29) (by decide +kernel)) (by decide) (by decide +kernel)) (Or.inl rfl) (by decide +kernel) (fx_kF (c := 101) (Kr.fix w_29) (by decide +kernel)) (by decide) (by first | exact Or.inl (by decide) | exact Or.inr (by decide))
  cases h
  exact hQ w_38 (by first | exact Int.le_refl _ | exact (by decide : (0 : Int) ≤ 1))
set_option maxHeartbeats 4000000 in
theorem kw_L_plain {m0 : MM} {p1 p2 : Int} {rz : Int} {rm : MM} (hF : Fix m0)
  (h : fm_L_plain p1 p2 m0 = some (rz, rm)) : Kr fW_L_plain 0 1 m0 rm := by
  have hQ : ∀ {n : Int}, Kr fW_L_plain 0 n m0 rm → n ≤ 1 → Kr fW_L_plain 0 1 m0 rm := fun w h => Kr.le w h
  unfold fm_L_plain at h
  obtain ⟨rr5, m_5, hc_3, h⟩ := bx_s h
  rcases h with ⟨q_12, rfl, h⟩ | ⟨x_4, rfl, h⟩
  · rcases it_s h with ⟨hp_14, h⟩ | ⟨hp_14, h⟩
    · have w_17 := (kw_X11_plain hF hc_3)
      have E_10 := Kr.ext w_17
      have w_18 := Kr.tr0 (Kr.rf (W := fW_L_plain) (e := 0) hF) w_17 (by decide +kernel)
      cases h
      exact hQ w_18 (by first | exact Int.le_refl _ | exact (by decide : (0 : Int) ≤ 1))
    rcases it_s h with ⟨hp_21, h⟩ | ⟨hp_21, h⟩
    · have w_24 := (kw_X11_plain hF hc_3)
      have E_10 := Kr.ext w_24
      have w_25 := Kr.tr0 (Kr.rf (W := fW_L_plain) (e := 0) hF) w_24 (by decide +kernel)
      cases h
      exact hQ w_25 (by first | exact Int.le_refl _ | exact (by decide : (0 : Int) ≤ 1))
    cases h
  have w_28 := (kw_X11_plain hF hc_3)
  have E_10 := Kr.ext w_28
  have w_29 := Kr.tr0 (Kr.rf (W := fW_L_plain) (e := 0) hF) w_28 (by decide +kernel)
  obtain ⟨m_33, e_34, h⟩ := up_s h
  have E_37 := ext_up e_34 (And.left (fx_kF (c := 101) (Kr.fix w_29) (by decide +kernel))) (by decide)
  have w_38 := Kr.upC (y := (-9)) w_29 e_34 (ext_up e_34 (And.left (fx_kF (c := 101) (Kr.fix w_29) (by decide +kernel))) (by decide)) (And.left (fx_kF (c := 101) (Kr.fix w_29) (by decide +kernel))) (fx_a (Kr.fix w_29) (fx_kF (c := 101) (Kr.fix w_29) (by decide +kernel)) (by decide) (by decide +kernel)) (Or.inl rfl) (by decide +kernel) (fx_kF (c := 101) (Kr.fix w_29) (by decide +kernel)) (by decide) (by first | exact Or.inl (by decide) | exact Or.inr (by decide))
  cases h
  exact hQ w_38 (by first | exact Int.le_refl _ | exact (by decide : (0 : Int) ≤ 1))
set_option maxHeartbeats 4000000 in
theorem kw_L_standing {m0 : MM} {p1 : Int} {rz : Int} {rm : MM} (hF : Fix m0)
  (h : fm_L_standing p1 m0 = some (rz, rm)) : Kr fW_L_standing 0 1 m0 rm := by
  have hQ : ∀ {n : Int}, Kr fW_L_standing 0 n m0 rm → n ≤ 1 → Kr fW_L_standing 0 1 m0 rm := fun w h => Kr.le w h
  unfold fm_L_standing at h
  obtain ⟨rr5, m_5, hc_3, h⟩ := bx_s h
  rcases h with ⟨q_12, rfl, h⟩ | ⟨x_4, rfl, h⟩
  · rcases it_s h with ⟨hp_14, h⟩ | ⟨hp_14, h⟩
    · have w_17 := (kw_X11_standing hF hc_3)
      have E_10 := Kr.ext w_17
      have w_18 := Kr.tr0 (Kr.rf (W := fW_L_standing) (e := 0) hF) w_17 (by decide +kernel)
      cases h
      exact hQ w_18 (by first | exact Int.le_refl _ | exact (by decide : (0 : Int) ≤ 1))
    cases h
  have w_21 := (kw_X11_standing hF hc_3)
  have E_10 := Kr.ext w_21
  have w_22 := Kr.tr0 (Kr.rf (W := fW_L_standing) (e := 0) hF) w_21 (by decide +kernel)
  obtain ⟨m_26, e_27, h⟩ := up_s h
  have E_30 := ext_up e_27 (And.left (fx_kF (c := 101) (Kr.fix w_22) (by decide +kernel))) (by decide)
  have w_31 := Kr.upC (y := (-9)) w_22 e_27 (ext_up e_27 (And.left (fx_kF (c := 101) (Kr.fix w_22) (by decide +kernel))) (by decide)) (And.left (fx_kF (c := 101) (Kr.fix w_22) (by decide +kernel))) (fx_a (Kr.fix w_22) (fx_kF (c := 101) (Kr.fix w_22) (by decide +kernel)) (by decide) (by decide +kernel)) (Or.inl rfl) (by decide +kernel) (fx_kF (c := 101) (Kr.fix w_22) (by decide +kernel)) (by decide) (by first | exact Or.inl (by decide) | exact Or.inr (by decide))
  cases h
  exact hQ w_31 (by first | exact Int.le_refl _ | exact (by decide : (0 : Int) ≤ 1))
set_option maxHeartbeats 4000000 in
theorem kw_L_event {m0 : MM} {p1 p2 : Int} {rz : Int} {rm : MM} (hF : Fix m0)
  (h : fm_L_event p1 p2 m0 = some (rz, rm)) : Kr fW_L_event 0 1 m0 rm := by
  have hQ : ∀ {n : Int}, Kr fW_L_event 0 n m0 rm → n ≤ 1 → Kr fW_L_event 0 1 m0 rm := fun w h => Kr.le w h
  unfold fm_L_event at h
  obtain ⟨rr5, m_5, hc_3, h⟩ := bx_s h
  rcases h with ⟨q_12, rfl, h⟩ | ⟨x_4, rfl, h⟩
  · rcases it_s h with ⟨hp_14, h⟩ | ⟨hp_14, h⟩
    · have w_17 := (kw_X11_event hF hc_3)
      have E_10 := Kr.ext w_17
      have w_18 := Kr.tr0 (Kr.rf (W := fW_L_event) (e := 0) hF) w_17 (by decide +kernel)
      cases h
      exact hQ w_18 (by first | exact Int.le_refl _ | exact (by decide : (0 : Int) ≤ 1))
    cases h
  have w_21 := (kw_X11_event hF hc_3)
  have E_10 := Kr.ext w_21
  have w_22 := Kr.tr0 (Kr.rf (W := fW_L_event) (e := 0) hF) w_21 (by decide +kernel)
  obtain ⟨m_26, e_27, h⟩ := up_s h
  have E_30 := ext_up e_27 (And.left (fx_kF (c := 101) (Kr.fix w_22) (by decide +kernel))) (by decide)
  have w_31 := Kr.upC (y := (-9)) w_22 e_27 (ext_up e_27 (And.left (fx_kF (c := 101) (Kr.fix w_22) (by decide +kernel))) (by decide)) (And.left (fx_kF (c := 101) (Kr.fix w_22) (by decide +kernel))) (fx_a (Kr.fix w_22) (fx_kF (c := 101) (Kr.fix w_22) (by decide +kernel)) (by decide) (by decide +kernel)) (Or.inl rfl) (by decide +kernel) (fx_kF (c := 101) (Kr.fix w_22) (by decide +kernel)) (by decide) (by first | exact Or.inl (by decide) | exact Or.inr (by decide))
  cases h
  exact hQ w_31 (by first | exact Int.le_refl _ | exact (by decide : (0 : Int) ≤ 1))
set_option maxHeartbeats 4000000 in
theorem kw_L_difference {m0 : MM} {p1 : Int} {rz : Int} {rm : MM} (hF : Fix m0)
  (h : fm_L_difference p1 m0 = some (rz, rm)) : Kr fW_L_difference 0 1 m0 rm := by
  have hQ : ∀ {n : Int}, Kr fW_L_difference 0 n m0 rm → n ≤ 1 → Kr fW_L_difference 0 1 m0 rm := fun w h => Kr.le w h
  unfold fm_L_difference at h
  obtain ⟨rr5, m_5, hc_3, h⟩ := bx_s h
  rcases h with ⟨q_12, rfl, h⟩ | ⟨x_4, rfl, h⟩
  · rcases it_s h with ⟨hp_14, h⟩ | ⟨hp_14, h⟩
    · have w_17 := (kw_X11_difference hF hc_3)
      have E_10 := Kr.ext w_17
      have w_18 := Kr.tr0 (Kr.rf (W := fW_L_difference) (e := 0) hF) w_17 (by decide +kernel)
      cases h
      exact hQ w_18 (by first | exact Int.le_refl _ | exact (by decide : (0 : Int) ≤ 1))
    rcases it_s h with ⟨hp_21, h⟩ | ⟨hp_21, h⟩
    · have w_24 := (kw_X11_difference hF hc_3)
      have E_10 := Kr.ext w_24
      have w_25 := Kr.tr0 (Kr.rf (W := fW_L_difference) (e := 0) hF) w_24 (by decide +kernel)
      cases h
      exact hQ w_25 (by first | exact Int.le_refl _ | exact (by decide : (0 : Int) ≤ 1))
    cases h
  have w_28 := (kw_X11_difference hF hc_3)
  have E_10 := Kr.ext w_28
  have w_29 := Kr.tr0 (Kr.rf (W := fW_L_difference) (e := 0) hF) w_28 (by decide +kernel)
  obtain ⟨m_33, e_34, h⟩ := up_s h
  have E_37 := ext_up e_34 (And.left (fx_kF (c := 101) (Kr.fix w_29) (by decide +kernel))) (by decide)
  have w_38 := Kr.upC (y := (-9)) w_29 e_34 (ext_up e_34 (And.left (fx_kF (c := 101) (Kr.fix w_29) (by decide +kernel))) (by decide)) (And.left (fx_kF (c := 101) (Kr.fix w_29) (by decide +kernel))) (fx_a (Kr.fix w_29) (fx_kF (c := 101) (Kr.fix w_29) (by decide +kernel)) (by decide) (by decide +kernel)) (Or.inl rfl) (by decide +kernel) (fx_kF (c := 101) (Kr.fix w_29) (by decide +kernel)) (by decide) (by first | exact Or.inl (by decide) | exact Or.inr (by decide))
  cases h
  exact hQ w_38 (by first | exact Int.le_refl _ | exact (by decide : (0 : Int) ≤ 1))
set_option maxHeartbeats 4000000 in
theorem kw_L_setRate {m0 : MM} {p1 : Int} {rz : Int} {rm : MM} (hF : Fix m0)
  (h : fm_L_setRate p1 m0 = some (rz, rm)) : Kr fW_L_setRate 0 1 m0 rm := by
  have hQ : ∀ {n : Int}, Kr fW_L_setRate 0 n m0 rm → n ≤ 1 → Kr fW_L_setRate 0 1 m0 rm := fun w h => Kr.le w h
  unfold fm_L_setRate at h
  obtain ⟨rr5, m_5, hc_3, h⟩ := bx_s h
  rcases h with ⟨q_12, rfl, h⟩ | ⟨x_4, rfl, h⟩
  · rcases it_s h with ⟨hp_14, h⟩ | ⟨hp_14, h⟩
    · have w_17 := (kw_X11_setRate hF hc_3)
      have E_10 := Kr.ext w_17
      have w_18 := Kr.tr0 (Kr.rf (W := fW_L_setRate) (e := 0) hF) w_17 (by decide +kernel)
      cases h
      exact hQ w_18 (by first | exact Int.le_refl _ | exact (by decide : (0 : Int) ≤ 1))
    cases h
  have w_21 := (kw_X11_setRate hF hc_3)
  have E_10 := Kr.ext w_21
  have w_22 := Kr.tr0 (Kr.rf (W := fW_L_setRate) (e := 0) hF) w_21 (by decide +kernel)
  obtain ⟨m_26, e_27, h⟩ := up_s h
  have E_30 := ext_up e_27 (And.left (fx_kF (c := 101) (Kr.fix w_22) (by decide +kernel))) (by decide)
  have w_31 := Kr.upC (y := (-9)) w_22 e_27 (ext_up e_27 (And.left (fx_kF (c := 101) (Kr.fix w_22) (by decide +kernel))) (by decide)) (And.left (fx_kF (c := 101) (Kr.fix w_22) (by decide +kernel))) (fx_a (Kr.fix w_22) (fx_kF (c := 101) (Kr.fix w_22) (by decide +kernel)) (by decide) (by decide +kernel)) (Or.inl rfl) (by decide +kernel) (fx_kF (c := 101) (Kr.fix w_22) (by decide +kernel)) (by decide) (by first | exact Or.inl (by decide) | exact Or.inr (by decide))
  cases h
  exact hQ w_31 (by first | exact Int.le_refl _ | exact (by decide : (0 : Int) ≤ 1))
set_option maxHeartbeats 4000000 in
theorem kw_L_poll {m0 : MM} {p1 : Int} {rz : Int} {rm : MM} (hF : Fix m0)
  (h : fm_L_poll p1 m0 = some (rz, rm)) : Kr fW_L_poll 0 1 m0 rm := by
  have hQ : ∀ {n : Int}, Kr fW_L_poll 0 n m0 rm → n ≤ 1 → Kr fW_L_poll 0 1 m0 rm := fun w h => Kr.le w h
  unfold fm_L_poll at h
  obtain ⟨rr5, m_5, hc_3, h⟩ := bx_s h
  rcases h with ⟨q_12, rfl, h⟩ | ⟨x_4, rfl, h⟩
  · rcases it_s h with ⟨hp_14, h⟩ | ⟨hp_14, h⟩
    · have w_17 := (kw_X11_poll hF hc_3)
      have E_10 := Kr.ext w_17
      have w_18 := Kr.tr0 (Kr.rf (W := fW_L_poll) (e := 0) hF) w_17 (by decide +kernel)
      cases h
      exact hQ w_18 (by first | exact Int.le_refl _ | exact (by decide : (0 : Int) ≤ 1))
    cases h
  have w_21 := (kw_X11_poll hF hc_3)
  have E_10 := Kr.ext w_21
  have w_22 := Kr.tr0 (Kr.rf (W := fW_L_poll) (e := 0) hF) w_21 (by decide +kernel)
  obtain ⟨m_26, e_27, h⟩ := up_s h
  have E_30 := ext_up e_27 (And.left (fx_kF (c := 101) (Kr.fix w_22) (by decide +kernel))) (by decide)
  have w_31 := Kr.upC (y := (-9)) w_22 e_27 (ext_up e_27 (And.left (fx_kF (c := 101) (Kr.fix w_22) (by decide +kernel))) (by decide)) (And.left (fx_kF (c := 101) (Kr.fix w_22) (by decide +kernel))) (fx_a (Kr.fix w_22) (fx_kF (c := 101) (Kr.fix w_22) (by decide +kernel)) (by decide) (by decide +kernel)) (Or.inl rfl) (by decide +kernel) (fx_kF (c := 101) (Kr.fix w_22) (by decide +kernel)) (by decide) (by first | exact Or.inl (by decide) | exact Or.inr (by decide))
  cases h
  exact hQ w_31 (by first | exact Int.le_refl _ | exact (by decide : (0 : Int) ≤ 1))
set_option maxHeartbeats 4000000 in
theorem kw_L_complete {m0 : MM} {p1 : Int} {rz : Int} {rm : MM} (hF : Fix m0)
  (h : fm_L_complete p1 m0 = some (rz, rm)) : Kr fW_L_complete 0 1 m0 rm := by
  have hQ : ∀ {n : Int}, Kr fW_L_complete 0 n m0 rm → n ≤ 1 → Kr fW_L_complete 0 1 m0 rm := fun w h => Kr.le w h
  unfold fm_L_complete at h
  obtain ⟨rr5, m_5, hc_3, h⟩ := bx_s h
  rcases h with ⟨q_12, rfl, h⟩ | ⟨x_4, rfl, h⟩
  · rcases it_s h with ⟨hp_14, h⟩ | ⟨hp_14, h⟩
    · have w_17 := (kw_X11_complete hF hc_3)
      have E_10 := Kr.ext w_17
      have w_18 := Kr.tr0 (Kr.rf (W := fW_L_complete) (e := 0) hF) w_17 (by decide +kernel)
      cases h
      exact hQ w_18 (by first | exact Int.le_refl _ | exact (by decide : (0 : Int) ≤ 1))
    cases h
  have w_21 := (kw_X11_complete hF hc_3)
  have E_10 := Kr.ext w_21
  have w_22 := Kr.tr0 (Kr.rf (W := fW_L_complete) (e := 0) hF) w_21 (by decide +kernel)
  obtain ⟨m_26, e_27, h⟩ := up_s h
  have E_30 := ext_up e_27 (And.left (fx_kF (c := 101) (Kr.fix w_22) (by decide +kernel))) (by decide)
  have w_31 := Kr.upC (y := (-9)) w_22 e_27 (ext_up e_27 (And.left (fx_kF (c := 101) (Kr.fix w_22) (by decide +kernel))) (by decide)) (And.left (fx_kF (c := 101) (Kr.fix w_22) (by decide +kernel))) (fx_a (Kr.fix w_22) (fx_kF (c := 101) (Kr.fix w_22) (by decide +kernel)) (by decide) (by decide +kernel)) (Or.inl rfl) (by decide +kernel) (fx_kF (c := 101) (Kr.fix w_22) (by decide +kernel)) (by decide) (by first | exact Or.inl (by decide) | exact Or.inr (by decide))
  cases h
  exact hQ w_31 (by first | exact Int.le_refl _ | exact (by decide : (0 : Int) ≤ 1))
set_option maxHeartbeats 4000000 in
theorem kw_L_die {m0 : MM} {p1 : Int} {rz : Int} {rm : MM} (hF : Fix m0)
  (h : fm_L_die p1 m0 = some (rz, rm)) : Kr fW_L_die 0 1 m0 rm := by
  have hQ : ∀ {n : Int}, Kr fW_L_die 0 n m0 rm → n ≤ 1 → Kr fW_L_die 0 1 m0 rm := fun w h => Kr.le w h
  unfold fm_L_die at h
  obtain ⟨rr5, m_5, hc_3, h⟩ := bx_s h
  rcases h with ⟨q_12, rfl, h⟩ | ⟨x_4, rfl, h⟩
  · rcases it_s h with ⟨hp_14, h⟩ | ⟨hp_14, h⟩
    · have w_17 := (kw_X11_die hF hc_3)
      have E_10 := Kr.ext w_17
      have w_18 := Kr.tr0 (Kr.rf (W := fW_L_die) (e := 0) hF) w_17 (by decide +kernel)
      cases h
      exact hQ w_18 (by first | exact Int.le_refl _ | exact (by decide : (0 : Int) ≤ 1))
    cases h
  have w_21 := (kw_X11_die hF hc_3)
  have E_10 := Kr.ext w_21
  have w_22 := Kr.tr0 (Kr.rf (W := fW_L_die) (e := 0) hF) w_21 (by decide +kernel)
  obtain ⟨m_26, e_27, h⟩ := up_s h
  have E_30 := ext_up e_27 (And.left (fx_kF (c := 101) (Kr.fix w_22) (by decide +kernel))) (by decide)
  have w_31 := Kr.upC (y := (-9)) w_22 e_27 (ext_up e_27 (And.left (fx_kF (c := 101) (Kr.fix w_22) (by decide +kernel))) (by decide)) (And.left (fx_kF (c := 101) (Kr.fix w_22) (by decide +kernel))) (fx_a (Kr.fix w_22) (fx_kF (c := 101) (Kr.fix w_22) (by decide +kernel)) (by decide) (by decide +kernel)) (Or.inl rfl) (by decide +kernel) (fx_kF (c := 101) (Kr.fix w_22) (by decide +kernel)) (by decide) (by first | exact Or.inl (by decide) | exact Or.inr (by decide))
  cases h
  exact hQ w_31 (by first | exact Int.le_refl _ | exact (by decide : (0 : Int) ≤ 1))
set_option maxHeartbeats 4000000 in
theorem kw_L_replays {m0 : MM} {p1 : Int} {rz : Int} {rm : MM} (hF : Fix m0)
  (h : fm_L_replays p1 m0 = some (rz, rm)) : Kr fW_L_replays 0 1 m0 rm := by
  have hQ : ∀ {n : Int}, Kr fW_L_replays 0 n m0 rm → n ≤ 1 → Kr fW_L_replays 0 1 m0 rm := fun w h => Kr.le w h
  unfold fm_L_replays at h
  obtain ⟨rr5, m_5, hc_3, h⟩ := bx_s h
  rcases h with ⟨q_12, rfl, h⟩ | ⟨x_4, rfl, h⟩
  · rcases it_s h with ⟨hp_14, h⟩ | ⟨hp_14, h⟩
    · have w_17 := (kw_X11_replays hF hc_3)
      have E_10 := Kr.ext w_17
      have w_18 := Kr.tr0 (Kr.rf (W := fW_L_replays) (e := 0) hF) w_17 (by decide +kernel)
      cases h
      exact hQ w_18 (by first | exact Int.le_refl _ | exact (by decide : (0 : Int) ≤ 1))
    cases h
  have w_21 := (kw_X11_replays hF hc_3)
  have E_10 := Kr.ext w_21
  have w_22 := Kr.tr0 (Kr.rf (W := fW_L_replays) (e := 0) hF) w_21 (by decide +kernel)
  obtain ⟨m_26, e_27, h⟩ := up_s h
  have E_30 := ext_up e_27 (And.left (fx_kF (c := 101) (Kr.fix w_22) (by decide +kernel))) (by decide)
  have w_31 := Kr.upC (y := (-9)) w_22 e_27 (ext_up e_27 (And.left (fx_kF (c := 101) (Kr.fix w_22) (by decide +kernel))) (by decide)) (And.left (fx_kF (c := 101) (Kr.fix w_22) (by decide +kernel))) (fx_a (Kr.fix w_22) (fx_kF (c := 101) (Kr.fix w_22) (by decide +kernel)) (by decide) (by decide +kernel)) (Or.inl rfl) (by decide +kernel) (fx_kF (c := 101) (Kr.fix w_22) (by decide +kernel)) (by decide) (by first | exact Or.inl (by decide) | exact Or.inr (by decide))
  cases h
  exact hQ w_31 (by first | exact Int.le_refl _ | exact (by decide : (0 : Int) ≤ 1))
set_option maxHeartbeats 4000000 in
theorem kw_L_take {m0 : MM} {p1 : Int} {rz : Int} {rm : MM} (hF : Fix m0)
  (h : fm_L_take p1 m0 = some (rz, rm)) : Kr fW_L_take 0 1 m0 rm := by
  have hQ : ∀ {n : Int}, Kr fW_L_take 0 n m0 rm → n ≤ 1 → Kr fW_L_take 0 1 m0 rm := fun w h => Kr.le w h
  unfold fm_L_take at h
  obtain ⟨rr5, m_5, hc_3, h⟩ := bx_s h
  rcases h with ⟨q_12, rfl, h⟩ | ⟨x_4, rfl, h⟩
  · rcases it_s h with ⟨hp_14, h⟩ | ⟨hp_14, h⟩
    · have w_17 := (kw_X11_take hF hc_3)
      have E_10 := Kr.ext w_17
      have w_18 := Kr.tr0 (Kr.rf (W := fW_L_take) (e := 0) hF) w_17 (by decide +kernel)
      cases h
      exact hQ w_18 (by first | exact Int.le_refl _ | exact (by decide : (0 : Int) ≤ 1))
    cases h
  have w_21 := (kw_X11_take hF hc_3)
  have E_10 := Kr.ext w_21
  have w_22 := Kr.tr0 (Kr.rf (W := fW_L_take) (e := 0) hF) w_21 (by decide +kernel)
  obtain ⟨m_26, e_27, h⟩ := up_s h
  have E_30 := ext_up e_27 (And.left (fx_kF (c := 101) (Kr.fix w_22) (by decide +kernel))) (by decide)
  have w_31 := Kr.upC (y := (-9)) w_22 e_27 (ext_up e_27 (And.left (fx_kF (c := 101) (Kr.fix w_22) (by decide +kernel))) (by decide)) (And.left (fx_kF (c := 101) (Kr.fix w_22) (by decide +kernel))) (fx_a (Kr.fix w_22) (fx_kF (c := 101) (Kr.fix w_22) (by decide +kernel)) (by decide) (by decide +kernel)) (Or.inl rfl) (by decide +kernel) (fx_kF (c := 101) (Kr.fix w_22) (by decide +kernel)) (by decide) (by first | exact Or.inl (by decide) | exact Or.inr (by decide))
  cases h
  exact hQ w_31 (by first | exact Int.le_refl _ | exact (by decide : (0 : Int) ≤ 1))
set_option maxHeartbeats 4000000 in
theorem kw_L_answer {m0 : MM} {p1 p2 : Int} {rz : Int} {rm : MM} (hF : Fix m0)
  (h : fm_L_answer p1 p2 m0 = some (rz, rm)) : Kr fW_L_answer 0 1 m0 rm := by
  have hQ : ∀ {n : Int}, Kr fW_L_answer 0 n m0 rm → n ≤ 1 → Kr fW_L_answer 0 1 m0 rm := fun w h => Kr.le w h
  unfold fm_L_answer at h
  obtain ⟨rr5, m_5, hc_3, h⟩ := bx_s h
  rcases h with ⟨q_12, rfl, h⟩ | ⟨x_4, rfl, h⟩
  · rcases it_s h with ⟨hp_14, h⟩ | ⟨hp_14, h⟩
    · have w_17 := (kw_X11_answer hF hc_3)
      have E_10 := Kr.ext w_17
      have w_18 := Kr.tr0 (Kr.rf (W := fW_L_answer) (e := 0) hF) w_17 (by decide +kernel)
      cases h
      exact hQ w_18 (by first | exact Int.le_refl _ | exact (by decide : (0 : Int) ≤ 1))
    rcases it_s h with ⟨hp_21, h⟩ | ⟨hp_21, h⟩
    · have w_24 := (kw_X11_answer hF hc_3)
      have E_10 := Kr.ext w_24
      have w_25 := Kr.tr0 (Kr.rf (W := fW_L_answer) (e := 0) hF) w_24 (by decide +kernel)
      cases h
      exact hQ w_25 (by first | exact Int.le_refl _ | exact (by decide : (0 : Int) ≤ 1))
    cases h
  have w_28 := (kw_X11_answer hF hc_3)
  have E_10 := Kr.ext w_28
  have w_29 := Kr.tr0 (Kr.rf (W := fW_L_answer) (e := 0) hF) w_28 (by decide +kernel)
  rcases it_s h with ⟨hp_31, h⟩ | ⟨hp_31, h⟩
  · obtain ⟨m_34, e_35, h⟩ := up_s h
    have E_38 := ext_up e_35 (And.left (fx_kF (c := 101) (Kr.fix w_29) (by decide +kernel))) (by decide)
    have w_39 := Kr.upC (y := (-9)) w_29 e_35 (ext_up e_35 (And.left (fx_kF (c := 101) (Kr.fix w_29) (by decide +kernel))) (by decide)) (And.left (fx_kF (c := 101) (Kr.fix w_29) (by decide +kernel))) (fx_a (Kr.fix w_29) (fx_kF (c := 101) (Kr.fix w_29) (by decide +kernel)) (by decide) (by decide +kernel)) (Or.inl rfl) (by decide +kernel) (fx_kF (c := 101) (Kr.fix w_29) (by decide +kernel)) (by decide) (by first | exact Or.inl (by decide) | exact Or.inr (by decide))
    cases h
    exact hQ w_39 (by first | exact Int.le_refl _ | exact (by decide : (0 : Int) ≤ 1))
  · obtain ⟨m_45, e_46, h⟩ := up_s h
    have E_49 := ext_up e_46 (And.left (fx_kF (c := 101) (Kr.fix w_29) (by decide +kernel))) (by decide)
    have w_50 := Kr.upC (y := (-9)) w_29 e_46 (ext_up e_46 (And.left (fx_kF (c := 101) (Kr.fix w_29) (by decide +kernel))) (by decide)) (And.left (fx_kF (c := 101) (Kr.fix w_29) (by decide +kernel))) (fx_a (Kr.fix w_29) (fx_kF (c := 101) (Kr.fix w_29) (by decide +kernel)) (by decide) (by decide +kernel)) (Or.inl rfl) (by decide +kernel) (fx_kF (c := 101) (Kr.fix w_29) (by decide +kernel)) (by decide) (by first | exact Or.inl (by decide) | exact Or.inr (by decide))
    cases h
    exact hQ w_50 (by first | exact Int.le_refl _ | exact (by decide : (0 : Int) ≤ 1))
set_option maxHeartbeats 4000000 in
theorem kw_L_fail {m0 : MM} {p1 p2 : Int} {rz : Int} {rm : MM} (hF : Fix m0)
  (h : fm_L_fail p1 p2 m0 = some (rz, rm)) : Kr fW_L_fail 0 1 m0 rm := by
  have hQ : ∀ {n : Int}, Kr fW_L_fail 0 n m0 rm → n ≤ 1 → Kr fW_L_fail 0 1 m0 rm := fun w h => Kr.le w h
  unfold fm_L_fail at h
  obtain ⟨rr5, m_5, hc_3, h⟩ := bx_s h
  rcases h with ⟨q_12, rfl, h⟩ | ⟨x_4, rfl, h⟩
  · rcases it_s h with ⟨hp_14, h⟩ | ⟨hp_14, h⟩
    · have w_17 := (kw_X11_fail hF hc_3)
      have E_10 := Kr.ext w_17
      have w_18 := Kr.tr0 (Kr.rf (W := fW_L_fail) (e := 0) hF) w_17 (by decide +kernel)
      cases h
      exact hQ w_18 (by first | exact Int.le_refl _ | exact (by decide : (0 : Int) ≤ 1))
    cases h
  have w_21 := (kw_X11_fail hF hc_3)
  have E_10 := Kr.ext w_21
  have w_22 := Kr.tr0 (Kr.rf (W := fW_L_fail) (e := 0) hF) w_21 (by decide +kernel)
  rcases it_s h with ⟨hp_24, h⟩ | ⟨hp_24, h⟩
  · obtain ⟨m_27, e_28, h⟩ := up_s h
    have E_31 := ext_up e_28 (And.left (fx_kF (c := 101) (Kr.fix w_22) (by decide +kernel))) (by decide)
    have w_32 := Kr.upC (y := (-9)) w_22 e_28 (ext_up e_28 (And.left (fx_kF (c := 101) (Kr.fix w_22) (by decide +kernel))) (by decide)) (And.left (fx_kF (c := 101) (Kr.fix w_22) (by decide +kernel))) (fx_a (Kr.fix w_22) (fx_kF (c := 101) (Kr.fix w_22) (by decide +kernel)) (by decide) (by decide +kernel)) (Or.inl rfl) (by decide +kernel) (fx_kF (c := 101) (Kr.fix w_22) (by decide +kernel)) (by decide) (by first | exact Or.inl (by decide) | exact Or.inr (by decide))
    cases h
    exact hQ w_32 (by first | exact Int.le_refl _ | exact (by decide : (0 : Int) ≤ 1))
  · obtain ⟨m_38, e_39, h⟩ := up_s h
    have E_42 := ext_up e_39 (And.left (fx_kF (c := 101) (Kr.fix w_22) (by decide +kernel))) (by decide)
    have w_43 := Kr.upC (y := (-9)) w_22 e_39 (ext_up e_39 (And.left (fx_kF (c := 101) (Kr.fix w_22) (by decide +kernel))) (by decide)) (And.left (fx_kF (c := 101) (Kr.fix w_22) (by decide +kernel))) (fx_a (Kr.fix w_22) (fx_kF (c := 101) (Kr.fix w_22) (by decide +kernel)) (by decide) (by decide +kernel)) (Or.inl rfl) (by decide +kernel) (fx_kF (c := 101) (Kr.fix w_22) (by decide +kernel)) (by decide) (by first | exact Or.inl (by decide) | exact Or.inr (by decide))
    cases h
    exact hQ w_43 (by first | exact Int.le_refl _ | exact (by decide : (0 : Int) ≤ 1))
set_option maxHeartbeats 4000000 in
theorem kw_L_beat {m0 : MM} {p1 p2 : Int} {rz : Int} {rm : MM} (hF : Fix m0)
  (h : fm_L_beat p1 p2 m0 = some (rz, rm)) : Kr fW_L_beat 0 1 m0 rm := by
  have hQ : ∀ {n : Int}, Kr fW_L_beat 0 n m0 rm → n ≤ 1 → Kr fW_L_beat 0 1 m0 rm := fun w h => Kr.le w h
  unfold fm_L_beat at h
  obtain ⟨rr5, m_5, hc_3, h⟩ := bx_s h
  rcases h with ⟨q_12, rfl, h⟩ | ⟨x_4, rfl, h⟩
  · rcases it_s h with ⟨hp_14, h⟩ | ⟨hp_14, h⟩
    · have w_17 := (kw_X11_beat hF hc_3)
      have E_10 := Kr.ext w_17
      have w_18 := Kr.tr0 (Kr.rf (W := fW_L_beat) (e := 0) hF) w_17 (by decide +kernel)
      cases h
      exact hQ w_18 (by first | exact Int.le_refl _ | exact (by decide : (0 : Int) ≤ 1))
    rcases it_s h with ⟨hp_21, h⟩ | ⟨hp_21, h⟩
    · have w_24 := (kw_X11_beat hF hc_3)
      have E_10 := Kr.ext w_24
      have w_25 := Kr.tr0 (Kr.rf (W := fW_L_beat) (e := 0) hF) w_24 (by decide +kernel)
      cases h
      exact hQ w_25 (by first | exact Int.le_refl _ | exact (by decide : (0 : Int) ≤ 1))
    cases h
  have w_28 := (kw_X11_beat hF hc_3)
  have E_10 := Kr.ext w_28
  have w_29 := Kr.tr0 (Kr.rf (W := fW_L_beat) (e := 0) hF) w_28 (by decide +kernel)
  obtain ⟨m_33, e_34, h⟩ := up_s h
  have E_37 := ext_up e_34 (And.left (fx_kF (c := 101) (Kr.fix w_29) (by decide +kernel))) (by decide)
  have w_38 := Kr.upC (y := (-9)) w_29 e_34 (ext_up e_34 (And.left (fx_kF (c := 101) (Kr.fix w_29) (by decide +kernel))) (by decide)) (And.left (fx_kF (c := 101) (Kr.fix w_29) (by decide +kernel))) (fx_a (Kr.fix w_29) (fx_kF (c := 101) (Kr.fix w_29) (by decide +kernel)) (by decide) (by decide +kernel)) (Or.inl rfl) (by decide +kernel) (fx_kF (c := 101) (Kr.fix w_29) (by decide +kernel)) (by decide) (by first | exact Or.inl (by decide) | exact Or.inr (by decide))
  cases h
  exact hQ w_38 (by first | exact Int.le_refl _ | exact (by decide : (0 : Int) ≤ 1))
set_option maxHeartbeats 4000000 in
theorem kw_L_activity {m0 : MM} {p1 : Int} {rz : Int} {rm : MM} (hF : Fix m0)
  (h : fm_L_activity p1 m0 = some (rz, rm)) : Kr fW_L_activity 0 1 m0 rm := by
  have hQ : ∀ {n : Int}, Kr fW_L_activity 0 n m0 rm → n ≤ 1 → Kr fW_L_activity 0 1 m0 rm := fun w h => Kr.le w h
  unfold fm_L_activity at h
  obtain ⟨rr5, m_5, hc_3, h⟩ := bx_s h
  rcases h with ⟨q_12, rfl, h⟩ | ⟨x_4, rfl, h⟩
  · rcases it_s h with ⟨hp_14, h⟩ | ⟨hp_14, h⟩
    · have w_17 := (kw_X11_activity hF hc_3)
      have E_10 := Kr.ext w_17
      have w_18 := Kr.tr0 (Kr.rf (W := fW_L_activity) (e := 0) hF) w_17 (by decide +kernel)
      cases h
      exact hQ w_18 (by first | exact Int.le_refl _ | exact (by decide : (0 : Int) ≤ 1))
    cases h
  have w_21 := (kw_X11_activity hF hc_3)
  have E_10 := Kr.ext w_21
  have w_22 := Kr.tr0 (Kr.rf (W := fW_L_activity) (e := 0) hF) w_21 (by decide +kernel)
  obtain ⟨m_26, e_27, h⟩ := up_s h
  have E_30 := ext_up e_27 (And.left (fx_kF (c := 101) (Kr.fix w_22) (by decide +kernel))) (by decide)
  have w_31 := Kr.upC (y := (-9)) w_22 e_27 (ext_up e_27 (And.left (fx_kF (c := 101) (Kr.fix w_22) (by decide +kernel))) (by decide)) (And.left (fx_kF (c := 101) (Kr.fix w_22) (by decide +kernel))) (fx_a (Kr.fix w_22) (fx_kF (c := 101) (Kr.fix w_22) (by decide +kernel)) (by decide) (by decide +kernel)) (Or.inl rfl) (by decide +kernel) (fx_kF (c := 101) (Kr.fix w_22) (by decide +kernel)) (by decide) (by first | exact Or.inl (by decide) | exact Or.inr (by decide))
  cases h
  exact hQ w_31 (by first | exact Int.le_refl _ | exact (by decide : (0 : Int) ≤ 1))
set_option maxHeartbeats 4000000 in
theorem kw_L_pass {m0 : MM} {p1 : Int} {rz : Int} {rm : MM} (hF : Fix m0)
  (h : fm_L_pass p1 m0 = some (rz, rm)) : Kr fW_L_pass 0 1 m0 rm := by
  have hQ : ∀ {n : Int}, Kr fW_L_pass 0 n m0 rm → n ≤ 1 → Kr fW_L_pass 0 1 m0 rm := fun w h => Kr.le w h
  unfold fm_L_pass at h
  obtain ⟨rr5, m_5, hc_3, h⟩ := bx_s h
  rcases h with ⟨q_12, rfl, h⟩ | ⟨x_4, rfl, h⟩
  · rcases it_s h with ⟨hp_14, h⟩ | ⟨hp_14, h⟩
    · have w_17 := (kw_X11_pass hF hc_3)
      have E_10 := Kr.ext w_17
      have w_18 := Kr.tr0 (Kr.rf (W := fW_L_pass) (e := 0) hF) w_17 (by decide +kernel)
      cases h
      exact hQ w_18 (by first | exact Int.le_refl _ | exact (by decide : (0 : Int) ≤ 1))
    cases h
  have w_21 := (kw_X11_pass hF hc_3)
  have E_10 := Kr.ext w_21
  have w_22 := Kr.tr0 (Kr.rf (W := fW_L_pass) (e := 0) hF) w_21 (by decide +kernel)
  obtain ⟨m_26, e_27, h⟩ := up_s h
  have E_30 := ext_up e_27 (And.left (fx_kF (c := 101) (Kr.fix w_22) (by decide +kernel))) (by decide)
  have w_31 := Kr.upC (y := (-9)) w_22 e_27 (ext_up e_27 (And.left (fx_kF (c := 101) (Kr.fix w_22) (by decide +kernel))) (by decide)) (And.left (fx_kF (c := 101) (Kr.fix w_22) (by decide +kernel))) (fx_a (Kr.fix w_22) (fx_kF (c := 101) (Kr.fix w_22) (by decide +kernel)) (by decide) (by decide +kernel)) (Or.inl rfl) (by decide +kernel) (fx_kF (c := 101) (Kr.fix w_22) (by decide +kernel)) (by decide) (by first | exact Or.inl (by decide) | exact Or.inr (by decide))
  cases h
  exact hQ w_31 (by first | exact Int.le_refl _ | exact (by decide : (0 : Int) ≤ 1))
set_option maxHeartbeats 4000000 in
theorem kw_L_unsafe {m0 : MM} {p1 p2 : Int} {rz : Int} {rm : MM} (hF : Fix m0)
  (h : fm_L_unsafe p1 p2 m0 = some (rz, rm)) : Kr fW_L_unsafe 0 1 m0 rm := by
  have hQ : ∀ {n : Int}, Kr fW_L_unsafe 0 n m0 rm → n ≤ 1 → Kr fW_L_unsafe 0 1 m0 rm := fun w h => Kr.le w h
  unfold fm_L_unsafe at h
  obtain ⟨rr5, m_5, hc_3, h⟩ := bx_s h
  rcases h with ⟨q_12, rfl, h⟩ | ⟨x_4, rfl, h⟩
  · rcases it_s h with ⟨hp_14, h⟩ | ⟨hp_14, h⟩
    · have w_17 := (kw_X11_unsafe hF hc_3)
      have E_10 := Kr.ext w_17
      have w_18 := Kr.tr0 (Kr.rf (W := fW_L_unsafe) (e := 0) hF) w_17 (by decide +kernel)
      cases h
      exact hQ w_18 (by first | exact Int.le_refl _ | exact (by decide : (0 : Int) ≤ 1))
    cases h
  have w_21 := (kw_X11_unsafe hF hc_3)
  have E_10 := Kr.ext w_21
  have w_22 := Kr.tr0 (Kr.rf (W := fW_L_unsafe) (e := 0) hF) w_21 (by decide +kernel)
  obtain ⟨m_26, e_27, h⟩ := up_s h
  have E_30 := ext_up e_27 (And.left (fx_kF (c := 101) (Kr.fix w_22) (by decide +kernel))) (by decide)
  have w_31 := Kr.upC (y := (-9)) w_22 e_27 (ext_up e_27 (And.left (fx_kF (c := 101) (Kr.fix w_22) (by decide +kernel))) (by decide)) (And.left (fx_kF (c := 101) (Kr.fix w_22) (by decide +kernel))) (fx_a (Kr.fix w_22) (fx_kF (c := 101) (Kr.fix w_22) (by decide +kernel)) (by decide) (by decide +kernel)) (Or.inl rfl) (by decide +kernel) (fx_kF (c := 101) (Kr.fix w_22) (by decide +kernel)) (by decide) (by first | exact Or.inl (by decide) | exact Or.inr (by decide))
  cases h
  exact hQ w_31 (by first | exact Int.le_refl _ | exact (by decide : (0 : Int) ≤ 1))
set_option maxHeartbeats 4000000 in
theorem kw_L_move {m0 : MM} {p1 p2 : Int} {rz : Int} {rm : MM} (hF : Fix m0)
  (h : fm_L_move p1 p2 m0 = some (rz, rm)) : Kr fW_L_move 0 1 m0 rm := by
  have hQ : ∀ {n : Int}, Kr fW_L_move 0 n m0 rm → n ≤ 1 → Kr fW_L_move 0 1 m0 rm := fun w h => Kr.le w h
  unfold fm_L_move at h
  obtain ⟨rr5, m_5, hc_3, h⟩ := bx_s h
  rcases h with ⟨q_12, rfl, h⟩ | ⟨x_4, rfl, h⟩
  · rcases it_s h with ⟨hp_14, h⟩ | ⟨hp_14, h⟩
    · have w_17 := (kw_X11_move hF hc_3)
      have E_10 := Kr.ext w_17
      have w_18 := Kr.tr0 (Kr.rf (W := fW_L_move) (e := 0) hF) w_17 (by decide +kernel)
      cases h
      exact hQ w_18 (by first | exact Int.le_refl _ | exact (by decide : (0 : Int) ≤ 1))
    rcases it_s h with ⟨hp_21, h⟩ | ⟨hp_21, h⟩
    · have w_24 := (kw_X11_move hF hc_3)
      have E_10 := Kr.ext w_24
      have w_25 := Kr.tr0 (Kr.rf (W := fW_L_move) (e := 0) hF) w_24 (by decide +kernel)
      cases h
      exact hQ w_25 (by first | exact Int.le_refl _ | exact (by decide : (0 : Int) ≤ 1))
    cases h
  have w_28 := (kw_X11_move hF hc_3)
  have E_10 := Kr.ext w_28
  have w_29 := Kr.tr0 (Kr.rf (W := fW_L_move) (e := 0) hF) w_28 (by decide +kernel)
  rcases it_s h with ⟨hp_31, h⟩ | ⟨hp_31, h⟩
  · obtain ⟨m_34, e_35, h⟩ := up_s h
    have E_38 := ext_up e_35 (And.left (fx_kF (c := 101) (Kr.fix w_29) (by decide +kernel))) (by decide)
    have w_39 := Kr.upC (y := (-9)) w_29 e_35 (ext_up e_35 (And.left (fx_kF (c := 101) (Kr.fix w_29) (by decide +kernel))) (by decide)) (And.left (fx_kF (c := 101) (Kr.fix w_29) (by decide +kernel))) (fx_a (Kr.fix w_29) (fx_kF (c := 101) (Kr.fix w_29) (by decide +kernel)) (by decide) (by decide +kernel)) (Or.inl rfl) (by decide +kernel) (fx_kF (c := 101) (Kr.fix w_29) (by decide +kernel)) (by decide) (by first | exact Or.inl (by decide) | exact Or.inr (by decide))
    cases h
    exact hQ w_39 (by first | exact Int.le_refl _ | exact (by decide : (0 : Int) ≤ 1))
  · obtain ⟨m_45, e_46, h⟩ := up_s h
    have E_49 := ext_up e_46 (And.left (fx_kF (c := 101) (Kr.fix w_29) (by decide +kernel))) (by decide)
    have w_50 := Kr.upC (y := (-9)) w_29 e_46 (ext_up e_46 (And.left (fx_kF (c := 101) (Kr.fix w_29) (by decide +kernel))) (by decide)) (And.left (fx_kF (c := 101) (Kr.fix w_29) (by decide +kernel))) (fx_a (Kr.fix w_29) (fx_kF (c := 101) (Kr.fix w_29) (by decide +kernel)) (by decide) (by decide +kernel)) (Or.inl rfl) (by decide +kernel) (fx_kF (c := 101) (Kr.fix w_29) (by decide +kernel)) (by decide) (by first | exact Or.inl (by decide) | exact Or.inr (by decide))
    cases h
    exact hQ w_50 (by first | exact Int.le_refl _ | exact (by decide : (0 : Int) ≤ 1))
set_option maxHeartbeats 4000000 in
theorem kw_L_setBack {m0 : MM} {p1 p2 : Int} {rz : Int} {rm : MM} (hF : Fix m0)
  (h : fm_L_setBack p1 p2 m0 = some (rz, rm)) : Kr fW_L_setBack 0 1 m0 rm := by
  have hQ : ∀ {n : Int}, Kr fW_L_setBack 0 n m0 rm → n ≤ 1 → Kr fW_L_setBack 0 1 m0 rm := fun w h => Kr.le w h
  unfold fm_L_setBack at h
  obtain ⟨rr5, m_5, hc_3, h⟩ := bx_s h
  rcases h with ⟨q_12, rfl, h⟩ | ⟨x_4, rfl, h⟩
  · rcases it_s h with ⟨hp_14, h⟩ | ⟨hp_14, h⟩
    · have w_17 := (kw_X11_setBack hF hc_3)
      have E_10 := Kr.ext w_17
      have w_18 := Kr.tr0 (Kr.rf (W := fW_L_setBack) (e := 0) hF) w_17 (by decide +kernel)
      cases h
      exact hQ w_18 (by first | exact Int.le_refl _ | exact (by decide : (0 : Int) ≤ 1))
    rcases it_s h with ⟨hp_21, h⟩ | ⟨hp_21, h⟩
    · have w_24 := (kw_X11_setBack hF hc_3)
      have E_10 := Kr.ext w_24
      have w_25 := Kr.tr0 (Kr.rf (W := fW_L_setBack) (e := 0) hF) w_24 (by decide +kernel)
      cases h
      exact hQ w_25 (by first | exact Int.le_refl _ | exact (by decide : (0 : Int) ≤ 1))
    cases h
  have w_28 := (kw_X11_setBack hF hc_3)
  have E_10 := Kr.ext w_28
  have w_29 := Kr.tr0 (Kr.rf (W := fW_L_setBack) (e := 0) hF) w_28 (by decide +kernel)
  obtain ⟨m_33, e_34, h⟩ := up_s h
  have E_37 := ext_up e_34 (And.left (fx_kF (c := 101) (Kr.fix w_29) (by decide +kernel))) (by decide)
  have w_38 := Kr.upC (y := (-9)) w_29 e_34 (ext_up e_34 (And.left (fx_kF (c := 101) (Kr.fix w_29) (by decide +kernel))) (by decide)) (And.left (fx_kF (c := 101) (Kr.fix w_29) (by decide +kernel))) (fx_a (Kr.fix w_29) (fx_kF (c := 101) (Kr.fix w_29) (by decide +kernel)) (by decide) (by decide +kernel)) (Or.inl rfl) (by decide +kernel) (fx_kF (c := 101) (Kr.fix w_29) (by decide +kernel)) (by decide) (by first | exact Or.inl (by decide) | exact Or.inr (by decide))
  cases h
  exact hQ w_38 (by first | exact Int.le_refl _ | exact (by decide : (0 : Int) ≤ 1))
set_option maxHeartbeats 4000000 in
theorem kw_L_copy {m0 : MM} {p1 p2 : Int} {rz : Int} {rm : MM} (hF : Fix m0)
  (h : fm_L_copy p1 p2 m0 = some (rz, rm)) : Kr fW_L_copy 0 1 m0 rm := by
  have hQ : ∀ {n : Int}, Kr fW_L_copy 0 n m0 rm → n ≤ 1 → Kr fW_L_copy 0 1 m0 rm := fun w h => Kr.le w h
  unfold fm_L_copy at h
  obtain ⟨rr5, m_5, hc_3, h⟩ := bx_s h
  rcases h with ⟨q_12, rfl, h⟩ | ⟨x_4, rfl, h⟩
  · rcases it_s h with ⟨hp_14, h⟩ | ⟨hp_14, h⟩
    · have w_17 := (kw_X11_copy hF hc_3)
      have E_10 := Kr.ext w_17
      have w_18 := Kr.tr0 (Kr.rf (W := fW_L_copy) (e := 0) hF) w_17 (by decide +kernel)
      cases h
      exact hQ w_18 (by first | exact Int.le_refl _ | exact (by decide : (0 : Int) ≤ 1))
    rcases it_s h with ⟨hp_21, h⟩ | ⟨hp_21, h⟩
    · have w_24 := (kw_X11_copy hF hc_3)
      have E_10 := Kr.ext w_24
      have w_25 := Kr.tr0 (Kr.rf (W := fW_L_copy) (e := 0) hF) w_24 (by decide +kernel)
      cases h
      exact hQ w_25 (by first | exact Int.le_refl _ | exact (by decide : (0 : Int) ≤ 1))
    cases h
  have w_28 := (kw_X11_copy hF hc_3)
  have E_10 := Kr.ext w_28
  have w_29 := Kr.tr0 (Kr.rf (W := fW_L_copy) (e := 0) hF) w_28 (by decide +kernel)
  obtain ⟨m_33, e_34, h⟩ := up_s h
  have E_37 := ext_up e_34 (And.left (fx_kF (c := 101) (Kr.fix w_29) (by decide +kernel))) (by decide)
  have w_38 := Kr.upC (y := (-9)) w_29 e_34 (ext_up e_34 (And.left (fx_kF (c := 101) (Kr.fix w_29) (by decide +kernel))) (by decide)) (And.left (fx_kF (c := 101) (Kr.fix w_29) (by decide +kernel))) (fx_a (Kr.fix w_29) (fx_kF (c := 101) (Kr.fix w_29) (by decide +kernel)) (by decide) (by decide +kernel)) (Or.inl rfl) (by decide +kernel) (fx_kF (c := 101) (Kr.fix w_29) (by decide +kernel)) (by decide) (by first | exact Or.inl (by decide) | exact Or.inr (by decide))
  cases h
  exact hQ w_38 (by first | exact Int.le_refl _ | exact (by decide : (0 : Int) ≤ 1))
set_option maxHeartbeats 4000000 in
theorem kw_L_takeOver {m0 : MM} {rz : Int} {rm : MM} (hF : Fix m0)
  (h : fm_L_takeOver m0 = some (rz, rm)) : Kr fW_L_takeOver 0 1 m0 rm := by
  have hQ : ∀ {n : Int}, Kr fW_L_takeOver 0 n m0 rm → n ≤ 1 → Kr fW_L_takeOver 0 1 m0 rm := fun w h => Kr.le w h
  unfold fm_L_takeOver at h
  obtain ⟨rr5, m_5, hc_3, h⟩ := bx_s h
  rcases h with ⟨q_12, rfl, h⟩ | ⟨x_4, rfl, h⟩
  · rcases it_s h with ⟨hp_14, h⟩ | ⟨hp_14, h⟩
    · have w_17 := (kw_X11_takeOver hF hc_3)
      have E_10 := Kr.ext w_17
      have w_18 := Kr.tr0 (Kr.rf (W := fW_L_takeOver) (e := 0) hF) w_17 (by decide +kernel)
      cases h
      exact hQ w_18 (by first | exact Int.le_refl _ | exact (by decide : (0 : Int) ≤ 1))
    cases h
  have w_21 := (kw_X11_takeOver hF hc_3)
  have E_10 := Kr.ext w_21
  have w_22 := Kr.tr0 (Kr.rf (W := fW_L_takeOver) (e := 0) hF) w_21 (by decide +kernel)
  obtain ⟨m_26, e_27, h⟩ := up_s h
  have E_30 := ext_up e_27 (And.left (fx_kF (c := 101) (Kr.fix w_22) (by decide +kernel))) (by decide)
  have w_31 := Kr.upC (y := (-9)) w_22 e_27 (ext_up e_27 (And.left (fx_kF (c := 101) (Kr.fix w_22) (by decide +kernel))) (by decide)) (And.left (fx_kF (c := 101) (Kr.fix w_22) (by decide +kernel))) (fx_a (Kr.fix w_22) (fx_kF (c := 101) (Kr.fix w_22) (by decide +kernel)) (by decide) (by decide +kernel)) (Or.inl rfl) (by decide +kernel) (fx_kF (c := 101) (Kr.fix w_22) (by decide +kernel)) (by decide) (by first | exact Or.inl (by decide) | exact Or.inr (by decide))
  cases h
  exact hQ w_31 (by first | exact Int.le_refl _ | exact (by decide : (0 : Int) ≤ 1))
set_option maxHeartbeats 4000000 in
theorem kw_L_join {m0 : MM} {rz : Int} {rm : MM} (hF : Fix m0)
  (h : fm_L_join m0 = some (rz, rm)) : Kr fW_L_join 0 1 m0 rm := by
  have hQ : ∀ {n : Int}, Kr fW_L_join 0 n m0 rm → n ≤ 1 → Kr fW_L_join 0 1 m0 rm := fun w h => Kr.le w h
  unfold fm_L_join at h
  obtain ⟨rr5, m_5, hc_3, h⟩ := bx_s h
  rcases h with ⟨q_12, rfl, h⟩ | ⟨x_4, rfl, h⟩
  · rcases it_s h with ⟨hp_14, h⟩ | ⟨hp_14, h⟩
    · have w_17 := (kw_X11_join hF hc_3)
      have E_10 := Kr.ext w_17
      have w_18 := Kr.tr0 (Kr.rf (W := fW_L_join) (e := 0) hF) w_17 (by decide +kernel)
      cases h
      exact hQ w_18 (by first | exact Int.le_refl _ | exact (by decide : (0 : Int) ≤ 1))
    cases h
  have w_21 := (kw_X11_join hF hc_3)
  have E_10 := Kr.ext w_21
  have w_22 := Kr.tr0 (Kr.rf (W := fW_L_join) (e := 0) hF) w_21 (by decide +kernel)
  obtain ⟨m_26, e_27, h⟩ := up_s h
  have E_30 := ext_up e_27 (And.left (fx_kF (c := 101) (Kr.fix w_22) (by decide +kernel))) (by decide)
  have w_31 := Kr.upC (y := (-9)) w_22 e_27 (ext_up e_27 (And.left (fx_kF (c := 101) (Kr.fix w_22) (by decide +kernel))) (by decide)) (And.left (fx_kF (c := 101) (Kr.fix w_22) (by decide +kernel))) (fx_a (Kr.fix w_22) (fx_kF (c := 101) (Kr.fix w_22) (by decide +kernel)) (by decide) (by decide +kernel)) (Or.inl rfl) (by decide +kernel) (fx_kF (c := 101) (Kr.fix w_22) (by decide +kernel)) (by decide) (by first | exact Or.inl (by decide) | exact Or.inr (by decide))
  cases h
  exact hQ w_31 (by first | exact Int.le_refl _ | exact (by decide : (0 : Int) ≤ 1))
set_option maxHeartbeats 4000000 in
theorem kw_L_schedule {m0 : MM} {p1 p2 p3 p4 : Int} {rz : Int} {rm : MM} (hF : Fix m0)
  (h : fm_L_schedule p1 p2 p3 p4 m0 = some (rz, rm)) : Kr fW_L_schedule 0 1 m0 rm := by
  have hQ : ∀ {n : Int}, Kr fW_L_schedule 0 n m0 rm → n ≤ 1 → Kr fW_L_schedule 0 1 m0 rm := fun w h => Kr.le w h
  unfold fm_L_schedule at h
  obtain ⟨rr5, m_5, hc_3, h⟩ := bx_s h
  rcases h with ⟨q_12, rfl, h⟩ | ⟨x_4, rfl, h⟩
  · rcases it_s h with ⟨hp_14, h⟩ | ⟨hp_14, h⟩
    · have w_17 := (kw_X11_schedule hF hc_3)
      have E_10 := Kr.ext w_17
      have w_18 := Kr.tr0 (Kr.rf (W := fW_L_schedule) (e := 0) hF) w_17 (by decide +kernel)
      cases h
      exact hQ w_18 (by first | exact Int.le_refl _ | exact (by decide : (0 : Int) ≤ 1))
    rcases it_s h with ⟨hp_21, h⟩ | ⟨hp_21, h⟩
    · have w_24 := (kw_X11_schedule hF hc_3)
      have E_10 := Kr.ext w_24
      have w_25 := Kr.tr0 (Kr.rf (W := fW_L_schedule) (e := 0) hF) w_24 (by decide +kernel)
      cases h
      exact hQ w_25 (by first | exact Int.le_refl _ | exact (by decide : (0 : Int) ≤ 1))
    rcases it_s h with ⟨hp_28, h⟩ | ⟨hp_28, h⟩
    · have w_31 := (kw_X11_schedule hF hc_3)
      have E_10 := Kr.ext w_31
      have w_32 := Kr.tr0 (Kr.rf (W := fW_L_schedule) (e := 0) hF) w_31 (by decide +kernel)
      cases h
      exact hQ w_32 (by first | exact Int.le_refl _ | exact (by decide : (0 : Int) ≤ 1))
    cases h
  have w_35 := (kw_X11_schedule hF hc_3)
  have E_10 := Kr.ext w_35
  have w_36 := Kr.tr0 (Kr.rf (W := fW_L_schedule) (e := 0) hF) w_35 (by decide +kernel)
  obtain ⟨m_40, e_41, h⟩ := up_s h
  have E_44 := ext_up e_41 (And.left (fx_kF (c := 101) (Kr.fix w_36) (by decide +kernel))) (by decide)
  have w_45 := Kr.upC (y := (-9)) w_36 e_41 (ext_up e_41 (And.left (fx_kF (c := 101) (Kr.fix w_36) (by decide +kernel))) (by decide)) (And.left (fx_kF (c := 101) (Kr.fix w_36) (by decide +kernel))) (fx_a (Kr.fix w_36) (fx_kF (c := 101) (Kr.fix w_36) (by decide +kernel)) (by decide) (by decide +kernel)) (Or.inl rfl) (by decide +kernel) (fx_kF (c := 101) (Kr.fix w_36) (by decide +kernel)) (by decide) (by first | exact Or.inl (by decide) | exact Or.inr (by decide))
  cases h
  exact hQ w_45 (by first | exact Int.le_refl _ | exact (by decide : (0 : Int) ≤ 1))
set_option maxHeartbeats 4000000 in
theorem kw_L_togglePause {m0 : MM} {p1 : Int} {rz : Int} {rm : MM} (hF : Fix m0)
  (h : fm_L_togglePause p1 m0 = some (rz, rm)) : Kr fW_L_togglePause 0 1 m0 rm := by
  have hQ : ∀ {n : Int}, Kr fW_L_togglePause 0 n m0 rm → n ≤ 1 → Kr fW_L_togglePause 0 1 m0 rm := fun w h => Kr.le w h
  unfold fm_L_togglePause at h
  obtain ⟨rr5, m_5, hc_3, h⟩ := bx_s h
  rcases h with ⟨q_12, rfl, h⟩ | ⟨x_4, rfl, h⟩
  · rcases it_s h with ⟨hp_14, h⟩ | ⟨hp_14, h⟩
    · have w_17 := (kw_X11_togglePause hF hc_3)
      have E_10 := Kr.ext w_17
      have w_18 := Kr.tr0 (Kr.rf (W := fW_L_togglePause) (e := 0) hF) w_17 (by decide +kernel)
      cases h
      exact hQ w_18 (by first | exact Int.le_refl _ | exact (by decide : (0 : Int) ≤ 1))
    cases h
  have w_21 := (kw_X11_togglePause hF hc_3)
  have E_10 := Kr.ext w_21
  have w_22 := Kr.tr0 (Kr.rf (W := fW_L_togglePause) (e := 0) hF) w_21 (by decide +kernel)
  rcases it_s h with ⟨hp_24, h⟩ | ⟨hp_24, h⟩
  · obtain ⟨m_27, e_28, h⟩ := up_s h
    have E_31 := ext_up e_28 (And.left (fx_kF (c := 101) (Kr.fix w_22) (by decide +kernel))) (by decide)
    have w_32 := Kr.upC (y := (-9)) w_22 e_28 (ext_up e_28 (And.left (fx_kF (c := 101) (Kr.fix w_22) (by decide +kernel))) (by decide)) (And.left (fx_kF (c := 101) (Kr.fix w_22) (by decide +kernel))) (fx_a (Kr.fix w_22) (fx_kF (c := 101) (Kr.fix w_22) (by decide +kernel)) (by decide) (by decide +kernel)) (Or.inl rfl) (by decide +kernel) (fx_kF (c := 101) (Kr.fix w_22) (by decide +kernel)) (by decide) (by first | exact Or.inl (by decide) | exact Or.inr (by decide))
    cases h
    exact hQ w_32 (by first | exact Int.le_refl _ | exact (by decide : (0 : Int) ≤ 1))
  · obtain ⟨m_38, e_39, h⟩ := up_s h
    have E_42 := ext_up e_39 (And.left (fx_kF (c := 101) (Kr.fix w_22) (by decide +kernel))) (by decide)
    have w_43 := Kr.upC (y := (-9)) w_22 e_39 (ext_up e_39 (And.left (fx_kF (c := 101) (Kr.fix w_22) (by decide +kernel))) (by decide)) (And.left (fx_kF (c := 101) (Kr.fix w_22) (by decide +kernel))) (fx_a (Kr.fix w_22) (fx_kF (c := 101) (Kr.fix w_22) (by decide +kernel)) (by decide) (by decide +kernel)) (Or.inl rfl) (by decide +kernel) (fx_kF (c := 101) (Kr.fix w_22) (by decide +kernel)) (by decide) (by first | exact Or.inl (by decide) | exact Or.inr (by decide))
    cases h
    exact hQ w_43 (by first | exact Int.le_refl _ | exact (by decide : (0 : Int) ≤ 1))
set_option maxHeartbeats 4000000 in
theorem kw_L_backfill {m0 : MM} {p1 p2 : Int} {rz : Int} {rm : MM} (hF : Fix m0)
  (h : fm_L_backfill p1 p2 m0 = some (rz, rm)) : Kr fW_L_backfill 0 1 m0 rm := by
  have hQ : ∀ {n : Int}, Kr fW_L_backfill 0 n m0 rm → n ≤ 1 → Kr fW_L_backfill 0 1 m0 rm := fun w h => Kr.le w h
  unfold fm_L_backfill at h
  obtain ⟨rr5, m_5, hc_3, h⟩ := bx_s h
  rcases h with ⟨q_12, rfl, h⟩ | ⟨x_4, rfl, h⟩
  · rcases it_s h with ⟨hp_14, h⟩ | ⟨hp_14, h⟩
    · have w_17 := (kw_X11_backfill hF hc_3)
      have E_10 := Kr.ext w_17
      have w_18 := Kr.tr0 (Kr.rf (W := fW_L_backfill) (e := 0) hF) w_17 (by decide +kernel)
      cases h
      exact hQ w_18 (by first | exact Int.le_refl _ | exact (by decide : (0 : Int) ≤ 1))
    rcases it_s h with ⟨hp_21, h⟩ | ⟨hp_21, h⟩
    · have w_24 := (kw_X11_backfill hF hc_3)
      have E_10 := Kr.ext w_24
      have w_25 := Kr.tr0 (Kr.rf (W := fW_L_backfill) (e := 0) hF) w_24 (by decide +kernel)
      cases h
      exact hQ w_25 (by first | exact Int.le_refl _ | exact (by decide : (0 : Int) ≤ 1))
    cases h
  have w_28 := (kw_X11_backfill hF hc_3)
  have E_10 := Kr.ext w_28
  have w_29 := Kr.tr0 (Kr.rf (W := fW_L_backfill) (e := 0) hF) w_28 (by decide +kernel)
  obtain ⟨m_33, e_34, h⟩ := up_s h
  have E_37 := ext_up e_34 (And.left (fx_kF (c := 101) (Kr.fix w_29) (by decide +kernel))) (by decide)
  have w_38 := Kr.upC (y := (-9)) w_29 e_34 (ext_up e_34 (And.left (fx_kF (c := 101) (Kr.fix w_29) (by decide +kernel))) (by decide)) (And.left (fx_kF (c := 101) (Kr.fix w_29) (by decide +kernel))) (fx_a (Kr.fix w_29) (fx_kF (c := 101) (Kr.fix w_29) (by decide +kernel)) (by decide) (by decide +kernel)) (Or.inl rfl) (by decide +kernel) (fx_kF (c := 101) (Kr.fix w_29) (by decide +kernel)) (by decide) (by first | exact Or.inl (by decide) | exact Or.inr (by decide))
  cases h
  exact hQ w_38 (by first | exact Int.le_refl _ | exact (by decide : (0 : Int) ≤ 1))
set_option maxHeartbeats 4000000 in
theorem kw_L_shift {m0 : MM} {p1 : Int} {rz : Int} {rm : MM} (hF : Fix m0)
  (h : fm_L_shift p1 m0 = some (rz, rm)) : Kr fW_L_shift 0 1 m0 rm := by
  have hQ : ∀ {n : Int}, Kr fW_L_shift 0 n m0 rm → n ≤ 1 → Kr fW_L_shift 0 1 m0 rm := fun w h => Kr.le w h
  unfold fm_L_shift at h
  obtain ⟨rr5, m_5, hc_3, h⟩ := bx_s h
  rcases h with ⟨q_12, rfl, h⟩ | ⟨x_4, rfl, h⟩
  · rcases it_s h with ⟨hp_14, h⟩ | ⟨hp_14, h⟩
    · have w_17 := (kw_X11_shift hF hc_3)
      have E_10 := Kr.ext w_17
      have w_18 := Kr.tr0 (Kr.rf (W := fW_L_shift) (e := 0) hF) w_17 (by decide +kernel)
      cases h
      exact hQ w_18 (by first | exact Int.le_refl _ | exact (by decide : (0 : Int) ≤ 1))
    cases h
  have w_21 := (kw_X11_shift hF hc_3)
  have E_10 := Kr.ext w_21
  have w_22 := Kr.tr0 (Kr.rf (W := fW_L_shift) (e := 0) hF) w_21 (by decide +kernel)
  obtain ⟨m_26, e_27, h⟩ := up_s h
  have E_30 := ext_up e_27 (And.left (fx_kF (c := 101) (Kr.fix w_22) (by decide +kernel))) (by decide)
  have w_31 := Kr.upC (y := (-9)) w_22 e_27 (ext_up e_27 (And.left (fx_kF (c := 101) (Kr.fix w_22) (by decide +kernel))) (by decide)) (And.left (fx_kF (c := 101) (Kr.fix w_22) (by decide +kernel))) (fx_a (Kr.fix w_22) (fx_kF (c := 101) (Kr.fix w_22) (by decide +kernel)) (by decide) (by decide +kernel)) (Or.inl rfl) (by decide +kernel) (fx_kF (c := 101) (Kr.fix w_22) (by decide +kernel)) (by decide) (by first | exact Or.inl (by decide) | exact Or.inr (by decide))
  cases h
  exact hQ w_31 (by first | exact Int.le_refl _ | exact (by decide : (0 : Int) ≤ 1))
set_option maxHeartbeats 4000000 in
theorem kw_L_bringIn {m0 : MM} {p1 : Int} {rz : Int} {rm : MM} (hF : Fix m0)
  (h : fm_L_bringIn p1 m0 = some (rz, rm)) : Kr fW_L_bringIn 0 1 m0 rm := by
  have hQ : ∀ {n : Int}, Kr fW_L_bringIn 0 n m0 rm → n ≤ 1 → Kr fW_L_bringIn 0 1 m0 rm := fun w h => Kr.le w h
  unfold fm_L_bringIn at h
  obtain ⟨rr5, m_5, hc_3, h⟩ := bx_s h
  rcases h with ⟨q_12, rfl, h⟩ | ⟨x_4, rfl, h⟩
  · rcases it_s h with ⟨hp_14, h⟩ | ⟨hp_14, h⟩
    · have w_17 := (kw_X11_bringIn hF hc_3)
      have E_10 := Kr.ext w_17
      have w_18 := Kr.tr0 (Kr.rf (W := fW_L_bringIn) (e := 0) hF) w_17 (by decide +kernel)
      cases h
      exact hQ w_18 (by first | exact Int.le_refl _ | exact (by decide : (0 : Int) ≤ 1))
    cases h
  have w_21 := (kw_X11_bringIn hF hc_3)
  have E_10 := Kr.ext w_21
  have w_22 := Kr.tr0 (Kr.rf (W := fW_L_bringIn) (e := 0) hF) w_21 (by decide +kernel)
  obtain ⟨m_26, e_27, h⟩ := up_s h
  have E_30 := ext_up e_27 (And.left (fx_kF (c := 101) (Kr.fix w_22) (by decide +kernel))) (by decide)
  have w_31 := Kr.upC (y := (-9)) w_22 e_27 (ext_up e_27 (And.left (fx_kF (c := 101) (Kr.fix w_22) (by decide +kernel))) (by decide)) (And.left (fx_kF (c := 101) (Kr.fix w_22) (by decide +kernel))) (fx_a (Kr.fix w_22) (fx_kF (c := 101) (Kr.fix w_22) (by decide +kernel)) (by decide) (by decide +kernel)) (Or.inl rfl) (by decide +kernel) (fx_kF (c := 101) (Kr.fix w_22) (by decide +kernel)) (by decide) (by first | exact Or.inl (by decide) | exact Or.inr (by decide))
  cases h
  exact hQ w_31 (by first | exact Int.le_refl _ | exact (by decide : (0 : Int) ≤ 1))
set_option maxHeartbeats 4000000 in
theorem kw_L_search {m0 : MM} {p1 : Int} {rz : Int} {rm : MM} (hF : Fix m0)
  (h : fm_L_search p1 m0 = some (rz, rm)) : Kr fW_L_search 0 1 m0 rm := by
  have hQ : ∀ {n : Int}, Kr fW_L_search 0 n m0 rm → n ≤ 1 → Kr fW_L_search 0 1 m0 rm := fun w h => Kr.le w h
  unfold fm_L_search at h
  obtain ⟨rr5, m_5, hc_3, h⟩ := bx_s h
  rcases h with ⟨q_12, rfl, h⟩ | ⟨x_4, rfl, h⟩
  · rcases it_s h with ⟨hp_14, h⟩ | ⟨hp_14, h⟩
    · have w_17 := (kw_X11_search hF hc_3)
      have E_10 := Kr.ext w_17
      have w_18 := Kr.tr0 (Kr.rf (W := fW_L_search) (e := 0) hF) w_17 (by decide +kernel)
      cases h
      exact hQ w_18 (by first | exact Int.le_refl _ | exact (by decide : (0 : Int) ≤ 1))
    cases h
  have w_21 := (kw_X11_search hF hc_3)
  have E_10 := Kr.ext w_21
  have w_22 := Kr.tr0 (Kr.rf (W := fW_L_search) (e := 0) hF) w_21 (by decide +kernel)
  obtain ⟨m_26, e_27, h⟩ := up_s h
  have E_30 := ext_up e_27 (And.left (fx_kF (c := 101) (Kr.fix w_22) (by decide +kernel))) (by decide)
  have w_31 := Kr.upC (y := (-9)) w_22 e_27 (ext_up e_27 (And.left (fx_kF (c := 101) (Kr.fix w_22) (by decide +kernel))) (by decide)) (And.left (fx_kF (c := 101) (Kr.fix w_22) (by decide +kernel))) (fx_a (Kr.fix w_22) (fx_kF (c := 101) (Kr.fix w_22) (by decide +kernel)) (by decide) (by decide +kernel)) (Or.inl rfl) (by decide +kernel) (fx_kF (c := 101) (Kr.fix w_22) (by decide +kernel)) (by decide) (by first | exact Or.inl (by decide) | exact Or.inr (by decide))
  cases h
  exact hQ w_31 (by first | exact Int.le_refl _ | exact (by decide : (0 : Int) ≤ 1))
end KW12
