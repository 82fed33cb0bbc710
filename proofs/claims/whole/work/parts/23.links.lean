/-! THE TABLE, IV: the entries of the constant pools are right. -/
theorem q_x1 : ∀ w ∈ (vx_atS RX11 100 (q_en 1) q_nms).filter goodWord, w ∈ wsL_law := fun _ h => List.mem_append_left _ (List.mem_append_left _ (List.mem_append_right _ h))
theorem q_x2 : ∀ w ∈ (vx_atS RX11 115 (q_en 2) q_nms).filter goodWord, w ∈ wsL_law := fun _ h => List.mem_append_left _ (List.mem_append_right _ h)
theorem q_x0 : ∀ w ∈ (vx_atS RX11 259 (q_en 0) q_nms).filter goodWord, w ∈ wsL_law := fun _ h => List.mem_append_right _ h
theorem qE_X11_0 : q_kok qT qTX RX11 (1, 4, 0, 0, 0) := by
  unfold q_kok
  exact ⟨(q_up_r1 10 rfl), (q_up_r1 11 rfl), (q_up_r1 12 rfl)⟩
theorem qE_X11_1 : q_kok qT qTX RX11 (100009, 6, 106, 0, 0) := by
  unfold q_kok
  exact ⟨by decide, by decide, (q_up_r1 13 rfl)⟩
theorem qE_X11_2 : q_kok qT qTX RX11 (9, 5, 11, 3, 0) := by
  unfold q_kok
  exact ⟨(RX10, TX10, 3), rfl, rfl, (q_up_r1 13 rfl), (q_up_r2 19 rfl), (q_up_r2 20 rfl)⟩
theorem qE_X11_3 : q_kok qT qTX RX11 (11, 0, 12, 0, 1) := by
  unfold q_kok
  exact ⟨(RX11, TX11, 18), "DurableLoom", rfl, by decide, (q_up_r1 14 rfl), Or.inl rfl, Or.inr (Or.inl ⟨rfl, rfl, rfl⟩)⟩
theorem qE_X11_4 : q_kok qT qTX RX11 (100015, 6, 104, 0, 0) := by
  unfold q_kok
  exact ⟨by decide, by decide, (q_up_r1 15 rfl)⟩
theorem qE_X11_5 : q_kok qT qTX RX11 (15, 5, 4, 5, 0) := by
  unfold q_kok
  exact ⟨(RX3, TX3, 5), rfl, rfl, (q_up_r1 15 rfl), (q_up_r2 21 rfl), (q_up_r2 22 rfl)⟩
theorem qE_X11_6 : q_kok qT qTX RX11 (17, 0, 12, 1, 1) := by
  unfold q_kok
  exact ⟨(RX11, TX11, 18), "DurableLoom", rfl, by decide, (q_up_r1 16 rfl), Or.inl rfl, Or.inr (Or.inl ⟨rfl, rfl, rfl⟩)⟩
theorem qE_X11_7 : q_kok qT qTX RX11 (21, 5, 0, 3, 0) := by
  unfold q_kok
  exact ⟨(RJx4a65c, TJx4a65c, 3), rfl, rfl, (q_up_r1 17 rfl), (q_up_r1 18 rfl), (q_up_r1 19 rfl)⟩
theorem qE_X11_8 : q_kok qT qTX RX11 (23, 3, 323, 0, 0) := by
  unfold q_kok
  exact ⟨qM_Jx4a65c_init_da8c8, rfl, rfl, rfl, rfl, (q_up_r2 23 rfl), (q_up_r3 0 rfl), ⟨by decide +kernel, ⟨by decide +kernel, by decide +kernel⟩, (q_up_r1 19 rfl)⟩⟩
theorem qE_X11_9 : q_kok qT qTX RX11 (24, 0, 12, 2, 1) := by
  unfold q_kok
  exact ⟨(RX11, TX11, 18), "DurableLoom", rfl, by decide, (q_up_r1 20 rfl), Or.inl rfl, Or.inr (Or.inl ⟨rfl, rfl, rfl⟩)⟩
theorem qE_X11_10 : q_kok qT qTX RX11 (28, 0, 12, 3, 1) := by
  unfold q_kok
  exact ⟨(RX11, TX11, 18), "DurableLoom", rfl, by decide, (q_up_r1 21 rfl), Or.inl rfl, Or.inr (Or.inl ⟨rfl, rfl, rfl⟩)⟩
theorem qE_X11_11 : q_kok qT qTX RX11 (31, 0, 12, 4, 1) := by
  unfold q_kok
  exact ⟨(RX11, TX11, 18), "DurableLoom", rfl, by decide, (q_up_r1 22 rfl), Or.inl rfl, Or.inr (Or.inl ⟨rfl, rfl, rfl⟩)⟩
theorem qE_X11_12 : q_kok qT qTX RX11 (34, 0, 12, 5, 1) := by
  unfold q_kok
  exact ⟨(RX11, TX11, 18), "DurableLoom", rfl, by decide, (q_up_r1 23 rfl), Or.inl rfl, Or.inr (Or.inl ⟨rfl, rfl, rfl⟩)⟩
theorem qE_X11_13 : q_kok qT qTX RX11 (37, 0, 12, 6, 1) := by
  unfold q_kok
  exact ⟨(RX11, TX11, 18), "DurableLoom", rfl, by decide, (q_up_r2 1 rfl), Or.inl rfl, Or.inr (Or.inl ⟨rfl, rfl, rfl⟩)⟩
theorem qE_X11_14 : q_kok qT qTX RX11 (41, 0, 12, 7, 1) := by
  unfold q_kok
  exact ⟨(RX11, TX11, 18), "DurableLoom", rfl, by decide, (q_up_r2 2 rfl), Or.inl rfl, Or.inr (Or.inl ⟨rfl, rfl, rfl⟩)⟩
theorem qE_X11_15 : q_kok qT qTX RX11 (44, 0, 12, 8, 1) := by
  unfold q_kok
  exact ⟨(RX11, TX11, 18), "DurableLoom", rfl, by decide, (q_up_r2 3 rfl), Or.inl rfl, Or.inr (Or.inl ⟨rfl, rfl, rfl⟩)⟩
theorem qE_X11_16 : q_kok qT qTX RX11 (47, 5, 6, 3, 0) := by
  unfold q_kok
  exact ⟨(RX5, TX5, 3), rfl, rfl, (q_up_r2 4 rfl), (q_up_r2 5 rfl), (q_up_r2 6 rfl)⟩
theorem qE_X11_17 : q_kok qT qTX RX11 (49, 15, 57, 0, 0) := by
  unfold q_kok
  exact ⟨qM_X5_init, rfl, rfl, rfl, rfl, List.mem_of_getElem? (i := 0) rfl, (q_up_r3 14 rfl), ⟨by decide +kernel, ⟨by decide +kernel, by decide +kernel⟩, (q_up_r2 6 rfl)⟩⟩
theorem qE_X11_18 : q_kok qT qTX RX11 (50, 0, 12, 9, 1) := by
  unfold q_kok
  exact ⟨(RX11, TX11, 18), "DurableLoom", rfl, by decide, (q_up_r2 7 rfl), Or.inl rfl, Or.inr (Or.inl ⟨rfl, rfl, rfl⟩)⟩
theorem qE_X11_19 : q_kok qT qTX RX11 (54, 5, 5, 12, 0) := by
  unfold q_kok
  exact ⟨(RX4, TX4, 12), rfl, rfl, (q_up_r2 8 rfl), (q_up_r2 9 rfl), (q_up_r2 10 rfl)⟩
theorem qE_X11_20 : q_kok qT qTX RX11 (56, 15, 29, 0, 0) := by
  unfold q_kok
  exact ⟨qM_X4_init, rfl, rfl, rfl, rfl, List.mem_of_getElem? (i := 1) rfl, (q_up_r3 21 rfl), ⟨by decide +kernel, ⟨by decide +kernel, by decide +kernel⟩, (q_up_r2 10 rfl)⟩⟩
theorem qE_X11_21 : q_kok qT qTX RX11 (57, 0, 12, 10, 1) := by
  unfold q_kok
  exact ⟨(RX11, TX11, 18), "DurableLoom", rfl, by decide, (q_up_r2 11 rfl), Or.inl rfl, Or.inr (Or.inl ⟨rfl, rfl, rfl⟩)⟩
theorem qE_X11_22 : q_kok qT qTX RX11 (61, 0, 12, 11, 0) := by
  unfold q_kok
  exact ⟨(RX11, TX11, 18), "DurableLoom", rfl, by decide, (q_up_r2 12 rfl), Or.inl rfl, Or.inl ⟨rfl, rfl⟩⟩
theorem qE_X11_23 : q_kok qT qTX RX11 (65, 0, 12, 12, 0) := by
  unfold q_kok
  exact ⟨(RX11, TX11, 18), "DurableLoom", rfl, by decide, (q_up_r2 13 rfl), Or.inl rfl, Or.inl ⟨rfl, rfl⟩⟩
theorem qE_X11_24 : q_kok qT qTX RX11 (68, 0, 12, 13, 0) := by
  unfold q_kok
  exact ⟨(RX11, TX11, 18), "DurableLoom", rfl, by decide, (q_up_r2 14 rfl), Or.inl rfl, Or.inl ⟨rfl, rfl⟩⟩
theorem qE_X11_25 : q_kok qT qTX RX11 (71, 0, 12, 14, 0) := by
  unfold q_kok
  exact ⟨(RX11, TX11, 18), "DurableLoom", rfl, by decide, (q_up_r2 15 rfl), Or.inl rfl, Or.inl ⟨rfl, rfl⟩⟩
theorem qE_X11_26 : q_kok qT qTX RX11 (74, 0, 12, 15, 0) := by
  unfold q_kok
  exact ⟨(RX11, TX11, 18), "DurableLoom", rfl, by decide, (q_up_r2 16 rfl), Or.inl rfl, Or.inl ⟨rfl, rfl⟩⟩
theorem qE_X11_27 : q_kok qT qTX RX11 (77, 0, 12, 16, 0) := by
  unfold q_kok
  exact ⟨(RX11, TX11, 18), "DurableLoom", rfl, by decide, (q_up_r2 17 rfl), Or.inl rfl, Or.inl ⟨rfl, rfl⟩⟩
theorem qE_X11_28 : q_kok qT qTX RX11 (80, 0, 12, 17, 0) := by
  unfold q_kok
  exact ⟨(RX11, TX11, 18), "DurableLoom", rfl, by decide, (q_up_r2 18 rfl), Or.inl rfl, Or.inl ⟨rfl, rfl⟩⟩
theorem qE_X11_29 : q_kok qT qTX RX11 (84, 15, 95, 0, 0) := by
  unfold q_kok
  exact ⟨qM_X10_init, rfl, rfl, rfl, rfl, List.mem_of_getElem? (i := 5) rfl, (q_up_r6 16 rfl), ⟨by decide +kernel, ⟨by decide +kernel, by decide +kernel⟩, (q_up_r2 20 rfl)⟩⟩
theorem qE_X11_30 : q_kok qT qTX RX11 (85, 15, 28, 0, 0) := by
  unfold q_kok
  exact ⟨qM_X3_init, rfl, rfl, rfl, rfl, List.mem_of_getElem? (i := 7) rfl, (q_up_r7 1 rfl), ⟨by decide +kernel, ⟨by decide +kernel, by decide +kernel⟩, (q_up_r2 22 rfl)⟩⟩
theorem qE_X11_31 : q_kok qT qTX RX11 (86, 1, 137, 1, 12) := by
  unfold q_kok
  exact ⟨qM_X11_typeAt, (RX11, TX11, 18), rfl, rfl, rfl, rfl, (q_up_r12 11 rfl), (q_up_r12 12 rfl), (q_up_r12 13 rfl), ⟨by decide +kernel, ⟨by decide +kernel, by decide +kernel⟩, (q_up_r1 2 rfl)⟩⟩
theorem qE_X11_32 : q_kok qT qTX RX11 (90, 9, 2, 0, 0) := by
  unfold q_kok
  exact ⟨by decide, by decide, (q_up_r12 7 rfl)⟩
theorem qE_X11_33 : q_kok qT qTX RX11 (93, 9, 3, 0, 0) := by
  unfold q_kok
  exact ⟨by decide, by decide, (q_up_r12 8 rfl)⟩
theorem qE_X11_34 : q_kok qT qTX RX11 (96, 11, 1, 100, 0) := by
  unfold q_kok
  exact ⟨by decide, (q_up_r12 3 rfl), (q_up_r12 4 rfl), q_x1, by decide +kernel, by decide +kernel, by decide +kernel, by decide +kernel⟩
theorem qE_X11_35 : q_kok qT qTX RX11 (98, 13, 0, 0, 0) := by
  unfold q_kok
  exact ⟨_, List.mem_of_getElem? (i := 1) rfl⟩
theorem qE_X11_36 : q_kok qT qTX RX11 (100, 14, 1, 0, 0) := by
  unfold q_kok
  exact trivial
theorem qE_X11_37 : q_kok qT qTX RX11 (103, 13, 0, 0, 0) := by
  unfold q_kok
  exact ⟨_, List.mem_of_getElem? (i := 2) rfl⟩
theorem qE_X11_38 : q_kok qT qTX RX11 (105, 0, 11, 1, 0) := by
  unfold q_kok
  exact ⟨(RX10, TX10, 3), "DurableLoom$Type", rfl, by decide, (q_up_r12 9 rfl), Or.inl rfl, Or.inl ⟨rfl, rfl⟩⟩
theorem qE_X11_39 : q_kok qT qTX RX11 (108, 0, 6, 2, 0) := by
  unfold q_kok
  exact ⟨(RX5, TX5, 3), "DurableLoom$Row", rfl, by decide, (q_up_r12 10 rfl), Or.inl rfl, Or.inl ⟨rfl, rfl⟩⟩
theorem qE_X11_40 : q_kok qT qTX RX11 (111, 11, 2, 115, 0) := by
  unfold q_kok
  exact ⟨by decide, (q_up_r12 5 rfl), (q_up_r12 6 rfl), q_x2, by decide +kernel, by decide +kernel, by decide +kernel, by decide +kernel⟩
theorem qE_X11_41 : q_kok qT qTX RX11 (113, 13, 0, 0, 0) := by
  unfold q_kok
  exact ⟨_, List.mem_of_getElem? (i := 3) rfl⟩
theorem qE_X11_42 : q_kok qT qTX RX11 (115, 14, 2, 0, 0) := by
  unfold q_kok
  exact trivial
theorem qE_X11_43 : q_kok qT qTX RX11 (116, 2, 96, 3, 0) := by
  unfold q_kok
  exact ⟨qM_X10_packed, rfl, (q_up_r12 17 rfl), (q_up_r12 18 rfl), ⟨by decide +kernel, ⟨by decide +kernel, by decide +kernel⟩, (q_up_r2 20 rfl)⟩⟩
theorem qE_X11_44 : q_kok qT qTX RX11 (120, 1, 60, 1, 6) := by
  unfold q_kok
  exact ⟨qM_X5_add, (RX5, TX5, 3), rfl, rfl, rfl, rfl, (q_up_r12 21 rfl), (q_up_r12 22 rfl), (q_up_r12 23 rfl), ⟨by decide +kernel, ⟨by decide +kernel, by decide +kernel⟩, (q_up_r2 6 rfl)⟩⟩
theorem qE_X11_45 : q_kok qT qTX RX11 (124, 0, 11, 0, 2) := by
  unfold q_kok
  exact ⟨(RX10, TX10, 3), "DurableLoom$Type", rfl, by decide, (q_up_r14 12 rfl), Or.inl rfl, Or.inr (Or.inr rfl)⟩
theorem qE_X11_46 : q_kok qT qTX RX11 (127, 1, 326, 0, 0) := by
  unfold q_kok
  exact ⟨qM_Jx4a65c_size_8abf5, (RJx4a65c, TJx4a65c, 3), rfl, rfl, rfl, rfl, (q_up_r14 13 rfl), (q_up_r14 14 rfl), (q_up_r14 15 rfl), ⟨by decide +kernel, ⟨by decide +kernel, by decide +kernel⟩, (q_up_r1 19 rfl)⟩⟩
theorem qE_X11_47 : q_kok qT qTX RX11 (130, 13, 0, 0, 0) := by
  unfold q_kok
  exact ⟨_, List.mem_of_getElem? (i := 4) rfl⟩
theorem qE_X11_48 : q_kok qT qTX RX11 (132, 1, 98, 0, 11) := by
  unfold q_kok
  exact ⟨qM_X10_draftBecomesVersion, (RX10, TX10, 3), rfl, rfl, rfl, rfl, (q_up_r14 18 rfl), (q_up_r14 19 rfl), (q_up_r14 20 rfl), ⟨by decide +kernel, ⟨by decide +kernel, by decide +kernel⟩, (q_up_r2 20 rfl)⟩⟩
theorem qE_X11_49 : q_kok qT qTX RX11 (135, 1, 138, 1, 12) := by
  unfold q_kok
  exact ⟨qM_X11_kindAt, (RX11, TX11, 18), rfl, rfl, rfl, rfl, (q_up_r17 18 rfl), (q_up_r17 19 rfl), (q_up_r17 20 rfl), ⟨by decide +kernel, ⟨by decide +kernel, by decide +kernel⟩, (q_up_r1 2 rfl)⟩⟩
theorem qE_X11_50 : q_kok qT qTX RX11 (139, 13, 0, 0, 0) := by
  unfold q_kok
  exact ⟨_, List.mem_of_getElem? (i := 6) rfl⟩
theorem qE_X11_51 : q_kok qT qTX RX11 (141, 13, 0, 0, 0) := by
  unfold q_kok
  exact ⟨_, List.mem_of_getElem? (i := 7) rfl⟩
theorem qE_X11_52 : q_kok qT qTX RX11 (143, 0, 4, 0, 0) := by
  unfold q_kok
  exact ⟨(RX3, TX3, 5), "DurableLoom$Kind", rfl, by decide, (q_up_r17 13 rfl), Or.inl rfl, Or.inl ⟨rfl, rfl⟩⟩
theorem qE_X11_53 : q_kok qT qTX RX11 (146, 0, 4, 1, 0) := by
  unfold q_kok
  exact ⟨(RX3, TX3, 5), "DurableLoom$Kind", rfl, by decide, (q_up_r17 14 rfl), Or.inl rfl, Or.inl ⟨rfl, rfl⟩⟩
theorem qE_X11_54 : q_kok qT qTX RX11 (149, 0, 4, 2, 0) := by
  unfold q_kok
  exact ⟨(RX3, TX3, 5), "DurableLoom$Kind", rfl, by decide, (q_up_r17 15 rfl), Or.inl rfl, Or.inl ⟨rfl, rfl⟩⟩
theorem qE_X11_55 : q_kok qT qTX RX11 (152, 0, 4, 3, 0) := by
  unfold q_kok
  exact ⟨(RX3, TX3, 5), "DurableLoom$Kind", rfl, by decide, (q_up_r17 16 rfl), Or.inl rfl, Or.inl ⟨rfl, rfl⟩⟩
theorem qE_X11_56 : q_kok qT qTX RX11 (155, 0, 4, 4, 0) := by
  unfold q_kok
  exact ⟨(RX3, TX3, 5), "DurableLoom$Kind", rfl, by decide, (q_up_r17 17 rfl), Or.inl rfl, Or.inl ⟨rfl, rfl⟩⟩
theorem qE_X11_57 : q_kok qT qTX RX11 (158, 13, 0, 0, 0) := by
  unfold q_kok
  exact ⟨_, List.mem_of_getElem? (i := 8) rfl⟩
theorem qE_X11_58 : q_kok qT qTX RX11 (160, 0, 11, 2, 0) := by
  unfold q_kok
  exact ⟨(RX10, TX10, 3), "DurableLoom$Type", rfl, by decide, (q_up_r18 9 rfl), Or.inl rfl, Or.inl ⟨rfl, rfl⟩⟩
theorem qE_X11_59 : q_kok qT qTX RX11 (163, 1, 143, 1, 12) := by
  unfold q_kok
  exact ⟨qM_X11_checkTenant, (RX11, TX11, 18), rfl, rfl, rfl, rfl, (q_up_r18 22 rfl), (q_up_r18 23 rfl), (q_up_r19 0 rfl), ⟨by decide +kernel, ⟨by decide +kernel, by decide +kernel⟩, (q_up_r1 2 rfl)⟩⟩
theorem qE_X11_60 : q_kok qT qTX RX11 (167, 1, 147, 1, 12) := by
  unfold q_kok
  exact ⟨qM_X11_checkValue, (RX11, TX11, 18), rfl, rfl, rfl, rfl, (q_up_r19 2 rfl), (q_up_r19 3 rfl), (q_up_r19 4 rfl), ⟨by decide +kernel, ⟨by decide +kernel, by decide +kernel⟩, (q_up_r1 2 rfl)⟩⟩
theorem qE_X11_61 : q_kok qT qTX RX11 (170, 1, 327, 0, 0) := by
  unfold q_kok
  exact ⟨qM_Jx4a65c_isEmpty_aae02, (RJx4a65c, TJx4a65c, 3), rfl, rfl, rfl, rfl, (q_up_r19 6 rfl), (q_up_r19 7 rfl), (q_up_r19 8 rfl), ⟨by decide +kernel, ⟨by decide +kernel, by decide +kernel⟩, (q_up_r1 19 rfl)⟩⟩
theorem qE_X11_62 : q_kok qT qTX RX11 (174, 13, 0, 0, 0) := by
  unfold q_kok
  exact ⟨_, List.mem_of_getElem? (i := 11) rfl⟩
theorem qE_X11_63 : q_kok qT qTX RX11 (176, 1, 151, 5, 12) := by
  unfold q_kok
  exact ⟨qM_X11_startRun, (RX11, TX11, 18), rfl, rfl, rfl, rfl, (q_up_r19 10 rfl), (q_up_r19 11 rfl), (q_up_r19 12 rfl), ⟨by decide +kernel, ⟨by decide +kernel, by decide +kernel⟩, (q_up_r1 2 rfl)⟩⟩
theorem qE_X11_64 : q_kok qT qTX RX11 (180, 0, 7, 0, 2) := by
  unfold q_kok
  exact ⟨(RX6, TX6, 20), "DurableLoom$Run", rfl, by decide, (q_up_r18 21 rfl), Or.inl rfl, Or.inr (Or.inr rfl)⟩
theorem qE_X11_65 : q_kok qT qTX RX11 (200181, 16, 7, 0, 0) := by
  unfold q_kok
  exact Or.inr ⟨(RX6, TX6, 20), rfl, (q_up_r19 22 rfl)⟩
theorem qE_X11_66 : q_kok qT qTX RX11 (181, 5, 7, 20, 0) := by
  unfold q_kok
  exact ⟨(RX6, TX6, 20), rfl, rfl, (q_up_r19 22 rfl), (q_up_r19 23 rfl), (q_up_r20 0 rfl)⟩
theorem qE_X11_67 : q_kok qT qTX RX11 (185, 1, 139, 1, 12) := by
  unfold q_kok
  exact ⟨qM_X11_runAt, (RX11, TX11, 18), rfl, rfl, rfl, rfl, (q_up_r23 12 rfl), (q_up_r23 13 rfl), (q_up_r23 14 rfl), ⟨by decide +kernel, ⟨by decide +kernel, by decide +kernel⟩, (q_up_r1 2 rfl)⟩⟩
theorem qE_X11_68 : q_kok qT qTX RX11 (189, 1, 145, 1, 12) := by
  unfold q_kok
  exact ⟨qM_X11_checkName, (RX11, TX11, 18), rfl, rfl, rfl, rfl, (q_up_r24 9 rfl), (q_up_r24 10 rfl), (q_up_r24 11 rfl), ⟨by decide +kernel, ⟨by decide +kernel, by decide +kernel⟩, (q_up_r1 2 rfl)⟩⟩
theorem qE_X11_69 : q_kok qT qTX RX11 (192, 1, 66, 0, 7) := by
  unfold q_kok
  exact ⟨qM_X6_isAlive, (RX6, TX6, 20), rfl, rfl, rfl, rfl, (q_up_r24 13 rfl), (q_up_r24 14 rfl), (q_up_r24 15 rfl), ⟨by decide +kernel, ⟨by decide +kernel, by decide +kernel⟩, (q_up_r20 0 rfl)⟩⟩
theorem qE_X11_70 : q_kok qT qTX RX11 (195, 0, 7, 16, 2) := by
  unfold q_kok
  exact ⟨(RX6, TX6, 20), "DurableLoom$Run", rfl, by decide, (q_up_r21 9 rfl), Or.inl rfl, Or.inr (Or.inr rfl)⟩
theorem qE_X11_71 : q_kok qT qTX RX11 (199, 0, 3, 1, 0) := by
  unfold q_kok
  exact ⟨(RX2, TX2, 5), "DurableLoom$History", rfl, by decide, (q_up_r23 11 rfl), Or.inl rfl, Or.inl ⟨rfl, rfl⟩⟩
theorem qE_X11_72 : q_kok qT qTX RX11 (202, 13, 0, 0, 0) := by
  unfold q_kok
  exact ⟨_, List.mem_of_getElem? (i := 14) rfl⟩
theorem qE_X11_73 : q_kok qT qTX RX11 (204, 1, 152, 4, 12) := by
  unfold q_kok
  exact ⟨qM_X11_arrive, (RX11, TX11, 18), rfl, rfl, rfl, rfl, (q_up_r21 5 rfl), (q_up_r21 6 rfl), (q_up_r21 7 rfl), ⟨by decide +kernel, ⟨by decide +kernel, by decide +kernel⟩, (q_up_r1 2 rfl)⟩⟩
theorem qE_X11_74 : q_kok qT qTX RX11 (208, 0, 7, 6, 0) := by
  unfold q_kok
  exact ⟨(RX6, TX6, 20), "DurableLoom$Run", rfl, by decide, (q_up_r25 15 rfl), Or.inl rfl, Or.inl ⟨rfl, rfl⟩⟩
theorem qE_X11_75 : q_kok qT qTX RX11 (211, 13, 0, 0, 0) := by
  unfold q_kok
  exact ⟨_, List.mem_of_getElem? (i := 15) rfl⟩
theorem qE_X11_76 : q_kok qT qTX RX11 (213, 0, 7, 3, 0) := by
  unfold q_kok
  exact ⟨(RX6, TX6, 20), "DurableLoom$Run", rfl, by decide, (q_up_r25 16 rfl), Or.inl rfl, Or.inl ⟨rfl, rfl⟩⟩
theorem qE_X11_77 : q_kok qT qTX RX11 (216, 1, 149, 2, 12) := by
  unfold q_kok
  exact ⟨qM_X11_codeOf, (RX11, TX11, 18), rfl, rfl, rfl, rfl, (q_up_r25 19 rfl), (q_up_r25 20 rfl), (q_up_r25 21 rfl), ⟨by decide +kernel, ⟨by decide +kernel, by decide +kernel⟩, (q_up_r1 2 rfl)⟩⟩
theorem qE_X11_78 : q_kok qT qTX RX11 (220, 0, 3, 4, 0) := by
  unfold q_kok
  exact ⟨(RX2, TX2, 5), "DurableLoom$History", rfl, by decide, (q_up_r25 17 rfl), Or.inl rfl, Or.inl ⟨rfl, rfl⟩⟩
theorem qE_X11_79 : q_kok qT qTX RX11 (223, 1, 30, 4, 5) := by
  unfold q_kok
  exact ⟨qM_X4_follow, (RX4, TX4, 12), rfl, rfl, rfl, rfl, (q_up_r26 11 rfl), (q_up_r26 12 rfl), (q_up_r26 13 rfl), ⟨by decide +kernel, ⟨by decide +kernel, by decide +kernel⟩, (q_up_r2 10 rfl)⟩⟩
theorem qE_X11_80 : q_kok qT qTX RX11 (227, 1, 26, 1, 3) := by
  unfold q_kok
  exact ⟨qM_X2_hasNewSignal, (RX2, TX2, 5), rfl, rfl, rfl, rfl, (q_up_r39 7 rfl), (q_up_r39 8 rfl), (q_up_r39 9 rfl), ⟨by decide +kernel, ⟨by decide +kernel, by decide +kernel⟩, (q_up_r4 6 rfl)⟩⟩
theorem qE_X11_81 : q_kok qT qTX RX11 (231, 0, 5, 0, 2) := by
  unfold q_kok
  exact ⟨(RX4, TX4, 12), "DurableLoom$Machine", rfl, by decide, (q_up_r25 18 rfl), Or.inl rfl, Or.inr (Or.inr rfl)⟩
theorem qE_X11_82 : q_kok qT qTX RX11 (235, 1, 92, 1, 9) := by
  unfold q_kok
  exact ⟨qM_X8_waitsForSignal, (RX8, TX8, 14), rfl, rfl, rfl, rfl, (q_up_r39 15 rfl), (q_up_r39 16 rfl), (q_up_r39 17 rfl), ⟨by decide +kernel, ⟨by decide +kernel, by decide +kernel⟩, (q_up_r4 2 rfl)⟩⟩
theorem qE_X11_83 : q_kok qT qTX RX11 (240, 13, 0, 0, 0) := by
  unfold q_kok
  exact ⟨_, List.mem_of_getElem? (i := 16) rfl⟩
theorem qE_X11_84 : q_kok qT qTX RX11 (242, 1, 153, 1, 12) := by
  unfold q_kok
  exact ⟨qM_X11_cancelRun, (RX11, TX11, 18), rfl, rfl, rfl, rfl, (q_up_r48 1 rfl), (q_up_r48 2 rfl), (q_up_r48 3 rfl), ⟨by decide +kernel, ⟨by decide +kernel, by decide +kernel⟩, (q_up_r1 2 rfl)⟩⟩
theorem qE_X11_85 : q_kok qT qTX RX11 (246, 1, 146, 1, 12) := by
  unfold q_kok
  exact ⟨qM_X11_checkVariable, (RX11, TX11, 18), rfl, rfl, rfl, rfl, (q_up_r49 4 rfl), (q_up_r49 5 rfl), (q_up_r49 6 rfl), ⟨by decide +kernel, ⟨by decide +kernel, by decide +kernel⟩, (q_up_r1 2 rfl)⟩⟩
theorem qE_X11_86 : q_kok qT qTX RX11 (249, 13, 0, 0, 0) := by
  unfold q_kok
  exact ⟨_, List.mem_of_getElem? (i := 18) rfl⟩
theorem qE_X11_87 : q_kok qT qTX RX11 (251, 1, 81, 1, 9) := by
  unfold q_kok
  exact ⟨qM_X8_value, (RX8, TX8, 14), rfl, rfl, rfl, rfl, (q_up_r49 8 rfl), (q_up_r35 22 rfl), (q_up_r35 23 rfl), ⟨by decide +kernel, ⟨by decide +kernel, by decide +kernel⟩, (q_up_r4 2 rfl)⟩⟩
theorem qE_X11_88 : q_kok qT qTX RX11 (255, 11, 0, 259, 0) := by
  unfold q_kok
  exact ⟨by decide, (q_up_r12 15 rfl), (q_up_r12 16 rfl), q_x0, by decide +kernel, by decide +kernel, by decide +kernel, by decide +kernel⟩
theorem qE_X11_89 : q_kok qT qTX RX11 (257, 13, 0, 0, 0) := by
  unfold q_kok
  exact ⟨_, List.mem_of_getElem? (i := 19) rfl⟩
theorem qE_X11_90 : q_kok qT qTX RX11 (259, 14, 0, 0, 0) := by
  unfold q_kok
  exact trivial
theorem qE_X11_91 : q_kok qT qTX RX11 (260, 7, 1000000, 0, 0) := by
  unfold q_kok
  exact (q_up_r50 22 rfl)
theorem qE_X11_92 : q_kok qT qTX RX11 (261, 1, 9, 1, 3) := by
  unfold q_kok
  exact ⟨qM_X2_kind, (RX2, TX2, 5), rfl, rfl, rfl, rfl, (q_up_r50 23 rfl), (q_up_r28 9 rfl), (q_up_r28 10 rfl), ⟨by decide +kernel, ⟨by decide +kernel, by decide +kernel⟩, (q_up_r4 6 rfl)⟩⟩
theorem qE_X11_93 : q_kok qT qTX RX11 (264, 1, 10, 1, 3) := by
  unfold q_kok
  exact ⟨qM_X2_x, (RX2, TX2, 5), rfl, rfl, rfl, rfl, (q_up_r51 0 rfl), (q_up_r28 17 rfl), (q_up_r28 18 rfl), ⟨by decide +kernel, ⟨by decide +kernel, by decide +kernel⟩, (q_up_r4 6 rfl)⟩⟩
theorem qE_X11_94 : q_kok qT qTX RX11 (267, 1, 11, 1, 3) := by
  unfold q_kok
  exact ⟨qM_X2_y, (RX2, TX2, 5), rfl, rfl, rfl, rfl, (q_up_r51 1 rfl), (q_up_r29 10 rfl), (q_up_r29 11 rfl), ⟨by decide +kernel, ⟨by decide +kernel, by decide +kernel⟩, (q_up_r4 6 rfl)⟩⟩
theorem qE_X11_95 : q_kok qT qTX RX11 (270, 13, 0, 0, 0) := by
  unfold q_kok
  exact ⟨_, List.mem_of_getElem? (i := 20) rfl⟩
theorem qE_X11_96 : q_kok qT qTX RX11 (272, 0, 7, 7, 0) := by
  unfold q_kok
  exact ⟨(RX6, TX6, 20), "DurableLoom$Run", rfl, by decide, (q_up_r51 14 rfl), Or.inl rfl, Or.inl ⟨rfl, rfl⟩⟩
theorem qE_X11_97 : q_kok qT qTX RX11 (275, 13, 0, 0, 0) := by
  unfold q_kok
  exact ⟨_, List.mem_of_getElem? (i := 21) rfl⟩
theorem qE_X11_98 : q_kok qT qTX RX11 (277, 1, 144, 1, 12) := by
  unfold q_kok
  exact ⟨qM_X11_checkWorker, (RX11, TX11, 18), rfl, rfl, rfl, rfl, (q_up_r53 7 rfl), (q_up_r53 8 rfl), (q_up_r53 9 rfl), ⟨by decide +kernel, ⟨by decide +kernel, by decide +kernel⟩, (q_up_r1 2 rfl)⟩⟩
theorem qE_X11_99 : q_kok qT qTX RX11 (280, 1, 159, 1, 12) := by
  unfold q_kok
  exact ⟨qM_X11_firstRunWithWork, (RX11, TX11, 18), rfl, rfl, rfl, rfl, (q_up_r53 11 rfl), (q_up_r53 12 rfl), (q_up_r53 13 rfl), ⟨by decide +kernel, ⟨by decide +kernel, by decide +kernel⟩, (q_up_r1 2 rfl)⟩⟩
theorem qE_X11_100 : q_kok qT qTX RX11 (283, 0, 7, 2, 2) := by
  unfold q_kok
  exact ⟨(RX6, TX6, 20), "DurableLoom$Run", rfl, by decide, (q_up_r53 2 rfl), Or.inl rfl, Or.inr (Or.inr rfl)⟩
theorem qE_X11_101 : q_kok qT qTX RX11 (286, 1, 161, 1, 12) := by
  unfold q_kok
  exact ⟨qM_X11_givenTo, (RX11, TX11, 18), rfl, rfl, rfl, rfl, (q_up_r54 13 rfl), (q_up_r54 14 rfl), (q_up_r54 15 rfl), ⟨by decide +kernel, ⟨by decide +kernel, by decide +kernel⟩, (q_up_r1 2 rfl)⟩⟩
theorem qE_X11_102 : q_kok qT qTX RX11 (289, 1, 162, 1, 12) := by
  unfold q_kok
  exact ⟨qM_X11_countGiven, (RX11, TX11, 18), rfl, rfl, rfl, rfl, (q_up_r54 17 rfl), (q_up_r54 18 rfl), (q_up_r54 19 rfl), ⟨by decide +kernel, ⟨by decide +kernel, by decide +kernel⟩, (q_up_r1 2 rfl)⟩⟩
theorem qE_X11_103 : q_kok qT qTX RX11 (200292, 16, 10, 0, 0) := by
  unfold q_kok
  exact Or.inr ⟨(RX9, TX9, 6), rfl, (q_up_r53 3 rfl)⟩
theorem qE_X11_104 : q_kok qT qTX RX11 (292, 5, 10, 6, 0) := by
  unfold q_kok
  exact ⟨(RX9, TX9, 6), rfl, rfl, (q_up_r53 3 rfl), (q_up_r53 4 rfl), (q_up_r53 5 rfl)⟩
theorem qE_X11_105 : q_kok qT qTX RX11 (294, 3, 94, 3, 0) := by
  unfold q_kok
  exact ⟨qM_X9_init, rfl, rfl, rfl, rfl, (q_up_r54 21 rfl), (q_up_r54 22 rfl), ⟨by decide +kernel, ⟨by decide +kernel, by decide +kernel⟩, (q_up_r53 5 rfl)⟩⟩
theorem qE_X11_106 : q_kok qT qTX RX11 (297, 0, 7, 10, 0) := by
  unfold q_kok
  exact ⟨(RX6, TX6, 20), "DurableLoom$Run", rfl, by decide, (q_up_r53 6 rfl), Or.inl rfl, Or.inl ⟨rfl, rfl⟩⟩
theorem qE_X11_107 : q_kok qT qTX RX11 (300, 1, 331, 1, 0) := by
  unfold q_kok
  exact ⟨qM_Jx4a65c_add_9ea2d, (RJx4a65c, TJx4a65c, 3), rfl, rfl, rfl, rfl, (q_up_r21 4 rfl), (q_up_r14 23 rfl), (q_up_r15 0 rfl), ⟨by decide +kernel, ⟨by decide +kernel, by decide +kernel⟩, (q_up_r1 19 rfl)⟩⟩
theorem qE_X11_108 : q_kok qT qTX RX11 (303, 13, 0, 0, 0) := by
  unfold q_kok
  exact ⟨_, List.mem_of_getElem? (i := 23) rfl⟩
theorem qE_X11_109 : q_kok qT qTX RX11 (305, 1, 329, 1, 0) := by
  unfold q_kok
  exact ⟨qM_Jx4a65c_get_915e3, (RJx4a65c, TJx4a65c, 3), rfl, rfl, rfl, rfl, (q_up_r23 17 rfl), (q_up_r23 18 rfl), (q_up_r23 19 rfl), ⟨by decide +kernel, ⟨by decide +kernel, by decide +kernel⟩, (q_up_r1 19 rfl)⟩⟩
theorem qE_X11_110 : q_kok qT qTX RX11 (309, 0, 10, 1, 2) := by
  unfold q_kok
  exact ⟨(RX9, TX9, 6), "DurableLoom$Task", rfl, by decide, (q_up_r56 17 rfl), Or.inl rfl, Or.inr (Or.inr rfl)⟩
theorem qE_X11_111 : q_kok qT qTX RX11 (313, 1, 163, 1, 12) := by
  unfold q_kok
  exact ⟨qM_X11_isStale, (RX11, TX11, 18), rfl, rfl, rfl, rfl, (q_up_r56 21 rfl), (q_up_r56 22 rfl), (q_up_r56 23 rfl), ⟨by decide +kernel, ⟨by decide +kernel, by decide +kernel⟩, (q_up_r1 2 rfl)⟩⟩
theorem qE_X11_112 : q_kok qT qTX RX11 (317, 0, 10, 5, 0) := by
  unfold q_kok
  exact ⟨(RX9, TX9, 6), "DurableLoom$Task", rfl, by decide, (q_up_r54 2 rfl), Or.inl rfl, Or.inl ⟨rfl, rfl⟩⟩
theorem qE_X11_113 : q_kok qT qTX RX11 (320, 0, 10, 0, 2) := by
  unfold q_kok
  exact ⟨(RX9, TX9, 6), "DurableLoom$Task", rfl, by decide, (q_up_r56 18 rfl), Or.inl rfl, Or.inr (Or.inr rfl)⟩
theorem qE_X11_114 : q_kok qT qTX RX11 (323, 1, 70, 1, 7) := by
  unfold q_kok
  exact ⟨qM_X6_isKeptBy, (RX6, TX6, 20), rfl, rfl, rfl, rfl, (q_up_r57 3 rfl), (q_up_r57 4 rfl), (q_up_r57 5 rfl), ⟨by decide +kernel, ⟨by decide +kernel, by decide +kernel⟩, (q_up_r20 0 rfl)⟩⟩
theorem qE_X11_115 : q_kok qT qTX RX11 (326, 1, 164, 1, 12) := by
  unfold q_kok
  exact ⟨qM_X11_countReplay, (RX11, TX11, 18), rfl, rfl, rfl, rfl, (q_up_r57 8 rfl), (q_up_r57 9 rfl), (q_up_r57 10 rfl), ⟨by decide +kernel, ⟨by decide +kernel, by decide +kernel⟩, (q_up_r1 2 rfl)⟩⟩
theorem qE_X11_116 : q_kok qT qTX RX11 (329, 0, 10, 3, 2) := by
  unfold q_kok
  exact ⟨(RX9, TX9, 6), "DurableLoom$Task", rfl, by decide, (q_up_r56 19 rfl), Or.inl rfl, Or.inr (Or.inr rfl)⟩
theorem qE_X11_117 : q_kok qT qTX RX11 (332, 1, 36, 0, 5) := by
  unfold q_kok
  exact ⟨qM_X4_isLeft, (RX4, TX4, 12), rfl, rfl, rfl, rfl, (q_up_r57 12 rfl), (q_up_r57 13 rfl), (q_up_r57 14 rfl), ⟨by decide +kernel, ⟨by decide +kernel, by decide +kernel⟩, (q_up_r2 10 rfl)⟩⟩
theorem qE_X11_118 : q_kok qT qTX RX11 (335, 0, 5, 11, 0) := by
  unfold q_kok
  exact ⟨(RX4, TX4, 12), "DurableLoom$Machine", rfl, by decide, (q_up_r56 20 rfl), Or.inl rfl, Or.inl ⟨rfl, rfl⟩⟩
theorem qE_X11_119 : q_kok qT qTX RX11 (336, 1, 165, 3, 12) := by
  unfold q_kok
  exact ⟨qM_X11_putNews, (RX11, TX11, 18), rfl, rfl, rfl, rfl, (q_up_r57 16 rfl), (q_up_r57 17 rfl), (q_up_r57 18 rfl), ⟨by decide +kernel, ⟨by decide +kernel, by decide +kernel⟩, (q_up_r1 2 rfl)⟩⟩
theorem qE_X11_120 : q_kok qT qTX RX11 (340, 1, 166, 2, 12) := by
  unfold q_kok
  exact ⟨qM_X11_carryOut, (RX11, TX11, 18), rfl, rfl, rfl, rfl, (q_up_r58 5 rfl), (q_up_r58 6 rfl), (q_up_r58 7 rfl), ⟨by decide +kernel, ⟨by decide +kernel, by decide +kernel⟩, (q_up_r1 2 rfl)⟩⟩
theorem qE_X11_121 : q_kok qT qTX RX11 (344, 0, 7, 12, 0) := by
  unfold q_kok
  exact ⟨(RX6, TX6, 20), "DurableLoom$Run", rfl, by decide, (q_up_r57 23 rfl), Or.inl rfl, Or.inl ⟨rfl, rfl⟩⟩
theorem qE_X11_122 : q_kok qT qTX RX11 (200347, 16, 1, 0, 0) := by
  unfold q_kok
  exact Or.inr ⟨(RX0, TX0, 11), rfl, (q_up_r58 14 rfl)⟩
theorem qE_X11_123 : q_kok qT qTX RX11 (347, 5, 1, 11, 0) := by
  unfold q_kok
  exact ⟨(RX0, TX0, 11), rfl, rfl, (q_up_r58 14 rfl), (q_up_r58 15 rfl), (q_up_r58 16 rfl)⟩
theorem qE_X11_124 : q_kok qT qTX RX11 (349, 0, 1, 2, 2) := by
  unfold q_kok
  exact ⟨(RX0, TX0, 11), "DurableLoom$Activity", rfl, by decide, (q_up_r65 5 rfl), Or.inl rfl, Or.inr (Or.inr rfl)⟩
theorem qE_X11_125 : q_kok qT qTX RX11 (351, 0, 1, 5, 0) := by
  unfold q_kok
  exact ⟨(RX0, TX0, 11), "DurableLoom$Activity", rfl, by decide, (q_up_r60 0 rfl), Or.inl rfl, Or.inl ⟨rfl, rfl⟩⟩
theorem qE_X11_126 : q_kok qT qTX RX11 (353, 0, 1, 7, 0) := by
  unfold q_kok
  exact ⟨(RX0, TX0, 11), "DurableLoom$Activity", rfl, by decide, (q_up_r65 6 rfl), Or.inl rfl, Or.inl ⟨rfl, rfl⟩⟩
theorem qE_X11_127 : q_kok qT qTX RX11 (356, 1, 1, 1, 1) := by
  unfold q_kok
  exact ⟨qM_X0_beTaken, (RX0, TX0, 11), rfl, rfl, rfl, rfl, (q_up_r65 8 rfl), (q_up_r65 9 rfl), (q_up_r65 10 rfl), ⟨by decide +kernel, ⟨by decide +kernel, by decide +kernel⟩, (q_up_r58 16 rfl)⟩⟩
theorem qE_X11_128 : q_kok qT qTX RX11 (359, 0, 1, 3, 2) := by
  unfold q_kok
  exact ⟨(RX0, TX0, 11), "DurableLoom$Activity", rfl, by decide, (q_up_r65 7 rfl), Or.inl rfl, Or.inr (Or.inr rfl)⟩
theorem qE_X11_129 : q_kok qT qTX RX11 (362, 1, 140, 1, 12) := by
  unfold q_kok
  exact ⟨qM_X11_activityAt, (RX11, TX11, 18), rfl, rfl, rfl, rfl, (q_up_r65 23 rfl), (q_up_r66 0 rfl), (q_up_r66 1 rfl), ⟨by decide +kernel, ⟨by decide +kernel, by decide +kernel⟩, (q_up_r1 2 rfl)⟩⟩
theorem qE_X11_130 : q_kok qT qTX RX11 (366, 0, 1, 0, 2) := by
  unfold q_kok
  exact ⟨(RX0, TX0, 11), "DurableLoom$Activity", rfl, by decide, (q_up_r59 22 rfl), Or.inl rfl, Or.inr (Or.inr rfl)⟩
theorem qE_X11_131 : q_kok qT qTX RX11 (367, 0, 1, 1, 2) := by
  unfold q_kok
  exact ⟨(RX0, TX0, 11), "DurableLoom$Activity", rfl, by decide, (q_up_r59 23 rfl), Or.inl rfl, Or.inr (Or.inr rfl)⟩
theorem qE_X11_132 : q_kok qT qTX RX11 (370, 1, 179, 2, 12) := by
  unfold q_kok
  exact ⟨qM_X11_failAttempt, (RX11, TX11, 18), rfl, rfl, rfl, rfl, (q_up_r66 18 rfl), (q_up_r66 19 rfl), (q_up_r66 20 rfl), ⟨by decide +kernel, ⟨by decide +kernel, by decide +kernel⟩, (q_up_r1 2 rfl)⟩⟩
theorem qE_X11_133 : q_kok qT qTX RX11 (374, 0, 1, 10, 0) := by
  unfold q_kok
  exact ⟨(RX0, TX0, 11), "DurableLoom$Activity", rfl, by decide, (q_up_r67 14 rfl), Or.inl rfl, Or.inl ⟨rfl, rfl⟩⟩
theorem qE_X11_134 : q_kok qT qTX RX11 (377, 0, 1, 9, 0) := by
  unfold q_kok
  exact ⟨(RX0, TX0, 11), "DurableLoom$Activity", rfl, by decide, (q_up_r67 15 rfl), Or.inl rfl, Or.inl ⟨rfl, rfl⟩⟩
theorem qE_X11_135 : q_kok qT qTX RX11 (380, 0, 1, 6, 0) := by
  unfold q_kok
  exact ⟨(RX0, TX0, 11), "DurableLoom$Activity", rfl, by decide, (q_up_r66 22 rfl), Or.inl rfl, Or.inl ⟨rfl, rfl⟩⟩
theorem qE_X11_136 : q_kok qT qTX RX11 (381, 13, 0, 0, 0) := by
  unfold q_kok
  exact ⟨_, List.mem_of_getElem? (i := 25) rfl⟩
theorem qE_X11_137 : q_kok qT qTX RX11 (383, 1, 175, 0, 12) := by
  unfold q_kok
  exact ⟨qM_X11_beginTick, (RX11, TX11, 18), rfl, rfl, rfl, rfl, (q_up_r68 15 rfl), (q_up_r68 16 rfl), (q_up_r68 17 rfl), ⟨by decide +kernel, ⟨by decide +kernel, by decide +kernel⟩, (q_up_r1 2 rfl)⟩⟩
theorem qE_X11_138 : q_kok qT qTX RX11 (386, 1, 176, 1, 12) := by
  unfold q_kok
  exact ⟨qM_X11_fireTimers, (RX11, TX11, 18), rfl, rfl, rfl, rfl, (q_up_r68 19 rfl), (q_up_r68 20 rfl), (q_up_r68 21 rfl), ⟨by decide +kernel, ⟨by decide +kernel, by decide +kernel⟩, (q_up_r1 2 rfl)⟩⟩
theorem qE_X11_139 : q_kok qT qTX RX11 (390, 1, 177, 1, 12) := by
  unfold q_kok
  exact ⟨qM_X11_lookAtActivity, (RX11, TX11, 18), rfl, rfl, rfl, rfl, (q_up_r69 0 rfl), (q_up_r69 1 rfl), (q_up_r69 2 rfl), ⟨by decide +kernel, ⟨by decide +kernel, by decide +kernel⟩, (q_up_r1 2 rfl)⟩⟩
theorem qE_X11_140 : q_kok qT qTX RX11 (200394, 16, 8, 0, 0) := by
  unfold q_kok
  exact Or.inr ⟨(RX7, TX7, 9), rfl, (q_up_r68 14 rfl)⟩
theorem qE_X11_141 : q_kok qT qTX RX11 (394, 5, 8, 9, 0) := by
  unfold q_kok
  exact ⟨(RX7, TX7, 9), rfl, rfl, (q_up_r68 14 rfl), (q_up_r78 13 rfl), (q_up_r70 9 rfl)⟩
theorem qE_X11_142 : q_kok qT qTX RX11 (396, 1, 180, 1, 12) := by
  unfold q_kok
  exact ⟨qM_X11_lookAtSchedule, (RX11, TX11, 18), rfl, rfl, rfl, rfl, (q_up_r69 10 rfl), (q_up_r69 11 rfl), (q_up_r69 12 rfl), ⟨by decide +kernel, ⟨by decide +kernel, by decide +kernel⟩, (q_up_r1 2 rfl)⟩⟩
theorem qE_X11_143 : q_kok qT qTX RX11 (400, 1, 142, 2, 12) := by
  unfold q_kok
  exact ⟨qM_X11_checkVersion, (RX11, TX11, 18), rfl, rfl, rfl, rfl, (q_up_r72 14 rfl), (q_up_r72 15 rfl), (q_up_r72 16 rfl), ⟨by decide +kernel, ⟨by decide +kernel, by decide +kernel⟩, (q_up_r1 2 rfl)⟩⟩
theorem qE_X11_144 : q_kok qT qTX RX11 (404, 0, 7, 1, 2) := by
  unfold q_kok
  exact ⟨(RX6, TX6, 20), "DurableLoom$Run", rfl, by decide, (q_up_r26 3 rfl), Or.inl rfl, Or.inr (Or.inr rfl)⟩
theorem qE_X11_145 : q_kok qT qTX RX11 (407, 1, 24, 1, 3) := by
  unfold q_kok
  exact ⟨qM_X2_taskAt, (RX2, TX2, 5), rfl, rfl, rfl, rfl, (q_up_r73 20 rfl), (q_up_r73 21 rfl), (q_up_r73 22 rfl), ⟨by decide +kernel, ⟨by decide +kernel, by decide +kernel⟩, (q_up_r4 6 rfl)⟩⟩
theorem qE_X11_146 : q_kok qT qTX RX11 (410, 13, 0, 0, 0) := by
  unfold q_kok
  exact ⟨_, List.mem_of_getElem? (i := 27) rfl⟩
theorem qE_X11_147 : q_kok qT qTX RX11 (412, 13, 0, 0, 0) := by
  unfold q_kok
  exact ⟨_, List.mem_of_getElem? (i := 28) rfl⟩
theorem qE_X11_148 : q_kok qT qTX RX11 (414, 0, 7, 4, 0) := by
  unfold q_kok
  exact ⟨(RX6, TX6, 20), "DurableLoom$Run", rfl, by decide, (q_up_r60 1 rfl), Or.inl rfl, Or.inl ⟨rfl, rfl⟩⟩
theorem qE_X11_149 : q_kok qT qTX RX11 (417, 0, 7, 5, 2) := by
  unfold q_kok
  exact ⟨(RX6, TX6, 20), "DurableLoom$Run", rfl, by decide, (q_up_r60 2 rfl), Or.inl rfl, Or.inr (Or.inr rfl)⟩
theorem qE_X11_150 : q_kok qT qTX RX11 (420, 1, 150, 5, 12) := by
  unfold q_kok
  exact ⟨qM_X11_addRun, (RX11, TX11, 18), rfl, rfl, rfl, rfl, (q_up_r19 18 rfl), (q_up_r19 19 rfl), (q_up_r19 20 rfl), ⟨by decide +kernel, ⟨by decide +kernel, by decide +kernel⟩, (q_up_r1 2 rfl)⟩⟩
theorem qE_X11_151 : q_kok qT qTX RX11 (423, 1, 17, 2, 3) := by
  unfold q_kok
  exact ⟨qM_X2_becomeFirst, (RX2, TX2, 5), rfl, rfl, rfl, rfl, (q_up_r74 0 rfl), (q_up_r74 1 rfl), (q_up_r74 2 rfl), ⟨by decide +kernel, ⟨by decide +kernel, by decide +kernel⟩, (q_up_r4 6 rfl)⟩⟩
theorem qE_X11_152 : q_kok qT qTX RX11 (427, 1, 157, 1, 12) := by
  unfold q_kok
  exact ⟨qM_X11_endWork, (RX11, TX11, 18), rfl, rfl, rfl, rfl, (q_up_r60 19 rfl), (q_up_r60 20 rfl), (q_up_r60 21 rfl), ⟨by decide +kernel, ⟨by decide +kernel, by decide +kernel⟩, (q_up_r1 2 rfl)⟩⟩
theorem qE_X11_153 : q_kok qT qTX RX11 (430, 1, 158, 2, 12) := by
  unfold q_kok
  exact ⟨qM_X11_partFromChildren, (RX11, TX11, 18), rfl, rfl, rfl, rfl, (q_up_r74 9 rfl), (q_up_r74 10 rfl), (q_up_r74 11 rfl), ⟨by decide +kernel, ⟨by decide +kernel, by decide +kernel⟩, (q_up_r1 2 rfl)⟩⟩
theorem qE_X11_154 : q_kok qT qTX RX11 (434, 1, 174, 1, 12) := by
  unfold q_kok
  exact ⟨qM_X11_restoreWork, (RX11, TX11, 18), rfl, rfl, rfl, rfl, (q_up_r74 13 rfl), (q_up_r74 14 rfl), (q_up_r74 15 rfl), ⟨by decide +kernel, ⟨by decide +kernel, by decide +kernel⟩, (q_up_r1 2 rfl)⟩⟩
theorem qE_X11_155 : q_kok qT qTX RX11 (437, 1, 172, 3, 12) := by
  unfold q_kok
  exact ⟨qM_X11_sendSignals, (RX11, TX11, 18), rfl, rfl, rfl, rfl, (q_up_r61 17 rfl), (q_up_r61 18 rfl), (q_up_r61 19 rfl), ⟨by decide +kernel, ⟨by decide +kernel, by decide +kernel⟩, (q_up_r1 2 rfl)⟩⟩
theorem qE_X11_156 : q_kok qT qTX RX11 (441, 13, 0, 0, 0) := by
  unfold q_kok
  exact ⟨_, List.mem_of_getElem? (i := 29) rfl⟩
theorem qE_X11_157 : q_kok qT qTX RX11 (443, 0, 7, 8, 0) := by
  unfold q_kok
  exact ⟨(RX6, TX6, 20), "DurableLoom$Run", rfl, by decide, (q_up_r76 8 rfl), Or.inl rfl, Or.inl ⟨rfl, rfl⟩⟩
theorem qE_X11_158 : q_kok qT qTX RX11 (446, 2, 320, 2, 0) := by
  unfold q_kok
  exact ⟨qM_J9_min_7cf53, rfl, (q_up_r76 9 rfl), (q_up_r16 20 rfl), ⟨by decide +kernel, ⟨by decide +kernel, by decide +kernel⟩, (q_up_r15 18 rfl)⟩⟩
theorem qE_X11_159 : q_kok qT qTX RX11 (452, 13, 0, 0, 0) := by
  unfold q_kok
  exact ⟨_, List.mem_of_getElem? (i := 30) rfl⟩
theorem qE_X11_160 : q_kok qT qTX RX11 (454, 1, 173, 1, 12) := by
  unfold q_kok
  exact ⟨qM_X11_loseEvents, (RX11, TX11, 18), rfl, rfl, rfl, rfl, (q_up_r77 1 rfl), (q_up_r77 2 rfl), (q_up_r77 3 rfl), ⟨by decide +kernel, ⟨by decide +kernel, by decide +kernel⟩, (q_up_r1 2 rfl)⟩⟩
theorem qE_X11_161 : q_kok qT qTX RX11 (458, 1, 154, 4, 12) := by
  unfold q_kok
  exact ⟨qM_X11_closeRun, (RX11, TX11, 18), rfl, rfl, rfl, rfl, (q_up_r60 15 rfl), (q_up_r60 16 rfl), (q_up_r60 17 rfl), ⟨by decide +kernel, ⟨by decide +kernel, by decide +kernel⟩, (q_up_r1 2 rfl)⟩⟩
theorem qE_X11_162 : q_kok qT qTX RX11 (461, 13, 0, 0, 0) := by
  unfold q_kok
  exact ⟨_, List.mem_of_getElem? (i := 31) rfl⟩
theorem qE_X11_163 : q_kok qT qTX RX11 (463, 0, 7, 19, 2) := by
  unfold q_kok
  exact ⟨(RX6, TX6, 20), "DurableLoom$Run", rfl, by decide, (q_up_r77 5 rfl), Or.inl rfl, Or.inr (Or.inr rfl)⟩
theorem qE_X11_164 : q_kok qT qTX RX11 (466, 1, 59, 1, 6) := by
  unfold q_kok
  exact ⟨qM_X5_at, (RX5, TX5, 3), rfl, rfl, rfl, rfl, (q_up_r61 16 rfl), (q_up_r33 20 rfl), (q_up_r33 21 rfl), ⟨by decide +kernel, ⟨by decide +kernel, by decide +kernel⟩, (q_up_r2 6 rfl)⟩⟩
theorem qE_X11_165 : q_kok qT qTX RX11 (469, 1, 63, 1, 6) := by
  unfold q_kok
  exact ⟨qM_X5_cut, (RX5, TX5, 3), rfl, rfl, rfl, rfl, (q_up_r61 1 rfl), (q_up_r27 9 rfl), (q_up_r27 10 rfl), ⟨by decide +kernel, ⟨by decide +kernel, by decide +kernel⟩, (q_up_r2 6 rfl)⟩⟩
theorem qE_X11_166 : q_kok qT qTX RX11 (472, 13, 0, 0, 0) := by
  unfold q_kok
  exact ⟨_, List.mem_of_getElem? (i := 32) rfl⟩
theorem qE_X11_167 : q_kok qT qTX RX11 (474, 13, 0, 0, 0) := by
  unfold q_kok
  exact ⟨_, List.mem_of_getElem? (i := 33) rfl⟩
theorem qE_X11_168 : q_kok qT qTX RX11 (476, 3, 73, 5, 0) := by
  unfold q_kok
  exact ⟨qM_X7_init, rfl, rfl, rfl, rfl, (q_up_r78 14 rfl), (q_up_r78 15 rfl), ⟨by decide +kernel, ⟨by decide +kernel, by decide +kernel⟩, (q_up_r70 9 rfl)⟩⟩
theorem qE_X11_169 : q_kok qT qTX RX11 (479, 1, 141, 1, 12) := by
  unfold q_kok
  exact ⟨qM_X11_scheduleAt, (RX11, TX11, 18), rfl, rfl, rfl, rfl, (q_up_r79 13 rfl), (q_up_r79 14 rfl), (q_up_r79 15 rfl), ⟨by decide +kernel, ⟨by decide +kernel, by decide +kernel⟩, (q_up_r1 2 rfl)⟩⟩
theorem qE_X11_170 : q_kok qT qTX RX11 (483, 0, 8, 5, 0) := by
  unfold q_kok
  exact ⟨(RX7, TX7, 9), "DurableLoom$Schedule", rfl, by decide, (q_up_r69 17 rfl), Or.inl rfl, Or.inl ⟨rfl, rfl⟩⟩
theorem qE_X11_171 : q_kok qT qTX RX11 (486, 13, 0, 0, 0) := by
  unfold q_kok
  exact ⟨_, List.mem_of_getElem? (i := 35) rfl⟩
theorem qE_X11_172 : q_kok qT qTX RX11 (488, 1, 75, 0, 8) := by
  unfold q_kok
  exact ⟨qM_X7_pointsSoFar, (RX7, TX7, 9), rfl, rfl, rfl, rfl, (q_up_r80 9 rfl), (q_up_r80 10 rfl), (q_up_r80 11 rfl), ⟨by decide +kernel, ⟨by decide +kernel, by decide +kernel⟩, (q_up_r70 9 rfl)⟩⟩
theorem qE_X11_173 : q_kok qT qTX RX11 (491, 0, 8, 0, 2) := by
  unfold q_kok
  exact ⟨(RX7, TX7, 9), "DurableLoom$Schedule", rfl, by decide, (q_up_r70 4 rfl), Or.inl rfl, Or.inr (Or.inr rfl)⟩
theorem qE_X11_174 : q_kok qT qTX RX11 (492, 0, 8, 1, 2) := by
  unfold q_kok
  exact ⟨(RX7, TX7, 9), "DurableLoom$Schedule", rfl, by decide, (q_up_r70 5 rfl), Or.inl rfl, Or.inr (Or.inr rfl)⟩
theorem qE_X11_175 : q_kok qT qTX RX11 (493, 0, 8, 2, 2) := by
  unfold q_kok
  exact ⟨(RX7, TX7, 9), "DurableLoom$Schedule", rfl, by decide, (q_up_r80 8 rfl), Or.inl rfl, Or.inr (Or.inr rfl)⟩
theorem qE_X11_176 : q_kok qT qTX RX11 (496, 2, 318, 2, 0) := by
  unfold q_kok
  exact ⟨qM_J9_floorMod_7cf53, rfl, (q_up_r19 14 rfl), (q_up_r19 15 rfl), ⟨by decide +kernel, ⟨by decide +kernel, by decide +kernel⟩, (q_up_r15 18 rfl)⟩⟩
theorem qE_X11_177 : q_kok qT qTX RX11 (499, 13, 0, 0, 0) := by
  unfold q_kok
  exact ⟨_, List.mem_of_getElem? (i := 36) rfl⟩
theorem qE_X11_178 : q_kok qT qTX RX11 (501, 0, 7, 11, 0) := by
  unfold q_kok
  exact ⟨(RX6, TX6, 20), "DurableLoom$Run", rfl, by decide, (q_up_r81 11 rfl), Or.inl rfl, Or.inl ⟨rfl, rfl⟩⟩
theorem qE_X11_179 : q_kok qT qTX RX11 (504, 13, 0, 0, 0) := by
  unfold q_kok
  exact ⟨_, List.mem_of_getElem? (i := 0) rfl⟩
theorem qE_X11_180 : q_kok qT qTX RX11 (506, 13, 0, 0, 0) := by
  unfold q_kok
  exact ⟨_, List.mem_of_getElem? (i := 5) rfl⟩
theorem qE_X11_181 : q_kok qT qTX RX11 (508, 13, 0, 0, 0) := by
  unfold q_kok
  exact ⟨_, List.mem_of_getElem? (i := 12) rfl⟩
theorem qE_X11_182 : q_kok qT qTX RX11 (510, 13, 0, 0, 0) := by
  unfold q_kok
  exact ⟨_, List.mem_of_getElem? (i := 24) rfl⟩
theorem qE_X11_183 : q_kok qT qTX RX11 (512, 13, 0, 0, 0) := by
  unfold q_kok
  exact ⟨_, List.mem_of_getElem? (i := 34) rfl⟩
theorem qE_X11_184 : q_kok qT qTX RX11 (514, 13, 0, 0, 0) := by
  unfold q_kok
  exact ⟨_, List.mem_of_getElem? (i := 26) rfl⟩
theorem qE_X11_185 : q_kok qT qTX RX11 (516, 13, 0, 0, 0) := by
  unfold q_kok
  exact ⟨_, List.mem_of_getElem? (i := 9) rfl⟩
theorem qE_X11_186 : q_kok qT qTX RX11 (518, 13, 0, 0, 0) := by
  unfold q_kok
  exact ⟨_, List.mem_of_getElem? (i := 22) rfl⟩
theorem qE_X11_187 : q_kok qT qTX RX11 (520, 13, 0, 0, 0) := by
  unfold q_kok
  exact ⟨_, List.mem_of_getElem? (i := 13) rfl⟩
theorem qE_X11_188 : q_kok qT qTX RX11 (522, 13, 0, 0, 0) := by
  unfold q_kok
  exact ⟨_, List.mem_of_getElem? (i := 17) rfl⟩
theorem qE_X11_189 : q_kok qT qTX RX11 (524, 13, 0, 0, 0) := by
  unfold q_kok
  exact ⟨_, List.mem_of_getElem? (i := 10) rfl⟩
theorem qE_X11_190 : q_kok qT qTX RX11 (526, 1, 148, 1, 12) := by
  unfold q_kok
  exact ⟨qM_X11_typeOf, (RX11, TX11, 18), rfl, rfl, rfl, rfl, (q_up_r25 23 rfl), (q_up_r26 0 rfl), (q_up_r26 1 rfl), ⟨by decide +kernel, ⟨by decide +kernel, by decide +kernel⟩, (q_up_r1 2 rfl)⟩⟩
theorem qE_X11_191 : q_kok qT qTX RX11 (530, 1, 97, 1, 11) := by
  unfold q_kok
  exact ⟨qM_X10_code, (RX10, TX10, 3), rfl, rfl, rfl, rfl, (q_up_r26 4 rfl), (q_up_r26 5 rfl), (q_up_r26 6 rfl), ⟨by decide +kernel, ⟨by decide +kernel, by decide +kernel⟩, (q_up_r2 20 rfl)⟩⟩
theorem qE_X11_192 : q_kok qT qTX RX11 (534, 3, 65, 6, 0) := by
  unfold q_kok
  exact ⟨qM_X6_init, rfl, rfl, rfl, rfl, (q_up_r20 1 rfl), (q_up_r20 2 rfl), ⟨by decide +kernel, ⟨by decide +kernel, by decide +kernel⟩, (q_up_r20 0 rfl)⟩⟩
theorem qE_X11_193 : q_kok qT qTX RX11 (537, 1, 15, 5, 3) := by
  unfold q_kok
  exact ⟨qM_X2_put, (RX2, TX2, 5), rfl, rfl, rfl, rfl, (q_up_r21 10 rfl), (q_up_r21 11 rfl), (q_up_r21 12 rfl), ⟨by decide +kernel, ⟨by decide +kernel, by decide +kernel⟩, (q_up_r4 6 rfl)⟩⟩
theorem qE_X11_194 : q_kok qT qTX RX11 (540, 1, 19, 1, 3) := by
  unfold q_kok
  exact ⟨qM_X2_has, (RX2, TX2, 5), rfl, rfl, rfl, rfl, (q_up_r48 5 rfl), (q_up_r48 6 rfl), (q_up_r48 7 rfl), ⟨by decide +kernel, ⟨by decide +kernel, by decide +kernel⟩, (q_up_r4 6 rfl)⟩⟩
theorem qE_X11_195 : q_kok qT qTX RX11 (543, 1, 156, 2, 12) := by
  unfold q_kok
  exact ⟨qM_X11_dealWithChildren, (RX11, TX11, 18), rfl, rfl, rfl, rfl, (q_up_r61 2 rfl), (q_up_r61 3 rfl), (q_up_r61 4 rfl), ⟨by decide +kernel, ⟨by decide +kernel, by decide +kernel⟩, (q_up_r1 2 rfl)⟩⟩
theorem qE_X11_196 : q_kok qT qTX RX11 (546, 1, 155, 1, 12) := by
  unfold q_kok
  exact ⟨qM_X11_parentOf, (RX11, TX11, 18), rfl, rfl, rfl, rfl, (q_up_r61 5 rfl), (q_up_r61 6 rfl), (q_up_r61 7 rfl), ⟨by decide +kernel, ⟨by decide +kernel, by decide +kernel⟩, (q_up_r1 2 rfl)⟩⟩
theorem qE_X11_197 : q_kok qT qTX RX11 (550, 0, 7, 17, 2) := by
  unfold q_kok
  exact ⟨(RX6, TX6, 20), "DurableLoom$Run", rfl, by decide, (q_up_r60 23 rfl), Or.inl rfl, Or.inr (Or.inr rfl)⟩
theorem qE_X11_198 : q_kok qT qTX RX11 (553, 0, 7, 18, 2) := by
  unfold q_kok
  exact ⟨(RX6, TX6, 20), "DurableLoom$Run", rfl, by decide, (q_up_r61 0 rfl), Or.inl rfl, Or.inr (Or.inr rfl)⟩
theorem qE_X11_199 : q_kok qT qTX RX11 (556, 1, 67, 0, 7) := by
  unfold q_kok
  exact ⟨qM_X6_hasWork, (RX6, TX6, 20), rfl, rfl, rfl, rfl, (q_up_r53 15 rfl), (q_up_r53 16 rfl), (q_up_r53 17 rfl), ⟨by decide +kernel, ⟨by decide +kernel, by decide +kernel⟩, (q_up_r20 0 rfl)⟩⟩
theorem qE_X11_200 : q_kok qT qTX RX11 (559, 1, 160, 1, 12) := by
  unfold q_kok
  exact ⟨qM_X11_isHeld, (RX11, TX11, 18), rfl, rfl, rfl, rfl, (q_up_r53 21 rfl), (q_up_r53 22 rfl), (q_up_r53 23 rfl), ⟨by decide +kernel, ⟨by decide +kernel, by decide +kernel⟩, (q_up_r1 2 rfl)⟩⟩
theorem qE_X11_201 : q_kok qT qTX RX11 (562, 1, 68, 0, 7) := by
  unfold q_kok
  exact ⟨qM_X6_firstOrder, (RX6, TX6, 20), rfl, rfl, rfl, rfl, (q_up_r54 4 rfl), (q_up_r54 5 rfl), (q_up_r54 6 rfl), ⟨by decide +kernel, ⟨by decide +kernel, by decide +kernel⟩, (q_up_r20 0 rfl)⟩⟩
theorem qE_X11_202 : q_kok qT qTX RX11 (565, 0, 10, 2, 2) := by
  unfold q_kok
  exact ⟨(RX9, TX9, 6), "DurableLoom$Task", rfl, by decide, (q_up_r54 3 rfl), Or.inl rfl, Or.inr (Or.inr rfl)⟩
theorem qE_X11_203 : q_kok qT qTX RX11 (568, 1, 69, 0, 7) := by
  unfold q_kok
  exact ⟨qM_X6_mark, (RX6, TX6, 20), rfl, rfl, rfl, rfl, (q_up_r57 2 rfl), (q_up_r55 10 rfl), (q_up_r55 11 rfl), ⟨by decide +kernel, ⟨by decide +kernel, by decide +kernel⟩, (q_up_r20 0 rfl)⟩⟩
theorem qE_X11_204 : q_kok qT qTX RX11 (571, 0, 10, 4, 2) := by
  unfold q_kok
  exact ⟨(RX9, TX9, 6), "DurableLoom$Task", rfl, by decide, (q_up_r57 1 rfl), Or.inl rfl, Or.inr (Or.inr rfl)⟩
theorem qE_X11_205 : q_kok qT qTX RX11 (573, 0, 7, 15, 0) := by
  unfold q_kok
  exact ⟨(RX6, TX6, 20), "DurableLoom$Run", rfl, by decide, (q_up_r57 20 rfl), Or.inl rfl, Or.inl ⟨rfl, rfl⟩⟩
theorem qE_X11_206 : q_kok qT qTX RX11 (576, 0, 7, 14, 0) := by
  unfold q_kok
  exact ⟨(RX6, TX6, 20), "DurableLoom$Run", rfl, by decide, (q_up_r57 21 rfl), Or.inl rfl, Or.inl ⟨rfl, rfl⟩⟩
theorem qE_X11_207 : q_kok qT qTX RX11 (579, 0, 5, 1, 2) := by
  unfold q_kok
  exact ⟨(RX4, TX4, 12), "DurableLoom$Machine", rfl, by decide, (q_up_r57 22 rfl), Or.inl rfl, Or.inr (Or.inr rfl)⟩
theorem qE_X11_208 : q_kok qT qTX RX11 (582, 0, 7, 13, 0) := by
  unfold q_kok
  exact ⟨(RX6, TX6, 20), "DurableLoom$Run", rfl, by decide, (q_up_r58 0 rfl), Or.inl rfl, Or.inl ⟨rfl, rfl⟩⟩
theorem qE_X11_209 : q_kok qT qTX RX11 (585, 1, 32, 1, 5) := by
  unfold q_kok
  exact ⟨qM_X4_knows, (RX4, TX4, 12), rfl, rfl, rfl, rfl, (q_up_r58 1 rfl), (q_up_r58 2 rfl), (q_up_r58 3 rfl), ⟨by decide +kernel, ⟨by decide +kernel, by decide +kernel⟩, (q_up_r2 10 rfl)⟩⟩
theorem qE_X11_210 : q_kok qT qTX RX11 (588, 1, 168, 4, 12) := by
  unfold q_kok
  exact ⟨qM_X11_makeActivity, (RX11, TX11, 18), rfl, rfl, rfl, rfl, (q_up_r58 10 rfl), (q_up_r58 11 rfl), (q_up_r58 12 rfl), ⟨by decide +kernel, ⟨by decide +kernel, by decide +kernel⟩, (q_up_r1 2 rfl)⟩⟩
theorem qE_X11_211 : q_kok qT qTX RX11 (591, 1, 71, 2, 7) := by
  unfold q_kok
  exact ⟨qM_X6_addTimer, (RX6, TX6, 20), rfl, rfl, rfl, rfl, (q_up_r59 8 rfl), (q_up_r59 9 rfl), (q_up_r59 10 rfl), ⟨by decide +kernel, ⟨by decide +kernel, by decide +kernel⟩, (q_up_r20 0 rfl)⟩⟩
theorem qE_X11_212 : q_kok qT qTX RX11 (594, 1, 169, 4, 12) := by
  unfold q_kok
  exact ⟨qM_X11_beginChild, (RX11, TX11, 18), rfl, rfl, rfl, rfl, (q_up_r59 13 rfl), (q_up_r59 14 rfl), (q_up_r59 15 rfl), ⟨by decide +kernel, ⟨by decide +kernel, by decide +kernel⟩, (q_up_r1 2 rfl)⟩⟩
theorem qE_X11_213 : q_kok qT qTX RX11 (597, 1, 170, 2, 12) := by
  unfold q_kok
  exact ⟨qM_X11_dropEvent, (RX11, TX11, 18), rfl, rfl, rfl, rfl, (q_up_r59 17 rfl), (q_up_r59 18 rfl), (q_up_r59 19 rfl), ⟨by decide +kernel, ⟨by decide +kernel, by decide +kernel⟩, (q_up_r1 2 rfl)⟩⟩
theorem qE_X11_214 : q_kok qT qTX RX11 (600, 1, 167, 2, 12) := by
  unfold q_kok
  exact ⟨qM_X11_queueTag, (RX11, TX11, 18), rfl, rfl, rfl, rfl, (q_up_r60 10 rfl), (q_up_r60 11 rfl), (q_up_r60 12 rfl), ⟨by decide +kernel, ⟨by decide +kernel, by decide +kernel⟩, (q_up_r1 2 rfl)⟩⟩
theorem qE_X11_215 : q_kok qT qTX RX11 (603, 0, 9, 8, 0) := by
  unfold q_kok
  exact ⟨(RX8, TX8, 14), "DurableLoom$State", rfl, by decide, (q_up_r58 9 rfl), Or.inl rfl, Or.inl ⟨rfl, rfl⟩⟩
theorem qE_X11_216 : q_kok qT qTX RX11 (606, 1, 171, 2, 12) := by
  unfold q_kok
  exact ⟨qM_X11_goOnAsNew, (RX11, TX11, 18), rfl, rfl, rfl, rfl, (q_up_r61 10 rfl), (q_up_r61 11 rfl), (q_up_r61 12 rfl), ⟨by decide +kernel, ⟨by decide +kernel, by decide +kernel⟩, (q_up_r1 2 rfl)⟩⟩
theorem qE_X11_217 : q_kok qT qTX RX11 (609, 7, 51200, 0, 0) := by
  unfold q_kok
  exact (q_up_r60 14 rfl)
theorem qE_X11_218 : q_kok qT qTX RX11 (610, 3, 0, 5, 0) := by
  unfold q_kok
  exact ⟨qM_X0_init, rfl, rfl, rfl, rfl, (q_up_r58 17 rfl), (q_up_r58 18 rfl), ⟨by decide +kernel, ⟨by decide +kernel, by decide +kernel⟩, (q_up_r58 16 rfl)⟩⟩
theorem qE_X11_219 : q_kok qT qTX RX11 (613, 1, 72, 1, 7) := by
  unfold q_kok
  exact ⟨qM_X6_dropTimer, (RX6, TX6, 20), rfl, rfl, rfl, rfl, (q_up_r60 3 rfl), (q_up_r60 4 rfl), (q_up_r60 5 rfl), ⟨by decide +kernel, ⟨by decide +kernel, by decide +kernel⟩, (q_up_r20 0 rfl)⟩⟩
theorem qE_X11_220 : q_kok qT qTX RX11 (616, 1, 83, 1, 9) := by
  unfold q_kok
  exact ⟨qM_X8_queue, (RX8, TX8, 14), rfl, rfl, rfl, rfl, (q_up_r61 15 rfl), (q_up_r30 7 rfl), (q_up_r30 8 rfl), ⟨by decide +kernel, ⟨by decide +kernel, by decide +kernel⟩, (q_up_r4 2 rfl)⟩⟩
theorem qE_X11_221 : q_kok qT qTX RX11 (619, 0, 9, 11, 0) := by
  unfold q_kok
  exact ⟨(RX8, TX8, 14), "DurableLoom$State", rfl, by decide, (q_up_r61 14 rfl), Or.inl rfl, Or.inl ⟨rfl, rfl⟩⟩
theorem qE_X11_222 : q_kok qT qTX RX11 (622, 1, 16, 1, 3) := by
  unfold q_kok
  exact ⟨qM_X2_cut, (RX2, TX2, 5), rfl, rfl, rfl, rfl, (q_up_r77 7 rfl), (q_up_r28 0 rfl), (q_up_r28 1 rfl), ⟨by decide +kernel, ⟨by decide +kernel, by decide +kernel⟩, (q_up_r4 6 rfl)⟩⟩
theorem qE_X11_223 : q_kok qT qTX RX11 (623, 0, 7, 9, 0) := by
  unfold q_kok
  exact ⟨(RX6, TX6, 20), "DurableLoom$Run", rfl, by decide, (q_up_r77 6 rfl), Or.inl rfl, Or.inl ⟨rfl, rfl⟩⟩
theorem qE_X11_224 : q_kok qT qTX RX11 (626, 1, 27, 1, 3) := by
  unfold q_kok
  exact ⟨qM_X2_hasEnded, (RX2, TX2, 5), rfl, rfl, rfl, rfl, (q_up_r74 17 rfl), (q_up_r74 18 rfl), (q_up_r74 19 rfl), ⟨by decide +kernel, ⟨by decide +kernel, by decide +kernel⟩, (q_up_r4 6 rfl)⟩⟩
theorem qE_X11_225 : q_kok qT qTX RX11 (629, 1, 12, 1, 3) := by
  unfold q_kok
  exact ⟨qM_X2_timeOfCommand, (RX2, TX2, 5), rfl, rfl, rfl, rfl, (q_up_r74 21 rfl), (q_up_r74 22 rfl), (q_up_r74 23 rfl), ⟨by decide +kernel, ⟨by decide +kernel, by decide +kernel⟩, (q_up_r4 6 rfl)⟩⟩
theorem qE_X11_226 : q_kok qT qTX RX11 (632, 2, 319, 2, 0) := by
  unfold q_kok
  exact ⟨qM_J9_max_7cf53, rfl, (q_up_r69 18 rfl), (q_up_r15 17 rfl), ⟨by decide +kernel, ⟨by decide +kernel, by decide +kernel⟩, (q_up_r15 18 rfl)⟩⟩
theorem qE_X11_227 : q_kok qT qTX RX11 (635, 1, 61, 1, 6) := by
  unfold q_kok
  exact ⟨qM_X5_removeAt, (RX5, TX5, 3), rfl, rfl, rfl, rfl, (q_up_r68 23 rfl), (q_up_r35 4 rfl), (q_up_r35 5 rfl), ⟨by decide +kernel, ⟨by decide +kernel, by decide +kernel⟩, (q_up_r2 6 rfl)⟩⟩
theorem qE_X11_228 : q_kok qT qTX RX11 (638, 0, 1, 4, 2) := by
  unfold q_kok
  exact ⟨(RX0, TX0, 11), "DurableLoom$Activity", rfl, by decide, (q_up_r69 4 rfl), Or.inl rfl, Or.inr (Or.inr rfl)⟩
theorem qE_X11_229 : q_kok qT qTX RX11 (641, 1, 178, 2, 12) := by
  unfold q_kok
  exact ⟨qM_X11_isReached, (RX11, TX11, 18), rfl, rfl, rfl, rfl, (q_up_r69 6 rfl), (q_up_r69 7 rfl), (q_up_r69 8 rfl), ⟨by decide +kernel, ⟨by decide +kernel, by decide +kernel⟩, (q_up_r1 2 rfl)⟩⟩
theorem qE_X11_230 : q_kok qT qTX RX11 (645, 0, 1, 8, 0) := by
  unfold q_kok
  exact ⟨(RX0, TX0, 11), "DurableLoom$Activity", rfl, by decide, (q_up_r69 5 rfl), Or.inl rfl, Or.inl ⟨rfl, rfl⟩⟩
theorem qE_X11_231 : q_kok qT qTX RX11 (648, 0, 8, 7, 0) := by
  unfold q_kok
  exact ⟨(RX7, TX7, 9), "DurableLoom$Schedule", rfl, by decide, (q_up_r69 14 rfl), Or.inl rfl, Or.inl ⟨rfl, rfl⟩⟩
theorem qE_X11_232 : q_kok qT qTX RX11 (651, 1, 182, 1, 12) := by
  unfold q_kok
  exact ⟨qM_X11_lastIsOpen, (RX11, TX11, 18), rfl, rfl, rfl, rfl, (q_up_r69 19 rfl), (q_up_r69 20 rfl), (q_up_r69 21 rfl), ⟨by decide +kernel, ⟨by decide +kernel, by decide +kernel⟩, (q_up_r1 2 rfl)⟩⟩
theorem qE_X11_233 : q_kok qT qTX RX11 (655, 0, 8, 8, 0) := by
  unfold q_kok
  exact ⟨(RX7, TX7, 9), "DurableLoom$Schedule", rfl, by decide, (q_up_r69 15 rfl), Or.inl rfl, Or.inl ⟨rfl, rfl⟩⟩
theorem qE_X11_234 : q_kok qT qTX RX11 (658, 1, 183, 2, 12) := by
  unfold q_kok
  exact ⟨qM_X11_startFor, (RX11, TX11, 18), rfl, rfl, rfl, rfl, (q_up_r70 0 rfl), (q_up_r70 1 rfl), (q_up_r70 2 rfl), ⟨by decide +kernel, ⟨by decide +kernel, by decide +kernel⟩, (q_up_r1 2 rfl)⟩⟩
theorem qE_X11_235 : q_kok qT qTX RX11 (662, 0, 8, 4, 0) := by
  unfold q_kok
  exact ⟨(RX7, TX7, 9), "DurableLoom$Schedule", rfl, by decide, (q_up_r69 16 rfl), Or.inl rfl, Or.inl ⟨rfl, rfl⟩⟩
theorem qE_X11_236 : q_kok qT qTX RX11 (665, 1, 74, 1, 8) := by
  unfold q_kok
  exact ⟨qM_X7_isPoint, (RX7, TX7, 9), rfl, rfl, rfl, rfl, (q_up_r70 6 rfl), (q_up_r70 7 rfl), (q_up_r70 8 rfl), ⟨by decide +kernel, ⟨by decide +kernel, by decide +kernel⟩, (q_up_r70 9 rfl)⟩⟩
theorem qE_X11_237 : q_kok qT qTX RX11 (668, 1, 181, 2, 12) := by
  unfold q_kok
  exact ⟨qM_X11_meetPoint, (RX11, TX11, 18), rfl, rfl, rfl, rfl, (q_up_r70 13 rfl), (q_up_r70 14 rfl), (q_up_r70 15 rfl), ⟨by decide +kernel, ⟨by decide +kernel, by decide +kernel⟩, (q_up_r1 2 rfl)⟩⟩
theorem qE_X11_238 : q_kok qT qTX RX11 (671, 0, 8, 3, 2) := by
  unfold q_kok
  exact ⟨(RX7, TX7, 9), "DurableLoom$Schedule", rfl, by decide, (q_up_r70 17 rfl), Or.inl rfl, Or.inr (Or.inr rfl)⟩
theorem qE_X11_239 : q_kok qT qTX RX11 (674, 0, 8, 6, 0) := by
  unfold q_kok
  exact ⟨(RX7, TX7, 9), "DurableLoom$Schedule", rfl, by decide, (q_up_r69 23 rfl), Or.inl rfl, Or.inl ⟨rfl, rfl⟩⟩
theorem qE_X0_0 : q_kok qT qTX RX0 (1, 4, 0, 0, 0) := by
  unfold q_kok
  exact ⟨(q_up_r58 20 rfl), (q_up_r1 11 rfl), (q_up_r1 12 rfl)⟩
theorem qE_X0_1 : q_kok qT qTX RX0 (9, 0, 1, 5, 0) := by
  unfold q_kok
  exact ⟨(RX0, TX0, 11), "DurableLoom$Activity", rfl, by decide, (q_up_r58 21 rfl), Or.inl rfl, Or.inl ⟨rfl, rfl⟩⟩
theorem qE_X0_2 : q_kok qT qTX RX0 (13, 0, 1, 6, 0) := by
  unfold q_kok
  exact ⟨(RX0, TX0, 11), "DurableLoom$Activity", rfl, by decide, (q_up_r58 22 rfl), Or.inl rfl, Or.inl ⟨rfl, rfl⟩⟩
theorem qE_X0_3 : q_kok qT qTX RX0 (16, 0, 1, 7, 0) := by
  unfold q_kok
  exact ⟨(RX0, TX0, 11), "DurableLoom$Activity", rfl, by decide, (q_up_r58 23 rfl), Or.inl rfl, Or.inl ⟨rfl, rfl⟩⟩
theorem qE_X0_4 : q_kok qT qTX RX0 (19, 0, 1, 8, 0) := by
  unfold q_kok
  exact ⟨(RX0, TX0, 11), "DurableLoom$Activity", rfl, by decide, (q_up_r59 0 rfl), Or.inl rfl, Or.inl ⟨rfl, rfl⟩⟩
theorem qE_X0_5 : q_kok qT qTX RX0 (22, 0, 1, 9, 0) := by
  unfold q_kok
  exact ⟨(RX0, TX0, 11), "DurableLoom$Activity", rfl, by decide, (q_up_r59 1 rfl), Or.inl rfl, Or.inl ⟨rfl, rfl⟩⟩
theorem qE_X0_6 : q_kok qT qTX RX0 (25, 0, 1, 10, 0) := by
  unfold q_kok
  exact ⟨(RX0, TX0, 11), "DurableLoom$Activity", rfl, by decide, (q_up_r59 2 rfl), Or.inl rfl, Or.inl ⟨rfl, rfl⟩⟩
theorem qE_X0_7 : q_kok qT qTX RX0 (28, 0, 1, 0, 1) := by
  unfold q_kok
  exact ⟨(RX0, TX0, 11), "DurableLoom$Activity", rfl, by decide, (q_up_r59 3 rfl), Or.inl rfl, Or.inr (Or.inl ⟨rfl, rfl, rfl⟩)⟩
theorem qE_X0_8 : q_kok qT qTX RX0 (32, 0, 1, 1, 1) := by
  unfold q_kok
  exact ⟨(RX0, TX0, 11), "DurableLoom$Activity", rfl, by decide, (q_up_r59 4 rfl), Or.inl rfl, Or.inr (Or.inl ⟨rfl, rfl, rfl⟩)⟩
theorem qE_X0_9 : q_kok qT qTX RX0 (35, 0, 1, 2, 1) := by
  unfold q_kok
  exact ⟨(RX0, TX0, 11), "DurableLoom$Activity", rfl, by decide, (q_up_r59 5 rfl), Or.inl rfl, Or.inr (Or.inl ⟨rfl, rfl, rfl⟩)⟩
theorem qE_X0_10 : q_kok qT qTX RX0 (38, 0, 1, 3, 1) := by
  unfold q_kok
  exact ⟨(RX0, TX0, 11), "DurableLoom$Activity", rfl, by decide, (q_up_r59 6 rfl), Or.inl rfl, Or.inr (Or.inl ⟨rfl, rfl, rfl⟩)⟩
theorem qE_X0_11 : q_kok qT qTX RX0 (41, 0, 1, 4, 1) := by
  unfold q_kok
  exact ⟨(RX0, TX0, 11), "DurableLoom$Activity", rfl, by decide, (q_up_r59 7 rfl), Or.inl rfl, Or.inr (Or.inl ⟨rfl, rfl, rfl⟩)⟩
theorem qE_X1_0 : q_kok qT qTX RX1 (1, 4, 0, 0, 0) := by
  unfold q_kok
  exact ⟨(q_up_r5 19 rfl), (q_up_r1 11 rfl), (q_up_r1 12 rfl)⟩
theorem qE_X1_1 : q_kok qT qTX RX1 (7, 0, 2, 0, 0) := by
  unfold q_kok
  exact ⟨(RX1, TX1, 11), "DurableLoom$Branch", rfl, by decide, (q_up_r5 20 rfl), Or.inl rfl, Or.inl ⟨rfl, rfl⟩⟩
theorem qE_X1_2 : q_kok qT qTX RX1 (13, 0, 2, 1, 0) := by
  unfold q_kok
  exact ⟨(RX1, TX1, 11), "DurableLoom$Branch", rfl, by decide, (q_up_r5 21 rfl), Or.inl rfl, Or.inl ⟨rfl, rfl⟩⟩
theorem qE_X1_3 : q_kok qT qTX RX1 (16, 0, 2, 2, 0) := by
  unfold q_kok
  exact ⟨(RX1, TX1, 11), "DurableLoom$Branch", rfl, by decide, (q_up_r5 22 rfl), Or.inl rfl, Or.inl ⟨rfl, rfl⟩⟩
theorem qE_X1_4 : q_kok qT qTX RX1 (19, 0, 2, 3, 0) := by
  unfold q_kok
  exact ⟨(RX1, TX1, 11), "DurableLoom$Branch", rfl, by decide, (q_up_r5 23 rfl), Or.inl rfl, Or.inl ⟨rfl, rfl⟩⟩
theorem qE_X1_5 : q_kok qT qTX RX1 (22, 0, 2, 4, 0) := by
  unfold q_kok
  exact ⟨(RX1, TX1, 11), "DurableLoom$Branch", rfl, by decide, (q_up_r6 0 rfl), Or.inl rfl, Or.inl ⟨rfl, rfl⟩⟩
theorem qE_X1_6 : q_kok qT qTX RX1 (25, 0, 2, 5, 0) := by
  unfold q_kok
  exact ⟨(RX1, TX1, 11), "DurableLoom$Branch", rfl, by decide, (q_up_r6 1 rfl), Or.inl rfl, Or.inl ⟨rfl, rfl⟩⟩
theorem qE_X1_7 : q_kok qT qTX RX1 (28, 0, 2, 6, 0) := by
  unfold q_kok
  exact ⟨(RX1, TX1, 11), "DurableLoom$Branch", rfl, by decide, (q_up_r6 2 rfl), Or.inl rfl, Or.inl ⟨rfl, rfl⟩⟩
theorem qE_X1_8 : q_kok qT qTX RX1 (32, 0, 2, 7, 0) := by
  unfold q_kok
  exact ⟨(RX1, TX1, 11), "DurableLoom$Branch", rfl, by decide, (q_up_r6 3 rfl), Or.inl rfl, Or.inl ⟨rfl, rfl⟩⟩
theorem qE_X1_9 : q_kok qT qTX RX1 (35, 0, 2, 8, 0) := by
  unfold q_kok
  exact ⟨(RX1, TX1, 11), "DurableLoom$Branch", rfl, by decide, (q_up_r6 4 rfl), Or.inl rfl, Or.inl ⟨rfl, rfl⟩⟩
theorem qE_X1_10 : q_kok qT qTX RX1 (38, 0, 2, 9, 0) := by
  unfold q_kok
  exact ⟨(RX1, TX1, 11), "DurableLoom$Branch", rfl, by decide, (q_up_r6 5 rfl), Or.inl rfl, Or.inl ⟨rfl, rfl⟩⟩
theorem qE_X1_11 : q_kok qT qTX RX1 (41, 0, 2, 10, 0) := by
  unfold q_kok
  exact ⟨(RX1, TX1, 11), "DurableLoom$Branch", rfl, by decide, (q_up_r6 6 rfl), Or.inl rfl, Or.inl ⟨rfl, rfl⟩⟩
theorem qE_X1_12 : q_kok qT qTX RX1 (44, 2, 319, 2, 0) := by
  unfold q_kok
  exact ⟨qM_J9_max_7cf53, rfl, (q_up_r39 1 rfl), (q_up_r15 17 rfl), ⟨by decide +kernel, ⟨by decide +kernel, by decide +kernel⟩, (q_up_r15 18 rfl)⟩⟩
theorem qE_X2_0 : q_kok qT qTX RX2 (3, 4, 0, 0, 0) := by
  unfold q_kok
  exact ⟨(q_up_r6 10 rfl), (q_up_r1 11 rfl), (q_up_r1 12 rfl)⟩
theorem qE_X2_1 : q_kok qT qTX RX2 (9, 0, 3, 1, 0) := by
  unfold q_kok
  exact ⟨(RX2, TX2, 5), "DurableLoom$History", rfl, by decide, (q_up_r6 11 rfl), Or.inl rfl, Or.inl ⟨rfl, rfl⟩⟩
theorem qE_X2_2 : q_kok qT qTX RX2 (13, 0, 3, 2, 0) := by
  unfold q_kok
  exact ⟨(RX2, TX2, 5), "DurableLoom$History", rfl, by decide, (q_up_r6 12 rfl), Or.inl rfl, Or.inl ⟨rfl, rfl⟩⟩
theorem qE_X2_3 : q_kok qT qTX RX2 (16, 0, 3, 3, 0) := by
  unfold q_kok
  exact ⟨(RX2, TX2, 5), "DurableLoom$History", rfl, by decide, (q_up_r6 13 rfl), Or.inl rfl, Or.inl ⟨rfl, rfl⟩⟩
theorem qE_X2_4 : q_kok qT qTX RX2 (19, 0, 3, 4, 0) := by
  unfold q_kok
  exact ⟨(RX2, TX2, 5), "DurableLoom$History", rfl, by decide, (q_up_r6 14 rfl), Or.inl rfl, Or.inl ⟨rfl, rfl⟩⟩
theorem qE_X2_5 : q_kok qT qTX RX2 (22, 0, 3, 0, 1) := by
  unfold q_kok
  exact ⟨(RX2, TX2, 5), "DurableLoom$History", rfl, by decide, (q_up_r6 15 rfl), Or.inl rfl, Or.inr (Or.inl ⟨rfl, rfl, rfl⟩)⟩
theorem qE_X2_6 : q_kok qT qTX RX2 (26, 1, 58, 1, 6) := by
  unfold q_kok
  exact ⟨qM_X5_wide, (RX5, TX5, 3), rfl, rfl, rfl, rfl, (q_up_r28 12 rfl), (q_up_r28 13 rfl), (q_up_r28 14 rfl), ⟨by decide +kernel, ⟨by decide +kernel, by decide +kernel⟩, (q_up_r2 6 rfl)⟩⟩
theorem qE_X2_7 : q_kok qT qTX RX2 (32, 7, 524287, 0, 0) := by
  unfold q_kok
  exact (q_up_r21 15 rfl)
theorem qE_X2_8 : q_kok qT qTX RX2 (33, 7, 1073741823, 0, 0) := by
  unfold q_kok
  exact (q_up_r21 16 rfl)
theorem qE_X2_9 : q_kok qT qTX RX2 (34, 7, 1048575, 0, 0) := by
  unfold q_kok
  exact (q_up_r21 14 rfl)
theorem qE_X2_10 : q_kok qT qTX RX2 (35, 1, 60, 1, 6) := by
  unfold q_kok
  exact ⟨qM_X5_add, (RX5, TX5, 3), rfl, rfl, rfl, rfl, (q_up_r21 18 rfl), (q_up_r12 22 rfl), (q_up_r12 23 rfl), ⟨by decide +kernel, ⟨by decide +kernel, by decide +kernel⟩, (q_up_r2 6 rfl)⟩⟩
theorem qE_X2_11 : q_kok qT qTX RX2 (39, 0, 6, 2, 0) := by
  unfold q_kok
  exact ⟨(RX5, TX5, 3), "DurableLoom$Row", rfl, by decide, (q_up_r21 17 rfl), Or.inl rfl, Or.inl ⟨rfl, rfl⟩⟩
theorem qE_X2_12 : q_kok qT qTX RX2 (40, 1, 63, 1, 6) := by
  unfold q_kok
  exact ⟨qM_X5_cut, (RX5, TX5, 3), rfl, rfl, rfl, rfl, (q_up_r28 3 rfl), (q_up_r27 9 rfl), (q_up_r27 10 rfl), ⟨by decide +kernel, ⟨by decide +kernel, by decide +kernel⟩, (q_up_r2 6 rfl)⟩⟩
theorem qE_X2_13 : q_kok qT qTX RX2 (44, 1, 18, 0, 3) := by
  unfold q_kok
  exact ⟨qM_X2_countAgain, (RX2, TX2, 5), rfl, rfl, rfl, rfl, (q_up_r28 4 rfl), (q_up_r28 5 rfl), (q_up_r28 6 rfl), ⟨by decide +kernel, ⟨by decide +kernel, by decide +kernel⟩, (q_up_r4 6 rfl)⟩⟩
theorem qE_X2_14 : q_kok qT qTX RX2 (47, 1, 64, 2, 6) := by
  unfold q_kok
  exact ⟨qM_X5_becomeFirst, (RX5, TX5, 3), rfl, rfl, rfl, rfl, (q_up_r74 4 rfl), (q_up_r74 5 rfl), (q_up_r74 6 rfl), ⟨by decide +kernel, ⟨by decide +kernel, by decide +kernel⟩, (q_up_r2 6 rfl)⟩⟩
theorem qE_X2_15 : q_kok qT qTX RX2 (51, 1, 9, 1, 3) := by
  unfold q_kok
  exact ⟨qM_X2_kind, (RX2, TX2, 5), rfl, rfl, rfl, rfl, (q_up_r28 8 rfl), (q_up_r28 9 rfl), (q_up_r28 10 rfl), ⟨by decide +kernel, ⟨by decide +kernel, by decide +kernel⟩, (q_up_r4 6 rfl)⟩⟩
theorem qE_X2_16 : q_kok qT qTX RX2 (55, 1, 10, 1, 3) := by
  unfold q_kok
  exact ⟨qM_X2_x, (RX2, TX2, 5), rfl, rfl, rfl, rfl, (q_up_r28 16 rfl), (q_up_r28 17 rfl), (q_up_r28 18 rfl), ⟨by decide +kernel, ⟨by decide +kernel, by decide +kernel⟩, (q_up_r4 6 rfl)⟩⟩
theorem qE_X2_17 : q_kok qT qTX RX2 (58, 2, 319, 2, 0) := by
  unfold q_kok
  exact ⟨qM_J9_max_7cf53, rfl, (q_up_r29 5 rfl), (q_up_r15 17 rfl), ⟨by decide +kernel, ⟨by decide +kernel, by decide +kernel⟩, (q_up_r15 18 rfl)⟩⟩
theorem qE_X2_18 : q_kok qT qTX RX2 (64, 8, 7, 0, 0) := by
  unfold q_kok
  exact (q_up_r29 6 rfl)
theorem qE_X2_19 : q_kok qT qTX RX2 (66, 8, 17, 0, 0) := by
  unfold q_kok
  exact (q_up_r31 14 rfl)
theorem qE_X2_20 : q_kok qT qTX RX2 (68, 1, 25, 0, 3) := by
  unfold q_kok
  exact ⟨qM_X2_firstNew, (RX2, TX2, 5), rfl, rfl, rfl, rfl, (q_up_r39 11 rfl), (q_up_r39 12 rfl), (q_up_r39 13 rfl), ⟨by decide +kernel, ⟨by decide +kernel, by decide +kernel⟩, (q_up_r4 6 rfl)⟩⟩
theorem qE_X3_0 : q_kok qT qTX RX3 (1, 4, 0, 0, 0) := by
  unfold q_kok
  exact ⟨(q_up_r7 3 rfl), (q_up_r1 11 rfl), (q_up_r1 12 rfl)⟩
theorem qE_X3_1 : q_kok qT qTX RX3 (7, 0, 4, 0, 0) := by
  unfold q_kok
  exact ⟨(RX3, TX3, 5), "DurableLoom$Kind", rfl, by decide, (q_up_r7 4 rfl), Or.inl rfl, Or.inl ⟨rfl, rfl⟩⟩
theorem qE_X3_2 : q_kok qT qTX RX3 (13, 0, 4, 1, 0) := by
  unfold q_kok
  exact ⟨(RX3, TX3, 5), "DurableLoom$Kind", rfl, by decide, (q_up_r7 5 rfl), Or.inl rfl, Or.inl ⟨rfl, rfl⟩⟩
theorem qE_X3_3 : q_kok qT qTX RX3 (16, 0, 4, 2, 0) := by
  unfold q_kok
  exact ⟨(RX3, TX3, 5), "DurableLoom$Kind", rfl, by decide, (q_up_r7 6 rfl), Or.inl rfl, Or.inl ⟨rfl, rfl⟩⟩
theorem qE_X3_4 : q_kok qT qTX RX3 (19, 0, 4, 3, 0) := by
  unfold q_kok
  exact ⟨(RX3, TX3, 5), "DurableLoom$Kind", rfl, by decide, (q_up_r7 7 rfl), Or.inl rfl, Or.inl ⟨rfl, rfl⟩⟩
theorem qE_X3_5 : q_kok qT qTX RX3 (22, 0, 4, 4, 0) := by
  unfold q_kok
  exact ⟨(RX3, TX3, 5), "DurableLoom$Kind", rfl, by decide, (q_up_r7 8 rfl), Or.inl rfl, Or.inl ⟨rfl, rfl⟩⟩
theorem qE_X4_0 : q_kok qT qTX RX4 (1, 4, 0, 0, 0) := by
  unfold q_kok
  exact ⟨(q_up_r3 23 rfl), (q_up_r1 11 rfl), (q_up_r1 12 rfl)⟩
theorem qE_X4_1 : q_kok qT qTX RX4 (7, 5, 9, 14, 0) := by
  unfold q_kok
  exact ⟨(RX8, TX8, 14), rfl, rfl, (q_up_r4 0 rfl), (q_up_r4 1 rfl), (q_up_r4 2 rfl)⟩
theorem qE_X4_2 : q_kok qT qTX RX4 (9, 3, 76, 0, 0) := by
  unfold q_kok
  exact ⟨qM_X8_init, rfl, rfl, rfl, rfl, (q_up_r4 19 rfl), (q_up_r4 20 rfl), ⟨by decide +kernel, ⟨by decide +kernel, by decide +kernel⟩, (q_up_r4 2 rfl)⟩⟩
theorem qE_X4_3 : q_kok qT qTX RX4 (10, 0, 5, 0, 1) := by
  unfold q_kok
  exact ⟨(RX4, TX4, 12), "DurableLoom$Machine", rfl, by decide, (q_up_r4 3 rfl), Or.inl rfl, Or.inr (Or.inl ⟨rfl, rfl, rfl⟩)⟩
theorem qE_X4_4 : q_kok qT qTX RX4 (16, 5, 3, 5, 0) := by
  unfold q_kok
  exact ⟨(RX2, TX2, 5), rfl, rfl, (q_up_r4 4 rfl), (q_up_r4 5 rfl), (q_up_r4 6 rfl)⟩
theorem qE_X4_5 : q_kok qT qTX RX4 (18, 5, 6, 3, 0) := by
  unfold q_kok
  exact ⟨(RX5, TX5, 3), rfl, rfl, (q_up_r4 7 rfl), (q_up_r2 5 rfl), (q_up_r2 6 rfl)⟩
theorem qE_X4_6 : q_kok qT qTX RX4 (20, 15, 57, 0, 0) := by
  unfold q_kok
  exact ⟨qM_X5_init, rfl, rfl, rfl, rfl, List.mem_of_getElem? (i := 4) rfl, (q_up_r3 14 rfl), ⟨by decide +kernel, ⟨by decide +kernel, by decide +kernel⟩, (q_up_r2 6 rfl)⟩⟩
theorem qE_X4_7 : q_kok qT qTX RX4 (21, 3, 8, 1, 0) := by
  unfold q_kok
  exact ⟨qM_X2_init, rfl, rfl, rfl, rfl, (q_up_r6 7 rfl), (q_up_r6 8 rfl), ⟨by decide +kernel, ⟨by decide +kernel, by decide +kernel⟩, (q_up_r4 6 rfl)⟩⟩
theorem qE_X4_8 : q_kok qT qTX RX4 (24, 0, 5, 1, 1) := by
  unfold q_kok
  exact ⟨(RX4, TX4, 12), "DurableLoom$Machine", rfl, by decide, (q_up_r4 8 rfl), Or.inl rfl, Or.inr (Or.inl ⟨rfl, rfl, rfl⟩)⟩
theorem qE_X4_9 : q_kok qT qTX RX4 (28, 0, 5, 2, 0) := by
  unfold q_kok
  exact ⟨(RX4, TX4, 12), "DurableLoom$Machine", rfl, by decide, (q_up_r4 9 rfl), Or.inl rfl, Or.inl ⟨rfl, rfl⟩⟩
theorem qE_X4_10 : q_kok qT qTX RX4 (31, 0, 5, 3, 0) := by
  unfold q_kok
  exact ⟨(RX4, TX4, 12), "DurableLoom$Machine", rfl, by decide, (q_up_r4 10 rfl), Or.inl rfl, Or.inl ⟨rfl, rfl⟩⟩
theorem qE_X4_11 : q_kok qT qTX RX4 (35, 0, 5, 4, 0) := by
  unfold q_kok
  exact ⟨(RX4, TX4, 12), "DurableLoom$Machine", rfl, by decide, (q_up_r4 11 rfl), Or.inl rfl, Or.inl ⟨rfl, rfl⟩⟩
theorem qE_X4_12 : q_kok qT qTX RX4 (39, 0, 5, 5, 0) := by
  unfold q_kok
  exact ⟨(RX4, TX4, 12), "DurableLoom$Machine", rfl, by decide, (q_up_r4 12 rfl), Or.inl rfl, Or.inl ⟨rfl, rfl⟩⟩
theorem qE_X4_13 : q_kok qT qTX RX4 (42, 0, 5, 6, 0) := by
  unfold q_kok
  exact ⟨(RX4, TX4, 12), "DurableLoom$Machine", rfl, by decide, (q_up_r4 13 rfl), Or.inl rfl, Or.inl ⟨rfl, rfl⟩⟩
theorem qE_X4_14 : q_kok qT qTX RX4 (45, 0, 5, 7, 0) := by
  unfold q_kok
  exact ⟨(RX4, TX4, 12), "DurableLoom$Machine", rfl, by decide, (q_up_r4 14 rfl), Or.inl rfl, Or.inl ⟨rfl, rfl⟩⟩
theorem qE_X4_15 : q_kok qT qTX RX4 (49, 0, 5, 8, 0) := by
  unfold q_kok
  exact ⟨(RX4, TX4, 12), "DurableLoom$Machine", rfl, by decide, (q_up_r4 15 rfl), Or.inl rfl, Or.inl ⟨rfl, rfl⟩⟩
theorem qE_X4_16 : q_kok qT qTX RX4 (52, 0, 5, 9, 0) := by
  unfold q_kok
  exact ⟨(RX4, TX4, 12), "DurableLoom$Machine", rfl, by decide, (q_up_r4 16 rfl), Or.inl rfl, Or.inl ⟨rfl, rfl⟩⟩
theorem qE_X4_17 : q_kok qT qTX RX4 (55, 0, 5, 10, 0) := by
  unfold q_kok
  exact ⟨(RX4, TX4, 12), "DurableLoom$Machine", rfl, by decide, (q_up_r4 17 rfl), Or.inl rfl, Or.inl ⟨rfl, rfl⟩⟩
theorem qE_X4_18 : q_kok qT qTX RX4 (59, 0, 5, 11, 0) := by
  unfold q_kok
  exact ⟨(RX4, TX4, 12), "DurableLoom$Machine", rfl, by decide, (q_up_r4 18 rfl), Or.inl rfl, Or.inl ⟨rfl, rfl⟩⟩
theorem qE_X4_19 : q_kok qT qTX RX4 (62, 1, 31, 3, 5) := by
  unfold q_kok
  exact ⟨qM_X4_load, (RX4, TX4, 12), rfl, rfl, rfl, rfl, (q_up_r26 18 rfl), (q_up_r26 19 rfl), (q_up_r26 20 rfl), ⟨by decide +kernel, ⟨by decide +kernel, by decide +kernel⟩, (q_up_r2 10 rfl)⟩⟩
theorem qE_X4_20 : q_kok qT qTX RX4 (66, 0, 9, 10, 0) := by
  unfold q_kok
  exact ⟨(RX8, TX8, 14), "DurableLoom$State", rfl, by decide, (q_up_r26 15 rfl), Or.inl rfl, Or.inl ⟨rfl, rfl⟩⟩
theorem qE_X4_21 : q_kok qT qTX RX4 (69, 1, 33, 0, 5) := by
  unfold q_kok
  exact ⟨qM_X4_goes, (RX4, TX4, 12), rfl, rfl, rfl, rfl, (q_up_r28 20 rfl), (q_up_r28 21 rfl), (q_up_r28 22 rfl), ⟨by decide +kernel, ⟨by decide +kernel, by decide +kernel⟩, (q_up_r2 10 rfl)⟩⟩
theorem qE_X4_22 : q_kok qT qTX RX4 (73, 0, 9, 11, 0) := by
  unfold q_kok
  exact ⟨(RX8, TX8, 14), "DurableLoom$State", rfl, by decide, (q_up_r26 16 rfl), Or.inl rfl, Or.inl ⟨rfl, rfl⟩⟩
theorem qE_X4_23 : q_kok qT qTX RX4 (76, 1, 21, 1, 3) := by
  unfold q_kok
  exact ⟨qM_X2_nextArrival, (RX2, TX2, 5), rfl, rfl, rfl, rfl, (q_up_r29 1 rfl), (q_up_r29 2 rfl), (q_up_r29 3 rfl), ⟨by decide +kernel, ⟨by decide +kernel, by decide +kernel⟩, (q_up_r4 6 rfl)⟩⟩
theorem qE_X4_24 : q_kok qT qTX RX4 (80, 0, 3, 1, 0) := by
  unfold q_kok
  exact ⟨(RX2, TX2, 5), "DurableLoom$History", rfl, by decide, (q_up_r26 17 rfl), Or.inl rfl, Or.inl ⟨rfl, rfl⟩⟩
theorem qE_X4_25 : q_kok qT qTX RX4 (83, 1, 9, 1, 3) := by
  unfold q_kok
  exact ⟨qM_X2_kind, (RX2, TX2, 5), rfl, rfl, rfl, rfl, (q_up_r29 7 rfl), (q_up_r28 9 rfl), (q_up_r28 10 rfl), ⟨by decide +kernel, ⟨by decide +kernel, by decide +kernel⟩, (q_up_r4 6 rfl)⟩⟩
theorem qE_X4_26 : q_kok qT qTX RX4 (86, 1, 10, 1, 3) := by
  unfold q_kok
  exact ⟨qM_X2_x, (RX2, TX2, 5), rfl, rfl, rfl, rfl, (q_up_r29 8 rfl), (q_up_r28 17 rfl), (q_up_r28 18 rfl), ⟨by decide +kernel, ⟨by decide +kernel, by decide +kernel⟩, (q_up_r4 6 rfl)⟩⟩
theorem qE_X4_27 : q_kok qT qTX RX4 (89, 1, 11, 1, 3) := by
  unfold q_kok
  exact ⟨qM_X2_y, (RX2, TX2, 5), rfl, rfl, rfl, rfl, (q_up_r29 9 rfl), (q_up_r29 10 rfl), (q_up_r29 11 rfl), ⟨by decide +kernel, ⟨by decide +kernel, by decide +kernel⟩, (q_up_r4 6 rfl)⟩⟩
theorem qE_X4_28 : q_kok qT qTX RX4 (92, 1, 38, 3, 5) := by
  unfold q_kok
  exact ⟨qM_X4_note, (RX4, TX4, 12), rfl, rfl, rfl, rfl, (q_up_r29 13 rfl), (q_up_r29 14 rfl), (q_up_r29 15 rfl), ⟨by decide +kernel, ⟨by decide +kernel, by decide +kernel⟩, (q_up_r2 10 rfl)⟩⟩
theorem qE_X4_29 : q_kok qT qTX RX4 (96, 1, 45, 0, 5) := by
  unfold q_kok
  exact ⟨qM_X4_goOn, (RX4, TX4, 12), rfl, rfl, rfl, rfl, (q_up_r34 0 rfl), (q_up_r34 1 rfl), (q_up_r34 2 rfl), ⟨by decide +kernel, ⟨by decide +kernel, by decide +kernel⟩, (q_up_r2 10 rfl)⟩⟩
theorem qE_X4_30 : q_kok qT qTX RX4 (99, 1, 35, 0, 5) := by
  unfold q_kok
  exact ⟨qM_X4_passTasks, (RX4, TX4, 12), rfl, rfl, rfl, rfl, (q_up_r39 2 rfl), (q_up_r39 3 rfl), (q_up_r39 4 rfl), ⟨by decide +kernel, ⟨by decide +kernel, by decide +kernel⟩, (q_up_r2 10 rfl)⟩⟩
theorem qE_X4_31 : q_kok qT qTX RX4 (102, 0, 7, 16, 2) := by
  unfold q_kok
  exact ⟨(RX6, TX6, 20), "DurableLoom$Run", rfl, by decide, (q_up_r26 22 rfl), Or.inl rfl, Or.inr (Or.inr rfl)⟩
theorem qE_X4_32 : q_kok qT qTX RX4 (105, 0, 7, 14, 0) := by
  unfold q_kok
  exact ⟨(RX6, TX6, 20), "DurableLoom$Run", rfl, by decide, (q_up_r26 23 rfl), Or.inl rfl, Or.inl ⟨rfl, rfl⟩⟩
theorem qE_X4_33 : q_kok qT qTX RX4 (106, 0, 7, 15, 0) := by
  unfold q_kok
  exact ⟨(RX6, TX6, 20), "DurableLoom$Run", rfl, by decide, (q_up_r27 0 rfl), Or.inl rfl, Or.inl ⟨rfl, rfl⟩⟩
theorem qE_X4_34 : q_kok qT qTX RX4 (107, 1, 77, 0, 9) := by
  unfold q_kok
  exact ⟨qM_X8_clear, (RX8, TX8, 14), rfl, rfl, rfl, rfl, (q_up_r27 1 rfl), (q_up_r27 2 rfl), (q_up_r27 3 rfl), ⟨by decide +kernel, ⟨by decide +kernel, by decide +kernel⟩, (q_up_r4 2 rfl)⟩⟩
theorem qE_X4_35 : q_kok qT qTX RX4 (110, 1, 16, 1, 3) := by
  unfold q_kok
  exact ⟨qM_X2_cut, (RX2, TX2, 5), rfl, rfl, rfl, rfl, (q_up_r27 23 rfl), (q_up_r28 0 rfl), (q_up_r28 1 rfl), ⟨by decide +kernel, ⟨by decide +kernel, by decide +kernel⟩, (q_up_r4 6 rfl)⟩⟩
theorem qE_X4_36 : q_kok qT qTX RX4 (114, 0, 9, 12, 0) := by
  unfold q_kok
  exact ⟨(RX8, TX8, 14), "DurableLoom$State", rfl, by decide, (q_up_r31 8 rfl), Or.inl rfl, Or.inl ⟨rfl, rfl⟩⟩
theorem qE_X4_37 : q_kok qT qTX RX4 (117, 0, 9, 13, 0) := by
  unfold q_kok
  exact ⟨(RX8, TX8, 14), "DurableLoom$State", rfl, by decide, (q_up_r39 6 rfl), Or.inl rfl, Or.inl ⟨rfl, rfl⟩⟩
theorem qE_X4_38 : q_kok qT qTX RX4 (120, 0, 9, 9, 0) := by
  unfold q_kok
  exact ⟨(RX8, TX8, 14), "DurableLoom$State", rfl, by decide, (q_up_r29 0 rfl), Or.inl rfl, Or.inl ⟨rfl, rfl⟩⟩
theorem qE_X4_39 : q_kok qT qTX RX4 (123, 1, 22, 1, 3) := by
  unfold q_kok
  exact ⟨qM_X2_nextCommand, (RX2, TX2, 5), rfl, rfl, rfl, rfl, (q_up_r31 10 rfl), (q_up_r31 11 rfl), (q_up_r31 12 rfl), ⟨by decide +kernel, ⟨by decide +kernel, by decide +kernel⟩, (q_up_r4 6 rfl)⟩⟩
theorem qE_X4_40 : q_kok qT qTX RX4 (126, 1, 34, 1, 5) := by
  unfold q_kok
  exact ⟨qM_X4_getStuck, (RX4, TX4, 12), rfl, rfl, rfl, rfl, (q_up_r31 23 rfl), (q_up_r32 0 rfl), (q_up_r32 1 rfl), ⟨by decide +kernel, ⟨by decide +kernel, by decide +kernel⟩, (q_up_r2 10 rfl)⟩⟩
theorem qE_X4_41 : q_kok qT qTX RX4 (129, 1, 82, 2, 9) := by
  unfold q_kok
  exact ⟨qM_X8_set, (RX8, TX8, 14), rfl, rfl, rfl, rfl, (q_up_r29 18 rfl), (q_up_r29 19 rfl), (q_up_r29 20 rfl), ⟨by decide +kernel, ⟨by decide +kernel, by decide +kernel⟩, (q_up_r4 2 rfl)⟩⟩
theorem qE_X4_42 : q_kok qT qTX RX4 (133, 1, 86, 2, 9) := by
  unfold q_kok
  exact ⟨qM_X8_beginBranch, (RX8, TX8, 14), rfl, rfl, rfl, rfl, (q_up_r29 22 rfl), (q_up_r29 23 rfl), (q_up_r30 0 rfl), ⟨by decide +kernel, ⟨by decide +kernel, by decide +kernel⟩, (q_up_r4 2 rfl)⟩⟩
theorem qE_X4_43 : q_kok qT qTX RX4 (137, 1, 83, 1, 9) := by
  unfold q_kok
  exact ⟨qM_X8_queue, (RX8, TX8, 14), rfl, rfl, rfl, rfl, (q_up_r30 6 rfl), (q_up_r30 7 rfl), (q_up_r30 8 rfl), ⟨by decide +kernel, ⟨by decide +kernel, by decide +kernel⟩, (q_up_r4 2 rfl)⟩⟩
theorem qE_X4_44 : q_kok qT qTX RX4 (141, 1, 60, 1, 6) := by
  unfold q_kok
  exact ⟨qM_X5_add, (RX5, TX5, 3), rfl, rfl, rfl, rfl, (q_up_r30 11 rfl), (q_up_r12 22 rfl), (q_up_r12 23 rfl), ⟨by decide +kernel, ⟨by decide +kernel, by decide +kernel⟩, (q_up_r2 6 rfl)⟩⟩
theorem qE_X4_45 : q_kok qT qTX RX4 (145, 0, 9, 8, 0) := by
  unfold q_kok
  exact ⟨(RX8, TX8, 14), "DurableLoom$State", rfl, by decide, (q_up_r29 17 rfl), Or.inl rfl, Or.inl ⟨rfl, rfl⟩⟩
theorem qE_X4_46 : q_kok qT qTX RX4 (148, 1, 41, 0, 5) := by
  unfold q_kok
  exact ⟨qM_X4_tellCancel, (RX4, TX4, 12), rfl, rfl, rfl, rfl, (q_up_r30 12 rfl), (q_up_r30 13 rfl), (q_up_r30 14 rfl), ⟨by decide +kernel, ⟨by decide +kernel, by decide +kernel⟩, (q_up_r2 10 rfl)⟩⟩
theorem qE_X4_47 : q_kok qT qTX RX4 (151, 1, 91, 1, 9) := by
  unfold q_kok
  exact ⟨qM_X8_waiterFor, (RX8, TX8, 14), rfl, rfl, rfl, rfl, (q_up_r33 4 rfl), (q_up_r33 5 rfl), (q_up_r33 6 rfl), ⟨by decide +kernel, ⟨by decide +kernel, by decide +kernel⟩, (q_up_r4 2 rfl)⟩⟩
theorem qE_X4_48 : q_kok qT qTX RX4 (155, 1, 40, 1, 5) := by
  unfold q_kok
  exact ⟨qM_X4_noteFailure, (RX4, TX4, 12), rfl, rfl, rfl, rfl, (q_up_r33 10 rfl), (q_up_r33 11 rfl), (q_up_r33 12 rfl), ⟨by decide +kernel, ⟨by decide +kernel, by decide +kernel⟩, (q_up_r2 10 rfl)⟩⟩
theorem qE_X4_49 : q_kok qT qTX RX4 (159, 1, 39, 3, 5) := by
  unfold q_kok
  exact ⟨qM_X4_noteEnd, (RX4, TX4, 12), rfl, rfl, rfl, rfl, (q_up_r33 15 rfl), (q_up_r33 16 rfl), (q_up_r33 17 rfl), ⟨by decide +kernel, ⟨by decide +kernel, by decide +kernel⟩, (q_up_r2 10 rfl)⟩⟩
theorem qE_X4_50 : q_kok qT qTX RX4 (163, 0, 2, 7, 0) := by
  unfold q_kok
  exact ⟨(RX1, TX1, 11), "DurableLoom$Branch", rfl, by decide, (q_up_r33 14 rfl), Or.inl rfl, Or.inl ⟨rfl, rfl⟩⟩
theorem qE_X4_51 : q_kok qT qTX RX4 (168, 0, 2, 4, 0) := by
  unfold q_kok
  exact ⟨(RX1, TX1, 11), "DurableLoom$Branch", rfl, by decide, (q_up_r32 12 rfl), Or.inl rfl, Or.inl ⟨rfl, rfl⟩⟩
theorem qE_X4_52 : q_kok qT qTX RX4 (171, 1, 5, 1, 2) := by
  unfold q_kok
  exact ⟨qM_X1_goOnAt, (RX1, TX1, 11), rfl, rfl, rfl, rfl, (q_up_r32 14 rfl), (q_up_r32 15 rfl), (q_up_r32 16 rfl), ⟨by decide +kernel, ⟨by decide +kernel, by decide +kernel⟩, (q_up_r5 16 rfl)⟩⟩
theorem qE_X4_53 : q_kok qT qTX RX4 (174, 1, 59, 1, 6) := by
  unfold q_kok
  exact ⟨qM_X5_at, (RX5, TX5, 3), rfl, rfl, rfl, rfl, (q_up_r33 19 rfl), (q_up_r33 20 rfl), (q_up_r33 21 rfl), ⟨by decide +kernel, ⟨by decide +kernel, by decide +kernel⟩, (q_up_r2 6 rfl)⟩⟩
theorem qE_X4_54 : q_kok qT qTX RX4 (177, 1, 42, 1, 5) := by
  unfold q_kok
  exact ⟨qM_X4_failBranch, (RX4, TX4, 12), rfl, rfl, rfl, rfl, (q_up_r32 8 rfl), (q_up_r32 9 rfl), (q_up_r32 10 rfl), ⟨by decide +kernel, ⟨by decide +kernel, by decide +kernel⟩, (q_up_r2 10 rfl)⟩⟩
theorem qE_X4_55 : q_kok qT qTX RX4 (180, 0, 9, 5, 0) := by
  unfold q_kok
  exact ⟨(RX8, TX8, 14), "DurableLoom$State", rfl, by decide, (q_up_r30 16 rfl), Or.inl rfl, Or.inl ⟨rfl, rfl⟩⟩
theorem qE_X4_56 : q_kok qT qTX RX4 (183, 1, 84, 1, 9) := by
  unfold q_kok
  exact ⟨qM_X8_branchAt, (RX8, TX8, 14), rfl, rfl, rfl, rfl, (q_up_r30 20 rfl), (q_up_r30 21 rfl), (q_up_r30 22 rfl), ⟨by decide +kernel, ⟨by decide +kernel, by decide +kernel⟩, (q_up_r4 2 rfl)⟩⟩
theorem qE_X4_57 : q_kok qT qTX RX4 (186, 0, 2, 5, 0) := by
  unfold q_kok
  exact ⟨(RX1, TX1, 11), "DurableLoom$Branch", rfl, by decide, (q_up_r30 17 rfl), Or.inl rfl, Or.inl ⟨rfl, rfl⟩⟩
theorem qE_X4_58 : q_kok qT qTX RX4 (189, 0, 2, 6, 0) := by
  unfold q_kok
  exact ⟨(RX1, TX1, 11), "DurableLoom$Branch", rfl, by decide, (q_up_r30 18 rfl), Or.inl rfl, Or.inl ⟨rfl, rfl⟩⟩
theorem qE_X4_59 : q_kok qT qTX RX4 (192, 1, 7, 0, 2) := by
  unfold q_kok
  exact ⟨qM_X1_waitsForEvent, (RX1, TX1, 11), rfl, rfl, rfl, rfl, (q_up_r31 0 rfl), (q_up_r31 1 rfl), (q_up_r31 2 rfl), ⟨by decide +kernel, ⟨by decide +kernel, by decide +kernel⟩, (q_up_r5 16 rfl)⟩⟩
theorem qE_X4_60 : q_kok qT qTX RX4 (195, 0, 2, 8, 0) := by
  unfold q_kok
  exact ⟨(RX1, TX1, 11), "DurableLoom$Branch", rfl, by decide, (q_up_r30 19 rfl), Or.inl rfl, Or.inl ⟨rfl, rfl⟩⟩
theorem qE_X4_61 : q_kok qT qTX RX4 (198, 1, 44, 3, 5) := by
  unfold q_kok
  exact ⟨qM_X4_command, (RX4, TX4, 12), rfl, rfl, rfl, rfl, (q_up_r31 4 rfl), (q_up_r31 5 rfl), (q_up_r31 6 rfl), ⟨by decide +kernel, ⟨by decide +kernel, by decide +kernel⟩, (q_up_r2 10 rfl)⟩⟩
theorem qE_X4_62 : q_kok qT qTX RX4 (202, 0, 2, 10, 0) := by
  unfold q_kok
  exact ⟨(RX1, TX1, 11), "DurableLoom$Branch", rfl, by decide, (q_up_r32 13 rfl), Or.inl rfl, Or.inl ⟨rfl, rfl⟩⟩
theorem qE_X4_63 : q_kok qT qTX RX4 (205, 1, 79, 1, 9) := by
  unfold q_kok
  exact ⟨qM_X8_top, (RX8, TX8, 14), rfl, rfl, rfl, rfl, (q_up_r32 18 rfl), (q_up_r32 19 rfl), (q_up_r32 20 rfl), ⟨by decide +kernel, ⟨by decide +kernel, by decide +kernel⟩, (q_up_r4 2 rfl)⟩⟩
theorem qE_X4_64 : q_kok qT qTX RX4 (208, 1, 80, 1, 9) := by
  unfold q_kok
  exact ⟨qM_X8_popped, (RX8, TX8, 14), rfl, rfl, rfl, rfl, (q_up_r33 0 rfl), (q_up_r33 1 rfl), (q_up_r33 2 rfl), ⟨by decide +kernel, ⟨by decide +kernel, by decide +kernel⟩, (q_up_r4 2 rfl)⟩⟩
theorem qE_X4_65 : q_kok qT qTX RX4 (211, 0, 2, 0, 0) := by
  unfold q_kok
  exact ⟨(RX1, TX1, 11), "DurableLoom$Branch", rfl, by decide, (q_up_r35 15 rfl), Or.inl rfl, Or.inl ⟨rfl, rfl⟩⟩
theorem qE_X4_66 : q_kok qT qTX RX4 (214, 1, 87, 1, 9) := by
  unfold q_kok
  exact ⟨qM_X8_remove, (RX8, TX8, 14), rfl, rfl, rfl, rfl, (q_up_r35 16 rfl), (q_up_r35 17 rfl), (q_up_r35 18 rfl), ⟨by decide +kernel, ⟨by decide +kernel, by decide +kernel⟩, (q_up_r4 2 rfl)⟩⟩
theorem qE_X4_67 : q_kok qT qTX RX4 (217, 1, 81, 1, 9) := by
  unfold q_kok
  exact ⟨qM_X8_value, (RX8, TX8, 14), rfl, rfl, rfl, rfl, (q_up_r35 21 rfl), (q_up_r35 22 rfl), (q_up_r35 23 rfl), ⟨by decide +kernel, ⟨by decide +kernel, by decide +kernel⟩, (q_up_r4 2 rfl)⟩⟩
theorem qE_X4_68 : q_kok qT qTX RX4 (220, 1, 37, 0, 5) := by
  unfold q_kok
  exact ⟨qM_X4_seen, (RX4, TX4, 12), rfl, rfl, rfl, rfl, (q_up_r31 15 rfl), (q_up_r31 16 rfl), (q_up_r31 17 rfl), ⟨by decide +kernel, ⟨by decide +kernel, by decide +kernel⟩, (q_up_r2 10 rfl)⟩⟩
theorem qE_X4_69 : q_kok qT qTX RX4 (224, 1, 20, 4, 3) := by
  unfold q_kok
  exact ⟨qM_X2_is, (RX2, TX2, 5), rfl, rfl, rfl, rfl, (q_up_r31 19 rfl), (q_up_r31 20 rfl), (q_up_r31 21 rfl), ⟨by decide +kernel, ⟨by decide +kernel, by decide +kernel⟩, (q_up_r4 6 rfl)⟩⟩
theorem qE_X4_70 : q_kok qT qTX RX4 (228, 0, 3, 4, 0) := by
  unfold q_kok
  exact ⟨(RX2, TX2, 5), "DurableLoom$History", rfl, by decide, (q_up_r31 9 rfl), Or.inl rfl, Or.inl ⟨rfl, rfl⟩⟩
theorem qE_X4_71 : q_kok qT qTX RX4 (231, 1, 23, 1, 3) := by
  unfold q_kok
  exact ⟨qM_X2_taskBeyond, (RX2, TX2, 5), rfl, rfl, rfl, rfl, (q_up_r32 3 rfl), (q_up_r32 4 rfl), (q_up_r32 5 rfl), ⟨by decide +kernel, ⟨by decide +kernel, by decide +kernel⟩, (q_up_r4 6 rfl)⟩⟩
theorem qE_X4_72 : q_kok qT qTX RX4 (234, 1, 15, 5, 3) := by
  unfold q_kok
  exact ⟨qM_X2_put, (RX2, TX2, 5), rfl, rfl, rfl, rfl, (q_up_r32 7 rfl), (q_up_r21 11 rfl), (q_up_r21 12 rfl), ⟨by decide +kernel, ⟨by decide +kernel, by decide +kernel⟩, (q_up_r4 6 rfl)⟩⟩
theorem qE_X4_73 : q_kok qT qTX RX4 (238, 1, 88, 0, 9) := by
  unfold q_kok
  exact ⟨qM_X8_firstAble, (RX8, TX8, 14), rfl, rfl, rfl, rfl, (q_up_r34 6 rfl), (q_up_r34 7 rfl), (q_up_r34 8 rfl), ⟨by decide +kernel, ⟨by decide +kernel, by decide +kernel⟩, (q_up_r4 2 rfl)⟩⟩
theorem qE_X4_74 : q_kok qT qTX RX4 (242, 1, 46, 1, 5) := by
  unfold q_kok
  exact ⟨qM_X4_awake, (RX4, TX4, 12), rfl, rfl, rfl, rfl, (q_up_r34 23 rfl), (q_up_r35 0 rfl), (q_up_r35 1 rfl), ⟨by decide +kernel, ⟨by decide +kernel, by decide +kernel⟩, (q_up_r2 10 rfl)⟩⟩
theorem qE_X4_75 : q_kok qT qTX RX4 (245, 0, 6, 2, 0) := by
  unfold q_kok
  exact ⟨(RX5, TX5, 3), "DurableLoom$Row", rfl, by decide, (q_up_r34 4 rfl), Or.inl rfl, Or.inl ⟨rfl, rfl⟩⟩
theorem qE_X4_76 : q_kok qT qTX RX4 (246, 1, 43, 1, 5) := by
  unfold q_kok
  exact ⟨qM_X4_endBranch, (RX4, TX4, 12), rfl, rfl, rfl, rfl, (q_up_r35 11 rfl), (q_up_r35 12 rfl), (q_up_r35 13 rfl), ⟨by decide +kernel, ⟨by decide +kernel, by decide +kernel⟩, (q_up_r2 10 rfl)⟩⟩
theorem qE_X4_77 : q_kok qT qTX RX4 (249, 7, 1000000, 0, 0) := by
  unfold q_kok
  exact (q_up_r34 5 rfl)
theorem qE_X4_78 : q_kok qT qTX RX4 (250, 1, 47, 4, 5) := by
  unfold q_kok
  exact ⟨qM_X4_doPlainLine, (RX4, TX4, 12), rfl, rfl, rfl, rfl, (q_up_r36 1 rfl), (q_up_r36 2 rfl), (q_up_r36 3 rfl), ⟨by decide +kernel, ⟨by decide +kernel, by decide +kernel⟩, (q_up_r2 10 rfl)⟩⟩
theorem qE_X4_79 : q_kok qT qTX RX4 (254, 1, 48, 3, 5) := by
  unfold q_kok
  exact ⟨qM_X4_doBranchLine, (RX4, TX4, 12), rfl, rfl, rfl, rfl, (q_up_r36 9 rfl), (q_up_r36 10 rfl), (q_up_r36 11 rfl), ⟨by decide +kernel, ⟨by decide +kernel, by decide +kernel⟩, (q_up_r2 10 rfl)⟩⟩
theorem qE_X4_80 : q_kok qT qTX RX4 (257, 1, 53, 4, 5) := by
  unfold q_kok
  exact ⟨qM_X4_doEndingLine, (RX4, TX4, 12), rfl, rfl, rfl, rfl, (q_up_r37 23 rfl), (q_up_r38 0 rfl), (q_up_r38 1 rfl), ⟨by decide +kernel, ⟨by decide +kernel, by decide +kernel⟩, (q_up_r2 10 rfl)⟩⟩
theorem qE_X4_81 : q_kok qT qTX RX4 (260, 1, 55, 4, 5) := by
  unfold q_kok
  exact ⟨qM_X4_doOtherLine, (RX4, TX4, 12), rfl, rfl, rfl, rfl, (q_up_r38 8 rfl), (q_up_r38 9 rfl), (q_up_r38 10 rfl), ⟨by decide +kernel, ⟨by decide +kernel, by decide +kernel⟩, (q_up_r2 10 rfl)⟩⟩
theorem qE_X4_82 : q_kok qT qTX RX4 (263, 1, 61, 1, 6) := by
  unfold q_kok
  exact ⟨qM_X5_removeAt, (RX5, TX5, 3), rfl, rfl, rfl, rfl, (q_up_r35 3 rfl), (q_up_r35 4 rfl), (q_up_r35 5 rfl), ⟨by decide +kernel, ⟨by decide +kernel, by decide +kernel⟩, (q_up_r2 6 rfl)⟩⟩
theorem qE_X4_83 : q_kok qT qTX RX4 (266, 1, 4, 2, 2) := by
  unfold q_kok
  exact ⟨qM_X1_waitFor, (RX1, TX1, 11), rfl, rfl, rfl, rfl, (q_up_r36 5 rfl), (q_up_r36 6 rfl), (q_up_r36 7 rfl), ⟨by decide +kernel, ⟨by decide +kernel, by decide +kernel⟩, (q_up_r5 16 rfl)⟩⟩
theorem qE_X4_84 : q_kok qT qTX RX4 (269, 1, 49, 2, 5) := by
  unfold q_kok
  exact ⟨qM_X4_beginBelow, (RX4, TX4, 12), rfl, rfl, rfl, rfl, (q_up_r36 13 rfl), (q_up_r36 14 rfl), (q_up_r36 15 rfl), ⟨by decide +kernel, ⟨by decide +kernel, by decide +kernel⟩, (q_up_r2 10 rfl)⟩⟩
theorem qE_X4_85 : q_kok qT qTX RX4 (273, 1, 50, 2, 5) := by
  unfold q_kok
  exact ⟨qM_X4_race, (RX4, TX4, 12), rfl, rfl, rfl, rfl, (q_up_r36 21 rfl), (q_up_r36 22 rfl), (q_up_r36 23 rfl), ⟨by decide +kernel, ⟨by decide +kernel, by decide +kernel⟩, (q_up_r2 10 rfl)⟩⟩
theorem qE_X4_86 : q_kok qT qTX RX4 (277, 1, 51, 1, 5) := by
  unfold q_kok
  exact ⟨qM_X4_win, (RX4, TX4, 12), rfl, rfl, rfl, rfl, (q_up_r37 2 rfl), (q_up_r37 3 rfl), (q_up_r37 4 rfl), ⟨by decide +kernel, ⟨by decide +kernel, by decide +kernel⟩, (q_up_r2 10 rfl)⟩⟩
theorem qE_X4_87 : q_kok qT qTX RX4 (280, 1, 52, 0, 5) := by
  unfold q_kok
  exact ⟨qM_X4_dropDoomed, (RX4, TX4, 12), rfl, rfl, rfl, rfl, (q_up_r37 13 rfl), (q_up_r37 14 rfl), (q_up_r37 15 rfl), ⟨by decide +kernel, ⟨by decide +kernel, by decide +kernel⟩, (q_up_r2 10 rfl)⟩⟩
theorem qE_X4_88 : q_kok qT qTX RX4 (283, 1, 78, 2, 9) := by
  unfold q_kok
  exact ⟨qM_X8_pushed, (RX8, TX8, 14), rfl, rfl, rfl, rfl, (q_up_r37 18 rfl), (q_up_r37 19 rfl), (q_up_r37 20 rfl), ⟨by decide +kernel, ⟨by decide +kernel, by decide +kernel⟩, (q_up_r4 2 rfl)⟩⟩
theorem qE_X4_89 : q_kok qT qTX RX4 (286, 1, 85, 1, 9) := by
  unfold q_kok
  exact ⟨qM_X8_find, (RX8, TX8, 14), rfl, rfl, rfl, rfl, (q_up_r36 17 rfl), (q_up_r36 18 rfl), (q_up_r36 19 rfl), ⟨by decide +kernel, ⟨by decide +kernel, by decide +kernel⟩, (q_up_r4 2 rfl)⟩⟩
theorem qE_X4_90 : q_kok qT qTX RX4 (289, 0, 2, 3, 0) := by
  unfold q_kok
  exact ⟨(RX1, TX1, 11), "DurableLoom$Branch", rfl, by decide, (q_up_r37 1 rfl), Or.inl rfl, Or.inl ⟨rfl, rfl⟩⟩
theorem qE_X4_91 : q_kok qT qTX RX4 (292, 0, 2, 1, 0) := by
  unfold q_kok
  exact ⟨(RX1, TX1, 11), "DurableLoom$Branch", rfl, by decide, (q_up_r37 6 rfl), Or.inl rfl, Or.inl ⟨rfl, rfl⟩⟩
theorem qE_X4_92 : q_kok qT qTX RX4 (295, 1, 93, 1, 9) := by
  unfold q_kok
  exact ⟨qM_X8_doom, (RX8, TX8, 14), rfl, rfl, rfl, rfl, (q_up_r37 7 rfl), (q_up_r37 8 rfl), (q_up_r37 9 rfl), ⟨by decide +kernel, ⟨by decide +kernel, by decide +kernel⟩, (q_up_r4 2 rfl)⟩⟩
theorem qE_X4_93 : q_kok qT qTX RX4 (298, 0, 2, 9, 0) := by
  unfold q_kok
  exact ⟨(RX1, TX1, 11), "DurableLoom$Branch", rfl, by decide, (q_up_r37 17 rfl), Or.inl rfl, Or.inl ⟨rfl, rfl⟩⟩
theorem qE_X4_94 : q_kok qT qTX RX4 (301, 0, 9, 4, 0) := by
  unfold q_kok
  exact ⟨(RX8, TX8, 14), "DurableLoom$State", rfl, by decide, (q_up_r38 3 rfl), Or.inl rfl, Or.inl ⟨rfl, rfl⟩⟩
theorem qE_X4_95 : q_kok qT qTX RX4 (304, 1, 54, 1, 5) := by
  unfold q_kok
  exact ⟨qM_X4_undo, (RX4, TX4, 12), rfl, rfl, rfl, rfl, (q_up_r38 4 rfl), (q_up_r38 5 rfl), (q_up_r38 6 rfl), ⟨by decide +kernel, ⟨by decide +kernel, by decide +kernel⟩, (q_up_r2 10 rfl)⟩⟩
theorem qE_X4_96 : q_kok qT qTX RX4 (307, 1, 56, 1, 5) := by
  unfold q_kok
  exact ⟨qM_X4_patch, (RX4, TX4, 12), rfl, rfl, rfl, rfl, (q_up_r38 12 rfl), (q_up_r38 13 rfl), (q_up_r38 14 rfl), ⟨by decide +kernel, ⟨by decide +kernel, by decide +kernel⟩, (q_up_r2 10 rfl)⟩⟩
theorem qE_X4_97 : q_kok qT qTX RX4 (311, 1, 13, 1, 3) := by
  unfold q_kok
  exact ⟨qM_X2_clockOfArrival, (RX2, TX2, 5), rfl, rfl, rfl, rfl, (q_up_r38 17 rfl), (q_up_r38 18 rfl), (q_up_r38 19 rfl), ⟨by decide +kernel, ⟨by decide +kernel, by decide +kernel⟩, (q_up_r4 6 rfl)⟩⟩
theorem qE_X4_98 : q_kok qT qTX RX4 (314, 1, 6, 0, 2) := by
  unfold q_kok
  exact ⟨qM_X1_isBare, (RX1, TX1, 11), rfl, rfl, rfl, rfl, (q_up_r38 21 rfl), (q_up_r38 22 rfl), (q_up_r38 23 rfl), ⟨by decide +kernel, ⟨by decide +kernel, by decide +kernel⟩, (q_up_r5 16 rfl)⟩⟩
theorem qE_X4_99 : q_kok qT qTX RX4 (317, 0, 9, 7, 0) := by
  unfold q_kok
  exact ⟨(RX8, TX8, 14), "DurableLoom$State", rfl, by decide, (q_up_r38 16 rfl), Or.inl rfl, Or.inl ⟨rfl, rfl⟩⟩
theorem qE_X5_0 : q_kok qT qTX RX5 (3, 4, 0, 0, 0) := by
  unfold q_kok
  exact ⟨(q_up_r3 16 rfl), (q_up_r1 11 rfl), (q_up_r1 12 rfl)⟩
theorem qE_X5_1 : q_kok qT qTX RX5 (100009, 6, 108, 0, 0) := by
  unfold q_kok
  exact ⟨by decide, by decide, (q_up_r3 17 rfl)⟩
theorem qE_X5_2 : q_kok qT qTX RX5 (11, 0, 6, 0, 0) := by
  unfold q_kok
  exact ⟨(RX5, TX5, 3), "DurableLoom$Row", rfl, by decide, (q_up_r3 18 rfl), Or.inl rfl, Or.inl ⟨rfl, rfl⟩⟩
theorem qE_X5_3 : q_kok qT qTX RX5 (15, 0, 6, 1, 0) := by
  unfold q_kok
  exact ⟨(RX5, TX5, 3), "DurableLoom$Row", rfl, by decide, (q_up_r3 19 rfl), Or.inl rfl, Or.inl ⟨rfl, rfl⟩⟩
theorem qE_X5_4 : q_kok qT qTX RX5 (19, 0, 6, 2, 0) := by
  unfold q_kok
  exact ⟨(RX5, TX5, 3), "DurableLoom$Row", rfl, by decide, (q_up_r3 20 rfl), Or.inl rfl, Or.inl ⟨rfl, rfl⟩⟩
theorem qE_X5_5 : q_kok qT qTX RX5 (22, 1, 58, 1, 6) := by
  unfold q_kok
  exact ⟨qM_X5_wide, (RX5, TX5, 3), rfl, rfl, rfl, rfl, (q_up_r33 23 rfl), (q_up_r28 13 rfl), (q_up_r28 14 rfl), ⟨by decide +kernel, ⟨by decide +kernel, by decide +kernel⟩, (q_up_r2 6 rfl)⟩⟩
theorem qE_X5_6 : q_kok qT qTX RX5 (26, 1, 62, 2, 6) := by
  unfold q_kok
  exact ⟨qM_X5_put, (RX5, TX5, 3), rfl, rfl, rfl, rfl, (q_up_r35 7 rfl), (q_up_r35 8 rfl), (q_up_r35 9 rfl), ⟨by decide +kernel, ⟨by decide +kernel, by decide +kernel⟩, (q_up_r2 6 rfl)⟩⟩
theorem qE_X5_7 : q_kok qT qTX RX5 (30, 2, 319, 2, 0) := by
  unfold q_kok
  exact ⟨qM_J9_max_7cf53, rfl, (q_up_r27 12 rfl), (q_up_r15 17 rfl), ⟨by decide +kernel, ⟨by decide +kernel, by decide +kernel⟩, (q_up_r15 18 rfl)⟩⟩
theorem qE_X5_8 : q_kok qT qTX RX5 (36, 2, 320, 2, 0) := by
  unfold q_kok
  exact ⟨qM_J9_min_7cf53, rfl, (q_up_r27 13 rfl), (q_up_r16 20 rfl), ⟨by decide +kernel, ⟨by decide +kernel, by decide +kernel⟩, (q_up_r15 18 rfl)⟩⟩
theorem qE_X5_9 : q_kok qT qTX RX5 (39, 2, 335, 2, 0) := by
  unfold q_kok
  exact ⟨qM_J7_copyOf_c38d5, rfl, (q_up_r27 14 rfl), (q_up_r27 15 rfl), ⟨by decide +kernel, ⟨by decide +kernel, by decide +kernel⟩, (q_up_r16 8 rfl)⟩⟩
theorem qE_X5_10 : q_kok qT qTX RX5 (45, 1, 60, 1, 6) := by
  unfold q_kok
  exact ⟨qM_X5_add, (RX5, TX5, 3), rfl, rfl, rfl, rfl, (q_up_r74 8 rfl), (q_up_r12 22 rfl), (q_up_r12 23 rfl), ⟨by decide +kernel, ⟨by decide +kernel, by decide +kernel⟩, (q_up_r2 6 rfl)⟩⟩
theorem qE_X6_0 : q_kok qT qTX RX6 (3, 4, 0, 0, 0) := by
  unfold q_kok
  exact ⟨(q_up_r20 4 rfl), (q_up_r1 11 rfl), (q_up_r1 12 rfl)⟩
theorem qE_X6_1 : q_kok qT qTX RX6 (9, 0, 7, 6, 0) := by
  unfold q_kok
  exact ⟨(RX6, TX6, 20), "DurableLoom$Run", rfl, by decide, (q_up_r20 5 rfl), Or.inl rfl, Or.inl ⟨rfl, rfl⟩⟩
theorem qE_X6_2 : q_kok qT qTX RX6 (15, 0, 7, 7, 0) := by
  unfold q_kok
  exact ⟨(RX6, TX6, 20), "DurableLoom$Run", rfl, by decide, (q_up_r20 6 rfl), Or.inl rfl, Or.inl ⟨rfl, rfl⟩⟩
theorem qE_X6_3 : q_kok qT qTX RX6 (18, 0, 7, 8, 0) := by
  unfold q_kok
  exact ⟨(RX6, TX6, 20), "DurableLoom$Run", rfl, by decide, (q_up_r20 7 rfl), Or.inl rfl, Or.inl ⟨rfl, rfl⟩⟩
theorem qE_X6_4 : q_kok qT qTX RX6 (21, 0, 7, 9, 0) := by
  unfold q_kok
  exact ⟨(RX6, TX6, 20), "DurableLoom$Run", rfl, by decide, (q_up_r20 8 rfl), Or.inl rfl, Or.inl ⟨rfl, rfl⟩⟩
theorem qE_X6_5 : q_kok qT qTX RX6 (24, 0, 7, 10, 0) := by
  unfold q_kok
  exact ⟨(RX6, TX6, 20), "DurableLoom$Run", rfl, by decide, (q_up_r20 9 rfl), Or.inl rfl, Or.inl ⟨rfl, rfl⟩⟩
theorem qE_X6_6 : q_kok qT qTX RX6 (27, 0, 7, 11, 0) := by
  unfold q_kok
  exact ⟨(RX6, TX6, 20), "DurableLoom$Run", rfl, by decide, (q_up_r20 10 rfl), Or.inl rfl, Or.inl ⟨rfl, rfl⟩⟩
theorem qE_X6_7 : q_kok qT qTX RX6 (30, 0, 7, 12, 0) := by
  unfold q_kok
  exact ⟨(RX6, TX6, 20), "DurableLoom$Run", rfl, by decide, (q_up_r20 11 rfl), Or.inl rfl, Or.inl ⟨rfl, rfl⟩⟩
theorem qE_X6_8 : q_kok qT qTX RX6 (33, 0, 7, 13, 0) := by
  unfold q_kok
  exact ⟨(RX6, TX6, 20), "DurableLoom$Run", rfl, by decide, (q_up_r20 12 rfl), Or.inl rfl, Or.inl ⟨rfl, rfl⟩⟩
theorem qE_X6_9 : q_kok qT qTX RX6 (36, 0, 7, 14, 0) := by
  unfold q_kok
  exact ⟨(RX6, TX6, 20), "DurableLoom$Run", rfl, by decide, (q_up_r20 13 rfl), Or.inl rfl, Or.inl ⟨rfl, rfl⟩⟩
theorem qE_X6_10 : q_kok qT qTX RX6 (39, 0, 7, 15, 0) := by
  unfold q_kok
  exact ⟨(RX6, TX6, 20), "DurableLoom$Run", rfl, by decide, (q_up_r20 14 rfl), Or.inl rfl, Or.inl ⟨rfl, rfl⟩⟩
theorem qE_X6_11 : q_kok qT qTX RX6 (42, 5, 3, 5, 0) := by
  unfold q_kok
  exact ⟨(RX2, TX2, 5), rfl, rfl, (q_up_r20 15 rfl), (q_up_r4 5 rfl), (q_up_r4 6 rfl)⟩
theorem qE_X6_12 : q_kok qT qTX RX6 (44, 5, 6, 3, 0) := by
  unfold q_kok
  exact ⟨(RX5, TX5, 3), rfl, rfl, (q_up_r20 16 rfl), (q_up_r2 5 rfl), (q_up_r2 6 rfl)⟩
theorem qE_X6_13 : q_kok qT qTX RX6 (46, 15, 57, 0, 0) := by
  unfold q_kok
  exact ⟨qM_X5_init, rfl, rfl, rfl, rfl, List.mem_of_getElem? (i := 8) rfl, (q_up_r3 14 rfl), ⟨by decide +kernel, ⟨by decide +kernel, by decide +kernel⟩, (q_up_r2 6 rfl)⟩⟩
theorem qE_X6_14 : q_kok qT qTX RX6 (47, 3, 8, 1, 0) := by
  unfold q_kok
  exact ⟨qM_X2_init, rfl, rfl, rfl, rfl, (q_up_r21 3 rfl), (q_up_r6 8 rfl), ⟨by decide +kernel, ⟨by decide +kernel, by decide +kernel⟩, (q_up_r4 6 rfl)⟩⟩
theorem qE_X6_15 : q_kok qT qTX RX6 (50, 0, 7, 16, 1) := by
  unfold q_kok
  exact ⟨(RX6, TX6, 20), "DurableLoom$Run", rfl, by decide, (q_up_r20 17 rfl), Or.inl rfl, Or.inr (Or.inl ⟨rfl, rfl, rfl⟩)⟩
theorem qE_X6_16 : q_kok qT qTX RX6 (54, 0, 7, 17, 1) := by
  unfold q_kok
  exact ⟨(RX6, TX6, 20), "DurableLoom$Run", rfl, by decide, (q_up_r20 18 rfl), Or.inl rfl, Or.inr (Or.inl ⟨rfl, rfl, rfl⟩)⟩
theorem qE_X6_17 : q_kok qT qTX RX6 (58, 0, 7, 18, 1) := by
  unfold q_kok
  exact ⟨(RX6, TX6, 20), "DurableLoom$Run", rfl, by decide, (q_up_r20 19 rfl), Or.inl rfl, Or.inr (Or.inl ⟨rfl, rfl, rfl⟩)⟩
theorem qE_X6_18 : q_kok qT qTX RX6 (61, 0, 7, 19, 1) := by
  unfold q_kok
  exact ⟨(RX6, TX6, 20), "DurableLoom$Run", rfl, by decide, (q_up_r20 20 rfl), Or.inl rfl, Or.inr (Or.inl ⟨rfl, rfl, rfl⟩)⟩
theorem qE_X6_19 : q_kok qT qTX RX6 (64, 0, 7, 0, 1) := by
  unfold q_kok
  exact ⟨(RX6, TX6, 20), "DurableLoom$Run", rfl, by decide, (q_up_r20 21 rfl), Or.inl rfl, Or.inr (Or.inl ⟨rfl, rfl, rfl⟩)⟩
theorem qE_X6_20 : q_kok qT qTX RX6 (67, 0, 7, 1, 1) := by
  unfold q_kok
  exact ⟨(RX6, TX6, 20), "DurableLoom$Run", rfl, by decide, (q_up_r20 22 rfl), Or.inl rfl, Or.inr (Or.inl ⟨rfl, rfl, rfl⟩)⟩
theorem qE_X6_21 : q_kok qT qTX RX6 (70, 0, 7, 2, 1) := by
  unfold q_kok
  exact ⟨(RX6, TX6, 20), "DurableLoom$Run", rfl, by decide, (q_up_r20 23 rfl), Or.inl rfl, Or.inr (Or.inl ⟨rfl, rfl, rfl⟩)⟩
theorem qE_X6_22 : q_kok qT qTX RX6 (73, 0, 7, 3, 0) := by
  unfold q_kok
  exact ⟨(RX6, TX6, 20), "DurableLoom$Run", rfl, by decide, (q_up_r21 0 rfl), Or.inl rfl, Or.inl ⟨rfl, rfl⟩⟩
theorem qE_X6_23 : q_kok qT qTX RX6 (76, 0, 7, 4, 0) := by
  unfold q_kok
  exact ⟨(RX6, TX6, 20), "DurableLoom$Run", rfl, by decide, (q_up_r21 1 rfl), Or.inl rfl, Or.inl ⟨rfl, rfl⟩⟩
theorem qE_X6_24 : q_kok qT qTX RX6 (79, 0, 7, 5, 1) := by
  unfold q_kok
  exact ⟨(RX6, TX6, 20), "DurableLoom$Run", rfl, by decide, (q_up_r21 2 rfl), Or.inl rfl, Or.inr (Or.inl ⟨rfl, rfl, rfl⟩)⟩
theorem qE_X6_25 : q_kok qT qTX RX6 (82, 0, 3, 2, 0) := by
  unfold q_kok
  exact ⟨(RX2, TX2, 5), "DurableLoom$History", rfl, by decide, (q_up_r53 19 rfl), Or.inl rfl, Or.inl ⟨rfl, rfl⟩⟩
theorem qE_X6_26 : q_kok qT qTX RX6 (85, 0, 3, 4, 0) := by
  unfold q_kok
  exact ⟨(RX2, TX2, 5), "DurableLoom$History", rfl, by decide, (q_up_r53 20 rfl), Or.inl rfl, Or.inl ⟨rfl, rfl⟩⟩
theorem qE_X6_27 : q_kok qT qTX RX6 (88, 1, 25, 0, 3) := by
  unfold q_kok
  exact ⟨qM_X2_firstNew, (RX2, TX2, 5), rfl, rfl, rfl, rfl, (q_up_r54 8 rfl), (q_up_r39 12 rfl), (q_up_r39 13 rfl), ⟨by decide +kernel, ⟨by decide +kernel, by decide +kernel⟩, (q_up_r4 6 rfl)⟩⟩
theorem qE_X6_28 : q_kok qT qTX RX6 (92, 1, 14, 1, 3) := by
  unfold q_kok
  exact ⟨qM_X2_orderOfArrival, (RX2, TX2, 5), rfl, rfl, rfl, rfl, (q_up_r54 9 rfl), (q_up_r54 10 rfl), (q_up_r54 11 rfl), ⟨by decide +kernel, ⟨by decide +kernel, by decide +kernel⟩, (q_up_r4 6 rfl)⟩⟩
theorem qE_X6_29 : q_kok qT qTX RX6 (96, 0, 3, 3, 0) := by
  unfold q_kok
  exact ⟨(RX2, TX2, 5), "DurableLoom$History", rfl, by decide, (q_up_r55 13 rfl), Or.inl rfl, Or.inl ⟨rfl, rfl⟩⟩
theorem qE_X6_30 : q_kok qT qTX RX6 (99, 1, 69, 0, 7) := by
  unfold q_kok
  exact ⟨qM_X6_mark, (RX6, TX6, 20), rfl, rfl, rfl, rfl, (q_up_r57 7 rfl), (q_up_r55 10 rfl), (q_up_r55 11 rfl), ⟨by decide +kernel, ⟨by decide +kernel, by decide +kernel⟩, (q_up_r20 0 rfl)⟩⟩
theorem qE_X6_31 : q_kok qT qTX RX6 (102, 1, 60, 1, 6) := by
  unfold q_kok
  exact ⟨qM_X5_add, (RX5, TX5, 3), rfl, rfl, rfl, rfl, (q_up_r59 12 rfl), (q_up_r12 22 rfl), (q_up_r12 23 rfl), ⟨by decide +kernel, ⟨by decide +kernel, by decide +kernel⟩, (q_up_r2 6 rfl)⟩⟩
theorem qE_X6_32 : q_kok qT qTX RX6 (106, 0, 6, 2, 0) := by
  unfold q_kok
  exact ⟨(RX5, TX5, 3), "DurableLoom$Row", rfl, by decide, (q_up_r60 7 rfl), Or.inl rfl, Or.inl ⟨rfl, rfl⟩⟩
theorem qE_X6_33 : q_kok qT qTX RX6 (109, 1, 59, 1, 6) := by
  unfold q_kok
  exact ⟨qM_X5_at, (RX5, TX5, 3), rfl, rfl, rfl, rfl, (q_up_r60 8 rfl), (q_up_r33 20 rfl), (q_up_r33 21 rfl), ⟨by decide +kernel, ⟨by decide +kernel, by decide +kernel⟩, (q_up_r2 6 rfl)⟩⟩
theorem qE_X6_34 : q_kok qT qTX RX6 (112, 1, 61, 1, 6) := by
  unfold q_kok
  exact ⟨qM_X5_removeAt, (RX5, TX5, 3), rfl, rfl, rfl, rfl, (q_up_r60 9 rfl), (q_up_r35 4 rfl), (q_up_r35 5 rfl), ⟨by decide +kernel, ⟨by decide +kernel, by decide +kernel⟩, (q_up_r2 6 rfl)⟩⟩
theorem qE_X7_0 : q_kok qT qTX RX7 (1, 4, 0, 0, 0) := by
  unfold q_kok
  exact ⟨(q_up_r78 17 rfl), (q_up_r1 11 rfl), (q_up_r1 12 rfl)⟩
theorem qE_X7_1 : q_kok qT qTX RX7 (7, 0, 8, 5, 0) := by
  unfold q_kok
  exact ⟨(RX7, TX7, 9), "DurableLoom$Schedule", rfl, by decide, (q_up_r78 18 rfl), Or.inl rfl, Or.inl ⟨rfl, rfl⟩⟩
theorem qE_X7_2 : q_kok qT qTX RX7 (13, 0, 8, 6, 0) := by
  unfold q_kok
  exact ⟨(RX7, TX7, 9), "DurableLoom$Schedule", rfl, by decide, (q_up_r78 19 rfl), Or.inl rfl, Or.inl ⟨rfl, rfl⟩⟩
theorem qE_X7_3 : q_kok qT qTX RX7 (17, 0, 8, 7, 0) := by
  unfold q_kok
  exact ⟨(RX7, TX7, 9), "DurableLoom$Schedule", rfl, by decide, (q_up_r78 20 rfl), Or.inl rfl, Or.inl ⟨rfl, rfl⟩⟩
theorem qE_X7_4 : q_kok qT qTX RX7 (20, 0, 8, 8, 0) := by
  unfold q_kok
  exact ⟨(RX7, TX7, 9), "DurableLoom$Schedule", rfl, by decide, (q_up_r78 21 rfl), Or.inl rfl, Or.inl ⟨rfl, rfl⟩⟩
theorem qE_X7_5 : q_kok qT qTX RX7 (23, 0, 8, 0, 1) := by
  unfold q_kok
  exact ⟨(RX7, TX7, 9), "DurableLoom$Schedule", rfl, by decide, (q_up_r78 22 rfl), Or.inl rfl, Or.inr (Or.inl ⟨rfl, rfl, rfl⟩)⟩
theorem qE_X7_6 : q_kok qT qTX RX7 (26, 0, 8, 1, 1) := by
  unfold q_kok
  exact ⟨(RX7, TX7, 9), "DurableLoom$Schedule", rfl, by decide, (q_up_r78 23 rfl), Or.inl rfl, Or.inr (Or.inl ⟨rfl, rfl, rfl⟩)⟩
theorem qE_X7_7 : q_kok qT qTX RX7 (29, 0, 8, 2, 1) := by
  unfold q_kok
  exact ⟨(RX7, TX7, 9), "DurableLoom$Schedule", rfl, by decide, (q_up_r70 11 rfl), Or.inl rfl, Or.inr (Or.inl ⟨rfl, rfl, rfl⟩)⟩
theorem qE_X7_8 : q_kok qT qTX RX7 (32, 0, 8, 3, 1) := by
  unfold q_kok
  exact ⟨(RX7, TX7, 9), "DurableLoom$Schedule", rfl, by decide, (q_up_r79 0 rfl), Or.inl rfl, Or.inr (Or.inl ⟨rfl, rfl, rfl⟩)⟩
theorem qE_X7_9 : q_kok qT qTX RX7 (35, 0, 8, 4, 0) := by
  unfold q_kok
  exact ⟨(RX7, TX7, 9), "DurableLoom$Schedule", rfl, by decide, (q_up_r79 1 rfl), Or.inl rfl, Or.inl ⟨rfl, rfl⟩⟩
theorem qE_X7_10 : q_kok qT qTX RX7 (38, 2, 318, 2, 0) := by
  unfold q_kok
  exact ⟨qM_J9_floorMod_7cf53, rfl, (q_up_r70 12 rfl), (q_up_r19 15 rfl), ⟨by decide +kernel, ⟨by decide +kernel, by decide +kernel⟩, (q_up_r15 18 rfl)⟩⟩
theorem qE_X8_0 : q_kok qT qTX RX8 (3, 4, 0, 0, 0) := by
  unfold q_kok
  exact ⟨(q_up_r4 22 rfl), (q_up_r1 11 rfl), (q_up_r1 12 rfl)⟩
theorem qE_X8_1 : q_kok qT qTX RX8 (9, 0, 9, 0, 1) := by
  unfold q_kok
  exact ⟨(RX8, TX8, 14), "DurableLoom$State", rfl, by decide, (q_up_r4 23 rfl), Or.inl rfl, Or.inr (Or.inl ⟨rfl, rfl, rfl⟩)⟩
theorem qE_X8_2 : q_kok qT qTX RX8 (100015, 6, 103, 0, 0) := by
  unfold q_kok
  exact ⟨by decide, by decide, (q_up_r5 0 rfl)⟩
theorem qE_X8_3 : q_kok qT qTX RX8 (15, 5, 2, 11, 0) := by
  unfold q_kok
  exact ⟨(RX1, TX1, 11), rfl, rfl, (q_up_r5 0 rfl), (q_up_r5 15 rfl), (q_up_r5 16 rfl)⟩
theorem qE_X8_4 : q_kok qT qTX RX8 (17, 0, 9, 1, 1) := by
  unfold q_kok
  exact ⟨(RX8, TX8, 14), "DurableLoom$State", rfl, by decide, (q_up_r5 1 rfl), Or.inl rfl, Or.inr (Or.inl ⟨rfl, rfl, rfl⟩)⟩
theorem qE_X8_5 : q_kok qT qTX RX8 (100021, 6, 105, 0, 0) := by
  unfold q_kok
  exact ⟨by decide, by decide, (q_up_r5 2 rfl)⟩
theorem qE_X8_6 : q_kok qT qTX RX8 (21, 5, 6, 3, 0) := by
  unfold q_kok
  exact ⟨(RX5, TX5, 3), rfl, rfl, (q_up_r5 2 rfl), (q_up_r2 5 rfl), (q_up_r2 6 rfl)⟩
theorem qE_X8_7 : q_kok qT qTX RX8 (23, 0, 9, 2, 1) := by
  unfold q_kok
  exact ⟨(RX8, TX8, 14), "DurableLoom$State", rfl, by decide, (q_up_r5 3 rfl), Or.inl rfl, Or.inr (Or.inl ⟨rfl, rfl, rfl⟩)⟩
theorem qE_X8_8 : q_kok qT qTX RX8 (27, 15, 57, 0, 0) := by
  unfold q_kok
  exact ⟨qM_X5_init, rfl, rfl, rfl, rfl, List.mem_of_getElem? (i := 2) rfl, (q_up_r3 14 rfl), ⟨by decide +kernel, ⟨by decide +kernel, by decide +kernel⟩, (q_up_r2 6 rfl)⟩⟩
theorem qE_X8_9 : q_kok qT qTX RX8 (28, 0, 9, 3, 1) := by
  unfold q_kok
  exact ⟨(RX8, TX8, 14), "DurableLoom$State", rfl, by decide, (q_up_r5 4 rfl), Or.inl rfl, Or.inr (Or.inl ⟨rfl, rfl, rfl⟩)⟩
theorem qE_X8_10 : q_kok qT qTX RX8 (32, 0, 9, 4, 0) := by
  unfold q_kok
  exact ⟨(RX8, TX8, 14), "DurableLoom$State", rfl, by decide, (q_up_r5 5 rfl), Or.inl rfl, Or.inl ⟨rfl, rfl⟩⟩
theorem qE_X8_11 : q_kok qT qTX RX8 (36, 0, 9, 5, 0) := by
  unfold q_kok
  exact ⟨(RX8, TX8, 14), "DurableLoom$State", rfl, by decide, (q_up_r5 6 rfl), Or.inl rfl, Or.inl ⟨rfl, rfl⟩⟩
theorem qE_X8_12 : q_kok qT qTX RX8 (39, 0, 9, 6, 0) := by
  unfold q_kok
  exact ⟨(RX8, TX8, 14), "DurableLoom$State", rfl, by decide, (q_up_r5 7 rfl), Or.inl rfl, Or.inl ⟨rfl, rfl⟩⟩
theorem qE_X8_13 : q_kok qT qTX RX8 (42, 0, 9, 7, 0) := by
  unfold q_kok
  exact ⟨(RX8, TX8, 14), "DurableLoom$State", rfl, by decide, (q_up_r5 8 rfl), Or.inl rfl, Or.inl ⟨rfl, rfl⟩⟩
theorem qE_X8_14 : q_kok qT qTX RX8 (45, 0, 9, 8, 0) := by
  unfold q_kok
  exact ⟨(RX8, TX8, 14), "DurableLoom$State", rfl, by decide, (q_up_r5 9 rfl), Or.inl rfl, Or.inl ⟨rfl, rfl⟩⟩
theorem qE_X8_15 : q_kok qT qTX RX8 (49, 0, 9, 9, 0) := by
  unfold q_kok
  exact ⟨(RX8, TX8, 14), "DurableLoom$State", rfl, by decide, (q_up_r5 10 rfl), Or.inl rfl, Or.inl ⟨rfl, rfl⟩⟩
theorem qE_X8_16 : q_kok qT qTX RX8 (52, 0, 9, 10, 0) := by
  unfold q_kok
  exact ⟨(RX8, TX8, 14), "DurableLoom$State", rfl, by decide, (q_up_r5 11 rfl), Or.inl rfl, Or.inl ⟨rfl, rfl⟩⟩
theorem qE_X8_17 : q_kok qT qTX RX8 (55, 0, 9, 11, 0) := by
  unfold q_kok
  exact ⟨(RX8, TX8, 14), "DurableLoom$State", rfl, by decide, (q_up_r5 12 rfl), Or.inl rfl, Or.inl ⟨rfl, rfl⟩⟩
theorem qE_X8_18 : q_kok qT qTX RX8 (58, 0, 9, 12, 0) := by
  unfold q_kok
  exact ⟨(RX8, TX8, 14), "DurableLoom$State", rfl, by decide, (q_up_r5 13 rfl), Or.inl rfl, Or.inl ⟨rfl, rfl⟩⟩
theorem qE_X8_19 : q_kok qT qTX RX8 (61, 0, 9, 13, 0) := by
  unfold q_kok
  exact ⟨(RX8, TX8, 14), "DurableLoom$State", rfl, by decide, (q_up_r5 14 rfl), Or.inl rfl, Or.inl ⟨rfl, rfl⟩⟩
theorem qE_X8_20 : q_kok qT qTX RX8 (64, 15, 2, 0, 0) := by
  unfold q_kok
  exact ⟨qM_X1_init, rfl, rfl, rfl, rfl, List.mem_of_getElem? (i := 3) rfl, (q_up_r5 17 rfl), ⟨by decide +kernel, ⟨by decide +kernel, by decide +kernel⟩, (q_up_r5 16 rfl)⟩⟩
theorem qE_X8_21 : q_kok qT qTX RX8 (65, 2, 332, 2, 0) := by
  unfold q_kok
  exact ⟨qM_J7_fill_53178, rfl, (q_up_r27 5 rfl), (q_up_r27 6 rfl), ⟨by decide +kernel, ⟨by decide +kernel, by decide +kernel⟩, (q_up_r16 8 rfl)⟩⟩
theorem qE_X8_22 : q_kok qT qTX RX8 (71, 1, 63, 1, 6) := by
  unfold q_kok
  exact ⟨qM_X5_cut, (RX5, TX5, 3), rfl, rfl, rfl, rfl, (q_up_r27 8 rfl), (q_up_r27 9 rfl), (q_up_r27 10 rfl), ⟨by decide +kernel, ⟨by decide +kernel, by decide +kernel⟩, (q_up_r2 6 rfl)⟩⟩
theorem qE_X8_23 : q_kok qT qTX RX8 (75, 8, 10000, 0, 0) := by
  unfold q_kok
  exact (q_up_r32 22 rfl)
theorem qE_X8_24 : q_kok qT qTX RX8 (77, 1, 60, 1, 6) := by
  unfold q_kok
  exact ⟨qM_X5_add, (RX5, TX5, 3), rfl, rfl, rfl, rfl, (q_up_r37 22 rfl), (q_up_r12 22 rfl), (q_up_r12 23 rfl), ⟨by decide +kernel, ⟨by decide +kernel, by decide +kernel⟩, (q_up_r2 6 rfl)⟩⟩
theorem qE_X8_25 : q_kok qT qTX RX8 (81, 0, 6, 2, 0) := by
  unfold q_kok
  exact ⟨(RX5, TX5, 3), "DurableLoom$Row", rfl, by decide, (q_up_r34 15 rfl), Or.inl rfl, Or.inl ⟨rfl, rfl⟩⟩
theorem qE_X8_26 : q_kok qT qTX RX8 (84, 1, 58, 1, 6) := by
  unfold q_kok
  exact ⟨qM_X5_wide, (RX5, TX5, 3), rfl, rfl, rfl, rfl, (q_up_r32 23 rfl), (q_up_r28 13 rfl), (q_up_r28 14 rfl), ⟨by decide +kernel, ⟨by decide +kernel, by decide +kernel⟩, (q_up_r2 6 rfl)⟩⟩
theorem qE_X8_27 : q_kok qT qTX RX8 (88, 2, 318, 2, 0) := by
  unfold q_kok
  exact ⟨qM_J9_floorMod_7cf53, rfl, (q_up_r30 10 rfl), (q_up_r19 15 rfl), ⟨by decide +kernel, ⟨by decide +kernel, by decide +kernel⟩, (q_up_r15 18 rfl)⟩⟩
theorem qE_X8_28 : q_kok qT qTX RX8 (94, 0, 2, 0, 0) := by
  unfold q_kok
  exact ⟨(RX1, TX1, 11), "DurableLoom$Branch", rfl, by decide, (q_up_r34 16 rfl), Or.inl rfl, Or.inl ⟨rfl, rfl⟩⟩
theorem qE_X8_29 : q_kok qT qTX RX8 (97, 1, 3, 3, 2) := by
  unfold q_kok
  exact ⟨qM_X1_start, (RX1, TX1, 11), rfl, rfl, rfl, rfl, (q_up_r30 2 rfl), (q_up_r30 3 rfl), (q_up_r30 4 rfl), ⟨by decide +kernel, ⟨by decide +kernel, by decide +kernel⟩, (q_up_r5 16 rfl)⟩⟩
theorem qE_X8_30 : q_kok qT qTX RX8 (101, 0, 2, 2, 0) := by
  unfold q_kok
  exact ⟨(RX1, TX1, 11), "DurableLoom$Branch", rfl, by decide, (q_up_r35 20 rfl), Or.inl rfl, Or.inl ⟨rfl, rfl⟩⟩
theorem qE_X8_31 : q_kok qT qTX RX8 (104, 1, 89, 1, 9) := by
  unfold q_kok
  exact ⟨qM_X8_isAble, (RX8, TX8, 14), rfl, rfl, rfl, rfl, (q_up_r34 10 rfl), (q_up_r34 11 rfl), (q_up_r34 12 rfl), ⟨by decide +kernel, ⟨by decide +kernel, by decide +kernel⟩, (q_up_r4 2 rfl)⟩⟩
theorem qE_X8_32 : q_kok qT qTX RX8 (108, 0, 2, 7, 0) := by
  unfold q_kok
  exact ⟨(RX1, TX1, 11), "DurableLoom$Branch", rfl, by decide, (q_up_r34 14 rfl), Or.inl rfl, Or.inl ⟨rfl, rfl⟩⟩
theorem qE_X8_33 : q_kok qT qTX RX8 (111, 0, 2, 8, 0) := by
  unfold q_kok
  exact ⟨(RX1, TX1, 11), "DurableLoom$Branch", rfl, by decide, (q_up_r33 8 rfl), Or.inl rfl, Or.inl ⟨rfl, rfl⟩⟩
theorem qE_X8_34 : q_kok qT qTX RX8 (114, 1, 83, 1, 9) := by
  unfold q_kok
  exact ⟨qM_X8_queue, (RX8, TX8, 14), rfl, rfl, rfl, rfl, (q_up_r34 17 rfl), (q_up_r30 7 rfl), (q_up_r30 8 rfl), ⟨by decide +kernel, ⟨by decide +kernel, by decide +kernel⟩, (q_up_r4 2 rfl)⟩⟩
theorem qE_X8_35 : q_kok qT qTX RX8 (118, 1, 90, 1, 9) := by
  unfold q_kok
  exact ⟨qM_X8_isParent, (RX8, TX8, 14), rfl, rfl, rfl, rfl, (q_up_r34 18 rfl), (q_up_r34 19 rfl), (q_up_r34 20 rfl), ⟨by decide +kernel, ⟨by decide +kernel, by decide +kernel⟩, (q_up_r4 2 rfl)⟩⟩
theorem qE_X8_36 : q_kok qT qTX RX8 (122, 0, 2, 1, 0) := by
  unfold q_kok
  exact ⟨(RX1, TX1, 11), "DurableLoom$Branch", rfl, by decide, (q_up_r34 22 rfl), Or.inl rfl, Or.inl ⟨rfl, rfl⟩⟩
theorem qE_X8_37 : q_kok qT qTX RX8 (125, 1, 7, 0, 2) := by
  unfold q_kok
  exact ⟨qM_X1_waitsForEvent, (RX1, TX1, 11), rfl, rfl, rfl, rfl, (q_up_r33 9 rfl), (q_up_r31 1 rfl), (q_up_r31 2 rfl), ⟨by decide +kernel, ⟨by decide +kernel, by decide +kernel⟩, (q_up_r5 16 rfl)⟩⟩
theorem qE_X8_38 : q_kok qT qTX RX8 (129, 0, 2, 9, 0) := by
  unfold q_kok
  exact ⟨(RX1, TX1, 11), "DurableLoom$Branch", rfl, by decide, (q_up_r37 11 rfl), Or.inl rfl, Or.inl ⟨rfl, rfl⟩⟩
theorem qE_X8_39 : q_kok qT qTX RX8 (132, 1, 85, 1, 9) := by
  unfold q_kok
  exact ⟨qM_X8_find, (RX8, TX8, 14), rfl, rfl, rfl, rfl, (q_up_r37 12 rfl), (q_up_r36 18 rfl), (q_up_r36 19 rfl), ⟨by decide +kernel, ⟨by decide +kernel, by decide +kernel⟩, (q_up_r4 2 rfl)⟩⟩
theorem qE_X9_0 : q_kok qT qTX RX9 (1, 4, 0, 0, 0) := by
  unfold q_kok
  exact ⟨(q_up_r55 0 rfl), (q_up_r1 11 rfl), (q_up_r1 12 rfl)⟩
theorem qE_X9_1 : q_kok qT qTX RX9 (7, 0, 10, 5, 0) := by
  unfold q_kok
  exact ⟨(RX9, TX9, 6), "DurableLoom$Task", rfl, by decide, (q_up_r55 1 rfl), Or.inl rfl, Or.inl ⟨rfl, rfl⟩⟩
theorem qE_X9_2 : q_kok qT qTX RX9 (13, 0, 10, 0, 1) := by
  unfold q_kok
  exact ⟨(RX9, TX9, 6), "DurableLoom$Task", rfl, by decide, (q_up_r55 2 rfl), Or.inl rfl, Or.inr (Or.inl ⟨rfl, rfl, rfl⟩)⟩
theorem qE_X9_3 : q_kok qT qTX RX9 (17, 0, 10, 1, 1) := by
  unfold q_kok
  exact ⟨(RX9, TX9, 6), "DurableLoom$Task", rfl, by decide, (q_up_r55 3 rfl), Or.inl rfl, Or.inr (Or.inl ⟨rfl, rfl, rfl⟩)⟩
theorem qE_X9_4 : q_kok qT qTX RX9 (21, 0, 10, 2, 1) := by
  unfold q_kok
  exact ⟨(RX9, TX9, 6), "DurableLoom$Task", rfl, by decide, (q_up_r55 4 rfl), Or.inl rfl, Or.inr (Or.inl ⟨rfl, rfl, rfl⟩)⟩
theorem qE_X9_5 : q_kok qT qTX RX9 (24, 0, 7, 16, 2) := by
  unfold q_kok
  exact ⟨(RX6, TX6, 20), "DurableLoom$Run", rfl, by decide, (q_up_r55 5 rfl), Or.inl rfl, Or.inr (Or.inr rfl)⟩
theorem qE_X9_6 : q_kok qT qTX RX9 (30, 0, 3, 2, 0) := by
  unfold q_kok
  exact ⟨(RX2, TX2, 5), "DurableLoom$History", rfl, by decide, (q_up_r55 6 rfl), Or.inl rfl, Or.inl ⟨rfl, rfl⟩⟩
theorem qE_X9_7 : q_kok qT qTX RX9 (35, 0, 10, 3, 1) := by
  unfold q_kok
  exact ⟨(RX9, TX9, 6), "DurableLoom$Task", rfl, by decide, (q_up_r55 7 rfl), Or.inl rfl, Or.inr (Or.inl ⟨rfl, rfl, rfl⟩)⟩
theorem qE_X9_8 : q_kok qT qTX RX9 (36, 1, 69, 0, 7) := by
  unfold q_kok
  exact ⟨qM_X6_mark, (RX6, TX6, 20), rfl, rfl, rfl, rfl, (q_up_r55 9 rfl), (q_up_r55 10 rfl), (q_up_r55 11 rfl), ⟨by decide +kernel, ⟨by decide +kernel, by decide +kernel⟩, (q_up_r20 0 rfl)⟩⟩
theorem qE_X9_9 : q_kok qT qTX RX9 (40, 0, 10, 4, 1) := by
  unfold q_kok
  exact ⟨(RX9, TX9, 6), "DurableLoom$Task", rfl, by decide, (q_up_r55 8 rfl), Or.inl rfl, Or.inr (Or.inl ⟨rfl, rfl, rfl⟩)⟩
theorem qE_X10_0 : q_kok qT qTX RX10 (1, 4, 0, 0, 0) := by
  unfold q_kok
  exact ⟨(q_up_r6 18 rfl), (q_up_r1 11 rfl), (q_up_r1 12 rfl)⟩
theorem qE_X10_1 : q_kok qT qTX RX10 (7, 5, 0, 3, 0) := by
  unfold q_kok
  exact ⟨(RJx4a65c, TJx4a65c, 3), rfl, rfl, (q_up_r6 19 rfl), (q_up_r1 18 rfl), (q_up_r1 19 rfl)⟩
theorem qE_X10_2 : q_kok qT qTX RX10 (9, 3, 323, 0, 0) := by
  unfold q_kok
  exact ⟨qM_Jx4a65c_init_da8c8, rfl, rfl, rfl, rfl, (q_up_r7 0 rfl), (q_up_r3 0 rfl), ⟨by decide +kernel, ⟨by decide +kernel, by decide +kernel⟩, (q_up_r1 19 rfl)⟩⟩
theorem qE_X10_3 : q_kok qT qTX RX10 (10, 0, 11, 0, 1) := by
  unfold q_kok
  exact ⟨(RX10, TX10, 3), "DurableLoom$Type", rfl, by decide, (q_up_r6 20 rfl), Or.inl rfl, Or.inr (Or.inl ⟨rfl, rfl, rfl⟩)⟩
theorem qE_X10_4 : q_kok qT qTX RX10 (200016, 16, 6, 0, 0) := by
  unfold q_kok
  exact Or.inr ⟨(RX5, TX5, 3), rfl, (q_up_r6 21 rfl)⟩
theorem qE_X10_5 : q_kok qT qTX RX10 (16, 5, 6, 3, 0) := by
  unfold q_kok
  exact ⟨(RX5, TX5, 3), rfl, rfl, (q_up_r6 21 rfl), (q_up_r2 5 rfl), (q_up_r2 6 rfl)⟩
theorem qE_X10_6 : q_kok qT qTX RX10 (18, 15, 57, 0, 0) := by
  unfold q_kok
  exact ⟨qM_X5_init, rfl, rfl, rfl, rfl, List.mem_of_getElem? (i := 6) rfl, (q_up_r3 14 rfl), ⟨by decide +kernel, ⟨by decide +kernel, by decide +kernel⟩, (q_up_r2 6 rfl)⟩⟩
theorem qE_X10_7 : q_kok qT qTX RX10 (19, 0, 11, 1, 0) := by
  unfold q_kok
  exact ⟨(RX10, TX10, 3), "DurableLoom$Type", rfl, by decide, (q_up_r6 22 rfl), Or.inl rfl, Or.inl ⟨rfl, rfl⟩⟩
theorem qE_X10_8 : q_kok qT qTX RX10 (23, 0, 11, 2, 0) := by
  unfold q_kok
  exact ⟨(RX10, TX10, 3), "DurableLoom$Type", rfl, by decide, (q_up_r6 23 rfl), Or.inl rfl, Or.inl ⟨rfl, rfl⟩⟩
theorem qE_X10_9 : q_kok qT qTX RX10 (27, 7, 1000000, 0, 0) := by
  unfold q_kok
  exact (q_up_r12 20 rfl)
theorem qE_X10_10 : q_kok qT qTX RX10 (28, 1, 326, 0, 0) := by
  unfold q_kok
  exact ⟨qM_Jx4a65c_size_8abf5, (RJx4a65c, TJx4a65c, 3), rfl, rfl, rfl, rfl, (q_up_r26 9 rfl), (q_up_r14 14 rfl), (q_up_r14 15 rfl), ⟨by decide +kernel, ⟨by decide +kernel, by decide +kernel⟩, (q_up_r1 19 rfl)⟩⟩
theorem qE_X10_11 : q_kok qT qTX RX10 (32, 1, 329, 1, 0) := by
  unfold q_kok
  exact ⟨qM_Jx4a65c_get_915e3, (RJx4a65c, TJx4a65c, 3), rfl, rfl, rfl, rfl, (q_up_r26 10 rfl), (q_up_r23 18 rfl), (q_up_r23 19 rfl), ⟨by decide +kernel, ⟨by decide +kernel, by decide +kernel⟩, (q_up_r1 19 rfl)⟩⟩
theorem qE_X10_12 : q_kok qT qTX RX10 (36, 1, 331, 1, 0) := by
  unfold q_kok
  exact ⟨qM_Jx4a65c_add_9ea2d, (RJx4a65c, TJx4a65c, 3), rfl, rfl, rfl, rfl, (q_up_r14 22 rfl), (q_up_r14 23 rfl), (q_up_r15 0 rfl), ⟨by decide +kernel, ⟨by decide +kernel, by decide +kernel⟩, (q_up_r1 19 rfl)⟩⟩
theorem qE_L_0 : q_kok qT qTX RL (7, 1, 100, 4, 12) := by
  unfold q_kok
  exact ⟨qM_X11_line, (RX11, TX11, 18), rfl, rfl, rfl, rfl, (q_up_r11 23 rfl), (q_up_r12 0 rfl), (q_up_r12 1 rfl), ⟨by decide +kernel, ⟨by decide +kernel, by decide +kernel⟩, (q_up_r1 2 rfl)⟩⟩
theorem qE_L_1 : q_kok qT qTX RL (8, 5, 12, 18, 0) := by
  unfold q_kok
  exact ⟨(RX11, TX11, 18), rfl, rfl, (q_up_r1 0 rfl), (q_up_r1 1 rfl), (q_up_r1 2 rfl)⟩
theorem qE_L_2 : q_kok qT qTX RL (13, 12, 0, 0, 0) := by
  unfold q_kok
  exact ⟨by decide, (q_up_r11 22 rfl)⟩
theorem qE_L_3 : q_kok qT qTX RL (15, 12, 1, 0, 0) := by
  unfold q_kok
  exact ⟨by decide, (q_up_r52 10 rfl)⟩
theorem qE_L_4 : q_kok qT qTX RL (17, 12, 2, 0, 0) := by
  unfold q_kok
  exact ⟨by decide, (q_up_r76 20 rfl)⟩
theorem qE_L_5 : q_kok qT qTX RL (19, 1, 101, 1, 12) := by
  unfold q_kok
  exact ⟨qM_X11_deploy, (RX11, TX11, 18), rfl, rfl, rfl, rfl, (q_up_r14 8 rfl), (q_up_r14 9 rfl), (q_up_r14 10 rfl), ⟨by decide +kernel, ⟨by decide +kernel, by decide +kernel⟩, (q_up_r1 2 rfl)⟩⟩
theorem qE_L_6 : q_kok qT qTX RL (23, 1, 102, 6, 12) := by
  unfold q_kok
  exact ⟨qM_X11_setKind, (RX11, TX11, 18), rfl, rfl, rfl, rfl, (q_up_r17 9 rfl), (q_up_r17 10 rfl), (q_up_r17 11 rfl), ⟨by decide +kernel, ⟨by decide +kernel, by decide +kernel⟩, (q_up_r1 2 rfl)⟩⟩
theorem qE_L_7 : q_kok qT qTX RL (27, 1, 103, 2, 12) := by
  unfold q_kok
  exact ⟨qM_X11_setPolicy, (RX11, TX11, 18), rfl, rfl, rfl, rfl, (q_up_r18 5 rfl), (q_up_r18 6 rfl), (q_up_r18 7 rfl), ⟨by decide +kernel, ⟨by decide +kernel, by decide +kernel⟩, (q_up_r1 2 rfl)⟩⟩
theorem qE_L_8 : q_kok qT qTX RL (31, 1, 104, 3, 12) := by
  unfold q_kok
  exact ⟨qM_X11_begin, (RX11, TX11, 18), rfl, rfl, rfl, rfl, (q_up_r18 17 rfl), (q_up_r18 18 rfl), (q_up_r18 19 rfl), ⟨by decide +kernel, ⟨by decide +kernel, by decide +kernel⟩, (q_up_r1 2 rfl)⟩⟩
theorem qE_L_9 : q_kok qT qTX RL (35, 1, 105, 3, 12) := by
  unfold q_kok
  exact ⟨qM_X11_signal, (RX11, TX11, 18), rfl, rfl, rfl, rfl, (q_up_r23 7 rfl), (q_up_r23 8 rfl), (q_up_r23 9 rfl), ⟨by decide +kernel, ⟨by decide +kernel, by decide +kernel⟩, (q_up_r1 2 rfl)⟩⟩
theorem qE_L_10 : q_kok qT qTX RL (38, 1, 106, 3, 12) := by
  unfold q_kok
  exact ⟨qM_X11_update, (RX11, TX11, 18), rfl, rfl, rfl, rfl, (q_up_r25 11 rfl), (q_up_r25 12 rfl), (q_up_r25 13 rfl), ⟨by decide +kernel, ⟨by decide +kernel, by decide +kernel⟩, (q_up_r1 2 rfl)⟩⟩
theorem qE_L_11 : q_kok qT qTX RL (42, 1, 107, 1, 12) := by
  unfold q_kok
  exact ⟨qM_X11_cancel, (RX11, TX11, 18), rfl, rfl, rfl, rfl, (q_up_r47 21 rfl), (q_up_r47 22 rfl), (q_up_r47 23 rfl), ⟨by decide +kernel, ⟨by decide +kernel, by decide +kernel⟩, (q_up_r1 2 rfl)⟩⟩
theorem qE_L_12 : q_kok qT qTX RL (46, 1, 108, 2, 12) := by
  unfold q_kok
  exact ⟨qM_X11_query, (RX11, TX11, 18), rfl, rfl, rfl, rfl, (q_up_r49 0 rfl), (q_up_r49 1 rfl), (q_up_r49 2 rfl), ⟨by decide +kernel, ⟨by decide +kernel, by decide +kernel⟩, (q_up_r1 2 rfl)⟩⟩
theorem qE_L_13 : q_kok qT qTX RL (49, 1, 109, 2, 12) := by
  unfold q_kok
  exact ⟨qM_X11_plain, (RX11, TX11, 18), rfl, rfl, rfl, rfl, (q_up_r49 20 rfl), (q_up_r49 21 rfl), (q_up_r49 22 rfl), ⟨by decide +kernel, ⟨by decide +kernel, by decide +kernel⟩, (q_up_r1 2 rfl)⟩⟩
theorem qE_L_14 : q_kok qT qTX RL (52, 1, 110, 1, 12) := by
  unfold q_kok
  exact ⟨qM_X11_standing, (RX11, TX11, 18), rfl, rfl, rfl, rfl, (q_up_r50 7 rfl), (q_up_r50 8 rfl), (q_up_r50 9 rfl), ⟨by decide +kernel, ⟨by decide +kernel, by decide +kernel⟩, (q_up_r1 2 rfl)⟩⟩
theorem qE_L_15 : q_kok qT qTX RL (55, 1, 111, 2, 12) := by
  unfold q_kok
  exact ⟨qM_X11_event, (RX11, TX11, 18), rfl, rfl, rfl, rfl, (q_up_r50 18 rfl), (q_up_r50 19 rfl), (q_up_r50 20 rfl), ⟨by decide +kernel, ⟨by decide +kernel, by decide +kernel⟩, (q_up_r1 2 rfl)⟩⟩
theorem qE_L_16 : q_kok qT qTX RL (58, 1, 112, 1, 12) := by
  unfold q_kok
  exact ⟨qM_X11_difference, (RX11, TX11, 18), rfl, rfl, rfl, rfl, (q_up_r51 10 rfl), (q_up_r51 11 rfl), (q_up_r51 12 rfl), ⟨by decide +kernel, ⟨by decide +kernel, by decide +kernel⟩, (q_up_r1 2 rfl)⟩⟩
theorem qE_L_17 : q_kok qT qTX RL (61, 1, 114, 1, 12) := by
  unfold q_kok
  exact ⟨qM_X11_setRate, (RX11, TX11, 18), rfl, rfl, rfl, rfl, (q_up_r52 11 rfl), (q_up_r52 12 rfl), (q_up_r52 13 rfl), ⟨by decide +kernel, ⟨by decide +kernel, by decide +kernel⟩, (q_up_r1 2 rfl)⟩⟩
theorem qE_L_18 : q_kok qT qTX RL (64, 1, 115, 1, 12) := by
  unfold q_kok
  exact ⟨qM_X11_poll, (RX11, TX11, 18), rfl, rfl, rfl, rfl, (q_up_r52 22 rfl), (q_up_r52 23 rfl), (q_up_r53 0 rfl), ⟨by decide +kernel, ⟨by decide +kernel, by decide +kernel⟩, (q_up_r1 2 rfl)⟩⟩
theorem qE_L_19 : q_kok qT qTX RL (67, 1, 116, 1, 12) := by
  unfold q_kok
  exact ⟨qM_X11_complete, (RX11, TX11, 18), rfl, rfl, rfl, rfl, (q_up_r56 13 rfl), (q_up_r56 14 rfl), (q_up_r56 15 rfl), ⟨by decide +kernel, ⟨by decide +kernel, by decide +kernel⟩, (q_up_r1 2 rfl)⟩⟩
theorem qE_L_20 : q_kok qT qTX RL (70, 1, 117, 1, 12) := by
  unfold q_kok
  exact ⟨qM_X11_die, (RX11, TX11, 18), rfl, rfl, rfl, rfl, (q_up_r64 3 rfl), (q_up_r64 4 rfl), (q_up_r64 5 rfl), ⟨by decide +kernel, ⟨by decide +kernel, by decide +kernel⟩, (q_up_r1 2 rfl)⟩⟩
theorem qE_L_21 : q_kok qT qTX RL (73, 1, 118, 1, 12) := by
  unfold q_kok
  exact ⟨qM_X11_replays, (RX11, TX11, 18), rfl, rfl, rfl, rfl, (q_up_r64 14 rfl), (q_up_r64 15 rfl), (q_up_r64 16 rfl), ⟨by decide +kernel, ⟨by decide +kernel, by decide +kernel⟩, (q_up_r1 2 rfl)⟩⟩
theorem qE_L_22 : q_kok qT qTX RL (76, 1, 119, 1, 12) := by
  unfold q_kok
  exact ⟨qM_X11_take, (RX11, TX11, 18), rfl, rfl, rfl, rfl, (q_up_r65 1 rfl), (q_up_r65 2 rfl), (q_up_r65 3 rfl), ⟨by decide +kernel, ⟨by decide +kernel, by decide +kernel⟩, (q_up_r1 2 rfl)⟩⟩
theorem qE_L_23 : q_kok qT qTX RL (79, 1, 120, 2, 12) := by
  unfold q_kok
  exact ⟨qM_X11_answer, (RX11, TX11, 18), rfl, rfl, rfl, rfl, (q_up_r65 19 rfl), (q_up_r65 20 rfl), (q_up_r65 21 rfl), ⟨by decide +kernel, ⟨by decide +kernel, by decide +kernel⟩, (q_up_r1 2 rfl)⟩⟩
theorem qE_L_24 : q_kok qT qTX RL (83, 1, 121, 2, 12) := by
  unfold q_kok
  exact ⟨qM_X11_fail, (RX11, TX11, 18), rfl, rfl, rfl, rfl, (q_up_r66 14 rfl), (q_up_r66 15 rfl), (q_up_r66 16 rfl), ⟨by decide +kernel, ⟨by decide +kernel, by decide +kernel⟩, (q_up_r1 2 rfl)⟩⟩
theorem qE_L_25 : q_kok qT qTX RL (87, 1, 122, 2, 12) := by
  unfold q_kok
  exact ⟨qM_X11_beat, (RX11, TX11, 18), rfl, rfl, rfl, rfl, (q_up_r67 10 rfl), (q_up_r67 11 rfl), (q_up_r67 12 rfl), ⟨by decide +kernel, ⟨by decide +kernel, by decide +kernel⟩, (q_up_r1 2 rfl)⟩⟩
theorem qE_L_26 : q_kok qT qTX RL (90, 1, 123, 1, 12) := by
  unfold q_kok
  exact ⟨qM_X11_activity, (RX11, TX11, 18), rfl, rfl, rfl, rfl, (q_up_r67 23 rfl), (q_up_r68 0 rfl), (q_up_r68 1 rfl), ⟨by decide +kernel, ⟨by decide +kernel, by decide +kernel⟩, (q_up_r1 2 rfl)⟩⟩
theorem qE_L_27 : q_kok qT qTX RL (93, 1, 124, 1, 12) := by
  unfold q_kok
  exact ⟨qM_X11_pass, (RX11, TX11, 18), rfl, rfl, rfl, rfl, (q_up_r68 10 rfl), (q_up_r68 11 rfl), (q_up_r68 12 rfl), ⟨by decide +kernel, ⟨by decide +kernel, by decide +kernel⟩, (q_up_r1 2 rfl)⟩⟩
theorem qE_L_28 : q_kok qT qTX RL (96, 1, 125, 2, 12) := by
  unfold q_kok
  exact ⟨qM_X11_unsafe, (RX11, TX11, 18), rfl, rfl, rfl, rfl, (q_up_r72 10 rfl), (q_up_r72 11 rfl), (q_up_r72 12 rfl), ⟨by decide +kernel, ⟨by decide +kernel, by decide +kernel⟩, (q_up_r1 2 rfl)⟩⟩
theorem qE_L_29 : q_kok qT qTX RL (99, 1, 126, 2, 12) := by
  unfold q_kok
  exact ⟨qM_X11_move, (RX11, TX11, 18), rfl, rfl, rfl, rfl, (q_up_r73 5 rfl), (q_up_r73 6 rfl), (q_up_r73 7 rfl), ⟨by decide +kernel, ⟨by decide +kernel, by decide +kernel⟩, (q_up_r1 2 rfl)⟩⟩
theorem qE_L_30 : q_kok qT qTX RL (102, 1, 127, 2, 12) := by
  unfold q_kok
  exact ⟨qM_X11_setBack, (RX11, TX11, 18), rfl, rfl, rfl, rfl, (q_up_r73 16 rfl), (q_up_r73 17 rfl), (q_up_r73 18 rfl), ⟨by decide +kernel, ⟨by decide +kernel, by decide +kernel⟩, (q_up_r1 2 rfl)⟩⟩
theorem qE_L_31 : q_kok qT qTX RL (105, 1, 128, 2, 12) := by
  unfold q_kok
  exact ⟨qM_X11_copy, (RX11, TX11, 18), rfl, rfl, rfl, rfl, (q_up_r76 4 rfl), (q_up_r76 5 rfl), (q_up_r76 6 rfl), ⟨by decide +kernel, ⟨by decide +kernel, by decide +kernel⟩, (q_up_r1 2 rfl)⟩⟩
theorem qE_L_32 : q_kok qT qTX RL (108, 1, 129, 0, 12) := by
  unfold q_kok
  exact ⟨qM_X11_takeOver, (RX11, TX11, 18), rfl, rfl, rfl, rfl, (q_up_r76 21 rfl), (q_up_r76 22 rfl), (q_up_r76 23 rfl), ⟨by decide +kernel, ⟨by decide +kernel, by decide +kernel⟩, (q_up_r1 2 rfl)⟩⟩
theorem qE_L_33 : q_kok qT qTX RL (112, 1, 130, 0, 12) := by
  unfold q_kok
  exact ⟨qM_X11_join, (RX11, TX11, 18), rfl, rfl, rfl, rfl, (q_up_r77 21 rfl), (q_up_r77 22 rfl), (q_up_r77 23 rfl), ⟨by decide +kernel, ⟨by decide +kernel, by decide +kernel⟩, (q_up_r1 2 rfl)⟩⟩
theorem qE_L_34 : q_kok qT qTX RL (115, 1, 131, 4, 12) := by
  unfold q_kok
  exact ⟨qM_X11_schedule, (RX11, TX11, 18), rfl, rfl, rfl, rfl, (q_up_r78 8 rfl), (q_up_r78 9 rfl), (q_up_r78 10 rfl), ⟨by decide +kernel, ⟨by decide +kernel, by decide +kernel⟩, (q_up_r1 2 rfl)⟩⟩
theorem qE_L_35 : q_kok qT qTX RL (118, 1, 132, 1, 12) := by
  unfold q_kok
  exact ⟨qM_X11_togglePause, (RX11, TX11, 18), rfl, rfl, rfl, rfl, (q_up_r79 9 rfl), (q_up_r79 10 rfl), (q_up_r79 11 rfl), ⟨by decide +kernel, ⟨by decide +kernel, by decide +kernel⟩, (q_up_r1 2 rfl)⟩⟩
theorem qE_L_36 : q_kok qT qTX RL (121, 1, 133, 2, 12) := by
  unfold q_kok
  exact ⟨qM_X11_backfill, (RX11, TX11, 18), rfl, rfl, rfl, rfl, (q_up_r80 4 rfl), (q_up_r80 5 rfl), (q_up_r80 6 rfl), ⟨by decide +kernel, ⟨by decide +kernel, by decide +kernel⟩, (q_up_r1 2 rfl)⟩⟩
theorem qE_L_37 : q_kok qT qTX RL (124, 1, 134, 1, 12) := by
  unfold q_kok
  exact ⟨qM_X11_shift, (RX11, TX11, 18), rfl, rfl, rfl, rfl, (q_up_r80 20 rfl), (q_up_r80 21 rfl), (q_up_r80 22 rfl), ⟨by decide +kernel, ⟨by decide +kernel, by decide +kernel⟩, (q_up_r1 2 rfl)⟩⟩
theorem qE_L_38 : q_kok qT qTX RL (127, 1, 135, 1, 12) := by
  unfold q_kok
  exact ⟨qM_X11_bringIn, (RX11, TX11, 18), rfl, rfl, rfl, rfl, (q_up_r81 7 rfl), (q_up_r81 8 rfl), (q_up_r81 9 rfl), ⟨by decide +kernel, ⟨by decide +kernel, by decide +kernel⟩, (q_up_r1 2 rfl)⟩⟩
theorem qE_L_39 : q_kok qT qTX RL (130, 1, 136, 1, 12) := by
  unfold q_kok
  exact ⟨qM_X11_search, (RX11, TX11, 18), rfl, rfl, rfl, rfl, (q_up_r81 20 rfl), (q_up_r81 21 rfl), (q_up_r81 22 rfl), ⟨by decide +kernel, ⟨by decide +kernel, by decide +kernel⟩, (q_up_r1 2 rfl)⟩⟩
theorem qE_L_40 : q_kok qT qTX RL (133, 3, 99, 0, 0) := by
  unfold q_kok
  exact ⟨qM_X11_init, rfl, rfl, rfl, rfl, (q_up_r1 7 rfl), (q_up_r1 8 rfl), ⟨by decide +kernel, ⟨by decide +kernel, by decide +kernel⟩, (q_up_r1 2 rfl)⟩⟩
theorem qE_L_41 : q_kok qT qTX RL (134, 5, 13, 130, 0) := by
  unfold q_kok
  exact ⟨(RX12, TX12, 130), rfl, rfl, (q_up_r1 3 rfl), (q_up_r1 4 rfl), (q_up_r1 5 rfl)⟩
theorem qE_L_42 : q_kok qT qTX RL (136, 3, 184, 0, 0) := by
  unfold q_kok
  exact ⟨qM_X12_init, rfl, rfl, rfl, rfl, (q_up_r7 9 rfl), (q_up_r7 10 rfl), ⟨by decide +kernel, ⟨by decide +kernel, by decide +kernel⟩, (q_up_r1 5 rfl)⟩⟩
theorem qE_L_43 : q_kok qT qTX RL (137, 2, 340, 6, 0) := by
  unfold q_kok
  exact ⟨qM_L_line, rfl, (q_up_r11 18 rfl), (q_up_r11 19 rfl), ⟨by decide +kernel, ⟨by decide +kernel, by decide +kernel⟩, (q_up_r11 20 rfl)⟩⟩
theorem qE_L_44 : q_kok qT qTX RL (142, 1, 199, 4, 13) := by
  unfold q_kok
  exact ⟨qM_X12_line, (RX12, TX12, 130), rfl, rfl, rfl, rfl, (q_up_r13 1 rfl), (q_up_r13 2 rfl), (q_up_r13 3 rfl), ⟨by decide +kernel, ⟨by decide +kernel, by decide +kernel⟩, (q_up_r1 5 rfl)⟩⟩
theorem qE_L_45 : q_kok qT qTX RL (143, 1, 185, 0, 13) := by
  unfold q_kok
  exact ⟨qM_X12_thrown, (RX12, TX12, 130), rfl, rfl, rfl, rfl, (q_up_r14 1 rfl), (q_up_r14 2 rfl), (q_up_r14 3 rfl), ⟨by decide +kernel, ⟨by decide +kernel, by decide +kernel⟩, (q_up_r1 5 rfl)⟩⟩
theorem qE_L_46 : q_kok qT qTX RL (146, 2, 341, 3, 0) := by
  unfold q_kok
  exact ⟨qM_L_deploy, rfl, (q_up_r14 5 rfl), (q_up_r14 6 rfl), ⟨by decide +kernel, ⟨by decide +kernel, by decide +kernel⟩, (q_up_r11 20 rfl)⟩⟩
theorem qE_L_47 : q_kok qT qTX RL (149, 1, 200, 1, 13) := by
  unfold q_kok
  exact ⟨qM_X12_deploy, (RX12, TX12, 130), rfl, rfl, rfl, rfl, (q_up_r17 2 rfl), (q_up_r17 3 rfl), (q_up_r17 4 rfl), ⟨by decide +kernel, ⟨by decide +kernel, by decide +kernel⟩, (q_up_r1 5 rfl)⟩⟩
theorem qE_L_48 : q_kok qT qTX RL (150, 2, 342, 7, 0) := by
  unfold q_kok
  exact ⟨qM_L_setKind, rfl, (q_up_r17 6 rfl), (q_up_r17 7 rfl), ⟨by decide +kernel, ⟨by decide +kernel, by decide +kernel⟩, (q_up_r11 20 rfl)⟩⟩
theorem qE_L_49 : q_kok qT qTX RL (153, 1, 201, 6, 13) := by
  unfold q_kok
  exact ⟨qM_X12_setKind, (RX12, TX12, 130), rfl, rfl, rfl, rfl, (q_up_r17 22 rfl), (q_up_r17 23 rfl), (q_up_r18 0 rfl), ⟨by decide +kernel, ⟨by decide +kernel, by decide +kernel⟩, (q_up_r1 5 rfl)⟩⟩
theorem qE_L_50 : q_kok qT qTX RL (154, 2, 343, 4, 0) := by
  unfold q_kok
  exact ⟨qM_L_setPolicy, rfl, (q_up_r18 2 rfl), (q_up_r18 3 rfl), ⟨by decide +kernel, ⟨by decide +kernel, by decide +kernel⟩, (q_up_r11 20 rfl)⟩⟩
theorem qE_L_51 : q_kok qT qTX RL (157, 1, 202, 2, 13) := by
  unfold q_kok
  exact ⟨qM_X12_setPolicy, (RX12, TX12, 130), rfl, rfl, rfl, rfl, (q_up_r18 10 rfl), (q_up_r18 11 rfl), (q_up_r18 12 rfl), ⟨by decide +kernel, ⟨by decide +kernel, by decide +kernel⟩, (q_up_r1 5 rfl)⟩⟩
theorem qE_L_52 : q_kok qT qTX RL (158, 2, 344, 5, 0) := by
  unfold q_kok
  exact ⟨qM_L_begin, rfl, (q_up_r18 14 rfl), (q_up_r18 15 rfl), ⟨by decide +kernel, ⟨by decide +kernel, by decide +kernel⟩, (q_up_r11 20 rfl)⟩⟩
theorem qE_L_53 : q_kok qT qTX RL (161, 1, 258, 3, 13) := by
  unfold q_kok
  exact ⟨qM_X12_begin, (RX12, TX12, 130), rfl, rfl, rfl, rfl, (q_up_r21 19 rfl), (q_up_r21 20 rfl), (q_up_r21 21 rfl), ⟨by decide +kernel, ⟨by decide +kernel, by decide +kernel⟩, (q_up_r1 5 rfl)⟩⟩
theorem qE_L_54 : q_kok qT qTX RL (162, 2, 345, 5, 0) := by
  unfold q_kok
  exact ⟨qM_L_signal, rfl, (q_up_r23 4 rfl), (q_up_r23 5 rfl), ⟨by decide +kernel, ⟨by decide +kernel, by decide +kernel⟩, (q_up_r11 20 rfl)⟩⟩
theorem qE_L_55 : q_kok qT qTX RL (164, 1, 260, 3, 13) := by
  unfold q_kok
  exact ⟨qM_X12_signal, (RX12, TX12, 130), rfl, rfl, rfl, rfl, (q_up_r24 17 rfl), (q_up_r24 18 rfl), (q_up_r24 19 rfl), ⟨by decide +kernel, ⟨by decide +kernel, by decide +kernel⟩, (q_up_r1 5 rfl)⟩⟩
theorem qE_L_56 : q_kok qT qTX RL (165, 2, 346, 5, 0) := by
  unfold q_kok
  exact ⟨qM_L_update, rfl, (q_up_r25 8 rfl), (q_up_r25 9 rfl), ⟨by decide +kernel, ⟨by decide +kernel, by decide +kernel⟩, (q_up_r11 20 rfl)⟩⟩
theorem qE_L_57 : q_kok qT qTX RL (167, 1, 262, 3, 13) := by
  unfold q_kok
  exact ⟨qM_X12_update, (RX12, TX12, 130), rfl, rfl, rfl, rfl, (q_up_r39 19 rfl), (q_up_r39 20 rfl), (q_up_r39 21 rfl), ⟨by decide +kernel, ⟨by decide +kernel, by decide +kernel⟩, (q_up_r1 5 rfl)⟩⟩
theorem qE_L_58 : q_kok qT qTX RL (168, 2, 347, 3, 0) := by
  unfold q_kok
  exact ⟨qM_L_cancel, rfl, (q_up_r47 18 rfl), (q_up_r47 19 rfl), ⟨by decide +kernel, ⟨by decide +kernel, by decide +kernel⟩, (q_up_r11 20 rfl)⟩⟩
theorem qE_L_59 : q_kok qT qTX RL (170, 1, 263, 1, 13) := by
  unfold q_kok
  exact ⟨qM_X12_cancel, (RX12, TX12, 130), rfl, rfl, rfl, rfl, (q_up_r48 9 rfl), (q_up_r48 10 rfl), (q_up_r48 11 rfl), ⟨by decide +kernel, ⟨by decide +kernel, by decide +kernel⟩, (q_up_r1 5 rfl)⟩⟩
theorem qE_L_60 : q_kok qT qTX RL (171, 2, 348, 4, 0) := by
  unfold q_kok
  exact ⟨qM_L_query, rfl, (q_up_r48 21 rfl), (q_up_r48 22 rfl), ⟨by decide +kernel, ⟨by decide +kernel, by decide +kernel⟩, (q_up_r11 20 rfl)⟩⟩
theorem qE_L_61 : q_kok qT qTX RL (173, 1, 265, 2, 13) := by
  unfold q_kok
  exact ⟨qM_X12_query, (RX12, TX12, 130), rfl, rfl, rfl, rfl, (q_up_r49 9 rfl), (q_up_r49 10 rfl), (q_up_r49 11 rfl), ⟨by decide +kernel, ⟨by decide +kernel, by decide +kernel⟩, (q_up_r1 5 rfl)⟩⟩
theorem qE_L_62 : q_kok qT qTX RL (174, 2, 349, 4, 0) := by
  unfold q_kok
  exact ⟨qM_L_plain, rfl, (q_up_r49 17 rfl), (q_up_r49 18 rfl), ⟨by decide +kernel, ⟨by decide +kernel, by decide +kernel⟩, (q_up_r11 20 rfl)⟩⟩
theorem qE_L_63 : q_kok qT qTX RL (176, 1, 266, 2, 13) := by
  unfold q_kok
  exact ⟨qM_X12_plain, (RX12, TX12, 130), rfl, rfl, rfl, rfl, (q_up_r50 0 rfl), (q_up_r50 1 rfl), (q_up_r50 2 rfl), ⟨by decide +kernel, ⟨by decide +kernel, by decide +kernel⟩, (q_up_r1 5 rfl)⟩⟩
theorem qE_L_64 : q_kok qT qTX RL (177, 2, 350, 3, 0) := by
  unfold q_kok
  exact ⟨qM_L_standing, rfl, (q_up_r50 4 rfl), (q_up_r50 5 rfl), ⟨by decide +kernel, ⟨by decide +kernel, by decide +kernel⟩, (q_up_r11 20 rfl)⟩⟩
theorem qE_L_65 : q_kok qT qTX RL (179, 1, 267, 1, 13) := by
  unfold q_kok
  exact ⟨qM_X12_standing, (RX12, TX12, 130), rfl, rfl, rfl, rfl, (q_up_r50 11 rfl), (q_up_r50 12 rfl), (q_up_r50 13 rfl), ⟨by decide +kernel, ⟨by decide +kernel, by decide +kernel⟩, (q_up_r1 5 rfl)⟩⟩
theorem qE_L_66 : q_kok qT qTX RL (180, 2, 351, 4, 0) := by
  unfold q_kok
  exact ⟨qM_L_event, rfl, (q_up_r50 15 rfl), (q_up_r50 16 rfl), ⟨by decide +kernel, ⟨by decide +kernel, by decide +kernel⟩, (q_up_r11 20 rfl)⟩⟩
theorem qE_L_67 : q_kok qT qTX RL (182, 1, 268, 2, 13) := by
  unfold q_kok
  exact ⟨qM_X12_event, (RX12, TX12, 130), rfl, rfl, rfl, rfl, (q_up_r51 2 rfl), (q_up_r51 3 rfl), (q_up_r51 4 rfl), ⟨by decide +kernel, ⟨by decide +kernel, by decide +kernel⟩, (q_up_r1 5 rfl)⟩⟩
theorem qE_L_68 : q_kok qT qTX RL (183, 2, 352, 3, 0) := by
  unfold q_kok
  exact ⟨qM_L_difference, rfl, (q_up_r51 7 rfl), (q_up_r51 8 rfl), ⟨by decide +kernel, ⟨by decide +kernel, by decide +kernel⟩, (q_up_r11 20 rfl)⟩⟩
theorem qE_L_69 : q_kok qT qTX RL (185, 1, 269, 1, 13) := by
  unfold q_kok
  exact ⟨qM_X12_difference, (RX12, TX12, 130), rfl, rfl, rfl, rfl, (q_up_r51 15 rfl), (q_up_r51 16 rfl), (q_up_r51 17 rfl), ⟨by decide +kernel, ⟨by decide +kernel, by decide +kernel⟩, (q_up_r1 5 rfl)⟩⟩
theorem qE_L_70 : q_kok qT qTX RL (186, 1, 113, 0, 12) := by
  unfold q_kok
  exact ⟨qM_X11_runs, (RX11, TX11, 18), rfl, rfl, rfl, rfl, (q_up_r51 19 rfl), (q_up_r51 20 rfl), (q_up_r51 21 rfl), ⟨by decide +kernel, ⟨by decide +kernel, by decide +kernel⟩, (q_up_r1 2 rfl)⟩⟩
theorem qE_L_71 : q_kok qT qTX RL (189, 1, 270, 0, 13) := by
  unfold q_kok
  exact ⟨qM_X12_runs, (RX12, TX12, 130), rfl, rfl, rfl, rfl, (q_up_r51 23 rfl), (q_up_r52 0 rfl), (q_up_r52 1 rfl), ⟨by decide +kernel, ⟨by decide +kernel, by decide +kernel⟩, (q_up_r1 5 rfl)⟩⟩
theorem qE_L_72 : q_kok qT qTX RL (190, 2, 353, 3, 0) := by
  unfold q_kok
  exact ⟨qM_L_setRate, rfl, (q_up_r52 7 rfl), (q_up_r52 8 rfl), ⟨by decide +kernel, ⟨by decide +kernel, by decide +kernel⟩, (q_up_r11 20 rfl)⟩⟩
theorem qE_L_73 : q_kok qT qTX RL (192, 1, 271, 1, 13) := by
  unfold q_kok
  exact ⟨qM_X12_setRate, (RX12, TX12, 130), rfl, rfl, rfl, rfl, (q_up_r52 15 rfl), (q_up_r52 16 rfl), (q_up_r52 17 rfl), ⟨by decide +kernel, ⟨by decide +kernel, by decide +kernel⟩, (q_up_r1 5 rfl)⟩⟩
theorem qE_L_74 : q_kok qT qTX RL (193, 2, 354, 3, 0) := by
  unfold q_kok
  exact ⟨qM_L_poll, rfl, (q_up_r52 19 rfl), (q_up_r52 20 rfl), ⟨by decide +kernel, ⟨by decide +kernel, by decide +kernel⟩, (q_up_r11 20 rfl)⟩⟩
theorem qE_L_75 : q_kok qT qTX RL (195, 1, 276, 1, 13) := by
  unfold q_kok
  exact ⟨qM_X12_poll, (RX12, TX12, 130), rfl, rfl, rfl, rfl, (q_up_r55 14 rfl), (q_up_r55 15 rfl), (q_up_r55 16 rfl), ⟨by decide +kernel, ⟨by decide +kernel, by decide +kernel⟩, (q_up_r1 5 rfl)⟩⟩
theorem qE_L_76 : q_kok qT qTX RL (196, 2, 355, 3, 0) := by
  unfold q_kok
  exact ⟨qM_L_complete, rfl, (q_up_r56 10 rfl), (q_up_r56 11 rfl), ⟨by decide +kernel, ⟨by decide +kernel, by decide +kernel⟩, (q_up_r11 20 rfl)⟩⟩
theorem qE_L_77 : q_kok qT qTX RL (198, 1, 279, 1, 13) := by
  unfold q_kok
  exact ⟨qM_X12_complete, (RX12, TX12, 130), rfl, rfl, rfl, rfl, (q_up_r61 21 rfl), (q_up_r61 22 rfl), (q_up_r61 23 rfl), ⟨by decide +kernel, ⟨by decide +kernel, by decide +kernel⟩, (q_up_r1 5 rfl)⟩⟩
theorem qE_L_78 : q_kok qT qTX RL (199, 2, 356, 3, 0) := by
  unfold q_kok
  exact ⟨qM_L_die, rfl, (q_up_r64 0 rfl), (q_up_r64 1 rfl), ⟨by decide +kernel, ⟨by decide +kernel, by decide +kernel⟩, (q_up_r11 20 rfl)⟩⟩
theorem qE_L_79 : q_kok qT qTX RL (201, 1, 282, 1, 13) := by
  unfold q_kok
  exact ⟨qM_X12_die, (RX12, TX12, 130), rfl, rfl, rfl, rfl, (q_up_r64 7 rfl), (q_up_r64 8 rfl), (q_up_r64 9 rfl), ⟨by decide +kernel, ⟨by decide +kernel, by decide +kernel⟩, (q_up_r1 5 rfl)⟩⟩
theorem qE_L_80 : q_kok qT qTX RL (202, 2, 357, 3, 0) := by
  unfold q_kok
  exact ⟨qM_L_replays, rfl, (q_up_r64 11 rfl), (q_up_r64 12 rfl), ⟨by decide +kernel, ⟨by decide +kernel, by decide +kernel⟩, (q_up_r11 20 rfl)⟩⟩
theorem qE_L_81 : q_kok qT qTX RL (204, 1, 283, 1, 13) := by
  unfold q_kok
  exact ⟨qM_X12_replays, (RX12, TX12, 130), rfl, rfl, rfl, rfl, (q_up_r64 18 rfl), (q_up_r64 19 rfl), (q_up_r64 20 rfl), ⟨by decide +kernel, ⟨by decide +kernel, by decide +kernel⟩, (q_up_r1 5 rfl)⟩⟩
theorem qE_L_82 : q_kok qT qTX RL (205, 2, 358, 3, 0) := by
  unfold q_kok
  exact ⟨qM_L_take, rfl, (q_up_r64 22 rfl), (q_up_r64 23 rfl), ⟨by decide +kernel, ⟨by decide +kernel, by decide +kernel⟩, (q_up_r11 20 rfl)⟩⟩
theorem qE_L_83 : q_kok qT qTX RL (207, 1, 284, 1, 13) := by
  unfold q_kok
  exact ⟨qM_X12_take, (RX12, TX12, 130), rfl, rfl, rfl, rfl, (q_up_r65 12 rfl), (q_up_r65 13 rfl), (q_up_r65 14 rfl), ⟨by decide +kernel, ⟨by decide +kernel, by decide +kernel⟩, (q_up_r1 5 rfl)⟩⟩
theorem qE_L_84 : q_kok qT qTX RL (208, 2, 359, 4, 0) := by
  unfold q_kok
  exact ⟨qM_L_answer, rfl, (q_up_r65 16 rfl), (q_up_r65 17 rfl), ⟨by decide +kernel, ⟨by decide +kernel, by decide +kernel⟩, (q_up_r11 20 rfl)⟩⟩
theorem qE_L_85 : q_kok qT qTX RL (210, 1, 286, 2, 13) := by
  unfold q_kok
  exact ⟨qM_X12_answer, (RX12, TX12, 130), rfl, rfl, rfl, rfl, (q_up_r66 3 rfl), (q_up_r66 4 rfl), (q_up_r66 5 rfl), ⟨by decide +kernel, ⟨by decide +kernel, by decide +kernel⟩, (q_up_r1 5 rfl)⟩⟩
theorem qE_L_86 : q_kok qT qTX RL (211, 2, 360, 4, 0) := by
  unfold q_kok
  exact ⟨qM_L_fail, rfl, (q_up_r66 11 rfl), (q_up_r66 12 rfl), ⟨by decide +kernel, ⟨by decide +kernel, by decide +kernel⟩, (q_up_r11 20 rfl)⟩⟩
theorem qE_L_87 : q_kok qT qTX RL (214, 1, 288, 2, 13) := by
  unfold q_kok
  exact ⟨qM_X12_fail, (RX12, TX12, 130), rfl, rfl, rfl, rfl, (q_up_r66 23 rfl), (q_up_r67 0 rfl), (q_up_r67 1 rfl), ⟨by decide +kernel, ⟨by decide +kernel, by decide +kernel⟩, (q_up_r1 5 rfl)⟩⟩
theorem qE_L_88 : q_kok qT qTX RL (215, 2, 361, 4, 0) := by
  unfold q_kok
  exact ⟨qM_L_beat, rfl, (q_up_r67 7 rfl), (q_up_r67 8 rfl), ⟨by decide +kernel, ⟨by decide +kernel, by decide +kernel⟩, (q_up_r11 20 rfl)⟩⟩
theorem qE_L_89 : q_kok qT qTX RL (217, 1, 289, 2, 13) := by
  unfold q_kok
  exact ⟨qM_X12_beat, (RX12, TX12, 130), rfl, rfl, rfl, rfl, (q_up_r67 16 rfl), (q_up_r67 17 rfl), (q_up_r67 18 rfl), ⟨by decide +kernel, ⟨by decide +kernel, by decide +kernel⟩, (q_up_r1 5 rfl)⟩⟩
theorem qE_L_90 : q_kok qT qTX RL (218, 2, 362, 3, 0) := by
  unfold q_kok
  exact ⟨qM_L_activity, rfl, (q_up_r67 20 rfl), (q_up_r67 21 rfl), ⟨by decide +kernel, ⟨by decide +kernel, by decide +kernel⟩, (q_up_r11 20 rfl)⟩⟩
theorem qE_L_91 : q_kok qT qTX RL (220, 1, 290, 1, 13) := by
  unfold q_kok
  exact ⟨qM_X12_activity, (RX12, TX12, 130), rfl, rfl, rfl, rfl, (q_up_r68 3 rfl), (q_up_r68 4 rfl), (q_up_r68 5 rfl), ⟨by decide +kernel, ⟨by decide +kernel, by decide +kernel⟩, (q_up_r1 5 rfl)⟩⟩
theorem qE_L_92 : q_kok qT qTX RL (221, 2, 363, 3, 0) := by
  unfold q_kok
  exact ⟨qM_L_pass, rfl, (q_up_r68 7 rfl), (q_up_r68 8 rfl), ⟨by decide +kernel, ⟨by decide +kernel, by decide +kernel⟩, (q_up_r11 20 rfl)⟩⟩
theorem qE_L_93 : q_kok qT qTX RL (223, 1, 293, 1, 13) := by
  unfold q_kok
  exact ⟨qM_X12_pass, (RX12, TX12, 130), rfl, rfl, rfl, rfl, (q_up_r70 18 rfl), (q_up_r70 19 rfl), (q_up_r70 20 rfl), ⟨by decide +kernel, ⟨by decide +kernel, by decide +kernel⟩, (q_up_r1 5 rfl)⟩⟩
theorem qE_L_94 : q_kok qT qTX RL (224, 2, 364, 4, 0) := by
  unfold q_kok
  exact ⟨qM_L_unsafe, rfl, (q_up_r72 7 rfl), (q_up_r72 8 rfl), ⟨by decide +kernel, ⟨by decide +kernel, by decide +kernel⟩, (q_up_r11 20 rfl)⟩⟩
theorem qE_L_95 : q_kok qT qTX RL (226, 1, 295, 2, 13) := by
  unfold q_kok
  exact ⟨qM_X12_unsafe, (RX12, TX12, 130), rfl, rfl, rfl, rfl, (q_up_r72 18 rfl), (q_up_r72 19 rfl), (q_up_r72 20 rfl), ⟨by decide +kernel, ⟨by decide +kernel, by decide +kernel⟩, (q_up_r1 5 rfl)⟩⟩
theorem qE_L_96 : q_kok qT qTX RL (227, 2, 365, 4, 0) := by
  unfold q_kok
  exact ⟨qM_L_move, rfl, (q_up_r73 2 rfl), (q_up_r73 3 rfl), ⟨by decide +kernel, ⟨by decide +kernel, by decide +kernel⟩, (q_up_r11 20 rfl)⟩⟩
theorem qE_L_97 : q_kok qT qTX RL (229, 1, 296, 2, 13) := by
  unfold q_kok
  exact ⟨qM_X12_move, (RX12, TX12, 130), rfl, rfl, rfl, rfl, (q_up_r73 9 rfl), (q_up_r73 10 rfl), (q_up_r73 11 rfl), ⟨by decide +kernel, ⟨by decide +kernel, by decide +kernel⟩, (q_up_r1 5 rfl)⟩⟩
theorem qE_L_98 : q_kok qT qTX RL (230, 2, 366, 4, 0) := by
  unfold q_kok
  exact ⟨qM_L_setBack, rfl, (q_up_r73 13 rfl), (q_up_r73 14 rfl), ⟨by decide +kernel, ⟨by decide +kernel, by decide +kernel⟩, (q_up_r11 20 rfl)⟩⟩
theorem qE_L_99 : q_kok qT qTX RL (232, 1, 301, 2, 13) := by
  unfold q_kok
  exact ⟨qM_X12_setBack, (RX12, TX12, 130), rfl, rfl, rfl, rfl, (q_up_r75 1 rfl), (q_up_r75 2 rfl), (q_up_r75 3 rfl), ⟨by decide +kernel, ⟨by decide +kernel, by decide +kernel⟩, (q_up_r1 5 rfl)⟩⟩
theorem qE_L_100 : q_kok qT qTX RL (233, 2, 367, 4, 0) := by
  unfold q_kok
  exact ⟨qM_L_copy, rfl, (q_up_r76 1 rfl), (q_up_r76 2 rfl), ⟨by decide +kernel, ⟨by decide +kernel, by decide +kernel⟩, (q_up_r11 20 rfl)⟩⟩
theorem qE_L_101 : q_kok qT qTX RL (235, 1, 302, 2, 13) := by
  unfold q_kok
  exact ⟨qM_X12_copy, (RX12, TX12, 130), rfl, rfl, rfl, rfl, (q_up_r76 10 rfl), (q_up_r76 11 rfl), (q_up_r76 12 rfl), ⟨by decide +kernel, ⟨by decide +kernel, by decide +kernel⟩, (q_up_r1 5 rfl)⟩⟩
theorem qE_L_102 : q_kok qT qTX RL (236, 2, 368, 2, 0) := by
  unfold q_kok
  exact ⟨qM_L_takeOver, rfl, (q_up_r76 17 rfl), (q_up_r76 18 rfl), ⟨by decide +kernel, ⟨by decide +kernel, by decide +kernel⟩, (q_up_r11 20 rfl)⟩⟩
theorem qE_L_103 : q_kok qT qTX RL (239, 1, 304, 0, 13) := by
  unfold q_kok
  exact ⟨qM_X12_takeOver, (RX12, TX12, 130), rfl, rfl, rfl, rfl, (q_up_r77 8 rfl), (q_up_r77 9 rfl), (q_up_r77 10 rfl), ⟨by decide +kernel, ⟨by decide +kernel, by decide +kernel⟩, (q_up_r1 5 rfl)⟩⟩
theorem qE_L_104 : q_kok qT qTX RL (240, 2, 369, 2, 0) := by
  unfold q_kok
  exact ⟨qM_L_join, rfl, (q_up_r77 18 rfl), (q_up_r77 19 rfl), ⟨by decide +kernel, ⟨by decide +kernel, by decide +kernel⟩, (q_up_r11 20 rfl)⟩⟩
theorem qE_L_105 : q_kok qT qTX RL (242, 1, 305, 0, 13) := by
  unfold q_kok
  exact ⟨qM_X12_join, (RX12, TX12, 130), rfl, rfl, rfl, rfl, (q_up_r78 1 rfl), (q_up_r78 2 rfl), (q_up_r78 3 rfl), ⟨by decide +kernel, ⟨by decide +kernel, by decide +kernel⟩, (q_up_r1 5 rfl)⟩⟩
theorem qE_L_106 : q_kok qT qTX RL (243, 2, 370, 6, 0) := by
  unfold q_kok
  exact ⟨qM_L_schedule, rfl, (q_up_r78 5 rfl), (q_up_r78 6 rfl), ⟨by decide +kernel, ⟨by decide +kernel, by decide +kernel⟩, (q_up_r11 20 rfl)⟩⟩
theorem qE_L_107 : q_kok qT qTX RL (245, 1, 307, 4, 13) := by
  unfold q_kok
  exact ⟨qM_X12_schedule, (RX12, TX12, 130), rfl, rfl, rfl, rfl, (q_up_r79 2 rfl), (q_up_r79 3 rfl), (q_up_r79 4 rfl), ⟨by decide +kernel, ⟨by decide +kernel, by decide +kernel⟩, (q_up_r1 5 rfl)⟩⟩
theorem qE_L_108 : q_kok qT qTX RL (246, 2, 371, 3, 0) := by
  unfold q_kok
  exact ⟨qM_L_togglePause, rfl, (q_up_r79 6 rfl), (q_up_r79 7 rfl), ⟨by decide +kernel, ⟨by decide +kernel, by decide +kernel⟩, (q_up_r11 20 rfl)⟩⟩
theorem qE_L_109 : q_kok qT qTX RL (248, 1, 313, 1, 13) := by
  unfold q_kok
  exact ⟨qM_X12_togglePause, (RX12, TX12, 130), rfl, rfl, rfl, rfl, (q_up_r79 17 rfl), (q_up_r79 18 rfl), (q_up_r79 19 rfl), ⟨by decide +kernel, ⟨by decide +kernel, by decide +kernel⟩, (q_up_r1 5 rfl)⟩⟩
theorem qE_L_110 : q_kok qT qTX RL (249, 2, 372, 4, 0) := by
  unfold q_kok
  exact ⟨qM_L_backfill, rfl, (q_up_r80 1 rfl), (q_up_r80 2 rfl), ⟨by decide +kernel, ⟨by decide +kernel, by decide +kernel⟩, (q_up_r11 20 rfl)⟩⟩
theorem qE_L_111 : q_kok qT qTX RL (251, 1, 314, 2, 13) := by
  unfold q_kok
  exact ⟨qM_X12_backfill, (RX12, TX12, 130), rfl, rfl, rfl, rfl, (q_up_r80 13 rfl), (q_up_r80 14 rfl), (q_up_r80 15 rfl), ⟨by decide +kernel, ⟨by decide +kernel, by decide +kernel⟩, (q_up_r1 5 rfl)⟩⟩
theorem qE_L_112 : q_kok qT qTX RL (252, 2, 373, 3, 0) := by
  unfold q_kok
  exact ⟨qM_L_shift, rfl, (q_up_r80 17 rfl), (q_up_r80 18 rfl), ⟨by decide +kernel, ⟨by decide +kernel, by decide +kernel⟩, (q_up_r11 20 rfl)⟩⟩
theorem qE_L_113 : q_kok qT qTX RL (254, 1, 315, 1, 13) := by
  unfold q_kok
  exact ⟨qM_X12_shift, (RX12, TX12, 130), rfl, rfl, rfl, rfl, (q_up_r81 0 rfl), (q_up_r81 1 rfl), (q_up_r81 2 rfl), ⟨by decide +kernel, ⟨by decide +kernel, by decide +kernel⟩, (q_up_r1 5 rfl)⟩⟩
theorem qE_L_114 : q_kok qT qTX RL (255, 2, 374, 3, 0) := by
  unfold q_kok
  exact ⟨qM_L_bringIn, rfl, (q_up_r81 4 rfl), (q_up_r81 5 rfl), ⟨by decide +kernel, ⟨by decide +kernel, by decide +kernel⟩, (q_up_r11 20 rfl)⟩⟩
theorem qE_L_115 : q_kok qT qTX RL (257, 1, 316, 1, 13) := by
  unfold q_kok
  exact ⟨qM_X12_bringIn, (RX12, TX12, 130), rfl, rfl, rfl, rfl, (q_up_r81 12 rfl), (q_up_r81 13 rfl), (q_up_r81 14 rfl), ⟨by decide +kernel, ⟨by decide +kernel, by decide +kernel⟩, (q_up_r1 5 rfl)⟩⟩
theorem qE_L_116 : q_kok qT qTX RL (258, 2, 375, 3, 0) := by
  unfold q_kok
  exact ⟨qM_L_search, rfl, (q_up_r81 17 rfl), (q_up_r81 18 rfl), ⟨by decide +kernel, ⟨by decide +kernel, by decide +kernel⟩, (q_up_r11 20 rfl)⟩⟩
theorem qE_L_117 : q_kok qT qTX RL (260, 1, 317, 1, 13) := by
  unfold q_kok
  exact ⟨qM_X12_search, (RX12, TX12, 130), rfl, rfl, rfl, rfl, (q_up_r82 0 rfl), (q_up_r82 1 rfl), (q_up_r82 2 rfl), ⟨by decide +kernel, ⟨by decide +kernel, by decide +kernel⟩, (q_up_r1 5 rfl)⟩⟩
theorem qE_X12_0 : q_kok qT qTX RX12 (1, 4, 0, 0, 0) := by
  unfold q_kok
  exact ⟨(q_up_r7 12 rfl), (q_up_r1 11 rfl), (q_up_r1 12 rfl)⟩
theorem qE_X12_1 : q_kok qT qTX RX12 (7, 0, 13, 1, 1) := by
  unfold q_kok
  exact ⟨(RX12, TX12, 130), "DurableLoomModel", rfl, by decide, (q_up_r7 13 rfl), Or.inl rfl, Or.inr (Or.inl ⟨rfl, rfl, rfl⟩)⟩
theorem qE_X12_2 : q_kok qT qTX RX12 (13, 0, 13, 2, 1) := by
  unfold q_kok
  exact ⟨(RX12, TX12, 130), "DurableLoomModel", rfl, by decide, (q_up_r7 14 rfl), Or.inl rfl, Or.inr (Or.inl ⟨rfl, rfl, rfl⟩)⟩
theorem qE_X12_3 : q_kok qT qTX RX12 (16, 0, 13, 3, 1) := by
  unfold q_kok
  exact ⟨(RX12, TX12, 130), "DurableLoomModel", rfl, by decide, (q_up_r7 15 rfl), Or.inl rfl, Or.inr (Or.inl ⟨rfl, rfl, rfl⟩)⟩
theorem qE_X12_4 : q_kok qT qTX RX12 (19, 0, 13, 4, 1) := by
  unfold q_kok
  exact ⟨(RX12, TX12, 130), "DurableLoomModel", rfl, by decide, (q_up_r7 16 rfl), Or.inl rfl, Or.inr (Or.inl ⟨rfl, rfl, rfl⟩)⟩
theorem qE_X12_5 : q_kok qT qTX RX12 (22, 0, 13, 5, 1) := by
  unfold q_kok
  exact ⟨(RX12, TX12, 130), "DurableLoomModel", rfl, by decide, (q_up_r7 17 rfl), Or.inl rfl, Or.inr (Or.inl ⟨rfl, rfl, rfl⟩)⟩
theorem qE_X12_6 : q_kok qT qTX RX12 (25, 0, 13, 6, 1) := by
  unfold q_kok
  exact ⟨(RX12, TX12, 130), "DurableLoomModel", rfl, by decide, (q_up_r7 18 rfl), Or.inl rfl, Or.inr (Or.inl ⟨rfl, rfl, rfl⟩)⟩
theorem qE_X12_7 : q_kok qT qTX RX12 (28, 0, 13, 7, 1) := by
  unfold q_kok
  exact ⟨(RX12, TX12, 130), "DurableLoomModel", rfl, by decide, (q_up_r7 19 rfl), Or.inl rfl, Or.inr (Or.inl ⟨rfl, rfl, rfl⟩)⟩
theorem qE_X12_8 : q_kok qT qTX RX12 (31, 0, 13, 8, 1) := by
  unfold q_kok
  exact ⟨(RX12, TX12, 130), "DurableLoomModel", rfl, by decide, (q_up_r7 20 rfl), Or.inl rfl, Or.inr (Or.inl ⟨rfl, rfl, rfl⟩)⟩
theorem qE_X12_9 : q_kok qT qTX RX12 (34, 0, 13, 9, 1) := by
  unfold q_kok
  exact ⟨(RX12, TX12, 130), "DurableLoomModel", rfl, by decide, (q_up_r7 21 rfl), Or.inl rfl, Or.inr (Or.inl ⟨rfl, rfl, rfl⟩)⟩
theorem qE_X12_10 : q_kok qT qTX RX12 (37, 0, 13, 10, 1) := by
  unfold q_kok
  exact ⟨(RX12, TX12, 130), "DurableLoomModel", rfl, by decide, (q_up_r7 22 rfl), Or.inl rfl, Or.inr (Or.inl ⟨rfl, rfl, rfl⟩)⟩
theorem qE_X12_11 : q_kok qT qTX RX12 (40, 0, 13, 11, 1) := by
  unfold q_kok
  exact ⟨(RX12, TX12, 130), "DurableLoomModel", rfl, by decide, (q_up_r7 23 rfl), Or.inl rfl, Or.inr (Or.inl ⟨rfl, rfl, rfl⟩)⟩
theorem qE_X12_12 : q_kok qT qTX RX12 (43, 0, 13, 13, 1) := by
  unfold q_kok
  exact ⟨(RX12, TX12, 130), "DurableLoomModel", rfl, by decide, (q_up_r8 0 rfl), Or.inl rfl, Or.inr (Or.inl ⟨rfl, rfl, rfl⟩)⟩
theorem qE_X12_13 : q_kok qT qTX RX12 (46, 0, 13, 14, 1) := by
  unfold q_kok
  exact ⟨(RX12, TX12, 130), "DurableLoomModel", rfl, by decide, (q_up_r8 1 rfl), Or.inl rfl, Or.inr (Or.inl ⟨rfl, rfl, rfl⟩)⟩
theorem qE_X12_14 : q_kok qT qTX RX12 (49, 0, 13, 15, 1) := by
  unfold q_kok
  exact ⟨(RX12, TX12, 130), "DurableLoomModel", rfl, by decide, (q_up_r8 2 rfl), Or.inl rfl, Or.inr (Or.inl ⟨rfl, rfl, rfl⟩)⟩
theorem qE_X12_15 : q_kok qT qTX RX12 (52, 0, 13, 16, 1) := by
  unfold q_kok
  exact ⟨(RX12, TX12, 130), "DurableLoomModel", rfl, by decide, (q_up_r8 3 rfl), Or.inl rfl, Or.inr (Or.inl ⟨rfl, rfl, rfl⟩)⟩
theorem qE_X12_16 : q_kok qT qTX RX12 (55, 0, 13, 17, 1) := by
  unfold q_kok
  exact ⟨(RX12, TX12, 130), "DurableLoomModel", rfl, by decide, (q_up_r8 4 rfl), Or.inl rfl, Or.inr (Or.inl ⟨rfl, rfl, rfl⟩)⟩
theorem qE_X12_17 : q_kok qT qTX RX12 (58, 0, 13, 18, 1) := by
  unfold q_kok
  exact ⟨(RX12, TX12, 130), "DurableLoomModel", rfl, by decide, (q_up_r8 5 rfl), Or.inl rfl, Or.inr (Or.inl ⟨rfl, rfl, rfl⟩)⟩
theorem qE_X12_18 : q_kok qT qTX RX12 (61, 0, 13, 19, 1) := by
  unfold q_kok
  exact ⟨(RX12, TX12, 130), "DurableLoomModel", rfl, by decide, (q_up_r8 6 rfl), Or.inl rfl, Or.inr (Or.inl ⟨rfl, rfl, rfl⟩)⟩
theorem qE_X12_19 : q_kok qT qTX RX12 (64, 0, 13, 20, 1) := by
  unfold q_kok
  exact ⟨(RX12, TX12, 130), "DurableLoomModel", rfl, by decide, (q_up_r8 7 rfl), Or.inl rfl, Or.inr (Or.inl ⟨rfl, rfl, rfl⟩)⟩
theorem qE_X12_20 : q_kok qT qTX RX12 (67, 0, 13, 21, 1) := by
  unfold q_kok
  exact ⟨(RX12, TX12, 130), "DurableLoomModel", rfl, by decide, (q_up_r8 8 rfl), Or.inl rfl, Or.inr (Or.inl ⟨rfl, rfl, rfl⟩)⟩
theorem qE_X12_21 : q_kok qT qTX RX12 (70, 0, 13, 22, 1) := by
  unfold q_kok
  exact ⟨(RX12, TX12, 130), "DurableLoomModel", rfl, by decide, (q_up_r8 9 rfl), Or.inl rfl, Or.inr (Or.inl ⟨rfl, rfl, rfl⟩)⟩
theorem qE_X12_22 : q_kok qT qTX RX12 (73, 0, 13, 23, 1) := by
  unfold q_kok
  exact ⟨(RX12, TX12, 130), "DurableLoomModel", rfl, by decide, (q_up_r8 10 rfl), Or.inl rfl, Or.inr (Or.inl ⟨rfl, rfl, rfl⟩)⟩
theorem qE_X12_23 : q_kok qT qTX RX12 (76, 0, 13, 24, 1) := by
  unfold q_kok
  exact ⟨(RX12, TX12, 130), "DurableLoomModel", rfl, by decide, (q_up_r8 11 rfl), Or.inl rfl, Or.inr (Or.inl ⟨rfl, rfl, rfl⟩)⟩
theorem qE_X12_24 : q_kok qT qTX RX12 (79, 0, 13, 25, 1) := by
  unfold q_kok
  exact ⟨(RX12, TX12, 130), "DurableLoomModel", rfl, by decide, (q_up_r8 12 rfl), Or.inl rfl, Or.inr (Or.inl ⟨rfl, rfl, rfl⟩)⟩
theorem qE_X12_25 : q_kok qT qTX RX12 (82, 0, 13, 26, 1) := by
  unfold q_kok
  exact ⟨(RX12, TX12, 130), "DurableLoomModel", rfl, by decide, (q_up_r8 13 rfl), Or.inl rfl, Or.inr (Or.inl ⟨rfl, rfl, rfl⟩)⟩
theorem qE_X12_26 : q_kok qT qTX RX12 (85, 0, 13, 27, 1) := by
  unfold q_kok
  exact ⟨(RX12, TX12, 130), "DurableLoomModel", rfl, by decide, (q_up_r8 14 rfl), Or.inl rfl, Or.inr (Or.inl ⟨rfl, rfl, rfl⟩)⟩
theorem qE_X12_27 : q_kok qT qTX RX12 (88, 7, 1310720, 0, 0) := by
  unfold q_kok
  exact (q_up_r8 15 rfl)
theorem qE_X12_28 : q_kok qT qTX RX12 (89, 0, 13, 28, 1) := by
  unfold q_kok
  exact ⟨(RX12, TX12, 130), "DurableLoomModel", rfl, by decide, (q_up_r8 16 rfl), Or.inl rfl, Or.inr (Or.inl ⟨rfl, rfl, rfl⟩)⟩
theorem qE_X12_29 : q_kok qT qTX RX12 (93, 0, 13, 30, 0) := by
  unfold q_kok
  exact ⟨(RX12, TX12, 130), "DurableLoomModel", rfl, by decide, (q_up_r8 17 rfl), Or.inl rfl, Or.inl ⟨rfl, rfl⟩⟩
theorem qE_X12_30 : q_kok qT qTX RX12 (97, 7, 61440, 0, 0) := by
  unfold q_kok
  exact (q_up_r8 18 rfl)
theorem qE_X12_31 : q_kok qT qTX RX12 (98, 0, 13, 31, 1) := by
  unfold q_kok
  exact ⟨(RX12, TX12, 130), "DurableLoomModel", rfl, by decide, (q_up_r8 19 rfl), Or.inl rfl, Or.inr (Or.inl ⟨rfl, rfl, rfl⟩)⟩
theorem qE_X12_32 : q_kok qT qTX RX12 (101, 0, 13, 33, 1) := by
  unfold q_kok
  exact ⟨(RX12, TX12, 130), "DurableLoomModel", rfl, by decide, (q_up_r8 20 rfl), Or.inl rfl, Or.inr (Or.inl ⟨rfl, rfl, rfl⟩)⟩
theorem qE_X12_33 : q_kok qT qTX RX12 (104, 0, 13, 35, 1) := by
  unfold q_kok
  exact ⟨(RX12, TX12, 130), "DurableLoomModel", rfl, by decide, (q_up_r8 21 rfl), Or.inl rfl, Or.inr (Or.inl ⟨rfl, rfl, rfl⟩)⟩
theorem qE_X12_34 : q_kok qT qTX RX12 (107, 0, 13, 36, 1) := by
  unfold q_kok
  exact ⟨(RX12, TX12, 130), "DurableLoomModel", rfl, by decide, (q_up_r8 22 rfl), Or.inl rfl, Or.inr (Or.inl ⟨rfl, rfl, rfl⟩)⟩
theorem qE_X12_35 : q_kok qT qTX RX12 (110, 0, 13, 37, 1) := by
  unfold q_kok
  exact ⟨(RX12, TX12, 130), "DurableLoomModel", rfl, by decide, (q_up_r8 23 rfl), Or.inl rfl, Or.inr (Or.inl ⟨rfl, rfl, rfl⟩)⟩
theorem qE_X12_36 : q_kok qT qTX RX12 (113, 0, 13, 38, 1) := by
  unfold q_kok
  exact ⟨(RX12, TX12, 130), "DurableLoomModel", rfl, by decide, (q_up_r9 0 rfl), Or.inl rfl, Or.inr (Or.inl ⟨rfl, rfl, rfl⟩)⟩
theorem qE_X12_37 : q_kok qT qTX RX12 (116, 0, 13, 39, 1) := by
  unfold q_kok
  exact ⟨(RX12, TX12, 130), "DurableLoomModel", rfl, by decide, (q_up_r9 1 rfl), Or.inl rfl, Or.inr (Or.inl ⟨rfl, rfl, rfl⟩)⟩
theorem qE_X12_38 : q_kok qT qTX RX12 (119, 0, 13, 40, 1) := by
  unfold q_kok
  exact ⟨(RX12, TX12, 130), "DurableLoomModel", rfl, by decide, (q_up_r9 2 rfl), Or.inl rfl, Or.inr (Or.inl ⟨rfl, rfl, rfl⟩)⟩
theorem qE_X12_39 : q_kok qT qTX RX12 (122, 0, 13, 41, 1) := by
  unfold q_kok
  exact ⟨(RX12, TX12, 130), "DurableLoomModel", rfl, by decide, (q_up_r9 3 rfl), Or.inl rfl, Or.inr (Or.inl ⟨rfl, rfl, rfl⟩)⟩
theorem qE_X12_40 : q_kok qT qTX RX12 (125, 0, 13, 42, 1) := by
  unfold q_kok
  exact ⟨(RX12, TX12, 130), "DurableLoomModel", rfl, by decide, (q_up_r9 4 rfl), Or.inl rfl, Or.inr (Or.inl ⟨rfl, rfl, rfl⟩)⟩
theorem qE_X12_41 : q_kok qT qTX RX12 (128, 0, 13, 43, 1) := by
  unfold q_kok
  exact ⟨(RX12, TX12, 130), "DurableLoomModel", rfl, by decide, (q_up_r9 5 rfl), Or.inl rfl, Or.inr (Or.inl ⟨rfl, rfl, rfl⟩)⟩
theorem qE_X12_42 : q_kok qT qTX RX12 (131, 0, 13, 44, 1) := by
  unfold q_kok
  exact ⟨(RX12, TX12, 130), "DurableLoomModel", rfl, by decide, (q_up_r9 6 rfl), Or.inl rfl, Or.inr (Or.inl ⟨rfl, rfl, rfl⟩)⟩
theorem qE_X12_43 : q_kok qT qTX RX12 (134, 0, 13, 45, 1) := by
  unfold q_kok
  exact ⟨(RX12, TX12, 130), "DurableLoomModel", rfl, by decide, (q_up_r9 7 rfl), Or.inl rfl, Or.inr (Or.inl ⟨rfl, rfl, rfl⟩)⟩
theorem qE_X12_44 : q_kok qT qTX RX12 (137, 0, 13, 47, 1) := by
  unfold q_kok
  exact ⟨(RX12, TX12, 130), "DurableLoomModel", rfl, by decide, (q_up_r9 8 rfl), Or.inl rfl, Or.inr (Or.inl ⟨rfl, rfl, rfl⟩)⟩
theorem qE_X12_45 : q_kok qT qTX RX12 (140, 0, 13, 48, 1) := by
  unfold q_kok
  exact ⟨(RX12, TX12, 130), "DurableLoomModel", rfl, by decide, (q_up_r9 9 rfl), Or.inl rfl, Or.inr (Or.inl ⟨rfl, rfl, rfl⟩)⟩
theorem qE_X12_46 : q_kok qT qTX RX12 (143, 0, 13, 49, 1) := by
  unfold q_kok
  exact ⟨(RX12, TX12, 130), "DurableLoomModel", rfl, by decide, (q_up_r9 10 rfl), Or.inl rfl, Or.inr (Or.inl ⟨rfl, rfl, rfl⟩)⟩
theorem qE_X12_47 : q_kok qT qTX RX12 (146, 0, 13, 50, 0) := by
  unfold q_kok
  exact ⟨(RX12, TX12, 130), "DurableLoomModel", rfl, by decide, (q_up_r9 11 rfl), Or.inl rfl, Or.inl ⟨rfl, rfl⟩⟩
theorem qE_X12_48 : q_kok qT qTX RX12 (149, 0, 13, 52, 1) := by
  unfold q_kok
  exact ⟨(RX12, TX12, 130), "DurableLoomModel", rfl, by decide, (q_up_r9 12 rfl), Or.inl rfl, Or.inr (Or.inl ⟨rfl, rfl, rfl⟩)⟩
theorem qE_X12_49 : q_kok qT qTX RX12 (152, 0, 13, 53, 1) := by
  unfold q_kok
  exact ⟨(RX12, TX12, 130), "DurableLoomModel", rfl, by decide, (q_up_r9 13 rfl), Or.inl rfl, Or.inr (Or.inl ⟨rfl, rfl, rfl⟩)⟩
theorem qE_X12_50 : q_kok qT qTX RX12 (155, 0, 13, 54, 1) := by
  unfold q_kok
  exact ⟨(RX12, TX12, 130), "DurableLoomModel", rfl, by decide, (q_up_r9 14 rfl), Or.inl rfl, Or.inr (Or.inl ⟨rfl, rfl, rfl⟩)⟩
theorem qE_X12_51 : q_kok qT qTX RX12 (158, 0, 13, 55, 1) := by
  unfold q_kok
  exact ⟨(RX12, TX12, 130), "DurableLoomModel", rfl, by decide, (q_up_r9 15 rfl), Or.inl rfl, Or.inr (Or.inl ⟨rfl, rfl, rfl⟩)⟩
theorem qE_X12_52 : q_kok qT qTX RX12 (161, 0, 13, 56, 1) := by
  unfold q_kok
  exact ⟨(RX12, TX12, 130), "DurableLoomModel", rfl, by decide, (q_up_r9 16 rfl), Or.inl rfl, Or.inr (Or.inl ⟨rfl, rfl, rfl⟩)⟩
theorem qE_X12_53 : q_kok qT qTX RX12 (164, 0, 13, 57, 1) := by
  unfold q_kok
  exact ⟨(RX12, TX12, 130), "DurableLoomModel", rfl, by decide, (q_up_r9 17 rfl), Or.inl rfl, Or.inr (Or.inl ⟨rfl, rfl, rfl⟩)⟩
theorem qE_X12_54 : q_kok qT qTX RX12 (167, 0, 13, 58, 1) := by
  unfold q_kok
  exact ⟨(RX12, TX12, 130), "DurableLoomModel", rfl, by decide, (q_up_r9 18 rfl), Or.inl rfl, Or.inr (Or.inl ⟨rfl, rfl, rfl⟩)⟩
theorem qE_X12_55 : q_kok qT qTX RX12 (170, 0, 13, 59, 1) := by
  unfold q_kok
  exact ⟨(RX12, TX12, 130), "DurableLoomModel", rfl, by decide, (q_up_r9 20 rfl), Or.inl rfl, Or.inr (Or.inl ⟨rfl, rfl, rfl⟩)⟩
theorem qE_X12_56 : q_kok qT qTX RX12 (174, 0, 13, 60, 1) := by
  unfold q_kok
  exact ⟨(RX12, TX12, 130), "DurableLoomModel", rfl, by decide, (q_up_r9 21 rfl), Or.inl rfl, Or.inr (Or.inl ⟨rfl, rfl, rfl⟩)⟩
theorem qE_X12_57 : q_kok qT qTX RX12 (177, 0, 13, 61, 1) := by
  unfold q_kok
  exact ⟨(RX12, TX12, 130), "DurableLoomModel", rfl, by decide, (q_up_r9 22 rfl), Or.inl rfl, Or.inr (Or.inl ⟨rfl, rfl, rfl⟩)⟩
theorem qE_X12_58 : q_kok qT qTX RX12 (180, 0, 13, 62, 1) := by
  unfold q_kok
  exact ⟨(RX12, TX12, 130), "DurableLoomModel", rfl, by decide, (q_up_r9 23 rfl), Or.inl rfl, Or.inr (Or.inl ⟨rfl, rfl, rfl⟩)⟩
theorem qE_X12_59 : q_kok qT qTX RX12 (183, 0, 13, 63, 1) := by
  unfold q_kok
  exact ⟨(RX12, TX12, 130), "DurableLoomModel", rfl, by decide, (q_up_r10 0 rfl), Or.inl rfl, Or.inr (Or.inl ⟨rfl, rfl, rfl⟩)⟩
theorem qE_X12_60 : q_kok qT qTX RX12 (186, 0, 13, 64, 1) := by
  unfold q_kok
  exact ⟨(RX12, TX12, 130), "DurableLoomModel", rfl, by decide, (q_up_r10 1 rfl), Or.inl rfl, Or.inr (Or.inl ⟨rfl, rfl, rfl⟩)⟩
theorem qE_X12_61 : q_kok qT qTX RX12 (189, 0, 13, 65, 1) := by
  unfold q_kok
  exact ⟨(RX12, TX12, 130), "DurableLoomModel", rfl, by decide, (q_up_r10 2 rfl), Or.inl rfl, Or.inr (Or.inl ⟨rfl, rfl, rfl⟩)⟩
theorem qE_X12_62 : q_kok qT qTX RX12 (192, 0, 13, 66, 1) := by
  unfold q_kok
  exact ⟨(RX12, TX12, 130), "DurableLoomModel", rfl, by decide, (q_up_r10 3 rfl), Or.inl rfl, Or.inr (Or.inl ⟨rfl, rfl, rfl⟩)⟩
theorem qE_X12_63 : q_kok qT qTX RX12 (195, 0, 13, 67, 1) := by
  unfold q_kok
  exact ⟨(RX12, TX12, 130), "DurableLoomModel", rfl, by decide, (q_up_r10 4 rfl), Or.inl rfl, Or.inr (Or.inl ⟨rfl, rfl, rfl⟩)⟩
theorem qE_X12_64 : q_kok qT qTX RX12 (198, 0, 13, 70, 1) := by
  unfold q_kok
  exact ⟨(RX12, TX12, 130), "DurableLoomModel", rfl, by decide, (q_up_r10 5 rfl), Or.inl rfl, Or.inr (Or.inl ⟨rfl, rfl, rfl⟩)⟩
theorem qE_X12_65 : q_kok qT qTX RX12 (201, 0, 13, 71, 1) := by
  unfold q_kok
  exact ⟨(RX12, TX12, 130), "DurableLoomModel", rfl, by decide, (q_up_r10 6 rfl), Or.inl rfl, Or.inr (Or.inl ⟨rfl, rfl, rfl⟩)⟩
theorem qE_X12_66 : q_kok qT qTX RX12 (204, 0, 13, 72, 1) := by
  unfold q_kok
  exact ⟨(RX12, TX12, 130), "DurableLoomModel", rfl, by decide, (q_up_r10 7 rfl), Or.inl rfl, Or.inr (Or.inl ⟨rfl, rfl, rfl⟩)⟩
theorem qE_X12_67 : q_kok qT qTX RX12 (207, 0, 13, 73, 1) := by
  unfold q_kok
  exact ⟨(RX12, TX12, 130), "DurableLoomModel", rfl, by decide, (q_up_r10 8 rfl), Or.inl rfl, Or.inr (Or.inl ⟨rfl, rfl, rfl⟩)⟩
theorem qE_X12_68 : q_kok qT qTX RX12 (210, 0, 13, 74, 1) := by
  unfold q_kok
  exact ⟨(RX12, TX12, 130), "DurableLoomModel", rfl, by decide, (q_up_r10 9 rfl), Or.inl rfl, Or.inr (Or.inl ⟨rfl, rfl, rfl⟩)⟩
theorem qE_X12_69 : q_kok qT qTX RX12 (213, 0, 13, 75, 1) := by
  unfold q_kok
  exact ⟨(RX12, TX12, 130), "DurableLoomModel", rfl, by decide, (q_up_r10 10 rfl), Or.inl rfl, Or.inr (Or.inl ⟨rfl, rfl, rfl⟩)⟩
theorem qE_X12_70 : q_kok qT qTX RX12 (216, 0, 13, 76, 1) := by
  unfold q_kok
  exact ⟨(RX12, TX12, 130), "DurableLoomModel", rfl, by decide, (q_up_r10 11 rfl), Or.inl rfl, Or.inr (Or.inl ⟨rfl, rfl, rfl⟩)⟩
theorem qE_X12_71 : q_kok qT qTX RX12 (219, 0, 13, 77, 1) := by
  unfold q_kok
  exact ⟨(RX12, TX12, 130), "DurableLoomModel", rfl, by decide, (q_up_r10 12 rfl), Or.inl rfl, Or.inr (Or.inl ⟨rfl, rfl, rfl⟩)⟩
theorem qE_X12_72 : q_kok qT qTX RX12 (222, 0, 13, 78, 1) := by
  unfold q_kok
  exact ⟨(RX12, TX12, 130), "DurableLoomModel", rfl, by decide, (q_up_r10 13 rfl), Or.inl rfl, Or.inr (Or.inl ⟨rfl, rfl, rfl⟩)⟩
theorem qE_X12_73 : q_kok qT qTX RX12 (225, 7, 1048576, 0, 0) := by
  unfold q_kok
  exact (q_up_r10 14 rfl)
theorem qE_X12_74 : q_kok qT qTX RX12 (226, 0, 13, 81, 1) := by
  unfold q_kok
  exact ⟨(RX12, TX12, 130), "DurableLoomModel", rfl, by decide, (q_up_r10 15 rfl), Or.inl rfl, Or.inr (Or.inl ⟨rfl, rfl, rfl⟩)⟩
theorem qE_X12_75 : q_kok qT qTX RX12 (229, 0, 13, 82, 1) := by
  unfold q_kok
  exact ⟨(RX12, TX12, 130), "DurableLoomModel", rfl, by decide, (q_up_r10 16 rfl), Or.inl rfl, Or.inr (Or.inl ⟨rfl, rfl, rfl⟩)⟩
theorem qE_X12_76 : q_kok qT qTX RX12 (232, 0, 13, 85, 1) := by
  unfold q_kok
  exact ⟨(RX12, TX12, 130), "DurableLoomModel", rfl, by decide, (q_up_r10 17 rfl), Or.inl rfl, Or.inr (Or.inl ⟨rfl, rfl, rfl⟩)⟩
theorem qE_X12_77 : q_kok qT qTX RX12 (235, 0, 13, 86, 1) := by
  unfold q_kok
  exact ⟨(RX12, TX12, 130), "DurableLoomModel", rfl, by decide, (q_up_r10 18 rfl), Or.inl rfl, Or.inr (Or.inl ⟨rfl, rfl, rfl⟩)⟩
theorem qE_X12_78 : q_kok qT qTX RX12 (238, 0, 13, 87, 1) := by
  unfold q_kok
  exact ⟨(RX12, TX12, 130), "DurableLoomModel", rfl, by decide, (q_up_r10 19 rfl), Or.inl rfl, Or.inr (Or.inl ⟨rfl, rfl, rfl⟩)⟩
theorem qE_X12_79 : q_kok qT qTX RX12 (241, 0, 13, 90, 1) := by
  unfold q_kok
  exact ⟨(RX12, TX12, 130), "DurableLoomModel", rfl, by decide, (q_up_r10 20 rfl), Or.inl rfl, Or.inr (Or.inl ⟨rfl, rfl, rfl⟩)⟩
theorem qE_X12_80 : q_kok qT qTX RX12 (244, 0, 13, 93, 1) := by
  unfold q_kok
  exact ⟨(RX12, TX12, 130), "DurableLoomModel", rfl, by decide, (q_up_r10 21 rfl), Or.inl rfl, Or.inr (Or.inl ⟨rfl, rfl, rfl⟩)⟩
theorem qE_X12_81 : q_kok qT qTX RX12 (247, 0, 13, 94, 1) := by
  unfold q_kok
  exact ⟨(RX12, TX12, 130), "DurableLoomModel", rfl, by decide, (q_up_r10 22 rfl), Or.inl rfl, Or.inr (Or.inl ⟨rfl, rfl, rfl⟩)⟩
theorem qE_X12_82 : q_kok qT qTX RX12 (250, 0, 13, 95, 1) := by
  unfold q_kok
  exact ⟨(RX12, TX12, 130), "DurableLoomModel", rfl, by decide, (q_up_r10 23 rfl), Or.inl rfl, Or.inr (Or.inl ⟨rfl, rfl, rfl⟩)⟩
theorem qE_X12_83 : q_kok qT qTX RX12 (253, 0, 13, 96, 1) := by
  unfold q_kok
  exact ⟨(RX12, TX12, 130), "DurableLoomModel", rfl, by decide, (q_up_r11 0 rfl), Or.inl rfl, Or.inr (Or.inl ⟨rfl, rfl, rfl⟩)⟩
theorem qE_X12_84 : q_kok qT qTX RX12 (256, 0, 13, 97, 1) := by
  unfold q_kok
  exact ⟨(RX12, TX12, 130), "DurableLoomModel", rfl, by decide, (q_up_r11 1 rfl), Or.inl rfl, Or.inr (Or.inl ⟨rfl, rfl, rfl⟩)⟩
theorem qE_X12_85 : q_kok qT qTX RX12 (259, 0, 13, 98, 1) := by
  unfold q_kok
  exact ⟨(RX12, TX12, 130), "DurableLoomModel", rfl, by decide, (q_up_r11 2 rfl), Or.inl rfl, Or.inr (Or.inl ⟨rfl, rfl, rfl⟩)⟩
theorem qE_X12_86 : q_kok qT qTX RX12 (262, 0, 13, 99, 1) := by
  unfold q_kok
  exact ⟨(RX12, TX12, 130), "DurableLoomModel", rfl, by decide, (q_up_r11 3 rfl), Or.inl rfl, Or.inr (Or.inl ⟨rfl, rfl, rfl⟩)⟩
theorem qE_X12_87 : q_kok qT qTX RX12 (265, 0, 13, 100, 1) := by
  unfold q_kok
  exact ⟨(RX12, TX12, 130), "DurableLoomModel", rfl, by decide, (q_up_r11 4 rfl), Or.inl rfl, Or.inr (Or.inl ⟨rfl, rfl, rfl⟩)⟩
theorem qE_X12_88 : q_kok qT qTX RX12 (268, 0, 13, 101, 1) := by
  unfold q_kok
  exact ⟨(RX12, TX12, 130), "DurableLoomModel", rfl, by decide, (q_up_r11 5 rfl), Or.inl rfl, Or.inr (Or.inl ⟨rfl, rfl, rfl⟩)⟩
theorem qE_X12_89 : q_kok qT qTX RX12 (271, 7, 196608, 0, 0) := by
  unfold q_kok
  exact (q_up_r11 6 rfl)
theorem qE_X12_90 : q_kok qT qTX RX12 (272, 0, 13, 102, 1) := by
  unfold q_kok
  exact ⟨(RX12, TX12, 130), "DurableLoomModel", rfl, by decide, (q_up_r11 7 rfl), Or.inl rfl, Or.inr (Or.inl ⟨rfl, rfl, rfl⟩)⟩
theorem qE_X12_91 : q_kok qT qTX RX12 (275, 0, 13, 104, 1) := by
  unfold q_kok
  exact ⟨(RX12, TX12, 130), "DurableLoomModel", rfl, by decide, (q_up_r11 8 rfl), Or.inl rfl, Or.inr (Or.inl ⟨rfl, rfl, rfl⟩)⟩
theorem qE_X12_92 : q_kok qT qTX RX12 (278, 0, 13, 106, 1) := by
  unfold q_kok
  exact ⟨(RX12, TX12, 130), "DurableLoomModel", rfl, by decide, (q_up_r11 9 rfl), Or.inl rfl, Or.inr (Or.inl ⟨rfl, rfl, rfl⟩)⟩
theorem qE_X12_93 : q_kok qT qTX RX12 (281, 0, 13, 107, 1) := by
  unfold q_kok
  exact ⟨(RX12, TX12, 130), "DurableLoomModel", rfl, by decide, (q_up_r11 10 rfl), Or.inl rfl, Or.inr (Or.inl ⟨rfl, rfl, rfl⟩)⟩
theorem qE_X12_94 : q_kok qT qTX RX12 (284, 0, 13, 108, 1) := by
  unfold q_kok
  exact ⟨(RX12, TX12, 130), "DurableLoomModel", rfl, by decide, (q_up_r11 11 rfl), Or.inl rfl, Or.inr (Or.inl ⟨rfl, rfl, rfl⟩)⟩
theorem qE_X12_95 : q_kok qT qTX RX12 (287, 0, 13, 109, 1) := by
  unfold q_kok
  exact ⟨(RX12, TX12, 130), "DurableLoomModel", rfl, by decide, (q_up_r11 12 rfl), Or.inl rfl, Or.inr (Or.inl ⟨rfl, rfl, rfl⟩)⟩
theorem qE_X12_96 : q_kok qT qTX RX12 (290, 7, 65536, 0, 0) := by
  unfold q_kok
  exact (q_up_r11 13 rfl)
theorem qE_X12_97 : q_kok qT qTX RX12 (291, 0, 13, 121, 1) := by
  unfold q_kok
  exact ⟨(RX12, TX12, 130), "DurableLoomModel", rfl, by decide, (q_up_r11 14 rfl), Or.inl rfl, Or.inr (Or.inl ⟨rfl, rfl, rfl⟩)⟩
theorem qE_X12_98 : q_kok qT qTX RX12 (294, 0, 13, 122, 1) := by
  unfold q_kok
  exact ⟨(RX12, TX12, 130), "DurableLoomModel", rfl, by decide, (q_up_r11 15 rfl), Or.inl rfl, Or.inr (Or.inl ⟨rfl, rfl, rfl⟩)⟩
theorem qE_X12_99 : q_kok qT qTX RX12 (297, 0, 13, 127, 1) := by
  unfold q_kok
  exact ⟨(RX12, TX12, 130), "DurableLoomModel", rfl, by decide, (q_up_r11 16 rfl), Or.inl rfl, Or.inr (Or.inl ⟨rfl, rfl, rfl⟩)⟩
theorem qE_X12_100 : q_kok qT qTX RX12 (300, 0, 13, 128, 1) := by
  unfold q_kok
  exact ⟨(RX12, TX12, 130), "DurableLoomModel", rfl, by decide, (q_up_r11 17 rfl), Or.inl rfl, Or.inr (Or.inl ⟨rfl, rfl, rfl⟩)⟩
theorem qE_X12_101 : q_kok qT qTX RX12 (303, 0, 13, 129, 0) := by
  unfold q_kok
  exact ⟨(RX12, TX12, 130), "DurableLoomModel", rfl, by decide, (q_up_r13 21 rfl), Or.inl rfl, Or.inl ⟨rfl, rfl⟩⟩
theorem qE_X12_102 : q_kok qT qTX RX12 (306, 2, 188, 3, 0) := by
  unfold q_kok
  exact ⟨qM_X12_isIn, rfl, (q_up_r13 8 rfl), (q_up_r13 9 rfl), ⟨by decide +kernel, ⟨by decide +kernel, by decide +kernel⟩, (q_up_r1 5 rfl)⟩⟩
theorem qE_X12_103 : q_kok qT qTX RX12 (310, 0, 13, 12, 0) := by
  unfold q_kok
  exact ⟨(RX12, TX12, 130), "DurableLoomModel", rfl, by decide, (q_up_r21 23 rfl), Or.inl rfl, Or.inl ⟨rfl, rfl⟩⟩
theorem qE_X12_104 : q_kok qT qTX RX12 (313, 2, 191, 1, 0) := by
  unfold q_kok
  exact ⟨qM_X12_isType, rfl, (q_up_r13 5 rfl), (q_up_r13 6 rfl), ⟨by decide +kernel, ⟨by decide +kernel, by decide +kernel⟩, (q_up_r1 5 rfl)⟩⟩
theorem qE_X12_105 : q_kok qT qTX RX12 (317, 2, 197, 1, 0) := by
  unfold q_kok
  exact ⟨qM_X12_mostA, rfl, (q_up_r13 11 rfl), (q_up_r13 12 rfl), ⟨by decide +kernel, ⟨by decide +kernel, by decide +kernel⟩, (q_up_r1 5 rfl)⟩⟩
theorem qE_X12_106 : q_kok qT qTX RX12 (321, 2, 198, 1, 0) := by
  unfold q_kok
  exact ⟨qM_X12_mostB, rfl, (q_up_r13 14 rfl), (q_up_r13 15 rfl), ⟨by decide +kernel, ⟨by decide +kernel, by decide +kernel⟩, (q_up_r1 5 rfl)⟩⟩
theorem qE_X12_107 : q_kok qT qTX RX12 (324, 1, 186, 1, 13) := by
  unfold q_kok
  exact ⟨qM_X12_fails, (RX12, TX12, 130), rfl, rfl, rfl, rfl, (q_up_r13 17 rfl), (q_up_r13 18 rfl), (q_up_r13 19 rfl), ⟨by decide +kernel, ⟨by decide +kernel, by decide +kernel⟩, (q_up_r1 5 rfl)⟩⟩
theorem qE_X12_108 : q_kok qT qTX RX12 (327, 2, 196, 2, 0) := by
  unfold q_kok
  exact ⟨qM_X12_code, rfl, (q_up_r13 22 rfl), (q_up_r13 23 rfl), ⟨by decide +kernel, ⟨by decide +kernel, by decide +kernel⟩, (q_up_r1 5 rfl)⟩⟩
theorem qE_X12_109 : q_kok qT qTX RX12 (331, 1, 203, 2, 13) := by
  unfold q_kok
  exact ⟨qM_X12_at, (RX12, TX12, 130), rfl, rfl, rfl, rfl, (q_up_r22 17 rfl), (q_up_r22 18 rfl), (q_up_r22 19 rfl), ⟨by decide +kernel, ⟨by decide +kernel, by decide +kernel⟩, (q_up_r1 5 rfl)⟩⟩
theorem qE_X12_110 : q_kok qT qTX RX12 (334, 8, 524287, 0, 0) := by
  unfold q_kok
  exact (q_up_r41 14 rfl)
theorem qE_X12_111 : q_kok qT qTX RX12 (336, 8, 536870911, 0, 0) := by
  unfold q_kok
  exact (q_up_r41 23 rfl)
theorem qE_X12_112 : q_kok qT qTX RX12 (338, 2, 190, 2, 0) := by
  unfold q_kok
  exact ⟨qM_X12_most, rfl, (q_up_r23 1 rfl), (q_up_r23 2 rfl), ⟨by decide +kernel, ⟨by decide +kernel, by decide +kernel⟩, (q_up_r1 5 rfl)⟩⟩
theorem qE_X12_113 : q_kok qT qTX RX12 (341, 1, 204, 2, 13) := by
  unfold q_kok
  exact ⟨qM_X12_kindAt, (RX12, TX12, 130), rfl, rfl, rfl, rfl, (q_up_r41 1 rfl), (q_up_r41 2 rfl), (q_up_r41 3 rfl), ⟨by decide +kernel, ⟨by decide +kernel, by decide +kernel⟩, (q_up_r1 5 rfl)⟩⟩
theorem qE_X12_114 : q_kok qT qTX RX12 (344, 1, 206, 2, 13) := by
  unfold q_kok
  exact ⟨qM_X12_xAt, (RX12, TX12, 130), rfl, rfl, rfl, rfl, (q_up_r41 10 rfl), (q_up_r41 11 rfl), (q_up_r41 12 rfl), ⟨by decide +kernel, ⟨by decide +kernel, by decide +kernel⟩, (q_up_r1 5 rfl)⟩⟩
theorem qE_X12_115 : q_kok qT qTX RX12 (347, 1, 208, 3, 13) := by
  unfold q_kok
  exact ⟨qM_X12_counts, (RX12, TX12, 130), rfl, rfl, rfl, rfl, (q_up_r22 21 rfl), (q_up_r22 22 rfl), (q_up_r22 23 rfl), ⟨by decide +kernel, ⟨by decide +kernel, by decide +kernel⟩, (q_up_r1 5 rfl)⟩⟩
theorem qE_X12_116 : q_kok qT qTX RX12 (351, 0, 13, 32, 0) := by
  unfold q_kok
  exact ⟨(RX12, TX12, 130), "DurableLoomModel", rfl, by decide, (q_up_r22 14 rfl), Or.inl rfl, Or.inl ⟨rfl, rfl⟩⟩
theorem qE_X12_117 : q_kok qT qTX RX12 (354, 0, 13, 29, 0) := by
  unfold q_kok
  exact ⟨(RX12, TX12, 130), "DurableLoomModel", rfl, by decide, (q_up_r22 15 rfl), Or.inl rfl, Or.inl ⟨rfl, rfl⟩⟩
theorem qE_X12_118 : q_kok qT qTX RX12 (357, 0, 13, 0, 0) := by
  unfold q_kok
  exact ⟨(RX12, TX12, 130), "DurableLoomModel", rfl, by decide, (q_up_r22 16 rfl), Or.inl rfl, Or.inl ⟨rfl, rfl⟩⟩
theorem qE_X12_119 : q_kok qT qTX RX12 (360, 1, 210, 4, 13) := by
  unfold q_kok
  exact ⟨qM_X12_puts, (RX12, TX12, 130), rfl, rfl, rfl, rfl, (q_up_r22 10 rfl), (q_up_r22 11 rfl), (q_up_r22 12 rfl), ⟨by decide +kernel, ⟨by decide +kernel, by decide +kernel⟩, (q_up_r1 5 rfl)⟩⟩
theorem qE_X12_120 : q_kok qT qTX RX12 (364, 1, 211, 2, 13) := by
  unfold q_kok
  exact ⟨qM_X12_hasCome, (RX12, TX12, 130), rfl, rfl, rfl, rfl, (q_up_r48 17 rfl), (q_up_r48 18 rfl), (q_up_r48 19 rfl), ⟨by decide +kernel, ⟨by decide +kernel, by decide +kernel⟩, (q_up_r1 5 rfl)⟩⟩
theorem qE_X12_121 : q_kok qT qTX RX12 (368, 0, 13, 91, 0) := by
  unfold q_kok
  exact ⟨(RX12, TX12, 130), "DurableLoomModel", rfl, by decide, (q_up_r40 13 rfl), Or.inl rfl, Or.inl ⟨rfl, rfl⟩⟩
theorem qE_X12_122 : q_kok qT qTX RX12 (371, 0, 13, 112, 0) := by
  unfold q_kok
  exact ⟨(RX12, TX12, 130), "DurableLoomModel", rfl, by decide, (q_up_r40 19 rfl), Or.inl rfl, Or.inl ⟨rfl, rfl⟩⟩
theorem qE_X12_123 : q_kok qT qTX RX12 (374, 0, 13, 114, 0) := by
  unfold q_kok
  exact ⟨(RX12, TX12, 130), "DurableLoomModel", rfl, by decide, (q_up_r40 3 rfl), Or.inl rfl, Or.inl ⟨rfl, rfl⟩⟩
theorem qE_X12_124 : q_kok qT qTX RX12 (378, 0, 13, 115, 0) := by
  unfold q_kok
  exact ⟨(RX12, TX12, 130), "DurableLoomModel", rfl, by decide, (q_up_r42 8 rfl), Or.inl rfl, Or.inl ⟨rfl, rfl⟩⟩
theorem qE_X12_125 : q_kok qT qTX RX12 (381, 0, 13, 116, 0) := by
  unfold q_kok
  exact ⟨(RX12, TX12, 130), "DurableLoomModel", rfl, by decide, (q_up_r40 20 rfl), Or.inl rfl, Or.inl ⟨rfl, rfl⟩⟩
theorem qE_X12_126 : q_kok qT qTX RX12 (384, 0, 13, 124, 0) := by
  unfold q_kok
  exact ⟨(RX12, TX12, 130), "DurableLoomModel", rfl, by decide, (q_up_r40 9 rfl), Or.inl rfl, Or.inl ⟨rfl, rfl⟩⟩
theorem qE_X12_127 : q_kok qT qTX RX12 (387, 0, 13, 88, 0) := by
  unfold q_kok
  exact ⟨(RX12, TX12, 130), "DurableLoomModel", rfl, by decide, (q_up_r40 8 rfl), Or.inl rfl, Or.inl ⟨rfl, rfl⟩⟩
theorem qE_X12_128 : q_kok qT qTX RX12 (390, 0, 13, 125, 0) := by
  unfold q_kok
  exact ⟨(RX12, TX12, 130), "DurableLoomModel", rfl, by decide, (q_up_r40 10 rfl), Or.inl rfl, Or.inl ⟨rfl, rfl⟩⟩
theorem qE_X12_129 : q_kok qT qTX RX12 (393, 1, 219, 0, 13) := by
  unfold q_kok
  exact ⟨qM_X12_nextCommand, (RX12, TX12, 130), rfl, rfl, rfl, rfl, (q_up_r43 5 rfl), (q_up_r43 6 rfl), (q_up_r43 7 rfl), ⟨by decide +kernel, ⟨by decide +kernel, by decide +kernel⟩, (q_up_r1 5 rfl)⟩⟩
theorem qE_X12_130 : q_kok qT qTX RX12 (397, 1, 205, 2, 13) := by
  unfold q_kok
  exact ⟨qM_X12_yAt, (RX12, TX12, 130), rfl, rfl, rfl, rfl, (q_up_r41 15 rfl), (q_up_r41 16 rfl), (q_up_r41 17 rfl), ⟨by decide +kernel, ⟨by decide +kernel, by decide +kernel⟩, (q_up_r1 5 rfl)⟩⟩
theorem qE_X12_131 : q_kok qT qTX RX12 (400, 1, 218, 1, 13) := by
  unfold q_kok
  exact ⟨qM_X12_differs, (RX12, TX12, 130), rfl, rfl, rfl, rfl, (q_up_r43 9 rfl), (q_up_r43 10 rfl), (q_up_r43 11 rfl), ⟨by decide +kernel, ⟨by decide +kernel, by decide +kernel⟩, (q_up_r1 5 rfl)⟩⟩
theorem qE_X12_132 : q_kok qT qTX RX12 (404, 0, 13, 117, 0) := by
  unfold q_kok
  exact ⟨(RX12, TX12, 130), "DurableLoomModel", rfl, by decide, (q_up_r40 21 rfl), Or.inl rfl, Or.inl ⟨rfl, rfl⟩⟩
theorem qE_X12_133 : q_kok qT qTX RX12 (407, 0, 13, 119, 0) := by
  unfold q_kok
  exact ⟨(RX12, TX12, 130), "DurableLoomModel", rfl, by decide, (q_up_r41 0 rfl), Or.inl rfl, Or.inl ⟨rfl, rfl⟩⟩
theorem qE_X12_134 : q_kok qT qTX RX12 (410, 1, 222, 0, 13) := by
  unfold q_kok
  exact ⟨qM_X12_firstTask, (RX12, TX12, 130), rfl, rfl, rfl, rfl, (q_up_r43 13 rfl), (q_up_r43 14 rfl), (q_up_r43 15 rfl), ⟨by decide +kernel, ⟨by decide +kernel, by decide +kernel⟩, (q_up_r1 5 rfl)⟩⟩
theorem qE_X12_135 : q_kok qT qTX RX12 (413, 1, 220, 0, 13) := by
  unfold q_kok
  exact ⟨qM_X12_nextLater, (RX12, TX12, 130), rfl, rfl, rfl, rfl, (q_up_r43 17 rfl), (q_up_r43 18 rfl), (q_up_r43 19 rfl), ⟨by decide +kernel, ⟨by decide +kernel, by decide +kernel⟩, (q_up_r1 5 rfl)⟩⟩
theorem qE_X12_136 : q_kok qT qTX RX12 (416, 0, 13, 120, 0) := by
  unfold q_kok
  exact ⟨(RX12, TX12, 130), "DurableLoomModel", rfl, by decide, (q_up_r40 22 rfl), Or.inl rfl, Or.inl ⟨rfl, rfl⟩⟩
theorem qE_X12_137 : q_kok qT qTX RX12 (419, 1, 217, 0, 13) := by
  unfold q_kok
  exact ⟨qM_X12_spins, (RX12, TX12, 130), rfl, rfl, rfl, rfl, (q_up_r42 4 rfl), (q_up_r42 5 rfl), (q_up_r42 6 rfl), ⟨by decide +kernel, ⟨by decide +kernel, by decide +kernel⟩, (q_up_r1 5 rfl)⟩⟩
theorem qE_X12_138 : q_kok qT qTX RX12 (422, 0, 13, 92, 0) := by
  unfold q_kok
  exact ⟨(RX12, TX12, 130), "DurableLoomModel", rfl, by decide, (q_up_r40 14 rfl), Or.inl rfl, Or.inl ⟨rfl, rfl⟩⟩
theorem qE_X12_139 : q_kok qT qTX RX12 (425, 1, 221, 3, 13) := by
  unfold q_kok
  exact ⟨qM_X12_commands, (RX12, TX12, 130), rfl, rfl, rfl, rfl, (q_up_r43 1 rfl), (q_up_r43 2 rfl), (q_up_r43 3 rfl), ⟨by decide +kernel, ⟨by decide +kernel, by decide +kernel⟩, (q_up_r1 5 rfl)⟩⟩
theorem qE_X12_140 : q_kok qT qTX RX12 (429, 1, 225, 2, 13) := by
  unfold q_kok
  exact ⟨qM_X12_endsRun, (RX12, TX12, 130), rfl, rfl, rfl, rfl, (q_up_r44 1 rfl), (q_up_r44 2 rfl), (q_up_r44 3 rfl), ⟨by decide +kernel, ⟨by decide +kernel, by decide +kernel⟩, (q_up_r1 5 rfl)⟩⟩
theorem qE_X12_141 : q_kok qT qTX RX12 (433, 1, 224, 1, 13) := by
  unfold q_kok
  exact ⟨qM_X12_removes, (RX12, TX12, 130), rfl, rfl, rfl, rfl, (q_up_r45 14 rfl), (q_up_r45 15 rfl), (q_up_r45 16 rfl), ⟨by decide +kernel, ⟨by decide +kernel, by decide +kernel⟩, (q_up_r1 5 rfl)⟩⟩
theorem qE_X12_142 : q_kok qT qTX RX12 (436, 1, 228, 1, 13) := by
  unfold q_kok
  exact ⟨qM_X12_lets, (RX12, TX12, 130), rfl, rfl, rfl, rfl, (q_up_r42 21 rfl), (q_up_r42 22 rfl), (q_up_r42 23 rfl), ⟨by decide +kernel, ⟨by decide +kernel, by decide +kernel⟩, (q_up_r1 5 rfl)⟩⟩
theorem qE_X12_143 : q_kok qT qTX RX12 (439, 1, 216, 0, 13) := by
  unfold q_kok
  exact ⟨qM_X12_goes, (RX12, TX12, 130), rfl, rfl, rfl, rfl, (q_up_r42 13 rfl), (q_up_r42 14 rfl), (q_up_r42 15 rfl), ⟨by decide +kernel, ⟨by decide +kernel, by decide +kernel⟩, (q_up_r1 5 rfl)⟩⟩
theorem qE_X12_144 : q_kok qT qTX RX12 (443, 1, 227, 1, 13) := by
  unfold q_kok
  exact ⟨qM_X12_failsBranch, (RX12, TX12, 130), rfl, rfl, rfl, rfl, (q_up_r43 21 rfl), (q_up_r43 22 rfl), (q_up_r43 23 rfl), ⟨by decide +kernel, ⟨by decide +kernel, by decide +kernel⟩, (q_up_r1 5 rfl)⟩⟩
theorem qE_X12_145 : q_kok qT qTX RX12 (446, 1, 230, 2, 13) := by
  unfold q_kok
  exact ⟨qM_X12_isBelow, (RX12, TX12, 130), rfl, rfl, rfl, rfl, (q_up_r46 14 rfl), (q_up_r46 15 rfl), (q_up_r46 16 rfl), ⟨by decide +kernel, ⟨by decide +kernel, by decide +kernel⟩, (q_up_r1 5 rfl)⟩⟩
theorem qE_X12_146 : q_kok qT qTX RX12 (449, 1, 215, 1, 13) := by
  unfold q_kok
  exact ⟨qM_X12_slot, (RX12, TX12, 130), rfl, rfl, rfl, rfl, (q_up_r45 6 rfl), (q_up_r45 7 rfl), (q_up_r45 8 rfl), ⟨by decide +kernel, ⟨by decide +kernel, by decide +kernel⟩, (q_up_r1 5 rfl)⟩⟩
theorem qE_X12_147 : q_kok qT qTX RX12 (452, 1, 231, 1, 13) := by
  unfold q_kok
  exact ⟨qM_X12_dropsBranch, (RX12, TX12, 130), rfl, rfl, rfl, rfl, (q_up_r46 10 rfl), (q_up_r46 11 rfl), (q_up_r46 12 rfl), ⟨by decide +kernel, ⟨by decide +kernel, by decide +kernel⟩, (q_up_r1 5 rfl)⟩⟩
theorem qE_X12_148 : q_kok qT qTX RX12 (455, 1, 223, 2, 13) := by
  unfold q_kok
  exact ⟨qM_X12_begins, (RX12, TX12, 130), rfl, rfl, rfl, rfl, (q_up_r42 0 rfl), (q_up_r42 1 rfl), (q_up_r42 2 rfl), ⟨by decide +kernel, ⟨by decide +kernel, by decide +kernel⟩, (q_up_r1 5 rfl)⟩⟩
theorem qE_X12_149 : q_kok qT qTX RX12 (458, 0, 13, 105, 0) := by
  unfold q_kok
  exact ⟨(RX12, TX12, 130), "DurableLoomModel", rfl, by decide, (q_up_r40 16 rfl), Or.inl rfl, Or.inl ⟨rfl, rfl⟩⟩
theorem qE_X12_150 : q_kok qT qTX RX12 (461, 1, 235, 4, 13) := by
  unfold q_kok
  exact ⟨qM_X12_awaits, (RX12, TX12, 130), rfl, rfl, rfl, rfl, (q_up_r45 22 rfl), (q_up_r45 23 rfl), (q_up_r46 0 rfl), ⟨by decide +kernel, ⟨by decide +kernel, by decide +kernel⟩, (q_up_r1 5 rfl)⟩⟩
theorem qE_X12_151 : q_kok qT qTX RX12 (465, 0, 13, 110, 0) := by
  unfold q_kok
  exact ⟨(RX12, TX12, 130), "DurableLoomModel", rfl, by decide, (q_up_r40 17 rfl), Or.inl rfl, Or.inl ⟨rfl, rfl⟩⟩
theorem qE_X12_152 : q_kok qT qTX RX12 (468, 1, 229, 1, 13) := by
  unfold q_kok
  exact ⟨qM_X12_cancelsBranch, (RX12, TX12, 130), rfl, rfl, rfl, rfl, (q_up_r42 17 rfl), (q_up_r42 18 rfl), (q_up_r42 19 rfl), ⟨by decide +kernel, ⟨by decide +kernel, by decide +kernel⟩, (q_up_r1 5 rfl)⟩⟩
theorem qE_X12_153 : q_kok qT qTX RX12 (471, 0, 13, 89, 0) := by
  unfold q_kok
  exact ⟨(RX12, TX12, 130), "DurableLoomModel", rfl, by decide, (q_up_r40 12 rfl), Or.inl rfl, Or.inl ⟨rfl, rfl⟩⟩
theorem qE_X12_154 : q_kok qT qTX RX12 (474, 1, 233, 2, 13) := by
  unfold q_kok
  exact ⟨qM_X12_races, (RX12, TX12, 130), rfl, rfl, rfl, rfl, (q_up_r46 2 rfl), (q_up_r46 3 rfl), (q_up_r46 4 rfl), ⟨by decide +kernel, ⟨by decide +kernel, by decide +kernel⟩, (q_up_r1 5 rfl)⟩⟩
theorem qE_X12_155 : q_kok qT qTX RX12 (477, 1, 232, 1, 13) := by
  unfold q_kok
  exact ⟨qM_X12_wins, (RX12, TX12, 130), rfl, rfl, rfl, rfl, (q_up_r46 6 rfl), (q_up_r46 7 rfl), (q_up_r46 8 rfl), ⟨by decide +kernel, ⟨by decide +kernel, by decide +kernel⟩, (q_up_r1 5 rfl)⟩⟩
theorem qE_X12_156 : q_kok qT qTX RX12 (480, 1, 240, 4, 13) := by
  unfold q_kok
  exact ⟨qM_X12_doesMore, (RX12, TX12, 130), rfl, rfl, rfl, rfl, (q_up_r46 18 rfl), (q_up_r46 19 rfl), (q_up_r46 20 rfl), ⟨by decide +kernel, ⟨by decide +kernel, by decide +kernel⟩, (q_up_r1 5 rfl)⟩⟩
theorem qE_X12_157 : q_kok qT qTX RX12 (483, 0, 13, 103, 0) := by
  unfold q_kok
  exact ⟨(RX12, TX12, 130), "DurableLoomModel", rfl, by decide, (q_up_r40 15 rfl), Or.inl rfl, Or.inl ⟨rfl, rfl⟩⟩
theorem qE_X12_158 : q_kok qT qTX RX12 (486, 1, 236, 1, 13) := by
  unfold q_kok
  exact ⟨qM_X12_undoes, (RX12, TX12, 130), rfl, rfl, rfl, rfl, (q_up_r46 22 rfl), (q_up_r46 23 rfl), (q_up_r47 0 rfl), ⟨by decide +kernel, ⟨by decide +kernel, by decide +kernel⟩, (q_up_r1 5 rfl)⟩⟩
theorem qE_X12_159 : q_kok qT qTX RX12 (489, 1, 226, 1, 13) := by
  unfold q_kok
  exact ⟨qM_X12_endsBranch, (RX12, TX12, 130), rfl, rfl, rfl, rfl, (q_up_r45 10 rfl), (q_up_r45 11 rfl), (q_up_r45 12 rfl), ⟨by decide +kernel, ⟨by decide +kernel, by decide +kernel⟩, (q_up_r1 5 rfl)⟩⟩
theorem qE_X12_160 : q_kok qT qTX RX12 (492, 1, 237, 3, 13) := by
  unfold q_kok
  exact ⟨qM_X12_patches, (RX12, TX12, 130), rfl, rfl, rfl, rfl, (q_up_r47 2 rfl), (q_up_r47 3 rfl), (q_up_r47 4 rfl), ⟨by decide +kernel, ⟨by decide +kernel, by decide +kernel⟩, (q_up_r1 5 rfl)⟩⟩
theorem qE_X12_161 : q_kok qT qTX RX12 (494, 0, 13, 118, 0) := by
  unfold q_kok
  exact ⟨(RX12, TX12, 130), "DurableLoomModel", rfl, by decide, (q_up_r41 9 rfl), Or.inl rfl, Or.inl ⟨rfl, rfl⟩⟩
theorem qE_X12_162 : q_kok qT qTX RX12 (497, 1, 238, 1, 13) := by
  unfold q_kok
  exact ⟨qM_X12_bares, (RX12, TX12, 130), rfl, rfl, rfl, rfl, (q_up_r47 6 rfl), (q_up_r47 7 rfl), (q_up_r47 8 rfl), ⟨by decide +kernel, ⟨by decide +kernel, by decide +kernel⟩, (q_up_r1 5 rfl)⟩⟩
theorem qE_X12_163 : q_kok qT qTX RX12 (500, 1, 234, 1, 13) := by
  unfold q_kok
  exact ⟨qM_X12_hasChild, (RX12, TX12, 130), rfl, rfl, rfl, rfl, (q_up_r44 22 rfl), (q_up_r44 23 rfl), (q_up_r45 0 rfl), ⟨by decide +kernel, ⟨by decide +kernel, by decide +kernel⟩, (q_up_r1 5 rfl)⟩⟩
theorem qE_X12_164 : q_kok qT qTX RX12 (503, 0, 13, 113, 0) := by
  unfold q_kok
  exact ⟨(RX12, TX12, 130), "DurableLoomModel", rfl, by decide, (q_up_r44 17 rfl), Or.inl rfl, Or.inl ⟨rfl, rfl⟩⟩
theorem qE_X12_165 : q_kok qT qTX RX12 (506, 1, 241, 1, 13) := by
  unfold q_kok
  exact ⟨qM_X12_canGoOn, (RX12, TX12, 130), rfl, rfl, rfl, rfl, (q_up_r44 18 rfl), (q_up_r44 19 rfl), (q_up_r44 20 rfl), ⟨by decide +kernel, ⟨by decide +kernel, by decide +kernel⟩, (q_up_r1 5 rfl)⟩⟩
theorem qE_X12_166 : q_kok qT qTX RX12 (509, 1, 243, 1, 13) := by
  unfold q_kok
  exact ⟨qM_X12_walks, (RX12, TX12, 130), rfl, rfl, rfl, rfl, (q_up_r45 2 rfl), (q_up_r45 3 rfl), (q_up_r45 4 rfl), ⟨by decide +kernel, ⟨by decide +kernel, by decide +kernel⟩, (q_up_r1 5 rfl)⟩⟩
theorem qE_X12_167 : q_kok qT qTX RX12 (512, 1, 239, 1, 13) := by
  unfold q_kok
  exact ⟨qM_X12_does, (RX12, TX12, 130), rfl, rfl, rfl, rfl, (q_up_r45 18 rfl), (q_up_r45 19 rfl), (q_up_r45 20 rfl), ⟨by decide +kernel, ⟨by decide +kernel, by decide +kernel⟩, (q_up_r1 5 rfl)⟩⟩
theorem qE_X12_168 : q_kok qT qTX RX12 (515, 1, 244, 1, 13) := by
  unfold q_kok
  exact ⟨qM_X12_waiting, (RX12, TX12, 130), rfl, rfl, rfl, rfl, (q_up_r44 9 rfl), (q_up_r44 10 rfl), (q_up_r44 11 rfl), ⟨by decide +kernel, ⟨by decide +kernel, by decide +kernel⟩, (q_up_r1 5 rfl)⟩⟩
theorem qE_X12_169 : q_kok qT qTX RX12 (518, 0, 13, 111, 0) := by
  unfold q_kok
  exact ⟨(RX12, TX12, 130), "DurableLoomModel", rfl, by decide, (q_up_r40 18 rfl), Or.inl rfl, Or.inl ⟨rfl, rfl⟩⟩
theorem qE_X12_170 : q_kok qT qTX RX12 (521, 1, 207, 2, 13) := by
  unfold q_kok
  exact ⟨qM_X12_whenAt, (RX12, TX12, 130), rfl, rfl, rfl, rfl, (q_up_r41 19 rfl), (q_up_r41 20 rfl), (q_up_r41 21 rfl), ⟨by decide +kernel, ⟨by decide +kernel, by decide +kernel⟩, (q_up_r1 5 rfl)⟩⟩
theorem qE_X12_171 : q_kok qT qTX RX12 (524, 1, 246, 0, 13) := by
  unfold q_kok
  exact ⟨qM_X12_isCancelled, (RX12, TX12, 130), rfl, rfl, rfl, rfl, (q_up_r42 9 rfl), (q_up_r42 10 rfl), (q_up_r42 11 rfl), ⟨by decide +kernel, ⟨by decide +kernel, by decide +kernel⟩, (q_up_r1 5 rfl)⟩⟩
theorem qE_X12_172 : q_kok qT qTX RX12 (527, 1, 245, 3, 13) := by
  unfold q_kok
  exact ⟨qM_X12_comesBack, (RX12, TX12, 130), rfl, rfl, rfl, rfl, (q_up_r44 5 rfl), (q_up_r44 6 rfl), (q_up_r44 7 rfl), ⟨by decide +kernel, ⟨by decide +kernel, by decide +kernel⟩, (q_up_r1 5 rfl)⟩⟩
theorem qE_X12_173 : q_kok qT qTX RX12 (530, 1, 242, 0, 13) := by
  unfold q_kok
  exact ⟨qM_X12_goOn, (RX12, TX12, 130), rfl, rfl, rfl, rfl, (q_up_r44 13 rfl), (q_up_r44 14 rfl), (q_up_r44 15 rfl), ⟨by decide +kernel, ⟨by decide +kernel, by decide +kernel⟩, (q_up_r1 5 rfl)⟩⟩
theorem qE_X12_174 : q_kok qT qTX RX12 (533, 0, 13, 126, 0) := by
  unfold q_kok
  exact ⟨(RX12, TX12, 130), "DurableLoomModel", rfl, by decide, (q_up_r40 11 rfl), Or.inl rfl, Or.inl ⟨rfl, rfl⟩⟩
theorem qE_X12_175 : q_kok qT qTX RX12 (536, 0, 13, 123, 0) := by
  unfold q_kok
  exact ⟨(RX12, TX12, 130), "DurableLoomModel", rfl, by decide, (q_up_r40 23 rfl), Or.inl rfl, Or.inl ⟨rfl, rfl⟩⟩
theorem qE_X12_176 : q_kok qT qTX RX12 (539, 1, 247, 1, 13) := by
  unfold q_kok
  exact ⟨qM_X12_takes, (RX12, TX12, 130), rfl, rfl, rfl, rfl, (q_up_r41 5 rfl), (q_up_r41 6 rfl), (q_up_r41 7 rfl), ⟨by decide +kernel, ⟨by decide +kernel, by decide +kernel⟩, (q_up_r1 5 rfl)⟩⟩
theorem qE_X12_177 : q_kok qT qTX RX12 (542, 1, 248, 1, 13) := by
  unfold q_kok
  exact ⟨qM_X12_goesBy, (RX12, TX12, 130), rfl, rfl, rfl, rfl, (q_up_r47 10 rfl), (q_up_r47 11 rfl), (q_up_r47 12 rfl), ⟨by decide +kernel, ⟨by decide +kernel, by decide +kernel⟩, (q_up_r1 5 rfl)⟩⟩
theorem qE_X12_178 : q_kok qT qTX RX12 (545, 1, 249, 5, 13) := by
  unfold q_kok
  exact ⟨qM_X12_tellsRun, (RX12, TX12, 130), rfl, rfl, rfl, rfl, (q_up_r40 4 rfl), (q_up_r40 5 rfl), (q_up_r40 6 rfl), ⟨by decide +kernel, ⟨by decide +kernel, by decide +kernel⟩, (q_up_r1 5 rfl)⟩⟩
theorem qE_X12_179 : q_kok qT qTX RX12 (549, 0, 13, 34, 0) := by
  unfold q_kok
  exact ⟨(RX12, TX12, 130), "DurableLoomModel", rfl, by decide, (q_up_r62 18 rfl), Or.inl rfl, Or.inl ⟨rfl, rfl⟩⟩
theorem qE_X12_180 : q_kok qT qTX RX12 (552, 0, 13, 46, 0) := by
  unfold q_kok
  exact ⟨(RX12, TX12, 130), "DurableLoomModel", rfl, by decide, (q_up_r62 23 rfl), Or.inl rfl, Or.inl ⟨rfl, rfl⟩⟩
theorem qE_X12_181 : q_kok qT qTX RX12 (555, 1, 253, 1, 13) := by
  unfold q_kok
  exact ⟨qM_X12_removesTimer, (RX12, TX12, 130), rfl, rfl, rfl, rfl, (q_up_r63 4 rfl), (q_up_r63 5 rfl), (q_up_r63 6 rfl), ⟨by decide +kernel, ⟨by decide +kernel, by decide +kernel⟩, (q_up_r1 5 rfl)⟩⟩
theorem qE_X12_182 : q_kok qT qTX RX12 (558, 1, 214, 1, 13) := by
  unfold q_kok
  exact ⟨qM_X12_cancels, (RX12, TX12, 130), rfl, rfl, rfl, rfl, (q_up_r48 13 rfl), (q_up_r48 14 rfl), (q_up_r48 15 rfl), ⟨by decide +kernel, ⟨by decide +kernel, by decide +kernel⟩, (q_up_r1 5 rfl)⟩⟩
theorem qE_X12_183 : q_kok qT qTX RX12 (561, 1, 213, 1, 13) := by
  unfold q_kok
  exact ⟨qM_X12_isAlive, (RX12, TX12, 130), rfl, rfl, rfl, rfl, (q_up_r25 4 rfl), (q_up_r25 5 rfl), (q_up_r25 6 rfl), ⟨by decide +kernel, ⟨by decide +kernel, by decide +kernel⟩, (q_up_r1 5 rfl)⟩⟩
theorem qE_X12_184 : q_kok qT qTX RX12 (564, 1, 254, 1, 13) := by
  unfold q_kok
  exact ⟨qM_X12_stops, (RX12, TX12, 130), rfl, rfl, rfl, rfl, (q_up_r63 12 rfl), (q_up_r63 13 rfl), (q_up_r63 14 rfl), ⟨by decide +kernel, ⟨by decide +kernel, by decide +kernel⟩, (q_up_r1 5 rfl)⟩⟩
theorem qE_X12_185 : q_kok qT qTX RX12 (567, 1, 256, 2, 13) := by
  unfold q_kok
  exact ⟨qM_X12_tellsParent, (RX12, TX12, 130), rfl, rfl, rfl, rfl, (q_up_r63 16 rfl), (q_up_r63 17 rfl), (q_up_r63 18 rfl), ⟨by decide +kernel, ⟨by decide +kernel, by decide +kernel⟩, (q_up_r1 5 rfl)⟩⟩
theorem qE_X12_186 : q_kok qT qTX RX12 (570, 2, 192, 1, 0) := by
  unfold q_kok
  exact ⟨qM_X12_isTenant, rfl, (q_up_r22 0 rfl), (q_up_r22 1 rfl), ⟨by decide +kernel, ⟨by decide +kernel, by decide +kernel⟩, (q_up_r1 5 rfl)⟩⟩
theorem qE_X12_187 : q_kok qT qTX RX12 (573, 2, 194, 1, 0) := by
  unfold q_kok
  exact ⟨qM_X12_isValue, rfl, (q_up_r22 3 rfl), (q_up_r22 4 rfl), ⟨by decide +kernel, ⟨by decide +kernel, by decide +kernel⟩, (q_up_r1 5 rfl)⟩⟩
theorem qE_X12_188 : q_kok qT qTX RX12 (576, 1, 212, 6, 13) := by
  unfold q_kok
  exact ⟨qM_X12_makes, (RX12, TX12, 130), rfl, rfl, rfl, rfl, (q_up_r22 6 rfl), (q_up_r22 7 rfl), (q_up_r22 8 rfl), ⟨by decide +kernel, ⟨by decide +kernel, by decide +kernel⟩, (q_up_r1 5 rfl)⟩⟩
theorem qE_X12_189 : q_kok qT qTX RX12 (580, 1, 193, 1, 13) := by
  unfold q_kok
  exact ⟨qM_X12_isRun, (RX12, TX12, 130), rfl, rfl, rfl, rfl, (q_up_r24 21 rfl), (q_up_r24 22 rfl), (q_up_r24 23 rfl), ⟨by decide +kernel, ⟨by decide +kernel, by decide +kernel⟩, (q_up_r1 5 rfl)⟩⟩
theorem qE_X12_190 : q_kok qT qTX RX12 (583, 2, 259, 1, 0) := by
  unfold q_kok
  exact ⟨qM_X12_isName, rfl, (q_up_r25 1 rfl), (q_up_r25 2 rfl), ⟨by decide +kernel, ⟨by decide +kernel, by decide +kernel⟩, (q_up_r1 5 rfl)⟩⟩
theorem qE_X12_191 : q_kok qT qTX RX12 (586, 1, 250, 2, 13) := by
  unfold q_kok
  exact ⟨qM_X12_isSafe, (RX12, TX12, 130), rfl, rfl, rfl, rfl, (q_up_r39 23 rfl), (q_up_r40 0 rfl), (q_up_r40 1 rfl), ⟨by decide +kernel, ⟨by decide +kernel, by decide +kernel⟩, (q_up_r1 5 rfl)⟩⟩
theorem qE_X12_192 : q_kok qT qTX RX12 (589, 1, 261, 2, 13) := by
  unfold q_kok
  exact ⟨qM_X12_isWanted, (RX12, TX12, 130), rfl, rfl, rfl, rfl, (q_up_r47 14 rfl), (q_up_r47 15 rfl), (q_up_r47 16 rfl), ⟨by decide +kernel, ⟨by decide +kernel, by decide +kernel⟩, (q_up_r1 5 rfl)⟩⟩
theorem qE_X12_193 : q_kok qT qTX RX12 (592, 1, 264, 2, 13) := by
  unfold q_kok
  exact ⟨qM_X12_asks, (RX12, TX12, 130), rfl, rfl, rfl, rfl, (q_up_r49 13 rfl), (q_up_r49 14 rfl), (q_up_r49 15 rfl), ⟨by decide +kernel, ⟨by decide +kernel, by decide +kernel⟩, (q_up_r1 5 rfl)⟩⟩
theorem qE_X12_194 : q_kok qT qTX RX12 (595, 7, 1000000, 0, 0) := by
  unfold q_kok
  exact (q_up_r51 6 rfl)
theorem qE_X12_195 : q_kok qT qTX RX12 (596, 1, 187, 1, 13) := by
  unfold q_kok
  exact ⟨qM_X12_tells, (RX12, TX12, 130), rfl, rfl, rfl, rfl, (q_up_r52 3 rfl), (q_up_r52 4 rfl), (q_up_r52 5 rfl), ⟨by decide +kernel, ⟨by decide +kernel, by decide +kernel⟩, (q_up_r1 5 rfl)⟩⟩
theorem qE_X12_196 : q_kok qT qTX RX12 (599, 0, 13, 51, 0) := by
  unfold q_kok
  exact ⟨(RX12, TX12, 130), "DurableLoomModel", rfl, by decide, (q_up_r55 18 rfl), Or.inl rfl, Or.inl ⟨rfl, rfl⟩⟩
theorem qE_X12_197 : q_kok qT qTX RX12 (602, 1, 272, 1, 13) := by
  unfold q_kok
  exact ⟨qM_X12_isHeld, (RX12, TX12, 130), rfl, rfl, rfl, rfl, (q_up_r56 2 rfl), (q_up_r56 3 rfl), (q_up_r56 4 rfl), ⟨by decide +kernel, ⟨by decide +kernel, by decide +kernel⟩, (q_up_r1 5 rfl)⟩⟩
theorem qE_X12_198 : q_kok qT qTX RX12 (605, 2, 275, 1, 0) := by
  unfold q_kok
  exact ⟨qM_X12_isWorker, rfl, (q_up_r55 19 rfl), (q_up_r55 20 rfl), ⟨by decide +kernel, ⟨by decide +kernel, by decide +kernel⟩, (q_up_r1 5 rfl)⟩⟩
theorem qE_X12_199 : q_kok qT qTX RX12 (608, 1, 273, 1, 13) := by
  unfold q_kok
  exact ⟨qM_X12_isReady, (RX12, TX12, 130), rfl, rfl, rfl, rfl, (q_up_r55 22 rfl), (q_up_r55 23 rfl), (q_up_r56 0 rfl), ⟨by decide +kernel, ⟨by decide +kernel, by decide +kernel⟩, (q_up_r1 5 rfl)⟩⟩
theorem qE_X12_200 : q_kok qT qTX RX12 (611, 1, 274, 1, 13) := by
  unfold q_kok
  exact ⟨qM_X12_firstOrder, (RX12, TX12, 130), rfl, rfl, rfl, rfl, (q_up_r56 6 rfl), (q_up_r56 7 rfl), (q_up_r56 8 rfl), ⟨by decide +kernel, ⟨by decide +kernel, by decide +kernel⟩, (q_up_r1 5 rfl)⟩⟩
theorem qE_X12_201 : q_kok qT qTX RX12 (614, 1, 277, 1, 13) := by
  unfold q_kok
  exact ⟨qM_X12_isStale, (RX12, TX12, 130), rfl, rfl, rfl, rfl, (q_up_r62 1 rfl), (q_up_r62 2 rfl), (q_up_r62 3 rfl), ⟨by decide +kernel, ⟨by decide +kernel, by decide +kernel⟩, (q_up_r1 5 rfl)⟩⟩
theorem qE_X12_202 : q_kok qT qTX RX12 (617, 1, 278, 2, 13) := by
  unfold q_kok
  exact ⟨qM_X12_hasState, (RX12, TX12, 130), rfl, rfl, rfl, rfl, (q_up_r62 5 rfl), (q_up_r62 6 rfl), (q_up_r62 7 rfl), ⟨by decide +kernel, ⟨by decide +kernel, by decide +kernel⟩, (q_up_r1 5 rfl)⟩⟩
theorem qE_X12_203 : q_kok qT qTX RX12 (620, 1, 280, 5, 13) := by
  unfold q_kok
  exact ⟨qM_X12_carriesOut, (RX12, TX12, 130), rfl, rfl, rfl, rfl, (q_up_r62 9 rfl), (q_up_r62 10 rfl), (q_up_r62 11 rfl), ⟨by decide +kernel, ⟨by decide +kernel, by decide +kernel⟩, (q_up_r1 5 rfl)⟩⟩
theorem qE_X12_204 : q_kok qT qTX RX12 (623, 1, 251, 4, 13) := by
  unfold q_kok
  exact ⟨qM_X12_makesActivity, (RX12, TX12, 130), rfl, rfl, rfl, rfl, (q_up_r62 14 rfl), (q_up_r62 15 rfl), (q_up_r62 16 rfl), ⟨by decide +kernel, ⟨by decide +kernel, by decide +kernel⟩, (q_up_r1 5 rfl)⟩⟩
theorem qE_X12_205 : q_kok qT qTX RX12 (626, 1, 252, 3, 13) := by
  unfold q_kok
  exact ⟨qM_X12_makesTimer, (RX12, TX12, 130), rfl, rfl, rfl, rfl, (q_up_r62 19 rfl), (q_up_r62 20 rfl), (q_up_r62 21 rfl), ⟨by decide +kernel, ⟨by decide +kernel, by decide +kernel⟩, (q_up_r1 5 rfl)⟩⟩
theorem qE_X12_206 : q_kok qT qTX RX12 (629, 1, 255, 2, 13) := by
  unfold q_kok
  exact ⟨qM_X12_drops, (RX12, TX12, 130), rfl, rfl, rfl, rfl, (q_up_r63 0 rfl), (q_up_r63 1 rfl), (q_up_r63 2 rfl), ⟨by decide +kernel, ⟨by decide +kernel, by decide +kernel⟩, (q_up_r1 5 rfl)⟩⟩
theorem qE_X12_207 : q_kok qT qTX RX12 (632, 0, 13, 80, 0) := by
  unfold q_kok
  exact ⟨(RX12, TX12, 130), "DurableLoomModel", rfl, by decide, (q_up_r62 13 rfl), Or.inl rfl, Or.inl ⟨rfl, rfl⟩⟩
theorem qE_X12_208 : q_kok qT qTX RX12 (635, 1, 257, 3, 13) := by
  unfold q_kok
  exact ⟨qM_X12_closes, (RX12, TX12, 130), rfl, rfl, rfl, rfl, (q_up_r63 8 rfl), (q_up_r63 9 rfl), (q_up_r63 10 rfl), ⟨by decide +kernel, ⟨by decide +kernel, by decide +kernel⟩, (q_up_r1 5 rfl)⟩⟩
theorem qE_X12_209 : q_kok qT qTX RX12 (639, 1, 281, 2, 13) := by
  unfold q_kok
  exact ⟨qM_X12_goesOnAsNew, (RX12, TX12, 130), rfl, rfl, rfl, rfl, (q_up_r63 20 rfl), (q_up_r63 21 rfl), (q_up_r63 22 rfl), ⟨by decide +kernel, ⟨by decide +kernel, by decide +kernel⟩, (q_up_r1 5 rfl)⟩⟩
theorem qE_X12_210 : q_kok qT qTX RX12 (642, 1, 285, 1, 13) := by
  unfold q_kok
  exact ⟨qM_X12_isActivity, (RX12, TX12, 130), rfl, rfl, rfl, rfl, (q_up_r66 7 rfl), (q_up_r66 8 rfl), (q_up_r66 9 rfl), ⟨by decide +kernel, ⟨by decide +kernel, by decide +kernel⟩, (q_up_r1 5 rfl)⟩⟩
theorem qE_X12_211 : q_kok qT qTX RX12 (645, 1, 287, 2, 13) := by
  unfold q_kok
  exact ⟨qM_X12_misses, (RX12, TX12, 130), rfl, rfl, rfl, rfl, (q_up_r67 3 rfl), (q_up_r67 4 rfl), (q_up_r67 5 rfl), ⟨by decide +kernel, ⟨by decide +kernel, by decide +kernel⟩, (q_up_r1 5 rfl)⟩⟩
theorem qE_X12_212 : q_kok qT qTX RX12 (649, 1, 291, 0, 13) := by
  unfold q_kok
  exact ⟨qM_X12_fires, (RX12, TX12, 130), rfl, rfl, rfl, rfl, (q_up_r70 23 rfl), (q_up_r71 0 rfl), (q_up_r71 1 rfl), ⟨by decide +kernel, ⟨by decide +kernel, by decide +kernel⟩, (q_up_r1 5 rfl)⟩⟩
theorem qE_X12_213 : q_kok qT qTX RX12 (652, 1, 292, 0, 13) := by
  unfold q_kok
  exact ⟨qM_X12_looksAtActivities, (RX12, TX12, 130), rfl, rfl, rfl, rfl, (q_up_r71 3 rfl), (q_up_r71 4 rfl), (q_up_r71 5 rfl), ⟨by decide +kernel, ⟨by decide +kernel, by decide +kernel⟩, (q_up_r1 5 rfl)⟩⟩
theorem qE_X12_214 : q_kok qT qTX RX12 (655, 0, 13, 69, 0) := by
  unfold q_kok
  exact ⟨(RX12, TX12, 130), "DurableLoomModel", rfl, by decide, (q_up_r70 22 rfl), Or.inl rfl, Or.inl ⟨rfl, rfl⟩⟩
theorem qE_X12_215 : q_kok qT qTX RX12 (658, 1, 311, 1, 13) := by
  unfold q_kok
  exact ⟨qM_X12_looksAtSchedule, (RX12, TX12, 130), rfl, rfl, rfl, rfl, (q_up_r71 7 rfl), (q_up_r71 8 rfl), (q_up_r71 9 rfl), ⟨by decide +kernel, ⟨by decide +kernel, by decide +kernel⟩, (q_up_r1 5 rfl)⟩⟩
theorem qE_X12_216 : q_kok qT qTX RX12 (661, 1, 294, 2, 13) := by
  unfold q_kok
  exact ⟨qM_X12_isVersion, (RX12, TX12, 130), rfl, rfl, rfl, rfl, (q_up_r72 22 rfl), (q_up_r72 23 rfl), (q_up_r73 0 rfl), ⟨by decide +kernel, ⟨by decide +kernel, by decide +kernel⟩, (q_up_r1 5 rfl)⟩⟩
theorem qE_X12_217 : q_kok qT qTX RX12 (664, 1, 297, 1, 13) := by
  unfold q_kok
  exact ⟨qM_X12_marks, (RX12, TX12, 130), rfl, rfl, rfl, rfl, (q_up_r75 17 rfl), (q_up_r75 18 rfl), (q_up_r75 19 rfl), ⟨by decide +kernel, ⟨by decide +kernel, by decide +kernel⟩, (q_up_r1 5 rfl)⟩⟩
theorem qE_X12_218 : q_kok qT qTX RX12 (667, 1, 298, 1, 13) := by
  unfold q_kok
  exact ⟨qM_X12_isBack, (RX12, TX12, 130), rfl, rfl, rfl, rfl, (q_up_r75 21 rfl), (q_up_r75 22 rfl), (q_up_r75 23 rfl), ⟨by decide +kernel, ⟨by decide +kernel, by decide +kernel⟩, (q_up_r1 5 rfl)⟩⟩
theorem qE_X12_219 : q_kok qT qTX RX12 (670, 1, 300, 2, 13) := by
  unfold q_kok
  exact ⟨qM_X12_taskAt, (RX12, TX12, 130), rfl, rfl, rfl, rfl, (q_up_r75 5 rfl), (q_up_r75 6 rfl), (q_up_r75 7 rfl), ⟨by decide +kernel, ⟨by decide +kernel, by decide +kernel⟩, (q_up_r1 5 rfl)⟩⟩
theorem qE_X12_220 : q_kok qT qTX RX12 (673, 1, 209, 1, 13) := by
  unfold q_kok
  exact ⟨qM_X12_recounts, (RX12, TX12, 130), rfl, rfl, rfl, rfl, (q_up_r75 9 rfl), (q_up_r75 10 rfl), (q_up_r75 11 rfl), ⟨by decide +kernel, ⟨by decide +kernel, by decide +kernel⟩, (q_up_r1 5 rfl)⟩⟩
theorem qE_X12_221 : q_kok qT qTX RX12 (676, 1, 299, 1, 13) := by
  unfold q_kok
  exact ⟨qM_X12_beginsAnew, (RX12, TX12, 130), rfl, rfl, rfl, rfl, (q_up_r75 13 rfl), (q_up_r75 14 rfl), (q_up_r75 15 rfl), ⟨by decide +kernel, ⟨by decide +kernel, by decide +kernel⟩, (q_up_r1 5 rfl)⟩⟩
theorem qE_X12_222 : q_kok qT qTX RX12 (679, 2, 189, 2, 0) := by
  unfold q_kok
  exact ⟨qM_X12_least, rfl, (q_up_r76 14 rfl), (q_up_r76 15 rfl), ⟨by decide +kernel, ⟨by decide +kernel, by decide +kernel⟩, (q_up_r1 5 rfl)⟩⟩
theorem qE_X12_223 : q_kok qT qTX RX12 (682, 0, 13, 84, 0) := by
  unfold q_kok
  exact ⟨(RX12, TX12, 130), "DurableLoomModel", rfl, by decide, (q_up_r77 17 rfl), Or.inl rfl, Or.inl ⟨rfl, rfl⟩⟩
theorem qE_X12_224 : q_kok qT qTX RX12 (685, 0, 13, 83, 0) := by
  unfold q_kok
  exact ⟨(RX12, TX12, 130), "DurableLoomModel", rfl, by decide, (q_up_r77 12 rfl), Or.inl rfl, Or.inl ⟨rfl, rfl⟩⟩
theorem qE_X12_225 : q_kok qT qTX RX12 (688, 1, 303, 1, 13) := by
  unfold q_kok
  exact ⟨qM_X12_cutsRun, (RX12, TX12, 130), rfl, rfl, rfl, rfl, (q_up_r77 13 rfl), (q_up_r77 14 rfl), (q_up_r77 15 rfl), ⟨by decide +kernel, ⟨by decide +kernel, by decide +kernel⟩, (q_up_r1 5 rfl)⟩⟩
theorem qE_X12_226 : q_kok qT qTX RX12 (691, 0, 13, 68, 0) := by
  unfold q_kok
  exact ⟨(RX12, TX12, 130), "DurableLoomModel", rfl, by decide, (q_up_r71 11 rfl), Or.inl rfl, Or.inl ⟨rfl, rfl⟩⟩
theorem qE_X12_227 : q_kok qT qTX RX12 (694, 1, 308, 2, 13) := by
  unfold q_kok
  exact ⟨qM_X12_beginsFor, (RX12, TX12, 130), rfl, rfl, rfl, rfl, (q_up_r71 20 rfl), (q_up_r71 21 rfl), (q_up_r71 22 rfl), ⟨by decide +kernel, ⟨by decide +kernel, by decide +kernel⟩, (q_up_r1 5 rfl)⟩⟩
theorem qE_X12_228 : q_kok qT qTX RX12 (697, 1, 309, 1, 13) := by
  unfold q_kok
  exact ⟨qM_X12_isRunning, (RX12, TX12, 130), rfl, rfl, rfl, rfl, (q_up_r71 12 rfl), (q_up_r71 13 rfl), (q_up_r71 14 rfl), ⟨by decide +kernel, ⟨by decide +kernel, by decide +kernel⟩, (q_up_r1 5 rfl)⟩⟩
theorem qE_X12_229 : q_kok qT qTX RX12 (700, 1, 310, 2, 13) := by
  unfold q_kok
  exact ⟨qM_X12_comes, (RX12, TX12, 130), rfl, rfl, rfl, rfl, (q_up_r71 16 rfl), (q_up_r71 17 rfl), (q_up_r71 18 rfl), ⟨by decide +kernel, ⟨by decide +kernel, by decide +kernel⟩, (q_up_r1 5 rfl)⟩⟩
theorem qE_X12_230 : q_kok qT qTX RX12 (703, 2, 195, 1, 0) := by
  unfold q_kok
  exact ⟨qM_X12_ofThousand, rfl, (q_up_r72 0 rfl), (q_up_r72 1 rfl), ⟨by decide +kernel, ⟨by decide +kernel, by decide +kernel⟩, (q_up_r1 5 rfl)⟩⟩
theorem qE_X12_231 : q_kok qT qTX RX12 (706, 1, 312, 2, 13) := by
  unfold q_kok
  exact ⟨qM_X12_point, (RX12, TX12, 130), rfl, rfl, rfl, rfl, (q_up_r72 3 rfl), (q_up_r72 4 rfl), (q_up_r72 5 rfl), ⟨by decide +kernel, ⟨by decide +kernel, by decide +kernel⟩, (q_up_r1 5 rfl)⟩⟩
theorem qE_X12_232 : q_kok qT qTX RX12 (709, 1, 306, 1, 13) := by
  unfold q_kok
  exact ⟨qM_X12_isSchedule, (RX12, TX12, 130), rfl, rfl, rfl, rfl, (q_up_r79 21 rfl), (q_up_r79 22 rfl), (q_up_r79 23 rfl), ⟨by decide +kernel, ⟨by decide +kernel, by decide +kernel⟩, (q_up_r1 5 rfl)⟩⟩
theorem qE_X12_233 : q_kok qT qTX RX12 (712, 0, 13, 79, 0) := by
  unfold q_kok
  exact ⟨(RX12, TX12, 130), "DurableLoomModel", rfl, by decide, (q_up_r81 16 rfl), Or.inl rfl, Or.inl ⟨rfl, rfl⟩⟩
theorem qE_Jxa1e45_0 : q_kok qT qTX RJxa1e45 (1, 4, 0, 0, 0) := by
  unfold q_kok
  exact ⟨(q_up_r3 13 rfl), (q_up_r1 11 rfl), (q_up_r1 12 rfl)⟩
theorem qE_Jxc12de_0 : q_kok qT qTX RJxc12de (1, 3, 321, 0, 0) := by
  unfold q_kok
  exact ⟨qM_Jxa1e45_init_da8c8, rfl, rfl, rfl, rfl, (q_up_r3 9 rfl), (q_up_r3 10 rfl), ⟨by decide +kernel, ⟨by decide +kernel, by decide +kernel⟩, (q_up_r3 11 rfl)⟩⟩
theorem qE_Jxc12de_1 : q_kok qT qTX RJxc12de (7, 0, 0, 0, 0) := by
  unfold q_kok
  exact ⟨(RJx4a65c, TJx4a65c, 3), "java/util/AbstractList", rfl, by decide, (q_up_r3 8 rfl), Or.inl rfl, Or.inl ⟨rfl, rfl⟩⟩
theorem qE_Jx4a65c_0 : q_kok qT qTX RJx4a65c (1, 3, 322, 0, 0) := by
  unfold q_kok
  exact ⟨qM_Jxc12de_init_da8c8, rfl, rfl, rfl, rfl, (q_up_r3 4 rfl), (q_up_r3 5 rfl), ⟨by decide +kernel, ⟨by decide +kernel, by decide +kernel⟩, (q_up_r3 6 rfl)⟩⟩
theorem qE_Jx4a65c_1 : q_kok qT qTX RJx4a65c (100007, 6, 107, 0, 0) := by
  unfold q_kok
  exact ⟨by decide, by decide, (q_up_r15 20 rfl)⟩
theorem qE_Jx4a65c_2 : q_kok qT qTX RJx4a65c (9, 0, 0, 1, 0) := by
  unfold q_kok
  exact ⟨(RJx4a65c, TJx4a65c, 3), "java/util/ArrayList", rfl, by decide, (q_up_r3 3 rfl), Or.inl rfl, Or.inl ⟨rfl, rfl⟩⟩
theorem qE_Jx4a65c_3 : q_kok qT qTX RJx4a65c (39, 9, 1, 0, 0) := by
  unfold q_kok
  exact ⟨by decide, by decide, (q_up_r3 2 rfl)⟩
theorem qE_Jx4a65c_4 : q_kok qT qTX RJx4a65c (48, 0, 0, 2, 0) := by
  unfold q_kok
  exact ⟨(RJx4a65c, TJx4a65c, 3), "java/util/ArrayList", rfl, by decide, (q_up_r14 17 rfl), Or.inl rfl, Or.inl ⟨rfl, rfl⟩⟩
theorem qE_Jx4a65c_5 : q_kok qT qTX RJx4a65c (63, 0, 0, 0, 0) := by
  unfold q_kok
  exact ⟨(RJx4a65c, TJx4a65c, 3), "java/util/ArrayList", rfl, by decide, (q_up_r15 2 rfl), Or.inr (q_up_r15 3 rfl), Or.inl ⟨rfl, rfl⟩⟩
theorem qE_Jx4a65c_6 : q_kok qT qTX RJx4a65c (66, 2, 333, 2, 0) := by
  unfold q_kok
  exact ⟨qM_J7_copyOf_1904c, rfl, (q_up_r16 6 rfl), (q_up_r16 7 rfl), ⟨by decide +kernel, ⟨by decide +kernel, by decide +kernel⟩, (q_up_r16 8 rfl)⟩⟩
theorem qE_Jx4a65c_7 : q_kok qT qTX RJx4a65c (69, 1, 324, 1, 0) := by
  unfold q_kok
  exact ⟨qM_Jx4a65c_grow_92f84, (RJx4a65c, TJx4a65c, 3), rfl, rfl, rfl, rfl, (q_up_r15 12 rfl), (q_up_r15 13 rfl), (q_up_r15 14 rfl), ⟨by decide +kernel, ⟨by decide +kernel, by decide +kernel⟩, (q_up_r1 19 rfl)⟩⟩
theorem qE_Jx4a65c_8 : q_kok qT qTX RJx4a65c (73, 2, 337, 3, 0) := by
  unfold q_kok
  exact ⟨qM_J8_newLength_cabcc, rfl, (q_up_r15 21 rfl), (q_up_r15 22 rfl), ⟨by decide +kernel, ⟨by decide +kernel, by decide +kernel⟩, (q_up_r15 23 rfl)⟩⟩
theorem qE_Jx4a65c_9 : q_kok qT qTX RJx4a65c (79, 2, 319, 2, 0) := by
  unfold q_kok
  exact ⟨qM_J9_max_7cf53, rfl, (q_up_r15 16 rfl), (q_up_r15 17 rfl), ⟨by decide +kernel, ⟨by decide +kernel, by decide +kernel⟩, (q_up_r15 18 rfl)⟩⟩
theorem qE_Jx4a65c_10 : q_kok qT qTX RJx4a65c (118, 2, 336, 2, 0) := by
  unfold q_kok
  exact ⟨qM_J15_checkIndex_7cf53, rfl, (q_up_r23 21 rfl), (q_up_r23 22 rfl), ⟨by decide +kernel, ⟨by decide +kernel, by decide +kernel⟩, (q_up_r23 23 rfl)⟩⟩
theorem qE_Jx4a65c_11 : q_kok qT qTX RJx4a65c (123, 1, 328, 1, 0) := by
  unfold q_kok
  exact ⟨qM_Jx4a65c_elementData_915e3, (RJx4a65c, TJx4a65c, 3), rfl, rfl, rfl, rfl, (q_up_r24 5 rfl), (q_up_r24 6 rfl), (q_up_r24 7 rfl), ⟨by decide +kernel, ⟨by decide +kernel, by decide +kernel⟩, (q_up_r1 19 rfl)⟩⟩
theorem qE_Jx4a65c_12 : q_kok qT qTX RJx4a65c (129, 1, 325, 0, 0) := by
  unfold q_kok
  exact ⟨qM_Jx4a65c_grow_d5877, (RJx4a65c, TJx4a65c, 3), rfl, rfl, rfl, rfl, (q_up_r15 8 rfl), (q_up_r15 9 rfl), (q_up_r15 10 rfl), ⟨by decide +kernel, ⟨by decide +kernel, by decide +kernel⟩, (q_up_r1 19 rfl)⟩⟩
theorem qE_Jx4a65c_13 : q_kok qT qTX RJx4a65c (131, 1, 330, 3, 0) := by
  unfold q_kok
  exact ⟨qM_Jx4a65c_add_72be8, (RJx4a65c, TJx4a65c, 3), rfl, rfl, rfl, rfl, (q_up_r15 4 rfl), (q_up_r15 5 rfl), (q_up_r15 6 rfl), ⟨by decide +kernel, ⟨by decide +kernel, by decide +kernel⟩, (q_up_r1 19 rfl)⟩⟩
theorem qE_J7_0 : q_kok qT qTX RJ7 (100002, 6, 107, 0, 0) := by
  unfold q_kok
  exact ⟨by decide, by decide, (q_up_r16 18 rfl)⟩
theorem qE_J7_1 : q_kok qT qTX RJ7 (86, 19, 0, 0, 0) := by
  unfold q_kok
  exact ⟨(q_up_r16 10 rfl), (q_up_r16 11 rfl), (q_up_r16 12 rfl), (q_up_r16 13 rfl)⟩
theorem qE_J7_2 : q_kok qT qTX RJ7 (110, 18, 0, 0, 0) := by
  unfold q_kok
  exact (q_up_r16 17 rfl)
theorem qE_J7_3 : q_kok qT qTX RJ7 (150, 21, 0, 0, 0) := by
  unfold q_kok
  exact ⟨(q_up_r16 22 rfl), (q_up_r16 23 rfl), (q_up_r17 0 rfl), (q_up_r17 1 rfl)⟩
theorem qE_J7_4 : q_kok qT qTX RJ7 (300, 2, 334, 3, 0) := by
  unfold q_kok
  exact ⟨qM_J7_copyOf_6403c, rfl, (q_up_r16 14 rfl), (q_up_r16 15 rfl), ⟨by decide +kernel, ⟨by decide +kernel, by decide +kernel⟩, (q_up_r16 8 rfl)⟩⟩
theorem qE_J7_5 : q_kok qT qTX RJ7 (304, 2, 320, 2, 0) := by
  unfold q_kok
  exact ⟨qM_J9_min_7cf53, rfl, (q_up_r16 19 rfl), (q_up_r16 20 rfl), ⟨by decide +kernel, ⟨by decide +kernel, by decide +kernel⟩, (q_up_r15 18 rfl)⟩⟩
theorem qE_J7_6 : q_kok qT qTX RJ7 (319, 20, 0, 0, 0) := by
  unfold q_kok
  exact ⟨(q_up_r27 17 rfl), (q_up_r27 18 rfl), (q_up_r27 19 rfl), (q_up_r27 20 rfl), (q_up_r27 21 rfl)⟩
theorem qE_J7_7 : q_kok qT qTX RJ7 (200320, 16, 101, 0, 0) := by
  unfold q_kok
  exact Or.inl ⟨rfl, (q_up_r27 22 rfl)⟩
theorem qE_J15_0 : q_kok qT qTX RJ15 (105, 2, 339, 3, 0) := by
  unfold q_kok
  exact ⟨qM_J3_checkIndex_8e157, rfl, (q_up_r24 1 rfl), (q_up_r24 2 rfl), ⟨by decide +kernel, ⟨by decide +kernel, by decide +kernel⟩, (q_up_r24 3 rfl)⟩⟩
theorem qE_J8_0 : q_kok qT qTX RJ8 (194, 2, 319, 2, 0) := by
  unfold q_kok
  exact ⟨qM_J9_max_7cf53, rfl, (q_up_r16 1 rfl), (q_up_r15 17 rfl), ⟨by decide +kernel, ⟨by decide +kernel, by decide +kernel⟩, (q_up_r15 18 rfl)⟩⟩
theorem qE_J8_1 : q_kok qT qTX RJ8 (200, 7, 2147483639, 0, 0) := by
  unfold q_kok
  exact (q_up_r16 2 rfl)
theorem qE_J8_2 : q_kok qT qTX RJ8 (201, 2, 338, 2, 0) := by
  unfold q_kok
  exact ⟨qM_J8_hugeLength_7cf53, rfl, (q_up_r16 3 rfl), (q_up_r16 4 rfl), ⟨by decide +kernel, ⟨by decide +kernel, by decide +kernel⟩, (q_up_r15 23 rfl)⟩⟩
