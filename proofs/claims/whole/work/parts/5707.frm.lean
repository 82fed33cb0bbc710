/-! What methods leave as it was (written by wip/whole/dec.py), 6. -/
section FW6
def fW_X12_removes : List (Int × Int × Int) := [(0, 68, 91), (0, 143, (-9)), (0, 144, (-9)), (0, 145, (-9)), (0, 146, (-9)), (0, 147, (-9)), (0, 148, (-9)), (0, 149, (-9)), (0, 150, (-9)), (0, 151, (-9))]
set_option maxHeartbeats 4000000 in
theorem fwl_X12_removes_12 {P : Prop} {mb : MM} {rz : Int} {rm : MM} (hF0 : Fix mb) (hQ : Fr fW_X12_removes 0 mb rm → P) :
  ∀ (n : Nat) {m : MM} {y2 : Int} , Fr fW_X12_removes 0 mb m → fl_X12_removes_12 n y2 m = some (rz, rm) → P := by
  intro n
  induction n with
  | zero => intro m y2 w h; cases h
  | succ n ih0 =>
    intro m y2 w h
    have ih : ∀ mq : MM, Fr fW_X12_removes 0 mb mq → ∀ {z2 : Int}, fl_X12_removes_12 n z2 mq = some (rz, rm) → P := fun mq b => by intros; exact ih0 b ‹_›
    unfold fl_X12_removes_12 at h
    obtain ⟨x_24, e_25, h⟩ := lx_s h
    rcases it_s h with ⟨hp_26, h⟩ | ⟨hp_26, h⟩
    · obtain ⟨g_39, h⟩ := gd_s h
      obtain ⟨x_41, e_42, h⟩ := lx_s h
      obtain ⟨g_43, h⟩ := gd_s h
      obtain ⟨m_44, e_45, h⟩ := up_s h
      have E_48 := ext_up e_45 (And.left (fx_kF (c := 100) (Fr.fix w) (by decide +kernel))) (And.left g_43)
      have w_49 := Fr.upC (y := (-9)) w e_45 (ext_up e_45 (And.left (fx_kF (c := 100) (Fr.fix w) (by decide +kernel))) (And.left g_43)) (fx_a (Fr.fix w) (fx_kF (c := 100) (Fr.fix w) (by decide +kernel)) (And.left g_43) (by decide +kernel)) (Or.inl rfl) (by decide +kernel)
      obtain ⟨x_64, e_65, h⟩ := lx_s h
      obtain ⟨m_66, e_67, h⟩ := up_s h
      have E_70 := ext_up e_67 (And.left (fx_kF (c := 100) (Fr.fix w_49) (by decide +kernel))) (And.left g_43)
      have w_71 := Fr.upC (y := (-9)) w_49 e_67 (ext_up e_67 (And.left (fx_kF (c := 100) (Fr.fix w_49) (by decide +kernel))) (And.left g_43)) (fx_a (Fr.fix w_49) (fx_kF (c := 100) (Fr.fix w_49) (by decide +kernel)) (And.left g_43) (by decide +kernel)) (Or.inl rfl) (by decide +kernel)
      obtain ⟨x_86, e_87, h⟩ := lx_s h
      obtain ⟨m_88, e_89, h⟩ := up_s h
      have E_92 := ext_up e_89 (And.left (fx_kF (c := 100) (Fr.fix w_71) (by decide +kernel))) (And.left g_43)
      have w_93 := Fr.upC (y := (-9)) w_71 e_89 (ext_up e_89 (And.left (fx_kF (c := 100) (Fr.fix w_71) (by decide +kernel))) (And.left g_43)) (fx_a (Fr.fix w_71) (fx_kF (c := 100) (Fr.fix w_71) (by decide +kernel)) (And.left g_43) (by decide +kernel)) (Or.inl rfl) (by decide +kernel)
      obtain ⟨x_108, e_109, h⟩ := lx_s h
      obtain ⟨m_110, e_111, h⟩ := up_s h
      have E_114 := ext_up e_111 (And.left (fx_kF (c := 100) (Fr.fix w_93) (by decide +kernel))) (And.left g_43)
      have w_115 := Fr.upC (y := (-9)) w_93 e_111 (ext_up e_111 (And.left (fx_kF (c := 100) (Fr.fix w_93) (by decide +kernel))) (And.left g_43)) (fx_a (Fr.fix w_93) (fx_kF (c := 100) (Fr.fix w_93) (by decide +kernel)) (And.left g_43) (by decide +kernel)) (Or.inl rfl) (by decide +kernel)
      obtain ⟨x_130, e_131, h⟩ := lx_s h
      obtain ⟨m_132, e_133, h⟩ := up_s h
      have E_136 := ext_up e_133 (And.left (fx_kF (c := 100) (Fr.fix w_115) (by decide +kernel))) (And.left g_43)
      have w_137 := Fr.upC (y := (-9)) w_115 e_133 (ext_up e_133 (And.left (fx_kF (c := 100) (Fr.fix w_115) (by decide +kernel))) (And.left g_43)) (fx_a (Fr.fix w_115) (fx_kF (c := 100) (Fr.fix w_115) (by decide +kernel)) (And.left g_43) (by decide +kernel)) (Or.inl rfl) (by decide +kernel)
      obtain ⟨x_152, e_153, h⟩ := lx_s h
      obtain ⟨m_154, e_155, h⟩ := up_s h
      have E_158 := ext_up e_155 (And.left (fx_kF (c := 100) (Fr.fix w_137) (by decide +kernel))) (And.left g_43)
      have w_159 := Fr.upC (y := (-9)) w_137 e_155 (ext_up e_155 (And.left (fx_kF (c := 100) (Fr.fix w_137) (by decide +kernel))) (And.left g_43)) (fx_a (Fr.fix w_137) (fx_kF (c := 100) (Fr.fix w_137) (by decide +kernel)) (And.left g_43) (by decide +kernel)) (Or.inl rfl) (by decide +kernel)
      obtain ⟨x_174, e_175, h⟩ := lx_s h
      obtain ⟨m_176, e_177, h⟩ := up_s h
      have E_180 := ext_up e_177 (And.left (fx_kF (c := 100) (Fr.fix w_159) (by decide +kernel))) (And.left g_43)
      have w_181 := Fr.upC (y := (-9)) w_159 e_177 (ext_up e_177 (And.left (fx_kF (c := 100) (Fr.fix w_159) (by decide +kernel))) (And.left g_43)) (fx_a (Fr.fix w_159) (fx_kF (c := 100) (Fr.fix w_159) (by decide +kernel)) (And.left g_43) (by decide +kernel)) (Or.inl rfl) (by decide +kernel)
      obtain ⟨x_196, e_197, h⟩ := lx_s h
      obtain ⟨m_198, e_199, h⟩ := up_s h
      have E_202 := ext_up e_199 (And.left (fx_kF (c := 100) (Fr.fix w_181) (by decide +kernel))) (And.left g_43)
      have w_203 := Fr.upC (y := (-9)) w_181 e_199 (ext_up e_199 (And.left (fx_kF (c := 100) (Fr.fix w_181) (by decide +kernel))) (And.left g_43)) (fx_a (Fr.fix w_181) (fx_kF (c := 100) (Fr.fix w_181) (by decide +kernel)) (And.left g_43) (by decide +kernel)) (Or.inl rfl) (by decide +kernel)
      obtain ⟨x_218, e_219, h⟩ := lx_s h
      obtain ⟨g_220, h⟩ := gd_s h
      obtain ⟨m_221, e_222, h⟩ := up_s h
      have E_225 := ext_up e_222 (And.left (fx_kF (c := 102) (Fr.fix w_203) (by decide +kernel))) (And.left g_43)
      have w_226 := Fr.upC (y := (-9)) w_203 e_222 (ext_up e_222 (And.left (fx_kF (c := 102) (Fr.fix w_203) (by decide +kernel))) (And.left g_43)) (fx_a (Fr.fix w_203) (fx_kF (c := 102) (Fr.fix w_203) (by decide +kernel)) (And.left g_43) (by decide +kernel)) (Or.inl rfl) (by decide +kernel)
      obtain ⟨x_233, e_234, h⟩ := lx_s h
      exact ih m_221 w_226 h
    · cases h
      exact hQ w
set_option maxHeartbeats 4000000 in
theorem fw_X12_removes {m0 : MM} {p1 : Int} {rz : Int} {rm : MM} (hF : Fix m0)
  (h : fm_X12_removes p1 m0 = some (rz, rm)) : Fr fW_X12_removes 0 m0 rm := by
  have hQ : Fr fW_X12_removes 0 m0 rm → Fr fW_X12_removes 0 m0 rm := id
  unfold fm_X12_removes at h
  obtain ⟨x_4, e_5, h⟩ := lx_s h
  obtain ⟨m_10, e_11, h⟩ := up_s h
  have E_14 := ext_up e_11 (And.left (fx_kF (c := 13) hF (by decide +kernel))) (by decide)
  have w_15 := Fr.upC (y := 91) (Fr.rf (W := fW_X12_removes) (e := 0) hF) e_11 (ext_up e_11 (And.left (fx_kF (c := 13) hF (by decide +kernel))) (by decide)) (fx_f (j := 91) hF (fx_kF (c := 13) hF (by decide +kernel)) (by decide +kernel)) (Or.inr rfl) (by decide +kernel)
  refine fwl_X12_removes_12 (Fr.fix w_15)  (fun f => hQ (Fr.trS w_15 f)) BIG (Fr.rf (Fr.fix w_15)) h
def fW_X12_endsRun : List (Int × Int × Int) := [(0, 68, 112), (0, 68, 114), (0, 68, 115), (0, 68, 116), (0, 68, 120), (0, 68, 125), (0, 158, (-9)), (0, 159, (-9))]
set_option maxHeartbeats 4000000 in
theorem fw_X12_endsRun {m0 : MM} {p1 p2 : Int} {rz : Int} {rm : MM} (hF : Fix m0)
  (h : fm_X12_endsRun p1 p2 m0 = some (rz, rm)) : Fr fW_X12_endsRun 0 m0 rm := by
  have hQ : Fr fW_X12_endsRun 0 m0 rm → Fr fW_X12_endsRun 0 m0 rm := id
  unfold fm_X12_endsRun at h
  obtain ⟨x_4, m_5, hc_3, h⟩ := bd_s h
  have w_12 := (fw_X12_commands hF hc_3)
  have E_10 := Fr.ext w_12
  have w_13 := Fr.tr0 (Fr.rf (W := fW_X12_endsRun) (e := 0) hF) w_12 (by decide +kernel)
  obtain ⟨x_23, e_24, h⟩ := lx_s h
  rcases it_s h with ⟨hp_25, h⟩ | ⟨hp_25, h⟩
  · rcases it_s h with ⟨hp_26, h⟩ | ⟨hp_26, h⟩
    · cases h
      exact hQ w_13
    · obtain ⟨m_27, e_28, h⟩ := up_s h
      have E_31 := ext_up e_28 (And.left (fx_kF (c := 13) (Fr.fix w_13) (by decide +kernel))) (by decide)
      have w_32 := Fr.upC (y := 112) w_13 e_28 (ext_up e_28 (And.left (fx_kF (c := 13) (Fr.fix w_13) (by decide +kernel))) (by decide)) (fx_f (j := 112) (Fr.fix w_13) (fx_kF (c := 13) (Fr.fix w_13) (by decide +kernel)) (by decide +kernel)) (Or.inr rfl) (by decide +kernel)
      cases h
      exact hQ w_32
  · cases h
    exact hQ w_13
def fW_X12_endsBranch : List (Int × Int × Int) := [(0, 68, 91), (0, 68, 112), (0, 68, 114), (0, 68, 115), (0, 68, 116), (0, 68, 120), (0, 68, 125), (0, 143, (-9)), (0, 144, (-9)), (0, 145, (-9)), (0, 146, (-9)), (0, 147, (-9)), (0, 148, (-9)), (0, 149, (-9)), (0, 150, (-9)), (0, 151, (-9)), (0, 158, (-9)), (0, 159, (-9))]
set_option maxHeartbeats 4000000 in
theorem fw_X12_endsBranch {m0 : MM} {p1 : Int} {rz : Int} {rm : MM} (hF : Fix m0)
  (h : fm_X12_endsBranch p1 m0 = some (rz, rm)) : Fr fW_X12_endsBranch 0 m0 rm := by
  have hQ : Fr fW_X12_endsBranch 0 m0 rm → Fr fW_X12_endsBranch 0 m0 rm := id
  unfold fm_X12_endsBranch at h
  obtain ⟨g_6, h⟩ := gd_s h
  obtain ⟨x_8, e_9, h⟩ := lx_s h
  rcases it_s h with ⟨hp_10, h⟩ | ⟨hp_10, h⟩
  · obtain ⟨x_33, e_34, h⟩ := lx_s h
    obtain ⟨x_36, m_37, hc_35, h⟩ := bd_s h
    have w_44 := (fw_X12_endsRun hF hc_35)
    have E_42 := Fr.ext w_44
    have w_45 := Fr.tr0 (Fr.rf (W := fW_X12_endsBranch) (e := 0) hF) w_44 (by decide +kernel)
    cases h
    exact hQ w_45
  · obtain ⟨x_12, m_13, hc_11, h⟩ := bd_s h
    have w_20 := (fw_X12_removes hF hc_11)
    have E_18 := Fr.ext w_20
    have w_21 := Fr.tr0 (Fr.rf (W := fW_X12_endsBranch) (e := 0) hF) w_20 (by decide +kernel)
    cases h
    exact hQ w_21
def fW_X12_failsBranch : List (Int × Int × Int) := [(0, 68, 112), (0, 68, 114), (0, 68, 115), (0, 68, 116), (0, 68, 120), (0, 68, 125), (0, 144, (-9)), (0, 145, (-9)), (0, 148, (-9)), (0, 158, (-9)), (0, 159, (-9))]
set_option maxHeartbeats 4000000 in
theorem fw_X12_failsBranch {m0 : MM} {p1 : Int} {rz : Int} {rm : MM} (hF : Fix m0)
  (h : fm_X12_failsBranch p1 m0 = some (rz, rm)) : Fr fW_X12_failsBranch 0 m0 rm := by
  have hQ : Fr fW_X12_failsBranch 0 m0 rm → Fr fW_X12_failsBranch 0 m0 rm := id
  unfold fm_X12_failsBranch at h
  obtain ⟨g_6, h⟩ := gd_s h
  obtain ⟨m_7, e_8, h⟩ := up_s h
  have E_11 := ext_up e_8 (And.left (fx_kF (c := 100) hF (by decide +kernel))) (And.left g_6)
  have w_12 := Fr.upC (y := (-9)) (Fr.rf (W := fW_X12_failsBranch) (e := 0) hF) e_8 (ext_up e_8 (And.left (fx_kF (c := 100) hF (by decide +kernel))) (And.left g_6)) (fx_a hF (fx_kF (c := 100) hF (by decide +kernel)) (And.left g_6) (by decide +kernel)) (Or.inl rfl) (by decide +kernel)
  obtain ⟨x_20, e_21, h⟩ := lx_s h
  rcases it_s h with ⟨hp_24, h⟩ | ⟨hp_24, h⟩
  · obtain ⟨x_94, m_95, hc_93, h⟩ := bd_s h
    have w_102 := (fw_X12_endsRun (Fr.fix w_12) hc_93)
    have E_100 := Fr.ext w_102
    have w_103 := Fr.tr0 w_12 w_102 (by decide +kernel)
    cases h
    exact hQ w_103
  · obtain ⟨g_39, h⟩ := gd_s h
    obtain ⟨x_41, e_42, h⟩ := lx_s h
    obtain ⟨m_47, e_48, h⟩ := up_s h
    have E_51 := ext_up e_48 (And.left (fx_kF (c := 100) (Fr.fix w_12) (by decide +kernel))) (And.left g_6)
    have w_52 := Fr.upC (y := (-9)) w_12 e_48 (ext_up e_48 (And.left (fx_kF (c := 100) (Fr.fix w_12) (by decide +kernel))) (And.left g_6)) (fx_a (Fr.fix w_12) (fx_kF (c := 100) (Fr.fix w_12) (by decide +kernel)) (And.left g_6) (by decide +kernel)) (Or.inl rfl) (by decide +kernel)
    obtain ⟨x_66, e_67, h⟩ := lx_s h
    obtain ⟨g_70, h⟩ := gd_s h
    obtain ⟨x_72, e_73, h⟩ := lx_s h
    obtain ⟨m_82, e_83, h⟩ := up_s h
    have E_86 := ext_up e_83 (And.left (fx_kF (c := 100) (Fr.fix w_52) (by decide +kernel))) (And.left g_6)
    have w_87 := Fr.upC (y := (-9)) w_52 e_83 (ext_up e_83 (And.left (fx_kF (c := 100) (Fr.fix w_52) (by decide +kernel))) (And.left g_6)) (fx_a (Fr.fix w_52) (fx_kF (c := 100) (Fr.fix w_52) (by decide +kernel)) (And.left g_6) (by decide +kernel)) (Or.inl rfl) (by decide +kernel)
    cases h
    exact hQ w_87
def fW_X12_lets : List (Int × Int × Int) := [(0, 68, 114), (0, 68, 115), (0, 68, 116), (0, 68, 120), (0, 68, 125), (0, 145, (-9)), (0, 158, (-9)), (0, 159, (-9))]
set_option maxHeartbeats 4000000 in
theorem fwj_X12_lets_20 {P : Prop} {m : MM} {y1 : Int} {rz : Int} {rm : MM} (hF : Fix m) (hQ : Fr fW_X12_lets 0 m rm → P)
  (h : fj_X12_lets_20 y1 m = some (rz, rm)) : P := by
  unfold fj_X12_lets_20 at h
  obtain ⟨g_20, h⟩ := gd_s h
  obtain ⟨x_22, e_23, h⟩ := lx_s h
  obtain ⟨x_27, m_28, hc_26, h⟩ := bd_s h
  have w_35 := (fw_X12_commands hF hc_26)
  have E_33 := Fr.ext w_35
  have w_36 := Fr.tr0 (Fr.rf (W := fW_X12_lets) (e := 0) hF) w_35 (by decide +kernel)
  obtain ⟨m_43, e_44, h⟩ := up_s h
  have E_47 := ext_up e_44 (And.left (fx_kF (c := 100) (Fr.fix w_36) (by decide +kernel))) (And.left g_20)
  have w_48 := Fr.upC (y := (-9)) w_36 e_44 (ext_up e_44 (And.left (fx_kF (c := 100) (Fr.fix w_36) (by decide +kernel))) (And.left g_20)) (fx_a (Fr.fix w_36) (fx_kF (c := 100) (Fr.fix w_36) (by decide +kernel)) (And.left g_20) (by decide +kernel)) (Or.inl rfl) (by decide +kernel)
  cases h
  exact hQ w_48
set_option maxHeartbeats 4000000 in
theorem fw_X12_lets {m0 : MM} {p1 : Int} {rz : Int} {rm : MM} (hF : Fix m0)
  (h : fm_X12_lets p1 m0 = some (rz, rm)) : Fr fW_X12_lets 0 m0 rm := by
  have hQ : Fr fW_X12_lets 0 m0 rm → Fr fW_X12_lets 0 m0 rm := id
  unfold fm_X12_lets at h
  obtain ⟨g_6, h⟩ := gd_s h
  obtain ⟨x_8, e_9, h⟩ := lx_s h
  rcases it_s h with ⟨hp_12, h⟩ | ⟨hp_12, h⟩
  · exact fwj_X12_lets_20 hF hQ h
  · rcases it_s h with ⟨hp_58, h⟩ | ⟨hp_58, h⟩
    · exact fwj_X12_lets_20 hF hQ h
    · obtain ⟨m_64, e_65, h⟩ := up_s h
      have E_68 := ext_up e_65 (And.left (fx_kF (c := 100) hF (by decide +kernel))) (And.left g_6)
      have w_69 := Fr.upC (y := (-9)) (Fr.rf (W := fW_X12_lets) (e := 0) hF) e_65 (ext_up e_65 (And.left (fx_kF (c := 100) hF (by decide +kernel))) (And.left g_6)) (fx_a hF (fx_kF (c := 100) hF (by decide +kernel)) (And.left g_6) (by decide +kernel)) (Or.inl rfl) (by decide +kernel)
      cases h
      exact hQ w_69
def fW_X12_cancelsBranch : List (Int × Int × Int) := [(0, 68, 112), (0, 68, 114), (0, 68, 115), (0, 68, 116), (0, 68, 120), (0, 68, 125), (0, 144, (-9)), (0, 145, (-9)), (0, 148, (-9)), (0, 151, (-9)), (0, 158, (-9)), (0, 159, (-9))]
set_option maxHeartbeats 4000000 in
theorem fw_X12_cancelsBranch {m0 : MM} {p1 : Int} {rz : Int} {rm : MM} (hF : Fix m0)
  (h : fm_X12_cancelsBranch p1 m0 = some (rz, rm)) : Fr fW_X12_cancelsBranch 0 m0 rm := by
  have hQ : Fr fW_X12_cancelsBranch 0 m0 rm → Fr fW_X12_cancelsBranch 0 m0 rm := id
  unfold fm_X12_cancelsBranch at h
  obtain ⟨g_6, h⟩ := gd_s h
  obtain ⟨m_7, e_8, h⟩ := up_s h
  have E_11 := ext_up e_8 (And.left (fx_kF (c := 102) hF (by decide +kernel))) (And.left g_6)
  have w_12 := Fr.upC (y := (-9)) (Fr.rf (W := fW_X12_cancelsBranch) (e := 0) hF) e_8 (ext_up e_8 (And.left (fx_kF (c := 102) hF (by decide +kernel))) (And.left g_6)) (fx_a hF (fx_kF (c := 102) hF (by decide +kernel)) (And.left g_6) (by decide +kernel)) (Or.inl rfl) (by decide +kernel)
  obtain ⟨x_15, m_16, hc_14, h⟩ := bd_s h
  have w_23 := (fw_X12_lets (Fr.fix w_12) hc_14)
  have E_21 := Fr.ext w_23
  have w_24 := Fr.tr0 w_12 w_23 (by decide +kernel)
  obtain ⟨x_27, hc_26, h⟩ := bp_s h
  rcases it_s h with ⟨hp_35, h⟩ | ⟨hp_35, h⟩
  · cases h
    exact hQ w_24
  · obtain ⟨x_37, m_38, hc_36, h⟩ := bd_s h
    have w_45 := (fw_X12_failsBranch (Fr.fix w_24) hc_36)
    have E_43 := Fr.ext w_45
    have w_46 := Fr.tr0 w_24 w_45 (by decide +kernel)
    cases h
    exact hQ w_46
def fW_X12_dropsBranch : List (Int × Int × Int) := [(0, 68, 91), (0, 68, 114), (0, 68, 115), (0, 68, 116), (0, 68, 120), (0, 68, 125), (0, 143, (-9)), (0, 144, (-9)), (0, 145, (-9)), (0, 146, (-9)), (0, 147, (-9)), (0, 148, (-9)), (0, 149, (-9)), (0, 150, (-9)), (0, 151, (-9)), (0, 158, (-9)), (0, 159, (-9))]
set_option maxHeartbeats 4000000 in
theorem fwl_X12_dropsBranch_2 {P : Prop} {mb : MM} {y1 : Int} {k42 : MM → Option (Int × MM)} {rz : Int} {rm : MM} (hF0 : Fix mb)
  (hk42 : ∀ mq : MM, Fr fW_X12_dropsBranch 0 mb mq → k42 mq = some (rz, rm) → P) (hQ : Fr fW_X12_dropsBranch 0 mb rm → P) :
  ∀ (n : Nat) {m : MM} {y2 : Int} , Fr fW_X12_dropsBranch 0 mb m → fl_X12_dropsBranch_2 y1 k42 n y2 m = some (rz, rm) → P := by
  intro n
  induction n with
  | zero => intro m y2 w h; cases h
  | succ n ih0 =>
    intro m y2 w h
    have ih : ∀ mq : MM, Fr fW_X12_dropsBranch 0 mb mq → ∀ {z2 : Int}, fl_X12_dropsBranch_2 y1 k42 n z2 mq = some (rz, rm) → P := fun mq b => by intros; exact ih0 b ‹_›
    unfold fl_X12_dropsBranch_2 at h
    obtain ⟨x_11, e_12, h⟩ := lx_s h
    rcases it_s h with ⟨hp_13, h⟩ | ⟨hp_13, h⟩
    · obtain ⟨x_15, hc_14, h⟩ := bp_s h
      rcases it_s h with ⟨hp_23, h⟩ | ⟨hp_23, h⟩
      · exact hk42 m w h
      · obtain ⟨g_29, h⟩ := gd_s h
        obtain ⟨x_31, e_32, h⟩ := lx_s h
        obtain ⟨x_34, hc_33, h⟩ := bp_s h
        rcases it_s h with ⟨hp_42, h⟩ | ⟨hp_42, h⟩
        · obtain ⟨x_48, e_49, h⟩ := lx_s h
          exact ih m w h
        · obtain ⟨x_54, m_55, hc_53, h⟩ := bd_s h
          have w_62 := (fw_X12_lets (Fr.fix w) hc_53)
          have E_60 := Fr.ext w_62
          have w_63 := Fr.tr0 w w_62 (by decide +kernel)
          obtain ⟨x_70, e_71, h⟩ := lx_s h
          exact ih m_55 w_63 h
    · exact hk42 m w h
set_option maxHeartbeats 4000000 in
theorem fwl_X12_dropsBranch_49 {P : Prop} {mb : MM} {y1 : Int} {rz : Int} {rm : MM} (hF0 : Fix mb) (hQ : Fr fW_X12_dropsBranch 0 mb rm → P) :
  ∀ (n : Nat) {m : MM} {y2 : Int} , Fr fW_X12_dropsBranch 0 mb m → fl_X12_dropsBranch_49 y1 n y2 m = some (rz, rm) → P := by
  intro n
  induction n with
  | zero => intro m y2 w h; cases h
  | succ n ih0 =>
    intro m y2 w h
    have ih : ∀ mq : MM, Fr fW_X12_dropsBranch 0 mb mq → ∀ {z2 : Int}, fl_X12_dropsBranch_49 y1 n z2 mq = some (rz, rm) → P := fun mq b => by intros; exact ih0 b ‹_›
    unfold fl_X12_dropsBranch_49 at h
    rcases it_s h with ⟨hp_106, h⟩ | ⟨hp_106, h⟩
    · cases h
      exact hQ w
    · obtain ⟨x_108, hc_107, h⟩ := bp_s h
      rcases it_s h with ⟨hp_116, h⟩ | ⟨hp_116, h⟩
      · cases h
        exact hQ w
      · obtain ⟨g_122, h⟩ := gd_s h
        obtain ⟨x_124, e_125, h⟩ := lx_s h
        obtain ⟨x_127, hc_126, h⟩ := bp_s h
        rcases it_s h with ⟨hp_135, h⟩ | ⟨hp_135, h⟩
        · obtain ⟨x_141, e_142, h⟩ := lx_s h
          exact ih m w h
        · obtain ⟨x_147, m_148, hc_146, h⟩ := bd_s h
          have w_155 := (fw_X12_removes (Fr.fix w) hc_146)
          have E_153 := Fr.ext w_155
          have w_156 := Fr.tr0 w w_155 (by decide +kernel)
          obtain ⟨x_163, e_164, h⟩ := lx_s h
          exact ih m_148 w_156 h
set_option maxHeartbeats 4000000 in
theorem fw_X12_dropsBranch {m0 : MM} {p1 : Int} {rz : Int} {rm : MM} (hF : Fix m0)
  (h : fm_X12_dropsBranch p1 m0 = some (rz, rm)) : Fr fW_X12_dropsBranch 0 m0 rm := by
  have hQ : Fr fW_X12_dropsBranch 0 m0 rm → Fr fW_X12_dropsBranch 0 m0 rm := id
  unfold fm_X12_dropsBranch at h
  refine fwl_X12_dropsBranch_2 hF ?_ hQ BIG (Fr.rf hF) h
  intro m_84 w_87
  intro h
  have E_85 := Fr.ext w_87
  have w_88 := w_87
  obtain ⟨x_92, e_93, h⟩ := lx_s h
  obtain ⟨x_98, e_99, h⟩ := lx_s h
  refine fwl_X12_dropsBranch_49 (Fr.fix w_88)  (fun f => hQ (Fr.trS w_88 f)) BIG (Fr.rf (Fr.fix w_88)) h
def fW_X12_wins : List (Int × Int × Int) := [(0, 68, 91), (0, 68, 114), (0, 68, 115), (0, 68, 116), (0, 68, 120), (0, 68, 125), (0, 143, (-9)), (0, 144, (-9)), (0, 145, (-9)), (0, 146, (-9)), (0, 147, (-9)), (0, 148, (-9)), (0, 149, (-9)), (0, 150, (-9)), (0, 151, (-9)), (0, 158, (-9)), (0, 159, (-9))]
set_option maxHeartbeats 4000000 in
theorem fwj_X12_wins_28 {P : Prop} {m : MM} {y1 y2 y3 s0 : Int} {rz : Int} {rm : MM} (hF : Fix m) (hQ : Fr fW_X12_wins 0 m rm → P)
  (h : fj_X12_wins_28 y1 y2 y3 s0 m = some (rz, rm)) : P := by
  unfold fj_X12_wins_28 at h
  obtain ⟨g_53, h⟩ := gd_s h
  obtain ⟨x_55, e_56, h⟩ := lx_s h
  obtain ⟨m_61, e_62, h⟩ := up_s h
  have E_65 := ext_up e_62 (And.left (fx_kF (c := 100) hF (by decide +kernel))) (And.left g_53)
  have w_66 := Fr.upC (y := (-9)) (Fr.rf (W := fW_X12_wins) (e := 0) hF) e_62 (ext_up e_62 (And.left (fx_kF (c := 100) hF (by decide +kernel))) (And.left g_53)) (fx_a hF (fx_kF (c := 100) hF (by decide +kernel)) (And.left g_53) (by decide +kernel)) (Or.inl rfl) (by decide +kernel)
  obtain ⟨m_73, e_74, h⟩ := up_s h
  have E_77 := ext_up e_74 (And.left (fx_kF (c := 100) (Fr.fix w_66) (by decide +kernel))) (And.left g_53)
  have w_78 := Fr.upC (y := (-9)) w_66 e_74 (ext_up e_74 (And.left (fx_kF (c := 100) (Fr.fix w_66) (by decide +kernel))) (And.left g_53)) (fx_a (Fr.fix w_66) (fx_kF (c := 100) (Fr.fix w_66) (by decide +kernel)) (And.left g_53) (by decide +kernel)) (Or.inl rfl) (by decide +kernel)
  rcases it_s h with ⟨hp_82, h⟩ | ⟨hp_82, h⟩
  · cases h
    exact hQ w_78
  · obtain ⟨g_88, h⟩ := gd_s h
    obtain ⟨m_89, e_90, h⟩ := up_s h
    have E_93 := ext_up e_90 (And.left (fx_kF (c := 100) (Fr.fix w_78) (by decide +kernel))) (And.left g_88)
    have w_94 := Fr.upC (y := (-9)) w_78 e_90 (ext_up e_90 (And.left (fx_kF (c := 100) (Fr.fix w_78) (by decide +kernel))) (And.left g_88)) (fx_a (Fr.fix w_78) (fx_kF (c := 100) (Fr.fix w_78) (by decide +kernel)) (And.left g_88) (by decide +kernel)) (Or.inl rfl) (by decide +kernel)
    obtain ⟨g_101, h⟩ := gd_s h
    obtain ⟨x_103, e_104, h⟩ := lx_s h
    rcases it_s h with ⟨hp_105, h⟩ | ⟨hp_105, h⟩
    · obtain ⟨x_124, e_125, h⟩ := lx_s h
      obtain ⟨x_133, m_134, hc_132, h⟩ := bd_s h
      have w_141 := (fw_X12_lets (Fr.fix w_94) hc_132)
      have E_139 := Fr.ext w_141
      have w_142 := Fr.tr0 w_94 w_141 (by decide +kernel)
      obtain ⟨m_147, e_148, h⟩ := up_s h
      have E_151 := ext_up e_148 (And.left (fx_kF (c := 100) (Fr.fix w_142) (by decide +kernel))) (And.left g_88)
      have w_152 := Fr.upC (y := (-9)) w_142 e_148 (ext_up e_148 (And.left (fx_kF (c := 100) (Fr.fix w_142) (by decide +kernel))) (And.left g_88)) (fx_a (Fr.fix w_142) (fx_kF (c := 100) (Fr.fix w_142) (by decide +kernel)) (And.left g_88) (by decide +kernel)) (Or.inl rfl) (by decide +kernel)
      obtain ⟨x_155, hc_154, h⟩ := bp_s h
      rcases it_s h with ⟨hp_163, h⟩ | ⟨hp_163, h⟩
      · cases h
        exact hQ w_152
      · obtain ⟨x_165, m_166, hc_164, h⟩ := bd_s h
        have w_173 := (fw_X12_dropsBranch (Fr.fix w_152) hc_164)
        have E_171 := Fr.ext w_173
        have w_174 := Fr.tr0 w_152 w_173 (by decide +kernel)
        cases h
        exact hQ w_174
    · obtain ⟨x_107, m_108, hc_106, h⟩ := bd_s h
      have w_115 := (fw_X12_dropsBranch (Fr.fix w_94) hc_106)
      have E_113 := Fr.ext w_115
      have w_116 := Fr.tr0 w_94 w_115 (by decide +kernel)
      cases h
      exact hQ w_116
set_option maxHeartbeats 4000000 in
theorem fw_X12_wins {m0 : MM} {p1 : Int} {rz : Int} {rm : MM} (hF : Fix m0)
  (h : fm_X12_wins p1 m0 = some (rz, rm)) : Fr fW_X12_wins 0 m0 rm := by
  have hQ : Fr fW_X12_wins 0 m0 rm → Fr fW_X12_wins 0 m0 rm := id
  unfold fm_X12_wins at h
  obtain ⟨g_6, h⟩ := gd_s h
  obtain ⟨x_8, e_9, h⟩ := lx_s h
  obtain ⟨x_21, e_22, h⟩ := lx_s h
  rcases it_s h with ⟨hp_31, h⟩ | ⟨hp_31, h⟩
  · exact fwj_X12_wins_28 hF hQ h
  · obtain ⟨x_33, hc_32, h⟩ := bp_s h
    exact fwj_X12_wins_28 hF hQ h
def fW_X12_races : List (Int × Int × Int) := [(0, 68, 91), (0, 68, 92), (0, 68, 114), (0, 68, 115), (0, 143, (-9)), (0, 144, (-9)), (0, 145, (-9)), (0, 148, (-9)), (0, 149, (-9)), (0, 150, (-9)), (0, 151, (-9)), (0, 152, (-9))]
set_option maxHeartbeats 4000000 in
theorem fwj_X12_races_37 {P : Prop} {m : MM} {y1 y2 : Int} {rz : Int} {rm : MM} (hF : Fix m) (hQ : Fr fW_X12_races 0 m rm → P)
  (h : fj_X12_races_37 y1 y2 m = some (rz, rm)) : P := by
  unfold fj_X12_races_37 at h
  obtain ⟨g_42, h⟩ := gd_s h
  obtain ⟨x_44, e_45, h⟩ := lx_s h
  obtain ⟨x_47, m_48, hc_46, h⟩ := bd_s h
  have w_55 := (fw_X12_begins hF hc_46)
  have E_53 := Fr.ext w_55
  have w_56 := Fr.tr0 (Fr.rf (W := fW_X12_races) (e := 0) hF) w_55 (by decide +kernel)
  obtain ⟨x_61, e_62, h⟩ := lx_s h
  rcases it_s h with ⟨hp_63, h⟩ | ⟨hp_63, h⟩
  · obtain ⟨x_73, e_74, h⟩ := lx_s h
    obtain ⟨g_81, h⟩ := gd_s h
    obtain ⟨x_83, e_84, h⟩ := lx_s h
    obtain ⟨m_85, e_86, h⟩ := up_s h
    have E_89 := ext_up e_86 (And.left (fx_kF (c := 100) (Fr.fix w_56) (by decide +kernel))) (And.left g_42)
    have w_90 := Fr.upC (y := (-9)) w_56 e_86 (ext_up e_86 (And.left (fx_kF (c := 100) (Fr.fix w_56) (by decide +kernel))) (And.left g_42)) (fx_a (Fr.fix w_56) (fx_kF (c := 100) (Fr.fix w_56) (by decide +kernel)) (And.left g_42) (by decide +kernel)) (Or.inl rfl) (by decide +kernel)
    obtain ⟨x_98, e_99, h⟩ := lx_s h
    obtain ⟨x_110, e_111, h⟩ := lx_s h
    obtain ⟨g_112, h⟩ := gd_s h
    obtain ⟨m_113, e_114, h⟩ := up_s h
    have E_117 := ext_up e_114 (And.left (fx_kF (c := 100) (Fr.fix w_90) (by decide +kernel))) (And.left g_112)
    have w_118 := Fr.upC (y := (-9)) w_90 e_114 (ext_up e_114 (And.left (fx_kF (c := 100) (Fr.fix w_90) (by decide +kernel))) (And.left g_112)) (fx_a (Fr.fix w_90) (fx_kF (c := 100) (Fr.fix w_90) (by decide +kernel)) (And.left g_112) (by decide +kernel)) (Or.inl rfl) (by decide +kernel)
    cases h
    exact hQ w_118
  · cases h
    exact hQ w_56
set_option maxHeartbeats 4000000 in
theorem fwj_X12_races_24 {P : Prop} {m : MM} {y1 y2 s0 : Int} {rz : Int} {rm : MM} (hF : Fix m) (hQ : Fr fW_X12_races 0 m rm → P)
  (h : fj_X12_races_24 y1 y2 s0 m = some (rz, rm)) : P := by
  unfold fj_X12_races_24 at h
  rcases it_s h with ⟨hp_36, h⟩ | ⟨hp_36, h⟩
  · exact fwj_X12_races_37 hF hQ h
  · obtain ⟨g_125, h⟩ := gd_s h
    obtain ⟨m_126, e_127, h⟩ := up_s h
    have E_130 := ext_up e_127 (And.left (fx_kF (c := 100) hF (by decide +kernel))) (And.left g_125)
    have w_131 := Fr.upC (y := (-9)) (Fr.rf (W := fW_X12_races) (e := 0) hF) e_127 (ext_up e_127 (And.left (fx_kF (c := 100) hF (by decide +kernel))) (And.left g_125)) (fx_a hF (fx_kF (c := 100) hF (by decide +kernel)) (And.left g_125) (by decide +kernel)) (Or.inl rfl) (by decide +kernel)
    exact fwj_X12_races_37 (Fr.fix w_131) (fun f => hQ (Fr.trS w_131 f)) h
set_option maxHeartbeats 4000000 in
theorem fw_X12_races {m0 : MM} {p1 p2 : Int} {rz : Int} {rm : MM} (hF : Fix m0)
  (h : fm_X12_races p1 p2 m0 = some (rz, rm)) : Fr fW_X12_races 0 m0 rm := by
  have hQ : Fr fW_X12_races 0 m0 rm → Fr fW_X12_races 0 m0 rm := id
  unfold fm_X12_races at h
  obtain ⟨g_6, h⟩ := gd_s h
  obtain ⟨x_8, e_9, h⟩ := lx_s h
  rcases it_s h with ⟨hp_12, h⟩ | ⟨hp_12, h⟩
  · exact fwj_X12_races_24 hF hQ h
  · obtain ⟨x_20, hc_19, h⟩ := bp_s h
    exact fwj_X12_races_24 hF hQ h
def fW_X12_awaits : List (Int × Int × Int) := [(0, 145, (-9)), (0, 146, (-9)), (0, 147, (-9))]
set_option maxHeartbeats 4000000 in
theorem fw_X12_awaits {m0 : MM} {p1 p2 p3 p4 : Int} {rz : Int} {rm : MM} (hF : Fix m0)
  (h : fm_X12_awaits p1 p2 p3 p4 m0 = some (rz, rm)) : Fr fW_X12_awaits 0 m0 rm := by
  have hQ : Fr fW_X12_awaits 0 m0 rm → Fr fW_X12_awaits 0 m0 rm := id
  unfold fm_X12_awaits at h
  obtain ⟨g_4, h⟩ := gd_s h
  obtain ⟨m_5, e_6, h⟩ := up_s h
  have E_9 := ext_up e_6 (And.left (fx_kF (c := 100) hF (by decide +kernel))) (And.left g_4)
  have w_10 := Fr.upC (y := (-9)) (Fr.rf (W := fW_X12_awaits) (e := 0) hF) e_6 (ext_up e_6 (And.left (fx_kF (c := 100) hF (by decide +kernel))) (And.left g_4)) (fx_a hF (fx_kF (c := 100) hF (by decide +kernel)) (And.left g_4) (by decide +kernel)) (Or.inl rfl) (by decide +kernel)
  obtain ⟨m_15, e_16, h⟩ := up_s h
  have E_19 := ext_up e_16 (And.left (fx_kF (c := 100) (Fr.fix w_10) (by decide +kernel))) (And.left g_4)
  have w_20 := Fr.upC (y := (-9)) w_10 e_16 (ext_up e_16 (And.left (fx_kF (c := 100) (Fr.fix w_10) (by decide +kernel))) (And.left g_4)) (fx_a (Fr.fix w_10) (fx_kF (c := 100) (Fr.fix w_10) (by decide +kernel)) (And.left g_4) (by decide +kernel)) (Or.inl rfl) (by decide +kernel)
  obtain ⟨m_25, e_26, h⟩ := up_s h
  have E_29 := ext_up e_26 (And.left (fx_kF (c := 100) (Fr.fix w_20) (by decide +kernel))) (And.left g_4)
  have w_30 := Fr.upC (y := (-9)) w_20 e_26 (ext_up e_26 (And.left (fx_kF (c := 100) (Fr.fix w_20) (by decide +kernel))) (And.left g_4)) (fx_a (Fr.fix w_20) (fx_kF (c := 100) (Fr.fix w_20) (by decide +kernel)) (And.left g_4) (by decide +kernel)) (Or.inl rfl) (by decide +kernel)
  cases h
  exact hQ w_30
def fW_X12_undoes : List (Int × Int × Int) := [(0, 68, 105), (0, 68, 114), (0, 68, 115), (0, 68, 116), (0, 68, 120), (0, 68, 125), (0, 144, (-9)), (0, 145, (-9)), (0, 146, (-9)), (0, 147, (-9)), (0, 158, (-9)), (0, 159, (-9))]
set_option maxHeartbeats 4000000 in
theorem fw_X12_undoes {m0 : MM} {p1 : Int} {rz : Int} {rm : MM} (hF : Fix m0)
  (h : fm_X12_undoes p1 m0 = some (rz, rm)) : Fr fW_X12_undoes 0 m0 rm := by
  have hQ : Fr fW_X12_undoes 0 m0 rm → Fr fW_X12_undoes 0 m0 rm := id
  unfold fm_X12_undoes at h
  obtain ⟨x_4, e_5, h⟩ := lx_s h
  rcases it_s h with ⟨hp_6, h⟩ | ⟨hp_6, h⟩
  · obtain ⟨g_92, h⟩ := gd_s h
    obtain ⟨x_94, e_95, h⟩ := lx_s h
    obtain ⟨m_100, e_101, h⟩ := up_s h
    have E_104 := ext_up e_101 (And.left (fx_kF (c := 100) hF (by decide +kernel))) (And.left g_92)
    have w_105 := Fr.upC (y := (-9)) (Fr.rf (W := fW_X12_undoes) (e := 0) hF) e_101 (ext_up e_101 (And.left (fx_kF (c := 100) hF (by decide +kernel))) (And.left g_92)) (fx_a hF (fx_kF (c := 100) hF (by decide +kernel)) (And.left g_92) (by decide +kernel)) (Or.inl rfl) (by decide +kernel)
    cases h
    exact hQ w_105
  · obtain ⟨m_14, e_15, h⟩ := up_s h
    have E_18 := ext_up e_15 (And.left (fx_kF (c := 13) hF (by decide +kernel))) (by decide)
    have w_19 := Fr.upC (y := 105) (Fr.rf (W := fW_X12_undoes) (e := 0) hF) e_15 (ext_up e_15 (And.left (fx_kF (c := 13) hF (by decide +kernel))) (by decide)) (fx_f (j := 105) hF (fx_kF (c := 13) hF (by decide +kernel)) (by decide +kernel)) (Or.inr rfl) (by decide +kernel)
    obtain ⟨x_29, e_30, h⟩ := lx_s h
    obtain ⟨g_33, h⟩ := gd_s h
    obtain ⟨x_35, e_36, h⟩ := lx_s h
    obtain ⟨x_55, m_56, hc_54, h⟩ := bd_s h
    have w_63 := (fw_X12_commands (Fr.fix w_19) hc_54)
    have E_61 := Fr.ext w_63
    have w_64 := Fr.tr0 w_19 w_63 (by decide +kernel)
    obtain ⟨x_76, m_77, hc_75, h⟩ := bd_s h
    have w_84 := (fw_X12_awaits (Fr.fix w_64) hc_75)
    have E_82 := Fr.ext w_84
    have w_85 := Fr.tr0 w_64 w_84 (by decide +kernel)
    cases h
    exact hQ w_85
def fW_X12_patches : List (Int × Int × Int) := [(0, 68, 110), (0, 68, 114), (0, 68, 115), (0, 68, 116), (0, 68, 120), (0, 68, 125), (0, 144, (-9)), (0, 158, (-9)), (0, 159, (-9))]
set_option maxHeartbeats 4000000 in
theorem fwj_X12_patches_116 {P : Prop} {m : MM} {y1 y2 y3 : Int} {rz : Int} {rm : MM} (hF : Fix m) (hQ : Fr fW_X12_patches 0 m rm → P)
  (h : fj_X12_patches_116 y1 y2 y3 m = some (rz, rm)) : P := by
  unfold fj_X12_patches_116 at h
  obtain ⟨x_19, e_20, h⟩ := lx_s h
  rcases it_s h with ⟨hp_29, h⟩ | ⟨hp_29, h⟩
  · obtain ⟨g_43, h⟩ := gd_s h
    obtain ⟨x_45, e_46, h⟩ := lx_s h
    obtain ⟨m_51, e_52, h⟩ := up_s h
    have E_55 := ext_up e_52 (And.left (fx_kF (c := 100) hF (by decide +kernel))) (And.left g_43)
    have w_56 := Fr.upC (y := (-9)) (Fr.rf (W := fW_X12_patches) (e := 0) hF) e_52 (ext_up e_52 (And.left (fx_kF (c := 100) hF (by decide +kernel))) (And.left g_43)) (fx_a hF (fx_kF (c := 100) hF (by decide +kernel)) (And.left g_43) (by decide +kernel)) (Or.inl rfl) (by decide +kernel)
    cases h
    exact hQ w_56
  · obtain ⟨g_30, h⟩ := gd_s h
    obtain ⟨m_31, e_32, h⟩ := up_s h
    have E_35 := ext_up e_32 (And.left (fx_kF (c := 100) hF (by decide +kernel))) (And.left g_30)
    have w_36 := Fr.upC (y := (-9)) (Fr.rf (W := fW_X12_patches) (e := 0) hF) e_32 (ext_up e_32 (And.left (fx_kF (c := 100) hF (by decide +kernel))) (And.left g_30)) (fx_a hF (fx_kF (c := 100) hF (by decide +kernel)) (And.left g_30) (by decide +kernel)) (Or.inl rfl) (by decide +kernel)
    cases h
    exact hQ w_36
set_option maxHeartbeats 4000000 in
theorem fwj_X12_patches_95 {P : Prop} {m : MM} {y1 y2 y3 : Int} {rz : Int} {rm : MM} (hF : Fix m) (hQ : Fr fW_X12_patches 0 m rm → P)
  (h : fj_X12_patches_95 y1 y2 y3 m = some (rz, rm)) : P := by
  unfold fj_X12_patches_95 at h
  obtain ⟨x_110, m_111, hc_109, h⟩ := bd_s h
  have w_118 := (fw_X12_commands hF hc_109)
  have E_116 := Fr.ext w_118
  have w_119 := Fr.tr0 (Fr.rf (W := fW_X12_patches) (e := 0) hF) w_118 (by decide +kernel)
  obtain ⟨x_124, e_125, h⟩ := lx_s h
  obtain ⟨m_132, e_133, h⟩ := up_s h
  have E_136 := ext_up e_133 (And.left (fx_kF (c := 13) (Fr.fix w_119) (by decide +kernel))) (by decide)
  have w_137 := Fr.upC (y := 110) w_119 e_133 (ext_up e_133 (And.left (fx_kF (c := 13) (Fr.fix w_119) (by decide +kernel))) (by decide)) (fx_f (j := 110) (Fr.fix w_119) (fx_kF (c := 13) (Fr.fix w_119) (by decide +kernel)) (by decide +kernel)) (Or.inr rfl) (by decide +kernel)
  exact fwj_X12_patches_116 (Fr.fix w_137) (fun f => hQ (Fr.trS w_137 f)) h
set_option maxHeartbeats 4000000 in
theorem fwj_X12_patches_72 {P : Prop} {m : MM} {y1 y2 y3 y5 s0 : Int} {rz : Int} {rm : MM} (hF : Fix m) (hQ : Fr fW_X12_patches 0 m rm → P)
  (h : fj_X12_patches_72 y1 y2 y3 y5 s0 m = some (rz, rm)) : P := by
  unfold fj_X12_patches_72 at h
  rcases it_s h with ⟨hp_104, h⟩ | ⟨hp_104, h⟩
  · rcases it_s h with ⟨hp_139, h⟩ | ⟨hp_139, h⟩
    · obtain ⟨x_143, e_144, h⟩ := lx_s h
      obtain ⟨x_148, e_149, h⟩ := lx_s h
      rcases it_s h with ⟨hp_150, h⟩ | ⟨hp_150, h⟩
      · exact fwj_X12_patches_95 hF hQ h
      · exact fwj_X12_patches_116 hF hQ h
    · exact fwj_X12_patches_116 hF hQ h
  · exact fwj_X12_patches_95 hF hQ h
set_option maxHeartbeats 4000000 in
theorem fwj_X12_patches_31 {P : Prop} {m : MM} {y1 y2 y3 y4 s0 : Int} {rz : Int} {rm : MM} (hF : Fix m) (hQ : Fr fW_X12_patches 0 m rm → P)
  (h : fj_X12_patches_31 y1 y2 y3 y4 s0 m = some (rz, rm)) : P := by
  unfold fj_X12_patches_31 at h
  rcases it_s h with ⟨hp_93, h⟩ | ⟨hp_93, h⟩
  · exact fwj_X12_patches_72 hF hQ h
  · obtain ⟨x_154, e_155, h⟩ := lx_s h
    obtain ⟨x_157, hc_156, h⟩ := bp_s h
    rcases it_s h with ⟨hp_167, h⟩ | ⟨hp_167, h⟩
    · obtain ⟨x_174, hc_173, h⟩ := bp_s h
      rcases it_s h with ⟨hp_182, h⟩ | ⟨hp_182, h⟩
      · exact fwj_X12_patches_72 hF hQ h
      · exact fwj_X12_patches_72 hF hQ h
    · exact fwj_X12_patches_72 hF hQ h
set_option maxHeartbeats 4000000 in
theorem fw_X12_patches {m0 : MM} {p1 p2 p3 : Int} {rz : Int} {rm : MM} (hF : Fix m0)
  (h : fm_X12_patches p1 p2 p3 m0 = some (rz, rm)) : Fr fW_X12_patches 0 m0 rm := by
  have hQ : Fr fW_X12_patches 0 m0 rm → Fr fW_X12_patches 0 m0 rm := id
  unfold fm_X12_patches at h
  obtain ⟨x_4, e_5, h⟩ := lx_s h
  rcases it_s h with ⟨hp_12, h⟩ | ⟨hp_12, h⟩
  · obtain ⟨x_59, m_60, hc_58, h⟩ := bd_s h
    have w_67 := (fw_X12_nextCommand hF hc_58)
    have E_65 := Fr.ext w_67
    have w_68 := Fr.tr0 (Fr.rf (W := fW_X12_patches) (e := 0) hF) w_67 (by decide +kernel)
    obtain ⟨x_80, e_81, h⟩ := lx_s h
    rcases it_s h with ⟨hp_82, h⟩ | ⟨hp_82, h⟩
    · exact fwj_X12_patches_31 (Fr.fix w_68) (fun f => hQ (Fr.trS w_68 f)) h
    · exact fwj_X12_patches_31 (Fr.fix w_68) (fun f => hQ (Fr.trS w_68 f)) h
  · exact fwj_X12_patches_116 hF hQ h
def fW_X12_bares : List (Int × Int × Int) := [(0, 68, 112), (0, 68, 114), (0, 68, 115), (0, 68, 116), (0, 68, 120), (0, 68, 125), (0, 144, (-9)), (0, 145, (-9)), (0, 148, (-9)), (0, 151, (-9)), (0, 158, (-9)), (0, 159, (-9)), (1, 100, (-9))]
set_option maxHeartbeats 4000000 in
theorem fwj_X12_bares_31 {P : Prop} {m : MM} {y1 s0 s1 s2 s3 : Int} {rz : Int} {rm : MM} (hF : Fix m) (hQ : Fr fW_X12_bares 0 m rm → P)
  (h : fj_X12_bares_31 y1 s0 s1 s2 s3 m = some (rz, rm)) : P := by
  unfold fj_X12_bares_31 at h
  obtain ⟨g_40, h⟩ := gd_s h
  obtain ⟨g_41, h⟩ := gd_s h
  obtain ⟨m_42, e_43, h⟩ := up_s h
  have E_46 := ext_up e_43 (And.left g_40) (And.left g_41)
  have w_47 := Fr.upK (y := (-9)) (Fr.rf (W := fW_X12_bares) (e := 0) hF) e_43 (ext_up e_43 (And.left g_40) (And.left g_41)) (fx_a hF g_40 (And.left g_41) (by decide +kernel)) g_40 (Or.inl rfl) (by decide +kernel)
  obtain ⟨g_54, h⟩ := gd_s h
  obtain ⟨x_56, e_57, h⟩ := lx_s h
  rcases it_s h with ⟨hp_58, h⟩ | ⟨hp_58, h⟩
  · cases h
    exact hQ w_47
  · obtain ⟨x_65, e_66, h⟩ := lx_s h
    rcases it_s h with ⟨hp_67, h⟩ | ⟨hp_67, h⟩
    · obtain ⟨x_69, m_70, hc_68, h⟩ := bd_s h
      have w_77 := (fw_X12_cancelsBranch (Fr.fix w_47) hc_68)
      have E_75 := Fr.ext w_77
      have w_78 := Fr.tr0 w_47 w_77 (by decide +kernel)
      cases h
      exact hQ w_78
    · cases h
      exact hQ w_47
set_option maxHeartbeats 4000000 in
theorem fw_X12_bares {m0 : MM} {p1 : Int} {rz : Int} {rm : MM} (hF : Fix m0)
  (h : fm_X12_bares p1 m0 = some (rz, rm)) : Fr fW_X12_bares 0 m0 rm := by
  have hQ : Fr fW_X12_bares 0 m0 rm → Fr fW_X12_bares 0 m0 rm := id
  unfold fm_X12_bares at h
  obtain ⟨g_6, h⟩ := gd_s h
  obtain ⟨x_8, e_9, h⟩ := lx_s h
  obtain ⟨m_14, e_15, h⟩ := up_s h
  have E_18 := ext_up e_15 (And.left (fx_kF (c := 100) hF (by decide +kernel))) (And.left g_6)
  have w_19 := Fr.upC (y := (-9)) (Fr.rf (W := fW_X12_bares) (e := 0) hF) e_15 (ext_up e_15 (And.left (fx_kF (c := 100) hF (by decide +kernel))) (And.left g_6)) (fx_a hF (fx_kF (c := 100) hF (by decide +kernel)) (And.left g_6) (by decide +kernel)) (Or.inl rfl) (by decide +kernel)
  obtain ⟨x_27, e_28, h⟩ := lx_s h
  rcases it_s h with ⟨hp_35, h⟩ | ⟨hp_35, h⟩
  · exact fwj_X12_bares_31 (Fr.fix w_19) (fun f => hQ (Fr.trS w_19 f)) h
  · exact fwj_X12_bares_31 (Fr.fix w_19) (fun f => hQ (Fr.trS w_19 f)) h
def fW_X12_doesMore : List (Int × Int × Int) := [(0, 68, 91), (0, 68, 103), (0, 68, 105), (0, 68, 110), (0, 68, 112), (0, 68, 114), (0, 68, 115), (0, 68, 116), (0, 68, 120), (0, 68, 125), (0, 142, (-9)), (0, 143, (-9)), (0, 144, (-9)), (0, 145, (-9)), (0, 146, (-9)), (0, 147, (-9)), (0, 148, (-9)), (0, 149, (-9)), (0, 150, (-9)), (0, 151, (-9)), (0, 153, (-9)), (0, 154, (-9)), (0, 158, (-9)), (0, 159, (-9)), (1, 100, (-9))]
set_option maxHeartbeats 4000000 in
theorem fwj_X12_doesMore_150 {P : Prop} {m : MM} {y1 s0 s1 s2 : Int} {rz : Int} {rm : MM} (hF : Fix m) (hQ : Fr fW_X12_doesMore 0 m rm → P)
  (h : fj_X12_doesMore_150 y1 s0 s1 s2 m = some (rz, rm)) : P := by
  unfold fj_X12_doesMore_150 at h
  obtain ⟨g_128, h⟩ := gd_s h
  obtain ⟨g_129, h⟩ := gd_s h
  obtain ⟨m_130, e_131, h⟩ := up_s h
  have E_134 := ext_up e_131 (And.left g_128) (And.left g_129)
  have w_135 := Fr.upK (y := (-9)) (Fr.rf (W := fW_X12_doesMore) (e := 0) hF) e_131 (ext_up e_131 (And.left g_128) (And.left g_129)) (fx_a hF g_128 (And.left g_129) (by decide +kernel)) g_128 (Or.inl rfl) (by decide +kernel)
  obtain ⟨g_142, h⟩ := gd_s h
  obtain ⟨x_144, e_145, h⟩ := lx_s h
  obtain ⟨m_150, e_151, h⟩ := up_s h
  have E_154 := ext_up e_151 (And.left (fx_kF (c := 100) (Fr.fix w_135) (by decide +kernel))) (And.left g_142)
  have w_155 := Fr.upC (y := (-9)) w_135 e_151 (ext_up e_151 (And.left (fx_kF (c := 100) (Fr.fix w_135) (by decide +kernel))) (And.left g_142)) (fx_a (Fr.fix w_135) (fx_kF (c := 100) (Fr.fix w_135) (by decide +kernel)) (And.left g_142) (by decide +kernel)) (Or.inl rfl) (by decide +kernel)
  cases h
  exact hQ w_155
set_option maxHeartbeats 4000000 in
theorem fw_X12_doesMore {m0 : MM} {p1 p2 p3 p4 : Int} {rz : Int} {rm : MM} (hF : Fix m0)
  (h : fm_X12_doesMore p1 p2 p3 p4 m0 = some (rz, rm)) : Fr fW_X12_doesMore 0 m0 rm := by
  have hQ : Fr fW_X12_doesMore 0 m0 rm → Fr fW_X12_doesMore 0 m0 rm := id
  unfold fm_X12_doesMore at h
  rcases it_s h with ⟨hp_2, h⟩ | ⟨hp_2, h⟩
  · obtain ⟨x_9, e_10, h⟩ := lx_s h
    obtain ⟨g_18, h⟩ := gd_s h
    obtain ⟨x_20, e_21, h⟩ := lx_s h
    obtain ⟨g_30, h⟩ := gd_s h
    obtain ⟨m_31, e_32, h⟩ := up_s h
    have E_35 := ext_up e_32 (And.left (fx_kF (c := 100) hF (by decide +kernel))) (And.left g_30)
    have w_36 := Fr.upC (y := (-9)) (Fr.rf (W := fW_X12_doesMore) (e := 0) hF) e_32 (ext_up e_32 (And.left (fx_kF (c := 100) hF (by decide +kernel))) (And.left g_30)) (fx_a hF (fx_kF (c := 100) hF (by decide +kernel)) (And.left g_30) (by decide +kernel)) (Or.inl rfl) (by decide +kernel)
    obtain ⟨x_44, e_45, h⟩ := lx_s h
    obtain ⟨m_46, e_47, h⟩ := up_s h
    have E_50 := ext_up e_47 (And.left (fx_kF (c := 100) (Fr.fix w_36) (by decide +kernel))) (And.left g_18)
    have w_51 := Fr.upC (y := (-9)) w_36 e_47 (ext_up e_47 (And.left (fx_kF (c := 100) (Fr.fix w_36) (by decide +kernel))) (And.left g_18)) (fx_a (Fr.fix w_36) (fx_kF (c := 100) (Fr.fix w_36) (by decide +kernel)) (And.left g_18) (by decide +kernel)) (Or.inl rfl) (by decide +kernel)
    obtain ⟨x_56, e_57, h⟩ := lx_s h
    obtain ⟨m_62, e_63, h⟩ := up_s h
    have E_66 := ext_up e_63 (And.left (fx_kF (c := 13) (Fr.fix w_51) (by decide +kernel))) (by decide)
    have w_67 := Fr.upC (y := 103) w_51 e_63 (ext_up e_63 (And.left (fx_kF (c := 13) (Fr.fix w_51) (by decide +kernel))) (by decide)) (fx_f (j := 103) (Fr.fix w_51) (fx_kF (c := 13) (Fr.fix w_51) (by decide +kernel)) (by decide +kernel)) (Or.inr rfl) (by decide +kernel)
    obtain ⟨x_75, e_76, h⟩ := lx_s h
    obtain ⟨m_81, e_82, h⟩ := up_s h
    have E_85 := ext_up e_82 (And.left (fx_kF (c := 100) (Fr.fix w_67) (by decide +kernel))) (And.left g_18)
    have w_86 := Fr.upC (y := (-9)) w_67 e_82 (ext_up e_82 (And.left (fx_kF (c := 100) (Fr.fix w_67) (by decide +kernel))) (And.left g_18)) (fx_a (Fr.fix w_67) (fx_kF (c := 100) (Fr.fix w_67) (by decide +kernel)) (And.left g_18) (by decide +kernel)) (Or.inl rfl) (by decide +kernel)
    cases h
    exact hQ w_86
  rcases it_s h with ⟨hp_89, h⟩ | ⟨hp_89, h⟩
  · obtain ⟨g_98, h⟩ := gd_s h
    obtain ⟨x_100, e_101, h⟩ := lx_s h
    rcases it_s h with ⟨hp_104, h⟩ | ⟨hp_104, h⟩
    · exact fwj_X12_doesMore_150 hF hQ h
    · obtain ⟨g_116, h⟩ := gd_s h
      obtain ⟨x_118, e_119, h⟩ := lx_s h
      exact fwj_X12_doesMore_150 hF hQ h
  rcases it_s h with ⟨hp_160, h⟩ | ⟨hp_160, h⟩
  · obtain ⟨x_167, e_168, h⟩ := lx_s h
    obtain ⟨g_176, h⟩ := gd_s h
    obtain ⟨x_178, e_179, h⟩ := lx_s h
    obtain ⟨g_184, h⟩ := gd_s h
    obtain ⟨m_185, e_186, h⟩ := up_s h
    have E_189 := ext_up e_186 (And.left (fx_kF (c := 100) hF (by decide +kernel))) (And.left g_184)
    have w_190 := Fr.upC (y := (-9)) (Fr.rf (W := fW_X12_doesMore) (e := 0) hF) e_186 (ext_up e_186 (And.left (fx_kF (c := 100) hF (by decide +kernel))) (And.left g_184)) (fx_a hF (fx_kF (c := 100) hF (by decide +kernel)) (And.left g_184) (by decide +kernel)) (Or.inl rfl) (by decide +kernel)
    obtain ⟨x_195, e_196, h⟩ := lx_s h
    obtain ⟨m_201, e_202, h⟩ := up_s h
    have E_205 := ext_up e_202 (And.left (fx_kF (c := 13) (Fr.fix w_190) (by decide +kernel))) (by decide)
    have w_206 := Fr.upC (y := 105) w_190 e_202 (ext_up e_202 (And.left (fx_kF (c := 13) (Fr.fix w_190) (by decide +kernel))) (by decide)) (fx_f (j := 105) (Fr.fix w_190) (fx_kF (c := 13) (Fr.fix w_190) (by decide +kernel)) (by decide +kernel)) (Or.inr rfl) (by decide +kernel)
    obtain ⟨g_213, h⟩ := gd_s h
    obtain ⟨x_215, e_216, h⟩ := lx_s h
    obtain ⟨m_221, e_222, h⟩ := up_s h
    have E_225 := ext_up e_222 (And.left (fx_kF (c := 100) (Fr.fix w_206) (by decide +kernel))) (And.left g_213)
    have w_226 := Fr.upC (y := (-9)) w_206 e_222 (ext_up e_222 (And.left (fx_kF (c := 100) (Fr.fix w_206) (by decide +kernel))) (And.left g_213)) (fx_a (Fr.fix w_206) (fx_kF (c := 100) (Fr.fix w_206) (by decide +kernel)) (And.left g_213) (by decide +kernel)) (Or.inl rfl) (by decide +kernel)
    cases h
    exact hQ w_226
  rcases it_s h with ⟨hp_229, h⟩ | ⟨hp_229, h⟩
  · obtain ⟨x_231, m_232, hc_230, h⟩ := bd_s h
    have w_239 := (fw_X12_undoes hF hc_230)
    have E_237 := Fr.ext w_239
    have w_240 := Fr.tr0 (Fr.rf (W := fW_X12_doesMore) (e := 0) hF) w_239 (by decide +kernel)
    cases h
    exact hQ w_240
  rcases it_s h with ⟨hp_243, h⟩ | ⟨hp_243, h⟩
  · obtain ⟨x_245, m_246, hc_244, h⟩ := bd_s h
    have w_253 := (fw_X12_endsBranch hF hc_244)
    have E_251 := Fr.ext w_253
    have w_254 := Fr.tr0 (Fr.rf (W := fW_X12_doesMore) (e := 0) hF) w_253 (by decide +kernel)
    cases h
    exact hQ w_254
  rcases it_s h with ⟨hp_257, h⟩ | ⟨hp_257, h⟩
  · obtain ⟨x_259, m_260, hc_258, h⟩ := bd_s h
    have w_267 := (fw_X12_failsBranch hF hc_258)
    have E_265 := Fr.ext w_267
    have w_268 := Fr.tr0 (Fr.rf (W := fW_X12_doesMore) (e := 0) hF) w_267 (by decide +kernel)
    cases h
    exact hQ w_268
  rcases it_s h with ⟨hp_271, h⟩ | ⟨hp_271, h⟩
  · obtain ⟨g_279, h⟩ := gd_s h
    obtain ⟨x_281, e_282, h⟩ := lx_s h
    obtain ⟨x_284, m_285, hc_283, h⟩ := bd_s h
    have w_292 := (fw_X12_endsRun hF hc_283)
    have E_290 := Fr.ext w_292
    have w_293 := Fr.tr0 (Fr.rf (W := fW_X12_doesMore) (e := 0) hF) w_292 (by decide +kernel)
    cases h
    exact hQ w_293
  rcases it_s h with ⟨hp_296, h⟩ | ⟨hp_296, h⟩
  · obtain ⟨x_298, m_299, hc_297, h⟩ := bd_s h
    have w_306 := (fw_X12_patches hF hc_297)
    have E_304 := Fr.ext w_306
    have w_307 := Fr.tr0 (Fr.rf (W := fW_X12_doesMore) (e := 0) hF) w_306 (by decide +kernel)
    cases h
    exact hQ w_307
  rcases it_s h with ⟨hp_310, h⟩ | ⟨hp_310, h⟩
  · obtain ⟨x_317, e_318, h⟩ := lx_s h
    obtain ⟨g_319, h⟩ := gd_s h
    obtain ⟨m_320, e_321, h⟩ := up_s h
    have E_324 := ext_up e_321 (And.left (fx_kF (c := 100) hF (by decide +kernel))) (And.left g_319)
    have w_325 := Fr.upC (y := (-9)) (Fr.rf (W := fW_X12_doesMore) (e := 0) hF) e_321 (ext_up e_321 (And.left (fx_kF (c := 100) hF (by decide +kernel))) (And.left g_319)) (fx_a hF (fx_kF (c := 100) hF (by decide +kernel)) (And.left g_319) (by decide +kernel)) (Or.inl rfl) (by decide +kernel)
    obtain ⟨g_332, h⟩ := gd_s h
    obtain ⟨x_334, e_335, h⟩ := lx_s h
    obtain ⟨m_340, e_341, h⟩ := up_s h
    have E_344 := ext_up e_341 (And.left (fx_kF (c := 100) (Fr.fix w_325) (by decide +kernel))) (And.left g_332)
    have w_345 := Fr.upC (y := (-9)) w_325 e_341 (ext_up e_341 (And.left (fx_kF (c := 100) (Fr.fix w_325) (by decide +kernel))) (And.left g_332)) (fx_a (Fr.fix w_325) (fx_kF (c := 100) (Fr.fix w_325) (by decide +kernel)) (And.left g_332) (by decide +kernel)) (Or.inl rfl) (by decide +kernel)
    cases h
    exact hQ w_345
  rcases it_s h with ⟨hp_348, h⟩ | ⟨hp_348, h⟩
  · obtain ⟨g_354, h⟩ := gd_s h
    obtain ⟨x_356, e_357, h⟩ := lx_s h
    obtain ⟨m_362, e_363, h⟩ := up_s h
    have E_366 := ext_up e_363 (And.left (fx_kF (c := 100) hF (by decide +kernel))) (And.left g_354)
    have w_367 := Fr.upC (y := (-9)) (Fr.rf (W := fW_X12_doesMore) (e := 0) hF) e_363 (ext_up e_363 (And.left (fx_kF (c := 100) hF (by decide +kernel))) (And.left g_354)) (fx_a hF (fx_kF (c := 100) hF (by decide +kernel)) (And.left g_354) (by decide +kernel)) (Or.inl rfl) (by decide +kernel)
    obtain ⟨x_375, e_376, h⟩ := lx_s h
    obtain ⟨m_381, e_382, h⟩ := up_s h
    have E_385 := ext_up e_382 (And.left (fx_kF (c := 100) (Fr.fix w_367) (by decide +kernel))) (And.left g_354)
    have w_386 := Fr.upC (y := (-9)) w_367 e_382 (ext_up e_382 (And.left (fx_kF (c := 100) (Fr.fix w_367) (by decide +kernel))) (And.left g_354)) (fx_a (Fr.fix w_367) (fx_kF (c := 100) (Fr.fix w_367) (by decide +kernel)) (And.left g_354) (by decide +kernel)) (Or.inl rfl) (by decide +kernel)
    cases h
    exact hQ w_386
  rcases it_s h with ⟨hp_389, h⟩ | ⟨hp_389, h⟩
  · obtain ⟨x_391, m_392, hc_390, h⟩ := bd_s h
    have w_399 := (fw_X12_bares hF hc_390)
    have E_397 := Fr.ext w_399
    have w_400 := Fr.tr0 (Fr.rf (W := fW_X12_doesMore) (e := 0) hF) w_399 (by decide +kernel)
    cases h
    exact hQ w_400
  obtain ⟨g_409, h⟩ := gd_s h
  obtain ⟨x_411, e_412, h⟩ := lx_s h
  obtain ⟨x_416, m_417, hc_415, h⟩ := bd_s h
  have w_424 := (fw_X12_commands hF hc_415)
  have E_422 := Fr.ext w_424
  have w_425 := Fr.tr0 (Fr.rf (W := fW_X12_doesMore) (e := 0) hF) w_424 (by decide +kernel)
  obtain ⟨g_432, h⟩ := gd_s h
  obtain ⟨x_434, e_435, h⟩ := lx_s h
  obtain ⟨m_440, e_441, h⟩ := up_s h
  have E_444 := ext_up e_441 (And.left (fx_kF (c := 100) (Fr.fix w_425) (by decide +kernel))) (And.left g_432)
  have w_445 := Fr.upC (y := (-9)) w_425 e_441 (ext_up e_441 (And.left (fx_kF (c := 100) (Fr.fix w_425) (by decide +kernel))) (And.left g_432)) (fx_a (Fr.fix w_425) (fx_kF (c := 100) (Fr.fix w_425) (by decide +kernel)) (And.left g_432) (by decide +kernel)) (Or.inl rfl) (by decide +kernel)
  cases h
  exact hQ w_445
def fW_X12_does : List (Int × Int × Int) := [(0, 68, 91), (0, 68, 92), (0, 68, 103), (0, 68, 105), (0, 68, 110), (0, 68, 112), (0, 68, 114), (0, 68, 115), (0, 68, 116), (0, 68, 120), (0, 68, 125), (0, 142, (-9)), (0, 143, (-9)), (0, 144, (-9)), (0, 145, (-9)), (0, 146, (-9)), (0, 147, (-9)), (0, 148, (-9)), (0, 149, (-9)), (0, 150, (-9)), (0, 151, (-9)), (0, 152, (-9)), (0, 153, (-9)), (0, 154, (-9)), (0, 158, (-9)), (0, 159, (-9)), (1, 100, (-9))]
set_option maxHeartbeats 4000000 in
theorem fw_X12_does {m0 : MM} {p1 : Int} {rz : Int} {rm : MM} (hF : Fix m0)
  (h : fm_X12_does p1 m0 = some (rz, rm)) : Fr fW_X12_does 0 m0 rm := by
  have hQ : Fr fW_X12_does 0 m0 rm → Fr fW_X12_does 0 m0 rm := id
  unfold fm_X12_does at h
  obtain ⟨x_7, e_8, h⟩ := lx_s h
  obtain ⟨g_11, h⟩ := gd_s h
  obtain ⟨x_13, e_14, h⟩ := lx_s h
  obtain ⟨x_18, e_19, h⟩ := lx_s h
  obtain ⟨x_21, hc_20, h⟩ := bp_s h
  obtain ⟨g_34, h⟩ := gd_s h
  obtain ⟨x_36, e_37, h⟩ := lx_s h
  obtain ⟨x_40, e_41, h⟩ := lx_s h
  obtain ⟨g_53, h⟩ := gd_s h
  obtain ⟨x_55, e_56, h⟩ := lx_s h
  obtain ⟨x_69, e_70, h⟩ := lx_s h
  obtain ⟨x_84, e_85, h⟩ := lx_s h
  rcases it_s h with ⟨hp_87, h⟩ | ⟨hp_87, h⟩
  · obtain ⟨g_91, h⟩ := gd_s h
    obtain ⟨m_92, e_93, h⟩ := up_s h
    have E_96 := ext_up e_93 (And.left (fx_kF (c := 100) hF (by decide +kernel))) (And.left g_91)
    have w_97 := Fr.upC (y := (-9)) (Fr.rf (W := fW_X12_does) (e := 0) hF) e_93 (ext_up e_93 (And.left (fx_kF (c := 100) hF (by decide +kernel))) (And.left g_91)) (fx_a hF (fx_kF (c := 100) hF (by decide +kernel)) (And.left g_91) (by decide +kernel)) (Or.inl rfl) (by decide +kernel)
    obtain ⟨x_105, e_106, h⟩ := lx_s h
    obtain ⟨m_111, e_112, h⟩ := up_s h
    have E_115 := ext_up e_112 (And.left (fx_kF (c := 100) (Fr.fix w_97) (by decide +kernel))) (And.left g_34)
    have w_116 := Fr.upC (y := (-9)) w_97 e_112 (ext_up e_112 (And.left (fx_kF (c := 100) (Fr.fix w_97) (by decide +kernel))) (And.left g_34)) (fx_a (Fr.fix w_97) (fx_kF (c := 100) (Fr.fix w_97) (by decide +kernel)) (And.left g_34) (by decide +kernel)) (Or.inl rfl) (by decide +kernel)
    cases h
    exact hQ w_116
  rcases it_s h with ⟨hp_119, h⟩ | ⟨hp_119, h⟩
  · obtain ⟨g_128, h⟩ := gd_s h
    obtain ⟨x_130, e_131, h⟩ := lx_s h
    obtain ⟨g_137, h⟩ := gd_s h
    obtain ⟨x_139, e_140, h⟩ := lx_s h
    obtain ⟨m_147, e_148, h⟩ := up_s h
    have E_151 := ext_up e_148 (And.left (fx_kF (c := 100) hF (by decide +kernel))) (And.left g_128)
    have w_152 := Fr.upC (y := (-9)) (Fr.rf (W := fW_X12_does) (e := 0) hF) e_148 (ext_up e_148 (And.left (fx_kF (c := 100) hF (by decide +kernel))) (And.left g_128)) (fx_a hF (fx_kF (c := 100) hF (by decide +kernel)) (And.left g_128) (by decide +kernel)) (Or.inl rfl) (by decide +kernel)
    obtain ⟨x_160, e_161, h⟩ := lx_s h
    obtain ⟨m_166, e_167, h⟩ := up_s h
    have E_170 := ext_up e_167 (And.left (fx_kF (c := 100) (Fr.fix w_152) (by decide +kernel))) (And.left g_34)
    have w_171 := Fr.upC (y := (-9)) w_152 e_167 (ext_up e_167 (And.left (fx_kF (c := 100) (Fr.fix w_152) (by decide +kernel))) (And.left g_34)) (fx_a (Fr.fix w_152) (fx_kF (c := 100) (Fr.fix w_152) (by decide +kernel)) (And.left g_34) (by decide +kernel)) (Or.inl rfl) (by decide +kernel)
    cases h
    exact hQ w_171
  rcases it_s h with ⟨hp_174, h⟩ | ⟨hp_174, h⟩
  · obtain ⟨g_184, h⟩ := gd_s h
    obtain ⟨x_186, e_187, h⟩ := lx_s h
    obtain ⟨x_189, m_190, hc_188, h⟩ := bd_s h
    have w_197 := (fw_X12_commands hF hc_188)
    have E_195 := Fr.ext w_197
    have w_198 := Fr.tr0 (Fr.rf (W := fW_X12_does) (e := 0) hF) w_197 (by decide +kernel)
    obtain ⟨x_201, m_202, hc_200, h⟩ := bd_s h
    have w_209 := (fw_X12_awaits (Fr.fix w_198) hc_200)
    have E_207 := Fr.ext w_209
    have w_210 := Fr.tr0 w_198 w_209 (by decide +kernel)
    cases h
    exact hQ w_210
  rcases it_s h with ⟨hp_213, h⟩ | ⟨hp_213, h⟩
  · obtain ⟨x_221, m_222, hc_220, h⟩ := bd_s h
    have w_229 := (fw_X12_commands hF hc_220)
    have E_227 := Fr.ext w_229
    have w_230 := Fr.tr0 (Fr.rf (W := fW_X12_does) (e := 0) hF) w_229 (by decide +kernel)
    obtain ⟨x_235, m_236, hc_234, h⟩ := bd_s h
    have w_243 := (fw_X12_awaits (Fr.fix w_230) hc_234)
    have E_241 := Fr.ext w_243
    have w_244 := Fr.tr0 w_230 w_243 (by decide +kernel)
    cases h
    exact hQ w_244
  rcases it_s h with ⟨hp_247, h⟩ | ⟨hp_247, h⟩
  · obtain ⟨x_251, m_252, hc_250, h⟩ := bd_s h
    have w_259 := (fw_X12_awaits hF hc_250)
    have E_257 := Fr.ext w_259
    have w_260 := Fr.tr0 (Fr.rf (W := fW_X12_does) (e := 0) hF) w_259 (by decide +kernel)
    cases h
    exact hQ w_260
  rcases it_s h with ⟨hp_263, h⟩ | ⟨hp_263, h⟩
  · obtain ⟨g_273, h⟩ := gd_s h
    obtain ⟨x_275, e_276, h⟩ := lx_s h
    obtain ⟨x_278, m_279, hc_277, h⟩ := bd_s h
    have w_286 := (fw_X12_commands hF hc_277)
    have E_284 := Fr.ext w_286
    have w_287 := Fr.tr0 (Fr.rf (W := fW_X12_does) (e := 0) hF) w_286 (by decide +kernel)
    obtain ⟨x_290, m_291, hc_289, h⟩ := bd_s h
    have w_298 := (fw_X12_awaits (Fr.fix w_287) hc_289)
    have E_296 := Fr.ext w_298
    have w_299 := Fr.tr0 w_287 w_298 (by decide +kernel)
    cases h
    exact hQ w_299
  rcases it_s h with ⟨hp_302, h⟩ | ⟨hp_302, h⟩
  · obtain ⟨g_311, h⟩ := gd_s h
    obtain ⟨x_313, e_314, h⟩ := lx_s h
    rcases it_s h with ⟨hp_315, h⟩ | ⟨hp_315, h⟩
    · obtain ⟨m_333, e_334, h⟩ := up_s h
      have E_337 := ext_up e_334 (And.left (fx_kF (c := 100) hF (by decide +kernel))) (And.left g_34)
      have w_338 := Fr.upC (y := (-9)) (Fr.rf (W := fW_X12_does) (e := 0) hF) e_334 (ext_up e_334 (And.left (fx_kF (c := 100) hF (by decide +kernel))) (And.left g_34)) (fx_a hF (fx_kF (c := 100) hF (by decide +kernel)) (And.left g_34) (by decide +kernel)) (Or.inl rfl) (by decide +kernel)
      cases h
      exact hQ w_338
    · obtain ⟨m_326, e_327, h⟩ := up_s h
      have E_330 := ext_up e_327 (And.left (fx_kF (c := 100) hF (by decide +kernel))) (And.left g_34)
      have w_331 := Fr.upC (y := (-9)) (Fr.rf (W := fW_X12_does) (e := 0) hF) e_327 (ext_up e_327 (And.left (fx_kF (c := 100) hF (by decide +kernel))) (And.left g_34)) (fx_a hF (fx_kF (c := 100) hF (by decide +kernel)) (And.left g_34) (by decide +kernel)) (Or.inl rfl) (by decide +kernel)
      cases h
      exact hQ w_331
  rcases it_s h with ⟨hp_341, h⟩ | ⟨hp_341, h⟩
  · obtain ⟨m_345, e_346, h⟩ := up_s h
    have E_349 := ext_up e_346 (And.left (fx_kF (c := 100) hF (by decide +kernel))) (And.left g_34)
    have w_350 := Fr.upC (y := (-9)) (Fr.rf (W := fW_X12_does) (e := 0) hF) e_346 (ext_up e_346 (And.left (fx_kF (c := 100) hF (by decide +kernel))) (And.left g_34)) (fx_a hF (fx_kF (c := 100) hF (by decide +kernel)) (And.left g_34) (by decide +kernel)) (Or.inl rfl) (by decide +kernel)
    cases h
    exact hQ w_350
  rcases it_s h with ⟨hp_353, h⟩ | ⟨hp_353, h⟩
  · obtain ⟨m_364, e_365, h⟩ := up_s h
    have E_368 := ext_up e_365 (And.left (fx_kF (c := 100) hF (by decide +kernel))) (And.left g_34)
    have w_369 := Fr.upC (y := (-9)) (Fr.rf (W := fW_X12_does) (e := 0) hF) e_365 (ext_up e_365 (And.left (fx_kF (c := 100) hF (by decide +kernel))) (And.left g_34)) (fx_a hF (fx_kF (c := 100) hF (by decide +kernel)) (And.left g_34) (by decide +kernel)) (Or.inl rfl) (by decide +kernel)
    obtain ⟨x_377, e_378, h⟩ := lx_s h
    obtain ⟨x_380, m_381, hc_379, h⟩ := bd_s h
    have w_388 := (fw_X12_begins (Fr.fix w_369) hc_379)
    have E_386 := Fr.ext w_388
    have w_389 := Fr.tr0 w_369 w_388 (by decide +kernel)
    cases h
    exact hQ w_389
  rcases it_s h with ⟨hp_392, h⟩ | ⟨hp_392, h⟩
  · obtain ⟨m_398, e_399, h⟩ := up_s h
    have E_402 := ext_up e_399 (And.left (fx_kF (c := 100) hF (by decide +kernel))) (And.left g_34)
    have w_403 := Fr.upC (y := (-9)) (Fr.rf (W := fW_X12_does) (e := 0) hF) e_399 (ext_up e_399 (And.left (fx_kF (c := 100) hF (by decide +kernel))) (And.left g_34)) (fx_a hF (fx_kF (c := 100) hF (by decide +kernel)) (And.left g_34) (by decide +kernel)) (Or.inl rfl) (by decide +kernel)
    cases h
    exact hQ w_403
  rcases it_s h with ⟨hp_406, h⟩ | ⟨hp_406, h⟩
  · obtain ⟨m_417, e_418, h⟩ := up_s h
    have E_421 := ext_up e_418 (And.left (fx_kF (c := 100) hF (by decide +kernel))) (And.left g_34)
    have w_422 := Fr.upC (y := (-9)) (Fr.rf (W := fW_X12_does) (e := 0) hF) e_418 (ext_up e_418 (And.left (fx_kF (c := 100) hF (by decide +kernel))) (And.left g_34)) (fx_a hF (fx_kF (c := 100) hF (by decide +kernel)) (And.left g_34) (by decide +kernel)) (Or.inl rfl) (by decide +kernel)
    obtain ⟨x_425, m_426, hc_424, h⟩ := bd_s h
    have w_433 := (fw_X12_races (Fr.fix w_422) hc_424)
    have E_431 := Fr.ext w_433
    have w_434 := Fr.tr0 w_422 w_433 (by decide +kernel)
    cases h
    exact hQ w_434
  rcases it_s h with ⟨hp_437, h⟩ | ⟨hp_437, h⟩
  · obtain ⟨x_439, m_440, hc_438, h⟩ := bd_s h
    have w_447 := (fw_X12_wins hF hc_438)
    have E_445 := Fr.ext w_447
    have w_448 := Fr.tr0 (Fr.rf (W := fW_X12_does) (e := 0) hF) w_447 (by decide +kernel)
    cases h
    exact hQ w_448
  obtain ⟨x_457, m_458, hc_456, h⟩ := bd_s h
  have w_465 := (fw_X12_doesMore hF hc_456)
  have E_463 := Fr.ext w_465
  have w_466 := Fr.tr0 (Fr.rf (W := fW_X12_does) (e := 0) hF) w_465 (by decide +kernel)
  cases h
  exact hQ w_466
def fW_X12_canGoOn : List (Int × Int × Int) := [(0, 142, (-9)), (0, 144, (-9)), (0, 145, (-9)), (0, 156, (-9))]
set_option maxHeartbeats 4000000 in
theorem fwj_X12_canGoOn_140 {P : Prop} {m : MM} {y1 : Int} {rz : Int} {rm : MM} (hF : Fix m) (hQ : Fr fW_X12_canGoOn 0 m rm → P)
  (h : fj_X12_canGoOn_140 y1 m = some (rz, rm)) : P := by
  unfold fj_X12_canGoOn_140 at h
  obtain ⟨g_30, h⟩ := gd_s h
  obtain ⟨x_32, e_33, h⟩ := lx_s h
  rcases it_s h with ⟨hp_34, h⟩ | ⟨hp_34, h⟩
  · cases h
    exact hQ (Fr.rf (W := fW_X12_canGoOn) (e := 0) hF)
  · cases h
    exact hQ (Fr.rf (W := fW_X12_canGoOn) (e := 0) hF)
set_option maxHeartbeats 4000000 in
theorem fwj_X12_canGoOn_100 {P : Prop} {m : MM} {y1 : Int} {rz : Int} {rm : MM} (hF : Fix m) (hQ : Fr fW_X12_canGoOn 0 m rm → P)
  (h : fj_X12_canGoOn_100 y1 m = some (rz, rm)) : P := by
  unfold fj_X12_canGoOn_100 at h
  obtain ⟨g_18, h⟩ := gd_s h
  obtain ⟨x_20, e_21, h⟩ := lx_s h
  rcases it_s h with ⟨hp_24, h⟩ | ⟨hp_24, h⟩
  · obtain ⟨x_45, e_46, h⟩ := lx_s h
    obtain ⟨x_48, hc_47, h⟩ := bp_s h
    rcases it_s h with ⟨hp_56, h⟩ | ⟨hp_56, h⟩
    · obtain ⟨m_62, e_63, h⟩ := up_s h
      have E_66 := ext_up e_63 (And.left (fx_kF (c := 100) hF (by decide +kernel))) (And.left g_18)
      have w_67 := Fr.upC (y := (-9)) (Fr.rf (W := fW_X12_canGoOn) (e := 0) hF) e_63 (ext_up e_63 (And.left (fx_kF (c := 100) hF (by decide +kernel))) (And.left g_18)) (fx_a hF (fx_kF (c := 100) hF (by decide +kernel)) (And.left g_18) (by decide +kernel)) (Or.inl rfl) (by decide +kernel)
      obtain ⟨x_75, e_76, h⟩ := lx_s h
      obtain ⟨m_81, e_82, h⟩ := up_s h
      have E_85 := ext_up e_82 (And.left (fx_kF (c := 100) (Fr.fix w_67) (by decide +kernel))) (And.left g_18)
      have w_86 := Fr.upC (y := (-9)) w_67 e_82 (ext_up e_82 (And.left (fx_kF (c := 100) (Fr.fix w_67) (by decide +kernel))) (And.left g_18)) (fx_a (Fr.fix w_67) (fx_kF (c := 100) (Fr.fix w_67) (by decide +kernel)) (And.left g_18) (by decide +kernel)) (Or.inl rfl) (by decide +kernel)
      exact fwj_X12_canGoOn_140 (Fr.fix w_86) (fun f => hQ (Fr.trS w_86 f)) h
    · exact fwj_X12_canGoOn_140 hF hQ h
  · exact fwj_X12_canGoOn_140 hF hQ h
set_option maxHeartbeats 4000000 in
theorem fw_X12_canGoOn {m0 : MM} {p1 : Int} {rz : Int} {rm : MM} (hF : Fix m0)
  (h : fm_X12_canGoOn p1 m0 = some (rz, rm)) : Fr fW_X12_canGoOn 0 m0 rm := by
  have hQ : Fr fW_X12_canGoOn 0 m0 rm → Fr fW_X12_canGoOn 0 m0 rm := id
  unfold fm_X12_canGoOn at h
  obtain ⟨g_6, h⟩ := gd_s h
  obtain ⟨x_8, e_9, h⟩ := lx_s h
  rcases it_s h with ⟨hp_12, h⟩ | ⟨hp_12, h⟩
  · obtain ⟨x_97, e_98, h⟩ := lx_s h
    obtain ⟨g_101, h⟩ := gd_s h
    obtain ⟨x_103, e_104, h⟩ := lx_s h
    obtain ⟨x_117, e_118, h⟩ := lx_s h
    rcases it_s h with ⟨hp_119, h⟩ | ⟨hp_119, h⟩
    · obtain ⟨x_140, e_141, h⟩ := lx_s h
      obtain ⟨g_159, h⟩ := gd_s h
      obtain ⟨x_161, e_162, h⟩ := lx_s h
      obtain ⟨g_163, h⟩ := gd_s h
      obtain ⟨m_164, e_165, h⟩ := up_s h
      have E_168 := ext_up e_165 (And.left (fx_kF (c := 100) hF (by decide +kernel))) (And.left g_163)
      have w_169 := Fr.upC (y := (-9)) (Fr.rf (W := fW_X12_canGoOn) (e := 0) hF) e_165 (ext_up e_165 (And.left (fx_kF (c := 100) hF (by decide +kernel))) (And.left g_163)) (fx_a hF (fx_kF (c := 100) hF (by decide +kernel)) (And.left g_163) (by decide +kernel)) (Or.inl rfl) (by decide +kernel)
      obtain ⟨x_177, e_178, h⟩ := lx_s h
      obtain ⟨m_183, e_184, h⟩ := up_s h
      have E_187 := ext_up e_184 (And.left (fx_kF (c := 100) (Fr.fix w_169) (by decide +kernel))) (And.left g_101)
      have w_188 := Fr.upC (y := (-9)) w_169 e_184 (ext_up e_184 (And.left (fx_kF (c := 100) (Fr.fix w_169) (by decide +kernel))) (And.left g_101)) (fx_a (Fr.fix w_169) (fx_kF (c := 100) (Fr.fix w_169) (by decide +kernel)) (And.left g_101) (by decide +kernel)) (Or.inl rfl) (by decide +kernel)
      obtain ⟨m_195, e_196, h⟩ := up_s h
      have E_199 := ext_up e_196 (And.left (fx_kF (c := 100) (Fr.fix w_188) (by decide +kernel))) (And.left g_6)
      have w_200 := Fr.upC (y := (-9)) w_188 e_196 (ext_up e_196 (And.left (fx_kF (c := 100) (Fr.fix w_188) (by decide +kernel))) (And.left g_6)) (fx_a (Fr.fix w_188) (fx_kF (c := 100) (Fr.fix w_188) (by decide +kernel)) (And.left g_6) (by decide +kernel)) (Or.inl rfl) (by decide +kernel)
      obtain ⟨x_208, e_209, h⟩ := lx_s h
      obtain ⟨m_214, e_215, h⟩ := up_s h
      have E_218 := ext_up e_215 (And.left (fx_kF (c := 100) (Fr.fix w_200) (by decide +kernel))) (And.left g_6)
      have w_219 := Fr.upC (y := (-9)) w_200 e_215 (ext_up e_215 (And.left (fx_kF (c := 100) (Fr.fix w_200) (by decide +kernel))) (And.left g_6)) (fx_a (Fr.fix w_200) (fx_kF (c := 100) (Fr.fix w_200) (by decide +kernel)) (And.left g_6) (by decide +kernel)) (Or.inl rfl) (by decide +kernel)
      exact fwj_X12_canGoOn_140 (Fr.fix w_219) (fun f => hQ (Fr.trS w_219 f)) h
    · exact fwj_X12_canGoOn_100 hF hQ h
  · exact fwj_X12_canGoOn_100 hF hQ h
def fW_X12_walks : List (Int × Int × Int) := [(0, 68, 91), (0, 68, 92), (0, 68, 103), (0, 68, 105), (0, 68, 110), (0, 68, 112), (0, 68, 113), (0, 68, 114), (0, 68, 115), (0, 68, 116), (0, 68, 120), (0, 68, 125), (0, 142, (-9)), (0, 143, (-9)), (0, 144, (-9)), (0, 145, (-9)), (0, 146, (-9)), (0, 147, (-9)), (0, 148, (-9)), (0, 149, (-9)), (0, 150, (-9)), (0, 151, (-9)), (0, 152, (-9)), (0, 153, (-9)), (0, 154, (-9)), (0, 156, (-9)), (0, 158, (-9)), (0, 159, (-9)), (1, 100, (-9))]
set_option maxHeartbeats 4000000 in
theorem fwj_X12_walks_96 {P : Prop} {m : MM} {y1 : Int} {rz : Int} {rm : MM} {c : Int → MM → Option (Int × MM)} (hF : Fix m)
  (hc : ∀ mq : MM, Fr fW_X12_walks 0 m mq → ∀ {z2 : Int}, c z2 mq = some (rz, rm) → P) (hQ : Fr fW_X12_walks 0 m rm → P)
  (h : fj_X12_walks_96 c y1 m = some (rz, rm)) : P := by
  unfold fj_X12_walks_96 at h
  obtain ⟨x_116, hc_115, h⟩ := bp_s h
  rcases it_s h with ⟨hp_131, h⟩ | ⟨hp_131, h⟩
  · exact hc m (Fr.rf (W := fW_X12_walks) (e := 0) hF) h
  · obtain ⟨x_133, hc_132, h⟩ := bp_s h
    rcases it_s h with ⟨hp_141, h⟩ | ⟨hp_141, h⟩
    · exact hc m (Fr.rf (W := fW_X12_walks) (e := 0) hF) h
    · obtain ⟨g_147, h⟩ := gd_s h
      obtain ⟨x_149, e_150, h⟩ := lx_s h
      rcases it_s h with ⟨hp_151, h⟩ | ⟨hp_151, h⟩
      · exact hc m (Fr.rf (W := fW_X12_walks) (e := 0) hF) h
      · obtain ⟨x_153, m_154, hc_152, h⟩ := bd_s h
        have w_161 := (fw_X12_canGoOn hF hc_152)
        have E_159 := Fr.ext w_161
        have w_162 := Fr.tr0 (Fr.rf (W := fW_X12_walks) (e := 0) hF) w_161 (by decide +kernel)
        exact hc m_154 w_162 h
set_option maxHeartbeats 4000000 in
theorem fwl_X12_walks_6 {P : Prop} {mb : MM} {y1 : Int} {rz : Int} {rm : MM} (hF0 : Fix mb) (hQ : Fr fW_X12_walks 0 mb rm → P) :
  ∀ (n : Nat) {m : MM} {y2 : Int} , Fr fW_X12_walks 0 mb m → fl_X12_walks_6 y1 n y2 m = some (rz, rm) → P := by
  intro n
  induction n with
  | zero => intro m y2 w h; cases h
  | succ n ih0 =>
    intro m y2 w h
    have ih : ∀ mq : MM, Fr fW_X12_walks 0 mb mq → ∀ {z2 : Int}, fl_X12_walks_6 y1 n z2 mq = some (rz, rm) → P := fun mq b => by intros; exact ih0 b ‹_›
    unfold fl_X12_walks_6 at h
    rcases it_s h with ⟨hp_17, h⟩ | ⟨hp_17, h⟩
    · cases h
      exact hQ w
    · obtain ⟨x_19, hc_18, h⟩ := bp_s h
      rcases it_s h with ⟨hp_27, h⟩ | ⟨hp_27, h⟩
      · cases h
        exact hQ w
      · obtain ⟨g_33, h⟩ := gd_s h
        obtain ⟨x_35, e_36, h⟩ := lx_s h
        rcases it_s h with ⟨hp_37, h⟩ | ⟨hp_37, h⟩
        · obtain ⟨x_44, e_45, h⟩ := lx_s h
          obtain ⟨x_57, e_58, h⟩ := lx_s h
          obtain ⟨g_61, h⟩ := gd_s h
          obtain ⟨x_63, e_64, h⟩ := lx_s h
          obtain ⟨x_70, e_71, h⟩ := lx_s h
          obtain ⟨g_76, h⟩ := gd_s h
          obtain ⟨x_78, e_79, h⟩ := lx_s h
          rcases it_s h with ⟨hp_80, h⟩ | ⟨hp_80, h⟩
          · obtain ⟨x_84, e_85, h⟩ := lx_s h
            rcases it_s h with ⟨hp_88, h⟩ | ⟨hp_88, h⟩
            · obtain ⟨x_165, m_166, hc_164, h⟩ := bd_s h
              have w_173 := (fw_X12_spins (Fr.fix w) hc_164)
              have E_171 := Fr.ext w_173
              have w_174 := Fr.tr0 w w_173 (by decide +kernel)
              exact fwj_X12_walks_96 (Fr.fix w_174) (fun mq f => ih mq (Fr.trS w_174 f)) (fun f => hQ (Fr.trS w_174 f)) h
            · obtain ⟨m_96, e_97, h⟩ := up_s h
              have E_100 := ext_up e_97 (And.left (fx_kF (c := 13) (Fr.fix w) (by decide +kernel))) (by decide)
              have w_101 := Fr.upC (y := 113) w e_97 (ext_up e_97 (And.left (fx_kF (c := 13) (Fr.fix w) (by decide +kernel))) (by decide)) (fx_f (j := 113) (Fr.fix w) (fx_kF (c := 13) (Fr.fix w) (by decide +kernel)) (by decide +kernel)) (Or.inr rfl) (by decide +kernel)
              obtain ⟨x_104, m_105, hc_103, h⟩ := bd_s h
              have w_112 := (fw_X12_does (Fr.fix w_101) hc_103)
              have E_110 := Fr.ext w_112
              have w_113 := Fr.tr0 w_101 w_112 (by decide +kernel)
              exact fwj_X12_walks_96 (Fr.fix w_113) (fun mq f => ih mq (Fr.trS w_113 f)) (fun f => hQ (Fr.trS w_113 f)) h
          · obtain ⟨x_177, m_178, hc_176, h⟩ := bd_s h
            have w_185 := (fw_X12_endsBranch (Fr.fix w) hc_176)
            have E_183 := Fr.ext w_185
            have w_186 := Fr.tr0 w w_185 (by decide +kernel)
            exact fwj_X12_walks_96 (Fr.fix w_186) (fun mq f => ih mq (Fr.trS w_186 f)) (fun f => hQ (Fr.trS w_186 f)) h
        · cases h
          exact hQ w
set_option maxHeartbeats 4000000 in
theorem fw_X12_walks {m0 : MM} {p1 : Int} {rz : Int} {rm : MM} (hF : Fix m0)
  (h : fm_X12_walks p1 m0 = some (rz, rm)) : Fr fW_X12_walks 0 m0 rm := by
  have hQ : Fr fW_X12_walks 0 m0 rm → Fr fW_X12_walks 0 m0 rm := id
  unfold fm_X12_walks at h
  obtain ⟨x_2, hc_1, h⟩ := bp_s h
  refine fwl_X12_walks_6 hF  hQ BIG (Fr.rf hF) h
end FW6
