/-! THE LEDGER at the beginning. -/
section BEG
theorem lg00 : LG 400000 1000 0 0 0 0 0 0 0 0 0 e00 := lg_beg (by decide) (by decide) (by decide) (by decide) (by decide) (by decide) (by decide)
theorem lwb00 : LWB 400000 1000 e00 := ⟨⟨by decide, by decide⟩, by decide, by decide⟩
end BEG
