theorem fm_all : ∃ I : Nat → fw_M → fw_M → Prop, fw_OK I ∧ I 0 fw_x0 fw_y0 := sorry
