theorem z_law_run (L : Nat) (xs : Nat → Int32) (hL : L ≤ 384) : ∃ (F : Nat) (mF : z_M), z_lp z_SH L xs (z_go z_SH z_P 40) me_L_law F 18 z_ls0 [] z_m0 = some (1, 0, mF) := by
  obtain ⟨mF, h⟩ := z_law_of p_hotel p_ofGuest p_hint p_word p_weighs p_seat p_give p_nights p_arrive p_leave p_dinner p_softly p_just p_apart p_best p_reading p_back p_bearings p_kinds p_hintings p_odds p_sheet p_lose p_put p_cell p_copy p_tell p_bow p_as p_trace p_fault p_many L xs hL 70 0 z_m0 q_rel0 (by omega) (by omega)
  exact ⟨71, mF, h⟩
