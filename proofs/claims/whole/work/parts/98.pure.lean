theorem am_agree (L : Nat) (xs : Nat → Int32) : am_Agree rl_All (am_roL L xs) :=
  ⟨pz_row, pz_set, pz_copy, pz_drop, pz_feed, pz_polygon, pz_fault, pz_undo, pz_cut, pz_join, pz_flip, pz_turn, pz_mirror, pz_become, pz_number, pz_lay, pz_corner, pz_cutOf, pz_frieze, pz_whole, pz_piece, pz_back, pz_ways L xs, pz_likes, pz_flips, pz_sets, pz_who, pz_lost, pz_drawn, pz_image, pz_restore, pz_kind, pz_as, pz_ask, pz_trace, pz_count, pz_status⟩
theorem am_pure : am_Pure := am_pure_of rl_start am_agree
