/-! ===== rows: drop, row, set ===== -/
theorem ml_rw {r : Nat} (h : r < 8) : am_rw (nI r) = 41 + 2 * r := by unfold am_rw; rw [ml_cl (by omega)]
theorem ml_CR0 {x : Int32} {m : am_Mm} (h : x < 0 ∨ nI 8 ≤ x) : f_C_isRow x m = some (0, m) := by
  unfold f_C_isRow
  rcases h with h | h
  · rw [if_pos h]
  · rw [if_neg (ml_ge_nlt0 (by decide) h), if_pos (show (8 : Int32) ≤ x from h)]
theorem ml_CR1 {r : Nat} {m : am_Mm} (h : r < 8) : f_C_isRow (nI r) m = some (1, m) := by
  unfold f_C_isRow
  rw [if_neg (nI_pos (by omega)), if_neg (show ¬ (8 : Int32) ≤ nI r from nI_ge h (by decide))]
theorem ml_MR0 {x : Int32} {m : am_Mm} (h : x < 0 ∨ nI 8 ≤ x) : f_M_isRow x m = some (0, m) := by
  unfold f_M_isRow
  rw [ml_in0 0 7 0 7 rfl rfl (fun q => ?_)]
  · rfl
  · rcases h with h | h
    · exact ml_neg_nle h q.1
    · have h2 := q.2
      rw [Int32.le_iff_toInt_le] at h h2
      rw [nI_toInt (by decide)] at h
      have : (7 : Int32).toInt = 7 := rfl
      omega
theorem ml_MR1 {r : Nat} {m : am_Mm} (h : r < 8) : f_M_isRow (nI r) m = some (1, m) := by
  unfold f_M_isRow
  rw [ml_in1 0 7 0 7 rfl rfl ⟨nI_pos' (by omega), show nI r ≤ (7 : Int32) from nI_le (show r ≤ 7 by omega) (by decide)⟩]
  rfl
theorem ml_m1 : ¬ ((0 : Int32) ≤ -1) := by decide
theorem pz_drop : ∀ a0 : Int32, am_Pz rl_All (f_C_drop a0) (f_M_drop a0) := by
  intro x m h
  have hbad : (x < 0 ∨ nI 8 ≤ x) → ∃ r m1 m2, f_C_drop x m = some (r, m1) ∧ f_M_drop x m1 = some (r, m2) ∧ rl_All m2 := by
    intro hx
    refine ⟨-1000001, m, m, ?_, ?_, h⟩
    · unfold f_C_drop; rw [ml_CR0 hx]; rfl
    · unfold f_M_drop; rw [ml_MR0 hx]; rfl
  rcases ml_ix x (n := 8) (by decide) with hx | hx | ⟨r, hr, rfl⟩
  · exact hbad (Or.inl hx)
  · exact hbad (Or.inr hx)
  · have hi : am_in (nI r) 8 = true := am_in_nI hr (by decide)
    obtain ⟨hmade, ⟨l, hl, el1, el2⟩, hit⟩ := h.2.1 r hr
    rcases hmade with ⟨c1, c2⟩ | ⟨c1, c2, l2, hl2, c3⟩
    · refine ⟨-1000010 - 1, am_pI m 0 12 1, am_pI (am_pI (am_pI m 0 12 1) 63 0 0) 63 0 1, ?_, ?_, ?_⟩
      · unfold f_C_drop
        rw [ml_CR1 hr, Option.bind_some, if_neg ml_n10, if_pos hi, ml_rw hr, if_pos c1]
        rfl
      · unfold f_M_drop
        have e : (am_pI (am_pI m 0 12 1) 63 0 0).1 64 r = -1 := by rw [ml_o _ _ (by omega), ml_o _ _ (by omega)]; exact c2
        rw [ml_MR1 hr, Option.bind_some, if_neg ml_n10, if_pos hi, ml_cl (by omega), e, if_neg ml_m1]
        rfl
      · refine ⟨?_, rl_Rows_c (fun q j hq => ?_) h.2.1, rl_Tape_c (fun q j hq => ?_) h.2.2.1, rl_Ask_c (fun q j hq => ?_) h.2.2.2.1, rl_Poly_c (fun q j hq => ?_) h.2.2.2.2.1, rl_Img_c (fun q j hq => ?_) h.2.2.2.2.2⟩
        · unfold rl_Stat
          rw [ml_s, ml_o _ _ (by omega), ml_o _ _ (by omega), ml_s]
        all_goals
          simp only [rl_RowsF, rl_TapeF, rl_AskF, rl_PolyF, rl_ImgF] at hq
          rw [ml_o _ _ (by omega), ml_o _ _ (by omega), ml_o _ _ (by omega)]
    · have c4 : ¬ m.1 (41 + 2 * r) 1 = 0 := by rw [c1]; exact ml_n10
      refine ⟨m.1 (41 + 2 * r) 3, am_pI (am_pI m (41 + 2 * r) 1 0) 0 12 0, am_pI (am_pI (am_pI (am_pI m (41 + 2 * r) 1 0) 0 12 0) 63 0 0) 64 r (-1), ?_, ?_, ?_⟩
      · unfold f_C_drop
        rw [ml_CR1 hr, Option.bind_some, if_neg ml_n10, if_pos hi, ml_rw hr, if_neg c4, if_pos hi, if_pos hi]
        unfold f_C_fine
        rw [Option.bind_some, ml_o _ _ (by omega)]
      · unfold f_M_drop
        have e : (am_pI (am_pI (am_pI m (41 + 2 * r) 1 0) 0 12 0) 63 0 0).1 64 r = nI l2 := by rw [ml_o _ _ (by omega), ml_o _ _ (by omega), ml_o _ _ (by omega)]; exact c3
        rw [ml_MR1 hr, Option.bind_some, if_neg ml_n10, if_pos hi, ml_cl (by omega), e, if_pos (nI_pos' (by omega)), if_pos hi, if_pos hi]
        rw [ml_o _ _ (by omega), ml_o _ _ (by omega), ml_o _ _ (by omega), ml_o _ _ (by omega), el1, el2]
      · refine ⟨?_, fun q hq => ?_, rl_Tape_c (fun q j hq => ?_) h.2.2.1, rl_Ask_c (fun q j hq => ?_) h.2.2.2.1, rl_Poly_c (fun q j hq => ?_) h.2.2.2.2.1, rl_Img_c (fun q j hq => ?_) h.2.2.2.2.2⟩
        · unfold rl_Stat
          rw [ml_o _ _ (by omega), ml_o _ _ (by omega), ml_s, ml_o _ _ (by omega), ml_s]
        · by_cases hqr : q = r
          · subst hqr
            refine ⟨Or.inl ⟨?_, ml_s _ _ _ _⟩, ⟨l, hl, ?_, ?_⟩, fun k hk => ?_⟩
            · rw [ml_o _ _ (by omega), ml_o _ _ (by omega), ml_o _ _ (by omega), ml_s]
            · rw [ml_o _ _ (by omega), ml_o _ _ (by omega), ml_o _ _ (by omega), ml_o _ _ (by omega)]; exact el1
            · rw [ml_o _ _ (by omega), ml_o _ _ (by omega), ml_o _ _ (by omega), ml_o _ _ (by omega)]; exact el2
            · rw [ml_o _ _ (by omega), ml_o _ _ (by omega), ml_o _ _ (by omega), ml_o _ _ (by omega), ml_o _ _ (by omega), ml_o _ _ (by omega), ml_o _ _ (by omega), ml_o _ _ (by omega)]; exact hit k hk
          · have hv : ∀ p k, (p = 41 + 2 * q ∨ p = 42 + 2 * q ∨ (p = 64 ∧ k = q) ∨ p = 65 ∨ p = 66) → (am_pI (am_pI (am_pI (am_pI m (41 + 2 * r) 1 0) 0 12 0) 63 0 0) 64 r (-1)).1 p k = m.1 p k := by
              intro p k hp
              rw [ml_o _ _ (by omega), ml_o _ _ (by omega), ml_o _ _ (by omega), ml_o _ _ (by omega)]
            have h2 := h.2.1 q hq
            rw [hv (41 + 2 * q) 1 (by omega), hv (41 + 2 * q) 2 (by omega), hv (41 + 2 * q) 3 (by omega), hv 64 q (by omega), hv 65 q (by omega)]
            refine ⟨h2.1, h2.2.1, fun k hk => ?_⟩
            rw [hv _ _ (by omega), hv _ _ (by omega)]
            exact h2.2.2 k hk
        all_goals
          simp only [rl_RowsF, rl_TapeF, rl_AskF, rl_PolyF, rl_ImgF] at hq
          rw [ml_o _ _ (by omega), ml_o _ _ (by omega), ml_o _ _ (by omega), ml_o _ _ (by omega)]
