/-! ===== status, fault, trace, feed; rows ===== -/
theorem ml_n10 : ¬ ((1 : Int32) = 0) := by decide
theorem ml_le_pred {l : Nat} (h : l < 2 ^ 30) (x : Int32) : x ≤ nI l - 1 ↔ x < nI l := by
  rw [Int32.le_iff_toInt_le, Int32.lt_iff_toInt_lt, show (1 : Int32) = nI 1 from rfl, pk_sub_toInt h (by decide), nI_toInt (by omega)]
  omega
theorem ml_neg_nle {x : Int32} (h : x < 0) : ¬ (0 ≤ x) := fun q => by
  rw [Int32.le_iff_toInt_le] at q
  rw [Int32.lt_iff_toInt_lt] at h
  omega
theorem ml_nlt_of_le {x y : Int32} (h : y ≤ x) : ¬ (x < y) := fun q => by
  rw [Int32.le_iff_toInt_le] at h
  rw [Int32.lt_iff_toInt_lt] at q
  omega
theorem ml_nle_of_lt {x y : Int32} (h : x < y) : ¬ (y ≤ x) := fun q => ml_nlt_of_le q h
theorem ml_le_of_nlt {x y : Int32} (h : ¬ x < y) : y ≤ x := by
  rw [Int32.le_iff_toInt_le]
  rw [Int32.lt_iff_toInt_lt] at h
  omega
theorem ml_lt_of_nle {x y : Int32} (h : ¬ y ≤ x) : x < y := by
  rw [Int32.lt_iff_toInt_lt]
  rw [Int32.le_iff_toInt_le] at h
  omega
theorem pz_status : am_Pz rl_All f_C_status f_M_status := by
  intro m h
  refine ⟨m.1 0 12, m, m, rfl, ?_, h⟩
  rw [show m.1 0 12 = m.1 63 0 from h.1]
  rfl
theorem pz_fault : am_Pz rl_All f_C_fault f_M_fault := by
  intro m h
  refine ⟨m.1 2 4, m, m, rfl, ?_, h⟩
  rw [show m.1 2 4 = m.1 63 17 from h.2.2.1.1]
  rfl
theorem ml_in0 {m : am_Mm} {x : Int32} (lo hi : Int32) (l h : Int64) (hl : l = lo.toInt64) (hh : h = hi.toInt64) (hc : ¬ (lo ≤ x ∧ x ≤ hi)) : f_M_in x.toInt64 l h m = some (0, m) := by rw [ml_M_in m x lo hi hl hh, if_neg hc]
theorem ml_in1 {m : am_Mm} {x : Int32} (lo hi : Int32) (l h : Int64) (hl : l = lo.toInt64) (hh : h = hi.toInt64) (hc : lo ≤ x ∧ x ≤ hi) : f_M_in x.toInt64 l h m = some (1, m) := by rw [ml_M_in m x lo hi hl hh, if_pos hc]
theorem ml_ge_nlt0 {x : Int32} {n : Nat} (hn : n < 2 ^ 31) (h : nI n ≤ x) : ¬ x < 0 := fun q => by
  rw [Int32.lt_iff_toInt_lt] at q
  rw [Int32.le_iff_toInt_le, nI_toInt hn] at h
  have : (0 : Int32).toInt = 0 := rfl
  omega
theorem pz_trace : ∀ a0 : Int32, am_Pz rl_All (f_C_trace a0) (f_M_trace a0) := by
  intro x m h
  obtain ⟨l, hl, e1, e2, e3⟩ := h.2.2.2.1
  rcases ml_ix x (n := l) (by omega) with hx | hx | ⟨k, hk, rfl⟩
  · refine ⟨-1000000, m, m, ?_, ?_, h⟩
    · unfold f_C_trace; rw [if_pos hx]
    · unfold f_M_trace; rw [ml_in0 0 (m.1 63 25 - 1) 0 (m.1 63 25 - 1).toInt64 rfl rfl (fun q => ml_neg_nle hx q.1)]; rfl
  · refine ⟨-1000000, m, m, ?_, ?_, h⟩
    · unfold f_C_trace; rw [if_neg (ml_ge_nlt0 (by omega) hx), e1, if_pos hx]
    · unfold f_M_trace; rw [ml_in0 0 (m.1 63 25 - 1) 0 (m.1 63 25 - 1).toInt64 rfl rfl (fun q => ml_nlt_of_le hx (by rw [e2] at q; exact (ml_le_pred (by omega) x).mp q.2))]; rfl
  · have hi : am_in (nI k) 16 = true := am_in_nI (by omega) (by decide)
    refine ⟨m.1 39 k, m, m, ?_, ?_, h⟩
    · unfold f_C_trace; rw [if_neg (nI_pos (by omega)), e1, if_neg (nI_ge hk (by omega)), if_pos hi, ml_cl (by omega)]
    · unfold f_M_trace
      rw [ml_in1 0 (m.1 63 25 - 1) 0 (m.1 63 25 - 1).toInt64 rfl rfl ⟨nI_pos' (by omega), by rw [e2]; exact (ml_le_pred (by omega) _).mpr (nI_lt hk (by omega))⟩, Option.bind_some, if_neg ml_n10, if_pos hi, ml_cl (by omega), e3 k hk]
theorem pz_feed : ∀ a0 : Int32, am_Pz rl_All (f_C_feed a0) (f_M_feed a0) := by
  intro x m h
  obtain ⟨e0, l, hl, e1, e2, e3⟩ := h.2.2.1
  rcases ml_ix x (n := 256) (by omega) with hx | hx | ⟨k, hk, rfl⟩
  · refine ⟨-1000001, m, m, ?_, ?_, h⟩
    · unfold f_C_feed; rw [if_pos hx]
    · unfold f_M_feed; rw [ml_in0 0 255 0 255 rfl rfl (fun q => ml_neg_nle hx q.1)]; rfl
  · have hx2 : ¬ x ≤ 255 := fun q => by
      rw [Int32.le_iff_toInt_le] at q hx
      rw [nI_toInt (by omega)] at hx
      have : (255 : Int32).toInt = 255 := rfl
      omega
    refine ⟨-1000001, m, m, ?_, ?_, h⟩
    · unfold f_C_feed; rw [if_neg (ml_ge_nlt0 (by omega) hx), if_neg hx2]
    · unfold f_M_feed; rw [ml_in0 0 255 0 255 rfl rfl (fun q => hx2 q.2)]; rfl
  · have h0 : ¬ nI k < 0 := nI_pos (by omega)
    have h1 : nI k ≤ (255 : Int32) := nI_le (show k ≤ 255 by omega) (by decide)
    by_cases hfull : l = 120
    · subst hfull
      refine ⟨-1000003, m, m, ?_, ?_, h⟩
      · unfold f_C_feed f_Tape_take
        rw [if_neg h0, if_pos h1, e1, if_neg (nI_pos (by omega)), if_neg (show ¬ nI 120 < (120 : Int32) from nI_nlt (Nat.le_refl 120) (by decide))]
        rfl
      · unfold f_M_feed
        rw [ml_in1 0 255 0 255 rfl rfl ⟨nI_pos' (by omega), h1⟩, Option.bind_some, if_neg ml_n10, e2, if_pos (show nI 120 = (120 : Int32) from rfl)]
    · have hlt : l < 120 := by omega
      have hi : am_in (nI l) 120 = true := am_in_nI hlt (by decide)
      have a1 : (am_pI m 12 l (nI k)).1 2 3 = nI l := by rw [ml_o _ _ (by omega)]; exact e1
      have a2 : (am_pI (am_pI m 12 l (nI k)) 2 3 (nI (l + 1))).1 63 10 = nI l := by rw [ml_o _ _ (by omega), ml_o _ _ (by omega)]; exact e2
      refine ⟨nI (l + 1), am_pI (am_pI m 12 l (nI k)) 2 3 (nI (l + 1)), am_pI (am_pI (am_pI (am_pI m 12 l (nI k)) 2 3 (nI (l + 1))) 71 l (nI k)) 63 10 (nI (l + 1)), ?_, ?_, ?_⟩
      · unfold f_C_feed f_Tape_take
        rw [if_neg h0, if_pos h1, e1, if_neg (nI_pos (by omega)), if_pos (show nI l < (120 : Int32) from nI_lt hlt (by decide)), if_pos hi, Option.bind_some, if_neg ml_n10, ml_cl (by omega), a1, nI_1, ml_s]
      · unfold f_M_feed
        rw [ml_in1 0 255 0 255 rfl rfl ⟨nI_pos' (by omega), h1⟩, Option.bind_some, if_neg ml_n10]
        rw [a2, if_neg (show ¬ nI l = (120 : Int32) from fun q => hfull ((nI_eq (b := 120) (by omega) (by decide)).mp q)), if_pos hi, ml_cl (by omega)]
        have a3 : (am_pI (am_pI (am_pI m 12 l (nI k)) 2 3 (nI (l + 1))) 71 l (nI k)).1 63 10 = nI l := by rw [ml_o _ _ (by omega)]; exact a2
        rw [a3, nI_1, ml_s]
      · have hs : rl_Stat (am_pI (am_pI (am_pI (am_pI m 12 l (nI k)) 2 3 (nI (l + 1))) 71 l (nI k)) 63 10 (nI (l + 1))).1 := by
          refine rl_Stat_c (ml_off ?_) (rl_Stat_c (ml_off ?_) (rl_Stat_c (ml_off ?_) (rl_Stat_c (ml_off ?_) h.1))) <;> (unfold rl_StatF; omega)
        have hr : rl_Rows (am_pI (am_pI (am_pI (am_pI m 12 l (nI k)) 2 3 (nI (l + 1))) 71 l (nI k)) 63 10 (nI (l + 1))).1 := by
          refine rl_Rows_c (ml_off ?_) (rl_Rows_c (ml_off ?_) (rl_Rows_c (ml_off ?_) (rl_Rows_c (ml_off ?_) h.2.1))) <;> (unfold rl_RowsF; omega)
        have ha : rl_Ask (am_pI (am_pI (am_pI (am_pI m 12 l (nI k)) 2 3 (nI (l + 1))) 71 l (nI k)) 63 10 (nI (l + 1))).1 := by
          refine rl_Ask_c (ml_off ?_) (rl_Ask_c (ml_off ?_) (rl_Ask_c (ml_off ?_) (rl_Ask_c (ml_off ?_) h.2.2.2.1))) <;> (unfold rl_AskF; omega)
        have hp : rl_Poly (am_pI (am_pI (am_pI (am_pI m 12 l (nI k)) 2 3 (nI (l + 1))) 71 l (nI k)) 63 10 (nI (l + 1))).1 := by
          refine rl_Poly_c (ml_off ?_) (rl_Poly_c (ml_off ?_) (rl_Poly_c (ml_off ?_) (rl_Poly_c (ml_off ?_) h.2.2.2.2.1))) <;> (unfold rl_PolyF; omega)
        have hg : rl_Img (am_pI (am_pI (am_pI (am_pI m 12 l (nI k)) 2 3 (nI (l + 1))) 71 l (nI k)) 63 10 (nI (l + 1))).1 := by
          refine rl_Img_c (ml_off ?_) (rl_Img_c (ml_off ?_) (rl_Img_c (ml_off ?_) (rl_Img_c (ml_off ?_) h.2.2.2.2.2))) <;> (unfold rl_ImgF; omega)
        refine ⟨hs, hr, ⟨?_, l + 1, by omega, ?_, ml_s _ _ _ _, fun j hj => ?_⟩, ha, hp, hg⟩
        · rw [ml_o _ _ (by omega), ml_o _ _ (by omega), ml_o _ _ (by omega), ml_o _ _ (by omega), ml_o _ _ (by omega), ml_o _ _ (by omega), ml_o _ _ (by omega), ml_o _ _ (by omega)]
          exact e0
        · rw [ml_o _ _ (by omega), ml_o _ _ (by omega), ml_s]
        · by_cases hjl : j = l
          · subst hjl
            rw [ml_o _ _ (by omega), ml_o _ _ (by omega), ml_o _ _ (by omega), ml_s, ml_o _ _ (by omega), ml_s]
            exact ⟨rfl, k, hk, rfl⟩
          · rw [ml_o _ _ (by omega), ml_o _ _ (by omega), ml_o _ _ (by omega), ml_o _ _ (by omega), ml_o _ _ (by omega), ml_o _ _ (by omega), ml_o _ _ (by omega), ml_o _ _ (by omega)]
            exact e3 j (by omega)
