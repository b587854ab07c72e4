/-! ===== the claim out of the methods' agreement ===== -/
/-- class and model answer alike, and stand alike afterwards -/
def am_Pz {α : Type} (Rl : am_Mm → Prop) (fC fM : am_Mm → Option (α × am_Mm)) : Prop := ∀ m, Rl m → ∃ r m1 m2, fC m = some (r, m1) ∧ fM m1 = some (r, m2) ∧ Rl m2
def am_Agree (Rl : am_Mm → Prop) (ro : am_Ro) : Prop :=
  (∀ a0 a1 a2 : Int32, am_Pz (α := Int32) Rl (f_C_row a0 a1 a2) (f_M_row a0 a1 a2)) ∧
  (∀ a0 a1 a2 : Int32, am_Pz (α := Int32) Rl (f_C_set a0 a1 a2) (f_M_set a0 a1 a2)) ∧
  (∀ a0 a1 a2 a3 a4 : Int32, am_Pz (α := Int32) Rl (f_C_copy a0 a1 a2 a3 a4) (f_M_copy a0 a1 a2 a3 a4)) ∧
  (∀ a0 : Int32, am_Pz (α := Int32) Rl (f_C_drop a0) (f_M_drop a0)) ∧
  (∀ a0 : Int32, am_Pz (α := Int32) Rl (f_C_feed a0) (f_M_feed a0)) ∧
  (am_Pz (α := Int32) Rl (f_C_polygon) (f_M_polygon)) ∧
  (am_Pz (α := Int32) Rl (f_C_fault) (f_M_fault)) ∧
  (am_Pz (α := Int32) Rl (f_C_undo) (f_M_undo)) ∧
  (∀ a0 a1 : Int32, am_Pz (α := Int32) Rl (f_C_cut a0 a1) (f_M_cut a0 a1)) ∧
  (∀ a0 : Int32, am_Pz (α := Int32) Rl (f_C_join a0) (f_M_join a0)) ∧
  (∀ a0 : Int32, am_Pz (α := Int32) Rl (f_C_flip a0) (f_M_flip a0)) ∧
  (∀ a0 : Int32, am_Pz (α := Int32) Rl (f_C_turn a0) (f_M_turn a0)) ∧
  (am_Pz (α := Int32) Rl (f_C_mirror) (f_M_mirror)) ∧
  (∀ a0 a1 : Int32, am_Pz (α := Int32) Rl (f_C_become a0 a1) (f_M_become a0 a1)) ∧
  (∀ a0 a1 : Int32, am_Pz (α := Int32) Rl (f_C_number a0 a1) (f_M_number a0 a1)) ∧
  (∀ a0 : Int32, am_Pz (α := Int32) Rl (f_C_lay a0) (f_M_lay a0)) ∧
  (∀ a0 a1 : Int32, am_Pz (α := Int32) Rl (f_C_corner a0 a1) (f_M_corner a0 a1)) ∧
  (∀ a0 a1 : Int32, am_Pz (α := Int32) Rl (f_C_cutOf a0 a1) (f_M_cutOf a0 a1)) ∧
  (∀ a0 a1 : Int32, am_Pz (α := Int64) Rl (f_C_frieze a0 a1) (f_M_frieze a0 a1)) ∧
  (∀ a0 : Int32, am_Pz (α := Int32) Rl (f_C_whole a0) (f_M_whole a0)) ∧
  (∀ a0 : Int32, am_Pz (α := Int32) Rl (f_C_piece a0) (f_M_piece a0)) ∧
  (∀ a0 a1 : Int32, am_Pz (α := Int32) Rl (f_C_back a0 a1) (f_M_back a0 a1)) ∧
  (am_Pz (α := Int32) Rl (f_C_ways ro) (f_M_ways)) ∧
  (∀ a0 : Int32, am_Pz (α := Int32) Rl (f_C_likes a0) (f_M_likes a0)) ∧
  (∀ a0 : Int32, am_Pz (α := Int32) Rl (f_C_flips a0) (f_M_flips a0)) ∧
  (∀ a0 a1 : Int32, am_Pz (α := Int32) Rl (f_C_sets a0 a1) (f_M_sets a0 a1)) ∧
  (∀ a0 a1 a2 a3 a4 : Int32, am_Pz (α := Int32) Rl (f_C_who a0 a1 a2 a3 a4) (f_M_who a0 a1 a2 a3 a4)) ∧
  (∀ a0 a1 a2 : Int32, am_Pz (α := Int64) Rl (f_C_lost a0 a1 a2) (f_M_lost a0 a1 a2)) ∧
  (∀ a0 a1 a2 : Int32, am_Pz (α := Int32) Rl (f_C_drawn a0 a1 a2) (f_M_drawn a0 a1 a2)) ∧
  (∀ a0 : Int32, am_Pz (α := Int32) Rl (f_C_image a0) (f_M_image a0)) ∧
  (∀ a0 : Int32, am_Pz (α := Int32) Rl (f_C_restore a0) (f_M_restore a0)) ∧
  (∀ a0 : Int32, am_Pz (α := Int32) Rl (f_C_kind a0) (f_M_kind a0)) ∧
  (∀ a0 a1 : Int32, am_Pz (α := Int32) Rl (f_C_as a0 a1) (f_M_as a0 a1)) ∧
  (∀ a0 a1 : Int32, am_Pz (α := Int32) Rl (f_C_ask a0 a1) (f_M_ask a0 a1)) ∧
  (∀ a0 : Int32, am_Pz (α := Int32) Rl (f_C_trace a0) (f_M_trace a0)) ∧
  (∀ a0 : Int32, am_Pz (α := Int32) Rl (f_C_count a0) (f_M_count a0)) ∧
  (am_Pz (α := Int32) Rl (f_C_status) (f_M_status))
theorem am_in_nI {k n : Nat} (h : k < n) (hn : n < 2 ^ 31) : am_in (nI k) n = true := by
  have := vp_in_nI (n := k) (N := n) h hn
  unfold vp_in at this
  unfold am_in
  simpa using this
set_option maxHeartbeats 8000000 in
set_option maxRecDepth 100000 in
theorem am_loop {Rl : am_Mm → Prop} {L : Nat} {xs : Nat → Int32} (hL : L ≤ 3072) (hA : am_Agree Rl (am_roL L xs)) : ∀ (n j : Nat) (m : am_Mm), Rl m → 6 * j ≤ L + 6 → L + 12 < 6 * (j + n) → ∃ m', f_L_law_b18 (am_roL L xs) n (nI (6 * j)) m = some ((1 : Int32), m') := by
  obtain ⟨h_row, h_set, h_copy, h_drop, h_feed, h_polygon, h_fault, h_undo, h_cut, h_join, h_flip, h_turn, h_mirror, h_become, h_number, h_lay, h_corner, h_cutOf, h_frieze, h_whole, h_piece, h_back, h_ways, h_likes, h_flips, h_sets, h_who, h_lost, h_drawn, h_image, h_restore, h_kind, h_as, h_ask, h_trace, h_count, h_status⟩ := hA
  have hro : ((am_roL L xs) 1).1 = L := rfl
  intro n
  induction n with
  | zero => intro j m _ h1 h2; omega
  | succ n ih =>
    intro j m hm hj hn
    rw [f_L_law_b18]
    rw [hro]
    have e0 : Int32.ofNat L - (6 : Int32) = nI L - nI 6 := rfl
    rw [e0]
    by_cases hc : L < 6 * j + 6
    · have hlt : nI L - nI 6 < nI (6 * j) := by
        rw [Int32.lt_iff_toInt_lt, pk_sub_toInt (by omega) (by omega), nI_toInt (by omega)]
        omega
      rw [if_pos hlt]
      exact ⟨m, rfl⟩
    · have hlt : ¬ (nI L - nI 6 < nI (6 * j)) := by
        rw [Int32.lt_iff_toInt_lt, pk_sub_toInt (by omega) (by omega), nI_toInt (by omega)]
        omega
      have i0 : am_in (nI (6 * j)) L = true := am_in_nI (by omega) (by omega)
      have i1 : am_in (nI (6 * j) + (1 : Int32)) L = true := by rw [nI_1]; exact am_in_nI (by omega) (by omega)
      have i2 : am_in (nI (6 * j) + (2 : Int32)) L = true := by rw [show (2 : Int32) = nI 2 from rfl, nI_add]; exact am_in_nI (by omega) (by omega)
      have i3 : am_in (nI (6 * j) + (3 : Int32)) L = true := by rw [show (3 : Int32) = nI 3 from rfl, nI_add]; exact am_in_nI (by omega) (by omega)
      have i4 : am_in (nI (6 * j) + (4 : Int32)) L = true := by rw [show (4 : Int32) = nI 4 from rfl, nI_add]; exact am_in_nI (by omega) (by omega)
      have i5 : am_in (nI (6 * j) + (5 : Int32)) L = true := by rw [show (5 : Int32) = nI 5 from rfl, nI_add]; exact am_in_nI (by omega) (by omega)
      have nx : ∀ m2 : am_Mm, Rl m2 → ∃ m', f_L_law_b1249 (am_roL L xs) (f_L_law_b18 (am_roL L xs) n) (nI (6 * j)) m2 = some ((1 : Int32), m') := by
        intro m2 h2
        unfold f_L_law_b1249
        rw [show (6 : Int32) = nI 6 from rfl, nI_add]
        exact ih (j + 1) m2 h2 (by omega) (by omega)
      rw [if_neg hlt, if_pos i0]
      generalize ((am_roL L xs) 1).2 (nI (6 * j)).toNatClampNeg &&& (63 : Int32) = op
      by_cases c0 : op = (0 : Int32)
      · rw [if_pos c0]
        rw [if_pos i1, if_pos i2, if_pos i3]
        obtain ⟨r, m1, m2, e1, e2, hR⟩ := h_row _ _ _ m hm
        rw [e1, Option.bind_some]
        rw [if_pos i1, if_pos i2, if_pos i3]
        rw [e2, Option.bind_some]
        rw [if_pos rfl]
        exact nx m2 hR
      rw [if_neg c0]
      by_cases c1 : op = (1 : Int32)
      · rw [if_pos c1]
        rw [if_pos i1, if_pos i2, if_pos i3]
        obtain ⟨r, m1, m2, e1, e2, hR⟩ := h_set _ _ _ m hm
        rw [e1, Option.bind_some]
        rw [if_pos i1, if_pos i2, if_pos i3]
        rw [e2, Option.bind_some]
        rw [if_pos rfl]
        exact nx m2 hR
      rw [if_neg c1]
      by_cases c2 : op = (2 : Int32)
      · rw [if_pos c2]
        rw [if_pos i1, if_pos i2, if_pos i3, if_pos i4, if_pos i5]
        obtain ⟨r, m1, m2, e1, e2, hR⟩ := h_copy _ _ _ _ _ m hm
        rw [e1, Option.bind_some]
        rw [if_pos i1, if_pos i2, if_pos i3, if_pos i4, if_pos i5]
        rw [e2, Option.bind_some]
        rw [if_pos rfl]
        exact nx m2 hR
      rw [if_neg c2]
      by_cases c3 : op = (3 : Int32)
      · rw [if_pos c3]
        rw [if_pos i1]
        obtain ⟨r, m1, m2, e1, e2, hR⟩ := h_drop _ m hm
        rw [e1, Option.bind_some]
        rw [if_pos i1]
        rw [e2, Option.bind_some]
        rw [if_pos rfl]
        exact nx m2 hR
      rw [if_neg c3]
      by_cases c4 : op = (4 : Int32)
      · rw [if_pos c4]
        rw [if_pos i1]
        obtain ⟨r, m1, m2, e1, e2, hR⟩ := h_feed _ m hm
        rw [e1, Option.bind_some]
        rw [if_pos i1]
        rw [e2, Option.bind_some]
        rw [if_pos rfl]
        exact nx m2 hR
      rw [if_neg c4]
      by_cases c5 : op = (5 : Int32)
      · rw [if_pos c5]
        obtain ⟨r, m1, m2, e1, e2, hR⟩ := h_polygon m hm
        rw [e1, Option.bind_some]
        rw [e2, Option.bind_some]
        rw [if_pos rfl]
        exact nx m2 hR
      rw [if_neg c5]
      by_cases c6 : op = (6 : Int32)
      · rw [if_pos c6]
        obtain ⟨r, m1, m2, e1, e2, hR⟩ := h_fault m hm
        rw [e1, Option.bind_some]
        rw [e2, Option.bind_some]
        rw [if_pos rfl]
        exact nx m2 hR
      rw [if_neg c6]
      by_cases c7 : op = (7 : Int32)
      · rw [if_pos c7]
        obtain ⟨r, m1, m2, e1, e2, hR⟩ := h_undo m hm
        rw [e1, Option.bind_some]
        rw [e2, Option.bind_some]
        rw [if_pos rfl]
        exact nx m2 hR
      rw [if_neg c7]
      by_cases c8 : op = (8 : Int32)
      · rw [if_pos c8]
        rw [if_pos i1, if_pos i2]
        obtain ⟨r, m1, m2, e1, e2, hR⟩ := h_cut _ _ m hm
        rw [e1, Option.bind_some]
        rw [if_pos i1, if_pos i2]
        rw [e2, Option.bind_some]
        rw [if_pos rfl]
        exact nx m2 hR
      rw [if_neg c8]
      by_cases c9 : op = (9 : Int32)
      · rw [if_pos c9]
        rw [if_pos i1]
        obtain ⟨r, m1, m2, e1, e2, hR⟩ := h_join _ m hm
        rw [e1, Option.bind_some]
        rw [if_pos i1]
        rw [e2, Option.bind_some]
        rw [if_pos rfl]
        exact nx m2 hR
      rw [if_neg c9]
      by_cases c10 : op = (10 : Int32)
      · rw [if_pos c10]
        rw [if_pos i1]
        obtain ⟨r, m1, m2, e1, e2, hR⟩ := h_flip _ m hm
        rw [e1, Option.bind_some]
        rw [if_pos i1]
        rw [e2, Option.bind_some]
        rw [if_pos rfl]
        exact nx m2 hR
      rw [if_neg c10]
      by_cases c11 : op = (11 : Int32)
      · rw [if_pos c11]
        rw [if_pos i1]
        obtain ⟨r, m1, m2, e1, e2, hR⟩ := h_turn _ m hm
        rw [e1, Option.bind_some]
        rw [if_pos i1]
        rw [e2, Option.bind_some]
        rw [if_pos rfl]
        exact nx m2 hR
      rw [if_neg c11]
      by_cases c12 : op = (12 : Int32)
      · rw [if_pos c12]
        obtain ⟨r, m1, m2, e1, e2, hR⟩ := h_mirror m hm
        rw [e1, Option.bind_some]
        rw [e2, Option.bind_some]
        rw [if_pos rfl]
        exact nx m2 hR
      rw [if_neg c12]
      by_cases c13 : op = (13 : Int32)
      · rw [if_pos c13]
        rw [if_pos i1, if_pos i2]
        obtain ⟨r, m1, m2, e1, e2, hR⟩ := h_become _ _ m hm
        rw [e1, Option.bind_some]
        rw [if_pos i1, if_pos i2]
        rw [e2, Option.bind_some]
        rw [if_pos rfl]
        exact nx m2 hR
      rw [if_neg c13]
      by_cases c14 : op = (14 : Int32)
      · rw [if_pos c14]
        rw [if_pos i1, if_pos i2]
        obtain ⟨r, m1, m2, e1, e2, hR⟩ := h_number _ _ m hm
        rw [e1, Option.bind_some]
        rw [if_pos i1, if_pos i2]
        rw [e2, Option.bind_some]
        rw [if_pos rfl]
        exact nx m2 hR
      rw [if_neg c14]
      by_cases c15 : op = (15 : Int32)
      · rw [if_pos c15]
        rw [if_pos i1]
        obtain ⟨r, m1, m2, e1, e2, hR⟩ := h_lay _ m hm
        rw [e1, Option.bind_some]
        rw [if_pos i1]
        rw [e2, Option.bind_some]
        rw [if_pos rfl]
        exact nx m2 hR
      rw [if_neg c15]
      by_cases c16 : op = (16 : Int32)
      · rw [if_pos c16]
        rw [if_pos i1, if_pos i2]
        obtain ⟨r, m1, m2, e1, e2, hR⟩ := h_corner _ _ m hm
        rw [e1, Option.bind_some]
        rw [if_pos i1, if_pos i2]
        rw [e2, Option.bind_some]
        rw [if_pos rfl]
        exact nx m2 hR
      rw [if_neg c16]
      by_cases c17 : op = (17 : Int32)
      · rw [if_pos c17]
        rw [if_pos i1, if_pos i2]
        obtain ⟨r, m1, m2, e1, e2, hR⟩ := h_cutOf _ _ m hm
        rw [e1, Option.bind_some]
        rw [if_pos i1, if_pos i2]
        rw [e2, Option.bind_some]
        rw [if_pos rfl]
        exact nx m2 hR
      rw [if_neg c17]
      by_cases c18 : op = (18 : Int32)
      · rw [if_pos c18]
        rw [if_pos i1, if_pos i2]
        obtain ⟨r, m1, m2, e1, e2, hR⟩ := h_frieze _ _ m hm
        rw [e1, Option.bind_some]
        rw [if_pos i1, if_pos i2]
        rw [e2, Option.bind_some]
        rw [if_pos ((lg_cmp_eq r r).mpr rfl)]
        exact nx m2 hR
      rw [if_neg c18]
      by_cases c19 : op = (19 : Int32)
      · rw [if_pos c19]
        rw [if_pos i1]
        obtain ⟨r, m1, m2, e1, e2, hR⟩ := h_whole _ m hm
        rw [e1, Option.bind_some]
        rw [if_pos i1]
        rw [e2, Option.bind_some]
        rw [if_pos rfl]
        exact nx m2 hR
      rw [if_neg c19]
      by_cases c20 : op = (20 : Int32)
      · rw [if_pos c20]
        rw [if_pos i1]
        obtain ⟨r, m1, m2, e1, e2, hR⟩ := h_piece _ m hm
        rw [e1, Option.bind_some]
        rw [if_pos i1]
        rw [e2, Option.bind_some]
        rw [if_pos rfl]
        exact nx m2 hR
      rw [if_neg c20]
      by_cases c21 : op = (21 : Int32)
      · rw [if_pos c21]
        rw [if_pos i1, if_pos i2]
        obtain ⟨r, m1, m2, e1, e2, hR⟩ := h_back _ _ m hm
        rw [e1, Option.bind_some]
        rw [if_pos i1, if_pos i2]
        rw [e2, Option.bind_some]
        rw [if_pos rfl]
        exact nx m2 hR
      rw [if_neg c21]
      by_cases c22 : op = (22 : Int32)
      · rw [if_pos c22]
        obtain ⟨r, m1, m2, e1, e2, hR⟩ := h_ways m hm
        rw [e1, Option.bind_some]
        rw [e2, Option.bind_some]
        rw [if_pos rfl]
        exact nx m2 hR
      rw [if_neg c22]
      by_cases c23 : op = (23 : Int32)
      · rw [if_pos c23]
        rw [if_pos i1]
        obtain ⟨r, m1, m2, e1, e2, hR⟩ := h_likes _ m hm
        rw [e1, Option.bind_some]
        rw [if_pos i1]
        rw [e2, Option.bind_some]
        rw [if_pos rfl]
        exact nx m2 hR
      rw [if_neg c23]
      by_cases c24 : op = (24 : Int32)
      · rw [if_pos c24]
        rw [if_pos i1]
        obtain ⟨r, m1, m2, e1, e2, hR⟩ := h_flips _ m hm
        rw [e1, Option.bind_some]
        rw [if_pos i1]
        rw [e2, Option.bind_some]
        rw [if_pos rfl]
        exact nx m2 hR
      rw [if_neg c24]
      by_cases c25 : op = (25 : Int32)
      · rw [if_pos c25]
        rw [if_pos i1, if_pos i2]
        obtain ⟨r, m1, m2, e1, e2, hR⟩ := h_sets _ _ m hm
        rw [e1, Option.bind_some]
        rw [if_pos i1, if_pos i2]
        rw [e2, Option.bind_some]
        rw [if_pos rfl]
        exact nx m2 hR
      rw [if_neg c25]
      by_cases c26 : op = (26 : Int32)
      · rw [if_pos c26]
        rw [if_pos i1, if_pos i2, if_pos i3, if_pos i4, if_pos i5]
        obtain ⟨r, m1, m2, e1, e2, hR⟩ := h_who _ _ _ _ _ m hm
        rw [e1, Option.bind_some]
        rw [if_pos i1, if_pos i2, if_pos i3, if_pos i4, if_pos i5]
        rw [e2, Option.bind_some]
        rw [if_pos rfl]
        exact nx m2 hR
      rw [if_neg c26]
      by_cases c27 : op = (27 : Int32)
      · rw [if_pos c27]
        rw [if_pos i1, if_pos i2, if_pos i3]
        obtain ⟨r, m1, m2, e1, e2, hR⟩ := h_lost _ _ _ m hm
        rw [e1, Option.bind_some]
        rw [if_pos i1, if_pos i2, if_pos i3]
        rw [e2, Option.bind_some]
        rw [if_pos ((lg_cmp_eq r r).mpr rfl)]
        exact nx m2 hR
      rw [if_neg c27]
      by_cases c28 : op = (28 : Int32)
      · rw [if_pos c28]
        rw [if_pos i1, if_pos i2, if_pos i3]
        obtain ⟨r, m1, m2, e1, e2, hR⟩ := h_drawn _ _ _ m hm
        rw [e1, Option.bind_some]
        rw [if_pos i1, if_pos i2, if_pos i3]
        rw [e2, Option.bind_some]
        rw [if_pos rfl]
        exact nx m2 hR
      rw [if_neg c28]
      by_cases c29 : op = (29 : Int32)
      · rw [if_pos c29]
        rw [if_pos i1]
        obtain ⟨r, m1, m2, e1, e2, hR⟩ := h_image _ m hm
        rw [e1, Option.bind_some]
        rw [if_pos i1]
        rw [e2, Option.bind_some]
        rw [if_pos rfl]
        exact nx m2 hR
      rw [if_neg c29]
      by_cases c30 : op = (30 : Int32)
      · rw [if_pos c30]
        rw [if_pos i1]
        obtain ⟨r, m1, m2, e1, e2, hR⟩ := h_restore _ m hm
        rw [e1, Option.bind_some]
        rw [if_pos i1]
        rw [e2, Option.bind_some]
        rw [if_pos rfl]
        exact nx m2 hR
      rw [if_neg c30]
      by_cases c31 : op = (31 : Int32)
      · rw [if_pos c31]
        rw [if_pos i1]
        obtain ⟨r, m1, m2, e1, e2, hR⟩ := h_kind _ m hm
        rw [e1, Option.bind_some]
        rw [if_pos i1]
        rw [e2, Option.bind_some]
        rw [if_pos rfl]
        exact nx m2 hR
      rw [if_neg c31]
      by_cases c32 : op = (32 : Int32)
      · rw [if_pos c32]
        rw [if_pos i1, if_pos i2]
        obtain ⟨r, m1, m2, e1, e2, hR⟩ := h_as _ _ m hm
        rw [e1, Option.bind_some]
        rw [if_pos i1, if_pos i2]
        rw [e2, Option.bind_some]
        rw [if_pos rfl]
        exact nx m2 hR
      rw [if_neg c32]
      by_cases c33 : op = (33 : Int32)
      · rw [if_pos c33]
        rw [if_pos i1, if_pos i2]
        obtain ⟨r, m1, m2, e1, e2, hR⟩ := h_ask _ _ m hm
        rw [e1, Option.bind_some]
        rw [if_pos i1, if_pos i2]
        rw [e2, Option.bind_some]
        rw [if_pos rfl]
        exact nx m2 hR
      rw [if_neg c33]
      by_cases c34 : op = (34 : Int32)
      · rw [if_pos c34]
        rw [if_pos i1]
        obtain ⟨r, m1, m2, e1, e2, hR⟩ := h_trace _ m hm
        rw [e1, Option.bind_some]
        rw [if_pos i1]
        rw [e2, Option.bind_some]
        rw [if_pos rfl]
        exact nx m2 hR
      rw [if_neg c34]
      by_cases c35 : op = (35 : Int32)
      · rw [if_pos c35]
        rw [if_pos i1]
        obtain ⟨r, m1, m2, e1, e2, hR⟩ := h_count _ m hm
        rw [e1, Option.bind_some]
        rw [if_pos i1]
        rw [e2, Option.bind_some]
        rw [if_pos rfl]
        exact nx m2 hR
      rw [if_neg c35]
      by_cases c36 : op = (36 : Int32)
      · rw [if_pos c36]
        obtain ⟨r, m1, m2, e1, e2, hR⟩ := h_status m hm
        rw [e1, Option.bind_some]
        rw [e2, Option.bind_some]
        rw [if_pos rfl]
        exact nx m2 hR
      rw [if_neg c36]
      exact nx m hm
theorem am_pure_of {Rl : am_Mm → Prop} (h0 : Rl am_m0) (hA : ∀ (L : Nat) (xs : Nat → Int32), am_Agree Rl (am_roL L xs)) : am_Pure := by
  intro L xs hL
  have := am_loop hL (hA L xs) am_F 0 am_m0 h0 (by omega) (by show _ < 6 * (0 + 5000); omega)
  exact this
