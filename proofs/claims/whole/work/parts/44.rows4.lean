/-! ===== what a row holds; set ===== -/
theorem ml_toI0 : (0 : Int32).toInt = 0 := rfl
theorem ml_lt0 {x : Int32} : x < 0 ↔ x.toInt < 0 := by rw [Int32.lt_iff_toInt_lt, ml_toI0]
theorem ml_of_toInt {x : Int32} {k : Nat} (h : x.toInt = k) (hk : k < 2 ^ 31) : x = nI k := Int32.toInt_inj.mp (by rw [h, nI_toInt hk])
theorem ml_nn {x : Int32} (h : ¬ x < 0) : ∃ k : Nat, k < 2 ^ 31 ∧ x = nI k := nI_of h
theorem ml_holds {p l : Nat} {i n : Int32} {m : am_Mm} (e : m.1 p 3 = nI l) (hl : l ≤ 40) : f_Row_holds p i n m = some ((if 0 ≤ i.toInt ∧ 0 ≤ n.toInt ∧ i.toInt + n.toInt ≤ (l : Int) then 1 else 0), m) := by
  unfold f_Row_holds
  rw [e]
  by_cases h1 : i < 0
  · rw [if_pos h1, if_neg (fun q => by rw [ml_lt0] at h1; omega)]
  · rw [if_neg h1]
    by_cases h2 : n < 0
    · rw [if_pos h2, if_neg (fun q => by rw [ml_lt0] at h2; omega)]
    · rw [if_neg h2]
      obtain ⟨a, ha, rfl⟩ := ml_nn h1
      obtain ⟨b, hb, rfl⟩ := ml_nn h2
      rw [nI_toInt ha, nI_toInt hb]
      by_cases h3 : l < b
      · rw [if_pos (nI_lt h3 hb), if_neg (by omega)]
      · rw [if_neg (nI_nlt (by omega) (by omega)), pk_sub (by omega)]
        by_cases h4 : l - b < a
        · rw [if_pos (nI_lt h4 ha), if_neg (by omega)]
        · rw [if_neg (nI_nlt (by omega) (by omega)), if_pos (by omega)]
/-- the finding of a row that lacks something, else 0 -/
def rl_lack (v : rl_V) (r : Nat) (i n : Int32) : Int32 := if v (41 + 2 * r) 1 = 0 then 1 else if 0 ≤ i.toInt ∧ 0 ≤ n.toInt ∧ i.toInt + n.toInt ≤ (v (41 + 2 * r) 3).toInt then 0 else 2
theorem ml_trouble {r : Nat} {i n : Int32} {m : am_Mm} (hr : r < 8) (h : rl_Rows m.1) : f_C_troubleOf (nI r) i n m = some (rl_lack m.1 r i n, m) := by
  have hi : am_in (nI r) 8 = true := am_in_nI hr (by decide)
  obtain ⟨-, ⟨l, hl, e1, -⟩, -⟩ := h r hr
  unfold f_C_troubleOf rl_lack
  rw [if_pos hi, ml_rw hr]
  by_cases h1 : m.1 (41 + 2 * r) 1 = 0
  · rw [if_pos h1, if_pos h1]
  · rw [if_neg h1, if_neg h1, if_pos hi, ml_holds e1 hl, Option.bind_some, e1, nI_toInt (by omega)]
    by_cases h2 : 0 ≤ i.toInt ∧ 0 ≤ n.toInt ∧ i.toInt + n.toInt ≤ (l : Int)
    · rw [if_pos h2, if_pos h2]; rfl
    · rw [if_neg h2, if_neg h2]; rfl
/-- an item as its lane keeps it -/
def rl_nar (l : Nat) (x : Int32) : Int32 := if l = 0 then x.toInt8.toInt32 else if l = 1 then x.toInt16.toInt32 else x
theorem ml_l0 {l : Nat} (h : l < 3) : (nI l = (0 : Int32)) ↔ l = 0 := nI_eq (b := 0) (by omega) (by decide)
theorem ml_l1 {l : Nat} (h : l < 3) : (nI l = (1 : Int32)) ↔ l = 1 := nI_eq (b := 1) (by omega) (by decide)
theorem ml_put26 {r k : Nat} {x : Int32} {m : am_Mm} (hk : k < 40) : f_Row_put_b26 (41 + 2 * r) (nI k) x m = some (x, am_pI m (42 + 2 * r) k x) := by
  unfold f_Row_put_b26
  rw [if_neg (nI_pos (by omega)), if_neg (show ¬ Int32.ofNat 40 ≤ nI k from nI_ge (b := 40) hk (by decide)), if_pos (am_in_nI hk (by decide)), ml_cl (by omega), show 41 + 2 * r + 1 = 42 + 2 * r by omega]
theorem ml_put {r k l : Nat} {x : Int32} {m : am_Mm} (hk : k < 40) (hl : l < 3) (e : m.1 (41 + 2 * r) 2 = nI l) : f_Row_put (41 + 2 * r) (nI k) x m = some (rl_nar l x, am_pI m (42 + 2 * r) k (rl_nar l x)) := by
  unfold f_Row_put rl_nar
  rw [e]
  by_cases h0 : l = 0
  · rw [if_pos ((ml_l0 hl).mpr h0), ml_put26 hk, if_pos h0]
  · rw [if_neg (fun q => h0 ((ml_l0 hl).mp q)), if_neg h0]
    by_cases h1 : l = 1
    · rw [if_pos ((ml_l1 hl).mpr h1), ml_put26 hk, if_pos h1]
    · rw [if_neg (fun q => h1 ((ml_l1 hl).mp q)), ml_put26 hk, if_neg h1]
theorem ml_set94 {r k : Nat} {x : Int32} {m : am_Mm} (hr : r < 8) (hk : k < 40) : f_M_set_b94 (nI r) (nI k) (nI (40 * r + k)) x m = some (x, am_pI m 66 (40 * r + k) x) := by
  unfold f_M_set_b94
  rw [if_pos (am_in_nI (by omega) (by decide)), ml_40, if_pos (am_in_nI (by omega) (by decide)), ml_cl (by omega), ml_s]
theorem pz_set : ∀ a0 a1 a2 : Int32, am_Pz rl_All (f_C_set a0 a1 a2) (f_M_set a0 a1 a2) := by
  intro x1 x2 x3 m h
  have hbad : (x1 < 0 ∨ nI 8 ≤ x1) → ∃ r m1 m2, f_C_set x1 x2 x3 m = some (r, m1) ∧ f_M_set x1 x2 x3 m1 = some (r, m2) ∧ rl_All m2 := by
    intro hx
    refine ⟨-1000001, m, m, ?_, ?_, h⟩
    · unfold f_C_set; rw [ml_CR0 hx]; rfl
    · unfold f_M_set; rw [ml_MR0 hx]; rfl
  rcases ml_ix x1 (n := 8) (by decide) with hx | hx | ⟨r, hr, rfl⟩
  · exact hbad (Or.inl hx)
  · exact hbad (Or.inr hx)
  · have hi : am_in (nI r) 8 = true := am_in_nI hr (by decide)
    obtain ⟨hmade, ⟨l, hl, el1, el2⟩, hit⟩ := h.2.1 r hr
    have ht := ml_trouble (i := x2) (n := 1) hr h.2.1
    rcases hmade with ⟨c1, c2⟩ | ⟨c1, c2, l2, hl2, c3⟩
    · refine ⟨-1000010 - 1, am_pI m 0 12 1, am_pI (am_pI (am_pI m 0 12 1) 63 0 0) 63 0 1, ?_, ?_, ?_⟩
      · unfold f_C_set
        rw [ml_CR1 hr, Option.bind_some, if_neg ml_n10, ht]
        unfold rl_lack
        rw [if_pos c1]
        rfl
      · unfold f_M_set
        have e : (am_pI (am_pI m 0 12 1) 63 0 0).1 64 r = -1 := by rw [ml_o _ _ (by omega), ml_o _ _ (by omega)]; exact c2
        rw [ml_MR1 hr, Option.bind_some, if_neg ml_n10, if_pos hi, ml_cl (by omega), e, if_neg ml_m1]
        rfl
      · rw [ml_pp]; exact rl_All_stat h 1
    · have c4 : ¬ m.1 (41 + 2 * r) 1 = 0 := by rw [c1]; exact ml_n10
      have n1 : (1 : Int32).toInt = 1 := rfl
      by_cases hk : 0 ≤ x2.toInt ∧ x2.toInt + 1 ≤ (l : Int)
      · obtain ⟨k, hk2, rfl⟩ : ∃ k : Nat, k < l ∧ x2 = nI k := ⟨x2.toInt.toNat, by omega, ml_of_toInt (by omega) (by omega)⟩
        rw [nI_toInt (by omega)] at hk
        refine ⟨rl_nar l2 x3, am_pI (am_pI m (42 + 2 * r) k (rl_nar l2 x3)) 0 12 0, am_pI (am_pI (am_pI (am_pI m (42 + 2 * r) k (rl_nar l2 x3)) 0 12 0) 63 0 0) 66 (40 * r + k) (rl_nar l2 x3), ?_, ?_, ?_⟩
        · unfold f_C_set
          rw [ml_CR1 hr, Option.bind_some, if_neg ml_n10, ht]
          unfold rl_lack
          rw [if_neg c4, el1, nI_toInt (by omega), nI_toInt (by omega), n1, if_pos ⟨by omega, by omega, by omega⟩, Option.bind_some, if_pos rfl, if_pos hi, ml_rw hr, ml_put (by omega) hl2 (c2.symm.trans c3), Option.bind_some]
          rfl
        · unfold f_M_set
          have e : (am_pI (am_pI (am_pI m (42 + 2 * r) k (rl_nar l2 x3)) 0 12 0) 63 0 0).1 64 r = nI l2 := by rw [ml_o _ _ (by omega), ml_o _ _ (by omega), ml_o _ _ (by omega)]; exact c3
          have e2 : (am_pI (am_pI (am_pI m (42 + 2 * r) k (rl_nar l2 x3)) 0 12 0) 63 0 0).1 65 r = nI l := by rw [ml_o _ _ (by omega), ml_o _ _ (by omega), ml_o _ _ (by omega)]; exact el2
          rw [ml_MR1 hr, Option.bind_some, if_neg ml_n10, if_pos hi, ml_cl (by omega), e, if_pos (nI_pos' (by omega)), if_pos hi, e2, ml_in1 0 (nI l - 1) 0 (nI l - 1).toInt64 rfl rfl ⟨nI_pos' (by omega), (ml_le_pred (by omega) _).mpr (nI_lt hk2 (by omega))⟩, Option.bind_some, if_neg ml_n10, if_pos hi, e, if_pos hi, ml_40, ml_set94 hr (by omega), ml_set94 hr (by omega), ml_set94 hr (by omega)]
          unfold rl_nar
          by_cases h0 : l2 = 0
          · rw [if_pos ((ml_l0 hl2).mpr h0), if_pos h0]
          · rw [if_neg (fun q => h0 ((ml_l0 hl2).mp q)), if_neg h0]
            by_cases h1 : l2 = 1
            · rw [if_pos ((ml_l1 hl2).mpr h1), if_pos h1]
            · rw [if_neg (fun q => h1 ((ml_l1 hl2).mp q)), if_neg h1]
        · refine rl_All_rows h ?_ (rl_Rows_one (r := r) h.2.1 ?_ (fun q hq hqr p j hp => ?_)) (fun p j hp => ?_)
          · unfold rl_Stat
            rw [ml_o _ _ (by omega), ml_o _ _ (by omega), ml_s, ml_o _ _ (by omega), ml_s]
          · have hv : ∀ p j, ¬ (p = 42 + 2 * r ∧ j = k) → ¬ (p = 0) → ¬ (p = 63) → ¬ (p = 66 ∧ j = 40 * r + k) → (am_pI (am_pI (am_pI (am_pI m (42 + 2 * r) k (rl_nar l2 x3)) 0 12 0) 63 0 0) 66 (40 * r + k) (rl_nar l2 x3)).1 p j = m.1 p j := by
              intro p j q1 q2 q3 q4
              rw [ml_o _ _ q4, ml_o _ _ (by omega), ml_o _ _ (by omega), ml_o _ _ q1]
            refine ⟨Or.inr ⟨?_, ?_, l2, hl2, ?_⟩, ⟨l, hl, ?_, ?_⟩, fun j hj => ?_⟩
            · rw [hv _ _ (by omega) (by omega) (by omega) (by omega)]; exact c1
            · rw [hv _ _ (by omega) (by omega) (by omega) (by omega), hv _ _ (by omega) (by omega) (by omega) (by omega)]; exact c2
            · rw [hv _ _ (by omega) (by omega) (by omega) (by omega)]; exact c3
            · rw [hv _ _ (by omega) (by omega) (by omega) (by omega)]; exact el1
            · rw [hv _ _ (by omega) (by omega) (by omega) (by omega)]; exact el2
            · by_cases hjk : j = k
              · subst hjk
                rw [ml_s, ml_o _ _ (by omega), ml_o _ _ (by omega), ml_o _ _ (by omega), ml_s]
              · rw [hv _ _ (by omega) (by omega) (by omega) (by omega), hv _ _ (by omega) (by omega) (by omega) (by omega)]; exact hit j hj
          · simp only [rl_RowF] at hp
            rw [ml_o _ _ (by omega), ml_o _ _ (by omega), ml_o _ _ (by omega), ml_o _ _ (by omega)]
          · simp only [rl_NotRow, rl_TapeF, rl_AskF, rl_PolyF, rl_ImgF] at hp
            rw [ml_o _ _ (by omega), ml_o _ _ (by omega), ml_o _ _ (by omega), ml_o _ _ (by omega)]
      · refine ⟨-1000010 - 2, am_pI m 0 12 2, am_pI (am_pI (am_pI m 0 12 2) 63 0 0) 63 0 2, ?_, ?_, ?_⟩
        · unfold f_C_set
          rw [ml_CR1 hr, Option.bind_some, if_neg ml_n10, ht]
          unfold rl_lack
          rw [if_neg c4, el1, nI_toInt (by omega), n1, if_neg (fun q => hk ⟨q.1, q.2.2⟩)]
          rfl
        · unfold f_M_set
          have e : (am_pI (am_pI m 0 12 2) 63 0 0).1 64 r = nI l2 := by rw [ml_o _ _ (by omega), ml_o _ _ (by omega)]; exact c3
          have e2 : (am_pI (am_pI m 0 12 2) 63 0 0).1 65 r = nI l := by rw [ml_o _ _ (by omega), ml_o _ _ (by omega)]; exact el2
          rw [ml_MR1 hr, Option.bind_some, if_neg ml_n10, if_pos hi, ml_cl (by omega), e, if_pos (nI_pos' (by omega)), if_pos hi, e2, ml_in0 0 (nI l - 1) 0 (nI l - 1).toInt64 rfl rfl (fun q => hk ⟨by have := q.1; rw [Int32.le_iff_toInt_le, ml_toI0] at this; exact this, by have := (ml_le_pred (by omega) _).mp q.2; rw [Int32.lt_iff_toInt_lt, nI_toInt (by omega)] at this; omega⟩)]
          rfl
        · rw [ml_pp]; exact rl_All_stat h 2
