/-! ===== copy ===== -/
theorem ml_ladd (x y : Int32) : (x.toInt64 + y.toInt64).toInt = x.toInt + y.toInt := by
  have a1 := Int32.toInt_lt x
  have a2 := Int32.le_toInt x
  have a3 := Int32.toInt_lt y
  have a4 := Int32.le_toInt y
  rw [Int64.toInt_add, Int32.toInt_toInt64, Int32.toInt_toInt64]
  exact Int.bmod_eq_of_le (by omega) (by omega)
theorem ml_lgt (x y z : Int32) : (0 < lg_cmp (x.toInt64 + y.toInt64) z.toInt64) ↔ z.toInt < x.toInt + y.toInt := by
  rw [lg_cmp_gt, Int64.lt_iff_toInt_lt, ml_ladd, Int32.toInt_toInt64]
theorem ml_lle (x y z : Int32) : (lg_cmp (x.toInt64 + y.toInt64) z.toInt64 ≤ 0) ↔ x.toInt + y.toInt ≤ z.toInt := by
  rw [lg_cmp_le, Int64.le_iff_toInt_le, ml_ladd, Int32.toInt_toInt64]
theorem ml_pC (m : am_Mm) (p0 sp p1 dp n q j : Nat) : (am_pC m p0 sp p1 dp n).1 q j = if q = p1 ∧ dp ≤ j ∧ j < dp + n then m.1 p0 (sp + (j - dp)) else m.1 q j := by
  unfold am_pC va_up va_cpy
  by_cases h1 : q = p1
  · subst h1; simp
  · simp [h1]
theorem ml_pC0 (m : am_Mm) (p0 sp p1 dp : Nat) : am_pC m p0 sp p1 dp 0 = m := by
  refine Prod.ext ?_ rfl
  funext q j
  rw [ml_pC, if_neg (by omega)]
/-- the model's loop: upwards -/
theorem ml_cp_up {a b i j : Nat} (ha : a < 8) (hb : b < 8) (m : am_Mm) (x5 : Nat) (hi : i + x5 ≤ 40) (hj : j + x5 ≤ 40) (hij : j ≤ i) : ∀ (t k n : Nat), k + t = x5 → t < n →
    f_M_copy_b138 n (nI a) (nI i) (nI b) (nI j) (nI x5) 1 (nI k) (am_pC m 66 (40 * a + i) 66 (40 * b + j) k) = some (nI x5, am_pC m 66 (40 * a + i) 66 (40 * b + j) x5) := by
  intro t
  induction t with
  | zero =>
    intro k n hk hn
    obtain ⟨n, rfl⟩ : ∃ z, n = z + 1 := ⟨n - 1, by omega⟩
    have hk : k = x5 := by omega
    subst hk
    rw [f_M_copy_b138, if_pos (nI_le (Nat.le_refl _) (by omega))]
  | succ t ih =>
    intro k n hk hn
    obtain ⟨n, rfl⟩ : ∃ z, n = z + 1 := ⟨n - 1, by omega⟩
    rw [f_M_copy_b138, if_neg (nI_ge (by omega) (by omega)), if_neg ml_n10]
    unfold f_M_copy_b162
    rw [ml_40, ml_40, nI_add, nI_add, if_pos (am_in_nI (by omega) (by decide)), if_pos (am_in_nI (by omega) (by decide)), ml_cl (by omega), ml_cl (by omega), nI_1]
    have e : am_pI (am_pC m 66 (40 * a + i) 66 (40 * b + j) k) 66 (40 * b + j + k) ((am_pC m 66 (40 * a + i) 66 (40 * b + j) k).1 66 (40 * a + i + k)) = am_pC m 66 (40 * a + i) 66 (40 * b + j) (k + 1) := by
      refine Prod.ext ?_ rfl
      funext q y
      rw [ml_rd, ml_pC, ml_pC, ml_pC]
      by_cases h1 : q = 66 ∧ y = 40 * b + j + k
      · obtain ⟨rfl, rfl⟩ := h1
        rw [if_pos ⟨rfl, rfl⟩, if_neg (by omega), if_pos ⟨rfl, by omega, by omega⟩, show 40 * b + j + k - (40 * b + j) = k by omega]
      · rw [if_neg h1]
        by_cases h2 : q = 66 ∧ 40 * b + j ≤ y ∧ y < 40 * b + j + k
        · rw [if_pos h2, if_pos ⟨h2.1, h2.2.1, by omega⟩]
        · rw [if_neg h2, if_neg (by omega)]
    rw [e]
    exact ih (k + 1) n (by omega) (by omega)
/-- downwards -/
theorem ml_cp_dn {a b i j : Nat} (ha : a < 8) (hb : b < 8) (m : am_Mm) (x5 : Nat) (hi : i + x5 ≤ 40) (hj : j + x5 ≤ 40) (hij : i < j) : ∀ (t k n : Nat), k + t = x5 → t < n →
    f_M_copy_b138 n (nI a) (nI i) (nI b) (nI j) (nI x5) 0 (nI k) (am_pC m 66 (40 * a + i + t) 66 (40 * b + j + t) k) = some (nI x5, am_pC m 66 (40 * a + i) 66 (40 * b + j) x5) := by
  intro t
  induction t with
  | zero =>
    intro k n hk hn
    obtain ⟨n, rfl⟩ : ∃ z, n = z + 1 := ⟨n - 1, by omega⟩
    have hk : k = x5 := by omega
    subst hk
    rw [f_M_copy_b138, if_pos (nI_le (Nat.le_refl _) (by omega))]
    rfl
  | succ t ih =>
    intro k n hk hn
    obtain ⟨n, rfl⟩ : ∃ z, n = z + 1 := ⟨n - 1, by omega⟩
    rw [f_M_copy_b138, if_neg (nI_ge (by omega) (by omega)), if_pos rfl]
    unfold f_M_copy_b162
    rw [show (1 : Int32) = nI 1 from rfl, pk_sub (by omega), pk_sub (by omega), show x5 - 1 - k = t by omega, ml_40, ml_40, nI_add, nI_add, if_pos (am_in_nI (by omega) (by decide)), if_pos (am_in_nI (by omega) (by decide)), ml_cl (by omega), ml_cl (by omega), nI_add]
    have e : am_pI (am_pC m 66 (40 * a + i + (t + 1)) 66 (40 * b + j + (t + 1)) k) 66 (40 * b + j + t) ((am_pC m 66 (40 * a + i + (t + 1)) 66 (40 * b + j + (t + 1)) k).1 66 (40 * a + i + t)) = am_pC m 66 (40 * a + i + t) 66 (40 * b + j + t) (k + 1) := by
      refine Prod.ext ?_ rfl
      funext q y
      rw [ml_rd, ml_pC, ml_pC, ml_pC]
      by_cases h1 : q = 66 ∧ y = 40 * b + j + t
      · obtain ⟨rfl, rfl⟩ := h1
        rw [if_pos ⟨rfl, rfl⟩, if_neg (by omega), if_pos ⟨rfl, by omega, by omega⟩, show 40 * b + j + t - (40 * b + j + t) = 0 by omega]
        rfl
      · rw [if_neg h1]
        by_cases h2 : q = 66 ∧ 40 * b + j + (t + 1) ≤ y ∧ y < 40 * b + j + (t + 1) + k
        · rw [if_pos h2, if_pos ⟨h2.1, by omega, by omega⟩]
          rw [show 40 * a + i + (t + 1) + (y - (40 * b + j + (t + 1))) = 40 * a + i + t + (y - (40 * b + j + t)) by omega]
        · rw [if_neg h2, if_neg (by omega)]
    rw [e]
    exact ih (k + 1) n (by omega) (by omega)
theorem ml_made {v : rl_V} {r : Nat} (hr : r < 8) (h : rl_Rows v) : (v (41 + 2 * r) 1 = 0 ∧ v 64 r < 0) ∨ (¬ v (41 + 2 * r) 1 = 0 ∧ ¬ v 64 r < 0 ∧ 0 ≤ v 64 r ∧ v (41 + 2 * r) 2 = v 64 r ∧ v (41 + 2 * r) 1 = 1) := by
  obtain ⟨hm, -⟩ := h r hr
  rcases hm with ⟨c1, c2⟩ | ⟨c1, c2, l, hl, c3⟩
  · exact Or.inl ⟨c1, by rw [c2]; decide⟩
  · exact Or.inr ⟨by rw [c1]; exact ml_n10, by rw [c3]; exact nI_pos (by omega), by rw [c3]; exact nI_pos' (by omega), c2.symm, c1⟩
theorem pz_copy : ∀ a0 a1 a2 a3 a4 : Int32, am_Pz rl_All (f_C_copy a0 a1 a2 a3 a4) (f_M_copy a0 a1 a2 a3 a4) := by
  intro x1 x2 x3 x4 x5 m h
  have hbad : (x1 < 0 ∨ nI 8 ≤ x1) → ∃ r m1 m2, f_C_copy x1 x2 x3 x4 x5 m = some (r, m1) ∧ f_M_copy x1 x2 x3 x4 x5 m1 = some (r, m2) ∧ rl_All m2 := by
    intro hx
    refine ⟨-1000001, m, m, ?_, ?_, h⟩
    · unfold f_C_copy; rw [ml_CR0 hx]; rfl
    · unfold f_M_copy; rw [ml_MR0 hx]; rfl
  rcases ml_ix x1 (n := 8) (by decide) with hx | hx | ⟨a, ha, rfl⟩
  · exact hbad (Or.inl hx)
  · exact hbad (Or.inr hx)
  have hbad : (x3 < 0 ∨ nI 8 ≤ x3) → ∃ r m1 m2, f_C_copy (nI a) x2 x3 x4 x5 m = some (r, m1) ∧ f_M_copy (nI a) x2 x3 x4 x5 m1 = some (r, m2) ∧ rl_All m2 := by
    intro hx
    refine ⟨-1000001, m, m, ?_, ?_, h⟩
    · unfold f_C_copy; rw [ml_CR1 ha, Option.bind_some, if_neg ml_n10, ml_CR0 hx]; rfl
    · unfold f_M_copy; rw [ml_MR1 ha, Option.bind_some, if_neg ml_n10, ml_MR0 hx]; rfl
  rcases ml_ix x3 (n := 8) (by decide) with hx | hx | ⟨b, hb, rfl⟩
  · exact hbad (Or.inl hx)
  · exact hbad (Or.inr hx)
  have ia : am_in (nI a) 8 = true := am_in_nI ha (by decide)
  have ib : am_in (nI b) 8 = true := am_in_nI hb (by decide)
  obtain ⟨-, ⟨la, hla, ea1, ea2⟩, hita⟩ := h.2.1 a ha
  obtain ⟨-, ⟨lb, hlb, eb1, eb2⟩, hitb⟩ := h.2.1 b hb
  -- both sides with their rows in range
  have o64 : ∀ (x : Int32) (k : Nat), (am_pI (am_pI m 0 12 x) 63 0 0).1 64 k = m.1 64 k := fun x k => by rw [ml_o _ _ (by omega), ml_o _ _ (by omega)]
  have o65 : ∀ (x : Int32) (k : Nat), (am_pI (am_pI m 0 12 x) 63 0 0).1 65 k = m.1 65 k := fun x k => by rw [ml_o _ _ (by omega), ml_o _ _ (by omega)]
  have fnd : ∀ x : Int32, rl_All (am_pI (am_pI (am_pI m 0 12 x) 63 0 0) 63 0 x) := fun x => by rw [ml_pp]; exact rl_All_stat h x
  rcases ml_made ha h.2.1 with ⟨ma1, ma2⟩ | ⟨ma1, ma2, ma3, ma4, ma5⟩
  · refine ⟨-1000010 - 1, am_pI m 0 12 1, _, ?_, ?_, fnd 1⟩
    · unfold f_C_copy; rw [ml_CR1 ha, Option.bind_some, if_neg ml_n10, ml_CR1 hb, Option.bind_some, if_neg ml_n10, if_pos ia, if_pos ib, ml_rw ha, if_pos ma1]; rfl
    · unfold f_M_copy; rw [ml_MR1 ha, Option.bind_some, if_neg ml_n10, ml_MR1 hb, Option.bind_some, if_neg ml_n10, if_pos ia, ml_cl (by omega), o64, if_pos ma2]; rfl
  rcases ml_made hb h.2.1 with ⟨mb1, mb2⟩ | ⟨mb1, mb2, mb3, mb4, mb5⟩
  · refine ⟨-1000010 - 1, am_pI m 0 12 1, _, ?_, ?_, fnd 1⟩
    · unfold f_C_copy; rw [ml_CR1 ha, Option.bind_some, if_neg ml_n10, ml_CR1 hb, Option.bind_some, if_neg ml_n10, if_pos ia, if_pos ib, ml_rw ha, if_neg ma1, ml_rw hb, if_pos mb1]; rfl
    · unfold f_M_copy; rw [ml_MR1 ha, Option.bind_some, if_neg ml_n10, ml_MR1 hb, Option.bind_some, if_neg ml_n10, if_pos ia, ml_cl (by omega), ml_cl (by omega), o64, o64, if_neg ma2, if_pos ib, if_neg (ml_nle_of_lt mb2)]; rfl
  have cC : f_C_copy (nI a) x2 (nI b) x4 x5 m = if m.1 64 a = m.1 64 b then (f_Row_holds (41 + 2 * a) x2 x5 m).bind (fun q19 => if q19.1 = (0 : Int32) then f_C_copy_b97 q19.2 else (f_Row_holds (41 + 2 * b) x4 x5 q19.2).bind fun q26 => if q26.1 = (0 : Int32) then f_C_copy_b97 q26.2 else if ¬ x2 < 0 ∧ ¬ x4 < 0 ∧ ¬ x5 < 0 ∧ x2.toNatClampNeg + x5.toNatClampNeg ≤ 40 ∧ x4.toNatClampNeg + x5.toNatClampNeg ≤ 40 then (f_C_fine x5 (am_pC q26.2 (41 + 2 * a + 1) x2.toNatClampNeg (41 + 2 * b + 1) x4.toNatClampNeg x5.toNatClampNeg)).bind fun q31 => some (q31.1, q31.2) else none) else (f_C_found (5 : Int32) m).bind fun q34 => some (q34.1, q34.2) := by
    unfold f_C_copy; rw [ml_CR1 ha, Option.bind_some, if_neg ml_n10, ml_CR1 hb, Option.bind_some, if_neg ml_n10, if_pos ia, if_pos ib, ml_rw ha, if_neg ma1, ml_rw hb, if_neg mb1, ma4, mb4]
  by_cases hlane : m.1 64 a = m.1 64 b
  rotate_left
  · refine ⟨-1000010 - 5, am_pI m 0 12 5, _, ?_, ?_, fnd 5⟩
    · rw [cC, if_neg hlane]; rfl
    · unfold f_M_copy; rw [ml_MR1 ha, Option.bind_some, if_neg ml_n10, ml_MR1 hb, Option.bind_some, if_neg ml_n10, if_pos ia, ml_cl (by omega), ml_cl (by omega), o64, o64, if_neg ma2, if_pos ib, if_pos mb3, if_pos ia, if_pos ib, if_neg hlane]; rfl
  rw [if_pos hlane] at cC
  have cM0 : ∀ m0 : am_Mm, m0.1 64 a = m.1 64 a → m0.1 64 b = m.1 64 b → m0.1 65 a = nI la → m0.1 65 b = nI lb → f_M_copy (nI a) x2 (nI b) x4 x5 m0 = if x2 < (0 : Int32) then f_M_copy_b116 (am_pI m0 63 0 0) else if x4 < (0 : Int32) then f_M_copy_b116 (am_pI m0 63 0 0) else if x5 < (0 : Int32) then f_M_copy_b116 (am_pI m0 63 0 0) else if (0 : Int32) < lg_cmp (x2.toInt64 + x5.toInt64) (nI la).toInt64 then f_M_copy_b116 (am_pI m0 63 0 0) else if lg_cmp (x4.toInt64 + x5.toInt64) (nI lb).toInt64 ≤ (0 : Int32) then (if x2 < x4 then f_M_copy_b133 (nI a) x2 (nI b) x4 x5 (0 : Int32) (am_pI m0 63 0 0) else f_M_copy_b133 (nI a) x2 (nI b) x4 x5 (1 : Int32) (am_pI m0 63 0 0)) else f_M_copy_b116 (am_pI m0 63 0 0) := by
    intro m0 y1 y2 y3 y4
    have z1 : (am_pI m0 63 0 0).1 64 a = m.1 64 a := by rw [ml_o _ _ (by omega)]; exact y1
    have z2 : (am_pI m0 63 0 0).1 64 b = m.1 64 b := by rw [ml_o _ _ (by omega)]; exact y2
    have z3 : (am_pI m0 63 0 0).1 65 a = nI la := by rw [ml_o _ _ (by omega)]; exact y3
    have z4 : (am_pI m0 63 0 0).1 65 b = nI lb := by rw [ml_o _ _ (by omega)]; exact y4
    unfold f_M_copy; rw [ml_MR1 ha, Option.bind_some, if_neg ml_n10, ml_MR1 hb, Option.bind_some, if_neg ml_n10, if_pos ia, ml_cl (by omega), ml_cl (by omega), z1, z2, if_neg ma2, if_pos ib, if_pos mb3, if_pos ia, if_pos ib, if_pos hlane, if_pos ia, if_pos ib, z3, z4]
  have cM : ∀ x : Int32, f_M_copy (nI a) x2 (nI b) x4 x5 (am_pI m 0 12 x) = if x2 < (0 : Int32) then f_M_copy_b116 (am_pI (am_pI m 0 12 x) 63 0 0) else if x4 < (0 : Int32) then f_M_copy_b116 (am_pI (am_pI m 0 12 x) 63 0 0) else if x5 < (0 : Int32) then f_M_copy_b116 (am_pI (am_pI m 0 12 x) 63 0 0) else if (0 : Int32) < lg_cmp (x2.toInt64 + x5.toInt64) (nI la).toInt64 then f_M_copy_b116 (am_pI (am_pI m 0 12 x) 63 0 0) else if lg_cmp (x4.toInt64 + x5.toInt64) (nI lb).toInt64 ≤ (0 : Int32) then (if x2 < x4 then f_M_copy_b133 (nI a) x2 (nI b) x4 x5 (0 : Int32) (am_pI (am_pI m 0 12 x) 63 0 0) else f_M_copy_b133 (nI a) x2 (nI b) x4 x5 (1 : Int32) (am_pI (am_pI m 0 12 x) 63 0 0)) else f_M_copy_b116 (am_pI (am_pI m 0 12 x) 63 0 0) := by
    intro x
    exact cM0 _ (by rw [ml_o _ _ (by omega)]) (by rw [ml_o _ _ (by omega)]) (by rw [ml_o _ _ (by omega)]; exact ea2) (by rw [ml_o _ _ (by omega)]; exact eb2)
  by_cases hok : 0 ≤ x2.toInt ∧ 0 ≤ x4.toInt ∧ 0 ≤ x5.toInt ∧ x2.toInt + x5.toInt ≤ (la : Int) ∧ x4.toInt + x5.toInt ≤ (lb : Int)
  rotate_left
  · refine ⟨-1000010 - 2, am_pI m 0 12 2, _, ?_, ?_, fnd 2⟩
    · rw [cC, ml_holds ea1 hla, Option.bind_some]
      by_cases q1 : 0 ≤ x2.toInt ∧ 0 ≤ x5.toInt ∧ x2.toInt + x5.toInt ≤ (la : Int)
      · rw [if_pos q1, if_neg ml_n10, ml_holds eb1 hlb, Option.bind_some, if_neg (show ¬ (0 ≤ x4.toInt ∧ 0 ≤ x5.toInt ∧ x4.toInt + x5.toInt ≤ (lb : Int)) from fun q2 => hok ⟨q1.1, q2.1, q1.2.1, q1.2.2, q2.2.2⟩)]; rfl
      · rw [if_neg q1]; rfl
    · rw [cM]
      by_cases q1 : x2 < 0
      · rw [if_pos q1]; rfl
      rw [if_neg q1]
      by_cases q2 : x4 < 0
      · rw [if_pos q2]; rfl
      rw [if_neg q2]
      by_cases q3 : x5 < 0
      · rw [if_pos q3]; rfl
      rw [if_neg q3]
      by_cases q4 : (0 : Int32) < lg_cmp (x2.toInt64 + x5.toInt64) (nI la).toInt64
      · rw [if_pos q4]; rfl
      rw [if_neg q4]
      rw [if_neg (fun q5 => hok ?_)]
      · rfl
      · rw [ml_lt0] at q1 q2 q3
        rw [ml_lgt, nI_toInt (by omega)] at q4
        rw [ml_lle, nI_toInt (by omega)] at q5
        exact ⟨by omega, by omega, by omega, by omega, q5⟩
  obtain ⟨k1, k2, k3, k4, k5⟩ := hok
  obtain ⟨i, hi, rfl⟩ : ∃ i : Nat, i ≤ 40 ∧ x2 = nI i := ⟨x2.toInt.toNat, by omega, ml_of_toInt (by omega) (by omega)⟩
  obtain ⟨j, hj, rfl⟩ : ∃ i : Nat, i ≤ 40 ∧ x4 = nI i := ⟨x4.toInt.toNat, by omega, ml_of_toInt (by omega) (by omega)⟩
  obtain ⟨n, hn, rfl⟩ : ∃ i : Nat, i ≤ 40 ∧ x5 = nI i := ⟨x5.toInt.toNat, by omega, ml_of_toInt (by omega) (by omega)⟩
  rw [nI_toInt (by omega)] at k1 k2 k3 k4 k5
  rw [nI_toInt (by omega)] at k4 k5
  have n0 : ∀ z : Nat, z ≤ 40 → ¬ nI z < 0 := fun z hz => nI_pos (by omega)
  refine ⟨nI n, am_pI (am_pC m (42 + 2 * a) i (42 + 2 * b) j n) 0 12 0, am_pC (am_pI (am_pI (am_pC m (42 + 2 * a) i (42 + 2 * b) j n) 0 12 0) 63 0 0) 66 (40 * a + i) 66 (40 * b + j) n, ?_, ?_, ?_⟩
  · rw [cC, ml_holds ea1 hla, Option.bind_some, nI_toInt (by omega), nI_toInt (by omega), if_pos (show (0 : Int) ≤ i ∧ (0 : Int) ≤ n ∧ (i : Int) + n ≤ la by omega), if_neg ml_n10, ml_holds eb1 hlb, Option.bind_some, nI_toInt (by omega), nI_toInt (by omega), if_pos (show (0 : Int) ≤ j ∧ (0 : Int) ≤ n ∧ (j : Int) + n ≤ lb by omega), if_neg ml_n10, ml_cl (by omega), ml_cl (by omega), ml_cl (by omega), if_pos ⟨n0 i hi, n0 j hj, n0 n hn, by omega, by omega⟩, show 41 + 2 * a + 1 = 42 + 2 * a by omega, show 41 + 2 * b + 1 = 42 + 2 * b by omega]
    rfl
  · have y : ∀ p k, (p = 64 ∨ p = 65 ∨ p = 66) → (am_pI (am_pC m (42 + 2 * a) i (42 + 2 * b) j n) 0 12 0).1 p k = m.1 p k := by
      intro p k hp
      rw [ml_o _ _ (by omega), ml_pC, if_neg (by omega)]
    rw [cM0 _ (y _ _ (by omega)) (y _ _ (by omega)) (by rw [y _ _ (by omega)]; exact ea2) (by rw [y _ _ (by omega)]; exact eb2), if_neg (n0 i hi), if_neg (n0 j hj), if_neg (n0 n hn), if_neg (by rw [ml_lgt, nI_toInt (by omega), nI_toInt (by omega), nI_toInt (by omega)]; omega), if_pos (by rw [ml_lle, nI_toInt (by omega), nI_toInt (by omega), nI_toInt (by omega)]; omega)]
    unfold f_M_copy_b133
    by_cases hij : i < j
    · rw [if_pos (nI_lt hij (by omega))]
      have := ml_cp_dn (i := i) (j := j) ha hb (am_pI (am_pI (am_pC m (42 + 2 * a) i (42 + 2 * b) j n) 0 12 0) 63 0 0) n (by omega) (by omega) hij n 0 am_F (by omega) (by show n < 5000; omega)
      rw [ml_pC0] at this
      exact this
    · rw [if_neg (nI_nlt (by omega) (by omega))]
      have := ml_cp_up (i := i) (j := j) ha hb (am_pI (am_pI (am_pC m (42 + 2 * a) i (42 + 2 * b) j n) 0 12 0) 63 0 0) n (by omega) (by omega) (by omega) n 0 am_F (by omega) (by show n < 5000; omega)
      rw [ml_pC0] at this
      exact this
  · have e : ∀ p k, (am_pC (am_pI (am_pI (am_pC m (42 + 2 * a) i (42 + 2 * b) j n) 0 12 0) 63 0 0) 66 (40 * a + i) 66 (40 * b + j) n).1 p k = if p = 66 ∧ 40 * b + j ≤ k ∧ k < 40 * b + j + n then m.1 66 (40 * a + i + (k - (40 * b + j))) else if p = 63 ∧ k = 0 then 0 else if p = 0 ∧ k = 12 then 0 else if p = 42 + 2 * b ∧ j ≤ k ∧ k < j + n then m.1 (42 + 2 * a) (i + (k - j)) else m.1 p k := by
      intro p k
      simp only [ml_pC, ml_rd]
      rw [if_neg (show ¬ ((66 : Nat) = 63 ∧ 40 * a + i + (k - (40 * b + j)) = 0) by omega), if_neg (show ¬ ((66 : Nat) = 0 ∧ 40 * a + i + (k - (40 * b + j)) = 12) by omega), if_neg (show ¬ ((66 : Nat) = 42 + 2 * b ∧ j ≤ 40 * a + i + (k - (40 * b + j)) ∧ 40 * a + i + (k - (40 * b + j)) < j + n) by omega)]
    refine rl_All_rows h ?_ (rl_Rows_one (r := b) h.2.1 ?_ (fun q hq hqr p k hp => ?_)) (fun p k hp => ?_)
    · unfold rl_Stat
      rw [e, e, if_neg (by omega), if_neg (by omega), if_pos ⟨rfl, rfl⟩, if_neg (by omega), if_pos ⟨rfl, rfl⟩]
    · obtain ⟨r1, r2, r3⟩ := h.2.1 b hb
      have o : ∀ p k, (p = 41 + 2 * b ∨ p = 64 ∨ p = 65) → (am_pC (am_pI (am_pI (am_pC m (42 + 2 * a) i (42 + 2 * b) j n) 0 12 0) 63 0 0) 66 (40 * a + i) 66 (40 * b + j) n).1 p k = m.1 p k := by
        intro p k hp
        rw [e, if_neg (by omega), if_neg (by omega), if_neg (by omega), if_neg (by omega)]
      unfold rl_Row
      rw [o _ _ (by omega), o _ _ (by omega), o _ _ (by omega), o _ _ (by omega), o _ _ (by omega)]
      refine ⟨r1, r2, fun k hk => ?_⟩
      rw [e, e]
      by_cases hkj : j ≤ k ∧ k < j + n
      · rw [if_neg (by omega), if_neg (by omega), if_neg (by omega), if_pos ⟨rfl, hkj.1, hkj.2⟩, if_pos ⟨rfl, by omega, by omega⟩, hita (i + (k - j)) (by omega), show 40 * a + (i + (k - j)) = 40 * a + i + (40 * b + k - (40 * b + j)) by omega]
      · rw [if_neg (by omega), if_neg (by omega), if_neg (by omega), if_neg (by omega), if_neg (by omega), if_neg (by omega), if_neg (by omega), if_neg (by omega)]
        exact r3 k hk
    · simp only [rl_RowF] at hp
      rw [e, if_neg (by omega), if_neg (by omega), if_neg (by omega), if_neg (by omega)]
    · simp only [rl_NotRow, rl_TapeF, rl_AskF, rl_PolyF, rl_ImgF] at hp
      rw [e, if_neg (by omega), if_neg (by omega), if_neg (by omega), if_neg (by omega)]
