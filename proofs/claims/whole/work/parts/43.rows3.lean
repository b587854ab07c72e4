/-! ===== rows: frames, zeros, what a row holds; row, set ===== -/
def rl_Row (v : rl_V) (r : Nat) : Prop :=
  (v (41 + 2 * r) 1 = 0 ∧ v 64 r = -1 ∨ v (41 + 2 * r) 1 = 1 ∧ v 64 r = v (41 + 2 * r) 2 ∧ ∃ l, l < 3 ∧ v 64 r = nI l) ∧
  (∃ l, l ≤ 40 ∧ v (41 + 2 * r) 3 = nI l ∧ v 65 r = nI l) ∧ ∀ k, k < 40 → v (42 + 2 * r) k = v 66 (40 * r + k)
/-- the others' cells stay -/
def rl_RowF (r p k : Nat) : Prop := p = 41 + 2 * r ∨ p = 42 + 2 * r ∨ (p = 64 ∧ k = r) ∨ (p = 65 ∧ k = r) ∨ (p = 66 ∧ 40 * r ≤ k ∧ k < 40 * r + 40)
theorem rl_Row_c {v w : rl_V} {r : Nat} (e : ∀ p k, rl_RowF r p k → w p k = v p k) (h : rl_Row v r) : rl_Row w r := by
  have a : ∀ k, w (41 + 2 * r) k = v (41 + 2 * r) k := fun k => e _ _ (Or.inl rfl)
  have b : ∀ k, w (42 + 2 * r) k = v (42 + 2 * r) k := fun k => e _ _ (Or.inr (Or.inl rfl))
  have c : w 64 r = v 64 r := e _ _ (Or.inr (Or.inr (Or.inl ⟨rfl, rfl⟩)))
  have d : w 65 r = v 65 r := e _ _ (Or.inr (Or.inr (Or.inr (Or.inl ⟨rfl, rfl⟩))))
  have f : ∀ k, k < 40 → w 66 (40 * r + k) = v 66 (40 * r + k) := fun k hk => e _ _ (Or.inr (Or.inr (Or.inr (Or.inr ⟨rfl, by omega, by omega⟩))))
  unfold rl_Row at *
  simp only [a, b, c, d]
  exact ⟨h.1, h.2.1, fun k hk => by rw [f k hk]; exact h.2.2 k hk⟩
theorem rl_Rows_one {v w : rl_V} {r : Nat} (h : rl_Rows v) (h1 : rl_Row w r) (e : ∀ q, q < 8 → q ≠ r → ∀ p k, rl_RowF q p k → w p k = v p k) : rl_Rows w := by
  intro q hq
  by_cases hqr : q = r
  · subst hqr; exact h1
  · exact rl_Row_c (e q hq hqr) (h q hq)
/-- what rows and the status don't touch -/
def rl_NotRow (p k : Nat) : Prop := rl_TapeF p k ∨ rl_AskF p k ∨ rl_PolyF p k ∨ rl_ImgF p k
theorem rl_All_rows {m m' : am_Mm} (h : rl_All m) (hs : rl_Stat m'.1) (hr : rl_Rows m'.1) (e : ∀ p k, rl_NotRow p k → m'.1 p k = m.1 p k) : rl_All m' :=
  ⟨hs, hr, rl_Tape_c (fun p k q => e p k (Or.inl q)) h.2.2.1, rl_Ask_c (fun p k q => e p k (Or.inr (Or.inl q))) h.2.2.2.1, rl_Poly_c (fun p k q => e p k (Or.inr (Or.inr (Or.inl q)))) h.2.2.2.2.1, rl_Img_c (fun p k q => e p k (Or.inr (Or.inr (Or.inr q)))) h.2.2.2.2.2⟩
/-- the status alone -/
theorem rl_All_stat {m : am_Mm} (h : rl_All m) (x : Int32) : rl_All (am_pI (am_pI m 0 12 x) 63 0 x) := by
  refine rl_All_rows h ?_ (rl_Rows_c (fun p k q => ?_) h.2.1) (fun p k q => ?_)
  · unfold rl_Stat; rw [ml_s, ml_o _ _ (by omega), ml_s]
  · simp only [rl_RowsF] at q; rw [ml_o _ _ (by omega), ml_o _ _ (by omega)]
  · simp only [rl_NotRow, rl_TapeF, rl_AskF, rl_PolyF, rl_ImgF] at q; rw [ml_o _ _ (by omega), ml_o _ _ (by omega)]
theorem ml_pp (m : am_Mm) (p k : Nat) (x y : Int32) : am_pI (am_pI m p k x) p k y = am_pI m p k y := by
  refine Prod.ext ?_ rfl
  funext q j
  simp only [ml_rd]
  by_cases h : q = p ∧ j = k
  · rw [if_pos h, if_pos h]
  · rw [if_neg h, if_neg h, if_neg h]
/-- a stretch of noughts -/
def am_zf (m : am_Mm) (p o i : Nat) : am_Mm := (va_up m.1 p (fun k => if o ≤ k ∧ k < o + i then 0 else m.1 p k), m.2)
theorem ml_zf (m : am_Mm) (p o i q j : Nat) : (am_zf m p o i).1 q j = if q = p ∧ o ≤ j ∧ j < o + i then 0 else m.1 q j := by
  unfold am_zf va_up
  by_cases h1 : q = p
  · subst h1; simp
  · simp [h1]
theorem am_zf_s (m : am_Mm) (p o i : Nat) : am_zf (am_pI m p o 0) p (o + 1) i = am_zf m p o (i + 1) := by
  refine Prod.ext ?_ rfl
  funext q j
  rw [ml_zf, ml_zf, ml_rd]
  by_cases h1 : q = p
  · by_cases h2 : o + 1 ≤ j ∧ j < o + 1 + i
    · rw [if_pos ⟨h1, h2⟩, if_pos ⟨h1, by omega, by omega⟩]
    · rw [if_neg (fun z => h2 z.2)]
      by_cases h3 : j = o
      · rw [if_pos ⟨h1, h3⟩, if_pos ⟨h1, by omega, by omega⟩]
      · rw [if_neg (fun z => h3 z.2), if_neg (fun z => by omega)]
  · rw [if_neg (fun z => h1 z.1), if_neg (fun z => h1 z.1), if_neg (fun z => h1 z.1)]
theorem am_zf_0 (m : am_Mm) (p o : Nat) : am_zf m p o 0 = m := by
  refine Prod.ext ?_ rfl
  funext q j
  rw [ml_zf, if_neg (by omega)]
theorem ml_40 {r j : Nat} : ((40 : Int32) * nI r) + nI j = nI (40 * r + j) := by
  rw [show (40 : Int32) = nI 40 from rfl, pk_mul, nI_add]
theorem ml_row_lp {r : Nat} (hr : r < 8) (x3 : Int32) : ∀ (i j n : Nat) (m : am_Mm), j + i = 40 → i < n → f_M_row_b60 n (nI r) x3 (nI j) m = some (x3, am_zf m 66 (40 * r + j) i) := by
  intro i
  induction i with
  | zero =>
    intro j n m hj hn
    obtain ⟨n, rfl⟩ : ∃ z, n = z + 1 := ⟨n - 1, by omega⟩
    have hj : j = 40 := by omega
    subst hj
    rw [f_M_row_b60, if_pos (show (40 : Int32) ≤ nI 40 from nI_le (Nat.le_refl 40) (by decide)), am_zf_0]
  | succ i ih =>
    intro j n m hj hn
    obtain ⟨n, rfl⟩ : ∃ z, n = z + 1 := ⟨n - 1, by omega⟩
    rw [f_M_row_b60, if_neg (show ¬ (40 : Int32) ≤ nI j from nI_ge (a := j) (b := 40) (by omega) (by decide)), ml_40, if_pos (am_in_nI (by omega) (by decide)), ml_cl (by omega), nI_1, ih (j + 1) n _ (by omega) (by omega), show 40 * r + (j + 1) = 40 * r + j + 1 by omega, am_zf_s]
theorem pz_row : ∀ a0 a1 a2 : Int32, am_Pz rl_All (f_C_row a0 a1 a2) (f_M_row a0 a1 a2) := by
  intro x1 x2 x3 m h
  have hbad : (x1 < 0 ∨ nI 8 ≤ x1) → ∃ r m1 m2, f_C_row x1 x2 x3 m = some (r, m1) ∧ f_M_row x1 x2 x3 m1 = some (r, m2) ∧ rl_All m2 := by
    intro hx
    refine ⟨-1000001, m, m, ?_, ?_, h⟩
    · unfold f_C_row; rw [ml_CR0 hx]; rfl
    · unfold f_M_row; rw [ml_MR0 hx]; rfl
  rcases ml_ix x1 (n := 8) (by decide) with hx | hx | ⟨r, hr, rfl⟩
  · exact hbad (Or.inl hx)
  · exact hbad (Or.inr hx)
  · have hi : am_in (nI r) 8 = true := am_in_nI hr (by decide)
    rcases ml_ix x2 (n := 3) (by decide) with hy | hy | ⟨l, hl, rfl⟩
    · refine ⟨-1000001, m, m, ?_, ?_, h⟩
      · unfold f_C_row; rw [ml_CR1 hr, Option.bind_some, if_neg ml_n10, if_pos hy]
      · unfold f_M_row; rw [ml_MR1 hr, Option.bind_some, if_neg ml_n10, ml_in0 0 2 0 2 rfl rfl (fun q => ml_neg_nle hy q.1)]; rfl
    · refine ⟨-1000001, m, m, ?_, ?_, h⟩
      · unfold f_C_row; rw [ml_CR1 hr, Option.bind_some, if_neg ml_n10, if_neg (ml_ge_nlt0 (by decide) hy), if_pos (show (3 : Int32) ≤ x2 from hy)]
      · unfold f_M_row; rw [ml_MR1 hr, Option.bind_some, if_neg ml_n10, ml_in0 0 2 0 2 rfl rfl (fun q => by
          have h2 := q.2
          rw [Int32.le_iff_toInt_le] at hy h2
          rw [nI_toInt (by decide)] at hy
          have : (2 : Int32).toInt = 2 := rfl
          omega)]; rfl
    · have cC : f_C_row (nI r) (nI l) x3 m = if x3 ≤ (40 : Int32) then (if (0 : Int32) ≤ x3 then (if am_in (nI r) 8 = true then (f_Row_make (am_rw (nI r)) (nI l) x3 m).bind fun q12 => (f_C_fine x3 q12).bind fun q15 => some (q15.1, q15.2) else none) else (f_C_found (4 : Int32) m).bind fun q18 => some (q18.1, q18.2)) else some (-1000001, m) := by
        unfold f_C_row; rw [ml_CR1 hr, Option.bind_some, if_neg ml_n10, if_neg (nI_pos (by omega)), if_neg (show ¬ (3 : Int32) ≤ nI l from nI_ge hl (by decide))]
      have cM : ∀ m : am_Mm, f_M_row (nI r) (nI l) x3 m = if x3 ≤ (40 : Int32) then (if (0 : Int32) ≤ x3 then (if am_in (nI r) 8 = true then (if am_in (nI r) 8 = true then f_M_row_b60 am_F (nI r) x3 (0 : Int32) (am_pI (am_pI (am_pI m 63 0 (0 : Int32)) 64 (nI r).toNatClampNeg (nI l)) 65 (nI r).toNatClampNeg x3) else none) else none) else (f_M_finding (4 : Int32) (am_pI m 63 0 (0 : Int32))).bind fun q17 => some (q17.1, q17.2)) else some (-1000001, m) := by
        intro m
        unfold f_M_row; rw [ml_MR1 hr, Option.bind_some, if_neg ml_n10, ml_in1 0 2 0 2 rfl rfl ⟨nI_pos' (by omega), show nI l ≤ (2 : Int32) from nI_le (show l ≤ 2 by omega) (by decide)⟩, Option.bind_some, if_neg ml_n10]
      by_cases h40 : x3 ≤ (40 : Int32)
      · by_cases h0 : (0 : Int32) ≤ x3
        · obtain ⟨n, hn, rfl⟩ := nI_of2 (M := 40) (n := 40) rfl (fun q => ml_neg_nle q h0) h40
          let m1 : am_Mm := am_pI (am_pI (am_pI (am_pI (am_fl m (41 + 2 * r + 1) 40 0) (41 + 2 * r) 1 1) (41 + 2 * r) 2 (nI l)) (41 + 2 * r) 3 (nI n)) 0 12 0
          let m2 : am_Mm := am_zf (am_pI (am_pI (am_pI m1 63 0 0) 64 r (nI l)) 65 r (nI n)) 66 (40 * r) 40
          refine ⟨nI n, m1, m2, ?_, ?_, ?_⟩
          · rw [cC, if_pos h40, if_pos h0, if_pos hi, ml_rw hr]; rfl
          · rw [cM, if_pos h40, if_pos h0, if_pos hi, if_pos hi, ml_cl (by omega)]
            exact ml_row_lp hr (nI n) 40 0 am_F _ (by omega) (by show 40 < 5000; omega)
          · have e : ∀ p k, m2.1 p k = if p = 66 ∧ 40 * r ≤ k ∧ k < 40 * r + 40 then 0 else if p = 65 ∧ k = r then nI n else if p = 64 ∧ k = r then nI l else if p = 63 ∧ k = 0 then 0 else if p = 0 ∧ k = 12 then 0 else if p = 41 + 2 * r ∧ k = 3 then nI n else if p = 41 + 2 * r ∧ k = 2 then nI l else if p = 41 + 2 * r ∧ k = 1 then 1 else if p = 41 + 2 * r + 1 ∧ k < 40 then 0 else m.1 p k := by
              intro p k
              simp only [m2, m1, ml_zf, ml_rd, ml_fl]
            refine rl_All_rows h ?_ (rl_Rows_one (r := r) h.2.1 ?_ (fun q hq hqr p k hp => ?_)) (fun p k hp => ?_)
            · unfold rl_Stat
              rw [e, e]
              rw [if_neg (by omega), if_neg (by omega), if_neg (by omega), if_neg (by omega), if_pos ⟨rfl, rfl⟩, if_neg (by omega), if_neg (by omega), if_neg (by omega), if_pos ⟨rfl, rfl⟩]
            · refine ⟨Or.inr ⟨?_, ?_, l, hl, ?_⟩, ⟨n, hn, ?_, ?_⟩, fun k hk => ?_⟩
              · rw [e, if_neg (by omega), if_neg (by omega), if_neg (by omega), if_neg (by omega), if_neg (by omega), if_neg (by omega), if_neg (by omega), if_pos ⟨rfl, rfl⟩]
              · rw [e, e, if_neg (by omega), if_neg (by omega), if_pos ⟨rfl, rfl⟩, if_neg (by omega), if_neg (by omega), if_neg (by omega), if_neg (by omega), if_neg (by omega), if_neg (by omega), if_pos ⟨rfl, rfl⟩]
              · rw [e, if_neg (by omega), if_neg (by omega), if_pos ⟨rfl, rfl⟩]
              · rw [e, if_neg (by omega), if_neg (by omega), if_neg (by omega), if_neg (by omega), if_neg (by omega), if_pos ⟨rfl, rfl⟩]
              · rw [e, if_neg (by omega), if_pos ⟨rfl, rfl⟩]
              · rw [e, e, if_neg (by omega), if_neg (by omega), if_neg (by omega), if_neg (by omega), if_neg (by omega), if_neg (by omega), if_neg (by omega), if_neg (by omega), if_pos ⟨by omega, hk⟩, if_pos ⟨rfl, by omega, by omega⟩]
            · simp only [rl_RowF] at hp
              rw [e, if_neg (by omega), if_neg (by omega), if_neg (by omega), if_neg (by omega), if_neg (by omega), if_neg (by omega), if_neg (by omega), if_neg (by omega), if_neg (by omega)]
            · simp only [rl_NotRow, rl_TapeF, rl_AskF, rl_PolyF, rl_ImgF] at hp
              rw [e, if_neg (by omega), if_neg (by omega), if_neg (by omega), if_neg (by omega), if_neg (by omega), if_neg (by omega), if_neg (by omega), if_neg (by omega), if_neg (by omega)]
        · refine ⟨-1000010 - 4, am_pI m 0 12 4, am_pI (am_pI (am_pI m 0 12 4) 63 0 0) 63 0 4, ?_, ?_, ?_⟩
          · rw [cC, if_pos h40, if_neg h0]; rfl
          · rw [cM, if_pos h40, if_neg h0]; rfl
          · rw [ml_pp]; exact rl_All_stat h 4
      · exact ⟨-1000001, m, m, by rw [cC, if_neg h40], by rw [cM, if_neg h40], h⟩
