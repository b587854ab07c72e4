/-! ===== class and model in one memory: what stands alike ===== -/
theorem ml_rd (m : am_Mm) (p k : Nat) (x : Int32) (q j : Nat) : (am_pI m p k x).1 q j = if q = p ∧ j = k then x else m.1 q j := by
  unfold am_pI va_up upd
  by_cases h1 : q = p
  · subst h1
    by_cases h2 : j = k
    · subst h2; simp
    · simp [h2]
  · simp [h1]
theorem ml_s (m : am_Mm) (p k : Nat) (x : Int32) : (am_pI m p k x).1 p k = x := by rw [ml_rd]; simp
theorem ml_o (m : am_Mm) {p k : Nat} (x : Int32) {q j : Nat} (h : ¬ (q = p ∧ j = k)) : (am_pI m p k x).1 q j = m.1 q j := by rw [ml_rd, if_neg h]
theorem ml_fl (m : am_Mm) (p n : Nat) (x : Int32) (q j : Nat) : (am_fl m p n x).1 q j = if q = p ∧ j < n then x else m.1 q j := by
  unfold am_fl va_up
  by_cases h1 : q = p
  · subst h1; simp
  · simp [h1]
/-- what is written lies off what is spoken of -/
theorem ml_off {FP : Nat → Nat → Prop} {m : am_Mm} {p k : Nat} {x : Int32} (h : ¬ FP p k) : ∀ q j, FP q j → (am_pI m p k x).1 q j = m.1 q j := by
  intro q j hq
  rw [ml_rd, if_neg]
  rintro ⟨rfl, rfl⟩
  exact h hq
theorem ml_offl {FP : Nat → Nat → Prop} {m : am_Mm} {p n : Nat} {x : Int32} (h : ∀ k, ¬ FP p k) : ∀ q j, FP q j → (am_fl m p n x).1 q j = m.1 q j := by
  intro q j hq
  rw [ml_fl, if_neg]
  rintro ⟨rfl, -⟩
  exact h _ hq
/-! numbers -/
theorem ml_ix (x : Int32) {n : Nat} (hn : n < 2 ^ 31) : x < 0 ∨ nI n ≤ x ∨ ∃ k : Nat, k < n ∧ x = nI k := pk_ix x hn
theorem ml_cl {k : Nat} (h : k < 2 ^ 31) : (nI k).toNatClampNeg = k := nI_clamp h
theorem ml_M_in (m : am_Mm) (x lo hi : Int32) {l h : Int64} (hl : l = lo.toInt64) (hh : h = hi.toInt64) : f_M_in x.toInt64 l h m = some ((if lo ≤ x ∧ x ≤ hi then 1 else 0), m) := by
  subst hl; subst hh
  unfold f_M_in
  have e1 : (lg_cmp x.toInt64 lo.toInt64 < 0) ↔ ¬ (lo ≤ x) := by
    rw [lg_cmp_lt, Int64.lt_iff_toInt_lt, Int32.toInt_toInt64, Int32.toInt_toInt64, Int32.le_iff_toInt_le]; omega
  have e2 : (0 < lg_cmp x.toInt64 hi.toInt64) ↔ ¬ (x ≤ hi) := by
    rw [lg_cmp_gt, Int64.lt_iff_toInt_lt, Int32.toInt_toInt64, Int32.toInt_toInt64, Int32.le_iff_toInt_le]; omega
  by_cases h1 : lo ≤ x
  · rw [if_neg (by rw [e1]; exact fun q => q h1)]
    by_cases h2 : x ≤ hi
    · rw [if_neg (by rw [e2]; exact fun q => q h2), if_pos ⟨h1, h2⟩]
    · rw [if_pos (by rw [e2]; exact h2), if_neg (fun q => h2 q.2)]
  · rw [if_pos (by rw [e1]; exact h1), if_neg (fun q => h1 q.1)]
theorem ml_lit {n : Nat} : (OfNat.ofNat n : Int32) = nI n := rfl
/-! the cuts of n corners -/
def cu_L (n : Nat) : List (Nat × Nat) := (List.range n).flatMap fun a => ((List.range n).filter fun b => decide (a + 2 ≤ b) && !(a == 0 && b == n - 1)).map fun b => (a, b)
def cu_N (n : Nat) : Nat := (cu_L n).length
def cu_a (n i : Nat) : Nat := ((cu_L n).getD i (0, 0)).1
def cu_b (n i : Nat) : Nat := ((cu_L n).getD i (0, 0)).2
def cu_x (n i j : Nat) : Bool := (decide (cu_a n i < cu_a n j) && decide (cu_a n j < cu_b n i) && decide (cu_b n i < cu_b n j)) || (decide (cu_a n j < cu_a n i) && decide (cu_a n i < cu_b n j) && decide (cu_b n j < cu_b n i))
def cu_bits (n : Nat) (f : Nat → Bool) : Nat := (List.range n).foldl (fun s i => if f i then s + 2 ^ i else s) 0
def cu_acr (n i : Nat) : Nat := cu_bits (cu_N n) (cu_x n i)
def cu_tch (n c : Nat) : Nat := cu_bits (cu_N n) fun i => cu_a n i == c || cu_b n i == c
/-- cuts (bits) that don't cross -/
def cu_V (n cu : Nat) : Prop := cu < 2 ^ cu_N n ∧ ∀ i j, i < cu_N n → j < cu_N n → cu.testBit i = true → cu.testBit j = true → cu_x n i j = false
/-! the relation, by parts; each with its footprint -/
abbrev rl_V : Type := Nat → Nat → Int32
def rl_Stat (v : rl_V) : Prop := v 0 12 = v 63 0
def rl_StatF (p k : Nat) : Prop := (p = 0 ∧ k = 12) ∨ (p = 63 ∧ k = 0)
def rl_Rows (v : rl_V) : Prop := ∀ r, r < 8 →
  (v (41 + 2 * r) 1 = 0 ∧ v 64 r = -1 ∨ v (41 + 2 * r) 1 = 1 ∧ v 64 r = v (41 + 2 * r) 2 ∧ ∃ l, l < 3 ∧ v 64 r = nI l) ∧
  (∃ l, l ≤ 40 ∧ v (41 + 2 * r) 3 = nI l ∧ v 65 r = nI l) ∧ ∀ k, k < 40 → v (42 + 2 * r) k = v 66 (40 * r + k)
def rl_RowsF (p k : Nat) : Prop := (41 ≤ p ∧ p ≤ 56) ∨ p = 64 ∨ p = 65 ∨ p = 66
def rl_Tape (v : rl_V) : Prop := v 2 4 = v 63 17 ∧ ∃ l, l ≤ 120 ∧ v 2 3 = nI l ∧ v 63 10 = nI l ∧ ∀ k, k < l → v 12 k = v 71 k ∧ ∃ z, z < 256 ∧ v 12 k = nI z
def rl_TapeF (p k : Nat) : Prop := (p = 2 ∧ (k = 3 ∨ k = 4)) ∨ p = 12 ∨ p = 71 ∨ (p = 63 ∧ (k = 10 ∨ k = 17))
def rl_Ask (v : rl_V) : Prop := ∃ l, l ≤ 16 ∧ v 38 1 = nI l ∧ v 63 25 = nI l ∧ ∀ k, k < l → v 39 k = v 77 k
def rl_AskF (p k : Nat) : Prop := (p = 38 ∧ k = 1) ∨ p = 39 ∨ p = 77 ∨ (p = 63 ∧ k = 25)
/-- a figure of the class at p: corners, cuts, kinds, numbers -/
def rl_Fig (v : rl_V) (p n cu : Nat) (kd ow : Nat → Nat) : Prop := v p 2 = nI n ∧ v p 3 = nI cu ∧ ∀ c, c < n → v (p + 1) c = nI (kd c) ∧ v (p + 2) c = nI (ow c)
/-- a polygon in one row of the model: at p from o on -/
def rl_Pol (v : rl_V) (p o n cu : Nat) (kd ow : Nat → Nat) : Prop := v p o = nI n ∧ v p (o + 1) = nI cu ∧ ∀ c, c < n → v p (o + 2 + 2 * c) = nI (kd c) ∧ v p (o + 3 + 2 * c) = nI (ow c)
/-- what a polygon is -/
def rl_OK (n cu : Nat) (kd ow : Nat → Nat) : Prop := 4 ≤ n ∧ n ≤ 9 ∧ cu_V n cu ∧ ∀ c, c < n → 1 ≤ kd c ∧ kd c ≤ 5 ∧ ow c ≤ 9
/-- the tables of a ring at p for n corners -/
def rl_Ring (v : rl_V) (p n : Nat) : Prop := v p 5 = nI n ∧ v p 6 = nI (cu_N n) ∧ (∀ i, i < cu_N n → v (p + 1) i = nI (cu_a n i) ∧ v (p + 2) i = nI (cu_b n i) ∧ v (p + 3) i = nI (cu_acr n i)) ∧ ∀ c, c < n → v (p + 4) c = nI (cu_tch n c)
/-- what act i changed: from level i to level i + 1 -/
def rl_Act (v : rl_V) (i n : Nat) (c0 c1 : Nat) (k0 k1 o0 o1 : Nat → Nat) : Prop :=
  (v 27 i = 0 ∧ v 29 i = nI c0 ∧ (∀ c, c < n → k1 c = k0 c ∧ o1 c = o0 c)) ∨
  (∃ d, d < n ∧ v 28 i = nI d ∧ c1 = c0 ∧ ((v 27 i = 1 ∧ v 29 i = nI (k0 d) ∧ (∀ c, c < n → c ≠ d → k1 c = k0 c) ∧ ∀ c, c < n → o1 c = o0 c) ∨
    (v 27 i = 2 ∧ v 29 i = nI (o0 d) ∧ (∀ c, c < n → c ≠ d → o1 c = o0 c) ∧ ∀ c, c < n → k1 c = k0 c)))
/-- the polygon and its acts: level a is what is there, level i < a what was kept -/
def rl_Poly (v : rl_V) : Prop := (v 13 2 = 0 ∧ v 13 3 = 0 ∧ v 67 0 = 0 ∧ v 67 1 = 0 ∧ v 20 5 = 0 ∧ v 20 6 = 0 ∧ v 26 3 = 0 ∧ v 63 8 = 0) ∨
  ∃ (n a : Nat) (cu : Nat → Nat) (kd ow : Nat → Nat → Nat), a ≤ 24 ∧ v 26 3 = nI a ∧ v 63 8 = nI a ∧ rl_Ring v 20 n ∧ rl_Fig v 13 n (cu a) (kd a) (ow a) ∧ rl_Pol v 67 0 n (cu a) (kd a) (ow a) ∧
    (∀ i, i ≤ a → rl_OK n (cu i) (kd i) (ow i)) ∧ ∀ i, i < a → rl_Pol v 70 (20 * i) n (cu i) (kd i) (ow i) ∧ rl_Act v i n (cu i) (cu (i + 1)) (kd i) (kd (i + 1)) (ow i) (ow (i + 1))
def rl_PolyF (p k : Nat) : Prop := (13 ≤ p ∧ p ≤ 15) ∨ (20 ≤ p ∧ p ≤ 24) ∨ (26 ≤ p ∧ p ≤ 29) ∨ p = 67 ∨ p = 70 ∨ (p = 63 ∧ k = 8)
/-- the images -/
def rl_Img (v : rl_V) : Prop := ∀ j, j < 2 → (v (57 + 3 * j) 2 = 0 ∧ v 75 j = 0) ∨
  (v 75 j = 1 ∧ ∃ (n cu : Nat) (kd ow : Nat → Nat), rl_OK n cu kd ow ∧ rl_Fig v (57 + 3 * j) n cu kd ow ∧ rl_Pol v 76 (20 * j) n cu kd ow)
def rl_ImgF (p k : Nat) : Prop := (57 ≤ p ∧ p ≤ 62) ∨ p = 75 ∨ p = 76
/-- ALL OF IT -/
def rl_All (m : am_Mm) : Prop := rl_Stat m.1 ∧ rl_Rows m.1 ∧ rl_Tape m.1 ∧ rl_Ask m.1 ∧ rl_Poly m.1 ∧ rl_Img m.1
theorem rl_Stat_c {v w : rl_V} (e : ∀ p k, rl_StatF p k → w p k = v p k) (h : rl_Stat v) : rl_Stat w := by
  unfold rl_Stat at *
  rw [e 0 12 (Or.inl ⟨rfl, rfl⟩), e 63 0 (Or.inr ⟨rfl, rfl⟩)]
  exact h
theorem rl_Rows_c {v w : rl_V} (e : ∀ p k, rl_RowsF p k → w p k = v p k) (h : rl_Rows v) : rl_Rows w := by
  intro r hr
  have h1 := h r hr
  have a : ∀ k, w (41 + 2 * r) k = v (41 + 2 * r) k := fun k => e _ _ (Or.inl ⟨by omega, by omega⟩)
  have b : ∀ k, w (42 + 2 * r) k = v (42 + 2 * r) k := fun k => e _ _ (Or.inl ⟨by omega, by omega⟩)
  have c : ∀ k, w 64 k = v 64 k := fun k => e _ _ (Or.inr (Or.inl rfl))
  have d : ∀ k, w 65 k = v 65 k := fun k => e _ _ (Or.inr (Or.inr (Or.inl rfl)))
  have f : ∀ k, w 66 k = v 66 k := fun k => e _ _ (Or.inr (Or.inr (Or.inr rfl)))
  simp only [a, b, c, d, f]
  exact h1
theorem rl_Tape_c {v w : rl_V} (e : ∀ p k, rl_TapeF p k → w p k = v p k) (h : rl_Tape v) : rl_Tape w := by
  unfold rl_Tape at *
  have a : w 2 3 = v 2 3 := e _ _ (Or.inl ⟨rfl, Or.inl rfl⟩)
  have b : w 2 4 = v 2 4 := e _ _ (Or.inl ⟨rfl, Or.inr rfl⟩)
  have c : ∀ k, w 12 k = v 12 k := fun k => e _ _ (Or.inr (Or.inl rfl))
  have d : ∀ k, w 71 k = v 71 k := fun k => e _ _ (Or.inr (Or.inr (Or.inl rfl)))
  have f : w 63 10 = v 63 10 := e _ _ (Or.inr (Or.inr (Or.inr ⟨rfl, Or.inl rfl⟩)))
  have g : w 63 17 = v 63 17 := e _ _ (Or.inr (Or.inr (Or.inr ⟨rfl, Or.inr rfl⟩)))
  simp only [a, b, c, d, f, g]
  exact h
theorem rl_Ask_c {v w : rl_V} (e : ∀ p k, rl_AskF p k → w p k = v p k) (h : rl_Ask v) : rl_Ask w := by
  unfold rl_Ask at *
  have a : w 38 1 = v 38 1 := e _ _ (Or.inl ⟨rfl, rfl⟩)
  have c : ∀ k, w 39 k = v 39 k := fun k => e _ _ (Or.inr (Or.inl rfl))
  have d : ∀ k, w 77 k = v 77 k := fun k => e _ _ (Or.inr (Or.inr (Or.inl rfl)))
  have f : w 63 25 = v 63 25 := e _ _ (Or.inr (Or.inr (Or.inr ⟨rfl, rfl⟩)))
  simp only [a, c, d, f]
  exact h
theorem rl_Poly_c {v w : rl_V} (e : ∀ p k, rl_PolyF p k → w p k = v p k) (h : rl_Poly v) : rl_Poly w := by
  have a : ∀ k, w 13 k = v 13 k := fun k => e _ _ (Or.inl ⟨by omega, by omega⟩)
  have b : ∀ k, w 14 k = v 14 k := fun k => e _ _ (Or.inl ⟨by omega, by omega⟩)
  have c : ∀ k, w 15 k = v 15 k := fun k => e _ _ (Or.inl ⟨by omega, by omega⟩)
  have d0 : ∀ k, w 20 k = v 20 k := fun k => e _ _ (Or.inr (Or.inl ⟨by omega, by omega⟩))
  have d1 : ∀ k, w 21 k = v 21 k := fun k => e _ _ (Or.inr (Or.inl ⟨by omega, by omega⟩))
  have d2 : ∀ k, w 22 k = v 22 k := fun k => e _ _ (Or.inr (Or.inl ⟨by omega, by omega⟩))
  have d3 : ∀ k, w 23 k = v 23 k := fun k => e _ _ (Or.inr (Or.inl ⟨by omega, by omega⟩))
  have d4 : ∀ k, w 24 k = v 24 k := fun k => e _ _ (Or.inr (Or.inl ⟨by omega, by omega⟩))
  have f0 : ∀ k, w 26 k = v 26 k := fun k => e _ _ (Or.inr (Or.inr (Or.inl ⟨by omega, by omega⟩)))
  have f1 : ∀ k, w 27 k = v 27 k := fun k => e _ _ (Or.inr (Or.inr (Or.inl ⟨by omega, by omega⟩)))
  have f2 : ∀ k, w 28 k = v 28 k := fun k => e _ _ (Or.inr (Or.inr (Or.inl ⟨by omega, by omega⟩)))
  have f3 : ∀ k, w 29 k = v 29 k := fun k => e _ _ (Or.inr (Or.inr (Or.inl ⟨by omega, by omega⟩)))
  have g : ∀ k, w 67 k = v 67 k := fun k => e _ _ (Or.inr (Or.inr (Or.inr (Or.inl rfl))))
  have i : ∀ k, w 70 k = v 70 k := fun k => e _ _ (Or.inr (Or.inr (Or.inr (Or.inr (Or.inl rfl)))))
  have j : w 63 8 = v 63 8 := e _ _ (Or.inr (Or.inr (Or.inr (Or.inr (Or.inr ⟨rfl, rfl⟩)))))
  simp only [rl_Poly, rl_Ring, rl_Fig, rl_Pol, rl_Act, Nat.reduceAdd, a, b, c, d0, d1, d2, d3, d4, f0, f1, f2, f3, g, i, j] at h ⊢
  exact h
theorem rl_Img_c {v w : rl_V} (e : ∀ p k, rl_ImgF p k → w p k = v p k) (h : rl_Img v) : rl_Img w := by
  intro q hq
  have h1 := h q hq
  have a : ∀ k, w (57 + 3 * q) k = v (57 + 3 * q) k := fun k => e _ _ (Or.inl ⟨by omega, by omega⟩)
  have b : ∀ k, w (57 + 3 * q + 1) k = v (57 + 3 * q + 1) k := fun k => e _ _ (Or.inl ⟨by omega, by omega⟩)
  have c : ∀ k, w (57 + 3 * q + 2) k = v (57 + 3 * q + 2) k := fun k => e _ _ (Or.inl ⟨by omega, by omega⟩)
  have d : ∀ k, w 75 k = v 75 k := fun k => e _ _ (Or.inr (Or.inl rfl))
  have f : ∀ k, w 76 k = v 76 k := fun k => e _ _ (Or.inr (Or.inr rfl))
  simp only [rl_Fig, rl_Pol, a, b, c, d, f] at h1 ⊢
  exact h1
/-- what is written is spoken of by none -/
def rl_free (p k : Nat) : Prop := ¬ rl_StatF p k ∧ ¬ rl_RowsF p k ∧ ¬ rl_TapeF p k ∧ ¬ rl_AskF p k ∧ ¬ rl_PolyF p k ∧ ¬ rl_ImgF p k
theorem rl_All_free {m : am_Mm} {p k : Nat} {x : Int32} (h : rl_All m) (hf : rl_free p k) : rl_All (am_pI m p k x) :=
  ⟨rl_Stat_c (ml_off hf.1) h.1, rl_Rows_c (ml_off hf.2.1) h.2.1, rl_Tape_c (ml_off hf.2.2.1) h.2.2.1, rl_Ask_c (ml_off hf.2.2.2.1) h.2.2.2.1, rl_Poly_c (ml_off hf.2.2.2.2.1) h.2.2.2.2.1, rl_Img_c (ml_off hf.2.2.2.2.2) h.2.2.2.2.2⟩
/-- the start -/
theorem rl_start : rl_All am_m0 := by
  have z : ∀ p k, ¬ (p = 2 ∧ k = 7) → ¬ p = 64 → am_m0.1 p k = 0 := by
    intro p k h1 h2
    unfold am_m0 am_m1
    simp only [ml_rd, h1, h2, false_and, if_false]
    rfl
  have n1 : ∀ k, k < 8 → am_m0.1 64 k = -1 := by
    intro k hk
    rcases (show k = 0 ∨ k = 1 ∨ k = 2 ∨ k = 3 ∨ k = 4 ∨ k = 5 ∨ k = 6 ∨ k = 7 by omega) with rfl | rfl | rfl | rfl | rfl | rfl | rfl | rfl <;> (unfold am_m0; simp [ml_rd])
  refine ⟨?_, fun r hr => ⟨Or.inl ⟨z _ _ (by omega) (by omega), n1 r hr⟩, ⟨0, by omega, z _ _ (by omega) (by omega), z _ _ (by omega) (by omega)⟩, fun k _ => ?_⟩, ⟨?_, 0, by omega, z _ _ (by omega) (by omega), z _ _ (by omega) (by omega), fun k hk => absurd hk (by omega)⟩, ⟨0, by omega, z _ _ (by omega) (by omega), z _ _ (by omega) (by omega), fun k hk => absurd hk (by omega)⟩, Or.inl ⟨z _ _ (by omega) (by omega), z _ _ (by omega) (by omega), z _ _ (by omega) (by omega), z _ _ (by omega) (by omega), z _ _ (by omega) (by omega), z _ _ (by omega) (by omega), z _ _ (by omega) (by omega), z _ _ (by omega) (by omega)⟩, fun j hj => Or.inl ⟨z _ _ (by omega) (by omega), z _ _ (by omega) (by omega)⟩⟩
  · show am_m0.1 0 12 = am_m0.1 63 0
    rw [z _ _ (by omega) (by omega), z _ _ (by omega) (by omega)]
  · rw [z _ _ (by omega) (by omega), z _ _ (by omega) (by omega)]
  · rw [z _ _ (by omega) (by omega), z _ _ (by omega) (by omega)]
