/-! ===== read back: class, model, what comes of it ===== -/
theorem rb_s {n g L cu c M a b : Nat} {w : Nat → Int32} (hc : c = fa_first (ea L w) n) (hM : M = nd L (2 ^ c)) (ha : a = bsd n (n - 1) M n c) (hb : b = bsd n 1 M n c) : rb n (g + 1) L w cu = if c < n then if 1 < w a ∧ 1 < w b then rb n g M (upd (upd w a (w a - 1)) b (w b - 1)) (cu ||| 2 ^ nb n (min a b) (max a b)) else none else none := by
  subst hc; subst hM; subst ha; subst hb
  rfl
theorem hc_bitOf {n x y : Nat} {m : am_Mm} (h : 4 ≤ n) (h9 : n ≤ 9) (e5 : m.1 20 5 = nI n) (hm : may n (min x y) (max x y) = true) : f_Ring_bitOf (nI x) (nI y) m = some (nI (2 ^ nb n (min x y) (max x y)), m) := by
  have hn := (hc_num (m := m) (x := x) (y := y) h h9 e5 rfl rfl (may_iff.mp hm).2.1).1 hm
  have h27 := cu_N27 h h9
  have := (cu_nb h h9 hm).1
  unfold f_Ring_bitOf
  rw [hn, Option.bind_some]
  simp (disch := omega) only [nq0, nq1, nq2, nq3, nq4, nq5, nq6, nq7, nq8, nq9, nq10, nq11, nq20, nq24, nq27, nq30, nq40, nI_add, pk_sub, pk_mul, nq_div, nq_rem, nq_shl1, nq_shl2, nq_bit1, nq_bit0, nq_or, nq_and, nq_nd, ml_cl, nq_in, nq_le, nq_nle, nq_lt, nq_nlt, nq_eq, nq_ne, nq_eqT, Option.bind_some, Bool.false_eq_true, Bool.true_eq_false, ↓reduceIte]
theorem hm_numU {n x y : Nat} (h : 4 ≤ n) (h9 : n ≤ 9) (hm : may n (min x y) (max x y) = true) (m : am_Mm) : f_M_numberOf (nI n) (nI x) (nI y) m = some (nI (nb n (min x y) (max x y)), m) := by
  rcases Nat.lt_or_ge x y with z | z
  · rw [Nat.min_eq_left (by omega), Nat.max_eq_right (by omega)] at hm ⊢
    exact hm_num1 h h9 hm m
  · rw [Nat.min_eq_right (by omega), Nat.max_eq_left (by omega)] at hm ⊢
    exact hm_num2 h h9 hm m
theorem nd_lt {L M n c : Nat} (hL : L < 2 ^ n) (hM : M = nd L (2 ^ c)) : M < 2 ^ n := by
  rw [hM]
  unfold nd
  exact Nat.xor_lt_two_pow hL (Nat.lt_of_le_of_lt Nat.and_le_left hL)
theorem ea_bit {L n c : Nat} {w : Nat → Int32} (hc : c = fa_first (ea L w) n) (hlt : c < n) : L.testBit c = true := by
  have y := fa_first_yes (ea L w) n (by omega)
  rw [← hc] at y
  unfold ea at y
  rw [Bool.and_eq_true] at y
  exact y.1
def oP (n L : Nat) (w : Nat → Int32) (k : Nat) : Prop := ∀ c, k ≤ c → c < n → L.testBit c = true → w c = 1
theorem oP_s {n L k : Nat} {w : Nat → Int32} (hk : k < n) (y : L.testBit k = true → w k = 1) : oP n L w k = oP n L w (k + 1) := by
  apply propext
  constructor
  · intro q c c1; exact q c (by omega)
  · intro q c c1 c2 c3
    by_cases ck : c = k
    · subst ck; exact y c3
    · exact q c (by omega) c2 c3
theorem hc_rb {n : Nat} (h : 4 ≤ n) (h9 : n ≤ 9) : ∀ g L (w : Nat → Int32) cu gone f (m : am_Mm), gone + g = n - 3 → g < f → rl_Ring m.1 20 n → m.1 33 1 = nI L → m.1 33 2 = nI n → (∀ c, c < n → m.2 34 c = (w c).toInt64) → L < 2 ^ n → pc L n = g + 3 → cu < 2 ^ 27 → ∃ m', f_Ears_cutsOf_b60 f (nI cu) (nI gone) m = some (fv (-1) (rb n g L w cu), m') ∧ ∀ p k, p ≠ 33 → m'.1 p k = m.1 p k := by
  have p9 := pw9 h9
  have h27 := cu_N27 h h9
  intro g
  induction g with
  | zero =>
    intro L w cu gone f m hg hf hR e1 e2 ew hL hp hcu
    obtain ⟨f, rfl⟩ : ∃ z, f = z + 1 := ⟨f - 1, by omega⟩
    have T : ∀ t k f, k + t = n → t < f → (oP n L w k → f_Ears_isThreeOnes_b2 f (nI k) m = some (nI 1, m)) ∧ (¬ oP n L w k → f_Ears_isThreeOnes_b2 f (nI k) m = some (nI 0, m)) := by
      intro t
      induction t with
      | zero =>
        intro k f hk hf
        obtain ⟨f, rfl⟩ : ∃ z, f = z + 1 := ⟨f - 1, by omega⟩
        refine ⟨fun _ => ?_, fun q => absurd (fun c q1 q2 => absurd q1 (by omega)) q⟩
        rw [f_Ears_isThreeOnes_b2, e2, if_pos (nI_le (by omega) (by omega))]; rfl
      | succ t ih =>
        intro k f hk hf
        obtain ⟨f, rfl⟩ : ∃ z, f = z + 1 := ⟨f - 1, by omega⟩
        have ih1 := ih (k + 1) f (by omega) (by omega)
        rw [f_Ears_isThreeOnes_b2, e2, if_neg (nI_ge (by omega) (by omega)), hc_left e1 (by omega) (by omega), Option.bind_some]
        unfold f_Ears_isThreeOnes_b31
        rw [nI_1]
        by_cases z : L.testBit k = true
        · rw [if_pos z, if_neg ne01, if_pos (am_in_nI (by omega) (by omega)), ml_cl (by omega), ew k (by omega)]
          by_cases y : w k = 1
          · rw [if_pos ((ml_is1 _).mpr y), oP_s (show k < n by omega) (fun _ => y)]
            exact ih1
          · rw [if_neg (fun v => y ((ml_is1 _).mp v))]
            exact ⟨fun q => absurd (q k (Nat.le_refl _) (by omega) z) y, fun _ => rfl⟩
        · rw [if_neg z, if_pos e00, oP_s (show k < n by omega) (fun v => absurd v z)]
          exact ih1
    have T0 := T n 0 am_F (by omega) (by show n < 5000; omega)
    refine ⟨m, ?_, fun p k _ => rfl⟩
    rw [f_Ears_cutsOf_b60, e2, nq3, pk_sub (by omega), if_pos (nI_le (by omega) (by omega))]
    unfold rb f_Ears_isThreeOnes
    by_cases q : ∀ c, c < n → L.testBit c = true → w c = 1
    · rw [nq0, T0.1 (fun c _ => q c), Option.bind_some, if_neg (show ¬ nI 1 = nI 0 by decide), if_pos q]; rfl
    · rw [nq0, T0.2 (fun z => q (fun c => z c (Nat.zero_le c))), Option.bind_some, if_pos rfl, if_neg q]; rfl
  | succ g ih =>
    intro L w cu gone f m hg hf hR e1 e2 ew hL hp hcu
    obtain ⟨f, rfl⟩ : ∃ z, f = z + 1 := ⟨f - 1, by omega⟩
    have fe := hc_fear h9 e1 (by omega) e2 ew
    obtain ⟨c, hc⟩ : ∃ c, c = fa_first (ea L w) n := ⟨_, rfl⟩
    obtain ⟨M, hM⟩ : ∃ M, M = nd L (2 ^ c) := ⟨_, rfl⟩
    obtain ⟨a, ha⟩ : ∃ a, a = bsd n (n - 1) M n c := ⟨_, rfl⟩
    obtain ⟨b, hb⟩ : ∃ b, b = bsd n 1 M n c := ⟨_, rfl⟩
    rw [rb_s hc hM ha hb]
    rw [← hc] at fe
    rw [f_Ears_cutsOf_b60, e2, nq3, pk_sub (by omega), if_neg (nI_ge (by omega) (by omega)), fe, Option.bind_some]
    by_cases hcn : c < n
    rotate_left
    · refine ⟨m, ?_, fun p k _ => rfl⟩
      rw [if_neg hcn, if_neg (show ¬ (0 : Int32) ≤ -1 by decide), if_neg hcn]; rfl
    have hcb := ea_bit hc hcn
    obtain ⟨a9, b9, Ma, Mb, hmy, s1, s2, bm1, bm2, pcM⟩ := ek_all h h9 hL (by omega) hcn hcb hM ha hb
    have hML := nd_lt hL hM
    have hm2 := may_iff.mp hmy
    have hnb := (cu_nb h h9 hmy).1
    have hMc : M.testBit c = false := by rw [hM, nd_tb, Nat.testBit_two_pow, hcb]; simp
    have x1 : nI L &&& ((am_shl (1 : Int32) (nI c)) ^^^ (-1 : Int32)) = nI M := by rw [hM]; simp (disch := omega) only [nq0, nq1, nq2, nq3, nq4, nq5, nq6, nq7, nq8, nq9, nq10, nq11, nq20, nq24, nq27, nq30, nq40, nI_add, pk_sub, pk_mul, nq_div, nq_rem, nq_shl1, nq_shl2, nq_bit1, nq_bit0, nq_or, nq_and, nq_nd, ml_cl, nq_in, nq_le, nq_nle, nq_lt, nq_nlt, nq_eq, nq_ne, nq_eqT, Option.bind_some, Bool.false_eq_true, Bool.true_eq_false, ↓reduceIte]
    rw [if_pos hcn, if_pos hcn, if_pos (show (0 : Int32) ≤ nI c from nI_pos' (by omega))]
    dsimp only
    rw [e1, x1, ml_o m (nI M) (show ¬ ((33 : Nat) = 33 ∧ (2 : Nat) = 1) by omega), e2, nq1, pk_sub (show 1 ≤ n by omega)]
    have b1 := hc_bs (m := am_pI m 33 1 (nI M)) (c := c) (s := n - 1) h9 (ml_s _ _ _ _) (by omega) (by rw [ml_o _ _ (by omega)]; exact e2) (by omega) hcn hMc (by rw [← ha]; exact Ma)
    have b2 := hc_bs (m := am_pI m 33 1 (nI M)) (c := c) (s := 1) h9 (ml_s _ _ _ _) (by omega) (by rw [ml_o _ _ (by omega)]; exact e2) (by omega) hcn hMc (by rw [← hb]; exact Mb)
    rw [← ha] at b1
    rw [← hb] at b2
    have ewa : (am_pI m 33 1 (nI M)).2 34 a = (w a).toInt64 := ew a a9
    rw [b1, Option.bind_some, b2, Option.bind_some, hc_less (by omega) ewa, Option.bind_some]
    by_cases wa : 1 < w a
    rotate_left
    · refine ⟨am_pL (am_pI m 33 1 (nI M)) 34 a ((w a).toInt64 - (1 : Int64)), ?_, fun p k q => ?_⟩
      · rw [if_neg wa, if_pos e00, if_neg (fun z => wa z.1)]; rfl
      · show (am_pI m 33 1 (nI M)).1 p k = _
        exact ml_o _ _ (by omega)
    have ewb : (am_pL (am_pI m 33 1 (nI M)) 34 a ((w a).toInt64 - (1 : Int64))).2 34 b = (w b).toInt64 := by
      rw [ml_pL, if_neg (by omega)]; exact ew b b9
    rw [if_pos wa, if_neg ne01, hc_less (by omega) ewb, Option.bind_some]
    by_cases wb : 1 < w b
    rotate_left
    · refine ⟨am_pL (am_pL (am_pI m 33 1 (nI M)) 34 a ((w a).toInt64 - (1 : Int64))) 34 b ((w b).toInt64 - (1 : Int64)), ?_, fun p k q => ?_⟩
      · rw [if_neg wb, if_pos e00, if_neg (fun z => wb z.2)]; rfl
      · show (am_pI m 33 1 (nI M)).1 p k = _
        exact ml_o _ _ (by omega)
    rw [if_pos wb, if_neg ne01, if_pos ⟨wa, wb⟩]
    have frm : ∀ p k, p ≠ 33 → (am_pL (am_pL (am_pI m 33 1 (nI M)) 34 a ((w a).toInt64 - (1 : Int64))) 34 b ((w b).toInt64 - (1 : Int64))).1 p k = m.1 p k := fun p k q => by
      show (am_pI m 33 1 (nI M)).1 p k = _
      exact ml_o _ _ (by omega)
    have hR2 : rl_Ring (am_pL (am_pL (am_pI m 33 1 (nI M)) 34 a ((w a).toInt64 - (1 : Int64))) 34 b ((w b).toInt64 - (1 : Int64))).1 20 n := by
      have hR' := hR
      unfold rl_Ring at hR' ⊢
      simp (disch := omega) only [Nat.reduceAdd, frm]
      exact hR'
    obtain ⟨m', r1, r2⟩ := ih M (upd (upd w a (w a - 1)) b (w b - 1)) (cu ||| 2 ^ nb n (min a b) (max a b)) (gone + 1) f (am_pL (am_pL (am_pI m 33 1 (nI M)) 34 a ((w a).toInt64 - (1 : Int64))) 34 b ((w b).toInt64 - (1 : Int64))) (by omega) (by omega) hR2
      (by show (am_pI m 33 1 (nI M)).1 33 1 = _; exact ml_s _ _ _ _) (by show (am_pI m 33 1 (nI M)).1 33 2 = _; rw [ml_o _ _ (by omega)]; exact e2)
      (fun d hd => by
        rw [ml_pL, ml_pL]
        by_cases db : d = b
        · subst db; rw [if_pos ⟨rfl, rfl⟩, upd_s, ml_less wb]
        · rw [if_neg (by omega), upd_o _ _ db]
          by_cases da : d = a
          · subst da; rw [if_pos ⟨rfl, rfl⟩, upd_s, ml_less wa]
          · rw [if_neg (by omega), upd_o _ _ da]; exact ew d hd)
      hML (by omega) (Nat.or_lt_two_pow hcu (Nat.pow_lt_pow_right (by omega) (by omega)))
    refine ⟨m', ?_, fun p k q => by rw [r2 p k q, frm p k q]⟩
    rw [hc_bitOf h h9 hR2.1 hmy, Option.bind_some, nq_or, nI_add]
    exact r1
theorem hm_rb {n : Nat} (h : 4 ≤ n) (h9 : n ≤ 9) : ∀ g L (w : Nat → Int32) cu f (m : am_Mm), g < f → (∀ c, c < n → m.1 72 c = w c) → L < 2 ^ n → pc L n = g + 3 → cu < 2 ^ 27 → ∃ m', f_M_readBack_b46 f (nI n) (nI L) (nI cu) (nI (g + 3)) m = some (fv (-1000000) (rb n g L w cu), m') ∧ ∀ p k, p ≠ 72 → m'.1 p k = m.1 p k := by
  have p9 := pw9 h9
  have h27 := cu_N27 h h9
  intro g
  induction g with
  | zero =>
    intro L w cu f m hf ew hL hp hcu
    obtain ⟨f, rfl⟩ : ∃ z, f = z + 1 := ⟨f - 1, by omega⟩
    have T0 : ∀ t k f, k + t = n → t < f → f_M_readBack_b177 f (nI n) (nI L) (nI cu) (nI 0) (nI k) m = some (-1000000, m) := by
      intro t
      induction t with
      | zero =>
        intro k f hk hf
        obtain ⟨f, rfl⟩ : ∃ z, f = z + 1 := ⟨f - 1, by omega⟩
        rw [f_M_readBack_b177, if_pos (nI_le (by omega) (by omega)), if_pos e00]
      | succ t ih =>
        intro k f hk hf
        obtain ⟨f, rfl⟩ : ∃ z, f = z + 1 := ⟨f - 1, by omega⟩
        rw [f_M_readBack_b177, if_neg (nI_ge (by omega) (by omega)), if_pos e00]
        unfold f_M_readBack_b213
        rw [nI_1]
        exact ih (k + 1) f (by omega) (by omega)
    have T : ∀ t k f, k + t = n → t < f → (oP n L w k → f_M_readBack_b177 f (nI n) (nI L) (nI cu) (nI 1) (nI k) m = some (nI cu, m)) ∧ (¬ oP n L w k → f_M_readBack_b177 f (nI n) (nI L) (nI cu) (nI 1) (nI k) m = some (-1000000, m)) := by
      intro t
      induction t with
      | zero =>
        intro k f hk hf
        obtain ⟨f, rfl⟩ : ∃ z, f = z + 1 := ⟨f - 1, by omega⟩
        refine ⟨fun _ => ?_, fun q => absurd (fun c q1 q2 => absurd q1 (by omega)) q⟩
        rw [f_M_readBack_b177, if_pos (nI_le (by omega) (by omega)), if_neg ne01]
      | succ t ih =>
        intro k f hk hf
        obtain ⟨f, rfl⟩ : ∃ z, f = z + 1 := ⟨f - 1, by omega⟩
        have ih1 := ih (k + 1) f (by omega) (by omega)
        rw [f_M_readBack_b177, if_neg (nI_ge (by omega) (by omega)), if_neg ne01]
        unfold f_M_readBack_b213
        rw [nI_1]
        by_cases z : L.testBit k = true
        · rw [nq_has1 (by omega) (by omega) z, Option.bind_some, if_neg ne01, if_pos (am_in_nI (by omega) (by omega)), ml_cl (by omega), ew k (by omega)]
          by_cases y : w k = 1
          · rw [if_pos y, oP_s (show k < n by omega) (fun _ => y)]
            exact ih1
          · rw [if_neg y]
            exact ⟨fun q => absurd (q k (Nat.le_refl _) (by omega) z) y, fun _ => T0 t (k + 1) f (by omega) (by omega)⟩
        · rw [nq_has0 (by omega) (by omega) z, Option.bind_some, if_pos e00, oP_s (show k < n by omega) (fun v => absurd v z)]
          exact ih1
    refine ⟨m, ?_, fun p k _ => rfl⟩
    have T1 := T n 0 am_F (by omega) (by show n < 5000; omega)
    rw [f_M_readBack_b46, if_pos (show nI (0 + 3) ≤ (3 : Int32) by decide), nq0, nq1]
    unfold rb
    by_cases q : ∀ c, c < n → L.testBit c = true → w c = 1
    · rw [T1.1 (fun c _ => q c), if_pos q]; rfl
    · rw [T1.2 (fun z => q (fun c => z c (Nat.zero_le c))), if_neg q]; rfl
  | succ g ih =>
    intro L w cu f m hf ew hL hp hcu
    obtain ⟨f, rfl⟩ : ∃ z, f = z + 1 := ⟨f - 1, by omega⟩
    have fe := hm_fear h9 hL ew
    obtain ⟨c, hc⟩ : ∃ c, c = fa_first (ea L w) n := ⟨_, rfl⟩
    obtain ⟨M, hM⟩ : ∃ M, M = nd L (2 ^ c) := ⟨_, rfl⟩
    obtain ⟨a, ha⟩ : ∃ a, a = bsd n (n - 1) M n c := ⟨_, rfl⟩
    obtain ⟨b, hb⟩ : ∃ b, b = bsd n 1 M n c := ⟨_, rfl⟩
    rw [rb_s hc hM ha hb]
    rw [← hc] at fe
    have hcap : g + 3 < n := by
      have := pc_le L n
      omega
    rw [f_M_readBack_b46, if_neg (show ¬ nI (g + 1 + 3) ≤ (3 : Int32) from nI_ge (show 3 < g + 1 + 3 by omega) (by omega)), fe, Option.bind_some]
    by_cases hcn : c < n
    rotate_left
    · refine ⟨m, ?_, fun p k _ => rfl⟩
      rw [if_neg hcn, if_pos (show nI 9 = (9 : Int32) from rfl), if_neg hcn]; rfl
    have hcb := ea_bit hc hcn
    obtain ⟨a9, b9, Ma, Mb, hmy, s1, s2, bm1, bm2, pcM⟩ := ek_all h h9 hL (by omega) hcn hcb hM ha hb
    have hML := nd_lt hL hM
    have hm2 := may_iff.mp hmy
    have hnb := (cu_nb h h9 hmy).1
    have sub : ∀ e, M.testBit e = true → L.testBit e = true := fun e q => by
      rw [hM, nd_tb, Bool.and_eq_true] at q; exact q.1
    have x1 : nI L &&& ((am_shl (1 : Int32) (nI c)) ^^^ (-1 : Int32)) = nI M := by rw [hM]; simp (disch := omega) only [nq0, nq1, nq2, nq3, nq4, nq5, nq6, nq7, nq8, nq9, nq10, nq11, nq20, nq24, nq27, nq30, nq40, nI_add, pk_sub, pk_mul, nq_div, nq_rem, nq_shl1, nq_shl2, nq_bit1, nq_bit0, nq_or, nq_and, nq_nd, ml_cl, nq_in, nq_le, nq_nle, nq_lt, nq_nlt, nq_eq, nq_ne, nq_eqT, Option.bind_some, Bool.false_eq_true, Bool.true_eq_false, ↓reduceIte]
    have b1 := hm_bs (m := m) (L := L) (c := c) (s := n - 1) h h9 (by omega) (by omega) hcn (by rw [bm1]; exact sub a Ma)
    have b2 := hm_bs (m := m) (L := L) (c := c) (s := 1) h h9 (by omega) (by omega) hcn (by rw [bm2]; exact sub b Mb)
    rw [bm1] at b1
    rw [bm2] at b2
    have ia := am_in_nI (show a < 9 by omega) (show 9 < 2 ^ 31 by decide)
    have ib := am_in_nI (show b < 9 by omega) (show 9 < 2 ^ 31 by decide)
    have x2 : nI (g + 1 + 3) + (-1 : Int32) = nI (g + 3) := by
      rw [show nI (g + 1 + 3) + (-1 : Int32) = nI (g + 1 + 3) - 1 from (Int32.sub_eq_add_neg _ _).symm, nq1, pk_sub (by omega)]; rfl
    rw [if_pos hcn, if_neg (show ¬ nI c = (9 : Int32) from fun z => by have := (nI_eq (b := 9) (by omega) (by omega)).mp z; omega), if_pos hcn]
    dsimp only
    rw [nq1, pk_sub (show 1 ≤ n by omega), b1, Option.bind_some, b2, Option.bind_some]
    dsimp only
    rw [if_pos ia, ml_cl (show a < 2 ^ 31 by omega), ew a a9]
    by_cases wa : 1 < w a
    rotate_left
    · refine ⟨m, ?_, fun p k _ => rfl⟩
      rw [if_pos (show w a ≤ nI 1 from ml_le_of_nlt wa), if_neg (fun z => wa z.1)]; rfl
    rw [if_neg (show ¬ w a ≤ nI 1 from ml_nle_of_lt wa), if_pos ib, ml_cl (show b < 2 ^ 31 by omega), ew b b9]
    by_cases wb : 1 < w b
    rotate_left
    · refine ⟨m, ?_, fun p k _ => rfl⟩
      rw [if_neg (show ¬ nI 1 < w b from wb), if_neg (fun z => wb z.2)]; rfl
    rw [if_pos (show nI 1 < w b from wb), if_pos ia, if_pos ia, if_pos ib, if_pos ib, if_pos ⟨wa, wb⟩, ml_o m (w a - nI 1) (show ¬ ((72 : Nat) = 72 ∧ b = a) by omega), ew b b9, hm_numU h h9 hmy, Option.bind_some]
    have frm : ∀ p k, p ≠ 72 → (am_pI (am_pI m 72 a (w a - nI 1)) 72 b (w b - nI 1)).1 p k = m.1 p k := fun p k q => by rw [ml_o _ _ (by omega), ml_o _ _ (by omega)]
    obtain ⟨m', r1, r2⟩ := ih M (upd (upd w a (w a - 1)) b (w b - 1)) (cu ||| 2 ^ nb n (min a b) (max a b)) f (am_pI (am_pI m 72 a (w a - nI 1)) 72 b (w b - nI 1)) (by omega)
      (fun d hd => by
        by_cases db : d = b
        · subst db; rw [ml_s, upd_s]; rfl
        · rw [ml_o _ _ (by omega), upd_o _ _ db]
          by_cases da : d = a
          · subst da; rw [ml_s, upd_s]; rfl
          · rw [ml_o _ _ (by omega), upd_o _ _ da]; exact ew d hd)
      hML (by omega) (Nat.or_lt_two_pow hcu (Nat.pow_lt_pow_right (by omega) (by omega)))
    refine ⟨m', ?_, fun p k q => by rw [r2 p k q, frm p k q]⟩
    refine Eq.trans ?_ r1
    have x3 : nI L &&& ((am_shl (nI 1) (nI c)) ^^^ (-nI 1)) = nI M := x1
    have x4 : nI (g + 1 + 3) + (-nI 1) = nI (g + 3) := x2
    have x5 : am_shl (nI 1) (nI (nb n (min a b) (max a b))) = nI (2 ^ nb n (min a b) (max a b)) := nq_shl1 (by omega)
    dsimp only
    rw [x3, x4, x5, nq_or]
theorem pc_or (x i : Nat) (hx : x.testBit i = false) : ∀ k, pc (x ||| 2 ^ i) k = pc x k + (if i < k then 1 else 0)
  | 0 => rfl
  | k + 1 => by
    rw [pc_s, pc_s, pc_or x i hx k, Nat.testBit_or, Nat.testBit_two_pow]
    rcases Nat.lt_trichotomy i k with q | q | q
    · rw [if_pos q, if_pos (show i < k + 1 by omega), decide_eq_false (show ¬ i = k by omega), Bool.or_false]; omega
    · subst q
      rw [if_neg (show ¬ i < i by omega), if_pos (show i < i + 1 by omega), hx, decide_eq_true (show i = i from rfl)]; rfl
    · rw [if_neg (show ¬ i < k by omega), if_neg (show ¬ i < k + 1 by omega), decide_eq_false (show ¬ i = k by omega), Bool.or_false]
      rfl
theorem sd_iff {n L x y : Nat} : sd n L x y = true ↔ (∀ e, e < n → L.testBit e = true → x ≤ e ∧ e ≤ y) ∨ (∀ e, e < n → L.testBit e = true → e ≤ x ∨ y ≤ e) := by
  unfold sd
  rw [Bool.or_eq_true, List.all_eq_true, List.all_eq_true]
  have k1 : (∀ e, e ∈ List.range n → (!tb L e || (Nat.ble x e && Nat.ble e y)) = true) ↔ (∀ e, e < n → L.testBit e = true → x ≤ e ∧ e ≤ y) := by
    constructor
    · intro q e he hb
      have := q e (List.mem_range.mpr he)
      rw [tbt, hb, Bool.not_true, Bool.false_or, Bool.and_eq_true, Nat.ble_eq, Nat.ble_eq] at this
      exact this
    · intro q e he
      have he := List.mem_range.mp he
      by_cases hb : L.testBit e = true
      · rw [tbt, hb, Bool.not_true, Bool.false_or, Bool.and_eq_true, Nat.ble_eq, Nat.ble_eq]
        exact q e he hb
      · rw [tbt, Bool.eq_false_iff.mpr hb]; rfl
  have k2 : (∀ e, e ∈ List.range n → (!tb L e || (Nat.ble e x || Nat.ble y e)) = true) ↔ (∀ e, e < n → L.testBit e = true → e ≤ x ∨ y ≤ e) := by
    constructor
    · intro q e he hb
      have := q e (List.mem_range.mpr he)
      rw [tbt, hb, Bool.not_true, Bool.false_or, Bool.or_eq_true, Nat.ble_eq, Nat.ble_eq] at this
      exact this
    · intro q e he
      have he := List.mem_range.mp he
      by_cases hb : L.testBit e = true
      · rw [tbt, hb, Bool.not_true, Bool.false_or, Bool.or_eq_true, Nat.ble_eq, Nat.ble_eq]
        exact q e he hb
      · rw [tbt, Bool.eq_false_iff.mpr hb]; rfl
  rw [k1, k2]
theorem rb_V {n : Nat} (h : 4 ≤ n) (h9 : n ≤ 9) : ∀ g L (w : Nat → Int32) cu r, L < 2 ^ n → pc L n = g + 3 → cu_V n cu → (∀ i, i < cu_N n → cu.testBit i = true → sd n L (cu_a n i) (cu_b n i) = true) → rb n g L w cu = some r → cu_V n r ∧ pc r 30 = pc cu 30 + g := by
  have h27 := cu_N27 h h9
  intro g
  induction g with
  | zero =>
    intro L w cu r hL hp hv hs hr
    unfold rb at hr
    by_cases q : ∀ c, c < n → L.testBit c = true → w c = 1
    · rw [if_pos q] at hr; cases hr; exact ⟨hv, rfl⟩
    · rw [if_neg q] at hr; cases hr
  | succ g ih =>
    intro L w cu r hL hp hv hs hr
    obtain ⟨c, hc⟩ : ∃ c, c = fa_first (ea L w) n := ⟨_, rfl⟩
    obtain ⟨M, hM⟩ : ∃ M, M = nd L (2 ^ c) := ⟨_, rfl⟩
    obtain ⟨a, ha⟩ : ∃ a, a = bsd n (n - 1) M n c := ⟨_, rfl⟩
    obtain ⟨b, hb⟩ : ∃ b, b = bsd n 1 M n c := ⟨_, rfl⟩
    rw [rb_s hc hM ha hb] at hr
    by_cases hcn : c < n
    rotate_left
    · rw [if_neg hcn] at hr; cases hr
    rw [if_pos hcn] at hr
    by_cases ww : 1 < w a ∧ 1 < w b
    rotate_left
    · rw [if_neg ww] at hr; cases hr
    rw [if_pos ww] at hr
    have hcb := ea_bit hc hcn
    obtain ⟨a9, b9, Ma, Mb, hmy, s1, s2, bm1, bm2, pcM⟩ := ek_all h h9 hL (by omega) hcn hcb hM ha hb
    have hML := nd_lt hL hM
    have hnb := cu_nb h h9 hmy
    have sub : ∀ e, M.testBit e = true → L.testBit e = true := fun e q => by
      rw [hM, nd_tb, Bool.and_eq_true] at q; exact q.1
    have hfr : fr n cu (nb n (min a b) (max a b)) := by
      refine ⟨Bool.eq_false_iff.mpr fun q => ?_, fun k hk hbk => Bool.eq_false_iff.mpr fun q => ?_⟩
      · have := hs _ hnb.1 q
        rw [hnb.2.1, hnb.2.2, s2] at this
        cases this
      · have q := cu_x_iff.mp q
        have kab := cu_ab h h9 hk
        rw [hnb.2.1, hnb.2.2] at q
        rcases sd_iff.mp (hs k hk hbk) with z | z
        · have za := z a a9 (sub a Ma)
          have zb := z b b9 (sub b Mb)
          omega
        · have za := z a a9 (sub a Ma)
          have zb := z b b9 (sub b Mb)
          omega
    have hv' := cu_V_add hnb.1 hv hfr
    have := ih M _ _ r hML (by omega) hv' (fun i hi hbi => ?_) hr
    · refine ⟨this.1, ?_⟩
      rw [this.2, pc_or _ _ hfr.1, if_pos (by omega)]
      omega
    · rw [Nat.testBit_or, Bool.or_eq_true, Nat.testBit_two_pow, decide_eq_true_eq] at hbi
      rcases hbi with q | q
      · rcases sd_iff.mp (hs i hi q) with z | z
        · exact sd_iff.mpr (Or.inl fun e he hb => z e he (sub e hb))
        · exact sd_iff.mpr (Or.inr fun e he hb => z e he (sub e hb))
      · rw [← q, hnb.2.1, hnb.2.2]; exact s1
theorem pcn : ∀ n, n < 10 → 4 ≤ n → pc (2 ^ n - 1) n = n := by decide +kernel
/-- a row read back -/
def rB (n : Nat) (w : Nat → Int32) : Option Nat := rb n (n - 3) (2 ^ n - 1) w 0
theorem cu_V0 (n : Nat) : cu_V n 0 := ⟨Nat.two_pow_pos _, fun i j _ _ q => by rw [Nat.zero_testBit] at q; cases q⟩
theorem rB_V {n r : Nat} {w : Nat → Int32} (h : 4 ≤ n) (h9 : n ≤ 9) (hr : rB n w = some r) : cu_V n r ∧ pc r 30 = n - 3 := by
  have p9 := pw9 h9
  have := rb_V h h9 (n - 3) (2 ^ n - 1) w 0 r (by omega) (by rw [pcn n (by omega) h]; omega) (cu_V0 n) (fun i _ q => by rw [Nat.zero_testBit] at q; cases q) hr
  exact ⟨this.1, by rw [this.2, show pc 0 30 = 0 from by decide]; omega⟩
theorem hc_cuts {n r i : Nat} {m : am_Mm} {w : Nat → Int32} (h : 4 ≤ n) (h9 : n ≤ 9) (hR : rl_Ring m.1 20 n) (hr : r < 8) (hi : i + n ≤ 40) (ew : ∀ c, c < n → m.1 (42 + 2 * r) (i + c) = w c) : ∃ m', f_Ears_cutsOf (41 + 2 * r) (nI i) m = some (fv (-1) (rB n w), m') ∧ ∀ p k, p ≠ 33 → m'.1 p k = m.1 p k := by
  have p9 := pw9 h9
  have L : ∀ t k f (m0 : am_Mm), k + t = n → t < f → m0.1 33 1 = nI (2 ^ n - 1) → m0.1 33 2 = nI n → (∀ p j, p ≠ 33 → m0.1 p j = m.1 p j) → (∀ c, c < k → m0.2 34 c = (w c).toInt64) → ∃ m', f_Ears_cutsOf_b23 f (41 + 2 * r) (nI i) (nI k) m0 = some (fv (-1) (rB n w), m') ∧ ∀ p k, p ≠ 33 → m'.1 p k = m.1 p k := by
    intro t
    induction t with
    | zero =>
      intro k f m0 hk hf a1 a2 a3 a4
      obtain ⟨f, rfl⟩ : ∃ z, f = z + 1 := ⟨f - 1, by omega⟩
      have hk : k = n := by omega
      subst hk
      have hR2 : rl_Ring m0.1 20 k := by
        have hR' := hR
        unfold rl_Ring at hR' ⊢
        simp (disch := omega) only [Nat.reduceAdd, a3]
        exact hR'
      obtain ⟨m', r1, r2⟩ := hc_rb h h9 (k - 3) (2 ^ k - 1) w 0 0 am_F m0 (by omega) (by show _ < 5000; omega) hR2 a1 a2 a4 (by omega) (by rw [pcn k (by omega) h]; omega) (by omega)
      refine ⟨m', ?_, fun p j q => by rw [r2 p j q, a3 p j q]⟩
      rw [f_Ears_cutsOf_b23, a2, if_pos (nI_le (Nat.le_refl _) (by omega))]
      exact r1
    | succ t ih =>
      intro k f m0 hk hf a1 a2 a3 a4
      obtain ⟨f, rfl⟩ : ∃ z, f = z + 1 := ⟨f - 1, by omega⟩
      obtain ⟨m', r1, r2⟩ := ih (k + 1) f (am_pL m0 34 k ((w k).toInt64)) (by omega) (by omega) a1 a2 a3 (fun c hc => by
        rw [ml_pL]
        by_cases z : c = k
        · subst z; rw [if_pos ⟨rfl, rfl⟩]
        · rw [if_neg (by omega)]; exact a4 c (by omega))
      refine ⟨m', ?_, r2⟩
      rw [f_Ears_cutsOf_b23, a2, if_neg (nI_ge (by omega) (by omega)), nI_add]
      unfold f_Row_itemAt
      rw [if_neg (nI_pos (by omega)), if_neg (show ¬ Int32.ofNat 40 ≤ nI (i + k) from nI_ge (show i + k < 40 by omega) (by decide)), if_pos (am_in_nI (by omega) (by omega)), Option.bind_some, if_pos (am_in_nI (by omega) (by omega)), ml_cl (by omega), ml_cl (by omega), nI_1, show 41 + 2 * r + 1 = 42 + 2 * r by omega, a3 _ _ (by omega), ew k (by omega)]
      exact r1
  obtain ⟨m', r1, r2⟩ := L n 0 am_F (am_pI (am_pI m 33 2 (nI n)) 33 1 (nI (2 ^ n - 1))) (by omega) (by show n < 5000; omega) (ml_s _ _ _ _) (by rw [ml_o _ _ (by omega), ml_s]) (fun p j q => by rw [ml_o _ _ (by omega), ml_o _ _ (by omega)]) (fun c hc => absurd hc (by omega))
  refine ⟨m', ?_, r2⟩
  unfold f_Ears_cutsOf
  rw [hR.1, ml_s, nq1, nq_shl1 (by omega), pk_sub (by omega)]
  exact r1
theorem hm_cuts {n o : Nat} {m : am_Mm} {w : Nat → Int32} (h : 4 ≤ n) (h9 : n ≤ 9) (e0 : m.1 67 0 = nI n) (ho : o + n ≤ 320) (ew : ∀ c, c < n → m.1 66 (o + c) = w c) : ∃ m', f_M_readBack (nI o) m = some (fv (-1000000) (rB n w), m') ∧ ∀ p k, p ≠ 72 → m'.1 p k = m.1 p k := by
  have p9 := pw9 h9
  have L : ∀ t k f (m0 : am_Mm), k + t = n → t < f → (∀ p j, p ≠ 72 → m0.1 p j = m.1 p j) → (∀ c, c < k → m0.1 72 c = w c) → ∃ m', f_M_readBack_b9 f (nI o) (nI n) (nI k) m0 = some (fv (-1000000) (rB n w), m') ∧ ∀ p k, p ≠ 72 → m'.1 p k = m.1 p k := by
    intro t
    induction t with
    | zero =>
      intro k f m0 hk hf a3 a4
      obtain ⟨f, rfl⟩ : ∃ z, f = z + 1 := ⟨f - 1, by omega⟩
      have hk : k = n := by omega
      subst hk
      obtain ⟨m', r1, r2⟩ := hm_rb h h9 (k - 3) (2 ^ k - 1) w 0 am_F m0 (by show _ < 5000; omega) a4 (by omega) (by rw [pcn k (by omega) h]; omega) (by omega)
      refine ⟨m', ?_, fun p j q => by rw [r2 p j q, a3 p j q]⟩
      rw [f_M_readBack_b9, if_pos (nI_le (Nat.le_refl _) (by omega)), nq1, nq_shl1 (by omega), pk_sub (by omega)]
      rw [show k - 3 + 3 = k by omega] at r1
      exact r1
    | succ t ih =>
      intro k f m0 hk hf a3 a4
      obtain ⟨f, rfl⟩ : ∃ z, f = z + 1 := ⟨f - 1, by omega⟩
      obtain ⟨m', r1, r2⟩ := ih (k + 1) f (am_pI m0 72 k (w k)) (by omega) (by omega) (fun p j q => by rw [ml_o _ _ (by omega)]; exact a3 p j q) (fun c hc => by
        by_cases z : c = k
        · subst z; exact ml_s _ _ _ _
        · rw [ml_o _ _ (by omega)]; exact a4 c (by omega))
      refine ⟨m', ?_, r2⟩
      rw [f_M_readBack_b9, if_neg (nI_ge (by omega) (by omega)), nI_add, if_pos (am_in_nI (by omega) (by omega)), if_pos (am_in_nI (by omega) (by omega)), ml_cl (by omega), ml_cl (by omega), nI_1, a3 _ _ (by omega), ew k (by omega)]
      exact r1
  obtain ⟨m', r1, r2⟩ := L n 0 am_F m (by omega) (by show n < 5000; omega) (fun p j _ => rfl) (fun c hc => absurd hc (by omega))
  refine ⟨m', ?_, r2⟩
  unfold f_M_readBack
  rw [e0]
  exact r1
