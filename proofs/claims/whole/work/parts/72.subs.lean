/-! ===== all subsets of the cuts ===== -/
theorem pcm_g : ((List.range 10).all fun n => bif Nat.ble 4 n then cu_chk (tb_x n) (fun x => Nat.ble (pc x 27) (Nat.sub n 3)) (cu_N n) 0 else true) = true := by decide +kernel
theorem pcm {n cu : Nat} (h : 4 ≤ n) (h9 : n ≤ 9) (hv : cu_V n cu) : pc cu 30 ≤ n - 3 := by
  have := cu_each (P := fun n x => Nat.ble (pc x 27) (Nat.sub n 3)) pcm_g h h9 hv
  rw [pc_30 (n := 27) (by omega) (cu_V_lt h h9 hv)]
  exact Nat.ble_eq.mp this
/-- the cuts that bits j tell, rising -/
def sb (cu j : Nat) : Nat → Nat
  | 0 => 0
  | k + 1 => if cu.testBit k && j.testBit (pc cu k) then sb cu j k + 2 ^ k else sb cu j k
theorem sb_lt (cu j : Nat) : ∀ k, sb cu j k < 2 ^ k
  | 0 => Nat.zero_lt_one
  | k + 1 => by
    have := sb_lt cu j k
    rw [sb, Nat.pow_succ]
    split <;> omega
theorem sb_tb (cu j i : Nat) : ∀ k, (sb cu j k).testBit i = (decide (i < k) && (cu.testBit i && j.testBit (pc cu i)))
  | 0 => by rw [sb, Nat.zero_testBit]; simp
  | k + 1 => by
    have ih := sb_tb cu j i k
    have hl := sb_lt cu j k
    rw [sb]
    by_cases q : (cu.testBit k && j.testBit (pc cu k)) = true
    · rw [if_pos q, ← or_pow hl, Nat.testBit_or, ih, Nat.testBit_two_pow]
      by_cases z : i = k
      · subst z; rw [q]; simp
      · have : (i < k + 1) ↔ i < k := by omega
        have e : ¬ k = i := fun w => z w.symm
        simp [this, e]
    · rw [if_neg q, ih]
      by_cases z : i = k
      · subst z; rw [Bool.eq_false_iff.mpr q]; simp
      · have : (i < k + 1) ↔ i < k := by omega
        simp [this]
theorem lo_tb {i q j : Nat} (hi : i < q) : (2 ^ q + j).testBit i = j.testBit i := Nat.testBit_two_pow_add_gt hi j
theorem sb_low (cu : Nat) {j j' : Nat} : ∀ k, (∀ i, i < pc cu k → j.testBit i = j'.testBit i) → sb cu j k = sb cu j' k
  | 0, _ => rfl
  | k + 1, h => by
    have hs := pc_s cu k
    have ih := sb_low cu k (fun i hi => h i (by rw [hs]; omega))
    rw [sb, sb, ih]
    by_cases q : cu.testBit k = true
    · rw [q, Bool.true_and, Bool.true_and, h (pc cu k) (by rw [hs, if_pos q]; omega)]
    · rw [Bool.eq_false_iff.mpr q, Bool.false_and, Bool.false_and]
def md (cu : Nat) : Nat → Nat
  | 0 => 0
  | k + 1 => if cu.testBit k then md cu k + 2 ^ k else md cu k
theorem md_lt (cu : Nat) : ∀ k, md cu k < 2 ^ k
  | 0 => Nat.zero_lt_one
  | k + 1 => by
    have := md_lt cu k
    rw [md, Nat.pow_succ]
    split <;> omega
theorem md_tb (cu i : Nat) : ∀ k, (md cu k).testBit i = (decide (i < k) && cu.testBit i)
  | 0 => by rw [md, Nat.zero_testBit]; simp
  | k + 1 => by
    have ih := md_tb cu i k
    have hl := md_lt cu k
    rw [md]
    by_cases q : cu.testBit k = true
    · rw [if_pos q, ← or_pow hl, Nat.testBit_or, ih, Nat.testBit_two_pow]
      by_cases z : i = k
      · subst z; rw [q]; simp
      · have : (i < k + 1) ↔ i < k := by omega
        have e : ¬ k = i := fun w => z w.symm
        simp [this, e]
    · rw [if_neg q, ih]
      by_cases z : i = k
      · subst z; rw [Bool.eq_false_iff.mpr q]; simp
      · have : (i < k + 1) ↔ i < k := by omega
        simp [this]
theorem sb_one (cu : Nat) {j : Nat} : ∀ k, (∀ i, i < pc cu k → j.testBit i = true) → sb cu j k = md cu k
  | 0, _ => rfl
  | k + 1, h => by
    have hs := pc_s cu k
    have ih := sb_one cu k (fun i hi => h i (by rw [hs]; omega))
    rw [sb, md, ih]
    by_cases q : cu.testBit k = true
    · rw [q, Bool.true_and, h (pc cu k) (by rw [hs, if_pos q]; omega)]
    · rw [Bool.eq_false_iff.mpr q, Bool.false_and]
theorem sb_zero (cu : Nat) {j : Nat} : ∀ k, (∀ i, i < pc cu k → j.testBit i = false) → sb cu j k = 0
  | 0, _ => rfl
  | k + 1, h => by
    have hs := pc_s cu k
    have ih := sb_zero cu k (fun i hi => h i (by rw [hs]; omega))
    rw [sb, ih]
    by_cases q : cu.testBit k = true
    · rw [q, Bool.true_and, h (pc cu k) (by rw [hs, if_pos q]; omega)]; rfl
    · rw [Bool.eq_false_iff.mpr q, Bool.false_and]; rfl
theorem and_hi {x y k : Nat} (hx : x < 2 ^ k) : x &&& (y + 2 ^ k) = x &&& (y + 2 ^ k) % 2 ^ k := by
  apply Nat.eq_of_testBit_eq
  intro i
  rw [Nat.testBit_and, Nat.testBit_and, Nat.testBit_mod_two_pow]
  by_cases z : i < k
  · simp [z]
  · rw [Nat.testBit_lt_two_pow (Nat.lt_of_lt_of_le hx (Nat.pow_le_pow_right (by omega) (by omega)))]; simp
theorem and_lo {x y k : Nat} (hx : x < 2 ^ k) (hy : y < 2 ^ k) : x &&& (y + 2 ^ k) = x &&& y := by
  rw [and_hi hx, Nat.add_mod_right, Nat.mod_eq_of_lt hy]
theorem and_both {x y k : Nat} (hx : x < 2 ^ k) (hy : y < 2 ^ k) : (x + 2 ^ k) &&& (y + 2 ^ k) = (x &&& y) + 2 ^ k := by
  have hxy : x &&& y < 2 ^ k := Nat.lt_of_le_of_lt Nat.and_le_left hx
  rw [← or_pow hx, ← or_pow hy, ← or_pow hxy]
  apply Nat.eq_of_testBit_eq
  intro i
  rw [Nat.testBit_and, Nat.testBit_or, Nat.testBit_or, Nat.testBit_or, Nat.testBit_and]
  cases x.testBit i <;> cases y.testBit i <;> cases (2 ^ k).testBit i <;> rfl
/-- the next lesser subset -/
theorem sb_step (cu : Nat) : ∀ k j, j + 1 < 2 ^ pc cu k → 1 ≤ sb cu (j + 1) k ∧ (sb cu (j + 1) k - 1) &&& md cu k = sb cu j k
  | 0, j, h => by
    have : pc cu 0 = 0 := rfl
    rw [this] at h; omega
  | k + 1, j, h => by
    have hs := pc_s cu k
    have ih := sb_step cu k
    have ml := md_lt cu k
    by_cases q : cu.testBit k = true
    · rw [if_pos q] at hs
      rw [hs, Nat.pow_succ] at h
      have em : md cu (k + 1) = md cu k + 2 ^ k := by rw [md, if_pos q]
      have e : ∀ x, sb cu x (k + 1) = if x.testBit (pc cu k) then sb cu x k + 2 ^ k else sb cu x k := fun x => by rw [sb, q, Bool.true_and]
      have p2 := Nat.two_pow_pos (pc cu k)
      rcases Nat.lt_trichotomy (j + 1) (2 ^ pc cu k) with z | z | z
      · have t1 : (j + 1).testBit (pc cu k) = false := Nat.testBit_lt_two_pow z
        have t2 : j.testBit (pc cu k) = false := Nat.testBit_lt_two_pow (by omega)
        have i1 := ih j z
        rw [e, e, t1, t2, em]
        have sl := sb_lt cu (j + 1) k
        refine ⟨i1.1, ?_⟩
        show (sb cu (j + 1) k - 1) &&& (md cu k + 2 ^ k) = sb cu j k
        rw [and_lo (by omega) ml, i1.2]
      · have t1 : (j + 1).testBit (pc cu k) = true := by rw [z, Nat.testBit_two_pow_self]
        have t2 : j.testBit (pc cu k) = false := Nat.testBit_lt_two_pow (by omega)
        rw [e, e, t1, t2, em]
        have z0 : sb cu (j + 1) k = 0 := sb_zero cu k (fun i hi => by rw [z, Nat.testBit_two_pow]; exact decide_eq_false (by omega))
        have z1 : sb cu j k = md cu k := sb_one cu k (fun i hi => by
          rw [show j = 2 ^ pc cu k - 1 by omega, Nat.testBit_two_pow_sub_one]; exact decide_eq_true hi)
        rw [z0, z1]
        refine ⟨by show 1 ≤ 0 + 2 ^ k; have := Nat.two_pow_pos k; omega, ?_⟩
        show (0 + 2 ^ k - 1) &&& (md cu k + 2 ^ k) = md cu k
        have pk2 := Nat.two_pow_pos k
        rw [and_lo (by omega) ml, Nat.zero_add, Nat.and_comm, Nat.and_two_pow_sub_one_eq_mod, Nat.mod_eq_of_lt ml]
      · obtain ⟨d, hd⟩ : ∃ d, j = 2 ^ pc cu k + d := ⟨j - 2 ^ pc cu k, by omega⟩
        have hd1 : d + 1 < 2 ^ pc cu k := by omega
        have i1 := ih d hd1
        have t1 : (j + 1).testBit (pc cu k) = true := by
          rw [hd, Nat.add_assoc, Nat.testBit_two_pow_add_eq, Nat.testBit_lt_two_pow hd1]; rfl
        have t2 : j.testBit (pc cu k) = true := by
          rw [hd, Nat.testBit_two_pow_add_eq, Nat.testBit_lt_two_pow (show d < 2 ^ pc cu k by omega)]; rfl
        have s1 : sb cu (j + 1) k = sb cu (d + 1) k := sb_low cu k (fun i hi => by rw [hd, Nat.add_assoc, lo_tb hi])
        have s2 : sb cu j k = sb cu d k := sb_low cu k (fun i hi => by rw [hd, lo_tb hi])
        rw [e, e, t1, t2, em, s1, s2]
        have sl := sb_lt cu (d + 1) k
        refine ⟨by show 1 ≤ sb cu (d + 1) k + 2 ^ k; omega, ?_⟩
        show (sb cu (d + 1) k + 2 ^ k - 1) &&& (md cu k + 2 ^ k) = sb cu d k + 2 ^ k
        rw [show sb cu (d + 1) k + 2 ^ k - 1 = (sb cu (d + 1) k - 1) + 2 ^ k by have := i1.1; omega, and_both (by omega) ml, i1.2]
    · rw [if_neg q, Nat.add_zero] at hs
      rw [hs] at h
      have e : ∀ x, sb cu x (k + 1) = sb cu x k := fun x => by rw [sb, Bool.eq_false_iff.mpr q, Bool.false_and]; rfl
      have em : md cu (k + 1) = md cu k := by rw [md, if_neg q]
      rw [e, e, em]
      exact ih j h
theorem md_self {cu k : Nat} (h : cu < 2 ^ k) : md cu k = cu := by
  apply Nat.eq_of_testBit_eq
  intro i
  rw [md_tb]
  by_cases z : i < k
  · rw [decide_eq_true z, Bool.true_and]
  · rw [decide_eq_false z, Bool.false_and, Nat.testBit_lt_two_pow (Nat.lt_of_lt_of_le h (Nat.pow_le_pow_right (by omega) (by omega)))]
/-- the odds of a subset -/
def od (p cu j : Nat) : Nat → Nat
  | 0 => 1
  | k + 1 => if cu.testBit k then od p cu j k * (if j.testBit (pc cu k) then 10 - p else p) else od p cu j k
theorem od_low (p cu : Nat) {j j' : Nat} : ∀ k, (∀ i, i < pc cu k → j.testBit i = j'.testBit i) → od p cu j k = od p cu j' k
  | 0, _ => rfl
  | k + 1, h => by
    have hs := pc_s cu k
    have ih := od_low p cu k (fun i hi => h i (by rw [hs]; omega))
    rw [od, od, ih]
    by_cases q : cu.testBit k = true
    · rw [if_pos q, if_pos q, h (pc cu k) (by rw [hs, if_pos q]; omega)]
    · rw [if_neg q, if_neg q]
theorem sm_mul (f : Nat → Nat) (c : Nat) : ∀ n, fb_sm (fun k => f k * c) n = fb_sm f n * c
  | 0 => (Nat.zero_mul c).symm
  | n + 1 => by rw [fb_sm_succ, fb_sm_succ, sm_mul f c n, Nat.add_mul]
theorem od_sum {p cu : Nat} (hp : p ≤ 10) : ∀ k, fb_sm (fun j => od p cu j k) (2 ^ pc cu k) = 10 ^ pc cu k
  | 0 => rfl
  | k + 1 => by
    have hs := pc_s cu k
    have ih := od_sum (cu := cu) hp k
    by_cases q : cu.testBit k = true
    · rw [if_pos q] at hs
      rw [hs, Nat.pow_succ, Nat.mul_two, fb_sm_split, Nat.pow_succ]
      have a : fb_sm (fun j => od p cu j (k + 1)) (2 ^ pc cu k) = fb_sm (fun j => od p cu j k * p) (2 ^ pc cu k) := fb_sm_cong fun j hj => by
        show od p cu j (k + 1) = od p cu j k * p
        rw [od, if_pos q, Nat.testBit_lt_two_pow hj]; rfl
      have b : fb_sm (fun j => od p cu (2 ^ pc cu k + j) (k + 1)) (2 ^ pc cu k) = fb_sm (fun j => od p cu j k * (10 - p)) (2 ^ pc cu k) := fb_sm_cong fun j hj => by
        show od p cu (2 ^ pc cu k + j) (k + 1) = od p cu j k * (10 - p)
        rw [od, if_pos q, Nat.testBit_two_pow_add_eq, Nat.testBit_lt_two_pow hj, od_low p cu k (fun i hi => lo_tb hi)]; rfl
      rw [a, b, sm_mul, sm_mul, ih, ← Nat.mul_add]
      congr 1
      omega
    · rw [if_neg q] at hs
      have hs' : pc cu (k + 1) = pc cu k := hs
      rw [hs', ← ih]
      exact fb_sm_cong fun j hj => by
        show od p cu j (k + 1) = od p cu j k
        rw [od, if_neg q]
theorem od_e {p cu j : Nat} {K : Nat} : ∀ k, k ≤ K → pc (sb cu j K) k ≤ pc cu k ∧ od p cu j k = p ^ (pc cu k - pc (sb cu j K) k) * (10 - p) ^ pc (sb cu j K) k
  | 0, _ => ⟨Nat.le_refl _, rfl⟩
  | k + 1, hk => by
    obtain ⟨i1, i2⟩ := od_e (p := p) (cu := cu) (j := j) (K := K) k (by omega)
    have hs := pc_s cu k
    have ht := pc_s (sb cu j K) k
    rw [sb_tb, decide_eq_true (show k < K by omega), Bool.true_and] at ht
    rw [od, i2]
    by_cases q : cu.testBit k = true
    · rw [if_pos q] at hs
      rw [q, Bool.true_and] at ht
      rw [if_pos q]
      by_cases z : j.testBit (pc cu k) = true
      · rw [if_pos z] at ht
        rw [if_pos z, hs, ht]
        refine ⟨by omega, ?_⟩
        rw [show pc cu k + 1 - (pc (sb cu j K) k + 1) = pc cu k - pc (sb cu j K) k by omega, Nat.pow_succ (10 - p), Nat.mul_assoc]
      · rw [if_neg z] at ht
        rw [if_neg z, hs, ht, Nat.add_zero]
        refine ⟨by omega, ?_⟩
        rw [show pc cu k + 1 - pc (sb cu j K) k = (pc cu k - pc (sb cu j K) k) + 1 by omega, Nat.pow_succ p, Nat.mul_assoc, Nat.mul_assoc, Nat.mul_comm p]
    · rw [if_neg q, Nat.add_zero] at hs
      rw [Bool.eq_false_iff.mpr q, Bool.false_and] at ht
      rw [if_neg q, hs, ht]
      exact ⟨i1, rfl⟩
theorem sm_rev (f : Nat → Nat) : ∀ n, fb_sm (fun i => f (n - 1 - i)) n = fb_sm f n
  | 0 => rfl
  | n + 1 => by
    have ih := sm_rev (fun k => f (1 + k)) n
    rw [Nat.add_comm n 1, fb_sm_split f 1 n, ← ih, Nat.add_comm 1 n, fb_sm_succ]
    have a : fb_sm (fun i => f (n + 1 - 1 - i)) n = fb_sm (fun i => f (1 + (n - 1 - i))) n := fb_sm_cong fun i hi => by
      show f (n + 1 - 1 - i) = f (1 + (n - 1 - i))
      rw [show n + 1 - 1 - i = 1 + (n - 1 - i) by omega]
    rw [a, Nat.add_comm]
    congr 1
    show f (n + 1 - 1 - n) = 0 + f 0
    rw [show n + 1 - 1 - n = 0 by omega, Nat.zero_add]
/-! the greatest common divisor, step by step -/
theorem lz0 : lg_cmp (lN 0) (0 : Int64) = (0 : Int32) := (lg_cmp_eq _ _).mpr rfl
theorem mod_half {a r : Nat} (h0 : 0 < r) (h : r ≤ a) : a % r + r ≤ a := by
  have e := Nat.div_add_mod a r
  have d : 1 ≤ a / r := (Nat.one_le_div_iff h0).mpr h
  have m : r * 1 ≤ r * (a / r) := Nat.mul_le_mul_left r d
  omega
theorem hc_gcd (m : am_Mm) : ∀ k a b i f, a < 2 ^ 62 → b < 2 ^ k → k ≤ 62 → i + (2 * k + 1) ≤ 1000 → 2 * k + 1 < f → f_C_sharedBy_b9 f (lN a) (lN b) (nI i) m = some (lN (Nat.gcd b a), m) := by
  intro k
  induction k with
  | zero =>
    intro a b i f ha hb hk hi hf
    obtain ⟨f, rfl⟩ : ∃ z, f = z + 1 := ⟨f - 1, by omega⟩
    have hb : b = 0 := by omega
    subst hb
    rw [f_C_sharedBy_b9, if_neg (show ¬ (1000 : Int32) ≤ nI i from nI_ge (show i < 1000 by omega) (by decide)), if_pos lz0, Nat.gcd_zero_left]
    rfl
  | succ k ih =>
    intro a b i f ha hb hk hi hf
    obtain ⟨f, rfl⟩ : ∃ z, f = z + 1 := ⟨f - 1, by omega⟩
    have hb62 : b < 2 ^ 62 := Nat.lt_of_lt_of_le hb (Nat.pow_le_pow_right (by omega) hk)
    rw [f_C_sharedBy_b9, if_neg (show ¬ (1000 : Int32) ≤ nI i from nI_ge (show i < 1000 by omega) (by decide))]
    by_cases b0 : b = 0
    · subst b0
      rw [if_pos lz0, Nat.gcd_zero_left]; rfl
    · have nb0 : ¬ lN b = (0 : Int64) := fun z => b0 ((pk_lEQ (a := b) (b := 0) (by omega) (by omega)).mp z)
      rw [if_neg (fun z => nb0 ((lg_cmp_eq _ _).mp z)), if_neg nb0]
      unfold am_remL
      rw [pk_lRem (by omega) (by omega) (by omega), nI_1]
      obtain ⟨f, rfl⟩ : ∃ z, f = z + 1 := ⟨f - 1, by omega⟩
      have hr := Nat.mod_lt a (show 0 < b by omega)
      rw [f_C_sharedBy_b9, if_neg (show ¬ (1000 : Int32) ≤ nI (i + 1) from nI_ge (show i + 1 < 1000 by omega) (by decide))]
      by_cases r0 : a % b = 0
      · rw [r0, if_pos lz0, Nat.gcd_eq_left (Nat.dvd_of_mod_eq_zero r0)]; rfl
      · have nr0 : ¬ lN (a % b) = (0 : Int64) := fun z => r0 ((pk_lEQ (a := a % b) (b := 0) (by omega) (by omega)).mp z)
        rw [if_neg (fun z => nr0 ((lg_cmp_eq _ _).mp z)), if_neg nr0]
        unfold am_remL
        have hh := mod_half (a := b) (r := a % b) (by omega) (by omega)
        have hr2 := Nat.mod_lt b (show 0 < a % b by omega)
        rw [pk_lRem (by omega) (by omega) (by omega), nI_1, ih (a % b) (b % (a % b)) (i + 1 + 1) f (by omega) (by rw [Nat.pow_succ] at hb; omega) (by omega) (by omega) (by omega)]
        rw [Nat.gcd_rec b a, ← Nat.gcd_rec (a % b) b]
theorem hm_gcd (m : am_Mm) (x3 : Int32) (x6 x8 : Int64) : ∀ k a b f, a < 2 ^ 62 → b < 2 ^ k → k ≤ 62 → 2 * k + 1 < f → f_M_lost_b236 f x3 x6 x8 (lN a) (lN b) m = if x3 = (0 : Int32) then f_M_lost_b272 (lN (Nat.gcd b a)) x6 m else f_M_lost_b272 (lN (Nat.gcd b a)) x8 m := by
  intro k
  induction k with
  | zero =>
    intro a b f ha hb hk hf
    obtain ⟨f, rfl⟩ : ∃ z, f = z + 1 := ⟨f - 1, by omega⟩
    have hb : b = 0 := by omega
    subst hb
    rw [f_M_lost_b236, if_pos lz0, Nat.gcd_zero_left]
  | succ k ih =>
    intro a b f ha hb hk hf
    obtain ⟨f, rfl⟩ : ∃ z, f = z + 1 := ⟨f - 1, by omega⟩
    have hb62 : b < 2 ^ 62 := Nat.lt_of_lt_of_le hb (Nat.pow_le_pow_right (by omega) hk)
    rw [f_M_lost_b236]
    by_cases b0 : b = 0
    · subst b0
      rw [if_pos lz0, Nat.gcd_zero_left]
    · have nb0 : ¬ lN b = (0 : Int64) := fun z => b0 ((pk_lEQ (a := b) (b := 0) (by omega) (by omega)).mp z)
      rw [if_neg (fun z => nb0 ((lg_cmp_eq _ _).mp z)), if_neg nb0]
      unfold am_remL
      rw [pk_lRem (by omega) (by omega) (by omega)]
      obtain ⟨f, rfl⟩ : ∃ z, f = z + 1 := ⟨f - 1, by omega⟩
      have hr := Nat.mod_lt a (show 0 < b by omega)
      rw [f_M_lost_b236]
      by_cases r0 : a % b = 0
      · rw [r0, if_pos lz0, Nat.gcd_eq_left (Nat.dvd_of_mod_eq_zero r0)]
      · have nr0 : ¬ lN (a % b) = (0 : Int64) := fun z => r0 ((pk_lEQ (a := a % b) (b := 0) (by omega) (by omega)).mp z)
        rw [if_neg (fun z => nr0 ((lg_cmp_eq _ _).mp z)), if_neg nr0]
        unfold am_remL
        have hh := mod_half (a := b) (r := a % b) (by omega) (by omega)
        have hr2 := Nat.mod_lt b (show 0 < a % b by omega)
        rw [pk_lRem (by omega) (by omega) (by omega), ih (a % b) (b % (a % b)) f (by omega) (by rw [Nat.pow_succ] at hb; omega) (by omega) (by omega)]
        rw [Nat.gcd_rec b a, ← Nat.gcd_rec (a % b) b]
theorem hc_pow {p t : Nat} (hp : p ≤ 10) (ht : t ≤ 30) (m : am_Mm) : f_C_power (nI p) (nI t) m = some (lN (p ^ t), m) := by
  have L : ∀ s k f, k + s = t → s < f → f_C_power_b5 f (nI p) (nI t) (lN (p ^ k)) (nI k) m = some (lN (p ^ t), m) := by
    intro s
    induction s with
    | zero =>
      intro k f hk hf
      obtain ⟨f, rfl⟩ : ∃ z, f = z + 1 := ⟨f - 1, by omega⟩
      have hk : k = t := by omega
      subst hk
      rw [f_C_power_b5, if_pos (nI_le (Nat.le_refl _) (by omega))]
    | succ s ih =>
      intro k f hk hf
      obtain ⟨f, rfl⟩ : ∃ z, f = z + 1 := ⟨f - 1, by omega⟩
      rw [f_C_power_b5, if_neg (nI_ge (by omega) (by omega)), nI_l (by omega), lN_mul, nI_1, ← Nat.pow_succ]
      exact ih (k + 1) f (by omega) (by omega)
  have := L t 0 am_F (by omega) (by show t < 5000; omega)
  exact this
