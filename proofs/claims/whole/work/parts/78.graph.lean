/-! ===== cuttings and flips ===== -/
def Tr3 (n cu : Nat) : Prop := cu_V n cu ∧ pc cu 30 = n - 3
def Ed (n u t : Nat) : Prop := ∃ i j, i < cu_N n ∧ fl n u i = some j ∧ t = nd u (2 ^ i) ||| 2 ^ j
theorem Ed_T {n u t : Nat} (h : 4 ≤ n) (h9 : n ≤ 9) (hu : Tr3 n u) (he : Ed n u t) : Tr3 n t := by
  obtain ⟨i, j, hi, hf, rfl⟩ := he
  exact ⟨(fl_ok h h9 hu.1 hi hf).2.2.2, by rw [fl_pc h h9 hu.1 hi hf]; exact hu.2⟩
theorem jo_keep {n cu i j c d : Nat} (h : 4 ≤ n) (h9 : n ≤ 9) (hi : i < cu_N n) (hj : jo n cu c d = true) (hne : ¬ (c = cu_a n i ∧ d = cu_b n i) ∧ ¬ (d = cu_a n i ∧ c = cu_b n i)) : jo n (nd cu (2 ^ i) ||| 2 ^ j) c d = true := by
  rcases jo_iff.mp hj with q | q | q | q | q
  · exact jo_iff.mpr (Or.inl q)
  · exact jo_iff.mpr (Or.inr (Or.inl q))
  · exact jo_iff.mpr (Or.inr (Or.inr (Or.inl q)))
  · exact jo_iff.mpr (Or.inr (Or.inr (Or.inr (Or.inl q))))
  · obtain ⟨k, hk, hb, e⟩ := (lk_ex h h9).mp q
    refine jo_iff.mpr (Or.inr (Or.inr (Or.inr (Or.inr ((lk_ex h h9).mpr ⟨k, hk, ?_, e⟩)))))
    have ki : k ≠ i := fun z => by subst z; omega
    rw [Nat.testBit_or, nd_tb, hb, Nat.testBit_two_pow, decide_eq_false (show ¬ i = k from fun z => ki z.symm)]
    rfl
theorem lastc_of {P : Nat → Bool} {n c : Nat} (hc : c < n) (hP : P c = true) (one : ∀ d, d < n → P d = true → d = c) : lastc P n = some c := by
  cases e : lastc P n with
  | none =>
    have := lastc_none e c hc
    rw [hP] at this; cases this
  | some d =>
    have := lastc_some e
    rw [one d this.1 this.2]
theorem Ed_sym {n u t : Nat} (h : 4 ≤ n) (h9 : n ≤ 9) (hu : Tr3 n u) (he : Ed n u t) : Ed n t u := by
  obtain ⟨i, j, hi, hf, rfl⟩ := he
  have hv := hu.1
  obtain ⟨hj, hb, hX, hv'⟩ := fl_ok h h9 hv hi hf
  have hjn : u.testBit j = false := Bool.eq_false_iff.mpr fun q => by
    have := hv.2 i j hi hj hb q
    rw [hX] at this; cases this
  have hab := cu_ab h h9 hi
  have jab := cu_ab h h9 hj
  have ij : i ≠ j := fun z => by subst z; rw [cu_x_irr] at hX; cases hX
  refine ⟨j, i, hj, ?_, ?_⟩
  · -- the tips
    unfold fl at hf
    rw [if_pos hb] at hf
    cases ex : lastc (inn n u i) n with
    | none => rw [ex] at hf; cases hf
    | some x =>
      cases ey : lastc (out n u i) n with
      | none => rw [ex, ey] at hf; cases hf
      | some y =>
        rw [ex, ey] at hf
        have ej : nb n (min x y) (max x y) = j := by injection hf
        have hx := lastc_some ex
        have hy := lastc_some ey
        unfold inn at hx
        unfold out at hy
        simp only [Bool.and_eq_true, Bool.or_eq_true, decide_eq_true_eq] at hx hy
        obtain ⟨xn, ⟨⟨x1, x2⟩, x3⟩, x4⟩ := hx
        obtain ⟨yn, ⟨y1, y3⟩, y4⟩ := hy
        have hm : may n (min x y) (max x y) = true := may_iff.mpr ⟨by omega, by omega, by omega⟩
        have hnb := cu_nb h h9 hm
        rw [ej] at hnb
        have k1 := jo_keep (j := j) h h9 hi x3 (by omega)
        have k2 := jo_keep (j := j) h h9 hi x4 (by omega)
        have k3 := jo_keep (j := j) h h9 hi y3 (by omega)
        have k4 := jo_keep (j := j) h h9 hi y4 (by omega)
        have tbj : (nd u (2 ^ i) ||| 2 ^ j).testBit j = true := by rw [Nat.testBit_or, Nat.testBit_two_pow_self, Bool.or_true]
        generalize hw : nd u (2 ^ i) ||| 2 ^ j = w at *
        have s1 := k1
        have s2 := k2
        have s3 := k3
        have s4 := k4
        rw [jo_sym] at s1 s2 s3 s4
        unfold fl
        rw [if_pos tbj]
        rcases y1 with y1 | y1
        · -- y < a < x < b
          have ea : cu_a n j = y := by rw [hnb.2.1, Nat.min_eq_right (by omega)]
          have eb : cu_b n j = x := by rw [hnb.2.2, Nat.max_eq_left (by omega)]
          have in1 : inn n w j (cu_a n i) = true := by
            unfold inn
            rw [ea, eb, decide_eq_true y1, decide_eq_true x1, s3, s1]; rfl
          have out1 : out n w j (cu_b n i) = true := by
            unfold out
            rw [ea, eb, decide_eq_true (show x < cu_b n i from x2), s4, s2]; simp
          rw [lastc_of (show cu_a n i < n by omega) in1 (fun d hd q => inn_one h h9 hv' hj q in1), lastc_of hab.2.1 out1 (fun d hd q => out_one h h9 hv' hj hd hab.2.1 q out1)]
          show some (nb n (min (cu_a n i) (cu_b n i)) (max (cu_a n i) (cu_b n i))) = some i
          rw [Nat.min_eq_left (by omega), Nat.max_eq_right (by omega), hab.2.2.2]
        · -- a < x < b < y
          have ea : cu_a n j = x := by rw [hnb.2.1, Nat.min_eq_left (by omega)]
          have eb : cu_b n j = y := by rw [hnb.2.2, Nat.max_eq_right (by omega)]
          have in1 : inn n w j (cu_b n i) = true := by
            unfold inn
            rw [ea, eb, decide_eq_true x2, decide_eq_true y1, s2, s4]; rfl
          have out1 : out n w j (cu_a n i) = true := by
            unfold out
            rw [ea, eb, decide_eq_true (show cu_a n i < x from x1), s1, s3]; simp
          rw [lastc_of hab.2.1 in1 (fun d hd q => inn_one h h9 hv' hj q in1), lastc_of (show cu_a n i < n by omega) out1 (fun d hd q => out_one h h9 hv' hj hd (by omega) q out1)]
          show some (nb n (min (cu_b n i) (cu_a n i)) (max (cu_b n i) (cu_a n i))) = some i
          rw [Nat.min_eq_right (by omega), Nat.max_eq_left (by omega), hab.2.2.2]
  · apply Nat.eq_of_testBit_eq
    intro k
    rw [Nat.testBit_or, nd_tb, Nat.testBit_or, nd_tb, Nat.testBit_two_pow, Nat.testBit_two_pow]
    by_cases z1 : i = k
    · subst z1; rw [hb]; simp
    · by_cases z2 : j = k
      · subst z2; rw [hjn]; simp [ij]
      · simp [z1, z2]
/-- within k flips -/
def Rk (n : Nat) : Nat → Nat → Nat → Prop
  | 0, s, t => s = t
  | k + 1, s, t => Rk n k s t ∨ ∃ u, Rk n k s u ∧ Ed n u t
theorem Rk_T {n s : Nat} (h : 4 ≤ n) (h9 : n ≤ 9) (hs : Tr3 n s) : ∀ k t, Rk n k s t → Tr3 n t
  | 0, t, q => by
    have q : s = t := q
    subst q; exact hs
  | k + 1, t, q => by
    rcases q with q | ⟨u, q1, q2⟩
    · exact Rk_T h h9 hs k t q
    · exact Ed_T h h9 (Rk_T h h9 hs k u q1) q2
theorem Rk_up {n s t k : Nat} (q : Rk n k s t) : ∀ d, Rk n (k + d) s t
  | 0 => q
  | d + 1 => Or.inl (Rk_up q d)
theorem Rk_mono {n s t k l : Nat} (hkl : k ≤ l) (q : Rk n k s t) : Rk n l s t := by
  have := Rk_up q (l - k)
  rwa [show k + (l - k) = l by omega] at this
theorem Rk_tr {n s u : Nat} {a : Nat} (q : Rk n a s u) : ∀ b t, Rk n b u t → Rk n (a + b) s t
  | 0, t, w => by
    have w : u = t := w
    subst w; exact q
  | b + 1, t, w => by
    rcases w with w | ⟨v, w1, w2⟩
    · exact Or.inl (Rk_tr q b t w)
    · exact Or.inr ⟨v, Rk_tr q b v w1, w2⟩
theorem Rk_sym {n s : Nat} (h : 4 ≤ n) (h9 : n ≤ 9) (hs : Tr3 n s) : ∀ k t, Rk n k s t → Rk n k t s
  | 0, t, q => by
    have q : s = t := q
    exact q.symm
  | k + 1, t, q => by
    rcases q with q | ⟨u, q1, q2⟩
    · exact Or.inl (Rk_sym h h9 hs k t q)
    · have hu := Rk_T h h9 hs k u q1
      have e : Rk n 1 t u := Or.inr ⟨t, rfl, Ed_sym h h9 hu q2⟩
      have := Rk_tr e k s (Rk_sym h h9 hs k u q1)
      rwa [Nat.add_comm] at this
/-- all come to the fan -/
def fanP (n cu : Nat) : Bool := bif Nat.beq (pc cu 27) (Nat.sub n 3) then (bif Nat.beq (pc cu (Nat.sub n 3)) (Nat.sub n 3) then Nat.beq cu (Nat.sub (Nat.pow 2 (Nat.sub n 3)) 1) else (List.range (cu_N n)).any fun i => bif Nat.ble (Nat.sub n 3) i then (match fl n cu i with | some j => Nat.blt j (Nat.sub n 3) | none => false) else false) else true
theorem fan_g : ((List.range 10).all fun n => bif Nat.ble 4 n then cu_chk (tb_x n) (fanP n) (cu_N n) 0 else true) = true := by decide +kernel
theorem fan_e {n cu : Nat} (h : 4 ≤ n) (h9 : n ≤ 9) (hu : Tr3 n cu) : (pc cu (n - 3) = n - 3 ∧ cu = 2 ^ (n - 3) - 1) ∨ ∃ i j, i < cu_N n ∧ n - 3 ≤ i ∧ fl n cu i = some j ∧ j < n - 3 := by
  have q := cu_each (P := fanP) fan_g h h9 hu.1
  have e27 : pc cu 27 = n - 3 := by
    have := hu.2
    rwa [pc_30 (n := 27) (by omega) (cu_V_lt h h9 hu.1)] at this
  unfold fanP at q
  rw [e27, show Nat.beq (n - 3) (Nat.sub n 3) = true from Nat.beq_refl _] at q
  have q : (bif Nat.beq (pc cu (n - 3)) (n - 3) then Nat.beq cu (2 ^ (n - 3) - 1) else (List.range (cu_N n)).any fun i => bif Nat.ble (n - 3) i then (match fl n cu i with | some j => Nat.blt j (n - 3) | none => false) else false) = true := q
  by_cases z : Nat.beq (pc cu (n - 3)) (n - 3) = true
  · rw [z] at q
    exact Or.inl ⟨Nat.eq_of_beq_eq_true z, Nat.eq_of_beq_eq_true q⟩
  · rw [Bool.eq_false_iff.mpr z] at q
    right
    have q : ((List.range (cu_N n)).any fun i => bif Nat.ble (n - 3) i then (match fl n cu i with | some j => Nat.blt j (n - 3) | none => false) else false) = true := q
    rw [List.any_eq_true] at q
    obtain ⟨i, hi, w⟩ := q
    by_cases w1 : Nat.ble (n - 3) i = true
    · rw [w1] at w
      have w : (match fl n cu i with | some j => Nat.blt j (n - 3) | none => false) = true := w
      cases hf : fl n cu i with
      | none => rw [hf] at w; cases w
      | some j =>
        rw [hf] at w
        have w : Nat.ble (j + 1) (n - 3) = true := w
        exact ⟨i, j, List.mem_range.mp hi, Nat.ble_eq.mp w1, hf, Nat.ble_eq.mp w⟩
    · rw [Bool.eq_false_iff.mpr w1] at w; cases w
theorem to_fan {n : Nat} (h : 4 ≤ n) (h9 : n ≤ 9) : ∀ d cu, Tr3 n cu → n - 3 ≤ pc cu (n - 3) + d → Rk n d cu (2 ^ (n - 3) - 1)
  | 0, cu, hu, hd => by
    rcases fan_e h h9 hu with ⟨_, e⟩ | ⟨i, j, hi, i3, hf, hj⟩
    · exact e
    · exfalso
      obtain ⟨hjN, hb, hX, _⟩ := fl_ok h h9 hu.1 hi hf
      have h27 := cu_N27 h h9
      have m1 := pc_mono cu (show n - 3 ≤ i by omega)
      have s1 := pc_s cu i
      rw [if_pos hb] at s1
      have m2 := pc_mono cu (show i + 1 ≤ 30 by omega)
      have := hu.2
      omega
  | d + 1, cu, hu, hd => by
    rcases fan_e h h9 hu with ⟨_, e⟩ | ⟨i, j, hi, i3, hf, hj⟩
    · rw [e]
      exact Rk_mono (Nat.zero_le _) (show Rk n 0 _ _ from rfl)
    · obtain ⟨hjN, hb, hX, _⟩ := fl_ok h h9 hu.1 hi hf
      have he : Ed n cu (nd cu (2 ^ i) ||| 2 ^ j) := ⟨i, j, hi, hf, rfl⟩
      have hjn : cu.testBit j = false := Bool.eq_false_iff.mpr fun q => by
        have := hu.1.2 i j hi hjN hb q
        rw [hX] at this; cases this
      have e1 : (nd cu (2 ^ i)).testBit j = false := by rw [nd_tb, hjn]; rfl
      have e2 := pc_nd cu i hb (n - 3)
      rw [if_neg (by omega)] at e2
      have e3 := pc_or _ _ e1 (n - 3)
      rw [if_pos hj] at e3
      have := to_fan h h9 d _ (Ed_T h h9 hu he) (by omega)
      have r1 : Rk n 1 cu (nd cu (2 ^ i) ||| 2 ^ j) := Or.inr ⟨cu, rfl, he⟩
      have := Rk_tr r1 d _ this
      rwa [Nat.add_comm] at this
theorem conn {n s t : Nat} (h : 4 ≤ n) (h9 : n ≤ 9) (hs : Tr3 n s) (ht : Tr3 n t) : Rk n 12 s t := by
  have a := to_fan h h9 6 s hs (by omega)
  have b := to_fan h h9 6 t ht (by omega)
  exact Rk_tr a 6 t (Rk_sym h h9 ht 6 _ b)
/-! how many cuttings there are -/
def cnt (X : Nat → Nat) (P : Nat → Bool) : Nat → Nat → Nat
  | 0, acc => bif P acc then 1 else 0
  | k + 1, acc => Nat.add (cnt X P k acc) (bif Nat.beq (Nat.land acc (X k)) 0 then cnt X P k (Nat.add acc (Nat.pow 2 k)) else 0)
theorem fl_len (p : Nat → Bool) : ∀ l : List Nat, l.length = (l.filter p).length + (l.filter fun x => !p x).length
  | [] => rfl
  | a :: l => by
    have ih := fl_len p l
    by_cases q : p a = true
    · rw [List.filter_cons_of_pos q, List.filter_cons_of_neg (by simp [q]), List.length_cons, List.length_cons]; omega
    · rw [List.filter_cons_of_neg q, List.filter_cons_of_pos (by simp [q]), List.length_cons, List.length_cons]; omega
theorem cnt_all {n : Nat} {X : Nat → Nat} {P : Nat → Bool} (hX : ∀ k, k < cu_N n → X k = cu_acr n k) : ∀ k acc, k ≤ cu_N n → acc % 2 ^ k = 0 → ∀ l : List Nat, l.Nodup → (∀ x, x ∈ l → P x = true ∧ cu_V n x ∧ acc ≤ x ∧ x < acc + 2 ^ k) → l.length ≤ cnt X P k acc := by
  intro k
  induction k with
  | zero =>
    intro acc _ _ l hn hl
    have all : ∀ x, x ∈ l → x = acc := fun x hx => by have := hl x hx; omega
    rw [cnt]
    match l, hn, hl, all with
    | [], _, _, _ => exact Nat.zero_le _
    | [a], _, hl, all =>
      have e := all a (List.mem_cons_self)
      have p := (hl a (List.mem_cons_self)).1
      rw [e] at p
      rw [p]; exact Nat.le_refl _
    | a :: b :: l, hn, _, all =>
      have e1 := all a (List.mem_cons_self)
      have e2 := all b (List.mem_cons_of_mem _ (List.mem_cons_self))
      have := (List.nodup_cons.mp hn).1
      rw [e1, e2] at this
      exact absurd (List.mem_cons_self) this
  | succ k ih =>
    intro acc hk hacc l hn hl
    have h0 : acc % 2 ^ k = 0 := by
      rw [Nat.pow_succ] at hacc
      exact Nat.mod_eq_zero_of_dvd (Nat.dvd_trans ⟨2, rfl⟩ (Nat.dvd_of_mod_eq_zero hacc))
    have sp : l.length = (l.filter fun x => decide (x < acc + 2 ^ k)).length + (l.filter fun x => !decide (x < acc + 2 ^ k)).length := by
      exact fl_len (fun x => decide (x < acc + 2 ^ k)) l
    have a1 := ih acc (by omega) h0 (l.filter fun x => decide (x < acc + 2 ^ k)) (hn.filter _) (fun x hx => by
      rw [List.mem_filter, decide_eq_true_eq] at hx
      have := hl x hx.1
      exact ⟨this.1, this.2.1, this.2.2.1, hx.2⟩)
    rw [cnt, sp]
    show _ ≤ cnt X P k acc + _
    by_cases e : (l.filter fun x => !decide (x < acc + 2 ^ k)) = []
    · rw [e]; exact Nat.le_trans a1 (Nat.le_add_right _ _)
    · obtain ⟨x, hx⟩ := List.exists_mem_of_ne_nil _ e
      have hx0 := hx
      rw [List.mem_filter, Bool.not_eq_true', decide_eq_false_iff_not] at hx
      have hxl := hl x hx.1
      have hb : Nat.beq (Nat.land acc (X k)) 0 = true := by
        obtain ⟨z, hz⟩ := Nat.dvd_of_mod_eq_zero hacc
        have hlt := hxl.2.2.2
        have pw := Nat.pow_succ 2 k
        have tk : x.testBit k = true := by
          obtain ⟨r, hr⟩ : ∃ r, x = acc + 2 ^ k + r := ⟨x - (acc + 2 ^ k), by omega⟩
          rw [hr, show acc + 2 ^ k + r = 2 ^ k * (2 * z + 1) + r by rw [hz, Nat.pow_succ, Nat.mul_add, Nat.mul_assoc]; omega]
          rw [Nat.testBit_eq_decide_div_mod_eq, Nat.mul_add_div (Nat.two_pow_pos k), Nat.div_eq_of_lt (show r < 2 ^ k by omega)]
          simp
        rw [Nat.beq_eq]
        refine Nat.eq_of_testBit_eq fun j => ?_
        rw [Nat.zero_testBit, show Nat.land acc (X k) = acc &&& X k from rfl, Nat.testBit_and, hX k (by omega), cu_acr_tb]
        by_cases hj : acc.testBit j = true
        · have hjk : k + 1 ≤ j := by
            rcases Nat.lt_or_ge j (k + 1) with q | q
            · rw [hz, Nat.mul_comm, Nat.testBit_mul_two_pow] at hj
              have : ¬ k + 1 ≤ j := by omega
              simp [this] at hj
            · exact q
          have tj : x.testBit j = true := by
            obtain ⟨r, hr⟩ : ∃ r, x = acc + r := ⟨x - acc, by omega⟩
            rw [hr]
            rw [hz] at hj ⊢
            rw [Nat.testBit_two_pow_mul_add _ (by omega), if_neg (by omega)]
            rw [Nat.mul_comm, Nat.testBit_mul_two_pow] at hj
            simp [hjk] at hj
            exact hj
          by_cases hjN : j < cu_N n
          · rw [hxl.2.1.2 k j (by omega) hjN tk tj]
            simp
          · simp [hjN]
        · simp [hj]
      rw [hb]
      have a2 := ih (acc + 2 ^ k) (by omega) (by rw [Nat.add_mod_right]; exact h0) (l.filter fun x => !decide (x < acc + 2 ^ k)) (hn.filter _) (fun y hy => by
        rw [List.mem_filter, Bool.not_eq_true', decide_eq_false_iff_not] at hy
        have := hl y hy.1
        rw [Nat.pow_succ] at this
        exact ⟨this.1, this.2.1, by omega, by omega⟩)
      exact Nat.add_le_add a1 a2
theorem cnt_g : ((List.range 10).all fun n => bif Nat.ble 4 n then Nat.ble (cnt (tb_x n) (fun x => Nat.beq (pc x 27) (Nat.sub n 3)) (cu_N n) 0) 429 else true) = true := by decide +kernel
theorem T_len {n : Nat} (h : 4 ≤ n) (h9 : n ≤ 9) (l : List Nat) (hn : l.Nodup) (hl : ∀ x, x ∈ l → Tr3 n x) : l.length ≤ 429 := by
  have g := al cnt_g (show n < 10 by omega)
  rw [show Nat.ble 4 n = true from Nat.ble_eq.mpr h] at g
  have g2 : cnt (tb_x n) (fun x => Nat.beq (pc x 27) (Nat.sub n 3)) (cu_N n) 0 ≤ 429 := Nat.ble_eq.mp g
  have := cnt_all (n := n) (X := tb_x n) (P := fun x => Nat.beq (pc x 27) (Nat.sub n 3)) (fun k hk => tb_e h h9 hk) (cu_N n) 0 (Nat.le_refl _) (Nat.zero_mod _) l hn (fun x hx => by
    have t := hl x hx
    have e27 : pc x 27 = n - 3 := by
      have := t.2
      rwa [pc_30 (n := 27) (by omega) (cu_V_lt h h9 t.1)] at this
    refine ⟨?_, t.1, Nat.zero_le _, by rw [Nat.zero_add]; exact t.1.1⟩
    show Nat.beq (pc x 27) (n - 3) = true
    rw [e27]; exact Nat.beq_refl _)
  omega
