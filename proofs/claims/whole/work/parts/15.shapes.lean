/-! ===== the cells behind the constructors, and where they lie ===== -/
def S0 : List am_Sh := [(0, 9, [.ref 1, .ref 2, .ref 13, .ref 16, .ref 19, .ref 20, .ref 26, .ref 30, .ref 33, .ref 35, .ref 38, .ref 40, .int 0]), (4, 8, [.ref 41, .ref 43, .ref 45, .ref 47, .ref 49, .ref 51, .ref 53, .ref 55]), (0, 8, [.ref 3, .ref 6, .ref 12, .int 0, .int 0, .int 0, .int 0, .int 0, .int 0]), (0, 3, [.ref 4, .ref 5, .int 0, .int 0]), (1, 9, []), (1, 9, []), (0, 6, [.ref 7, .ref 8, .ref 9, .ref 10, .ref 11, .int 0, .int 0]), (1, 27, []), (1, 27, []), (1, 27, []), (1, 9, []), (1, 9, []), (1, 120, []), (0, 3, [.ref 14, .ref 15, .int 0, .int 0]), (1, 9, []), (1, 9, []), (0, 3, [.ref 17, .ref 18, .int 0, .int 0]), (1, 9, []), (1, 9, []), (5, 2, [.ref 57, .ref 60]), (0, 6, [.ref 21, .ref 22, .ref 23, .ref 24, .ref 25, .int 0, .int 0]), (1, 27, []), (1, 27, []), (1, 27, []), (1, 9, []), (1, 9, []), (0, 0, [.ref 27, .ref 28, .ref 29, .int 0]), (1, 24, []), (1, 24, []), (1, 24, []), (0, 5, [.ref 31, .ref 32, .int 0]), (1, 9, []), (2, 21, []), (0, 2, [.ref 34, .int 0, .int 0]), (2, 9, []), (0, 4, [.ref 36, .ref 37, .int 0]), (1, 512, []), (1, 1024, []), (0, 1, [.ref 39, .int 0, .int 0, .int 0, .int 0, .int 0]), (1, 16, []), (1, 18, []), (0, 7, [.ref 42, .int 0, .int 0, .int 0]), (1, 40, []), (0, 7, [.ref 44, .int 0, .int 0, .int 0]), (1, 40, []), (0, 7, [.ref 46, .int 0, .int 0, .int 0]), (1, 40, []), (0, 7, [.ref 48, .int 0, .int 0, .int 0]), (1, 40, []), (0, 7, [.ref 50, .int 0, .int 0, .int 0]), (1, 40, []), (0, 7, [.ref 52, .int 0, .int 0, .int 0]), (1, 40, []), (0, 7, [.ref 54, .int 0, .int 0, .int 0]), (1, 40, []), (0, 7, [.ref 56, .int 0, .int 0, .int 0]), (1, 40, []), (0, 3, [.ref 58, .ref 59, .int 0, .int 0]), (1, 9, []), (1, 9, []), (0, 3, [.ref 61, .ref 62, .int 0, .int 0]), (1, 9, []), (1, 9, []), (0, 10, [.int 0, .ref 64, .ref 65, .ref 66, .ref 67, .ref 68, .ref 69, .ref 70, .int 0, .ref 71, .int 0, .int 0, .int 0, .int 0, .int 0, .int 0, .int 0, .int 0, .ref 72, .int 0, .ref 73, .ref 74, .ref 75, .ref 76, .ref 77, .int 0]), (1, 8, []), (1, 8, []), (1, 320, []), (1, 20, []), (1, 20, []), (1, 20, []), (1, 480, []), (1, 120, []), (1, 9, []), (1, 18, []), (1, 429, []), (3, 2, []), (1, 40, []), (1, 16, [])]
theorem S0_len : S0.length ≤ 1000 := by decide
def am_F : Nat := 5000
def am_shl (x y : Int32) : Int32 := x <<< (y &&& 31)
def am_shr (x y : Int32) : Int32 := x >>> (y &&& 31)
def am_ushr (x y : Int32) : Int32 := (x.toUInt32 >>> (y.toUInt32 &&& Int32.toUInt32 31)).toInt32
def am_rem (x y : Int32) : Int32 := x - x / y * y
def am_remL (x y : Int64) : Int64 := x - x / y * y
def am_max (x y : Int32) : Int32 := if x < y then y else x
def am_min (x y : Int32) : Int32 := if y < x then y else x
/-- rows and images by their numbers -/
def am_rw (i : Int32) : Nat := 41 + 2 * i.toNatClampNeg
def am_im (i : Int32) : Nat := 57 + 3 * i.toNatClampNeg
theorem am_in_lt {i : Int32} {n : Nat} (h : am_in i n = true) : i.toNatClampNeg < n := Nat.not_le.mp fun q => am_in_vp h (Or.inr q)
theorem am_rw_in {i : Int32} (h : am_in i 8 = true) : am_rw i = 41 ∨ am_rw i = 43 ∨ am_rw i = 45 ∨ am_rw i = 47 ∨ am_rw i = 49 ∨ am_rw i = 51 ∨ am_rw i = 53 ∨ am_rw i = 55 := by
  have := am_in_lt h
  unfold am_rw
  omega
theorem am_im_in {i : Int32} (h : am_in i 2 = true) : am_im i = 57 ∨ am_im i = 60 := by
  have := am_in_lt h
  unfold am_im
  omega
theorem am_rw_at {i : Int32} {m : am_Mm} (h : am_in i 8 = true) : am_ald (S0, m) 1 i = some (am_rw i) := by
  have h1 := am_in_lt h
  have h2 : S0[1]? = some (4, 8, [.ref 41, .ref 43, .ref 45, .ref 47, .ref 49, .ref 51, .ref 53, .ref 55]) := rfl
  unfold am_ald am_rw
  simp only [h2, h, if_true]
  generalize i.toNatClampNeg = k at h1 ⊢
  match k, h1 with
  | 0, _ => rfl
  | 1, _ => rfl
  | 2, _ => rfl
  | 3, _ => rfl
  | 4, _ => rfl
  | 5, _ => rfl
  | 6, _ => rfl
  | 7, _ => rfl
theorem am_im_at {i : Int32} {m : am_Mm} (h : am_in i 2 = true) : am_ald (S0, m) 19 i = some (am_im i) := by
  have h1 := am_in_lt h
  have h2 : S0[19]? = some (5, 2, [.ref 57, .ref 60]) := rfl
  unfold am_ald am_im
  simp only [h2, h, if_true]
  generalize i.toNatClampNeg = k at h1 ⊢
  match k, h1 with
  | 0, _ => rfl
  | 1, _ => rfl
theorem am_rokZ {x : Int32} (h : x = 0 ∨ x = 1) : am_rok (some .boolean) (some (.int x)) = true := by rcases h with rfl | rfl <;> rfl
theorem am_lsw {pc t : Nat} {x : Int32} {dd off : Int} {ps : Array (Int × Int)} {n a b po : Nat} {z : Int} (hp : (ps.toList.zip (ps.toList.drop 1)).all (fun (a, next) => a.1 < next.1) = true) (ho : Op.lookupswitch.offset ps.toList dd x.toInt = off) (h0 : 0 ≤ (pc : Int) + off) (ht : ((pc : Int) + off).toNat = t) : am_sw (.lookupswitch dd ps, n, a, b, po, z) pc x = some t := by
  simp only [am_sw, ho, hp, h0, and_self, if_true, ht]
def kq0 : vw_C := ("FriezePolygons$Acts", kc0, 4)
def kq1 : vw_C := ("FriezePolygons$Asks", kc1, 6)
def kq2 : vw_C := ("FriezePolygons$Ears", kc2, 3)
def kq3 : vw_C := ("FriezePolygons$Figure", kc3, 4)
def kq4 : vw_C := ("FriezePolygons$FlipSearch", kc4, 3)
def kq5 : vw_C := ("FriezePolygons$Frieze", kc5, 3)
def kq6 : vw_C := ("FriezePolygons$Ring", kc6, 7)
def kq7 : vw_C := ("FriezePolygons$Row", kc7, 4)
def kq8 : vw_C := ("FriezePolygons$Tape", kc8, 9)
def kq9 : vw_C := ("FriezePolygons", kc9, 13)
def kq10 : vw_C := ("FriezePolygonsModel", kc10, 26)
theorem ty_0_3 : kty kq0.2.1 3 = .int := by decide +kernel
theorem ty_1_1 : kty kq1.2.1 1 = .int := by decide +kernel
theorem ty_1_2 : kty kq1.2.1 2 = .int := by decide +kernel
theorem ty_1_3 : kty kq1.2.1 3 = .int := by decide +kernel
theorem ty_1_4 : kty kq1.2.1 4 = .int := by decide +kernel
theorem ty_1_5 : kty kq1.2.1 5 = .int := by decide +kernel
theorem ty_2_1 : kty kq2.2.1 1 = .int := by decide +kernel
theorem ty_2_2 : kty kq2.2.1 2 = .int := by decide +kernel
theorem ty_3_2 : kty kq3.2.1 2 = .int := by decide +kernel
theorem ty_3_3 : kty kq3.2.1 3 = .int := by decide +kernel
theorem ty_4_2 : kty kq4.2.1 2 = .int := by decide +kernel
theorem ty_5_2 : kty kq5.2.1 2 = .int := by decide +kernel
theorem ty_6_5 : kty kq6.2.1 5 = .int := by decide +kernel
theorem ty_6_6 : kty kq6.2.1 6 = .int := by decide +kernel
theorem ty_7_1 : kty kq7.2.1 1 = .boolean := by decide +kernel
theorem ty_7_2 : kty kq7.2.1 2 = .int := by decide +kernel
theorem ty_7_3 : kty kq7.2.1 3 = .int := by decide +kernel
theorem ty_8_3 : kty kq8.2.1 3 = .int := by decide +kernel
theorem ty_8_4 : kty kq8.2.1 4 = .int := by decide +kernel
theorem ty_8_5 : kty kq8.2.1 5 = .int := by decide +kernel
theorem ty_8_6 : kty kq8.2.1 6 = .int := by decide +kernel
theorem ty_8_7 : kty kq8.2.1 7 = .int := by decide +kernel
theorem ty_8_8 : kty kq8.2.1 8 = .int := by decide +kernel
theorem ty_9_12 : kty kq9.2.1 12 = .int := by decide +kernel
theorem ty_10_0 : kty kq10.2.1 0 = .int := by decide +kernel
theorem ty_10_8 : kty kq10.2.1 8 = .int := by decide +kernel
theorem ty_10_10 : kty kq10.2.1 10 = .int := by decide +kernel
theorem ty_10_11 : kty kq10.2.1 11 = .int := by decide +kernel
theorem ty_10_12 : kty kq10.2.1 12 = .int := by decide +kernel
theorem ty_10_13 : kty kq10.2.1 13 = .int := by decide +kernel
theorem ty_10_14 : kty kq10.2.1 14 = .int := by decide +kernel
theorem ty_10_15 : kty kq10.2.1 15 = .int := by decide +kernel
theorem ty_10_16 : kty kq10.2.1 16 = .int := by decide +kernel
theorem ty_10_17 : kty kq10.2.1 17 = .int := by decide +kernel
theorem ty_10_19 : kty kq10.2.1 19 = .boolean := by decide +kernel
theorem ty_10_25 : kty kq10.2.1 25 = .int := by decide +kernel
theorem sh_13_16_0 {p : Nat} (h : p = 13 ∨ p = 16) : S0[p]? = some (0, 3, [.ref (p + 1), .ref (p + 2), .int 0, .int 0]) := by rcases h with rfl | rfl <;> rfl
theorem sh_13_16_1 {p : Nat} (h : p = 13 ∨ p = 16) : S0[p + 1]? = some (1, 9, []) := by rcases h with rfl | rfl <;> rfl
theorem sh_13_16_2 {p : Nat} (h : p = 13 ∨ p = 16) : S0[p + 2]? = some (1, 9, []) := by rcases h with rfl | rfl <;> rfl
theorem sh_13_16_57_60_0 {p : Nat} (h : p = 13 ∨ p = 16 ∨ p = 57 ∨ p = 60) : S0[p]? = some (0, 3, [.ref (p + 1), .ref (p + 2), .int 0, .int 0]) := by rcases h with rfl | rfl | rfl | rfl <;> rfl
theorem sh_13_16_57_60_1 {p : Nat} (h : p = 13 ∨ p = 16 ∨ p = 57 ∨ p = 60) : S0[p + 1]? = some (1, 9, []) := by rcases h with rfl | rfl | rfl | rfl <;> rfl
theorem sh_13_16_57_60_2 {p : Nat} (h : p = 13 ∨ p = 16 ∨ p = 57 ∨ p = 60) : S0[p + 2]? = some (1, 9, []) := by rcases h with rfl | rfl | rfl | rfl <;> rfl
theorem sh_14_15_0 {p : Nat} (h : p = 14 ∨ p = 15) : S0[p]? = some (1, 9, []) := by rcases h with rfl | rfl <;> rfl
theorem sh_3_13_57_60_0 {p : Nat} (h : p = 3 ∨ p = 13 ∨ p = 57 ∨ p = 60) : S0[p]? = some (0, 3, [.ref (p + 1), .ref (p + 2), .int 0, .int 0]) := by rcases h with rfl | rfl | rfl | rfl <;> rfl
theorem sh_3_13_57_60_1 {p : Nat} (h : p = 3 ∨ p = 13 ∨ p = 57 ∨ p = 60) : S0[p + 1]? = some (1, 9, []) := by rcases h with rfl | rfl | rfl | rfl <;> rfl
theorem sh_3_13_57_60_2 {p : Nat} (h : p = 3 ∨ p = 13 ∨ p = 57 ∨ p = 60) : S0[p + 2]? = some (1, 9, []) := by rcases h with rfl | rfl | rfl | rfl <;> rfl
theorem sh_41_43_45_47_49_51_53_55_0 {p : Nat} (h : p = 41 ∨ p = 43 ∨ p = 45 ∨ p = 47 ∨ p = 49 ∨ p = 51 ∨ p = 53 ∨ p = 55) : S0[p]? = some (0, 7, [.ref (p + 1), .int 0, .int 0, .int 0]) := by rcases h with rfl | rfl | rfl | rfl | rfl | rfl | rfl | rfl <;> rfl
theorem sh_41_43_45_47_49_51_53_55_1 {p : Nat} (h : p = 41 ∨ p = 43 ∨ p = 45 ∨ p = 47 ∨ p = 49 ∨ p = 51 ∨ p = 53 ∨ p = 55) : S0[p + 1]? = some (1, 40, []) := by rcases h with rfl | rfl | rfl | rfl | rfl | rfl | rfl | rfl <;> rfl
theorem sh_57_60_0 {p : Nat} (h : p = 57 ∨ p = 60) : S0[p]? = some (0, 3, [.ref (p + 1), .ref (p + 2), .int 0, .int 0]) := by rcases h with rfl | rfl <;> rfl
theorem sh_6_20_0 {p : Nat} (h : p = 6 ∨ p = 20) : S0[p]? = some (0, 6, [.ref (p + 1), .ref (p + 2), .ref (p + 3), .ref (p + 4), .ref (p + 5), .int 0, .int 0]) := by rcases h with rfl | rfl <;> rfl
theorem sh_6_20_1 {p : Nat} (h : p = 6 ∨ p = 20) : S0[p + 1]? = some (1, 27, []) := by rcases h with rfl | rfl <;> rfl
theorem sh_6_20_2 {p : Nat} (h : p = 6 ∨ p = 20) : S0[p + 2]? = some (1, 27, []) := by rcases h with rfl | rfl <;> rfl
theorem sh_6_20_3 {p : Nat} (h : p = 6 ∨ p = 20) : S0[p + 3]? = some (1, 27, []) := by rcases h with rfl | rfl <;> rfl
theorem sh_6_20_4 {p : Nat} (h : p = 6 ∨ p = 20) : S0[p + 4]? = some (1, 9, []) := by rcases h with rfl | rfl <;> rfl
theorem sh_67_68_0 {p : Nat} (h : p = 67 ∨ p = 68) : S0[p]? = some (1, 20, []) := by rcases h with rfl | rfl <;> rfl
theorem sh_67_69_0 {p : Nat} (h : p = 67 ∨ p = 69) : S0[p]? = some (1, 20, []) := by rcases h with rfl | rfl <;> rfl
/-- Arrays.fill -/
def am_fl (m : am_Mm) (p n : Nat) (x : Int32) : am_Mm := (va_up m.1 p (fun k => if k < n then x else m.1 p k), m.2)
theorem am_fl_0 (m : am_Mm) (p : Nat) (x : Int32) : am_fl m p 0 x = m := by
  unfold am_fl va_up
  refine Prod.ext ?_ rfl
  funext q k
  by_cases h : q = p
  · simp [h]
  · simp [h]
theorem am_fl_s (m : am_Mm) (p n : Nat) (x : Int32) : am_pI (am_fl m p n x) p n x = am_fl m p (n + 1) x := by
  unfold am_pI am_fl va_up upd
  refine Prod.ext ?_ rfl
  funext q k
  by_cases h : q = p
  · subst h
    by_cases h2 : k = n
    · subst h2; simp
    · have : (k < n + 1) ↔ (k < n) := by omega
      simp [h2, this]
  · simp [h]
theorem am_fill_lp {ro : am_Ro} {d : Nat} {S : List am_Sh} {p n : Nat} {fs : List Value} {x : Int32} (hl : S.length ≤ 1000) (hn : n < 100000) (hS : S[p]? = some (1, n, fs)) (m : am_Mm) : ∀ (j k : Nat), k + j = n →
    am_AW am_nw ro (d + 1) mr_Arrays_fill 5 [some (.ref p), some (.int x), some (.int (nI k)), some (.int (nI n))] [] (S, am_fl m p k x) none (S, am_fl m p n x) := by
  intro j
  induction j with
  | zero =>
    intro k hk
    have hk : k = n := by omega
    subst hk
    refine am_AW.run am_base_ok ok_Arrays_fill (Nat.le_add_left 1 d) 2 (pc1 := 7) (ls1 := [some (.ref p), some (.int x), some (.int (nI k)), some (.int (nI k))]) (st1 := [.int (nI k), .int (nI k)]) (σ1 := (S, am_fl m p k x)) rfl ?_
    refine am_AW.brP ok_Arrays_fill rfl rfl am_c_ge (fun c => ?_) (fun c => absurd (nI_le (Nat.le_refl k) (by omega)) c)
    exact am_AW.ret ok_Arrays_fill rfl rfl rfl rfl
  | succ j ih =>
    intro k hk
    refine am_AW.run am_base_ok ok_Arrays_fill (Nat.le_add_left 1 d) 2 (pc1 := 7) (ls1 := [some (.ref p), some (.int x), some (.int (nI k)), some (.int (nI n))]) (st1 := [.int (nI n), .int (nI k)]) (σ1 := (S, am_fl m p k x)) rfl ?_
    refine am_AW.brP ok_Arrays_fill rfl rfl am_c_ge (fun c => absurd c (nI_ge (by omega) (by omega))) (fun c => ?_)
    refine am_AW.run am_base_ok ok_Arrays_fill (Nat.le_add_left 1 d) 3 (pc1 := 13) (ls1 := [some (.ref p), some (.int x), some (.int (nI k)), some (.int (nI n))]) (st1 := [.int x, .int (nI k), .ref p]) (σ1 := (S, am_fl m p k x)) rfl ?_
    have hi : am_in (nI k) n = true := by
      have := vp_in_nI (n := k) (N := n) (by omega) (by omega)
      unfold vp_in at this
      unfold am_in
      simpa using this
    refine am_AW.iast ok_Arrays_fill (Nat.le_add_left 1 d) rfl hS hi ?_
    rw [nI_clamp (by omega), am_fl_s]
    refine am_AW.run am_base_ok ok_Arrays_fill (Nat.le_add_left 1 d) 2 (pc1 := 5) (ls1 := [some (.ref p), some (.int x), some (.int (nI k + 1)), some (.int (nI n))]) (st1 := []) (σ1 := (S, am_fl m p (k + 1) x)) rfl ?_
    rw [nI_1]
    exact ih (k + 1) (by omega)
theorem am_fill_ok {ro : am_Ro} {d : Nat} {S : List am_Sh} {p n : Nat} {fs : List Value} {x : Int32} {m : am_Mm} (hd : 1 ≤ d) (hl : S.length ≤ 1000) (hn : n < 100000) (hS : S[p]? = some (1, n, fs)) : am_Mt am_nw ro d mr_Arrays_fill [.ref p, .int x] (S, m) none (S, am_fl m p n x) := by
  obtain ⟨d, rfl⟩ : ∃ d0, d = d0 + 1 := ⟨d - 1, by omega⟩
  refine am_Mt.of (by decide +kernel) (Nat.le_of_ble_eq_true rfl) ?_
  change am_AW am_nw ro (d + 1) mr_Arrays_fill 0 [some (.ref p), some (.int x), none, none] [] (S, m) none (S, am_fl m p n x)
  refine am_AW.run am_base_ok ok_Arrays_fill (Nat.le_add_left 1 d) 3 (pc1 := 3) (ls1 := [some (.ref p), some (.int x), some (.int 0), none]) (st1 := [.ref p]) (σ1 := (S, m)) rfl ?_
  refine am_AW.alen ok_Arrays_fill (Nat.le_add_left 1 d) hl rfl hS (by decide) ?_
  refine am_AW.run am_base_ok ok_Arrays_fill (Nat.le_add_left 1 d) 1 (pc1 := 5) (ls1 := [some (.ref p), some (.int x), some (.int 0), some (.int (nI n))]) (st1 := []) (σ1 := (S, m)) rfl ?_
  have := am_fill_lp (ro := ro) (d := d) (x := x) hl hn hS m n 0 (by omega)
  rw [am_fl_0] at this
  exact this
