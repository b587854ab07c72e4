/-! FriezePolygons.count(I)I -/
def f_C_count (x1 : Int32) (m : am_Mm) : Option (Int32 × am_Mm) :=
  if x1 = (0 : Int32) then
    (f_C_rowsMade m).bind fun q4 =>
    some (q4.1, q4.2)
  else
    if x1 = (1 : Int32) then
      some ((m.1 13 2), m)
    else
      if x1 = (2 : Int32) then
        (f_Integer_bitCount (m.1 13 3) m).bind fun q9 =>
        some (q9.1, q9.2)
      else
        if x1 = (3 : Int32) then
          (f_Frieze_tellCounts m).bind fun q13 =>
          (f_Frieze_sumOf ((am_shl (1 : Int32) (q13.1 13 2)) - (1 : Int32)) q13).bind fun q16 =>
          some (q16.1, q16.2)
        else
          if x1 = (4 : Int32) then
            some ((m.1 26 3), m)
          else
            if x1 = (5 : Int32) then
              some ((m.1 2 3), m)
            else
              some ((-1000001 : Int32), m)
set_option maxHeartbeats 4000000 in
set_option maxRecDepth 100000 in
theorem f_C_count_ok {ro : am_Ro} {d : Nat} (hd : 5 ≤ d) (x1 : Int32) {m m' : am_Mm} {r : Int32} (h : f_C_count x1 m = some (r, m')) : am_Mt am_nw ro d mr_C_count [.ref 0, .int x1] (S0, m) (some (.int r)) (S0, m') := by
  obtain ⟨d, rfl⟩ : ∃ d0, d = d0 + 1 := ⟨d - 1, by omega⟩
  refine am_Mt.of (by decide +kernel) (Nat.le_of_ble_eq_true rfl) ?_
  change am_AW am_nw ro (d + 1) mr_C_count 0 [some (.ref 0), some (.int x1)] [] (S0, m) (some (.int r)) (S0, m')
  unfold f_C_count at h
  refine am_AW.run am_base_ok ok_C_count (Nat.le_add_left 1 d) 1 (pc1 := 1) (ls1 := [some (.ref 0), some (.int x1)]) (st1 := [.int x1]) (σ1 := (S0, m)) rfl ?_
  by_cases c1 : x1 = (0 : Int32)
  · rw [if_pos c1] at h
    refine am_AW.sw ok_C_count rfl (t := 40) (by rw [c1]; decide +kernel) ?_
    refine am_AW.run am_base_ok ok_C_count (Nat.le_add_left 1 d) 1 (pc1 := 41) (ls1 := [some (.ref 0), some (.int x1)]) (st1 := [.ref 0]) (σ1 := (S0, m)) rfl ?_
    obtain ⟨q4, hq4, h⟩ := Option.bind_eq_some_iff.mp h
    refine am_AW.callV ok_C_count am_nw_ok (As := []) (rest := []) rfl rfl rfl oR_C_rowsMade lk_C_339 iM_C_rowsMade sE_C_rowsMade (qc := kq9) rfl rfl rfl rfl (Nat.le_of_ble_eq_true rfl) (f_C_rowsMade_ok (d := d) (by omega)  hq4) ?_
    change am_AW am_nw ro (d + 1) mr_C_count 44 [some (.ref 0), some (.int x1)] [.int q4.1] (S0, q4.2) (some (.int r)) (S0, m')
    obtain ⟨rfl, rfl⟩ := Prod.mk.inj (Option.some.inj h)
    exact am_AW.ret ok_C_count rfl rfl rfl rfl
  rw [if_neg c1] at h
  by_cases c5 : x1 = (1 : Int32)
  · rw [if_pos c5] at h
    refine am_AW.sw ok_C_count rfl (t := 45) (by rw [c5]; decide +kernel) ?_
    refine am_AW.run am_base_ok ok_C_count (Nat.le_add_left 1 d) 3 (pc1 := 52) (ls1 := [some (.ref 0), some (.int x1)]) (st1 := [.int (m.1 13 2)]) (σ1 := (S0, m)) rfl ?_
    obtain ⟨rfl, rfl⟩ := Prod.mk.inj (Option.some.inj h)
    exact am_AW.ret ok_C_count rfl rfl rfl rfl
  rw [if_neg c5] at h
  by_cases c6 : x1 = (2 : Int32)
  · rw [if_pos c6] at h
    refine am_AW.sw ok_C_count rfl (t := 53) (by rw [c6]; decide +kernel) ?_
    refine am_AW.run am_base_ok ok_C_count (Nat.le_add_left 1 d) 3 (pc1 := 60) (ls1 := [some (.ref 0), some (.int x1)]) (st1 := [.int (m.1 13 3)]) (σ1 := (S0, m)) rfl ?_
    obtain ⟨q9, hq9, h⟩ := Option.bind_eq_some_iff.mp h
    refine am_AW.callS ok_C_count am_nw_ok (As := [.int (m.1 13 3)]) (rest := []) rfl rfl rfl oR_Integer_bitCount lk_C_180 sT_Integer_bitCount rfl (Nat.le_of_ble_eq_true rfl) (f_Integer_bitCount_ok (d := d) (by omega) (m.1 13 3) hq9) ?_
    change am_AW am_nw ro (d + 1) mr_C_count 63 [some (.ref 0), some (.int x1)] [.int q9.1] (S0, q9.2) (some (.int r)) (S0, m')
    obtain ⟨rfl, rfl⟩ := Prod.mk.inj (Option.some.inj h)
    exact am_AW.ret ok_C_count rfl rfl rfl rfl
  rw [if_neg c6] at h
  by_cases c10 : x1 = (3 : Int32)
  · rw [if_pos c10] at h
    refine am_AW.sw ok_C_count rfl (t := 64) (by rw [c10]; decide +kernel) ?_
    refine am_AW.run am_base_ok ok_C_count (Nat.le_add_left 1 d) 6 (pc1 := 76) (ls1 := [some (.ref 0), some (.int x1)]) (st1 := [.ref 20, .ref 13, .ref 30]) (σ1 := (S0, m)) rfl ?_
    obtain ⟨q13, hq13, h⟩ := Option.bind_eq_some_iff.mp h
    refine am_AW.callV ok_C_count am_nw_ok (As := [.ref 13, .ref 20]) (rest := []) rfl rfl rfl oR_Frieze_tellCounts lk_C_240 iM_Frieze_tellCounts sE_Frieze_tellCounts (qc := kq5) rfl rfl rfl rfl (Nat.le_of_ble_eq_true rfl) (f_Frieze_tellCounts_ok (d := d) (by omega)  hq13) ?_
    change am_AW am_nw ro (d + 1) mr_C_count 79 [some (.ref 0), some (.int x1)] [] (S0, q13) (some (.int r)) (S0, m')
    refine am_AW.run am_base_ok ok_C_count (Nat.le_add_left 1 d) 9 (pc1 := 94) (ls1 := [some (.ref 0), some (.int x1)]) (st1 := [.int ((am_shl (1 : Int32) (q13.1 13 2)) - (1 : Int32)), .ref 30]) (σ1 := (S0, q13)) rfl ?_
    obtain ⟨q16, hq16, h⟩ := Option.bind_eq_some_iff.mp h
    refine am_AW.callV ok_C_count am_nw_ok (As := [.int ((am_shl (1 : Int32) (q13.1 13 2)) - (1 : Int32))]) (rest := []) rfl rfl rfl oR_Frieze_sumOf lk_C_283 iM_Frieze_sumOf sE_Frieze_sumOf (qc := kq5) rfl rfl rfl rfl (Nat.le_of_ble_eq_true rfl) (f_Frieze_sumOf_ok (d := d) (by omega) ((am_shl (1 : Int32) (q13.1 13 2)) - (1 : Int32)) hq16) ?_
    change am_AW am_nw ro (d + 1) mr_C_count 97 [some (.ref 0), some (.int x1)] [.int q16.1] (S0, q16.2) (some (.int r)) (S0, m')
    obtain ⟨rfl, rfl⟩ := Prod.mk.inj (Option.some.inj h)
    exact am_AW.ret ok_C_count rfl rfl rfl rfl
  rw [if_neg c10] at h
  by_cases c17 : x1 = (4 : Int32)
  · rw [if_pos c17] at h
    refine am_AW.sw ok_C_count rfl (t := 98) (by rw [c17]; decide +kernel) ?_
    refine am_AW.run am_base_ok ok_C_count (Nat.le_add_left 1 d) 3 (pc1 := 105) (ls1 := [some (.ref 0), some (.int x1)]) (st1 := [.int (m.1 26 3)]) (σ1 := (S0, m)) rfl ?_
    obtain ⟨rfl, rfl⟩ := Prod.mk.inj (Option.some.inj h)
    exact am_AW.ret ok_C_count rfl rfl rfl rfl
  rw [if_neg c17] at h
  by_cases c18 : x1 = (5 : Int32)
  · rw [if_pos c18] at h
    refine am_AW.sw ok_C_count rfl (t := 106) (by rw [c18]; decide +kernel) ?_
    refine am_AW.run am_base_ok ok_C_count (Nat.le_add_left 1 d) 3 (pc1 := 113) (ls1 := [some (.ref 0), some (.int x1)]) (st1 := [.int (m.1 2 3)]) (σ1 := (S0, m)) rfl ?_
    obtain ⟨rfl, rfl⟩ := Prod.mk.inj (Option.some.inj h)
    exact am_AW.ret ok_C_count rfl rfl rfl rfl
  rw [if_neg c18] at h
  have o19 : (x1).toInt < 0 ∨ 5 < (x1).toInt := by
    have := lv_neT c1 (a := 0) (by decide)
    have := lv_neT c5 (a := 1) (by decide)
    have := lv_neT c6 (a := 2) (by decide)
    have := lv_neT c10 (a := 3) (by decide)
    have := lv_neT c17 (a := 4) (by decide)
    have := lv_neT c18 (a := 5) (by decide)
    omega
  refine am_AW.sw ok_C_count rfl (t := 114) (by simp only [am_sw, if_pos o19]; decide +kernel) ?_
  refine am_AW.run am_base_ok ok_C_count (Nat.le_add_left 1 d) 1 (pc1 := 116) (ls1 := [some (.ref 0), some (.int x1)]) (st1 := [.int (-1000001 : Int32)]) (σ1 := (S0, m)) rfl ?_
  obtain ⟨rfl, rfl⟩ := Prod.mk.inj (Option.some.inj h)
  exact am_AW.ret ok_C_count rfl rfl rfl rfl
/-! FriezePolygons.gatherLikenesses()I -/
def f_C_gatherLikenesses_b4 : Nat → Int32 → Int32 → am_Mm → Option (Int32 × am_Mm)
  | 0, _, _, _ => none
  | n + 1, x1, x2, m =>
    if (m.1 13 2) ≤ x2 then
      some (x1, m)
    else
      (f_Ring_moved (m.1 13 3) (0 : Int32) x2 m).bind fun q4 =>
      (f_C_noteLikeness q4.1 x1 q4.2).bind fun q7 =>
      (f_Ring_moved (q7.2.1 13 3) (1 : Int32) x2 q7.2).bind fun q10 =>
      (f_C_noteLikeness q10.1 q7.1 q10.2).bind fun q13 =>
      f_C_gatherLikenesses_b4 n q13.1 (x2 + (1 : Int32)) q13.2
def f_C_gatherLikenesses (m : am_Mm) : Option (Int32 × am_Mm) :=
  f_C_gatherLikenesses_b4 am_F (0 : Int32) (0 : Int32) m
set_option maxHeartbeats 4000000 in
set_option maxRecDepth 100000 in
theorem f_C_gatherLikenesses_b4_all {ro : am_Ro} {d : Nat} (hd : 5 ≤ d + 1) : ∀ (n : Nat) (x1 : Int32) (x2 : Int32) (m m' : am_Mm) (r : Int32), f_C_gatherLikenesses_b4 n x1 x2 m = some (r, m') → am_AW am_nw ro (d + 1) mr_C_gatherLikenesses 4 [some (.ref 0), some (.int x1), some (.int x2)] [] (S0, m) (some (.int r)) (S0, m') := by
  intro n
  induction n with
  | zero =>
    intro x1 x2 m m' r h
    rw [f_C_gatherLikenesses_b4] at h
    cases h
  | succ n ih =>
    intro x1 x2 m m' r h
    rw [f_C_gatherLikenesses_b4] at h
    refine am_AW.run am_base_ok ok_C_gatherLikenesses (Nat.le_add_left 1 d) 4 (pc1 := 12) (ls1 := [some (.ref 0), some (.int x1), some (.int x2)]) (st1 := [.int (m.1 13 2), .int x2]) (σ1 := (S0, m)) rfl ?_
    refine am_AW.brP ok_C_gatherLikenesses rfl rfl am_c_ge (fun c1 => ?_) (fun c1 => ?_)
    · rw [if_pos c1] at h
      refine am_AW.run am_base_ok ok_C_gatherLikenesses (Nat.le_add_left 1 d) 1 (pc1 := 66) (ls1 := [some (.ref 0), some (.int x1), some (.int x2)]) (st1 := [.int x1]) (σ1 := (S0, m)) rfl ?_
      obtain ⟨rfl, rfl⟩ := Prod.mk.inj (Option.some.inj h)
      exact am_AW.ret ok_C_gatherLikenesses rfl rfl rfl rfl
    · rw [if_neg c1] at h
      refine am_AW.run am_base_ok ok_C_gatherLikenesses (Nat.le_add_left 1 d) 8 (pc1 := 29) (ls1 := [some (.ref 0), some (.int x1), some (.int x2)]) (st1 := [.int x2, .int (0 : Int32), .int (m.1 13 3), .ref 20, .ref 0]) (σ1 := (S0, m)) rfl ?_
      obtain ⟨q4, hq4, h⟩ := Option.bind_eq_some_iff.mp h
      refine am_AW.callV ok_C_gatherLikenesses am_nw_ok (As := [.int (m.1 13 3), .int (0 : Int32), .int x2]) (rest := [.ref 0]) rfl rfl rfl oR_Ring_moved lk_C_194 iM_Ring_moved sE_Ring_moved (qc := kq6) rfl rfl rfl rfl (Nat.le_of_ble_eq_true rfl) (f_Ring_moved_ok (d := d) (by omega) (m.1 13 3) (0 : Int32) x2 hq4) ?_
      change am_AW am_nw ro (d + 1) mr_C_gatherLikenesses 32 [some (.ref 0), some (.int x1), some (.int x2)] [.int q4.1, .ref 0] (S0, q4.2) (some (.int r)) (S0, m')
      refine am_AW.run am_base_ok ok_C_gatherLikenesses (Nat.le_add_left 1 d) 1 (pc1 := 33) (ls1 := [some (.ref 0), some (.int x1), some (.int x2)]) (st1 := [.int x1, .int q4.1, .ref 0]) (σ1 := (S0, q4.2)) rfl ?_
      obtain ⟨q7, hq7, h⟩ := Option.bind_eq_some_iff.mp h
      refine am_AW.callV ok_C_gatherLikenesses am_nw_ok (As := [.int q4.1, .int x1]) (rest := []) rfl rfl rfl oR_C_noteLikeness lk_C_346 iM_C_noteLikeness sE_C_noteLikeness (qc := kq9) rfl rfl rfl rfl (Nat.le_of_ble_eq_true rfl) (f_C_noteLikeness_ok (d := d) (by omega) q4.1 x1 hq7) ?_
      change am_AW am_nw ro (d + 1) mr_C_gatherLikenesses 36 [some (.ref 0), some (.int x1), some (.int x2)] [.int q7.1] (S0, q7.2) (some (.int r)) (S0, m')
      refine am_AW.run am_base_ok ok_C_gatherLikenesses (Nat.le_add_left 1 d) 9 (pc1 := 51) (ls1 := [some (.ref 0), some (.int q7.1), some (.int x2)]) (st1 := [.int x2, .int (1 : Int32), .int (q7.2.1 13 3), .ref 20, .ref 0]) (σ1 := (S0, q7.2)) rfl ?_
      obtain ⟨q10, hq10, h⟩ := Option.bind_eq_some_iff.mp h
      refine am_AW.callV ok_C_gatherLikenesses am_nw_ok (As := [.int (q7.2.1 13 3), .int (1 : Int32), .int x2]) (rest := [.ref 0]) rfl rfl rfl oR_Ring_moved lk_C_194 iM_Ring_moved sE_Ring_moved (qc := kq6) rfl rfl rfl rfl (Nat.le_of_ble_eq_true rfl) (f_Ring_moved_ok (d := d) (by omega) (q7.2.1 13 3) (1 : Int32) x2 hq10) ?_
      change am_AW am_nw ro (d + 1) mr_C_gatherLikenesses 54 [some (.ref 0), some (.int q7.1), some (.int x2)] [.int q10.1, .ref 0] (S0, q10.2) (some (.int r)) (S0, m')
      refine am_AW.run am_base_ok ok_C_gatherLikenesses (Nat.le_add_left 1 d) 1 (pc1 := 55) (ls1 := [some (.ref 0), some (.int q7.1), some (.int x2)]) (st1 := [.int q7.1, .int q10.1, .ref 0]) (σ1 := (S0, q10.2)) rfl ?_
      obtain ⟨q13, hq13, h⟩ := Option.bind_eq_some_iff.mp h
      refine am_AW.callV ok_C_gatherLikenesses am_nw_ok (As := [.int q10.1, .int q7.1]) (rest := []) rfl rfl rfl oR_C_noteLikeness lk_C_346 iM_C_noteLikeness sE_C_noteLikeness (qc := kq9) rfl rfl rfl rfl (Nat.le_of_ble_eq_true rfl) (f_C_noteLikeness_ok (d := d) (by omega) q10.1 q7.1 hq13) ?_
      change am_AW am_nw ro (d + 1) mr_C_gatherLikenesses 58 [some (.ref 0), some (.int q7.1), some (.int x2)] [.int q13.1] (S0, q13.2) (some (.int r)) (S0, m')
      refine am_AW.run am_base_ok ok_C_gatherLikenesses (Nat.le_add_left 1 d) 3 (pc1 := 4) (ls1 := [some (.ref 0), some (.int q13.1), some (.int (x2 + (1 : Int32)))]) (st1 := []) (σ1 := (S0, q13.2)) rfl ?_
      exact am_AW.weak (ih q13.1 (x2 + (1 : Int32))  _ _ _ h) (by simp only [am_le, and_self])
set_option maxHeartbeats 4000000 in
set_option maxRecDepth 100000 in
theorem f_C_gatherLikenesses_b4_ok {ro : am_Ro} {d : Nat} (hd : 5 ≤ d + 1) (x1 : Int32) (x2 : Int32) {m m' : am_Mm} {r : Int32} {n : Nat} (h : f_C_gatherLikenesses_b4 n x1 x2 m = some (r, m')) : am_AW am_nw ro (d + 1) mr_C_gatherLikenesses 4 [some (.ref 0), some (.int x1), some (.int x2)] [] (S0, m) (some (.int r)) (S0, m') :=
  f_C_gatherLikenesses_b4_all hd n x1 x2  m m' r h
set_option maxHeartbeats 4000000 in
set_option maxRecDepth 100000 in
theorem f_C_gatherLikenesses_ok {ro : am_Ro} {d : Nat} (hd : 5 ≤ d) {m m' : am_Mm} {r : Int32} (h : f_C_gatherLikenesses  m = some (r, m')) : am_Mt am_nw ro d mr_C_gatherLikenesses [.ref 0] (S0, m) (some (.int r)) (S0, m') := by
  obtain ⟨d, rfl⟩ : ∃ d0, d = d0 + 1 := ⟨d - 1, by omega⟩
  refine am_Mt.of (by decide +kernel) (Nat.le_of_ble_eq_true rfl) ?_
  change am_AW am_nw ro (d + 1) mr_C_gatherLikenesses 0 [some (.ref 0), none, none] [] (S0, m) (some (.int r)) (S0, m')
  unfold f_C_gatherLikenesses at h
  refine am_AW.run am_base_ok ok_C_gatherLikenesses (Nat.le_add_left 1 d) 4 (pc1 := 4) (ls1 := [some (.ref 0), some (.int (0 : Int32)), some (.int (0 : Int32))]) (st1 := []) (σ1 := (S0, m)) rfl ?_
  exact am_AW.weak (f_C_gatherLikenesses_b4_ok hd (0 : Int32) (0 : Int32)  h) (by simp only [am_le, and_self])
/-! FriezePolygons.kindsBy(ILFriezePolygons$Row;II)I -/
def f_C_kindsBy_b61 (k17 : Int32 → Nat → Int32 → Int32 → Int32 → Int32 → am_Mm → Option (Int32 × am_Mm)) (x1 : Int32) (p2 : Nat) (x3 : Int32) (x4 : Int32) (x5 : Int32) (x6 : Int32) (m : am_Mm) : Option (Int32 × am_Mm) :=
  k17 x1 p2 x3 x4 x5 (x6 + (1 : Int32)) m
def f_C_kindsBy_b17 : Nat → Int32 → Nat → Int32 → Int32 → Int32 → Int32 → am_Mm → Option (Int32 × am_Mm)
  | 0, _, _, _, _, _, _, _ => none
  | n + 1, x1, p2, x3, x4, x5, x6, m =>
    if (5 : Int32) < x6 then
      some (x5, m)
    else
      if am_in x1 9 = true then
        (f_Figure_countsAs p2 x3 x4 (am_pI m 17 x1.toNatClampNeg x6)).bind fun q8 =>
        if q8.1 = (0 : Int32) then
          f_C_kindsBy_b61 (f_C_kindsBy_b17 n) x1 p2 x3 x4 x5 x6 q8.2
        else
          f_C_kindsBy_b61 (f_C_kindsBy_b17 n) x1 p2 x3 x4 (x5 ||| (am_shl (1 : Int32) x6)) x6 q8.2
      else none
def f_C_kindsBy (x1 : Int32) (p2 : Nat) (x3 : Int32) (x4 : Int32) (m : am_Mm) : Option (Int32 × am_Mm) :=
  (f_Figure_take 16 13 m).bind fun q3 =>
  f_C_kindsBy_b17 am_F x1 p2 x3 x4 (0 : Int32) (1 : Int32) q3
set_option maxHeartbeats 4000000 in
set_option maxRecDepth 100000 in
theorem f_C_kindsBy_b61_ok {ro : am_Ro} {d : Nat} (hd : 5 ≤ d + 1) {k17 : Int32 → Nat → Int32 → Int32 → Int32 → Int32 → am_Mm → Option (Int32 × am_Mm)} (hk17 : ∀ (x1 : Int32) (p2 : Nat) (x3 : Int32) (x4 : Int32) (x5 : Int32) (x6 : Int32) (hp2 : p2 = 41 ∨ p2 = 43 ∨ p2 = 45 ∨ p2 = 47 ∨ p2 = 49 ∨ p2 = 51 ∨ p2 = 53 ∨ p2 = 55) (m m' : am_Mm) (r : Int32), k17 x1 p2 x3 x4 x5 x6 m = some (r, m') → am_AW am_nw ro (d + 1) mr_C_kindsBy 17 [some (.ref 0), some (.int x1), some (.ref p2), some (.int x3), some (.int x4), some (.int x5), some (.int x6)] [] (S0, m) (some (.int r)) (S0, m')) (x1 : Int32) (p2 : Nat) (x3 : Int32) (x4 : Int32) (x5 : Int32) (x6 : Int32) (hp2 : p2 = 41 ∨ p2 = 43 ∨ p2 = 45 ∨ p2 = 47 ∨ p2 = 49 ∨ p2 = 51 ∨ p2 = 53 ∨ p2 = 55) {m m' : am_Mm} {r : Int32} (h : f_C_kindsBy_b61 k17 x1 p2 x3 x4 x5 x6 m = some (r, m')) : am_AW am_nw ro (d + 1) mr_C_kindsBy 61 [some (.ref 0), some (.int x1), some (.ref p2), some (.int x3), some (.int x4), some (.int x5), some (.int x6)] [] (S0, m) (some (.int r)) (S0, m') := by
  unfold f_C_kindsBy_b61 at h
  refine am_AW.run am_base_ok ok_C_kindsBy (Nat.le_add_left 1 d) 2 (pc1 := 17) (ls1 := [some (.ref 0), some (.int x1), some (.ref p2), some (.int x3), some (.int x4), some (.int x5), some (.int (x6 + (1 : Int32)))]) (st1 := []) (σ1 := (S0, m)) rfl ?_
  exact am_AW.weak (hk17 x1 p2 x3 x4 x5 (x6 + (1 : Int32)) hp2 _ _ _ h) (by simp only [am_le, and_self])
set_option maxHeartbeats 4000000 in
set_option maxRecDepth 100000 in
theorem f_C_kindsBy_b17_all {ro : am_Ro} {d : Nat} (hd : 5 ≤ d + 1) : ∀ (n : Nat) (x1 : Int32) (p2 : Nat) (x3 : Int32) (x4 : Int32) (x5 : Int32) (x6 : Int32) (hp2 : p2 = 41 ∨ p2 = 43 ∨ p2 = 45 ∨ p2 = 47 ∨ p2 = 49 ∨ p2 = 51 ∨ p2 = 53 ∨ p2 = 55) (m m' : am_Mm) (r : Int32), f_C_kindsBy_b17 n x1 p2 x3 x4 x5 x6 m = some (r, m') → am_AW am_nw ro (d + 1) mr_C_kindsBy 17 [some (.ref 0), some (.int x1), some (.ref p2), some (.int x3), some (.int x4), some (.int x5), some (.int x6)] [] (S0, m) (some (.int r)) (S0, m') := by
  intro n
  induction n with
  | zero =>
    intro x1 p2 x3 x4 x5 x6 hp2 m m' r h
    rw [f_C_kindsBy_b17] at h
    cases h
  | succ n ih =>
    intro x1 p2 x3 x4 x5 x6 hp2 m m' r h
    rw [f_C_kindsBy_b17] at h
    refine am_AW.run am_base_ok ok_C_kindsBy (Nat.le_add_left 1 d) 2 (pc1 := 20) (ls1 := [some (.ref 0), some (.int x1), some (.ref p2), some (.int x3), some (.int x4), some (.int x5), some (.int x6)]) (st1 := [.int (5 : Int32), .int x6]) (σ1 := (S0, m)) rfl ?_
    refine am_AW.brP ok_C_kindsBy rfl rfl am_c_gt (fun c4 => ?_) (fun c4 => ?_)
    · rw [if_pos c4] at h
      refine am_AW.run am_base_ok ok_C_kindsBy (Nat.le_add_left 1 d) 1 (pc1 := 69) (ls1 := [some (.ref 0), some (.int x1), some (.ref p2), some (.int x3), some (.int x4), some (.int x5), some (.int x6)]) (st1 := [.int x5]) (σ1 := (S0, m)) rfl ?_
      obtain ⟨rfl, rfl⟩ := Prod.mk.inj (Option.some.inj h)
      exact am_AW.ret ok_C_kindsBy rfl rfl rfl rfl
    · rw [if_neg c4] at h
      refine am_AW.run am_base_ok ok_C_kindsBy (Nat.le_add_left 1 d) 5 (pc1 := 33) (ls1 := [some (.ref 0), some (.int x1), some (.ref p2), some (.int x3), some (.int x4), some (.int x5), some (.int x6)]) (st1 := [.int x6, .int x1, .ref 17]) (σ1 := (S0, m)) rfl ?_
      by_cases g5 : am_in x1 9 = true
      rotate_left
      · rw [if_neg g5] at h
        cases h
      rw [if_pos g5] at h
      refine am_AW.iast ok_C_kindsBy (Nat.le_add_left 1 d) rfl rfl g5 ?_
      change am_AW am_nw ro (d + 1) mr_C_kindsBy 34 [some (.ref 0), some (.int x1), some (.ref p2), some (.int x3), some (.int x4), some (.int x5), some (.int x6)] [] (S0, (am_pI m 17 x1.toNatClampNeg x6)) (some (.int r)) (S0, m')
      refine am_AW.run am_base_ok ok_C_kindsBy (Nat.le_add_left 1 d) 7 (pc1 := 46) (ls1 := [some (.ref 0), some (.int x1), some (.ref p2), some (.int x3), some (.int x4), some (.int x5), some (.int x6)]) (st1 := [.ref 20, .int x4, .int x3, .ref p2, .ref 16]) (σ1 := (S0, (am_pI m 17 x1.toNatClampNeg x6))) rfl ?_
      obtain ⟨q8, hq8, h⟩ := Option.bind_eq_some_iff.mp h
      refine am_AW.callV ok_C_kindsBy am_nw_ok (As := [.ref p2, .int x3, .int x4, .ref 20]) (rest := []) rfl rfl rfl oR_Figure_countsAs lk_C_354 iM_Figure_countsAs sE_Figure_countsAs (qc := kq3) rfl rfl rfl rfl (Nat.le_of_ble_eq_true rfl) (f_Figure_countsAs_ok (d := d) (by omega) p2 x3 x4 hp2 hq8) ?_
      change am_AW am_nw ro (d + 1) mr_C_kindsBy 49 [some (.ref 0), some (.int x1), some (.ref p2), some (.int x3), some (.int x4), some (.int x5), some (.int x6)] [.int q8.1] (S0, q8.2) (some (.int r)) (S0, m')
      refine am_AW.brP ok_C_kindsBy rfl rfl am_c_eq (fun c9 => ?_) (fun c9 => ?_)
      · rw [if_pos c9] at h
        exact am_AW.weak (f_C_kindsBy_b61_ok hd (ih) x1 p2 x3 x4 x5 x6 hp2 h) (by simp only [am_le, and_self])
      · rw [if_neg c9] at h
        refine am_AW.run am_base_ok ok_C_kindsBy (Nat.le_add_left 1 d) 6 (pc1 := 61) (ls1 := [some (.ref 0), some (.int x1), some (.ref p2), some (.int x3), some (.int x4), some (.int (x5 ||| (am_shl (1 : Int32) x6))), some (.int x6)]) (st1 := []) (σ1 := (S0, q8.2)) rfl ?_
        exact am_AW.weak (f_C_kindsBy_b61_ok hd (ih) x1 p2 x3 x4 (x5 ||| (am_shl (1 : Int32) x6)) x6 hp2 h) (by simp only [am_le, and_self])
set_option maxHeartbeats 4000000 in
set_option maxRecDepth 100000 in
theorem f_C_kindsBy_b17_ok {ro : am_Ro} {d : Nat} (hd : 5 ≤ d + 1) (x1 : Int32) (p2 : Nat) (x3 : Int32) (x4 : Int32) (x5 : Int32) (x6 : Int32) (hp2 : p2 = 41 ∨ p2 = 43 ∨ p2 = 45 ∨ p2 = 47 ∨ p2 = 49 ∨ p2 = 51 ∨ p2 = 53 ∨ p2 = 55) {m m' : am_Mm} {r : Int32} {n : Nat} (h : f_C_kindsBy_b17 n x1 p2 x3 x4 x5 x6 m = some (r, m')) : am_AW am_nw ro (d + 1) mr_C_kindsBy 17 [some (.ref 0), some (.int x1), some (.ref p2), some (.int x3), some (.int x4), some (.int x5), some (.int x6)] [] (S0, m) (some (.int r)) (S0, m') :=
  f_C_kindsBy_b17_all hd n x1 p2 x3 x4 x5 x6 hp2 m m' r h
set_option maxHeartbeats 4000000 in
set_option maxRecDepth 100000 in
theorem f_C_kindsBy_ok {ro : am_Ro} {d : Nat} (hd : 5 ≤ d) (x1 : Int32) (p2 : Nat) (x3 : Int32) (x4 : Int32) (hp2 : p2 = 41 ∨ p2 = 43 ∨ p2 = 45 ∨ p2 = 47 ∨ p2 = 49 ∨ p2 = 51 ∨ p2 = 53 ∨ p2 = 55) {m m' : am_Mm} {r : Int32} (h : f_C_kindsBy x1 p2 x3 x4 m = some (r, m')) : am_Mt am_nw ro d mr_C_kindsBy [.ref 0, .int x1, .ref p2, .int x3, .int x4] (S0, m) (some (.int r)) (S0, m') := by
  obtain ⟨d, rfl⟩ : ∃ d0, d = d0 + 1 := ⟨d - 1, by omega⟩
  refine am_Mt.of (by decide +kernel) (Nat.le_of_ble_eq_true rfl) ?_
  change am_AW am_nw ro (d + 1) mr_C_kindsBy 0 [some (.ref 0), some (.int x1), some (.ref p2), some (.int x3), some (.int x4), none, none] [] (S0, m) (some (.int r)) (S0, m')
  unfold f_C_kindsBy at h
  refine am_AW.run am_base_ok ok_C_kindsBy (Nat.le_add_left 1 d) 4 (pc1 := 8) (ls1 := [some (.ref 0), some (.int x1), some (.ref p2), some (.int x3), some (.int x4), none, none]) (st1 := [.ref 13, .ref 16]) (σ1 := (S0, m)) rfl ?_
  obtain ⟨q3, hq3, h⟩ := Option.bind_eq_some_iff.mp h
  refine am_AW.callV ok_C_kindsBy am_nw_ok (As := [.ref 13]) (rest := []) rfl rfl rfl oR_Figure_take lk_C_318 iM_Figure_take sE_Figure_take (qc := kq3) rfl rfl rfl rfl (Nat.le_of_ble_eq_true rfl) (f_Figure_take_ok (d := d) (by omega) 16 13 (by simp) (by simp) hq3) ?_
  change am_AW am_nw ro (d + 1) mr_C_kindsBy 11 [some (.ref 0), some (.int x1), some (.ref p2), some (.int x3), some (.int x4), none, none] [] (S0, q3) (some (.int r)) (S0, m')
  refine am_AW.run am_base_ok ok_C_kindsBy (Nat.le_add_left 1 d) 4 (pc1 := 17) (ls1 := [some (.ref 0), some (.int x1), some (.ref p2), some (.int x3), some (.int x4), some (.int (0 : Int32)), some (.int (1 : Int32))]) (st1 := []) (σ1 := (S0, q3)) rfl ?_
  exact am_AW.weak (f_C_kindsBy_b17_ok hd x1 p2 x3 x4 (0 : Int32) (1 : Int32) hp2 h) (by simp only [am_le, and_self])
/-! FriezePolygons.ownBy(ILFriezePolygons$Row;II)I -/
def f_C_ownBy_b62 (k17 : Int32 → Nat → Int32 → Int32 → Int32 → Int32 → am_Mm → Option (Int32 × am_Mm)) (x1 : Int32) (p2 : Nat) (x3 : Int32) (x4 : Int32) (x5 : Int32) (x6 : Int32) (m : am_Mm) : Option (Int32 × am_Mm) :=
  k17 x1 p2 x3 x4 x5 (x6 + (1 : Int32)) m
def f_C_ownBy_b17 : Nat → Int32 → Nat → Int32 → Int32 → Int32 → Int32 → am_Mm → Option (Int32 × am_Mm)
  | 0, _, _, _, _, _, _, _ => none
  | n + 1, x1, p2, x3, x4, x5, x6, m =>
    if (9 : Int32) < x6 then
      some (x5, m)
    else
      if am_in x1 9 = true then
        (f_Figure_countsAs p2 x3 x4 (am_pI m 18 x1.toNatClampNeg x6)).bind fun q8 =>
        if q8.1 = (0 : Int32) then
          f_C_ownBy_b62 (f_C_ownBy_b17 n) x1 p2 x3 x4 x5 x6 q8.2
        else
          f_C_ownBy_b62 (f_C_ownBy_b17 n) x1 p2 x3 x4 (x5 ||| (am_shl (1 : Int32) x6)) x6 q8.2
      else none
def f_C_ownBy (x1 : Int32) (p2 : Nat) (x3 : Int32) (x4 : Int32) (m : am_Mm) : Option (Int32 × am_Mm) :=
  (f_Figure_take 16 13 m).bind fun q3 =>
  f_C_ownBy_b17 am_F x1 p2 x3 x4 (0 : Int32) (0 : Int32) q3
set_option maxHeartbeats 4000000 in
set_option maxRecDepth 100000 in
theorem f_C_ownBy_b62_ok {ro : am_Ro} {d : Nat} (hd : 5 ≤ d + 1) {k17 : Int32 → Nat → Int32 → Int32 → Int32 → Int32 → am_Mm → Option (Int32 × am_Mm)} (hk17 : ∀ (x1 : Int32) (p2 : Nat) (x3 : Int32) (x4 : Int32) (x5 : Int32) (x6 : Int32) (hp2 : p2 = 41 ∨ p2 = 43 ∨ p2 = 45 ∨ p2 = 47 ∨ p2 = 49 ∨ p2 = 51 ∨ p2 = 53 ∨ p2 = 55) (m m' : am_Mm) (r : Int32), k17 x1 p2 x3 x4 x5 x6 m = some (r, m') → am_AW am_nw ro (d + 1) mr_C_ownBy 17 [some (.ref 0), some (.int x1), some (.ref p2), some (.int x3), some (.int x4), some (.int x5), some (.int x6)] [] (S0, m) (some (.int r)) (S0, m')) (x1 : Int32) (p2 : Nat) (x3 : Int32) (x4 : Int32) (x5 : Int32) (x6 : Int32) (hp2 : p2 = 41 ∨ p2 = 43 ∨ p2 = 45 ∨ p2 = 47 ∨ p2 = 49 ∨ p2 = 51 ∨ p2 = 53 ∨ p2 = 55) {m m' : am_Mm} {r : Int32} (h : f_C_ownBy_b62 k17 x1 p2 x3 x4 x5 x6 m = some (r, m')) : am_AW am_nw ro (d + 1) mr_C_ownBy 62 [some (.ref 0), some (.int x1), some (.ref p2), some (.int x3), some (.int x4), some (.int x5), some (.int x6)] [] (S0, m) (some (.int r)) (S0, m') := by
  unfold f_C_ownBy_b62 at h
  refine am_AW.run am_base_ok ok_C_ownBy (Nat.le_add_left 1 d) 2 (pc1 := 17) (ls1 := [some (.ref 0), some (.int x1), some (.ref p2), some (.int x3), some (.int x4), some (.int x5), some (.int (x6 + (1 : Int32)))]) (st1 := []) (σ1 := (S0, m)) rfl ?_
  exact am_AW.weak (hk17 x1 p2 x3 x4 x5 (x6 + (1 : Int32)) hp2 _ _ _ h) (by simp only [am_le, and_self])
set_option maxHeartbeats 4000000 in
set_option maxRecDepth 100000 in
theorem f_C_ownBy_b17_all {ro : am_Ro} {d : Nat} (hd : 5 ≤ d + 1) : ∀ (n : Nat) (x1 : Int32) (p2 : Nat) (x3 : Int32) (x4 : Int32) (x5 : Int32) (x6 : Int32) (hp2 : p2 = 41 ∨ p2 = 43 ∨ p2 = 45 ∨ p2 = 47 ∨ p2 = 49 ∨ p2 = 51 ∨ p2 = 53 ∨ p2 = 55) (m m' : am_Mm) (r : Int32), f_C_ownBy_b17 n x1 p2 x3 x4 x5 x6 m = some (r, m') → am_AW am_nw ro (d + 1) mr_C_ownBy 17 [some (.ref 0), some (.int x1), some (.ref p2), some (.int x3), some (.int x4), some (.int x5), some (.int x6)] [] (S0, m) (some (.int r)) (S0, m') := by
  intro n
  induction n with
  | zero =>
    intro x1 p2 x3 x4 x5 x6 hp2 m m' r h
    rw [f_C_ownBy_b17] at h
    cases h
  | succ n ih =>
    intro x1 p2 x3 x4 x5 x6 hp2 m m' r h
    rw [f_C_ownBy_b17] at h
    refine am_AW.run am_base_ok ok_C_ownBy (Nat.le_add_left 1 d) 2 (pc1 := 21) (ls1 := [some (.ref 0), some (.int x1), some (.ref p2), some (.int x3), some (.int x4), some (.int x5), some (.int x6)]) (st1 := [.int (9 : Int32), .int x6]) (σ1 := (S0, m)) rfl ?_
    refine am_AW.brP ok_C_ownBy rfl rfl am_c_gt (fun c4 => ?_) (fun c4 => ?_)
    · rw [if_pos c4] at h
      refine am_AW.run am_base_ok ok_C_ownBy (Nat.le_add_left 1 d) 1 (pc1 := 70) (ls1 := [some (.ref 0), some (.int x1), some (.ref p2), some (.int x3), some (.int x4), some (.int x5), some (.int x6)]) (st1 := [.int x5]) (σ1 := (S0, m)) rfl ?_
      obtain ⟨rfl, rfl⟩ := Prod.mk.inj (Option.some.inj h)
      exact am_AW.ret ok_C_ownBy rfl rfl rfl rfl
    · rw [if_neg c4] at h
      refine am_AW.run am_base_ok ok_C_ownBy (Nat.le_add_left 1 d) 5 (pc1 := 34) (ls1 := [some (.ref 0), some (.int x1), some (.ref p2), some (.int x3), some (.int x4), some (.int x5), some (.int x6)]) (st1 := [.int x6, .int x1, .ref 18]) (σ1 := (S0, m)) rfl ?_
      by_cases g5 : am_in x1 9 = true
      rotate_left
      · rw [if_neg g5] at h
        cases h
      rw [if_pos g5] at h
      refine am_AW.iast ok_C_ownBy (Nat.le_add_left 1 d) rfl rfl g5 ?_
      change am_AW am_nw ro (d + 1) mr_C_ownBy 35 [some (.ref 0), some (.int x1), some (.ref p2), some (.int x3), some (.int x4), some (.int x5), some (.int x6)] [] (S0, (am_pI m 18 x1.toNatClampNeg x6)) (some (.int r)) (S0, m')
      refine am_AW.run am_base_ok ok_C_ownBy (Nat.le_add_left 1 d) 7 (pc1 := 47) (ls1 := [some (.ref 0), some (.int x1), some (.ref p2), some (.int x3), some (.int x4), some (.int x5), some (.int x6)]) (st1 := [.ref 20, .int x4, .int x3, .ref p2, .ref 16]) (σ1 := (S0, (am_pI m 18 x1.toNatClampNeg x6))) rfl ?_
      obtain ⟨q8, hq8, h⟩ := Option.bind_eq_some_iff.mp h
      refine am_AW.callV ok_C_ownBy am_nw_ok (As := [.ref p2, .int x3, .int x4, .ref 20]) (rest := []) rfl rfl rfl oR_Figure_countsAs lk_C_354 iM_Figure_countsAs sE_Figure_countsAs (qc := kq3) rfl rfl rfl rfl (Nat.le_of_ble_eq_true rfl) (f_Figure_countsAs_ok (d := d) (by omega) p2 x3 x4 hp2 hq8) ?_
      change am_AW am_nw ro (d + 1) mr_C_ownBy 50 [some (.ref 0), some (.int x1), some (.ref p2), some (.int x3), some (.int x4), some (.int x5), some (.int x6)] [.int q8.1] (S0, q8.2) (some (.int r)) (S0, m')
      refine am_AW.brP ok_C_ownBy rfl rfl am_c_eq (fun c9 => ?_) (fun c9 => ?_)
      · rw [if_pos c9] at h
        exact am_AW.weak (f_C_ownBy_b62_ok hd (ih) x1 p2 x3 x4 x5 x6 hp2 h) (by simp only [am_le, and_self])
      · rw [if_neg c9] at h
        refine am_AW.run am_base_ok ok_C_ownBy (Nat.le_add_left 1 d) 6 (pc1 := 62) (ls1 := [some (.ref 0), some (.int x1), some (.ref p2), some (.int x3), some (.int x4), some (.int (x5 ||| (am_shl (1 : Int32) x6))), some (.int x6)]) (st1 := []) (σ1 := (S0, q8.2)) rfl ?_
        exact am_AW.weak (f_C_ownBy_b62_ok hd (ih) x1 p2 x3 x4 (x5 ||| (am_shl (1 : Int32) x6)) x6 hp2 h) (by simp only [am_le, and_self])
set_option maxHeartbeats 4000000 in
set_option maxRecDepth 100000 in
theorem f_C_ownBy_b17_ok {ro : am_Ro} {d : Nat} (hd : 5 ≤ d + 1) (x1 : Int32) (p2 : Nat) (x3 : Int32) (x4 : Int32) (x5 : Int32) (x6 : Int32) (hp2 : p2 = 41 ∨ p2 = 43 ∨ p2 = 45 ∨ p2 = 47 ∨ p2 = 49 ∨ p2 = 51 ∨ p2 = 53 ∨ p2 = 55) {m m' : am_Mm} {r : Int32} {n : Nat} (h : f_C_ownBy_b17 n x1 p2 x3 x4 x5 x6 m = some (r, m')) : am_AW am_nw ro (d + 1) mr_C_ownBy 17 [some (.ref 0), some (.int x1), some (.ref p2), some (.int x3), some (.int x4), some (.int x5), some (.int x6)] [] (S0, m) (some (.int r)) (S0, m') :=
  f_C_ownBy_b17_all hd n x1 p2 x3 x4 x5 x6 hp2 m m' r h
set_option maxHeartbeats 4000000 in
set_option maxRecDepth 100000 in
theorem f_C_ownBy_ok {ro : am_Ro} {d : Nat} (hd : 5 ≤ d) (x1 : Int32) (p2 : Nat) (x3 : Int32) (x4 : Int32) (hp2 : p2 = 41 ∨ p2 = 43 ∨ p2 = 45 ∨ p2 = 47 ∨ p2 = 49 ∨ p2 = 51 ∨ p2 = 53 ∨ p2 = 55) {m m' : am_Mm} {r : Int32} (h : f_C_ownBy x1 p2 x3 x4 m = some (r, m')) : am_Mt am_nw ro d mr_C_ownBy [.ref 0, .int x1, .ref p2, .int x3, .int x4] (S0, m) (some (.int r)) (S0, m') := by
  obtain ⟨d, rfl⟩ : ∃ d0, d = d0 + 1 := ⟨d - 1, by omega⟩
  refine am_Mt.of (by decide +kernel) (Nat.le_of_ble_eq_true rfl) ?_
  change am_AW am_nw ro (d + 1) mr_C_ownBy 0 [some (.ref 0), some (.int x1), some (.ref p2), some (.int x3), some (.int x4), none, none] [] (S0, m) (some (.int r)) (S0, m')
  unfold f_C_ownBy at h
  refine am_AW.run am_base_ok ok_C_ownBy (Nat.le_add_left 1 d) 4 (pc1 := 8) (ls1 := [some (.ref 0), some (.int x1), some (.ref p2), some (.int x3), some (.int x4), none, none]) (st1 := [.ref 13, .ref 16]) (σ1 := (S0, m)) rfl ?_
  obtain ⟨q3, hq3, h⟩ := Option.bind_eq_some_iff.mp h
  refine am_AW.callV ok_C_ownBy am_nw_ok (As := [.ref 13]) (rest := []) rfl rfl rfl oR_Figure_take lk_C_318 iM_Figure_take sE_Figure_take (qc := kq3) rfl rfl rfl rfl (Nat.le_of_ble_eq_true rfl) (f_Figure_take_ok (d := d) (by omega) 16 13 (by simp) (by simp) hq3) ?_
  change am_AW am_nw ro (d + 1) mr_C_ownBy 11 [some (.ref 0), some (.int x1), some (.ref p2), some (.int x3), some (.int x4), none, none] [] (S0, q3) (some (.int r)) (S0, m')
  refine am_AW.run am_base_ok ok_C_ownBy (Nat.le_add_left 1 d) 4 (pc1 := 17) (ls1 := [some (.ref 0), some (.int x1), some (.ref p2), some (.int x3), some (.int x4), some (.int (0 : Int32)), some (.int (0 : Int32))]) (st1 := []) (σ1 := (S0, q3)) rfl ?_
  exact am_AW.weak (f_C_ownBy_b17_ok hd x1 p2 x3 x4 (0 : Int32) (0 : Int32) hp2 h) (by simp only [am_le, and_self])
/-! FriezePolygons.cutsBy(LFriezePolygons$Row;II)I -/
def f_C_cutsBy_b93 (k17 : Nat → Int32 → Int32 → Int32 → Int32 → am_Mm → Option (Int32 × am_Mm)) (p1 : Nat) (x2 : Int32) (x3 : Int32) (x4 : Int32) (x5 : Int32) (m : am_Mm) : Option (Int32 × am_Mm) :=
  k17 p1 x2 x3 x4 (x5 + (1 : Int32)) m
def f_C_cutsBy_b17 : Nat → Nat → Int32 → Int32 → Int32 → Int32 → am_Mm → Option (Int32 × am_Mm)
  | 0, _, _, _, _, _, _ => none
  | n + 1, p1, x2, x3, x4, x5, m =>
    if (m.1 20 6) ≤ x5 then
      some (x4, m)
    else
      (f_Ring_isFree 20 ((am_pI m 16 3 ((m.1 13 3) ||| (am_shl (1 : Int32) x5))).1 13 3) x5 (am_pI m 16 3 ((m.1 13 3) ||| (am_shl (1 : Int32) x5)))).bind fun q7 =>
      if q7.1 = (0 : Int32) then
        f_C_cutsBy_b93 (f_C_cutsBy_b17 n) p1 x2 x3 x4 x5 q7.2
      else
        (f_Figure_countsAs p1 x2 x3 q7.2).bind fun q11 =>
        if q11.1 = (0 : Int32) then
          f_C_cutsBy_b93 (f_C_cutsBy_b17 n) p1 x2 x3 x4 x5 q11.2
        else
          f_C_cutsBy_b93 (f_C_cutsBy_b17 n) p1 x2 x3 (x4 ||| (am_shl (1 : Int32) x5)) x5 q11.2
def f_C_cutsBy (p1 : Nat) (x2 : Int32) (x3 : Int32) (m : am_Mm) : Option (Int32 × am_Mm) :=
  (f_Figure_take 16 13 m).bind fun q3 =>
  f_C_cutsBy_b17 am_F p1 x2 x3 (0 : Int32) (0 : Int32) q3
set_option maxHeartbeats 4000000 in
set_option maxRecDepth 100000 in
theorem f_C_cutsBy_b93_ok {ro : am_Ro} {d : Nat} (hd : 5 ≤ d + 1) {k17 : Nat → Int32 → Int32 → Int32 → Int32 → am_Mm → Option (Int32 × am_Mm)} (hk17 : ∀ (p1 : Nat) (x2 : Int32) (x3 : Int32) (x4 : Int32) (x5 : Int32) (hp1 : p1 = 41 ∨ p1 = 43 ∨ p1 = 45 ∨ p1 = 47 ∨ p1 = 49 ∨ p1 = 51 ∨ p1 = 53 ∨ p1 = 55) (m m' : am_Mm) (r : Int32), k17 p1 x2 x3 x4 x5 m = some (r, m') → am_AW am_nw ro (d + 1) mr_C_cutsBy 17 [some (.ref 0), some (.ref p1), some (.int x2), some (.int x3), some (.int x4), some (.int x5)] [] (S0, m) (some (.int r)) (S0, m')) (p1 : Nat) (x2 : Int32) (x3 : Int32) (x4 : Int32) (x5 : Int32) (hp1 : p1 = 41 ∨ p1 = 43 ∨ p1 = 45 ∨ p1 = 47 ∨ p1 = 49 ∨ p1 = 51 ∨ p1 = 53 ∨ p1 = 55) {m m' : am_Mm} {r : Int32} (h : f_C_cutsBy_b93 k17 p1 x2 x3 x4 x5 m = some (r, m')) : am_AW am_nw ro (d + 1) mr_C_cutsBy 93 [some (.ref 0), some (.ref p1), some (.int x2), some (.int x3), some (.int x4), some (.int x5)] [] (S0, m) (some (.int r)) (S0, m') := by
  unfold f_C_cutsBy_b93 at h
  refine am_AW.run am_base_ok ok_C_cutsBy (Nat.le_add_left 1 d) 2 (pc1 := 17) (ls1 := [some (.ref 0), some (.ref p1), some (.int x2), some (.int x3), some (.int x4), some (.int (x5 + (1 : Int32)))]) (st1 := []) (σ1 := (S0, m)) rfl ?_
  exact am_AW.weak (hk17 p1 x2 x3 x4 (x5 + (1 : Int32)) hp1 _ _ _ h) (by simp only [am_le, and_self])
set_option maxHeartbeats 4000000 in
set_option maxRecDepth 100000 in
theorem f_C_cutsBy_b17_all {ro : am_Ro} {d : Nat} (hd : 5 ≤ d + 1) : ∀ (n : Nat) (p1 : Nat) (x2 : Int32) (x3 : Int32) (x4 : Int32) (x5 : Int32) (hp1 : p1 = 41 ∨ p1 = 43 ∨ p1 = 45 ∨ p1 = 47 ∨ p1 = 49 ∨ p1 = 51 ∨ p1 = 53 ∨ p1 = 55) (m m' : am_Mm) (r : Int32), f_C_cutsBy_b17 n p1 x2 x3 x4 x5 m = some (r, m') → am_AW am_nw ro (d + 1) mr_C_cutsBy 17 [some (.ref 0), some (.ref p1), some (.int x2), some (.int x3), some (.int x4), some (.int x5)] [] (S0, m) (some (.int r)) (S0, m') := by
  intro n
  induction n with
  | zero =>
    intro p1 x2 x3 x4 x5 hp1 m m' r h
    rw [f_C_cutsBy_b17] at h
    cases h
  | succ n ih =>
    intro p1 x2 x3 x4 x5 hp1 m m' r h
    rw [f_C_cutsBy_b17] at h
    refine am_AW.run am_base_ok ok_C_cutsBy (Nat.le_add_left 1 d) 4 (pc1 := 26) (ls1 := [some (.ref 0), some (.ref p1), some (.int x2), some (.int x3), some (.int x4), some (.int x5)]) (st1 := [.int (m.1 20 6), .int x5]) (σ1 := (S0, m)) rfl ?_
    refine am_AW.brP ok_C_cutsBy rfl rfl am_c_ge (fun c4 => ?_) (fun c4 => ?_)
    · rw [if_pos c4] at h
      refine am_AW.run am_base_ok ok_C_cutsBy (Nat.le_add_left 1 d) 1 (pc1 := 101) (ls1 := [some (.ref 0), some (.ref p1), some (.int x2), some (.int x3), some (.int x4), some (.int x5)]) (st1 := [.int x4]) (σ1 := (S0, m)) rfl ?_
      obtain ⟨rfl, rfl⟩ := Prod.mk.inj (Option.some.inj h)
      exact am_AW.ret ok_C_cutsBy rfl rfl rfl rfl
    · rw [if_neg c4] at h
      refine am_AW.run am_base_ok ok_C_cutsBy (Nat.le_add_left 1 d) 9 (pc1 := 45) (ls1 := [some (.ref 0), some (.ref p1), some (.int x2), some (.int x3), some (.int x4), some (.int x5)]) (st1 := [.int ((m.1 13 3) ||| (am_shl (1 : Int32) x5)), .ref 16]) (σ1 := (S0, m)) rfl ?_
      refine am_AW.puti ok_C_cutsBy (Nat.le_add_left 1 d) rfl rfl rfl (qc := kq3) rfl (by decide) ty_3_3 ?_
      refine am_AW.run am_base_ok ok_C_cutsBy (Nat.le_add_left 1 d) 6 (pc1 := 61) (ls1 := [some (.ref 0), some (.ref p1), some (.int x2), some (.int x3), some (.int x4), some (.int x5)]) (st1 := [.int x5, .int ((am_pI m 16 3 ((m.1 13 3) ||| (am_shl (1 : Int32) x5))).1 13 3), .ref 20]) (σ1 := (S0, (am_pI m 16 3 ((m.1 13 3) ||| (am_shl (1 : Int32) x5))))) rfl ?_
      obtain ⟨q7, hq7, h⟩ := Option.bind_eq_some_iff.mp h
      refine am_AW.callV ok_C_cutsBy am_nw_ok (As := [.int ((am_pI m 16 3 ((m.1 13 3) ||| (am_shl (1 : Int32) x5))).1 13 3), .int x5]) (rest := []) rfl rfl rfl oR_Ring_isFree lk_C_173 iM_Ring_isFree sE_Ring_isFree (qc := kq6) rfl rfl rfl rfl (Nat.le_of_ble_eq_true rfl) (f_Ring_isFree_ok (d := d) (by omega) 20 ((am_pI m 16 3 ((m.1 13 3) ||| (am_shl (1 : Int32) x5))).1 13 3) x5 (by simp) hq7) ?_
      change am_AW am_nw ro (d + 1) mr_C_cutsBy 64 [some (.ref 0), some (.ref p1), some (.int x2), some (.int x3), some (.int x4), some (.int x5)] [.int q7.1] (S0, q7.2) (some (.int r)) (S0, m')
      refine am_AW.brP ok_C_cutsBy rfl rfl am_c_eq (fun c8 => ?_) (fun c8 => ?_)
      · rw [if_pos c8] at h
        exact am_AW.weak (f_C_cutsBy_b93_ok hd (ih) p1 x2 x3 x4 x5 hp1 h) (by simp only [am_le, and_self])
      · rw [if_neg c8] at h
        refine am_AW.run am_base_ok ok_C_cutsBy (Nat.le_add_left 1 d) 7 (pc1 := 78) (ls1 := [some (.ref 0), some (.ref p1), some (.int x2), some (.int x3), some (.int x4), some (.int x5)]) (st1 := [.ref 20, .int x3, .int x2, .ref p1, .ref 16]) (σ1 := (S0, q7.2)) rfl ?_
        obtain ⟨q11, hq11, h⟩ := Option.bind_eq_some_iff.mp h
        refine am_AW.callV ok_C_cutsBy am_nw_ok (As := [.ref p1, .int x2, .int x3, .ref 20]) (rest := []) rfl rfl rfl oR_Figure_countsAs lk_C_354 iM_Figure_countsAs sE_Figure_countsAs (qc := kq3) rfl rfl rfl rfl (Nat.le_of_ble_eq_true rfl) (f_Figure_countsAs_ok (d := d) (by omega) p1 x2 x3 hp1 hq11) ?_
        change am_AW am_nw ro (d + 1) mr_C_cutsBy 81 [some (.ref 0), some (.ref p1), some (.int x2), some (.int x3), some (.int x4), some (.int x5)] [.int q11.1] (S0, q11.2) (some (.int r)) (S0, m')
        refine am_AW.brP ok_C_cutsBy rfl rfl am_c_eq (fun c12 => ?_) (fun c12 => ?_)
        · rw [if_pos c12] at h
          exact am_AW.weak (f_C_cutsBy_b93_ok hd (ih) p1 x2 x3 x4 x5 hp1 h) (by simp only [am_le, and_self])
        · rw [if_neg c12] at h
          refine am_AW.run am_base_ok ok_C_cutsBy (Nat.le_add_left 1 d) 6 (pc1 := 93) (ls1 := [some (.ref 0), some (.ref p1), some (.int x2), some (.int x3), some (.int (x4 ||| (am_shl (1 : Int32) x5))), some (.int x5)]) (st1 := []) (σ1 := (S0, q11.2)) rfl ?_
          exact am_AW.weak (f_C_cutsBy_b93_ok hd (ih) p1 x2 x3 (x4 ||| (am_shl (1 : Int32) x5)) x5 hp1 h) (by simp only [am_le, and_self])
set_option maxHeartbeats 4000000 in
set_option maxRecDepth 100000 in
theorem f_C_cutsBy_b17_ok {ro : am_Ro} {d : Nat} (hd : 5 ≤ d + 1) (p1 : Nat) (x2 : Int32) (x3 : Int32) (x4 : Int32) (x5 : Int32) (hp1 : p1 = 41 ∨ p1 = 43 ∨ p1 = 45 ∨ p1 = 47 ∨ p1 = 49 ∨ p1 = 51 ∨ p1 = 53 ∨ p1 = 55) {m m' : am_Mm} {r : Int32} {n : Nat} (h : f_C_cutsBy_b17 n p1 x2 x3 x4 x5 m = some (r, m')) : am_AW am_nw ro (d + 1) mr_C_cutsBy 17 [some (.ref 0), some (.ref p1), some (.int x2), some (.int x3), some (.int x4), some (.int x5)] [] (S0, m) (some (.int r)) (S0, m') :=
  f_C_cutsBy_b17_all hd n p1 x2 x3 x4 x5 hp1 m m' r h
set_option maxHeartbeats 4000000 in
set_option maxRecDepth 100000 in
theorem f_C_cutsBy_ok {ro : am_Ro} {d : Nat} (hd : 5 ≤ d) (p1 : Nat) (x2 : Int32) (x3 : Int32) (hp1 : p1 = 41 ∨ p1 = 43 ∨ p1 = 45 ∨ p1 = 47 ∨ p1 = 49 ∨ p1 = 51 ∨ p1 = 53 ∨ p1 = 55) {m m' : am_Mm} {r : Int32} (h : f_C_cutsBy p1 x2 x3 m = some (r, m')) : am_Mt am_nw ro d mr_C_cutsBy [.ref 0, .ref p1, .int x2, .int x3] (S0, m) (some (.int r)) (S0, m') := by
  obtain ⟨d, rfl⟩ : ∃ d0, d = d0 + 1 := ⟨d - 1, by omega⟩
  refine am_Mt.of (by decide +kernel) (Nat.le_of_ble_eq_true rfl) ?_
  change am_AW am_nw ro (d + 1) mr_C_cutsBy 0 [some (.ref 0), some (.ref p1), some (.int x2), some (.int x3), none, none] [] (S0, m) (some (.int r)) (S0, m')
  unfold f_C_cutsBy at h
  refine am_AW.run am_base_ok ok_C_cutsBy (Nat.le_add_left 1 d) 4 (pc1 := 8) (ls1 := [some (.ref 0), some (.ref p1), some (.int x2), some (.int x3), none, none]) (st1 := [.ref 13, .ref 16]) (σ1 := (S0, m)) rfl ?_
  obtain ⟨q3, hq3, h⟩ := Option.bind_eq_some_iff.mp h
  refine am_AW.callV ok_C_cutsBy am_nw_ok (As := [.ref 13]) (rest := []) rfl rfl rfl oR_Figure_take lk_C_318 iM_Figure_take sE_Figure_take (qc := kq3) rfl rfl rfl rfl (Nat.le_of_ble_eq_true rfl) (f_Figure_take_ok (d := d) (by omega) 16 13 (by simp) (by simp) hq3) ?_
  change am_AW am_nw ro (d + 1) mr_C_cutsBy 11 [some (.ref 0), some (.ref p1), some (.int x2), some (.int x3), none, none] [] (S0, q3) (some (.int r)) (S0, m')
  refine am_AW.run am_base_ok ok_C_cutsBy (Nat.le_add_left 1 d) 4 (pc1 := 17) (ls1 := [some (.ref 0), some (.ref p1), some (.int x2), some (.int x3), some (.int (0 : Int32)), some (.int (0 : Int32))]) (st1 := []) (σ1 := (S0, q3)) rfl ?_
  exact am_AW.weak (f_C_cutsBy_b17_ok hd p1 x2 x3 (0 : Int32) (0 : Int32) hp1 h) (by simp only [am_le, and_self])
/-! FriezePolygons.casesWithout(II)J -/
def f_C_casesWithout_b77 (k26 : Int32 → Int32 → Int32 → Int64 → Int32 → Int32 → am_Mm → Option (Int64 × am_Mm)) (x1 : Int32) (x2 : Int32) (x3 : Int32) (x4 : Int64) (x6 : Int32) (x7 : Int32) (m : am_Mm) : Option (Int64 × am_Mm) :=
  k26 x1 x2 x3 x4 ((x6 - (1 : Int32)) &&& (m.1 13 3)) (x7 + (1 : Int32)) m
def f_C_casesWithout_b26 : Nat → Int32 → Int32 → Int32 → Int64 → Int32 → Int32 → am_Mm → Option (Int64 × am_Mm)
  | 0, _, _, _, _, _, _, _ => none
  | n + 1, x1, x2, x3, x4, x6, x7, m =>
    if (am_shl (1 : Int32) x3) ≤ x7 then
      some (x4, m)
    else
      (f_Ring_greatestPiece x6 m).bind fun q7 =>
      if x1 < q7.1 then
        f_C_casesWithout_b77 (f_C_casesWithout_b26 n) x1 x2 x3 x4 x6 x7 q7.2
      else
        (f_Integer_bitCount x6 q7.2).bind fun q11 =>
        (f_C_power x2 (x3 - q11.1) q11.2).bind fun q14 =>
        (f_C_power ((10 : Int32) - x2) q11.1 q14.2).bind fun q17 =>
        f_C_casesWithout_b77 (f_C_casesWithout_b26 n) x1 x2 x3 (x4 + (q14.1 * q17.1)) x6 x7 q17.2
def f_C_casesWithout (x1 : Int32) (x2 : Int32) (m : am_Mm) : Option (Int64 × am_Mm) :=
  (f_Integer_bitCount (m.1 13 3) m).bind fun q3 =>
  f_C_casesWithout_b26 am_F x1 x2 q3.1 (0 : Int64) (q3.2.1 13 3) (0 : Int32) q3.2
set_option maxHeartbeats 4000000 in
set_option maxRecDepth 100000 in
theorem f_C_casesWithout_b77_ok {ro : am_Ro} {d : Nat} (hd : 5 ≤ d + 1) {k26 : Int32 → Int32 → Int32 → Int64 → Int32 → Int32 → am_Mm → Option (Int64 × am_Mm)} (hk26 : ∀ (x1 : Int32) (x2 : Int32) (x3 : Int32) (x4 : Int64) (x6 : Int32) (x7 : Int32) (m m' : am_Mm) (r : Int64), k26 x1 x2 x3 x4 x6 x7 m = some (r, m') → am_AW am_nw ro (d + 1) mr_C_casesWithout 26 [some (.ref 0), some (.int x1), some (.int x2), some (.int x3), some (.long x4), none, some (.int x6), some (.int x7), none] [] (S0, m) (some (.long r)) (S0, m')) (x1 : Int32) (x2 : Int32) (x3 : Int32) (x4 : Int64) (x6 : Int32) (x7 : Int32) {m m' : am_Mm} {r : Int64} (h : f_C_casesWithout_b77 k26 x1 x2 x3 x4 x6 x7 m = some (r, m')) : am_AW am_nw ro (d + 1) mr_C_casesWithout 77 [some (.ref 0), some (.int x1), some (.int x2), some (.int x3), some (.long x4), none, some (.int x6), some (.int x7), none] [] (S0, m) (some (.long r)) (S0, m') := by
  unfold f_C_casesWithout_b77 at h
  refine am_AW.run am_base_ok ok_C_casesWithout (Nat.le_add_left 1 d) 10 (pc1 := 26) (ls1 := [some (.ref 0), some (.int x1), some (.int x2), some (.int x3), some (.long x4), none, some (.int ((x6 - (1 : Int32)) &&& (m.1 13 3))), some (.int (x7 + (1 : Int32))), none]) (st1 := []) (σ1 := (S0, m)) rfl ?_
  exact am_AW.weak (hk26 x1 x2 x3 x4 ((x6 - (1 : Int32)) &&& (m.1 13 3)) (x7 + (1 : Int32))  _ _ _ h) (by simp only [am_le, and_self])
set_option maxHeartbeats 4000000 in
set_option maxRecDepth 100000 in
theorem f_C_casesWithout_b26_all {ro : am_Ro} {d : Nat} (hd : 5 ≤ d + 1) : ∀ (n : Nat) (x1 : Int32) (x2 : Int32) (x3 : Int32) (x4 : Int64) (x6 : Int32) (x7 : Int32) (m m' : am_Mm) (r : Int64), f_C_casesWithout_b26 n x1 x2 x3 x4 x6 x7 m = some (r, m') → am_AW am_nw ro (d + 1) mr_C_casesWithout 26 [some (.ref 0), some (.int x1), some (.int x2), some (.int x3), some (.long x4), none, some (.int x6), some (.int x7), none] [] (S0, m) (some (.long r)) (S0, m') := by
  intro n
  induction n with
  | zero =>
    intro x1 x2 x3 x4 x6 x7 m m' r h
    rw [f_C_casesWithout_b26] at h
    cases h
  | succ n ih =>
    intro x1 x2 x3 x4 x6 x7 m m' r h
    rw [f_C_casesWithout_b26] at h
    refine am_AW.run am_base_ok ok_C_casesWithout (Nat.le_add_left 1 d) 4 (pc1 := 31) (ls1 := [some (.ref 0), some (.int x1), some (.int x2), some (.int x3), some (.long x4), none, some (.int x6), some (.int x7), none]) (st1 := [.int (am_shl (1 : Int32) x3), .int x7]) (σ1 := (S0, m)) rfl ?_
    refine am_AW.brP ok_C_casesWithout rfl rfl am_c_ge (fun c4 => ?_) (fun c4 => ?_)
    · rw [if_pos c4] at h
      refine am_AW.run am_base_ok ok_C_casesWithout (Nat.le_add_left 1 d) 1 (pc1 := 99) (ls1 := [some (.ref 0), some (.int x1), some (.int x2), some (.int x3), some (.long x4), none, some (.int x6), some (.int x7), none]) (st1 := [.long x4]) (σ1 := (S0, m)) rfl ?_
      obtain ⟨rfl, rfl⟩ := Prod.mk.inj (Option.some.inj h)
      exact am_AW.ret ok_C_casesWithout rfl rfl rfl rfl
    · rw [if_neg c4] at h
      refine am_AW.run am_base_ok ok_C_casesWithout (Nat.le_add_left 1 d) 3 (pc1 := 40) (ls1 := [some (.ref 0), some (.int x1), some (.int x2), some (.int x3), some (.long x4), none, some (.int x6), some (.int x7), none]) (st1 := [.int x6, .ref 20]) (σ1 := (S0, m)) rfl ?_
      obtain ⟨q7, hq7, h⟩ := Option.bind_eq_some_iff.mp h
      refine am_AW.callV ok_C_casesWithout am_nw_ok (As := [.int x6]) (rest := []) rfl rfl rfl oR_Ring_greatestPiece lk_C_358 iM_Ring_greatestPiece sE_Ring_greatestPiece (qc := kq6) rfl rfl rfl rfl (Nat.le_of_ble_eq_true rfl) (f_Ring_greatestPiece_ok (d := d) (by omega) x6 hq7) ?_
      change am_AW am_nw ro (d + 1) mr_C_casesWithout 43 [some (.ref 0), some (.int x1), some (.int x2), some (.int x3), some (.long x4), none, some (.int x6), some (.int x7), none] [.int q7.1] (S0, q7.2) (some (.long r)) (S0, m')
      refine am_AW.run am_base_ok ok_C_casesWithout (Nat.le_add_left 1 d) 1 (pc1 := 44) (ls1 := [some (.ref 0), some (.int x1), some (.int x2), some (.int x3), some (.long x4), none, some (.int x6), some (.int x7), none]) (st1 := [.int x1, .int q7.1]) (σ1 := (S0, q7.2)) rfl ?_
      refine am_AW.brP ok_C_casesWithout rfl rfl am_c_gt (fun c8 => ?_) (fun c8 => ?_)
      · rw [if_pos c8] at h
        exact am_AW.weak (f_C_casesWithout_b77_ok hd (ih) x1 x2 x3 x4 x6 x7  h) (by simp only [am_le, and_self])
      · rw [if_neg c8] at h
        refine am_AW.run am_base_ok ok_C_casesWithout (Nat.le_add_left 1 d) 1 (pc1 := 49) (ls1 := [some (.ref 0), some (.int x1), some (.int x2), some (.int x3), some (.long x4), none, some (.int x6), some (.int x7), none]) (st1 := [.int x6]) (σ1 := (S0, q7.2)) rfl ?_
        obtain ⟨q11, hq11, h⟩ := Option.bind_eq_some_iff.mp h
        refine am_AW.callS ok_C_casesWithout am_nw_ok (As := [.int x6]) (rest := []) rfl rfl rfl oR_Integer_bitCount lk_C_180 sT_Integer_bitCount rfl (Nat.le_of_ble_eq_true rfl) (f_Integer_bitCount_ok (d := d) (by omega) x6 hq11) ?_
        change am_AW am_nw ro (d + 1) mr_C_casesWithout 52 [some (.ref 0), some (.int x1), some (.int x2), some (.int x3), some (.long x4), none, some (.int x6), some (.int x7), none] [.int q11.1] (S0, q11.2) (some (.long r)) (S0, m')
        refine am_AW.run am_base_ok ok_C_casesWithout (Nat.le_add_left 1 d) 6 (pc1 := 61) (ls1 := [some (.ref 0), some (.int x1), some (.int x2), some (.int x3), some (.long x4), none, some (.int x6), some (.int x7), some (.int q11.1)]) (st1 := [.int (x3 - q11.1), .int x2, .long x4]) (σ1 := (S0, q11.2)) rfl ?_
        obtain ⟨q14, hq14, h⟩ := Option.bind_eq_some_iff.mp h
        refine am_AW.callS ok_C_casesWithout am_nw_ok (As := [.int x2, .int (x3 - q11.1)]) (rest := [.long x4]) rfl rfl rfl oR_C_power lk_C_303 sT_C_power rfl (Nat.le_of_ble_eq_true rfl) (f_C_power_ok (d := d) (by omega) x2 (x3 - q11.1) hq14) ?_
        change am_AW am_nw ro (d + 1) mr_C_casesWithout 64 [some (.ref 0), some (.int x1), some (.int x2), some (.int x3), some (.long x4), none, some (.int x6), some (.int x7), some (.int q11.1)] [.long q14.1, .long x4] (S0, q14.2) (some (.long r)) (S0, m')
        refine am_AW.run am_base_ok ok_C_casesWithout (Nat.le_add_left 1 d) 4 (pc1 := 70) (ls1 := [some (.ref 0), some (.int x1), some (.int x2), some (.int x3), some (.long x4), none, some (.int x6), some (.int x7), some (.int q11.1)]) (st1 := [.int q11.1, .int ((10 : Int32) - x2), .long q14.1, .long x4]) (σ1 := (S0, q14.2)) rfl ?_
        obtain ⟨q17, hq17, h⟩ := Option.bind_eq_some_iff.mp h
        refine am_AW.callS ok_C_casesWithout am_nw_ok (As := [.int ((10 : Int32) - x2), .int q11.1]) (rest := [.long q14.1, .long x4]) rfl rfl rfl oR_C_power lk_C_303 sT_C_power rfl (Nat.le_of_ble_eq_true rfl) (f_C_power_ok (d := d) (by omega) ((10 : Int32) - x2) q11.1 hq17) ?_
        change am_AW am_nw ro (d + 1) mr_C_casesWithout 73 [some (.ref 0), some (.int x1), some (.int x2), some (.int x3), some (.long x4), none, some (.int x6), some (.int x7), some (.int q11.1)] [.long q17.1, .long q14.1, .long x4] (S0, q17.2) (some (.long r)) (S0, m')
        refine am_AW.run am_base_ok ok_C_casesWithout (Nat.le_add_left 1 d) 3 (pc1 := 77) (ls1 := [some (.ref 0), some (.int x1), some (.int x2), some (.int x3), some (.long (x4 + (q14.1 * q17.1))), none, some (.int x6), some (.int x7), some (.int q11.1)]) (st1 := []) (σ1 := (S0, q17.2)) rfl ?_
        exact am_AW.weak (f_C_casesWithout_b77_ok hd (ih) x1 x2 x3 (x4 + (q14.1 * q17.1)) x6 x7  h) (by simp only [am_le, and_self])
set_option maxHeartbeats 4000000 in
set_option maxRecDepth 100000 in
theorem f_C_casesWithout_b26_ok {ro : am_Ro} {d : Nat} (hd : 5 ≤ d + 1) (x1 : Int32) (x2 : Int32) (x3 : Int32) (x4 : Int64) (x6 : Int32) (x7 : Int32) {m m' : am_Mm} {r : Int64} {n : Nat} (h : f_C_casesWithout_b26 n x1 x2 x3 x4 x6 x7 m = some (r, m')) : am_AW am_nw ro (d + 1) mr_C_casesWithout 26 [some (.ref 0), some (.int x1), some (.int x2), some (.int x3), some (.long x4), none, some (.int x6), some (.int x7), none] [] (S0, m) (some (.long r)) (S0, m') :=
  f_C_casesWithout_b26_all hd n x1 x2 x3 x4 x6 x7  m m' r h
set_option maxHeartbeats 4000000 in
set_option maxRecDepth 100000 in
theorem f_C_casesWithout_ok {ro : am_Ro} {d : Nat} (hd : 5 ≤ d) (x1 : Int32) (x2 : Int32) {m m' : am_Mm} {r : Int64} (h : f_C_casesWithout x1 x2 m = some (r, m')) : am_Mt am_nw ro d mr_C_casesWithout [.ref 0, .int x1, .int x2] (S0, m) (some (.long r)) (S0, m') := by
  obtain ⟨d, rfl⟩ : ∃ d0, d = d0 + 1 := ⟨d - 1, by omega⟩
  refine am_Mt.of (by decide +kernel) (Nat.le_of_ble_eq_true rfl) ?_
  change am_AW am_nw ro (d + 1) mr_C_casesWithout 0 [some (.ref 0), some (.int x1), some (.int x2), none, none, none, none, none, none] [] (S0, m) (some (.long r)) (S0, m')
  unfold f_C_casesWithout at h
  refine am_AW.run am_base_ok ok_C_casesWithout (Nat.le_add_left 1 d) 3 (pc1 := 7) (ls1 := [some (.ref 0), some (.int x1), some (.int x2), none, none, none, none, none, none]) (st1 := [.int (m.1 13 3)]) (σ1 := (S0, m)) rfl ?_
  obtain ⟨q3, hq3, h⟩ := Option.bind_eq_some_iff.mp h
  refine am_AW.callS ok_C_casesWithout am_nw_ok (As := [.int (m.1 13 3)]) (rest := []) rfl rfl rfl oR_Integer_bitCount lk_C_180 sT_Integer_bitCount rfl (Nat.le_of_ble_eq_true rfl) (f_Integer_bitCount_ok (d := d) (by omega) (m.1 13 3) hq3) ?_
  change am_AW am_nw ro (d + 1) mr_C_casesWithout 10 [some (.ref 0), some (.int x1), some (.int x2), none, none, none, none, none, none] [.int q3.1] (S0, q3.2) (some (.long r)) (S0, m')
  refine am_AW.run am_base_ok ok_C_casesWithout (Nat.le_add_left 1 d) 9 (pc1 := 26) (ls1 := [some (.ref 0), some (.int x1), some (.int x2), some (.int q3.1), some (.long (0 : Int64)), none, some (.int (q3.2.1 13 3)), some (.int (0 : Int32)), none]) (st1 := []) (σ1 := (S0, q3.2)) rfl ?_
  exact am_AW.weak (f_C_casesWithout_b26_ok hd x1 x2 q3.1 (0 : Int64) (q3.2.1 13 3) (0 : Int32)  h) (by simp only [am_le, and_self])
/-! FriezePolygonsModel.countOf([II)I -/
def f_M_countOf (p1 : Nat) (x2 : Int32) (m : am_Mm) : Option (Int32 × am_Mm) :=
  (f_M_cutsAt p1 x2 m).bind fun q3 =>
  (f_M_kindOf p1 x2 q3.2).bind fun q6 =>
  if q6.1 = (1 : Int32) then
    some (((1 : Int32) + q3.1), q6.2)
  else
    if q6.1 = (2 : Int32) then
      some (((2 : Int32) * ((1 : Int32) + q3.1)), q6.2)
    else
      if q6.1 = (3 : Int32) then
        some ((-((1 : Int32) + q3.1)), q6.2)
      else
        if q6.1 = (4 : Int32) then
          if am_in (((2 : Int32) + ((2 : Int32) * x2)) + (1 : Int32)) 20 = true then
            some ((q6.2.1 p1 (((2 : Int32) + ((2 : Int32) * x2)) + (1 : Int32)).toNatClampNeg), q6.2)
          else none
        else
          if am_in (((2 : Int32) + ((2 : Int32) * x2)) + (1 : Int32)) 20 = true then
            some (((q6.2.1 p1 (((2 : Int32) + ((2 : Int32) * x2)) + (1 : Int32)).toNatClampNeg) + (1 : Int32)), q6.2)
          else none
set_option maxHeartbeats 4000000 in
set_option maxRecDepth 100000 in
theorem f_M_countOf_ok {ro : am_Ro} {d : Nat} (hd : 5 ≤ d) (p1 : Nat) (x2 : Int32) (hp1 : p1 = 67 ∨ p1 = 69) {m m' : am_Mm} {r : Int32} (h : f_M_countOf p1 x2 m = some (r, m')) : am_Mt am_nw ro d mr_M_countOf [.ref 63, .ref p1, .int x2] (S0, m) (some (.int r)) (S0, m') := by
  obtain ⟨d, rfl⟩ : ∃ d0, d = d0 + 1 := ⟨d - 1, by omega⟩
  refine am_Mt.of (by decide +kernel) (Nat.le_of_ble_eq_true rfl) ?_
  change am_AW am_nw ro (d + 1) mr_M_countOf 0 [some (.ref 63), some (.ref p1), some (.int x2), none] [] (S0, m) (some (.int r)) (S0, m')
  unfold f_M_countOf at h
  refine am_AW.run am_base_ok ok_M_countOf (Nat.le_add_left 1 d) 4 (pc1 := 4) (ls1 := [some (.ref 63), some (.ref p1), some (.int x2), none]) (st1 := [.int x2, .ref p1, .ref 63, .int (1 : Int32)]) (σ1 := (S0, m)) rfl ?_
  obtain ⟨q3, hq3, h⟩ := Option.bind_eq_some_iff.mp h
  refine am_AW.callV ok_M_countOf am_nw_ok (As := [.ref p1, .int x2]) (rest := [.int (1 : Int32)]) rfl rfl rfl oR_M_cutsAt lk_M_111 iM_M_cutsAt sE_M_cutsAt (qc := kq10) rfl rfl rfl rfl (Nat.le_of_ble_eq_true rfl) (f_M_cutsAt_ok (d := d) (by omega) p1 x2 hp1 hq3) ?_
  change am_AW am_nw ro (d + 1) mr_M_countOf 7 [some (.ref 63), some (.ref p1), some (.int x2), none] [.int q3.1, .int (1 : Int32)] (S0, q3.2) (some (.int r)) (S0, m')
  refine am_AW.run am_base_ok ok_M_countOf (Nat.le_add_left 1 d) 4 (pc1 := 11) (ls1 := [some (.ref 63), some (.ref p1), some (.int x2), some (.int ((1 : Int32) + q3.1))]) (st1 := [.int x2, .ref p1]) (σ1 := (S0, q3.2)) rfl ?_
  obtain ⟨q6, hq6, h⟩ := Option.bind_eq_some_iff.mp h
  refine am_AW.callS ok_M_countOf am_nw_ok (As := [.ref p1, .int x2]) (rest := []) rfl rfl rfl oR_M_kindOf lk_M_115 sT_M_kindOf rfl (Nat.le_of_ble_eq_true rfl) (f_M_kindOf_ok (d := d) (by omega) p1 x2 hp1 hq6) ?_
  change am_AW am_nw ro (d + 1) mr_M_countOf 14 [some (.ref 63), some (.ref p1), some (.int x2), some (.int ((1 : Int32) + q3.1))] [.int q6.1] (S0, q6.2) (some (.int r)) (S0, m')
  by_cases c7 : q6.1 = (1 : Int32)
  · rw [if_pos c7] at h
    refine am_AW.sw ok_M_countOf rfl (t := 44) (by rw [c7]; decide +kernel) ?_
    refine am_AW.run am_base_ok ok_M_countOf (Nat.le_add_left 1 d) 1 (pc1 := 45) (ls1 := [some (.ref 63), some (.ref p1), some (.int x2), some (.int ((1 : Int32) + q3.1))]) (st1 := [.int ((1 : Int32) + q3.1)]) (σ1 := (S0, q6.2)) rfl ?_
    obtain ⟨rfl, rfl⟩ := Prod.mk.inj (Option.some.inj h)
    exact am_AW.ret ok_M_countOf rfl rfl rfl rfl
  rw [if_neg c7] at h
  by_cases c8 : q6.1 = (2 : Int32)
  · rw [if_pos c8] at h
    refine am_AW.sw ok_M_countOf rfl (t := 46) (by rw [c8]; decide +kernel) ?_
    refine am_AW.run am_base_ok ok_M_countOf (Nat.le_add_left 1 d) 3 (pc1 := 49) (ls1 := [some (.ref 63), some (.ref p1), some (.int x2), some (.int ((1 : Int32) + q3.1))]) (st1 := [.int ((2 : Int32) * ((1 : Int32) + q3.1))]) (σ1 := (S0, q6.2)) rfl ?_
    obtain ⟨rfl, rfl⟩ := Prod.mk.inj (Option.some.inj h)
    exact am_AW.ret ok_M_countOf rfl rfl rfl rfl
  rw [if_neg c8] at h
  by_cases c9 : q6.1 = (3 : Int32)
  · rw [if_pos c9] at h
    refine am_AW.sw ok_M_countOf rfl (t := 50) (by rw [c9]; decide +kernel) ?_
    refine am_AW.run am_base_ok ok_M_countOf (Nat.le_add_left 1 d) 2 (pc1 := 52) (ls1 := [some (.ref 63), some (.ref p1), some (.int x2), some (.int ((1 : Int32) + q3.1))]) (st1 := [.int (-((1 : Int32) + q3.1))]) (σ1 := (S0, q6.2)) rfl ?_
    obtain ⟨rfl, rfl⟩ := Prod.mk.inj (Option.some.inj h)
    exact am_AW.ret ok_M_countOf rfl rfl rfl rfl
  rw [if_neg c9] at h
  by_cases c10 : q6.1 = (4 : Int32)
  · rw [if_pos c10] at h
    refine am_AW.sw ok_M_countOf rfl (t := 53) (by rw [c10]; decide +kernel) ?_
    refine am_AW.run am_base_ok ok_M_countOf (Nat.le_add_left 1 d) 8 (pc1 := 61) (ls1 := [some (.ref 63), some (.ref p1), some (.int x2), some (.int ((1 : Int32) + q3.1))]) (st1 := [.int (((2 : Int32) + ((2 : Int32) * x2)) + (1 : Int32)), .ref p1]) (σ1 := (S0, q6.2)) rfl ?_
    by_cases g11 : am_in (((2 : Int32) + ((2 : Int32) * x2)) + (1 : Int32)) 20 = true
    rotate_left
    · rw [if_neg g11] at h
      cases h
    rw [if_pos g11] at h
    refine am_AW.iald ok_M_countOf (Nat.le_add_left 1 d) S0_len rfl (sh_67_69_0 hp1) g11 ?_
    obtain ⟨rfl, rfl⟩ := Prod.mk.inj (Option.some.inj h)
    exact am_AW.ret ok_M_countOf rfl rfl rfl rfl
  rw [if_neg c10] at h
  have o13 : (q6.1).toInt < 1 ∨ 4 < (q6.1).toInt := by
    have := lv_neT c7 (a := 1) (by decide)
    have := lv_neT c8 (a := 2) (by decide)
    have := lv_neT c9 (a := 3) (by decide)
    have := lv_neT c10 (a := 4) (by decide)
    omega
  refine am_AW.sw ok_M_countOf rfl (t := 63) (by simp only [am_sw, if_pos o13]; decide +kernel) ?_
  refine am_AW.run am_base_ok ok_M_countOf (Nat.le_add_left 1 d) 8 (pc1 := 71) (ls1 := [some (.ref 63), some (.ref p1), some (.int x2), some (.int ((1 : Int32) + q3.1))]) (st1 := [.int (((2 : Int32) + ((2 : Int32) * x2)) + (1 : Int32)), .ref p1]) (σ1 := (S0, q6.2)) rfl ?_
  by_cases g12 : am_in (((2 : Int32) + ((2 : Int32) * x2)) + (1 : Int32)) 20 = true
  rotate_left
  · rw [if_neg g12] at h
    cases h
  rw [if_pos g12] at h
  refine am_AW.iald ok_M_countOf (Nat.le_add_left 1 d) S0_len rfl (sh_67_69_0 hp1) g12 ?_
  refine am_AW.run am_base_ok ok_M_countOf (Nat.le_add_left 1 d) 2 (pc1 := 74) (ls1 := [some (.ref 63), some (.ref p1), some (.int x2), some (.int ((1 : Int32) + q3.1))]) (st1 := [.int ((q6.2.1 p1 (((2 : Int32) + ((2 : Int32) * x2)) + (1 : Int32)).toNatClampNeg) + (1 : Int32))]) (σ1 := (S0, q6.2)) rfl ?_
  obtain ⟨rfl, rfl⟩ := Prod.mk.inj (Option.some.inj h)
  exact am_AW.ret ok_M_countOf rfl rfl rfl rfl
/-! FriezePolygonsModel.readCorner()V -/
def f_M_readCorner_b48 (x1 : Int32) (m : am_Mm) : Option am_Mm :=
  if (m.1 63 15) ≤ (0 : Int32) then
    (f_M_nextToken m).bind fun q13 =>
    if am_in ((2 : Int32) + ((2 : Int32) * (m.1 68 0))) 20 = true then
      (f_M_figure (0 : Int32) (9 : Int32) (am_pI q13 68 ((2 : Int32) + ((2 : Int32) * (m.1 68 0))).toNatClampNeg x1)).bind fun q17 =>
      if am_in (((2 : Int32) + ((2 : Int32) * (m.1 68 0))) + (1 : Int32)) 20 = true then
        (f_M_mustSign (59 : Int32) (am_pI q17.2 68 (((2 : Int32) + ((2 : Int32) * (m.1 68 0))) + (1 : Int32)).toNatClampNeg q17.1)).bind fun q21 =>
        some (am_pI q21 68 0 ((q21.1 68 0) + (1 : Int32)))
      else none
    else none
  else
    some m
def f_M_readCorner_b19 (s0 : Int32) (m : am_Mm) : Option am_Mm :=
  if s0 = (0 : Int32) then
    (f_M_bad (1 : Int32) m).bind fun q8 =>
    f_M_readCorner_b48 s0 q8
  else
    if (m.1 68 0) = (9 : Int32) then
      (f_M_bad (3 : Int32) m).bind fun q27 =>
      f_M_readCorner_b48 s0 q27
    else
      f_M_readCorner_b48 s0 m
def f_M_readCorner (m : am_Mm) : Option am_Mm :=
  if (m.1 63 13) = (2 : Int32) then
    (f_M_sortOf (m.1 63 14) m).bind fun q4 =>
    f_M_readCorner_b19 q4.1 q4.2
  else
    f_M_readCorner_b19 (0 : Int32) m
set_option maxHeartbeats 4000000 in
set_option maxRecDepth 100000 in
theorem f_M_readCorner_b48_ok {ro : am_Ro} {d : Nat} (hd : 5 ≤ d + 1) (x1 : Int32) {m m' : am_Mm} (h : f_M_readCorner_b48 x1 m = some m') : am_AW am_nw ro (d + 1) mr_M_readCorner 48 [some (.ref 63), some (.int x1), none] [] (S0, m) none (S0, m') := by
  unfold f_M_readCorner_b48 at h
  refine am_AW.run am_base_ok ok_M_readCorner (Nat.le_add_left 1 d) 2 (pc1 := 52) (ls1 := [some (.ref 63), some (.int x1), none]) (st1 := [.int (m.1 63 15)]) (σ1 := (S0, m)) rfl ?_
  refine am_AW.brP ok_M_readCorner rfl rfl am_c_le (fun c9 => ?_) (fun c9 => ?_)
  · rw [if_pos c9] at h
    refine am_AW.run am_base_ok ok_M_readCorner (Nat.le_add_left 1 d) 5 (pc1 := 63) (ls1 := [some (.ref 63), some (.int x1), none]) (st1 := [.int (0 : Int32), .ref 68, .int (2 : Int32), .int (2 : Int32)]) (σ1 := (S0, m)) rfl ?_
    refine am_AW.iald ok_M_readCorner (Nat.le_add_left 1 d) S0_len rfl rfl (by decide) ?_
    change am_AW am_nw ro (d + 1) mr_M_readCorner 64 [some (.ref 63), some (.int x1), none] [.int (m.1 68 0), .int (2 : Int32), .int (2 : Int32)] (S0, m) none (S0, m')
    refine am_AW.run am_base_ok ok_M_readCorner (Nat.le_add_left 1 d) 4 (pc1 := 68) (ls1 := [some (.ref 63), some (.int x1), some (.int ((2 : Int32) + ((2 : Int32) * (m.1 68 0))))]) (st1 := [.ref 63]) (σ1 := (S0, m)) rfl ?_
    obtain ⟨q13, hq13, h⟩ := Option.bind_eq_some_iff.mp h
    refine am_AW.callV ok_M_readCorner am_nw_ok (As := []) (rest := []) rfl rfl rfl oR_M_nextToken lk_M_154 iM_M_nextToken sE_M_nextToken (qc := kq10) rfl rfl rfl rfl (Nat.le_of_ble_eq_true rfl) (f_M_nextToken_ok (d := d) (by omega)  hq13) ?_
    change am_AW am_nw ro (d + 1) mr_M_readCorner 71 [some (.ref 63), some (.int x1), some (.int ((2 : Int32) + ((2 : Int32) * (m.1 68 0))))] [] (S0, q13) none (S0, m')
    refine am_AW.run am_base_ok ok_M_readCorner (Nat.le_add_left 1 d) 4 (pc1 := 77) (ls1 := [some (.ref 63), some (.int x1), some (.int ((2 : Int32) + ((2 : Int32) * (m.1 68 0))))]) (st1 := [.int x1, .int ((2 : Int32) + ((2 : Int32) * (m.1 68 0))), .ref 68]) (σ1 := (S0, q13)) rfl ?_
    by_cases g14 : am_in ((2 : Int32) + ((2 : Int32) * (m.1 68 0))) 20 = true
    rotate_left
    · rw [if_neg g14] at h
      cases h
    rw [if_pos g14] at h
    refine am_AW.iast ok_M_readCorner (Nat.le_add_left 1 d) rfl rfl g14 ?_
    change am_AW am_nw ro (d + 1) mr_M_readCorner 78 [some (.ref 63), some (.int x1), some (.int ((2 : Int32) + ((2 : Int32) * (m.1 68 0))))] [] (S0, (am_pI q13 68 ((2 : Int32) + ((2 : Int32) * (m.1 68 0))).toNatClampNeg x1)) none (S0, m')
    refine am_AW.run am_base_ok ok_M_readCorner (Nat.le_add_left 1 d) 8 (pc1 := 89) (ls1 := [some (.ref 63), some (.int x1), some (.int ((2 : Int32) + ((2 : Int32) * (m.1 68 0))))]) (st1 := [.int (9 : Int32), .int (0 : Int32), .ref 63, .int (((2 : Int32) + ((2 : Int32) * (m.1 68 0))) + (1 : Int32)), .ref 68]) (σ1 := (S0, (am_pI q13 68 ((2 : Int32) + ((2 : Int32) * (m.1 68 0))).toNatClampNeg x1))) rfl ?_
    obtain ⟨q17, hq17, h⟩ := Option.bind_eq_some_iff.mp h
    refine am_AW.callV ok_M_readCorner am_nw_ok (As := [.int (0 : Int32), .int (9 : Int32)]) (rest := [.int (((2 : Int32) + ((2 : Int32) * (m.1 68 0))) + (1 : Int32)), .ref 68]) rfl rfl rfl oR_M_figure lk_M_164 iM_M_figure sE_M_figure (qc := kq10) rfl rfl rfl rfl (Nat.le_of_ble_eq_true rfl) (f_M_figure_ok (d := d) (by omega) (0 : Int32) (9 : Int32) hq17) ?_
    change am_AW am_nw ro (d + 1) mr_M_readCorner 92 [some (.ref 63), some (.int x1), some (.int ((2 : Int32) + ((2 : Int32) * (m.1 68 0))))] [.int q17.1, .int (((2 : Int32) + ((2 : Int32) * (m.1 68 0))) + (1 : Int32)), .ref 68] (S0, q17.2) none (S0, m')
    by_cases g18 : am_in (((2 : Int32) + ((2 : Int32) * (m.1 68 0))) + (1 : Int32)) 20 = true
    rotate_left
    · rw [if_neg g18] at h
      cases h
    rw [if_pos g18] at h
    refine am_AW.iast ok_M_readCorner (Nat.le_add_left 1 d) rfl rfl g18 ?_
    change am_AW am_nw ro (d + 1) mr_M_readCorner 93 [some (.ref 63), some (.int x1), some (.int ((2 : Int32) + ((2 : Int32) * (m.1 68 0))))] [] (S0, (am_pI q17.2 68 (((2 : Int32) + ((2 : Int32) * (m.1 68 0))) + (1 : Int32)).toNatClampNeg q17.1)) none (S0, m')
    refine am_AW.run am_base_ok ok_M_readCorner (Nat.le_add_left 1 d) 2 (pc1 := 96) (ls1 := [some (.ref 63), some (.int x1), some (.int ((2 : Int32) + ((2 : Int32) * (m.1 68 0))))]) (st1 := [.int (59 : Int32), .ref 63]) (σ1 := (S0, (am_pI q17.2 68 (((2 : Int32) + ((2 : Int32) * (m.1 68 0))) + (1 : Int32)).toNatClampNeg q17.1))) rfl ?_
    obtain ⟨q21, hq21, h⟩ := Option.bind_eq_some_iff.mp h
    refine am_AW.callV ok_M_readCorner am_nw_ok (As := [.int (59 : Int32)]) (rest := []) rfl rfl rfl oR_M_mustSign lk_M_167 iM_M_mustSign sE_M_mustSign (qc := kq10) rfl rfl rfl rfl (Nat.le_of_ble_eq_true rfl) (f_M_mustSign_ok (d := d) (by omega) (59 : Int32) hq21) ?_
    change am_AW am_nw ro (d + 1) mr_M_readCorner 99 [some (.ref 63), some (.int x1), some (.int ((2 : Int32) + ((2 : Int32) * (m.1 68 0))))] [] (S0, q21) none (S0, m')
    refine am_AW.run am_base_ok ok_M_readCorner (Nat.le_add_left 1 d) 4 (pc1 := 105) (ls1 := [some (.ref 63), some (.int x1), some (.int ((2 : Int32) + ((2 : Int32) * (m.1 68 0))))]) (st1 := [.int (0 : Int32), .ref 68, .int (0 : Int32), .ref 68]) (σ1 := (S0, q21)) rfl ?_
    refine am_AW.iald ok_M_readCorner (Nat.le_add_left 1 d) S0_len rfl rfl (by decide) ?_
    change am_AW am_nw ro (d + 1) mr_M_readCorner 106 [some (.ref 63), some (.int x1), some (.int ((2 : Int32) + ((2 : Int32) * (m.1 68 0))))] [.int (q21.1 68 0), .int (0 : Int32), .ref 68] (S0, q21) none (S0, m')
    refine am_AW.run am_base_ok ok_M_readCorner (Nat.le_add_left 1 d) 2 (pc1 := 108) (ls1 := [some (.ref 63), some (.int x1), some (.int ((2 : Int32) + ((2 : Int32) * (m.1 68 0))))]) (st1 := [.int ((q21.1 68 0) + (1 : Int32)), .int (0 : Int32), .ref 68]) (σ1 := (S0, q21)) rfl ?_
    refine am_AW.iast ok_M_readCorner (Nat.le_add_left 1 d) rfl rfl (by decide) ?_
    change am_AW am_nw ro (d + 1) mr_M_readCorner 109 [some (.ref 63), some (.int x1), some (.int ((2 : Int32) + ((2 : Int32) * (m.1 68 0))))] [] (S0, (am_pI q21 68 0 ((q21.1 68 0) + (1 : Int32)))) none (S0, m')
    obtain rfl := Option.some.inj h
    exact am_AW.ret ok_M_readCorner rfl rfl rfl rfl
  · rw [if_neg c9] at h
    obtain rfl := Option.some.inj h
    exact am_AW.ret ok_M_readCorner rfl rfl rfl rfl
set_option maxHeartbeats 4000000 in
set_option maxRecDepth 100000 in
theorem f_M_readCorner_b19_ok {ro : am_Ro} {d : Nat} (hd : 5 ≤ d + 1) (s0 : Int32) {m m' : am_Mm} (h : f_M_readCorner_b19 s0 m = some m') : am_AW am_nw ro (d + 1) mr_M_readCorner 19 [some (.ref 63), none, none] [.int s0] (S0, m) none (S0, m') := by
  unfold f_M_readCorner_b19 at h
  refine am_AW.run am_base_ok ok_M_readCorner (Nat.le_add_left 1 d) 2 (pc1 := 21) (ls1 := [some (.ref 63), some (.int s0), none]) (st1 := [.int s0]) (σ1 := (S0, m)) rfl ?_
  refine am_AW.brN ok_M_readCorner rfl rfl am_c_ne (fun c5 => ?_) (fun c5 => ?_)
  · rw [if_pos c5] at h
    refine am_AW.run am_base_ok ok_M_readCorner (Nat.le_add_left 1 d) 2 (pc1 := 26) (ls1 := [some (.ref 63), some (.int s0), none]) (st1 := [.int (1 : Int32), .ref 63]) (σ1 := (S0, m)) rfl ?_
    obtain ⟨q8, hq8, h⟩ := Option.bind_eq_some_iff.mp h
    refine am_AW.callV ok_M_readCorner am_nw_ok (As := [.int (1 : Int32)]) (rest := []) rfl rfl rfl oR_M_bad lk_M_150 iM_M_bad sE_M_bad (qc := kq10) rfl rfl rfl rfl (Nat.le_of_ble_eq_true rfl) (f_M_bad_ok (d := d) (by omega) (1 : Int32) hq8) ?_
    change am_AW am_nw ro (d + 1) mr_M_readCorner 29 [some (.ref 63), some (.int s0), none] [] (S0, q8) none (S0, m')
    refine am_AW.run am_base_ok ok_M_readCorner (Nat.le_add_left 1 d) 1 (pc1 := 48) (ls1 := [some (.ref 63), some (.int s0), none]) (st1 := []) (σ1 := (S0, q8)) rfl ?_
    exact am_AW.weak (f_M_readCorner_b48_ok hd s0  h) (by simp only [am_le, and_self])
  · rw [if_neg c5] at h
    refine am_AW.run am_base_ok ok_M_readCorner (Nat.le_add_left 1 d) 3 (pc1 := 37) (ls1 := [some (.ref 63), some (.int s0), none]) (st1 := [.int (0 : Int32), .ref 68]) (σ1 := (S0, m)) rfl ?_
    refine am_AW.iald ok_M_readCorner (Nat.le_add_left 1 d) S0_len rfl rfl (by decide) ?_
    change am_AW am_nw ro (d + 1) mr_M_readCorner 38 [some (.ref 63), some (.int s0), none] [.int (m.1 68 0)] (S0, m) none (S0, m')
    refine am_AW.run am_base_ok ok_M_readCorner (Nat.le_add_left 1 d) 1 (pc1 := 40) (ls1 := [some (.ref 63), some (.int s0), none]) (st1 := [.int (9 : Int32), .int (m.1 68 0)]) (σ1 := (S0, m)) rfl ?_
    refine am_AW.brN ok_M_readCorner rfl rfl am_c_ne (fun c24 => ?_) (fun c24 => ?_)
    · rw [if_pos c24] at h
      refine am_AW.run am_base_ok ok_M_readCorner (Nat.le_add_left 1 d) 2 (pc1 := 45) (ls1 := [some (.ref 63), some (.int s0), none]) (st1 := [.int (3 : Int32), .ref 63]) (σ1 := (S0, m)) rfl ?_
      obtain ⟨q27, hq27, h⟩ := Option.bind_eq_some_iff.mp h
      refine am_AW.callV ok_M_readCorner am_nw_ok (As := [.int (3 : Int32)]) (rest := []) rfl rfl rfl oR_M_bad lk_M_150 iM_M_bad sE_M_bad (qc := kq10) rfl rfl rfl rfl (Nat.le_of_ble_eq_true rfl) (f_M_bad_ok (d := d) (by omega) (3 : Int32) hq27) ?_
      change am_AW am_nw ro (d + 1) mr_M_readCorner 48 [some (.ref 63), some (.int s0), none] [] (S0, q27) none (S0, m')
      exact am_AW.weak (f_M_readCorner_b48_ok hd s0  h) (by simp only [am_le, and_self])
    · rw [if_neg c24] at h
      exact am_AW.weak (f_M_readCorner_b48_ok hd s0  h) (by simp only [am_le, and_self])
set_option maxHeartbeats 4000000 in
set_option maxRecDepth 100000 in
theorem f_M_readCorner_ok {ro : am_Ro} {d : Nat} (hd : 5 ≤ d) {m m' : am_Mm} (h : f_M_readCorner  m = some m') : am_Mt am_nw ro d mr_M_readCorner [.ref 63] (S0, m) none (S0, m') := by
  obtain ⟨d, rfl⟩ : ∃ d0, d = d0 + 1 := ⟨d - 1, by omega⟩
  refine am_Mt.of (by decide +kernel) (Nat.le_of_ble_eq_true rfl) ?_
  change am_AW am_nw ro (d + 1) mr_M_readCorner 0 [some (.ref 63), none, none] [] (S0, m) none (S0, m')
  unfold f_M_readCorner at h
  refine am_AW.run am_base_ok ok_M_readCorner (Nat.le_add_left 1 d) 3 (pc1 := 5) (ls1 := [some (.ref 63), none, none]) (st1 := [.int (2 : Int32), .int (m.1 63 13)]) (σ1 := (S0, m)) rfl ?_
  refine am_AW.brN ok_M_readCorner rfl rfl am_c_ne (fun c1 => ?_) (fun c1 => ?_)
  · rw [if_pos c1] at h
    refine am_AW.run am_base_ok ok_M_readCorner (Nat.le_add_left 1 d) 2 (pc1 := 12) (ls1 := [some (.ref 63), none, none]) (st1 := [.int (m.1 63 14)]) (σ1 := (S0, m)) rfl ?_
    obtain ⟨q4, hq4, h⟩ := Option.bind_eq_some_iff.mp h
    refine am_AW.callS ok_M_readCorner am_nw_ok (As := [.int (m.1 63 14)]) (rest := []) rfl rfl rfl oR_M_sortOf lk_M_161 sT_M_sortOf rfl (Nat.le_of_ble_eq_true rfl) (f_M_sortOf_ok (d := d) (by omega) (m.1 63 14) hq4) ?_
    change am_AW am_nw ro (d + 1) mr_M_readCorner 15 [some (.ref 63), none, none] [.int q4.1] (S0, q4.2) none (S0, m')
    refine am_AW.run am_base_ok ok_M_readCorner (Nat.le_add_left 1 d) 1 (pc1 := 19) (ls1 := [some (.ref 63), none, none]) (st1 := [.int q4.1]) (σ1 := (S0, q4.2)) rfl ?_
    exact am_AW.weak (f_M_readCorner_b19_ok hd q4.1  h) (by simp only [am_le, and_self])
  · rw [if_neg c1] at h
    refine am_AW.run am_base_ok ok_M_readCorner (Nat.le_add_left 1 d) 1 (pc1 := 19) (ls1 := [some (.ref 63), none, none]) (st1 := [.int (0 : Int32)]) (σ1 := (S0, m)) rfl ?_
    exact am_AW.weak (f_M_readCorner_b19_ok hd (0 : Int32)  h) (by simp only [am_le, and_self])
/-! FriezePolygonsModel.readCut()V -/
def f_M_readCut_b134 (m : am_Mm) : Option am_Mm :=
  (f_M_must (1 : Int32) m).bind fun q30 =>
  (f_M_mustSign (59 : Int32) q30).bind fun q33 =>
  some q33
def f_M_readCut_b110 (x1 : Int32) (x2 : Int32) (x3 : Int32) (m : am_Mm) : Option am_Mm :=
  if (m.1 63 15) = (0 : Int32) then
    (f_M_numberOf x1 x2 x3 m).bind fun q27 =>
    f_M_readCut_b134 (am_pI q27.2 68 1 ((m.1 68 1) ||| (am_shl (1 : Int32) q27.1)))
  else
    f_M_readCut_b134 m
def f_M_readCut_b105 (x1 : Int32) (x2 : Int32) (x3 : Int32) (m : am_Mm) : Option am_Mm :=
  (f_M_bad (2 : Int32) m).bind fun q22 =>
  f_M_readCut_b110 x1 x2 x3 q22
def f_M_readCut_b68 (x1 : Int32) (x2 : Int32) (m : am_Mm) : Option am_Mm :=
  if (m.1 63 15) = (0 : Int32) then
    (f_M_mayBe x1 x2 (m.1 63 14) m).bind fun q18 =>
    if q18.1 = (0 : Int32) then
      f_M_readCut_b105 x1 x2 (m.1 63 14) q18.2
    else
      (f_M_numberOf x1 x2 (m.1 63 14) q18.2).bind fun q36 =>
      (f_M_isFree 68 q36.1 q36.2).bind fun q39 =>
      if q39.1 = (0 : Int32) then
        f_M_readCut_b105 x1 x2 (m.1 63 14) q39.2
      else
        f_M_readCut_b110 x1 x2 (m.1 63 14) q39.2
  else
    f_M_readCut_b110 x1 x2 (m.1 63 14) m
def f_M_readCut_b30 (x1 : Int32) (s1 : Int32) (m : am_Mm) : Option am_Mm :=
  (f_M_must s1 m).bind fun q6 =>
  (f_M_figure (0 : Int32) (x1 - (1 : Int32)) q6).bind fun q9 =>
  (f_M_mustSign (44 : Int32) q9.2).bind fun q12 =>
  if (q12.1 63 15) = (0 : Int32) then
    if (q12.1 63 13) = (3 : Int32) then
      f_M_readCut_b68 x1 q9.1 q12
    else
      (f_M_bad (1 : Int32) q12).bind fun q43 =>
      f_M_readCut_b68 x1 q9.1 q43
  else
    f_M_readCut_b68 x1 q9.1 q12
def f_M_readCut (m : am_Mm) : Option am_Mm :=
  if (m.1 63 13) = (2 : Int32) then
    if (m.1 63 14) = (100 : Int32) then
      f_M_readCut_b30 (m.1 68 0) (1 : Int32) m
    else
      f_M_readCut_b30 (m.1 68 0) (0 : Int32) m
  else
    f_M_readCut_b30 (m.1 68 0) (0 : Int32) m
set_option maxHeartbeats 4000000 in
set_option maxRecDepth 100000 in
theorem f_M_readCut_b134_ok {ro : am_Ro} {d : Nat} (hd : 5 ≤ d + 1) {m m' : am_Mm} (h : f_M_readCut_b134  m = some m') : am_AW am_nw ro (d + 1) mr_M_readCut 134 [some (.ref 63), none, none, none] [] (S0, m) none (S0, m') := by
  unfold f_M_readCut_b134 at h
  refine am_AW.run am_base_ok ok_M_readCut (Nat.le_add_left 1 d) 2 (pc1 := 136) (ls1 := [some (.ref 63), none, none, none]) (st1 := [.int (1 : Int32), .ref 63]) (σ1 := (S0, m)) rfl ?_
  obtain ⟨q30, hq30, h⟩ := Option.bind_eq_some_iff.mp h
  refine am_AW.callV ok_M_readCut am_nw_ok (As := [.int (1 : Int32)]) (rest := []) rfl rfl rfl oR_M_must lk_M_157 iM_M_must sE_M_must (qc := kq10) rfl rfl rfl rfl (Nat.le_of_ble_eq_true rfl) (f_M_must_ok (d := d) (by omega) (1 : Int32) hq30) ?_
  change am_AW am_nw ro (d + 1) mr_M_readCut 139 [some (.ref 63), none, none, none] [] (S0, q30) none (S0, m')
  refine am_AW.run am_base_ok ok_M_readCut (Nat.le_add_left 1 d) 2 (pc1 := 142) (ls1 := [some (.ref 63), none, none, none]) (st1 := [.int (59 : Int32), .ref 63]) (σ1 := (S0, q30)) rfl ?_
  obtain ⟨q33, hq33, h⟩ := Option.bind_eq_some_iff.mp h
  refine am_AW.callV ok_M_readCut am_nw_ok (As := [.int (59 : Int32)]) (rest := []) rfl rfl rfl oR_M_mustSign lk_M_167 iM_M_mustSign sE_M_mustSign (qc := kq10) rfl rfl rfl rfl (Nat.le_of_ble_eq_true rfl) (f_M_mustSign_ok (d := d) (by omega) (59 : Int32) hq33) ?_
  change am_AW am_nw ro (d + 1) mr_M_readCut 145 [some (.ref 63), none, none, none] [] (S0, q33) none (S0, m')
  obtain rfl := Option.some.inj h
  exact am_AW.ret ok_M_readCut rfl rfl rfl rfl
set_option maxHeartbeats 4000000 in
set_option maxRecDepth 100000 in
theorem f_M_readCut_b110_ok {ro : am_Ro} {d : Nat} (hd : 5 ≤ d + 1) (x1 : Int32) (x2 : Int32) (x3 : Int32) {m m' : am_Mm} (h : f_M_readCut_b110 x1 x2 x3 m = some m') : am_AW am_nw ro (d + 1) mr_M_readCut 110 [some (.ref 63), some (.int x1), some (.int x2), some (.int x3)] [] (S0, m) none (S0, m') := by
  unfold f_M_readCut_b110 at h
  refine am_AW.run am_base_ok ok_M_readCut (Nat.le_add_left 1 d) 2 (pc1 := 114) (ls1 := [some (.ref 63), some (.int x1), some (.int x2), some (.int x3)]) (st1 := [.int (m.1 63 15)]) (σ1 := (S0, m)) rfl ?_
  refine am_AW.brN ok_M_readCut rfl rfl am_c_ne (fun c23 => ?_) (fun c23 => ?_)
  · rw [if_pos c23] at h
    refine am_AW.run am_base_ok ok_M_readCut (Nat.le_add_left 1 d) 4 (pc1 := 123) (ls1 := [some (.ref 63), some (.int x1), some (.int x2), some (.int x3)]) (st1 := [.int (1 : Int32), .ref 68, .int (1 : Int32), .ref 68]) (σ1 := (S0, m)) rfl ?_
    refine am_AW.iald ok_M_readCut (Nat.le_add_left 1 d) S0_len rfl rfl (by decide) ?_
    change am_AW am_nw ro (d + 1) mr_M_readCut 124 [some (.ref 63), some (.int x1), some (.int x2), some (.int x3)] [.int (m.1 68 1), .int (1 : Int32), .ref 68] (S0, m) none (S0, m')
    refine am_AW.run am_base_ok ok_M_readCut (Nat.le_add_left 1 d) 4 (pc1 := 128) (ls1 := [some (.ref 63), some (.int x1), some (.int x2), some (.int x3)]) (st1 := [.int x3, .int x2, .int x1, .int (1 : Int32), .int (m.1 68 1), .int (1 : Int32), .ref 68]) (σ1 := (S0, m)) rfl ?_
    obtain ⟨q27, hq27, h⟩ := Option.bind_eq_some_iff.mp h
    refine am_AW.callS ok_M_readCut am_nw_ok (As := [.int x1, .int x2, .int x3]) (rest := [.int (1 : Int32), .int (m.1 68 1), .int (1 : Int32), .ref 68]) rfl rfl rfl oR_M_numberOf lk_M_96 sT_M_numberOf rfl (Nat.le_of_ble_eq_true rfl) (f_M_numberOf_ok (d := d) (by omega) x1 x2 x3 hq27) ?_
    change am_AW am_nw ro (d + 1) mr_M_readCut 131 [some (.ref 63), some (.int x1), some (.int x2), some (.int x3)] [.int q27.1, .int (1 : Int32), .int (m.1 68 1), .int (1 : Int32), .ref 68] (S0, q27.2) none (S0, m')
    refine am_AW.run am_base_ok ok_M_readCut (Nat.le_add_left 1 d) 2 (pc1 := 133) (ls1 := [some (.ref 63), some (.int x1), some (.int x2), some (.int x3)]) (st1 := [.int ((m.1 68 1) ||| (am_shl (1 : Int32) q27.1)), .int (1 : Int32), .ref 68]) (σ1 := (S0, q27.2)) rfl ?_
    refine am_AW.iast ok_M_readCut (Nat.le_add_left 1 d) rfl rfl (by decide) ?_
    change am_AW am_nw ro (d + 1) mr_M_readCut 134 [some (.ref 63), some (.int x1), some (.int x2), some (.int x3)] [] (S0, (am_pI q27.2 68 1 ((m.1 68 1) ||| (am_shl (1 : Int32) q27.1)))) none (S0, m')
    exact am_AW.weak (f_M_readCut_b134_ok hd   h) (by simp only [am_le, and_self])
  · rw [if_neg c23] at h
    exact am_AW.weak (f_M_readCut_b134_ok hd   h) (by simp only [am_le, and_self])
set_option maxHeartbeats 4000000 in
set_option maxRecDepth 100000 in
theorem f_M_readCut_b105_ok {ro : am_Ro} {d : Nat} (hd : 5 ≤ d + 1) (x1 : Int32) (x2 : Int32) (x3 : Int32) {m m' : am_Mm} (h : f_M_readCut_b105 x1 x2 x3 m = some m') : am_AW am_nw ro (d + 1) mr_M_readCut 105 [some (.ref 63), some (.int x1), some (.int x2), some (.int x3)] [] (S0, m) none (S0, m') := by
  unfold f_M_readCut_b105 at h
  refine am_AW.run am_base_ok ok_M_readCut (Nat.le_add_left 1 d) 2 (pc1 := 107) (ls1 := [some (.ref 63), some (.int x1), some (.int x2), some (.int x3)]) (st1 := [.int (2 : Int32), .ref 63]) (σ1 := (S0, m)) rfl ?_
  obtain ⟨q22, hq22, h⟩ := Option.bind_eq_some_iff.mp h
  refine am_AW.callV ok_M_readCut am_nw_ok (As := [.int (2 : Int32)]) (rest := []) rfl rfl rfl oR_M_bad lk_M_150 iM_M_bad sE_M_bad (qc := kq10) rfl rfl rfl rfl (Nat.le_of_ble_eq_true rfl) (f_M_bad_ok (d := d) (by omega) (2 : Int32) hq22) ?_
  change am_AW am_nw ro (d + 1) mr_M_readCut 110 [some (.ref 63), some (.int x1), some (.int x2), some (.int x3)] [] (S0, q22) none (S0, m')
  exact am_AW.weak (f_M_readCut_b110_ok hd x1 x2 x3  h) (by simp only [am_le, and_self])
set_option maxHeartbeats 4000000 in
set_option maxRecDepth 100000 in
theorem f_M_readCut_b68_ok {ro : am_Ro} {d : Nat} (hd : 5 ≤ d + 1) (x1 : Int32) (x2 : Int32) {m m' : am_Mm} (h : f_M_readCut_b68 x1 x2 m = some m') : am_AW am_nw ro (d + 1) mr_M_readCut 68 [some (.ref 63), some (.int x1), some (.int x2), none] [] (S0, m) none (S0, m') := by
  unfold f_M_readCut_b68 at h
  refine am_AW.run am_base_ok ok_M_readCut (Nat.le_add_left 1 d) 5 (pc1 := 77) (ls1 := [some (.ref 63), some (.int x1), some (.int x2), some (.int (m.1 63 14))]) (st1 := [.int (m.1 63 15)]) (σ1 := (S0, m)) rfl ?_
  refine am_AW.brN ok_M_readCut rfl rfl am_c_ne (fun c15 => ?_) (fun c15 => ?_)
  · rw [if_pos c15] at h
    refine am_AW.run am_base_ok ok_M_readCut (Nat.le_add_left 1 d) 3 (pc1 := 83) (ls1 := [some (.ref 63), some (.int x1), some (.int x2), some (.int (m.1 63 14))]) (st1 := [.int (m.1 63 14), .int x2, .int x1]) (σ1 := (S0, m)) rfl ?_
    obtain ⟨q18, hq18, h⟩ := Option.bind_eq_some_iff.mp h
    refine am_AW.callS ok_M_readCut am_nw_ok (As := [.int x1, .int x2, .int (m.1 63 14)]) (rest := []) rfl rfl rfl oR_M_mayBe lk_M_108 sT_M_mayBe rfl (Nat.le_of_ble_eq_true rfl) (f_M_mayBe_ok (d := d) (by omega) x1 x2 (m.1 63 14) hq18) ?_
    change am_AW am_nw ro (d + 1) mr_M_readCut 86 [some (.ref 63), some (.int x1), some (.int x2), some (.int (m.1 63 14))] [.int q18.1] (S0, q18.2) none (S0, m')
    refine am_AW.brP ok_M_readCut rfl rfl am_c_eq (fun c19 => ?_) (fun c19 => ?_)
    · rw [if_pos c19] at h
      exact am_AW.weak (f_M_readCut_b105_ok hd x1 x2 (m.1 63 14)  h) (by simp only [am_le, and_self])
    · rw [if_neg c19] at h
      refine am_AW.run am_base_ok ok_M_readCut (Nat.le_add_left 1 d) 5 (pc1 := 96) (ls1 := [some (.ref 63), some (.int x1), some (.int x2), some (.int (m.1 63 14))]) (st1 := [.int (m.1 63 14), .int x2, .int x1, .ref 68]) (σ1 := (S0, q18.2)) rfl ?_
      obtain ⟨q36, hq36, h⟩ := Option.bind_eq_some_iff.mp h
      refine am_AW.callS ok_M_readCut am_nw_ok (As := [.int x1, .int x2, .int (m.1 63 14)]) (rest := [.ref 68]) rfl rfl rfl oR_M_numberOf lk_M_96 sT_M_numberOf rfl (Nat.le_of_ble_eq_true rfl) (f_M_numberOf_ok (d := d) (by omega) x1 x2 (m.1 63 14) hq36) ?_
      change am_AW am_nw ro (d + 1) mr_M_readCut 99 [some (.ref 63), some (.int x1), some (.int x2), some (.int (m.1 63 14))] [.int q36.1, .ref 68] (S0, q36.2) none (S0, m')
      obtain ⟨q39, hq39, h⟩ := Option.bind_eq_some_iff.mp h
      refine am_AW.callS ok_M_readCut am_nw_ok (As := [.ref 68, .int q36.1]) (rest := []) rfl rfl rfl oR_M_isFree lk_M_170 sT_M_isFree rfl (Nat.le_of_ble_eq_true rfl) (f_M_isFree_ok (d := d) (by omega) 68 q36.1 (by simp) hq39) ?_
      change am_AW am_nw ro (d + 1) mr_M_readCut 102 [some (.ref 63), some (.int x1), some (.int x2), some (.int (m.1 63 14))] [.int q39.1] (S0, q39.2) none (S0, m')
      refine am_AW.brN ok_M_readCut rfl rfl am_c_ne (fun c40 => ?_) (fun c40 => ?_)
      · rw [if_pos c40] at h
        exact am_AW.weak (f_M_readCut_b105_ok hd x1 x2 (m.1 63 14)  h) (by simp only [am_le, and_self])
      · rw [if_neg c40] at h
        exact am_AW.weak (f_M_readCut_b110_ok hd x1 x2 (m.1 63 14)  h) (by simp only [am_le, and_self])
  · rw [if_neg c15] at h
    exact am_AW.weak (f_M_readCut_b110_ok hd x1 x2 (m.1 63 14)  h) (by simp only [am_le, and_self])
set_option maxHeartbeats 4000000 in
set_option maxRecDepth 100000 in
theorem f_M_readCut_b30_ok {ro : am_Ro} {d : Nat} (hd : 5 ≤ d + 1) (x1 : Int32) (s1 : Int32) {m m' : am_Mm} (h : f_M_readCut_b30 x1 s1 m = some m') : am_AW am_nw ro (d + 1) mr_M_readCut 30 [some (.ref 63), some (.int x1), none, none] [.int s1, .ref 63] (S0, m) none (S0, m') := by
  unfold f_M_readCut_b30 at h
  obtain ⟨q6, hq6, h⟩ := Option.bind_eq_some_iff.mp h
  refine am_AW.callV ok_M_readCut am_nw_ok (As := [.int s1]) (rest := []) rfl rfl rfl oR_M_must lk_M_157 iM_M_must sE_M_must (qc := kq10) rfl rfl rfl rfl (Nat.le_of_ble_eq_true rfl) (f_M_must_ok (d := d) (by omega) s1 hq6) ?_
  change am_AW am_nw ro (d + 1) mr_M_readCut 33 [some (.ref 63), some (.int x1), none, none] [] (S0, q6) none (S0, m')
  refine am_AW.run am_base_ok ok_M_readCut (Nat.le_add_left 1 d) 5 (pc1 := 38) (ls1 := [some (.ref 63), some (.int x1), none, none]) (st1 := [.int (x1 - (1 : Int32)), .int (0 : Int32), .ref 63]) (σ1 := (S0, q6)) rfl ?_
  obtain ⟨q9, hq9, h⟩ := Option.bind_eq_some_iff.mp h
  refine am_AW.callV ok_M_readCut am_nw_ok (As := [.int (0 : Int32), .int (x1 - (1 : Int32))]) (rest := []) rfl rfl rfl oR_M_figure lk_M_164 iM_M_figure sE_M_figure (qc := kq10) rfl rfl rfl rfl (Nat.le_of_ble_eq_true rfl) (f_M_figure_ok (d := d) (by omega) (0 : Int32) (x1 - (1 : Int32)) hq9) ?_
  change am_AW am_nw ro (d + 1) mr_M_readCut 41 [some (.ref 63), some (.int x1), none, none] [.int q9.1] (S0, q9.2) none (S0, m')
  refine am_AW.run am_base_ok ok_M_readCut (Nat.le_add_left 1 d) 3 (pc1 := 45) (ls1 := [some (.ref 63), some (.int x1), some (.int q9.1), none]) (st1 := [.int (44 : Int32), .ref 63]) (σ1 := (S0, q9.2)) rfl ?_
  obtain ⟨q12, hq12, h⟩ := Option.bind_eq_some_iff.mp h
  refine am_AW.callV ok_M_readCut am_nw_ok (As := [.int (44 : Int32)]) (rest := []) rfl rfl rfl oR_M_mustSign lk_M_167 iM_M_mustSign sE_M_mustSign (qc := kq10) rfl rfl rfl rfl (Nat.le_of_ble_eq_true rfl) (f_M_mustSign_ok (d := d) (by omega) (44 : Int32) hq12) ?_
  change am_AW am_nw ro (d + 1) mr_M_readCut 48 [some (.ref 63), some (.int x1), some (.int q9.1), none] [] (S0, q12) none (S0, m')
  refine am_AW.run am_base_ok ok_M_readCut (Nat.le_add_left 1 d) 2 (pc1 := 52) (ls1 := [some (.ref 63), some (.int x1), some (.int q9.1), none]) (st1 := [.int (q12.1 63 15)]) (σ1 := (S0, q12)) rfl ?_
  refine am_AW.brN ok_M_readCut rfl rfl am_c_ne (fun c13 => ?_) (fun c13 => ?_)
  · rw [if_pos c13] at h
    refine am_AW.run am_base_ok ok_M_readCut (Nat.le_add_left 1 d) 3 (pc1 := 60) (ls1 := [some (.ref 63), some (.int x1), some (.int q9.1), none]) (st1 := [.int (3 : Int32), .int (q12.1 63 13)]) (σ1 := (S0, q12)) rfl ?_
    refine am_AW.brP ok_M_readCut rfl rfl am_c_eq (fun c14 => ?_) (fun c14 => ?_)
    · rw [if_pos c14] at h
      exact am_AW.weak (f_M_readCut_b68_ok hd x1 q9.1  h) (by simp only [am_le, and_self])
    · rw [if_neg c14] at h
      refine am_AW.run am_base_ok ok_M_readCut (Nat.le_add_left 1 d) 2 (pc1 := 65) (ls1 := [some (.ref 63), some (.int x1), some (.int q9.1), none]) (st1 := [.int (1 : Int32), .ref 63]) (σ1 := (S0, q12)) rfl ?_
      obtain ⟨q43, hq43, h⟩ := Option.bind_eq_some_iff.mp h
      refine am_AW.callV ok_M_readCut am_nw_ok (As := [.int (1 : Int32)]) (rest := []) rfl rfl rfl oR_M_bad lk_M_150 iM_M_bad sE_M_bad (qc := kq10) rfl rfl rfl rfl (Nat.le_of_ble_eq_true rfl) (f_M_bad_ok (d := d) (by omega) (1 : Int32) hq43) ?_
      change am_AW am_nw ro (d + 1) mr_M_readCut 68 [some (.ref 63), some (.int x1), some (.int q9.1), none] [] (S0, q43) none (S0, m')
      exact am_AW.weak (f_M_readCut_b68_ok hd x1 q9.1  h) (by simp only [am_le, and_self])
  · rw [if_neg c13] at h
    exact am_AW.weak (f_M_readCut_b68_ok hd x1 q9.1  h) (by simp only [am_le, and_self])
set_option maxHeartbeats 4000000 in
set_option maxRecDepth 100000 in
theorem f_M_readCut_ok {ro : am_Ro} {d : Nat} (hd : 5 ≤ d) {m m' : am_Mm} (h : f_M_readCut  m = some m') : am_Mt am_nw ro d mr_M_readCut [.ref 63] (S0, m) none (S0, m') := by
  obtain ⟨d, rfl⟩ : ∃ d0, d = d0 + 1 := ⟨d - 1, by omega⟩
  refine am_Mt.of (by decide +kernel) (Nat.le_of_ble_eq_true rfl) ?_
  change am_AW am_nw ro (d + 1) mr_M_readCut 0 [some (.ref 63), none, none, none] [] (S0, m) none (S0, m')
  unfold f_M_readCut at h
  refine am_AW.run am_base_ok ok_M_readCut (Nat.le_add_left 1 d) 3 (pc1 := 5) (ls1 := [some (.ref 63), none, none, none]) (st1 := [.int (0 : Int32), .ref 68]) (σ1 := (S0, m)) rfl ?_
  refine am_AW.iald ok_M_readCut (Nat.le_add_left 1 d) S0_len rfl rfl (by decide) ?_
  change am_AW am_nw ro (d + 1) mr_M_readCut 6 [some (.ref 63), none, none, none] [.int (m.1 68 0)] (S0, m) none (S0, m')
  refine am_AW.run am_base_ok ok_M_readCut (Nat.le_add_left 1 d) 5 (pc1 := 13) (ls1 := [some (.ref 63), some (.int (m.1 68 0)), none, none]) (st1 := [.int (2 : Int32), .int (m.1 63 13), .ref 63]) (σ1 := (S0, m)) rfl ?_
  refine am_AW.brN ok_M_readCut rfl rfl am_c_ne (fun c2 => ?_) (fun c2 => ?_)
  · rw [if_pos c2] at h
    refine am_AW.run am_base_ok ok_M_readCut (Nat.le_add_left 1 d) 3 (pc1 := 22) (ls1 := [some (.ref 63), some (.int (m.1 68 0)), none, none]) (st1 := [.int (100 : Int32), .int (m.1 63 14), .ref 63]) (σ1 := (S0, m)) rfl ?_
    refine am_AW.brN ok_M_readCut rfl rfl am_c_ne (fun c3 => ?_) (fun c3 => ?_)
    · rw [if_pos c3] at h
      refine am_AW.run am_base_ok ok_M_readCut (Nat.le_add_left 1 d) 2 (pc1 := 30) (ls1 := [some (.ref 63), some (.int (m.1 68 0)), none, none]) (st1 := [.int (1 : Int32), .ref 63]) (σ1 := (S0, m)) rfl ?_
      exact am_AW.weak (f_M_readCut_b30_ok hd (m.1 68 0) (1 : Int32)  h) (by simp only [am_le, and_self])
    · rw [if_neg c3] at h
      refine am_AW.run am_base_ok ok_M_readCut (Nat.le_add_left 1 d) 1 (pc1 := 30) (ls1 := [some (.ref 63), some (.int (m.1 68 0)), none, none]) (st1 := [.int (0 : Int32), .ref 63]) (σ1 := (S0, m)) rfl ?_
      exact am_AW.weak (f_M_readCut_b30_ok hd (m.1 68 0) (0 : Int32)  h) (by simp only [am_le, and_self])
  · rw [if_neg c2] at h
    refine am_AW.run am_base_ok ok_M_readCut (Nat.le_add_left 1 d) 1 (pc1 := 30) (ls1 := [some (.ref 63), some (.int (m.1 68 0)), none, none]) (st1 := [.int (0 : Int32), .ref 63]) (σ1 := (S0, m)) rfl ?_
    exact am_AW.weak (f_M_readCut_b30_ok hd (m.1 68 0) (0 : Int32)  h) (by simp only [am_le, and_self])
/-! FriezePolygonsModel.flip(I)I -/
def f_M_flip (x1 : Int32) (m : am_Mm) : Option (Int32 × am_Mm) :=
  (f_M_isCut x1 m).bind fun q3 =>
  if q3.1 = (0 : Int32) then
    some ((-1000001 : Int32), q3.2)
  else
    (f_M_flipped 67 x1 q3.2).bind fun q7 =>
    if q7.1 = (-1000000 : Int32) then
      some ((-1000002 : Int32), q7.2)
    else
      (f_M_keeps q7.2).bind fun q11 =>
      some (q7.1, (am_pI q11 67 1 (((q11.1 67 1) &&& ((am_shl (1 : Int32) x1) ^^^ (-1 : Int32))) ||| (am_shl (1 : Int32) q7.1))))
set_option maxHeartbeats 4000000 in
set_option maxRecDepth 100000 in
theorem f_M_flip_ok {ro : am_Ro} {d : Nat} (hd : 5 ≤ d) (x1 : Int32) {m m' : am_Mm} {r : Int32} (h : f_M_flip x1 m = some (r, m')) : am_Mt am_nw ro d mr_M_flip [.ref 63, .int x1] (S0, m) (some (.int r)) (S0, m') := by
  obtain ⟨d, rfl⟩ : ∃ d0, d = d0 + 1 := ⟨d - 1, by omega⟩
  refine am_Mt.of (by decide +kernel) (Nat.le_of_ble_eq_true rfl) ?_
  change am_AW am_nw ro (d + 1) mr_M_flip 0 [some (.ref 63), some (.int x1), none] [] (S0, m) (some (.int r)) (S0, m')
  unfold f_M_flip at h
  refine am_AW.run am_base_ok ok_M_flip (Nat.le_add_left 1 d) 2 (pc1 := 2) (ls1 := [some (.ref 63), some (.int x1), none]) (st1 := [.int x1, .ref 63]) (σ1 := (S0, m)) rfl ?_
  obtain ⟨q3, hq3, h⟩ := Option.bind_eq_some_iff.mp h
  refine am_AW.callV ok_M_flip am_nw_ok (As := [.int x1]) (rest := []) rfl rfl rfl oR_M_isCut lk_M_201 iM_M_isCut sE_M_isCut (qc := kq10) rfl rfl rfl rfl (Nat.le_of_ble_eq_true rfl) (f_M_isCut_ok (d := d) (by omega) x1 hq3) ?_
  change am_AW am_nw ro (d + 1) mr_M_flip 5 [some (.ref 63), some (.int x1), none] [.int q3.1] (S0, q3.2) (some (.int r)) (S0, m')
  refine am_AW.brN ok_M_flip rfl rfl am_c_ne (fun c4 => ?_) (fun c4 => ?_)
  · rw [if_pos c4] at h
    refine am_AW.run am_base_ok ok_M_flip (Nat.le_add_left 1 d) 1 (pc1 := 10) (ls1 := [some (.ref 63), some (.int x1), none]) (st1 := [.int (-1000001 : Int32)]) (σ1 := (S0, q3.2)) rfl ?_
    obtain ⟨rfl, rfl⟩ := Prod.mk.inj (Option.some.inj h)
    exact am_AW.ret ok_M_flip rfl rfl rfl rfl
  · rw [if_neg c4] at h
    refine am_AW.run am_base_ok ok_M_flip (Nat.le_add_left 1 d) 3 (pc1 := 16) (ls1 := [some (.ref 63), some (.int x1), none]) (st1 := [.int x1, .ref 67]) (σ1 := (S0, q3.2)) rfl ?_
    obtain ⟨q7, hq7, h⟩ := Option.bind_eq_some_iff.mp h
    refine am_AW.callS ok_M_flip am_nw_ok (As := [.ref 67, .int x1]) (rest := []) rfl rfl rfl oR_M_flipped lk_M_204 sT_M_flipped rfl (Nat.le_of_ble_eq_true rfl) (f_M_flipped_ok (d := d) (by omega) 67 x1 (by simp) hq7) ?_
    change am_AW am_nw ro (d + 1) mr_M_flip 19 [some (.ref 63), some (.int x1), none] [.int q7.1] (S0, q7.2) (some (.int r)) (S0, m')
    refine am_AW.run am_base_ok ok_M_flip (Nat.le_add_left 1 d) 3 (pc1 := 23) (ls1 := [some (.ref 63), some (.int x1), some (.int q7.1)]) (st1 := [.int (-1000000 : Int32), .int q7.1]) (σ1 := (S0, q7.2)) rfl ?_
    refine am_AW.brN ok_M_flip rfl rfl am_c_ne (fun c8 => ?_) (fun c8 => ?_)
    · rw [if_pos c8] at h
      refine am_AW.run am_base_ok ok_M_flip (Nat.le_add_left 1 d) 1 (pc1 := 28) (ls1 := [some (.ref 63), some (.int x1), some (.int q7.1)]) (st1 := [.int (-1000002 : Int32)]) (σ1 := (S0, q7.2)) rfl ?_
      obtain ⟨rfl, rfl⟩ := Prod.mk.inj (Option.some.inj h)
      exact am_AW.ret ok_M_flip rfl rfl rfl rfl
    · rw [if_neg c8] at h
      refine am_AW.run am_base_ok ok_M_flip (Nat.le_add_left 1 d) 1 (pc1 := 30) (ls1 := [some (.ref 63), some (.int x1), some (.int q7.1)]) (st1 := [.ref 63]) (σ1 := (S0, q7.2)) rfl ?_
      obtain ⟨q11, hq11, h⟩ := Option.bind_eq_some_iff.mp h
      refine am_AW.callV ok_M_flip am_nw_ok (As := []) (rest := []) rfl rfl rfl oR_M_keeps lk_M_195 iM_M_keeps sE_M_keeps (qc := kq10) rfl rfl rfl rfl (Nat.le_of_ble_eq_true rfl) (f_M_keeps_ok (d := d) (by omega)  hq11) ?_
      change am_AW am_nw ro (d + 1) mr_M_flip 33 [some (.ref 63), some (.int x1), some (.int q7.1)] [] (S0, q11) (some (.int r)) (S0, m')
      refine am_AW.run am_base_ok ok_M_flip (Nat.le_add_left 1 d) 6 (pc1 := 43) (ls1 := [some (.ref 63), some (.int x1), some (.int q7.1)]) (st1 := [.int (1 : Int32), .ref 67, .int (1 : Int32), .ref 67]) (σ1 := (S0, q11)) rfl ?_
      refine am_AW.iald ok_M_flip (Nat.le_add_left 1 d) S0_len rfl rfl (by decide) ?_
      change am_AW am_nw ro (d + 1) mr_M_flip 44 [some (.ref 63), some (.int x1), some (.int q7.1)] [.int (q11.1 67 1), .int (1 : Int32), .ref 67] (S0, q11) (some (.int r)) (S0, m')
      refine am_AW.run am_base_ok ok_M_flip (Nat.le_add_left 1 d) 10 (pc1 := 54) (ls1 := [some (.ref 63), some (.int x1), some (.int q7.1)]) (st1 := [.int (((q11.1 67 1) &&& ((am_shl (1 : Int32) x1) ^^^ (-1 : Int32))) ||| (am_shl (1 : Int32) q7.1)), .int (1 : Int32), .ref 67]) (σ1 := (S0, q11)) rfl ?_
      refine am_AW.iast ok_M_flip (Nat.le_add_left 1 d) rfl rfl (by decide) ?_
      change am_AW am_nw ro (d + 1) mr_M_flip 55 [some (.ref 63), some (.int x1), some (.int q7.1)] [] (S0, (am_pI q11 67 1 (((q11.1 67 1) &&& ((am_shl (1 : Int32) x1) ^^^ (-1 : Int32))) ||| (am_shl (1 : Int32) q7.1)))) (some (.int r)) (S0, m')
      refine am_AW.run am_base_ok ok_M_flip (Nat.le_add_left 1 d) 1 (pc1 := 56) (ls1 := [some (.ref 63), some (.int x1), some (.int q7.1)]) (st1 := [.int q7.1]) (σ1 := (S0, (am_pI q11 67 1 (((q11.1 67 1) &&& ((am_shl (1 : Int32) x1) ^^^ (-1 : Int32))) ||| (am_shl (1 : Int32) q7.1))))) rfl ?_
      obtain ⟨rfl, rfl⟩ := Prod.mk.inj (Option.some.inj h)
      exact am_AW.ret ok_M_flip rfl rfl rfl rfl
/-! FriezePolygonsModel.cutOf(II)I -/
def f_M_cutOf (x1 : Int32) (x2 : Int32) (m : am_Mm) : Option (Int32 × am_Mm) :=
  (f_M_isCut x1 m).bind fun q3 =>
  if q3.1 = (0 : Int32) then
    some ((-1000001 : Int32), q3.2)
  else
    (f_M_endsOf (q3.2.1 67 0) x1 q3.2).bind fun q8 =>
    if x2 = (0 : Int32) then
      some ((q8.1 / (10 : Int32)), q8.2)
    else
      if x2 = (1 : Int32) then
        some ((am_rem q8.1 (10 : Int32)), q8.2)
      else
        if x2 = (2 : Int32) then
          (f_M_has (q8.2.1 67 1) x1 q8.2).bind fun q15 =>
          if q15.1 = (0 : Int32) then
            some ((0 : Int32), q15.2)
          else
            some ((1 : Int32), q15.2)
        else
          if x2 = (3 : Int32) then
            (f_M_flipped 67 x1 q8.2).bind fun q20 =>
            some (q20.1, q20.2)
          else
            some ((-1000001 : Int32), q8.2)
set_option maxHeartbeats 4000000 in
set_option maxRecDepth 100000 in
theorem f_M_cutOf_ok {ro : am_Ro} {d : Nat} (hd : 5 ≤ d) (x1 : Int32) (x2 : Int32) {m m' : am_Mm} {r : Int32} (h : f_M_cutOf x1 x2 m = some (r, m')) : am_Mt am_nw ro d mr_M_cutOf [.ref 63, .int x1, .int x2] (S0, m) (some (.int r)) (S0, m') := by
  obtain ⟨d, rfl⟩ : ∃ d0, d = d0 + 1 := ⟨d - 1, by omega⟩
  refine am_Mt.of (by decide +kernel) (Nat.le_of_ble_eq_true rfl) ?_
  change am_AW am_nw ro (d + 1) mr_M_cutOf 0 [some (.ref 63), some (.int x1), some (.int x2), none] [] (S0, m) (some (.int r)) (S0, m')
  unfold f_M_cutOf at h
  refine am_AW.run am_base_ok ok_M_cutOf (Nat.le_add_left 1 d) 2 (pc1 := 2) (ls1 := [some (.ref 63), some (.int x1), some (.int x2), none]) (st1 := [.int x1, .ref 63]) (σ1 := (S0, m)) rfl ?_
  obtain ⟨q3, hq3, h⟩ := Option.bind_eq_some_iff.mp h
  refine am_AW.callV ok_M_cutOf am_nw_ok (As := [.int x1]) (rest := []) rfl rfl rfl oR_M_isCut lk_M_201 iM_M_isCut sE_M_isCut (qc := kq10) rfl rfl rfl rfl (Nat.le_of_ble_eq_true rfl) (f_M_isCut_ok (d := d) (by omega) x1 hq3) ?_
  change am_AW am_nw ro (d + 1) mr_M_cutOf 5 [some (.ref 63), some (.int x1), some (.int x2), none] [.int q3.1] (S0, q3.2) (some (.int r)) (S0, m')
  refine am_AW.brN ok_M_cutOf rfl rfl am_c_ne (fun c4 => ?_) (fun c4 => ?_)
  · rw [if_pos c4] at h
    refine am_AW.run am_base_ok ok_M_cutOf (Nat.le_add_left 1 d) 1 (pc1 := 10) (ls1 := [some (.ref 63), some (.int x1), some (.int x2), none]) (st1 := [.int (-1000001 : Int32)]) (σ1 := (S0, q3.2)) rfl ?_
    obtain ⟨rfl, rfl⟩ := Prod.mk.inj (Option.some.inj h)
    exact am_AW.ret ok_M_cutOf rfl rfl rfl rfl
  · rw [if_neg c4] at h
    refine am_AW.run am_base_ok ok_M_cutOf (Nat.le_add_left 1 d) 3 (pc1 := 16) (ls1 := [some (.ref 63), some (.int x1), some (.int x2), none]) (st1 := [.int (0 : Int32), .ref 67]) (σ1 := (S0, q3.2)) rfl ?_
    refine am_AW.iald ok_M_cutOf (Nat.le_add_left 1 d) S0_len rfl rfl (by decide) ?_
    change am_AW am_nw ro (d + 1) mr_M_cutOf 17 [some (.ref 63), some (.int x1), some (.int x2), none] [.int (q3.2.1 67 0)] (S0, q3.2) (some (.int r)) (S0, m')
    refine am_AW.run am_base_ok ok_M_cutOf (Nat.le_add_left 1 d) 1 (pc1 := 18) (ls1 := [some (.ref 63), some (.int x1), some (.int x2), none]) (st1 := [.int x1, .int (q3.2.1 67 0)]) (σ1 := (S0, q3.2)) rfl ?_
    obtain ⟨q8, hq8, h⟩ := Option.bind_eq_some_iff.mp h
    refine am_AW.callS ok_M_cutOf am_nw_ok (As := [.int (q3.2.1 67 0), .int x1]) (rest := []) rfl rfl rfl oR_M_endsOf lk_M_90 sT_M_endsOf rfl (Nat.le_of_ble_eq_true rfl) (f_M_endsOf_ok (d := d) (by omega) (q3.2.1 67 0) x1 hq8) ?_
    change am_AW am_nw ro (d + 1) mr_M_cutOf 21 [some (.ref 63), some (.int x1), some (.int x2), none] [.int q8.1] (S0, q8.2) (some (.int r)) (S0, m')
    refine am_AW.run am_base_ok ok_M_cutOf (Nat.le_add_left 1 d) 2 (pc1 := 23) (ls1 := [some (.ref 63), some (.int x1), some (.int x2), some (.int q8.1)]) (st1 := [.int x2]) (σ1 := (S0, q8.2)) rfl ?_
    by_cases c9 : x2 = (0 : Int32)
    · rw [if_pos c9] at h
      refine am_AW.sw ok_M_cutOf rfl (t := 52) (by rw [c9]; decide +kernel) ?_
      refine am_AW.run am_base_ok ok_M_cutOf (Nat.le_add_left 1 d) 2 (pc1 := 55) (ls1 := [some (.ref 63), some (.int x1), some (.int x2), some (.int q8.1)]) (st1 := [.int (10 : Int32), .int q8.1]) (σ1 := (S0, q8.2)) rfl ?_
      refine am_AW.dvi ok_M_cutOf (Nat.le_add_left 1 d) (w := (q8.1 / (10 : Int32))) (Or.inl ⟨rfl, rfl⟩) rfl (by decide) ?_
      obtain ⟨rfl, rfl⟩ := Prod.mk.inj (Option.some.inj h)
      exact am_AW.ret ok_M_cutOf rfl rfl rfl rfl
    rw [if_neg c9] at h
    by_cases c10 : x2 = (1 : Int32)
    · rw [if_pos c10] at h
      refine am_AW.sw ok_M_cutOf rfl (t := 57) (by rw [c10]; decide +kernel) ?_
      refine am_AW.run am_base_ok ok_M_cutOf (Nat.le_add_left 1 d) 2 (pc1 := 60) (ls1 := [some (.ref 63), some (.int x1), some (.int x2), some (.int q8.1)]) (st1 := [.int (10 : Int32), .int q8.1]) (σ1 := (S0, q8.2)) rfl ?_
      refine am_AW.dvi ok_M_cutOf (Nat.le_add_left 1 d) (w := (am_rem q8.1 (10 : Int32))) (Or.inr ⟨rfl, rfl⟩) rfl (by decide) ?_
      obtain ⟨rfl, rfl⟩ := Prod.mk.inj (Option.some.inj h)
      exact am_AW.ret ok_M_cutOf rfl rfl rfl rfl
    rw [if_neg c10] at h
    by_cases c11 : x2 = (2 : Int32)
    · rw [if_pos c11] at h
      refine am_AW.sw ok_M_cutOf rfl (t := 62) (by rw [c11]; decide +kernel) ?_
      refine am_AW.run am_base_ok ok_M_cutOf (Nat.le_add_left 1 d) 3 (pc1 := 67) (ls1 := [some (.ref 63), some (.int x1), some (.int x2), some (.int q8.1)]) (st1 := [.int (1 : Int32), .ref 67]) (σ1 := (S0, q8.2)) rfl ?_
      refine am_AW.iald ok_M_cutOf (Nat.le_add_left 1 d) S0_len rfl rfl (by decide) ?_
      change am_AW am_nw ro (d + 1) mr_M_cutOf 68 [some (.ref 63), some (.int x1), some (.int x2), some (.int q8.1)] [.int (q8.2.1 67 1)] (S0, q8.2) (some (.int r)) (S0, m')
      refine am_AW.run am_base_ok ok_M_cutOf (Nat.le_add_left 1 d) 1 (pc1 := 69) (ls1 := [some (.ref 63), some (.int x1), some (.int x2), some (.int q8.1)]) (st1 := [.int x1, .int (q8.2.1 67 1)]) (σ1 := (S0, q8.2)) rfl ?_
      obtain ⟨q15, hq15, h⟩ := Option.bind_eq_some_iff.mp h
      refine am_AW.callS ok_M_cutOf am_nw_ok (As := [.int (q8.2.1 67 1), .int x1]) (rest := []) rfl rfl rfl oR_M_has lk_M_75 sT_M_has rfl (Nat.le_of_ble_eq_true rfl) (f_M_has_ok (d := d) (by omega) (q8.2.1 67 1) x1 hq15) ?_
      change am_AW am_nw ro (d + 1) mr_M_cutOf 72 [some (.ref 63), some (.int x1), some (.int x2), some (.int q8.1)] [.int q15.1] (S0, q15.2) (some (.int r)) (S0, m')
      refine am_AW.brP ok_M_cutOf rfl rfl am_c_eq (fun c16 => ?_) (fun c16 => ?_)
      · rw [if_pos c16] at h
        refine am_AW.run am_base_ok ok_M_cutOf (Nat.le_add_left 1 d) 1 (pc1 := 80) (ls1 := [some (.ref 63), some (.int x1), some (.int x2), some (.int q8.1)]) (st1 := [.int (0 : Int32)]) (σ1 := (S0, q15.2)) rfl ?_
        obtain ⟨rfl, rfl⟩ := Prod.mk.inj (Option.some.inj h)
        exact am_AW.ret ok_M_cutOf rfl rfl rfl rfl
      · rw [if_neg c16] at h
        refine am_AW.run am_base_ok ok_M_cutOf (Nat.le_add_left 1 d) 2 (pc1 := 80) (ls1 := [some (.ref 63), some (.int x1), some (.int x2), some (.int q8.1)]) (st1 := [.int (1 : Int32)]) (σ1 := (S0, q15.2)) rfl ?_
        obtain ⟨rfl, rfl⟩ := Prod.mk.inj (Option.some.inj h)
        exact am_AW.ret ok_M_cutOf rfl rfl rfl rfl
    rw [if_neg c11] at h
    by_cases c17 : x2 = (3 : Int32)
    · rw [if_pos c17] at h
      refine am_AW.sw ok_M_cutOf rfl (t := 81) (by rw [c17]; decide +kernel) ?_
      refine am_AW.run am_base_ok ok_M_cutOf (Nat.le_add_left 1 d) 3 (pc1 := 86) (ls1 := [some (.ref 63), some (.int x1), some (.int x2), some (.int q8.1)]) (st1 := [.int x1, .ref 67]) (σ1 := (S0, q8.2)) rfl ?_
      obtain ⟨q20, hq20, h⟩ := Option.bind_eq_some_iff.mp h
      refine am_AW.callS ok_M_cutOf am_nw_ok (As := [.ref 67, .int x1]) (rest := []) rfl rfl rfl oR_M_flipped lk_M_204 sT_M_flipped rfl (Nat.le_of_ble_eq_true rfl) (f_M_flipped_ok (d := d) (by omega) 67 x1 (by simp) hq20) ?_
      change am_AW am_nw ro (d + 1) mr_M_cutOf 89 [some (.ref 63), some (.int x1), some (.int x2), some (.int q8.1)] [.int q20.1] (S0, q20.2) (some (.int r)) (S0, m')
      obtain ⟨rfl, rfl⟩ := Prod.mk.inj (Option.some.inj h)
      exact am_AW.ret ok_M_cutOf rfl rfl rfl rfl
    rw [if_neg c17] at h
    have o21 : (x2).toInt < 0 ∨ 3 < (x2).toInt := by
      have := lv_neT c9 (a := 0) (by decide)
      have := lv_neT c10 (a := 1) (by decide)
      have := lv_neT c11 (a := 2) (by decide)
      have := lv_neT c17 (a := 3) (by decide)
      omega
    refine am_AW.sw ok_M_cutOf rfl (t := 90) (by simp only [am_sw, if_pos o21]; decide +kernel) ?_
    refine am_AW.run am_base_ok ok_M_cutOf (Nat.le_add_left 1 d) 1 (pc1 := 92) (ls1 := [some (.ref 63), some (.int x1), some (.int x2), some (.int q8.1)]) (st1 := [.int (-1000001 : Int32)]) (σ1 := (S0, q8.2)) rfl ?_
    obtain ⟨rfl, rfl⟩ := Prod.mk.inj (Option.some.inj h)
    exact am_AW.ret ok_M_cutOf rfl rfl rfl rfl
/-! FriezePolygonsModel.steps(III)I -/
def f_M_steps_b132 (k13 : Int32 → Int32 → Int32 → Int32 → am_Mm → Option (Int32 × am_Mm)) (x1 : Int32) (x2 : Int32) (x4 : Int32) (x5 : Int32) (m : am_Mm) : Option (Int32 × am_Mm) :=
  k13 x1 x2 x4 (x5 + (1 : Int32)) m
def f_M_steps_b98 (k13 : Int32 → Int32 → Int32 → Int32 → am_Mm → Option (Int32 × am_Mm)) (x1 : Int32) (x2 : Int32) (x4 : Int32) (x5 : Int32) (s0 : Int32) (m : am_Mm) : Option (Int32 × am_Mm) :=
  (f_M_isKnown s0 (0 : Int32) x4 m).bind fun q15 =>
  if q15.1 = (0 : Int32) then
    if (429 : Int32) ≤ x4 then
      f_M_steps_b132 k13 x1 x2 x4 x5 q15.2
    else
      if am_in x4 429 = true then
        f_M_steps_b132 k13 x1 x2 (x4 + (1 : Int32)) x5 (am_pI q15.2 74 x4.toNatClampNeg s0)
      else none
  else
    f_M_steps_b132 k13 x1 x2 x4 x5 q15.2
def f_M_steps_b62 (k13 : Int32 → Int32 → Int32 → Int32 → am_Mm → Option (Int32 × am_Mm)) (x1 : Int32) (x2 : Int32) (x4 : Int32) (x5 : Int32) (s0 : Int32) (m : am_Mm) : Option (Int32 × am_Mm) :=
  if s0 = (-1000000 : Int32) then
    if am_in x2 429 = true then
      f_M_steps_b98 k13 x1 x2 x4 x5 (m.1 74 x2.toNatClampNeg) m
    else none
  else
    if am_in x2 429 = true then
      f_M_steps_b98 k13 x1 x2 x4 x5 (((m.1 74 x2.toNatClampNeg) &&& ((am_shl (1 : Int32) x5) ^^^ (-1 : Int32))) ||| (am_shl (1 : Int32) s0)) m
    else none
def f_M_steps_b13 : Nat → Int32 → Int32 → Int32 → Int32 → am_Mm → Option (Int32 × am_Mm)
  | 0, _, _, _, _, _ => none
  | n + 1, x1, x2, x4, x5, m =>
    (f_M_manyCuts x1 m).bind fun q3 =>
    if q3.1 ≤ x5 then
      some (x4, q3.2)
    else
      if am_in x2 429 = true then
        if am_in x2 429 = true then
          (f_M_has ((am_pI q3.2 69 1 (q3.2.1 74 x2.toNatClampNeg)).1 74 x2.toNatClampNeg) x5 (am_pI q3.2 69 1 (q3.2.1 74 x2.toNatClampNeg))).bind fun q9 =>
          if q9.1 = (0 : Int32) then
            f_M_steps_b62 (f_M_steps_b13 n) x1 x2 x4 x5 (-1000000 : Int32) q9.2
          else
            (f_M_flipped 69 x5 q9.2).bind fun q22 =>
            f_M_steps_b62 (f_M_steps_b13 n) x1 x2 x4 x5 q22.1 q22.2
        else none
      else none
def f_M_steps (x1 : Int32) (x2 : Int32) (x3 : Int32) (m : am_Mm) : Option (Int32 × am_Mm) :=
  f_M_steps_b13 am_F x1 x2 x3 (0 : Int32) (am_pI m 69 0 x1)
set_option maxHeartbeats 4000000 in
set_option maxRecDepth 100000 in
theorem f_M_steps_b132_ok {ro : am_Ro} {d : Nat} (hd : 5 ≤ d + 1) {k13 : Int32 → Int32 → Int32 → Int32 → am_Mm → Option (Int32 × am_Mm)} (hk13 : ∀ (x1 : Int32) (x2 : Int32) (x4 : Int32) (x5 : Int32) (m m' : am_Mm) (r : Int32), k13 x1 x2 x4 x5 m = some (r, m') → am_AW am_nw ro (d + 1) mr_M_steps 13 [some (.ref 63), some (.int x1), some (.int x2), none, some (.int x4), some (.int x5), none, none] [] (S0, m) (some (.int r)) (S0, m')) (x1 : Int32) (x2 : Int32) (x4 : Int32) (x5 : Int32) {m m' : am_Mm} {r : Int32} (h : f_M_steps_b132 k13 x1 x2 x4 x5 m = some (r, m')) : am_AW am_nw ro (d + 1) mr_M_steps 132 [some (.ref 63), some (.int x1), some (.int x2), none, some (.int x4), some (.int x5), none, none] [] (S0, m) (some (.int r)) (S0, m') := by
  unfold f_M_steps_b132 at h
  refine am_AW.run am_base_ok ok_M_steps (Nat.le_add_left 1 d) 2 (pc1 := 13) (ls1 := [some (.ref 63), some (.int x1), some (.int x2), none, some (.int x4), some (.int (x5 + (1 : Int32))), none, none]) (st1 := []) (σ1 := (S0, m)) rfl ?_
  exact am_AW.weak (hk13 x1 x2 x4 (x5 + (1 : Int32))  _ _ _ h) (by simp only [am_le, and_self])
set_option maxHeartbeats 4000000 in
set_option maxRecDepth 100000 in
theorem f_M_steps_b98_ok {ro : am_Ro} {d : Nat} (hd : 5 ≤ d + 1) {k13 : Int32 → Int32 → Int32 → Int32 → am_Mm → Option (Int32 × am_Mm)} (hk13 : ∀ (x1 : Int32) (x2 : Int32) (x4 : Int32) (x5 : Int32) (m m' : am_Mm) (r : Int32), k13 x1 x2 x4 x5 m = some (r, m') → am_AW am_nw ro (d + 1) mr_M_steps 13 [some (.ref 63), some (.int x1), some (.int x2), none, some (.int x4), some (.int x5), none, none] [] (S0, m) (some (.int r)) (S0, m')) (x1 : Int32) (x2 : Int32) (x4 : Int32) (x5 : Int32) (s0 : Int32) {m m' : am_Mm} {r : Int32} (h : f_M_steps_b98 k13 x1 x2 x4 x5 s0 m = some (r, m')) : am_AW am_nw ro (d + 1) mr_M_steps 98 [some (.ref 63), some (.int x1), some (.int x2), none, some (.int x4), some (.int x5), none, none] [.int s0] (S0, m) (some (.int r)) (S0, m') := by
  unfold f_M_steps_b98 at h
  refine am_AW.run am_base_ok ok_M_steps (Nat.le_add_left 1 d) 5 (pc1 := 106) (ls1 := [some (.ref 63), some (.int x1), some (.int x2), none, some (.int x4), some (.int x5), none, some (.int s0)]) (st1 := [.int x4, .int (0 : Int32), .int s0, .ref 63]) (σ1 := (S0, m)) rfl ?_
  obtain ⟨q15, hq15, h⟩ := Option.bind_eq_some_iff.mp h
  refine am_AW.callV ok_M_steps am_nw_ok (As := [.int s0, .int (0 : Int32), .int x4]) (rest := []) rfl rfl rfl oR_M_isKnown lk_M_278 iM_M_isKnown sE_M_isKnown (qc := kq10) rfl rfl rfl rfl (Nat.le_of_ble_eq_true rfl) (f_M_isKnown_ok (d := d) (by omega) s0 (0 : Int32) x4 hq15) ?_
  change am_AW am_nw ro (d + 1) mr_M_steps 109 [some (.ref 63), some (.int x1), some (.int x2), none, some (.int x4), some (.int x5), none, some (.int s0)] [.int q15.1] (S0, q15.2) (some (.int r)) (S0, m')
  refine am_AW.brN ok_M_steps rfl rfl am_c_ne (fun c16 => ?_) (fun c16 => ?_)
  · rw [if_pos c16] at h
    refine am_AW.run am_base_ok ok_M_steps (Nat.le_add_left 1 d) 2 (pc1 := 117) (ls1 := [some (.ref 63), some (.int x1), some (.int x2), none, some (.int x4), some (.int x5), none, some (.int s0)]) (st1 := [.int (429 : Int32), .int x4]) (σ1 := (S0, q15.2)) rfl ?_
    refine am_AW.brP ok_M_steps rfl rfl am_c_ge (fun c17 => ?_) (fun c17 => ?_)
    · rw [if_pos c17] at h
      exact am_AW.weak (f_M_steps_b132_ok hd (hk13) x1 x2 x4 x5  h) (by simp only [am_le, and_self])
    · rw [if_neg c17] at h
      refine am_AW.run am_base_ok ok_M_steps (Nat.le_add_left 1 d) 4 (pc1 := 128) (ls1 := [some (.ref 63), some (.int x1), some (.int x2), none, some (.int x4), some (.int x5), none, some (.int s0)]) (st1 := [.int s0, .int x4, .ref 74]) (σ1 := (S0, q15.2)) rfl ?_
      by_cases g18 : am_in x4 429 = true
      rotate_left
      · rw [if_neg g18] at h
        cases h
      rw [if_pos g18] at h
      refine am_AW.iast ok_M_steps (Nat.le_add_left 1 d) rfl rfl g18 ?_
      change am_AW am_nw ro (d + 1) mr_M_steps 129 [some (.ref 63), some (.int x1), some (.int x2), none, some (.int x4), some (.int x5), none, some (.int s0)] [] (S0, (am_pI q15.2 74 x4.toNatClampNeg s0)) (some (.int r)) (S0, m')
      refine am_AW.run am_base_ok ok_M_steps (Nat.le_add_left 1 d) 1 (pc1 := 132) (ls1 := [some (.ref 63), some (.int x1), some (.int x2), none, some (.int (x4 + (1 : Int32))), some (.int x5), none, some (.int s0)]) (st1 := []) (σ1 := (S0, (am_pI q15.2 74 x4.toNatClampNeg s0))) rfl ?_
      exact am_AW.weak (f_M_steps_b132_ok hd (hk13) x1 x2 (x4 + (1 : Int32)) x5  h) (by simp only [am_le, and_self])
  · rw [if_neg c16] at h
    exact am_AW.weak (f_M_steps_b132_ok hd (hk13) x1 x2 x4 x5  h) (by simp only [am_le, and_self])
set_option maxHeartbeats 4000000 in
set_option maxRecDepth 100000 in
theorem f_M_steps_b62_ok {ro : am_Ro} {d : Nat} (hd : 5 ≤ d + 1) {k13 : Int32 → Int32 → Int32 → Int32 → am_Mm → Option (Int32 × am_Mm)} (hk13 : ∀ (x1 : Int32) (x2 : Int32) (x4 : Int32) (x5 : Int32) (m m' : am_Mm) (r : Int32), k13 x1 x2 x4 x5 m = some (r, m') → am_AW am_nw ro (d + 1) mr_M_steps 13 [some (.ref 63), some (.int x1), some (.int x2), none, some (.int x4), some (.int x5), none, none] [] (S0, m) (some (.int r)) (S0, m')) (x1 : Int32) (x2 : Int32) (x4 : Int32) (x5 : Int32) (s0 : Int32) {m m' : am_Mm} {r : Int32} (h : f_M_steps_b62 k13 x1 x2 x4 x5 s0 m = some (r, m')) : am_AW am_nw ro (d + 1) mr_M_steps 62 [some (.ref 63), some (.int x1), some (.int x2), none, some (.int x4), some (.int x5), none, none] [.int s0] (S0, m) (some (.int r)) (S0, m') := by
  unfold f_M_steps_b62 at h
  refine am_AW.run am_base_ok ok_M_steps (Nat.le_add_left 1 d) 3 (pc1 := 68) (ls1 := [some (.ref 63), some (.int x1), some (.int x2), none, some (.int x4), some (.int x5), some (.int s0), none]) (st1 := [.int (-1000000 : Int32), .int s0]) (σ1 := (S0, m)) rfl ?_
  refine am_AW.brN ok_M_steps rfl rfl am_c_ne (fun c11 => ?_) (fun c11 => ?_)
  · rw [if_pos c11] at h
    refine am_AW.run am_base_ok ok_M_steps (Nat.le_add_left 1 d) 3 (pc1 := 76) (ls1 := [some (.ref 63), some (.int x1), some (.int x2), none, some (.int x4), some (.int x5), some (.int s0), none]) (st1 := [.int x2, .ref 74]) (σ1 := (S0, m)) rfl ?_
    by_cases g12 : am_in x2 429 = true
    rotate_left
    · rw [if_neg g12] at h
      cases h
    rw [if_pos g12] at h
    refine am_AW.iald ok_M_steps (Nat.le_add_left 1 d) S0_len rfl rfl g12 ?_
    refine am_AW.run am_base_ok ok_M_steps (Nat.le_add_left 1 d) 1 (pc1 := 98) (ls1 := [some (.ref 63), some (.int x1), some (.int x2), none, some (.int x4), some (.int x5), some (.int s0), none]) (st1 := [.int (m.1 74 x2.toNatClampNeg)]) (σ1 := (S0, m)) rfl ?_
    exact am_AW.weak (f_M_steps_b98_ok hd (hk13) x1 x2 x4 x5 (m.1 74 x2.toNatClampNeg)  h) (by simp only [am_le, and_self])
  · rw [if_neg c11] at h
    refine am_AW.run am_base_ok ok_M_steps (Nat.le_add_left 1 d) 3 (pc1 := 85) (ls1 := [some (.ref 63), some (.int x1), some (.int x2), none, some (.int x4), some (.int x5), some (.int s0), none]) (st1 := [.int x2, .ref 74]) (σ1 := (S0, m)) rfl ?_
    by_cases g19 : am_in x2 429 = true
    rotate_left
    · rw [if_neg g19] at h
      cases h
    rw [if_pos g19] at h
    refine am_AW.iald ok_M_steps (Nat.le_add_left 1 d) S0_len rfl rfl g19 ?_
    refine am_AW.run am_base_ok ok_M_steps (Nat.le_add_left 1 d) 10 (pc1 := 98) (ls1 := [some (.ref 63), some (.int x1), some (.int x2), none, some (.int x4), some (.int x5), some (.int s0), none]) (st1 := [.int (((m.1 74 x2.toNatClampNeg) &&& ((am_shl (1 : Int32) x5) ^^^ (-1 : Int32))) ||| (am_shl (1 : Int32) s0))]) (σ1 := (S0, m)) rfl ?_
    exact am_AW.weak (f_M_steps_b98_ok hd (hk13) x1 x2 x4 x5 (((m.1 74 x2.toNatClampNeg) &&& ((am_shl (1 : Int32) x5) ^^^ (-1 : Int32))) ||| (am_shl (1 : Int32) s0))  h) (by simp only [am_le, and_self])
set_option maxHeartbeats 4000000 in
set_option maxRecDepth 100000 in
theorem f_M_steps_b13_all {ro : am_Ro} {d : Nat} (hd : 5 ≤ d + 1) : ∀ (n : Nat) (x1 : Int32) (x2 : Int32) (x4 : Int32) (x5 : Int32) (m m' : am_Mm) (r : Int32), f_M_steps_b13 n x1 x2 x4 x5 m = some (r, m') → am_AW am_nw ro (d + 1) mr_M_steps 13 [some (.ref 63), some (.int x1), some (.int x2), none, some (.int x4), some (.int x5), none, none] [] (S0, m) (some (.int r)) (S0, m') := by
  intro n
  induction n with
  | zero =>
    intro x1 x2 x4 x5 m m' r h
    rw [f_M_steps_b13] at h
    cases h
  | succ n ih =>
    intro x1 x2 x4 x5 m m' r h
    rw [f_M_steps_b13] at h
    refine am_AW.run am_base_ok ok_M_steps (Nat.le_add_left 1 d) 2 (pc1 := 16) (ls1 := [some (.ref 63), some (.int x1), some (.int x2), none, some (.int x4), some (.int x5), none, none]) (st1 := [.int x1, .int x5]) (σ1 := (S0, m)) rfl ?_
    obtain ⟨q3, hq3, h⟩ := Option.bind_eq_some_iff.mp h
    refine am_AW.callS ok_M_steps am_nw_ok (As := [.int x1]) (rest := [.int x5]) rfl rfl rfl oR_M_manyCuts lk_M_87 sT_M_manyCuts rfl (Nat.le_of_ble_eq_true rfl) (f_M_manyCuts_ok (d := d) (by omega) x1 hq3) ?_
    change am_AW am_nw ro (d + 1) mr_M_steps 19 [some (.ref 63), some (.int x1), some (.int x2), none, some (.int x4), some (.int x5), none, none] [.int q3.1, .int x5] (S0, q3.2) (some (.int r)) (S0, m')
    refine am_AW.brP ok_M_steps rfl rfl am_c_ge (fun c4 => ?_) (fun c4 => ?_)
    · rw [if_pos c4] at h
      refine am_AW.run am_base_ok ok_M_steps (Nat.le_add_left 1 d) 1 (pc1 := 140) (ls1 := [some (.ref 63), some (.int x1), some (.int x2), none, some (.int x4), some (.int x5), none, none]) (st1 := [.int x4]) (σ1 := (S0, q3.2)) rfl ?_
      obtain ⟨rfl, rfl⟩ := Prod.mk.inj (Option.some.inj h)
      exact am_AW.ret ok_M_steps rfl rfl rfl rfl
    · rw [if_neg c4] at h
      refine am_AW.run am_base_ok ok_M_steps (Nat.le_add_left 1 d) 6 (pc1 := 32) (ls1 := [some (.ref 63), some (.int x1), some (.int x2), none, some (.int x4), some (.int x5), none, none]) (st1 := [.int x2, .ref 74, .int (1 : Int32), .ref 69]) (σ1 := (S0, q3.2)) rfl ?_
      by_cases g5 : am_in x2 429 = true
      rotate_left
      · rw [if_neg g5] at h
        cases h
      rw [if_pos g5] at h
      refine am_AW.iald ok_M_steps (Nat.le_add_left 1 d) S0_len rfl rfl g5 ?_
      refine am_AW.iast ok_M_steps (Nat.le_add_left 1 d) rfl rfl (by decide) ?_
      change am_AW am_nw ro (d + 1) mr_M_steps 34 [some (.ref 63), some (.int x1), some (.int x2), none, some (.int x4), some (.int x5), none, none] [] (S0, (am_pI q3.2 69 1 (q3.2.1 74 x2.toNatClampNeg))) (some (.int r)) (S0, m')
      refine am_AW.run am_base_ok ok_M_steps (Nat.le_add_left 1 d) 3 (pc1 := 39) (ls1 := [some (.ref 63), some (.int x1), some (.int x2), none, some (.int x4), some (.int x5), none, none]) (st1 := [.int x2, .ref 74]) (σ1 := (S0, (am_pI q3.2 69 1 (q3.2.1 74 x2.toNatClampNeg)))) rfl ?_
      by_cases g6 : am_in x2 429 = true
      rotate_left
      · rw [if_neg g6] at h
        cases h
      rw [if_pos g6] at h
      refine am_AW.iald ok_M_steps (Nat.le_add_left 1 d) S0_len rfl rfl g6 ?_
      refine am_AW.run am_base_ok ok_M_steps (Nat.le_add_left 1 d) 1 (pc1 := 42) (ls1 := [some (.ref 63), some (.int x1), some (.int x2), none, some (.int x4), some (.int x5), none, none]) (st1 := [.int x5, .int ((am_pI q3.2 69 1 (q3.2.1 74 x2.toNatClampNeg)).1 74 x2.toNatClampNeg)]) (σ1 := (S0, (am_pI q3.2 69 1 (q3.2.1 74 x2.toNatClampNeg)))) rfl ?_
      obtain ⟨q9, hq9, h⟩ := Option.bind_eq_some_iff.mp h
      refine am_AW.callS ok_M_steps am_nw_ok (As := [.int ((am_pI q3.2 69 1 (q3.2.1 74 x2.toNatClampNeg)).1 74 x2.toNatClampNeg), .int x5]) (rest := []) rfl rfl rfl oR_M_has lk_M_75 sT_M_has rfl (Nat.le_of_ble_eq_true rfl) (f_M_has_ok (d := d) (by omega) ((am_pI q3.2 69 1 (q3.2.1 74 x2.toNatClampNeg)).1 74 x2.toNatClampNeg) x5 hq9) ?_
      change am_AW am_nw ro (d + 1) mr_M_steps 45 [some (.ref 63), some (.int x1), some (.int x2), none, some (.int x4), some (.int x5), none, none] [.int q9.1] (S0, q9.2) (some (.int r)) (S0, m')
      refine am_AW.brP ok_M_steps rfl rfl am_c_eq (fun c10 => ?_) (fun c10 => ?_)
      · rw [if_pos c10] at h
        refine am_AW.run am_base_ok ok_M_steps (Nat.le_add_left 1 d) 1 (pc1 := 62) (ls1 := [some (.ref 63), some (.int x1), some (.int x2), none, some (.int x4), some (.int x5), none, none]) (st1 := [.int (-1000000 : Int32)]) (σ1 := (S0, q9.2)) rfl ?_
        exact am_AW.weak (f_M_steps_b62_ok hd (ih) x1 x2 x4 x5 (-1000000 : Int32)  h) (by simp only [am_le, and_self])
      · rw [if_neg c10] at h
        refine am_AW.run am_base_ok ok_M_steps (Nat.le_add_left 1 d) 3 (pc1 := 54) (ls1 := [some (.ref 63), some (.int x1), some (.int x2), none, some (.int x4), some (.int x5), none, none]) (st1 := [.int x5, .ref 69]) (σ1 := (S0, q9.2)) rfl ?_
        obtain ⟨q22, hq22, h⟩ := Option.bind_eq_some_iff.mp h
        refine am_AW.callS ok_M_steps am_nw_ok (As := [.ref 69, .int x5]) (rest := []) rfl rfl rfl oR_M_flipped lk_M_204 sT_M_flipped rfl (Nat.le_of_ble_eq_true rfl) (f_M_flipped_ok (d := d) (by omega) 69 x5 (by simp) hq22) ?_
        change am_AW am_nw ro (d + 1) mr_M_steps 57 [some (.ref 63), some (.int x1), some (.int x2), none, some (.int x4), some (.int x5), none, none] [.int q22.1] (S0, q22.2) (some (.int r)) (S0, m')
        refine am_AW.run am_base_ok ok_M_steps (Nat.le_add_left 1 d) 1 (pc1 := 62) (ls1 := [some (.ref 63), some (.int x1), some (.int x2), none, some (.int x4), some (.int x5), none, none]) (st1 := [.int q22.1]) (σ1 := (S0, q22.2)) rfl ?_
        exact am_AW.weak (f_M_steps_b62_ok hd (ih) x1 x2 x4 x5 q22.1  h) (by simp only [am_le, and_self])
set_option maxHeartbeats 4000000 in
set_option maxRecDepth 100000 in
theorem f_M_steps_b13_ok {ro : am_Ro} {d : Nat} (hd : 5 ≤ d + 1) (x1 : Int32) (x2 : Int32) (x4 : Int32) (x5 : Int32) {m m' : am_Mm} {r : Int32} {n : Nat} (h : f_M_steps_b13 n x1 x2 x4 x5 m = some (r, m')) : am_AW am_nw ro (d + 1) mr_M_steps 13 [some (.ref 63), some (.int x1), some (.int x2), none, some (.int x4), some (.int x5), none, none] [] (S0, m) (some (.int r)) (S0, m') :=
  f_M_steps_b13_all hd n x1 x2 x4 x5  m m' r h
set_option maxHeartbeats 4000000 in
set_option maxRecDepth 100000 in
theorem f_M_steps_ok {ro : am_Ro} {d : Nat} (hd : 5 ≤ d) (x1 : Int32) (x2 : Int32) (x3 : Int32) {m m' : am_Mm} {r : Int32} (h : f_M_steps x1 x2 x3 m = some (r, m')) : am_Mt am_nw ro d mr_M_steps [.ref 63, .int x1, .int x2, .int x3] (S0, m) (some (.int r)) (S0, m') := by
  obtain ⟨d, rfl⟩ : ∃ d0, d = d0 + 1 := ⟨d - 1, by omega⟩
  refine am_Mt.of (by decide +kernel) (Nat.le_of_ble_eq_true rfl) ?_
  change am_AW am_nw ro (d + 1) mr_M_steps 0 [some (.ref 63), some (.int x1), some (.int x2), some (.int x3), none, none, none, none] [] (S0, m) (some (.int r)) (S0, m')
  unfold f_M_steps at h
  refine am_AW.run am_base_ok ok_M_steps (Nat.le_add_left 1 d) 6 (pc1 := 9) (ls1 := [some (.ref 63), some (.int x1), some (.int x2), some (.int x3), some (.int x3), none, none, none]) (st1 := [.int x1, .int (0 : Int32), .ref 69]) (σ1 := (S0, m)) rfl ?_
  refine am_AW.iast ok_M_steps (Nat.le_add_left 1 d) rfl rfl (by decide) ?_
  change am_AW am_nw ro (d + 1) mr_M_steps 10 [some (.ref 63), some (.int x1), some (.int x2), some (.int x3), some (.int x3), none, none, none] [] (S0, (am_pI m 69 0 x1)) (some (.int r)) (S0, m')
  refine am_AW.run am_base_ok ok_M_steps (Nat.le_add_left 1 d) 2 (pc1 := 13) (ls1 := [some (.ref 63), some (.int x1), some (.int x2), some (.int x3), some (.int x3), some (.int (0 : Int32)), none, none]) (st1 := []) (σ1 := (S0, (am_pI m 69 0 x1))) rfl ?_
  exact am_AW.weak (f_M_steps_b13_ok hd x1 x2 x3 (0 : Int32)  h) (by simp only [am_le, and_self])
/-! FriezePolygonsModel.lost(III)J -/
def f_M_lost_b47 (m : am_Mm) : Option (Int64 × am_Mm) :=
  some ((-1000001 : Int64), m)
def f_M_lost_b272 (x10 : Int64) (s0 : Int64) (m : am_Mm) : Option (Int64 × am_Mm) :=
  if x10 = (0 : Int64) then none else
  some ((s0 / x10), m)
def f_M_lost_b236 : Nat → Int32 → Int64 → Int64 → Int64 → Int64 → am_Mm → Option (Int64 × am_Mm)
  | 0, _, _, _, _, _, _ => none
  | n + 1, x3, x6, x8, x10, x12, m =>
    if (lg_cmp x12 (0 : Int64)) = (0 : Int32) then
      if x3 = (0 : Int32) then
        f_M_lost_b272 x10 x6 m
      else
        f_M_lost_b272 x10 x8 m
    else
      if x12 = (0 : Int64) then none else
      f_M_lost_b236 n x3 x6 x8 x12 (am_remL x10 x12) m
def f_M_lost_b219 (k79 : Int32 → Int32 → Int32 → Int32 → Int32 → Int64 → Int64 → Int32 → am_Mm → Option (Int64 × am_Mm)) (x1 : Int32) (x2 : Int32) (x3 : Int32) (x4 : Int32) (x5 : Int32) (x8 : Int64) (x10 : Int32) (s0 : Int64) (s1 : Int64) (m : am_Mm) : Option (Int64 × am_Mm) :=
  k79 x1 x2 x3 x4 x5 (s0 + s1) x8 (x10 + (1 : Int32)) m
def f_M_lost_b187 (k79 : Int32 → Int32 → Int32 → Int32 → Int32 → Int64 → Int64 → Int32 → am_Mm → Option (Int64 × am_Mm)) (k101 : Int32 → Int32 → Int32 → Int32 → Int32 → Int64 → Int64 → Int32 → Int64 → Int32 → Int32 → am_Mm → Option (Int64 × am_Mm)) (x1 : Int32) (x2 : Int32) (x3 : Int32) (x4 : Int32) (x5 : Int32) (x6 : Int64) (x8 : Int64) (x10 : Int32) (x11 : Int64) (x13 : Int32) (x14 : Int32) (m : am_Mm) : Option (Int64 × am_Mm) :=
  k101 x1 x2 x3 x4 x5 x6 x8 x10 x11 x13 (x14 + (1 : Int32)) m
def f_M_lost_b182 (k79 : Int32 → Int32 → Int32 → Int32 → Int32 → Int64 → Int64 → Int32 → am_Mm → Option (Int64 × am_Mm)) (k101 : Int32 → Int32 → Int32 → Int32 → Int32 → Int64 → Int64 → Int32 → Int64 → Int32 → Int32 → am_Mm → Option (Int64 × am_Mm)) (x1 : Int32) (x2 : Int32) (x3 : Int32) (x4 : Int32) (x5 : Int32) (x6 : Int64) (x8 : Int64) (x10 : Int32) (x11 : Int64) (x13 : Int32) (x14 : Int32) (s1 : Int32) (s2 : Int32) (s3 : Int32) (m : am_Mm) : Option (Int64 × am_Mm) :=
  if am_in s1 20 = true then
    f_M_lost_b187 k79 k101 x1 x2 x3 x4 x5 x6 x8 x10 x11 (x13 + (1 : Int32)) x14 (am_pI m 69 s1.toNatClampNeg (s2 &&& s3))
  else none
def f_M_lost_b147 (k79 : Int32 → Int32 → Int32 → Int32 → Int32 → Int64 → Int64 → Int32 → am_Mm → Option (Int64 × am_Mm)) (k101 : Int32 → Int32 → Int32 → Int32 → Int32 → Int64 → Int64 → Int32 → Int64 → Int32 → Int32 → am_Mm → Option (Int64 × am_Mm)) (x1 : Int32) (x2 : Int32) (x3 : Int32) (x4 : Int32) (x5 : Int32) (x6 : Int64) (x8 : Int64) (x10 : Int32) (x13 : Int32) (x14 : Int32) (s0 : Int64) (s1 : Int64) (m : am_Mm) : Option (Int64 × am_Mm) :=
  (f_M_has x10 x13 m).bind fun q50 =>
  if q50.1 = (0 : Int32) then
    f_M_lost_b182 k79 k101 x1 x2 x3 x4 x5 x6 x8 x10 (s0 * s1) x13 x14 (1 : Int32) (m.1 69 1) ((am_shl (1 : Int32) x14) ^^^ (-1 : Int32)) q50.2
  else
    f_M_lost_b182 k79 k101 x1 x2 x3 x4 x5 x6 x8 x10 (s0 * s1) x13 x14 (1 : Int32) (m.1 69 1) (q50.2.1 69 1) q50.2
def f_M_lost_b101 (k79 : Int32 → Int32 → Int32 → Int32 → Int32 → Int64 → Int64 → Int32 → am_Mm → Option (Int64 × am_Mm)) : Nat → Int32 → Int32 → Int32 → Int32 → Int32 → Int64 → Int64 → Int32 → Int64 → Int32 → Int32 → am_Mm → Option (Int64 × am_Mm)
  | 0, _, _, _, _, _, _, _, _, _, _, _, _ => none
  | n + 1, x1, x2, x3, x4, x5, x6, x8, x10, x11, x13, x14, m =>
    (f_M_manyCuts x4 m).bind fun q32 =>
    if q32.1 ≤ x14 then
      (f_M_greatest q32.2).bind fun q36 =>
      if x1 < q36.1 then
        f_M_lost_b219 k79 x1 x2 x3 x4 x5 (x8 + x11) x10 x6 (0 : Int64) q36.2
      else
        f_M_lost_b219 k79 x1 x2 x3 x4 x5 (x8 + x11) x10 x6 x11 q36.2
    else
      (f_M_has (q32.2.1 67 1) x14 q32.2).bind fun q41 =>
      if q41.1 = (0 : Int32) then
        f_M_lost_b187 k79 (f_M_lost_b101 k79 n) x1 x2 x3 x4 x5 x6 x8 x10 x11 x13 x14 q41.2
      else
        (f_M_has x10 x13 q41.2).bind fun q45 =>
        if q45.1 = (0 : Int32) then
          f_M_lost_b147 k79 (f_M_lost_b101 k79 n) x1 x2 x3 x4 x5 x6 x8 x10 x13 x14 x11 (x2.toInt64) q45.2
        else
          f_M_lost_b147 k79 (f_M_lost_b101 k79 n) x1 x2 x3 x4 x5 x6 x8 x10 x13 x14 x11 (((10 : Int32) - x2).toInt64) q45.2
def f_M_lost_b79 : Nat → Int32 → Int32 → Int32 → Int32 → Int32 → Int64 → Int64 → Int32 → am_Mm → Option (Int64 × am_Mm)
  | 0, _, _, _, _, _, _, _, _, _ => none
  | n + 1, x1, x2, x3, x4, x5, x6, x8, x10, m =>
    if (am_shl (1 : Int32) x5) ≤ x10 then
      f_M_lost_b236 am_F x3 x6 x8 x6 x8 m
    else
      (f_M_layThen m).bind fun q29 =>
      f_M_lost_b101 (f_M_lost_b79 n) am_F x1 x2 x3 x4 x5 x6 x8 x10 (1 : Int64) (0 : Int32) (0 : Int32) q29
def f_M_lost (x1 : Int32) (x2 : Int32) (x3 : Int32) (m : am_Mm) : Option (Int64 × am_Mm) :=
  (f_M_isThere m).bind fun q3 =>
  if q3.1 = (0 : Int32) then
    some ((-1000002 : Int64), q3.2)
  else
    (f_M_in (x1.toInt64) (3 : Int64) (9 : Int64) q3.2).bind fun q7 =>
    if q7.1 = (0 : Int32) then
      f_M_lost_b47 q7.2
    else
      (f_M_in (x2.toInt64) (0 : Int64) (10 : Int64) q7.2).bind fun q11 =>
      if q11.1 = (0 : Int32) then
        f_M_lost_b47 q11.2
      else
        (f_M_in (x3.toInt64) (0 : Int64) (1 : Int64) q11.2).bind fun q15 =>
        if q15.1 = (0 : Int32) then
          f_M_lost_b47 q15.2
        else
          (f_M_sizeOf (q15.2.1 67 1) q15.2).bind fun q21 =>
          f_M_lost_b79 am_F x1 x2 x3 (q15.2.1 67 0) q21.1 (0 : Int64) (0 : Int64) (0 : Int32) q21.2
set_option maxHeartbeats 4000000 in
set_option maxRecDepth 100000 in
theorem f_M_lost_b47_ok {ro : am_Ro} {d : Nat} (hd : 5 ≤ d + 1) {m m' : am_Mm} {r : Int64} (h : f_M_lost_b47  m = some (r, m')) : am_AW am_nw ro (d + 1) mr_M_lost 47 [none, none, none, none, none, none, none, none, none, none, none, none, none, none, none, none] [] (S0, m) (some (.long r)) (S0, m') := by
  unfold f_M_lost_b47 at h
  refine am_AW.run am_base_ok ok_M_lost (Nat.le_add_left 1 d) 1 (pc1 := 50) (ls1 := [none, none, none, none, none, none, none, none, none, none, none, none, none, none, none, none]) (st1 := [.long (-1000001 : Int64)]) (σ1 := (S0, m)) rfl ?_
  obtain ⟨rfl, rfl⟩ := Prod.mk.inj (Option.some.inj h)
  exact am_AW.ret ok_M_lost rfl rfl rfl rfl
set_option maxHeartbeats 4000000 in
set_option maxRecDepth 100000 in
theorem f_M_lost_b272_ok {ro : am_Ro} {d : Nat} (hd : 5 ≤ d + 1) (x10 : Int64) (s0 : Int64) {m m' : am_Mm} {r : Int64} (h : f_M_lost_b272 x10 s0 m = some (r, m')) : am_AW am_nw ro (d + 1) mr_M_lost 272 [none, none, none, none, none, none, none, none, none, none, some (.long x10), none, none, none, none, none] [.long s0] (S0, m) (some (.long r)) (S0, m') := by
  unfold f_M_lost_b272 at h
  refine am_AW.run am_base_ok ok_M_lost (Nat.le_add_left 1 d) 1 (pc1 := 274) (ls1 := [none, none, none, none, none, none, none, none, none, none, some (.long x10), none, none, none, none, none]) (st1 := [.long x10, .long s0]) (σ1 := (S0, m)) rfl ?_
  by_cases g25 : x10 = (0 : Int64)
  · rw [if_pos g25] at h
    cases h
  rw [if_neg g25] at h
  refine am_AW.dvl ok_M_lost (Nat.le_add_left 1 d) (w := (s0 / x10)) (Or.inl ⟨rfl, rfl⟩) rfl g25 ?_
  obtain ⟨rfl, rfl⟩ := Prod.mk.inj (Option.some.inj h)
  exact am_AW.ret ok_M_lost rfl rfl rfl rfl
set_option maxHeartbeats 4000000 in
set_option maxRecDepth 100000 in
theorem f_M_lost_b236_all {ro : am_Ro} {d : Nat} (hd : 5 ≤ d + 1) : ∀ (n : Nat) (x3 : Int32) (x6 : Int64) (x8 : Int64) (x10 : Int64) (x12 : Int64) (m m' : am_Mm) (r : Int64), f_M_lost_b236 n x3 x6 x8 x10 x12 m = some (r, m') → am_AW am_nw ro (d + 1) mr_M_lost 236 [none, none, none, some (.int x3), none, none, some (.long x6), none, some (.long x8), none, some (.long x10), none, some (.long x12), none, none, none] [] (S0, m) (some (.long r)) (S0, m') := by
  intro n
  induction n with
  | zero =>
    intro x3 x6 x8 x10 x12 m m' r h
    rw [f_M_lost_b236] at h
    cases h
  | succ n ih =>
    intro x3 x6 x8 x10 x12 m m' r h
    rw [f_M_lost_b236] at h
    refine am_AW.run am_base_ok ok_M_lost (Nat.le_add_left 1 d) 3 (pc1 := 240) (ls1 := [none, none, none, some (.int x3), none, none, some (.long x6), none, some (.long x8), none, some (.long x10), none, some (.long x12), none, none, none]) (st1 := [.int (lg_cmp x12 (0 : Int64))]) (σ1 := (S0, m)) rfl ?_
    refine am_AW.brP ok_M_lost rfl rfl am_c_eq (fun c23 => ?_) (fun c23 => ?_)
    · rw [if_pos c23] at h
      refine am_AW.run am_base_ok ok_M_lost (Nat.le_add_left 1 d) 1 (pc1 := 262) (ls1 := [none, none, none, some (.int x3), none, none, some (.long x6), none, some (.long x8), none, some (.long x10), none, some (.long x12), none, none, none]) (st1 := [.int x3]) (σ1 := (S0, m)) rfl ?_
      refine am_AW.brN ok_M_lost rfl rfl am_c_ne (fun c24 => ?_) (fun c24 => ?_)
      · rw [if_pos c24] at h
        refine am_AW.run am_base_ok ok_M_lost (Nat.le_add_left 1 d) 2 (pc1 := 272) (ls1 := [none, none, none, some (.int x3), none, none, some (.long x6), none, some (.long x8), none, some (.long x10), none, some (.long x12), none, none, none]) (st1 := [.long x6]) (σ1 := (S0, m)) rfl ?_
        exact am_AW.weak (f_M_lost_b272_ok hd x10 x6  h) (by simp only [am_le, and_self])
      · rw [if_neg c24] at h
        refine am_AW.run am_base_ok ok_M_lost (Nat.le_add_left 1 d) 1 (pc1 := 272) (ls1 := [none, none, none, some (.int x3), none, none, some (.long x6), none, some (.long x8), none, some (.long x10), none, some (.long x12), none, none, none]) (st1 := [.long x8]) (σ1 := (S0, m)) rfl ?_
        exact am_AW.weak (f_M_lost_b272_ok hd x10 x8  h) (by simp only [am_le, and_self])
    · rw [if_neg c23] at h
      refine am_AW.run am_base_ok ok_M_lost (Nat.le_add_left 1 d) 2 (pc1 := 247) (ls1 := [none, none, none, some (.int x3), none, none, some (.long x6), none, some (.long x8), none, some (.long x10), none, some (.long x12), none, none, none]) (st1 := [.long x12, .long x10]) (σ1 := (S0, m)) rfl ?_
      by_cases g26 : x12 = (0 : Int64)
      · rw [if_pos g26] at h
        cases h
      rw [if_neg g26] at h
      refine am_AW.dvl ok_M_lost (Nat.le_add_left 1 d) (w := (am_remL x10 x12)) (Or.inr ⟨rfl, rfl⟩) rfl g26 ?_
      refine am_AW.run am_base_ok ok_M_lost (Nat.le_add_left 1 d) 6 (pc1 := 236) (ls1 := [none, none, none, some (.int x3), none, none, some (.long x6), none, some (.long x8), none, some (.long x12), none, some (.long (am_remL x10 x12)), none, some (.long (am_remL x10 x12)), none]) (st1 := []) (σ1 := (S0, m)) rfl ?_
      exact am_AW.weak (ih x3 x6 x8 x12 (am_remL x10 x12)  _ _ _ h) (by simp only [am_le, and_self])
set_option maxHeartbeats 4000000 in
set_option maxRecDepth 100000 in
theorem f_M_lost_b236_ok {ro : am_Ro} {d : Nat} (hd : 5 ≤ d + 1) (x3 : Int32) (x6 : Int64) (x8 : Int64) (x10 : Int64) (x12 : Int64) {m m' : am_Mm} {r : Int64} {n : Nat} (h : f_M_lost_b236 n x3 x6 x8 x10 x12 m = some (r, m')) : am_AW am_nw ro (d + 1) mr_M_lost 236 [none, none, none, some (.int x3), none, none, some (.long x6), none, some (.long x8), none, some (.long x10), none, some (.long x12), none, none, none] [] (S0, m) (some (.long r)) (S0, m') :=
  f_M_lost_b236_all hd n x3 x6 x8 x10 x12  m m' r h
set_option maxHeartbeats 4000000 in
set_option maxRecDepth 100000 in
theorem f_M_lost_b219_ok {ro : am_Ro} {d : Nat} (hd : 5 ≤ d + 1) {k79 : Int32 → Int32 → Int32 → Int32 → Int32 → Int64 → Int64 → Int32 → am_Mm → Option (Int64 × am_Mm)} (hk79 : ∀ (x1 : Int32) (x2 : Int32) (x3 : Int32) (x4 : Int32) (x5 : Int32) (x6 : Int64) (x8 : Int64) (x10 : Int32) (m m' : am_Mm) (r : Int64), k79 x1 x2 x3 x4 x5 x6 x8 x10 m = some (r, m') → am_AW am_nw ro (d + 1) mr_M_lost 79 [some (.ref 63), some (.int x1), some (.int x2), some (.int x3), some (.int x4), some (.int x5), some (.long x6), none, some (.long x8), none, some (.int x10), none, none, none, none, none] [] (S0, m) (some (.long r)) (S0, m')) (x1 : Int32) (x2 : Int32) (x3 : Int32) (x4 : Int32) (x5 : Int32) (x8 : Int64) (x10 : Int32) (s0 : Int64) (s1 : Int64) {m m' : am_Mm} {r : Int64} (h : f_M_lost_b219 k79 x1 x2 x3 x4 x5 x8 x10 s0 s1 m = some (r, m')) : am_AW am_nw ro (d + 1) mr_M_lost 219 [some (.ref 63), some (.int x1), some (.int x2), some (.int x3), some (.int x4), some (.int x5), none, none, some (.long x8), none, some (.int x10), none, none, none, none, none] [.long s1, .long s0] (S0, m) (some (.long r)) (S0, m') := by
  unfold f_M_lost_b219 at h
  refine am_AW.run am_base_ok ok_M_lost (Nat.le_add_left 1 d) 4 (pc1 := 79) (ls1 := [some (.ref 63), some (.int x1), some (.int x2), some (.int x3), some (.int x4), some (.int x5), some (.long (s0 + s1)), none, some (.long x8), none, some (.int (x10 + (1 : Int32))), none, none, none, none, none]) (st1 := []) (σ1 := (S0, m)) rfl ?_
  exact am_AW.weak (hk79 x1 x2 x3 x4 x5 (s0 + s1) x8 (x10 + (1 : Int32))  _ _ _ h) (by simp only [am_le, and_self])
set_option maxHeartbeats 4000000 in
set_option maxRecDepth 100000 in
theorem f_M_lost_b187_ok {ro : am_Ro} {d : Nat} (hd : 5 ≤ d + 1) {k79 : Int32 → Int32 → Int32 → Int32 → Int32 → Int64 → Int64 → Int32 → am_Mm → Option (Int64 × am_Mm)} (hk79 : ∀ (x1 : Int32) (x2 : Int32) (x3 : Int32) (x4 : Int32) (x5 : Int32) (x6 : Int64) (x8 : Int64) (x10 : Int32) (m m' : am_Mm) (r : Int64), k79 x1 x2 x3 x4 x5 x6 x8 x10 m = some (r, m') → am_AW am_nw ro (d + 1) mr_M_lost 79 [some (.ref 63), some (.int x1), some (.int x2), some (.int x3), some (.int x4), some (.int x5), some (.long x6), none, some (.long x8), none, some (.int x10), none, none, none, none, none] [] (S0, m) (some (.long r)) (S0, m')) {k101 : Int32 → Int32 → Int32 → Int32 → Int32 → Int64 → Int64 → Int32 → Int64 → Int32 → Int32 → am_Mm → Option (Int64 × am_Mm)} (hk101 : ∀ (x1 : Int32) (x2 : Int32) (x3 : Int32) (x4 : Int32) (x5 : Int32) (x6 : Int64) (x8 : Int64) (x10 : Int32) (x11 : Int64) (x13 : Int32) (x14 : Int32) (m m' : am_Mm) (r : Int64), k101 x1 x2 x3 x4 x5 x6 x8 x10 x11 x13 x14 m = some (r, m') → am_AW am_nw ro (d + 1) mr_M_lost 101 [some (.ref 63), some (.int x1), some (.int x2), some (.int x3), some (.int x4), some (.int x5), some (.long x6), none, some (.long x8), none, some (.int x10), some (.long x11), none, some (.int x13), some (.int x14), none] [] (S0, m) (some (.long r)) (S0, m')) (x1 : Int32) (x2 : Int32) (x3 : Int32) (x4 : Int32) (x5 : Int32) (x6 : Int64) (x8 : Int64) (x10 : Int32) (x11 : Int64) (x13 : Int32) (x14 : Int32) {m m' : am_Mm} {r : Int64} (h : f_M_lost_b187 k79 k101 x1 x2 x3 x4 x5 x6 x8 x10 x11 x13 x14 m = some (r, m')) : am_AW am_nw ro (d + 1) mr_M_lost 187 [some (.ref 63), some (.int x1), some (.int x2), some (.int x3), some (.int x4), some (.int x5), some (.long x6), none, some (.long x8), none, some (.int x10), some (.long x11), none, some (.int x13), some (.int x14), none] [] (S0, m) (some (.long r)) (S0, m') := by
  unfold f_M_lost_b187 at h
  refine am_AW.run am_base_ok ok_M_lost (Nat.le_add_left 1 d) 2 (pc1 := 101) (ls1 := [some (.ref 63), some (.int x1), some (.int x2), some (.int x3), some (.int x4), some (.int x5), some (.long x6), none, some (.long x8), none, some (.int x10), some (.long x11), none, some (.int x13), some (.int (x14 + (1 : Int32))), none]) (st1 := []) (σ1 := (S0, m)) rfl ?_
  exact am_AW.weak (hk101 x1 x2 x3 x4 x5 x6 x8 x10 x11 x13 (x14 + (1 : Int32))  _ _ _ h) (by simp only [am_le, and_self])
set_option maxHeartbeats 4000000 in
set_option maxRecDepth 100000 in
theorem f_M_lost_b182_ok {ro : am_Ro} {d : Nat} (hd : 5 ≤ d + 1) {k79 : Int32 → Int32 → Int32 → Int32 → Int32 → Int64 → Int64 → Int32 → am_Mm → Option (Int64 × am_Mm)} (hk79 : ∀ (x1 : Int32) (x2 : Int32) (x3 : Int32) (x4 : Int32) (x5 : Int32) (x6 : Int64) (x8 : Int64) (x10 : Int32) (m m' : am_Mm) (r : Int64), k79 x1 x2 x3 x4 x5 x6 x8 x10 m = some (r, m') → am_AW am_nw ro (d + 1) mr_M_lost 79 [some (.ref 63), some (.int x1), some (.int x2), some (.int x3), some (.int x4), some (.int x5), some (.long x6), none, some (.long x8), none, some (.int x10), none, none, none, none, none] [] (S0, m) (some (.long r)) (S0, m')) {k101 : Int32 → Int32 → Int32 → Int32 → Int32 → Int64 → Int64 → Int32 → Int64 → Int32 → Int32 → am_Mm → Option (Int64 × am_Mm)} (hk101 : ∀ (x1 : Int32) (x2 : Int32) (x3 : Int32) (x4 : Int32) (x5 : Int32) (x6 : Int64) (x8 : Int64) (x10 : Int32) (x11 : Int64) (x13 : Int32) (x14 : Int32) (m m' : am_Mm) (r : Int64), k101 x1 x2 x3 x4 x5 x6 x8 x10 x11 x13 x14 m = some (r, m') → am_AW am_nw ro (d + 1) mr_M_lost 101 [some (.ref 63), some (.int x1), some (.int x2), some (.int x3), some (.int x4), some (.int x5), some (.long x6), none, some (.long x8), none, some (.int x10), some (.long x11), none, some (.int x13), some (.int x14), none] [] (S0, m) (some (.long r)) (S0, m')) (x1 : Int32) (x2 : Int32) (x3 : Int32) (x4 : Int32) (x5 : Int32) (x6 : Int64) (x8 : Int64) (x10 : Int32) (x11 : Int64) (x13 : Int32) (x14 : Int32) (s1 : Int32) (s2 : Int32) (s3 : Int32) {m m' : am_Mm} {r : Int64} (h : f_M_lost_b182 k79 k101 x1 x2 x3 x4 x5 x6 x8 x10 x11 x13 x14 s1 s2 s3 m = some (r, m')) : am_AW am_nw ro (d + 1) mr_M_lost 182 [some (.ref 63), some (.int x1), some (.int x2), some (.int x3), some (.int x4), some (.int x5), some (.long x6), none, some (.long x8), none, some (.int x10), some (.long x11), none, some (.int x13), some (.int x14), none] [.int s3, .int s2, .int s1, .ref 69] (S0, m) (some (.long r)) (S0, m') := by
  unfold f_M_lost_b182 at h
  refine am_AW.run am_base_ok ok_M_lost (Nat.le_add_left 1 d) 1 (pc1 := 183) (ls1 := [some (.ref 63), some (.int x1), some (.int x2), some (.int x3), some (.int x4), some (.int x5), some (.long x6), none, some (.long x8), none, some (.int x10), some (.long x11), none, some (.int x13), some (.int x14), none]) (st1 := [.int (s2 &&& s3), .int s1, .ref 69]) (σ1 := (S0, m)) rfl ?_
  by_cases g52 : am_in s1 20 = true
  rotate_left
  · rw [if_neg g52] at h
    cases h
  rw [if_pos g52] at h
  refine am_AW.iast ok_M_lost (Nat.le_add_left 1 d) rfl rfl g52 ?_
  change am_AW am_nw ro (d + 1) mr_M_lost 184 [some (.ref 63), some (.int x1), some (.int x2), some (.int x3), some (.int x4), some (.int x5), some (.long x6), none, some (.long x8), none, some (.int x10), some (.long x11), none, some (.int x13), some (.int x14), none] [] (S0, (am_pI m 69 s1.toNatClampNeg (s2 &&& s3))) (some (.long r)) (S0, m')
  refine am_AW.run am_base_ok ok_M_lost (Nat.le_add_left 1 d) 1 (pc1 := 187) (ls1 := [some (.ref 63), some (.int x1), some (.int x2), some (.int x3), some (.int x4), some (.int x5), some (.long x6), none, some (.long x8), none, some (.int x10), some (.long x11), none, some (.int (x13 + (1 : Int32))), some (.int x14), none]) (st1 := []) (σ1 := (S0, (am_pI m 69 s1.toNatClampNeg (s2 &&& s3)))) rfl ?_
  exact am_AW.weak (f_M_lost_b187_ok hd (hk79) (hk101) x1 x2 x3 x4 x5 x6 x8 x10 x11 (x13 + (1 : Int32)) x14  h) (by simp only [am_le, and_self])
set_option maxHeartbeats 4000000 in
set_option maxRecDepth 100000 in
theorem f_M_lost_b147_ok {ro : am_Ro} {d : Nat} (hd : 5 ≤ d + 1) {k79 : Int32 → Int32 → Int32 → Int32 → Int32 → Int64 → Int64 → Int32 → am_Mm → Option (Int64 × am_Mm)} (hk79 : ∀ (x1 : Int32) (x2 : Int32) (x3 : Int32) (x4 : Int32) (x5 : Int32) (x6 : Int64) (x8 : Int64) (x10 : Int32) (m m' : am_Mm) (r : Int64), k79 x1 x2 x3 x4 x5 x6 x8 x10 m = some (r, m') → am_AW am_nw ro (d + 1) mr_M_lost 79 [some (.ref 63), some (.int x1), some (.int x2), some (.int x3), some (.int x4), some (.int x5), some (.long x6), none, some (.long x8), none, some (.int x10), none, none, none, none, none] [] (S0, m) (some (.long r)) (S0, m')) {k101 : Int32 → Int32 → Int32 → Int32 → Int32 → Int64 → Int64 → Int32 → Int64 → Int32 → Int32 → am_Mm → Option (Int64 × am_Mm)} (hk101 : ∀ (x1 : Int32) (x2 : Int32) (x3 : Int32) (x4 : Int32) (x5 : Int32) (x6 : Int64) (x8 : Int64) (x10 : Int32) (x11 : Int64) (x13 : Int32) (x14 : Int32) (m m' : am_Mm) (r : Int64), k101 x1 x2 x3 x4 x5 x6 x8 x10 x11 x13 x14 m = some (r, m') → am_AW am_nw ro (d + 1) mr_M_lost 101 [some (.ref 63), some (.int x1), some (.int x2), some (.int x3), some (.int x4), some (.int x5), some (.long x6), none, some (.long x8), none, some (.int x10), some (.long x11), none, some (.int x13), some (.int x14), none] [] (S0, m) (some (.long r)) (S0, m')) (x1 : Int32) (x2 : Int32) (x3 : Int32) (x4 : Int32) (x5 : Int32) (x6 : Int64) (x8 : Int64) (x10 : Int32) (x13 : Int32) (x14 : Int32) (s0 : Int64) (s1 : Int64) {m m' : am_Mm} {r : Int64} (h : f_M_lost_b147 k79 k101 x1 x2 x3 x4 x5 x6 x8 x10 x13 x14 s0 s1 m = some (r, m')) : am_AW am_nw ro (d + 1) mr_M_lost 147 [some (.ref 63), some (.int x1), some (.int x2), some (.int x3), some (.int x4), some (.int x5), some (.long x6), none, some (.long x8), none, some (.int x10), none, none, some (.int x13), some (.int x14), none] [.long s1, .long s0] (S0, m) (some (.long r)) (S0, m') := by
  unfold f_M_lost_b147 at h
  refine am_AW.run am_base_ok ok_M_lost (Nat.le_add_left 1 d) 6 (pc1 := 156) (ls1 := [some (.ref 63), some (.int x1), some (.int x2), some (.int x3), some (.int x4), some (.int x5), some (.long x6), none, some (.long x8), none, some (.int x10), some (.long (s0 * s1)), none, some (.int x13), some (.int x14), none]) (st1 := [.int (1 : Int32), .ref 69, .int (1 : Int32), .ref 69]) (σ1 := (S0, m)) rfl ?_
  refine am_AW.iald ok_M_lost (Nat.le_add_left 1 d) S0_len rfl rfl (by decide) ?_
  change am_AW am_nw ro (d + 1) mr_M_lost 157 [some (.ref 63), some (.int x1), some (.int x2), some (.int x3), some (.int x4), some (.int x5), some (.long x6), none, some (.long x8), none, some (.int x10), some (.long (s0 * s1)), none, some (.int x13), some (.int x14), none] [.int (m.1 69 1), .int (1 : Int32), .ref 69] (S0, m) (some (.long r)) (S0, m')
  refine am_AW.run am_base_ok ok_M_lost (Nat.le_add_left 1 d) 2 (pc1 := 161) (ls1 := [some (.ref 63), some (.int x1), some (.int x2), some (.int x3), some (.int x4), some (.int x5), some (.long x6), none, some (.long x8), none, some (.int x10), some (.long (s0 * s1)), none, some (.int x13), some (.int x14), none]) (st1 := [.int x13, .int x10, .int (m.1 69 1), .int (1 : Int32), .ref 69]) (σ1 := (S0, m)) rfl ?_
  obtain ⟨q50, hq50, h⟩ := Option.bind_eq_some_iff.mp h
  refine am_AW.callS ok_M_lost am_nw_ok (As := [.int x10, .int x13]) (rest := [.int (m.1 69 1), .int (1 : Int32), .ref 69]) rfl rfl rfl oR_M_has lk_M_75 sT_M_has rfl (Nat.le_of_ble_eq_true rfl) (f_M_has_ok (d := d) (by omega) x10 x13 hq50) ?_
  change am_AW am_nw ro (d + 1) mr_M_lost 164 [some (.ref 63), some (.int x1), some (.int x2), some (.int x3), some (.int x4), some (.int x5), some (.long x6), none, some (.long x8), none, some (.int x10), some (.long (s0 * s1)), none, some (.int x13), some (.int x14), none] [.int q50.1, .int (m.1 69 1), .int (1 : Int32), .ref 69] (S0, q50.2) (some (.long r)) (S0, m')
  refine am_AW.brP ok_M_lost rfl rfl am_c_eq (fun c51 => ?_) (fun c51 => ?_)
  · rw [if_pos c51] at h
    refine am_AW.run am_base_ok ok_M_lost (Nat.le_add_left 1 d) 5 (pc1 := 182) (ls1 := [some (.ref 63), some (.int x1), some (.int x2), some (.int x3), some (.int x4), some (.int x5), some (.long x6), none, some (.long x8), none, some (.int x10), some (.long (s0 * s1)), none, some (.int x13), some (.int x14), none]) (st1 := [.int ((am_shl (1 : Int32) x14) ^^^ (-1 : Int32)), .int (m.1 69 1), .int (1 : Int32), .ref 69]) (σ1 := (S0, q50.2)) rfl ?_
    exact am_AW.weak (f_M_lost_b182_ok hd (hk79) (hk101) x1 x2 x3 x4 x5 x6 x8 x10 (s0 * s1) x13 x14 (1 : Int32) (m.1 69 1) ((am_shl (1 : Int32) x14) ^^^ (-1 : Int32))  h) (by simp only [am_le, and_self])
  · rw [if_neg c51] at h
    refine am_AW.run am_base_ok ok_M_lost (Nat.le_add_left 1 d) 3 (pc1 := 172) (ls1 := [some (.ref 63), some (.int x1), some (.int x2), some (.int x3), some (.int x4), some (.int x5), some (.long x6), none, some (.long x8), none, some (.int x10), some (.long (s0 * s1)), none, some (.int x13), some (.int x14), none]) (st1 := [.int (1 : Int32), .ref 69, .int (m.1 69 1), .int (1 : Int32), .ref 69]) (σ1 := (S0, q50.2)) rfl ?_
    refine am_AW.iald ok_M_lost (Nat.le_add_left 1 d) S0_len rfl rfl (by decide) ?_
    change am_AW am_nw ro (d + 1) mr_M_lost 173 [some (.ref 63), some (.int x1), some (.int x2), some (.int x3), some (.int x4), some (.int x5), some (.long x6), none, some (.long x8), none, some (.int x10), some (.long (s0 * s1)), none, some (.int x13), some (.int x14), none] [.int (q50.2.1 69 1), .int (m.1 69 1), .int (1 : Int32), .ref 69] (S0, q50.2) (some (.long r)) (S0, m')
    refine am_AW.run am_base_ok ok_M_lost (Nat.le_add_left 1 d) 1 (pc1 := 182) (ls1 := [some (.ref 63), some (.int x1), some (.int x2), some (.int x3), some (.int x4), some (.int x5), some (.long x6), none, some (.long x8), none, some (.int x10), some (.long (s0 * s1)), none, some (.int x13), some (.int x14), none]) (st1 := [.int (q50.2.1 69 1), .int (m.1 69 1), .int (1 : Int32), .ref 69]) (σ1 := (S0, q50.2)) rfl ?_
    exact am_AW.weak (f_M_lost_b182_ok hd (hk79) (hk101) x1 x2 x3 x4 x5 x6 x8 x10 (s0 * s1) x13 x14 (1 : Int32) (m.1 69 1) (q50.2.1 69 1)  h) (by simp only [am_le, and_self])
set_option maxHeartbeats 4000000 in
set_option maxRecDepth 100000 in
theorem f_M_lost_b101_all {ro : am_Ro} {d : Nat} (hd : 5 ≤ d + 1) {k79 : Int32 → Int32 → Int32 → Int32 → Int32 → Int64 → Int64 → Int32 → am_Mm → Option (Int64 × am_Mm)} (hk79 : ∀ (x1 : Int32) (x2 : Int32) (x3 : Int32) (x4 : Int32) (x5 : Int32) (x6 : Int64) (x8 : Int64) (x10 : Int32) (m m' : am_Mm) (r : Int64), k79 x1 x2 x3 x4 x5 x6 x8 x10 m = some (r, m') → am_AW am_nw ro (d + 1) mr_M_lost 79 [some (.ref 63), some (.int x1), some (.int x2), some (.int x3), some (.int x4), some (.int x5), some (.long x6), none, some (.long x8), none, some (.int x10), none, none, none, none, none] [] (S0, m) (some (.long r)) (S0, m')) : ∀ (n : Nat) (x1 : Int32) (x2 : Int32) (x3 : Int32) (x4 : Int32) (x5 : Int32) (x6 : Int64) (x8 : Int64) (x10 : Int32) (x11 : Int64) (x13 : Int32) (x14 : Int32) (m m' : am_Mm) (r : Int64), f_M_lost_b101 k79 n x1 x2 x3 x4 x5 x6 x8 x10 x11 x13 x14 m = some (r, m') → am_AW am_nw ro (d + 1) mr_M_lost 101 [some (.ref 63), some (.int x1), some (.int x2), some (.int x3), some (.int x4), some (.int x5), some (.long x6), none, some (.long x8), none, some (.int x10), some (.long x11), none, some (.int x13), some (.int x14), none] [] (S0, m) (some (.long r)) (S0, m') := by
  intro n
  induction n with
  | zero =>
    intro x1 x2 x3 x4 x5 x6 x8 x10 x11 x13 x14 m m' r h
    rw [f_M_lost_b101] at h
    cases h
  | succ n ih =>
    intro x1 x2 x3 x4 x5 x6 x8 x10 x11 x13 x14 m m' r h
    rw [f_M_lost_b101] at h
    refine am_AW.run am_base_ok ok_M_lost (Nat.le_add_left 1 d) 2 (pc1 := 105) (ls1 := [some (.ref 63), some (.int x1), some (.int x2), some (.int x3), some (.int x4), some (.int x5), some (.long x6), none, some (.long x8), none, some (.int x10), some (.long x11), none, some (.int x13), some (.int x14), none]) (st1 := [.int x4, .int x14]) (σ1 := (S0, m)) rfl ?_
    obtain ⟨q32, hq32, h⟩ := Option.bind_eq_some_iff.mp h
    refine am_AW.callS ok_M_lost am_nw_ok (As := [.int x4]) (rest := [.int x14]) rfl rfl rfl oR_M_manyCuts lk_M_87 sT_M_manyCuts rfl (Nat.le_of_ble_eq_true rfl) (f_M_manyCuts_ok (d := d) (by omega) x4 hq32) ?_
    change am_AW am_nw ro (d + 1) mr_M_lost 108 [some (.ref 63), some (.int x1), some (.int x2), some (.int x3), some (.int x4), some (.int x5), some (.long x6), none, some (.long x8), none, some (.int x10), some (.long x11), none, some (.int x13), some (.int x14), none] [.int q32.1, .int x14] (S0, q32.2) (some (.long r)) (S0, m')
    refine am_AW.brP ok_M_lost rfl rfl am_c_ge (fun c33 => ?_) (fun c33 => ?_)
    · rw [if_pos c33] at h
      refine am_AW.run am_base_ok ok_M_lost (Nat.le_add_left 1 d) 7 (pc1 := 206) (ls1 := [some (.ref 63), some (.int x1), some (.int x2), some (.int x3), some (.int x4), some (.int x5), some (.long x6), none, some (.long (x8 + x11)), none, some (.int x10), some (.long x11), none, some (.int x13), some (.int x14), none]) (st1 := [.ref 69, .long x6]) (σ1 := (S0, q32.2)) rfl ?_
      obtain ⟨q36, hq36, h⟩ := Option.bind_eq_some_iff.mp h
      refine am_AW.callS ok_M_lost am_nw_ok (As := [.ref 69]) (rest := [.long x6]) rfl rfl rfl oR_M_greatest lk_M_306 sT_M_greatest rfl (Nat.le_of_ble_eq_true rfl) (f_M_greatest_ok (d := d) (by omega)  hq36) ?_
      change am_AW am_nw ro (d + 1) mr_M_lost 209 [some (.ref 63), some (.int x1), some (.int x2), some (.int x3), some (.int x4), some (.int x5), some (.long x6), none, some (.long (x8 + x11)), none, some (.int x10), some (.long x11), none, some (.int x13), some (.int x14), none] [.int q36.1, .long x6] (S0, q36.2) (some (.long r)) (S0, m')
      refine am_AW.run am_base_ok ok_M_lost (Nat.le_add_left 1 d) 1 (pc1 := 210) (ls1 := [some (.ref 63), some (.int x1), some (.int x2), some (.int x3), some (.int x4), some (.int x5), some (.long x6), none, some (.long (x8 + x11)), none, some (.int x10), some (.long x11), none, some (.int x13), some (.int x14), none]) (st1 := [.int x1, .int q36.1, .long x6]) (σ1 := (S0, q36.2)) rfl ?_
      refine am_AW.brP ok_M_lost rfl rfl am_c_gt (fun c37 => ?_) (fun c37 => ?_)
      · rw [if_pos c37] at h
        refine am_AW.run am_base_ok ok_M_lost (Nat.le_add_left 1 d) 1 (pc1 := 219) (ls1 := [some (.ref 63), some (.int x1), some (.int x2), some (.int x3), some (.int x4), some (.int x5), some (.long x6), none, some (.long (x8 + x11)), none, some (.int x10), some (.long x11), none, some (.int x13), some (.int x14), none]) (st1 := [.long (0 : Int64), .long x6]) (σ1 := (S0, q36.2)) rfl ?_
        exact am_AW.weak (f_M_lost_b219_ok hd (hk79) x1 x2 x3 x4 x5 (x8 + x11) x10 x6 (0 : Int64)  h) (by simp only [am_le, and_self])
      · rw [if_neg c37] at h
        refine am_AW.run am_base_ok ok_M_lost (Nat.le_add_left 1 d) 2 (pc1 := 219) (ls1 := [some (.ref 63), some (.int x1), some (.int x2), some (.int x3), some (.int x4), some (.int x5), some (.long x6), none, some (.long (x8 + x11)), none, some (.int x10), some (.long x11), none, some (.int x13), some (.int x14), none]) (st1 := [.long x11, .long x6]) (σ1 := (S0, q36.2)) rfl ?_
        exact am_AW.weak (f_M_lost_b219_ok hd (hk79) x1 x2 x3 x4 x5 (x8 + x11) x10 x6 x11  h) (by simp only [am_le, and_self])
    · rw [if_neg c33] at h
      refine am_AW.run am_base_ok ok_M_lost (Nat.le_add_left 1 d) 3 (pc1 := 116) (ls1 := [some (.ref 63), some (.int x1), some (.int x2), some (.int x3), some (.int x4), some (.int x5), some (.long x6), none, some (.long x8), none, some (.int x10), some (.long x11), none, some (.int x13), some (.int x14), none]) (st1 := [.int (1 : Int32), .ref 67]) (σ1 := (S0, q32.2)) rfl ?_
      refine am_AW.iald ok_M_lost (Nat.le_add_left 1 d) S0_len rfl rfl (by decide) ?_
      change am_AW am_nw ro (d + 1) mr_M_lost 117 [some (.ref 63), some (.int x1), some (.int x2), some (.int x3), some (.int x4), some (.int x5), some (.long x6), none, some (.long x8), none, some (.int x10), some (.long x11), none, some (.int x13), some (.int x14), none] [.int (q32.2.1 67 1)] (S0, q32.2) (some (.long r)) (S0, m')
      refine am_AW.run am_base_ok ok_M_lost (Nat.le_add_left 1 d) 1 (pc1 := 119) (ls1 := [some (.ref 63), some (.int x1), some (.int x2), some (.int x3), some (.int x4), some (.int x5), some (.long x6), none, some (.long x8), none, some (.int x10), some (.long x11), none, some (.int x13), some (.int x14), none]) (st1 := [.int x14, .int (q32.2.1 67 1)]) (σ1 := (S0, q32.2)) rfl ?_
      obtain ⟨q41, hq41, h⟩ := Option.bind_eq_some_iff.mp h
      refine am_AW.callS ok_M_lost am_nw_ok (As := [.int (q32.2.1 67 1), .int x14]) (rest := []) rfl rfl rfl oR_M_has lk_M_75 sT_M_has rfl (Nat.le_of_ble_eq_true rfl) (f_M_has_ok (d := d) (by omega) (q32.2.1 67 1) x14 hq41) ?_
      change am_AW am_nw ro (d + 1) mr_M_lost 122 [some (.ref 63), some (.int x1), some (.int x2), some (.int x3), some (.int x4), some (.int x5), some (.long x6), none, some (.long x8), none, some (.int x10), some (.long x11), none, some (.int x13), some (.int x14), none] [.int q41.1] (S0, q41.2) (some (.long r)) (S0, m')
      refine am_AW.brP ok_M_lost rfl rfl am_c_eq (fun c42 => ?_) (fun c42 => ?_)
      · rw [if_pos c42] at h
        exact am_AW.weak (f_M_lost_b187_ok hd (hk79) (ih) x1 x2 x3 x4 x5 x6 x8 x10 x11 x13 x14  h) (by simp only [am_le, and_self])
      · rw [if_neg c42] at h
        refine am_AW.run am_base_ok ok_M_lost (Nat.le_add_left 1 d) 3 (pc1 := 131) (ls1 := [some (.ref 63), some (.int x1), some (.int x2), some (.int x3), some (.int x4), some (.int x5), some (.long x6), none, some (.long x8), none, some (.int x10), some (.long x11), none, some (.int x13), some (.int x14), none]) (st1 := [.int x13, .int x10, .long x11]) (σ1 := (S0, q41.2)) rfl ?_
        obtain ⟨q45, hq45, h⟩ := Option.bind_eq_some_iff.mp h
        refine am_AW.callS ok_M_lost am_nw_ok (As := [.int x10, .int x13]) (rest := [.long x11]) rfl rfl rfl oR_M_has lk_M_75 sT_M_has rfl (Nat.le_of_ble_eq_true rfl) (f_M_has_ok (d := d) (by omega) x10 x13 hq45) ?_
        change am_AW am_nw ro (d + 1) mr_M_lost 134 [some (.ref 63), some (.int x1), some (.int x2), some (.int x3), some (.int x4), some (.int x5), some (.long x6), none, some (.long x8), none, some (.int x10), some (.long x11), none, some (.int x13), some (.int x14), none] [.int q45.1, .long x11] (S0, q45.2) (some (.long r)) (S0, m')
        refine am_AW.brP ok_M_lost rfl rfl am_c_eq (fun c46 => ?_) (fun c46 => ?_)
        · rw [if_pos c46] at h
          refine am_AW.run am_base_ok ok_M_lost (Nat.le_add_left 1 d) 2 (pc1 := 147) (ls1 := [some (.ref 63), some (.int x1), some (.int x2), some (.int x3), some (.int x4), some (.int x5), some (.long x6), none, some (.long x8), none, some (.int x10), some (.long x11), none, some (.int x13), some (.int x14), none]) (st1 := [.long (x2.toInt64), .long x11]) (σ1 := (S0, q45.2)) rfl ?_
          exact am_AW.weak (f_M_lost_b147_ok hd (hk79) (ih) x1 x2 x3 x4 x5 x6 x8 x10 x13 x14 x11 (x2.toInt64)  h) (by simp only [am_le, and_self])
        · rw [if_neg c46] at h
          refine am_AW.run am_base_ok ok_M_lost (Nat.le_add_left 1 d) 5 (pc1 := 147) (ls1 := [some (.ref 63), some (.int x1), some (.int x2), some (.int x3), some (.int x4), some (.int x5), some (.long x6), none, some (.long x8), none, some (.int x10), some (.long x11), none, some (.int x13), some (.int x14), none]) (st1 := [.long (((10 : Int32) - x2).toInt64), .long x11]) (σ1 := (S0, q45.2)) rfl ?_
          exact am_AW.weak (f_M_lost_b147_ok hd (hk79) (ih) x1 x2 x3 x4 x5 x6 x8 x10 x13 x14 x11 (((10 : Int32) - x2).toInt64)  h) (by simp only [am_le, and_self])
set_option maxHeartbeats 4000000 in
set_option maxRecDepth 100000 in
theorem f_M_lost_b101_ok {ro : am_Ro} {d : Nat} (hd : 5 ≤ d + 1) {k79 : Int32 → Int32 → Int32 → Int32 → Int32 → Int64 → Int64 → Int32 → am_Mm → Option (Int64 × am_Mm)} (hk79 : ∀ (x1 : Int32) (x2 : Int32) (x3 : Int32) (x4 : Int32) (x5 : Int32) (x6 : Int64) (x8 : Int64) (x10 : Int32) (m m' : am_Mm) (r : Int64), k79 x1 x2 x3 x4 x5 x6 x8 x10 m = some (r, m') → am_AW am_nw ro (d + 1) mr_M_lost 79 [some (.ref 63), some (.int x1), some (.int x2), some (.int x3), some (.int x4), some (.int x5), some (.long x6), none, some (.long x8), none, some (.int x10), none, none, none, none, none] [] (S0, m) (some (.long r)) (S0, m')) (x1 : Int32) (x2 : Int32) (x3 : Int32) (x4 : Int32) (x5 : Int32) (x6 : Int64) (x8 : Int64) (x10 : Int32) (x11 : Int64) (x13 : Int32) (x14 : Int32) {m m' : am_Mm} {r : Int64} {n : Nat} (h : f_M_lost_b101 k79 n x1 x2 x3 x4 x5 x6 x8 x10 x11 x13 x14 m = some (r, m')) : am_AW am_nw ro (d + 1) mr_M_lost 101 [some (.ref 63), some (.int x1), some (.int x2), some (.int x3), some (.int x4), some (.int x5), some (.long x6), none, some (.long x8), none, some (.int x10), some (.long x11), none, some (.int x13), some (.int x14), none] [] (S0, m) (some (.long r)) (S0, m') :=
  f_M_lost_b101_all hd hk79 n x1 x2 x3 x4 x5 x6 x8 x10 x11 x13 x14  m m' r h
set_option maxHeartbeats 4000000 in
set_option maxRecDepth 100000 in
theorem f_M_lost_b79_all {ro : am_Ro} {d : Nat} (hd : 5 ≤ d + 1) : ∀ (n : Nat) (x1 : Int32) (x2 : Int32) (x3 : Int32) (x4 : Int32) (x5 : Int32) (x6 : Int64) (x8 : Int64) (x10 : Int32) (m m' : am_Mm) (r : Int64), f_M_lost_b79 n x1 x2 x3 x4 x5 x6 x8 x10 m = some (r, m') → am_AW am_nw ro (d + 1) mr_M_lost 79 [some (.ref 63), some (.int x1), some (.int x2), some (.int x3), some (.int x4), some (.int x5), some (.long x6), none, some (.long x8), none, some (.int x10), none, none, none, none, none] [] (S0, m) (some (.long r)) (S0, m') := by
  intro n
  induction n with
  | zero =>
    intro x1 x2 x3 x4 x5 x6 x8 x10 m m' r h
    rw [f_M_lost_b79] at h
    cases h
  | succ n ih =>
    intro x1 x2 x3 x4 x5 x6 x8 x10 m m' r h
    rw [f_M_lost_b79] at h
    refine am_AW.run am_base_ok ok_M_lost (Nat.le_add_left 1 d) 4 (pc1 := 85) (ls1 := [some (.ref 63), some (.int x1), some (.int x2), some (.int x3), some (.int x4), some (.int x5), some (.long x6), none, some (.long x8), none, some (.int x10), none, none, none, none, none]) (st1 := [.int (am_shl (1 : Int32) x5), .int x10]) (σ1 := (S0, m)) rfl ?_
    refine am_AW.brP ok_M_lost rfl rfl am_c_ge (fun c22 => ?_) (fun c22 => ?_)
    · rw [if_pos c22] at h
      refine am_AW.run am_base_ok ok_M_lost (Nat.le_add_left 1 d) 4 (pc1 := 236) (ls1 := [some (.ref 63), some (.int x1), some (.int x2), some (.int x3), some (.int x4), some (.int x5), some (.long x6), none, some (.long x8), none, some (.long x6), none, some (.long x8), none, none, none]) (st1 := []) (σ1 := (S0, m)) rfl ?_
      exact am_AW.weak (f_M_lost_b236_ok hd x3 x6 x8 x6 x8  h) (by simp only [am_le, and_self])
    · rw [if_neg c22] at h
      refine am_AW.run am_base_ok ok_M_lost (Nat.le_add_left 1 d) 1 (pc1 := 89) (ls1 := [some (.ref 63), some (.int x1), some (.int x2), some (.int x3), some (.int x4), some (.int x5), some (.long x6), none, some (.long x8), none, some (.int x10), none, none, none, none, none]) (st1 := [.ref 63]) (σ1 := (S0, m)) rfl ?_
      obtain ⟨q29, hq29, h⟩ := Option.bind_eq_some_iff.mp h
      refine am_AW.callV ok_M_lost am_nw_ok (As := []) (rest := []) rfl rfl rfl oR_M_layThen lk_M_291 iM_M_layThen sE_M_layThen (qc := kq10) rfl rfl rfl rfl (Nat.le_of_ble_eq_true rfl) (f_M_layThen_ok (d := d) (by omega)  hq29) ?_
      change am_AW am_nw ro (d + 1) mr_M_lost 92 [some (.ref 63), some (.int x1), some (.int x2), some (.int x3), some (.int x4), some (.int x5), some (.long x6), none, some (.long x8), none, some (.int x10), none, none, none, none, none] [] (S0, q29) (some (.long r)) (S0, m')
      refine am_AW.run am_base_ok ok_M_lost (Nat.le_add_left 1 d) 6 (pc1 := 101) (ls1 := [some (.ref 63), some (.int x1), some (.int x2), some (.int x3), some (.int x4), some (.int x5), some (.long x6), none, some (.long x8), none, some (.int x10), some (.long (1 : Int64)), none, some (.int (0 : Int32)), some (.int (0 : Int32)), none]) (st1 := []) (σ1 := (S0, q29)) rfl ?_
      exact am_AW.weak (f_M_lost_b101_ok hd (ih) x1 x2 x3 x4 x5 x6 x8 x10 (1 : Int64) (0 : Int32) (0 : Int32)  h) (by simp only [am_le, and_self])
set_option maxHeartbeats 4000000 in
set_option maxRecDepth 100000 in
theorem f_M_lost_b79_ok {ro : am_Ro} {d : Nat} (hd : 5 ≤ d + 1) (x1 : Int32) (x2 : Int32) (x3 : Int32) (x4 : Int32) (x5 : Int32) (x6 : Int64) (x8 : Int64) (x10 : Int32) {m m' : am_Mm} {r : Int64} {n : Nat} (h : f_M_lost_b79 n x1 x2 x3 x4 x5 x6 x8 x10 m = some (r, m')) : am_AW am_nw ro (d + 1) mr_M_lost 79 [some (.ref 63), some (.int x1), some (.int x2), some (.int x3), some (.int x4), some (.int x5), some (.long x6), none, some (.long x8), none, some (.int x10), none, none, none, none, none] [] (S0, m) (some (.long r)) (S0, m') :=
  f_M_lost_b79_all hd n x1 x2 x3 x4 x5 x6 x8 x10  m m' r h
set_option maxHeartbeats 4000000 in
set_option maxRecDepth 100000 in
theorem f_M_lost_ok {ro : am_Ro} {d : Nat} (hd : 5 ≤ d) (x1 : Int32) (x2 : Int32) (x3 : Int32) {m m' : am_Mm} {r : Int64} (h : f_M_lost x1 x2 x3 m = some (r, m')) : am_Mt am_nw ro d mr_M_lost [.ref 63, .int x1, .int x2, .int x3] (S0, m) (some (.long r)) (S0, m') := by
  obtain ⟨d, rfl⟩ : ∃ d0, d = d0 + 1 := ⟨d - 1, by omega⟩
  refine am_Mt.of (by decide +kernel) (Nat.le_of_ble_eq_true rfl) ?_
  change am_AW am_nw ro (d + 1) mr_M_lost 0 [some (.ref 63), some (.int x1), some (.int x2), some (.int x3), none, none, none, none, none, none, none, none, none, none, none, none] [] (S0, m) (some (.long r)) (S0, m')
  unfold f_M_lost at h
  refine am_AW.run am_base_ok ok_M_lost (Nat.le_add_left 1 d) 1 (pc1 := 1) (ls1 := [some (.ref 63), some (.int x1), some (.int x2), some (.int x3), none, none, none, none, none, none, none, none, none, none, none, none]) (st1 := [.ref 63]) (σ1 := (S0, m)) rfl ?_
  obtain ⟨q3, hq3, h⟩ := Option.bind_eq_some_iff.mp h
  refine am_AW.callV ok_M_lost am_nw_ok (As := []) (rest := []) rfl rfl rfl oR_M_isThere lk_M_188 iM_M_isThere sE_M_isThere (qc := kq10) rfl rfl rfl rfl (Nat.le_of_ble_eq_true rfl) (f_M_isThere_ok (d := d) (by omega)  hq3) ?_
  change am_AW am_nw ro (d + 1) mr_M_lost 4 [some (.ref 63), some (.int x1), some (.int x2), some (.int x3), none, none, none, none, none, none, none, none, none, none, none, none] [.int q3.1] (S0, q3.2) (some (.long r)) (S0, m')
  refine am_AW.brN ok_M_lost rfl rfl am_c_ne (fun c4 => ?_) (fun c4 => ?_)
  · rw [if_pos c4] at h
    refine am_AW.run am_base_ok ok_M_lost (Nat.le_add_left 1 d) 1 (pc1 := 10) (ls1 := [some (.ref 63), some (.int x1), some (.int x2), some (.int x3), none, none, none, none, none, none, none, none, none, none, none, none]) (st1 := [.long (-1000002 : Int64)]) (σ1 := (S0, q3.2)) rfl ?_
    obtain ⟨rfl, rfl⟩ := Prod.mk.inj (Option.some.inj h)
    exact am_AW.ret ok_M_lost rfl rfl rfl rfl
  · rw [if_neg c4] at h
    refine am_AW.run am_base_ok ok_M_lost (Nat.le_add_left 1 d) 4 (pc1 := 19) (ls1 := [some (.ref 63), some (.int x1), some (.int x2), some (.int x3), none, none, none, none, none, none, none, none, none, none, none, none]) (st1 := [.long (9 : Int64), .long (3 : Int64), .long (x1.toInt64)]) (σ1 := (S0, q3.2)) rfl ?_
    obtain ⟨q7, hq7, h⟩ := Option.bind_eq_some_iff.mp h
    refine am_AW.callS ok_M_lost am_nw_ok (As := [.long (x1.toInt64), .long (3 : Int64), .long (9 : Int64)]) (rest := []) rfl rfl rfl oR_M_in lk_M_60 sT_M_in rfl (Nat.le_of_ble_eq_true rfl) (f_M_in_ok (d := d) (by omega) (x1.toInt64) (3 : Int64) (9 : Int64) hq7) ?_
    change am_AW am_nw ro (d + 1) mr_M_lost 22 [some (.ref 63), some (.int x1), some (.int x2), some (.int x3), none, none, none, none, none, none, none, none, none, none, none, none] [.int q7.1] (S0, q7.2) (some (.long r)) (S0, m')
    refine am_AW.brP ok_M_lost rfl rfl am_c_eq (fun c8 => ?_) (fun c8 => ?_)
    · rw [if_pos c8] at h
      exact am_AW.weak (f_M_lost_b47_ok hd   h) (by simp only [am_le, and_self])
    · rw [if_neg c8] at h
      refine am_AW.run am_base_ok ok_M_lost (Nat.le_add_left 1 d) 4 (pc1 := 31) (ls1 := [some (.ref 63), some (.int x1), some (.int x2), some (.int x3), none, none, none, none, none, none, none, none, none, none, none, none]) (st1 := [.long (10 : Int64), .long (0 : Int64), .long (x2.toInt64)]) (σ1 := (S0, q7.2)) rfl ?_
      obtain ⟨q11, hq11, h⟩ := Option.bind_eq_some_iff.mp h
      refine am_AW.callS ok_M_lost am_nw_ok (As := [.long (x2.toInt64), .long (0 : Int64), .long (10 : Int64)]) (rest := []) rfl rfl rfl oR_M_in lk_M_60 sT_M_in rfl (Nat.le_of_ble_eq_true rfl) (f_M_in_ok (d := d) (by omega) (x2.toInt64) (0 : Int64) (10 : Int64) hq11) ?_
      change am_AW am_nw ro (d + 1) mr_M_lost 34 [some (.ref 63), some (.int x1), some (.int x2), some (.int x3), none, none, none, none, none, none, none, none, none, none, none, none] [.int q11.1] (S0, q11.2) (some (.long r)) (S0, m')
      refine am_AW.brP ok_M_lost rfl rfl am_c_eq (fun c12 => ?_) (fun c12 => ?_)
      · rw [if_pos c12] at h
        exact am_AW.weak (f_M_lost_b47_ok hd   h) (by simp only [am_le, and_self])
      · rw [if_neg c12] at h
        refine am_AW.run am_base_ok ok_M_lost (Nat.le_add_left 1 d) 4 (pc1 := 41) (ls1 := [some (.ref 63), some (.int x1), some (.int x2), some (.int x3), none, none, none, none, none, none, none, none, none, none, none, none]) (st1 := [.long (1 : Int64), .long (0 : Int64), .long (x3.toInt64)]) (σ1 := (S0, q11.2)) rfl ?_
        obtain ⟨q15, hq15, h⟩ := Option.bind_eq_some_iff.mp h
        refine am_AW.callS ok_M_lost am_nw_ok (As := [.long (x3.toInt64), .long (0 : Int64), .long (1 : Int64)]) (rest := []) rfl rfl rfl oR_M_in lk_M_60 sT_M_in rfl (Nat.le_of_ble_eq_true rfl) (f_M_in_ok (d := d) (by omega) (x3.toInt64) (0 : Int64) (1 : Int64) hq15) ?_
        change am_AW am_nw ro (d + 1) mr_M_lost 44 [some (.ref 63), some (.int x1), some (.int x2), some (.int x3), none, none, none, none, none, none, none, none, none, none, none, none] [.int q15.1] (S0, q15.2) (some (.long r)) (S0, m')
        refine am_AW.brN ok_M_lost rfl rfl am_c_ne (fun c16 => ?_) (fun c16 => ?_)
        · rw [if_pos c16] at h
          exact am_AW.weak (f_M_lost_b47_ok hd   h) (by simp only [am_le, and_self])
        · rw [if_neg c16] at h
          refine am_AW.run am_base_ok ok_M_lost (Nat.le_add_left 1 d) 3 (pc1 := 56) (ls1 := [some (.ref 63), some (.int x1), some (.int x2), some (.int x3), none, none, none, none, none, none, none, none, none, none, none, none]) (st1 := [.int (0 : Int32), .ref 67]) (σ1 := (S0, q15.2)) rfl ?_
          refine am_AW.iald ok_M_lost (Nat.le_add_left 1 d) S0_len rfl rfl (by decide) ?_
          change am_AW am_nw ro (d + 1) mr_M_lost 57 [some (.ref 63), some (.int x1), some (.int x2), some (.int x3), none, none, none, none, none, none, none, none, none, none, none, none] [.int (q15.2.1 67 0)] (S0, q15.2) (some (.long r)) (S0, m')
          refine am_AW.run am_base_ok ok_M_lost (Nat.le_add_left 1 d) 4 (pc1 := 64) (ls1 := [some (.ref 63), some (.int x1), some (.int x2), some (.int x3), some (.int (q15.2.1 67 0)), none, none, none, none, none, none, none, none, none, none, none]) (st1 := [.int (1 : Int32), .ref 67]) (σ1 := (S0, q15.2)) rfl ?_
          refine am_AW.iald ok_M_lost (Nat.le_add_left 1 d) S0_len rfl rfl (by decide) ?_
          change am_AW am_nw ro (d + 1) mr_M_lost 65 [some (.ref 63), some (.int x1), some (.int x2), some (.int x3), some (.int (q15.2.1 67 0)), none, none, none, none, none, none, none, none, none, none, none] [.int (q15.2.1 67 1)] (S0, q15.2) (some (.long r)) (S0, m')
          obtain ⟨q21, hq21, h⟩ := Option.bind_eq_some_iff.mp h
          refine am_AW.callS ok_M_lost am_nw_ok (As := [.int (q15.2.1 67 1)]) (rest := []) rfl rfl rfl oR_M_sizeOf lk_M_198 sT_M_sizeOf rfl (Nat.le_of_ble_eq_true rfl) (f_M_sizeOf_ok (d := d) (by omega) (q15.2.1 67 1) hq21) ?_
          change am_AW am_nw ro (d + 1) mr_M_lost 68 [some (.ref 63), some (.int x1), some (.int x2), some (.int x3), some (.int (q15.2.1 67 0)), none, none, none, none, none, none, none, none, none, none, none] [.int q21.1] (S0, q21.2) (some (.long r)) (S0, m')
          refine am_AW.run am_base_ok ok_M_lost (Nat.le_add_left 1 d) 7 (pc1 := 79) (ls1 := [some (.ref 63), some (.int x1), some (.int x2), some (.int x3), some (.int (q15.2.1 67 0)), some (.int q21.1), some (.long (0 : Int64)), none, some (.long (0 : Int64)), none, some (.int (0 : Int32)), none, none, none, none, none]) (st1 := []) (σ1 := (S0, q21.2)) rfl ?_
          exact am_AW.weak (f_M_lost_b79_ok hd x1 x2 x3 (q15.2.1 67 0) q21.1 (0 : Int64) (0 : Int64) (0 : Int32)  h) (by simp only [am_le, and_self])
