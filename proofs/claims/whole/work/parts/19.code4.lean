/-! FriezePolygons.kind(I)I -/
def f_C_kind (x1 : Int32) (m : am_Mm) : Option (Int32 × am_Mm) :=
  (f_C_isCorner x1 m).bind fun q3 =>
  if q3.1 = (0 : Int32) then
    some ((-1000001 : Int32), q3.2)
  else
    if am_in x1 9 = true then
      some ((q3.2.1 14 x1.toNatClampNeg), q3.2)
    else none
set_option maxHeartbeats 4000000 in
set_option maxRecDepth 100000 in
theorem f_C_kind_ok {ro : am_Ro} {d : Nat} (hd : 2 ≤ d) (x1 : Int32) {m m' : am_Mm} {r : Int32} (h : f_C_kind x1 m = some (r, m')) : am_Mt am_nw ro d mr_C_kind [.ref 0, .int x1] (S0, m) (some (.int r)) (S0, m') := by
  obtain ⟨d, rfl⟩ : ∃ d0, d = d0 + 1 := ⟨d - 1, by omega⟩
  refine am_Mt.of (by decide +kernel) (Nat.le_of_ble_eq_true rfl) ?_
  change am_AW am_nw ro (d + 1) mr_C_kind 0 [some (.ref 0), some (.int x1)] [] (S0, m) (some (.int r)) (S0, m')
  unfold f_C_kind at h
  refine am_AW.run am_base_ok ok_C_kind (Nat.le_add_left 1 d) 2 (pc1 := 2) (ls1 := [some (.ref 0), some (.int x1)]) (st1 := [.int x1, .ref 0]) (σ1 := (S0, m)) rfl ?_
  obtain ⟨q3, hq3, h⟩ := Option.bind_eq_some_iff.mp h
  refine am_AW.callV ok_C_kind am_nw_ok (As := [.int x1]) (rest := []) rfl rfl rfl oR_C_isCorner lk_C_201 iM_C_isCorner sE_C_isCorner (qc := kq9) rfl rfl rfl rfl (Nat.le_of_ble_eq_true rfl) (f_C_isCorner_ok (d := d) (by omega) x1 hq3) ?_
  change am_AW am_nw ro (d + 1) mr_C_kind 5 [some (.ref 0), some (.int x1)] [.int q3.1] (S0, q3.2) (some (.int r)) (S0, m')
  refine am_AW.brP ok_C_kind rfl rfl am_c_eq (fun c4 => ?_) (fun c4 => ?_)
  · rw [if_pos c4] at h
    refine am_AW.run am_base_ok ok_C_kind (Nat.le_add_left 1 d) 1 (pc1 := 22) (ls1 := [some (.ref 0), some (.int x1)]) (st1 := [.int (-1000001 : Int32)]) (σ1 := (S0, q3.2)) rfl ?_
    obtain ⟨rfl, rfl⟩ := Prod.mk.inj (Option.some.inj h)
    exact am_AW.ret ok_C_kind rfl rfl rfl rfl
  · rw [if_neg c4] at h
    refine am_AW.run am_base_ok ok_C_kind (Nat.le_add_left 1 d) 4 (pc1 := 16) (ls1 := [some (.ref 0), some (.int x1)]) (st1 := [.int x1, .ref 14]) (σ1 := (S0, q3.2)) rfl ?_
    by_cases g5 : am_in x1 9 = true
    rotate_left
    · rw [if_neg g5] at h
      cases h
    rw [if_pos g5] at h
    refine am_AW.iald ok_C_kind (Nat.le_add_left 1 d) S0_len rfl rfl g5 ?_
    refine am_AW.run am_base_ok ok_C_kind (Nat.le_add_left 1 d) 1 (pc1 := 22) (ls1 := [some (.ref 0), some (.int x1)]) (st1 := [.int (q3.2.1 14 x1.toNatClampNeg)]) (σ1 := (S0, q3.2)) rfl ?_
    obtain ⟨rfl, rfl⟩ := Prod.mk.inj (Option.some.inj h)
    exact am_AW.ret ok_C_kind rfl rfl rfl rfl
/-! FriezePolygons.as(II)I -/
def f_C_as (x1 : Int32) (x2 : Int32) (m : am_Mm) : Option (Int32 × am_Mm) :=
  (f_C_isCorner x1 m).bind fun q3 =>
  if q3.1 = (0 : Int32) then
    some ((-1000001 : Int32), q3.2)
  else
    if x2 < (0 : Int32) then
      some ((-1000001 : Int32), q3.2)
    else
      if x2 ≤ (5 : Int32) then
        if am_in x1 9 = true then
          (f_C_isOf (q3.2.1 14 x1.toNatClampNeg) x2 q3.2).bind fun q10 =>
          if q10.1 = (0 : Int32) then
            (f_C_found (3 : Int32) q10.2).bind fun q14 =>
            some (q14.1, q14.2)
          else
            (f_C_fine x1 q10.2).bind fun q17 =>
            some (q17.1, q17.2)
        else none
      else
        some ((-1000001 : Int32), q3.2)
set_option maxHeartbeats 4000000 in
set_option maxRecDepth 100000 in
theorem f_C_as_ok {ro : am_Ro} {d : Nat} (hd : 2 ≤ d) (x1 : Int32) (x2 : Int32) {m m' : am_Mm} {r : Int32} (h : f_C_as x1 x2 m = some (r, m')) : am_Mt am_nw ro d mr_C_as [.ref 0, .int x1, .int x2] (S0, m) (some (.int r)) (S0, m') := by
  obtain ⟨d, rfl⟩ : ∃ d0, d = d0 + 1 := ⟨d - 1, by omega⟩
  refine am_Mt.of (by decide +kernel) (Nat.le_of_ble_eq_true rfl) ?_
  change am_AW am_nw ro (d + 1) mr_C_as 0 [some (.ref 0), some (.int x1), some (.int x2)] [] (S0, m) (some (.int r)) (S0, m')
  unfold f_C_as at h
  refine am_AW.run am_base_ok ok_C_as (Nat.le_add_left 1 d) 2 (pc1 := 2) (ls1 := [some (.ref 0), some (.int x1), some (.int x2)]) (st1 := [.int x1, .ref 0]) (σ1 := (S0, m)) rfl ?_
  obtain ⟨q3, hq3, h⟩ := Option.bind_eq_some_iff.mp h
  refine am_AW.callV ok_C_as am_nw_ok (As := [.int x1]) (rest := []) rfl rfl rfl oR_C_isCorner lk_C_201 iM_C_isCorner sE_C_isCorner (qc := kq9) rfl rfl rfl rfl (Nat.le_of_ble_eq_true rfl) (f_C_isCorner_ok (d := d) (by omega) x1 hq3) ?_
  change am_AW am_nw ro (d + 1) mr_C_as 5 [some (.ref 0), some (.int x1), some (.int x2)] [.int q3.1] (S0, q3.2) (some (.int r)) (S0, m')
  refine am_AW.brP ok_C_as rfl rfl am_c_eq (fun c4 => ?_) (fun c4 => ?_)
  · rw [if_pos c4] at h
    refine am_AW.run am_base_ok ok_C_as (Nat.le_add_left 1 d) 1 (pc1 := 19) (ls1 := [some (.ref 0), some (.int x1), some (.int x2)]) (st1 := [.int (-1000001 : Int32)]) (σ1 := (S0, q3.2)) rfl ?_
    obtain ⟨rfl, rfl⟩ := Prod.mk.inj (Option.some.inj h)
    exact am_AW.ret ok_C_as rfl rfl rfl rfl
  · rw [if_neg c4] at h
    refine am_AW.run am_base_ok ok_C_as (Nat.le_add_left 1 d) 1 (pc1 := 9) (ls1 := [some (.ref 0), some (.int x1), some (.int x2)]) (st1 := [.int x2]) (σ1 := (S0, q3.2)) rfl ?_
    refine am_AW.brP ok_C_as rfl rfl am_c_lt (fun c5 => ?_) (fun c5 => ?_)
    · rw [if_pos c5] at h
      refine am_AW.run am_base_ok ok_C_as (Nat.le_add_left 1 d) 1 (pc1 := 19) (ls1 := [some (.ref 0), some (.int x1), some (.int x2)]) (st1 := [.int (-1000001 : Int32)]) (σ1 := (S0, q3.2)) rfl ?_
      obtain ⟨rfl, rfl⟩ := Prod.mk.inj (Option.some.inj h)
      exact am_AW.ret ok_C_as rfl rfl rfl rfl
    · rw [if_neg c5] at h
      refine am_AW.run am_base_ok ok_C_as (Nat.le_add_left 1 d) 2 (pc1 := 14) (ls1 := [some (.ref 0), some (.int x1), some (.int x2)]) (st1 := [.int (5 : Int32), .int x2]) (σ1 := (S0, q3.2)) rfl ?_
      refine am_AW.brP ok_C_as rfl rfl am_c_le (fun c6 => ?_) (fun c6 => ?_)
      · rw [if_pos c6] at h
        refine am_AW.run am_base_ok ok_C_as (Nat.le_add_left 1 d) 4 (pc1 := 28) (ls1 := [some (.ref 0), some (.int x1), some (.int x2)]) (st1 := [.int x1, .ref 14]) (σ1 := (S0, q3.2)) rfl ?_
        by_cases g7 : am_in x1 9 = true
        rotate_left
        · rw [if_neg g7] at h
          cases h
        rw [if_pos g7] at h
        refine am_AW.iald ok_C_as (Nat.le_add_left 1 d) S0_len rfl rfl g7 ?_
        refine am_AW.run am_base_ok ok_C_as (Nat.le_add_left 1 d) 1 (pc1 := 30) (ls1 := [some (.ref 0), some (.int x1), some (.int x2)]) (st1 := [.int x2, .int (q3.2.1 14 x1.toNatClampNeg)]) (σ1 := (S0, q3.2)) rfl ?_
        obtain ⟨q10, hq10, h⟩ := Option.bind_eq_some_iff.mp h
        refine am_AW.callS ok_C_as am_nw_ok (As := [.int (q3.2.1 14 x1.toNatClampNeg), .int x2]) (rest := []) rfl rfl rfl oR_C_isOf lk_C_320 sT_C_isOf rfl (Nat.le_of_ble_eq_true rfl) (f_C_isOf_ok (d := d) (by omega) (q3.2.1 14 x1.toNatClampNeg) x2 hq10) ?_
        change am_AW am_nw ro (d + 1) mr_C_as 33 [some (.ref 0), some (.int x1), some (.int x2)] [.int q10.1] (S0, q10.2) (some (.int r)) (S0, m')
        refine am_AW.brP ok_C_as rfl rfl am_c_eq (fun c11 => ?_) (fun c11 => ?_)
        · rw [if_pos c11] at h
          refine am_AW.run am_base_ok ok_C_as (Nat.le_add_left 1 d) 2 (pc1 := 46) (ls1 := [some (.ref 0), some (.int x1), some (.int x2)]) (st1 := [.int (3 : Int32), .ref 0]) (σ1 := (S0, q10.2)) rfl ?_
          obtain ⟨q14, hq14, h⟩ := Option.bind_eq_some_iff.mp h
          refine am_AW.callV ok_C_as am_nw_ok (As := [.int (3 : Int32)]) (rest := []) rfl rfl rfl oR_C_found lk_C_92 iM_C_found sE_C_found (qc := kq9) rfl rfl rfl rfl (Nat.le_of_ble_eq_true rfl) (f_C_found_ok (d := d) (by omega) (3 : Int32) hq14) ?_
          change am_AW am_nw ro (d + 1) mr_C_as 49 [some (.ref 0), some (.int x1), some (.int x2)] [.int q14.1] (S0, q14.2) (some (.int r)) (S0, m')
          obtain ⟨rfl, rfl⟩ := Prod.mk.inj (Option.some.inj h)
          exact am_AW.ret ok_C_as rfl rfl rfl rfl
        · rw [if_neg c11] at h
          refine am_AW.run am_base_ok ok_C_as (Nat.le_add_left 1 d) 2 (pc1 := 38) (ls1 := [some (.ref 0), some (.int x1), some (.int x2)]) (st1 := [.int x1, .ref 0]) (σ1 := (S0, q10.2)) rfl ?_
          obtain ⟨q17, hq17, h⟩ := Option.bind_eq_some_iff.mp h
          refine am_AW.callV ok_C_as am_nw_ok (As := [.int x1]) (rest := []) rfl rfl rfl oR_C_fine lk_C_100 iM_C_fine sE_C_fine (qc := kq9) rfl rfl rfl rfl (Nat.le_of_ble_eq_true rfl) (f_C_fine_ok (d := d) (by omega) x1 hq17) ?_
          change am_AW am_nw ro (d + 1) mr_C_as 41 [some (.ref 0), some (.int x1), some (.int x2)] [.int q17.1] (S0, q17.2) (some (.int r)) (S0, m')
          refine am_AW.run am_base_ok ok_C_as (Nat.le_add_left 1 d) 1 (pc1 := 49) (ls1 := [some (.ref 0), some (.int x1), some (.int x2)]) (st1 := [.int q17.1]) (σ1 := (S0, q17.2)) rfl ?_
          obtain ⟨rfl, rfl⟩ := Prod.mk.inj (Option.some.inj h)
          exact am_AW.ret ok_C_as rfl rfl rfl rfl
      · rw [if_neg c6] at h
        refine am_AW.run am_base_ok ok_C_as (Nat.le_add_left 1 d) 1 (pc1 := 19) (ls1 := [some (.ref 0), some (.int x1), some (.int x2)]) (st1 := [.int (-1000001 : Int32)]) (σ1 := (S0, q3.2)) rfl ?_
        obtain ⟨rfl, rfl⟩ := Prod.mk.inj (Option.some.inj h)
        exact am_AW.ret ok_C_as rfl rfl rfl rfl
/-! FriezePolygons.isTriangled()Z -/
def f_C_isTriangled (m : am_Mm) : Option (Int32 × am_Mm) :=
  (f_Integer_bitCount (m.1 13 3) m).bind fun q3 =>
  if q3.1 = ((q3.2.1 13 2) - (3 : Int32)) then
    some ((1 : Int32), q3.2)
  else
    some ((0 : Int32), q3.2)
set_option maxHeartbeats 4000000 in
set_option maxRecDepth 100000 in
theorem f_C_isTriangled_ok {ro : am_Ro} {d : Nat} (hd : 2 ≤ d) {m m' : am_Mm} {r : Int32} (h : f_C_isTriangled  m = some (r, m')) : am_Mt am_nw ro d mr_C_isTriangled [.ref 0] (S0, m) (some (.int r)) (S0, m') := by
  obtain ⟨d, rfl⟩ : ∃ d0, d = d0 + 1 := ⟨d - 1, by omega⟩
  refine am_Mt.of (by decide +kernel) (Nat.le_of_ble_eq_true rfl) ?_
  change am_AW am_nw ro (d + 1) mr_C_isTriangled 0 [some (.ref 0)] [] (S0, m) (some (.int r)) (S0, m')
  unfold f_C_isTriangled at h
  refine am_AW.run am_base_ok ok_C_isTriangled (Nat.le_add_left 1 d) 3 (pc1 := 7) (ls1 := [some (.ref 0)]) (st1 := [.int (m.1 13 3)]) (σ1 := (S0, m)) rfl ?_
  obtain ⟨q3, hq3, h⟩ := Option.bind_eq_some_iff.mp h
  refine am_AW.callS ok_C_isTriangled am_nw_ok (As := [.int (m.1 13 3)]) (rest := []) rfl rfl rfl oR_Integer_bitCount lk_C_180 sT_Integer_bitCount rfl (Nat.le_of_ble_eq_true rfl) (f_Integer_bitCount_ok (d := d) (by omega) (m.1 13 3) hq3) ?_
  change am_AW am_nw ro (d + 1) mr_C_isTriangled 10 [some (.ref 0)] [.int q3.1] (S0, q3.2) (some (.int r)) (S0, m')
  refine am_AW.run am_base_ok ok_C_isTriangled (Nat.le_add_left 1 d) 5 (pc1 := 19) (ls1 := [some (.ref 0)]) (st1 := [.int ((q3.2.1 13 2) - (3 : Int32)), .int q3.1]) (σ1 := (S0, q3.2)) rfl ?_
  refine am_AW.brN ok_C_isTriangled rfl rfl am_c_ne (fun c4 => ?_) (fun c4 => ?_)
  · rw [if_pos c4] at h
    refine am_AW.run am_base_ok ok_C_isTriangled (Nat.le_add_left 1 d) 2 (pc1 := 27) (ls1 := [some (.ref 0)]) (st1 := [.int (1 : Int32)]) (σ1 := (S0, q3.2)) rfl ?_
    obtain ⟨rfl, rfl⟩ := Prod.mk.inj (Option.some.inj h)
    exact am_AW.ret ok_C_isTriangled rfl rfl rfl (by decide)
  · rw [if_neg c4] at h
    refine am_AW.run am_base_ok ok_C_isTriangled (Nat.le_add_left 1 d) 1 (pc1 := 27) (ls1 := [some (.ref 0)]) (st1 := [.int (0 : Int32)]) (σ1 := (S0, q3.2)) rfl ?_
    obtain ⟨rfl, rfl⟩ := Prod.mk.inj (Option.some.inj h)
    exact am_AW.ret ok_C_isTriangled rfl rfl rfl (by decide)
/-! FriezePolygons.troubleOf(III)I -/
def f_C_troubleOf (x1 : Int32) (x2 : Int32) (x3 : Int32) (m : am_Mm) : Option (Int32 × am_Mm) :=
  if am_in x1 8 = true then
    if (m.1 (am_rw x1) 1) = (0 : Int32) then
      some ((1 : Int32), m)
    else
      if am_in x1 8 = true then
        (f_Row_holds (am_rw x1) x2 x3 m).bind fun q6 =>
        if q6.1 = (0 : Int32) then
          some ((2 : Int32), q6.2)
        else
          some ((0 : Int32), q6.2)
      else none
  else none
set_option maxHeartbeats 4000000 in
set_option maxRecDepth 100000 in
theorem f_C_troubleOf_ok {ro : am_Ro} {d : Nat} (hd : 2 ≤ d) (x1 : Int32) (x2 : Int32) (x3 : Int32) {m m' : am_Mm} {r : Int32} (h : f_C_troubleOf x1 x2 x3 m = some (r, m')) : am_Mt am_nw ro d mr_C_troubleOf [.ref 0, .int x1, .int x2, .int x3] (S0, m) (some (.int r)) (S0, m') := by
  obtain ⟨d, rfl⟩ : ∃ d0, d = d0 + 1 := ⟨d - 1, by omega⟩
  refine am_Mt.of (by decide +kernel) (Nat.le_of_ble_eq_true rfl) ?_
  change am_AW am_nw ro (d + 1) mr_C_troubleOf 0 [some (.ref 0), some (.int x1), some (.int x2), some (.int x3)] [] (S0, m) (some (.int r)) (S0, m')
  unfold f_C_troubleOf at h
  refine am_AW.run am_base_ok ok_C_troubleOf (Nat.le_add_left 1 d) 3 (pc1 := 5) (ls1 := [some (.ref 0), some (.int x1), some (.int x2), some (.int x3)]) (st1 := [.int x1, .ref 1]) (σ1 := (S0, m)) rfl ?_
  by_cases g1 : am_in x1 8 = true
  rotate_left
  · rw [if_neg g1] at h
    cases h
  rw [if_pos g1] at h
  refine am_AW.aald ok_C_troubleOf (Nat.le_add_left 1 d) rfl (am_rw_at g1) ?_
  refine am_AW.geti ok_C_troubleOf (Nat.le_add_left 1 d) rfl (sh_41_43_45_47_49_51_53_55_0 (am_rw_in g1)) rfl ?_
  refine am_AW.brN ok_C_troubleOf rfl rfl am_c_ne (fun c2 => ?_) (fun c2 => ?_)
  · rw [if_pos c2] at h
    refine am_AW.run am_base_ok ok_C_troubleOf (Nat.le_add_left 1 d) 1 (pc1 := 13) (ls1 := [some (.ref 0), some (.int x1), some (.int x2), some (.int x3)]) (st1 := [.int (1 : Int32)]) (σ1 := (S0, m)) rfl ?_
    obtain ⟨rfl, rfl⟩ := Prod.mk.inj (Option.some.inj h)
    exact am_AW.ret ok_C_troubleOf rfl rfl rfl rfl
  · rw [if_neg c2] at h
    refine am_AW.run am_base_ok ok_C_troubleOf (Nat.le_add_left 1 d) 3 (pc1 := 19) (ls1 := [some (.ref 0), some (.int x1), some (.int x2), some (.int x3)]) (st1 := [.int x1, .ref 1]) (σ1 := (S0, m)) rfl ?_
    by_cases g3 : am_in x1 8 = true
    rotate_left
    · rw [if_neg g3] at h
      cases h
    rw [if_pos g3] at h
    refine am_AW.aald ok_C_troubleOf (Nat.le_add_left 1 d) rfl (am_rw_at g3) ?_
    refine am_AW.run am_base_ok ok_C_troubleOf (Nat.le_add_left 1 d) 2 (pc1 := 22) (ls1 := [some (.ref 0), some (.int x1), some (.int x2), some (.int x3)]) (st1 := [.int x3, .int x2, .ref (am_rw x1)]) (σ1 := (S0, m)) rfl ?_
    obtain ⟨q6, hq6, h⟩ := Option.bind_eq_some_iff.mp h
    refine am_AW.callV ok_C_troubleOf am_nw_ok (As := [.int x2, .int x3]) (rest := []) rfl rfl rfl oR_Row_holds lk_C_118 iM_Row_holds sE_Row_holds (qc := kq7) (sh_41_43_45_47_49_51_53_55_0 (am_rw_in g3)) rfl rfl rfl (Nat.le_of_ble_eq_true rfl) (f_Row_holds_ok (d := d) (by omega) (am_rw x1) x2 x3 (am_rw_in g3) hq6) ?_
    change am_AW am_nw ro (d + 1) mr_C_troubleOf 25 [some (.ref 0), some (.int x1), some (.int x2), some (.int x3)] [.int q6.1] (S0, q6.2) (some (.int r)) (S0, m')
    refine am_AW.brP ok_C_troubleOf rfl rfl am_c_eq (fun c7 => ?_) (fun c7 => ?_)
    · rw [if_pos c7] at h
      refine am_AW.run am_base_ok ok_C_troubleOf (Nat.le_add_left 1 d) 1 (pc1 := 33) (ls1 := [some (.ref 0), some (.int x1), some (.int x2), some (.int x3)]) (st1 := [.int (2 : Int32)]) (σ1 := (S0, q6.2)) rfl ?_
      obtain ⟨rfl, rfl⟩ := Prod.mk.inj (Option.some.inj h)
      exact am_AW.ret ok_C_troubleOf rfl rfl rfl rfl
    · rw [if_neg c7] at h
      refine am_AW.run am_base_ok ok_C_troubleOf (Nat.le_add_left 1 d) 2 (pc1 := 33) (ls1 := [some (.ref 0), some (.int x1), some (.int x2), some (.int x3)]) (st1 := [.int (0 : Int32)]) (σ1 := (S0, q6.2)) rfl ?_
      obtain ⟨rfl, rfl⟩ := Prod.mk.inj (Option.some.inj h)
      exact am_AW.ret ok_C_troubleOf rfl rfl rfl rfl
/-! FriezePolygonsModel.isRow(I)Z -/
def f_M_isRow (x0 : Int32) (m : am_Mm) : Option (Int32 × am_Mm) :=
  (f_M_in (x0.toInt64) (0 : Int64) (7 : Int64) m).bind fun q3 =>
  if q3.1 = (0 : Int32) ∨ q3.1 = (1 : Int32) then
    some (q3.1, q3.2)
  else none
set_option maxHeartbeats 4000000 in
set_option maxRecDepth 100000 in
theorem f_M_isRow_ok {ro : am_Ro} {d : Nat} (hd : 2 ≤ d) (x0 : Int32) {m m' : am_Mm} {r : Int32} (h : f_M_isRow x0 m = some (r, m')) : am_Mt am_nw ro d mr_M_isRow [.int x0] (S0, m) (some (.int r)) (S0, m') := by
  obtain ⟨d, rfl⟩ : ∃ d0, d = d0 + 1 := ⟨d - 1, by omega⟩
  refine am_Mt.of (by decide +kernel) (Nat.le_of_ble_eq_true rfl) ?_
  change am_AW am_nw ro (d + 1) mr_M_isRow 0 [some (.int x0)] [] (S0, m) (some (.int r)) (S0, m')
  unfold f_M_isRow at h
  refine am_AW.run am_base_ok ok_M_isRow (Nat.le_add_left 1 d) 4 (pc1 := 6) (ls1 := [some (.int x0)]) (st1 := [.long (7 : Int64), .long (0 : Int64), .long (x0.toInt64)]) (σ1 := (S0, m)) rfl ?_
  obtain ⟨q3, hq3, h⟩ := Option.bind_eq_some_iff.mp h
  refine am_AW.callS ok_M_isRow am_nw_ok (As := [.long (x0.toInt64), .long (0 : Int64), .long (7 : Int64)]) (rest := []) rfl rfl rfl oR_M_in lk_M_60 sT_M_in rfl (Nat.le_of_ble_eq_true rfl) (f_M_in_ok (d := d) (by omega) (x0.toInt64) (0 : Int64) (7 : Int64) hq3) ?_
  change am_AW am_nw ro (d + 1) mr_M_isRow 9 [some (.int x0)] [.int q3.1] (S0, q3.2) (some (.int r)) (S0, m')
  by_cases g4 : q3.1 = (0 : Int32) ∨ q3.1 = (1 : Int32)
  rotate_left
  · rw [if_neg g4] at h
    cases h
  rw [if_pos g4] at h
  obtain ⟨rfl, rfl⟩ := Prod.mk.inj (Option.some.inj h)
  exact am_AW.ret ok_M_isRow rfl rfl rfl (am_rokZ g4)
/-! FriezePolygonsModel.isCorner(I)Z -/
def f_M_isCorner (x1 : Int32) (m : am_Mm) : Option (Int32 × am_Mm) :=
  (f_M_in (x1.toInt64) (0 : Int64) (((m.1 67 0) - (1 : Int32)).toInt64) m).bind fun q4 =>
  if q4.1 = (0 : Int32) ∨ q4.1 = (1 : Int32) then
    some (q4.1, q4.2)
  else none
set_option maxHeartbeats 4000000 in
set_option maxRecDepth 100000 in
theorem f_M_isCorner_ok {ro : am_Ro} {d : Nat} (hd : 2 ≤ d) (x1 : Int32) {m m' : am_Mm} {r : Int32} (h : f_M_isCorner x1 m = some (r, m')) : am_Mt am_nw ro d mr_M_isCorner [.ref 63, .int x1] (S0, m) (some (.int r)) (S0, m') := by
  obtain ⟨d, rfl⟩ : ∃ d0, d = d0 + 1 := ⟨d - 1, by omega⟩
  refine am_Mt.of (by decide +kernel) (Nat.le_of_ble_eq_true rfl) ?_
  change am_AW am_nw ro (d + 1) mr_M_isCorner 0 [some (.ref 63), some (.int x1)] [] (S0, m) (some (.int r)) (S0, m')
  unfold f_M_isCorner at h
  refine am_AW.run am_base_ok ok_M_isCorner (Nat.le_add_left 1 d) 6 (pc1 := 8) (ls1 := [some (.ref 63), some (.int x1)]) (st1 := [.int (0 : Int32), .ref 67, .long (0 : Int64), .long (x1.toInt64)]) (σ1 := (S0, m)) rfl ?_
  refine am_AW.iald ok_M_isCorner (Nat.le_add_left 1 d) S0_len rfl rfl (by decide) ?_
  change am_AW am_nw ro (d + 1) mr_M_isCorner 9 [some (.ref 63), some (.int x1)] [.int (m.1 67 0), .long (0 : Int64), .long (x1.toInt64)] (S0, m) (some (.int r)) (S0, m')
  refine am_AW.run am_base_ok ok_M_isCorner (Nat.le_add_left 1 d) 3 (pc1 := 12) (ls1 := [some (.ref 63), some (.int x1)]) (st1 := [.long (((m.1 67 0) - (1 : Int32)).toInt64), .long (0 : Int64), .long (x1.toInt64)]) (σ1 := (S0, m)) rfl ?_
  obtain ⟨q4, hq4, h⟩ := Option.bind_eq_some_iff.mp h
  refine am_AW.callS ok_M_isCorner am_nw_ok (As := [.long (x1.toInt64), .long (0 : Int64), .long (((m.1 67 0) - (1 : Int32)).toInt64)]) (rest := []) rfl rfl rfl oR_M_in lk_M_60 sT_M_in rfl (Nat.le_of_ble_eq_true rfl) (f_M_in_ok (d := d) (by omega) (x1.toInt64) (0 : Int64) (((m.1 67 0) - (1 : Int32)).toInt64) hq4) ?_
  change am_AW am_nw ro (d + 1) mr_M_isCorner 15 [some (.ref 63), some (.int x1)] [.int q4.1] (S0, q4.2) (some (.int r)) (S0, m')
  by_cases g5 : q4.1 = (0 : Int32) ∨ q4.1 = (1 : Int32)
  rotate_left
  · rw [if_neg g5] at h
    cases h
  rw [if_pos g5] at h
  obtain ⟨rfl, rfl⟩ := Prod.mk.inj (Option.some.inj h)
  exact am_AW.ret ok_M_isCorner rfl rfl rfl (am_rokZ g5)
/-! FriezePolygonsModel.sizeOf(I)I -/
def f_M_sizeOf_b24 (k4 : Int32 → Int32 → Int32 → am_Mm → Option (Int32 × am_Mm)) (x0 : Int32) (x2 : Int32) (s0 : Int32) (s1 : Int32) (m : am_Mm) : Option (Int32 × am_Mm) :=
  k4 x0 (s0 + s1) (x2 + (1 : Int32)) m
def f_M_sizeOf_b4 : Nat → Int32 → Int32 → Int32 → am_Mm → Option (Int32 × am_Mm)
  | 0, _, _, _, _ => none
  | n + 1, x0, x1, x2, m =>
    if (30 : Int32) ≤ x2 then
      some (x1, m)
    else
      (f_M_has x0 x2 m).bind fun q4 =>
      if q4.1 = (0 : Int32) then
        f_M_sizeOf_b24 (f_M_sizeOf_b4 n) x0 x2 x1 (0 : Int32) q4.2
      else
        f_M_sizeOf_b24 (f_M_sizeOf_b4 n) x0 x2 x1 (1 : Int32) q4.2
def f_M_sizeOf (x0 : Int32) (m : am_Mm) : Option (Int32 × am_Mm) :=
  f_M_sizeOf_b4 am_F x0 (0 : Int32) (0 : Int32) m
set_option maxHeartbeats 4000000 in
set_option maxRecDepth 100000 in
theorem f_M_sizeOf_b24_ok {ro : am_Ro} {d : Nat} (hd : 2 ≤ d + 1) {k4 : Int32 → Int32 → Int32 → am_Mm → Option (Int32 × am_Mm)} (hk4 : ∀ (x0 : Int32) (x1 : Int32) (x2 : Int32) (m m' : am_Mm) (r : Int32), k4 x0 x1 x2 m = some (r, m') → am_AW am_nw ro (d + 1) mr_M_sizeOf 4 [some (.int x0), some (.int x1), some (.int x2)] [] (S0, m) (some (.int r)) (S0, m')) (x0 : Int32) (x2 : Int32) (s0 : Int32) (s1 : Int32) {m m' : am_Mm} {r : Int32} (h : f_M_sizeOf_b24 k4 x0 x2 s0 s1 m = some (r, m')) : am_AW am_nw ro (d + 1) mr_M_sizeOf 24 [some (.int x0), none, some (.int x2)] [.int s1, .int s0] (S0, m) (some (.int r)) (S0, m') := by
  unfold f_M_sizeOf_b24 at h
  refine am_AW.run am_base_ok ok_M_sizeOf (Nat.le_add_left 1 d) 4 (pc1 := 4) (ls1 := [some (.int x0), some (.int (s0 + s1)), some (.int (x2 + (1 : Int32)))]) (st1 := []) (σ1 := (S0, m)) rfl ?_
  exact am_AW.weak (hk4 x0 (s0 + s1) (x2 + (1 : Int32))  _ _ _ h) (by simp only [am_le, and_self])
set_option maxHeartbeats 4000000 in
set_option maxRecDepth 100000 in
theorem f_M_sizeOf_b4_all {ro : am_Ro} {d : Nat} (hd : 2 ≤ d + 1) : ∀ (n : Nat) (x0 : Int32) (x1 : Int32) (x2 : Int32) (m m' : am_Mm) (r : Int32), f_M_sizeOf_b4 n x0 x1 x2 m = some (r, m') → am_AW am_nw ro (d + 1) mr_M_sizeOf 4 [some (.int x0), some (.int x1), some (.int x2)] [] (S0, m) (some (.int r)) (S0, m') := by
  intro n
  induction n with
  | zero =>
    intro x0 x1 x2 m m' r h
    rw [f_M_sizeOf_b4] at h
    cases h
  | succ n ih =>
    intro x0 x1 x2 m m' r h
    rw [f_M_sizeOf_b4] at h
    refine am_AW.run am_base_ok ok_M_sizeOf (Nat.le_add_left 1 d) 2 (pc1 := 7) (ls1 := [some (.int x0), some (.int x1), some (.int x2)]) (st1 := [.int (30 : Int32), .int x2]) (σ1 := (S0, m)) rfl ?_
    refine am_AW.brP ok_M_sizeOf rfl rfl am_c_ge (fun c1 => ?_) (fun c1 => ?_)
    · rw [if_pos c1] at h
      refine am_AW.run am_base_ok ok_M_sizeOf (Nat.le_add_left 1 d) 1 (pc1 := 33) (ls1 := [some (.int x0), some (.int x1), some (.int x2)]) (st1 := [.int x1]) (σ1 := (S0, m)) rfl ?_
      obtain ⟨rfl, rfl⟩ := Prod.mk.inj (Option.some.inj h)
      exact am_AW.ret ok_M_sizeOf rfl rfl rfl rfl
    · rw [if_neg c1] at h
      refine am_AW.run am_base_ok ok_M_sizeOf (Nat.le_add_left 1 d) 3 (pc1 := 13) (ls1 := [some (.int x0), some (.int x1), some (.int x2)]) (st1 := [.int x2, .int x0, .int x1]) (σ1 := (S0, m)) rfl ?_
      obtain ⟨q4, hq4, h⟩ := Option.bind_eq_some_iff.mp h
      refine am_AW.callS ok_M_sizeOf am_nw_ok (As := [.int x0, .int x2]) (rest := [.int x1]) rfl rfl rfl oR_M_has lk_M_75 sT_M_has rfl (Nat.le_of_ble_eq_true rfl) (f_M_has_ok (d := d) (by omega) x0 x2 hq4) ?_
      change am_AW am_nw ro (d + 1) mr_M_sizeOf 16 [some (.int x0), some (.int x1), some (.int x2)] [.int q4.1, .int x1] (S0, q4.2) (some (.int r)) (S0, m')
      refine am_AW.brP ok_M_sizeOf rfl rfl am_c_eq (fun c5 => ?_) (fun c5 => ?_)
      · rw [if_pos c5] at h
        refine am_AW.run am_base_ok ok_M_sizeOf (Nat.le_add_left 1 d) 1 (pc1 := 24) (ls1 := [some (.int x0), some (.int x1), some (.int x2)]) (st1 := [.int (0 : Int32), .int x1]) (σ1 := (S0, q4.2)) rfl ?_
        exact am_AW.weak (f_M_sizeOf_b24_ok hd (ih) x0 x2 x1 (0 : Int32)  h) (by simp only [am_le, and_self])
      · rw [if_neg c5] at h
        refine am_AW.run am_base_ok ok_M_sizeOf (Nat.le_add_left 1 d) 2 (pc1 := 24) (ls1 := [some (.int x0), some (.int x1), some (.int x2)]) (st1 := [.int (1 : Int32), .int x1]) (σ1 := (S0, q4.2)) rfl ?_
        exact am_AW.weak (f_M_sizeOf_b24_ok hd (ih) x0 x2 x1 (1 : Int32)  h) (by simp only [am_le, and_self])
set_option maxHeartbeats 4000000 in
set_option maxRecDepth 100000 in
theorem f_M_sizeOf_b4_ok {ro : am_Ro} {d : Nat} (hd : 2 ≤ d + 1) (x0 : Int32) (x1 : Int32) (x2 : Int32) {m m' : am_Mm} {r : Int32} {n : Nat} (h : f_M_sizeOf_b4 n x0 x1 x2 m = some (r, m')) : am_AW am_nw ro (d + 1) mr_M_sizeOf 4 [some (.int x0), some (.int x1), some (.int x2)] [] (S0, m) (some (.int r)) (S0, m') :=
  f_M_sizeOf_b4_all hd n x0 x1 x2  m m' r h
set_option maxHeartbeats 4000000 in
set_option maxRecDepth 100000 in
theorem f_M_sizeOf_ok {ro : am_Ro} {d : Nat} (hd : 2 ≤ d) (x0 : Int32) {m m' : am_Mm} {r : Int32} (h : f_M_sizeOf x0 m = some (r, m')) : am_Mt am_nw ro d mr_M_sizeOf [.int x0] (S0, m) (some (.int r)) (S0, m') := by
  obtain ⟨d, rfl⟩ : ∃ d0, d = d0 + 1 := ⟨d - 1, by omega⟩
  refine am_Mt.of (by decide +kernel) (Nat.le_of_ble_eq_true rfl) ?_
  change am_AW am_nw ro (d + 1) mr_M_sizeOf 0 [some (.int x0), none, none] [] (S0, m) (some (.int r)) (S0, m')
  unfold f_M_sizeOf at h
  refine am_AW.run am_base_ok ok_M_sizeOf (Nat.le_add_left 1 d) 4 (pc1 := 4) (ls1 := [some (.int x0), some (.int (0 : Int32)), some (.int (0 : Int32))]) (st1 := []) (σ1 := (S0, m)) rfl ?_
  exact am_AW.weak (f_M_sizeOf_b4_ok hd x0 (0 : Int32) (0 : Int32)  h) (by simp only [am_le, and_self])
/-! FriezePolygonsModel.numberOf(III)I -/
def f_M_numberOf_b34 : Nat → Int32 → Int32 → Int32 → Int32 → am_Mm → Option (Int32 × am_Mm)
  | 0, _, _, _, _, _ => none
  | n + 1, x0, x3, x5, x6, m =>
    if x3 ≤ x6 then
      some (x5, m)
    else
      (f_M_goFrom x0 x6 m).bind fun q6 =>
      f_M_numberOf_b34 n x0 x3 (x5 + q6.1) (x6 + (1 : Int32)) q6.2
def f_M_numberOf_b21 (x0 : Int32) (x3 : Int32) (s0 : Int32) (m : am_Mm) : Option (Int32 × am_Mm) :=
  f_M_numberOf_b34 am_F x0 x3 ((s0 - x3) - (2 : Int32)) (0 : Int32) m
def f_M_numberOf_b10 (x0 : Int32) (x1 : Int32) (x2 : Int32) (s0 : Int32) (m : am_Mm) : Option (Int32 × am_Mm) :=
  if x2 ≤ x1 then
    f_M_numberOf_b21 x0 s0 x1 m
  else
    f_M_numberOf_b21 x0 s0 x2 m
def f_M_numberOf (x0 : Int32) (x1 : Int32) (x2 : Int32) (m : am_Mm) : Option (Int32 × am_Mm) :=
  if x2 ≤ x1 then
    f_M_numberOf_b10 x0 x1 x2 x2 m
  else
    f_M_numberOf_b10 x0 x1 x2 x1 m
set_option maxHeartbeats 4000000 in
set_option maxRecDepth 100000 in
theorem f_M_numberOf_b34_all {ro : am_Ro} {d : Nat} (hd : 2 ≤ d + 1) : ∀ (n : Nat) (x0 : Int32) (x3 : Int32) (x5 : Int32) (x6 : Int32) (m m' : am_Mm) (r : Int32), f_M_numberOf_b34 n x0 x3 x5 x6 m = some (r, m') → am_AW am_nw ro (d + 1) mr_M_numberOf 34 [some (.int x0), none, none, some (.int x3), none, some (.int x5), some (.int x6)] [] (S0, m) (some (.int r)) (S0, m') := by
  intro n
  induction n with
  | zero =>
    intro x0 x3 x5 x6 m m' r h
    rw [f_M_numberOf_b34] at h
    cases h
  | succ n ih =>
    intro x0 x3 x5 x6 m m' r h
    rw [f_M_numberOf_b34] at h
    refine am_AW.run am_base_ok ok_M_numberOf (Nat.le_add_left 1 d) 2 (pc1 := 37) (ls1 := [some (.int x0), none, none, some (.int x3), none, some (.int x5), some (.int x6)]) (st1 := [.int x3, .int x6]) (σ1 := (S0, m)) rfl ?_
    refine am_AW.brP ok_M_numberOf rfl rfl am_c_ge (fun c3 => ?_) (fun c3 => ?_)
    · rw [if_pos c3] at h
      refine am_AW.run am_base_ok ok_M_numberOf (Nat.le_add_left 1 d) 1 (pc1 := 59) (ls1 := [some (.int x0), none, none, some (.int x3), none, some (.int x5), some (.int x6)]) (st1 := [.int x5]) (σ1 := (S0, m)) rfl ?_
      obtain ⟨rfl, rfl⟩ := Prod.mk.inj (Option.some.inj h)
      exact am_AW.ret ok_M_numberOf rfl rfl rfl rfl
    · rw [if_neg c3] at h
      refine am_AW.run am_base_ok ok_M_numberOf (Nat.le_add_left 1 d) 3 (pc1 := 45) (ls1 := [some (.int x0), none, none, some (.int x3), none, some (.int x5), some (.int x6)]) (st1 := [.int x6, .int x0, .int x5]) (σ1 := (S0, m)) rfl ?_
      obtain ⟨q6, hq6, h⟩ := Option.bind_eq_some_iff.mp h
      refine am_AW.callS ok_M_numberOf am_nw_ok (As := [.int x0, .int x6]) (rest := [.int x5]) rfl rfl rfl oR_M_goFrom lk_M_79 sT_M_goFrom rfl (Nat.le_of_ble_eq_true rfl) (f_M_goFrom_ok (d := d) (by omega) x0 x6 hq6) ?_
      change am_AW am_nw ro (d + 1) mr_M_numberOf 48 [some (.int x0), none, none, some (.int x3), none, some (.int x5), some (.int x6)] [.int q6.1, .int x5] (S0, q6.2) (some (.int r)) (S0, m')
      refine am_AW.run am_base_ok ok_M_numberOf (Nat.le_add_left 1 d) 4 (pc1 := 34) (ls1 := [some (.int x0), none, none, some (.int x3), none, some (.int (x5 + q6.1)), some (.int (x6 + (1 : Int32)))]) (st1 := []) (σ1 := (S0, q6.2)) rfl ?_
      exact am_AW.weak (ih x0 x3 (x5 + q6.1) (x6 + (1 : Int32))  _ _ _ h) (by simp only [am_le, and_self])
set_option maxHeartbeats 4000000 in
set_option maxRecDepth 100000 in
theorem f_M_numberOf_b34_ok {ro : am_Ro} {d : Nat} (hd : 2 ≤ d + 1) (x0 : Int32) (x3 : Int32) (x5 : Int32) (x6 : Int32) {m m' : am_Mm} {r : Int32} {n : Nat} (h : f_M_numberOf_b34 n x0 x3 x5 x6 m = some (r, m')) : am_AW am_nw ro (d + 1) mr_M_numberOf 34 [some (.int x0), none, none, some (.int x3), none, some (.int x5), some (.int x6)] [] (S0, m) (some (.int r)) (S0, m') :=
  f_M_numberOf_b34_all hd n x0 x3 x5 x6  m m' r h
set_option maxHeartbeats 4000000 in
set_option maxRecDepth 100000 in
theorem f_M_numberOf_b21_ok {ro : am_Ro} {d : Nat} (hd : 2 ≤ d + 1) (x0 : Int32) (x3 : Int32) (s0 : Int32) {m m' : am_Mm} {r : Int32} (h : f_M_numberOf_b21 x0 x3 s0 m = some (r, m')) : am_AW am_nw ro (d + 1) mr_M_numberOf 21 [some (.int x0), none, none, some (.int x3), none, none, none] [.int s0] (S0, m) (some (.int r)) (S0, m') := by
  unfold f_M_numberOf_b21 at h
  refine am_AW.run am_base_ok ok_M_numberOf (Nat.le_add_left 1 d) 9 (pc1 := 34) (ls1 := [some (.int x0), none, none, some (.int x3), some (.int s0), some (.int ((s0 - x3) - (2 : Int32))), some (.int (0 : Int32))]) (st1 := []) (σ1 := (S0, m)) rfl ?_
  exact am_AW.weak (f_M_numberOf_b34_ok hd x0 x3 ((s0 - x3) - (2 : Int32)) (0 : Int32)  h) (by simp only [am_le, and_self])
set_option maxHeartbeats 4000000 in
set_option maxRecDepth 100000 in
theorem f_M_numberOf_b10_ok {ro : am_Ro} {d : Nat} (hd : 2 ≤ d + 1) (x0 : Int32) (x1 : Int32) (x2 : Int32) (s0 : Int32) {m m' : am_Mm} {r : Int32} (h : f_M_numberOf_b10 x0 x1 x2 s0 m = some (r, m')) : am_AW am_nw ro (d + 1) mr_M_numberOf 10 [some (.int x0), some (.int x1), some (.int x2), none, none, none, none] [.int s0] (S0, m) (some (.int r)) (S0, m') := by
  unfold f_M_numberOf_b10 at h
  refine am_AW.run am_base_ok ok_M_numberOf (Nat.le_add_left 1 d) 3 (pc1 := 13) (ls1 := [some (.int x0), some (.int x1), some (.int x2), some (.int s0), none, none, none]) (st1 := [.int x2, .int x1]) (σ1 := (S0, m)) rfl ?_
  refine am_AW.brP ok_M_numberOf rfl rfl am_c_ge (fun c2 => ?_) (fun c2 => ?_)
  · rw [if_pos c2] at h
    refine am_AW.run am_base_ok ok_M_numberOf (Nat.le_add_left 1 d) 1 (pc1 := 21) (ls1 := [some (.int x0), some (.int x1), some (.int x2), some (.int s0), none, none, none]) (st1 := [.int x1]) (σ1 := (S0, m)) rfl ?_
    exact am_AW.weak (f_M_numberOf_b21_ok hd x0 s0 x1  h) (by simp only [am_le, and_self])
  · rw [if_neg c2] at h
    refine am_AW.run am_base_ok ok_M_numberOf (Nat.le_add_left 1 d) 2 (pc1 := 21) (ls1 := [some (.int x0), some (.int x1), some (.int x2), some (.int s0), none, none, none]) (st1 := [.int x2]) (σ1 := (S0, m)) rfl ?_
    exact am_AW.weak (f_M_numberOf_b21_ok hd x0 s0 x2  h) (by simp only [am_le, and_self])
set_option maxHeartbeats 4000000 in
set_option maxRecDepth 100000 in
theorem f_M_numberOf_ok {ro : am_Ro} {d : Nat} (hd : 2 ≤ d) (x0 : Int32) (x1 : Int32) (x2 : Int32) {m m' : am_Mm} {r : Int32} (h : f_M_numberOf x0 x1 x2 m = some (r, m')) : am_Mt am_nw ro d mr_M_numberOf [.int x0, .int x1, .int x2] (S0, m) (some (.int r)) (S0, m') := by
  obtain ⟨d, rfl⟩ : ∃ d0, d = d0 + 1 := ⟨d - 1, by omega⟩
  refine am_Mt.of (by decide +kernel) (Nat.le_of_ble_eq_true rfl) ?_
  change am_AW am_nw ro (d + 1) mr_M_numberOf 0 [some (.int x0), some (.int x1), some (.int x2), none, none, none, none] [] (S0, m) (some (.int r)) (S0, m')
  unfold f_M_numberOf at h
  refine am_AW.run am_base_ok ok_M_numberOf (Nat.le_add_left 1 d) 2 (pc1 := 2) (ls1 := [some (.int x0), some (.int x1), some (.int x2), none, none, none, none]) (st1 := [.int x2, .int x1]) (σ1 := (S0, m)) rfl ?_
  refine am_AW.brP ok_M_numberOf rfl rfl am_c_ge (fun c1 => ?_) (fun c1 => ?_)
  · rw [if_pos c1] at h
    refine am_AW.run am_base_ok ok_M_numberOf (Nat.le_add_left 1 d) 1 (pc1 := 10) (ls1 := [some (.int x0), some (.int x1), some (.int x2), none, none, none, none]) (st1 := [.int x2]) (σ1 := (S0, m)) rfl ?_
    exact am_AW.weak (f_M_numberOf_b10_ok hd x0 x1 x2 x2  h) (by simp only [am_le, and_self])
  · rw [if_neg c1] at h
    refine am_AW.run am_base_ok ok_M_numberOf (Nat.le_add_left 1 d) 2 (pc1 := 10) (ls1 := [some (.int x0), some (.int x1), some (.int x2), none, none, none, none]) (st1 := [.int x1]) (σ1 := (S0, m)) rfl ?_
    exact am_AW.weak (f_M_numberOf_b10_ok hd x0 x1 x2 x1  h) (by simp only [am_le, and_self])
/-! FriezePolygonsModel.endsOf(II)I -/
def f_M_endsOf_b34 (x2 : Int32) (x3 : Int32) (m : am_Mm) : Option (Int32 × am_Mm) :=
  some (((((11 : Int32) * x2) + (2 : Int32)) + x3), m)
def f_M_endsOf_b4 : Nat → Int32 → Int32 → Int32 → am_Mm → Option (Int32 × am_Mm)
  | 0, _, _, _, _ => none
  | n + 1, x0, x2, x3, m =>
    if (x0 - (3 : Int32)) ≤ x2 then
      f_M_endsOf_b34 x2 x3 m
    else
      (f_M_goFrom x0 x2 m).bind fun q4 =>
      if x3 < q4.1 then
        f_M_endsOf_b34 x2 x3 q4.2
      else
        (f_M_goFrom x0 x2 q4.2).bind fun q8 =>
        f_M_endsOf_b4 n x0 (x2 + (1 : Int32)) (x3 - q8.1) q8.2
def f_M_endsOf (x0 : Int32) (x1 : Int32) (m : am_Mm) : Option (Int32 × am_Mm) :=
  f_M_endsOf_b4 am_F x0 (0 : Int32) x1 m
set_option maxHeartbeats 4000000 in
set_option maxRecDepth 100000 in
theorem f_M_endsOf_b34_ok {ro : am_Ro} {d : Nat} (hd : 2 ≤ d + 1) (x2 : Int32) (x3 : Int32) {m m' : am_Mm} {r : Int32} (h : f_M_endsOf_b34 x2 x3 m = some (r, m')) : am_AW am_nw ro (d + 1) mr_M_endsOf 34 [none, none, some (.int x2), some (.int x3)] [] (S0, m) (some (.int r)) (S0, m') := by
  unfold f_M_endsOf_b34 at h
  refine am_AW.run am_base_ok ok_M_endsOf (Nat.le_add_left 1 d) 7 (pc1 := 42) (ls1 := [none, none, some (.int x2), some (.int x3)]) (st1 := [.int ((((11 : Int32) * x2) + (2 : Int32)) + x3)]) (σ1 := (S0, m)) rfl ?_
  obtain ⟨rfl, rfl⟩ := Prod.mk.inj (Option.some.inj h)
  exact am_AW.ret ok_M_endsOf rfl rfl rfl rfl
set_option maxHeartbeats 4000000 in
set_option maxRecDepth 100000 in
theorem f_M_endsOf_b4_all {ro : am_Ro} {d : Nat} (hd : 2 ≤ d + 1) : ∀ (n : Nat) (x0 : Int32) (x2 : Int32) (x3 : Int32) (m m' : am_Mm) (r : Int32), f_M_endsOf_b4 n x0 x2 x3 m = some (r, m') → am_AW am_nw ro (d + 1) mr_M_endsOf 4 [some (.int x0), none, some (.int x2), some (.int x3)] [] (S0, m) (some (.int r)) (S0, m') := by
  intro n
  induction n with
  | zero =>
    intro x0 x2 x3 m m' r h
    rw [f_M_endsOf_b4] at h
    cases h
  | succ n ih =>
    intro x0 x2 x3 m m' r h
    rw [f_M_endsOf_b4] at h
    refine am_AW.run am_base_ok ok_M_endsOf (Nat.le_add_left 1 d) 4 (pc1 := 8) (ls1 := [some (.int x0), none, some (.int x2), some (.int x3)]) (st1 := [.int (x0 - (3 : Int32)), .int x2]) (σ1 := (S0, m)) rfl ?_
    refine am_AW.brP ok_M_endsOf rfl rfl am_c_ge (fun c1 => ?_) (fun c1 => ?_)
    · rw [if_pos c1] at h
      exact am_AW.weak (f_M_endsOf_b34_ok hd x2 x3  h) (by simp only [am_le, and_self])
    · rw [if_neg c1] at h
      refine am_AW.run am_base_ok ok_M_endsOf (Nat.le_add_left 1 d) 3 (pc1 := 14) (ls1 := [some (.int x0), none, some (.int x2), some (.int x3)]) (st1 := [.int x2, .int x0, .int x3]) (σ1 := (S0, m)) rfl ?_
      obtain ⟨q4, hq4, h⟩ := Option.bind_eq_some_iff.mp h
      refine am_AW.callS ok_M_endsOf am_nw_ok (As := [.int x0, .int x2]) (rest := [.int x3]) rfl rfl rfl oR_M_goFrom lk_M_79 sT_M_goFrom rfl (Nat.le_of_ble_eq_true rfl) (f_M_goFrom_ok (d := d) (by omega) x0 x2 hq4) ?_
      change am_AW am_nw ro (d + 1) mr_M_endsOf 17 [some (.int x0), none, some (.int x2), some (.int x3)] [.int q4.1, .int x3] (S0, q4.2) (some (.int r)) (S0, m')
      refine am_AW.brP ok_M_endsOf rfl rfl am_c_lt (fun c5 => ?_) (fun c5 => ?_)
      · rw [if_pos c5] at h
        exact am_AW.weak (f_M_endsOf_b34_ok hd x2 x3  h) (by simp only [am_le, and_self])
      · rw [if_neg c5] at h
        refine am_AW.run am_base_ok ok_M_endsOf (Nat.le_add_left 1 d) 3 (pc1 := 23) (ls1 := [some (.int x0), none, some (.int x2), some (.int x3)]) (st1 := [.int x2, .int x0, .int x3]) (σ1 := (S0, q4.2)) rfl ?_
        obtain ⟨q8, hq8, h⟩ := Option.bind_eq_some_iff.mp h
        refine am_AW.callS ok_M_endsOf am_nw_ok (As := [.int x0, .int x2]) (rest := [.int x3]) rfl rfl rfl oR_M_goFrom lk_M_79 sT_M_goFrom rfl (Nat.le_of_ble_eq_true rfl) (f_M_goFrom_ok (d := d) (by omega) x0 x2 hq8) ?_
        change am_AW am_nw ro (d + 1) mr_M_endsOf 26 [some (.int x0), none, some (.int x2), some (.int x3)] [.int q8.1, .int x3] (S0, q8.2) (some (.int r)) (S0, m')
        refine am_AW.run am_base_ok ok_M_endsOf (Nat.le_add_left 1 d) 4 (pc1 := 4) (ls1 := [some (.int x0), none, some (.int (x2 + (1 : Int32))), some (.int (x3 - q8.1))]) (st1 := []) (σ1 := (S0, q8.2)) rfl ?_
        exact am_AW.weak (ih x0 (x2 + (1 : Int32)) (x3 - q8.1)  _ _ _ h) (by simp only [am_le, and_self])
set_option maxHeartbeats 4000000 in
set_option maxRecDepth 100000 in
theorem f_M_endsOf_b4_ok {ro : am_Ro} {d : Nat} (hd : 2 ≤ d + 1) (x0 : Int32) (x2 : Int32) (x3 : Int32) {m m' : am_Mm} {r : Int32} {n : Nat} (h : f_M_endsOf_b4 n x0 x2 x3 m = some (r, m')) : am_AW am_nw ro (d + 1) mr_M_endsOf 4 [some (.int x0), none, some (.int x2), some (.int x3)] [] (S0, m) (some (.int r)) (S0, m') :=
  f_M_endsOf_b4_all hd n x0 x2 x3  m m' r h
set_option maxHeartbeats 4000000 in
set_option maxRecDepth 100000 in
theorem f_M_endsOf_ok {ro : am_Ro} {d : Nat} (hd : 2 ≤ d) (x0 : Int32) (x1 : Int32) {m m' : am_Mm} {r : Int32} (h : f_M_endsOf x0 x1 m = some (r, m')) : am_Mt am_nw ro d mr_M_endsOf [.int x0, .int x1] (S0, m) (some (.int r)) (S0, m') := by
  obtain ⟨d, rfl⟩ : ∃ d0, d = d0 + 1 := ⟨d - 1, by omega⟩
  refine am_Mt.of (by decide +kernel) (Nat.le_of_ble_eq_true rfl) ?_
  change am_AW am_nw ro (d + 1) mr_M_endsOf 0 [some (.int x0), some (.int x1), none, none] [] (S0, m) (some (.int r)) (S0, m')
  unfold f_M_endsOf at h
  refine am_AW.run am_base_ok ok_M_endsOf (Nat.le_add_left 1 d) 4 (pc1 := 4) (ls1 := [some (.int x0), some (.int x1), some (.int (0 : Int32)), some (.int x1)]) (st1 := []) (σ1 := (S0, m)) rfl ?_
  exact am_AW.weak (f_M_endsOf_b4_ok hd x0 (0 : Int32) x1  h) (by simp only [am_le, and_self])
/-! FriezePolygonsModel.doCross(II)Z -/
def f_M_doCross (x0 : Int32) (x1 : Int32) (m : am_Mm) : Option (Int32 × am_Mm) :=
  if (x0 / (10 : Int32)) = (x1 / (10 : Int32)) then
    some ((0 : Int32), m)
  else
    if (x0 / (10 : Int32)) = (am_rem x1 (10 : Int32)) then
      some ((0 : Int32), m)
    else
      if (am_rem x0 (10 : Int32)) = (x1 / (10 : Int32)) then
        some ((0 : Int32), m)
      else
        if (am_rem x0 (10 : Int32)) = (am_rem x1 (10 : Int32)) then
          some ((0 : Int32), m)
        else
          (f_M_isBetween (x1 / (10 : Int32)) (x0 / (10 : Int32)) (am_rem x0 (10 : Int32)) m).bind fun q7 =>
          (f_M_isBetween (am_rem x1 (10 : Int32)) (x0 / (10 : Int32)) (am_rem x0 (10 : Int32)) q7.2).bind fun q10 =>
          if q7.1 = q10.1 then
            some ((0 : Int32), q10.2)
          else
            some ((1 : Int32), q10.2)
set_option maxHeartbeats 4000000 in
set_option maxRecDepth 100000 in
theorem f_M_doCross_ok {ro : am_Ro} {d : Nat} (hd : 2 ≤ d) (x0 : Int32) (x1 : Int32) {m m' : am_Mm} {r : Int32} (h : f_M_doCross x0 x1 m = some (r, m')) : am_Mt am_nw ro d mr_M_doCross [.int x0, .int x1] (S0, m) (some (.int r)) (S0, m') := by
  obtain ⟨d, rfl⟩ : ∃ d0, d = d0 + 1 := ⟨d - 1, by omega⟩
  refine am_Mt.of (by decide +kernel) (Nat.le_of_ble_eq_true rfl) ?_
  change am_AW am_nw ro (d + 1) mr_M_doCross 0 [some (.int x0), some (.int x1), none, none, none, none] [] (S0, m) (some (.int r)) (S0, m')
  unfold f_M_doCross at h
  refine am_AW.run am_base_ok ok_M_doCross (Nat.le_add_left 1 d) 2 (pc1 := 3) (ls1 := [some (.int x0), some (.int x1), none, none, none, none]) (st1 := [.int (10 : Int32), .int x0]) (σ1 := (S0, m)) rfl ?_
  refine am_AW.dvi ok_M_doCross (Nat.le_add_left 1 d) (w := (x0 / (10 : Int32))) (Or.inl ⟨rfl, rfl⟩) rfl (by decide) ?_
  refine am_AW.run am_base_ok ok_M_doCross (Nat.le_add_left 1 d) 3 (pc1 := 8) (ls1 := [some (.int x0), some (.int x1), some (.int (x0 / (10 : Int32))), none, none, none]) (st1 := [.int (10 : Int32), .int x0]) (σ1 := (S0, m)) rfl ?_
  refine am_AW.dvi ok_M_doCross (Nat.le_add_left 1 d) (w := (am_rem x0 (10 : Int32))) (Or.inr ⟨rfl, rfl⟩) rfl (by decide) ?_
  refine am_AW.run am_base_ok ok_M_doCross (Nat.le_add_left 1 d) 3 (pc1 := 13) (ls1 := [some (.int x0), some (.int x1), some (.int (x0 / (10 : Int32))), some (.int (am_rem x0 (10 : Int32))), none, none]) (st1 := [.int (10 : Int32), .int x1]) (σ1 := (S0, m)) rfl ?_
  refine am_AW.dvi ok_M_doCross (Nat.le_add_left 1 d) (w := (x1 / (10 : Int32))) (Or.inl ⟨rfl, rfl⟩) rfl (by decide) ?_
  refine am_AW.run am_base_ok ok_M_doCross (Nat.le_add_left 1 d) 3 (pc1 := 19) (ls1 := [some (.int x0), some (.int x1), some (.int (x0 / (10 : Int32))), some (.int (am_rem x0 (10 : Int32))), some (.int (x1 / (10 : Int32))), none]) (st1 := [.int (10 : Int32), .int x1]) (σ1 := (S0, m)) rfl ?_
  refine am_AW.dvi ok_M_doCross (Nat.le_add_left 1 d) (w := (am_rem x1 (10 : Int32))) (Or.inr ⟨rfl, rfl⟩) rfl (by decide) ?_
  refine am_AW.run am_base_ok ok_M_doCross (Nat.le_add_left 1 d) 3 (pc1 := 25) (ls1 := [some (.int x0), some (.int x1), some (.int (x0 / (10 : Int32))), some (.int (am_rem x0 (10 : Int32))), some (.int (x1 / (10 : Int32))), some (.int (am_rem x1 (10 : Int32)))]) (st1 := [.int (x1 / (10 : Int32)), .int (x0 / (10 : Int32))]) (σ1 := (S0, m)) rfl ?_
  refine am_AW.brP ok_M_doCross rfl rfl am_c_eq (fun c1 => ?_) (fun c1 => ?_)
  · rw [if_pos c1] at h
    refine am_AW.run am_base_ok ok_M_doCross (Nat.le_add_left 1 d) 1 (pc1 := 68) (ls1 := [some (.int x0), some (.int x1), some (.int (x0 / (10 : Int32))), some (.int (am_rem x0 (10 : Int32))), some (.int (x1 / (10 : Int32))), some (.int (am_rem x1 (10 : Int32)))]) (st1 := [.int (0 : Int32)]) (σ1 := (S0, m)) rfl ?_
    obtain ⟨rfl, rfl⟩ := Prod.mk.inj (Option.some.inj h)
    exact am_AW.ret ok_M_doCross rfl rfl rfl (by decide)
  · rw [if_neg c1] at h
    refine am_AW.run am_base_ok ok_M_doCross (Nat.le_add_left 1 d) 2 (pc1 := 31) (ls1 := [some (.int x0), some (.int x1), some (.int (x0 / (10 : Int32))), some (.int (am_rem x0 (10 : Int32))), some (.int (x1 / (10 : Int32))), some (.int (am_rem x1 (10 : Int32)))]) (st1 := [.int (am_rem x1 (10 : Int32)), .int (x0 / (10 : Int32))]) (σ1 := (S0, m)) rfl ?_
    refine am_AW.brP ok_M_doCross rfl rfl am_c_eq (fun c2 => ?_) (fun c2 => ?_)
    · rw [if_pos c2] at h
      refine am_AW.run am_base_ok ok_M_doCross (Nat.le_add_left 1 d) 1 (pc1 := 68) (ls1 := [some (.int x0), some (.int x1), some (.int (x0 / (10 : Int32))), some (.int (am_rem x0 (10 : Int32))), some (.int (x1 / (10 : Int32))), some (.int (am_rem x1 (10 : Int32)))]) (st1 := [.int (0 : Int32)]) (σ1 := (S0, m)) rfl ?_
      obtain ⟨rfl, rfl⟩ := Prod.mk.inj (Option.some.inj h)
      exact am_AW.ret ok_M_doCross rfl rfl rfl (by decide)
    · rw [if_neg c2] at h
      refine am_AW.run am_base_ok ok_M_doCross (Nat.le_add_left 1 d) 2 (pc1 := 37) (ls1 := [some (.int x0), some (.int x1), some (.int (x0 / (10 : Int32))), some (.int (am_rem x0 (10 : Int32))), some (.int (x1 / (10 : Int32))), some (.int (am_rem x1 (10 : Int32)))]) (st1 := [.int (x1 / (10 : Int32)), .int (am_rem x0 (10 : Int32))]) (σ1 := (S0, m)) rfl ?_
      refine am_AW.brP ok_M_doCross rfl rfl am_c_eq (fun c3 => ?_) (fun c3 => ?_)
      · rw [if_pos c3] at h
        refine am_AW.run am_base_ok ok_M_doCross (Nat.le_add_left 1 d) 1 (pc1 := 68) (ls1 := [some (.int x0), some (.int x1), some (.int (x0 / (10 : Int32))), some (.int (am_rem x0 (10 : Int32))), some (.int (x1 / (10 : Int32))), some (.int (am_rem x1 (10 : Int32)))]) (st1 := [.int (0 : Int32)]) (σ1 := (S0, m)) rfl ?_
        obtain ⟨rfl, rfl⟩ := Prod.mk.inj (Option.some.inj h)
        exact am_AW.ret ok_M_doCross rfl rfl rfl (by decide)
      · rw [if_neg c3] at h
        refine am_AW.run am_base_ok ok_M_doCross (Nat.le_add_left 1 d) 2 (pc1 := 43) (ls1 := [some (.int x0), some (.int x1), some (.int (x0 / (10 : Int32))), some (.int (am_rem x0 (10 : Int32))), some (.int (x1 / (10 : Int32))), some (.int (am_rem x1 (10 : Int32)))]) (st1 := [.int (am_rem x1 (10 : Int32)), .int (am_rem x0 (10 : Int32))]) (σ1 := (S0, m)) rfl ?_
        refine am_AW.brP ok_M_doCross rfl rfl am_c_eq (fun c4 => ?_) (fun c4 => ?_)
        · rw [if_pos c4] at h
          refine am_AW.run am_base_ok ok_M_doCross (Nat.le_add_left 1 d) 1 (pc1 := 68) (ls1 := [some (.int x0), some (.int x1), some (.int (x0 / (10 : Int32))), some (.int (am_rem x0 (10 : Int32))), some (.int (x1 / (10 : Int32))), some (.int (am_rem x1 (10 : Int32)))]) (st1 := [.int (0 : Int32)]) (σ1 := (S0, m)) rfl ?_
          obtain ⟨rfl, rfl⟩ := Prod.mk.inj (Option.some.inj h)
          exact am_AW.ret ok_M_doCross rfl rfl rfl (by decide)
        · rw [if_neg c4] at h
          refine am_AW.run am_base_ok ok_M_doCross (Nat.le_add_left 1 d) 3 (pc1 := 50) (ls1 := [some (.int x0), some (.int x1), some (.int (x0 / (10 : Int32))), some (.int (am_rem x0 (10 : Int32))), some (.int (x1 / (10 : Int32))), some (.int (am_rem x1 (10 : Int32)))]) (st1 := [.int (am_rem x0 (10 : Int32)), .int (x0 / (10 : Int32)), .int (x1 / (10 : Int32))]) (σ1 := (S0, m)) rfl ?_
          obtain ⟨q7, hq7, h⟩ := Option.bind_eq_some_iff.mp h
          refine am_AW.callS ok_M_doCross am_nw_ok (As := [.int (x1 / (10 : Int32)), .int (x0 / (10 : Int32)), .int (am_rem x0 (10 : Int32))]) (rest := []) rfl rfl rfl oR_M_isBetween lk_M_83 sT_M_isBetween rfl (Nat.le_of_ble_eq_true rfl) (f_M_isBetween_ok (d := d) (by omega) (x1 / (10 : Int32)) (x0 / (10 : Int32)) (am_rem x0 (10 : Int32)) hq7) ?_
          change am_AW am_nw ro (d + 1) mr_M_doCross 53 [some (.int x0), some (.int x1), some (.int (x0 / (10 : Int32))), some (.int (am_rem x0 (10 : Int32))), some (.int (x1 / (10 : Int32))), some (.int (am_rem x1 (10 : Int32)))] [.int q7.1] (S0, q7.2) (some (.int r)) (S0, m')
          refine am_AW.run am_base_ok ok_M_doCross (Nat.le_add_left 1 d) 3 (pc1 := 57) (ls1 := [some (.int x0), some (.int x1), some (.int (x0 / (10 : Int32))), some (.int (am_rem x0 (10 : Int32))), some (.int (x1 / (10 : Int32))), some (.int (am_rem x1 (10 : Int32)))]) (st1 := [.int (am_rem x0 (10 : Int32)), .int (x0 / (10 : Int32)), .int (am_rem x1 (10 : Int32)), .int q7.1]) (σ1 := (S0, q7.2)) rfl ?_
          obtain ⟨q10, hq10, h⟩ := Option.bind_eq_some_iff.mp h
          refine am_AW.callS ok_M_doCross am_nw_ok (As := [.int (am_rem x1 (10 : Int32)), .int (x0 / (10 : Int32)), .int (am_rem x0 (10 : Int32))]) (rest := [.int q7.1]) rfl rfl rfl oR_M_isBetween lk_M_83 sT_M_isBetween rfl (Nat.le_of_ble_eq_true rfl) (f_M_isBetween_ok (d := d) (by omega) (am_rem x1 (10 : Int32)) (x0 / (10 : Int32)) (am_rem x0 (10 : Int32)) hq10) ?_
          change am_AW am_nw ro (d + 1) mr_M_doCross 60 [some (.int x0), some (.int x1), some (.int (x0 / (10 : Int32))), some (.int (am_rem x0 (10 : Int32))), some (.int (x1 / (10 : Int32))), some (.int (am_rem x1 (10 : Int32)))] [.int q10.1, .int q7.1] (S0, q10.2) (some (.int r)) (S0, m')
          refine am_AW.brP ok_M_doCross rfl rfl am_c_eq (fun c11 => ?_) (fun c11 => ?_)
          · rw [if_pos c11] at h
            refine am_AW.run am_base_ok ok_M_doCross (Nat.le_add_left 1 d) 1 (pc1 := 68) (ls1 := [some (.int x0), some (.int x1), some (.int (x0 / (10 : Int32))), some (.int (am_rem x0 (10 : Int32))), some (.int (x1 / (10 : Int32))), some (.int (am_rem x1 (10 : Int32)))]) (st1 := [.int (0 : Int32)]) (σ1 := (S0, q10.2)) rfl ?_
            obtain ⟨rfl, rfl⟩ := Prod.mk.inj (Option.some.inj h)
            exact am_AW.ret ok_M_doCross rfl rfl rfl (by decide)
          · rw [if_neg c11] at h
            refine am_AW.run am_base_ok ok_M_doCross (Nat.le_add_left 1 d) 2 (pc1 := 68) (ls1 := [some (.int x0), some (.int x1), some (.int (x0 / (10 : Int32))), some (.int (am_rem x0 (10 : Int32))), some (.int (x1 / (10 : Int32))), some (.int (am_rem x1 (10 : Int32)))]) (st1 := [.int (1 : Int32)]) (σ1 := (S0, q10.2)) rfl ?_
            obtain ⟨rfl, rfl⟩ := Prod.mk.inj (Option.some.inj h)
            exact am_AW.ret ok_M_doCross rfl rfl rfl (by decide)
/-! FriezePolygonsModel.feed(I)I -/
def f_M_feed (x1 : Int32) (m : am_Mm) : Option (Int32 × am_Mm) :=
  (f_M_in (x1.toInt64) (0 : Int64) (255 : Int64) m).bind fun q3 =>
  if q3.1 = (0 : Int32) then
    some ((-1000001 : Int32), q3.2)
  else
    if (q3.2.1 63 10) = (120 : Int32) then
      some ((-1000003 : Int32), q3.2)
    else
      if am_in (q3.2.1 63 10) 120 = true then
        some (((am_pI (am_pI q3.2 71 (q3.2.1 63 10).toNatClampNeg x1) 63 10 (((am_pI q3.2 71 (q3.2.1 63 10).toNatClampNeg x1).1 63 10) + (1 : Int32))).1 63 10), (am_pI (am_pI q3.2 71 (q3.2.1 63 10).toNatClampNeg x1) 63 10 (((am_pI q3.2 71 (q3.2.1 63 10).toNatClampNeg x1).1 63 10) + (1 : Int32))))
      else none
set_option maxHeartbeats 4000000 in
set_option maxRecDepth 100000 in
theorem f_M_feed_ok {ro : am_Ro} {d : Nat} (hd : 2 ≤ d) (x1 : Int32) {m m' : am_Mm} {r : Int32} (h : f_M_feed x1 m = some (r, m')) : am_Mt am_nw ro d mr_M_feed [.ref 63, .int x1] (S0, m) (some (.int r)) (S0, m') := by
  obtain ⟨d, rfl⟩ : ∃ d0, d = d0 + 1 := ⟨d - 1, by omega⟩
  refine am_Mt.of (by decide +kernel) (Nat.le_of_ble_eq_true rfl) ?_
  change am_AW am_nw ro (d + 1) mr_M_feed 0 [some (.ref 63), some (.int x1)] [] (S0, m) (some (.int r)) (S0, m')
  unfold f_M_feed at h
  refine am_AW.run am_base_ok ok_M_feed (Nat.le_add_left 1 d) 4 (pc1 := 6) (ls1 := [some (.ref 63), some (.int x1)]) (st1 := [.long (255 : Int64), .long (0 : Int64), .long (x1.toInt64)]) (σ1 := (S0, m)) rfl ?_
  obtain ⟨q3, hq3, h⟩ := Option.bind_eq_some_iff.mp h
  refine am_AW.callS ok_M_feed am_nw_ok (As := [.long (x1.toInt64), .long (0 : Int64), .long (255 : Int64)]) (rest := []) rfl rfl rfl oR_M_in lk_M_60 sT_M_in rfl (Nat.le_of_ble_eq_true rfl) (f_M_in_ok (d := d) (by omega) (x1.toInt64) (0 : Int64) (255 : Int64) hq3) ?_
  change am_AW am_nw ro (d + 1) mr_M_feed 9 [some (.ref 63), some (.int x1)] [.int q3.1] (S0, q3.2) (some (.int r)) (S0, m')
  refine am_AW.brN ok_M_feed rfl rfl am_c_ne (fun c4 => ?_) (fun c4 => ?_)
  · rw [if_pos c4] at h
    refine am_AW.run am_base_ok ok_M_feed (Nat.le_add_left 1 d) 1 (pc1 := 14) (ls1 := [some (.ref 63), some (.int x1)]) (st1 := [.int (-1000001 : Int32)]) (σ1 := (S0, q3.2)) rfl ?_
    obtain ⟨rfl, rfl⟩ := Prod.mk.inj (Option.some.inj h)
    exact am_AW.ret ok_M_feed rfl rfl rfl rfl
  · rw [if_neg c4] at h
    refine am_AW.run am_base_ok ok_M_feed (Nat.le_add_left 1 d) 3 (pc1 := 21) (ls1 := [some (.ref 63), some (.int x1)]) (st1 := [.int (120 : Int32), .int (q3.2.1 63 10)]) (σ1 := (S0, q3.2)) rfl ?_
    refine am_AW.brN ok_M_feed rfl rfl am_c_ne (fun c5 => ?_) (fun c5 => ?_)
    · rw [if_pos c5] at h
      refine am_AW.run am_base_ok ok_M_feed (Nat.le_add_left 1 d) 1 (pc1 := 26) (ls1 := [some (.ref 63), some (.int x1)]) (st1 := [.int (-1000003 : Int32)]) (σ1 := (S0, q3.2)) rfl ?_
      obtain ⟨rfl, rfl⟩ := Prod.mk.inj (Option.some.inj h)
      exact am_AW.ret ok_M_feed rfl rfl rfl rfl
    · rw [if_neg c5] at h
      refine am_AW.run am_base_ok ok_M_feed (Nat.le_add_left 1 d) 5 (pc1 := 36) (ls1 := [some (.ref 63), some (.int x1)]) (st1 := [.int x1, .int (q3.2.1 63 10), .ref 71]) (σ1 := (S0, q3.2)) rfl ?_
      by_cases g6 : am_in (q3.2.1 63 10) 120 = true
      rotate_left
      · rw [if_neg g6] at h
        cases h
      rw [if_pos g6] at h
      refine am_AW.iast ok_M_feed (Nat.le_add_left 1 d) rfl rfl g6 ?_
      change am_AW am_nw ro (d + 1) mr_M_feed 37 [some (.ref 63), some (.int x1)] [] (S0, (am_pI q3.2 71 (q3.2.1 63 10).toNatClampNeg x1)) (some (.int r)) (S0, m')
      refine am_AW.run am_base_ok ok_M_feed (Nat.le_add_left 1 d) 5 (pc1 := 44) (ls1 := [some (.ref 63), some (.int x1)]) (st1 := [.int (((am_pI q3.2 71 (q3.2.1 63 10).toNatClampNeg x1).1 63 10) + (1 : Int32)), .ref 63]) (σ1 := (S0, (am_pI q3.2 71 (q3.2.1 63 10).toNatClampNeg x1))) rfl ?_
      refine am_AW.puti ok_M_feed (Nat.le_add_left 1 d) rfl rfl rfl (qc := kq10) rfl (by decide) ty_10_10 ?_
      refine am_AW.run am_base_ok ok_M_feed (Nat.le_add_left 1 d) 2 (pc1 := 51) (ls1 := [some (.ref 63), some (.int x1)]) (st1 := [.int ((am_pI (am_pI q3.2 71 (q3.2.1 63 10).toNatClampNeg x1) 63 10 (((am_pI q3.2 71 (q3.2.1 63 10).toNatClampNeg x1).1 63 10) + (1 : Int32))).1 63 10)]) (σ1 := (S0, (am_pI (am_pI q3.2 71 (q3.2.1 63 10).toNatClampNeg x1) 63 10 (((am_pI q3.2 71 (q3.2.1 63 10).toNatClampNeg x1).1 63 10) + (1 : Int32))))) rfl ?_
      obtain ⟨rfl, rfl⟩ := Prod.mk.inj (Option.some.inj h)
      exact am_AW.ret ok_M_feed rfl rfl rfl rfl
/-! FriezePolygonsModel.nextToken()V -/
def f_M_nextToken_b274 (s1 : Int32) (m : am_Mm) : Option am_Mm :=
  some (am_pI m 63 13 s1)
def f_M_nextToken_b255 (m : am_Mm) : Option am_Mm :=
  if ((m.1 63 11) - (m.1 63 12)) ≤ (2 : Int32) then
    f_M_nextToken_b274 (3 : Int32) m
  else
    f_M_nextToken_b274 (0 : Int32) m
def f_M_nextToken_b239 (k165 : am_Mm → Option am_Mm) (s1 : Int32) (m : am_Mm) : Option am_Mm :=
  k165 (am_pI (am_pI m 63 14 s1) 63 11 (((am_pI m 63 14 s1).1 63 11) + (1 : Int32)))
def f_M_nextToken_b165 : Nat → am_Mm → Option am_Mm
  | 0, _ => none
  | n + 1, m =>
    if (m.1 63 10) ≤ (m.1 63 11) then
      f_M_nextToken_b255 m
    else
      if am_in (m.1 63 11) 120 = true then
        (f_M_in ((m.1 71 (m.1 63 11).toNatClampNeg).toInt64) (48 : Int64) (57 : Int64) m).bind fun q10 =>
        if q10.1 = (0 : Int32) then
          f_M_nextToken_b255 q10.2
        else
          if (2 : Int32) ≤ ((q10.2.1 63 11) - (q10.2.1 63 12)) then
            f_M_nextToken_b239 (f_M_nextToken_b165 n) (q10.2.1 63 14) q10.2
          else
            if am_in (q10.2.1 63 11) 120 = true then
              f_M_nextToken_b239 (f_M_nextToken_b165 n) ((((10 : Int32) * (q10.2.1 63 14)) + (q10.2.1 71 (q10.2.1 63 11).toNatClampNeg)) - (48 : Int32)) q10.2
            else none
      else none
def f_M_nextToken_b142 (s1 : Int32) (s2 : Int32) (m : am_Mm) : Option am_Mm :=
  if ((am_pI m 63 11 (s1 + s2)).1 63 13) = (3 : Int32) then
    f_M_nextToken_b165 am_F (am_pI (am_pI m 63 11 (s1 + s2)) 63 14 (((am_pI m 63 11 (s1 + s2)).1 63 14) - (48 : Int32)))
  else
    some (am_pI m 63 11 (s1 + s2))
def f_M_nextToken_b118 (s1 : Int32) (m : am_Mm) : Option am_Mm :=
  if ((am_pI m 63 13 s1).1 63 10) ≤ ((am_pI m 63 13 s1).1 63 11) then
    f_M_nextToken_b142 ((am_pI m 63 13 s1).1 63 11) (0 : Int32) (am_pI m 63 13 s1)
  else
    f_M_nextToken_b142 ((am_pI m 63 13 s1).1 63 11) (1 : Int32) (am_pI m 63 13 s1)
def f_M_nextToken_b34 (s1 : Int32) (m : am_Mm) : Option am_Mm :=
  if ((am_pI m 63 14 s1).1 63 11) = ((am_pI m 63 14 s1).1 63 10) then
    f_M_nextToken_b118 (1 : Int32) (am_pI m 63 14 s1)
  else
    (f_M_in (((am_pI m 63 14 s1).1 63 14).toInt64) (97 : Int64) (122 : Int64) (am_pI m 63 14 s1)).bind fun q16 =>
    if q16.1 = (0 : Int32) then
      (f_M_in ((q16.2.1 63 14).toInt64) (48 : Int64) (57 : Int64) q16.2).bind fun q20 =>
      if q20.1 = (0 : Int32) then
        if (q20.2.1 63 14) = (44 : Int32) then
          f_M_nextToken_b118 (4 : Int32) q20.2
        else
          if (q20.2.1 63 14) = (59 : Int32) then
            f_M_nextToken_b118 (4 : Int32) q20.2
          else
            f_M_nextToken_b118 (0 : Int32) q20.2
      else
        f_M_nextToken_b118 (3 : Int32) q20.2
    else
      f_M_nextToken_b118 (2 : Int32) q16.2
def f_M_nextToken (m : am_Mm) : Option am_Mm :=
  if ((am_pI m 63 12 (m.1 63 11)).1 63 10) ≤ ((am_pI m 63 12 (m.1 63 11)).1 63 11) then
    f_M_nextToken_b34 (-1000000 : Int32) (am_pI m 63 12 (m.1 63 11))
  else
    if am_in ((am_pI m 63 12 (m.1 63 11)).1 63 11) 120 = true then
      f_M_nextToken_b34 ((am_pI m 63 12 (m.1 63 11)).1 71 ((am_pI m 63 12 (m.1 63 11)).1 63 11).toNatClampNeg) (am_pI m 63 12 (m.1 63 11))
    else none
set_option maxHeartbeats 4000000 in
set_option maxRecDepth 100000 in
theorem f_M_nextToken_b274_ok {ro : am_Ro} {d : Nat} (hd : 2 ≤ d + 1) (s1 : Int32) {m m' : am_Mm} (h : f_M_nextToken_b274 s1 m = some m') : am_AW am_nw ro (d + 1) mr_M_nextToken 274 [none] [.int s1, .ref 63] (S0, m) none (S0, m') := by
  unfold f_M_nextToken_b274 at h
  refine am_AW.puti ok_M_nextToken (Nat.le_add_left 1 d) rfl rfl rfl (qc := kq10) rfl (by decide) ty_10_13 ?_
  obtain rfl := Option.some.inj h
  exact am_AW.ret ok_M_nextToken rfl rfl rfl rfl
set_option maxHeartbeats 4000000 in
set_option maxRecDepth 100000 in
theorem f_M_nextToken_b255_ok {ro : am_Ro} {d : Nat} (hd : 2 ≤ d + 1) {m m' : am_Mm} (h : f_M_nextToken_b255  m = some m') : am_AW am_nw ro (d + 1) mr_M_nextToken 255 [some (.ref 63)] [] (S0, m) none (S0, m') := by
  unfold f_M_nextToken_b255 at h
  refine am_AW.run am_base_ok ok_M_nextToken (Nat.le_add_left 1 d) 7 (pc1 := 266) (ls1 := [some (.ref 63)]) (st1 := [.int (2 : Int32), .int ((m.1 63 11) - (m.1 63 12)), .ref 63]) (σ1 := (S0, m)) rfl ?_
  refine am_AW.brP ok_M_nextToken rfl rfl am_c_le (fun c6 => ?_) (fun c6 => ?_)
  · rw [if_pos c6] at h
    refine am_AW.run am_base_ok ok_M_nextToken (Nat.le_add_left 1 d) 1 (pc1 := 274) (ls1 := [some (.ref 63)]) (st1 := [.int (3 : Int32), .ref 63]) (σ1 := (S0, m)) rfl ?_
    exact am_AW.weak (f_M_nextToken_b274_ok hd (3 : Int32)  h) (by simp only [am_le, and_self])
  · rw [if_neg c6] at h
    refine am_AW.run am_base_ok ok_M_nextToken (Nat.le_add_left 1 d) 2 (pc1 := 274) (ls1 := [some (.ref 63)]) (st1 := [.int (0 : Int32), .ref 63]) (σ1 := (S0, m)) rfl ?_
    exact am_AW.weak (f_M_nextToken_b274_ok hd (0 : Int32)  h) (by simp only [am_le, and_self])
set_option maxHeartbeats 4000000 in
set_option maxRecDepth 100000 in
theorem f_M_nextToken_b239_ok {ro : am_Ro} {d : Nat} (hd : 2 ≤ d + 1) {k165 : am_Mm → Option am_Mm} (hk165 : ∀ (m m' : am_Mm), k165  m = some m' → am_AW am_nw ro (d + 1) mr_M_nextToken 165 [some (.ref 63)] [] (S0, m) none (S0, m')) (s1 : Int32) {m m' : am_Mm} (h : f_M_nextToken_b239 k165 s1 m = some m') : am_AW am_nw ro (d + 1) mr_M_nextToken 239 [some (.ref 63)] [.int s1, .ref 63] (S0, m) none (S0, m') := by
  unfold f_M_nextToken_b239 at h
  refine am_AW.puti ok_M_nextToken (Nat.le_add_left 1 d) rfl rfl rfl (qc := kq10) rfl (by decide) ty_10_14 ?_
  refine am_AW.run am_base_ok ok_M_nextToken (Nat.le_add_left 1 d) 5 (pc1 := 249) (ls1 := [some (.ref 63)]) (st1 := [.int (((am_pI m 63 14 s1).1 63 11) + (1 : Int32)), .ref 63]) (σ1 := (S0, (am_pI m 63 14 s1))) rfl ?_
  refine am_AW.puti ok_M_nextToken (Nat.le_add_left 1 d) rfl rfl rfl (qc := kq10) rfl (by decide) ty_10_11 ?_
  refine am_AW.run am_base_ok ok_M_nextToken (Nat.le_add_left 1 d) 1 (pc1 := 165) (ls1 := [some (.ref 63)]) (st1 := []) (σ1 := (S0, (am_pI (am_pI m 63 14 s1) 63 11 (((am_pI m 63 14 s1).1 63 11) + (1 : Int32))))) rfl ?_
  exact am_AW.weak (hk165   _ _ h) (by simp only [am_le, and_self])
set_option maxHeartbeats 4000000 in
set_option maxRecDepth 100000 in
theorem f_M_nextToken_b165_all {ro : am_Ro} {d : Nat} (hd : 2 ≤ d + 1) : ∀ (n : Nat) (m m' : am_Mm), f_M_nextToken_b165 n  m = some m' → am_AW am_nw ro (d + 1) mr_M_nextToken 165 [some (.ref 63)] [] (S0, m) none (S0, m') := by
  intro n
  induction n with
  | zero =>
    intro m m' h
    rw [f_M_nextToken_b165] at h
    cases h
  | succ n ih =>
    intro m m' h
    rw [f_M_nextToken_b165] at h
    refine am_AW.run am_base_ok ok_M_nextToken (Nat.le_add_left 1 d) 4 (pc1 := 173) (ls1 := [some (.ref 63)]) (st1 := [.int (m.1 63 10), .int (m.1 63 11)]) (σ1 := (S0, m)) rfl ?_
    refine am_AW.brP ok_M_nextToken rfl rfl am_c_ge (fun c5 => ?_) (fun c5 => ?_)
    · rw [if_pos c5] at h
      exact am_AW.weak (f_M_nextToken_b255_ok hd   h) (by simp only [am_le, and_self])
    · rw [if_neg c5] at h
      refine am_AW.run am_base_ok ok_M_nextToken (Nat.le_add_left 1 d) 4 (pc1 := 184) (ls1 := [some (.ref 63)]) (st1 := [.int (m.1 63 11), .ref 71]) (σ1 := (S0, m)) rfl ?_
      by_cases g7 : am_in (m.1 63 11) 120 = true
      rotate_left
      · rw [if_neg g7] at h
        cases h
      rw [if_pos g7] at h
      refine am_AW.iald ok_M_nextToken (Nat.le_add_left 1 d) S0_len rfl rfl g7 ?_
      refine am_AW.run am_base_ok ok_M_nextToken (Nat.le_add_left 1 d) 3 (pc1 := 192) (ls1 := [some (.ref 63)]) (st1 := [.long (57 : Int64), .long (48 : Int64), .long ((m.1 71 (m.1 63 11).toNatClampNeg).toInt64)]) (σ1 := (S0, m)) rfl ?_
      obtain ⟨q10, hq10, h⟩ := Option.bind_eq_some_iff.mp h
      refine am_AW.callS ok_M_nextToken am_nw_ok (As := [.long ((m.1 71 (m.1 63 11).toNatClampNeg).toInt64), .long (48 : Int64), .long (57 : Int64)]) (rest := []) rfl rfl rfl oR_M_in lk_M_60 sT_M_in rfl (Nat.le_of_ble_eq_true rfl) (f_M_in_ok (d := d) (by omega) ((m.1 71 (m.1 63 11).toNatClampNeg).toInt64) (48 : Int64) (57 : Int64) hq10) ?_
      change am_AW am_nw ro (d + 1) mr_M_nextToken 195 [some (.ref 63)] [.int q10.1] (S0, q10.2) none (S0, m')
      refine am_AW.brP ok_M_nextToken rfl rfl am_c_eq (fun c11 => ?_) (fun c11 => ?_)
      · rw [if_pos c11] at h
        exact am_AW.weak (f_M_nextToken_b255_ok hd   h) (by simp only [am_le, and_self])
      · rw [if_neg c11] at h
        refine am_AW.run am_base_ok ok_M_nextToken (Nat.le_add_left 1 d) 7 (pc1 := 209) (ls1 := [some (.ref 63)]) (st1 := [.int (2 : Int32), .int ((q10.2.1 63 11) - (q10.2.1 63 12)), .ref 63]) (σ1 := (S0, q10.2)) rfl ?_
        refine am_AW.brP ok_M_nextToken rfl rfl am_c_ge (fun c12 => ?_) (fun c12 => ?_)
        · rw [if_pos c12] at h
          refine am_AW.run am_base_ok ok_M_nextToken (Nat.le_add_left 1 d) 2 (pc1 := 239) (ls1 := [some (.ref 63)]) (st1 := [.int (q10.2.1 63 14), .ref 63]) (σ1 := (S0, q10.2)) rfl ?_
          exact am_AW.weak (f_M_nextToken_b239_ok hd (ih) (q10.2.1 63 14)  h) (by simp only [am_le, and_self])
        · rw [if_neg c12] at h
          refine am_AW.run am_base_ok ok_M_nextToken (Nat.le_add_left 1 d) 8 (pc1 := 227) (ls1 := [some (.ref 63)]) (st1 := [.int (q10.2.1 63 11), .ref 71, .int ((10 : Int32) * (q10.2.1 63 14)), .ref 63]) (σ1 := (S0, q10.2)) rfl ?_
          by_cases g13 : am_in (q10.2.1 63 11) 120 = true
          rotate_left
          · rw [if_neg g13] at h
            cases h
          rw [if_pos g13] at h
          refine am_AW.iald ok_M_nextToken (Nat.le_add_left 1 d) S0_len rfl rfl g13 ?_
          refine am_AW.run am_base_ok ok_M_nextToken (Nat.le_add_left 1 d) 4 (pc1 := 239) (ls1 := [some (.ref 63)]) (st1 := [.int ((((10 : Int32) * (q10.2.1 63 14)) + (q10.2.1 71 (q10.2.1 63 11).toNatClampNeg)) - (48 : Int32)), .ref 63]) (σ1 := (S0, q10.2)) rfl ?_
          exact am_AW.weak (f_M_nextToken_b239_ok hd (ih) ((((10 : Int32) * (q10.2.1 63 14)) + (q10.2.1 71 (q10.2.1 63 11).toNatClampNeg)) - (48 : Int32))  h) (by simp only [am_le, and_self])
set_option maxHeartbeats 4000000 in
set_option maxRecDepth 100000 in
theorem f_M_nextToken_b165_ok {ro : am_Ro} {d : Nat} (hd : 2 ≤ d + 1) {m m' : am_Mm} {n : Nat} (h : f_M_nextToken_b165 n  m = some m') : am_AW am_nw ro (d + 1) mr_M_nextToken 165 [some (.ref 63)] [] (S0, m) none (S0, m') :=
  f_M_nextToken_b165_all hd n   m m' h
set_option maxHeartbeats 4000000 in
set_option maxRecDepth 100000 in
theorem f_M_nextToken_b142_ok {ro : am_Ro} {d : Nat} (hd : 2 ≤ d + 1) (s1 : Int32) (s2 : Int32) {m m' : am_Mm} (h : f_M_nextToken_b142 s1 s2 m = some m') : am_AW am_nw ro (d + 1) mr_M_nextToken 142 [some (.ref 63)] [.int s2, .int s1, .ref 63] (S0, m) none (S0, m') := by
  unfold f_M_nextToken_b142 at h
  refine am_AW.run am_base_ok ok_M_nextToken (Nat.le_add_left 1 d) 1 (pc1 := 143) (ls1 := [some (.ref 63)]) (st1 := [.int (s1 + s2), .ref 63]) (σ1 := (S0, m)) rfl ?_
  refine am_AW.puti ok_M_nextToken (Nat.le_add_left 1 d) rfl rfl rfl (qc := kq10) rfl (by decide) ty_10_11 ?_
  refine am_AW.run am_base_ok ok_M_nextToken (Nat.le_add_left 1 d) 3 (pc1 := 151) (ls1 := [some (.ref 63)]) (st1 := [.int (3 : Int32), .int ((am_pI m 63 11 (s1 + s2)).1 63 13)]) (σ1 := (S0, (am_pI m 63 11 (s1 + s2)))) rfl ?_
  refine am_AW.brN ok_M_nextToken rfl rfl am_c_ne (fun c4 => ?_) (fun c4 => ?_)
  · rw [if_pos c4] at h
    refine am_AW.run am_base_ok ok_M_nextToken (Nat.le_add_left 1 d) 5 (pc1 := 162) (ls1 := [some (.ref 63)]) (st1 := [.int (((am_pI m 63 11 (s1 + s2)).1 63 14) - (48 : Int32)), .ref 63]) (σ1 := (S0, (am_pI m 63 11 (s1 + s2)))) rfl ?_
    refine am_AW.puti ok_M_nextToken (Nat.le_add_left 1 d) rfl rfl rfl (qc := kq10) rfl (by decide) ty_10_14 ?_
    exact am_AW.weak (f_M_nextToken_b165_ok hd   h) (by simp only [am_le, and_self])
  · rw [if_neg c4] at h
    obtain rfl := Option.some.inj h
    exact am_AW.ret ok_M_nextToken rfl rfl rfl rfl
set_option maxHeartbeats 4000000 in
set_option maxRecDepth 100000 in
theorem f_M_nextToken_b118_ok {ro : am_Ro} {d : Nat} (hd : 2 ≤ d + 1) (s1 : Int32) {m m' : am_Mm} (h : f_M_nextToken_b118 s1 m = some m') : am_AW am_nw ro (d + 1) mr_M_nextToken 118 [some (.ref 63)] [.int s1, .ref 63] (S0, m) none (S0, m') := by
  unfold f_M_nextToken_b118 at h
  refine am_AW.puti ok_M_nextToken (Nat.le_add_left 1 d) rfl rfl rfl (qc := kq10) rfl (by decide) ty_10_13 ?_
  refine am_AW.run am_base_ok ok_M_nextToken (Nat.le_add_left 1 d) 7 (pc1 := 134) (ls1 := [some (.ref 63)]) (st1 := [.int ((am_pI m 63 13 s1).1 63 10), .int ((am_pI m 63 13 s1).1 63 11), .int ((am_pI m 63 13 s1).1 63 11), .ref 63]) (σ1 := (S0, (am_pI m 63 13 s1))) rfl ?_
  refine am_AW.brP ok_M_nextToken rfl rfl am_c_ge (fun c3 => ?_) (fun c3 => ?_)
  · rw [if_pos c3] at h
    refine am_AW.run am_base_ok ok_M_nextToken (Nat.le_add_left 1 d) 1 (pc1 := 142) (ls1 := [some (.ref 63)]) (st1 := [.int (0 : Int32), .int ((am_pI m 63 13 s1).1 63 11), .ref 63]) (σ1 := (S0, (am_pI m 63 13 s1))) rfl ?_
    exact am_AW.weak (f_M_nextToken_b142_ok hd ((am_pI m 63 13 s1).1 63 11) (0 : Int32)  h) (by simp only [am_le, and_self])
  · rw [if_neg c3] at h
    refine am_AW.run am_base_ok ok_M_nextToken (Nat.le_add_left 1 d) 2 (pc1 := 142) (ls1 := [some (.ref 63)]) (st1 := [.int (1 : Int32), .int ((am_pI m 63 13 s1).1 63 11), .ref 63]) (σ1 := (S0, (am_pI m 63 13 s1))) rfl ?_
    exact am_AW.weak (f_M_nextToken_b142_ok hd ((am_pI m 63 13 s1).1 63 11) (1 : Int32)  h) (by simp only [am_le, and_self])
set_option maxHeartbeats 4000000 in
set_option maxRecDepth 100000 in
theorem f_M_nextToken_b34_ok {ro : am_Ro} {d : Nat} (hd : 2 ≤ d + 1) (s1 : Int32) {m m' : am_Mm} (h : f_M_nextToken_b34 s1 m = some m') : am_AW am_nw ro (d + 1) mr_M_nextToken 34 [some (.ref 63)] [.int s1, .ref 63] (S0, m) none (S0, m') := by
  unfold f_M_nextToken_b34 at h
  refine am_AW.puti ok_M_nextToken (Nat.le_add_left 1 d) rfl rfl rfl (qc := kq10) rfl (by decide) ty_10_14 ?_
  refine am_AW.run am_base_ok ok_M_nextToken (Nat.le_add_left 1 d) 5 (pc1 := 46) (ls1 := [some (.ref 63)]) (st1 := [.int ((am_pI m 63 14 s1).1 63 10), .int ((am_pI m 63 14 s1).1 63 11), .ref 63]) (σ1 := (S0, (am_pI m 63 14 s1))) rfl ?_
  refine am_AW.brN ok_M_nextToken rfl rfl am_c_ne (fun c2 => ?_) (fun c2 => ?_)
  · rw [if_pos c2] at h
    refine am_AW.run am_base_ok ok_M_nextToken (Nat.le_add_left 1 d) 2 (pc1 := 118) (ls1 := [some (.ref 63)]) (st1 := [.int (1 : Int32), .ref 63]) (σ1 := (S0, (am_pI m 63 14 s1))) rfl ?_
    exact am_AW.weak (f_M_nextToken_b118_ok hd (1 : Int32)  h) (by simp only [am_le, and_self])
  · rw [if_neg c2] at h
    refine am_AW.run am_base_ok ok_M_nextToken (Nat.le_add_left 1 d) 5 (pc1 := 64) (ls1 := [some (.ref 63)]) (st1 := [.long (122 : Int64), .long (97 : Int64), .long (((am_pI m 63 14 s1).1 63 14).toInt64), .ref 63]) (σ1 := (S0, (am_pI m 63 14 s1))) rfl ?_
    obtain ⟨q16, hq16, h⟩ := Option.bind_eq_some_iff.mp h
    refine am_AW.callS ok_M_nextToken am_nw_ok (As := [.long (((am_pI m 63 14 s1).1 63 14).toInt64), .long (97 : Int64), .long (122 : Int64)]) (rest := [.ref 63]) rfl rfl rfl oR_M_in lk_M_60 sT_M_in rfl (Nat.le_of_ble_eq_true rfl) (f_M_in_ok (d := d) (by omega) (((am_pI m 63 14 s1).1 63 14).toInt64) (97 : Int64) (122 : Int64) hq16) ?_
    change am_AW am_nw ro (d + 1) mr_M_nextToken 67 [some (.ref 63)] [.int q16.1, .ref 63] (S0, q16.2) none (S0, m')
    refine am_AW.brP ok_M_nextToken rfl rfl am_c_eq (fun c17 => ?_) (fun c17 => ?_)
    · rw [if_pos c17] at h
      refine am_AW.run am_base_ok ok_M_nextToken (Nat.le_add_left 1 d) 5 (pc1 := 85) (ls1 := [some (.ref 63)]) (st1 := [.long (57 : Int64), .long (48 : Int64), .long ((q16.2.1 63 14).toInt64), .ref 63]) (σ1 := (S0, q16.2)) rfl ?_
      obtain ⟨q20, hq20, h⟩ := Option.bind_eq_some_iff.mp h
      refine am_AW.callS ok_M_nextToken am_nw_ok (As := [.long ((q16.2.1 63 14).toInt64), .long (48 : Int64), .long (57 : Int64)]) (rest := [.ref 63]) rfl rfl rfl oR_M_in lk_M_60 sT_M_in rfl (Nat.le_of_ble_eq_true rfl) (f_M_in_ok (d := d) (by omega) ((q16.2.1 63 14).toInt64) (48 : Int64) (57 : Int64) hq20) ?_
      change am_AW am_nw ro (d + 1) mr_M_nextToken 88 [some (.ref 63)] [.int q20.1, .ref 63] (S0, q20.2) none (S0, m')
      refine am_AW.brP ok_M_nextToken rfl rfl am_c_eq (fun c21 => ?_) (fun c21 => ?_)
      · rw [if_pos c21] at h
        refine am_AW.run am_base_ok ok_M_nextToken (Nat.le_add_left 1 d) 3 (pc1 := 101) (ls1 := [some (.ref 63)]) (st1 := [.int (44 : Int32), .int (q20.2.1 63 14), .ref 63]) (σ1 := (S0, q20.2)) rfl ?_
        refine am_AW.brP ok_M_nextToken rfl rfl am_c_eq (fun c22 => ?_) (fun c22 => ?_)
        · rw [if_pos c22] at h
          refine am_AW.run am_base_ok ok_M_nextToken (Nat.le_add_left 1 d) 2 (pc1 := 118) (ls1 := [some (.ref 63)]) (st1 := [.int (4 : Int32), .ref 63]) (σ1 := (S0, q20.2)) rfl ?_
          exact am_AW.weak (f_M_nextToken_b118_ok hd (4 : Int32)  h) (by simp only [am_le, and_self])
        · rw [if_neg c22] at h
          refine am_AW.run am_base_ok ok_M_nextToken (Nat.le_add_left 1 d) 3 (pc1 := 110) (ls1 := [some (.ref 63)]) (st1 := [.int (59 : Int32), .int (q20.2.1 63 14), .ref 63]) (σ1 := (S0, q20.2)) rfl ?_
          refine am_AW.brN ok_M_nextToken rfl rfl am_c_ne (fun c23 => ?_) (fun c23 => ?_)
          · rw [if_pos c23] at h
            refine am_AW.run am_base_ok ok_M_nextToken (Nat.le_add_left 1 d) 2 (pc1 := 118) (ls1 := [some (.ref 63)]) (st1 := [.int (4 : Int32), .ref 63]) (σ1 := (S0, q20.2)) rfl ?_
            exact am_AW.weak (f_M_nextToken_b118_ok hd (4 : Int32)  h) (by simp only [am_le, and_self])
          · rw [if_neg c23] at h
            refine am_AW.run am_base_ok ok_M_nextToken (Nat.le_add_left 1 d) 1 (pc1 := 118) (ls1 := [some (.ref 63)]) (st1 := [.int (0 : Int32), .ref 63]) (σ1 := (S0, q20.2)) rfl ?_
            exact am_AW.weak (f_M_nextToken_b118_ok hd (0 : Int32)  h) (by simp only [am_le, and_self])
      · rw [if_neg c21] at h
        refine am_AW.run am_base_ok ok_M_nextToken (Nat.le_add_left 1 d) 2 (pc1 := 118) (ls1 := [some (.ref 63)]) (st1 := [.int (3 : Int32), .ref 63]) (σ1 := (S0, q20.2)) rfl ?_
        exact am_AW.weak (f_M_nextToken_b118_ok hd (3 : Int32)  h) (by simp only [am_le, and_self])
    · rw [if_neg c17] at h
      refine am_AW.run am_base_ok ok_M_nextToken (Nat.le_add_left 1 d) 2 (pc1 := 118) (ls1 := [some (.ref 63)]) (st1 := [.int (2 : Int32), .ref 63]) (σ1 := (S0, q16.2)) rfl ?_
      exact am_AW.weak (f_M_nextToken_b118_ok hd (2 : Int32)  h) (by simp only [am_le, and_self])
set_option maxHeartbeats 4000000 in
set_option maxRecDepth 100000 in
theorem f_M_nextToken_ok {ro : am_Ro} {d : Nat} (hd : 2 ≤ d) {m m' : am_Mm} (h : f_M_nextToken  m = some m') : am_Mt am_nw ro d mr_M_nextToken [.ref 63] (S0, m) none (S0, m') := by
  obtain ⟨d, rfl⟩ : ∃ d0, d = d0 + 1 := ⟨d - 1, by omega⟩
  refine am_Mt.of (by decide +kernel) (Nat.le_of_ble_eq_true rfl) ?_
  change am_AW am_nw ro (d + 1) mr_M_nextToken 0 [some (.ref 63)] [] (S0, m) none (S0, m')
  unfold f_M_nextToken at h
  refine am_AW.run am_base_ok ok_M_nextToken (Nat.le_add_left 1 d) 3 (pc1 := 5) (ls1 := [some (.ref 63)]) (st1 := [.int (m.1 63 11), .ref 63]) (σ1 := (S0, m)) rfl ?_
  refine am_AW.puti ok_M_nextToken (Nat.le_add_left 1 d) rfl rfl rfl (qc := kq10) rfl (by decide) ty_10_12 ?_
  refine am_AW.run am_base_ok ok_M_nextToken (Nat.le_add_left 1 d) 5 (pc1 := 17) (ls1 := [some (.ref 63)]) (st1 := [.int ((am_pI m 63 12 (m.1 63 11)).1 63 10), .int ((am_pI m 63 12 (m.1 63 11)).1 63 11), .ref 63]) (σ1 := (S0, (am_pI m 63 12 (m.1 63 11)))) rfl ?_
  refine am_AW.brP ok_M_nextToken rfl rfl am_c_ge (fun c1 => ?_) (fun c1 => ?_)
  · rw [if_pos c1] at h
    refine am_AW.run am_base_ok ok_M_nextToken (Nat.le_add_left 1 d) 1 (pc1 := 34) (ls1 := [some (.ref 63)]) (st1 := [.int (-1000000 : Int32), .ref 63]) (σ1 := (S0, (am_pI m 63 12 (m.1 63 11)))) rfl ?_
    exact am_AW.weak (f_M_nextToken_b34_ok hd (-1000000 : Int32)  h) (by simp only [am_le, and_self])
  · rw [if_neg c1] at h
    refine am_AW.run am_base_ok ok_M_nextToken (Nat.le_add_left 1 d) 4 (pc1 := 28) (ls1 := [some (.ref 63)]) (st1 := [.int ((am_pI m 63 12 (m.1 63 11)).1 63 11), .ref 71, .ref 63]) (σ1 := (S0, (am_pI m 63 12 (m.1 63 11)))) rfl ?_
    by_cases g24 : am_in ((am_pI m 63 12 (m.1 63 11)).1 63 11) 120 = true
    rotate_left
    · rw [if_neg g24] at h
      cases h
    rw [if_pos g24] at h
    refine am_AW.iald ok_M_nextToken (Nat.le_add_left 1 d) S0_len rfl rfl g24 ?_
    refine am_AW.run am_base_ok ok_M_nextToken (Nat.le_add_left 1 d) 1 (pc1 := 34) (ls1 := [some (.ref 63)]) (st1 := [.int ((am_pI m 63 12 (m.1 63 11)).1 71 ((am_pI m 63 12 (m.1 63 11)).1 63 11).toNatClampNeg), .ref 63]) (σ1 := (S0, (am_pI m 63 12 (m.1 63 11)))) rfl ?_
    exact am_AW.weak (f_M_nextToken_b34_ok hd ((am_pI m 63 12 (m.1 63 11)).1 71 ((am_pI m 63 12 (m.1 63 11)).1 63 11).toNatClampNeg)  h) (by simp only [am_le, and_self])
/-! FriezePolygonsModel.isCut(I)Z -/
def f_M_isCut (x1 : Int32) (m : am_Mm) : Option (Int32 × am_Mm) :=
  (f_M_isThere m).bind fun q3 =>
  if q3.1 = (0 : Int32) then
    some ((0 : Int32), q3.2)
  else
    (f_M_manyCuts (q3.2.1 67 0) q3.2).bind fun q8 =>
    (f_M_in (x1.toInt64) (0 : Int64) ((q8.1 - (1 : Int32)).toInt64) q8.2).bind fun q11 =>
    if q11.1 = (0 : Int32) then
      some ((0 : Int32), q11.2)
    else
      some ((1 : Int32), q11.2)
set_option maxHeartbeats 4000000 in
set_option maxRecDepth 100000 in
theorem f_M_isCut_ok {ro : am_Ro} {d : Nat} (hd : 2 ≤ d) (x1 : Int32) {m m' : am_Mm} {r : Int32} (h : f_M_isCut x1 m = some (r, m')) : am_Mt am_nw ro d mr_M_isCut [.ref 63, .int x1] (S0, m) (some (.int r)) (S0, m') := by
  obtain ⟨d, rfl⟩ : ∃ d0, d = d0 + 1 := ⟨d - 1, by omega⟩
  refine am_Mt.of (by decide +kernel) (Nat.le_of_ble_eq_true rfl) ?_
  change am_AW am_nw ro (d + 1) mr_M_isCut 0 [some (.ref 63), some (.int x1)] [] (S0, m) (some (.int r)) (S0, m')
  unfold f_M_isCut at h
  refine am_AW.run am_base_ok ok_M_isCut (Nat.le_add_left 1 d) 1 (pc1 := 1) (ls1 := [some (.ref 63), some (.int x1)]) (st1 := [.ref 63]) (σ1 := (S0, m)) rfl ?_
  obtain ⟨q3, hq3, h⟩ := Option.bind_eq_some_iff.mp h
  refine am_AW.callV ok_M_isCut am_nw_ok (As := []) (rest := []) rfl rfl rfl oR_M_isThere lk_M_188 iM_M_isThere sE_M_isThere (qc := kq10) rfl rfl rfl rfl (Nat.le_of_ble_eq_true rfl) (f_M_isThere_ok (d := d) (by omega)  hq3) ?_
  change am_AW am_nw ro (d + 1) mr_M_isCut 4 [some (.ref 63), some (.int x1)] [.int q3.1] (S0, q3.2) (some (.int r)) (S0, m')
  refine am_AW.brP ok_M_isCut rfl rfl am_c_eq (fun c4 => ?_) (fun c4 => ?_)
  · rw [if_pos c4] at h
    refine am_AW.run am_base_ok ok_M_isCut (Nat.le_add_left 1 d) 1 (pc1 := 33) (ls1 := [some (.ref 63), some (.int x1)]) (st1 := [.int (0 : Int32)]) (σ1 := (S0, q3.2)) rfl ?_
    obtain ⟨rfl, rfl⟩ := Prod.mk.inj (Option.some.inj h)
    exact am_AW.ret ok_M_isCut rfl rfl rfl (by decide)
  · rw [if_neg c4] at h
    refine am_AW.run am_base_ok ok_M_isCut (Nat.le_add_left 1 d) 6 (pc1 := 15) (ls1 := [some (.ref 63), some (.int x1)]) (st1 := [.int (0 : Int32), .ref 67, .long (0 : Int64), .long (x1.toInt64)]) (σ1 := (S0, q3.2)) rfl ?_
    refine am_AW.iald ok_M_isCut (Nat.le_add_left 1 d) S0_len rfl rfl (by decide) ?_
    change am_AW am_nw ro (d + 1) mr_M_isCut 16 [some (.ref 63), some (.int x1)] [.int (q3.2.1 67 0), .long (0 : Int64), .long (x1.toInt64)] (S0, q3.2) (some (.int r)) (S0, m')
    obtain ⟨q8, hq8, h⟩ := Option.bind_eq_some_iff.mp h
    refine am_AW.callS ok_M_isCut am_nw_ok (As := [.int (q3.2.1 67 0)]) (rest := [.long (0 : Int64), .long (x1.toInt64)]) rfl rfl rfl oR_M_manyCuts lk_M_87 sT_M_manyCuts rfl (Nat.le_of_ble_eq_true rfl) (f_M_manyCuts_ok (d := d) (by omega) (q3.2.1 67 0) hq8) ?_
    change am_AW am_nw ro (d + 1) mr_M_isCut 19 [some (.ref 63), some (.int x1)] [.int q8.1, .long (0 : Int64), .long (x1.toInt64)] (S0, q8.2) (some (.int r)) (S0, m')
    refine am_AW.run am_base_ok ok_M_isCut (Nat.le_add_left 1 d) 3 (pc1 := 22) (ls1 := [some (.ref 63), some (.int x1)]) (st1 := [.long ((q8.1 - (1 : Int32)).toInt64), .long (0 : Int64), .long (x1.toInt64)]) (σ1 := (S0, q8.2)) rfl ?_
    obtain ⟨q11, hq11, h⟩ := Option.bind_eq_some_iff.mp h
    refine am_AW.callS ok_M_isCut am_nw_ok (As := [.long (x1.toInt64), .long (0 : Int64), .long ((q8.1 - (1 : Int32)).toInt64)]) (rest := []) rfl rfl rfl oR_M_in lk_M_60 sT_M_in rfl (Nat.le_of_ble_eq_true rfl) (f_M_in_ok (d := d) (by omega) (x1.toInt64) (0 : Int64) ((q8.1 - (1 : Int32)).toInt64) hq11) ?_
    change am_AW am_nw ro (d + 1) mr_M_isCut 25 [some (.ref 63), some (.int x1)] [.int q11.1] (S0, q11.2) (some (.int r)) (S0, m')
    refine am_AW.brP ok_M_isCut rfl rfl am_c_eq (fun c12 => ?_) (fun c12 => ?_)
    · rw [if_pos c12] at h
      refine am_AW.run am_base_ok ok_M_isCut (Nat.le_add_left 1 d) 1 (pc1 := 33) (ls1 := [some (.ref 63), some (.int x1)]) (st1 := [.int (0 : Int32)]) (σ1 := (S0, q11.2)) rfl ?_
      obtain ⟨rfl, rfl⟩ := Prod.mk.inj (Option.some.inj h)
      exact am_AW.ret ok_M_isCut rfl rfl rfl (by decide)
    · rw [if_neg c12] at h
      refine am_AW.run am_base_ok ok_M_isCut (Nat.le_add_left 1 d) 2 (pc1 := 33) (ls1 := [some (.ref 63), some (.int x1)]) (st1 := [.int (1 : Int32)]) (σ1 := (S0, q11.2)) rfl ?_
      obtain ⟨rfl, rfl⟩ := Prod.mk.inj (Option.some.inj h)
      exact am_AW.ret ok_M_isCut rfl rfl rfl (by decide)
/-! FriezePolygonsModel.beside(IIII)I -/
def f_M_beside_b7 : Nat → Int32 → Int32 → Int32 → Int32 → Int32 → am_Mm → Option (Int32 × am_Mm)
  | 0, _, _, _, _, _, _ => none
  | n + 1, x0, x1, x2, x3, x4, m =>
    (f_M_has x0 x4 m).bind fun q4 =>
    if q4.1 = (0 : Int32) then
      if x4 = x1 then
        some (x4, q4.2)
      else
        if x2 = (0 : Int32) then none else
        f_M_beside_b7 n x0 x1 x2 x3 (am_rem (x4 + x3) x2) q4.2
    else
      some (x4, q4.2)
def f_M_beside (x0 : Int32) (x1 : Int32) (x2 : Int32) (x3 : Int32) (m : am_Mm) : Option (Int32 × am_Mm) :=
  if x2 = (0 : Int32) then none else
  f_M_beside_b7 am_F x0 x1 x2 x3 (am_rem (x1 + x3) x2) m
set_option maxHeartbeats 4000000 in
set_option maxRecDepth 100000 in
theorem f_M_beside_b7_all {ro : am_Ro} {d : Nat} (hd : 2 ≤ d + 1) : ∀ (n : Nat) (x0 : Int32) (x1 : Int32) (x2 : Int32) (x3 : Int32) (x4 : Int32) (m m' : am_Mm) (r : Int32), f_M_beside_b7 n x0 x1 x2 x3 x4 m = some (r, m') → am_AW am_nw ro (d + 1) mr_M_beside 7 [some (.int x0), some (.int x1), some (.int x2), some (.int x3), some (.int x4)] [] (S0, m) (some (.int r)) (S0, m') := by
  intro n
  induction n with
  | zero =>
    intro x0 x1 x2 x3 x4 m m' r h
    rw [f_M_beside_b7] at h
    cases h
  | succ n ih =>
    intro x0 x1 x2 x3 x4 m m' r h
    rw [f_M_beside_b7] at h
    refine am_AW.run am_base_ok ok_M_beside (Nat.le_add_left 1 d) 2 (pc1 := 10) (ls1 := [some (.int x0), some (.int x1), some (.int x2), some (.int x3), some (.int x4)]) (st1 := [.int x4, .int x0]) (σ1 := (S0, m)) rfl ?_
    obtain ⟨q4, hq4, h⟩ := Option.bind_eq_some_iff.mp h
    refine am_AW.callS ok_M_beside am_nw_ok (As := [.int x0, .int x4]) (rest := []) rfl rfl rfl oR_M_has lk_M_75 sT_M_has rfl (Nat.le_of_ble_eq_true rfl) (f_M_has_ok (d := d) (by omega) x0 x4 hq4) ?_
    change am_AW am_nw ro (d + 1) mr_M_beside 13 [some (.int x0), some (.int x1), some (.int x2), some (.int x3), some (.int x4)] [.int q4.1] (S0, q4.2) (some (.int r)) (S0, m')
    refine am_AW.brN ok_M_beside rfl rfl am_c_ne (fun c5 => ?_) (fun c5 => ?_)
    · rw [if_pos c5] at h
      refine am_AW.run am_base_ok ok_M_beside (Nat.le_add_left 1 d) 2 (pc1 := 19) (ls1 := [some (.int x0), some (.int x1), some (.int x2), some (.int x3), some (.int x4)]) (st1 := [.int x1, .int x4]) (σ1 := (S0, q4.2)) rfl ?_
      refine am_AW.brP ok_M_beside rfl rfl am_c_eq (fun c6 => ?_) (fun c6 => ?_)
      · rw [if_pos c6] at h
        refine am_AW.run am_base_ok ok_M_beside (Nat.le_add_left 1 d) 1 (pc1 := 35) (ls1 := [some (.int x0), some (.int x1), some (.int x2), some (.int x3), some (.int x4)]) (st1 := [.int x4]) (σ1 := (S0, q4.2)) rfl ?_
        obtain ⟨rfl, rfl⟩ := Prod.mk.inj (Option.some.inj h)
        exact am_AW.ret ok_M_beside rfl rfl rfl rfl
      · rw [if_neg c6] at h
        refine am_AW.run am_base_ok ok_M_beside (Nat.le_add_left 1 d) 4 (pc1 := 27) (ls1 := [some (.int x0), some (.int x1), some (.int x2), some (.int x3), some (.int x4)]) (st1 := [.int x2, .int (x4 + x3)]) (σ1 := (S0, q4.2)) rfl ?_
        by_cases g7 : x2 = (0 : Int32)
        · rw [if_pos g7] at h
          cases h
        rw [if_neg g7] at h
        refine am_AW.dvi ok_M_beside (Nat.le_add_left 1 d) (w := (am_rem (x4 + x3) x2)) (Or.inr ⟨rfl, rfl⟩) rfl g7 ?_
        refine am_AW.run am_base_ok ok_M_beside (Nat.le_add_left 1 d) 2 (pc1 := 7) (ls1 := [some (.int x0), some (.int x1), some (.int x2), some (.int x3), some (.int (am_rem (x4 + x3) x2))]) (st1 := []) (σ1 := (S0, q4.2)) rfl ?_
        exact am_AW.weak (ih x0 x1 x2 x3 (am_rem (x4 + x3) x2)  _ _ _ h) (by simp only [am_le, and_self])
    · rw [if_neg c5] at h
      refine am_AW.run am_base_ok ok_M_beside (Nat.le_add_left 1 d) 1 (pc1 := 35) (ls1 := [some (.int x0), some (.int x1), some (.int x2), some (.int x3), some (.int x4)]) (st1 := [.int x4]) (σ1 := (S0, q4.2)) rfl ?_
      obtain ⟨rfl, rfl⟩ := Prod.mk.inj (Option.some.inj h)
      exact am_AW.ret ok_M_beside rfl rfl rfl rfl
set_option maxHeartbeats 4000000 in
set_option maxRecDepth 100000 in
theorem f_M_beside_b7_ok {ro : am_Ro} {d : Nat} (hd : 2 ≤ d + 1) (x0 : Int32) (x1 : Int32) (x2 : Int32) (x3 : Int32) (x4 : Int32) {m m' : am_Mm} {r : Int32} {n : Nat} (h : f_M_beside_b7 n x0 x1 x2 x3 x4 m = some (r, m')) : am_AW am_nw ro (d + 1) mr_M_beside 7 [some (.int x0), some (.int x1), some (.int x2), some (.int x3), some (.int x4)] [] (S0, m) (some (.int r)) (S0, m') :=
  f_M_beside_b7_all hd n x0 x1 x2 x3 x4  m m' r h
set_option maxHeartbeats 4000000 in
set_option maxRecDepth 100000 in
theorem f_M_beside_ok {ro : am_Ro} {d : Nat} (hd : 2 ≤ d) (x0 : Int32) (x1 : Int32) (x2 : Int32) (x3 : Int32) {m m' : am_Mm} {r : Int32} (h : f_M_beside x0 x1 x2 x3 m = some (r, m')) : am_Mt am_nw ro d mr_M_beside [.int x0, .int x1, .int x2, .int x3] (S0, m) (some (.int r)) (S0, m') := by
  obtain ⟨d, rfl⟩ : ∃ d0, d = d0 + 1 := ⟨d - 1, by omega⟩
  refine am_Mt.of (by decide +kernel) (Nat.le_of_ble_eq_true rfl) ?_
  change am_AW am_nw ro (d + 1) mr_M_beside 0 [some (.int x0), some (.int x1), some (.int x2), some (.int x3), none] [] (S0, m) (some (.int r)) (S0, m')
  unfold f_M_beside at h
  refine am_AW.run am_base_ok ok_M_beside (Nat.le_add_left 1 d) 4 (pc1 := 4) (ls1 := [some (.int x0), some (.int x1), some (.int x2), some (.int x3), none]) (st1 := [.int x2, .int (x1 + x3)]) (σ1 := (S0, m)) rfl ?_
  by_cases g1 : x2 = (0 : Int32)
  · rw [if_pos g1] at h
    cases h
  rw [if_neg g1] at h
  refine am_AW.dvi ok_M_beside (Nat.le_add_left 1 d) (w := (am_rem (x1 + x3) x2)) (Or.inr ⟨rfl, rfl⟩) rfl g1 ?_
  refine am_AW.run am_base_ok ok_M_beside (Nat.le_add_left 1 d) 1 (pc1 := 7) (ls1 := [some (.int x0), some (.int x1), some (.int x2), some (.int x3), some (.int (am_rem (x1 + x3) x2))]) (st1 := []) (σ1 := (S0, m)) rfl ?_
  exact am_AW.weak (f_M_beside_b7_ok hd x0 x1 x2 x3 (am_rem (x1 + x3) x2)  h) (by simp only [am_le, and_self])
/-! FriezePolygonsModel.firstEar([II)I -/
def f_M_firstEar_b23 (k2 : Int32 → Int32 → am_Mm → Option (Int32 × am_Mm)) (x1 : Int32) (x2 : Int32) (m : am_Mm) : Option (Int32 × am_Mm) :=
  k2 x1 (x2 + (1 : Int32)) m
def f_M_firstEar_b2 : Nat → Int32 → Int32 → am_Mm → Option (Int32 × am_Mm)
  | 0, _, _, _ => none
  | n + 1, x1, x2, m =>
    if (9 : Int32) ≤ x2 then
      some (x2, m)
    else
      (f_M_has x1 x2 m).bind fun q4 =>
      if q4.1 = (0 : Int32) then
        f_M_firstEar_b23 (f_M_firstEar_b2 n) x1 x2 q4.2
      else
        if am_in x2 9 = true then
          if (q4.2.1 72 x2.toNatClampNeg) = (1 : Int32) then
            some (x2, q4.2)
          else
            f_M_firstEar_b23 (f_M_firstEar_b2 n) x1 x2 q4.2
        else none
def f_M_firstEar (x1 : Int32) (m : am_Mm) : Option (Int32 × am_Mm) :=
  f_M_firstEar_b2 am_F x1 (0 : Int32) m
set_option maxHeartbeats 4000000 in
set_option maxRecDepth 100000 in
theorem f_M_firstEar_b23_ok {ro : am_Ro} {d : Nat} (hd : 2 ≤ d + 1) {k2 : Int32 → Int32 → am_Mm → Option (Int32 × am_Mm)} (hk2 : ∀ (x1 : Int32) (x2 : Int32) (m m' : am_Mm) (r : Int32), k2 x1 x2 m = some (r, m') → am_AW am_nw ro (d + 1) mr_M_firstEar 2 [some (.ref 72), some (.int x1), some (.int x2)] [] (S0, m) (some (.int r)) (S0, m')) (x1 : Int32) (x2 : Int32) {m m' : am_Mm} {r : Int32} (h : f_M_firstEar_b23 k2 x1 x2 m = some (r, m')) : am_AW am_nw ro (d + 1) mr_M_firstEar 23 [some (.ref 72), some (.int x1), some (.int x2)] [] (S0, m) (some (.int r)) (S0, m') := by
  unfold f_M_firstEar_b23 at h
  refine am_AW.run am_base_ok ok_M_firstEar (Nat.le_add_left 1 d) 2 (pc1 := 2) (ls1 := [some (.ref 72), some (.int x1), some (.int (x2 + (1 : Int32)))]) (st1 := []) (σ1 := (S0, m)) rfl ?_
  exact am_AW.weak (hk2 x1 (x2 + (1 : Int32))  _ _ _ h) (by simp only [am_le, and_self])
set_option maxHeartbeats 4000000 in
set_option maxRecDepth 100000 in
theorem f_M_firstEar_b2_all {ro : am_Ro} {d : Nat} (hd : 2 ≤ d + 1) : ∀ (n : Nat) (x1 : Int32) (x2 : Int32) (m m' : am_Mm) (r : Int32), f_M_firstEar_b2 n x1 x2 m = some (r, m') → am_AW am_nw ro (d + 1) mr_M_firstEar 2 [some (.ref 72), some (.int x1), some (.int x2)] [] (S0, m) (some (.int r)) (S0, m') := by
  intro n
  induction n with
  | zero =>
    intro x1 x2 m m' r h
    rw [f_M_firstEar_b2] at h
    cases h
  | succ n ih =>
    intro x1 x2 m m' r h
    rw [f_M_firstEar_b2] at h
    refine am_AW.run am_base_ok ok_M_firstEar (Nat.le_add_left 1 d) 2 (pc1 := 5) (ls1 := [some (.ref 72), some (.int x1), some (.int x2)]) (st1 := [.int (9 : Int32), .int x2]) (σ1 := (S0, m)) rfl ?_
    refine am_AW.brP ok_M_firstEar rfl rfl am_c_ge (fun c1 => ?_) (fun c1 => ?_)
    · rw [if_pos c1] at h
      refine am_AW.run am_base_ok ok_M_firstEar (Nat.le_add_left 1 d) 1 (pc1 := 30) (ls1 := [some (.ref 72), some (.int x1), some (.int x2)]) (st1 := [.int x2]) (σ1 := (S0, m)) rfl ?_
      obtain ⟨rfl, rfl⟩ := Prod.mk.inj (Option.some.inj h)
      exact am_AW.ret ok_M_firstEar rfl rfl rfl rfl
    · rw [if_neg c1] at h
      refine am_AW.run am_base_ok ok_M_firstEar (Nat.le_add_left 1 d) 2 (pc1 := 10) (ls1 := [some (.ref 72), some (.int x1), some (.int x2)]) (st1 := [.int x2, .int x1]) (σ1 := (S0, m)) rfl ?_
      obtain ⟨q4, hq4, h⟩ := Option.bind_eq_some_iff.mp h
      refine am_AW.callS ok_M_firstEar am_nw_ok (As := [.int x1, .int x2]) (rest := []) rfl rfl rfl oR_M_has lk_M_75 sT_M_has rfl (Nat.le_of_ble_eq_true rfl) (f_M_has_ok (d := d) (by omega) x1 x2 hq4) ?_
      change am_AW am_nw ro (d + 1) mr_M_firstEar 13 [some (.ref 72), some (.int x1), some (.int x2)] [.int q4.1] (S0, q4.2) (some (.int r)) (S0, m')
      refine am_AW.brP ok_M_firstEar rfl rfl am_c_eq (fun c5 => ?_) (fun c5 => ?_)
      · rw [if_pos c5] at h
        exact am_AW.weak (f_M_firstEar_b23_ok hd (ih) x1 x2  h) (by simp only [am_le, and_self])
      · rw [if_neg c5] at h
        refine am_AW.run am_base_ok ok_M_firstEar (Nat.le_add_left 1 d) 2 (pc1 := 18) (ls1 := [some (.ref 72), some (.int x1), some (.int x2)]) (st1 := [.int x2, .ref 72]) (σ1 := (S0, q4.2)) rfl ?_
        by_cases g6 : am_in x2 9 = true
        rotate_left
        · rw [if_neg g6] at h
          cases h
        rw [if_pos g6] at h
        refine am_AW.iald ok_M_firstEar (Nat.le_add_left 1 d) S0_len rfl rfl g6 ?_
        refine am_AW.run am_base_ok ok_M_firstEar (Nat.le_add_left 1 d) 1 (pc1 := 20) (ls1 := [some (.ref 72), some (.int x1), some (.int x2)]) (st1 := [.int (1 : Int32), .int (q4.2.1 72 x2.toNatClampNeg)]) (σ1 := (S0, q4.2)) rfl ?_
        refine am_AW.brP ok_M_firstEar rfl rfl am_c_eq (fun c7 => ?_) (fun c7 => ?_)
        · rw [if_pos c7] at h
          refine am_AW.run am_base_ok ok_M_firstEar (Nat.le_add_left 1 d) 1 (pc1 := 30) (ls1 := [some (.ref 72), some (.int x1), some (.int x2)]) (st1 := [.int x2]) (σ1 := (S0, q4.2)) rfl ?_
          obtain ⟨rfl, rfl⟩ := Prod.mk.inj (Option.some.inj h)
          exact am_AW.ret ok_M_firstEar rfl rfl rfl rfl
        · rw [if_neg c7] at h
          exact am_AW.weak (f_M_firstEar_b23_ok hd (ih) x1 x2  h) (by simp only [am_le, and_self])
set_option maxHeartbeats 4000000 in
set_option maxRecDepth 100000 in
theorem f_M_firstEar_b2_ok {ro : am_Ro} {d : Nat} (hd : 2 ≤ d + 1) (x1 : Int32) (x2 : Int32) {m m' : am_Mm} {r : Int32} {n : Nat} (h : f_M_firstEar_b2 n x1 x2 m = some (r, m')) : am_AW am_nw ro (d + 1) mr_M_firstEar 2 [some (.ref 72), some (.int x1), some (.int x2)] [] (S0, m) (some (.int r)) (S0, m') :=
  f_M_firstEar_b2_all hd n x1 x2  m m' r h
set_option maxHeartbeats 4000000 in
set_option maxRecDepth 100000 in
theorem f_M_firstEar_ok {ro : am_Ro} {d : Nat} (hd : 2 ≤ d) (x1 : Int32) {m m' : am_Mm} {r : Int32} (h : f_M_firstEar x1 m = some (r, m')) : am_Mt am_nw ro d mr_M_firstEar [.ref 72, .int x1] (S0, m) (some (.int r)) (S0, m') := by
  obtain ⟨d, rfl⟩ : ∃ d0, d = d0 + 1 := ⟨d - 1, by omega⟩
  refine am_Mt.of (by decide +kernel) (Nat.le_of_ble_eq_true rfl) ?_
  change am_AW am_nw ro (d + 1) mr_M_firstEar 0 [some (.ref 72), some (.int x1), none] [] (S0, m) (some (.int r)) (S0, m')
  unfold f_M_firstEar at h
  refine am_AW.run am_base_ok ok_M_firstEar (Nat.le_add_left 1 d) 2 (pc1 := 2) (ls1 := [some (.ref 72), some (.int x1), some (.int (0 : Int32))]) (st1 := []) (σ1 := (S0, m)) rfl ?_
  exact am_AW.weak (f_M_firstEar_b2_ok hd x1 (0 : Int32)  h) (by simp only [am_le, and_self])
/-! FriezePolygonsModel.lacks(III)I -/
def f_M_lacks_b40 (m : am_Mm) : Option (Int32 × am_Mm) :=
  (f_M_finding (2 : Int32) m).bind fun q6 =>
  some (q6.1, q6.2)
def f_M_lacks (x1 : Int32) (x2 : Int32) (x3 : Int32) (m : am_Mm) : Option (Int32 × am_Mm) :=
  if am_in x1 8 = true then
    if (0 : Int32) ≤ ((am_pI m 63 0 (0 : Int32)).1 64 x1.toNatClampNeg) then
      if x2 < (0 : Int32) then
        f_M_lacks_b40 (am_pI m 63 0 (0 : Int32))
      else
        if am_in x1 8 = true then
          if (lg_cmp ((x2.toInt64) + (x3.toInt64)) (((am_pI m 63 0 (0 : Int32)).1 65 x1.toNatClampNeg).toInt64)) ≤ (0 : Int32) then
            some ((0 : Int32), (am_pI m 63 0 (0 : Int32)))
          else
            f_M_lacks_b40 (am_pI m 63 0 (0 : Int32))
        else none
    else
      (f_M_finding (1 : Int32) (am_pI m 63 0 (0 : Int32))).bind fun q11 =>
      some (q11.1, q11.2)
  else none
set_option maxHeartbeats 4000000 in
set_option maxRecDepth 100000 in
theorem f_M_lacks_b40_ok {ro : am_Ro} {d : Nat} (hd : 2 ≤ d + 1) {m m' : am_Mm} {r : Int32} (h : f_M_lacks_b40  m = some (r, m')) : am_AW am_nw ro (d + 1) mr_M_lacks 40 [some (.ref 63), none, none, none] [] (S0, m) (some (.int r)) (S0, m') := by
  unfold f_M_lacks_b40 at h
  refine am_AW.run am_base_ok ok_M_lacks (Nat.le_add_left 1 d) 2 (pc1 := 42) (ls1 := [some (.ref 63), none, none, none]) (st1 := [.int (2 : Int32), .ref 63]) (σ1 := (S0, m)) rfl ?_
  obtain ⟨q6, hq6, h⟩ := Option.bind_eq_some_iff.mp h
  refine am_AW.callV ok_M_lacks am_nw_ok (As := [.int (2 : Int32)]) (rest := []) rfl rfl rfl oR_M_finding lk_M_71 iM_M_finding sE_M_finding (qc := kq10) rfl rfl rfl rfl (Nat.le_of_ble_eq_true rfl) (f_M_finding_ok (d := d) (by omega) (2 : Int32) hq6) ?_
  change am_AW am_nw ro (d + 1) mr_M_lacks 45 [some (.ref 63), none, none, none] [.int q6.1] (S0, q6.2) (some (.int r)) (S0, m')
  refine am_AW.run am_base_ok ok_M_lacks (Nat.le_add_left 1 d) 1 (pc1 := 49) (ls1 := [some (.ref 63), none, none, none]) (st1 := [.int q6.1]) (σ1 := (S0, q6.2)) rfl ?_
  obtain ⟨rfl, rfl⟩ := Prod.mk.inj (Option.some.inj h)
  exact am_AW.ret ok_M_lacks rfl rfl rfl rfl
set_option maxHeartbeats 4000000 in
set_option maxRecDepth 100000 in
theorem f_M_lacks_ok {ro : am_Ro} {d : Nat} (hd : 2 ≤ d) (x1 : Int32) (x2 : Int32) (x3 : Int32) {m m' : am_Mm} {r : Int32} (h : f_M_lacks x1 x2 x3 m = some (r, m')) : am_Mt am_nw ro d mr_M_lacks [.ref 63, .int x1, .int x2, .int x3] (S0, m) (some (.int r)) (S0, m') := by
  obtain ⟨d, rfl⟩ : ∃ d0, d = d0 + 1 := ⟨d - 1, by omega⟩
  refine am_Mt.of (by decide +kernel) (Nat.le_of_ble_eq_true rfl) ?_
  change am_AW am_nw ro (d + 1) mr_M_lacks 0 [some (.ref 63), some (.int x1), some (.int x2), some (.int x3)] [] (S0, m) (some (.int r)) (S0, m')
  unfold f_M_lacks at h
  refine am_AW.run am_base_ok ok_M_lacks (Nat.le_add_left 1 d) 2 (pc1 := 2) (ls1 := [some (.ref 63), some (.int x1), some (.int x2), some (.int x3)]) (st1 := [.int (0 : Int32), .ref 63]) (σ1 := (S0, m)) rfl ?_
  refine am_AW.puti ok_M_lacks (Nat.le_add_left 1 d) rfl rfl rfl (qc := kq10) rfl (by decide) ty_10_0 ?_
  refine am_AW.run am_base_ok ok_M_lacks (Nat.le_add_left 1 d) 3 (pc1 := 10) (ls1 := [some (.ref 63), some (.int x1), some (.int x2), some (.int x3)]) (st1 := [.int x1, .ref 64]) (σ1 := (S0, (am_pI m 63 0 (0 : Int32)))) rfl ?_
  by_cases g1 : am_in x1 8 = true
  rotate_left
  · rw [if_neg g1] at h
    cases h
  rw [if_pos g1] at h
  refine am_AW.iald ok_M_lacks (Nat.le_add_left 1 d) S0_len rfl rfl g1 ?_
  refine am_AW.brP ok_M_lacks rfl rfl am_c_ge (fun c2 => ?_) (fun c2 => ?_)
  · rw [if_pos c2] at h
    refine am_AW.run am_base_ok ok_M_lacks (Nat.le_add_left 1 d) 1 (pc1 := 21) (ls1 := [some (.ref 63), some (.int x1), some (.int x2), some (.int x3)]) (st1 := [.int x2]) (σ1 := (S0, (am_pI m 63 0 (0 : Int32)))) rfl ?_
    refine am_AW.brP ok_M_lacks rfl rfl am_c_lt (fun c3 => ?_) (fun c3 => ?_)
    · rw [if_pos c3] at h
      exact am_AW.weak (f_M_lacks_b40_ok hd   h) (by simp only [am_le, and_self])
    · rw [if_neg c3] at h
      refine am_AW.run am_base_ok ok_M_lacks (Nat.le_add_left 1 d) 8 (pc1 := 34) (ls1 := [some (.ref 63), some (.int x1), some (.int x2), some (.int x3)]) (st1 := [.int x1, .ref 65, .long ((x2.toInt64) + (x3.toInt64))]) (σ1 := (S0, (am_pI m 63 0 (0 : Int32)))) rfl ?_
      by_cases g7 : am_in x1 8 = true
      rotate_left
      · rw [if_neg g7] at h
        cases h
      rw [if_pos g7] at h
      refine am_AW.iald ok_M_lacks (Nat.le_add_left 1 d) S0_len rfl rfl g7 ?_
      refine am_AW.run am_base_ok ok_M_lacks (Nat.le_add_left 1 d) 2 (pc1 := 37) (ls1 := [some (.ref 63), some (.int x1), some (.int x2), some (.int x3)]) (st1 := [.int (lg_cmp ((x2.toInt64) + (x3.toInt64)) (((am_pI m 63 0 (0 : Int32)).1 65 x1.toNatClampNeg).toInt64))]) (σ1 := (S0, (am_pI m 63 0 (0 : Int32)))) rfl ?_
      refine am_AW.brP ok_M_lacks rfl rfl am_c_le (fun c8 => ?_) (fun c8 => ?_)
      · rw [if_pos c8] at h
        refine am_AW.run am_base_ok ok_M_lacks (Nat.le_add_left 1 d) 1 (pc1 := 49) (ls1 := [some (.ref 63), some (.int x1), some (.int x2), some (.int x3)]) (st1 := [.int (0 : Int32)]) (σ1 := (S0, (am_pI m 63 0 (0 : Int32)))) rfl ?_
        obtain ⟨rfl, rfl⟩ := Prod.mk.inj (Option.some.inj h)
        exact am_AW.ret ok_M_lacks rfl rfl rfl rfl
      · rw [if_neg c8] at h
        exact am_AW.weak (f_M_lacks_b40_ok hd   h) (by simp only [am_le, and_self])
  · rw [if_neg c2] at h
    refine am_AW.run am_base_ok ok_M_lacks (Nat.le_add_left 1 d) 2 (pc1 := 16) (ls1 := [some (.ref 63), some (.int x1), some (.int x2), some (.int x3)]) (st1 := [.int (1 : Int32), .ref 63]) (σ1 := (S0, (am_pI m 63 0 (0 : Int32)))) rfl ?_
    obtain ⟨q11, hq11, h⟩ := Option.bind_eq_some_iff.mp h
    refine am_AW.callV ok_M_lacks am_nw_ok (As := [.int (1 : Int32)]) (rest := []) rfl rfl rfl oR_M_finding lk_M_71 iM_M_finding sE_M_finding (qc := kq10) rfl rfl rfl rfl (Nat.le_of_ble_eq_true rfl) (f_M_finding_ok (d := d) (by omega) (1 : Int32) hq11) ?_
    change am_AW am_nw ro (d + 1) mr_M_lacks 19 [some (.ref 63), some (.int x1), some (.int x2), some (.int x3)] [.int q11.1] (S0, q11.2) (some (.int r)) (S0, m')
    obtain ⟨rfl, rfl⟩ := Prod.mk.inj (Option.some.inj h)
    exact am_AW.ret ok_M_lacks rfl rfl rfl rfl
/-! FriezePolygonsModel.cutAt(II)I -/
def f_M_cutAt_b36 (k4 : Int32 → Int32 → Int32 → am_Mm → Option (Int32 × am_Mm)) (x0 : Int32) (x3 : Int32) (s0 : Int32) (s1 : Int32) (m : am_Mm) : Option (Int32 × am_Mm) :=
  k4 x0 (s0 - s1) (x3 + (1 : Int32)) m
def f_M_cutAt_b22 (k4 : Int32 → Int32 → Int32 → am_Mm → Option (Int32 × am_Mm)) (x0 : Int32) (x2 : Int32) (x3 : Int32) (m : am_Mm) : Option (Int32 × am_Mm) :=
  (f_M_has x0 x3 m).bind fun q8 =>
  if q8.1 = (0 : Int32) then
    f_M_cutAt_b36 k4 x0 x3 x2 (0 : Int32) q8.2
  else
    f_M_cutAt_b36 k4 x0 x3 x2 (1 : Int32) q8.2
def f_M_cutAt_b4 : Nat → Int32 → Int32 → Int32 → am_Mm → Option (Int32 × am_Mm)
  | 0, _, _, _, _ => none
  | n + 1, x0, x2, x3, m =>
    if (27 : Int32) ≤ x3 then
      some (x3, m)
    else
      (f_M_has x0 x3 m).bind fun q4 =>
      if q4.1 = (0 : Int32) then
        f_M_cutAt_b22 (f_M_cutAt_b4 n) x0 x2 x3 q4.2
      else
        if x2 ≤ (0 : Int32) then
          some (x3, q4.2)
        else
          f_M_cutAt_b22 (f_M_cutAt_b4 n) x0 x2 x3 q4.2
def f_M_cutAt (x0 : Int32) (x1 : Int32) (m : am_Mm) : Option (Int32 × am_Mm) :=
  f_M_cutAt_b4 am_F x0 x1 (0 : Int32) m
set_option maxHeartbeats 4000000 in
set_option maxRecDepth 100000 in
theorem f_M_cutAt_b36_ok {ro : am_Ro} {d : Nat} (hd : 2 ≤ d + 1) {k4 : Int32 → Int32 → Int32 → am_Mm → Option (Int32 × am_Mm)} (hk4 : ∀ (x0 : Int32) (x2 : Int32) (x3 : Int32) (m m' : am_Mm) (r : Int32), k4 x0 x2 x3 m = some (r, m') → am_AW am_nw ro (d + 1) mr_M_cutAt 4 [some (.int x0), none, some (.int x2), some (.int x3)] [] (S0, m) (some (.int r)) (S0, m')) (x0 : Int32) (x3 : Int32) (s0 : Int32) (s1 : Int32) {m m' : am_Mm} {r : Int32} (h : f_M_cutAt_b36 k4 x0 x3 s0 s1 m = some (r, m')) : am_AW am_nw ro (d + 1) mr_M_cutAt 36 [some (.int x0), none, none, some (.int x3)] [.int s1, .int s0] (S0, m) (some (.int r)) (S0, m') := by
  unfold f_M_cutAt_b36 at h
  refine am_AW.run am_base_ok ok_M_cutAt (Nat.le_add_left 1 d) 4 (pc1 := 4) (ls1 := [some (.int x0), none, some (.int (s0 - s1)), some (.int (x3 + (1 : Int32)))]) (st1 := []) (σ1 := (S0, m)) rfl ?_
  exact am_AW.weak (hk4 x0 (s0 - s1) (x3 + (1 : Int32))  _ _ _ h) (by simp only [am_le, and_self])
set_option maxHeartbeats 4000000 in
set_option maxRecDepth 100000 in
theorem f_M_cutAt_b22_ok {ro : am_Ro} {d : Nat} (hd : 2 ≤ d + 1) {k4 : Int32 → Int32 → Int32 → am_Mm → Option (Int32 × am_Mm)} (hk4 : ∀ (x0 : Int32) (x2 : Int32) (x3 : Int32) (m m' : am_Mm) (r : Int32), k4 x0 x2 x3 m = some (r, m') → am_AW am_nw ro (d + 1) mr_M_cutAt 4 [some (.int x0), none, some (.int x2), some (.int x3)] [] (S0, m) (some (.int r)) (S0, m')) (x0 : Int32) (x2 : Int32) (x3 : Int32) {m m' : am_Mm} {r : Int32} (h : f_M_cutAt_b22 k4 x0 x2 x3 m = some (r, m')) : am_AW am_nw ro (d + 1) mr_M_cutAt 22 [some (.int x0), none, some (.int x2), some (.int x3)] [] (S0, m) (some (.int r)) (S0, m') := by
  unfold f_M_cutAt_b22 at h
  refine am_AW.run am_base_ok ok_M_cutAt (Nat.le_add_left 1 d) 3 (pc1 := 25) (ls1 := [some (.int x0), none, some (.int x2), some (.int x3)]) (st1 := [.int x3, .int x0, .int x2]) (σ1 := (S0, m)) rfl ?_
  obtain ⟨q8, hq8, h⟩ := Option.bind_eq_some_iff.mp h
  refine am_AW.callS ok_M_cutAt am_nw_ok (As := [.int x0, .int x3]) (rest := [.int x2]) rfl rfl rfl oR_M_has lk_M_75 sT_M_has rfl (Nat.le_of_ble_eq_true rfl) (f_M_has_ok (d := d) (by omega) x0 x3 hq8) ?_
  change am_AW am_nw ro (d + 1) mr_M_cutAt 28 [some (.int x0), none, some (.int x2), some (.int x3)] [.int q8.1, .int x2] (S0, q8.2) (some (.int r)) (S0, m')
  refine am_AW.brP ok_M_cutAt rfl rfl am_c_eq (fun c9 => ?_) (fun c9 => ?_)
  · rw [if_pos c9] at h
    refine am_AW.run am_base_ok ok_M_cutAt (Nat.le_add_left 1 d) 1 (pc1 := 36) (ls1 := [some (.int x0), none, some (.int x2), some (.int x3)]) (st1 := [.int (0 : Int32), .int x2]) (σ1 := (S0, q8.2)) rfl ?_
    exact am_AW.weak (f_M_cutAt_b36_ok hd (hk4) x0 x3 x2 (0 : Int32)  h) (by simp only [am_le, and_self])
  · rw [if_neg c9] at h
    refine am_AW.run am_base_ok ok_M_cutAt (Nat.le_add_left 1 d) 2 (pc1 := 36) (ls1 := [some (.int x0), none, some (.int x2), some (.int x3)]) (st1 := [.int (1 : Int32), .int x2]) (σ1 := (S0, q8.2)) rfl ?_
    exact am_AW.weak (f_M_cutAt_b36_ok hd (hk4) x0 x3 x2 (1 : Int32)  h) (by simp only [am_le, and_self])
set_option maxHeartbeats 4000000 in
set_option maxRecDepth 100000 in
theorem f_M_cutAt_b4_all {ro : am_Ro} {d : Nat} (hd : 2 ≤ d + 1) : ∀ (n : Nat) (x0 : Int32) (x2 : Int32) (x3 : Int32) (m m' : am_Mm) (r : Int32), f_M_cutAt_b4 n x0 x2 x3 m = some (r, m') → am_AW am_nw ro (d + 1) mr_M_cutAt 4 [some (.int x0), none, some (.int x2), some (.int x3)] [] (S0, m) (some (.int r)) (S0, m') := by
  intro n
  induction n with
  | zero =>
    intro x0 x2 x3 m m' r h
    rw [f_M_cutAt_b4] at h
    cases h
  | succ n ih =>
    intro x0 x2 x3 m m' r h
    rw [f_M_cutAt_b4] at h
    refine am_AW.run am_base_ok ok_M_cutAt (Nat.le_add_left 1 d) 2 (pc1 := 7) (ls1 := [some (.int x0), none, some (.int x2), some (.int x3)]) (st1 := [.int (27 : Int32), .int x3]) (σ1 := (S0, m)) rfl ?_
    refine am_AW.brP ok_M_cutAt rfl rfl am_c_ge (fun c1 => ?_) (fun c1 => ?_)
    · rw [if_pos c1] at h
      refine am_AW.run am_base_ok ok_M_cutAt (Nat.le_add_left 1 d) 1 (pc1 := 45) (ls1 := [some (.int x0), none, some (.int x2), some (.int x3)]) (st1 := [.int x3]) (σ1 := (S0, m)) rfl ?_
      obtain ⟨rfl, rfl⟩ := Prod.mk.inj (Option.some.inj h)
      exact am_AW.ret ok_M_cutAt rfl rfl rfl rfl
    · rw [if_neg c1] at h
      refine am_AW.run am_base_ok ok_M_cutAt (Nat.le_add_left 1 d) 2 (pc1 := 12) (ls1 := [some (.int x0), none, some (.int x2), some (.int x3)]) (st1 := [.int x3, .int x0]) (σ1 := (S0, m)) rfl ?_
      obtain ⟨q4, hq4, h⟩ := Option.bind_eq_some_iff.mp h
      refine am_AW.callS ok_M_cutAt am_nw_ok (As := [.int x0, .int x3]) (rest := []) rfl rfl rfl oR_M_has lk_M_75 sT_M_has rfl (Nat.le_of_ble_eq_true rfl) (f_M_has_ok (d := d) (by omega) x0 x3 hq4) ?_
      change am_AW am_nw ro (d + 1) mr_M_cutAt 15 [some (.int x0), none, some (.int x2), some (.int x3)] [.int q4.1] (S0, q4.2) (some (.int r)) (S0, m')
      refine am_AW.brP ok_M_cutAt rfl rfl am_c_eq (fun c5 => ?_) (fun c5 => ?_)
      · rw [if_pos c5] at h
        exact am_AW.weak (f_M_cutAt_b22_ok hd (ih) x0 x2 x3  h) (by simp only [am_le, and_self])
      · rw [if_neg c5] at h
        refine am_AW.run am_base_ok ok_M_cutAt (Nat.le_add_left 1 d) 1 (pc1 := 19) (ls1 := [some (.int x0), none, some (.int x2), some (.int x3)]) (st1 := [.int x2]) (σ1 := (S0, q4.2)) rfl ?_
        refine am_AW.brP ok_M_cutAt rfl rfl am_c_le (fun c10 => ?_) (fun c10 => ?_)
        · rw [if_pos c10] at h
          refine am_AW.run am_base_ok ok_M_cutAt (Nat.le_add_left 1 d) 1 (pc1 := 45) (ls1 := [some (.int x0), none, some (.int x2), some (.int x3)]) (st1 := [.int x3]) (σ1 := (S0, q4.2)) rfl ?_
          obtain ⟨rfl, rfl⟩ := Prod.mk.inj (Option.some.inj h)
          exact am_AW.ret ok_M_cutAt rfl rfl rfl rfl
        · rw [if_neg c10] at h
          exact am_AW.weak (f_M_cutAt_b22_ok hd (ih) x0 x2 x3  h) (by simp only [am_le, and_self])
set_option maxHeartbeats 4000000 in
set_option maxRecDepth 100000 in
theorem f_M_cutAt_b4_ok {ro : am_Ro} {d : Nat} (hd : 2 ≤ d + 1) (x0 : Int32) (x2 : Int32) (x3 : Int32) {m m' : am_Mm} {r : Int32} {n : Nat} (h : f_M_cutAt_b4 n x0 x2 x3 m = some (r, m')) : am_AW am_nw ro (d + 1) mr_M_cutAt 4 [some (.int x0), none, some (.int x2), some (.int x3)] [] (S0, m) (some (.int r)) (S0, m') :=
  f_M_cutAt_b4_all hd n x0 x2 x3  m m' r h
set_option maxHeartbeats 4000000 in
set_option maxRecDepth 100000 in
theorem f_M_cutAt_ok {ro : am_Ro} {d : Nat} (hd : 2 ≤ d) (x0 : Int32) (x1 : Int32) {m m' : am_Mm} {r : Int32} (h : f_M_cutAt x0 x1 m = some (r, m')) : am_Mt am_nw ro d mr_M_cutAt [.int x0, .int x1] (S0, m) (some (.int r)) (S0, m') := by
  obtain ⟨d, rfl⟩ : ∃ d0, d = d0 + 1 := ⟨d - 1, by omega⟩
  refine am_Mt.of (by decide +kernel) (Nat.le_of_ble_eq_true rfl) ?_
  change am_AW am_nw ro (d + 1) mr_M_cutAt 0 [some (.int x0), some (.int x1), none, none] [] (S0, m) (some (.int r)) (S0, m')
  unfold f_M_cutAt at h
  refine am_AW.run am_base_ok ok_M_cutAt (Nat.le_add_left 1 d) 4 (pc1 := 4) (ls1 := [some (.int x0), some (.int x1), some (.int x1), some (.int (0 : Int32))]) (st1 := []) (σ1 := (S0, m)) rfl ?_
  exact am_AW.weak (f_M_cutAt_b4_ok hd x0 x1 (0 : Int32)  h) (by simp only [am_le, and_self])
/-! FriezePolygonsModel.image(I)I -/
def f_M_image_b25 : Nat → Int32 → Int32 → am_Mm → Option (Int32 × am_Mm)
  | 0, _, _, _ => none
  | n + 1, x1, x2, m =>
    if (20 : Int32) ≤ x2 then
      if am_in x1 2 = true then
        some ((1 : Int32), (am_pI m 75 x1.toNatClampNeg (1 : Int32)))
      else none
    else
      if am_in x2 20 = true then
        if am_in (((20 : Int32) * x1) + x2) 40 = true then
          f_M_image_b25 n x1 (x2 + (1 : Int32)) (am_pI m 76 (((20 : Int32) * x1) + x2).toNatClampNeg (m.1 67 x2.toNatClampNeg))
        else none
      else none
def f_M_image (x1 : Int32) (m : am_Mm) : Option (Int32 × am_Mm) :=
  (f_M_in (x1.toInt64) (0 : Int64) (1 : Int64) m).bind fun q3 =>
  if q3.1 = (0 : Int32) then
    some ((-1000001 : Int32), q3.2)
  else
    (f_M_isThere q3.2).bind fun q7 =>
    if q7.1 = (0 : Int32) then
      some ((-1000002 : Int32), q7.2)
    else
      f_M_image_b25 am_F x1 (0 : Int32) q7.2
set_option maxHeartbeats 4000000 in
set_option maxRecDepth 100000 in
theorem f_M_image_b25_all {ro : am_Ro} {d : Nat} (hd : 2 ≤ d + 1) : ∀ (n : Nat) (x1 : Int32) (x2 : Int32) (m m' : am_Mm) (r : Int32), f_M_image_b25 n x1 x2 m = some (r, m') → am_AW am_nw ro (d + 1) mr_M_image 25 [some (.ref 63), some (.int x1), some (.int x2)] [] (S0, m) (some (.int r)) (S0, m') := by
  intro n
  induction n with
  | zero =>
    intro x1 x2 m m' r h
    rw [f_M_image_b25] at h
    cases h
  | succ n ih =>
    intro x1 x2 m m' r h
    rw [f_M_image_b25] at h
    refine am_AW.run am_base_ok ok_M_image (Nat.le_add_left 1 d) 2 (pc1 := 28) (ls1 := [some (.ref 63), some (.int x1), some (.int x2)]) (st1 := [.int (20 : Int32), .int x2]) (σ1 := (S0, m)) rfl ?_
    refine am_AW.brP ok_M_image rfl rfl am_c_ge (fun c9 => ?_) (fun c9 => ?_)
    · rw [if_pos c9] at h
      refine am_AW.run am_base_ok ok_M_image (Nat.le_add_left 1 d) 4 (pc1 := 60) (ls1 := [some (.ref 63), some (.int x1), some (.int x2)]) (st1 := [.int (1 : Int32), .int x1, .ref 75]) (σ1 := (S0, m)) rfl ?_
      by_cases g10 : am_in x1 2 = true
      rotate_left
      · rw [if_neg g10] at h
        cases h
      rw [if_pos g10] at h
      refine am_AW.zast ok_M_image (Nat.le_add_left 1 d) rfl rfl g10 (by decide) ?_
      change am_AW am_nw ro (d + 1) mr_M_image 61 [some (.ref 63), some (.int x1), some (.int x2)] [] (S0, (am_pI m 75 x1.toNatClampNeg (1 : Int32))) (some (.int r)) (S0, m')
      refine am_AW.run am_base_ok ok_M_image (Nat.le_add_left 1 d) 1 (pc1 := 62) (ls1 := [some (.ref 63), some (.int x1), some (.int x2)]) (st1 := [.int (1 : Int32)]) (σ1 := (S0, (am_pI m 75 x1.toNatClampNeg (1 : Int32)))) rfl ?_
      obtain ⟨rfl, rfl⟩ := Prod.mk.inj (Option.some.inj h)
      exact am_AW.ret ok_M_image rfl rfl rfl rfl
    · rw [if_neg c9] at h
      refine am_AW.run am_base_ok ok_M_image (Nat.le_add_left 1 d) 10 (pc1 := 46) (ls1 := [some (.ref 63), some (.int x1), some (.int x2)]) (st1 := [.int x2, .ref 67, .int (((20 : Int32) * x1) + x2), .ref 76]) (σ1 := (S0, m)) rfl ?_
      by_cases g11 : am_in x2 20 = true
      rotate_left
      · rw [if_neg g11] at h
        cases h
      rw [if_pos g11] at h
      refine am_AW.iald ok_M_image (Nat.le_add_left 1 d) S0_len rfl rfl g11 ?_
      by_cases g12 : am_in (((20 : Int32) * x1) + x2) 40 = true
      rotate_left
      · rw [if_neg g12] at h
        cases h
      rw [if_pos g12] at h
      refine am_AW.iast ok_M_image (Nat.le_add_left 1 d) rfl rfl g12 ?_
      change am_AW am_nw ro (d + 1) mr_M_image 48 [some (.ref 63), some (.int x1), some (.int x2)] [] (S0, (am_pI m 76 (((20 : Int32) * x1) + x2).toNatClampNeg (m.1 67 x2.toNatClampNeg))) (some (.int r)) (S0, m')
      refine am_AW.run am_base_ok ok_M_image (Nat.le_add_left 1 d) 2 (pc1 := 25) (ls1 := [some (.ref 63), some (.int x1), some (.int (x2 + (1 : Int32)))]) (st1 := []) (σ1 := (S0, (am_pI m 76 (((20 : Int32) * x1) + x2).toNatClampNeg (m.1 67 x2.toNatClampNeg)))) rfl ?_
      exact am_AW.weak (ih x1 (x2 + (1 : Int32))  _ _ _ h) (by simp only [am_le, and_self])
set_option maxHeartbeats 4000000 in
set_option maxRecDepth 100000 in
theorem f_M_image_b25_ok {ro : am_Ro} {d : Nat} (hd : 2 ≤ d + 1) (x1 : Int32) (x2 : Int32) {m m' : am_Mm} {r : Int32} {n : Nat} (h : f_M_image_b25 n x1 x2 m = some (r, m')) : am_AW am_nw ro (d + 1) mr_M_image 25 [some (.ref 63), some (.int x1), some (.int x2)] [] (S0, m) (some (.int r)) (S0, m') :=
  f_M_image_b25_all hd n x1 x2  m m' r h
set_option maxHeartbeats 4000000 in
set_option maxRecDepth 100000 in
theorem f_M_image_ok {ro : am_Ro} {d : Nat} (hd : 2 ≤ d) (x1 : Int32) {m m' : am_Mm} {r : Int32} (h : f_M_image x1 m = some (r, m')) : am_Mt am_nw ro d mr_M_image [.ref 63, .int x1] (S0, m) (some (.int r)) (S0, m') := by
  obtain ⟨d, rfl⟩ : ∃ d0, d = d0 + 1 := ⟨d - 1, by omega⟩
  refine am_Mt.of (by decide +kernel) (Nat.le_of_ble_eq_true rfl) ?_
  change am_AW am_nw ro (d + 1) mr_M_image 0 [some (.ref 63), some (.int x1), none] [] (S0, m) (some (.int r)) (S0, m')
  unfold f_M_image at h
  refine am_AW.run am_base_ok ok_M_image (Nat.le_add_left 1 d) 4 (pc1 := 4) (ls1 := [some (.ref 63), some (.int x1), none]) (st1 := [.long (1 : Int64), .long (0 : Int64), .long (x1.toInt64)]) (σ1 := (S0, m)) rfl ?_
  obtain ⟨q3, hq3, h⟩ := Option.bind_eq_some_iff.mp h
  refine am_AW.callS ok_M_image am_nw_ok (As := [.long (x1.toInt64), .long (0 : Int64), .long (1 : Int64)]) (rest := []) rfl rfl rfl oR_M_in lk_M_60 sT_M_in rfl (Nat.le_of_ble_eq_true rfl) (f_M_in_ok (d := d) (by omega) (x1.toInt64) (0 : Int64) (1 : Int64) hq3) ?_
  change am_AW am_nw ro (d + 1) mr_M_image 7 [some (.ref 63), some (.int x1), none] [.int q3.1] (S0, q3.2) (some (.int r)) (S0, m')
  refine am_AW.brN ok_M_image rfl rfl am_c_ne (fun c4 => ?_) (fun c4 => ?_)
  · rw [if_pos c4] at h
    refine am_AW.run am_base_ok ok_M_image (Nat.le_add_left 1 d) 1 (pc1 := 12) (ls1 := [some (.ref 63), some (.int x1), none]) (st1 := [.int (-1000001 : Int32)]) (σ1 := (S0, q3.2)) rfl ?_
    obtain ⟨rfl, rfl⟩ := Prod.mk.inj (Option.some.inj h)
    exact am_AW.ret ok_M_image rfl rfl rfl rfl
  · rw [if_neg c4] at h
    refine am_AW.run am_base_ok ok_M_image (Nat.le_add_left 1 d) 1 (pc1 := 14) (ls1 := [some (.ref 63), some (.int x1), none]) (st1 := [.ref 63]) (σ1 := (S0, q3.2)) rfl ?_
    obtain ⟨q7, hq7, h⟩ := Option.bind_eq_some_iff.mp h
    refine am_AW.callV ok_M_image am_nw_ok (As := []) (rest := []) rfl rfl rfl oR_M_isThere lk_M_188 iM_M_isThere sE_M_isThere (qc := kq10) rfl rfl rfl rfl (Nat.le_of_ble_eq_true rfl) (f_M_isThere_ok (d := d) (by omega)  hq7) ?_
    change am_AW am_nw ro (d + 1) mr_M_image 17 [some (.ref 63), some (.int x1), none] [.int q7.1] (S0, q7.2) (some (.int r)) (S0, m')
    refine am_AW.brN ok_M_image rfl rfl am_c_ne (fun c8 => ?_) (fun c8 => ?_)
    · rw [if_pos c8] at h
      refine am_AW.run am_base_ok ok_M_image (Nat.le_add_left 1 d) 1 (pc1 := 22) (ls1 := [some (.ref 63), some (.int x1), none]) (st1 := [.int (-1000002 : Int32)]) (σ1 := (S0, q7.2)) rfl ?_
      obtain ⟨rfl, rfl⟩ := Prod.mk.inj (Option.some.inj h)
      exact am_AW.ret ok_M_image rfl rfl rfl rfl
    · rw [if_neg c8] at h
      refine am_AW.run am_base_ok ok_M_image (Nat.le_add_left 1 d) 2 (pc1 := 25) (ls1 := [some (.ref 63), some (.int x1), some (.int (0 : Int32))]) (st1 := []) (σ1 := (S0, q7.2)) rfl ?_
      exact am_AW.weak (f_M_image_b25_ok hd x1 (0 : Int32)  h) (by simp only [am_le, and_self])
/-! FriezePolygonsModel.restore(I)I -/
def f_M_restore_b27 : Nat → Int32 → Int32 → am_Mm → Option (Int32 × am_Mm)
  | 0, _, _, _ => none
  | n + 1, x1, x2, m =>
    if (20 : Int32) ≤ x2 then
      some ((1 : Int32), (am_pI m 63 8 (0 : Int32)))
    else
      if am_in (((20 : Int32) * x1) + x2) 40 = true then
        if am_in x2 20 = true then
          f_M_restore_b27 n x1 (x2 + (1 : Int32)) (am_pI m 67 x2.toNatClampNeg (m.1 76 (((20 : Int32) * x1) + x2).toNatClampNeg))
        else none
      else none
def f_M_restore (x1 : Int32) (m : am_Mm) : Option (Int32 × am_Mm) :=
  (f_M_in (x1.toInt64) (0 : Int64) (1 : Int64) m).bind fun q3 =>
  if q3.1 = (0 : Int32) then
    some ((-1000001 : Int32), q3.2)
  else
    if am_in x1 2 = true then
      if (q3.2.1 75 x1.toNatClampNeg) = (0 : Int32) then
        some ((-1000002 : Int32), q3.2)
      else
        f_M_restore_b27 am_F x1 (0 : Int32) q3.2
    else none
set_option maxHeartbeats 4000000 in
set_option maxRecDepth 100000 in
theorem f_M_restore_b27_all {ro : am_Ro} {d : Nat} (hd : 2 ≤ d + 1) : ∀ (n : Nat) (x1 : Int32) (x2 : Int32) (m m' : am_Mm) (r : Int32), f_M_restore_b27 n x1 x2 m = some (r, m') → am_AW am_nw ro (d + 1) mr_M_restore 27 [some (.ref 63), some (.int x1), some (.int x2)] [] (S0, m) (some (.int r)) (S0, m') := by
  intro n
  induction n with
  | zero =>
    intro x1 x2 m m' r h
    rw [f_M_restore_b27] at h
    cases h
  | succ n ih =>
    intro x1 x2 m m' r h
    rw [f_M_restore_b27] at h
    refine am_AW.run am_base_ok ok_M_restore (Nat.le_add_left 1 d) 2 (pc1 := 30) (ls1 := [some (.ref 63), some (.int x1), some (.int x2)]) (st1 := [.int (20 : Int32), .int x2]) (σ1 := (S0, m)) rfl ?_
    refine am_AW.brP ok_M_restore rfl rfl am_c_ge (fun c7 => ?_) (fun c7 => ?_)
    · rw [if_pos c7] at h
      refine am_AW.run am_base_ok ok_M_restore (Nat.le_add_left 1 d) 2 (pc1 := 58) (ls1 := [some (.ref 63), some (.int x1), some (.int x2)]) (st1 := [.int (0 : Int32), .ref 63]) (σ1 := (S0, m)) rfl ?_
      refine am_AW.puti ok_M_restore (Nat.le_add_left 1 d) rfl rfl rfl (qc := kq10) rfl (by decide) ty_10_8 ?_
      refine am_AW.run am_base_ok ok_M_restore (Nat.le_add_left 1 d) 1 (pc1 := 62) (ls1 := [some (.ref 63), some (.int x1), some (.int x2)]) (st1 := [.int (1 : Int32)]) (σ1 := (S0, (am_pI m 63 8 (0 : Int32)))) rfl ?_
      obtain ⟨rfl, rfl⟩ := Prod.mk.inj (Option.some.inj h)
      exact am_AW.ret ok_M_restore rfl rfl rfl rfl
    · rw [if_neg c7] at h
      refine am_AW.run am_base_ok ok_M_restore (Nat.le_add_left 1 d) 10 (pc1 := 48) (ls1 := [some (.ref 63), some (.int x1), some (.int x2)]) (st1 := [.int (((20 : Int32) * x1) + x2), .ref 76, .int x2, .ref 67]) (σ1 := (S0, m)) rfl ?_
      by_cases g8 : am_in (((20 : Int32) * x1) + x2) 40 = true
      rotate_left
      · rw [if_neg g8] at h
        cases h
      rw [if_pos g8] at h
      refine am_AW.iald ok_M_restore (Nat.le_add_left 1 d) S0_len rfl rfl g8 ?_
      by_cases g9 : am_in x2 20 = true
      rotate_left
      · rw [if_neg g9] at h
        cases h
      rw [if_pos g9] at h
      refine am_AW.iast ok_M_restore (Nat.le_add_left 1 d) rfl rfl g9 ?_
      change am_AW am_nw ro (d + 1) mr_M_restore 50 [some (.ref 63), some (.int x1), some (.int x2)] [] (S0, (am_pI m 67 x2.toNatClampNeg (m.1 76 (((20 : Int32) * x1) + x2).toNatClampNeg))) (some (.int r)) (S0, m')
      refine am_AW.run am_base_ok ok_M_restore (Nat.le_add_left 1 d) 2 (pc1 := 27) (ls1 := [some (.ref 63), some (.int x1), some (.int (x2 + (1 : Int32)))]) (st1 := []) (σ1 := (S0, (am_pI m 67 x2.toNatClampNeg (m.1 76 (((20 : Int32) * x1) + x2).toNatClampNeg)))) rfl ?_
      exact am_AW.weak (ih x1 (x2 + (1 : Int32))  _ _ _ h) (by simp only [am_le, and_self])
set_option maxHeartbeats 4000000 in
set_option maxRecDepth 100000 in
theorem f_M_restore_b27_ok {ro : am_Ro} {d : Nat} (hd : 2 ≤ d + 1) (x1 : Int32) (x2 : Int32) {m m' : am_Mm} {r : Int32} {n : Nat} (h : f_M_restore_b27 n x1 x2 m = some (r, m')) : am_AW am_nw ro (d + 1) mr_M_restore 27 [some (.ref 63), some (.int x1), some (.int x2)] [] (S0, m) (some (.int r)) (S0, m') :=
  f_M_restore_b27_all hd n x1 x2  m m' r h
set_option maxHeartbeats 4000000 in
set_option maxRecDepth 100000 in
theorem f_M_restore_ok {ro : am_Ro} {d : Nat} (hd : 2 ≤ d) (x1 : Int32) {m m' : am_Mm} {r : Int32} (h : f_M_restore x1 m = some (r, m')) : am_Mt am_nw ro d mr_M_restore [.ref 63, .int x1] (S0, m) (some (.int r)) (S0, m') := by
  obtain ⟨d, rfl⟩ : ∃ d0, d = d0 + 1 := ⟨d - 1, by omega⟩
  refine am_Mt.of (by decide +kernel) (Nat.le_of_ble_eq_true rfl) ?_
  change am_AW am_nw ro (d + 1) mr_M_restore 0 [some (.ref 63), some (.int x1), none] [] (S0, m) (some (.int r)) (S0, m')
  unfold f_M_restore at h
  refine am_AW.run am_base_ok ok_M_restore (Nat.le_add_left 1 d) 4 (pc1 := 4) (ls1 := [some (.ref 63), some (.int x1), none]) (st1 := [.long (1 : Int64), .long (0 : Int64), .long (x1.toInt64)]) (σ1 := (S0, m)) rfl ?_
  obtain ⟨q3, hq3, h⟩ := Option.bind_eq_some_iff.mp h
  refine am_AW.callS ok_M_restore am_nw_ok (As := [.long (x1.toInt64), .long (0 : Int64), .long (1 : Int64)]) (rest := []) rfl rfl rfl oR_M_in lk_M_60 sT_M_in rfl (Nat.le_of_ble_eq_true rfl) (f_M_in_ok (d := d) (by omega) (x1.toInt64) (0 : Int64) (1 : Int64) hq3) ?_
  change am_AW am_nw ro (d + 1) mr_M_restore 7 [some (.ref 63), some (.int x1), none] [.int q3.1] (S0, q3.2) (some (.int r)) (S0, m')
  refine am_AW.brN ok_M_restore rfl rfl am_c_ne (fun c4 => ?_) (fun c4 => ?_)
  · rw [if_pos c4] at h
    refine am_AW.run am_base_ok ok_M_restore (Nat.le_add_left 1 d) 1 (pc1 := 12) (ls1 := [some (.ref 63), some (.int x1), none]) (st1 := [.int (-1000001 : Int32)]) (σ1 := (S0, q3.2)) rfl ?_
    obtain ⟨rfl, rfl⟩ := Prod.mk.inj (Option.some.inj h)
    exact am_AW.ret ok_M_restore rfl rfl rfl rfl
  · rw [if_neg c4] at h
    refine am_AW.run am_base_ok ok_M_restore (Nat.le_add_left 1 d) 3 (pc1 := 18) (ls1 := [some (.ref 63), some (.int x1), none]) (st1 := [.int x1, .ref 75]) (σ1 := (S0, q3.2)) rfl ?_
    by_cases g5 : am_in x1 2 = true
    rotate_left
    · rw [if_neg g5] at h
      cases h
    rw [if_pos g5] at h
    refine am_AW.zald ok_M_restore (Nat.le_add_left 1 d) rfl rfl g5 ?_
    refine am_AW.brN ok_M_restore rfl rfl am_c_ne (fun c6 => ?_) (fun c6 => ?_)
    · rw [if_pos c6] at h
      refine am_AW.run am_base_ok ok_M_restore (Nat.le_add_left 1 d) 1 (pc1 := 24) (ls1 := [some (.ref 63), some (.int x1), none]) (st1 := [.int (-1000002 : Int32)]) (σ1 := (S0, q3.2)) rfl ?_
      obtain ⟨rfl, rfl⟩ := Prod.mk.inj (Option.some.inj h)
      exact am_AW.ret ok_M_restore rfl rfl rfl rfl
    · rw [if_neg c6] at h
      refine am_AW.run am_base_ok ok_M_restore (Nat.le_add_left 1 d) 2 (pc1 := 27) (ls1 := [some (.ref 63), some (.int x1), some (.int (0 : Int32))]) (st1 := []) (σ1 := (S0, q3.2)) rfl ?_
      exact am_AW.weak (f_M_restore_b27_ok hd x1 (0 : Int32)  h) (by simp only [am_le, and_self])
/-! FriezePolygonsModel.trace(I)I -/
def f_M_trace (x1 : Int32) (m : am_Mm) : Option (Int32 × am_Mm) :=
  (f_M_in (x1.toInt64) (0 : Int64) (((m.1 63 25) - (1 : Int32)).toInt64) m).bind fun q3 =>
  if q3.1 = (0 : Int32) then
    some ((-1000000 : Int32), q3.2)
  else
    if am_in x1 16 = true then
      some ((q3.2.1 77 x1.toNatClampNeg), q3.2)
    else none
set_option maxHeartbeats 4000000 in
set_option maxRecDepth 100000 in
theorem f_M_trace_ok {ro : am_Ro} {d : Nat} (hd : 2 ≤ d) (x1 : Int32) {m m' : am_Mm} {r : Int32} (h : f_M_trace x1 m = some (r, m')) : am_Mt am_nw ro d mr_M_trace [.ref 63, .int x1] (S0, m) (some (.int r)) (S0, m') := by
  obtain ⟨d, rfl⟩ : ∃ d0, d = d0 + 1 := ⟨d - 1, by omega⟩
  refine am_Mt.of (by decide +kernel) (Nat.le_of_ble_eq_true rfl) ?_
  change am_AW am_nw ro (d + 1) mr_M_trace 0 [some (.ref 63), some (.int x1)] [] (S0, m) (some (.int r)) (S0, m')
  unfold f_M_trace at h
  refine am_AW.run am_base_ok ok_M_trace (Nat.le_add_left 1 d) 8 (pc1 := 10) (ls1 := [some (.ref 63), some (.int x1)]) (st1 := [.long (((m.1 63 25) - (1 : Int32)).toInt64), .long (0 : Int64), .long (x1.toInt64)]) (σ1 := (S0, m)) rfl ?_
  obtain ⟨q3, hq3, h⟩ := Option.bind_eq_some_iff.mp h
  refine am_AW.callS ok_M_trace am_nw_ok (As := [.long (x1.toInt64), .long (0 : Int64), .long (((m.1 63 25) - (1 : Int32)).toInt64)]) (rest := []) rfl rfl rfl oR_M_in lk_M_60 sT_M_in rfl (Nat.le_of_ble_eq_true rfl) (f_M_in_ok (d := d) (by omega) (x1.toInt64) (0 : Int64) (((m.1 63 25) - (1 : Int32)).toInt64) hq3) ?_
  change am_AW am_nw ro (d + 1) mr_M_trace 13 [some (.ref 63), some (.int x1)] [.int q3.1] (S0, q3.2) (some (.int r)) (S0, m')
  refine am_AW.brP ok_M_trace rfl rfl am_c_eq (fun c4 => ?_) (fun c4 => ?_)
  · rw [if_pos c4] at h
    refine am_AW.run am_base_ok ok_M_trace (Nat.le_add_left 1 d) 1 (pc1 := 27) (ls1 := [some (.ref 63), some (.int x1)]) (st1 := [.int (-1000000 : Int32)]) (σ1 := (S0, q3.2)) rfl ?_
    obtain ⟨rfl, rfl⟩ := Prod.mk.inj (Option.some.inj h)
    exact am_AW.ret ok_M_trace rfl rfl rfl rfl
  · rw [if_neg c4] at h
    refine am_AW.run am_base_ok ok_M_trace (Nat.le_add_left 1 d) 3 (pc1 := 21) (ls1 := [some (.ref 63), some (.int x1)]) (st1 := [.int x1, .ref 77]) (σ1 := (S0, q3.2)) rfl ?_
    by_cases g5 : am_in x1 16 = true
    rotate_left
    · rw [if_neg g5] at h
      cases h
    rw [if_pos g5] at h
    refine am_AW.iald ok_M_trace (Nat.le_add_left 1 d) S0_len rfl rfl g5 ?_
    refine am_AW.run am_base_ok ok_M_trace (Nat.le_add_left 1 d) 1 (pc1 := 27) (ls1 := [some (.ref 63), some (.int x1)]) (st1 := [.int (q3.2.1 77 x1.toNatClampNeg)]) (σ1 := (S0, q3.2)) rfl ?_
    obtain ⟨rfl, rfl⟩ := Prod.mk.inj (Option.some.inj h)
    exact am_AW.ret ok_M_trace rfl rfl rfl rfl
/-! FriezePolygons$Asks.body13()I -/
def f_Asks_body13 (m : am_Mm) : Option (Int32 × am_Mm) :=
  (f_Asks_begins (13 : Int32) m).bind fun q3 =>
  (f_Asks_body10 q3).bind fun q6 =>
  some ((q6.1 - (100 : Int32)), q6.2)
set_option maxHeartbeats 4000000 in
set_option maxRecDepth 100000 in
theorem f_Asks_body13_ok {ro : am_Ro} {d : Nat} (hd : 3 ≤ d) {m m' : am_Mm} {r : Int32} (h : f_Asks_body13  m = some (r, m')) : am_Mt am_nw ro d mr_Asks_body13 [.ref 38] (S0, m) (some (.int r)) (S0, m') := by
  obtain ⟨d, rfl⟩ : ∃ d0, d = d0 + 1 := ⟨d - 1, by omega⟩
  refine am_Mt.of (by decide +kernel) (Nat.le_of_ble_eq_true rfl) ?_
  change am_AW am_nw ro (d + 1) mr_Asks_body13 0 [some (.ref 38)] [] (S0, m) (some (.int r)) (S0, m')
  unfold f_Asks_body13 at h
  refine am_AW.run am_base_ok ok_Asks_body13 (Nat.le_add_left 1 d) 2 (pc1 := 3) (ls1 := [some (.ref 38)]) (st1 := [.int (13 : Int32), .ref 38]) (σ1 := (S0, m)) rfl ?_
  obtain ⟨q3, hq3, h⟩ := Option.bind_eq_some_iff.mp h
  refine am_AW.callV ok_Asks_body13 am_nw_ok (As := [.int (13 : Int32)]) (rest := []) rfl rfl rfl oR_Asks_begins lk_Asks_31 iM_Asks_begins sE_Asks_begins (qc := kq1) rfl rfl rfl rfl (Nat.le_of_ble_eq_true rfl) (f_Asks_begins_ok (d := d) (by omega) (13 : Int32) hq3) ?_
  change am_AW am_nw ro (d + 1) mr_Asks_body13 6 [some (.ref 38)] [] (S0, q3) (some (.int r)) (S0, m')
  refine am_AW.run am_base_ok ok_Asks_body13 (Nat.le_add_left 1 d) 1 (pc1 := 7) (ls1 := [some (.ref 38)]) (st1 := [.ref 38]) (σ1 := (S0, q3)) rfl ?_
  obtain ⟨q6, hq6, h⟩ := Option.bind_eq_some_iff.mp h
  refine am_AW.callV ok_Asks_body13 am_nw_ok (As := []) (rest := []) rfl rfl rfl oR_Asks_body10 lk_Asks_54 iM_Asks_body10 sE_Asks_body10 (qc := kq1) rfl rfl rfl rfl (Nat.le_of_ble_eq_true rfl) (f_Asks_body10_ok (d := d) (by omega)  hq6) ?_
  change am_AW am_nw ro (d + 1) mr_Asks_body13 10 [some (.ref 38)] [.int q6.1] (S0, q6.2) (some (.int r)) (S0, m')
  refine am_AW.run am_base_ok ok_Asks_body13 (Nat.le_add_left 1 d) 2 (pc1 := 13) (ls1 := [some (.ref 38)]) (st1 := [.int (q6.1 - (100 : Int32))]) (σ1 := (S0, q6.2)) rfl ?_
  obtain ⟨rfl, rfl⟩ := Prod.mk.inj (Option.some.inj h)
  exact am_AW.ret ok_Asks_body13 rfl rfl rfl rfl
/-! FriezePolygons$Asks.body21()I -/
def f_Asks_body21 (m : am_Mm) : Option (Int32 × am_Mm) :=
  (f_Asks_begins (21 : Int32) m).bind fun q3 =>
  (f_Asks_body20 q3).bind fun q6 =>
  some ((q6.1 + (q6.2.1 38 5)), q6.2)
set_option maxHeartbeats 4000000 in
set_option maxRecDepth 100000 in
theorem f_Asks_body21_ok {ro : am_Ro} {d : Nat} (hd : 3 ≤ d) {m m' : am_Mm} {r : Int32} (h : f_Asks_body21  m = some (r, m')) : am_Mt am_nw ro d mr_Asks_body21 [.ref 38] (S0, m) (some (.int r)) (S0, m') := by
  obtain ⟨d, rfl⟩ : ∃ d0, d = d0 + 1 := ⟨d - 1, by omega⟩
  refine am_Mt.of (by decide +kernel) (Nat.le_of_ble_eq_true rfl) ?_
  change am_AW am_nw ro (d + 1) mr_Asks_body21 0 [some (.ref 38)] [] (S0, m) (some (.int r)) (S0, m')
  unfold f_Asks_body21 at h
  refine am_AW.run am_base_ok ok_Asks_body21 (Nat.le_add_left 1 d) 2 (pc1 := 3) (ls1 := [some (.ref 38)]) (st1 := [.int (21 : Int32), .ref 38]) (σ1 := (S0, m)) rfl ?_
  obtain ⟨q3, hq3, h⟩ := Option.bind_eq_some_iff.mp h
  refine am_AW.callV ok_Asks_body21 am_nw_ok (As := [.int (21 : Int32)]) (rest := []) rfl rfl rfl oR_Asks_begins lk_Asks_31 iM_Asks_begins sE_Asks_begins (qc := kq1) rfl rfl rfl rfl (Nat.le_of_ble_eq_true rfl) (f_Asks_begins_ok (d := d) (by omega) (21 : Int32) hq3) ?_
  change am_AW am_nw ro (d + 1) mr_Asks_body21 6 [some (.ref 38)] [] (S0, q3) (some (.int r)) (S0, m')
  refine am_AW.run am_base_ok ok_Asks_body21 (Nat.le_add_left 1 d) 1 (pc1 := 7) (ls1 := [some (.ref 38)]) (st1 := [.ref 38]) (σ1 := (S0, q3)) rfl ?_
  obtain ⟨q6, hq6, h⟩ := Option.bind_eq_some_iff.mp h
  refine am_AW.callV ok_Asks_body21 am_nw_ok (As := []) (rest := []) rfl rfl rfl oR_Asks_body20 lk_Asks_57 iM_Asks_body20 sE_Asks_body20 (qc := kq1) rfl rfl rfl rfl (Nat.le_of_ble_eq_true rfl) (f_Asks_body20_ok (d := d) (by omega)  hq6) ?_
  change am_AW am_nw ro (d + 1) mr_Asks_body21 10 [some (.ref 38)] [.int q6.1] (S0, q6.2) (some (.int r)) (S0, m')
  refine am_AW.run am_base_ok ok_Asks_body21 (Nat.le_add_left 1 d) 3 (pc1 := 15) (ls1 := [some (.ref 38)]) (st1 := [.int (q6.1 + (q6.2.1 38 5))]) (σ1 := (S0, q6.2)) rfl ?_
  obtain ⟨rfl, rfl⟩ := Prod.mk.inj (Option.some.inj h)
  exact am_AW.ret ok_Asks_body21 rfl rfl rfl rfl
/-! FriezePolygons$Figure.countOf(ILFriezePolygons$Ring;)I -/
def f_Figure_countOf (p0 : Nat) (x1 : Int32) (m : am_Mm) : Option (Int32 × am_Mm) :=
  (f_Ring_cutsAt (m.1 p0 3) x1 m).bind fun q3 =>
  if am_in x1 9 = true then
    if (q3.2.1 (p0 + 1) x1.toNatClampNeg) = (2 : Int32) then
      some (((2 : Int32) * (q3.1 + (1 : Int32))), q3.2)
    else
      if (q3.2.1 (p0 + 1) x1.toNatClampNeg) = (3 : Int32) then
        some ((-(q3.1 + (1 : Int32))), q3.2)
      else
        if (q3.2.1 (p0 + 1) x1.toNatClampNeg) = (4 : Int32) then
          if am_in x1 9 = true then
            some ((q3.2.1 (p0 + 2) x1.toNatClampNeg), q3.2)
          else none
        else
          if (q3.2.1 (p0 + 1) x1.toNatClampNeg) = (5 : Int32) then
            if am_in x1 9 = true then
              some (((q3.2.1 (p0 + 2) x1.toNatClampNeg) + (1 : Int32)), q3.2)
            else none
          else
            some ((q3.1 + (1 : Int32)), q3.2)
  else none
set_option maxHeartbeats 4000000 in
set_option maxRecDepth 100000 in
theorem f_Figure_countOf_ok {ro : am_Ro} {d : Nat} (hd : 3 ≤ d) (p0 : Nat) (x1 : Int32) (hp0 : p0 = 13 ∨ p0 = 16) {m m' : am_Mm} {r : Int32} (h : f_Figure_countOf p0 x1 m = some (r, m')) : am_Mt am_nw ro d mr_Figure_countOf [.ref p0, .int x1, .ref 20] (S0, m) (some (.int r)) (S0, m') := by
  obtain ⟨d, rfl⟩ : ∃ d0, d = d0 + 1 := ⟨d - 1, by omega⟩
  refine am_Mt.of (by decide +kernel) (Nat.le_of_ble_eq_true rfl) ?_
  change am_AW am_nw ro (d + 1) mr_Figure_countOf 0 [some (.ref p0), some (.int x1), some (.ref 20), none] [] (S0, m) (some (.int r)) (S0, m')
  unfold f_Figure_countOf at h
  refine am_AW.run am_base_ok ok_Figure_countOf (Nat.le_add_left 1 d) 2 (pc1 := 2) (ls1 := [some (.ref p0), some (.int x1), some (.ref 20), none]) (st1 := [.ref p0, .ref 20]) (σ1 := (S0, m)) rfl ?_
  refine am_AW.geti ok_Figure_countOf (Nat.le_add_left 1 d) rfl (sh_13_16_0 hp0) rfl ?_
  refine am_AW.run am_base_ok ok_Figure_countOf (Nat.le_add_left 1 d) 1 (pc1 := 6) (ls1 := [some (.ref p0), some (.int x1), some (.ref 20), none]) (st1 := [.int x1, .int (m.1 p0 3), .ref 20]) (σ1 := (S0, m)) rfl ?_
  obtain ⟨q3, hq3, h⟩ := Option.bind_eq_some_iff.mp h
  refine am_AW.callV ok_Figure_countOf am_nw_ok (As := [.int (m.1 p0 3), .int x1]) (rest := []) rfl rfl rfl oR_Ring_cutsAt lk_Figure_31 iM_Ring_cutsAt sE_Ring_cutsAt (qc := kq6) rfl rfl rfl rfl (Nat.le_of_ble_eq_true rfl) (f_Ring_cutsAt_ok (d := d) (by omega) (m.1 p0 3) x1 hq3) ?_
  change am_AW am_nw ro (d + 1) mr_Figure_countOf 9 [some (.ref p0), some (.int x1), some (.ref 20), none] [.int q3.1] (S0, q3.2) (some (.int r)) (S0, m')
  refine am_AW.run am_base_ok ok_Figure_countOf (Nat.le_add_left 1 d) 4 (pc1 := 13) (ls1 := [some (.ref p0), some (.int x1), some (.ref 20), some (.int (q3.1 + (1 : Int32)))]) (st1 := [.ref p0]) (σ1 := (S0, q3.2)) rfl ?_
  refine am_AW.getf ok_Figure_countOf (Nat.le_add_left 1 d) rfl (sh_13_16_0 hp0) rfl ?_
  refine am_AW.run am_base_ok ok_Figure_countOf (Nat.le_add_left 1 d) 1 (pc1 := 17) (ls1 := [some (.ref p0), some (.int x1), some (.ref 20), some (.int (q3.1 + (1 : Int32)))]) (st1 := [.int x1, .ref (p0 + 1)]) (σ1 := (S0, q3.2)) rfl ?_
  by_cases g4 : am_in x1 9 = true
  rotate_left
  · rw [if_neg g4] at h
    cases h
  rw [if_pos g4] at h
  refine am_AW.iald ok_Figure_countOf (Nat.le_add_left 1 d) S0_len rfl (sh_13_16_1 hp0) g4 ?_
  by_cases c5 : (q3.2.1 (p0 + 1) x1.toNatClampNeg) = (2 : Int32)
  · rw [if_pos c5] at h
    refine am_AW.sw ok_Figure_countOf rfl (t := 48) (by rw [c5]; decide +kernel) ?_
    refine am_AW.run am_base_ok ok_Figure_countOf (Nat.le_add_left 1 d) 3 (pc1 := 51) (ls1 := [some (.ref p0), some (.int x1), some (.ref 20), some (.int (q3.1 + (1 : Int32)))]) (st1 := [.int ((2 : Int32) * (q3.1 + (1 : Int32)))]) (σ1 := (S0, q3.2)) rfl ?_
    obtain ⟨rfl, rfl⟩ := Prod.mk.inj (Option.some.inj h)
    exact am_AW.ret ok_Figure_countOf rfl rfl rfl rfl
  rw [if_neg c5] at h
  by_cases c6 : (q3.2.1 (p0 + 1) x1.toNatClampNeg) = (3 : Int32)
  · rw [if_pos c6] at h
    refine am_AW.sw ok_Figure_countOf rfl (t := 52) (by rw [c6]; decide +kernel) ?_
    refine am_AW.run am_base_ok ok_Figure_countOf (Nat.le_add_left 1 d) 2 (pc1 := 54) (ls1 := [some (.ref p0), some (.int x1), some (.ref 20), some (.int (q3.1 + (1 : Int32)))]) (st1 := [.int (-(q3.1 + (1 : Int32)))]) (σ1 := (S0, q3.2)) rfl ?_
    obtain ⟨rfl, rfl⟩ := Prod.mk.inj (Option.some.inj h)
    exact am_AW.ret ok_Figure_countOf rfl rfl rfl rfl
  rw [if_neg c6] at h
  by_cases c7 : (q3.2.1 (p0 + 1) x1.toNatClampNeg) = (4 : Int32)
  · rw [if_pos c7] at h
    refine am_AW.sw ok_Figure_countOf rfl (t := 55) (by rw [c7]; decide +kernel) ?_
    refine am_AW.run am_base_ok ok_Figure_countOf (Nat.le_add_left 1 d) 1 (pc1 := 56) (ls1 := [some (.ref p0), some (.int x1), some (.ref 20), some (.int (q3.1 + (1 : Int32)))]) (st1 := [.ref p0]) (σ1 := (S0, q3.2)) rfl ?_
    refine am_AW.getf ok_Figure_countOf (Nat.le_add_left 1 d) rfl (sh_13_16_0 hp0) rfl ?_
    refine am_AW.run am_base_ok ok_Figure_countOf (Nat.le_add_left 1 d) 1 (pc1 := 60) (ls1 := [some (.ref p0), some (.int x1), some (.ref 20), some (.int (q3.1 + (1 : Int32)))]) (st1 := [.int x1, .ref (p0 + 2)]) (σ1 := (S0, q3.2)) rfl ?_
    by_cases g8 : am_in x1 9 = true
    rotate_left
    · rw [if_neg g8] at h
      cases h
    rw [if_pos g8] at h
    refine am_AW.iald ok_Figure_countOf (Nat.le_add_left 1 d) S0_len rfl (sh_13_16_2 hp0) g8 ?_
    obtain ⟨rfl, rfl⟩ := Prod.mk.inj (Option.some.inj h)
    exact am_AW.ret ok_Figure_countOf rfl rfl rfl rfl
  rw [if_neg c7] at h
  by_cases c9 : (q3.2.1 (p0 + 1) x1.toNatClampNeg) = (5 : Int32)
  · rw [if_pos c9] at h
    refine am_AW.sw ok_Figure_countOf rfl (t := 62) (by rw [c9]; decide +kernel) ?_
    refine am_AW.run am_base_ok ok_Figure_countOf (Nat.le_add_left 1 d) 1 (pc1 := 63) (ls1 := [some (.ref p0), some (.int x1), some (.ref 20), some (.int (q3.1 + (1 : Int32)))]) (st1 := [.ref p0]) (σ1 := (S0, q3.2)) rfl ?_
    refine am_AW.getf ok_Figure_countOf (Nat.le_add_left 1 d) rfl (sh_13_16_0 hp0) rfl ?_
    refine am_AW.run am_base_ok ok_Figure_countOf (Nat.le_add_left 1 d) 1 (pc1 := 67) (ls1 := [some (.ref p0), some (.int x1), some (.ref 20), some (.int (q3.1 + (1 : Int32)))]) (st1 := [.int x1, .ref (p0 + 2)]) (σ1 := (S0, q3.2)) rfl ?_
    by_cases g10 : am_in x1 9 = true
    rotate_left
    · rw [if_neg g10] at h
      cases h
    rw [if_pos g10] at h
    refine am_AW.iald ok_Figure_countOf (Nat.le_add_left 1 d) S0_len rfl (sh_13_16_2 hp0) g10 ?_
    refine am_AW.run am_base_ok ok_Figure_countOf (Nat.le_add_left 1 d) 2 (pc1 := 70) (ls1 := [some (.ref p0), some (.int x1), some (.ref 20), some (.int (q3.1 + (1 : Int32)))]) (st1 := [.int ((q3.2.1 (p0 + 2) x1.toNatClampNeg) + (1 : Int32))]) (σ1 := (S0, q3.2)) rfl ?_
    obtain ⟨rfl, rfl⟩ := Prod.mk.inj (Option.some.inj h)
    exact am_AW.ret ok_Figure_countOf rfl rfl rfl rfl
  rw [if_neg c9] at h
  have o11 : ((q3.2.1 (p0 + 1) x1.toNatClampNeg)).toInt < 2 ∨ 5 < ((q3.2.1 (p0 + 1) x1.toNatClampNeg)).toInt := by
    have := lv_neT c5 (a := 2) (by decide)
    have := lv_neT c6 (a := 3) (by decide)
    have := lv_neT c7 (a := 4) (by decide)
    have := lv_neT c9 (a := 5) (by decide)
    omega
  refine am_AW.sw ok_Figure_countOf rfl (t := 71) (by simp only [am_sw, if_pos o11]; decide +kernel) ?_
  refine am_AW.run am_base_ok ok_Figure_countOf (Nat.le_add_left 1 d) 1 (pc1 := 72) (ls1 := [some (.ref p0), some (.int x1), some (.ref 20), some (.int (q3.1 + (1 : Int32)))]) (st1 := [.int (q3.1 + (1 : Int32))]) (σ1 := (S0, q3.2)) rfl ?_
  obtain ⟨rfl, rfl⟩ := Prod.mk.inj (Option.some.inj h)
  exact am_AW.ret ok_Figure_countOf rfl rfl rfl rfl
/-! FriezePolygons$Frieze.closes()Z -/
def f_Frieze_closes_b2 : Nat → Int32 → am_Mm → Option (Int32 × am_Mm)
  | 0, _, _ => none
  | n + 1, x1, m =>
    if (m.1 30 2) ≤ x1 then
      some ((1 : Int32), m)
    else
      (f_Frieze_grow x1 (m.1 30 2) m).bind fun q4 =>
      if q4.1 = (0 : Int32) then
        some ((0 : Int32), q4.2)
      else
        if am_in (q4.2.1 30 2) 21 = true then
          if (lg_cmp (q4.2.2 32 (q4.2.1 30 2).toNatClampNeg) (0 : Int64)) = (0 : Int32) then
            if am_in ((q4.2.1 30 2) - (1 : Int32)) 21 = true then
              if (lg_cmp (q4.2.2 32 ((q4.2.1 30 2) - (1 : Int32)).toNatClampNeg) (1 : Int64)) = (0 : Int32) then
                f_Frieze_closes_b2 n (x1 + (1 : Int32)) q4.2
              else
                some ((0 : Int32), q4.2)
            else none
          else
            some ((0 : Int32), q4.2)
        else none
def f_Frieze_closes (m : am_Mm) : Option (Int32 × am_Mm) :=
  f_Frieze_closes_b2 am_F (0 : Int32) m
set_option maxHeartbeats 4000000 in
set_option maxRecDepth 100000 in
theorem f_Frieze_closes_b2_all {ro : am_Ro} {d : Nat} (hd : 3 ≤ d + 1) : ∀ (n : Nat) (x1 : Int32) (m m' : am_Mm) (r : Int32), f_Frieze_closes_b2 n x1 m = some (r, m') → am_AW am_nw ro (d + 1) mr_Frieze_closes 2 [some (.ref 30), some (.int x1)] [] (S0, m) (some (.int r)) (S0, m') := by
  intro n
  induction n with
  | zero =>
    intro x1 m m' r h
    rw [f_Frieze_closes_b2] at h
    cases h
  | succ n ih =>
    intro x1 m m' r h
    rw [f_Frieze_closes_b2] at h
    refine am_AW.run am_base_ok ok_Frieze_closes (Nat.le_add_left 1 d) 3 (pc1 := 7) (ls1 := [some (.ref 30), some (.int x1)]) (st1 := [.int (m.1 30 2), .int x1]) (σ1 := (S0, m)) rfl ?_
    refine am_AW.brP ok_Frieze_closes rfl rfl am_c_ge (fun c1 => ?_) (fun c1 => ?_)
    · rw [if_pos c1] at h
      refine am_AW.run am_base_ok ok_Frieze_closes (Nat.le_add_left 1 d) 1 (pc1 := 61) (ls1 := [some (.ref 30), some (.int x1)]) (st1 := [.int (1 : Int32)]) (σ1 := (S0, m)) rfl ?_
      obtain ⟨rfl, rfl⟩ := Prod.mk.inj (Option.some.inj h)
      exact am_AW.ret ok_Frieze_closes rfl rfl rfl (by decide)
    · rw [if_neg c1] at h
      refine am_AW.run am_base_ok ok_Frieze_closes (Nat.le_add_left 1 d) 4 (pc1 := 16) (ls1 := [some (.ref 30), some (.int x1)]) (st1 := [.int (m.1 30 2), .int x1, .ref 30]) (σ1 := (S0, m)) rfl ?_
      obtain ⟨q4, hq4, h⟩ := Option.bind_eq_some_iff.mp h
      refine am_AW.callV ok_Frieze_closes am_nw_ok (As := [.int x1, .int (m.1 30 2)]) (rest := []) rfl rfl rfl oR_Frieze_grow lk_Frieze_40 iM_Frieze_grow sE_Frieze_grow (qc := kq5) rfl rfl rfl rfl (Nat.le_of_ble_eq_true rfl) (f_Frieze_grow_ok (d := d) (by omega) x1 (m.1 30 2) hq4) ?_
      change am_AW am_nw ro (d + 1) mr_Frieze_closes 19 [some (.ref 30), some (.int x1)] [.int q4.1] (S0, q4.2) (some (.int r)) (S0, m')
      refine am_AW.brP ok_Frieze_closes rfl rfl am_c_eq (fun c5 => ?_) (fun c5 => ?_)
      · rw [if_pos c5] at h
        refine am_AW.run am_base_ok ok_Frieze_closes (Nat.le_add_left 1 d) 1 (pc1 := 53) (ls1 := [some (.ref 30), some (.int x1)]) (st1 := [.int (0 : Int32)]) (σ1 := (S0, q4.2)) rfl ?_
        obtain ⟨rfl, rfl⟩ := Prod.mk.inj (Option.some.inj h)
        exact am_AW.ret ok_Frieze_closes rfl rfl rfl (by decide)
      · rw [if_neg c5] at h
        refine am_AW.run am_base_ok ok_Frieze_closes (Nat.le_add_left 1 d) 4 (pc1 := 30) (ls1 := [some (.ref 30), some (.int x1)]) (st1 := [.int (q4.2.1 30 2), .ref 32]) (σ1 := (S0, q4.2)) rfl ?_
        by_cases g6 : am_in (q4.2.1 30 2) 21 = true
        rotate_left
        · rw [if_neg g6] at h
          cases h
        rw [if_pos g6] at h
        refine am_AW.lald ok_Frieze_closes (Nat.le_add_left 1 d) rfl rfl g6 ?_
        refine am_AW.run am_base_ok ok_Frieze_closes (Nat.le_add_left 1 d) 2 (pc1 := 33) (ls1 := [some (.ref 30), some (.int x1)]) (st1 := [.int (lg_cmp (q4.2.2 32 (q4.2.1 30 2).toNatClampNeg) (0 : Int64))]) (σ1 := (S0, q4.2)) rfl ?_
        refine am_AW.brN ok_Frieze_closes rfl rfl am_c_ne (fun c7 => ?_) (fun c7 => ?_)
        · rw [if_pos c7] at h
          refine am_AW.run am_base_ok ok_Frieze_closes (Nat.le_add_left 1 d) 6 (pc1 := 46) (ls1 := [some (.ref 30), some (.int x1)]) (st1 := [.int ((q4.2.1 30 2) - (1 : Int32)), .ref 32]) (σ1 := (S0, q4.2)) rfl ?_
          by_cases g8 : am_in ((q4.2.1 30 2) - (1 : Int32)) 21 = true
          rotate_left
          · rw [if_neg g8] at h
            cases h
          rw [if_pos g8] at h
          refine am_AW.lald ok_Frieze_closes (Nat.le_add_left 1 d) rfl rfl g8 ?_
          refine am_AW.run am_base_ok ok_Frieze_closes (Nat.le_add_left 1 d) 2 (pc1 := 49) (ls1 := [some (.ref 30), some (.int x1)]) (st1 := [.int (lg_cmp (q4.2.2 32 ((q4.2.1 30 2) - (1 : Int32)).toNatClampNeg) (1 : Int64))]) (σ1 := (S0, q4.2)) rfl ?_
          refine am_AW.brP ok_Frieze_closes rfl rfl am_c_eq (fun c9 => ?_) (fun c9 => ?_)
          · rw [if_pos c9] at h
            refine am_AW.run am_base_ok ok_Frieze_closes (Nat.le_add_left 1 d) 2 (pc1 := 2) (ls1 := [some (.ref 30), some (.int (x1 + (1 : Int32)))]) (st1 := []) (σ1 := (S0, q4.2)) rfl ?_
            exact am_AW.weak (ih (x1 + (1 : Int32))  _ _ _ h) (by simp only [am_le, and_self])
          · rw [if_neg c9] at h
            refine am_AW.run am_base_ok ok_Frieze_closes (Nat.le_add_left 1 d) 1 (pc1 := 53) (ls1 := [some (.ref 30), some (.int x1)]) (st1 := [.int (0 : Int32)]) (σ1 := (S0, q4.2)) rfl ?_
            obtain ⟨rfl, rfl⟩ := Prod.mk.inj (Option.some.inj h)
            exact am_AW.ret ok_Frieze_closes rfl rfl rfl (by decide)
        · rw [if_neg c7] at h
          refine am_AW.run am_base_ok ok_Frieze_closes (Nat.le_add_left 1 d) 1 (pc1 := 53) (ls1 := [some (.ref 30), some (.int x1)]) (st1 := [.int (0 : Int32)]) (σ1 := (S0, q4.2)) rfl ?_
          obtain ⟨rfl, rfl⟩ := Prod.mk.inj (Option.some.inj h)
          exact am_AW.ret ok_Frieze_closes rfl rfl rfl (by decide)
set_option maxHeartbeats 4000000 in
set_option maxRecDepth 100000 in
theorem f_Frieze_closes_b2_ok {ro : am_Ro} {d : Nat} (hd : 3 ≤ d + 1) (x1 : Int32) {m m' : am_Mm} {r : Int32} {n : Nat} (h : f_Frieze_closes_b2 n x1 m = some (r, m')) : am_AW am_nw ro (d + 1) mr_Frieze_closes 2 [some (.ref 30), some (.int x1)] [] (S0, m) (some (.int r)) (S0, m') :=
  f_Frieze_closes_b2_all hd n x1  m m' r h
set_option maxHeartbeats 4000000 in
set_option maxRecDepth 100000 in
theorem f_Frieze_closes_ok {ro : am_Ro} {d : Nat} (hd : 3 ≤ d) {m m' : am_Mm} {r : Int32} (h : f_Frieze_closes  m = some (r, m')) : am_Mt am_nw ro d mr_Frieze_closes [.ref 30] (S0, m) (some (.int r)) (S0, m') := by
  obtain ⟨d, rfl⟩ : ∃ d0, d = d0 + 1 := ⟨d - 1, by omega⟩
  refine am_Mt.of (by decide +kernel) (Nat.le_of_ble_eq_true rfl) ?_
  change am_AW am_nw ro (d + 1) mr_Frieze_closes 0 [some (.ref 30), none] [] (S0, m) (some (.int r)) (S0, m')
  unfold f_Frieze_closes at h
  refine am_AW.run am_base_ok ok_Frieze_closes (Nat.le_add_left 1 d) 2 (pc1 := 2) (ls1 := [some (.ref 30), some (.int (0 : Int32))]) (st1 := []) (σ1 := (S0, m)) rfl ?_
  exact am_AW.weak (f_Frieze_closes_b2_ok hd (0 : Int32)  h) (by simp only [am_le, and_self])
/-! FriezePolygons$Frieze.cornersWith(Z)I -/
def f_Frieze_cornersWith_b40 (k4 : Int32 → Int32 → Int32 → am_Mm → Option (Int32 × am_Mm)) (x1 : Int32) (x2 : Int32) (x3 : Int32) (m : am_Mm) : Option (Int32 × am_Mm) :=
  k4 x1 x2 (x3 + (1 : Int32)) m
def f_Frieze_cornersWith_b4 : Nat → Int32 → Int32 → Int32 → am_Mm → Option (Int32 × am_Mm)
  | 0, _, _, _, _ => none
  | n + 1, x1, x2, x3, m =>
    if (m.1 30 2) ≤ x3 then
      some (x2, m)
    else
      (f_Frieze_grow x3 ((m.1 30 2) - (1 : Int32)) m).bind fun q4 =>
      if q4.1 = (0 : Int32) then
        f_Frieze_cornersWith_b40 (f_Frieze_cornersWith_b4 n) x1 x2 x3 q4.2
      else
        (f_Frieze_hasSuch x1 q4.2).bind fun q8 =>
        if q8.1 = (0 : Int32) then
          f_Frieze_cornersWith_b40 (f_Frieze_cornersWith_b4 n) x1 x2 x3 q8.2
        else
          f_Frieze_cornersWith_b40 (f_Frieze_cornersWith_b4 n) x1 (x2 ||| (am_shl (1 : Int32) x3)) x3 q8.2
def f_Frieze_cornersWith (x1 : Int32) (m : am_Mm) : Option (Int32 × am_Mm) :=
  f_Frieze_cornersWith_b4 am_F x1 (0 : Int32) (0 : Int32) m
set_option maxHeartbeats 4000000 in
set_option maxRecDepth 100000 in
theorem f_Frieze_cornersWith_b40_ok {ro : am_Ro} {d : Nat} (hd : 3 ≤ d + 1) {k4 : Int32 → Int32 → Int32 → am_Mm → Option (Int32 × am_Mm)} (hk4 : ∀ (x1 : Int32) (x2 : Int32) (x3 : Int32) (m m' : am_Mm) (r : Int32), k4 x1 x2 x3 m = some (r, m') → am_AW am_nw ro (d + 1) mr_Frieze_cornersWith 4 [some (.ref 30), some (.int x1), some (.int x2), some (.int x3)] [] (S0, m) (some (.int r)) (S0, m')) (x1 : Int32) (x2 : Int32) (x3 : Int32) {m m' : am_Mm} {r : Int32} (h : f_Frieze_cornersWith_b40 k4 x1 x2 x3 m = some (r, m')) : am_AW am_nw ro (d + 1) mr_Frieze_cornersWith 40 [some (.ref 30), some (.int x1), some (.int x2), some (.int x3)] [] (S0, m) (some (.int r)) (S0, m') := by
  unfold f_Frieze_cornersWith_b40 at h
  refine am_AW.run am_base_ok ok_Frieze_cornersWith (Nat.le_add_left 1 d) 2 (pc1 := 4) (ls1 := [some (.ref 30), some (.int x1), some (.int x2), some (.int (x3 + (1 : Int32)))]) (st1 := []) (σ1 := (S0, m)) rfl ?_
  exact am_AW.weak (hk4 x1 x2 (x3 + (1 : Int32))  _ _ _ h) (by simp only [am_le, and_self])
set_option maxHeartbeats 4000000 in
set_option maxRecDepth 100000 in
theorem f_Frieze_cornersWith_b4_all {ro : am_Ro} {d : Nat} (hd : 3 ≤ d + 1) : ∀ (n : Nat) (x1 : Int32) (x2 : Int32) (x3 : Int32) (m m' : am_Mm) (r : Int32), f_Frieze_cornersWith_b4 n x1 x2 x3 m = some (r, m') → am_AW am_nw ro (d + 1) mr_Frieze_cornersWith 4 [some (.ref 30), some (.int x1), some (.int x2), some (.int x3)] [] (S0, m) (some (.int r)) (S0, m') := by
  intro n
  induction n with
  | zero =>
    intro x1 x2 x3 m m' r h
    rw [f_Frieze_cornersWith_b4] at h
    cases h
  | succ n ih =>
    intro x1 x2 x3 m m' r h
    rw [f_Frieze_cornersWith_b4] at h
    refine am_AW.run am_base_ok ok_Frieze_cornersWith (Nat.le_add_left 1 d) 3 (pc1 := 9) (ls1 := [some (.ref 30), some (.int x1), some (.int x2), some (.int x3)]) (st1 := [.int (m.1 30 2), .int x3]) (σ1 := (S0, m)) rfl ?_
    refine am_AW.brP ok_Frieze_cornersWith rfl rfl am_c_ge (fun c1 => ?_) (fun c1 => ?_)
    · rw [if_pos c1] at h
      refine am_AW.run am_base_ok ok_Frieze_cornersWith (Nat.le_add_left 1 d) 1 (pc1 := 47) (ls1 := [some (.ref 30), some (.int x1), some (.int x2), some (.int x3)]) (st1 := [.int x2]) (σ1 := (S0, m)) rfl ?_
      obtain ⟨rfl, rfl⟩ := Prod.mk.inj (Option.some.inj h)
      exact am_AW.ret ok_Frieze_cornersWith rfl rfl rfl rfl
    · rw [if_neg c1] at h
      refine am_AW.run am_base_ok ok_Frieze_cornersWith (Nat.le_add_left 1 d) 6 (pc1 := 20) (ls1 := [some (.ref 30), some (.int x1), some (.int x2), some (.int x3)]) (st1 := [.int ((m.1 30 2) - (1 : Int32)), .int x3, .ref 30]) (σ1 := (S0, m)) rfl ?_
      obtain ⟨q4, hq4, h⟩ := Option.bind_eq_some_iff.mp h
      refine am_AW.callV ok_Frieze_cornersWith am_nw_ok (As := [.int x3, .int ((m.1 30 2) - (1 : Int32))]) (rest := []) rfl rfl rfl oR_Frieze_grow lk_Frieze_40 iM_Frieze_grow sE_Frieze_grow (qc := kq5) rfl rfl rfl rfl (Nat.le_of_ble_eq_true rfl) (f_Frieze_grow_ok (d := d) (by omega) x3 ((m.1 30 2) - (1 : Int32)) hq4) ?_
      change am_AW am_nw ro (d + 1) mr_Frieze_cornersWith 23 [some (.ref 30), some (.int x1), some (.int x2), some (.int x3)] [.int q4.1] (S0, q4.2) (some (.int r)) (S0, m')
      refine am_AW.brP ok_Frieze_cornersWith rfl rfl am_c_eq (fun c5 => ?_) (fun c5 => ?_)
      · rw [if_pos c5] at h
        exact am_AW.weak (f_Frieze_cornersWith_b40_ok hd (ih) x1 x2 x3  h) (by simp only [am_le, and_self])
      · rw [if_neg c5] at h
        refine am_AW.run am_base_ok ok_Frieze_cornersWith (Nat.le_add_left 1 d) 2 (pc1 := 28) (ls1 := [some (.ref 30), some (.int x1), some (.int x2), some (.int x3)]) (st1 := [.int x1, .ref 30]) (σ1 := (S0, q4.2)) rfl ?_
        obtain ⟨q8, hq8, h⟩ := Option.bind_eq_some_iff.mp h
        refine am_AW.callV ok_Frieze_cornersWith am_nw_ok (As := [.int x1]) (rest := []) rfl rfl rfl oR_Frieze_hasSuch lk_Frieze_48 iM_Frieze_hasSuch sE_Frieze_hasSuch (qc := kq5) rfl rfl rfl rfl (Nat.le_of_ble_eq_true rfl) (f_Frieze_hasSuch_ok (d := d) (by omega) x1 hq8) ?_
        change am_AW am_nw ro (d + 1) mr_Frieze_cornersWith 31 [some (.ref 30), some (.int x1), some (.int x2), some (.int x3)] [.int q8.1] (S0, q8.2) (some (.int r)) (S0, m')
        refine am_AW.brP ok_Frieze_cornersWith rfl rfl am_c_eq (fun c9 => ?_) (fun c9 => ?_)
        · rw [if_pos c9] at h
          exact am_AW.weak (f_Frieze_cornersWith_b40_ok hd (ih) x1 x2 x3  h) (by simp only [am_le, and_self])
        · rw [if_neg c9] at h
          refine am_AW.run am_base_ok ok_Frieze_cornersWith (Nat.le_add_left 1 d) 6 (pc1 := 40) (ls1 := [some (.ref 30), some (.int x1), some (.int (x2 ||| (am_shl (1 : Int32) x3))), some (.int x3)]) (st1 := []) (σ1 := (S0, q8.2)) rfl ?_
          exact am_AW.weak (f_Frieze_cornersWith_b40_ok hd (ih) x1 (x2 ||| (am_shl (1 : Int32) x3)) x3  h) (by simp only [am_le, and_self])
set_option maxHeartbeats 4000000 in
set_option maxRecDepth 100000 in
theorem f_Frieze_cornersWith_b4_ok {ro : am_Ro} {d : Nat} (hd : 3 ≤ d + 1) (x1 : Int32) (x2 : Int32) (x3 : Int32) {m m' : am_Mm} {r : Int32} {n : Nat} (h : f_Frieze_cornersWith_b4 n x1 x2 x3 m = some (r, m')) : am_AW am_nw ro (d + 1) mr_Frieze_cornersWith 4 [some (.ref 30), some (.int x1), some (.int x2), some (.int x3)] [] (S0, m) (some (.int r)) (S0, m') :=
  f_Frieze_cornersWith_b4_all hd n x1 x2 x3  m m' r h
set_option maxHeartbeats 4000000 in
set_option maxRecDepth 100000 in
theorem f_Frieze_cornersWith_ok {ro : am_Ro} {d : Nat} (hd : 3 ≤ d) (x1 : Int32) {m m' : am_Mm} {r : Int32} (h : f_Frieze_cornersWith x1 m = some (r, m')) : am_Mt am_nw ro d mr_Frieze_cornersWith [.ref 30, .int x1] (S0, m) (some (.int r)) (S0, m') := by
  obtain ⟨d, rfl⟩ : ∃ d0, d = d0 + 1 := ⟨d - 1, by omega⟩
  refine am_Mt.of (by decide +kernel) (Nat.le_of_ble_eq_true rfl) ?_
  change am_AW am_nw ro (d + 1) mr_Frieze_cornersWith 0 [some (.ref 30), some (.int x1), none, none] [] (S0, m) (some (.int r)) (S0, m')
  unfold f_Frieze_cornersWith at h
  refine am_AW.run am_base_ok ok_Frieze_cornersWith (Nat.le_add_left 1 d) 4 (pc1 := 4) (ls1 := [some (.ref 30), some (.int x1), some (.int (0 : Int32)), some (.int (0 : Int32))]) (st1 := []) (σ1 := (S0, m)) rfl ?_
  exact am_AW.weak (f_Frieze_cornersWith_b4_ok hd x1 (0 : Int32) (0 : Int32)  h) (by simp only [am_le, and_self])
/-! FriezePolygons$Ring.bitOf(II)I -/
def f_Ring_bitOf (x1 : Int32) (x2 : Int32) (m : am_Mm) : Option (Int32 × am_Mm) :=
  (f_Ring_numberOf 20 x1 x2 m).bind fun q3 =>
  if (0 : Int32) ≤ q3.1 then
    some ((am_shl (1 : Int32) q3.1), q3.2)
  else
    some ((0 : Int32), q3.2)
set_option maxHeartbeats 4000000 in
set_option maxRecDepth 100000 in
theorem f_Ring_bitOf_ok {ro : am_Ro} {d : Nat} (hd : 3 ≤ d) (x1 : Int32) (x2 : Int32) {m m' : am_Mm} {r : Int32} (h : f_Ring_bitOf x1 x2 m = some (r, m')) : am_Mt am_nw ro d mr_Ring_bitOf [.ref 20, .int x1, .int x2] (S0, m) (some (.int r)) (S0, m') := by
  obtain ⟨d, rfl⟩ : ∃ d0, d = d0 + 1 := ⟨d - 1, by omega⟩
  refine am_Mt.of (by decide +kernel) (Nat.le_of_ble_eq_true rfl) ?_
  change am_AW am_nw ro (d + 1) mr_Ring_bitOf 0 [some (.ref 20), some (.int x1), some (.int x2), none] [] (S0, m) (some (.int r)) (S0, m')
  unfold f_Ring_bitOf at h
  refine am_AW.run am_base_ok ok_Ring_bitOf (Nat.le_add_left 1 d) 3 (pc1 := 3) (ls1 := [some (.ref 20), some (.int x1), some (.int x2), none]) (st1 := [.int x2, .int x1, .ref 20]) (σ1 := (S0, m)) rfl ?_
  obtain ⟨q3, hq3, h⟩ := Option.bind_eq_some_iff.mp h
  refine am_AW.callV ok_Ring_bitOf am_nw_ok (As := [.int x1, .int x2]) (rest := []) rfl rfl rfl oR_Ring_numberOf lk_Ring_56 iM_Ring_numberOf sE_Ring_numberOf (qc := kq6) rfl rfl rfl rfl (Nat.le_of_ble_eq_true rfl) (f_Ring_numberOf_ok (d := d) (by omega) 20 x1 x2 (by simp) hq3) ?_
  change am_AW am_nw ro (d + 1) mr_Ring_bitOf 6 [some (.ref 20), some (.int x1), some (.int x2), none] [.int q3.1] (S0, q3.2) (some (.int r)) (S0, m')
  refine am_AW.run am_base_ok ok_Ring_bitOf (Nat.le_add_left 1 d) 2 (pc1 := 8) (ls1 := [some (.ref 20), some (.int x1), some (.int x2), some (.int q3.1)]) (st1 := [.int q3.1]) (σ1 := (S0, q3.2)) rfl ?_
  refine am_AW.brP ok_Ring_bitOf rfl rfl am_c_ge (fun c4 => ?_) (fun c4 => ?_)
  · rw [if_pos c4] at h
    refine am_AW.run am_base_ok ok_Ring_bitOf (Nat.le_add_left 1 d) 3 (pc1 := 18) (ls1 := [some (.ref 20), some (.int x1), some (.int x2), some (.int q3.1)]) (st1 := [.int (am_shl (1 : Int32) q3.1)]) (σ1 := (S0, q3.2)) rfl ?_
    obtain ⟨rfl, rfl⟩ := Prod.mk.inj (Option.some.inj h)
    exact am_AW.ret ok_Ring_bitOf rfl rfl rfl rfl
  · rw [if_neg c4] at h
    refine am_AW.run am_base_ok ok_Ring_bitOf (Nat.le_add_left 1 d) 2 (pc1 := 18) (ls1 := [some (.ref 20), some (.int x1), some (.int x2), some (.int q3.1)]) (st1 := [.int (0 : Int32)]) (σ1 := (S0, q3.2)) rfl ?_
    obtain ⟨rfl, rfl⟩ := Prod.mk.inj (Option.some.inj h)
    exact am_AW.ret ok_Ring_bitOf rfl rfl rfl rfl
/-! FriezePolygons$Ring.flippedAsJoined(I)I -/
def f_Ring_flippedAsJoined (x1 : Int32) (m : am_Mm) : Option (Int32 × am_Mm) :=
  (f_Ring_isNumber 20 x1 m).bind fun q3 =>
  if q3.1 = (0 : Int32) then
    some ((-1 : Int32), q3.2)
  else
    if am_in x1 27 = true then
      if am_in (q3.2.1 21 x1.toNatClampNeg) 9 = true then
        if am_in x1 27 = true then
          if am_in (q3.2.1 22 x1.toNatClampNeg) 9 = true then
            if am_in x1 27 = true then
              if am_in x1 27 = true then
                if (((q3.2.1 25 (q3.2.1 21 x1.toNatClampNeg).toNatClampNeg) &&& (q3.2.1 25 (q3.2.1 22 x1.toNatClampNeg).toNatClampNeg)) &&& ((am_shl (1 : Int32) (q3.2.1 22 x1.toNatClampNeg)) - (am_shl (2 : Int32) (q3.2.1 21 x1.toNatClampNeg)))) = (0 : Int32) then
                  some ((-1 : Int32), q3.2)
                else
                  if (((q3.2.1 25 (q3.2.1 21 x1.toNatClampNeg).toNatClampNeg) &&& (q3.2.1 25 (q3.2.1 22 x1.toNatClampNeg).toNatClampNeg)) &&& (((am_shl (1 : Int32) (q3.2.1 22 x1.toNatClampNeg)) - (am_shl (2 : Int32) (q3.2.1 21 x1.toNatClampNeg))) ^^^ (-1 : Int32))) = (0 : Int32) then
                    some ((-1 : Int32), q3.2)
                  else
                    (f_Ring_lowestOf (((q3.2.1 25 (q3.2.1 21 x1.toNatClampNeg).toNatClampNeg) &&& (q3.2.1 25 (q3.2.1 22 x1.toNatClampNeg).toNatClampNeg)) &&& ((am_shl (1 : Int32) (q3.2.1 22 x1.toNatClampNeg)) - (am_shl (2 : Int32) (q3.2.1 21 x1.toNatClampNeg)))) q3.2).bind fun q15 =>
                    (f_Ring_lowestOf (((q3.2.1 25 (q3.2.1 21 x1.toNatClampNeg).toNatClampNeg) &&& (q3.2.1 25 (q3.2.1 22 x1.toNatClampNeg).toNatClampNeg)) &&& (((am_shl (1 : Int32) (q3.2.1 22 x1.toNatClampNeg)) - (am_shl (2 : Int32) (q3.2.1 21 x1.toNatClampNeg))) ^^^ (-1 : Int32))) q15.2).bind fun q18 =>
                    (f_Ring_numberOf 20 q15.1 q18.1 q18.2).bind fun q21 =>
                    some (q21.1, q21.2)
              else none
            else none
          else none
        else none
      else none
    else none
set_option maxHeartbeats 4000000 in
set_option maxRecDepth 100000 in
theorem f_Ring_flippedAsJoined_ok {ro : am_Ro} {d : Nat} (hd : 3 ≤ d) (x1 : Int32) {m m' : am_Mm} {r : Int32} (h : f_Ring_flippedAsJoined x1 m = some (r, m')) : am_Mt am_nw ro d mr_Ring_flippedAsJoined [.ref 20, .int x1] (S0, m) (some (.int r)) (S0, m') := by
  obtain ⟨d, rfl⟩ : ∃ d0, d = d0 + 1 := ⟨d - 1, by omega⟩
  refine am_Mt.of (by decide +kernel) (Nat.le_of_ble_eq_true rfl) ?_
  change am_AW am_nw ro (d + 1) mr_Ring_flippedAsJoined 0 [some (.ref 20), some (.int x1), none, none, none, none] [] (S0, m) (some (.int r)) (S0, m')
  unfold f_Ring_flippedAsJoined at h
  refine am_AW.run am_base_ok ok_Ring_flippedAsJoined (Nat.le_add_left 1 d) 2 (pc1 := 2) (ls1 := [some (.ref 20), some (.int x1), none, none, none, none]) (st1 := [.int x1, .ref 20]) (σ1 := (S0, m)) rfl ?_
  obtain ⟨q3, hq3, h⟩ := Option.bind_eq_some_iff.mp h
  refine am_AW.callV ok_Ring_flippedAsJoined am_nw_ok (As := [.int x1]) (rest := []) rfl rfl rfl oR_Ring_isNumber lk_Ring_59 iM_Ring_isNumber sE_Ring_isNumber (qc := kq6) rfl rfl rfl rfl (Nat.le_of_ble_eq_true rfl) (f_Ring_isNumber_ok (d := d) (by omega) 20 x1 (by simp) hq3) ?_
  change am_AW am_nw ro (d + 1) mr_Ring_flippedAsJoined 5 [some (.ref 20), some (.int x1), none, none, none, none] [.int q3.1] (S0, q3.2) (some (.int r)) (S0, m')
  refine am_AW.brN ok_Ring_flippedAsJoined rfl rfl am_c_ne (fun c4 => ?_) (fun c4 => ?_)
  · rw [if_pos c4] at h
    refine am_AW.run am_base_ok ok_Ring_flippedAsJoined (Nat.le_add_left 1 d) 1 (pc1 := 9) (ls1 := [some (.ref 20), some (.int x1), none, none, none, none]) (st1 := [.int (-1 : Int32)]) (σ1 := (S0, q3.2)) rfl ?_
    obtain ⟨rfl, rfl⟩ := Prod.mk.inj (Option.some.inj h)
    exact am_AW.ret ok_Ring_flippedAsJoined rfl rfl rfl rfl
  · rw [if_neg c4] at h
    refine am_AW.run am_base_ok ok_Ring_flippedAsJoined (Nat.le_add_left 1 d) 5 (pc1 := 19) (ls1 := [some (.ref 20), some (.int x1), none, none, none, none]) (st1 := [.int x1, .ref 21, .ref 25]) (σ1 := (S0, q3.2)) rfl ?_
    by_cases g5 : am_in x1 27 = true
    rotate_left
    · rw [if_neg g5] at h
      cases h
    rw [if_pos g5] at h
    refine am_AW.iald ok_Ring_flippedAsJoined (Nat.le_add_left 1 d) S0_len rfl rfl g5 ?_
    by_cases g6 : am_in (q3.2.1 21 x1.toNatClampNeg) 9 = true
    rotate_left
    · rw [if_neg g6] at h
      cases h
    rw [if_pos g6] at h
    refine am_AW.iald ok_Ring_flippedAsJoined (Nat.le_add_left 1 d) S0_len rfl rfl g6 ?_
    refine am_AW.run am_base_ok ok_Ring_flippedAsJoined (Nat.le_add_left 1 d) 5 (pc1 := 30) (ls1 := [some (.ref 20), some (.int x1), none, none, none, none]) (st1 := [.int x1, .ref 22, .ref 25, .int (q3.2.1 25 (q3.2.1 21 x1.toNatClampNeg).toNatClampNeg)]) (σ1 := (S0, q3.2)) rfl ?_
    by_cases g7 : am_in x1 27 = true
    rotate_left
    · rw [if_neg g7] at h
      cases h
    rw [if_pos g7] at h
    refine am_AW.iald ok_Ring_flippedAsJoined (Nat.le_add_left 1 d) S0_len rfl rfl g7 ?_
    by_cases g8 : am_in (q3.2.1 22 x1.toNatClampNeg) 9 = true
    rotate_left
    · rw [if_neg g8] at h
      cases h
    rw [if_pos g8] at h
    refine am_AW.iald ok_Ring_flippedAsJoined (Nat.le_add_left 1 d) S0_len rfl rfl g8 ?_
    refine am_AW.run am_base_ok ok_Ring_flippedAsJoined (Nat.le_add_left 1 d) 6 (pc1 := 40) (ls1 := [some (.ref 20), some (.int x1), some (.int ((q3.2.1 25 (q3.2.1 21 x1.toNatClampNeg).toNatClampNeg) &&& (q3.2.1 25 (q3.2.1 22 x1.toNatClampNeg).toNatClampNeg))), none, none, none]) (st1 := [.int x1, .ref 22, .int (1 : Int32)]) (σ1 := (S0, q3.2)) rfl ?_
    by_cases g9 : am_in x1 27 = true
    rotate_left
    · rw [if_neg g9] at h
      cases h
    rw [if_pos g9] at h
    refine am_AW.iald ok_Ring_flippedAsJoined (Nat.le_add_left 1 d) S0_len rfl rfl g9 ?_
    refine am_AW.run am_base_ok ok_Ring_flippedAsJoined (Nat.le_add_left 1 d) 5 (pc1 := 48) (ls1 := [some (.ref 20), some (.int x1), some (.int ((q3.2.1 25 (q3.2.1 21 x1.toNatClampNeg).toNatClampNeg) &&& (q3.2.1 25 (q3.2.1 22 x1.toNatClampNeg).toNatClampNeg))), none, none, none]) (st1 := [.int x1, .ref 21, .int (2 : Int32), .int (am_shl (1 : Int32) (q3.2.1 22 x1.toNatClampNeg))]) (σ1 := (S0, q3.2)) rfl ?_
    by_cases g10 : am_in x1 27 = true
    rotate_left
    · rw [if_neg g10] at h
      cases h
    rw [if_pos g10] at h
    refine am_AW.iald ok_Ring_flippedAsJoined (Nat.le_add_left 1 d) S0_len rfl rfl g10 ?_
    refine am_AW.run am_base_ok ok_Ring_flippedAsJoined (Nat.le_add_left 1 d) 14 (pc1 := 66) (ls1 := [some (.ref 20), some (.int x1), some (.int ((q3.2.1 25 (q3.2.1 21 x1.toNatClampNeg).toNatClampNeg) &&& (q3.2.1 25 (q3.2.1 22 x1.toNatClampNeg).toNatClampNeg))), some (.int ((am_shl (1 : Int32) (q3.2.1 22 x1.toNatClampNeg)) - (am_shl (2 : Int32) (q3.2.1 21 x1.toNatClampNeg)))), some (.int (((q3.2.1 25 (q3.2.1 21 x1.toNatClampNeg).toNatClampNeg) &&& (q3.2.1 25 (q3.2.1 22 x1.toNatClampNeg).toNatClampNeg)) &&& ((am_shl (1 : Int32) (q3.2.1 22 x1.toNatClampNeg)) - (am_shl (2 : Int32) (q3.2.1 21 x1.toNatClampNeg))))), some (.int (((q3.2.1 25 (q3.2.1 21 x1.toNatClampNeg).toNatClampNeg) &&& (q3.2.1 25 (q3.2.1 22 x1.toNatClampNeg).toNatClampNeg)) &&& (((am_shl (1 : Int32) (q3.2.1 22 x1.toNatClampNeg)) - (am_shl (2 : Int32) (q3.2.1 21 x1.toNatClampNeg))) ^^^ (-1 : Int32))))]) (st1 := [.int (((q3.2.1 25 (q3.2.1 21 x1.toNatClampNeg).toNatClampNeg) &&& (q3.2.1 25 (q3.2.1 22 x1.toNatClampNeg).toNatClampNeg)) &&& ((am_shl (1 : Int32) (q3.2.1 22 x1.toNatClampNeg)) - (am_shl (2 : Int32) (q3.2.1 21 x1.toNatClampNeg))))]) (σ1 := (S0, q3.2)) rfl ?_
    refine am_AW.brP ok_Ring_flippedAsJoined rfl rfl am_c_eq (fun c11 => ?_) (fun c11 => ?_)
    · rw [if_pos c11] at h
      refine am_AW.run am_base_ok ok_Ring_flippedAsJoined (Nat.le_add_left 1 d) 1 (pc1 := 75) (ls1 := [some (.ref 20), some (.int x1), some (.int ((q3.2.1 25 (q3.2.1 21 x1.toNatClampNeg).toNatClampNeg) &&& (q3.2.1 25 (q3.2.1 22 x1.toNatClampNeg).toNatClampNeg))), some (.int ((am_shl (1 : Int32) (q3.2.1 22 x1.toNatClampNeg)) - (am_shl (2 : Int32) (q3.2.1 21 x1.toNatClampNeg)))), some (.int (((q3.2.1 25 (q3.2.1 21 x1.toNatClampNeg).toNatClampNeg) &&& (q3.2.1 25 (q3.2.1 22 x1.toNatClampNeg).toNatClampNeg)) &&& ((am_shl (1 : Int32) (q3.2.1 22 x1.toNatClampNeg)) - (am_shl (2 : Int32) (q3.2.1 21 x1.toNatClampNeg))))), some (.int (((q3.2.1 25 (q3.2.1 21 x1.toNatClampNeg).toNatClampNeg) &&& (q3.2.1 25 (q3.2.1 22 x1.toNatClampNeg).toNatClampNeg)) &&& (((am_shl (1 : Int32) (q3.2.1 22 x1.toNatClampNeg)) - (am_shl (2 : Int32) (q3.2.1 21 x1.toNatClampNeg))) ^^^ (-1 : Int32))))]) (st1 := [.int (-1 : Int32)]) (σ1 := (S0, q3.2)) rfl ?_
      obtain ⟨rfl, rfl⟩ := Prod.mk.inj (Option.some.inj h)
      exact am_AW.ret ok_Ring_flippedAsJoined rfl rfl rfl rfl
    · rw [if_neg c11] at h
      refine am_AW.run am_base_ok ok_Ring_flippedAsJoined (Nat.le_add_left 1 d) 1 (pc1 := 71) (ls1 := [some (.ref 20), some (.int x1), some (.int ((q3.2.1 25 (q3.2.1 21 x1.toNatClampNeg).toNatClampNeg) &&& (q3.2.1 25 (q3.2.1 22 x1.toNatClampNeg).toNatClampNeg))), some (.int ((am_shl (1 : Int32) (q3.2.1 22 x1.toNatClampNeg)) - (am_shl (2 : Int32) (q3.2.1 21 x1.toNatClampNeg)))), some (.int (((q3.2.1 25 (q3.2.1 21 x1.toNatClampNeg).toNatClampNeg) &&& (q3.2.1 25 (q3.2.1 22 x1.toNatClampNeg).toNatClampNeg)) &&& ((am_shl (1 : Int32) (q3.2.1 22 x1.toNatClampNeg)) - (am_shl (2 : Int32) (q3.2.1 21 x1.toNatClampNeg))))), some (.int (((q3.2.1 25 (q3.2.1 21 x1.toNatClampNeg).toNatClampNeg) &&& (q3.2.1 25 (q3.2.1 22 x1.toNatClampNeg).toNatClampNeg)) &&& (((am_shl (1 : Int32) (q3.2.1 22 x1.toNatClampNeg)) - (am_shl (2 : Int32) (q3.2.1 21 x1.toNatClampNeg))) ^^^ (-1 : Int32))))]) (st1 := [.int (((q3.2.1 25 (q3.2.1 21 x1.toNatClampNeg).toNatClampNeg) &&& (q3.2.1 25 (q3.2.1 22 x1.toNatClampNeg).toNatClampNeg)) &&& (((am_shl (1 : Int32) (q3.2.1 22 x1.toNatClampNeg)) - (am_shl (2 : Int32) (q3.2.1 21 x1.toNatClampNeg))) ^^^ (-1 : Int32)))]) (σ1 := (S0, q3.2)) rfl ?_
      refine am_AW.brN ok_Ring_flippedAsJoined rfl rfl am_c_ne (fun c12 => ?_) (fun c12 => ?_)
      · rw [if_pos c12] at h
        refine am_AW.run am_base_ok ok_Ring_flippedAsJoined (Nat.le_add_left 1 d) 1 (pc1 := 75) (ls1 := [some (.ref 20), some (.int x1), some (.int ((q3.2.1 25 (q3.2.1 21 x1.toNatClampNeg).toNatClampNeg) &&& (q3.2.1 25 (q3.2.1 22 x1.toNatClampNeg).toNatClampNeg))), some (.int ((am_shl (1 : Int32) (q3.2.1 22 x1.toNatClampNeg)) - (am_shl (2 : Int32) (q3.2.1 21 x1.toNatClampNeg)))), some (.int (((q3.2.1 25 (q3.2.1 21 x1.toNatClampNeg).toNatClampNeg) &&& (q3.2.1 25 (q3.2.1 22 x1.toNatClampNeg).toNatClampNeg)) &&& ((am_shl (1 : Int32) (q3.2.1 22 x1.toNatClampNeg)) - (am_shl (2 : Int32) (q3.2.1 21 x1.toNatClampNeg))))), some (.int (((q3.2.1 25 (q3.2.1 21 x1.toNatClampNeg).toNatClampNeg) &&& (q3.2.1 25 (q3.2.1 22 x1.toNatClampNeg).toNatClampNeg)) &&& (((am_shl (1 : Int32) (q3.2.1 22 x1.toNatClampNeg)) - (am_shl (2 : Int32) (q3.2.1 21 x1.toNatClampNeg))) ^^^ (-1 : Int32))))]) (st1 := [.int (-1 : Int32)]) (σ1 := (S0, q3.2)) rfl ?_
        obtain ⟨rfl, rfl⟩ := Prod.mk.inj (Option.some.inj h)
        exact am_AW.ret ok_Ring_flippedAsJoined rfl rfl rfl rfl
      · rw [if_neg c12] at h
        refine am_AW.run am_base_ok ok_Ring_flippedAsJoined (Nat.le_add_left 1 d) 2 (pc1 := 79) (ls1 := [some (.ref 20), some (.int x1), some (.int ((q3.2.1 25 (q3.2.1 21 x1.toNatClampNeg).toNatClampNeg) &&& (q3.2.1 25 (q3.2.1 22 x1.toNatClampNeg).toNatClampNeg))), some (.int ((am_shl (1 : Int32) (q3.2.1 22 x1.toNatClampNeg)) - (am_shl (2 : Int32) (q3.2.1 21 x1.toNatClampNeg)))), some (.int (((q3.2.1 25 (q3.2.1 21 x1.toNatClampNeg).toNatClampNeg) &&& (q3.2.1 25 (q3.2.1 22 x1.toNatClampNeg).toNatClampNeg)) &&& ((am_shl (1 : Int32) (q3.2.1 22 x1.toNatClampNeg)) - (am_shl (2 : Int32) (q3.2.1 21 x1.toNatClampNeg))))), some (.int (((q3.2.1 25 (q3.2.1 21 x1.toNatClampNeg).toNatClampNeg) &&& (q3.2.1 25 (q3.2.1 22 x1.toNatClampNeg).toNatClampNeg)) &&& (((am_shl (1 : Int32) (q3.2.1 22 x1.toNatClampNeg)) - (am_shl (2 : Int32) (q3.2.1 21 x1.toNatClampNeg))) ^^^ (-1 : Int32))))]) (st1 := [.int (((q3.2.1 25 (q3.2.1 21 x1.toNatClampNeg).toNatClampNeg) &&& (q3.2.1 25 (q3.2.1 22 x1.toNatClampNeg).toNatClampNeg)) &&& ((am_shl (1 : Int32) (q3.2.1 22 x1.toNatClampNeg)) - (am_shl (2 : Int32) (q3.2.1 21 x1.toNatClampNeg)))), .ref 20]) (σ1 := (S0, q3.2)) rfl ?_
        obtain ⟨q15, hq15, h⟩ := Option.bind_eq_some_iff.mp h
        refine am_AW.callS ok_Ring_flippedAsJoined am_nw_ok (As := [.int (((q3.2.1 25 (q3.2.1 21 x1.toNatClampNeg).toNatClampNeg) &&& (q3.2.1 25 (q3.2.1 22 x1.toNatClampNeg).toNatClampNeg)) &&& ((am_shl (1 : Int32) (q3.2.1 22 x1.toNatClampNeg)) - (am_shl (2 : Int32) (q3.2.1 21 x1.toNatClampNeg))))]) (rest := [.ref 20]) rfl rfl rfl oR_Ring_lowestOf lk_Ring_83 sT_Ring_lowestOf rfl (Nat.le_of_ble_eq_true rfl) (f_Ring_lowestOf_ok (d := d) (by omega) (((q3.2.1 25 (q3.2.1 21 x1.toNatClampNeg).toNatClampNeg) &&& (q3.2.1 25 (q3.2.1 22 x1.toNatClampNeg).toNatClampNeg)) &&& ((am_shl (1 : Int32) (q3.2.1 22 x1.toNatClampNeg)) - (am_shl (2 : Int32) (q3.2.1 21 x1.toNatClampNeg)))) hq15) ?_
        change am_AW am_nw ro (d + 1) mr_Ring_flippedAsJoined 82 [some (.ref 20), some (.int x1), some (.int ((q3.2.1 25 (q3.2.1 21 x1.toNatClampNeg).toNatClampNeg) &&& (q3.2.1 25 (q3.2.1 22 x1.toNatClampNeg).toNatClampNeg))), some (.int ((am_shl (1 : Int32) (q3.2.1 22 x1.toNatClampNeg)) - (am_shl (2 : Int32) (q3.2.1 21 x1.toNatClampNeg)))), some (.int (((q3.2.1 25 (q3.2.1 21 x1.toNatClampNeg).toNatClampNeg) &&& (q3.2.1 25 (q3.2.1 22 x1.toNatClampNeg).toNatClampNeg)) &&& ((am_shl (1 : Int32) (q3.2.1 22 x1.toNatClampNeg)) - (am_shl (2 : Int32) (q3.2.1 21 x1.toNatClampNeg))))), some (.int (((q3.2.1 25 (q3.2.1 21 x1.toNatClampNeg).toNatClampNeg) &&& (q3.2.1 25 (q3.2.1 22 x1.toNatClampNeg).toNatClampNeg)) &&& (((am_shl (1 : Int32) (q3.2.1 22 x1.toNatClampNeg)) - (am_shl (2 : Int32) (q3.2.1 21 x1.toNatClampNeg))) ^^^ (-1 : Int32))))] [.int q15.1, .ref 20] (S0, q15.2) (some (.int r)) (S0, m')
        refine am_AW.run am_base_ok ok_Ring_flippedAsJoined (Nat.le_add_left 1 d) 1 (pc1 := 84) (ls1 := [some (.ref 20), some (.int x1), some (.int ((q3.2.1 25 (q3.2.1 21 x1.toNatClampNeg).toNatClampNeg) &&& (q3.2.1 25 (q3.2.1 22 x1.toNatClampNeg).toNatClampNeg))), some (.int ((am_shl (1 : Int32) (q3.2.1 22 x1.toNatClampNeg)) - (am_shl (2 : Int32) (q3.2.1 21 x1.toNatClampNeg)))), some (.int (((q3.2.1 25 (q3.2.1 21 x1.toNatClampNeg).toNatClampNeg) &&& (q3.2.1 25 (q3.2.1 22 x1.toNatClampNeg).toNatClampNeg)) &&& ((am_shl (1 : Int32) (q3.2.1 22 x1.toNatClampNeg)) - (am_shl (2 : Int32) (q3.2.1 21 x1.toNatClampNeg))))), some (.int (((q3.2.1 25 (q3.2.1 21 x1.toNatClampNeg).toNatClampNeg) &&& (q3.2.1 25 (q3.2.1 22 x1.toNatClampNeg).toNatClampNeg)) &&& (((am_shl (1 : Int32) (q3.2.1 22 x1.toNatClampNeg)) - (am_shl (2 : Int32) (q3.2.1 21 x1.toNatClampNeg))) ^^^ (-1 : Int32))))]) (st1 := [.int (((q3.2.1 25 (q3.2.1 21 x1.toNatClampNeg).toNatClampNeg) &&& (q3.2.1 25 (q3.2.1 22 x1.toNatClampNeg).toNatClampNeg)) &&& (((am_shl (1 : Int32) (q3.2.1 22 x1.toNatClampNeg)) - (am_shl (2 : Int32) (q3.2.1 21 x1.toNatClampNeg))) ^^^ (-1 : Int32))), .int q15.1, .ref 20]) (σ1 := (S0, q15.2)) rfl ?_
        obtain ⟨q18, hq18, h⟩ := Option.bind_eq_some_iff.mp h
        refine am_AW.callS ok_Ring_flippedAsJoined am_nw_ok (As := [.int (((q3.2.1 25 (q3.2.1 21 x1.toNatClampNeg).toNatClampNeg) &&& (q3.2.1 25 (q3.2.1 22 x1.toNatClampNeg).toNatClampNeg)) &&& (((am_shl (1 : Int32) (q3.2.1 22 x1.toNatClampNeg)) - (am_shl (2 : Int32) (q3.2.1 21 x1.toNatClampNeg))) ^^^ (-1 : Int32)))]) (rest := [.int q15.1, .ref 20]) rfl rfl rfl oR_Ring_lowestOf lk_Ring_83 sT_Ring_lowestOf rfl (Nat.le_of_ble_eq_true rfl) (f_Ring_lowestOf_ok (d := d) (by omega) (((q3.2.1 25 (q3.2.1 21 x1.toNatClampNeg).toNatClampNeg) &&& (q3.2.1 25 (q3.2.1 22 x1.toNatClampNeg).toNatClampNeg)) &&& (((am_shl (1 : Int32) (q3.2.1 22 x1.toNatClampNeg)) - (am_shl (2 : Int32) (q3.2.1 21 x1.toNatClampNeg))) ^^^ (-1 : Int32))) hq18) ?_
        change am_AW am_nw ro (d + 1) mr_Ring_flippedAsJoined 87 [some (.ref 20), some (.int x1), some (.int ((q3.2.1 25 (q3.2.1 21 x1.toNatClampNeg).toNatClampNeg) &&& (q3.2.1 25 (q3.2.1 22 x1.toNatClampNeg).toNatClampNeg))), some (.int ((am_shl (1 : Int32) (q3.2.1 22 x1.toNatClampNeg)) - (am_shl (2 : Int32) (q3.2.1 21 x1.toNatClampNeg)))), some (.int (((q3.2.1 25 (q3.2.1 21 x1.toNatClampNeg).toNatClampNeg) &&& (q3.2.1 25 (q3.2.1 22 x1.toNatClampNeg).toNatClampNeg)) &&& ((am_shl (1 : Int32) (q3.2.1 22 x1.toNatClampNeg)) - (am_shl (2 : Int32) (q3.2.1 21 x1.toNatClampNeg))))), some (.int (((q3.2.1 25 (q3.2.1 21 x1.toNatClampNeg).toNatClampNeg) &&& (q3.2.1 25 (q3.2.1 22 x1.toNatClampNeg).toNatClampNeg)) &&& (((am_shl (1 : Int32) (q3.2.1 22 x1.toNatClampNeg)) - (am_shl (2 : Int32) (q3.2.1 21 x1.toNatClampNeg))) ^^^ (-1 : Int32))))] [.int q18.1, .int q15.1, .ref 20] (S0, q18.2) (some (.int r)) (S0, m')
        obtain ⟨q21, hq21, h⟩ := Option.bind_eq_some_iff.mp h
        refine am_AW.callV ok_Ring_flippedAsJoined am_nw_ok (As := [.int q15.1, .int q18.1]) (rest := []) rfl rfl rfl oR_Ring_numberOf lk_Ring_56 iM_Ring_numberOf sE_Ring_numberOf (qc := kq6) rfl rfl rfl rfl (Nat.le_of_ble_eq_true rfl) (f_Ring_numberOf_ok (d := d) (by omega) 20 q15.1 q18.1 (by simp) hq21) ?_
        change am_AW am_nw ro (d + 1) mr_Ring_flippedAsJoined 90 [some (.ref 20), some (.int x1), some (.int ((q3.2.1 25 (q3.2.1 21 x1.toNatClampNeg).toNatClampNeg) &&& (q3.2.1 25 (q3.2.1 22 x1.toNatClampNeg).toNatClampNeg))), some (.int ((am_shl (1 : Int32) (q3.2.1 22 x1.toNatClampNeg)) - (am_shl (2 : Int32) (q3.2.1 21 x1.toNatClampNeg)))), some (.int (((q3.2.1 25 (q3.2.1 21 x1.toNatClampNeg).toNatClampNeg) &&& (q3.2.1 25 (q3.2.1 22 x1.toNatClampNeg).toNatClampNeg)) &&& ((am_shl (1 : Int32) (q3.2.1 22 x1.toNatClampNeg)) - (am_shl (2 : Int32) (q3.2.1 21 x1.toNatClampNeg))))), some (.int (((q3.2.1 25 (q3.2.1 21 x1.toNatClampNeg).toNatClampNeg) &&& (q3.2.1 25 (q3.2.1 22 x1.toNatClampNeg).toNatClampNeg)) &&& (((am_shl (1 : Int32) (q3.2.1 22 x1.toNatClampNeg)) - (am_shl (2 : Int32) (q3.2.1 21 x1.toNatClampNeg))) ^^^ (-1 : Int32))))] [.int q21.1] (S0, q21.2) (some (.int r)) (S0, m')
        obtain ⟨rfl, rfl⟩ := Prod.mk.inj (Option.some.inj h)
        exact am_AW.ret ok_Ring_flippedAsJoined rfl rfl rfl rfl
