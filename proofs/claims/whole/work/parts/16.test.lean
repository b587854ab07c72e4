/-! FriezePolygons$Ring.isNumber(I)Z -/
def f_Ring_isNumber (p0 : Nat) (x1 : Int32) (m : am_Mm) : Option (Int32 × am_Mm) :=
  if x1 < (0 : Int32) then
    some ((0 : Int32), m)
  else
    if (m.1 p0 6) ≤ x1 then
      some ((0 : Int32), m)
    else
      some ((1 : Int32), m)
set_option maxHeartbeats 4000000 in
set_option maxRecDepth 100000 in
theorem f_Ring_isNumber_ok {ro : am_Ro} {d : Nat} (hd : 1 ≤ d) (p0 : Nat) (x1 : Int32) (hp0 : p0 = 6 ∨ p0 = 20) {m m' : am_Mm} {r : Int32} (h : f_Ring_isNumber p0 x1 m = some (r, m')) : am_Mt am_nw ro d mr_Ring_isNumber [.ref p0, .int x1] (S0, m) (some (.int r)) (S0, m') := by
  obtain ⟨d, rfl⟩ : ∃ d0, d = d0 + 1 := ⟨d - 1, by omega⟩
  refine am_Mt.of (by decide +kernel) (by decide) ?_
  change am_AW am_nw ro (d + 1) mr_Ring_isNumber 0 [some (.ref p0), some (.int x1)] [] (S0, m) (some (.int r)) (S0, m')
  unfold f_Ring_isNumber at h
  refine am_AW.run am_base_ok ok_Ring_isNumber (Nat.le_add_left 1 d) 1 (pc1 := 1) (ls1 := [some (.ref p0), some (.int x1)]) (st1 := [.int x1]) (σ1 := (S0, m)) rfl ?_
  refine am_AW.brP ok_Ring_isNumber rfl rfl am_c_lt (fun c1 => ?_) (fun c1 => ?_)
  · rw [if_pos c1] at h
    refine am_AW.run am_base_ok ok_Ring_isNumber (Nat.le_add_left 1 d) 1 (pc1 := 17) (ls1 := [some (.ref p0), some (.int x1)]) (st1 := [.int (0 : Int32)]) (σ1 := (S0, m)) rfl ?_
    cases h
    exact am_AW.ret ok_Ring_isNumber rfl rfl rfl (by decide)
  · rw [if_neg c1] at h
    refine am_AW.run am_base_ok ok_Ring_isNumber (Nat.le_add_left 1 d) 2 (pc1 := 6) (ls1 := [some (.ref p0), some (.int x1)]) (st1 := [.ref p0, .int x1]) (σ1 := (S0, m)) rfl ?_
    refine am_AW.geti ok_Ring_isNumber (Nat.le_add_left 1 d) rfl (sh_6_20_0 hp0) rfl ?_
    refine am_AW.brP ok_Ring_isNumber rfl rfl am_c_ge (fun c2 => ?_) (fun c2 => ?_)
    · rw [if_pos c2] at h
      refine am_AW.run am_base_ok ok_Ring_isNumber (Nat.le_add_left 1 d) 1 (pc1 := 17) (ls1 := [some (.ref p0), some (.int x1)]) (st1 := [.int (0 : Int32)]) (σ1 := (S0, m)) rfl ?_
      cases h
      exact am_AW.ret ok_Ring_isNumber rfl rfl rfl (by decide)
    · rw [if_neg c2] at h
      refine am_AW.run am_base_ok ok_Ring_isNumber (Nat.le_add_left 1 d) 2 (pc1 := 17) (ls1 := [some (.ref p0), some (.int x1)]) (st1 := [.int (1 : Int32)]) (σ1 := (S0, m)) rfl ?_
      cases h
      exact am_AW.ret ok_Ring_isNumber rfl rfl rfl (by decide)
/-! FriezePolygons$Ring.isCut(II)Z -/
def f_Ring_isCut (p0 : Nat) (x1 : Int32) (x2 : Int32) (m : am_Mm) : Option (Int32 × am_Mm) :=
  if x1 < (0 : Int32) then
    some ((0 : Int32), m)
  else
    if (m.1 p0 5) ≤ x2 then
      some ((0 : Int32), m)
    else
      if (x2 - x1) < (2 : Int32) then
        some ((0 : Int32), m)
      else
        if ((m.1 p0 5) - (2 : Int32)) < (x2 - x1) then
          some ((0 : Int32), m)
        else
          some ((1 : Int32), m)
set_option maxHeartbeats 4000000 in
set_option maxRecDepth 100000 in
theorem f_Ring_isCut_ok {ro : am_Ro} {d : Nat} (hd : 1 ≤ d) (p0 : Nat) (x1 : Int32) (x2 : Int32) (hp0 : p0 = 6 ∨ p0 = 20) {m m' : am_Mm} {r : Int32} (h : f_Ring_isCut p0 x1 x2 m = some (r, m')) : am_Mt am_nw ro d mr_Ring_isCut [.ref p0, .int x1, .int x2] (S0, m) (some (.int r)) (S0, m') := by
  obtain ⟨d, rfl⟩ : ∃ d0, d = d0 + 1 := ⟨d - 1, by omega⟩
  refine am_Mt.of (by decide +kernel) (by decide) ?_
  change am_AW am_nw ro (d + 1) mr_Ring_isCut 0 [some (.ref p0), some (.int x1), some (.int x2)] [] (S0, m) (some (.int r)) (S0, m')
  unfold f_Ring_isCut at h
  refine am_AW.run am_base_ok ok_Ring_isCut (Nat.le_add_left 1 d) 1 (pc1 := 1) (ls1 := [some (.ref p0), some (.int x1), some (.int x2)]) (st1 := [.int x1]) (σ1 := (S0, m)) rfl ?_
  refine am_AW.brP ok_Ring_isCut rfl rfl am_c_lt (fun c1 => ?_) (fun c1 => ?_)
  · rw [if_pos c1] at h
    refine am_AW.run am_base_ok ok_Ring_isCut (Nat.le_add_left 1 d) 1 (pc1 := 36) (ls1 := [some (.ref p0), some (.int x1), some (.int x2)]) (st1 := [.int (0 : Int32)]) (σ1 := (S0, m)) rfl ?_
    cases h
    exact am_AW.ret ok_Ring_isCut rfl rfl rfl (by decide)
  · rw [if_neg c1] at h
    refine am_AW.run am_base_ok ok_Ring_isCut (Nat.le_add_left 1 d) 2 (pc1 := 6) (ls1 := [some (.ref p0), some (.int x1), some (.int x2)]) (st1 := [.ref p0, .int x2]) (σ1 := (S0, m)) rfl ?_
    refine am_AW.geti ok_Ring_isCut (Nat.le_add_left 1 d) rfl (sh_6_20_0 hp0) rfl ?_
    refine am_AW.brP ok_Ring_isCut rfl rfl am_c_ge (fun c2 => ?_) (fun c2 => ?_)
    · rw [if_pos c2] at h
      refine am_AW.run am_base_ok ok_Ring_isCut (Nat.le_add_left 1 d) 1 (pc1 := 36) (ls1 := [some (.ref p0), some (.int x1), some (.int x2)]) (st1 := [.int (0 : Int32)]) (σ1 := (S0, m)) rfl ?_
      cases h
      exact am_AW.ret ok_Ring_isCut rfl rfl rfl (by decide)
    · rw [if_neg c2] at h
      refine am_AW.run am_base_ok ok_Ring_isCut (Nat.le_add_left 1 d) 4 (pc1 := 16) (ls1 := [some (.ref p0), some (.int x1), some (.int x2)]) (st1 := [.int (2 : Int32), .int (x2 - x1)]) (σ1 := (S0, m)) rfl ?_
      refine am_AW.brP ok_Ring_isCut rfl rfl am_c_lt (fun c3 => ?_) (fun c3 => ?_)
      · rw [if_pos c3] at h
        refine am_AW.run am_base_ok ok_Ring_isCut (Nat.le_add_left 1 d) 1 (pc1 := 36) (ls1 := [some (.ref p0), some (.int x1), some (.int x2)]) (st1 := [.int (0 : Int32)]) (σ1 := (S0, m)) rfl ?_
        cases h
        exact am_AW.ret ok_Ring_isCut rfl rfl rfl (by decide)
      · rw [if_neg c3] at h
        refine am_AW.run am_base_ok ok_Ring_isCut (Nat.le_add_left 1 d) 4 (pc1 := 23) (ls1 := [some (.ref p0), some (.int x1), some (.int x2)]) (st1 := [.ref p0, .int (x2 - x1)]) (σ1 := (S0, m)) rfl ?_
        refine am_AW.geti ok_Ring_isCut (Nat.le_add_left 1 d) rfl (sh_6_20_0 hp0) rfl ?_
        refine am_AW.run am_base_ok ok_Ring_isCut (Nat.le_add_left 1 d) 2 (pc1 := 28) (ls1 := [some (.ref p0), some (.int x1), some (.int x2)]) (st1 := [.int ((m.1 p0 5) - (2 : Int32)), .int (x2 - x1)]) (σ1 := (S0, m)) rfl ?_
        refine am_AW.brP ok_Ring_isCut rfl rfl am_c_gt (fun c4 => ?_) (fun c4 => ?_)
        · rw [if_pos c4] at h
          refine am_AW.run am_base_ok ok_Ring_isCut (Nat.le_add_left 1 d) 1 (pc1 := 36) (ls1 := [some (.ref p0), some (.int x1), some (.int x2)]) (st1 := [.int (0 : Int32)]) (σ1 := (S0, m)) rfl ?_
          cases h
          exact am_AW.ret ok_Ring_isCut rfl rfl rfl (by decide)
        · rw [if_neg c4] at h
          refine am_AW.run am_base_ok ok_Ring_isCut (Nat.le_add_left 1 d) 2 (pc1 := 36) (ls1 := [some (.ref p0), some (.int x1), some (.int x2)]) (st1 := [.int (1 : Int32)]) (σ1 := (S0, m)) rfl ?_
          cases h
          exact am_AW.ret ok_Ring_isCut rfl rfl rfl (by decide)
/-! FriezePolygonsModel.has(II)Z -/
def f_M_has (x0 : Int32) (x1 : Int32) (m : am_Mm) : Option (Int32 × am_Mm) :=
  if ((am_shr x0 x1) &&& (1 : Int32)) = (1 : Int32) then
    some ((1 : Int32), m)
  else
    some ((0 : Int32), m)
set_option maxHeartbeats 4000000 in
set_option maxRecDepth 100000 in
theorem f_M_has_ok {ro : am_Ro} {d : Nat} (hd : 1 ≤ d) (x0 : Int32) (x1 : Int32) {m m' : am_Mm} {r : Int32} (h : f_M_has x0 x1 m = some (r, m')) : am_Mt am_nw ro d mr_M_has [.int x0, .int x1] (S0, m) (some (.int r)) (S0, m') := by
  obtain ⟨d, rfl⟩ : ∃ d0, d = d0 + 1 := ⟨d - 1, by omega⟩
  refine am_Mt.of (by decide +kernel) (by decide) ?_
  change am_AW am_nw ro (d + 1) mr_M_has 0 [some (.int x0), some (.int x1)] [] (S0, m) (some (.int r)) (S0, m')
  unfold f_M_has at h
  refine am_AW.run am_base_ok ok_M_has (Nat.le_add_left 1 d) 6 (pc1 := 6) (ls1 := [some (.int x0), some (.int x1)]) (st1 := [.int (1 : Int32), .int ((am_shr x0 x1) &&& (1 : Int32))]) (σ1 := (S0, m)) rfl ?_
  refine am_AW.brN ok_M_has rfl rfl am_c_ne (fun c1 => ?_) (fun c1 => ?_)
  · rw [if_pos c1] at h
    refine am_AW.run am_base_ok ok_M_has (Nat.le_add_left 1 d) 2 (pc1 := 14) (ls1 := [some (.int x0), some (.int x1)]) (st1 := [.int (1 : Int32)]) (σ1 := (S0, m)) rfl ?_
    cases h
    exact am_AW.ret ok_M_has rfl rfl rfl (by decide)
  · rw [if_neg c1] at h
    refine am_AW.run am_base_ok ok_M_has (Nat.le_add_left 1 d) 1 (pc1 := 14) (ls1 := [some (.int x0), some (.int x1)]) (st1 := [.int (0 : Int32)]) (σ1 := (S0, m)) rfl ?_
    cases h
    exact am_AW.ret ok_M_has rfl rfl rfl (by decide)
/-! FriezePolygonsModel.goFrom(II)I -/
def f_M_goFrom (x0 : Int32) (x1 : Int32) (m : am_Mm) : Option (Int32 × am_Mm) :=
  if x1 = (0 : Int32) then
    some ((x0 - (3 : Int32)), m)
  else
    some (((x0 - x1) - (2 : Int32)), m)
set_option maxHeartbeats 4000000 in
set_option maxRecDepth 100000 in
theorem f_M_goFrom_ok {ro : am_Ro} {d : Nat} (hd : 1 ≤ d) (x0 : Int32) (x1 : Int32) {m m' : am_Mm} {r : Int32} (h : f_M_goFrom x0 x1 m = some (r, m')) : am_Mt am_nw ro d mr_M_goFrom [.int x0, .int x1] (S0, m) (some (.int r)) (S0, m') := by
  obtain ⟨d, rfl⟩ : ∃ d0, d = d0 + 1 := ⟨d - 1, by omega⟩
  refine am_Mt.of (by decide +kernel) (by decide) ?_
  change am_AW am_nw ro (d + 1) mr_M_goFrom 0 [some (.int x0), some (.int x1)] [] (S0, m) (some (.int r)) (S0, m')
  unfold f_M_goFrom at h
  refine am_AW.run am_base_ok ok_M_goFrom (Nat.le_add_left 1 d) 1 (pc1 := 1) (ls1 := [some (.int x0), some (.int x1)]) (st1 := [.int x1]) (σ1 := (S0, m)) rfl ?_
  refine am_AW.brN ok_M_goFrom rfl rfl am_c_ne (fun c1 => ?_) (fun c1 => ?_)
  · rw [if_pos c1] at h
    refine am_AW.run am_base_ok ok_M_goFrom (Nat.le_add_left 1 d) 4 (pc1 := 15) (ls1 := [some (.int x0), some (.int x1)]) (st1 := [.int (x0 - (3 : Int32))]) (σ1 := (S0, m)) rfl ?_
    cases h
    exact am_AW.ret ok_M_goFrom rfl rfl rfl rfl
  · rw [if_neg c1] at h
    refine am_AW.run am_base_ok ok_M_goFrom (Nat.le_add_left 1 d) 5 (pc1 := 15) (ls1 := [some (.int x0), some (.int x1)]) (st1 := [.int ((x0 - x1) - (2 : Int32))]) (σ1 := (S0, m)) rfl ?_
    cases h
    exact am_AW.ret ok_M_goFrom rfl rfl rfl rfl
/-! FriezePolygonsModel.isBetween(III)Z -/
def f_M_isBetween (x0 : Int32) (x1 : Int32) (x2 : Int32) (m : am_Mm) : Option (Int32 × am_Mm) :=
  if x0 ≤ x1 then
    some ((0 : Int32), m)
  else
    if x2 ≤ x0 then
      some ((0 : Int32), m)
    else
      some ((1 : Int32), m)
set_option maxHeartbeats 4000000 in
set_option maxRecDepth 100000 in
theorem f_M_isBetween_ok {ro : am_Ro} {d : Nat} (hd : 1 ≤ d) (x0 : Int32) (x1 : Int32) (x2 : Int32) {m m' : am_Mm} {r : Int32} (h : f_M_isBetween x0 x1 x2 m = some (r, m')) : am_Mt am_nw ro d mr_M_isBetween [.int x0, .int x1, .int x2] (S0, m) (some (.int r)) (S0, m') := by
  obtain ⟨d, rfl⟩ : ∃ d0, d = d0 + 1 := ⟨d - 1, by omega⟩
  refine am_Mt.of (by decide +kernel) (by decide) ?_
  change am_AW am_nw ro (d + 1) mr_M_isBetween 0 [some (.int x0), some (.int x1), some (.int x2)] [] (S0, m) (some (.int r)) (S0, m')
  unfold f_M_isBetween at h
  refine am_AW.run am_base_ok ok_M_isBetween (Nat.le_add_left 1 d) 2 (pc1 := 2) (ls1 := [some (.int x0), some (.int x1), some (.int x2)]) (st1 := [.int x0, .int x1]) (σ1 := (S0, m)) rfl ?_
  refine am_AW.brP ok_M_isBetween rfl rfl am_c_ge (fun c1 => ?_) (fun c1 => ?_)
  · rw [if_pos c1] at h
    refine am_AW.run am_base_ok ok_M_isBetween (Nat.le_add_left 1 d) 1 (pc1 := 15) (ls1 := [some (.int x0), some (.int x1), some (.int x2)]) (st1 := [.int (0 : Int32)]) (σ1 := (S0, m)) rfl ?_
    cases h
    exact am_AW.ret ok_M_isBetween rfl rfl rfl (by decide)
  · rw [if_neg c1] at h
    refine am_AW.run am_base_ok ok_M_isBetween (Nat.le_add_left 1 d) 2 (pc1 := 7) (ls1 := [some (.int x0), some (.int x1), some (.int x2)]) (st1 := [.int x2, .int x0]) (σ1 := (S0, m)) rfl ?_
    refine am_AW.brP ok_M_isBetween rfl rfl am_c_ge (fun c2 => ?_) (fun c2 => ?_)
    · rw [if_pos c2] at h
      refine am_AW.run am_base_ok ok_M_isBetween (Nat.le_add_left 1 d) 1 (pc1 := 15) (ls1 := [some (.int x0), some (.int x1), some (.int x2)]) (st1 := [.int (0 : Int32)]) (σ1 := (S0, m)) rfl ?_
      cases h
      exact am_AW.ret ok_M_isBetween rfl rfl rfl (by decide)
    · rw [if_neg c2] at h
      refine am_AW.run am_base_ok ok_M_isBetween (Nat.le_add_left 1 d) 2 (pc1 := 15) (ls1 := [some (.int x0), some (.int x1), some (.int x2)]) (st1 := [.int (1 : Int32)]) (σ1 := (S0, m)) rfl ?_
      cases h
      exact am_AW.ret ok_M_isBetween rfl rfl rfl (by decide)
/-! FriezePolygons$Ring.numberOf(II)I -/
def f_Ring_numberOf (p0 : Nat) (x1 : Int32) (x2 : Int32) (m : am_Mm) : Option (Int32 × am_Mm) :=
  (f_Ring_isCut p0 (am_min x1 x2) (am_max x1 x2) m).bind fun q3 =>
  if q3.1 = (0 : Int32) then
    some ((-1 : Int32), q3.2)
  else
    if (am_min x1 x2) = (0 : Int32) then
      some (((am_max x1 x2) - (2 : Int32)), q3.2)
    else
      some ((((((((q3.2.1 p0 5) - (3 : Int32)) + (((am_min x1 x2) - (1 : Int32)) * ((q3.2.1 p0 5) - (2 : Int32)))) - (((am_min x1 x2) * ((am_min x1 x2) - (1 : Int32))) / (2 : Int32))) + (am_max x1 x2)) - (am_min x1 x2)) - (2 : Int32)), q3.2)
set_option maxHeartbeats 4000000 in
set_option maxRecDepth 100000 in
theorem f_Ring_numberOf_ok {ro : am_Ro} {d : Nat} (hd : 2 ≤ d) (p0 : Nat) (x1 : Int32) (x2 : Int32) (hp0 : p0 = 6 ∨ p0 = 20) {m m' : am_Mm} {r : Int32} (h : f_Ring_numberOf p0 x1 x2 m = some (r, m')) : am_Mt am_nw ro d mr_Ring_numberOf [.ref p0, .int x1, .int x2] (S0, m) (some (.int r)) (S0, m') := by
  obtain ⟨d, rfl⟩ : ∃ d0, d = d0 + 1 := ⟨d - 1, by omega⟩
  refine am_Mt.of (by decide +kernel) (by decide) ?_
  change am_AW am_nw ro (d + 1) mr_Ring_numberOf 0 [some (.ref p0), some (.int x1), some (.int x2), none, none] [] (S0, m) (some (.int r)) (S0, m')
  unfold f_Ring_numberOf at h
  refine am_AW.run am_base_ok ok_Ring_numberOf (Nat.le_add_left 1 d) 2 (pc1 := 2) (ls1 := [some (.ref p0), some (.int x1), some (.int x2), none, none]) (st1 := [.int x2, .int x1]) (σ1 := (S0, m)) rfl ?_
  refine am_AW.mmin ok_Ring_numberOf (Nat.le_add_left 1 d) rfl lk_Ring_34 (by decide) ?_
  change am_AW am_nw ro (d + 1) mr_Ring_numberOf 5 [some (.ref p0), some (.int x1), some (.int x2), none, none] [.int (am_min x1 x2)] (S0, m) (some (.int r)) (S0, m')
  refine am_AW.run am_base_ok ok_Ring_numberOf (Nat.le_add_left 1 d) 3 (pc1 := 8) (ls1 := [some (.ref p0), some (.int x1), some (.int x2), some (.int (am_min x1 x2)), none]) (st1 := [.int x2, .int x1]) (σ1 := (S0, m)) rfl ?_
  refine am_AW.mmax ok_Ring_numberOf (Nat.le_add_left 1 d) rfl lk_Ring_53 (by decide) ?_
  change am_AW am_nw ro (d + 1) mr_Ring_numberOf 11 [some (.ref p0), some (.int x1), some (.int x2), some (.int (am_min x1 x2)), none] [.int (am_max x1 x2)] (S0, m) (some (.int r)) (S0, m')
  refine am_AW.run am_base_ok ok_Ring_numberOf (Nat.le_add_left 1 d) 4 (pc1 := 17) (ls1 := [some (.ref p0), some (.int x1), some (.int x2), some (.int (am_min x1 x2)), some (.int (am_max x1 x2))]) (st1 := [.int (am_max x1 x2), .int (am_min x1 x2), .ref p0]) (σ1 := (S0, m)) rfl ?_
  obtain ⟨q3, hq3, h⟩ := Option.bind_eq_some_iff.mp h
  refine am_AW.callV ok_Ring_numberOf am_nw_ok (As := [.int (am_min x1 x2), .int (am_max x1 x2)]) (rest := []) rfl rfl rfl oR_Ring_isCut lk_Ring_46 iM_Ring_isCut sE_Ring_isCut (qc := kq6) (sh_6_20_0 hp0) rfl rfl rfl (by decide) (f_Ring_isCut_ok (d := d) (by omega) p0 (am_min x1 x2) (am_max x1 x2) hp0 hq3) ?_
  change am_AW am_nw ro (d + 1) mr_Ring_numberOf 20 [some (.ref p0), some (.int x1), some (.int x2), some (.int (am_min x1 x2)), some (.int (am_max x1 x2))] [.int q3.1] (S0, q3.2) (some (.int r)) (S0, m')
  refine am_AW.brN ok_Ring_numberOf rfl rfl am_c_ne (fun c4 => ?_) (fun c4 => ?_)
  · rw [if_pos c4] at h
    refine am_AW.run am_base_ok ok_Ring_numberOf (Nat.le_add_left 1 d) 1 (pc1 := 24) (ls1 := [some (.ref p0), some (.int x1), some (.int x2), some (.int (am_min x1 x2)), some (.int (am_max x1 x2))]) (st1 := [.int (-1 : Int32)]) (σ1 := (S0, q3.2)) rfl ?_
    cases h
    exact am_AW.ret ok_Ring_numberOf rfl rfl rfl rfl
  · rw [if_neg c4] at h
    refine am_AW.run am_base_ok ok_Ring_numberOf (Nat.le_add_left 1 d) 1 (pc1 := 26) (ls1 := [some (.ref p0), some (.int x1), some (.int x2), some (.int (am_min x1 x2)), some (.int (am_max x1 x2))]) (st1 := [.int (am_min x1 x2)]) (σ1 := (S0, q3.2)) rfl ?_
    refine am_AW.brN ok_Ring_numberOf rfl rfl am_c_ne (fun c5 => ?_) (fun c5 => ?_)
    · rw [if_pos c5] at h
      refine am_AW.run am_base_ok ok_Ring_numberOf (Nat.le_add_left 1 d) 3 (pc1 := 33) (ls1 := [some (.ref p0), some (.int x1), some (.int x2), some (.int (am_min x1 x2)), some (.int (am_max x1 x2))]) (st1 := [.int ((am_max x1 x2) - (2 : Int32))]) (σ1 := (S0, q3.2)) rfl ?_
      cases h
      exact am_AW.ret ok_Ring_numberOf rfl rfl rfl rfl
    · rw [if_neg c5] at h
      refine am_AW.run am_base_ok ok_Ring_numberOf (Nat.le_add_left 1 d) 1 (pc1 := 35) (ls1 := [some (.ref p0), some (.int x1), some (.int x2), some (.int (am_min x1 x2)), some (.int (am_max x1 x2))]) (st1 := [.ref p0]) (σ1 := (S0, q3.2)) rfl ?_
      refine am_AW.geti ok_Ring_numberOf (Nat.le_add_left 1 d) rfl (sh_6_20_0 hp0) rfl ?_
      refine am_AW.run am_base_ok ok_Ring_numberOf (Nat.le_add_left 1 d) 6 (pc1 := 44) (ls1 := [some (.ref p0), some (.int x1), some (.int x2), some (.int (am_min x1 x2)), some (.int (am_max x1 x2))]) (st1 := [.ref p0, .int ((am_min x1 x2) - (1 : Int32)), .int ((q3.2.1 p0 5) - (3 : Int32))]) (σ1 := (S0, q3.2)) rfl ?_
      refine am_AW.geti ok_Ring_numberOf (Nat.le_add_left 1 d) rfl (sh_6_20_0 hp0) rfl ?_
      refine am_AW.run am_base_ok ok_Ring_numberOf (Nat.le_add_left 1 d) 10 (pc1 := 57) (ls1 := [some (.ref p0), some (.int x1), some (.int x2), some (.int (am_min x1 x2)), some (.int (am_max x1 x2))]) (st1 := [.int (((q3.2.1 p0 5) - (3 : Int32)) + (((am_min x1 x2) - (1 : Int32)) * ((q3.2.1 p0 5) - (2 : Int32))))]) (σ1 := (S0, q3.2)) rfl ?_
      refine am_AW.dvi ok_Ring_numberOf (Nat.le_add_left 1 d) (w := (((am_min x1 x2) * ((am_min x1 x2) - (1 : Int32))) / (2 : Int32))) (Or.inl ⟨rfl, rfl⟩) rfl (by decide) ?_
      refine am_AW.run am_base_ok ok_Ring_numberOf (Nat.le_add_left 1 d) 7 (pc1 := 66) (ls1 := [some (.ref p0), some (.int x1), some (.int x2), some (.int (am_min x1 x2)), some (.int (am_max x1 x2))]) (st1 := [.int (((((((q3.2.1 p0 5) - (3 : Int32)) + (((am_min x1 x2) - (1 : Int32)) * ((q3.2.1 p0 5) - (2 : Int32)))) - (((am_min x1 x2) * ((am_min x1 x2) - (1 : Int32))) / (2 : Int32))) + (am_max x1 x2)) - (am_min x1 x2)) - (2 : Int32))]) (σ1 := (S0, q3.2)) rfl ?_
      cases h
      exact am_AW.ret ok_Ring_numberOf rfl rfl rfl rfl
/-! FriezePolygonsModel.numberOf(III)I -/
def f_M_numberOf_b34 : Nat → Int32 → Int32 → Int32 → Int32 → am_Mm → Option (Int32 × am_Mm)
  | 0, _, _, _, _, _ => none
  | n + 1, x0, x3, x5, x6, m =>
    if x3 ≤ x6 then
      some (x5, m)
    else
      (f_M_goFrom x0 x6 m).bind fun q6 =>
      f_M_numberOf_b34 n x0 x3 (x5 + q6.1) (x6 + (1 : Int32)) q6.2
def f_M_numberOf_b21 (x0 : Int32) (x3 : Int32) (s0 : Int32) (m : am_Mm) : Option (Int32 × am_Mm) :=
  f_M_numberOf_b34 am_F x0 x3 ((s0 - x3) - (2 : Int32)) (0 : Int32) m
def f_M_numberOf_b10 (x0 : Int32) (x1 : Int32) (x2 : Int32) (s0 : Int32) (m : am_Mm) : Option (Int32 × am_Mm) :=
  if x2 ≤ x1 then
    f_M_numberOf_b21 x0 s0 x1 m
  else
    f_M_numberOf_b21 x0 s0 x2 m
def f_M_numberOf (x0 : Int32) (x1 : Int32) (x2 : Int32) (m : am_Mm) : Option (Int32 × am_Mm) :=
  if x2 ≤ x1 then
    f_M_numberOf_b10 x0 x1 x2 x2 m
  else
    f_M_numberOf_b10 x0 x1 x2 x1 m
set_option maxHeartbeats 4000000 in
set_option maxRecDepth 100000 in
theorem f_M_numberOf_b34_all {ro : am_Ro} {d : Nat} (hd : 2 ≤ d + 1) : ∀ (n : Nat) (x0 : Int32) (x3 : Int32) (x5 : Int32) (x6 : Int32) (m m' : am_Mm) (r : Int32), f_M_numberOf_b34 n x0 x3 x5 x6 m = some (r, m') → am_AW am_nw ro (d + 1) mr_M_numberOf 34 [some (.int x0), none, none, some (.int x3), none, some (.int x5), some (.int x6)] [] (S0, m) (some (.int r)) (S0, m') := by
  intro n
  induction n with
  | zero =>
    intro x0 x3 x5 x6 m m' r h
    rw [f_M_numberOf_b34] at h
    cases h
  | succ n ih =>
    intro x0 x3 x5 x6 m m' r h
    rw [f_M_numberOf_b34] at h
    refine am_AW.run am_base_ok ok_M_numberOf (Nat.le_add_left 1 d) 2 (pc1 := 37) (ls1 := [some (.int x0), none, none, some (.int x3), none, some (.int x5), some (.int x6)]) (st1 := [.int x3, .int x6]) (σ1 := (S0, m)) rfl ?_
    refine am_AW.brP ok_M_numberOf rfl rfl am_c_ge (fun c3 => ?_) (fun c3 => ?_)
    · rw [if_pos c3] at h
      refine am_AW.run am_base_ok ok_M_numberOf (Nat.le_add_left 1 d) 1 (pc1 := 59) (ls1 := [some (.int x0), none, none, some (.int x3), none, some (.int x5), some (.int x6)]) (st1 := [.int x5]) (σ1 := (S0, m)) rfl ?_
      cases h
      exact am_AW.ret ok_M_numberOf rfl rfl rfl rfl
    · rw [if_neg c3] at h
      refine am_AW.run am_base_ok ok_M_numberOf (Nat.le_add_left 1 d) 3 (pc1 := 45) (ls1 := [some (.int x0), none, none, some (.int x3), none, some (.int x5), some (.int x6)]) (st1 := [.int x6, .int x0, .int x5]) (σ1 := (S0, m)) rfl ?_
      obtain ⟨q6, hq6, h⟩ := Option.bind_eq_some_iff.mp h
      refine am_AW.callS ok_M_numberOf am_nw_ok (As := [.int x0, .int x6]) (rest := [.int x5]) rfl rfl rfl oR_M_goFrom lk_M_79 sT_M_goFrom rfl (by decide) (f_M_goFrom_ok (d := d) (by omega) x0 x6 hq6) ?_
      change am_AW am_nw ro (d + 1) mr_M_numberOf 48 [some (.int x0), none, none, some (.int x3), none, some (.int x5), some (.int x6)] [.int q6.1, .int x5] (S0, q6.2) (some (.int r)) (S0, m')
      refine am_AW.run am_base_ok ok_M_numberOf (Nat.le_add_left 1 d) 4 (pc1 := 34) (ls1 := [some (.int x0), none, none, some (.int x3), none, some (.int (x5 + q6.1)), some (.int (x6 + (1 : Int32)))]) (st1 := []) (σ1 := (S0, q6.2)) rfl ?_
      exact am_AW.weak (ih x0 x3 (x5 + q6.1) (x6 + (1 : Int32))  _ _ _ h) (by simp only [am_le, and_self])
set_option maxHeartbeats 4000000 in
set_option maxRecDepth 100000 in
theorem f_M_numberOf_b34_ok {ro : am_Ro} {d : Nat} (hd : 2 ≤ d + 1) (x0 : Int32) (x3 : Int32) (x5 : Int32) (x6 : Int32) {m m' : am_Mm} {r : Int32} {n : Nat} (h : f_M_numberOf_b34 n x0 x3 x5 x6 m = some (r, m')) : am_AW am_nw ro (d + 1) mr_M_numberOf 34 [some (.int x0), none, none, some (.int x3), none, some (.int x5), some (.int x6)] [] (S0, m) (some (.int r)) (S0, m') :=
  f_M_numberOf_b34_all hd n x0 x3 x5 x6  m m' r h
set_option maxHeartbeats 4000000 in
set_option maxRecDepth 100000 in
theorem f_M_numberOf_b21_ok {ro : am_Ro} {d : Nat} (hd : 2 ≤ d + 1) (x0 : Int32) (x3 : Int32) (s0 : Int32) {m m' : am_Mm} {r : Int32} (h : f_M_numberOf_b21 x0 x3 s0 m = some (r, m')) : am_AW am_nw ro (d + 1) mr_M_numberOf 21 [some (.int x0), none, none, some (.int x3), none, none, none] [.int s0] (S0, m) (some (.int r)) (S0, m') := by
  unfold f_M_numberOf_b21 at h
  refine am_AW.run am_base_ok ok_M_numberOf (Nat.le_add_left 1 d) 9 (pc1 := 34) (ls1 := [some (.int x0), none, none, some (.int x3), some (.int s0), some (.int ((s0 - x3) - (2 : Int32))), some (.int (0 : Int32))]) (st1 := []) (σ1 := (S0, m)) rfl ?_
  exact am_AW.weak (f_M_numberOf_b34_ok hd x0 x3 ((s0 - x3) - (2 : Int32)) (0 : Int32)  h) (by simp only [am_le, and_self])
set_option maxHeartbeats 4000000 in
set_option maxRecDepth 100000 in
theorem f_M_numberOf_b10_ok {ro : am_Ro} {d : Nat} (hd : 2 ≤ d + 1) (x0 : Int32) (x1 : Int32) (x2 : Int32) (s0 : Int32) {m m' : am_Mm} {r : Int32} (h : f_M_numberOf_b10 x0 x1 x2 s0 m = some (r, m')) : am_AW am_nw ro (d + 1) mr_M_numberOf 10 [some (.int x0), some (.int x1), some (.int x2), none, none, none, none] [.int s0] (S0, m) (some (.int r)) (S0, m') := by
  unfold f_M_numberOf_b10 at h
  refine am_AW.run am_base_ok ok_M_numberOf (Nat.le_add_left 1 d) 3 (pc1 := 13) (ls1 := [some (.int x0), some (.int x1), some (.int x2), some (.int s0), none, none, none]) (st1 := [.int x2, .int x1]) (σ1 := (S0, m)) rfl ?_
  refine am_AW.brP ok_M_numberOf rfl rfl am_c_ge (fun c2 => ?_) (fun c2 => ?_)
  · rw [if_pos c2] at h
    refine am_AW.run am_base_ok ok_M_numberOf (Nat.le_add_left 1 d) 1 (pc1 := 21) (ls1 := [some (.int x0), some (.int x1), some (.int x2), some (.int s0), none, none, none]) (st1 := [.int x1]) (σ1 := (S0, m)) rfl ?_
    exact am_AW.weak (f_M_numberOf_b21_ok hd x0 s0 x1  h) (by simp only [am_le, and_self])
  · rw [if_neg c2] at h
    refine am_AW.run am_base_ok ok_M_numberOf (Nat.le_add_left 1 d) 2 (pc1 := 21) (ls1 := [some (.int x0), some (.int x1), some (.int x2), some (.int s0), none, none, none]) (st1 := [.int x2]) (σ1 := (S0, m)) rfl ?_
    exact am_AW.weak (f_M_numberOf_b21_ok hd x0 s0 x2  h) (by simp only [am_le, and_self])
set_option maxHeartbeats 4000000 in
set_option maxRecDepth 100000 in
theorem f_M_numberOf_ok {ro : am_Ro} {d : Nat} (hd : 2 ≤ d) (x0 : Int32) (x1 : Int32) (x2 : Int32) {m m' : am_Mm} {r : Int32} (h : f_M_numberOf x0 x1 x2 m = some (r, m')) : am_Mt am_nw ro d mr_M_numberOf [.int x0, .int x1, .int x2] (S0, m) (some (.int r)) (S0, m') := by
  obtain ⟨d, rfl⟩ : ∃ d0, d = d0 + 1 := ⟨d - 1, by omega⟩
  refine am_Mt.of (by decide +kernel) (by decide) ?_
  change am_AW am_nw ro (d + 1) mr_M_numberOf 0 [some (.int x0), some (.int x1), some (.int x2), none, none, none, none] [] (S0, m) (some (.int r)) (S0, m')
  unfold f_M_numberOf at h
  refine am_AW.run am_base_ok ok_M_numberOf (Nat.le_add_left 1 d) 2 (pc1 := 2) (ls1 := [some (.int x0), some (.int x1), some (.int x2), none, none, none, none]) (st1 := [.int x2, .int x1]) (σ1 := (S0, m)) rfl ?_
  refine am_AW.brP ok_M_numberOf rfl rfl am_c_ge (fun c1 => ?_) (fun c1 => ?_)
  · rw [if_pos c1] at h
    refine am_AW.run am_base_ok ok_M_numberOf (Nat.le_add_left 1 d) 1 (pc1 := 10) (ls1 := [some (.int x0), some (.int x1), some (.int x2), none, none, none, none]) (st1 := [.int x2]) (σ1 := (S0, m)) rfl ?_
    exact am_AW.weak (f_M_numberOf_b10_ok hd x0 x1 x2 x2  h) (by simp only [am_le, and_self])
  · rw [if_neg c1] at h
    refine am_AW.run am_base_ok ok_M_numberOf (Nat.le_add_left 1 d) 2 (pc1 := 10) (ls1 := [some (.int x0), some (.int x1), some (.int x2), none, none, none, none]) (st1 := [.int x1]) (σ1 := (S0, m)) rfl ?_
    exact am_AW.weak (f_M_numberOf_b10_ok hd x0 x1 x2 x1  h) (by simp only [am_le, and_self])
/-! FriezePolygonsModel.endsOf(II)I -/
def f_M_endsOf_b34 (x2 : Int32) (x3 : Int32) (m : am_Mm) : Option (Int32 × am_Mm) :=
  some (((((11 : Int32) * x2) + (2 : Int32)) + x3), m)
def f_M_endsOf_b4 : Nat → Int32 → Int32 → Int32 → am_Mm → Option (Int32 × am_Mm)
  | 0, _, _, _, _ => none
  | n + 1, x0, x2, x3, m =>
    if (x0 - (3 : Int32)) ≤ x2 then
      f_M_endsOf_b34 x2 x3 m
    else
      (f_M_goFrom x0 x2 m).bind fun q4 =>
      if x3 < q4.1 then
        f_M_endsOf_b34 x2 x3 q4.2
      else
        (f_M_goFrom x0 x2 q4.2).bind fun q8 =>
        f_M_endsOf_b4 n x0 (x2 + (1 : Int32)) (x3 - q8.1) q8.2
def f_M_endsOf (x0 : Int32) (x1 : Int32) (m : am_Mm) : Option (Int32 × am_Mm) :=
  f_M_endsOf_b4 am_F x0 (0 : Int32) x1 m
set_option maxHeartbeats 4000000 in
set_option maxRecDepth 100000 in
theorem f_M_endsOf_b34_ok {ro : am_Ro} {d : Nat} (hd : 2 ≤ d + 1) (x2 : Int32) (x3 : Int32) {m m' : am_Mm} {r : Int32} (h : f_M_endsOf_b34 x2 x3 m = some (r, m')) : am_AW am_nw ro (d + 1) mr_M_endsOf 34 [none, none, some (.int x2), some (.int x3)] [] (S0, m) (some (.int r)) (S0, m') := by
  unfold f_M_endsOf_b34 at h
  refine am_AW.run am_base_ok ok_M_endsOf (Nat.le_add_left 1 d) 7 (pc1 := 42) (ls1 := [none, none, some (.int x2), some (.int x3)]) (st1 := [.int ((((11 : Int32) * x2) + (2 : Int32)) + x3)]) (σ1 := (S0, m)) rfl ?_
  cases h
  exact am_AW.ret ok_M_endsOf rfl rfl rfl rfl
set_option maxHeartbeats 4000000 in
set_option maxRecDepth 100000 in
theorem f_M_endsOf_b4_all {ro : am_Ro} {d : Nat} (hd : 2 ≤ d + 1) : ∀ (n : Nat) (x0 : Int32) (x2 : Int32) (x3 : Int32) (m m' : am_Mm) (r : Int32), f_M_endsOf_b4 n x0 x2 x3 m = some (r, m') → am_AW am_nw ro (d + 1) mr_M_endsOf 4 [some (.int x0), none, some (.int x2), some (.int x3)] [] (S0, m) (some (.int r)) (S0, m') := by
  intro n
  induction n with
  | zero =>
    intro x0 x2 x3 m m' r h
    rw [f_M_endsOf_b4] at h
    cases h
  | succ n ih =>
    intro x0 x2 x3 m m' r h
    rw [f_M_endsOf_b4] at h
    refine am_AW.run am_base_ok ok_M_endsOf (Nat.le_add_left 1 d) 4 (pc1 := 8) (ls1 := [some (.int x0), none, some (.int x2), some (.int x3)]) (st1 := [.int (x0 - (3 : Int32)), .int x2]) (σ1 := (S0, m)) rfl ?_
    refine am_AW.brP ok_M_endsOf rfl rfl am_c_ge (fun c1 => ?_) (fun c1 => ?_)
    · rw [if_pos c1] at h
      exact am_AW.weak (f_M_endsOf_b34_ok hd x2 x3  h) (by simp only [am_le, and_self])
    · rw [if_neg c1] at h
      refine am_AW.run am_base_ok ok_M_endsOf (Nat.le_add_left 1 d) 3 (pc1 := 14) (ls1 := [some (.int x0), none, some (.int x2), some (.int x3)]) (st1 := [.int x2, .int x0, .int x3]) (σ1 := (S0, m)) rfl ?_
      obtain ⟨q4, hq4, h⟩ := Option.bind_eq_some_iff.mp h
      refine am_AW.callS ok_M_endsOf am_nw_ok (As := [.int x0, .int x2]) (rest := [.int x3]) rfl rfl rfl oR_M_goFrom lk_M_79 sT_M_goFrom rfl (by decide) (f_M_goFrom_ok (d := d) (by omega) x0 x2 hq4) ?_
      change am_AW am_nw ro (d + 1) mr_M_endsOf 17 [some (.int x0), none, some (.int x2), some (.int x3)] [.int q4.1, .int x3] (S0, q4.2) (some (.int r)) (S0, m')
      refine am_AW.brP ok_M_endsOf rfl rfl am_c_lt (fun c5 => ?_) (fun c5 => ?_)
      · rw [if_pos c5] at h
        exact am_AW.weak (f_M_endsOf_b34_ok hd x2 x3  h) (by simp only [am_le, and_self])
      · rw [if_neg c5] at h
        refine am_AW.run am_base_ok ok_M_endsOf (Nat.le_add_left 1 d) 3 (pc1 := 23) (ls1 := [some (.int x0), none, some (.int x2), some (.int x3)]) (st1 := [.int x2, .int x0, .int x3]) (σ1 := (S0, q4.2)) rfl ?_
        obtain ⟨q8, hq8, h⟩ := Option.bind_eq_some_iff.mp h
        refine am_AW.callS ok_M_endsOf am_nw_ok (As := [.int x0, .int x2]) (rest := [.int x3]) rfl rfl rfl oR_M_goFrom lk_M_79 sT_M_goFrom rfl (by decide) (f_M_goFrom_ok (d := d) (by omega) x0 x2 hq8) ?_
        change am_AW am_nw ro (d + 1) mr_M_endsOf 26 [some (.int x0), none, some (.int x2), some (.int x3)] [.int q8.1, .int x3] (S0, q8.2) (some (.int r)) (S0, m')
        refine am_AW.run am_base_ok ok_M_endsOf (Nat.le_add_left 1 d) 4 (pc1 := 4) (ls1 := [some (.int x0), none, some (.int (x2 + (1 : Int32))), some (.int (x3 - q8.1))]) (st1 := []) (σ1 := (S0, q8.2)) rfl ?_
        exact am_AW.weak (ih x0 (x2 + (1 : Int32)) (x3 - q8.1)  _ _ _ h) (by simp only [am_le, and_self])
set_option maxHeartbeats 4000000 in
set_option maxRecDepth 100000 in
theorem f_M_endsOf_b4_ok {ro : am_Ro} {d : Nat} (hd : 2 ≤ d + 1) (x0 : Int32) (x2 : Int32) (x3 : Int32) {m m' : am_Mm} {r : Int32} {n : Nat} (h : f_M_endsOf_b4 n x0 x2 x3 m = some (r, m')) : am_AW am_nw ro (d + 1) mr_M_endsOf 4 [some (.int x0), none, some (.int x2), some (.int x3)] [] (S0, m) (some (.int r)) (S0, m') :=
  f_M_endsOf_b4_all hd n x0 x2 x3  m m' r h
set_option maxHeartbeats 4000000 in
set_option maxRecDepth 100000 in
theorem f_M_endsOf_ok {ro : am_Ro} {d : Nat} (hd : 2 ≤ d) (x0 : Int32) (x1 : Int32) {m m' : am_Mm} {r : Int32} (h : f_M_endsOf x0 x1 m = some (r, m')) : am_Mt am_nw ro d mr_M_endsOf [.int x0, .int x1] (S0, m) (some (.int r)) (S0, m') := by
  obtain ⟨d, rfl⟩ : ∃ d0, d = d0 + 1 := ⟨d - 1, by omega⟩
  refine am_Mt.of (by decide +kernel) (by decide) ?_
  change am_AW am_nw ro (d + 1) mr_M_endsOf 0 [some (.int x0), some (.int x1), none, none] [] (S0, m) (some (.int r)) (S0, m')
  unfold f_M_endsOf at h
  refine am_AW.run am_base_ok ok_M_endsOf (Nat.le_add_left 1 d) 4 (pc1 := 4) (ls1 := [some (.int x0), some (.int x1), some (.int (0 : Int32)), some (.int x1)]) (st1 := []) (σ1 := (S0, m)) rfl ?_
  exact am_AW.weak (f_M_endsOf_b4_ok hd x0 (0 : Int32) x1  h) (by simp only [am_le, and_self])
/-! FriezePolygonsModel.isJoined([III)Z -/
def f_M_isJoined_b57 (p0 : Nat) (x3 : Int32) (x4 : Int32) (x5 : Int32) (m : am_Mm) : Option (Int32 × am_Mm) :=
  (f_M_numberOf x3 x4 x5 m).bind fun q11 =>
  (f_M_has (m.1 p0 1) q11.1 q11.2).bind fun q14 =>
  if q14.1 = (0 : Int32) then
    some ((0 : Int32), q14.2)
  else
    some ((1 : Int32), q14.2)
def f_M_isJoined_b26 (p0 : Nat) (x3 : Int32) (x4 : Int32) (s0 : Int32) (m : am_Mm) : Option (Int32 × am_Mm) :=
  if s0 ≤ x4 then
    some ((0 : Int32), m)
  else
    if (s0 - x4) = (1 : Int32) then
      some ((1 : Int32), m)
    else
      if x4 = (0 : Int32) then
        if s0 = (x3 - (1 : Int32)) then
          some ((1 : Int32), m)
        else
          f_M_isJoined_b57 p0 x3 x4 s0 m
      else
        f_M_isJoined_b57 p0 x3 x4 s0 m
def f_M_isJoined_b14 (p0 : Nat) (x1 : Int32) (x2 : Int32) (x3 : Int32) (s0 : Int32) (m : am_Mm) : Option (Int32 × am_Mm) :=
  if x2 ≤ x1 then
    f_M_isJoined_b26 p0 x3 s0 x1 m
  else
    f_M_isJoined_b26 p0 x3 s0 x2 m
def f_M_isJoined (p0 : Nat) (x1 : Int32) (x2 : Int32) (m : am_Mm) : Option (Int32 × am_Mm) :=
  if x2 ≤ x1 then
    f_M_isJoined_b14 p0 x1 x2 (m.1 p0 0) x2 m
  else
    f_M_isJoined_b14 p0 x1 x2 (m.1 p0 0) x1 m
set_option maxHeartbeats 4000000 in
set_option maxRecDepth 100000 in
theorem f_M_isJoined_b57_ok {ro : am_Ro} {d : Nat} (hd : 3 ≤ d + 1) (p0 : Nat) (x3 : Int32) (x4 : Int32) (x5 : Int32) (hp0 : p0 = 67 ∨ p0 = 69) {m m' : am_Mm} {r : Int32} (h : f_M_isJoined_b57 p0 x3 x4 x5 m = some (r, m')) : am_AW am_nw ro (d + 1) mr_M_isJoined 57 [some (.ref p0), none, none, some (.int x3), some (.int x4), some (.int x5)] [] (S0, m) (some (.int r)) (S0, m') := by
  unfold f_M_isJoined_b57 at h
  refine am_AW.run am_base_ok ok_M_isJoined (Nat.le_add_left 1 d) 2 (pc1 := 59) (ls1 := [some (.ref p0), none, none, some (.int x3), some (.int x4), some (.int x5)]) (st1 := [.int (1 : Int32), .ref p0]) (σ1 := (S0, m)) rfl ?_
  refine am_AW.iald ok_M_isJoined (Nat.le_add_left 1 d) S0_len rfl (sh_67_69_0 hp0) (by decide) ?_
  refine am_AW.run am_base_ok ok_M_isJoined (Nat.le_add_left 1 d) 3 (pc1 := 65) (ls1 := [some (.ref p0), none, none, some (.int x3), some (.int x4), some (.int x5)]) (st1 := [.int x5, .int x4, .int x3, .int (m.1 p0 1)]) (σ1 := (S0, m)) rfl ?_
  obtain ⟨q11, hq11, h⟩ := Option.bind_eq_some_iff.mp h
  refine am_AW.callS ok_M_isJoined am_nw_ok (As := [.int x3, .int x4, .int x5]) (rest := [.int (m.1 p0 1)]) rfl rfl rfl oR_M_numberOf lk_M_96 sT_M_numberOf rfl (by decide) (f_M_numberOf_ok (d := d) (by omega) x3 x4 x5 hq11) ?_
  change am_AW am_nw ro (d + 1) mr_M_isJoined 68 [some (.ref p0), none, none, some (.int x3), some (.int x4), some (.int x5)] [.int q11.1, .int (m.1 p0 1)] (S0, q11.2) (some (.int r)) (S0, m')
  obtain ⟨q14, hq14, h⟩ := Option.bind_eq_some_iff.mp h
  refine am_AW.callS ok_M_isJoined am_nw_ok (As := [.int (m.1 p0 1), .int q11.1]) (rest := []) rfl rfl rfl oR_M_has lk_M_75 sT_M_has rfl (by decide) (f_M_has_ok (d := d) (by omega) (m.1 p0 1) q11.1 hq14) ?_
  change am_AW am_nw ro (d + 1) mr_M_isJoined 71 [some (.ref p0), none, none, some (.int x3), some (.int x4), some (.int x5)] [.int q14.1] (S0, q14.2) (some (.int r)) (S0, m')
  refine am_AW.brP ok_M_isJoined rfl rfl am_c_eq (fun c15 => ?_) (fun c15 => ?_)
  · rw [if_pos c15] at h
    refine am_AW.run am_base_ok ok_M_isJoined (Nat.le_add_left 1 d) 1 (pc1 := 79) (ls1 := [some (.ref p0), none, none, some (.int x3), some (.int x4), some (.int x5)]) (st1 := [.int (0 : Int32)]) (σ1 := (S0, q14.2)) rfl ?_
    cases h
    exact am_AW.ret ok_M_isJoined rfl rfl rfl (by decide)
  · rw [if_neg c15] at h
    refine am_AW.run am_base_ok ok_M_isJoined (Nat.le_add_left 1 d) 2 (pc1 := 79) (ls1 := [some (.ref p0), none, none, some (.int x3), some (.int x4), some (.int x5)]) (st1 := [.int (1 : Int32)]) (σ1 := (S0, q14.2)) rfl ?_
    cases h
    exact am_AW.ret ok_M_isJoined rfl rfl rfl (by decide)
set_option maxHeartbeats 4000000 in
set_option maxRecDepth 100000 in
theorem f_M_isJoined_b26_ok {ro : am_Ro} {d : Nat} (hd : 3 ≤ d + 1) (p0 : Nat) (x3 : Int32) (x4 : Int32) (s0 : Int32) (hp0 : p0 = 67 ∨ p0 = 69) {m m' : am_Mm} {r : Int32} (h : f_M_isJoined_b26 p0 x3 x4 s0 m = some (r, m')) : am_AW am_nw ro (d + 1) mr_M_isJoined 26 [some (.ref p0), none, none, some (.int x3), some (.int x4), none] [.int s0] (S0, m) (some (.int r)) (S0, m') := by
  unfold f_M_isJoined_b26 at h
  refine am_AW.run am_base_ok ok_M_isJoined (Nat.le_add_left 1 d) 3 (pc1 := 32) (ls1 := [some (.ref p0), none, none, some (.int x3), some (.int x4), some (.int s0)]) (st1 := [.int s0, .int x4]) (σ1 := (S0, m)) rfl ?_
  refine am_AW.brP ok_M_isJoined rfl rfl am_c_ge (fun c4 => ?_) (fun c4 => ?_)
  · rw [if_pos c4] at h
    refine am_AW.run am_base_ok ok_M_isJoined (Nat.le_add_left 1 d) 1 (pc1 := 79) (ls1 := [some (.ref p0), none, none, some (.int x3), some (.int x4), some (.int s0)]) (st1 := [.int (0 : Int32)]) (σ1 := (S0, m)) rfl ?_
    cases h
    exact am_AW.ret ok_M_isJoined rfl rfl rfl (by decide)
  · rw [if_neg c4] at h
    refine am_AW.run am_base_ok ok_M_isJoined (Nat.le_add_left 1 d) 4 (pc1 := 41) (ls1 := [some (.ref p0), none, none, some (.int x3), some (.int x4), some (.int s0)]) (st1 := [.int (1 : Int32), .int (s0 - x4)]) (σ1 := (S0, m)) rfl ?_
    refine am_AW.brP ok_M_isJoined rfl rfl am_c_eq (fun c5 => ?_) (fun c5 => ?_)
    · rw [if_pos c5] at h
      refine am_AW.run am_base_ok ok_M_isJoined (Nat.le_add_left 1 d) 2 (pc1 := 79) (ls1 := [some (.ref p0), none, none, some (.int x3), some (.int x4), some (.int s0)]) (st1 := [.int (1 : Int32)]) (σ1 := (S0, m)) rfl ?_
      cases h
      exact am_AW.ret ok_M_isJoined rfl rfl rfl (by decide)
    · rw [if_neg c5] at h
      refine am_AW.run am_base_ok ok_M_isJoined (Nat.le_add_left 1 d) 1 (pc1 := 46) (ls1 := [some (.ref p0), none, none, some (.int x3), some (.int x4), some (.int s0)]) (st1 := [.int x4]) (σ1 := (S0, m)) rfl ?_
      refine am_AW.brN ok_M_isJoined rfl rfl am_c_ne (fun c6 => ?_) (fun c6 => ?_)
      · rw [if_pos c6] at h
        refine am_AW.run am_base_ok ok_M_isJoined (Nat.le_add_left 1 d) 4 (pc1 := 54) (ls1 := [some (.ref p0), none, none, some (.int x3), some (.int x4), some (.int s0)]) (st1 := [.int (x3 - (1 : Int32)), .int s0]) (σ1 := (S0, m)) rfl ?_
        refine am_AW.brP ok_M_isJoined rfl rfl am_c_eq (fun c7 => ?_) (fun c7 => ?_)
        · rw [if_pos c7] at h
          refine am_AW.run am_base_ok ok_M_isJoined (Nat.le_add_left 1 d) 2 (pc1 := 79) (ls1 := [some (.ref p0), none, none, some (.int x3), some (.int x4), some (.int s0)]) (st1 := [.int (1 : Int32)]) (σ1 := (S0, m)) rfl ?_
          cases h
          exact am_AW.ret ok_M_isJoined rfl rfl rfl (by decide)
        · rw [if_neg c7] at h
          exact am_AW.weak (f_M_isJoined_b57_ok hd p0 x3 x4 s0 hp0 h) (by simp only [am_le, and_self])
      · rw [if_neg c6] at h
        exact am_AW.weak (f_M_isJoined_b57_ok hd p0 x3 x4 s0 hp0 h) (by simp only [am_le, and_self])
set_option maxHeartbeats 4000000 in
set_option maxRecDepth 100000 in
theorem f_M_isJoined_b14_ok {ro : am_Ro} {d : Nat} (hd : 3 ≤ d + 1) (p0 : Nat) (x1 : Int32) (x2 : Int32) (x3 : Int32) (s0 : Int32) (hp0 : p0 = 67 ∨ p0 = 69) {m m' : am_Mm} {r : Int32} (h : f_M_isJoined_b14 p0 x1 x2 x3 s0 m = some (r, m')) : am_AW am_nw ro (d + 1) mr_M_isJoined 14 [some (.ref p0), some (.int x1), some (.int x2), some (.int x3), none, none] [.int s0] (S0, m) (some (.int r)) (S0, m') := by
  unfold f_M_isJoined_b14 at h
  refine am_AW.run am_base_ok ok_M_isJoined (Nat.le_add_left 1 d) 3 (pc1 := 18) (ls1 := [some (.ref p0), some (.int x1), some (.int x2), some (.int x3), some (.int s0), none]) (st1 := [.int x2, .int x1]) (σ1 := (S0, m)) rfl ?_
  refine am_AW.brP ok_M_isJoined rfl rfl am_c_ge (fun c3 => ?_) (fun c3 => ?_)
  · rw [if_pos c3] at h
    refine am_AW.run am_base_ok ok_M_isJoined (Nat.le_add_left 1 d) 1 (pc1 := 26) (ls1 := [some (.ref p0), some (.int x1), some (.int x2), some (.int x3), some (.int s0), none]) (st1 := [.int x1]) (σ1 := (S0, m)) rfl ?_
    exact am_AW.weak (f_M_isJoined_b26_ok hd p0 x3 s0 x1 hp0 h) (by simp only [am_le, and_self])
  · rw [if_neg c3] at h
    refine am_AW.run am_base_ok ok_M_isJoined (Nat.le_add_left 1 d) 2 (pc1 := 26) (ls1 := [some (.ref p0), some (.int x1), some (.int x2), some (.int x3), some (.int s0), none]) (st1 := [.int x2]) (σ1 := (S0, m)) rfl ?_
    exact am_AW.weak (f_M_isJoined_b26_ok hd p0 x3 s0 x2 hp0 h) (by simp only [am_le, and_self])
set_option maxHeartbeats 4000000 in
set_option maxRecDepth 100000 in
theorem f_M_isJoined_ok {ro : am_Ro} {d : Nat} (hd : 3 ≤ d) (p0 : Nat) (x1 : Int32) (x2 : Int32) (hp0 : p0 = 67 ∨ p0 = 69) {m m' : am_Mm} {r : Int32} (h : f_M_isJoined p0 x1 x2 m = some (r, m')) : am_Mt am_nw ro d mr_M_isJoined [.ref p0, .int x1, .int x2] (S0, m) (some (.int r)) (S0, m') := by
  obtain ⟨d, rfl⟩ : ∃ d0, d = d0 + 1 := ⟨d - 1, by omega⟩
  refine am_Mt.of (by decide +kernel) (by decide) ?_
  change am_AW am_nw ro (d + 1) mr_M_isJoined 0 [some (.ref p0), some (.int x1), some (.int x2), none, none, none] [] (S0, m) (some (.int r)) (S0, m')
  unfold f_M_isJoined at h
  refine am_AW.run am_base_ok ok_M_isJoined (Nat.le_add_left 1 d) 2 (pc1 := 2) (ls1 := [some (.ref p0), some (.int x1), some (.int x2), none, none, none]) (st1 := [.int (0 : Int32), .ref p0]) (σ1 := (S0, m)) rfl ?_
  refine am_AW.iald ok_M_isJoined (Nat.le_add_left 1 d) S0_len rfl (sh_67_69_0 hp0) (by decide) ?_
  refine am_AW.run am_base_ok ok_M_isJoined (Nat.le_add_left 1 d) 3 (pc1 := 6) (ls1 := [some (.ref p0), some (.int x1), some (.int x2), some (.int (m.1 p0 0)), none, none]) (st1 := [.int x2, .int x1]) (σ1 := (S0, m)) rfl ?_
  refine am_AW.brP ok_M_isJoined rfl rfl am_c_ge (fun c2 => ?_) (fun c2 => ?_)
  · rw [if_pos c2] at h
    refine am_AW.run am_base_ok ok_M_isJoined (Nat.le_add_left 1 d) 1 (pc1 := 14) (ls1 := [some (.ref p0), some (.int x1), some (.int x2), some (.int (m.1 p0 0)), none, none]) (st1 := [.int x2]) (σ1 := (S0, m)) rfl ?_
    exact am_AW.weak (f_M_isJoined_b14_ok hd p0 x1 x2 (m.1 p0 0) x2 hp0 h) (by simp only [am_le, and_self])
  · rw [if_neg c2] at h
    refine am_AW.run am_base_ok ok_M_isJoined (Nat.le_add_left 1 d) 2 (pc1 := 14) (ls1 := [some (.ref p0), some (.int x1), some (.int x2), some (.int (m.1 p0 0)), none, none]) (st1 := [.int x1]) (σ1 := (S0, m)) rfl ?_
    exact am_AW.weak (f_M_isJoined_b14_ok hd p0 x1 x2 (m.1 p0 0) x1 hp0 h) (by simp only [am_le, and_self])
/-! FriezePolygonsModel.flipped([II)I -/
def f_M_flipped_b129 (k34 : Nat → Int32 → Int32 → Int32 → Int32 → Int32 → Int32 → Int32 → am_Mm → Option (Int32 × am_Mm)) (p0 : Nat) (x1 : Int32) (x2 : Int32) (x3 : Int32) (x4 : Int32) (x5 : Int32) (x7 : Int32) (s0 : Int32) (m : am_Mm) : Option (Int32 × am_Mm) :=
  k34 p0 x1 x2 x3 x4 x5 s0 (x7 + (1 : Int32)) m
def f_M_flipped_b104 (k34 : Nat → Int32 → Int32 → Int32 → Int32 → Int32 → Int32 → Int32 → am_Mm → Option (Int32 × am_Mm)) (p0 : Nat) (x1 : Int32) (x2 : Int32) (x3 : Int32) (x4 : Int32) (x6 : Int32) (x7 : Int32) (x8 : Int32) (s0 : Int32) (m : am_Mm) : Option (Int32 × am_Mm) :=
  if x8 = (0 : Int32) then
    f_M_flipped_b129 k34 p0 x1 x2 x3 x4 s0 x7 x6 m
  else
    (f_M_isBetween x7 x3 x4 m).bind fun q24 =>
    if q24.1 = (0 : Int32) then
      f_M_flipped_b129 k34 p0 x1 x2 x3 x4 s0 x7 x7 q24.2
    else
      f_M_flipped_b129 k34 p0 x1 x2 x3 x4 s0 x7 x6 q24.2
def f_M_flipped_b79 (k34 : Nat → Int32 → Int32 → Int32 → Int32 → Int32 → Int32 → Int32 → am_Mm → Option (Int32 × am_Mm)) (p0 : Nat) (x1 : Int32) (x2 : Int32) (x3 : Int32) (x4 : Int32) (x5 : Int32) (x6 : Int32) (x7 : Int32) (s0 : Int32) (m : am_Mm) : Option (Int32 × am_Mm) :=
  if s0 = (0 : Int32) then
    f_M_flipped_b104 k34 p0 x1 x2 x3 x4 x6 x7 s0 x5 m
  else
    (f_M_isBetween x7 x3 x4 m).bind fun q28 =>
    if q28.1 = (0 : Int32) then
      f_M_flipped_b104 k34 p0 x1 x2 x3 x4 x6 x7 s0 x5 q28.2
    else
      f_M_flipped_b104 k34 p0 x1 x2 x3 x4 x6 x7 s0 x7 q28.2
def f_M_flipped_b34 : Nat → Nat → Int32 → Int32 → Int32 → Int32 → Int32 → Int32 → Int32 → am_Mm → Option (Int32 × am_Mm)
  | 0, _, _, _, _, _, _, _, _, _ => none
  | n + 1, p0, x1, x2, x3, x4, x5, x6, x7, m =>
    if x2 ≤ x7 then
      if x5 = (-1000000 : Int32) then
        some ((-1000000 : Int32), m)
      else
        if x6 = (-1000000 : Int32) then
          some ((-1000000 : Int32), m)
        else
          (f_M_has (m.1 p0 1) x1 m).bind fun q14 =>
          if q14.1 = (0 : Int32) then
            some ((-1000000 : Int32), q14.2)
          else
            (f_M_numberOf x2 x5 x6 q14.2).bind fun q18 =>
            some (q18.1, q18.2)
    else
      if x7 = x3 then
        f_M_flipped_b79 (f_M_flipped_b34 n) p0 x1 x2 x3 x4 x5 x6 x7 (0 : Int32) m
      else
        if x7 = x4 then
          f_M_flipped_b79 (f_M_flipped_b34 n) p0 x1 x2 x3 x4 x5 x6 x7 (0 : Int32) m
        else
          (f_M_isJoined p0 x7 x3 m).bind fun q33 =>
          if q33.1 = (0 : Int32) then
            f_M_flipped_b79 (f_M_flipped_b34 n) p0 x1 x2 x3 x4 x5 x6 x7 (0 : Int32) q33.2
          else
            (f_M_isJoined p0 x7 x4 q33.2).bind fun q37 =>
            if q37.1 = (0 : Int32) then
              f_M_flipped_b79 (f_M_flipped_b34 n) p0 x1 x2 x3 x4 x5 x6 x7 (0 : Int32) q37.2
            else
              f_M_flipped_b79 (f_M_flipped_b34 n) p0 x1 x2 x3 x4 x5 x6 x7 (1 : Int32) q37.2
def f_M_flipped (p0 : Nat) (x1 : Int32) (m : am_Mm) : Option (Int32 × am_Mm) :=
  (f_M_endsOf (m.1 p0 0) x1 m).bind fun q4 =>
  (f_M_endsOf (m.1 p0 0) x1 q4.2).bind fun q7 =>
  f_M_flipped_b34 am_F p0 x1 (m.1 p0 0) (q4.1 / (10 : Int32)) (am_rem q7.1 (10 : Int32)) (-1000000 : Int32) (-1000000 : Int32) (0 : Int32) q7.2
set_option maxHeartbeats 4000000 in
set_option maxRecDepth 100000 in
theorem f_M_flipped_b129_ok {ro : am_Ro} {d : Nat} (hd : 4 ≤ d + 1) {k34 : Nat → Int32 → Int32 → Int32 → Int32 → Int32 → Int32 → Int32 → am_Mm → Option (Int32 × am_Mm)} (hk34 : ∀ (p0 : Nat) (x1 : Int32) (x2 : Int32) (x3 : Int32) (x4 : Int32) (x5 : Int32) (x6 : Int32) (x7 : Int32) (hp0 : p0 = 67 ∨ p0 = 69) (m m' : am_Mm) (r : Int32), k34 p0 x1 x2 x3 x4 x5 x6 x7 m = some (r, m') → am_AW am_nw ro (d + 1) mr_M_flipped 34 [some (.ref p0), some (.int x1), some (.int x2), some (.int x3), some (.int x4), some (.int x5), some (.int x6), some (.int x7), none] [] (S0, m) (some (.int r)) (S0, m')) (p0 : Nat) (x1 : Int32) (x2 : Int32) (x3 : Int32) (x4 : Int32) (x5 : Int32) (x7 : Int32) (s0 : Int32) (hp0 : p0 = 67 ∨ p0 = 69) {m m' : am_Mm} {r : Int32} (h : f_M_flipped_b129 k34 p0 x1 x2 x3 x4 x5 x7 s0 m = some (r, m')) : am_AW am_nw ro (d + 1) mr_M_flipped 129 [some (.ref p0), some (.int x1), some (.int x2), some (.int x3), some (.int x4), some (.int x5), none, some (.int x7), none] [.int s0] (S0, m) (some (.int r)) (S0, m') := by
  unfold f_M_flipped_b129 at h
  refine am_AW.run am_base_ok ok_M_flipped (Nat.le_add_left 1 d) 3 (pc1 := 34) (ls1 := [some (.ref p0), some (.int x1), some (.int x2), some (.int x3), some (.int x4), some (.int x5), some (.int s0), some (.int (x7 + (1 : Int32))), none]) (st1 := []) (σ1 := (S0, m)) rfl ?_
  exact am_AW.weak (hk34 p0 x1 x2 x3 x4 x5 s0 (x7 + (1 : Int32)) hp0 _ _ _ h) (by simp only [am_le, and_self])
set_option maxHeartbeats 4000000 in
set_option maxRecDepth 100000 in
theorem f_M_flipped_b104_ok {ro : am_Ro} {d : Nat} (hd : 4 ≤ d + 1) {k34 : Nat → Int32 → Int32 → Int32 → Int32 → Int32 → Int32 → Int32 → am_Mm → Option (Int32 × am_Mm)} (hk34 : ∀ (p0 : Nat) (x1 : Int32) (x2 : Int32) (x3 : Int32) (x4 : Int32) (x5 : Int32) (x6 : Int32) (x7 : Int32) (hp0 : p0 = 67 ∨ p0 = 69) (m m' : am_Mm) (r : Int32), k34 p0 x1 x2 x3 x4 x5 x6 x7 m = some (r, m') → am_AW am_nw ro (d + 1) mr_M_flipped 34 [some (.ref p0), some (.int x1), some (.int x2), some (.int x3), some (.int x4), some (.int x5), some (.int x6), some (.int x7), none] [] (S0, m) (some (.int r)) (S0, m')) (p0 : Nat) (x1 : Int32) (x2 : Int32) (x3 : Int32) (x4 : Int32) (x6 : Int32) (x7 : Int32) (x8 : Int32) (s0 : Int32) (hp0 : p0 = 67 ∨ p0 = 69) {m m' : am_Mm} {r : Int32} (h : f_M_flipped_b104 k34 p0 x1 x2 x3 x4 x6 x7 x8 s0 m = some (r, m')) : am_AW am_nw ro (d + 1) mr_M_flipped 104 [some (.ref p0), some (.int x1), some (.int x2), some (.int x3), some (.int x4), none, some (.int x6), some (.int x7), some (.int x8)] [.int s0] (S0, m) (some (.int r)) (S0, m') := by
  unfold f_M_flipped_b104 at h
  refine am_AW.run am_base_ok ok_M_flipped (Nat.le_add_left 1 d) 2 (pc1 := 108) (ls1 := [some (.ref p0), some (.int x1), some (.int x2), some (.int x3), some (.int x4), some (.int s0), some (.int x6), some (.int x7), some (.int x8)]) (st1 := [.int x8]) (σ1 := (S0, m)) rfl ?_
  refine am_AW.brP ok_M_flipped rfl rfl am_c_eq (fun c21 => ?_) (fun c21 => ?_)
  · rw [if_pos c21] at h
    refine am_AW.run am_base_ok ok_M_flipped (Nat.le_add_left 1 d) 1 (pc1 := 129) (ls1 := [some (.ref p0), some (.int x1), some (.int x2), some (.int x3), some (.int x4), some (.int s0), some (.int x6), some (.int x7), some (.int x8)]) (st1 := [.int x6]) (σ1 := (S0, m)) rfl ?_
    exact am_AW.weak (f_M_flipped_b129_ok hd (hk34) p0 x1 x2 x3 x4 s0 x7 x6 hp0 h) (by simp only [am_le, and_self])
  · rw [if_neg c21] at h
    refine am_AW.run am_base_ok ok_M_flipped (Nat.le_add_left 1 d) 3 (pc1 := 116) (ls1 := [some (.ref p0), some (.int x1), some (.int x2), some (.int x3), some (.int x4), some (.int s0), some (.int x6), some (.int x7), some (.int x8)]) (st1 := [.int x4, .int x3, .int x7]) (σ1 := (S0, m)) rfl ?_
    obtain ⟨q24, hq24, h⟩ := Option.bind_eq_some_iff.mp h
    refine am_AW.callS ok_M_flipped am_nw_ok (As := [.int x7, .int x3, .int x4]) (rest := []) rfl rfl rfl oR_M_isBetween lk_M_83 sT_M_isBetween rfl (by decide) (f_M_isBetween_ok (d := d) (by omega) x7 x3 x4 hq24) ?_
    change am_AW am_nw ro (d + 1) mr_M_flipped 119 [some (.ref p0), some (.int x1), some (.int x2), some (.int x3), some (.int x4), some (.int s0), some (.int x6), some (.int x7), some (.int x8)] [.int q24.1] (S0, q24.2) (some (.int r)) (S0, m')
    refine am_AW.brN ok_M_flipped rfl rfl am_c_ne (fun c25 => ?_) (fun c25 => ?_)
    · rw [if_pos c25] at h
      refine am_AW.run am_base_ok ok_M_flipped (Nat.le_add_left 1 d) 2 (pc1 := 129) (ls1 := [some (.ref p0), some (.int x1), some (.int x2), some (.int x3), some (.int x4), some (.int s0), some (.int x6), some (.int x7), some (.int x8)]) (st1 := [.int x7]) (σ1 := (S0, q24.2)) rfl ?_
      exact am_AW.weak (f_M_flipped_b129_ok hd (hk34) p0 x1 x2 x3 x4 s0 x7 x7 hp0 h) (by simp only [am_le, and_self])
    · rw [if_neg c25] at h
      refine am_AW.run am_base_ok ok_M_flipped (Nat.le_add_left 1 d) 1 (pc1 := 129) (ls1 := [some (.ref p0), some (.int x1), some (.int x2), some (.int x3), some (.int x4), some (.int s0), some (.int x6), some (.int x7), some (.int x8)]) (st1 := [.int x6]) (σ1 := (S0, q24.2)) rfl ?_
      exact am_AW.weak (f_M_flipped_b129_ok hd (hk34) p0 x1 x2 x3 x4 s0 x7 x6 hp0 h) (by simp only [am_le, and_self])
set_option maxHeartbeats 4000000 in
set_option maxRecDepth 100000 in
theorem f_M_flipped_b79_ok {ro : am_Ro} {d : Nat} (hd : 4 ≤ d + 1) {k34 : Nat → Int32 → Int32 → Int32 → Int32 → Int32 → Int32 → Int32 → am_Mm → Option (Int32 × am_Mm)} (hk34 : ∀ (p0 : Nat) (x1 : Int32) (x2 : Int32) (x3 : Int32) (x4 : Int32) (x5 : Int32) (x6 : Int32) (x7 : Int32) (hp0 : p0 = 67 ∨ p0 = 69) (m m' : am_Mm) (r : Int32), k34 p0 x1 x2 x3 x4 x5 x6 x7 m = some (r, m') → am_AW am_nw ro (d + 1) mr_M_flipped 34 [some (.ref p0), some (.int x1), some (.int x2), some (.int x3), some (.int x4), some (.int x5), some (.int x6), some (.int x7), none] [] (S0, m) (some (.int r)) (S0, m')) (p0 : Nat) (x1 : Int32) (x2 : Int32) (x3 : Int32) (x4 : Int32) (x5 : Int32) (x6 : Int32) (x7 : Int32) (s0 : Int32) (hp0 : p0 = 67 ∨ p0 = 69) {m m' : am_Mm} {r : Int32} (h : f_M_flipped_b79 k34 p0 x1 x2 x3 x4 x5 x6 x7 s0 m = some (r, m')) : am_AW am_nw ro (d + 1) mr_M_flipped 79 [some (.ref p0), some (.int x1), some (.int x2), some (.int x3), some (.int x4), some (.int x5), some (.int x6), some (.int x7), none] [.int s0] (S0, m) (some (.int r)) (S0, m') := by
  unfold f_M_flipped_b79 at h
  refine am_AW.run am_base_ok ok_M_flipped (Nat.le_add_left 1 d) 2 (pc1 := 83) (ls1 := [some (.ref p0), some (.int x1), some (.int x2), some (.int x3), some (.int x4), some (.int x5), some (.int x6), some (.int x7), some (.int s0)]) (st1 := [.int s0]) (σ1 := (S0, m)) rfl ?_
  refine am_AW.brP ok_M_flipped rfl rfl am_c_eq (fun c20 => ?_) (fun c20 => ?_)
  · rw [if_pos c20] at h
    refine am_AW.run am_base_ok ok_M_flipped (Nat.le_add_left 1 d) 1 (pc1 := 104) (ls1 := [some (.ref p0), some (.int x1), some (.int x2), some (.int x3), some (.int x4), some (.int x5), some (.int x6), some (.int x7), some (.int s0)]) (st1 := [.int x5]) (σ1 := (S0, m)) rfl ?_
    exact am_AW.weak (f_M_flipped_b104_ok hd (hk34) p0 x1 x2 x3 x4 x6 x7 s0 x5 hp0 h) (by simp only [am_le, and_self])
  · rw [if_neg c20] at h
    refine am_AW.run am_base_ok ok_M_flipped (Nat.le_add_left 1 d) 3 (pc1 := 91) (ls1 := [some (.ref p0), some (.int x1), some (.int x2), some (.int x3), some (.int x4), some (.int x5), some (.int x6), some (.int x7), some (.int s0)]) (st1 := [.int x4, .int x3, .int x7]) (σ1 := (S0, m)) rfl ?_
    obtain ⟨q28, hq28, h⟩ := Option.bind_eq_some_iff.mp h
    refine am_AW.callS ok_M_flipped am_nw_ok (As := [.int x7, .int x3, .int x4]) (rest := []) rfl rfl rfl oR_M_isBetween lk_M_83 sT_M_isBetween rfl (by decide) (f_M_isBetween_ok (d := d) (by omega) x7 x3 x4 hq28) ?_
    change am_AW am_nw ro (d + 1) mr_M_flipped 94 [some (.ref p0), some (.int x1), some (.int x2), some (.int x3), some (.int x4), some (.int x5), some (.int x6), some (.int x7), some (.int s0)] [.int q28.1] (S0, q28.2) (some (.int r)) (S0, m')
    refine am_AW.brP ok_M_flipped rfl rfl am_c_eq (fun c29 => ?_) (fun c29 => ?_)
    · rw [if_pos c29] at h
      refine am_AW.run am_base_ok ok_M_flipped (Nat.le_add_left 1 d) 1 (pc1 := 104) (ls1 := [some (.ref p0), some (.int x1), some (.int x2), some (.int x3), some (.int x4), some (.int x5), some (.int x6), some (.int x7), some (.int s0)]) (st1 := [.int x5]) (σ1 := (S0, q28.2)) rfl ?_
      exact am_AW.weak (f_M_flipped_b104_ok hd (hk34) p0 x1 x2 x3 x4 x6 x7 s0 x5 hp0 h) (by simp only [am_le, and_self])
    · rw [if_neg c29] at h
      refine am_AW.run am_base_ok ok_M_flipped (Nat.le_add_left 1 d) 2 (pc1 := 104) (ls1 := [some (.ref p0), some (.int x1), some (.int x2), some (.int x3), some (.int x4), some (.int x5), some (.int x6), some (.int x7), some (.int s0)]) (st1 := [.int x7]) (σ1 := (S0, q28.2)) rfl ?_
      exact am_AW.weak (f_M_flipped_b104_ok hd (hk34) p0 x1 x2 x3 x4 x6 x7 s0 x7 hp0 h) (by simp only [am_le, and_self])
set_option maxHeartbeats 4000000 in
set_option maxRecDepth 100000 in
theorem f_M_flipped_b34_all {ro : am_Ro} {d : Nat} (hd : 4 ≤ d + 1) : ∀ (n : Nat) (p0 : Nat) (x1 : Int32) (x2 : Int32) (x3 : Int32) (x4 : Int32) (x5 : Int32) (x6 : Int32) (x7 : Int32) (hp0 : p0 = 67 ∨ p0 = 69) (m m' : am_Mm) (r : Int32), f_M_flipped_b34 n p0 x1 x2 x3 x4 x5 x6 x7 m = some (r, m') → am_AW am_nw ro (d + 1) mr_M_flipped 34 [some (.ref p0), some (.int x1), some (.int x2), some (.int x3), some (.int x4), some (.int x5), some (.int x6), some (.int x7), none] [] (S0, m) (some (.int r)) (S0, m') := by
  intro n
  induction n with
  | zero =>
    intro p0 x1 x2 x3 x4 x5 x6 x7 hp0 m m' r h
    rw [f_M_flipped_b34] at h
    cases h
  | succ n ih =>
    intro p0 x1 x2 x3 x4 x5 x6 x7 hp0 m m' r h
    rw [f_M_flipped_b34] at h
    refine am_AW.run am_base_ok ok_M_flipped (Nat.le_add_left 1 d) 2 (pc1 := 37) (ls1 := [some (.ref p0), some (.int x1), some (.int x2), some (.int x3), some (.int x4), some (.int x5), some (.int x6), some (.int x7), none]) (st1 := [.int x2, .int x7]) (σ1 := (S0, m)) rfl ?_
    refine am_AW.brP ok_M_flipped rfl rfl am_c_ge (fun c8 => ?_) (fun c8 => ?_)
    · rw [if_pos c8] at h
      refine am_AW.run am_base_ok ok_M_flipped (Nat.le_add_left 1 d) 2 (pc1 := 141) (ls1 := [some (.ref p0), some (.int x1), some (.int x2), some (.int x3), some (.int x4), some (.int x5), some (.int x6), some (.int x7), none]) (st1 := [.int (-1000000 : Int32), .int x5]) (σ1 := (S0, m)) rfl ?_
      refine am_AW.brP ok_M_flipped rfl rfl am_c_eq (fun c9 => ?_) (fun c9 => ?_)
      · rw [if_pos c9] at h
        refine am_AW.run am_base_ok ok_M_flipped (Nat.le_add_left 1 d) 2 (pc1 := 174) (ls1 := [some (.ref p0), some (.int x1), some (.int x2), some (.int x3), some (.int x4), some (.int x5), some (.int x6), some (.int x7), none]) (st1 := [.int (-1000000 : Int32)]) (σ1 := (S0, m)) rfl ?_
        cases h
        exact am_AW.ret ok_M_flipped rfl rfl rfl rfl
      · rw [if_neg c9] at h
        refine am_AW.run am_base_ok ok_M_flipped (Nat.le_add_left 1 d) 2 (pc1 := 148) (ls1 := [some (.ref p0), some (.int x1), some (.int x2), some (.int x3), some (.int x4), some (.int x5), some (.int x6), some (.int x7), none]) (st1 := [.int (-1000000 : Int32), .int x6]) (σ1 := (S0, m)) rfl ?_
        refine am_AW.brP ok_M_flipped rfl rfl am_c_eq (fun c10 => ?_) (fun c10 => ?_)
        · rw [if_pos c10] at h
          refine am_AW.run am_base_ok ok_M_flipped (Nat.le_add_left 1 d) 2 (pc1 := 174) (ls1 := [some (.ref p0), some (.int x1), some (.int x2), some (.int x3), some (.int x4), some (.int x5), some (.int x6), some (.int x7), none]) (st1 := [.int (-1000000 : Int32)]) (σ1 := (S0, m)) rfl ?_
          cases h
          exact am_AW.ret ok_M_flipped rfl rfl rfl rfl
        · rw [if_neg c10] at h
          refine am_AW.run am_base_ok ok_M_flipped (Nat.le_add_left 1 d) 2 (pc1 := 153) (ls1 := [some (.ref p0), some (.int x1), some (.int x2), some (.int x3), some (.int x4), some (.int x5), some (.int x6), some (.int x7), none]) (st1 := [.int (1 : Int32), .ref p0]) (σ1 := (S0, m)) rfl ?_
          refine am_AW.iald ok_M_flipped (Nat.le_add_left 1 d) S0_len rfl (sh_67_69_0 hp0) (by decide) ?_
          refine am_AW.run am_base_ok ok_M_flipped (Nat.le_add_left 1 d) 1 (pc1 := 155) (ls1 := [some (.ref p0), some (.int x1), some (.int x2), some (.int x3), some (.int x4), some (.int x5), some (.int x6), some (.int x7), none]) (st1 := [.int x1, .int (m.1 p0 1)]) (σ1 := (S0, m)) rfl ?_
          obtain ⟨q14, hq14, h⟩ := Option.bind_eq_some_iff.mp h
          refine am_AW.callS ok_M_flipped am_nw_ok (As := [.int (m.1 p0 1), .int x1]) (rest := []) rfl rfl rfl oR_M_has lk_M_75 sT_M_has rfl (by decide) (f_M_has_ok (d := d) (by omega) (m.1 p0 1) x1 hq14) ?_
          change am_AW am_nw ro (d + 1) mr_M_flipped 158 [some (.ref p0), some (.int x1), some (.int x2), some (.int x3), some (.int x4), some (.int x5), some (.int x6), some (.int x7), none] [.int q14.1] (S0, q14.2) (some (.int r)) (S0, m')
          refine am_AW.brN ok_M_flipped rfl rfl am_c_ne (fun c15 => ?_) (fun c15 => ?_)
          · rw [if_pos c15] at h
            refine am_AW.run am_base_ok ok_M_flipped (Nat.le_add_left 1 d) 2 (pc1 := 174) (ls1 := [some (.ref p0), some (.int x1), some (.int x2), some (.int x3), some (.int x4), some (.int x5), some (.int x6), some (.int x7), none]) (st1 := [.int (-1000000 : Int32)]) (σ1 := (S0, q14.2)) rfl ?_
            cases h
            exact am_AW.ret ok_M_flipped rfl rfl rfl rfl
          · rw [if_neg c15] at h
            refine am_AW.run am_base_ok ok_M_flipped (Nat.le_add_left 1 d) 3 (pc1 := 171) (ls1 := [some (.ref p0), some (.int x1), some (.int x2), some (.int x3), some (.int x4), some (.int x5), some (.int x6), some (.int x7), none]) (st1 := [.int x6, .int x5, .int x2]) (σ1 := (S0, q14.2)) rfl ?_
            obtain ⟨q18, hq18, h⟩ := Option.bind_eq_some_iff.mp h
            refine am_AW.callS ok_M_flipped am_nw_ok (As := [.int x2, .int x5, .int x6]) (rest := []) rfl rfl rfl oR_M_numberOf lk_M_96 sT_M_numberOf rfl (by decide) (f_M_numberOf_ok (d := d) (by omega) x2 x5 x6 hq18) ?_
            change am_AW am_nw ro (d + 1) mr_M_flipped 174 [some (.ref p0), some (.int x1), some (.int x2), some (.int x3), some (.int x4), some (.int x5), some (.int x6), some (.int x7), none] [.int q18.1] (S0, q18.2) (some (.int r)) (S0, m')
            cases h
            exact am_AW.ret ok_M_flipped rfl rfl rfl rfl
    · rw [if_neg c8] at h
      refine am_AW.run am_base_ok ok_M_flipped (Nat.le_add_left 1 d) 2 (pc1 := 43) (ls1 := [some (.ref p0), some (.int x1), some (.int x2), some (.int x3), some (.int x4), some (.int x5), some (.int x6), some (.int x7), none]) (st1 := [.int x3, .int x7]) (σ1 := (S0, m)) rfl ?_
      refine am_AW.brP ok_M_flipped rfl rfl am_c_eq (fun c19 => ?_) (fun c19 => ?_)
      · rw [if_pos c19] at h
        refine am_AW.run am_base_ok ok_M_flipped (Nat.le_add_left 1 d) 1 (pc1 := 79) (ls1 := [some (.ref p0), some (.int x1), some (.int x2), some (.int x3), some (.int x4), some (.int x5), some (.int x6), some (.int x7), none]) (st1 := [.int (0 : Int32)]) (σ1 := (S0, m)) rfl ?_
        exact am_AW.weak (f_M_flipped_b79_ok hd (ih) p0 x1 x2 x3 x4 x5 x6 x7 (0 : Int32) hp0 h) (by simp only [am_le, and_self])
      · rw [if_neg c19] at h
        refine am_AW.run am_base_ok ok_M_flipped (Nat.le_add_left 1 d) 2 (pc1 := 50) (ls1 := [some (.ref p0), some (.int x1), some (.int x2), some (.int x3), some (.int x4), some (.int x5), some (.int x6), some (.int x7), none]) (st1 := [.int x4, .int x7]) (σ1 := (S0, m)) rfl ?_
        refine am_AW.brP ok_M_flipped rfl rfl am_c_eq (fun c30 => ?_) (fun c30 => ?_)
        · rw [if_pos c30] at h
          refine am_AW.run am_base_ok ok_M_flipped (Nat.le_add_left 1 d) 1 (pc1 := 79) (ls1 := [some (.ref p0), some (.int x1), some (.int x2), some (.int x3), some (.int x4), some (.int x5), some (.int x6), some (.int x7), none]) (st1 := [.int (0 : Int32)]) (σ1 := (S0, m)) rfl ?_
          exact am_AW.weak (f_M_flipped_b79_ok hd (ih) p0 x1 x2 x3 x4 x5 x6 x7 (0 : Int32) hp0 h) (by simp only [am_le, and_self])
        · rw [if_neg c30] at h
          refine am_AW.run am_base_ok ok_M_flipped (Nat.le_add_left 1 d) 3 (pc1 := 57) (ls1 := [some (.ref p0), some (.int x1), some (.int x2), some (.int x3), some (.int x4), some (.int x5), some (.int x6), some (.int x7), none]) (st1 := [.int x3, .int x7, .ref p0]) (σ1 := (S0, m)) rfl ?_
          obtain ⟨q33, hq33, h⟩ := Option.bind_eq_some_iff.mp h
          refine am_AW.callS ok_M_flipped am_nw_ok (As := [.ref p0, .int x7, .int x3]) (rest := []) rfl rfl rfl oR_M_isJoined lk_M_101 sT_M_isJoined rfl (by decide) (f_M_isJoined_ok (d := d) (by omega) p0 x7 x3 hp0 hq33) ?_
          change am_AW am_nw ro (d + 1) mr_M_flipped 60 [some (.ref p0), some (.int x1), some (.int x2), some (.int x3), some (.int x4), some (.int x5), some (.int x6), some (.int x7), none] [.int q33.1] (S0, q33.2) (some (.int r)) (S0, m')
          refine am_AW.brP ok_M_flipped rfl rfl am_c_eq (fun c34 => ?_) (fun c34 => ?_)
          · rw [if_pos c34] at h
            refine am_AW.run am_base_ok ok_M_flipped (Nat.le_add_left 1 d) 1 (pc1 := 79) (ls1 := [some (.ref p0), some (.int x1), some (.int x2), some (.int x3), some (.int x4), some (.int x5), some (.int x6), some (.int x7), none]) (st1 := [.int (0 : Int32)]) (σ1 := (S0, q33.2)) rfl ?_
            exact am_AW.weak (f_M_flipped_b79_ok hd (ih) p0 x1 x2 x3 x4 x5 x6 x7 (0 : Int32) hp0 h) (by simp only [am_le, and_self])
          · rw [if_neg c34] at h
            refine am_AW.run am_base_ok ok_M_flipped (Nat.le_add_left 1 d) 3 (pc1 := 68) (ls1 := [some (.ref p0), some (.int x1), some (.int x2), some (.int x3), some (.int x4), some (.int x5), some (.int x6), some (.int x7), none]) (st1 := [.int x4, .int x7, .ref p0]) (σ1 := (S0, q33.2)) rfl ?_
            obtain ⟨q37, hq37, h⟩ := Option.bind_eq_some_iff.mp h
            refine am_AW.callS ok_M_flipped am_nw_ok (As := [.ref p0, .int x7, .int x4]) (rest := []) rfl rfl rfl oR_M_isJoined lk_M_101 sT_M_isJoined rfl (by decide) (f_M_isJoined_ok (d := d) (by omega) p0 x7 x4 hp0 hq37) ?_
            change am_AW am_nw ro (d + 1) mr_M_flipped 71 [some (.ref p0), some (.int x1), some (.int x2), some (.int x3), some (.int x4), some (.int x5), some (.int x6), some (.int x7), none] [.int q37.1] (S0, q37.2) (some (.int r)) (S0, m')
            refine am_AW.brP ok_M_flipped rfl rfl am_c_eq (fun c38 => ?_) (fun c38 => ?_)
            · rw [if_pos c38] at h
              refine am_AW.run am_base_ok ok_M_flipped (Nat.le_add_left 1 d) 1 (pc1 := 79) (ls1 := [some (.ref p0), some (.int x1), some (.int x2), some (.int x3), some (.int x4), some (.int x5), some (.int x6), some (.int x7), none]) (st1 := [.int (0 : Int32)]) (σ1 := (S0, q37.2)) rfl ?_
              exact am_AW.weak (f_M_flipped_b79_ok hd (ih) p0 x1 x2 x3 x4 x5 x6 x7 (0 : Int32) hp0 h) (by simp only [am_le, and_self])
            · rw [if_neg c38] at h
              refine am_AW.run am_base_ok ok_M_flipped (Nat.le_add_left 1 d) 2 (pc1 := 79) (ls1 := [some (.ref p0), some (.int x1), some (.int x2), some (.int x3), some (.int x4), some (.int x5), some (.int x6), some (.int x7), none]) (st1 := [.int (1 : Int32)]) (σ1 := (S0, q37.2)) rfl ?_
              exact am_AW.weak (f_M_flipped_b79_ok hd (ih) p0 x1 x2 x3 x4 x5 x6 x7 (1 : Int32) hp0 h) (by simp only [am_le, and_self])
set_option maxHeartbeats 4000000 in
set_option maxRecDepth 100000 in
theorem f_M_flipped_b34_ok {ro : am_Ro} {d : Nat} (hd : 4 ≤ d + 1) (p0 : Nat) (x1 : Int32) (x2 : Int32) (x3 : Int32) (x4 : Int32) (x5 : Int32) (x6 : Int32) (x7 : Int32) (hp0 : p0 = 67 ∨ p0 = 69) {m m' : am_Mm} {r : Int32} {n : Nat} (h : f_M_flipped_b34 n p0 x1 x2 x3 x4 x5 x6 x7 m = some (r, m')) : am_AW am_nw ro (d + 1) mr_M_flipped 34 [some (.ref p0), some (.int x1), some (.int x2), some (.int x3), some (.int x4), some (.int x5), some (.int x6), some (.int x7), none] [] (S0, m) (some (.int r)) (S0, m') :=
  f_M_flipped_b34_all hd n p0 x1 x2 x3 x4 x5 x6 x7 hp0 m m' r h
set_option maxHeartbeats 4000000 in
set_option maxRecDepth 100000 in
theorem f_M_flipped_ok {ro : am_Ro} {d : Nat} (hd : 4 ≤ d) (p0 : Nat) (x1 : Int32) (hp0 : p0 = 67 ∨ p0 = 69) {m m' : am_Mm} {r : Int32} (h : f_M_flipped p0 x1 m = some (r, m')) : am_Mt am_nw ro d mr_M_flipped [.ref p0, .int x1] (S0, m) (some (.int r)) (S0, m') := by
  obtain ⟨d, rfl⟩ : ∃ d0, d = d0 + 1 := ⟨d - 1, by omega⟩
  refine am_Mt.of (by decide +kernel) (by decide) ?_
  change am_AW am_nw ro (d + 1) mr_M_flipped 0 [some (.ref p0), some (.int x1), none, none, none, none, none, none, none] [] (S0, m) (some (.int r)) (S0, m')
  unfold f_M_flipped at h
  refine am_AW.run am_base_ok ok_M_flipped (Nat.le_add_left 1 d) 2 (pc1 := 2) (ls1 := [some (.ref p0), some (.int x1), none, none, none, none, none, none, none]) (st1 := [.int (0 : Int32), .ref p0]) (σ1 := (S0, m)) rfl ?_
  refine am_AW.iald ok_M_flipped (Nat.le_add_left 1 d) S0_len rfl (sh_67_69_0 hp0) (by decide) ?_
  refine am_AW.run am_base_ok ok_M_flipped (Nat.le_add_left 1 d) 3 (pc1 := 6) (ls1 := [some (.ref p0), some (.int x1), some (.int (m.1 p0 0)), none, none, none, none, none, none]) (st1 := [.int x1, .int (m.1 p0 0)]) (σ1 := (S0, m)) rfl ?_
  obtain ⟨q4, hq4, h⟩ := Option.bind_eq_some_iff.mp h
  refine am_AW.callS ok_M_flipped am_nw_ok (As := [.int (m.1 p0 0), .int x1]) (rest := []) rfl rfl rfl oR_M_endsOf lk_M_90 sT_M_endsOf rfl (by decide) (f_M_endsOf_ok (d := d) (by omega) (m.1 p0 0) x1 hq4) ?_
  change am_AW am_nw ro (d + 1) mr_M_flipped 9 [some (.ref p0), some (.int x1), some (.int (m.1 p0 0)), none, none, none, none, none, none] [.int q4.1] (S0, q4.2) (some (.int r)) (S0, m')
  refine am_AW.run am_base_ok ok_M_flipped (Nat.le_add_left 1 d) 1 (pc1 := 11) (ls1 := [some (.ref p0), some (.int x1), some (.int (m.1 p0 0)), none, none, none, none, none, none]) (st1 := []) (σ1 := (S0, q4.2)) rfl ?_
  refine am_AW.dvi ok_M_flipped (Nat.le_add_left 1 d) (w := (q4.1 / (10 : Int32))) (Or.inl ⟨rfl, rfl⟩) rfl (by decide) ?_
  refine am_AW.run am_base_ok ok_M_flipped (Nat.le_add_left 1 d) 3 (pc1 := 15) (ls1 := [some (.ref p0), some (.int x1), some (.int (m.1 p0 0)), some (.int (q4.1 / (10 : Int32))), none, none, none, none, none]) (st1 := [.int x1, .int (m.1 p0 0)]) (σ1 := (S0, q4.2)) rfl ?_
  obtain ⟨q7, hq7, h⟩ := Option.bind_eq_some_iff.mp h
  refine am_AW.callS ok_M_flipped am_nw_ok (As := [.int (m.1 p0 0), .int x1]) (rest := []) rfl rfl rfl oR_M_endsOf lk_M_90 sT_M_endsOf rfl (by decide) (f_M_endsOf_ok (d := d) (by omega) (m.1 p0 0) x1 hq7) ?_
  change am_AW am_nw ro (d + 1) mr_M_flipped 18 [some (.ref p0), some (.int x1), some (.int (m.1 p0 0)), some (.int (q4.1 / (10 : Int32))), none, none, none, none, none] [.int q7.1] (S0, q7.2) (some (.int r)) (S0, m')
  refine am_AW.run am_base_ok ok_M_flipped (Nat.le_add_left 1 d) 1 (pc1 := 20) (ls1 := [some (.ref p0), some (.int x1), some (.int (m.1 p0 0)), some (.int (q4.1 / (10 : Int32))), none, none, none, none, none]) (st1 := []) (σ1 := (S0, q7.2)) rfl ?_
  refine am_AW.dvi ok_M_flipped (Nat.le_add_left 1 d) (w := (am_rem q7.1 (10 : Int32))) (Or.inr ⟨rfl, rfl⟩) rfl (by decide) ?_
  refine am_AW.run am_base_ok ok_M_flipped (Nat.le_add_left 1 d) 7 (pc1 := 34) (ls1 := [some (.ref p0), some (.int x1), some (.int (m.1 p0 0)), some (.int (q4.1 / (10 : Int32))), some (.int (am_rem q7.1 (10 : Int32))), some (.int (-1000000 : Int32)), some (.int (-1000000 : Int32)), some (.int (0 : Int32)), none]) (st1 := []) (σ1 := (S0, q7.2)) rfl ?_
  exact am_AW.weak (f_M_flipped_b34_ok hd p0 x1 (m.1 p0 0) (q4.1 / (10 : Int32)) (am_rem q7.1 (10 : Int32)) (-1000000 : Int32) (-1000000 : Int32) (0 : Int32) hp0 h) (by simp only [am_le, and_self])
