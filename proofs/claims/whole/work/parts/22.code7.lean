/-! FriezePolygons$Ring.waysToTriangles(I)I -/
def f_Ring_waysToTriangles_b63 (ro : am_Ro) (k23 : Int32 → Int32 → Int32 → am_Mm → Option (Int32 × am_Mm)) (x1 : Int32) (x2 : Int32) (x3 : Int32) (m : am_Mm) : Option (Int32 × am_Mm) :=
  k23 x1 x2 (x3 + (1 : Int32)) m
def f_Ring_waysToTriangles_b23 (ro : am_Ro) : Nat → Int32 → Int32 → Int32 → am_Mm → Option (Int32 × am_Mm)
  | 0, _, _, _, _ => none
  | n + 1, x1, x2, x3, m =>
    if (m.1 20 6) ≤ x3 then
      some (x2, m)
    else
      if ((am_shr x1 x3) &&& (1 : Int32)) = (1 : Int32) then
        if am_in x3 27 = true then
          if am_in x3 27 = true then
            (f_Ring_sizeUnder (m.1 21 x3.toNatClampNeg) (m.1 22 x3.toNatClampNeg) m).bind fun q14 =>
            if am_in q14.1 (ro 0).1 = true then
              f_Ring_waysToTriangles_b63 ro (f_Ring_waysToTriangles_b23 ro n) x1 (x2 * ((ro 0).2 q14.1.toNatClampNeg)) x3 q14.2
            else none
          else none
        else none
      else
        f_Ring_waysToTriangles_b63 ro (f_Ring_waysToTriangles_b23 ro n) x1 x2 x3 m
def f_Ring_waysToTriangles (ro : am_Ro) (x1 : Int32) (m : am_Mm) : Option (Int32 × am_Mm) :=
  (f_Ring_joinCorners x1 m).bind fun q3 =>
  (f_Ring_sizeUnder (0 : Int32) ((q3.1 20 5) - (1 : Int32)) q3).bind fun q6 =>
  if am_in q6.1 (ro 0).1 = true then
    f_Ring_waysToTriangles_b23 ro am_F x1 ((ro 0).2 q6.1.toNatClampNeg) (0 : Int32) q6.2
  else none
set_option maxHeartbeats 4000000 in
set_option maxRecDepth 100000 in
theorem f_Ring_waysToTriangles_b63_ok {ro : am_Ro} {d : Nat} (hd : 4 ≤ d + 1) {k23 : Int32 → Int32 → Int32 → am_Mm → Option (Int32 × am_Mm)} (hk23 : ∀ (x1 : Int32) (x2 : Int32) (x3 : Int32) (m m' : am_Mm) (r : Int32), k23 x1 x2 x3 m = some (r, m') → am_AW am_nw ro (d + 1) mr_Ring_waysToTriangles 23 [some (.ref 20), some (.int x1), some (.int x2), some (.int x3)] [] (S0, m) (some (.int r)) (S0, m')) (x1 : Int32) (x2 : Int32) (x3 : Int32) {m m' : am_Mm} {r : Int32} (h : f_Ring_waysToTriangles_b63 ro k23 x1 x2 x3 m = some (r, m')) : am_AW am_nw ro (d + 1) mr_Ring_waysToTriangles 63 [some (.ref 20), some (.int x1), some (.int x2), some (.int x3)] [] (S0, m) (some (.int r)) (S0, m') := by
  unfold f_Ring_waysToTriangles_b63 at h
  refine am_AW.run am_base_ok ok_Ring_waysToTriangles (Nat.le_add_left 1 d) 2 (pc1 := 23) (ls1 := [some (.ref 20), some (.int x1), some (.int x2), some (.int (x3 + (1 : Int32)))]) (st1 := []) (σ1 := (S0, m)) rfl ?_
  exact am_AW.weak (hk23 x1 x2 (x3 + (1 : Int32))  _ _ _ h) (by simp only [am_le, and_self])
set_option maxHeartbeats 4000000 in
set_option maxRecDepth 100000 in
theorem f_Ring_waysToTriangles_b23_all {ro : am_Ro} {d : Nat} (hd : 4 ≤ d + 1) : ∀ (n : Nat) (x1 : Int32) (x2 : Int32) (x3 : Int32) (m m' : am_Mm) (r : Int32), f_Ring_waysToTriangles_b23 ro n x1 x2 x3 m = some (r, m') → am_AW am_nw ro (d + 1) mr_Ring_waysToTriangles 23 [some (.ref 20), some (.int x1), some (.int x2), some (.int x3)] [] (S0, m) (some (.int r)) (S0, m') := by
  intro n
  induction n with
  | zero =>
    intro x1 x2 x3 m m' r h
    rw [f_Ring_waysToTriangles_b23] at h
    cases h
  | succ n ih =>
    intro x1 x2 x3 m m' r h
    rw [f_Ring_waysToTriangles_b23] at h
    refine am_AW.run am_base_ok ok_Ring_waysToTriangles (Nat.le_add_left 1 d) 3 (pc1 := 28) (ls1 := [some (.ref 20), some (.int x1), some (.int x2), some (.int x3)]) (st1 := [.int (m.1 20 6), .int x3]) (σ1 := (S0, m)) rfl ?_
    refine am_AW.brP ok_Ring_waysToTriangles rfl rfl am_c_ge (fun c8 => ?_) (fun c8 => ?_)
    · rw [if_pos c8] at h
      refine am_AW.run am_base_ok ok_Ring_waysToTriangles (Nat.le_add_left 1 d) 1 (pc1 := 70) (ls1 := [some (.ref 20), some (.int x1), some (.int x2), some (.int x3)]) (st1 := [.int x2]) (σ1 := (S0, m)) rfl ?_
      obtain ⟨rfl, rfl⟩ := Prod.mk.inj (Option.some.inj h)
      exact am_AW.ret ok_Ring_waysToTriangles rfl rfl rfl rfl
    · rw [if_neg c8] at h
      refine am_AW.run am_base_ok ok_Ring_waysToTriangles (Nat.le_add_left 1 d) 6 (pc1 := 37) (ls1 := [some (.ref 20), some (.int x1), some (.int x2), some (.int x3)]) (st1 := [.int (1 : Int32), .int ((am_shr x1 x3) &&& (1 : Int32))]) (σ1 := (S0, m)) rfl ?_
      refine am_AW.brN ok_Ring_waysToTriangles rfl rfl am_c_ne (fun c9 => ?_) (fun c9 => ?_)
      · rw [if_pos c9] at h
        refine am_AW.run am_base_ok ok_Ring_waysToTriangles (Nat.le_add_left 1 d) 6 (pc1 := 50) (ls1 := [some (.ref 20), some (.int x1), some (.int x2), some (.int x3)]) (st1 := [.int x3, .ref 21, .ref 20, .ref (am_rB + 0), .int x2]) (σ1 := (S0, m)) rfl ?_
        by_cases g10 : am_in x3 27 = true
        rotate_left
        · rw [if_neg g10] at h
          cases h
        rw [if_pos g10] at h
        refine am_AW.iald ok_Ring_waysToTriangles (Nat.le_add_left 1 d) S0_len rfl rfl g10 ?_
        refine am_AW.run am_base_ok ok_Ring_waysToTriangles (Nat.le_add_left 1 d) 3 (pc1 := 56) (ls1 := [some (.ref 20), some (.int x1), some (.int x2), some (.int x3)]) (st1 := [.int x3, .ref 22, .int (m.1 21 x3.toNatClampNeg), .ref 20, .ref (am_rB + 0), .int x2]) (σ1 := (S0, m)) rfl ?_
        by_cases g11 : am_in x3 27 = true
        rotate_left
        · rw [if_neg g11] at h
          cases h
        rw [if_pos g11] at h
        refine am_AW.iald ok_Ring_waysToTriangles (Nat.le_add_left 1 d) S0_len rfl rfl g11 ?_
        obtain ⟨q14, hq14, h⟩ := Option.bind_eq_some_iff.mp h
        refine am_AW.callV ok_Ring_waysToTriangles am_nw_ok (As := [.int (m.1 21 x3.toNatClampNeg), .int (m.1 22 x3.toNatClampNeg)]) (rest := [.ref (am_rB + 0), .int x2]) rfl rfl rfl oR_Ring_sizeUnder lk_Ring_89 iM_Ring_sizeUnder sE_Ring_sizeUnder (qc := kq6) rfl rfl rfl rfl (Nat.le_of_ble_eq_true rfl) (f_Ring_sizeUnder_ok (d := d) (by omega) (m.1 21 x3.toNatClampNeg) (m.1 22 x3.toNatClampNeg) hq14) ?_
        change am_AW am_nw ro (d + 1) mr_Ring_waysToTriangles 60 [some (.ref 20), some (.int x1), some (.int x2), some (.int x3)] [.int q14.1, .ref (am_rB + 0), .int x2] (S0, q14.2) (some (.int r)) (S0, m')
        by_cases g15 : am_in q14.1 (ro 0).1 = true
        rotate_left
        · rw [if_neg g15] at h
          cases h
        rw [if_pos g15] at h
        refine am_AW.rold ok_Ring_waysToTriangles (Nat.le_add_left 1 d) (j := 0) (by decide) rfl g15 ?_
        refine am_AW.run am_base_ok ok_Ring_waysToTriangles (Nat.le_add_left 1 d) 2 (pc1 := 63) (ls1 := [some (.ref 20), some (.int x1), some (.int (x2 * ((ro 0).2 q14.1.toNatClampNeg))), some (.int x3)]) (st1 := []) (σ1 := (S0, q14.2)) rfl ?_
        exact am_AW.weak (f_Ring_waysToTriangles_b63_ok hd (ih) x1 (x2 * ((ro 0).2 q14.1.toNatClampNeg)) x3  h) (by simp only [am_le, and_self])
      · rw [if_neg c9] at h
        exact am_AW.weak (f_Ring_waysToTriangles_b63_ok hd (ih) x1 x2 x3  h) (by simp only [am_le, and_self])
set_option maxHeartbeats 4000000 in
set_option maxRecDepth 100000 in
theorem f_Ring_waysToTriangles_b23_ok {ro : am_Ro} {d : Nat} (hd : 4 ≤ d + 1) (x1 : Int32) (x2 : Int32) (x3 : Int32) {m m' : am_Mm} {r : Int32} {n : Nat} (h : f_Ring_waysToTriangles_b23 ro n x1 x2 x3 m = some (r, m')) : am_AW am_nw ro (d + 1) mr_Ring_waysToTriangles 23 [some (.ref 20), some (.int x1), some (.int x2), some (.int x3)] [] (S0, m) (some (.int r)) (S0, m') :=
  f_Ring_waysToTriangles_b23_all hd n x1 x2 x3  m m' r h
set_option maxHeartbeats 4000000 in
set_option maxRecDepth 100000 in
theorem f_Ring_waysToTriangles_ok {ro : am_Ro} {d : Nat} (hd : 4 ≤ d) (x1 : Int32) {m m' : am_Mm} {r : Int32} (h : f_Ring_waysToTriangles ro x1 m = some (r, m')) : am_Mt am_nw ro d mr_Ring_waysToTriangles [.ref 20, .int x1] (S0, m) (some (.int r)) (S0, m') := by
  obtain ⟨d, rfl⟩ : ∃ d0, d = d0 + 1 := ⟨d - 1, by omega⟩
  refine am_Mt.of (by decide +kernel) (Nat.le_of_ble_eq_true rfl) ?_
  change am_AW am_nw ro (d + 1) mr_Ring_waysToTriangles 0 [some (.ref 20), some (.int x1), none, none] [] (S0, m) (some (.int r)) (S0, m')
  unfold f_Ring_waysToTriangles at h
  refine am_AW.run am_base_ok ok_Ring_waysToTriangles (Nat.le_add_left 1 d) 2 (pc1 := 2) (ls1 := [some (.ref 20), some (.int x1), none, none]) (st1 := [.int x1, .ref 20]) (σ1 := (S0, m)) rfl ?_
  obtain ⟨q3, hq3, h⟩ := Option.bind_eq_some_iff.mp h
  refine am_AW.callV ok_Ring_waysToTriangles am_nw_ok (As := [.int x1]) (rest := []) rfl rfl rfl oR_Ring_joinCorners lk_Ring_76 iM_Ring_joinCorners sE_Ring_joinCorners (qc := kq6) rfl rfl rfl rfl (Nat.le_of_ble_eq_true rfl) (f_Ring_joinCorners_ok (d := d) (by omega) x1 hq3) ?_
  change am_AW am_nw ro (d + 1) mr_Ring_waysToTriangles 5 [some (.ref 20), some (.int x1), none, none] [] (S0, q3) (some (.int r)) (S0, m')
  refine am_AW.run am_base_ok ok_Ring_waysToTriangles (Nat.le_add_left 1 d) 7 (pc1 := 16) (ls1 := [some (.ref 20), some (.int x1), none, none]) (st1 := [.int ((q3.1 20 5) - (1 : Int32)), .int (0 : Int32), .ref 20, .ref (am_rB + 0)]) (σ1 := (S0, q3)) rfl ?_
  obtain ⟨q6, hq6, h⟩ := Option.bind_eq_some_iff.mp h
  refine am_AW.callV ok_Ring_waysToTriangles am_nw_ok (As := [.int (0 : Int32), .int ((q3.1 20 5) - (1 : Int32))]) (rest := [.ref (am_rB + 0)]) rfl rfl rfl oR_Ring_sizeUnder lk_Ring_89 iM_Ring_sizeUnder sE_Ring_sizeUnder (qc := kq6) rfl rfl rfl rfl (Nat.le_of_ble_eq_true rfl) (f_Ring_sizeUnder_ok (d := d) (by omega) (0 : Int32) ((q3.1 20 5) - (1 : Int32)) hq6) ?_
  change am_AW am_nw ro (d + 1) mr_Ring_waysToTriangles 19 [some (.ref 20), some (.int x1), none, none] [.int q6.1, .ref (am_rB + 0)] (S0, q6.2) (some (.int r)) (S0, m')
  by_cases g7 : am_in q6.1 (ro 0).1 = true
  rotate_left
  · rw [if_neg g7] at h
    cases h
  rw [if_pos g7] at h
  refine am_AW.rold ok_Ring_waysToTriangles (Nat.le_add_left 1 d) (j := 0) (by decide) rfl g7 ?_
  refine am_AW.run am_base_ok ok_Ring_waysToTriangles (Nat.le_add_left 1 d) 3 (pc1 := 23) (ls1 := [some (.ref 20), some (.int x1), some (.int ((ro 0).2 q6.1.toNatClampNeg)), some (.int (0 : Int32))]) (st1 := []) (σ1 := (S0, q6.2)) rfl ?_
  exact am_AW.weak (f_Ring_waysToTriangles_b23_ok hd x1 ((ro 0).2 q6.1.toNatClampNeg) (0 : Int32)  h) (by simp only [am_le, and_self])
/-! FriezePolygons$Ring.greatestPiece(I)I -/
def f_Ring_greatestPiece_b57 (k19 : Int32 → Int32 → Int32 → am_Mm → Option (Int32 × am_Mm)) (x1 : Int32) (x2 : Int32) (x3 : Int32) (m : am_Mm) : Option (Int32 × am_Mm) :=
  k19 x1 x2 (x3 + (1 : Int32)) m
def f_Ring_greatestPiece_b19 : Nat → Int32 → Int32 → Int32 → am_Mm → Option (Int32 × am_Mm)
  | 0, _, _, _, _ => none
  | n + 1, x1, x2, x3, m =>
    if (m.1 20 6) ≤ x3 then
      some (x2, m)
    else
      if ((am_shr x1 x3) &&& (1 : Int32)) = (1 : Int32) then
        if am_in x3 27 = true then
          if am_in x3 27 = true then
            (f_Ring_sizeUnder (m.1 21 x3.toNatClampNeg) (m.1 22 x3.toNatClampNeg) m).bind fun q13 =>
            f_Ring_greatestPiece_b57 (f_Ring_greatestPiece_b19 n) x1 (am_max x2 q13.1) x3 q13.2
          else none
        else none
      else
        f_Ring_greatestPiece_b57 (f_Ring_greatestPiece_b19 n) x1 x2 x3 m
def f_Ring_greatestPiece (x1 : Int32) (m : am_Mm) : Option (Int32 × am_Mm) :=
  (f_Ring_joinCorners x1 m).bind fun q3 =>
  (f_Ring_sizeUnder (0 : Int32) ((q3.1 20 5) - (1 : Int32)) q3).bind fun q6 =>
  f_Ring_greatestPiece_b19 am_F x1 q6.1 (0 : Int32) q6.2
set_option maxHeartbeats 4000000 in
set_option maxRecDepth 100000 in
theorem f_Ring_greatestPiece_b57_ok {ro : am_Ro} {d : Nat} (hd : 4 ≤ d + 1) {k19 : Int32 → Int32 → Int32 → am_Mm → Option (Int32 × am_Mm)} (hk19 : ∀ (x1 : Int32) (x2 : Int32) (x3 : Int32) (m m' : am_Mm) (r : Int32), k19 x1 x2 x3 m = some (r, m') → am_AW am_nw ro (d + 1) mr_Ring_greatestPiece 19 [some (.ref 20), some (.int x1), some (.int x2), some (.int x3)] [] (S0, m) (some (.int r)) (S0, m')) (x1 : Int32) (x2 : Int32) (x3 : Int32) {m m' : am_Mm} {r : Int32} (h : f_Ring_greatestPiece_b57 k19 x1 x2 x3 m = some (r, m')) : am_AW am_nw ro (d + 1) mr_Ring_greatestPiece 57 [some (.ref 20), some (.int x1), some (.int x2), some (.int x3)] [] (S0, m) (some (.int r)) (S0, m') := by
  unfold f_Ring_greatestPiece_b57 at h
  refine am_AW.run am_base_ok ok_Ring_greatestPiece (Nat.le_add_left 1 d) 2 (pc1 := 19) (ls1 := [some (.ref 20), some (.int x1), some (.int x2), some (.int (x3 + (1 : Int32)))]) (st1 := []) (σ1 := (S0, m)) rfl ?_
  exact am_AW.weak (hk19 x1 x2 (x3 + (1 : Int32))  _ _ _ h) (by simp only [am_le, and_self])
set_option maxHeartbeats 4000000 in
set_option maxRecDepth 100000 in
theorem f_Ring_greatestPiece_b19_all {ro : am_Ro} {d : Nat} (hd : 4 ≤ d + 1) : ∀ (n : Nat) (x1 : Int32) (x2 : Int32) (x3 : Int32) (m m' : am_Mm) (r : Int32), f_Ring_greatestPiece_b19 n x1 x2 x3 m = some (r, m') → am_AW am_nw ro (d + 1) mr_Ring_greatestPiece 19 [some (.ref 20), some (.int x1), some (.int x2), some (.int x3)] [] (S0, m) (some (.int r)) (S0, m') := by
  intro n
  induction n with
  | zero =>
    intro x1 x2 x3 m m' r h
    rw [f_Ring_greatestPiece_b19] at h
    cases h
  | succ n ih =>
    intro x1 x2 x3 m m' r h
    rw [f_Ring_greatestPiece_b19] at h
    refine am_AW.run am_base_ok ok_Ring_greatestPiece (Nat.le_add_left 1 d) 3 (pc1 := 24) (ls1 := [some (.ref 20), some (.int x1), some (.int x2), some (.int x3)]) (st1 := [.int (m.1 20 6), .int x3]) (σ1 := (S0, m)) rfl ?_
    refine am_AW.brP ok_Ring_greatestPiece rfl rfl am_c_ge (fun c7 => ?_) (fun c7 => ?_)
    · rw [if_pos c7] at h
      refine am_AW.run am_base_ok ok_Ring_greatestPiece (Nat.le_add_left 1 d) 1 (pc1 := 64) (ls1 := [some (.ref 20), some (.int x1), some (.int x2), some (.int x3)]) (st1 := [.int x2]) (σ1 := (S0, m)) rfl ?_
      obtain ⟨rfl, rfl⟩ := Prod.mk.inj (Option.some.inj h)
      exact am_AW.ret ok_Ring_greatestPiece rfl rfl rfl rfl
    · rw [if_neg c7] at h
      refine am_AW.run am_base_ok ok_Ring_greatestPiece (Nat.le_add_left 1 d) 6 (pc1 := 33) (ls1 := [some (.ref 20), some (.int x1), some (.int x2), some (.int x3)]) (st1 := [.int (1 : Int32), .int ((am_shr x1 x3) &&& (1 : Int32))]) (σ1 := (S0, m)) rfl ?_
      refine am_AW.brN ok_Ring_greatestPiece rfl rfl am_c_ne (fun c8 => ?_) (fun c8 => ?_)
      · rw [if_pos c8] at h
        refine am_AW.run am_base_ok ok_Ring_greatestPiece (Nat.le_add_left 1 d) 5 (pc1 := 43) (ls1 := [some (.ref 20), some (.int x1), some (.int x2), some (.int x3)]) (st1 := [.int x3, .ref 21, .ref 20, .int x2]) (σ1 := (S0, m)) rfl ?_
        by_cases g9 : am_in x3 27 = true
        rotate_left
        · rw [if_neg g9] at h
          cases h
        rw [if_pos g9] at h
        refine am_AW.iald ok_Ring_greatestPiece (Nat.le_add_left 1 d) S0_len rfl rfl g9 ?_
        refine am_AW.run am_base_ok ok_Ring_greatestPiece (Nat.le_add_left 1 d) 3 (pc1 := 49) (ls1 := [some (.ref 20), some (.int x1), some (.int x2), some (.int x3)]) (st1 := [.int x3, .ref 22, .int (m.1 21 x3.toNatClampNeg), .ref 20, .int x2]) (σ1 := (S0, m)) rfl ?_
        by_cases g10 : am_in x3 27 = true
        rotate_left
        · rw [if_neg g10] at h
          cases h
        rw [if_pos g10] at h
        refine am_AW.iald ok_Ring_greatestPiece (Nat.le_add_left 1 d) S0_len rfl rfl g10 ?_
        obtain ⟨q13, hq13, h⟩ := Option.bind_eq_some_iff.mp h
        refine am_AW.callV ok_Ring_greatestPiece am_nw_ok (As := [.int (m.1 21 x3.toNatClampNeg), .int (m.1 22 x3.toNatClampNeg)]) (rest := [.int x2]) rfl rfl rfl oR_Ring_sizeUnder lk_Ring_89 iM_Ring_sizeUnder sE_Ring_sizeUnder (qc := kq6) rfl rfl rfl rfl (Nat.le_of_ble_eq_true rfl) (f_Ring_sizeUnder_ok (d := d) (by omega) (m.1 21 x3.toNatClampNeg) (m.1 22 x3.toNatClampNeg) hq13) ?_
        change am_AW am_nw ro (d + 1) mr_Ring_greatestPiece 53 [some (.ref 20), some (.int x1), some (.int x2), some (.int x3)] [.int q13.1, .int x2] (S0, q13.2) (some (.int r)) (S0, m')
        refine am_AW.mmax ok_Ring_greatestPiece (Nat.le_add_left 1 d) rfl lk_Ring_53 (Nat.le_of_ble_eq_true rfl) ?_
        change am_AW am_nw ro (d + 1) mr_Ring_greatestPiece 56 [some (.ref 20), some (.int x1), some (.int x2), some (.int x3)] [.int (am_max x2 q13.1)] (S0, q13.2) (some (.int r)) (S0, m')
        refine am_AW.run am_base_ok ok_Ring_greatestPiece (Nat.le_add_left 1 d) 1 (pc1 := 57) (ls1 := [some (.ref 20), some (.int x1), some (.int (am_max x2 q13.1)), some (.int x3)]) (st1 := []) (σ1 := (S0, q13.2)) rfl ?_
        exact am_AW.weak (f_Ring_greatestPiece_b57_ok hd (ih) x1 (am_max x2 q13.1) x3  h) (by simp only [am_le, and_self])
      · rw [if_neg c8] at h
        exact am_AW.weak (f_Ring_greatestPiece_b57_ok hd (ih) x1 x2 x3  h) (by simp only [am_le, and_self])
set_option maxHeartbeats 4000000 in
set_option maxRecDepth 100000 in
theorem f_Ring_greatestPiece_b19_ok {ro : am_Ro} {d : Nat} (hd : 4 ≤ d + 1) (x1 : Int32) (x2 : Int32) (x3 : Int32) {m m' : am_Mm} {r : Int32} {n : Nat} (h : f_Ring_greatestPiece_b19 n x1 x2 x3 m = some (r, m')) : am_AW am_nw ro (d + 1) mr_Ring_greatestPiece 19 [some (.ref 20), some (.int x1), some (.int x2), some (.int x3)] [] (S0, m) (some (.int r)) (S0, m') :=
  f_Ring_greatestPiece_b19_all hd n x1 x2 x3  m m' r h
set_option maxHeartbeats 4000000 in
set_option maxRecDepth 100000 in
theorem f_Ring_greatestPiece_ok {ro : am_Ro} {d : Nat} (hd : 4 ≤ d) (x1 : Int32) {m m' : am_Mm} {r : Int32} (h : f_Ring_greatestPiece x1 m = some (r, m')) : am_Mt am_nw ro d mr_Ring_greatestPiece [.ref 20, .int x1] (S0, m) (some (.int r)) (S0, m') := by
  obtain ⟨d, rfl⟩ : ∃ d0, d = d0 + 1 := ⟨d - 1, by omega⟩
  refine am_Mt.of (by decide +kernel) (Nat.le_of_ble_eq_true rfl) ?_
  change am_AW am_nw ro (d + 1) mr_Ring_greatestPiece 0 [some (.ref 20), some (.int x1), none, none] [] (S0, m) (some (.int r)) (S0, m')
  unfold f_Ring_greatestPiece at h
  refine am_AW.run am_base_ok ok_Ring_greatestPiece (Nat.le_add_left 1 d) 2 (pc1 := 2) (ls1 := [some (.ref 20), some (.int x1), none, none]) (st1 := [.int x1, .ref 20]) (σ1 := (S0, m)) rfl ?_
  obtain ⟨q3, hq3, h⟩ := Option.bind_eq_some_iff.mp h
  refine am_AW.callV ok_Ring_greatestPiece am_nw_ok (As := [.int x1]) (rest := []) rfl rfl rfl oR_Ring_joinCorners lk_Ring_76 iM_Ring_joinCorners sE_Ring_joinCorners (qc := kq6) rfl rfl rfl rfl (Nat.le_of_ble_eq_true rfl) (f_Ring_joinCorners_ok (d := d) (by omega) x1 hq3) ?_
  change am_AW am_nw ro (d + 1) mr_Ring_greatestPiece 5 [some (.ref 20), some (.int x1), none, none] [] (S0, q3) (some (.int r)) (S0, m')
  refine am_AW.run am_base_ok ok_Ring_greatestPiece (Nat.le_add_left 1 d) 6 (pc1 := 13) (ls1 := [some (.ref 20), some (.int x1), none, none]) (st1 := [.int ((q3.1 20 5) - (1 : Int32)), .int (0 : Int32), .ref 20]) (σ1 := (S0, q3)) rfl ?_
  obtain ⟨q6, hq6, h⟩ := Option.bind_eq_some_iff.mp h
  refine am_AW.callV ok_Ring_greatestPiece am_nw_ok (As := [.int (0 : Int32), .int ((q3.1 20 5) - (1 : Int32))]) (rest := []) rfl rfl rfl oR_Ring_sizeUnder lk_Ring_89 iM_Ring_sizeUnder sE_Ring_sizeUnder (qc := kq6) rfl rfl rfl rfl (Nat.le_of_ble_eq_true rfl) (f_Ring_sizeUnder_ok (d := d) (by omega) (0 : Int32) ((q3.1 20 5) - (1 : Int32)) hq6) ?_
  change am_AW am_nw ro (d + 1) mr_Ring_greatestPiece 16 [some (.ref 20), some (.int x1), none, none] [.int q6.1] (S0, q6.2) (some (.int r)) (S0, m')
  refine am_AW.run am_base_ok ok_Ring_greatestPiece (Nat.le_add_left 1 d) 3 (pc1 := 19) (ls1 := [some (.ref 20), some (.int x1), some (.int q6.1), some (.int (0 : Int32))]) (st1 := []) (σ1 := (S0, q6.2)) rfl ?_
  exact am_AW.weak (f_Ring_greatestPiece_b19_ok hd x1 q6.1 (0 : Int32)  h) (by simp only [am_le, and_self])
/-! FriezePolygons$Tape.readCorners()Z -/
def f_Tape_readCorners_b2 : Nat → Int32 → am_Mm → Option (Int32 × am_Mm)
  | 0, _, _ => none
  | n + 1, x1, m =>
    if (120 : Int32) < x1 then
      (f_Tape_refuse (1 : Int32) m).bind fun q4 =>
      if q4.1 = (0 : Int32) ∨ q4.1 = (1 : Int32) then
        some (q4.1, q4.2)
      else none
    else
      (f_Tape_sortOf (m.1 2 7) m).bind fun q8 =>
      if q8.1 = (0 : Int32) then
        if (4 : Int32) ≤ (q8.2.1 3 2) then
          some ((1 : Int32), q8.2)
        else
          (f_Tape_refuse (1 : Int32) q8.2).bind fun q13 =>
          if q13.1 = (0 : Int32) then
            some ((0 : Int32), q13.2)
          else
            some ((1 : Int32), q13.2)
      else
        if (q8.2.1 3 2) < (9 : Int32) then
          (f_Tape_next q8.2).bind fun q18 =>
          (f_Tape_isNumberUpTo (9 : Int32) q18).bind fun q21 =>
          if q21.1 = (0 : Int32) then
            some ((0 : Int32), q21.2)
          else
            if am_in (q21.2.1 3 2) 9 = true then
              if am_in ((am_pI q21.2 4 (q21.2.1 3 2).toNatClampNeg q8.1).1 3 2) 9 = true then
                (f_Tape_next (am_pI (am_pI (am_pI q21.2 4 (q21.2.1 3 2).toNatClampNeg q8.1) 5 ((am_pI q21.2 4 (q21.2.1 3 2).toNatClampNeg q8.1).1 3 2).toNatClampNeg ((am_pI q21.2 4 (q21.2.1 3 2).toNatClampNeg q8.1).1 2 8)) 3 2 (((am_pI (am_pI q21.2 4 (q21.2.1 3 2).toNatClampNeg q8.1) 5 ((am_pI q21.2 4 (q21.2.1 3 2).toNatClampNeg q8.1).1 3 2).toNatClampNeg ((am_pI q21.2 4 (q21.2.1 3 2).toNatClampNeg q8.1).1 2 8)).1 3 2) + (1 : Int32)))).bind fun q27 =>
                (f_Tape_isSign (59 : Int32) q27).bind fun q30 =>
                if q30.1 = (0 : Int32) then
                  some ((0 : Int32), q30.2)
                else
                  (f_Tape_next q30.2).bind fun q34 =>
                  f_Tape_readCorners_b2 n (x1 + (1 : Int32)) q34
              else none
            else none
        else
          (f_Tape_refuse (3 : Int32) q8.2).bind fun q37 =>
          if q37.1 = (0 : Int32) ∨ q37.1 = (1 : Int32) then
            some (q37.1, q37.2)
          else none
def f_Tape_readCorners (m : am_Mm) : Option (Int32 × am_Mm) :=
  f_Tape_readCorners_b2 am_F (0 : Int32) m
set_option maxHeartbeats 4000000 in
set_option maxRecDepth 100000 in
theorem f_Tape_readCorners_b2_all {ro : am_Ro} {d : Nat} (hd : 4 ≤ d + 1) : ∀ (n : Nat) (x1 : Int32) (m m' : am_Mm) (r : Int32), f_Tape_readCorners_b2 n x1 m = some (r, m') → am_AW am_nw ro (d + 1) mr_Tape_readCorners 2 [some (.ref 2), some (.int x1), none] [] (S0, m) (some (.int r)) (S0, m') := by
  intro n
  induction n with
  | zero =>
    intro x1 m m' r h
    rw [f_Tape_readCorners_b2] at h
    cases h
  | succ n ih =>
    intro x1 m m' r h
    rw [f_Tape_readCorners_b2] at h
    refine am_AW.run am_base_ok ok_Tape_readCorners (Nat.le_add_left 1 d) 2 (pc1 := 5) (ls1 := [some (.ref 2), some (.int x1), none]) (st1 := [.int (120 : Int32), .int x1]) (σ1 := (S0, m)) rfl ?_
    refine am_AW.brP ok_Tape_readCorners rfl rfl am_c_gt (fun c1 => ?_) (fun c1 => ?_)
    · rw [if_pos c1] at h
      refine am_AW.run am_base_ok ok_Tape_readCorners (Nat.le_add_left 1 d) 2 (pc1 := 153) (ls1 := [some (.ref 2), some (.int x1), none]) (st1 := [.int (1 : Int32), .ref 2]) (σ1 := (S0, m)) rfl ?_
      obtain ⟨q4, hq4, h⟩ := Option.bind_eq_some_iff.mp h
      refine am_AW.callV ok_Tape_readCorners am_nw_ok (As := [.int (1 : Int32)]) (rest := []) rfl rfl rfl oR_Tape_refuse lk_Tape_68 iM_Tape_refuse sE_Tape_refuse (qc := kq8) rfl rfl rfl rfl (Nat.le_of_ble_eq_true rfl) (f_Tape_refuse_ok (d := d) (by omega) (1 : Int32) hq4) ?_
      change am_AW am_nw ro (d + 1) mr_Tape_readCorners 156 [some (.ref 2), some (.int x1), none] [.int q4.1] (S0, q4.2) (some (.int r)) (S0, m')
      by_cases g5 : q4.1 = (0 : Int32) ∨ q4.1 = (1 : Int32)
      rotate_left
      · rw [if_neg g5] at h
        cases h
      rw [if_pos g5] at h
      obtain ⟨rfl, rfl⟩ := Prod.mk.inj (Option.some.inj h)
      exact am_AW.ret ok_Tape_readCorners rfl rfl rfl (am_rokZ g5)
    · rw [if_neg c1] at h
      refine am_AW.run am_base_ok ok_Tape_readCorners (Nat.le_add_left 1 d) 2 (pc1 := 12) (ls1 := [some (.ref 2), some (.int x1), none]) (st1 := [.int (m.1 2 7)]) (σ1 := (S0, m)) rfl ?_
      obtain ⟨q8, hq8, h⟩ := Option.bind_eq_some_iff.mp h
      refine am_AW.callS ok_Tape_readCorners am_nw_ok (As := [.int (m.1 2 7)]) (rest := []) rfl rfl rfl oR_Tape_sortOf lk_Tape_64 sT_Tape_sortOf rfl (Nat.le_of_ble_eq_true rfl) (f_Tape_sortOf_ok (d := d) (by omega) (m.1 2 7) hq8) ?_
      change am_AW am_nw ro (d + 1) mr_Tape_readCorners 15 [some (.ref 2), some (.int x1), none] [.int q8.1] (S0, q8.2) (some (.int r)) (S0, m')
      refine am_AW.run am_base_ok ok_Tape_readCorners (Nat.le_add_left 1 d) 2 (pc1 := 17) (ls1 := [some (.ref 2), some (.int x1), some (.int q8.1)]) (st1 := [.int q8.1]) (σ1 := (S0, q8.2)) rfl ?_
      refine am_AW.brN ok_Tape_readCorners rfl rfl am_c_ne (fun c9 => ?_) (fun c9 => ?_)
      · rw [if_pos c9] at h
        refine am_AW.run am_base_ok ok_Tape_readCorners (Nat.le_add_left 1 d) 4 (pc1 := 28) (ls1 := [some (.ref 2), some (.int x1), some (.int q8.1)]) (st1 := [.int (4 : Int32), .int (q8.2.1 3 2)]) (σ1 := (S0, q8.2)) rfl ?_
        refine am_AW.brP ok_Tape_readCorners rfl rfl am_c_ge (fun c10 => ?_) (fun c10 => ?_)
        · rw [if_pos c10] at h
          refine am_AW.run am_base_ok ok_Tape_readCorners (Nat.le_add_left 1 d) 2 (pc1 := 44) (ls1 := [some (.ref 2), some (.int x1), some (.int q8.1)]) (st1 := [.int (1 : Int32)]) (σ1 := (S0, q8.2)) rfl ?_
          obtain ⟨rfl, rfl⟩ := Prod.mk.inj (Option.some.inj h)
          exact am_AW.ret ok_Tape_readCorners rfl rfl rfl (by decide)
        · rw [if_neg c10] at h
          refine am_AW.run am_base_ok ok_Tape_readCorners (Nat.le_add_left 1 d) 2 (pc1 := 33) (ls1 := [some (.ref 2), some (.int x1), some (.int q8.1)]) (st1 := [.int (1 : Int32), .ref 2]) (σ1 := (S0, q8.2)) rfl ?_
          obtain ⟨q13, hq13, h⟩ := Option.bind_eq_some_iff.mp h
          refine am_AW.callV ok_Tape_readCorners am_nw_ok (As := [.int (1 : Int32)]) (rest := []) rfl rfl rfl oR_Tape_refuse lk_Tape_68 iM_Tape_refuse sE_Tape_refuse (qc := kq8) rfl rfl rfl rfl (Nat.le_of_ble_eq_true rfl) (f_Tape_refuse_ok (d := d) (by omega) (1 : Int32) hq13) ?_
          change am_AW am_nw ro (d + 1) mr_Tape_readCorners 36 [some (.ref 2), some (.int x1), some (.int q8.1)] [.int q13.1] (S0, q13.2) (some (.int r)) (S0, m')
          refine am_AW.brP ok_Tape_readCorners rfl rfl am_c_eq (fun c14 => ?_) (fun c14 => ?_)
          · rw [if_pos c14] at h
            refine am_AW.run am_base_ok ok_Tape_readCorners (Nat.le_add_left 1 d) 1 (pc1 := 44) (ls1 := [some (.ref 2), some (.int x1), some (.int q8.1)]) (st1 := [.int (0 : Int32)]) (σ1 := (S0, q13.2)) rfl ?_
            obtain ⟨rfl, rfl⟩ := Prod.mk.inj (Option.some.inj h)
            exact am_AW.ret ok_Tape_readCorners rfl rfl rfl (by decide)
          · rw [if_neg c14] at h
            refine am_AW.run am_base_ok ok_Tape_readCorners (Nat.le_add_left 1 d) 2 (pc1 := 44) (ls1 := [some (.ref 2), some (.int x1), some (.int q8.1)]) (st1 := [.int (1 : Int32)]) (σ1 := (S0, q13.2)) rfl ?_
            obtain ⟨rfl, rfl⟩ := Prod.mk.inj (Option.some.inj h)
            exact am_AW.ret ok_Tape_readCorners rfl rfl rfl (by decide)
      · rw [if_neg c9] at h
        refine am_AW.run am_base_ok ok_Tape_readCorners (Nat.le_add_left 1 d) 4 (pc1 := 54) (ls1 := [some (.ref 2), some (.int x1), some (.int q8.1)]) (st1 := [.int (9 : Int32), .int (q8.2.1 3 2)]) (σ1 := (S0, q8.2)) rfl ?_
        refine am_AW.brP ok_Tape_readCorners rfl rfl am_c_lt (fun c15 => ?_) (fun c15 => ?_)
        · rw [if_pos c15] at h
          refine am_AW.run am_base_ok ok_Tape_readCorners (Nat.le_add_left 1 d) 1 (pc1 := 64) (ls1 := [some (.ref 2), some (.int x1), some (.int q8.1)]) (st1 := [.ref 2]) (σ1 := (S0, q8.2)) rfl ?_
          obtain ⟨q18, hq18, h⟩ := Option.bind_eq_some_iff.mp h
          refine am_AW.callV ok_Tape_readCorners am_nw_ok (As := []) (rest := []) rfl rfl rfl oR_Tape_next lk_Tape_54 iM_Tape_next sE_Tape_next (qc := kq8) rfl rfl rfl rfl (Nat.le_of_ble_eq_true rfl) (f_Tape_next_ok (d := d) (by omega)  hq18) ?_
          change am_AW am_nw ro (d + 1) mr_Tape_readCorners 67 [some (.ref 2), some (.int x1), some (.int q8.1)] [] (S0, q18) (some (.int r)) (S0, m')
          refine am_AW.run am_base_ok ok_Tape_readCorners (Nat.le_add_left 1 d) 2 (pc1 := 70) (ls1 := [some (.ref 2), some (.int x1), some (.int q8.1)]) (st1 := [.int (9 : Int32), .ref 2]) (σ1 := (S0, q18)) rfl ?_
          obtain ⟨q21, hq21, h⟩ := Option.bind_eq_some_iff.mp h
          refine am_AW.callV ok_Tape_readCorners am_nw_ok (As := [.int (9 : Int32)]) (rest := []) rfl rfl rfl oR_Tape_isNumberUpTo lk_Tape_72 iM_Tape_isNumberUpTo sE_Tape_isNumberUpTo (qc := kq8) rfl rfl rfl rfl (Nat.le_of_ble_eq_true rfl) (f_Tape_isNumberUpTo_ok (d := d) (by omega) (9 : Int32) hq21) ?_
          change am_AW am_nw ro (d + 1) mr_Tape_readCorners 73 [some (.ref 2), some (.int x1), some (.int q8.1)] [.int q21.1] (S0, q21.2) (some (.int r)) (S0, m')
          refine am_AW.brN ok_Tape_readCorners rfl rfl am_c_ne (fun c22 => ?_) (fun c22 => ?_)
          · rw [if_pos c22] at h
            refine am_AW.run am_base_ok ok_Tape_readCorners (Nat.le_add_left 1 d) 1 (pc1 := 77) (ls1 := [some (.ref 2), some (.int x1), some (.int q8.1)]) (st1 := [.int (0 : Int32)]) (σ1 := (S0, q21.2)) rfl ?_
            obtain ⟨rfl, rfl⟩ := Prod.mk.inj (Option.some.inj h)
            exact am_AW.ret ok_Tape_readCorners rfl rfl rfl (by decide)
          · rw [if_neg c22] at h
            refine am_AW.run am_base_ok ok_Tape_readCorners (Nat.le_add_left 1 d) 7 (pc1 := 93) (ls1 := [some (.ref 2), some (.int x1), some (.int q8.1)]) (st1 := [.int q8.1, .int (q21.2.1 3 2), .ref 4]) (σ1 := (S0, q21.2)) rfl ?_
            by_cases g23 : am_in (q21.2.1 3 2) 9 = true
            rotate_left
            · rw [if_neg g23] at h
              cases h
            rw [if_pos g23] at h
            refine am_AW.iast ok_Tape_readCorners (Nat.le_add_left 1 d) rfl rfl g23 ?_
            change am_AW am_nw ro (d + 1) mr_Tape_readCorners 94 [some (.ref 2), some (.int x1), some (.int q8.1)] [] (S0, (am_pI q21.2 4 (q21.2.1 3 2).toNatClampNeg q8.1)) (some (.int r)) (S0, m')
            refine am_AW.run am_base_ok ok_Tape_readCorners (Nat.le_add_left 1 d) 8 (pc1 := 112) (ls1 := [some (.ref 2), some (.int x1), some (.int q8.1)]) (st1 := [.int ((am_pI q21.2 4 (q21.2.1 3 2).toNatClampNeg q8.1).1 2 8), .int ((am_pI q21.2 4 (q21.2.1 3 2).toNatClampNeg q8.1).1 3 2), .ref 5]) (σ1 := (S0, (am_pI q21.2 4 (q21.2.1 3 2).toNatClampNeg q8.1))) rfl ?_
            by_cases g24 : am_in ((am_pI q21.2 4 (q21.2.1 3 2).toNatClampNeg q8.1).1 3 2) 9 = true
            rotate_left
            · rw [if_neg g24] at h
              cases h
            rw [if_pos g24] at h
            refine am_AW.iast ok_Tape_readCorners (Nat.le_add_left 1 d) rfl rfl g24 ?_
            change am_AW am_nw ro (d + 1) mr_Tape_readCorners 113 [some (.ref 2), some (.int x1), some (.int q8.1)] [] (S0, (am_pI (am_pI q21.2 4 (q21.2.1 3 2).toNatClampNeg q8.1) 5 ((am_pI q21.2 4 (q21.2.1 3 2).toNatClampNeg q8.1).1 3 2).toNatClampNeg ((am_pI q21.2 4 (q21.2.1 3 2).toNatClampNeg q8.1).1 2 8))) (some (.int r)) (S0, m')
            refine am_AW.run am_base_ok ok_Tape_readCorners (Nat.le_add_left 1 d) 6 (pc1 := 123) (ls1 := [some (.ref 2), some (.int x1), some (.int q8.1)]) (st1 := [.int (((am_pI (am_pI q21.2 4 (q21.2.1 3 2).toNatClampNeg q8.1) 5 ((am_pI q21.2 4 (q21.2.1 3 2).toNatClampNeg q8.1).1 3 2).toNatClampNeg ((am_pI q21.2 4 (q21.2.1 3 2).toNatClampNeg q8.1).1 2 8)).1 3 2) + (1 : Int32)), .ref 3]) (σ1 := (S0, (am_pI (am_pI q21.2 4 (q21.2.1 3 2).toNatClampNeg q8.1) 5 ((am_pI q21.2 4 (q21.2.1 3 2).toNatClampNeg q8.1).1 3 2).toNatClampNeg ((am_pI q21.2 4 (q21.2.1 3 2).toNatClampNeg q8.1).1 2 8)))) rfl ?_
            refine am_AW.puti ok_Tape_readCorners (Nat.le_add_left 1 d) rfl rfl rfl (qc := kq3) rfl (by decide) ty_3_2 ?_
            refine am_AW.run am_base_ok ok_Tape_readCorners (Nat.le_add_left 1 d) 1 (pc1 := 127) (ls1 := [some (.ref 2), some (.int x1), some (.int q8.1)]) (st1 := [.ref 2]) (σ1 := (S0, (am_pI (am_pI (am_pI q21.2 4 (q21.2.1 3 2).toNatClampNeg q8.1) 5 ((am_pI q21.2 4 (q21.2.1 3 2).toNatClampNeg q8.1).1 3 2).toNatClampNeg ((am_pI q21.2 4 (q21.2.1 3 2).toNatClampNeg q8.1).1 2 8)) 3 2 (((am_pI (am_pI q21.2 4 (q21.2.1 3 2).toNatClampNeg q8.1) 5 ((am_pI q21.2 4 (q21.2.1 3 2).toNatClampNeg q8.1).1 3 2).toNatClampNeg ((am_pI q21.2 4 (q21.2.1 3 2).toNatClampNeg q8.1).1 2 8)).1 3 2) + (1 : Int32))))) rfl ?_
            obtain ⟨q27, hq27, h⟩ := Option.bind_eq_some_iff.mp h
            refine am_AW.callV ok_Tape_readCorners am_nw_ok (As := []) (rest := []) rfl rfl rfl oR_Tape_next lk_Tape_54 iM_Tape_next sE_Tape_next (qc := kq8) rfl rfl rfl rfl (Nat.le_of_ble_eq_true rfl) (f_Tape_next_ok (d := d) (by omega)  hq27) ?_
            change am_AW am_nw ro (d + 1) mr_Tape_readCorners 130 [some (.ref 2), some (.int x1), some (.int q8.1)] [] (S0, q27) (some (.int r)) (S0, m')
            refine am_AW.run am_base_ok ok_Tape_readCorners (Nat.le_add_left 1 d) 2 (pc1 := 133) (ls1 := [some (.ref 2), some (.int x1), some (.int q8.1)]) (st1 := [.int (59 : Int32), .ref 2]) (σ1 := (S0, q27)) rfl ?_
            obtain ⟨q30, hq30, h⟩ := Option.bind_eq_some_iff.mp h
            refine am_AW.callV ok_Tape_readCorners am_nw_ok (As := [.int (59 : Int32)]) (rest := []) rfl rfl rfl oR_Tape_isSign lk_Tape_81 iM_Tape_isSign sE_Tape_isSign (qc := kq8) rfl rfl rfl rfl (Nat.le_of_ble_eq_true rfl) (f_Tape_isSign_ok (d := d) (by omega) (59 : Int32) hq30) ?_
            change am_AW am_nw ro (d + 1) mr_Tape_readCorners 136 [some (.ref 2), some (.int x1), some (.int q8.1)] [.int q30.1] (S0, q30.2) (some (.int r)) (S0, m')
            refine am_AW.brN ok_Tape_readCorners rfl rfl am_c_ne (fun c31 => ?_) (fun c31 => ?_)
            · rw [if_pos c31] at h
              refine am_AW.run am_base_ok ok_Tape_readCorners (Nat.le_add_left 1 d) 1 (pc1 := 140) (ls1 := [some (.ref 2), some (.int x1), some (.int q8.1)]) (st1 := [.int (0 : Int32)]) (σ1 := (S0, q30.2)) rfl ?_
              obtain ⟨rfl, rfl⟩ := Prod.mk.inj (Option.some.inj h)
              exact am_AW.ret ok_Tape_readCorners rfl rfl rfl (by decide)
            · rw [if_neg c31] at h
              refine am_AW.run am_base_ok ok_Tape_readCorners (Nat.le_add_left 1 d) 1 (pc1 := 142) (ls1 := [some (.ref 2), some (.int x1), some (.int q8.1)]) (st1 := [.ref 2]) (σ1 := (S0, q30.2)) rfl ?_
              obtain ⟨q34, hq34, h⟩ := Option.bind_eq_some_iff.mp h
              refine am_AW.callV ok_Tape_readCorners am_nw_ok (As := []) (rest := []) rfl rfl rfl oR_Tape_next lk_Tape_54 iM_Tape_next sE_Tape_next (qc := kq8) rfl rfl rfl rfl (Nat.le_of_ble_eq_true rfl) (f_Tape_next_ok (d := d) (by omega)  hq34) ?_
              change am_AW am_nw ro (d + 1) mr_Tape_readCorners 145 [some (.ref 2), some (.int x1), some (.int q8.1)] [] (S0, q34) (some (.int r)) (S0, m')
              refine am_AW.run am_base_ok ok_Tape_readCorners (Nat.le_add_left 1 d) 2 (pc1 := 2) (ls1 := [some (.ref 2), some (.int (x1 + (1 : Int32))), some (.int q8.1)]) (st1 := []) (σ1 := (S0, q34)) rfl ?_
              exact am_AW.weak (ih (x1 + (1 : Int32))  _ _ _ h) (by simp only [am_le, and_self])
        · rw [if_neg c15] at h
          refine am_AW.run am_base_ok ok_Tape_readCorners (Nat.le_add_left 1 d) 2 (pc1 := 59) (ls1 := [some (.ref 2), some (.int x1), some (.int q8.1)]) (st1 := [.int (3 : Int32), .ref 2]) (σ1 := (S0, q8.2)) rfl ?_
          obtain ⟨q37, hq37, h⟩ := Option.bind_eq_some_iff.mp h
          refine am_AW.callV ok_Tape_readCorners am_nw_ok (As := [.int (3 : Int32)]) (rest := []) rfl rfl rfl oR_Tape_refuse lk_Tape_68 iM_Tape_refuse sE_Tape_refuse (qc := kq8) rfl rfl rfl rfl (Nat.le_of_ble_eq_true rfl) (f_Tape_refuse_ok (d := d) (by omega) (3 : Int32) hq37) ?_
          change am_AW am_nw ro (d + 1) mr_Tape_readCorners 62 [some (.ref 2), some (.int x1), some (.int q8.1)] [.int q37.1] (S0, q37.2) (some (.int r)) (S0, m')
          by_cases g38 : q37.1 = (0 : Int32) ∨ q37.1 = (1 : Int32)
          rotate_left
          · rw [if_neg g38] at h
            cases h
          rw [if_pos g38] at h
          obtain ⟨rfl, rfl⟩ := Prod.mk.inj (Option.some.inj h)
          exact am_AW.ret ok_Tape_readCorners rfl rfl rfl (am_rokZ g38)
set_option maxHeartbeats 4000000 in
set_option maxRecDepth 100000 in
theorem f_Tape_readCorners_b2_ok {ro : am_Ro} {d : Nat} (hd : 4 ≤ d + 1) (x1 : Int32) {m m' : am_Mm} {r : Int32} {n : Nat} (h : f_Tape_readCorners_b2 n x1 m = some (r, m')) : am_AW am_nw ro (d + 1) mr_Tape_readCorners 2 [some (.ref 2), some (.int x1), none] [] (S0, m) (some (.int r)) (S0, m') :=
  f_Tape_readCorners_b2_all hd n x1  m m' r h
set_option maxHeartbeats 4000000 in
set_option maxRecDepth 100000 in
theorem f_Tape_readCorners_ok {ro : am_Ro} {d : Nat} (hd : 4 ≤ d) {m m' : am_Mm} {r : Int32} (h : f_Tape_readCorners  m = some (r, m')) : am_Mt am_nw ro d mr_Tape_readCorners [.ref 2] (S0, m) (some (.int r)) (S0, m') := by
  obtain ⟨d, rfl⟩ : ∃ d0, d = d0 + 1 := ⟨d - 1, by omega⟩
  refine am_Mt.of (by decide +kernel) (Nat.le_of_ble_eq_true rfl) ?_
  change am_AW am_nw ro (d + 1) mr_Tape_readCorners 0 [some (.ref 2), none, none] [] (S0, m) (some (.int r)) (S0, m')
  unfold f_Tape_readCorners at h
  refine am_AW.run am_base_ok ok_Tape_readCorners (Nat.le_add_left 1 d) 2 (pc1 := 2) (ls1 := [some (.ref 2), some (.int (0 : Int32)), none]) (st1 := []) (σ1 := (S0, m)) rfl ?_
  exact am_AW.weak (f_Tape_readCorners_b2_ok hd (0 : Int32)  h) (by simp only [am_le, and_self])
/-! FriezePolygons$Tape.readCuts()Z -/
def f_Tape_readCuts_b16 : Nat → Int32 → am_Mm → Option (Int32 × am_Mm)
  | 0, _, _ => none
  | n + 1, x1, m =>
    if (120 : Int32) < x1 then
      some ((1 : Int32), m)
    else
      if (m.1 2 7) = (257 : Int32) then
        some ((1 : Int32), m)
      else
        (f_Tape_isSign (100 : Int32) m).bind fun q8 =>
        if q8.1 = (0 : Int32) then
          some ((0 : Int32), q8.2)
        else
          (f_Tape_next q8.2).bind fun q12 =>
          (f_Tape_isNumberUpTo ((q12.1 3 2) - (1 : Int32)) q12).bind fun q15 =>
          if q15.1 = (0 : Int32) then
            some ((0 : Int32), q15.2)
          else
            (f_Tape_next q15.2).bind fun q19 =>
            (f_Tape_isSign (44 : Int32) q19).bind fun q22 =>
            if q22.1 = (0 : Int32) then
              some ((0 : Int32), q22.2)
            else
              (f_Tape_next q22.2).bind fun q26 =>
              (f_Tape_isNumberUpTo ((q26.1 3 2) - (1 : Int32)) q26).bind fun q29 =>
              if q29.1 = (0 : Int32) then
                some ((0 : Int32), q29.2)
              else
                (f_Tape_drawCut (q15.2.1 2 8) (q29.2.1 2 8) q29.2).bind fun q33 =>
                if q33.1 = (0 : Int32) then
                  some ((0 : Int32), q33.2)
                else
                  (f_Tape_next q33.2).bind fun q37 =>
                  (f_Tape_isSign (59 : Int32) q37).bind fun q40 =>
                  if q40.1 = (0 : Int32) then
                    some ((0 : Int32), q40.2)
                  else
                    (f_Tape_next q40.2).bind fun q44 =>
                    f_Tape_readCuts_b16 n (x1 + (1 : Int32)) q44
def f_Tape_readCuts (m : am_Mm) : Option (Int32 × am_Mm) :=
  (f_Ring_layOut 6 (m.1 3 2) m).bind fun q3 =>
  f_Tape_readCuts_b16 am_F (0 : Int32) q3
set_option maxHeartbeats 4000000 in
set_option maxRecDepth 100000 in
theorem f_Tape_readCuts_b16_all {ro : am_Ro} {d : Nat} (hd : 4 ≤ d + 1) : ∀ (n : Nat) (x1 : Int32) (m m' : am_Mm) (r : Int32), f_Tape_readCuts_b16 n x1 m = some (r, m') → am_AW am_nw ro (d + 1) mr_Tape_readCuts 16 [some (.ref 2), some (.int x1), none] [] (S0, m) (some (.int r)) (S0, m') := by
  intro n
  induction n with
  | zero =>
    intro x1 m m' r h
    rw [f_Tape_readCuts_b16] at h
    cases h
  | succ n ih =>
    intro x1 m m' r h
    rw [f_Tape_readCuts_b16] at h
    refine am_AW.run am_base_ok ok_Tape_readCuts (Nat.le_add_left 1 d) 2 (pc1 := 19) (ls1 := [some (.ref 2), some (.int x1), none]) (st1 := [.int (120 : Int32), .int x1]) (σ1 := (S0, m)) rfl ?_
    refine am_AW.brP ok_Tape_readCuts rfl rfl am_c_gt (fun c4 => ?_) (fun c4 => ?_)
    · rw [if_pos c4] at h
      refine am_AW.run am_base_ok ok_Tape_readCuts (Nat.le_add_left 1 d) 1 (pc1 := 145) (ls1 := [some (.ref 2), some (.int x1), none]) (st1 := [.int (1 : Int32)]) (σ1 := (S0, m)) rfl ?_
      obtain ⟨rfl, rfl⟩ := Prod.mk.inj (Option.some.inj h)
      exact am_AW.ret ok_Tape_readCuts rfl rfl rfl (by decide)
    · rw [if_neg c4] at h
      refine am_AW.run am_base_ok ok_Tape_readCuts (Nat.le_add_left 1 d) 3 (pc1 := 29) (ls1 := [some (.ref 2), some (.int x1), none]) (st1 := [.int (257 : Int32), .int (m.1 2 7)]) (σ1 := (S0, m)) rfl ?_
      refine am_AW.brP ok_Tape_readCuts rfl rfl am_c_eq (fun c5 => ?_) (fun c5 => ?_)
      · rw [if_pos c5] at h
        refine am_AW.run am_base_ok ok_Tape_readCuts (Nat.le_add_left 1 d) 1 (pc1 := 145) (ls1 := [some (.ref 2), some (.int x1), none]) (st1 := [.int (1 : Int32)]) (σ1 := (S0, m)) rfl ?_
        obtain ⟨rfl, rfl⟩ := Prod.mk.inj (Option.some.inj h)
        exact am_AW.ret ok_Tape_readCuts rfl rfl rfl (by decide)
      · rw [if_neg c5] at h
        refine am_AW.run am_base_ok ok_Tape_readCuts (Nat.le_add_left 1 d) 2 (pc1 := 35) (ls1 := [some (.ref 2), some (.int x1), none]) (st1 := [.int (100 : Int32), .ref 2]) (σ1 := (S0, m)) rfl ?_
        obtain ⟨q8, hq8, h⟩ := Option.bind_eq_some_iff.mp h
        refine am_AW.callV ok_Tape_readCuts am_nw_ok (As := [.int (100 : Int32)]) (rest := []) rfl rfl rfl oR_Tape_isSign lk_Tape_81 iM_Tape_isSign sE_Tape_isSign (qc := kq8) rfl rfl rfl rfl (Nat.le_of_ble_eq_true rfl) (f_Tape_isSign_ok (d := d) (by omega) (100 : Int32) hq8) ?_
        change am_AW am_nw ro (d + 1) mr_Tape_readCuts 38 [some (.ref 2), some (.int x1), none] [.int q8.1] (S0, q8.2) (some (.int r)) (S0, m')
        refine am_AW.brN ok_Tape_readCuts rfl rfl am_c_ne (fun c9 => ?_) (fun c9 => ?_)
        · rw [if_pos c9] at h
          refine am_AW.run am_base_ok ok_Tape_readCuts (Nat.le_add_left 1 d) 1 (pc1 := 42) (ls1 := [some (.ref 2), some (.int x1), none]) (st1 := [.int (0 : Int32)]) (σ1 := (S0, q8.2)) rfl ?_
          obtain ⟨rfl, rfl⟩ := Prod.mk.inj (Option.some.inj h)
          exact am_AW.ret ok_Tape_readCuts rfl rfl rfl (by decide)
        · rw [if_neg c9] at h
          refine am_AW.run am_base_ok ok_Tape_readCuts (Nat.le_add_left 1 d) 1 (pc1 := 44) (ls1 := [some (.ref 2), some (.int x1), none]) (st1 := [.ref 2]) (σ1 := (S0, q8.2)) rfl ?_
          obtain ⟨q12, hq12, h⟩ := Option.bind_eq_some_iff.mp h
          refine am_AW.callV ok_Tape_readCuts am_nw_ok (As := []) (rest := []) rfl rfl rfl oR_Tape_next lk_Tape_54 iM_Tape_next sE_Tape_next (qc := kq8) rfl rfl rfl rfl (Nat.le_of_ble_eq_true rfl) (f_Tape_next_ok (d := d) (by omega)  hq12) ?_
          change am_AW am_nw ro (d + 1) mr_Tape_readCuts 47 [some (.ref 2), some (.int x1), none] [] (S0, q12) (some (.int r)) (S0, m')
          refine am_AW.run am_base_ok ok_Tape_readCuts (Nat.le_add_left 1 d) 6 (pc1 := 57) (ls1 := [some (.ref 2), some (.int x1), none]) (st1 := [.int ((q12.1 3 2) - (1 : Int32)), .ref 2]) (σ1 := (S0, q12)) rfl ?_
          obtain ⟨q15, hq15, h⟩ := Option.bind_eq_some_iff.mp h
          refine am_AW.callV ok_Tape_readCuts am_nw_ok (As := [.int ((q12.1 3 2) - (1 : Int32))]) (rest := []) rfl rfl rfl oR_Tape_isNumberUpTo lk_Tape_72 iM_Tape_isNumberUpTo sE_Tape_isNumberUpTo (qc := kq8) rfl rfl rfl rfl (Nat.le_of_ble_eq_true rfl) (f_Tape_isNumberUpTo_ok (d := d) (by omega) ((q12.1 3 2) - (1 : Int32)) hq15) ?_
          change am_AW am_nw ro (d + 1) mr_Tape_readCuts 60 [some (.ref 2), some (.int x1), none] [.int q15.1] (S0, q15.2) (some (.int r)) (S0, m')
          refine am_AW.brN ok_Tape_readCuts rfl rfl am_c_ne (fun c16 => ?_) (fun c16 => ?_)
          · rw [if_pos c16] at h
            refine am_AW.run am_base_ok ok_Tape_readCuts (Nat.le_add_left 1 d) 1 (pc1 := 64) (ls1 := [some (.ref 2), some (.int x1), none]) (st1 := [.int (0 : Int32)]) (σ1 := (S0, q15.2)) rfl ?_
            obtain ⟨rfl, rfl⟩ := Prod.mk.inj (Option.some.inj h)
            exact am_AW.ret ok_Tape_readCuts rfl rfl rfl (by decide)
          · rw [if_neg c16] at h
            refine am_AW.run am_base_ok ok_Tape_readCuts (Nat.le_add_left 1 d) 4 (pc1 := 71) (ls1 := [some (.ref 2), some (.int x1), some (.int (q15.2.1 2 8))]) (st1 := [.ref 2]) (σ1 := (S0, q15.2)) rfl ?_
            obtain ⟨q19, hq19, h⟩ := Option.bind_eq_some_iff.mp h
            refine am_AW.callV ok_Tape_readCuts am_nw_ok (As := []) (rest := []) rfl rfl rfl oR_Tape_next lk_Tape_54 iM_Tape_next sE_Tape_next (qc := kq8) rfl rfl rfl rfl (Nat.le_of_ble_eq_true rfl) (f_Tape_next_ok (d := d) (by omega)  hq19) ?_
            change am_AW am_nw ro (d + 1) mr_Tape_readCuts 74 [some (.ref 2), some (.int x1), some (.int (q15.2.1 2 8))] [] (S0, q19) (some (.int r)) (S0, m')
            refine am_AW.run am_base_ok ok_Tape_readCuts (Nat.le_add_left 1 d) 2 (pc1 := 77) (ls1 := [some (.ref 2), some (.int x1), some (.int (q15.2.1 2 8))]) (st1 := [.int (44 : Int32), .ref 2]) (σ1 := (S0, q19)) rfl ?_
            obtain ⟨q22, hq22, h⟩ := Option.bind_eq_some_iff.mp h
            refine am_AW.callV ok_Tape_readCuts am_nw_ok (As := [.int (44 : Int32)]) (rest := []) rfl rfl rfl oR_Tape_isSign lk_Tape_81 iM_Tape_isSign sE_Tape_isSign (qc := kq8) rfl rfl rfl rfl (Nat.le_of_ble_eq_true rfl) (f_Tape_isSign_ok (d := d) (by omega) (44 : Int32) hq22) ?_
            change am_AW am_nw ro (d + 1) mr_Tape_readCuts 80 [some (.ref 2), some (.int x1), some (.int (q15.2.1 2 8))] [.int q22.1] (S0, q22.2) (some (.int r)) (S0, m')
            refine am_AW.brN ok_Tape_readCuts rfl rfl am_c_ne (fun c23 => ?_) (fun c23 => ?_)
            · rw [if_pos c23] at h
              refine am_AW.run am_base_ok ok_Tape_readCuts (Nat.le_add_left 1 d) 1 (pc1 := 84) (ls1 := [some (.ref 2), some (.int x1), some (.int (q15.2.1 2 8))]) (st1 := [.int (0 : Int32)]) (σ1 := (S0, q22.2)) rfl ?_
              obtain ⟨rfl, rfl⟩ := Prod.mk.inj (Option.some.inj h)
              exact am_AW.ret ok_Tape_readCuts rfl rfl rfl (by decide)
            · rw [if_neg c23] at h
              refine am_AW.run am_base_ok ok_Tape_readCuts (Nat.le_add_left 1 d) 1 (pc1 := 86) (ls1 := [some (.ref 2), some (.int x1), some (.int (q15.2.1 2 8))]) (st1 := [.ref 2]) (σ1 := (S0, q22.2)) rfl ?_
              obtain ⟨q26, hq26, h⟩ := Option.bind_eq_some_iff.mp h
              refine am_AW.callV ok_Tape_readCuts am_nw_ok (As := []) (rest := []) rfl rfl rfl oR_Tape_next lk_Tape_54 iM_Tape_next sE_Tape_next (qc := kq8) rfl rfl rfl rfl (Nat.le_of_ble_eq_true rfl) (f_Tape_next_ok (d := d) (by omega)  hq26) ?_
              change am_AW am_nw ro (d + 1) mr_Tape_readCuts 89 [some (.ref 2), some (.int x1), some (.int (q15.2.1 2 8))] [] (S0, q26) (some (.int r)) (S0, m')
              refine am_AW.run am_base_ok ok_Tape_readCuts (Nat.le_add_left 1 d) 6 (pc1 := 99) (ls1 := [some (.ref 2), some (.int x1), some (.int (q15.2.1 2 8))]) (st1 := [.int ((q26.1 3 2) - (1 : Int32)), .ref 2]) (σ1 := (S0, q26)) rfl ?_
              obtain ⟨q29, hq29, h⟩ := Option.bind_eq_some_iff.mp h
              refine am_AW.callV ok_Tape_readCuts am_nw_ok (As := [.int ((q26.1 3 2) - (1 : Int32))]) (rest := []) rfl rfl rfl oR_Tape_isNumberUpTo lk_Tape_72 iM_Tape_isNumberUpTo sE_Tape_isNumberUpTo (qc := kq8) rfl rfl rfl rfl (Nat.le_of_ble_eq_true rfl) (f_Tape_isNumberUpTo_ok (d := d) (by omega) ((q26.1 3 2) - (1 : Int32)) hq29) ?_
              change am_AW am_nw ro (d + 1) mr_Tape_readCuts 102 [some (.ref 2), some (.int x1), some (.int (q15.2.1 2 8))] [.int q29.1] (S0, q29.2) (some (.int r)) (S0, m')
              refine am_AW.brP ok_Tape_readCuts rfl rfl am_c_eq (fun c30 => ?_) (fun c30 => ?_)
              · rw [if_pos c30] at h
                refine am_AW.run am_base_ok ok_Tape_readCuts (Nat.le_add_left 1 d) 1 (pc1 := 118) (ls1 := [some (.ref 2), some (.int x1), some (.int (q15.2.1 2 8))]) (st1 := [.int (0 : Int32)]) (σ1 := (S0, q29.2)) rfl ?_
                obtain ⟨rfl, rfl⟩ := Prod.mk.inj (Option.some.inj h)
                exact am_AW.ret ok_Tape_readCuts rfl rfl rfl (by decide)
              · rw [if_neg c30] at h
                refine am_AW.run am_base_ok ok_Tape_readCuts (Nat.le_add_left 1 d) 4 (pc1 := 111) (ls1 := [some (.ref 2), some (.int x1), some (.int (q15.2.1 2 8))]) (st1 := [.int (q29.2.1 2 8), .int (q15.2.1 2 8), .ref 2]) (σ1 := (S0, q29.2)) rfl ?_
                obtain ⟨q33, hq33, h⟩ := Option.bind_eq_some_iff.mp h
                refine am_AW.callV ok_Tape_readCuts am_nw_ok (As := [.int (q15.2.1 2 8), .int (q29.2.1 2 8)]) (rest := []) rfl rfl rfl oR_Tape_drawCut lk_Tape_88 iM_Tape_drawCut sE_Tape_drawCut (qc := kq8) rfl rfl rfl rfl (Nat.le_of_ble_eq_true rfl) (f_Tape_drawCut_ok (d := d) (by omega) (q15.2.1 2 8) (q29.2.1 2 8) hq33) ?_
                change am_AW am_nw ro (d + 1) mr_Tape_readCuts 114 [some (.ref 2), some (.int x1), some (.int (q15.2.1 2 8))] [.int q33.1] (S0, q33.2) (some (.int r)) (S0, m')
                refine am_AW.brN ok_Tape_readCuts rfl rfl am_c_ne (fun c34 => ?_) (fun c34 => ?_)
                · rw [if_pos c34] at h
                  refine am_AW.run am_base_ok ok_Tape_readCuts (Nat.le_add_left 1 d) 1 (pc1 := 118) (ls1 := [some (.ref 2), some (.int x1), some (.int (q15.2.1 2 8))]) (st1 := [.int (0 : Int32)]) (σ1 := (S0, q33.2)) rfl ?_
                  obtain ⟨rfl, rfl⟩ := Prod.mk.inj (Option.some.inj h)
                  exact am_AW.ret ok_Tape_readCuts rfl rfl rfl (by decide)
                · rw [if_neg c34] at h
                  refine am_AW.run am_base_ok ok_Tape_readCuts (Nat.le_add_left 1 d) 1 (pc1 := 120) (ls1 := [some (.ref 2), some (.int x1), some (.int (q15.2.1 2 8))]) (st1 := [.ref 2]) (σ1 := (S0, q33.2)) rfl ?_
                  obtain ⟨q37, hq37, h⟩ := Option.bind_eq_some_iff.mp h
                  refine am_AW.callV ok_Tape_readCuts am_nw_ok (As := []) (rest := []) rfl rfl rfl oR_Tape_next lk_Tape_54 iM_Tape_next sE_Tape_next (qc := kq8) rfl rfl rfl rfl (Nat.le_of_ble_eq_true rfl) (f_Tape_next_ok (d := d) (by omega)  hq37) ?_
                  change am_AW am_nw ro (d + 1) mr_Tape_readCuts 123 [some (.ref 2), some (.int x1), some (.int (q15.2.1 2 8))] [] (S0, q37) (some (.int r)) (S0, m')
                  refine am_AW.run am_base_ok ok_Tape_readCuts (Nat.le_add_left 1 d) 2 (pc1 := 126) (ls1 := [some (.ref 2), some (.int x1), some (.int (q15.2.1 2 8))]) (st1 := [.int (59 : Int32), .ref 2]) (σ1 := (S0, q37)) rfl ?_
                  obtain ⟨q40, hq40, h⟩ := Option.bind_eq_some_iff.mp h
                  refine am_AW.callV ok_Tape_readCuts am_nw_ok (As := [.int (59 : Int32)]) (rest := []) rfl rfl rfl oR_Tape_isSign lk_Tape_81 iM_Tape_isSign sE_Tape_isSign (qc := kq8) rfl rfl rfl rfl (Nat.le_of_ble_eq_true rfl) (f_Tape_isSign_ok (d := d) (by omega) (59 : Int32) hq40) ?_
                  change am_AW am_nw ro (d + 1) mr_Tape_readCuts 129 [some (.ref 2), some (.int x1), some (.int (q15.2.1 2 8))] [.int q40.1] (S0, q40.2) (some (.int r)) (S0, m')
                  refine am_AW.brN ok_Tape_readCuts rfl rfl am_c_ne (fun c41 => ?_) (fun c41 => ?_)
                  · rw [if_pos c41] at h
                    refine am_AW.run am_base_ok ok_Tape_readCuts (Nat.le_add_left 1 d) 1 (pc1 := 133) (ls1 := [some (.ref 2), some (.int x1), some (.int (q15.2.1 2 8))]) (st1 := [.int (0 : Int32)]) (σ1 := (S0, q40.2)) rfl ?_
                    obtain ⟨rfl, rfl⟩ := Prod.mk.inj (Option.some.inj h)
                    exact am_AW.ret ok_Tape_readCuts rfl rfl rfl (by decide)
                  · rw [if_neg c41] at h
                    refine am_AW.run am_base_ok ok_Tape_readCuts (Nat.le_add_left 1 d) 1 (pc1 := 135) (ls1 := [some (.ref 2), some (.int x1), some (.int (q15.2.1 2 8))]) (st1 := [.ref 2]) (σ1 := (S0, q40.2)) rfl ?_
                    obtain ⟨q44, hq44, h⟩ := Option.bind_eq_some_iff.mp h
                    refine am_AW.callV ok_Tape_readCuts am_nw_ok (As := []) (rest := []) rfl rfl rfl oR_Tape_next lk_Tape_54 iM_Tape_next sE_Tape_next (qc := kq8) rfl rfl rfl rfl (Nat.le_of_ble_eq_true rfl) (f_Tape_next_ok (d := d) (by omega)  hq44) ?_
                    change am_AW am_nw ro (d + 1) mr_Tape_readCuts 138 [some (.ref 2), some (.int x1), some (.int (q15.2.1 2 8))] [] (S0, q44) (some (.int r)) (S0, m')
                    refine am_AW.run am_base_ok ok_Tape_readCuts (Nat.le_add_left 1 d) 2 (pc1 := 16) (ls1 := [some (.ref 2), some (.int (x1 + (1 : Int32))), some (.int (q15.2.1 2 8))]) (st1 := []) (σ1 := (S0, q44)) rfl ?_
                    exact am_AW.weak (ih (x1 + (1 : Int32))  _ _ _ h) (by simp only [am_le, and_self])
set_option maxHeartbeats 4000000 in
set_option maxRecDepth 100000 in
theorem f_Tape_readCuts_b16_ok {ro : am_Ro} {d : Nat} (hd : 4 ≤ d + 1) (x1 : Int32) {m m' : am_Mm} {r : Int32} {n : Nat} (h : f_Tape_readCuts_b16 n x1 m = some (r, m')) : am_AW am_nw ro (d + 1) mr_Tape_readCuts 16 [some (.ref 2), some (.int x1), none] [] (S0, m) (some (.int r)) (S0, m') :=
  f_Tape_readCuts_b16_all hd n x1  m m' r h
set_option maxHeartbeats 4000000 in
set_option maxRecDepth 100000 in
theorem f_Tape_readCuts_ok {ro : am_Ro} {d : Nat} (hd : 4 ≤ d) {m m' : am_Mm} {r : Int32} (h : f_Tape_readCuts  m = some (r, m')) : am_Mt am_nw ro d mr_Tape_readCuts [.ref 2] (S0, m) (some (.int r)) (S0, m') := by
  obtain ⟨d, rfl⟩ : ∃ d0, d = d0 + 1 := ⟨d - 1, by omega⟩
  refine am_Mt.of (by decide +kernel) (Nat.le_of_ble_eq_true rfl) ?_
  change am_AW am_nw ro (d + 1) mr_Tape_readCuts 0 [some (.ref 2), none, none] [] (S0, m) (some (.int r)) (S0, m')
  unfold f_Tape_readCuts at h
  refine am_AW.run am_base_ok ok_Tape_readCuts (Nat.le_add_left 1 d) 5 (pc1 := 11) (ls1 := [some (.ref 2), none, none]) (st1 := [.int (m.1 3 2), .ref 6]) (σ1 := (S0, m)) rfl ?_
  obtain ⟨q3, hq3, h⟩ := Option.bind_eq_some_iff.mp h
  refine am_AW.callV ok_Tape_readCuts am_nw_ok (As := [.int (m.1 3 2)]) (rest := []) rfl rfl rfl oR_Ring_layOut lk_Tape_84 iM_Ring_layOut sE_Ring_layOut (qc := kq6) rfl rfl rfl rfl (Nat.le_of_ble_eq_true rfl) (f_Ring_layOut_ok (d := d) (by omega) 6 (m.1 3 2) (by simp) hq3) ?_
  change am_AW am_nw ro (d + 1) mr_Tape_readCuts 14 [some (.ref 2), none, none] [] (S0, q3) (some (.int r)) (S0, m')
  refine am_AW.run am_base_ok ok_Tape_readCuts (Nat.le_add_left 1 d) 2 (pc1 := 16) (ls1 := [some (.ref 2), some (.int (0 : Int32)), none]) (st1 := []) (σ1 := (S0, q3)) rfl ?_
  exact am_AW.weak (f_Tape_readCuts_b16_ok hd (0 : Int32)  h) (by simp only [am_le, and_self])
/-! FriezePolygons.cut(II)I -/
def f_C_cut (x1 : Int32) (x2 : Int32) (m : am_Mm) : Option (Int32 × am_Mm) :=
  (f_Ring_numberOf 20 x1 x2 m).bind fun q3 =>
  if (0 : Int32) ≤ q3.1 then
    (f_Ring_isFree 20 (q3.2.1 13 3) q3.1 q3.2).bind fun q7 =>
    if q7.1 = (0 : Int32) then
      some ((-1000002 : Int32), q7.2)
    else
      (f_C_layCuts ((q7.2.1 13 3) ||| (am_shl (1 : Int32) q3.1)) q7.2).bind fun q11 =>
      (f_Integer_bitCount (q11.1 13 3) q11).bind fun q14 =>
      some (q14.1, q14.2)
  else
    some ((-1000001 : Int32), q3.2)
set_option maxHeartbeats 4000000 in
set_option maxRecDepth 100000 in
theorem f_C_cut_ok {ro : am_Ro} {d : Nat} (hd : 4 ≤ d) (x1 : Int32) (x2 : Int32) {m m' : am_Mm} {r : Int32} (h : f_C_cut x1 x2 m = some (r, m')) : am_Mt am_nw ro d mr_C_cut [.ref 0, .int x1, .int x2] (S0, m) (some (.int r)) (S0, m') := by
  obtain ⟨d, rfl⟩ : ∃ d0, d = d0 + 1 := ⟨d - 1, by omega⟩
  refine am_Mt.of (by decide +kernel) (Nat.le_of_ble_eq_true rfl) ?_
  change am_AW am_nw ro (d + 1) mr_C_cut 0 [some (.ref 0), some (.int x1), some (.int x2), none] [] (S0, m) (some (.int r)) (S0, m')
  unfold f_C_cut at h
  refine am_AW.run am_base_ok ok_C_cut (Nat.le_add_left 1 d) 4 (pc1 := 6) (ls1 := [some (.ref 0), some (.int x1), some (.int x2), none]) (st1 := [.int x2, .int x1, .ref 20]) (σ1 := (S0, m)) rfl ?_
  obtain ⟨q3, hq3, h⟩ := Option.bind_eq_some_iff.mp h
  refine am_AW.callV ok_C_cut am_nw_ok (As := [.int x1, .int x2]) (rest := []) rfl rfl rfl oR_Ring_numberOf lk_C_167 iM_Ring_numberOf sE_Ring_numberOf (qc := kq6) rfl rfl rfl rfl (Nat.le_of_ble_eq_true rfl) (f_Ring_numberOf_ok (d := d) (by omega) 20 x1 x2 (by simp) hq3) ?_
  change am_AW am_nw ro (d + 1) mr_C_cut 9 [some (.ref 0), some (.int x1), some (.int x2), none] [.int q3.1] (S0, q3.2) (some (.int r)) (S0, m')
  refine am_AW.run am_base_ok ok_C_cut (Nat.le_add_left 1 d) 2 (pc1 := 11) (ls1 := [some (.ref 0), some (.int x1), some (.int x2), some (.int q3.1)]) (st1 := [.int q3.1]) (σ1 := (S0, q3.2)) rfl ?_
  refine am_AW.brP ok_C_cut rfl rfl am_c_ge (fun c4 => ?_) (fun c4 => ?_)
  · rw [if_pos c4] at h
    refine am_AW.run am_base_ok ok_C_cut (Nat.le_add_left 1 d) 6 (pc1 := 29) (ls1 := [some (.ref 0), some (.int x1), some (.int x2), some (.int q3.1)]) (st1 := [.int q3.1, .int (q3.2.1 13 3), .ref 20]) (σ1 := (S0, q3.2)) rfl ?_
    obtain ⟨q7, hq7, h⟩ := Option.bind_eq_some_iff.mp h
    refine am_AW.callV ok_C_cut am_nw_ok (As := [.int (q3.2.1 13 3), .int q3.1]) (rest := []) rfl rfl rfl oR_Ring_isFree lk_C_173 iM_Ring_isFree sE_Ring_isFree (qc := kq6) rfl rfl rfl rfl (Nat.le_of_ble_eq_true rfl) (f_Ring_isFree_ok (d := d) (by omega) 20 (q3.2.1 13 3) q3.1 (by simp) hq7) ?_
    change am_AW am_nw ro (d + 1) mr_C_cut 32 [some (.ref 0), some (.int x1), some (.int x2), some (.int q3.1)] [.int q7.1] (S0, q7.2) (some (.int r)) (S0, m')
    refine am_AW.brN ok_C_cut rfl rfl am_c_ne (fun c8 => ?_) (fun c8 => ?_)
    · rw [if_pos c8] at h
      refine am_AW.run am_base_ok ok_C_cut (Nat.le_add_left 1 d) 1 (pc1 := 37) (ls1 := [some (.ref 0), some (.int x1), some (.int x2), some (.int q3.1)]) (st1 := [.int (-1000002 : Int32)]) (σ1 := (S0, q7.2)) rfl ?_
      obtain ⟨rfl, rfl⟩ := Prod.mk.inj (Option.some.inj h)
      exact am_AW.ret ok_C_cut rfl rfl rfl rfl
    · rw [if_neg c8] at h
      refine am_AW.run am_base_ok ok_C_cut (Nat.le_add_left 1 d) 8 (pc1 := 50) (ls1 := [some (.ref 0), some (.int x1), some (.int x2), some (.int q3.1)]) (st1 := [.int ((q7.2.1 13 3) ||| (am_shl (1 : Int32) q3.1)), .ref 0]) (σ1 := (S0, q7.2)) rfl ?_
      obtain ⟨q11, hq11, h⟩ := Option.bind_eq_some_iff.mp h
      refine am_AW.callV ok_C_cut am_nw_ok (As := [.int ((q7.2.1 13 3) ||| (am_shl (1 : Int32) q3.1))]) (rest := []) rfl rfl rfl oR_C_layCuts lk_C_176 iM_C_layCuts sE_C_layCuts (qc := kq9) rfl rfl rfl rfl (Nat.le_of_ble_eq_true rfl) (f_C_layCuts_ok (d := d) (by omega) ((q7.2.1 13 3) ||| (am_shl (1 : Int32) q3.1)) hq11) ?_
      change am_AW am_nw ro (d + 1) mr_C_cut 53 [some (.ref 0), some (.int x1), some (.int x2), some (.int q3.1)] [] (S0, q11) (some (.int r)) (S0, m')
      refine am_AW.run am_base_ok ok_C_cut (Nat.le_add_left 1 d) 3 (pc1 := 60) (ls1 := [some (.ref 0), some (.int x1), some (.int x2), some (.int q3.1)]) (st1 := [.int (q11.1 13 3)]) (σ1 := (S0, q11)) rfl ?_
      obtain ⟨q14, hq14, h⟩ := Option.bind_eq_some_iff.mp h
      refine am_AW.callS ok_C_cut am_nw_ok (As := [.int (q11.1 13 3)]) (rest := []) rfl rfl rfl oR_Integer_bitCount lk_C_180 sT_Integer_bitCount rfl (Nat.le_of_ble_eq_true rfl) (f_Integer_bitCount_ok (d := d) (by omega) (q11.1 13 3) hq14) ?_
      change am_AW am_nw ro (d + 1) mr_C_cut 63 [some (.ref 0), some (.int x1), some (.int x2), some (.int q3.1)] [.int q14.1] (S0, q14.2) (some (.int r)) (S0, m')
      obtain ⟨rfl, rfl⟩ := Prod.mk.inj (Option.some.inj h)
      exact am_AW.ret ok_C_cut rfl rfl rfl rfl
  · rw [if_neg c4] at h
    refine am_AW.run am_base_ok ok_C_cut (Nat.le_add_left 1 d) 1 (pc1 := 16) (ls1 := [some (.ref 0), some (.int x1), some (.int x2), some (.int q3.1)]) (st1 := [.int (-1000001 : Int32)]) (σ1 := (S0, q3.2)) rfl ?_
    obtain ⟨rfl, rfl⟩ := Prod.mk.inj (Option.some.inj h)
    exact am_AW.ret ok_C_cut rfl rfl rfl rfl
/-! FriezePolygons.join(I)I -/
def f_C_join (x1 : Int32) (m : am_Mm) : Option (Int32 × am_Mm) :=
  (f_Ring_isNumber 20 x1 m).bind fun q3 =>
  if q3.1 = (0 : Int32) then
    some ((-1000001 : Int32), q3.2)
  else
    (f_Figure_hasCut x1 q3.2).bind fun q7 =>
    if q7.1 = (0 : Int32) then
      some ((-1000002 : Int32), q7.2)
    else
      (f_C_layCuts ((q7.2.1 13 3) &&& ((am_shl (1 : Int32) x1) ^^^ (-1 : Int32))) q7.2).bind fun q11 =>
      (f_Integer_bitCount (q11.1 13 3) q11).bind fun q14 =>
      some (q14.1, q14.2)
set_option maxHeartbeats 4000000 in
set_option maxRecDepth 100000 in
theorem f_C_join_ok {ro : am_Ro} {d : Nat} (hd : 4 ≤ d) (x1 : Int32) {m m' : am_Mm} {r : Int32} (h : f_C_join x1 m = some (r, m')) : am_Mt am_nw ro d mr_C_join [.ref 0, .int x1] (S0, m) (some (.int r)) (S0, m') := by
  obtain ⟨d, rfl⟩ : ∃ d0, d = d0 + 1 := ⟨d - 1, by omega⟩
  refine am_Mt.of (by decide +kernel) (Nat.le_of_ble_eq_true rfl) ?_
  change am_AW am_nw ro (d + 1) mr_C_join 0 [some (.ref 0), some (.int x1)] [] (S0, m) (some (.int r)) (S0, m')
  unfold f_C_join at h
  refine am_AW.run am_base_ok ok_C_join (Nat.le_add_left 1 d) 3 (pc1 := 5) (ls1 := [some (.ref 0), some (.int x1)]) (st1 := [.int x1, .ref 20]) (σ1 := (S0, m)) rfl ?_
  obtain ⟨q3, hq3, h⟩ := Option.bind_eq_some_iff.mp h
  refine am_AW.callV ok_C_join am_nw_ok (As := [.int x1]) (rest := []) rfl rfl rfl oR_Ring_isNumber lk_C_185 iM_Ring_isNumber sE_Ring_isNumber (qc := kq6) rfl rfl rfl rfl (Nat.le_of_ble_eq_true rfl) (f_Ring_isNumber_ok (d := d) (by omega) 20 x1 (by simp) hq3) ?_
  change am_AW am_nw ro (d + 1) mr_C_join 8 [some (.ref 0), some (.int x1)] [.int q3.1] (S0, q3.2) (some (.int r)) (S0, m')
  refine am_AW.brN ok_C_join rfl rfl am_c_ne (fun c4 => ?_) (fun c4 => ?_)
  · rw [if_pos c4] at h
    refine am_AW.run am_base_ok ok_C_join (Nat.le_add_left 1 d) 1 (pc1 := 13) (ls1 := [some (.ref 0), some (.int x1)]) (st1 := [.int (-1000001 : Int32)]) (σ1 := (S0, q3.2)) rfl ?_
    obtain ⟨rfl, rfl⟩ := Prod.mk.inj (Option.some.inj h)
    exact am_AW.ret ok_C_join rfl rfl rfl rfl
  · rw [if_neg c4] at h
    refine am_AW.run am_base_ok ok_C_join (Nat.le_add_left 1 d) 3 (pc1 := 19) (ls1 := [some (.ref 0), some (.int x1)]) (st1 := [.int x1, .ref 13]) (σ1 := (S0, q3.2)) rfl ?_
    obtain ⟨q7, hq7, h⟩ := Option.bind_eq_some_iff.mp h
    refine am_AW.callV ok_C_join am_nw_ok (As := [.int x1]) (rest := []) rfl rfl rfl oR_Figure_hasCut lk_C_188 iM_Figure_hasCut sE_Figure_hasCut (qc := kq3) rfl rfl rfl rfl (Nat.le_of_ble_eq_true rfl) (f_Figure_hasCut_ok (d := d) (by omega) x1 hq7) ?_
    change am_AW am_nw ro (d + 1) mr_C_join 22 [some (.ref 0), some (.int x1)] [.int q7.1] (S0, q7.2) (some (.int r)) (S0, m')
    refine am_AW.brN ok_C_join rfl rfl am_c_ne (fun c8 => ?_) (fun c8 => ?_)
    · rw [if_pos c8] at h
      refine am_AW.run am_base_ok ok_C_join (Nat.le_add_left 1 d) 1 (pc1 := 27) (ls1 := [some (.ref 0), some (.int x1)]) (st1 := [.int (-1000002 : Int32)]) (σ1 := (S0, q7.2)) rfl ?_
      obtain ⟨rfl, rfl⟩ := Prod.mk.inj (Option.some.inj h)
      exact am_AW.ret ok_C_join rfl rfl rfl rfl
    · rw [if_neg c8] at h
      refine am_AW.run am_base_ok ok_C_join (Nat.le_add_left 1 d) 10 (pc1 := 42) (ls1 := [some (.ref 0), some (.int x1)]) (st1 := [.int ((q7.2.1 13 3) &&& ((am_shl (1 : Int32) x1) ^^^ (-1 : Int32))), .ref 0]) (σ1 := (S0, q7.2)) rfl ?_
      obtain ⟨q11, hq11, h⟩ := Option.bind_eq_some_iff.mp h
      refine am_AW.callV ok_C_join am_nw_ok (As := [.int ((q7.2.1 13 3) &&& ((am_shl (1 : Int32) x1) ^^^ (-1 : Int32)))]) (rest := []) rfl rfl rfl oR_C_layCuts lk_C_176 iM_C_layCuts sE_C_layCuts (qc := kq9) rfl rfl rfl rfl (Nat.le_of_ble_eq_true rfl) (f_C_layCuts_ok (d := d) (by omega) ((q7.2.1 13 3) &&& ((am_shl (1 : Int32) x1) ^^^ (-1 : Int32))) hq11) ?_
      change am_AW am_nw ro (d + 1) mr_C_join 45 [some (.ref 0), some (.int x1)] [] (S0, q11) (some (.int r)) (S0, m')
      refine am_AW.run am_base_ok ok_C_join (Nat.le_add_left 1 d) 3 (pc1 := 52) (ls1 := [some (.ref 0), some (.int x1)]) (st1 := [.int (q11.1 13 3)]) (σ1 := (S0, q11)) rfl ?_
      obtain ⟨q14, hq14, h⟩ := Option.bind_eq_some_iff.mp h
      refine am_AW.callS ok_C_join am_nw_ok (As := [.int (q11.1 13 3)]) (rest := []) rfl rfl rfl oR_Integer_bitCount lk_C_180 sT_Integer_bitCount rfl (Nat.le_of_ble_eq_true rfl) (f_Integer_bitCount_ok (d := d) (by omega) (q11.1 13 3) hq14) ?_
      change am_AW am_nw ro (d + 1) mr_C_join 55 [some (.ref 0), some (.int x1)] [.int q14.1] (S0, q14.2) (some (.int r)) (S0, m')
      obtain ⟨rfl, rfl⟩ := Prod.mk.inj (Option.some.inj h)
      exact am_AW.ret ok_C_join rfl rfl rfl rfl
/-! FriezePolygons.corner(II)I -/
def f_C_corner (x1 : Int32) (x2 : Int32) (m : am_Mm) : Option (Int32 × am_Mm) :=
  (f_C_isCorner x1 m).bind fun q3 =>
  if q3.1 = (0 : Int32) then
    some ((-1000001 : Int32), q3.2)
  else
    if x2 = (0 : Int32) then
      (f_Figure_countOf 13 x1 q3.2).bind fun q8 =>
      some (q8.1, q8.2)
    else
      if x2 = (1 : Int32) then
        if am_in x1 9 = true then
          some ((q3.2.1 15 x1.toNatClampNeg), q3.2)
        else none
      else
        if x2 = (2 : Int32) then
          (f_Ring_cutsAt (q3.2.1 13 3) x1 q3.2).bind fun q14 =>
          some (q14.1, q14.2)
        else
          if x2 = (3 : Int32) then
            (f_Ring_endsOf (q3.2.1 13 3) x1 q3.2).bind fun q18 =>
            some (q18.1, q18.2)
          else
            some ((-1000001 : Int32), q3.2)
set_option maxHeartbeats 4000000 in
set_option maxRecDepth 100000 in
theorem f_C_corner_ok {ro : am_Ro} {d : Nat} (hd : 4 ≤ d) (x1 : Int32) (x2 : Int32) {m m' : am_Mm} {r : Int32} (h : f_C_corner x1 x2 m = some (r, m')) : am_Mt am_nw ro d mr_C_corner [.ref 0, .int x1, .int x2] (S0, m) (some (.int r)) (S0, m') := by
  obtain ⟨d, rfl⟩ : ∃ d0, d = d0 + 1 := ⟨d - 1, by omega⟩
  refine am_Mt.of (by decide +kernel) (Nat.le_of_ble_eq_true rfl) ?_
  change am_AW am_nw ro (d + 1) mr_C_corner 0 [some (.ref 0), some (.int x1), some (.int x2)] [] (S0, m) (some (.int r)) (S0, m')
  unfold f_C_corner at h
  refine am_AW.run am_base_ok ok_C_corner (Nat.le_add_left 1 d) 2 (pc1 := 2) (ls1 := [some (.ref 0), some (.int x1), some (.int x2)]) (st1 := [.int x1, .ref 0]) (σ1 := (S0, m)) rfl ?_
  obtain ⟨q3, hq3, h⟩ := Option.bind_eq_some_iff.mp h
  refine am_AW.callV ok_C_corner am_nw_ok (As := [.int x1]) (rest := []) rfl rfl rfl oR_C_isCorner lk_C_201 iM_C_isCorner sE_C_isCorner (qc := kq9) rfl rfl rfl rfl (Nat.le_of_ble_eq_true rfl) (f_C_isCorner_ok (d := d) (by omega) x1 hq3) ?_
  change am_AW am_nw ro (d + 1) mr_C_corner 5 [some (.ref 0), some (.int x1), some (.int x2)] [.int q3.1] (S0, q3.2) (some (.int r)) (S0, m')
  refine am_AW.brN ok_C_corner rfl rfl am_c_ne (fun c4 => ?_) (fun c4 => ?_)
  · rw [if_pos c4] at h
    refine am_AW.run am_base_ok ok_C_corner (Nat.le_add_left 1 d) 1 (pc1 := 10) (ls1 := [some (.ref 0), some (.int x1), some (.int x2)]) (st1 := [.int (-1000001 : Int32)]) (σ1 := (S0, q3.2)) rfl ?_
    obtain ⟨rfl, rfl⟩ := Prod.mk.inj (Option.some.inj h)
    exact am_AW.ret ok_C_corner rfl rfl rfl rfl
  · rw [if_neg c4] at h
    refine am_AW.run am_base_ok ok_C_corner (Nat.le_add_left 1 d) 1 (pc1 := 12) (ls1 := [some (.ref 0), some (.int x1), some (.int x2)]) (st1 := [.int x2]) (σ1 := (S0, q3.2)) rfl ?_
    by_cases c5 : x2 = (0 : Int32)
    · rw [if_pos c5] at h
      refine am_AW.sw ok_C_corner rfl (t := 44) (by rw [c5]; decide +kernel) ?_
      refine am_AW.run am_base_ok ok_C_corner (Nat.le_add_left 1 d) 5 (pc1 := 53) (ls1 := [some (.ref 0), some (.int x1), some (.int x2)]) (st1 := [.ref 20, .int x1, .ref 13]) (σ1 := (S0, q3.2)) rfl ?_
      obtain ⟨q8, hq8, h⟩ := Option.bind_eq_some_iff.mp h
      refine am_AW.callV ok_C_corner am_nw_ok (As := [.int x1, .ref 20]) (rest := []) rfl rfl rfl oR_Figure_countOf lk_C_222 iM_Figure_countOf sE_Figure_countOf (qc := kq3) rfl rfl rfl rfl (Nat.le_of_ble_eq_true rfl) (f_Figure_countOf_ok (d := d) (by omega) 13 x1 (by simp) hq8) ?_
      change am_AW am_nw ro (d + 1) mr_C_corner 56 [some (.ref 0), some (.int x1), some (.int x2)] [.int q8.1] (S0, q8.2) (some (.int r)) (S0, m')
      obtain ⟨rfl, rfl⟩ := Prod.mk.inj (Option.some.inj h)
      exact am_AW.ret ok_C_corner rfl rfl rfl rfl
    rw [if_neg c5] at h
    by_cases c9 : x2 = (1 : Int32)
    · rw [if_pos c9] at h
      refine am_AW.sw ok_C_corner rfl (t := 57) (by rw [c9]; decide +kernel) ?_
      refine am_AW.run am_base_ok ok_C_corner (Nat.le_add_left 1 d) 4 (pc1 := 65) (ls1 := [some (.ref 0), some (.int x1), some (.int x2)]) (st1 := [.int x1, .ref 15]) (σ1 := (S0, q3.2)) rfl ?_
      by_cases g10 : am_in x1 9 = true
      rotate_left
      · rw [if_neg g10] at h
        cases h
      rw [if_pos g10] at h
      refine am_AW.iald ok_C_corner (Nat.le_add_left 1 d) S0_len rfl rfl g10 ?_
      obtain ⟨rfl, rfl⟩ := Prod.mk.inj (Option.some.inj h)
      exact am_AW.ret ok_C_corner rfl rfl rfl rfl
    rw [if_neg c9] at h
    by_cases c11 : x2 = (2 : Int32)
    · rw [if_pos c11] at h
      refine am_AW.sw ok_C_corner rfl (t := 67) (by rw [c11]; decide +kernel) ?_
      refine am_AW.run am_base_ok ok_C_corner (Nat.le_add_left 1 d) 6 (pc1 := 79) (ls1 := [some (.ref 0), some (.int x1), some (.int x2)]) (st1 := [.int x1, .int (q3.2.1 13 3), .ref 20]) (σ1 := (S0, q3.2)) rfl ?_
      obtain ⟨q14, hq14, h⟩ := Option.bind_eq_some_iff.mp h
      refine am_AW.callV ok_C_corner am_nw_ok (As := [.int (q3.2.1 13 3), .int x1]) (rest := []) rfl rfl rfl oR_Ring_cutsAt lk_C_226 iM_Ring_cutsAt sE_Ring_cutsAt (qc := kq6) rfl rfl rfl rfl (Nat.le_of_ble_eq_true rfl) (f_Ring_cutsAt_ok (d := d) (by omega) (q3.2.1 13 3) x1 hq14) ?_
      change am_AW am_nw ro (d + 1) mr_C_corner 82 [some (.ref 0), some (.int x1), some (.int x2)] [.int q14.1] (S0, q14.2) (some (.int r)) (S0, m')
      obtain ⟨rfl, rfl⟩ := Prod.mk.inj (Option.some.inj h)
      exact am_AW.ret ok_C_corner rfl rfl rfl rfl
    rw [if_neg c11] at h
    by_cases c15 : x2 = (3 : Int32)
    · rw [if_pos c15] at h
      refine am_AW.sw ok_C_corner rfl (t := 83) (by rw [c15]; decide +kernel) ?_
      refine am_AW.run am_base_ok ok_C_corner (Nat.le_add_left 1 d) 6 (pc1 := 95) (ls1 := [some (.ref 0), some (.int x1), some (.int x2)]) (st1 := [.int x1, .int (q3.2.1 13 3), .ref 20]) (σ1 := (S0, q3.2)) rfl ?_
      obtain ⟨q18, hq18, h⟩ := Option.bind_eq_some_iff.mp h
      refine am_AW.callV ok_C_corner am_nw_ok (As := [.int (q3.2.1 13 3), .int x1]) (rest := []) rfl rfl rfl oR_Ring_endsOf lk_C_229 iM_Ring_endsOf sE_Ring_endsOf (qc := kq6) rfl rfl rfl rfl (Nat.le_of_ble_eq_true rfl) (f_Ring_endsOf_ok (d := d) (by omega) (q3.2.1 13 3) x1 hq18) ?_
      change am_AW am_nw ro (d + 1) mr_C_corner 98 [some (.ref 0), some (.int x1), some (.int x2)] [.int q18.1] (S0, q18.2) (some (.int r)) (S0, m')
      obtain ⟨rfl, rfl⟩ := Prod.mk.inj (Option.some.inj h)
      exact am_AW.ret ok_C_corner rfl rfl rfl rfl
    rw [if_neg c15] at h
    have o19 : (x2).toInt < 0 ∨ 3 < (x2).toInt := by
      have := lv_neT c5 (a := 0) (by decide)
      have := lv_neT c9 (a := 1) (by decide)
      have := lv_neT c11 (a := 2) (by decide)
      have := lv_neT c15 (a := 3) (by decide)
      omega
    refine am_AW.sw ok_C_corner rfl (t := 99) (by simp only [am_sw, if_pos o19]; decide +kernel) ?_
    refine am_AW.run am_base_ok ok_C_corner (Nat.le_add_left 1 d) 1 (pc1 := 101) (ls1 := [some (.ref 0), some (.int x1), some (.int x2)]) (st1 := [.int (-1000001 : Int32)]) (σ1 := (S0, q3.2)) rfl ?_
    obtain ⟨rfl, rfl⟩ := Prod.mk.inj (Option.some.inj h)
    exact am_AW.ret ok_C_corner rfl rfl rfl rfl
/-! FriezePolygons.piece(I)I -/
def f_C_piece (x1 : Int32) (m : am_Mm) : Option (Int32 × am_Mm) :=
  (f_C_isCorner x1 m).bind fun q3 =>
  if q3.1 = (0 : Int32) then
    some ((-1000001 : Int32), q3.2)
  else
    (f_Ring_pieceAt (q3.2.1 13 3) x1 q3.2).bind fun q7 =>
    some (q7.1, q7.2)
set_option maxHeartbeats 4000000 in
set_option maxRecDepth 100000 in
theorem f_C_piece_ok {ro : am_Ro} {d : Nat} (hd : 4 ≤ d) (x1 : Int32) {m m' : am_Mm} {r : Int32} (h : f_C_piece x1 m = some (r, m')) : am_Mt am_nw ro d mr_C_piece [.ref 0, .int x1] (S0, m) (some (.int r)) (S0, m') := by
  obtain ⟨d, rfl⟩ : ∃ d0, d = d0 + 1 := ⟨d - 1, by omega⟩
  refine am_Mt.of (by decide +kernel) (Nat.le_of_ble_eq_true rfl) ?_
  change am_AW am_nw ro (d + 1) mr_C_piece 0 [some (.ref 0), some (.int x1)] [] (S0, m) (some (.int r)) (S0, m')
  unfold f_C_piece at h
  refine am_AW.run am_base_ok ok_C_piece (Nat.le_add_left 1 d) 2 (pc1 := 2) (ls1 := [some (.ref 0), some (.int x1)]) (st1 := [.int x1, .ref 0]) (σ1 := (S0, m)) rfl ?_
  obtain ⟨q3, hq3, h⟩ := Option.bind_eq_some_iff.mp h
  refine am_AW.callV ok_C_piece am_nw_ok (As := [.int x1]) (rest := []) rfl rfl rfl oR_C_isCorner lk_C_201 iM_C_isCorner sE_C_isCorner (qc := kq9) rfl rfl rfl rfl (Nat.le_of_ble_eq_true rfl) (f_C_isCorner_ok (d := d) (by omega) x1 hq3) ?_
  change am_AW am_nw ro (d + 1) mr_C_piece 5 [some (.ref 0), some (.int x1)] [.int q3.1] (S0, q3.2) (some (.int r)) (S0, m')
  refine am_AW.brP ok_C_piece rfl rfl am_c_eq (fun c4 => ?_) (fun c4 => ?_)
  · rw [if_pos c4] at h
    refine am_AW.run am_base_ok ok_C_piece (Nat.le_add_left 1 d) 1 (pc1 := 28) (ls1 := [some (.ref 0), some (.int x1)]) (st1 := [.int (-1000001 : Int32)]) (σ1 := (S0, q3.2)) rfl ?_
    obtain ⟨rfl, rfl⟩ := Prod.mk.inj (Option.some.inj h)
    exact am_AW.ret ok_C_piece rfl rfl rfl rfl
  · rw [if_neg c4] at h
    refine am_AW.run am_base_ok ok_C_piece (Nat.le_add_left 1 d) 6 (pc1 := 20) (ls1 := [some (.ref 0), some (.int x1)]) (st1 := [.int x1, .int (q3.2.1 13 3), .ref 20]) (σ1 := (S0, q3.2)) rfl ?_
    obtain ⟨q7, hq7, h⟩ := Option.bind_eq_some_iff.mp h
    refine am_AW.callV ok_C_piece am_nw_ok (As := [.int (q3.2.1 13 3), .int x1]) (rest := []) rfl rfl rfl oR_Ring_pieceAt lk_C_267 iM_Ring_pieceAt sE_Ring_pieceAt (qc := kq6) rfl rfl rfl rfl (Nat.le_of_ble_eq_true rfl) (f_Ring_pieceAt_ok (d := d) (by omega) (q3.2.1 13 3) x1 hq7) ?_
    change am_AW am_nw ro (d + 1) mr_C_piece 23 [some (.ref 0), some (.int x1)] [.int q7.1] (S0, q7.2) (some (.int r)) (S0, m')
    refine am_AW.run am_base_ok ok_C_piece (Nat.le_add_left 1 d) 1 (pc1 := 28) (ls1 := [some (.ref 0), some (.int x1)]) (st1 := [.int q7.1]) (σ1 := (S0, q7.2)) rfl ?_
    obtain ⟨rfl, rfl⟩ := Prod.mk.inj (Option.some.inj h)
    exact am_AW.ret ok_C_piece rfl rfl rfl rfl
/-! FriezePolygons.restore(I)I -/
def f_C_restore (x1 : Int32) (m : am_Mm) : Option (Int32 × am_Mm) :=
  if x1 < (0 : Int32) then
    some ((-1000001 : Int32), m)
  else
    if x1 < (2 : Int32) then
      if am_in x1 2 = true then
        if (m.1 (am_im x1) 2) = (0 : Int32) then
          some ((-1000002 : Int32), m)
        else
          if am_in x1 2 = true then
            (f_C_putInPlace (am_im x1) m).bind fun q8 =>
            some ((1 : Int32), q8)
          else none
      else none
    else
      some ((-1000001 : Int32), m)
set_option maxHeartbeats 4000000 in
set_option maxRecDepth 100000 in
theorem f_C_restore_ok {ro : am_Ro} {d : Nat} (hd : 4 ≤ d) (x1 : Int32) {m m' : am_Mm} {r : Int32} (h : f_C_restore x1 m = some (r, m')) : am_Mt am_nw ro d mr_C_restore [.ref 0, .int x1] (S0, m) (some (.int r)) (S0, m') := by
  obtain ⟨d, rfl⟩ : ∃ d0, d = d0 + 1 := ⟨d - 1, by omega⟩
  refine am_Mt.of (by decide +kernel) (Nat.le_of_ble_eq_true rfl) ?_
  change am_AW am_nw ro (d + 1) mr_C_restore 0 [some (.ref 0), some (.int x1)] [] (S0, m) (some (.int r)) (S0, m')
  unfold f_C_restore at h
  refine am_AW.run am_base_ok ok_C_restore (Nat.le_add_left 1 d) 1 (pc1 := 1) (ls1 := [some (.ref 0), some (.int x1)]) (st1 := [.int x1]) (σ1 := (S0, m)) rfl ?_
  refine am_AW.brP ok_C_restore rfl rfl am_c_lt (fun c1 => ?_) (fun c1 => ?_)
  · rw [if_pos c1] at h
    refine am_AW.run am_base_ok ok_C_restore (Nat.le_add_left 1 d) 1 (pc1 := 11) (ls1 := [some (.ref 0), some (.int x1)]) (st1 := [.int (-1000001 : Int32)]) (σ1 := (S0, m)) rfl ?_
    obtain ⟨rfl, rfl⟩ := Prod.mk.inj (Option.some.inj h)
    exact am_AW.ret ok_C_restore rfl rfl rfl rfl
  · rw [if_neg c1] at h
    refine am_AW.run am_base_ok ok_C_restore (Nat.le_add_left 1 d) 2 (pc1 := 6) (ls1 := [some (.ref 0), some (.int x1)]) (st1 := [.int (2 : Int32), .int x1]) (σ1 := (S0, m)) rfl ?_
    refine am_AW.brP ok_C_restore rfl rfl am_c_lt (fun c2 => ?_) (fun c2 => ?_)
    · rw [if_pos c2] at h
      refine am_AW.run am_base_ok ok_C_restore (Nat.le_add_left 1 d) 3 (pc1 := 17) (ls1 := [some (.ref 0), some (.int x1)]) (st1 := [.int x1, .ref 19]) (σ1 := (S0, m)) rfl ?_
      by_cases g3 : am_in x1 2 = true
      rotate_left
      · rw [if_neg g3] at h
        cases h
      rw [if_pos g3] at h
      refine am_AW.aald ok_C_restore (Nat.le_add_left 1 d) rfl (am_im_at g3) ?_
      refine am_AW.geti ok_C_restore (Nat.le_add_left 1 d) rfl (sh_57_60_0 (am_im_in g3)) rfl ?_
      refine am_AW.brN ok_C_restore rfl rfl am_c_ne (fun c4 => ?_) (fun c4 => ?_)
      · rw [if_pos c4] at h
        refine am_AW.run am_base_ok ok_C_restore (Nat.le_add_left 1 d) 1 (pc1 := 26) (ls1 := [some (.ref 0), some (.int x1)]) (st1 := [.int (-1000002 : Int32)]) (σ1 := (S0, m)) rfl ?_
        obtain ⟨rfl, rfl⟩ := Prod.mk.inj (Option.some.inj h)
        exact am_AW.ret ok_C_restore rfl rfl rfl rfl
      · rw [if_neg c4] at h
        refine am_AW.run am_base_ok ok_C_restore (Nat.le_add_left 1 d) 4 (pc1 := 33) (ls1 := [some (.ref 0), some (.int x1)]) (st1 := [.int x1, .ref 19, .ref 0]) (σ1 := (S0, m)) rfl ?_
        by_cases g5 : am_in x1 2 = true
        rotate_left
        · rw [if_neg g5] at h
          cases h
        rw [if_pos g5] at h
        refine am_AW.aald ok_C_restore (Nat.le_add_left 1 d) rfl (am_im_at g5) ?_
        obtain ⟨q8, hq8, h⟩ := Option.bind_eq_some_iff.mp h
        refine am_AW.callV ok_C_restore am_nw_ok (As := [.ref (am_im x1)]) (rest := []) rfl rfl rfl oR_C_putInPlace lk_C_150 iM_C_putInPlace sE_C_putInPlace (qc := kq9) rfl rfl rfl rfl (Nat.le_of_ble_eq_true rfl) (f_C_putInPlace_ok (d := d) (by omega) (am_im x1) (by rcases (am_im_in g5) with h | h <;> simp [h]) hq8) ?_
        change am_AW am_nw ro (d + 1) mr_C_restore 37 [some (.ref 0), some (.int x1)] [] (S0, q8) (some (.int r)) (S0, m')
        refine am_AW.run am_base_ok ok_C_restore (Nat.le_add_left 1 d) 1 (pc1 := 38) (ls1 := [some (.ref 0), some (.int x1)]) (st1 := [.int (1 : Int32)]) (σ1 := (S0, q8)) rfl ?_
        obtain ⟨rfl, rfl⟩ := Prod.mk.inj (Option.some.inj h)
        exact am_AW.ret ok_C_restore rfl rfl rfl rfl
    · rw [if_neg c2] at h
      refine am_AW.run am_base_ok ok_C_restore (Nat.le_add_left 1 d) 1 (pc1 := 11) (ls1 := [some (.ref 0), some (.int x1)]) (st1 := [.int (-1000001 : Int32)]) (σ1 := (S0, m)) rfl ?_
      obtain ⟨rfl, rfl⟩ := Prod.mk.inj (Option.some.inj h)
      exact am_AW.ret ok_C_restore rfl rfl rfl rfl
/-! FriezePolygonsModel.flipped([II)I -/
def f_M_flipped_b129 (k34 : Nat → Int32 → Int32 → Int32 → Int32 → Int32 → Int32 → Int32 → am_Mm → Option (Int32 × am_Mm)) (p0 : Nat) (x1 : Int32) (x2 : Int32) (x3 : Int32) (x4 : Int32) (x5 : Int32) (x7 : Int32) (s0 : Int32) (m : am_Mm) : Option (Int32 × am_Mm) :=
  k34 p0 x1 x2 x3 x4 x5 s0 (x7 + (1 : Int32)) m
def f_M_flipped_b104 (k34 : Nat → Int32 → Int32 → Int32 → Int32 → Int32 → Int32 → Int32 → am_Mm → Option (Int32 × am_Mm)) (p0 : Nat) (x1 : Int32) (x2 : Int32) (x3 : Int32) (x4 : Int32) (x6 : Int32) (x7 : Int32) (x8 : Int32) (s0 : Int32) (m : am_Mm) : Option (Int32 × am_Mm) :=
  if x8 = (0 : Int32) then
    f_M_flipped_b129 k34 p0 x1 x2 x3 x4 s0 x7 x6 m
  else
    (f_M_isBetween x7 x3 x4 m).bind fun q24 =>
    if q24.1 = (0 : Int32) then
      f_M_flipped_b129 k34 p0 x1 x2 x3 x4 s0 x7 x7 q24.2
    else
      f_M_flipped_b129 k34 p0 x1 x2 x3 x4 s0 x7 x6 q24.2
def f_M_flipped_b79 (k34 : Nat → Int32 → Int32 → Int32 → Int32 → Int32 → Int32 → Int32 → am_Mm → Option (Int32 × am_Mm)) (p0 : Nat) (x1 : Int32) (x2 : Int32) (x3 : Int32) (x4 : Int32) (x5 : Int32) (x6 : Int32) (x7 : Int32) (s0 : Int32) (m : am_Mm) : Option (Int32 × am_Mm) :=
  if s0 = (0 : Int32) then
    f_M_flipped_b104 k34 p0 x1 x2 x3 x4 x6 x7 s0 x5 m
  else
    (f_M_isBetween x7 x3 x4 m).bind fun q28 =>
    if q28.1 = (0 : Int32) then
      f_M_flipped_b104 k34 p0 x1 x2 x3 x4 x6 x7 s0 x5 q28.2
    else
      f_M_flipped_b104 k34 p0 x1 x2 x3 x4 x6 x7 s0 x7 q28.2
def f_M_flipped_b34 : Nat → Nat → Int32 → Int32 → Int32 → Int32 → Int32 → Int32 → Int32 → am_Mm → Option (Int32 × am_Mm)
  | 0, _, _, _, _, _, _, _, _, _ => none
  | n + 1, p0, x1, x2, x3, x4, x5, x6, x7, m =>
    if x2 ≤ x7 then
      if x5 = (-1000000 : Int32) then
        some ((-1000000 : Int32), m)
      else
        if x6 = (-1000000 : Int32) then
          some ((-1000000 : Int32), m)
        else
          (f_M_has (m.1 p0 1) x1 m).bind fun q14 =>
          if q14.1 = (0 : Int32) then
            some ((-1000000 : Int32), q14.2)
          else
            (f_M_numberOf x2 x5 x6 q14.2).bind fun q18 =>
            some (q18.1, q18.2)
    else
      if x7 = x3 then
        f_M_flipped_b79 (f_M_flipped_b34 n) p0 x1 x2 x3 x4 x5 x6 x7 (0 : Int32) m
      else
        if x7 = x4 then
          f_M_flipped_b79 (f_M_flipped_b34 n) p0 x1 x2 x3 x4 x5 x6 x7 (0 : Int32) m
        else
          (f_M_isJoined p0 x7 x3 m).bind fun q33 =>
          if q33.1 = (0 : Int32) then
            f_M_flipped_b79 (f_M_flipped_b34 n) p0 x1 x2 x3 x4 x5 x6 x7 (0 : Int32) q33.2
          else
            (f_M_isJoined p0 x7 x4 q33.2).bind fun q37 =>
            if q37.1 = (0 : Int32) then
              f_M_flipped_b79 (f_M_flipped_b34 n) p0 x1 x2 x3 x4 x5 x6 x7 (0 : Int32) q37.2
            else
              f_M_flipped_b79 (f_M_flipped_b34 n) p0 x1 x2 x3 x4 x5 x6 x7 (1 : Int32) q37.2
def f_M_flipped (p0 : Nat) (x1 : Int32) (m : am_Mm) : Option (Int32 × am_Mm) :=
  (f_M_endsOf (m.1 p0 0) x1 m).bind fun q4 =>
  (f_M_endsOf (m.1 p0 0) x1 q4.2).bind fun q7 =>
  f_M_flipped_b34 am_F p0 x1 (m.1 p0 0) (q4.1 / (10 : Int32)) (am_rem q7.1 (10 : Int32)) (-1000000 : Int32) (-1000000 : Int32) (0 : Int32) q7.2
set_option maxHeartbeats 4000000 in
set_option maxRecDepth 100000 in
theorem f_M_flipped_b129_ok {ro : am_Ro} {d : Nat} (hd : 4 ≤ d + 1) {k34 : Nat → Int32 → Int32 → Int32 → Int32 → Int32 → Int32 → Int32 → am_Mm → Option (Int32 × am_Mm)} (hk34 : ∀ (p0 : Nat) (x1 : Int32) (x2 : Int32) (x3 : Int32) (x4 : Int32) (x5 : Int32) (x6 : Int32) (x7 : Int32) (hp0 : p0 = 67 ∨ p0 = 69) (m m' : am_Mm) (r : Int32), k34 p0 x1 x2 x3 x4 x5 x6 x7 m = some (r, m') → am_AW am_nw ro (d + 1) mr_M_flipped 34 [some (.ref p0), some (.int x1), some (.int x2), some (.int x3), some (.int x4), some (.int x5), some (.int x6), some (.int x7), none] [] (S0, m) (some (.int r)) (S0, m')) (p0 : Nat) (x1 : Int32) (x2 : Int32) (x3 : Int32) (x4 : Int32) (x5 : Int32) (x7 : Int32) (s0 : Int32) (hp0 : p0 = 67 ∨ p0 = 69) {m m' : am_Mm} {r : Int32} (h : f_M_flipped_b129 k34 p0 x1 x2 x3 x4 x5 x7 s0 m = some (r, m')) : am_AW am_nw ro (d + 1) mr_M_flipped 129 [some (.ref p0), some (.int x1), some (.int x2), some (.int x3), some (.int x4), some (.int x5), none, some (.int x7), none] [.int s0] (S0, m) (some (.int r)) (S0, m') := by
  unfold f_M_flipped_b129 at h
  refine am_AW.run am_base_ok ok_M_flipped (Nat.le_add_left 1 d) 3 (pc1 := 34) (ls1 := [some (.ref p0), some (.int x1), some (.int x2), some (.int x3), some (.int x4), some (.int x5), some (.int s0), some (.int (x7 + (1 : Int32))), none]) (st1 := []) (σ1 := (S0, m)) rfl ?_
  exact am_AW.weak (hk34 p0 x1 x2 x3 x4 x5 s0 (x7 + (1 : Int32)) hp0 _ _ _ h) (by simp only [am_le, and_self])
set_option maxHeartbeats 4000000 in
set_option maxRecDepth 100000 in
theorem f_M_flipped_b104_ok {ro : am_Ro} {d : Nat} (hd : 4 ≤ d + 1) {k34 : Nat → Int32 → Int32 → Int32 → Int32 → Int32 → Int32 → Int32 → am_Mm → Option (Int32 × am_Mm)} (hk34 : ∀ (p0 : Nat) (x1 : Int32) (x2 : Int32) (x3 : Int32) (x4 : Int32) (x5 : Int32) (x6 : Int32) (x7 : Int32) (hp0 : p0 = 67 ∨ p0 = 69) (m m' : am_Mm) (r : Int32), k34 p0 x1 x2 x3 x4 x5 x6 x7 m = some (r, m') → am_AW am_nw ro (d + 1) mr_M_flipped 34 [some (.ref p0), some (.int x1), some (.int x2), some (.int x3), some (.int x4), some (.int x5), some (.int x6), some (.int x7), none] [] (S0, m) (some (.int r)) (S0, m')) (p0 : Nat) (x1 : Int32) (x2 : Int32) (x3 : Int32) (x4 : Int32) (x6 : Int32) (x7 : Int32) (x8 : Int32) (s0 : Int32) (hp0 : p0 = 67 ∨ p0 = 69) {m m' : am_Mm} {r : Int32} (h : f_M_flipped_b104 k34 p0 x1 x2 x3 x4 x6 x7 x8 s0 m = some (r, m')) : am_AW am_nw ro (d + 1) mr_M_flipped 104 [some (.ref p0), some (.int x1), some (.int x2), some (.int x3), some (.int x4), none, some (.int x6), some (.int x7), some (.int x8)] [.int s0] (S0, m) (some (.int r)) (S0, m') := by
  unfold f_M_flipped_b104 at h
  refine am_AW.run am_base_ok ok_M_flipped (Nat.le_add_left 1 d) 2 (pc1 := 108) (ls1 := [some (.ref p0), some (.int x1), some (.int x2), some (.int x3), some (.int x4), some (.int s0), some (.int x6), some (.int x7), some (.int x8)]) (st1 := [.int x8]) (σ1 := (S0, m)) rfl ?_
  refine am_AW.brP ok_M_flipped rfl rfl am_c_eq (fun c21 => ?_) (fun c21 => ?_)
  · rw [if_pos c21] at h
    refine am_AW.run am_base_ok ok_M_flipped (Nat.le_add_left 1 d) 1 (pc1 := 129) (ls1 := [some (.ref p0), some (.int x1), some (.int x2), some (.int x3), some (.int x4), some (.int s0), some (.int x6), some (.int x7), some (.int x8)]) (st1 := [.int x6]) (σ1 := (S0, m)) rfl ?_
    exact am_AW.weak (f_M_flipped_b129_ok hd (hk34) p0 x1 x2 x3 x4 s0 x7 x6 hp0 h) (by simp only [am_le, and_self])
  · rw [if_neg c21] at h
    refine am_AW.run am_base_ok ok_M_flipped (Nat.le_add_left 1 d) 3 (pc1 := 116) (ls1 := [some (.ref p0), some (.int x1), some (.int x2), some (.int x3), some (.int x4), some (.int s0), some (.int x6), some (.int x7), some (.int x8)]) (st1 := [.int x4, .int x3, .int x7]) (σ1 := (S0, m)) rfl ?_
    obtain ⟨q24, hq24, h⟩ := Option.bind_eq_some_iff.mp h
    refine am_AW.callS ok_M_flipped am_nw_ok (As := [.int x7, .int x3, .int x4]) (rest := []) rfl rfl rfl oR_M_isBetween lk_M_83 sT_M_isBetween rfl (Nat.le_of_ble_eq_true rfl) (f_M_isBetween_ok (d := d) (by omega) x7 x3 x4 hq24) ?_
    change am_AW am_nw ro (d + 1) mr_M_flipped 119 [some (.ref p0), some (.int x1), some (.int x2), some (.int x3), some (.int x4), some (.int s0), some (.int x6), some (.int x7), some (.int x8)] [.int q24.1] (S0, q24.2) (some (.int r)) (S0, m')
    refine am_AW.brN ok_M_flipped rfl rfl am_c_ne (fun c25 => ?_) (fun c25 => ?_)
    · rw [if_pos c25] at h
      refine am_AW.run am_base_ok ok_M_flipped (Nat.le_add_left 1 d) 2 (pc1 := 129) (ls1 := [some (.ref p0), some (.int x1), some (.int x2), some (.int x3), some (.int x4), some (.int s0), some (.int x6), some (.int x7), some (.int x8)]) (st1 := [.int x7]) (σ1 := (S0, q24.2)) rfl ?_
      exact am_AW.weak (f_M_flipped_b129_ok hd (hk34) p0 x1 x2 x3 x4 s0 x7 x7 hp0 h) (by simp only [am_le, and_self])
    · rw [if_neg c25] at h
      refine am_AW.run am_base_ok ok_M_flipped (Nat.le_add_left 1 d) 1 (pc1 := 129) (ls1 := [some (.ref p0), some (.int x1), some (.int x2), some (.int x3), some (.int x4), some (.int s0), some (.int x6), some (.int x7), some (.int x8)]) (st1 := [.int x6]) (σ1 := (S0, q24.2)) rfl ?_
      exact am_AW.weak (f_M_flipped_b129_ok hd (hk34) p0 x1 x2 x3 x4 s0 x7 x6 hp0 h) (by simp only [am_le, and_self])
set_option maxHeartbeats 4000000 in
set_option maxRecDepth 100000 in
theorem f_M_flipped_b79_ok {ro : am_Ro} {d : Nat} (hd : 4 ≤ d + 1) {k34 : Nat → Int32 → Int32 → Int32 → Int32 → Int32 → Int32 → Int32 → am_Mm → Option (Int32 × am_Mm)} (hk34 : ∀ (p0 : Nat) (x1 : Int32) (x2 : Int32) (x3 : Int32) (x4 : Int32) (x5 : Int32) (x6 : Int32) (x7 : Int32) (hp0 : p0 = 67 ∨ p0 = 69) (m m' : am_Mm) (r : Int32), k34 p0 x1 x2 x3 x4 x5 x6 x7 m = some (r, m') → am_AW am_nw ro (d + 1) mr_M_flipped 34 [some (.ref p0), some (.int x1), some (.int x2), some (.int x3), some (.int x4), some (.int x5), some (.int x6), some (.int x7), none] [] (S0, m) (some (.int r)) (S0, m')) (p0 : Nat) (x1 : Int32) (x2 : Int32) (x3 : Int32) (x4 : Int32) (x5 : Int32) (x6 : Int32) (x7 : Int32) (s0 : Int32) (hp0 : p0 = 67 ∨ p0 = 69) {m m' : am_Mm} {r : Int32} (h : f_M_flipped_b79 k34 p0 x1 x2 x3 x4 x5 x6 x7 s0 m = some (r, m')) : am_AW am_nw ro (d + 1) mr_M_flipped 79 [some (.ref p0), some (.int x1), some (.int x2), some (.int x3), some (.int x4), some (.int x5), some (.int x6), some (.int x7), none] [.int s0] (S0, m) (some (.int r)) (S0, m') := by
  unfold f_M_flipped_b79 at h
  refine am_AW.run am_base_ok ok_M_flipped (Nat.le_add_left 1 d) 2 (pc1 := 83) (ls1 := [some (.ref p0), some (.int x1), some (.int x2), some (.int x3), some (.int x4), some (.int x5), some (.int x6), some (.int x7), some (.int s0)]) (st1 := [.int s0]) (σ1 := (S0, m)) rfl ?_
  refine am_AW.brP ok_M_flipped rfl rfl am_c_eq (fun c20 => ?_) (fun c20 => ?_)
  · rw [if_pos c20] at h
    refine am_AW.run am_base_ok ok_M_flipped (Nat.le_add_left 1 d) 1 (pc1 := 104) (ls1 := [some (.ref p0), some (.int x1), some (.int x2), some (.int x3), some (.int x4), some (.int x5), some (.int x6), some (.int x7), some (.int s0)]) (st1 := [.int x5]) (σ1 := (S0, m)) rfl ?_
    exact am_AW.weak (f_M_flipped_b104_ok hd (hk34) p0 x1 x2 x3 x4 x6 x7 s0 x5 hp0 h) (by simp only [am_le, and_self])
  · rw [if_neg c20] at h
    refine am_AW.run am_base_ok ok_M_flipped (Nat.le_add_left 1 d) 3 (pc1 := 91) (ls1 := [some (.ref p0), some (.int x1), some (.int x2), some (.int x3), some (.int x4), some (.int x5), some (.int x6), some (.int x7), some (.int s0)]) (st1 := [.int x4, .int x3, .int x7]) (σ1 := (S0, m)) rfl ?_
    obtain ⟨q28, hq28, h⟩ := Option.bind_eq_some_iff.mp h
    refine am_AW.callS ok_M_flipped am_nw_ok (As := [.int x7, .int x3, .int x4]) (rest := []) rfl rfl rfl oR_M_isBetween lk_M_83 sT_M_isBetween rfl (Nat.le_of_ble_eq_true rfl) (f_M_isBetween_ok (d := d) (by omega) x7 x3 x4 hq28) ?_
    change am_AW am_nw ro (d + 1) mr_M_flipped 94 [some (.ref p0), some (.int x1), some (.int x2), some (.int x3), some (.int x4), some (.int x5), some (.int x6), some (.int x7), some (.int s0)] [.int q28.1] (S0, q28.2) (some (.int r)) (S0, m')
    refine am_AW.brP ok_M_flipped rfl rfl am_c_eq (fun c29 => ?_) (fun c29 => ?_)
    · rw [if_pos c29] at h
      refine am_AW.run am_base_ok ok_M_flipped (Nat.le_add_left 1 d) 1 (pc1 := 104) (ls1 := [some (.ref p0), some (.int x1), some (.int x2), some (.int x3), some (.int x4), some (.int x5), some (.int x6), some (.int x7), some (.int s0)]) (st1 := [.int x5]) (σ1 := (S0, q28.2)) rfl ?_
      exact am_AW.weak (f_M_flipped_b104_ok hd (hk34) p0 x1 x2 x3 x4 x6 x7 s0 x5 hp0 h) (by simp only [am_le, and_self])
    · rw [if_neg c29] at h
      refine am_AW.run am_base_ok ok_M_flipped (Nat.le_add_left 1 d) 2 (pc1 := 104) (ls1 := [some (.ref p0), some (.int x1), some (.int x2), some (.int x3), some (.int x4), some (.int x5), some (.int x6), some (.int x7), some (.int s0)]) (st1 := [.int x7]) (σ1 := (S0, q28.2)) rfl ?_
      exact am_AW.weak (f_M_flipped_b104_ok hd (hk34) p0 x1 x2 x3 x4 x6 x7 s0 x7 hp0 h) (by simp only [am_le, and_self])
set_option maxHeartbeats 4000000 in
set_option maxRecDepth 100000 in
theorem f_M_flipped_b34_all {ro : am_Ro} {d : Nat} (hd : 4 ≤ d + 1) : ∀ (n : Nat) (p0 : Nat) (x1 : Int32) (x2 : Int32) (x3 : Int32) (x4 : Int32) (x5 : Int32) (x6 : Int32) (x7 : Int32) (hp0 : p0 = 67 ∨ p0 = 69) (m m' : am_Mm) (r : Int32), f_M_flipped_b34 n p0 x1 x2 x3 x4 x5 x6 x7 m = some (r, m') → am_AW am_nw ro (d + 1) mr_M_flipped 34 [some (.ref p0), some (.int x1), some (.int x2), some (.int x3), some (.int x4), some (.int x5), some (.int x6), some (.int x7), none] [] (S0, m) (some (.int r)) (S0, m') := by
  intro n
  induction n with
  | zero =>
    intro p0 x1 x2 x3 x4 x5 x6 x7 hp0 m m' r h
    rw [f_M_flipped_b34] at h
    cases h
  | succ n ih =>
    intro p0 x1 x2 x3 x4 x5 x6 x7 hp0 m m' r h
    rw [f_M_flipped_b34] at h
    refine am_AW.run am_base_ok ok_M_flipped (Nat.le_add_left 1 d) 2 (pc1 := 37) (ls1 := [some (.ref p0), some (.int x1), some (.int x2), some (.int x3), some (.int x4), some (.int x5), some (.int x6), some (.int x7), none]) (st1 := [.int x2, .int x7]) (σ1 := (S0, m)) rfl ?_
    refine am_AW.brP ok_M_flipped rfl rfl am_c_ge (fun c8 => ?_) (fun c8 => ?_)
    · rw [if_pos c8] at h
      refine am_AW.run am_base_ok ok_M_flipped (Nat.le_add_left 1 d) 2 (pc1 := 141) (ls1 := [some (.ref p0), some (.int x1), some (.int x2), some (.int x3), some (.int x4), some (.int x5), some (.int x6), some (.int x7), none]) (st1 := [.int (-1000000 : Int32), .int x5]) (σ1 := (S0, m)) rfl ?_
      refine am_AW.brP ok_M_flipped rfl rfl am_c_eq (fun c9 => ?_) (fun c9 => ?_)
      · rw [if_pos c9] at h
        refine am_AW.run am_base_ok ok_M_flipped (Nat.le_add_left 1 d) 2 (pc1 := 174) (ls1 := [some (.ref p0), some (.int x1), some (.int x2), some (.int x3), some (.int x4), some (.int x5), some (.int x6), some (.int x7), none]) (st1 := [.int (-1000000 : Int32)]) (σ1 := (S0, m)) rfl ?_
        obtain ⟨rfl, rfl⟩ := Prod.mk.inj (Option.some.inj h)
        exact am_AW.ret ok_M_flipped rfl rfl rfl rfl
      · rw [if_neg c9] at h
        refine am_AW.run am_base_ok ok_M_flipped (Nat.le_add_left 1 d) 2 (pc1 := 148) (ls1 := [some (.ref p0), some (.int x1), some (.int x2), some (.int x3), some (.int x4), some (.int x5), some (.int x6), some (.int x7), none]) (st1 := [.int (-1000000 : Int32), .int x6]) (σ1 := (S0, m)) rfl ?_
        refine am_AW.brP ok_M_flipped rfl rfl am_c_eq (fun c10 => ?_) (fun c10 => ?_)
        · rw [if_pos c10] at h
          refine am_AW.run am_base_ok ok_M_flipped (Nat.le_add_left 1 d) 2 (pc1 := 174) (ls1 := [some (.ref p0), some (.int x1), some (.int x2), some (.int x3), some (.int x4), some (.int x5), some (.int x6), some (.int x7), none]) (st1 := [.int (-1000000 : Int32)]) (σ1 := (S0, m)) rfl ?_
          obtain ⟨rfl, rfl⟩ := Prod.mk.inj (Option.some.inj h)
          exact am_AW.ret ok_M_flipped rfl rfl rfl rfl
        · rw [if_neg c10] at h
          refine am_AW.run am_base_ok ok_M_flipped (Nat.le_add_left 1 d) 2 (pc1 := 153) (ls1 := [some (.ref p0), some (.int x1), some (.int x2), some (.int x3), some (.int x4), some (.int x5), some (.int x6), some (.int x7), none]) (st1 := [.int (1 : Int32), .ref p0]) (σ1 := (S0, m)) rfl ?_
          refine am_AW.iald ok_M_flipped (Nat.le_add_left 1 d) S0_len rfl (sh_67_69_0 hp0) (by decide) ?_
          change am_AW am_nw ro (d + 1) mr_M_flipped 154 [some (.ref p0), some (.int x1), some (.int x2), some (.int x3), some (.int x4), some (.int x5), some (.int x6), some (.int x7), none] [.int (m.1 p0 1)] (S0, m) (some (.int r)) (S0, m')
          refine am_AW.run am_base_ok ok_M_flipped (Nat.le_add_left 1 d) 1 (pc1 := 155) (ls1 := [some (.ref p0), some (.int x1), some (.int x2), some (.int x3), some (.int x4), some (.int x5), some (.int x6), some (.int x7), none]) (st1 := [.int x1, .int (m.1 p0 1)]) (σ1 := (S0, m)) rfl ?_
          obtain ⟨q14, hq14, h⟩ := Option.bind_eq_some_iff.mp h
          refine am_AW.callS ok_M_flipped am_nw_ok (As := [.int (m.1 p0 1), .int x1]) (rest := []) rfl rfl rfl oR_M_has lk_M_75 sT_M_has rfl (Nat.le_of_ble_eq_true rfl) (f_M_has_ok (d := d) (by omega) (m.1 p0 1) x1 hq14) ?_
          change am_AW am_nw ro (d + 1) mr_M_flipped 158 [some (.ref p0), some (.int x1), some (.int x2), some (.int x3), some (.int x4), some (.int x5), some (.int x6), some (.int x7), none] [.int q14.1] (S0, q14.2) (some (.int r)) (S0, m')
          refine am_AW.brN ok_M_flipped rfl rfl am_c_ne (fun c15 => ?_) (fun c15 => ?_)
          · rw [if_pos c15] at h
            refine am_AW.run am_base_ok ok_M_flipped (Nat.le_add_left 1 d) 2 (pc1 := 174) (ls1 := [some (.ref p0), some (.int x1), some (.int x2), some (.int x3), some (.int x4), some (.int x5), some (.int x6), some (.int x7), none]) (st1 := [.int (-1000000 : Int32)]) (σ1 := (S0, q14.2)) rfl ?_
            obtain ⟨rfl, rfl⟩ := Prod.mk.inj (Option.some.inj h)
            exact am_AW.ret ok_M_flipped rfl rfl rfl rfl
          · rw [if_neg c15] at h
            refine am_AW.run am_base_ok ok_M_flipped (Nat.le_add_left 1 d) 3 (pc1 := 171) (ls1 := [some (.ref p0), some (.int x1), some (.int x2), some (.int x3), some (.int x4), some (.int x5), some (.int x6), some (.int x7), none]) (st1 := [.int x6, .int x5, .int x2]) (σ1 := (S0, q14.2)) rfl ?_
            obtain ⟨q18, hq18, h⟩ := Option.bind_eq_some_iff.mp h
            refine am_AW.callS ok_M_flipped am_nw_ok (As := [.int x2, .int x5, .int x6]) (rest := []) rfl rfl rfl oR_M_numberOf lk_M_96 sT_M_numberOf rfl (Nat.le_of_ble_eq_true rfl) (f_M_numberOf_ok (d := d) (by omega) x2 x5 x6 hq18) ?_
            change am_AW am_nw ro (d + 1) mr_M_flipped 174 [some (.ref p0), some (.int x1), some (.int x2), some (.int x3), some (.int x4), some (.int x5), some (.int x6), some (.int x7), none] [.int q18.1] (S0, q18.2) (some (.int r)) (S0, m')
            obtain ⟨rfl, rfl⟩ := Prod.mk.inj (Option.some.inj h)
            exact am_AW.ret ok_M_flipped rfl rfl rfl rfl
    · rw [if_neg c8] at h
      refine am_AW.run am_base_ok ok_M_flipped (Nat.le_add_left 1 d) 2 (pc1 := 43) (ls1 := [some (.ref p0), some (.int x1), some (.int x2), some (.int x3), some (.int x4), some (.int x5), some (.int x6), some (.int x7), none]) (st1 := [.int x3, .int x7]) (σ1 := (S0, m)) rfl ?_
      refine am_AW.brP ok_M_flipped rfl rfl am_c_eq (fun c19 => ?_) (fun c19 => ?_)
      · rw [if_pos c19] at h
        refine am_AW.run am_base_ok ok_M_flipped (Nat.le_add_left 1 d) 1 (pc1 := 79) (ls1 := [some (.ref p0), some (.int x1), some (.int x2), some (.int x3), some (.int x4), some (.int x5), some (.int x6), some (.int x7), none]) (st1 := [.int (0 : Int32)]) (σ1 := (S0, m)) rfl ?_
        exact am_AW.weak (f_M_flipped_b79_ok hd (ih) p0 x1 x2 x3 x4 x5 x6 x7 (0 : Int32) hp0 h) (by simp only [am_le, and_self])
      · rw [if_neg c19] at h
        refine am_AW.run am_base_ok ok_M_flipped (Nat.le_add_left 1 d) 2 (pc1 := 50) (ls1 := [some (.ref p0), some (.int x1), some (.int x2), some (.int x3), some (.int x4), some (.int x5), some (.int x6), some (.int x7), none]) (st1 := [.int x4, .int x7]) (σ1 := (S0, m)) rfl ?_
        refine am_AW.brP ok_M_flipped rfl rfl am_c_eq (fun c30 => ?_) (fun c30 => ?_)
        · rw [if_pos c30] at h
          refine am_AW.run am_base_ok ok_M_flipped (Nat.le_add_left 1 d) 1 (pc1 := 79) (ls1 := [some (.ref p0), some (.int x1), some (.int x2), some (.int x3), some (.int x4), some (.int x5), some (.int x6), some (.int x7), none]) (st1 := [.int (0 : Int32)]) (σ1 := (S0, m)) rfl ?_
          exact am_AW.weak (f_M_flipped_b79_ok hd (ih) p0 x1 x2 x3 x4 x5 x6 x7 (0 : Int32) hp0 h) (by simp only [am_le, and_self])
        · rw [if_neg c30] at h
          refine am_AW.run am_base_ok ok_M_flipped (Nat.le_add_left 1 d) 3 (pc1 := 57) (ls1 := [some (.ref p0), some (.int x1), some (.int x2), some (.int x3), some (.int x4), some (.int x5), some (.int x6), some (.int x7), none]) (st1 := [.int x3, .int x7, .ref p0]) (σ1 := (S0, m)) rfl ?_
          obtain ⟨q33, hq33, h⟩ := Option.bind_eq_some_iff.mp h
          refine am_AW.callS ok_M_flipped am_nw_ok (As := [.ref p0, .int x7, .int x3]) (rest := []) rfl rfl rfl oR_M_isJoined lk_M_101 sT_M_isJoined rfl (Nat.le_of_ble_eq_true rfl) (f_M_isJoined_ok (d := d) (by omega) p0 x7 x3 hp0 hq33) ?_
          change am_AW am_nw ro (d + 1) mr_M_flipped 60 [some (.ref p0), some (.int x1), some (.int x2), some (.int x3), some (.int x4), some (.int x5), some (.int x6), some (.int x7), none] [.int q33.1] (S0, q33.2) (some (.int r)) (S0, m')
          refine am_AW.brP ok_M_flipped rfl rfl am_c_eq (fun c34 => ?_) (fun c34 => ?_)
          · rw [if_pos c34] at h
            refine am_AW.run am_base_ok ok_M_flipped (Nat.le_add_left 1 d) 1 (pc1 := 79) (ls1 := [some (.ref p0), some (.int x1), some (.int x2), some (.int x3), some (.int x4), some (.int x5), some (.int x6), some (.int x7), none]) (st1 := [.int (0 : Int32)]) (σ1 := (S0, q33.2)) rfl ?_
            exact am_AW.weak (f_M_flipped_b79_ok hd (ih) p0 x1 x2 x3 x4 x5 x6 x7 (0 : Int32) hp0 h) (by simp only [am_le, and_self])
          · rw [if_neg c34] at h
            refine am_AW.run am_base_ok ok_M_flipped (Nat.le_add_left 1 d) 3 (pc1 := 68) (ls1 := [some (.ref p0), some (.int x1), some (.int x2), some (.int x3), some (.int x4), some (.int x5), some (.int x6), some (.int x7), none]) (st1 := [.int x4, .int x7, .ref p0]) (σ1 := (S0, q33.2)) rfl ?_
            obtain ⟨q37, hq37, h⟩ := Option.bind_eq_some_iff.mp h
            refine am_AW.callS ok_M_flipped am_nw_ok (As := [.ref p0, .int x7, .int x4]) (rest := []) rfl rfl rfl oR_M_isJoined lk_M_101 sT_M_isJoined rfl (Nat.le_of_ble_eq_true rfl) (f_M_isJoined_ok (d := d) (by omega) p0 x7 x4 hp0 hq37) ?_
            change am_AW am_nw ro (d + 1) mr_M_flipped 71 [some (.ref p0), some (.int x1), some (.int x2), some (.int x3), some (.int x4), some (.int x5), some (.int x6), some (.int x7), none] [.int q37.1] (S0, q37.2) (some (.int r)) (S0, m')
            refine am_AW.brP ok_M_flipped rfl rfl am_c_eq (fun c38 => ?_) (fun c38 => ?_)
            · rw [if_pos c38] at h
              refine am_AW.run am_base_ok ok_M_flipped (Nat.le_add_left 1 d) 1 (pc1 := 79) (ls1 := [some (.ref p0), some (.int x1), some (.int x2), some (.int x3), some (.int x4), some (.int x5), some (.int x6), some (.int x7), none]) (st1 := [.int (0 : Int32)]) (σ1 := (S0, q37.2)) rfl ?_
              exact am_AW.weak (f_M_flipped_b79_ok hd (ih) p0 x1 x2 x3 x4 x5 x6 x7 (0 : Int32) hp0 h) (by simp only [am_le, and_self])
            · rw [if_neg c38] at h
              refine am_AW.run am_base_ok ok_M_flipped (Nat.le_add_left 1 d) 2 (pc1 := 79) (ls1 := [some (.ref p0), some (.int x1), some (.int x2), some (.int x3), some (.int x4), some (.int x5), some (.int x6), some (.int x7), none]) (st1 := [.int (1 : Int32)]) (σ1 := (S0, q37.2)) rfl ?_
              exact am_AW.weak (f_M_flipped_b79_ok hd (ih) p0 x1 x2 x3 x4 x5 x6 x7 (1 : Int32) hp0 h) (by simp only [am_le, and_self])
set_option maxHeartbeats 4000000 in
set_option maxRecDepth 100000 in
theorem f_M_flipped_b34_ok {ro : am_Ro} {d : Nat} (hd : 4 ≤ d + 1) (p0 : Nat) (x1 : Int32) (x2 : Int32) (x3 : Int32) (x4 : Int32) (x5 : Int32) (x6 : Int32) (x7 : Int32) (hp0 : p0 = 67 ∨ p0 = 69) {m m' : am_Mm} {r : Int32} {n : Nat} (h : f_M_flipped_b34 n p0 x1 x2 x3 x4 x5 x6 x7 m = some (r, m')) : am_AW am_nw ro (d + 1) mr_M_flipped 34 [some (.ref p0), some (.int x1), some (.int x2), some (.int x3), some (.int x4), some (.int x5), some (.int x6), some (.int x7), none] [] (S0, m) (some (.int r)) (S0, m') :=
  f_M_flipped_b34_all hd n p0 x1 x2 x3 x4 x5 x6 x7 hp0 m m' r h
set_option maxHeartbeats 4000000 in
set_option maxRecDepth 100000 in
theorem f_M_flipped_ok {ro : am_Ro} {d : Nat} (hd : 4 ≤ d) (p0 : Nat) (x1 : Int32) (hp0 : p0 = 67 ∨ p0 = 69) {m m' : am_Mm} {r : Int32} (h : f_M_flipped p0 x1 m = some (r, m')) : am_Mt am_nw ro d mr_M_flipped [.ref p0, .int x1] (S0, m) (some (.int r)) (S0, m') := by
  obtain ⟨d, rfl⟩ : ∃ d0, d = d0 + 1 := ⟨d - 1, by omega⟩
  refine am_Mt.of (by decide +kernel) (Nat.le_of_ble_eq_true rfl) ?_
  change am_AW am_nw ro (d + 1) mr_M_flipped 0 [some (.ref p0), some (.int x1), none, none, none, none, none, none, none] [] (S0, m) (some (.int r)) (S0, m')
  unfold f_M_flipped at h
  refine am_AW.run am_base_ok ok_M_flipped (Nat.le_add_left 1 d) 2 (pc1 := 2) (ls1 := [some (.ref p0), some (.int x1), none, none, none, none, none, none, none]) (st1 := [.int (0 : Int32), .ref p0]) (σ1 := (S0, m)) rfl ?_
  refine am_AW.iald ok_M_flipped (Nat.le_add_left 1 d) S0_len rfl (sh_67_69_0 hp0) (by decide) ?_
  change am_AW am_nw ro (d + 1) mr_M_flipped 3 [some (.ref p0), some (.int x1), none, none, none, none, none, none, none] [.int (m.1 p0 0)] (S0, m) (some (.int r)) (S0, m')
  refine am_AW.run am_base_ok ok_M_flipped (Nat.le_add_left 1 d) 3 (pc1 := 6) (ls1 := [some (.ref p0), some (.int x1), some (.int (m.1 p0 0)), none, none, none, none, none, none]) (st1 := [.int x1, .int (m.1 p0 0)]) (σ1 := (S0, m)) rfl ?_
  obtain ⟨q4, hq4, h⟩ := Option.bind_eq_some_iff.mp h
  refine am_AW.callS ok_M_flipped am_nw_ok (As := [.int (m.1 p0 0), .int x1]) (rest := []) rfl rfl rfl oR_M_endsOf lk_M_90 sT_M_endsOf rfl (Nat.le_of_ble_eq_true rfl) (f_M_endsOf_ok (d := d) (by omega) (m.1 p0 0) x1 hq4) ?_
  change am_AW am_nw ro (d + 1) mr_M_flipped 9 [some (.ref p0), some (.int x1), some (.int (m.1 p0 0)), none, none, none, none, none, none] [.int q4.1] (S0, q4.2) (some (.int r)) (S0, m')
  refine am_AW.run am_base_ok ok_M_flipped (Nat.le_add_left 1 d) 1 (pc1 := 11) (ls1 := [some (.ref p0), some (.int x1), some (.int (m.1 p0 0)), none, none, none, none, none, none]) (st1 := [.int (10 : Int32), .int q4.1]) (σ1 := (S0, q4.2)) rfl ?_
  refine am_AW.dvi ok_M_flipped (Nat.le_add_left 1 d) (w := (q4.1 / (10 : Int32))) (Or.inl ⟨rfl, rfl⟩) rfl (by decide) ?_
  refine am_AW.run am_base_ok ok_M_flipped (Nat.le_add_left 1 d) 3 (pc1 := 15) (ls1 := [some (.ref p0), some (.int x1), some (.int (m.1 p0 0)), some (.int (q4.1 / (10 : Int32))), none, none, none, none, none]) (st1 := [.int x1, .int (m.1 p0 0)]) (σ1 := (S0, q4.2)) rfl ?_
  obtain ⟨q7, hq7, h⟩ := Option.bind_eq_some_iff.mp h
  refine am_AW.callS ok_M_flipped am_nw_ok (As := [.int (m.1 p0 0), .int x1]) (rest := []) rfl rfl rfl oR_M_endsOf lk_M_90 sT_M_endsOf rfl (Nat.le_of_ble_eq_true rfl) (f_M_endsOf_ok (d := d) (by omega) (m.1 p0 0) x1 hq7) ?_
  change am_AW am_nw ro (d + 1) mr_M_flipped 18 [some (.ref p0), some (.int x1), some (.int (m.1 p0 0)), some (.int (q4.1 / (10 : Int32))), none, none, none, none, none] [.int q7.1] (S0, q7.2) (some (.int r)) (S0, m')
  refine am_AW.run am_base_ok ok_M_flipped (Nat.le_add_left 1 d) 1 (pc1 := 20) (ls1 := [some (.ref p0), some (.int x1), some (.int (m.1 p0 0)), some (.int (q4.1 / (10 : Int32))), none, none, none, none, none]) (st1 := [.int (10 : Int32), .int q7.1]) (σ1 := (S0, q7.2)) rfl ?_
  refine am_AW.dvi ok_M_flipped (Nat.le_add_left 1 d) (w := (am_rem q7.1 (10 : Int32))) (Or.inr ⟨rfl, rfl⟩) rfl (by decide) ?_
  refine am_AW.run am_base_ok ok_M_flipped (Nat.le_add_left 1 d) 7 (pc1 := 34) (ls1 := [some (.ref p0), some (.int x1), some (.int (m.1 p0 0)), some (.int (q4.1 / (10 : Int32))), some (.int (am_rem q7.1 (10 : Int32))), some (.int (-1000000 : Int32)), some (.int (-1000000 : Int32)), some (.int (0 : Int32)), none]) (st1 := []) (σ1 := (S0, q7.2)) rfl ?_
  exact am_AW.weak (f_M_flipped_b34_ok hd p0 x1 (m.1 p0 0) (q4.1 / (10 : Int32)) (am_rem q7.1 (10 : Int32)) (-1000000 : Int32) (-1000000 : Int32) (0 : Int32) hp0 h) (by simp only [am_le, and_self])
/-! FriezePolygonsModel.cutsAt([II)I -/
def f_M_cutsAt_b29 (k5 : Nat → Int32 → Int32 → Int32 → am_Mm → Option (Int32 × am_Mm)) (p1 : Nat) (x2 : Int32) (x4 : Int32) (s0 : Int32) (s1 : Int32) (m : am_Mm) : Option (Int32 × am_Mm) :=
  k5 p1 x2 (s0 + s1) (x4 + (1 : Int32)) m
def f_M_cutsAt_b5 : Nat → Nat → Int32 → Int32 → Int32 → am_Mm → Option (Int32 × am_Mm)
  | 0, _, _, _, _, _ => none
  | n + 1, p1, x2, x3, x4, m =>
    if (m.1 p1 0) ≤ x4 then
      some (x3, m)
    else
      (f_M_isLinked p1 x2 x4 m).bind fun q5 =>
      if q5.1 = (0 : Int32) then
        f_M_cutsAt_b29 (f_M_cutsAt_b5 n) p1 x2 x4 x3 (0 : Int32) q5.2
      else
        f_M_cutsAt_b29 (f_M_cutsAt_b5 n) p1 x2 x4 x3 (1 : Int32) q5.2
def f_M_cutsAt (p1 : Nat) (x2 : Int32) (m : am_Mm) : Option (Int32 × am_Mm) :=
  f_M_cutsAt_b5 am_F p1 x2 (0 : Int32) (0 : Int32) m
set_option maxHeartbeats 4000000 in
set_option maxRecDepth 100000 in
theorem f_M_cutsAt_b29_ok {ro : am_Ro} {d : Nat} (hd : 4 ≤ d + 1) {k5 : Nat → Int32 → Int32 → Int32 → am_Mm → Option (Int32 × am_Mm)} (hk5 : ∀ (p1 : Nat) (x2 : Int32) (x3 : Int32) (x4 : Int32) (hp1 : p1 = 67 ∨ p1 = 69) (m m' : am_Mm) (r : Int32), k5 p1 x2 x3 x4 m = some (r, m') → am_AW am_nw ro (d + 1) mr_M_cutsAt 5 [none, some (.ref p1), some (.int x2), some (.int x3), some (.int x4)] [] (S0, m) (some (.int r)) (S0, m')) (p1 : Nat) (x2 : Int32) (x4 : Int32) (s0 : Int32) (s1 : Int32) (hp1 : p1 = 67 ∨ p1 = 69) {m m' : am_Mm} {r : Int32} (h : f_M_cutsAt_b29 k5 p1 x2 x4 s0 s1 m = some (r, m')) : am_AW am_nw ro (d + 1) mr_M_cutsAt 29 [none, some (.ref p1), some (.int x2), none, some (.int x4)] [.int s1, .int s0] (S0, m) (some (.int r)) (S0, m') := by
  unfold f_M_cutsAt_b29 at h
  refine am_AW.run am_base_ok ok_M_cutsAt (Nat.le_add_left 1 d) 4 (pc1 := 5) (ls1 := [none, some (.ref p1), some (.int x2), some (.int (s0 + s1)), some (.int (x4 + (1 : Int32)))]) (st1 := []) (σ1 := (S0, m)) rfl ?_
  exact am_AW.weak (hk5 p1 x2 (s0 + s1) (x4 + (1 : Int32)) hp1 _ _ _ h) (by simp only [am_le, and_self])
set_option maxHeartbeats 4000000 in
set_option maxRecDepth 100000 in
theorem f_M_cutsAt_b5_all {ro : am_Ro} {d : Nat} (hd : 4 ≤ d + 1) : ∀ (n : Nat) (p1 : Nat) (x2 : Int32) (x3 : Int32) (x4 : Int32) (hp1 : p1 = 67 ∨ p1 = 69) (m m' : am_Mm) (r : Int32), f_M_cutsAt_b5 n p1 x2 x3 x4 m = some (r, m') → am_AW am_nw ro (d + 1) mr_M_cutsAt 5 [none, some (.ref p1), some (.int x2), some (.int x3), some (.int x4)] [] (S0, m) (some (.int r)) (S0, m') := by
  intro n
  induction n with
  | zero =>
    intro p1 x2 x3 x4 hp1 m m' r h
    rw [f_M_cutsAt_b5] at h
    cases h
  | succ n ih =>
    intro p1 x2 x3 x4 hp1 m m' r h
    rw [f_M_cutsAt_b5] at h
    refine am_AW.run am_base_ok ok_M_cutsAt (Nat.le_add_left 1 d) 3 (pc1 := 9) (ls1 := [none, some (.ref p1), some (.int x2), some (.int x3), some (.int x4)]) (st1 := [.int (0 : Int32), .ref p1, .int x4]) (σ1 := (S0, m)) rfl ?_
    refine am_AW.iald ok_M_cutsAt (Nat.le_add_left 1 d) S0_len rfl (sh_67_69_0 hp1) (by decide) ?_
    change am_AW am_nw ro (d + 1) mr_M_cutsAt 10 [none, some (.ref p1), some (.int x2), some (.int x3), some (.int x4)] [.int (m.1 p1 0), .int x4] (S0, m) (some (.int r)) (S0, m')
    refine am_AW.brP ok_M_cutsAt rfl rfl am_c_ge (fun c2 => ?_) (fun c2 => ?_)
    · rw [if_pos c2] at h
      refine am_AW.run am_base_ok ok_M_cutsAt (Nat.le_add_left 1 d) 1 (pc1 := 38) (ls1 := [none, some (.ref p1), some (.int x2), some (.int x3), some (.int x4)]) (st1 := [.int x3]) (σ1 := (S0, m)) rfl ?_
      obtain ⟨rfl, rfl⟩ := Prod.mk.inj (Option.some.inj h)
      exact am_AW.ret ok_M_cutsAt rfl rfl rfl rfl
    · rw [if_neg c2] at h
      refine am_AW.run am_base_ok ok_M_cutsAt (Nat.le_add_left 1 d) 4 (pc1 := 18) (ls1 := [none, some (.ref p1), some (.int x2), some (.int x3), some (.int x4)]) (st1 := [.int x4, .int x2, .ref p1, .int x3]) (σ1 := (S0, m)) rfl ?_
      obtain ⟨q5, hq5, h⟩ := Option.bind_eq_some_iff.mp h
      refine am_AW.callS ok_M_cutsAt am_nw_ok (As := [.ref p1, .int x2, .int x4]) (rest := [.int x3]) rfl rfl rfl oR_M_isLinked lk_M_105 sT_M_isLinked rfl (Nat.le_of_ble_eq_true rfl) (f_M_isLinked_ok (d := d) (by omega) p1 x2 x4 hp1 hq5) ?_
      change am_AW am_nw ro (d + 1) mr_M_cutsAt 21 [none, some (.ref p1), some (.int x2), some (.int x3), some (.int x4)] [.int q5.1, .int x3] (S0, q5.2) (some (.int r)) (S0, m')
      refine am_AW.brP ok_M_cutsAt rfl rfl am_c_eq (fun c6 => ?_) (fun c6 => ?_)
      · rw [if_pos c6] at h
        refine am_AW.run am_base_ok ok_M_cutsAt (Nat.le_add_left 1 d) 1 (pc1 := 29) (ls1 := [none, some (.ref p1), some (.int x2), some (.int x3), some (.int x4)]) (st1 := [.int (0 : Int32), .int x3]) (σ1 := (S0, q5.2)) rfl ?_
        exact am_AW.weak (f_M_cutsAt_b29_ok hd (ih) p1 x2 x4 x3 (0 : Int32) hp1 h) (by simp only [am_le, and_self])
      · rw [if_neg c6] at h
        refine am_AW.run am_base_ok ok_M_cutsAt (Nat.le_add_left 1 d) 2 (pc1 := 29) (ls1 := [none, some (.ref p1), some (.int x2), some (.int x3), some (.int x4)]) (st1 := [.int (1 : Int32), .int x3]) (σ1 := (S0, q5.2)) rfl ?_
        exact am_AW.weak (f_M_cutsAt_b29_ok hd (ih) p1 x2 x4 x3 (1 : Int32) hp1 h) (by simp only [am_le, and_self])
set_option maxHeartbeats 4000000 in
set_option maxRecDepth 100000 in
theorem f_M_cutsAt_b5_ok {ro : am_Ro} {d : Nat} (hd : 4 ≤ d + 1) (p1 : Nat) (x2 : Int32) (x3 : Int32) (x4 : Int32) (hp1 : p1 = 67 ∨ p1 = 69) {m m' : am_Mm} {r : Int32} {n : Nat} (h : f_M_cutsAt_b5 n p1 x2 x3 x4 m = some (r, m')) : am_AW am_nw ro (d + 1) mr_M_cutsAt 5 [none, some (.ref p1), some (.int x2), some (.int x3), some (.int x4)] [] (S0, m) (some (.int r)) (S0, m') :=
  f_M_cutsAt_b5_all hd n p1 x2 x3 x4 hp1 m m' r h
set_option maxHeartbeats 4000000 in
set_option maxRecDepth 100000 in
theorem f_M_cutsAt_ok {ro : am_Ro} {d : Nat} (hd : 4 ≤ d) (p1 : Nat) (x2 : Int32) (hp1 : p1 = 67 ∨ p1 = 69) {m m' : am_Mm} {r : Int32} (h : f_M_cutsAt p1 x2 m = some (r, m')) : am_Mt am_nw ro d mr_M_cutsAt [.ref 63, .ref p1, .int x2] (S0, m) (some (.int r)) (S0, m') := by
  obtain ⟨d, rfl⟩ : ∃ d0, d = d0 + 1 := ⟨d - 1, by omega⟩
  refine am_Mt.of (by decide +kernel) (Nat.le_of_ble_eq_true rfl) ?_
  change am_AW am_nw ro (d + 1) mr_M_cutsAt 0 [some (.ref 63), some (.ref p1), some (.int x2), none, none] [] (S0, m) (some (.int r)) (S0, m')
  unfold f_M_cutsAt at h
  refine am_AW.run am_base_ok ok_M_cutsAt (Nat.le_add_left 1 d) 4 (pc1 := 5) (ls1 := [some (.ref 63), some (.ref p1), some (.int x2), some (.int (0 : Int32)), some (.int (0 : Int32))]) (st1 := []) (σ1 := (S0, m)) rfl ?_
  exact am_AW.weak (f_M_cutsAt_b5_ok hd p1 x2 (0 : Int32) (0 : Int32) hp1 h) (by simp only [am_le, and_self])
/-! FriezePolygonsModel.figure(II)I -/
def f_M_figure_b62 (s0 : Int32) (m : am_Mm) : Option (Int32 × am_Mm) :=
  (f_M_must (1 : Int32) m).bind fun q14 =>
  some (s0, q14)
def f_M_figure_b47 (x1 : Int32) (m : am_Mm) : Option (Int32 × am_Mm) :=
  if (m.1 63 15) = (0 : Int32) then
    f_M_figure_b62 (m.1 63 14) m
  else
    f_M_figure_b62 x1 m
def f_M_figure_b20 (x1 : Int32) (x2 : Int32) (m : am_Mm) : Option (Int32 × am_Mm) :=
  if (m.1 63 15) = (0 : Int32) then
    (f_M_in ((m.1 63 14).toInt64) (x1.toInt64) (x2.toInt64) m).bind fun q6 =>
    if q6.1 = (0 : Int32) then
      (f_M_bad (2 : Int32) q6.2).bind fun q10 =>
      f_M_figure_b47 x1 q10
    else
      f_M_figure_b47 x1 q6.2
  else
    f_M_figure_b47 x1 m
def f_M_figure (x1 : Int32) (x2 : Int32) (m : am_Mm) : Option (Int32 × am_Mm) :=
  if (m.1 63 15) = (0 : Int32) then
    if (m.1 63 13) = (3 : Int32) then
      f_M_figure_b20 x1 x2 m
    else
      (f_M_bad (1 : Int32) m).bind fun q17 =>
      f_M_figure_b20 x1 x2 q17
  else
    f_M_figure_b20 x1 x2 m
set_option maxHeartbeats 4000000 in
set_option maxRecDepth 100000 in
theorem f_M_figure_b62_ok {ro : am_Ro} {d : Nat} (hd : 4 ≤ d + 1) (s0 : Int32) {m m' : am_Mm} {r : Int32} (h : f_M_figure_b62 s0 m = some (r, m')) : am_AW am_nw ro (d + 1) mr_M_figure 62 [some (.ref 63), none, none, none] [.int s0] (S0, m) (some (.int r)) (S0, m') := by
  unfold f_M_figure_b62 at h
  refine am_AW.run am_base_ok ok_M_figure (Nat.le_add_left 1 d) 3 (pc1 := 65) (ls1 := [some (.ref 63), none, none, some (.int s0)]) (st1 := [.int (1 : Int32), .ref 63]) (σ1 := (S0, m)) rfl ?_
  obtain ⟨q14, hq14, h⟩ := Option.bind_eq_some_iff.mp h
  refine am_AW.callV ok_M_figure am_nw_ok (As := [.int (1 : Int32)]) (rest := []) rfl rfl rfl oR_M_must lk_M_157 iM_M_must sE_M_must (qc := kq10) rfl rfl rfl rfl (Nat.le_of_ble_eq_true rfl) (f_M_must_ok (d := d) (by omega) (1 : Int32) hq14) ?_
  change am_AW am_nw ro (d + 1) mr_M_figure 68 [some (.ref 63), none, none, some (.int s0)] [] (S0, q14) (some (.int r)) (S0, m')
  refine am_AW.run am_base_ok ok_M_figure (Nat.le_add_left 1 d) 1 (pc1 := 69) (ls1 := [some (.ref 63), none, none, some (.int s0)]) (st1 := [.int s0]) (σ1 := (S0, q14)) rfl ?_
  obtain ⟨rfl, rfl⟩ := Prod.mk.inj (Option.some.inj h)
  exact am_AW.ret ok_M_figure rfl rfl rfl rfl
set_option maxHeartbeats 4000000 in
set_option maxRecDepth 100000 in
theorem f_M_figure_b47_ok {ro : am_Ro} {d : Nat} (hd : 4 ≤ d + 1) (x1 : Int32) {m m' : am_Mm} {r : Int32} (h : f_M_figure_b47 x1 m = some (r, m')) : am_AW am_nw ro (d + 1) mr_M_figure 47 [some (.ref 63), some (.int x1), none, none] [] (S0, m) (some (.int r)) (S0, m') := by
  unfold f_M_figure_b47 at h
  refine am_AW.run am_base_ok ok_M_figure (Nat.le_add_left 1 d) 2 (pc1 := 51) (ls1 := [some (.ref 63), some (.int x1), none, none]) (st1 := [.int (m.1 63 15)]) (σ1 := (S0, m)) rfl ?_
  refine am_AW.brN ok_M_figure rfl rfl am_c_ne (fun c11 => ?_) (fun c11 => ?_)
  · rw [if_pos c11] at h
    refine am_AW.run am_base_ok ok_M_figure (Nat.le_add_left 1 d) 3 (pc1 := 62) (ls1 := [some (.ref 63), some (.int x1), none, none]) (st1 := [.int (m.1 63 14)]) (σ1 := (S0, m)) rfl ?_
    exact am_AW.weak (f_M_figure_b62_ok hd (m.1 63 14)  h) (by simp only [am_le, and_self])
  · rw [if_neg c11] at h
    refine am_AW.run am_base_ok ok_M_figure (Nat.le_add_left 1 d) 1 (pc1 := 62) (ls1 := [some (.ref 63), some (.int x1), none, none]) (st1 := [.int x1]) (σ1 := (S0, m)) rfl ?_
    exact am_AW.weak (f_M_figure_b62_ok hd x1  h) (by simp only [am_le, and_self])
set_option maxHeartbeats 4000000 in
set_option maxRecDepth 100000 in
theorem f_M_figure_b20_ok {ro : am_Ro} {d : Nat} (hd : 4 ≤ d + 1) (x1 : Int32) (x2 : Int32) {m m' : am_Mm} {r : Int32} (h : f_M_figure_b20 x1 x2 m = some (r, m')) : am_AW am_nw ro (d + 1) mr_M_figure 20 [some (.ref 63), some (.int x1), some (.int x2), none] [] (S0, m) (some (.int r)) (S0, m') := by
  unfold f_M_figure_b20 at h
  refine am_AW.run am_base_ok ok_M_figure (Nat.le_add_left 1 d) 2 (pc1 := 24) (ls1 := [some (.ref 63), some (.int x1), some (.int x2), none]) (st1 := [.int (m.1 63 15)]) (σ1 := (S0, m)) rfl ?_
  refine am_AW.brN ok_M_figure rfl rfl am_c_ne (fun c3 => ?_) (fun c3 => ?_)
  · rw [if_pos c3] at h
    refine am_AW.run am_base_ok ok_M_figure (Nat.le_add_left 1 d) 7 (pc1 := 36) (ls1 := [some (.ref 63), some (.int x1), some (.int x2), none]) (st1 := [.long (x2.toInt64), .long (x1.toInt64), .long ((m.1 63 14).toInt64)]) (σ1 := (S0, m)) rfl ?_
    obtain ⟨q6, hq6, h⟩ := Option.bind_eq_some_iff.mp h
    refine am_AW.callS ok_M_figure am_nw_ok (As := [.long ((m.1 63 14).toInt64), .long (x1.toInt64), .long (x2.toInt64)]) (rest := []) rfl rfl rfl oR_M_in lk_M_60 sT_M_in rfl (Nat.le_of_ble_eq_true rfl) (f_M_in_ok (d := d) (by omega) ((m.1 63 14).toInt64) (x1.toInt64) (x2.toInt64) hq6) ?_
    change am_AW am_nw ro (d + 1) mr_M_figure 39 [some (.ref 63), some (.int x1), some (.int x2), none] [.int q6.1] (S0, q6.2) (some (.int r)) (S0, m')
    refine am_AW.brN ok_M_figure rfl rfl am_c_ne (fun c7 => ?_) (fun c7 => ?_)
    · rw [if_pos c7] at h
      refine am_AW.run am_base_ok ok_M_figure (Nat.le_add_left 1 d) 2 (pc1 := 44) (ls1 := [some (.ref 63), some (.int x1), some (.int x2), none]) (st1 := [.int (2 : Int32), .ref 63]) (σ1 := (S0, q6.2)) rfl ?_
      obtain ⟨q10, hq10, h⟩ := Option.bind_eq_some_iff.mp h
      refine am_AW.callV ok_M_figure am_nw_ok (As := [.int (2 : Int32)]) (rest := []) rfl rfl rfl oR_M_bad lk_M_150 iM_M_bad sE_M_bad (qc := kq10) rfl rfl rfl rfl (Nat.le_of_ble_eq_true rfl) (f_M_bad_ok (d := d) (by omega) (2 : Int32) hq10) ?_
      change am_AW am_nw ro (d + 1) mr_M_figure 47 [some (.ref 63), some (.int x1), some (.int x2), none] [] (S0, q10) (some (.int r)) (S0, m')
      exact am_AW.weak (f_M_figure_b47_ok hd x1  h) (by simp only [am_le, and_self])
    · rw [if_neg c7] at h
      exact am_AW.weak (f_M_figure_b47_ok hd x1  h) (by simp only [am_le, and_self])
  · rw [if_neg c3] at h
    exact am_AW.weak (f_M_figure_b47_ok hd x1  h) (by simp only [am_le, and_self])
set_option maxHeartbeats 4000000 in
set_option maxRecDepth 100000 in
theorem f_M_figure_ok {ro : am_Ro} {d : Nat} (hd : 4 ≤ d) (x1 : Int32) (x2 : Int32) {m m' : am_Mm} {r : Int32} (h : f_M_figure x1 x2 m = some (r, m')) : am_Mt am_nw ro d mr_M_figure [.ref 63, .int x1, .int x2] (S0, m) (some (.int r)) (S0, m') := by
  obtain ⟨d, rfl⟩ : ∃ d0, d = d0 + 1 := ⟨d - 1, by omega⟩
  refine am_Mt.of (by decide +kernel) (Nat.le_of_ble_eq_true rfl) ?_
  change am_AW am_nw ro (d + 1) mr_M_figure 0 [some (.ref 63), some (.int x1), some (.int x2), none] [] (S0, m) (some (.int r)) (S0, m')
  unfold f_M_figure at h
  refine am_AW.run am_base_ok ok_M_figure (Nat.le_add_left 1 d) 2 (pc1 := 4) (ls1 := [some (.ref 63), some (.int x1), some (.int x2), none]) (st1 := [.int (m.1 63 15)]) (σ1 := (S0, m)) rfl ?_
  refine am_AW.brN ok_M_figure rfl rfl am_c_ne (fun c1 => ?_) (fun c1 => ?_)
  · rw [if_pos c1] at h
    refine am_AW.run am_base_ok ok_M_figure (Nat.le_add_left 1 d) 3 (pc1 := 12) (ls1 := [some (.ref 63), some (.int x1), some (.int x2), none]) (st1 := [.int (3 : Int32), .int (m.1 63 13)]) (σ1 := (S0, m)) rfl ?_
    refine am_AW.brP ok_M_figure rfl rfl am_c_eq (fun c2 => ?_) (fun c2 => ?_)
    · rw [if_pos c2] at h
      exact am_AW.weak (f_M_figure_b20_ok hd x1 x2  h) (by simp only [am_le, and_self])
    · rw [if_neg c2] at h
      refine am_AW.run am_base_ok ok_M_figure (Nat.le_add_left 1 d) 2 (pc1 := 17) (ls1 := [some (.ref 63), some (.int x1), some (.int x2), none]) (st1 := [.int (1 : Int32), .ref 63]) (σ1 := (S0, m)) rfl ?_
      obtain ⟨q17, hq17, h⟩ := Option.bind_eq_some_iff.mp h
      refine am_AW.callV ok_M_figure am_nw_ok (As := [.int (1 : Int32)]) (rest := []) rfl rfl rfl oR_M_bad lk_M_150 iM_M_bad sE_M_bad (qc := kq10) rfl rfl rfl rfl (Nat.le_of_ble_eq_true rfl) (f_M_bad_ok (d := d) (by omega) (1 : Int32) hq17) ?_
      change am_AW am_nw ro (d + 1) mr_M_figure 20 [some (.ref 63), some (.int x1), some (.int x2), none] [] (S0, q17) (some (.int r)) (S0, m')
      exact am_AW.weak (f_M_figure_b20_ok hd x1 x2  h) (by simp only [am_le, and_self])
  · rw [if_neg c1] at h
    exact am_AW.weak (f_M_figure_b20_ok hd x1 x2  h) (by simp only [am_le, and_self])
/-! FriezePolygonsModel.mustSign(I)V -/
def f_M_mustSign_b22 (s1 : Int32) (m : am_Mm) : Option am_Mm :=
  (f_M_must s1 m).bind fun q5 =>
  some q5
def f_M_mustSign (x1 : Int32) (m : am_Mm) : Option am_Mm :=
  if (m.1 63 13) = (4 : Int32) then
    if (m.1 63 14) = x1 then
      f_M_mustSign_b22 (1 : Int32) m
    else
      f_M_mustSign_b22 (0 : Int32) m
  else
    f_M_mustSign_b22 (0 : Int32) m
set_option maxHeartbeats 4000000 in
set_option maxRecDepth 100000 in
theorem f_M_mustSign_b22_ok {ro : am_Ro} {d : Nat} (hd : 4 ≤ d + 1) (s1 : Int32) {m m' : am_Mm} (h : f_M_mustSign_b22 s1 m = some m') : am_AW am_nw ro (d + 1) mr_M_mustSign 22 [none, none] [.int s1, .ref 63] (S0, m) none (S0, m') := by
  unfold f_M_mustSign_b22 at h
  obtain ⟨q5, hq5, h⟩ := Option.bind_eq_some_iff.mp h
  refine am_AW.callV ok_M_mustSign am_nw_ok (As := [.int s1]) (rest := []) rfl rfl rfl oR_M_must lk_M_157 iM_M_must sE_M_must (qc := kq10) rfl rfl rfl rfl (Nat.le_of_ble_eq_true rfl) (f_M_must_ok (d := d) (by omega) s1 hq5) ?_
  change am_AW am_nw ro (d + 1) mr_M_mustSign 25 [none, none] [] (S0, q5) none (S0, m')
  obtain rfl := Option.some.inj h
  exact am_AW.ret ok_M_mustSign rfl rfl rfl rfl
set_option maxHeartbeats 4000000 in
set_option maxRecDepth 100000 in
theorem f_M_mustSign_ok {ro : am_Ro} {d : Nat} (hd : 4 ≤ d) (x1 : Int32) {m m' : am_Mm} (h : f_M_mustSign x1 m = some m') : am_Mt am_nw ro d mr_M_mustSign [.ref 63, .int x1] (S0, m) none (S0, m') := by
  obtain ⟨d, rfl⟩ : ∃ d0, d = d0 + 1 := ⟨d - 1, by omega⟩
  refine am_Mt.of (by decide +kernel) (Nat.le_of_ble_eq_true rfl) ?_
  change am_AW am_nw ro (d + 1) mr_M_mustSign 0 [some (.ref 63), some (.int x1)] [] (S0, m) none (S0, m')
  unfold f_M_mustSign at h
  refine am_AW.run am_base_ok ok_M_mustSign (Nat.le_add_left 1 d) 4 (pc1 := 6) (ls1 := [some (.ref 63), some (.int x1)]) (st1 := [.int (4 : Int32), .int (m.1 63 13), .ref 63]) (σ1 := (S0, m)) rfl ?_
  refine am_AW.brN ok_M_mustSign rfl rfl am_c_ne (fun c1 => ?_) (fun c1 => ?_)
  · rw [if_pos c1] at h
    refine am_AW.run am_base_ok ok_M_mustSign (Nat.le_add_left 1 d) 3 (pc1 := 14) (ls1 := [some (.ref 63), some (.int x1)]) (st1 := [.int x1, .int (m.1 63 14), .ref 63]) (σ1 := (S0, m)) rfl ?_
    refine am_AW.brN ok_M_mustSign rfl rfl am_c_ne (fun c2 => ?_) (fun c2 => ?_)
    · rw [if_pos c2] at h
      refine am_AW.run am_base_ok ok_M_mustSign (Nat.le_add_left 1 d) 2 (pc1 := 22) (ls1 := [some (.ref 63), some (.int x1)]) (st1 := [.int (1 : Int32), .ref 63]) (σ1 := (S0, m)) rfl ?_
      exact am_AW.weak (f_M_mustSign_b22_ok hd (1 : Int32)  h) (by simp only [am_le, and_self])
    · rw [if_neg c2] at h
      refine am_AW.run am_base_ok ok_M_mustSign (Nat.le_add_left 1 d) 1 (pc1 := 22) (ls1 := [some (.ref 63), some (.int x1)]) (st1 := [.int (0 : Int32), .ref 63]) (σ1 := (S0, m)) rfl ?_
      exact am_AW.weak (f_M_mustSign_b22_ok hd (0 : Int32)  h) (by simp only [am_le, and_self])
  · rw [if_neg c1] at h
    refine am_AW.run am_base_ok ok_M_mustSign (Nat.le_add_left 1 d) 1 (pc1 := 22) (ls1 := [some (.ref 63), some (.int x1)]) (st1 := [.int (0 : Int32), .ref 63]) (σ1 := (S0, m)) rfl ?_
    exact am_AW.weak (f_M_mustSign_b22_ok hd (0 : Int32)  h) (by simp only [am_le, and_self])
/-! FriezePolygonsModel.cut(II)I -/
def f_M_cut_b29 (x1 : Int32) (x2 : Int32) (x3 : Int32) (x4 : Int32) (s0 : Int32) (m : am_Mm) : Option (Int32 × am_Mm) :=
  (f_M_isCorner x1 m).bind fun q6 =>
  if q6.1 = (0 : Int32) then
    some ((-1000001 : Int32), q6.2)
  else
    (f_M_isCorner x2 q6.2).bind fun q10 =>
    if q10.1 = (0 : Int32) then
      some ((-1000001 : Int32), q10.2)
    else
      (f_M_mayBe x3 x4 s0 q10.2).bind fun q14 =>
      if q14.1 = (0 : Int32) then
        some ((-1000001 : Int32), q14.2)
      else
        (f_M_numberOf x3 x4 s0 q14.2).bind fun q18 =>
        (f_M_isFree 67 q18.1 q18.2).bind fun q21 =>
        if q21.1 = (0 : Int32) then
          some ((-1000002 : Int32), q21.2)
        else
          (f_M_keeps q21.2).bind fun q25 =>
          (f_M_numberOf x3 x4 s0 q25).bind fun q29 =>
          (f_M_sizeOf ((am_pI q29.2 67 1 ((q25.1 67 1) ||| (am_shl (1 : Int32) q29.1))).1 67 1) (am_pI q29.2 67 1 ((q25.1 67 1) ||| (am_shl (1 : Int32) q29.1)))).bind fun q33 =>
          some (q33.1, q33.2)
def f_M_cut_b17 (x1 : Int32) (x2 : Int32) (x3 : Int32) (s0 : Int32) (m : am_Mm) : Option (Int32 × am_Mm) :=
  if x2 ≤ x1 then
    f_M_cut_b29 x1 x2 x3 s0 x1 m
  else
    f_M_cut_b29 x1 x2 x3 s0 x2 m
def f_M_cut (x1 : Int32) (x2 : Int32) (m : am_Mm) : Option (Int32 × am_Mm) :=
  if x2 ≤ x1 then
    f_M_cut_b17 x1 x2 (m.1 67 0) x2 m
  else
    f_M_cut_b17 x1 x2 (m.1 67 0) x1 m
set_option maxHeartbeats 4000000 in
set_option maxRecDepth 100000 in
theorem f_M_cut_b29_ok {ro : am_Ro} {d : Nat} (hd : 4 ≤ d + 1) (x1 : Int32) (x2 : Int32) (x3 : Int32) (x4 : Int32) (s0 : Int32) {m m' : am_Mm} {r : Int32} (h : f_M_cut_b29 x1 x2 x3 x4 s0 m = some (r, m')) : am_AW am_nw ro (d + 1) mr_M_cut 29 [some (.ref 63), some (.int x1), some (.int x2), some (.int x3), some (.int x4), none] [.int s0] (S0, m) (some (.int r)) (S0, m') := by
  unfold f_M_cut_b29 at h
  refine am_AW.run am_base_ok ok_M_cut (Nat.le_add_left 1 d) 3 (pc1 := 33) (ls1 := [some (.ref 63), some (.int x1), some (.int x2), some (.int x3), some (.int x4), some (.int s0)]) (st1 := [.int x1, .ref 63]) (σ1 := (S0, m)) rfl ?_
  obtain ⟨q6, hq6, h⟩ := Option.bind_eq_some_iff.mp h
  refine am_AW.callV ok_M_cut am_nw_ok (As := [.int x1]) (rest := []) rfl rfl rfl oR_M_isCorner lk_M_192 iM_M_isCorner sE_M_isCorner (qc := kq10) rfl rfl rfl rfl (Nat.le_of_ble_eq_true rfl) (f_M_isCorner_ok (d := d) (by omega) x1 hq6) ?_
  change am_AW am_nw ro (d + 1) mr_M_cut 36 [some (.ref 63), some (.int x1), some (.int x2), some (.int x3), some (.int x4), some (.int s0)] [.int q6.1] (S0, q6.2) (some (.int r)) (S0, m')
  refine am_AW.brP ok_M_cut rfl rfl am_c_eq (fun c7 => ?_) (fun c7 => ?_)
  · rw [if_pos c7] at h
    refine am_AW.run am_base_ok ok_M_cut (Nat.le_add_left 1 d) 1 (pc1 := 60) (ls1 := [some (.ref 63), some (.int x1), some (.int x2), some (.int x3), some (.int x4), some (.int s0)]) (st1 := [.int (-1000001 : Int32)]) (σ1 := (S0, q6.2)) rfl ?_
    obtain ⟨rfl, rfl⟩ := Prod.mk.inj (Option.some.inj h)
    exact am_AW.ret ok_M_cut rfl rfl rfl rfl
  · rw [if_neg c7] at h
    refine am_AW.run am_base_ok ok_M_cut (Nat.le_add_left 1 d) 2 (pc1 := 41) (ls1 := [some (.ref 63), some (.int x1), some (.int x2), some (.int x3), some (.int x4), some (.int s0)]) (st1 := [.int x2, .ref 63]) (σ1 := (S0, q6.2)) rfl ?_
    obtain ⟨q10, hq10, h⟩ := Option.bind_eq_some_iff.mp h
    refine am_AW.callV ok_M_cut am_nw_ok (As := [.int x2]) (rest := []) rfl rfl rfl oR_M_isCorner lk_M_192 iM_M_isCorner sE_M_isCorner (qc := kq10) rfl rfl rfl rfl (Nat.le_of_ble_eq_true rfl) (f_M_isCorner_ok (d := d) (by omega) x2 hq10) ?_
    change am_AW am_nw ro (d + 1) mr_M_cut 44 [some (.ref 63), some (.int x1), some (.int x2), some (.int x3), some (.int x4), some (.int s0)] [.int q10.1] (S0, q10.2) (some (.int r)) (S0, m')
    refine am_AW.brP ok_M_cut rfl rfl am_c_eq (fun c11 => ?_) (fun c11 => ?_)
    · rw [if_pos c11] at h
      refine am_AW.run am_base_ok ok_M_cut (Nat.le_add_left 1 d) 1 (pc1 := 60) (ls1 := [some (.ref 63), some (.int x1), some (.int x2), some (.int x3), some (.int x4), some (.int s0)]) (st1 := [.int (-1000001 : Int32)]) (σ1 := (S0, q10.2)) rfl ?_
      obtain ⟨rfl, rfl⟩ := Prod.mk.inj (Option.some.inj h)
      exact am_AW.ret ok_M_cut rfl rfl rfl rfl
    · rw [if_neg c11] at h
      refine am_AW.run am_base_ok ok_M_cut (Nat.le_add_left 1 d) 3 (pc1 := 52) (ls1 := [some (.ref 63), some (.int x1), some (.int x2), some (.int x3), some (.int x4), some (.int s0)]) (st1 := [.int s0, .int x4, .int x3]) (σ1 := (S0, q10.2)) rfl ?_
      obtain ⟨q14, hq14, h⟩ := Option.bind_eq_some_iff.mp h
      refine am_AW.callS ok_M_cut am_nw_ok (As := [.int x3, .int x4, .int s0]) (rest := []) rfl rfl rfl oR_M_mayBe lk_M_108 sT_M_mayBe rfl (Nat.le_of_ble_eq_true rfl) (f_M_mayBe_ok (d := d) (by omega) x3 x4 s0 hq14) ?_
      change am_AW am_nw ro (d + 1) mr_M_cut 55 [some (.ref 63), some (.int x1), some (.int x2), some (.int x3), some (.int x4), some (.int s0)] [.int q14.1] (S0, q14.2) (some (.int r)) (S0, m')
      refine am_AW.brN ok_M_cut rfl rfl am_c_ne (fun c15 => ?_) (fun c15 => ?_)
      · rw [if_pos c15] at h
        refine am_AW.run am_base_ok ok_M_cut (Nat.le_add_left 1 d) 1 (pc1 := 60) (ls1 := [some (.ref 63), some (.int x1), some (.int x2), some (.int x3), some (.int x4), some (.int s0)]) (st1 := [.int (-1000001 : Int32)]) (σ1 := (S0, q14.2)) rfl ?_
        obtain ⟨rfl, rfl⟩ := Prod.mk.inj (Option.some.inj h)
        exact am_AW.ret ok_M_cut rfl rfl rfl rfl
      · rw [if_neg c15] at h
        refine am_AW.run am_base_ok ok_M_cut (Nat.le_add_left 1 d) 5 (pc1 := 70) (ls1 := [some (.ref 63), some (.int x1), some (.int x2), some (.int x3), some (.int x4), some (.int s0)]) (st1 := [.int s0, .int x4, .int x3, .ref 67]) (σ1 := (S0, q14.2)) rfl ?_
        obtain ⟨q18, hq18, h⟩ := Option.bind_eq_some_iff.mp h
        refine am_AW.callS ok_M_cut am_nw_ok (As := [.int x3, .int x4, .int s0]) (rest := [.ref 67]) rfl rfl rfl oR_M_numberOf lk_M_96 sT_M_numberOf rfl (Nat.le_of_ble_eq_true rfl) (f_M_numberOf_ok (d := d) (by omega) x3 x4 s0 hq18) ?_
        change am_AW am_nw ro (d + 1) mr_M_cut 73 [some (.ref 63), some (.int x1), some (.int x2), some (.int x3), some (.int x4), some (.int s0)] [.int q18.1, .ref 67] (S0, q18.2) (some (.int r)) (S0, m')
        obtain ⟨q21, hq21, h⟩ := Option.bind_eq_some_iff.mp h
        refine am_AW.callS ok_M_cut am_nw_ok (As := [.ref 67, .int q18.1]) (rest := []) rfl rfl rfl oR_M_isFree lk_M_170 sT_M_isFree rfl (Nat.le_of_ble_eq_true rfl) (f_M_isFree_ok (d := d) (by omega) 67 q18.1 (by simp) hq21) ?_
        change am_AW am_nw ro (d + 1) mr_M_cut 76 [some (.ref 63), some (.int x1), some (.int x2), some (.int x3), some (.int x4), some (.int s0)] [.int q21.1] (S0, q21.2) (some (.int r)) (S0, m')
        refine am_AW.brN ok_M_cut rfl rfl am_c_ne (fun c22 => ?_) (fun c22 => ?_)
        · rw [if_pos c22] at h
          refine am_AW.run am_base_ok ok_M_cut (Nat.le_add_left 1 d) 1 (pc1 := 81) (ls1 := [some (.ref 63), some (.int x1), some (.int x2), some (.int x3), some (.int x4), some (.int s0)]) (st1 := [.int (-1000002 : Int32)]) (σ1 := (S0, q21.2)) rfl ?_
          obtain ⟨rfl, rfl⟩ := Prod.mk.inj (Option.some.inj h)
          exact am_AW.ret ok_M_cut rfl rfl rfl rfl
        · rw [if_neg c22] at h
          refine am_AW.run am_base_ok ok_M_cut (Nat.le_add_left 1 d) 1 (pc1 := 83) (ls1 := [some (.ref 63), some (.int x1), some (.int x2), some (.int x3), some (.int x4), some (.int s0)]) (st1 := [.ref 63]) (σ1 := (S0, q21.2)) rfl ?_
          obtain ⟨q25, hq25, h⟩ := Option.bind_eq_some_iff.mp h
          refine am_AW.callV ok_M_cut am_nw_ok (As := []) (rest := []) rfl rfl rfl oR_M_keeps lk_M_195 iM_M_keeps sE_M_keeps (qc := kq10) rfl rfl rfl rfl (Nat.le_of_ble_eq_true rfl) (f_M_keeps_ok (d := d) (by omega)  hq25) ?_
          change am_AW am_nw ro (d + 1) mr_M_cut 86 [some (.ref 63), some (.int x1), some (.int x2), some (.int x3), some (.int x4), some (.int s0)] [] (S0, q25) (some (.int r)) (S0, m')
          refine am_AW.run am_base_ok ok_M_cut (Nat.le_add_left 1 d) 4 (pc1 := 92) (ls1 := [some (.ref 63), some (.int x1), some (.int x2), some (.int x3), some (.int x4), some (.int s0)]) (st1 := [.int (1 : Int32), .ref 67, .int (1 : Int32), .ref 67]) (σ1 := (S0, q25)) rfl ?_
          refine am_AW.iald ok_M_cut (Nat.le_add_left 1 d) S0_len rfl rfl (by decide) ?_
          change am_AW am_nw ro (d + 1) mr_M_cut 93 [some (.ref 63), some (.int x1), some (.int x2), some (.int x3), some (.int x4), some (.int s0)] [.int (q25.1 67 1), .int (1 : Int32), .ref 67] (S0, q25) (some (.int r)) (S0, m')
          refine am_AW.run am_base_ok ok_M_cut (Nat.le_add_left 1 d) 4 (pc1 := 99) (ls1 := [some (.ref 63), some (.int x1), some (.int x2), some (.int x3), some (.int x4), some (.int s0)]) (st1 := [.int s0, .int x4, .int x3, .int (1 : Int32), .int (q25.1 67 1), .int (1 : Int32), .ref 67]) (σ1 := (S0, q25)) rfl ?_
          obtain ⟨q29, hq29, h⟩ := Option.bind_eq_some_iff.mp h
          refine am_AW.callS ok_M_cut am_nw_ok (As := [.int x3, .int x4, .int s0]) (rest := [.int (1 : Int32), .int (q25.1 67 1), .int (1 : Int32), .ref 67]) rfl rfl rfl oR_M_numberOf lk_M_96 sT_M_numberOf rfl (Nat.le_of_ble_eq_true rfl) (f_M_numberOf_ok (d := d) (by omega) x3 x4 s0 hq29) ?_
          change am_AW am_nw ro (d + 1) mr_M_cut 102 [some (.ref 63), some (.int x1), some (.int x2), some (.int x3), some (.int x4), some (.int s0)] [.int q29.1, .int (1 : Int32), .int (q25.1 67 1), .int (1 : Int32), .ref 67] (S0, q29.2) (some (.int r)) (S0, m')
          refine am_AW.run am_base_ok ok_M_cut (Nat.le_add_left 1 d) 2 (pc1 := 104) (ls1 := [some (.ref 63), some (.int x1), some (.int x2), some (.int x3), some (.int x4), some (.int s0)]) (st1 := [.int ((q25.1 67 1) ||| (am_shl (1 : Int32) q29.1)), .int (1 : Int32), .ref 67]) (σ1 := (S0, q29.2)) rfl ?_
          refine am_AW.iast ok_M_cut (Nat.le_add_left 1 d) rfl rfl (by decide) ?_
          change am_AW am_nw ro (d + 1) mr_M_cut 105 [some (.ref 63), some (.int x1), some (.int x2), some (.int x3), some (.int x4), some (.int s0)] [] (S0, (am_pI q29.2 67 1 ((q25.1 67 1) ||| (am_shl (1 : Int32) q29.1)))) (some (.int r)) (S0, m')
          refine am_AW.run am_base_ok ok_M_cut (Nat.le_add_left 1 d) 3 (pc1 := 110) (ls1 := [some (.ref 63), some (.int x1), some (.int x2), some (.int x3), some (.int x4), some (.int s0)]) (st1 := [.int (1 : Int32), .ref 67]) (σ1 := (S0, (am_pI q29.2 67 1 ((q25.1 67 1) ||| (am_shl (1 : Int32) q29.1))))) rfl ?_
          refine am_AW.iald ok_M_cut (Nat.le_add_left 1 d) S0_len rfl rfl (by decide) ?_
          change am_AW am_nw ro (d + 1) mr_M_cut 111 [some (.ref 63), some (.int x1), some (.int x2), some (.int x3), some (.int x4), some (.int s0)] [.int ((am_pI q29.2 67 1 ((q25.1 67 1) ||| (am_shl (1 : Int32) q29.1))).1 67 1)] (S0, (am_pI q29.2 67 1 ((q25.1 67 1) ||| (am_shl (1 : Int32) q29.1)))) (some (.int r)) (S0, m')
          obtain ⟨q33, hq33, h⟩ := Option.bind_eq_some_iff.mp h
          refine am_AW.callS ok_M_cut am_nw_ok (As := [.int ((am_pI q29.2 67 1 ((q25.1 67 1) ||| (am_shl (1 : Int32) q29.1))).1 67 1)]) (rest := []) rfl rfl rfl oR_M_sizeOf lk_M_198 sT_M_sizeOf rfl (Nat.le_of_ble_eq_true rfl) (f_M_sizeOf_ok (d := d) (by omega) ((am_pI q29.2 67 1 ((q25.1 67 1) ||| (am_shl (1 : Int32) q29.1))).1 67 1) hq33) ?_
          change am_AW am_nw ro (d + 1) mr_M_cut 114 [some (.ref 63), some (.int x1), some (.int x2), some (.int x3), some (.int x4), some (.int s0)] [.int q33.1] (S0, q33.2) (some (.int r)) (S0, m')
          obtain ⟨rfl, rfl⟩ := Prod.mk.inj (Option.some.inj h)
          exact am_AW.ret ok_M_cut rfl rfl rfl rfl
set_option maxHeartbeats 4000000 in
set_option maxRecDepth 100000 in
theorem f_M_cut_b17_ok {ro : am_Ro} {d : Nat} (hd : 4 ≤ d + 1) (x1 : Int32) (x2 : Int32) (x3 : Int32) (s0 : Int32) {m m' : am_Mm} {r : Int32} (h : f_M_cut_b17 x1 x2 x3 s0 m = some (r, m')) : am_AW am_nw ro (d + 1) mr_M_cut 17 [some (.ref 63), some (.int x1), some (.int x2), some (.int x3), none, none] [.int s0] (S0, m) (some (.int r)) (S0, m') := by
  unfold f_M_cut_b17 at h
  refine am_AW.run am_base_ok ok_M_cut (Nat.le_add_left 1 d) 3 (pc1 := 21) (ls1 := [some (.ref 63), some (.int x1), some (.int x2), some (.int x3), some (.int s0), none]) (st1 := [.int x2, .int x1]) (σ1 := (S0, m)) rfl ?_
  refine am_AW.brP ok_M_cut rfl rfl am_c_ge (fun c3 => ?_) (fun c3 => ?_)
  · rw [if_pos c3] at h
    refine am_AW.run am_base_ok ok_M_cut (Nat.le_add_left 1 d) 1 (pc1 := 29) (ls1 := [some (.ref 63), some (.int x1), some (.int x2), some (.int x3), some (.int s0), none]) (st1 := [.int x1]) (σ1 := (S0, m)) rfl ?_
    exact am_AW.weak (f_M_cut_b29_ok hd x1 x2 x3 s0 x1  h) (by simp only [am_le, and_self])
  · rw [if_neg c3] at h
    refine am_AW.run am_base_ok ok_M_cut (Nat.le_add_left 1 d) 2 (pc1 := 29) (ls1 := [some (.ref 63), some (.int x1), some (.int x2), some (.int x3), some (.int s0), none]) (st1 := [.int x2]) (σ1 := (S0, m)) rfl ?_
    exact am_AW.weak (f_M_cut_b29_ok hd x1 x2 x3 s0 x2  h) (by simp only [am_le, and_self])
set_option maxHeartbeats 4000000 in
set_option maxRecDepth 100000 in
theorem f_M_cut_ok {ro : am_Ro} {d : Nat} (hd : 4 ≤ d) (x1 : Int32) (x2 : Int32) {m m' : am_Mm} {r : Int32} (h : f_M_cut x1 x2 m = some (r, m')) : am_Mt am_nw ro d mr_M_cut [.ref 63, .int x1, .int x2] (S0, m) (some (.int r)) (S0, m') := by
  obtain ⟨d, rfl⟩ : ∃ d0, d = d0 + 1 := ⟨d - 1, by omega⟩
  refine am_Mt.of (by decide +kernel) (Nat.le_of_ble_eq_true rfl) ?_
  change am_AW am_nw ro (d + 1) mr_M_cut 0 [some (.ref 63), some (.int x1), some (.int x2), none, none, none] [] (S0, m) (some (.int r)) (S0, m')
  unfold f_M_cut at h
  refine am_AW.run am_base_ok ok_M_cut (Nat.le_add_left 1 d) 3 (pc1 := 5) (ls1 := [some (.ref 63), some (.int x1), some (.int x2), none, none, none]) (st1 := [.int (0 : Int32), .ref 67]) (σ1 := (S0, m)) rfl ?_
  refine am_AW.iald ok_M_cut (Nat.le_add_left 1 d) S0_len rfl rfl (by decide) ?_
  change am_AW am_nw ro (d + 1) mr_M_cut 6 [some (.ref 63), some (.int x1), some (.int x2), none, none, none] [.int (m.1 67 0)] (S0, m) (some (.int r)) (S0, m')
  refine am_AW.run am_base_ok ok_M_cut (Nat.le_add_left 1 d) 3 (pc1 := 9) (ls1 := [some (.ref 63), some (.int x1), some (.int x2), some (.int (m.1 67 0)), none, none]) (st1 := [.int x2, .int x1]) (σ1 := (S0, m)) rfl ?_
  refine am_AW.brP ok_M_cut rfl rfl am_c_ge (fun c2 => ?_) (fun c2 => ?_)
  · rw [if_pos c2] at h
    refine am_AW.run am_base_ok ok_M_cut (Nat.le_add_left 1 d) 1 (pc1 := 17) (ls1 := [some (.ref 63), some (.int x1), some (.int x2), some (.int (m.1 67 0)), none, none]) (st1 := [.int x2]) (σ1 := (S0, m)) rfl ?_
    exact am_AW.weak (f_M_cut_b17_ok hd x1 x2 (m.1 67 0) x2  h) (by simp only [am_le, and_self])
  · rw [if_neg c2] at h
    refine am_AW.run am_base_ok ok_M_cut (Nat.le_add_left 1 d) 2 (pc1 := 17) (ls1 := [some (.ref 63), some (.int x1), some (.int x2), some (.int (m.1 67 0)), none, none]) (st1 := [.int x1]) (σ1 := (S0, m)) rfl ?_
    exact am_AW.weak (f_M_cut_b17_ok hd x1 x2 (m.1 67 0) x1  h) (by simp only [am_le, and_self])
/-! FriezePolygonsModel.turn(I)I -/
def f_M_turn (x1 : Int32) (m : am_Mm) : Option (Int32 × am_Mm) :=
  (f_M_in (x1.toInt64) (1 : Int64) (((m.1 67 0) - (1 : Int32)).toInt64) m).bind fun q4 =>
  if q4.1 = (0 : Int32) then
    some ((-1000001 : Int32), q4.2)
  else
    (f_M_keeps q4.2).bind fun q8 =>
    (f_M_turned (m.1 67 0) (q8.1 67 1) x1 (0 : Int32) q8).bind fun q12 =>
    some (((am_pI q12.2 67 1 q12.1).1 67 1), (am_pI q12.2 67 1 q12.1))
set_option maxHeartbeats 4000000 in
set_option maxRecDepth 100000 in
theorem f_M_turn_ok {ro : am_Ro} {d : Nat} (hd : 4 ≤ d) (x1 : Int32) {m m' : am_Mm} {r : Int32} (h : f_M_turn x1 m = some (r, m')) : am_Mt am_nw ro d mr_M_turn [.ref 63, .int x1] (S0, m) (some (.int r)) (S0, m') := by
  obtain ⟨d, rfl⟩ : ∃ d0, d = d0 + 1 := ⟨d - 1, by omega⟩
  refine am_Mt.of (by decide +kernel) (Nat.le_of_ble_eq_true rfl) ?_
  change am_AW am_nw ro (d + 1) mr_M_turn 0 [some (.ref 63), some (.int x1), none] [] (S0, m) (some (.int r)) (S0, m')
  unfold f_M_turn at h
  refine am_AW.run am_base_ok ok_M_turn (Nat.le_add_left 1 d) 3 (pc1 := 5) (ls1 := [some (.ref 63), some (.int x1), none]) (st1 := [.int (0 : Int32), .ref 67]) (σ1 := (S0, m)) rfl ?_
  refine am_AW.iald ok_M_turn (Nat.le_add_left 1 d) S0_len rfl rfl (by decide) ?_
  change am_AW am_nw ro (d + 1) mr_M_turn 6 [some (.ref 63), some (.int x1), none] [.int (m.1 67 0)] (S0, m) (some (.int r)) (S0, m')
  refine am_AW.run am_base_ok ok_M_turn (Nat.le_add_left 1 d) 8 (pc1 := 14) (ls1 := [some (.ref 63), some (.int x1), some (.int (m.1 67 0))]) (st1 := [.long (((m.1 67 0) - (1 : Int32)).toInt64), .long (1 : Int64), .long (x1.toInt64)]) (σ1 := (S0, m)) rfl ?_
  obtain ⟨q4, hq4, h⟩ := Option.bind_eq_some_iff.mp h
  refine am_AW.callS ok_M_turn am_nw_ok (As := [.long (x1.toInt64), .long (1 : Int64), .long (((m.1 67 0) - (1 : Int32)).toInt64)]) (rest := []) rfl rfl rfl oR_M_in lk_M_60 sT_M_in rfl (Nat.le_of_ble_eq_true rfl) (f_M_in_ok (d := d) (by omega) (x1.toInt64) (1 : Int64) (((m.1 67 0) - (1 : Int32)).toInt64) hq4) ?_
  change am_AW am_nw ro (d + 1) mr_M_turn 17 [some (.ref 63), some (.int x1), some (.int (m.1 67 0))] [.int q4.1] (S0, q4.2) (some (.int r)) (S0, m')
  refine am_AW.brN ok_M_turn rfl rfl am_c_ne (fun c5 => ?_) (fun c5 => ?_)
  · rw [if_pos c5] at h
    refine am_AW.run am_base_ok ok_M_turn (Nat.le_add_left 1 d) 1 (pc1 := 22) (ls1 := [some (.ref 63), some (.int x1), some (.int (m.1 67 0))]) (st1 := [.int (-1000001 : Int32)]) (σ1 := (S0, q4.2)) rfl ?_
    obtain ⟨rfl, rfl⟩ := Prod.mk.inj (Option.some.inj h)
    exact am_AW.ret ok_M_turn rfl rfl rfl rfl
  · rw [if_neg c5] at h
    refine am_AW.run am_base_ok ok_M_turn (Nat.le_add_left 1 d) 1 (pc1 := 24) (ls1 := [some (.ref 63), some (.int x1), some (.int (m.1 67 0))]) (st1 := [.ref 63]) (σ1 := (S0, q4.2)) rfl ?_
    obtain ⟨q8, hq8, h⟩ := Option.bind_eq_some_iff.mp h
    refine am_AW.callV ok_M_turn am_nw_ok (As := []) (rest := []) rfl rfl rfl oR_M_keeps lk_M_195 iM_M_keeps sE_M_keeps (qc := kq10) rfl rfl rfl rfl (Nat.le_of_ble_eq_true rfl) (f_M_keeps_ok (d := d) (by omega)  hq8) ?_
    change am_AW am_nw ro (d + 1) mr_M_turn 27 [some (.ref 63), some (.int x1), some (.int (m.1 67 0))] [] (S0, q8) (some (.int r)) (S0, m')
    refine am_AW.run am_base_ok ok_M_turn (Nat.le_add_left 1 d) 7 (pc1 := 38) (ls1 := [some (.ref 63), some (.int x1), some (.int (m.1 67 0))]) (st1 := [.int (1 : Int32), .ref 67, .int (m.1 67 0), .int (1 : Int32), .ref 67]) (σ1 := (S0, q8)) rfl ?_
    refine am_AW.iald ok_M_turn (Nat.le_add_left 1 d) S0_len rfl rfl (by decide) ?_
    change am_AW am_nw ro (d + 1) mr_M_turn 39 [some (.ref 63), some (.int x1), some (.int (m.1 67 0))] [.int (q8.1 67 1), .int (m.1 67 0), .int (1 : Int32), .ref 67] (S0, q8) (some (.int r)) (S0, m')
    refine am_AW.run am_base_ok ok_M_turn (Nat.le_add_left 1 d) 2 (pc1 := 41) (ls1 := [some (.ref 63), some (.int x1), some (.int (m.1 67 0))]) (st1 := [.int (0 : Int32), .int x1, .int (q8.1 67 1), .int (m.1 67 0), .int (1 : Int32), .ref 67]) (σ1 := (S0, q8)) rfl ?_
    obtain ⟨q12, hq12, h⟩ := Option.bind_eq_some_iff.mp h
    refine am_AW.callS ok_M_turn am_nw_ok (As := [.int (m.1 67 0), .int (q8.1 67 1), .int x1, .int (0 : Int32)]) (rest := [.int (1 : Int32), .ref 67]) rfl rfl rfl oR_M_turned lk_M_207 sT_M_turned rfl (Nat.le_of_ble_eq_true rfl) (f_M_turned_ok (d := d) (by omega) (m.1 67 0) (q8.1 67 1) x1 (0 : Int32) hq12) ?_
    change am_AW am_nw ro (d + 1) mr_M_turn 44 [some (.ref 63), some (.int x1), some (.int (m.1 67 0))] [.int q12.1, .int (1 : Int32), .ref 67] (S0, q12.2) (some (.int r)) (S0, m')
    refine am_AW.iast ok_M_turn (Nat.le_add_left 1 d) rfl rfl (by decide) ?_
    change am_AW am_nw ro (d + 1) mr_M_turn 45 [some (.ref 63), some (.int x1), some (.int (m.1 67 0))] [] (S0, (am_pI q12.2 67 1 q12.1)) (some (.int r)) (S0, m')
    refine am_AW.run am_base_ok ok_M_turn (Nat.le_add_left 1 d) 3 (pc1 := 50) (ls1 := [some (.ref 63), some (.int x1), some (.int (m.1 67 0))]) (st1 := [.int (1 : Int32), .ref 67]) (σ1 := (S0, (am_pI q12.2 67 1 q12.1))) rfl ?_
    refine am_AW.iald ok_M_turn (Nat.le_add_left 1 d) S0_len rfl rfl (by decide) ?_
    change am_AW am_nw ro (d + 1) mr_M_turn 51 [some (.ref 63), some (.int x1), some (.int (m.1 67 0))] [.int ((am_pI q12.2 67 1 q12.1).1 67 1)] (S0, (am_pI q12.2 67 1 q12.1)) (some (.int r)) (S0, m')
    obtain ⟨rfl, rfl⟩ := Prod.mk.inj (Option.some.inj h)
    exact am_AW.ret ok_M_turn rfl rfl rfl rfl
/-! FriezePolygonsModel.mirror()I -/
def f_M_mirror (m : am_Mm) : Option (Int32 × am_Mm) :=
  (f_M_isThere m).bind fun q3 =>
  if q3.1 = (0 : Int32) then
    some ((-1000002 : Int32), q3.2)
  else
    (f_M_keeps q3.2).bind fun q7 =>
    (f_M_turned (q7.1 67 0) (q7.1 67 1) (0 : Int32) (1 : Int32) q7).bind fun q12 =>
    some (((am_pI q12.2 67 1 q12.1).1 67 1), (am_pI q12.2 67 1 q12.1))
set_option maxHeartbeats 4000000 in
set_option maxRecDepth 100000 in
theorem f_M_mirror_ok {ro : am_Ro} {d : Nat} (hd : 4 ≤ d) {m m' : am_Mm} {r : Int32} (h : f_M_mirror  m = some (r, m')) : am_Mt am_nw ro d mr_M_mirror [.ref 63] (S0, m) (some (.int r)) (S0, m') := by
  obtain ⟨d, rfl⟩ : ∃ d0, d = d0 + 1 := ⟨d - 1, by omega⟩
  refine am_Mt.of (by decide +kernel) (Nat.le_of_ble_eq_true rfl) ?_
  change am_AW am_nw ro (d + 1) mr_M_mirror 0 [some (.ref 63)] [] (S0, m) (some (.int r)) (S0, m')
  unfold f_M_mirror at h
  refine am_AW.run am_base_ok ok_M_mirror (Nat.le_add_left 1 d) 1 (pc1 := 1) (ls1 := [some (.ref 63)]) (st1 := [.ref 63]) (σ1 := (S0, m)) rfl ?_
  obtain ⟨q3, hq3, h⟩ := Option.bind_eq_some_iff.mp h
  refine am_AW.callV ok_M_mirror am_nw_ok (As := []) (rest := []) rfl rfl rfl oR_M_isThere lk_M_188 iM_M_isThere sE_M_isThere (qc := kq10) rfl rfl rfl rfl (Nat.le_of_ble_eq_true rfl) (f_M_isThere_ok (d := d) (by omega)  hq3) ?_
  change am_AW am_nw ro (d + 1) mr_M_mirror 4 [some (.ref 63)] [.int q3.1] (S0, q3.2) (some (.int r)) (S0, m')
  refine am_AW.brN ok_M_mirror rfl rfl am_c_ne (fun c4 => ?_) (fun c4 => ?_)
  · rw [if_pos c4] at h
    refine am_AW.run am_base_ok ok_M_mirror (Nat.le_add_left 1 d) 1 (pc1 := 9) (ls1 := [some (.ref 63)]) (st1 := [.int (-1000002 : Int32)]) (σ1 := (S0, q3.2)) rfl ?_
    obtain ⟨rfl, rfl⟩ := Prod.mk.inj (Option.some.inj h)
    exact am_AW.ret ok_M_mirror rfl rfl rfl rfl
  · rw [if_neg c4] at h
    refine am_AW.run am_base_ok ok_M_mirror (Nat.le_add_left 1 d) 1 (pc1 := 11) (ls1 := [some (.ref 63)]) (st1 := [.ref 63]) (σ1 := (S0, q3.2)) rfl ?_
    obtain ⟨q7, hq7, h⟩ := Option.bind_eq_some_iff.mp h
    refine am_AW.callV ok_M_mirror am_nw_ok (As := []) (rest := []) rfl rfl rfl oR_M_keeps lk_M_195 iM_M_keeps sE_M_keeps (qc := kq10) rfl rfl rfl rfl (Nat.le_of_ble_eq_true rfl) (f_M_keeps_ok (d := d) (by omega)  hq7) ?_
    change am_AW am_nw ro (d + 1) mr_M_mirror 14 [some (.ref 63)] [] (S0, q7) (some (.int r)) (S0, m')
    refine am_AW.run am_base_ok ok_M_mirror (Nat.le_add_left 1 d) 6 (pc1 := 24) (ls1 := [some (.ref 63)]) (st1 := [.int (0 : Int32), .ref 67, .int (1 : Int32), .ref 67]) (σ1 := (S0, q7)) rfl ?_
    refine am_AW.iald ok_M_mirror (Nat.le_add_left 1 d) S0_len rfl rfl (by decide) ?_
    change am_AW am_nw ro (d + 1) mr_M_mirror 25 [some (.ref 63)] [.int (q7.1 67 0), .int (1 : Int32), .ref 67] (S0, q7) (some (.int r)) (S0, m')
    refine am_AW.run am_base_ok ok_M_mirror (Nat.le_add_left 1 d) 3 (pc1 := 30) (ls1 := [some (.ref 63)]) (st1 := [.int (1 : Int32), .ref 67, .int (q7.1 67 0), .int (1 : Int32), .ref 67]) (σ1 := (S0, q7)) rfl ?_
    refine am_AW.iald ok_M_mirror (Nat.le_add_left 1 d) S0_len rfl rfl (by decide) ?_
    change am_AW am_nw ro (d + 1) mr_M_mirror 31 [some (.ref 63)] [.int (q7.1 67 1), .int (q7.1 67 0), .int (1 : Int32), .ref 67] (S0, q7) (some (.int r)) (S0, m')
    refine am_AW.run am_base_ok ok_M_mirror (Nat.le_add_left 1 d) 2 (pc1 := 33) (ls1 := [some (.ref 63)]) (st1 := [.int (1 : Int32), .int (0 : Int32), .int (q7.1 67 1), .int (q7.1 67 0), .int (1 : Int32), .ref 67]) (σ1 := (S0, q7)) rfl ?_
    obtain ⟨q12, hq12, h⟩ := Option.bind_eq_some_iff.mp h
    refine am_AW.callS ok_M_mirror am_nw_ok (As := [.int (q7.1 67 0), .int (q7.1 67 1), .int (0 : Int32), .int (1 : Int32)]) (rest := [.int (1 : Int32), .ref 67]) rfl rfl rfl oR_M_turned lk_M_207 sT_M_turned rfl (Nat.le_of_ble_eq_true rfl) (f_M_turned_ok (d := d) (by omega) (q7.1 67 0) (q7.1 67 1) (0 : Int32) (1 : Int32) hq12) ?_
    change am_AW am_nw ro (d + 1) mr_M_mirror 36 [some (.ref 63)] [.int q12.1, .int (1 : Int32), .ref 67] (S0, q12.2) (some (.int r)) (S0, m')
    refine am_AW.iast ok_M_mirror (Nat.le_add_left 1 d) rfl rfl (by decide) ?_
    change am_AW am_nw ro (d + 1) mr_M_mirror 37 [some (.ref 63)] [] (S0, (am_pI q12.2 67 1 q12.1)) (some (.int r)) (S0, m')
    refine am_AW.run am_base_ok ok_M_mirror (Nat.le_add_left 1 d) 3 (pc1 := 42) (ls1 := [some (.ref 63)]) (st1 := [.int (1 : Int32), .ref 67]) (σ1 := (S0, (am_pI q12.2 67 1 q12.1))) rfl ?_
    refine am_AW.iald ok_M_mirror (Nat.le_add_left 1 d) S0_len rfl rfl (by decide) ?_
    change am_AW am_nw ro (d + 1) mr_M_mirror 43 [some (.ref 63)] [.int ((am_pI q12.2 67 1 q12.1).1 67 1)] (S0, (am_pI q12.2 67 1 q12.1)) (some (.int r)) (S0, m')
    obtain ⟨rfl, rfl⟩ := Prod.mk.inj (Option.some.inj h)
    exact am_AW.ret ok_M_mirror rfl rfl rfl rfl
/-! FriezePolygonsModel.lay(I)I -/
def f_M_lay (x1 : Int32) (m : am_Mm) : Option (Int32 × am_Mm) :=
  (f_M_isThere m).bind fun q3 =>
  if q3.1 = (0 : Int32) then
    some ((-1000002 : Int32), q3.2)
  else
    (f_M_isRow x1 q3.2).bind fun q7 =>
    if q7.1 = (0 : Int32) then
      some ((-1000001 : Int32), q7.2)
    else
      (f_M_lacks x1 (0 : Int32) (q7.2.1 67 0) q7.2).bind fun q12 =>
      if q12.1 = (0 : Int32) then
        (f_M_readBack ((40 : Int32) * x1) q12.2).bind fun q16 =>
        if q16.1 = (-1000000 : Int32) then
          some (q16.1, q16.2)
        else
          (f_M_keeps q16.2).bind fun q20 =>
          some (q16.1, (am_pI q20 67 1 q16.1))
      else
        some (q12.1, q12.2)
set_option maxHeartbeats 4000000 in
set_option maxRecDepth 100000 in
theorem f_M_lay_ok {ro : am_Ro} {d : Nat} (hd : 4 ≤ d) (x1 : Int32) {m m' : am_Mm} {r : Int32} (h : f_M_lay x1 m = some (r, m')) : am_Mt am_nw ro d mr_M_lay [.ref 63, .int x1] (S0, m) (some (.int r)) (S0, m') := by
  obtain ⟨d, rfl⟩ : ∃ d0, d = d0 + 1 := ⟨d - 1, by omega⟩
  refine am_Mt.of (by decide +kernel) (Nat.le_of_ble_eq_true rfl) ?_
  change am_AW am_nw ro (d + 1) mr_M_lay 0 [some (.ref 63), some (.int x1), none, none] [] (S0, m) (some (.int r)) (S0, m')
  unfold f_M_lay at h
  refine am_AW.run am_base_ok ok_M_lay (Nat.le_add_left 1 d) 1 (pc1 := 1) (ls1 := [some (.ref 63), some (.int x1), none, none]) (st1 := [.ref 63]) (σ1 := (S0, m)) rfl ?_
  obtain ⟨q3, hq3, h⟩ := Option.bind_eq_some_iff.mp h
  refine am_AW.callV ok_M_lay am_nw_ok (As := []) (rest := []) rfl rfl rfl oR_M_isThere lk_M_188 iM_M_isThere sE_M_isThere (qc := kq10) rfl rfl rfl rfl (Nat.le_of_ble_eq_true rfl) (f_M_isThere_ok (d := d) (by omega)  hq3) ?_
  change am_AW am_nw ro (d + 1) mr_M_lay 4 [some (.ref 63), some (.int x1), none, none] [.int q3.1] (S0, q3.2) (some (.int r)) (S0, m')
  refine am_AW.brN ok_M_lay rfl rfl am_c_ne (fun c4 => ?_) (fun c4 => ?_)
  · rw [if_pos c4] at h
    refine am_AW.run am_base_ok ok_M_lay (Nat.le_add_left 1 d) 1 (pc1 := 9) (ls1 := [some (.ref 63), some (.int x1), none, none]) (st1 := [.int (-1000002 : Int32)]) (σ1 := (S0, q3.2)) rfl ?_
    obtain ⟨rfl, rfl⟩ := Prod.mk.inj (Option.some.inj h)
    exact am_AW.ret ok_M_lay rfl rfl rfl rfl
  · rw [if_neg c4] at h
    refine am_AW.run am_base_ok ok_M_lay (Nat.le_add_left 1 d) 1 (pc1 := 11) (ls1 := [some (.ref 63), some (.int x1), none, none]) (st1 := [.int x1]) (σ1 := (S0, q3.2)) rfl ?_
    obtain ⟨q7, hq7, h⟩ := Option.bind_eq_some_iff.mp h
    refine am_AW.callS ok_M_lay am_nw_ok (As := [.int x1]) (rest := []) rfl rfl rfl oR_M_isRow lk_M_64 sT_M_isRow rfl (Nat.le_of_ble_eq_true rfl) (f_M_isRow_ok (d := d) (by omega) x1 hq7) ?_
    change am_AW am_nw ro (d + 1) mr_M_lay 14 [some (.ref 63), some (.int x1), none, none] [.int q7.1] (S0, q7.2) (some (.int r)) (S0, m')
    refine am_AW.brN ok_M_lay rfl rfl am_c_ne (fun c8 => ?_) (fun c8 => ?_)
    · rw [if_pos c8] at h
      refine am_AW.run am_base_ok ok_M_lay (Nat.le_add_left 1 d) 1 (pc1 := 19) (ls1 := [some (.ref 63), some (.int x1), none, none]) (st1 := [.int (-1000001 : Int32)]) (σ1 := (S0, q7.2)) rfl ?_
      obtain ⟨rfl, rfl⟩ := Prod.mk.inj (Option.some.inj h)
      exact am_AW.ret ok_M_lay rfl rfl rfl rfl
    · rw [if_neg c8] at h
      refine am_AW.run am_base_ok ok_M_lay (Nat.le_add_left 1 d) 6 (pc1 := 28) (ls1 := [some (.ref 63), some (.int x1), none, none]) (st1 := [.int (0 : Int32), .ref 67, .int (0 : Int32), .int x1, .ref 63]) (σ1 := (S0, q7.2)) rfl ?_
      refine am_AW.iald ok_M_lay (Nat.le_add_left 1 d) S0_len rfl rfl (by decide) ?_
      change am_AW am_nw ro (d + 1) mr_M_lay 29 [some (.ref 63), some (.int x1), none, none] [.int (q7.2.1 67 0), .int (0 : Int32), .int x1, .ref 63] (S0, q7.2) (some (.int r)) (S0, m')
      obtain ⟨q12, hq12, h⟩ := Option.bind_eq_some_iff.mp h
      refine am_AW.callV ok_M_lay am_nw_ok (As := [.int x1, .int (0 : Int32), .int (q7.2.1 67 0)]) (rest := []) rfl rfl rfl oR_M_lacks lk_M_222 iM_M_lacks sE_M_lacks (qc := kq10) rfl rfl rfl rfl (Nat.le_of_ble_eq_true rfl) (f_M_lacks_ok (d := d) (by omega) x1 (0 : Int32) (q7.2.1 67 0) hq12) ?_
      change am_AW am_nw ro (d + 1) mr_M_lay 32 [some (.ref 63), some (.int x1), none, none] [.int q12.1] (S0, q12.2) (some (.int r)) (S0, m')
      refine am_AW.run am_base_ok ok_M_lay (Nat.le_add_left 1 d) 2 (pc1 := 34) (ls1 := [some (.ref 63), some (.int x1), some (.int q12.1), none]) (st1 := [.int q12.1]) (σ1 := (S0, q12.2)) rfl ?_
      refine am_AW.brP ok_M_lay rfl rfl am_c_eq (fun c13 => ?_) (fun c13 => ?_)
      · rw [if_pos c13] at h
        refine am_AW.run am_base_ok ok_M_lay (Nat.le_add_left 1 d) 4 (pc1 := 44) (ls1 := [some (.ref 63), some (.int x1), some (.int q12.1), none]) (st1 := [.int ((40 : Int32) * x1), .ref 63]) (σ1 := (S0, q12.2)) rfl ?_
        obtain ⟨q16, hq16, h⟩ := Option.bind_eq_some_iff.mp h
        refine am_AW.callV ok_M_lay am_nw_ok (As := [.int ((40 : Int32) * x1)]) (rest := []) rfl rfl rfl oR_M_readBack lk_M_225 iM_M_readBack sE_M_readBack (qc := kq10) rfl rfl rfl rfl (Nat.le_of_ble_eq_true rfl) (f_M_readBack_ok (d := d) (by omega) ((40 : Int32) * x1) hq16) ?_
        change am_AW am_nw ro (d + 1) mr_M_lay 47 [some (.ref 63), some (.int x1), some (.int q12.1), none] [.int q16.1] (S0, q16.2) (some (.int r)) (S0, m')
        refine am_AW.run am_base_ok ok_M_lay (Nat.le_add_left 1 d) 3 (pc1 := 51) (ls1 := [some (.ref 63), some (.int x1), some (.int q12.1), some (.int q16.1)]) (st1 := [.int (-1000000 : Int32), .int q16.1]) (σ1 := (S0, q16.2)) rfl ?_
        refine am_AW.brP ok_M_lay rfl rfl am_c_eq (fun c17 => ?_) (fun c17 => ?_)
        · rw [if_pos c17] at h
          refine am_AW.run am_base_ok ok_M_lay (Nat.le_add_left 1 d) 1 (pc1 := 66) (ls1 := [some (.ref 63), some (.int x1), some (.int q12.1), some (.int q16.1)]) (st1 := [.int q16.1]) (σ1 := (S0, q16.2)) rfl ?_
          obtain ⟨rfl, rfl⟩ := Prod.mk.inj (Option.some.inj h)
          exact am_AW.ret ok_M_lay rfl rfl rfl rfl
        · rw [if_neg c17] at h
          refine am_AW.run am_base_ok ok_M_lay (Nat.le_add_left 1 d) 1 (pc1 := 55) (ls1 := [some (.ref 63), some (.int x1), some (.int q12.1), some (.int q16.1)]) (st1 := [.ref 63]) (σ1 := (S0, q16.2)) rfl ?_
          obtain ⟨q20, hq20, h⟩ := Option.bind_eq_some_iff.mp h
          refine am_AW.callV ok_M_lay am_nw_ok (As := []) (rest := []) rfl rfl rfl oR_M_keeps lk_M_195 iM_M_keeps sE_M_keeps (qc := kq10) rfl rfl rfl rfl (Nat.le_of_ble_eq_true rfl) (f_M_keeps_ok (d := d) (by omega)  hq20) ?_
          change am_AW am_nw ro (d + 1) mr_M_lay 58 [some (.ref 63), some (.int x1), some (.int q12.1), some (.int q16.1)] [] (S0, q20) (some (.int r)) (S0, m')
          refine am_AW.run am_base_ok ok_M_lay (Nat.le_add_left 1 d) 4 (pc1 := 64) (ls1 := [some (.ref 63), some (.int x1), some (.int q12.1), some (.int q16.1)]) (st1 := [.int q16.1, .int (1 : Int32), .ref 67]) (σ1 := (S0, q20)) rfl ?_
          refine am_AW.iast ok_M_lay (Nat.le_add_left 1 d) rfl rfl (by decide) ?_
          change am_AW am_nw ro (d + 1) mr_M_lay 65 [some (.ref 63), some (.int x1), some (.int q12.1), some (.int q16.1)] [] (S0, (am_pI q20 67 1 q16.1)) (some (.int r)) (S0, m')
          refine am_AW.run am_base_ok ok_M_lay (Nat.le_add_left 1 d) 1 (pc1 := 66) (ls1 := [some (.ref 63), some (.int x1), some (.int q12.1), some (.int q16.1)]) (st1 := [.int q16.1]) (σ1 := (S0, (am_pI q20 67 1 q16.1))) rfl ?_
          obtain ⟨rfl, rfl⟩ := Prod.mk.inj (Option.some.inj h)
          exact am_AW.ret ok_M_lay rfl rfl rfl rfl
      · rw [if_neg c13] at h
        refine am_AW.run am_base_ok ok_M_lay (Nat.le_add_left 1 d) 1 (pc1 := 38) (ls1 := [some (.ref 63), some (.int x1), some (.int q12.1), none]) (st1 := [.int q12.1]) (σ1 := (S0, q12.2)) rfl ?_
        obtain ⟨rfl, rfl⟩ := Prod.mk.inj (Option.some.inj h)
        exact am_AW.ret ok_M_lay rfl rfl rfl rfl
/-! FriezePolygonsModel.back(II)I -/
def f_M_back (x1 : Int32) (x2 : Int32) (m : am_Mm) : Option (Int32 × am_Mm) :=
  (f_M_isThere m).bind fun q3 =>
  if q3.1 = (0 : Int32) then
    some ((-1000002 : Int32), q3.2)
  else
    (f_M_isRow x1 q3.2).bind fun q7 =>
    if q7.1 = (0 : Int32) then
      some ((-1000001 : Int32), q7.2)
    else
      (f_M_lacks x1 x2 (q7.2.1 67 0) q7.2).bind fun q12 =>
      if q12.1 = (0 : Int32) then
        (f_M_readBack (((40 : Int32) * x1) + x2) q12.2).bind fun q16 =>
        some (q16.1, q16.2)
      else
        some (q12.1, q12.2)
set_option maxHeartbeats 4000000 in
set_option maxRecDepth 100000 in
theorem f_M_back_ok {ro : am_Ro} {d : Nat} (hd : 4 ≤ d) (x1 : Int32) (x2 : Int32) {m m' : am_Mm} {r : Int32} (h : f_M_back x1 x2 m = some (r, m')) : am_Mt am_nw ro d mr_M_back [.ref 63, .int x1, .int x2] (S0, m) (some (.int r)) (S0, m') := by
  obtain ⟨d, rfl⟩ : ∃ d0, d = d0 + 1 := ⟨d - 1, by omega⟩
  refine am_Mt.of (by decide +kernel) (Nat.le_of_ble_eq_true rfl) ?_
  change am_AW am_nw ro (d + 1) mr_M_back 0 [some (.ref 63), some (.int x1), some (.int x2), none] [] (S0, m) (some (.int r)) (S0, m')
  unfold f_M_back at h
  refine am_AW.run am_base_ok ok_M_back (Nat.le_add_left 1 d) 1 (pc1 := 1) (ls1 := [some (.ref 63), some (.int x1), some (.int x2), none]) (st1 := [.ref 63]) (σ1 := (S0, m)) rfl ?_
  obtain ⟨q3, hq3, h⟩ := Option.bind_eq_some_iff.mp h
  refine am_AW.callV ok_M_back am_nw_ok (As := []) (rest := []) rfl rfl rfl oR_M_isThere lk_M_188 iM_M_isThere sE_M_isThere (qc := kq10) rfl rfl rfl rfl (Nat.le_of_ble_eq_true rfl) (f_M_isThere_ok (d := d) (by omega)  hq3) ?_
  change am_AW am_nw ro (d + 1) mr_M_back 4 [some (.ref 63), some (.int x1), some (.int x2), none] [.int q3.1] (S0, q3.2) (some (.int r)) (S0, m')
  refine am_AW.brN ok_M_back rfl rfl am_c_ne (fun c4 => ?_) (fun c4 => ?_)
  · rw [if_pos c4] at h
    refine am_AW.run am_base_ok ok_M_back (Nat.le_add_left 1 d) 1 (pc1 := 9) (ls1 := [some (.ref 63), some (.int x1), some (.int x2), none]) (st1 := [.int (-1000002 : Int32)]) (σ1 := (S0, q3.2)) rfl ?_
    obtain ⟨rfl, rfl⟩ := Prod.mk.inj (Option.some.inj h)
    exact am_AW.ret ok_M_back rfl rfl rfl rfl
  · rw [if_neg c4] at h
    refine am_AW.run am_base_ok ok_M_back (Nat.le_add_left 1 d) 1 (pc1 := 11) (ls1 := [some (.ref 63), some (.int x1), some (.int x2), none]) (st1 := [.int x1]) (σ1 := (S0, q3.2)) rfl ?_
    obtain ⟨q7, hq7, h⟩ := Option.bind_eq_some_iff.mp h
    refine am_AW.callS ok_M_back am_nw_ok (As := [.int x1]) (rest := []) rfl rfl rfl oR_M_isRow lk_M_64 sT_M_isRow rfl (Nat.le_of_ble_eq_true rfl) (f_M_isRow_ok (d := d) (by omega) x1 hq7) ?_
    change am_AW am_nw ro (d + 1) mr_M_back 14 [some (.ref 63), some (.int x1), some (.int x2), none] [.int q7.1] (S0, q7.2) (some (.int r)) (S0, m')
    refine am_AW.brN ok_M_back rfl rfl am_c_ne (fun c8 => ?_) (fun c8 => ?_)
    · rw [if_pos c8] at h
      refine am_AW.run am_base_ok ok_M_back (Nat.le_add_left 1 d) 1 (pc1 := 19) (ls1 := [some (.ref 63), some (.int x1), some (.int x2), none]) (st1 := [.int (-1000001 : Int32)]) (σ1 := (S0, q7.2)) rfl ?_
      obtain ⟨rfl, rfl⟩ := Prod.mk.inj (Option.some.inj h)
      exact am_AW.ret ok_M_back rfl rfl rfl rfl
    · rw [if_neg c8] at h
      refine am_AW.run am_base_ok ok_M_back (Nat.le_add_left 1 d) 6 (pc1 := 28) (ls1 := [some (.ref 63), some (.int x1), some (.int x2), none]) (st1 := [.int (0 : Int32), .ref 67, .int x2, .int x1, .ref 63]) (σ1 := (S0, q7.2)) rfl ?_
      refine am_AW.iald ok_M_back (Nat.le_add_left 1 d) S0_len rfl rfl (by decide) ?_
      change am_AW am_nw ro (d + 1) mr_M_back 29 [some (.ref 63), some (.int x1), some (.int x2), none] [.int (q7.2.1 67 0), .int x2, .int x1, .ref 63] (S0, q7.2) (some (.int r)) (S0, m')
      obtain ⟨q12, hq12, h⟩ := Option.bind_eq_some_iff.mp h
      refine am_AW.callV ok_M_back am_nw_ok (As := [.int x1, .int x2, .int (q7.2.1 67 0)]) (rest := []) rfl rfl rfl oR_M_lacks lk_M_222 iM_M_lacks sE_M_lacks (qc := kq10) rfl rfl rfl rfl (Nat.le_of_ble_eq_true rfl) (f_M_lacks_ok (d := d) (by omega) x1 x2 (q7.2.1 67 0) hq12) ?_
      change am_AW am_nw ro (d + 1) mr_M_back 32 [some (.ref 63), some (.int x1), some (.int x2), none] [.int q12.1] (S0, q12.2) (some (.int r)) (S0, m')
      refine am_AW.run am_base_ok ok_M_back (Nat.le_add_left 1 d) 2 (pc1 := 34) (ls1 := [some (.ref 63), some (.int x1), some (.int x2), some (.int q12.1)]) (st1 := [.int q12.1]) (σ1 := (S0, q12.2)) rfl ?_
      refine am_AW.brP ok_M_back rfl rfl am_c_eq (fun c13 => ?_) (fun c13 => ?_)
      · rw [if_pos c13] at h
        refine am_AW.run am_base_ok ok_M_back (Nat.le_add_left 1 d) 6 (pc1 := 48) (ls1 := [some (.ref 63), some (.int x1), some (.int x2), some (.int q12.1)]) (st1 := [.int (((40 : Int32) * x1) + x2), .ref 63]) (σ1 := (S0, q12.2)) rfl ?_
        obtain ⟨q16, hq16, h⟩ := Option.bind_eq_some_iff.mp h
        refine am_AW.callV ok_M_back am_nw_ok (As := [.int (((40 : Int32) * x1) + x2)]) (rest := []) rfl rfl rfl oR_M_readBack lk_M_225 iM_M_readBack sE_M_readBack (qc := kq10) rfl rfl rfl rfl (Nat.le_of_ble_eq_true rfl) (f_M_readBack_ok (d := d) (by omega) (((40 : Int32) * x1) + x2) hq16) ?_
        change am_AW am_nw ro (d + 1) mr_M_back 51 [some (.ref 63), some (.int x1), some (.int x2), some (.int q12.1)] [.int q16.1] (S0, q16.2) (some (.int r)) (S0, m')
        obtain ⟨rfl, rfl⟩ := Prod.mk.inj (Option.some.inj h)
        exact am_AW.ret ok_M_back rfl rfl rfl rfl
      · rw [if_neg c13] at h
        refine am_AW.run am_base_ok ok_M_back (Nat.le_add_left 1 d) 2 (pc1 := 51) (ls1 := [some (.ref 63), some (.int x1), some (.int x2), some (.int q12.1)]) (st1 := [.int q12.1]) (σ1 := (S0, q12.2)) rfl ?_
        obtain ⟨rfl, rfl⟩ := Prod.mk.inj (Option.some.inj h)
        exact am_AW.ret ok_M_back rfl rfl rfl rfl
